def f_X1_readItem (σ : Sg) (o : Nat) (a1 : Nat) (a2 : Int32) : Option (Int32 × Sg) :=
  (f_X1_letterHere σ (o)).bind fun v1 =>
  (some (sf σ (o) 3 ((σ (o) 3) + (1 : Int32)))).bind fun σ12 =>
  (f_X1_numbersBehind σ12 v1).bind fun v17 =>
  (f_X1_readNumbers σ12 (o) v17).bind fun q20 =>
  if ¬ q20.1 = 0 then
  (f_X0_at q20.2 (o + 3) (0 : Int32) (0 : Int32)).bind fun v34 =>
  (f_X0_at q20.2 (o + 3) (0 : Int32) (1 : Int32)).bind fun v45 =>
  (f_X0_at q20.2 (o + 3) (0 : Int32) (2 : Int32)).bind fun v56 =>
  if v1 = (110 : Int32) then
  if a2 = 0 then
  some ((0 : Int32), q20.2)
  else
  (f_X5_tellTowns q20.2 (a1) v34).bind fun q123 =>
  if q123.1 = 0 then
  some ((0 : Int32), q123.2)
  else
  some ((1 : Int32), q123.2)
  else if v1 = (111 : Int32) then
  some ((0 : Int32), q20.2)
  else if v1 = (112 : Int32) then
  (f_X5_tellPost q20.2 (a1) v34 v45 v56).bind fun q153 =>
  some (q153.1, q153.2)
  else if v1 = (113 : Int32) then
  some ((0 : Int32), q20.2)
  else if v1 = (114 : Int32) then
  (f_X5_tellRoad q20.2 (a1) v34 v45 v56).bind fun q142 =>
  some (q142.1, q142.2)
  else if v1 = (115 : Int32) then
  some ((0 : Int32), q20.2)
  else if v1 = (116 : Int32) then
  some ((0 : Int32), q20.2)
  else if v1 = (117 : Int32) then
  some ((0 : Int32), q20.2)
  else if v1 = (118 : Int32) then
  some ((0 : Int32), q20.2)
  else if v1 = (119 : Int32) then
  (f_X5_tellWalker q20.2 (a1) v34 v45).bind fun q162 =>
  some (q162.1, q162.2)
  else some ((0 : Int32), q20.2)
  else
  some ((0 : Int32), q20.2)
set_option maxHeartbeats 4000000 in
set_option maxRecDepth 100000 in
theorem c_X1_readItem (l : Launch) (D : va_G) (w : Wv) (σ : Sg) (o : Nat) (a1 : Nat) (a2 : Int32) (r : Int32) (σ' : Sg) (ho : isL o) (ha1 : isY a1) (hJ : Inj w) (hf : f_X1_readItem σ o a1 a2 = some (r, σ')) : Met l yX1_readItem (.code yX1_readItem cX1_readItem 7 (some .boolean) :: TB) (rmW 4 89) (pcW D w [.ref (w.1 (o)), .ref (w.1 (a1)), .int a2] σ) (qzW D w r σ') 0 0 (AL w) := by
  refine q_open (by decide +kernel) (Nat.le_of_ble_eq_true rfl) ?_
  intro p e s m args below meth c ls hx hb hml hr hlk hown hts hK hP hS hl
  have hown : s.vm.findClass RX1 = some m.cls := hown
  have hl : lv_has ls 7 [(0, .ref (w.1 (o))), (1, .ref (w.1 (a1))), (2, .int a2)] := hl
  unfold f_X1_readItem at hf
  refine lv_aload_n hx hb dX1_readItem_0 rfl (lv_at hl 0 rfl) ?_
  obtain ⟨v1, h1, hf⟩ := bnd hf
  refine q_cVi (As := []) hx hb hts hml hown hK hP hS (c_X1_letterHere l D w σ (o) v1 ho h1) hw_X1_43 hd_X1_letterHere ⟨rfl, rfl, rfl⟩ ho.o (ce1 ho.k) rfl ⟨Nat.le_of_ble_eq_true rfl, Nat.le_of_ble_eq_true rfl⟩ ⟨Nat.le_of_ble_eq_true rfl, Nat.le_of_ble_eq_true rfl⟩ hl.1 rfl (Nat.le_of_ble_eq_true rfl) dX1_readItem_1 (fun H locs hP hS => ?_)
  refine lv_istore_n (lv' := [(3, .int v1), (0, .ref (w.1 (o))), (1, .ref (w.1 (a1))), (2, .int a2)]) hx hb dX1_readItem_4 rfl hl (by decide) rfl (fun ls hl => ?_)
  refine lv_aload_n hx hb dX1_readItem_5 rfl (lv_at hl 1 rfl) ?_
  refine lv_dup hx hb dX1_readItem_6 rfl ?_
  refine gt_X1_36 hx hb hts hown hK hP ho.o ho.k dX1_readItem_7 ?_
  refine lv_iconst (v := (1 : Int32)) hx hb dX1_readItem_10 (by decide) ?_
  refine lv_iadd hx hb dX1_readItem_11 ?_
  obtain ⟨σ12, h12, hf⟩ := bnd hf
  refine pt_X1_36 hx hb hts hown hK hP hJ hS ho.o ho.k h12 dX1_readItem_12 (fun H locs hP hS => ?_)
  refine lv_aload_n hx hb dX1_readItem_15 rfl (lv_at hl 1 rfl) ?_
  refine lv_iload_n hx hb dX1_readItem_16 rfl (lv_at hl 0 rfl) ?_
  obtain ⟨v17, h17, hf⟩ := bnd hf
  refine q_cSi (As := [.int v1]) hx hb hts hml hown hK hP hS (c_X1_numbersBehind l D w σ12 v1 v17 h17) hw_X1_47 hd_X1_numbersBehind ⟨rfl, rfl, rfl⟩ ⟨Nat.le_of_ble_eq_true rfl, Nat.le_of_ble_eq_true rfl⟩ ⟨Nat.le_of_ble_eq_true rfl, Nat.le_of_ble_eq_true rfl⟩ hl.1 rfl (Nat.le_of_ble_eq_true rfl) dX1_readItem_17 (fun H locs hP hS => ?_)
  obtain ⟨⟨v20, σ20⟩, h20, hf⟩ := bnd hf
  dsimp only at hf
  refine q_cVz (As := [.int v17]) hx hb hts hml hown hK hP hS (c_X1_readNumbers l D w σ12 (o) v17 v20 σ20 ho hJ h20) hw_X1_51 hd_X1_readNumbers ⟨rfl, rfl, rfl⟩ ho.o (ce1 ho.k) rfl ⟨Nat.le_of_ble_eq_true rfl, Nat.le_of_ble_eq_true rfl⟩ ⟨Nat.le_of_ble_eq_true rfl, Nat.le_of_ble_eq_true rfl⟩ hl.1 rfl (Nat.le_of_ble_eq_true rfl) dX1_readItem_20 (fun hz20 H locs hP hS => ?_)
  refine lv_if_ne (tgt := 28) hx hb dX1_readItem_23 (by decide) (fun hc => ?_) (fun hc => ?_)
  · have hf := ifp hc hf
    refine lv_aload_n hx hb dX1_readItem_28 rfl (lv_at hl 1 rfl) ?_
    refine gt_X1_20 hx hb hts hown hK hP ho.o ho.k dX1_readItem_29 ?_
    refine lv_iconst (v := (0 : Int32)) hx hb dX1_readItem_32 (by decide) ?_
    refine lv_iconst (v := (0 : Int32)) hx hb dX1_readItem_33 (by decide) ?_
    obtain ⟨v34, h34, hf⟩ := bnd hf
    refine q_cVi (As := [.int (0 : Int32), .int (0 : Int32)]) hx hb hts hml hown hK hP hS (c_X0_at l D w σ20 (o + 3) (0 : Int32) (0 : Int32) v34 ho.f1 h34) hw_X1_55 hd_X0_at ⟨rfl, rfl, rfl⟩ ho.f1.o (ce0 ho.f1.k) rfl ⟨Nat.le_of_ble_eq_true rfl, Nat.le_of_ble_eq_true rfl⟩ ⟨Nat.le_of_ble_eq_true rfl, Nat.le_of_ble_eq_true rfl⟩ hl.1 rfl (Nat.le_of_ble_eq_true rfl) dX1_readItem_34 (fun H locs hP hS => ?_)
    refine lv_istore (lv' := [(4, .int v34), (3, .int v1), (0, .ref (w.1 (o))), (1, .ref (w.1 (a1))), (2, .int a2)]) hx hb dX1_readItem_37 hl (by decide) rfl (fun ls hl => ?_)
    refine lv_aload_n hx hb dX1_readItem_39 rfl (lv_at hl 2 rfl) ?_
    refine gt_X1_20 hx hb hts hown hK hP ho.o ho.k dX1_readItem_40 ?_
    refine lv_iconst (v := (0 : Int32)) hx hb dX1_readItem_43 (by decide) ?_
    refine lv_iconst (v := (1 : Int32)) hx hb dX1_readItem_44 (by decide) ?_
    obtain ⟨v45, h45, hf⟩ := bnd hf
    refine q_cVi (As := [.int (0 : Int32), .int (1 : Int32)]) hx hb hts hml hown hK hP hS (c_X0_at l D w σ20 (o + 3) (0 : Int32) (1 : Int32) v45 ho.f1 h45) hw_X1_55 hd_X0_at ⟨rfl, rfl, rfl⟩ ho.f1.o (ce0 ho.f1.k) rfl ⟨Nat.le_of_ble_eq_true rfl, Nat.le_of_ble_eq_true rfl⟩ ⟨Nat.le_of_ble_eq_true rfl, Nat.le_of_ble_eq_true rfl⟩ hl.1 rfl (Nat.le_of_ble_eq_true rfl) dX1_readItem_45 (fun H locs hP hS => ?_)
    refine lv_istore (lv' := [(5, .int v45), (4, .int v34), (3, .int v1), (0, .ref (w.1 (o))), (1, .ref (w.1 (a1))), (2, .int a2)]) hx hb dX1_readItem_48 hl (by decide) rfl (fun ls hl => ?_)
    refine lv_aload_n hx hb dX1_readItem_50 rfl (lv_at hl 3 rfl) ?_
    refine gt_X1_20 hx hb hts hown hK hP ho.o ho.k dX1_readItem_51 ?_
    refine lv_iconst (v := (0 : Int32)) hx hb dX1_readItem_54 (by decide) ?_
    refine lv_iconst (v := (2 : Int32)) hx hb dX1_readItem_55 (by decide) ?_
    obtain ⟨v56, h56, hf⟩ := bnd hf
    refine q_cVi (As := [.int (0 : Int32), .int (2 : Int32)]) hx hb hts hml hown hK hP hS (c_X0_at l D w σ20 (o + 3) (0 : Int32) (2 : Int32) v56 ho.f1 h56) hw_X1_55 hd_X0_at ⟨rfl, rfl, rfl⟩ ho.f1.o (ce0 ho.f1.k) rfl ⟨Nat.le_of_ble_eq_true rfl, Nat.le_of_ble_eq_true rfl⟩ ⟨Nat.le_of_ble_eq_true rfl, Nat.le_of_ble_eq_true rfl⟩ hl.1 rfl (Nat.le_of_ble_eq_true rfl) dX1_readItem_56 (fun H locs hP hS => ?_)
    refine lv_istore (lv' := [(6, .int v56), (5, .int v45), (4, .int v34), (3, .int v1), (0, .ref (w.1 (o))), (1, .ref (w.1 (a1))), (2, .int a2)]) hx hb dX1_readItem_59 hl (by decide) rfl (fun ls hl => ?_)
    refine lv_iload_n hx hb dX1_readItem_61 rfl (lv_at hl 3 rfl) ?_
    rcases Decidable.em (v1 = (110 : Int32)) with hc | hc110
    · have hf := ifp hc hf
      refine lv_tableIn (off := 54) (tgt := 116) hx hb dX1_readItem_62 (by rw [hc]; decide) (by rw [hc]; decide) (by rw [hc]; rfl) (by decide) ?_
      refine lv_iload_n hx hb dX1_readItem_116 rfl (lv_at hl 6 rfl) ?_
      refine lv_if_eq (tgt := 133) hx hb dX1_readItem_117 (by decide) (fun hc => ?_) (fun hc => ?_)
      · have hf := ifp hc hf
        refine lv_iconst (v := (0 : Int32)) hx hb dX1_readItem_133 (by decide) ?_
        have hq := Option.some.inj hf
        exact q_zret hx hb hr hlk hP hS rfl (congrArg Prod.fst hq) (congrArg Prod.snd hq) dX1_readItem_134
      · have hf := ifn hc hf
        refine lv_aload_n hx hb dX1_readItem_120 rfl (lv_at hl 5 rfl) ?_
        refine lv_iload hx hb dX1_readItem_121 (lv_at hl 2 rfl) ?_
        obtain ⟨⟨v123, σ123⟩, h123, hf⟩ := bnd hf
        dsimp only at hf
        refine q_cVz (As := [.int v34]) hx hb hts hml hown hK hP hS (c_X5_tellTowns l D w σ20 (a1) v34 v123 σ123 ha1 hJ h123) hw_X1_59 hd_X5_tellTowns ⟨rfl, rfl, rfl⟩ ha1.o (ce5 ha1.k) rfl ⟨Nat.le_of_ble_eq_true rfl, Nat.le_of_ble_eq_true rfl⟩ ⟨Nat.le_of_ble_eq_true rfl, Nat.le_of_ble_eq_true rfl⟩ hl.1 rfl (Nat.le_of_ble_eq_true rfl) dX1_readItem_123 (fun hz123 H locs hP hS => ?_)
        refine lv_if_eq (tgt := 133) hx hb dX1_readItem_126 (by decide) (fun hc => ?_) (fun hc => ?_)
        · have hf := ifp hc hf
          refine lv_iconst (v := (0 : Int32)) hx hb dX1_readItem_133 (by decide) ?_
          have hq := Option.some.inj hf
          exact q_zret hx hb hr hlk hP hS rfl (congrArg Prod.fst hq) (congrArg Prod.snd hq) dX1_readItem_134
        · have hf := ifn hc hf
          refine lv_iconst (v := (1 : Int32)) hx hb dX1_readItem_129 (by decide) ?_
          refine lv_goto (tgt := 134) hx hb dX1_readItem_130 (by decide) ?_
          have hq := Option.some.inj hf
          exact q_zret hx hb hr hlk hP hS rfl (congrArg Prod.fst hq) (congrArg Prod.snd hq) dX1_readItem_134
    have hf := ifn hc110 hf
    rcases Decidable.em (v1 = (111 : Int32)) with hc | hc111
    · have hf := ifp hc hf
      refine lv_tableIn (off := 104) (tgt := 166) hx hb dX1_readItem_62 (by rw [hc]; decide) (by rw [hc]; decide) (by rw [hc]; rfl) (by decide) ?_
      refine lv_iconst (v := (0 : Int32)) hx hb dX1_readItem_166 (by decide) ?_
      have hq := Option.some.inj hf
      exact q_zret hx hb hr hlk hP hS rfl (congrArg Prod.fst hq) (congrArg Prod.snd hq) dX1_readItem_167
    have hf := ifn hc111 hf
    rcases Decidable.em (v1 = (112 : Int32)) with hc | hc112
    · have hf := ifp hc hf
      refine lv_tableIn (off := 84) (tgt := 146) hx hb dX1_readItem_62 (by rw [hc]; decide) (by rw [hc]; decide) (by rw [hc]; rfl) (by decide) ?_
      refine lv_aload_n hx hb dX1_readItem_146 rfl (lv_at hl 5 rfl) ?_
      refine lv_iload hx hb dX1_readItem_147 (lv_at hl 2 rfl) ?_
      refine lv_iload hx hb dX1_readItem_149 (lv_at hl 1 rfl) ?_
      refine lv_iload hx hb dX1_readItem_151 (lv_at hl 0 rfl) ?_
      obtain ⟨⟨v153, σ153⟩, h153, hf⟩ := bnd hf
      dsimp only at hf
      refine q_cVz (As := [.int v34, .int v45, .int v56]) hx hb hts hml hown hK hP hS (c_X5_tellPost l D w σ20 (a1) v34 v45 v56 v153 σ153 ha1 hJ h153) hw_X1_66 hd_X5_tellPost ⟨rfl, rfl, rfl⟩ ha1.o (ce5 ha1.k) rfl ⟨Nat.le_of_ble_eq_true rfl, Nat.le_of_ble_eq_true rfl⟩ ⟨Nat.le_of_ble_eq_true rfl, Nat.le_of_ble_eq_true rfl⟩ hl.1 rfl (Nat.le_of_ble_eq_true rfl) dX1_readItem_153 (fun hz153 H locs hP hS => ?_)
      have hq := Option.some.inj hf
      exact q_zret hx hb hr hlk hP hS hz153 (congrArg Prod.fst hq) (congrArg Prod.snd hq) dX1_readItem_156
    have hf := ifn hc112 hf
    rcases Decidable.em (v1 = (113 : Int32)) with hc | hc113
    · have hf := ifp hc hf
      refine lv_tableIn (off := 104) (tgt := 166) hx hb dX1_readItem_62 (by rw [hc]; decide) (by rw [hc]; decide) (by rw [hc]; rfl) (by decide) ?_
      refine lv_iconst (v := (0 : Int32)) hx hb dX1_readItem_166 (by decide) ?_
      have hq := Option.some.inj hf
      exact q_zret hx hb hr hlk hP hS rfl (congrArg Prod.fst hq) (congrArg Prod.snd hq) dX1_readItem_167
    have hf := ifn hc113 hf
    rcases Decidable.em (v1 = (114 : Int32)) with hc | hc114
    · have hf := ifp hc hf
      refine lv_tableIn (off := 73) (tgt := 135) hx hb dX1_readItem_62 (by rw [hc]; decide) (by rw [hc]; decide) (by rw [hc]; rfl) (by decide) ?_
      refine lv_aload_n hx hb dX1_readItem_135 rfl (lv_at hl 5 rfl) ?_
      refine lv_iload hx hb dX1_readItem_136 (lv_at hl 2 rfl) ?_
      refine lv_iload hx hb dX1_readItem_138 (lv_at hl 1 rfl) ?_
      refine lv_iload hx hb dX1_readItem_140 (lv_at hl 0 rfl) ?_
      obtain ⟨⟨v142, σ142⟩, h142, hf⟩ := bnd hf
      dsimp only at hf
      refine q_cVz (As := [.int v34, .int v45, .int v56]) hx hb hts hml hown hK hP hS (c_X5_tellRoad l D w σ20 (a1) v34 v45 v56 v142 σ142 ha1 hJ h142) hw_X1_62 hd_X5_tellRoad ⟨rfl, rfl, rfl⟩ ha1.o (ce5 ha1.k) rfl ⟨Nat.le_of_ble_eq_true rfl, Nat.le_of_ble_eq_true rfl⟩ ⟨Nat.le_of_ble_eq_true rfl, Nat.le_of_ble_eq_true rfl⟩ hl.1 rfl (Nat.le_of_ble_eq_true rfl) dX1_readItem_142 (fun hz142 H locs hP hS => ?_)
      have hq := Option.some.inj hf
      exact q_zret hx hb hr hlk hP hS hz142 (congrArg Prod.fst hq) (congrArg Prod.snd hq) dX1_readItem_145
    have hf := ifn hc114 hf
    rcases Decidable.em (v1 = (115 : Int32)) with hc | hc115
    · have hf := ifp hc hf
      refine lv_tableIn (off := 104) (tgt := 166) hx hb dX1_readItem_62 (by rw [hc]; decide) (by rw [hc]; decide) (by rw [hc]; rfl) (by decide) ?_
      refine lv_iconst (v := (0 : Int32)) hx hb dX1_readItem_166 (by decide) ?_
      have hq := Option.some.inj hf
      exact q_zret hx hb hr hlk hP hS rfl (congrArg Prod.fst hq) (congrArg Prod.snd hq) dX1_readItem_167
    have hf := ifn hc115 hf
    rcases Decidable.em (v1 = (116 : Int32)) with hc | hc116
    · have hf := ifp hc hf
      refine lv_tableIn (off := 104) (tgt := 166) hx hb dX1_readItem_62 (by rw [hc]; decide) (by rw [hc]; decide) (by rw [hc]; rfl) (by decide) ?_
      refine lv_iconst (v := (0 : Int32)) hx hb dX1_readItem_166 (by decide) ?_
      have hq := Option.some.inj hf
      exact q_zret hx hb hr hlk hP hS rfl (congrArg Prod.fst hq) (congrArg Prod.snd hq) dX1_readItem_167
    have hf := ifn hc116 hf
    rcases Decidable.em (v1 = (117 : Int32)) with hc | hc117
    · have hf := ifp hc hf
      refine lv_tableIn (off := 104) (tgt := 166) hx hb dX1_readItem_62 (by rw [hc]; decide) (by rw [hc]; decide) (by rw [hc]; rfl) (by decide) ?_
      refine lv_iconst (v := (0 : Int32)) hx hb dX1_readItem_166 (by decide) ?_
      have hq := Option.some.inj hf
      exact q_zret hx hb hr hlk hP hS rfl (congrArg Prod.fst hq) (congrArg Prod.snd hq) dX1_readItem_167
    have hf := ifn hc117 hf
    rcases Decidable.em (v1 = (118 : Int32)) with hc | hc118
    · have hf := ifp hc hf
      refine lv_tableIn (off := 104) (tgt := 166) hx hb dX1_readItem_62 (by rw [hc]; decide) (by rw [hc]; decide) (by rw [hc]; rfl) (by decide) ?_
      refine lv_iconst (v := (0 : Int32)) hx hb dX1_readItem_166 (by decide) ?_
      have hq := Option.some.inj hf
      exact q_zret hx hb hr hlk hP hS rfl (congrArg Prod.fst hq) (congrArg Prod.snd hq) dX1_readItem_167
    have hf := ifn hc118 hf
    rcases Decidable.em (v1 = (119 : Int32)) with hc | hc119
    · have hf := ifp hc hf
      refine lv_tableIn (off := 95) (tgt := 157) hx hb dX1_readItem_62 (by rw [hc]; decide) (by rw [hc]; decide) (by rw [hc]; rfl) (by decide) ?_
      refine lv_aload_n hx hb dX1_readItem_157 rfl (lv_at hl 5 rfl) ?_
      refine lv_iload hx hb dX1_readItem_158 (lv_at hl 2 rfl) ?_
      refine lv_iload hx hb dX1_readItem_160 (lv_at hl 1 rfl) ?_
      obtain ⟨⟨v162, σ162⟩, h162, hf⟩ := bnd hf
      dsimp only at hf
      refine q_cVz (As := [.int v34, .int v45]) hx hb hts hml hown hK hP hS (c_X5_tellWalker l D w σ20 (a1) v34 v45 v162 σ162 ha1 hJ h162) hw_X1_69 hd_X5_tellWalker ⟨rfl, rfl, rfl⟩ ha1.o (ce5 ha1.k) rfl ⟨Nat.le_of_ble_eq_true rfl, Nat.le_of_ble_eq_true rfl⟩ ⟨Nat.le_of_ble_eq_true rfl, Nat.le_of_ble_eq_true rfl⟩ hl.1 rfl (Nat.le_of_ble_eq_true rfl) dX1_readItem_162 (fun hz162 H locs hP hS => ?_)
      have hq := Option.some.inj hf
      exact q_zret hx hb hr hlk hP hS hz162 (congrArg Prod.fst hq) (congrArg Prod.snd hq) dX1_readItem_165
    have hf := ifn hc119 hf
    refine lv_tableOut (tgt := 166) hx hb dX1_readItem_62 (tb_out_110_119 hc110 hc111 hc112 hc113 hc114 hc115 hc116 hc117 hc118 hc119) (by decide) ?_
    refine lv_iconst (v := (0 : Int32)) hx hb dX1_readItem_166 (by decide) ?_
    have hq := Option.some.inj hf
    exact q_zret hx hb hr hlk hP hS rfl (congrArg Prod.fst hq) (congrArg Prod.snd hq) dX1_readItem_167
  · have hf := ifn (fun h => h hc) hf
    refine lv_iconst (v := (0 : Int32)) hx hb dX1_readItem_26 (by decide) ?_
    have hq := Option.some.inj hf
    exact q_zret hx hb hr hlk hP hS rfl (congrArg Prod.fst hq) (congrArg Prod.snd hq) dX1_readItem_27
def f_X1_readInto_b1 (o : Nat) (a1 : Nat) (x2_11 : Int32) (σ_11 : Sg) : Option ((Int32 × Sg) ⊕ ((Int32 × Sg) ⊕ Sg)) :=
  if (200 : Int32) ≤ x2_11 then
  some (.inr (.inr σ_11))
  else
  if (σ_11 (o) 2) ≤ (σ_11 (o) 3) then
  some (.inr (.inr σ_11))
  else
  if ¬ x2_11 = 0 then
  (f_X1_readItem σ_11 (o) (a1) (0 : Int32)).bind fun q45 =>
  if ¬ q45.1 = 0 then
  some (.inl ((x2_11 + (1 : Int32)), q45.2))
  else
  some (.inr (.inl ((σ_11 (o) 3), q45.2)))
  else
  (f_X1_readItem σ_11 (o) (a1) (1 : Int32)).bind fun q45 =>
  if ¬ q45.1 = 0 then
  some (.inl ((x2_11 + (1 : Int32)), q45.2))
  else
  some (.inr (.inl ((σ_11 (o) 3), q45.2)))
def f_X1_readInto_k1 (y3_51 : Int32) (σ_51 : Sg) : Option (Int32 × Sg) :=
  some (y3_51, σ_51)
def f_X1_readInto_k2 (σ_59 : Sg) : Option (Int32 × Sg) :=
  some ((-4 : Int32), σ_59)
def f_X1_readInto (σ : Sg) (o : Nat) (a1 : Nat) : Option (Int32 × Sg) :=
  (f_X5_clear σ (a1)).bind fun σ1 =>
  (some (sf σ1 (o) 3 (0 : Int32))).bind fun σ6 =>
  (lp (fun st => f_X1_readInto_b1 o a1 st.1 st.2) FU ((0 : Int32), σ6)).bind fun rr => Sum.elim (fun q => f_X1_readInto_k1 q.1 q.2) (fun q => f_X1_readInto_k2 q) rr
set_option maxHeartbeats 4000000 in
set_option maxRecDepth 100000 in
theorem c_X1_readInto (l : Launch) (D : va_G) (w : Wv) (σ : Sg) (o : Nat) (a1 : Nat) (r : Int32) (σ' : Sg) (ho : isL o) (ha1 : isY a1) (hJ : Inj w) (hf : f_X1_readInto σ o a1 = some (r, σ')) : Met l yX1_readInto (.code yX1_readInto cX1_readInto 4 (some .int) :: TB) (rmW 5 115) (pcW D w [.ref (w.1 (o)), .ref (w.1 (a1))] σ) (qiW D w r σ') 0 0 (AL w) := by
  refine q_open (by decide +kernel) (Nat.le_of_ble_eq_true rfl) ?_
  intro p e s m args below meth c ls hx hb hml hr hlk hown hts hK hP hS hl
  have hown : s.vm.findClass RX1 = some m.cls := hown
  have hl : lv_has ls 4 [(0, .ref (w.1 (o))), (1, .ref (w.1 (a1)))] := hl
  unfold f_X1_readInto at hf
  refine lv_aload_n hx hb dX1_readInto_0 rfl (lv_at hl 1 rfl) ?_
  obtain ⟨σ1, h1, hf⟩ := bnd hf
  refine q_cVv (As := []) hx hb hts hml hown hK hP hS (c_X5_clear l D w σ (a1) σ1 ha1 hJ h1) hw_X1_31 hd_X5_clear ⟨rfl, rfl, rfl⟩ ha1.o (ce5 ha1.k) rfl ⟨Nat.le_of_ble_eq_true rfl, Nat.le_of_ble_eq_true rfl⟩ ⟨Nat.le_of_ble_eq_true rfl, Nat.le_of_ble_eq_true rfl⟩ hl.1 rfl (Nat.le_of_ble_eq_true rfl) dX1_readInto_1 (fun H locs hP hS => ?_)
  refine lv_aload_n hx hb dX1_readInto_4 rfl (lv_at hl 0 rfl) ?_
  refine lv_iconst (v := (0 : Int32)) hx hb dX1_readInto_5 (by decide) ?_
  obtain ⟨σ6, h6, hf⟩ := bnd hf
  refine pt_X1_36 hx hb hts hown hK hP hJ hS ho.o ho.k h6 dX1_readInto_6 (fun H locs hP hS => ?_)
  refine lv_iconst (v := (0 : Int32)) hx hb dX1_readInto_9 (by decide) ?_
  refine lv_istore_n (lv' := [(2, .int (0 : Int32)), (0, .ref (w.1 (o))), (1, .ref (w.1 (a1)))]) hx hb dX1_readInto_10 rfl hl (by decide) rfl (fun ls hl => ?_)
  obtain ⟨rr, hlp, hf⟩ := bnd hf
  have hE11_51 : ∀ (y3_51 : Int32) (σ_51 : Sg) (H : Heap) (locs : List Loc) (ls : Array Slot), f_X1_readInto_k1 y3_51 σ_51 = some (r, σ') → va_P D vwCl (WL w σ_51) H → va_S (AL w) s.heap H locs → lv_has ls 4 [(3, .int y3_51)] → W p l e (rmW 5 115) s m args below meth c H locs 0 0 (MQ below (qiW D w r σ') args s 0 0 (AL w)) (F0 m 51 ls []) := by
    intro y3_51 σ_51 H locs ls hf hP hS hl
    unfold f_X1_readInto_k1 at hf
    refine lv_iload_n hx hb dX1_readInto_51 rfl (lv_at hl 0 rfl) ?_
    have hq := Option.some.inj hf
    exact q_iret hx hb hr hlk hP hS (congrArg Prod.fst hq) (congrArg Prod.snd hq) dX1_readInto_52
  have hE11_59 : ∀ (σ_59 : Sg) (H : Heap) (locs : List Loc) (ls : Array Slot), f_X1_readInto_k2 σ_59 = some (r, σ') → va_P D vwCl (WL w σ_59) H → va_S (AL w) s.heap H locs → lv_has ls 4 [] → W p l e (rmW 5 115) s m args below meth c H locs 0 0 (MQ below (qiW D w r σ') args s 0 0 (AL w)) (F0 m 59 ls []) := by
    intro σ_59 H locs ls hf hP hS hl
    unfold f_X1_readInto_k2 at hf
    refine lv_bipush (v := (-4 : Int32)) hx hb dX1_readInto_59 (by decide) ?_
    have hq := Option.some.inj hf
    exact q_iret hx hb hr hlk hP hS (congrArg Prod.fst hq) (congrArg Prod.snd hq) dX1_readInto_61
  refine lp_ind (G := fun (st : (Int32 × Sg)) => ∀ (H : Heap) (locs : List Loc) (ls : Array Slot), va_P D vwCl (WL w st.2) H → va_S (AL w) s.heap H locs → lv_has ls 4 [(0, .ref (w.1 (o))), (1, .ref (w.1 (a1))), (2, .int st.1)] → W p l e (rmW 5 115) s m args below meth c H locs 0 0 (MQ below (qiW D w r σ') args s 0 0 (AL w)) (F0 m 11 ls [])) (X := fun rr => Sum.elim (fun q => f_X1_readInto_k1 q.1 q.2) (fun q => f_X1_readInto_k2 q) rr = some (r, σ')) ?_ _ _ rr hlp hf _ _ _ hP hS (lv_sub hl [1, 2, 0] rfl)
  rintro ⟨x2_11, σ_11⟩ oo11 hb9 hG11 hX11 H locs ls hP hS hl
  have hP : va_P D vwCl (WL w σ_11) H := hP
  have hl : lv_has ls 4 [(0, .ref (w.1 (o))), (1, .ref (w.1 (a1))), (2, .int x2_11)] := hl
  have hf : f_X1_readInto_b1 o a1 x2_11 σ_11 = some oo11 := hb9
  unfold f_X1_readInto_b1 at hf
  refine lv_iload_n hx hb dX1_readInto_11 rfl (lv_at hl 2 rfl) ?_
  refine lv_sipush (v := (200 : Int32)) hx hb dX1_readInto_12 (by decide) ?_
  refine lv_icmp_ge (tgt := 59) hx hb dX1_readInto_15 (by decide) (fun hc => ?_) (fun hc => ?_)
  · have hf := ifp hc hf
    obtain rfl := Option.some.inj hf
    exact hE11_59 σ_11 _ _ _ (hX11 _ rfl) hP hS (lv_sub hl [] rfl)
  · have hf := ifn hc hf
    refine lv_aload_n hx hb dX1_readInto_18 rfl (lv_at hl 0 rfl) ?_
    refine gt_X1_36 hx hb hts hown hK hP ho.o ho.k dX1_readInto_19 ?_
    refine lv_aload_n hx hb dX1_readInto_22 rfl (lv_at hl 0 rfl) ?_
    refine gt_X1_23 hx hb hts hown hK hP ho.o ho.k dX1_readInto_23 ?_
    refine lv_icmp_ge (tgt := 59) hx hb dX1_readInto_26 (by decide) (fun hc => ?_) (fun hc => ?_)
    · have hf := ifp hc hf
      obtain rfl := Option.some.inj hf
      exact hE11_59 σ_11 _ _ _ (hX11 _ rfl) hP hS (lv_sub hl [] rfl)
    · have hf := ifn hc hf
      refine lv_aload_n hx hb dX1_readInto_29 rfl (lv_at hl 0 rfl) ?_
      refine gt_X1_36 hx hb hts hown hK hP ho.o ho.k dX1_readInto_30 ?_
      refine lv_istore_n (lv' := [(3, .int (σ_11 (o) 3)), (0, .ref (w.1 (o))), (1, .ref (w.1 (a1))), (2, .int x2_11)]) hx hb dX1_readInto_33 rfl hl (by decide) rfl (fun ls hl => ?_)
      refine lv_aload_n hx hb dX1_readInto_34 rfl (lv_at hl 1 rfl) ?_
      refine lv_aload_n hx hb dX1_readInto_35 rfl (lv_at hl 2 rfl) ?_
      refine lv_iload_n hx hb dX1_readInto_36 rfl (lv_at hl 3 rfl) ?_
      refine lv_if_ne (tgt := 44) hx hb dX1_readInto_37 (by decide) (fun hc => ?_) (fun hc => ?_)
      · have hf := ifp hc hf
        refine lv_iconst (v := (0 : Int32)) hx hb dX1_readInto_44 (by decide) ?_
        obtain ⟨⟨v45, σ45⟩, h45, hf⟩ := bnd hf
        dsimp only at hf
        refine q_cVz (As := [.ref (w.1 (a1)), .int (0 : Int32)]) hx hb hts hml hown hK hP hS (c_X1_readItem l D w σ_11 (o) (a1) (0 : Int32) v45 σ45 ho ha1 hJ h45) hw_X1_39 hd_X1_readItem ⟨rfl, rfl, rfl⟩ ho.o (ce1 ho.k) rfl ⟨Nat.le_of_ble_eq_true rfl, Nat.le_of_ble_eq_true rfl⟩ ⟨Nat.le_of_ble_eq_true rfl, Nat.le_of_ble_eq_true rfl⟩ hl.1 rfl (Nat.le_of_ble_eq_true rfl) dX1_readInto_45 (fun hz45 H locs hP hS => ?_)
        refine lv_if_ne (tgt := 53) hx hb dX1_readInto_48 (by decide) (fun hc => ?_) (fun hc => ?_)
        · have hf := ifp hc hf
          refine lv_iinc (v := (x2_11 + (1 : Int32))) (lv' := [(2, .int (x2_11 + (1 : Int32))), (3, .int (σ_11 (o) 3)), (0, .ref (w.1 (o))), (1, .ref (w.1 (a1)))]) hx hb dX1_readInto_53 hl (k := 3) rfl ii_1 (by decide) rfl (fun ls hl => ?_)
          refine lv_goto (tgt := 11) hx hb dX1_readInto_56 (by decide) ?_
          obtain rfl := Option.some.inj hf
          exact hG11 _ rfl _ _ _ hP hS (lv_sub hl [2, 3, 0] rfl)
        · have hf := ifn (fun h => h hc) hf
          obtain rfl := Option.some.inj hf
          exact hE11_51 (σ_11 (o) 3) σ45 _ _ _ (hX11 _ rfl) hP hS (lv_sub hl [0] rfl)
      · have hf := ifn (fun h => h hc) hf
        refine lv_iconst (v := (1 : Int32)) hx hb dX1_readInto_40 (by decide) ?_
        refine lv_goto (tgt := 45) hx hb dX1_readInto_41 (by decide) ?_
        obtain ⟨⟨v45, σ45⟩, h45, hf⟩ := bnd hf
        dsimp only at hf
        refine q_cVz (As := [.ref (w.1 (a1)), .int (1 : Int32)]) hx hb hts hml hown hK hP hS (c_X1_readItem l D w σ_11 (o) (a1) (1 : Int32) v45 σ45 ho ha1 hJ h45) hw_X1_39 hd_X1_readItem ⟨rfl, rfl, rfl⟩ ho.o (ce1 ho.k) rfl ⟨Nat.le_of_ble_eq_true rfl, Nat.le_of_ble_eq_true rfl⟩ ⟨Nat.le_of_ble_eq_true rfl, Nat.le_of_ble_eq_true rfl⟩ hl.1 rfl (Nat.le_of_ble_eq_true rfl) dX1_readInto_45 (fun hz45 H locs hP hS => ?_)
        refine lv_if_ne (tgt := 53) hx hb dX1_readInto_48 (by decide) (fun hc => ?_) (fun hc => ?_)
        · have hf := ifp hc hf
          refine lv_iinc (v := (x2_11 + (1 : Int32))) (lv' := [(2, .int (x2_11 + (1 : Int32))), (3, .int (σ_11 (o) 3)), (0, .ref (w.1 (o))), (1, .ref (w.1 (a1)))]) hx hb dX1_readInto_53 hl (k := 3) rfl ii_1 (by decide) rfl (fun ls hl => ?_)
          refine lv_goto (tgt := 11) hx hb dX1_readInto_56 (by decide) ?_
          obtain rfl := Option.some.inj hf
          exact hG11 _ rfl _ _ _ hP hS (lv_sub hl [2, 3, 0] rfl)
        · have hf := ifn (fun h => h hc) hf
          obtain rfl := Option.some.inj hf
          exact hE11_51 (σ_11 (o) 3) σ45 _ _ _ (hX11 _ rfl) hP hS (lv_sub hl [0] rfl)
