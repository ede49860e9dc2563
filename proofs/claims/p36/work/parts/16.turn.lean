def f_L_low (σ : Sg) (a1 : Int32) (a2 : Int32) : Option Int32 :=
  (re (a1 &&& (2147483647 : Int32)) a2).bind fun v5 =>
  some v5
set_option maxHeartbeats 4000000 in
set_option maxRecDepth 100000 in
theorem c_L_low (l : Launch) (D : va_G) (w : Wv) (σ : Sg) (a1 : Int32) (a2 : Int32) (r : Int32)  (hf : f_L_low σ a1 a2 = some r) : Met l yL_low (.code yL_low cL_low 2 (some .int) :: TB) (rmW 0 0) (pcW D w [.int a1, .int a2] σ) (qiW D w r σ) 0 0 (AL w) := by
  refine q_open (by decide +kernel) (Nat.le_of_ble_eq_true rfl) ?_
  intro p e s m args below meth c ls hx hb hml hr hlk hown hts hK hP hS hl
  have hown : s.vm.findClass RL = some m.cls := hown
  have hl : lv_has ls 2 [(0, .int a1), (1, .int a2)] := hl
  unfold f_L_low at hf
  refine lv_iload_n hx hb dL_low_0 rfl (lv_at hl 0 rfl) ?_
  refine lv_ldc (v := (2147483647 : Int32)) hx hb hown (hts _ tw_546) dL_low_1 ?_
  refine lv_iand hx hb dL_low_3 ?_
  refine lv_iload_n hx hb dL_low_4 rfl (lv_at hl 1 rfl) ?_
  obtain ⟨v5, h5, hf⟩ := bnd hf
  refine q_irem hx hb h5 dL_low_5 ?_
  have hq := Option.some.inj hf
  exact q_iret hx hb hr hlk hP hS hq rfl dL_low_6
def f_L_refused (σ : Sg) (a2 : Int32) : Option (Int32 × Sg) :=
  if 0 ≤ a2 then
  (f_X6_write σ (a2 + (1000 : Int32))).bind fun q20 =>
  if ¬ q20.1 = (-1 : Int32) then
  some ((0 : Int32), q20.2)
  else
  (f_X6_road q20.2 (a2 + (1000 : Int32)) (0 : Int32)).bind fun v30 =>
  if ¬ v30 = (-1 : Int32) then
  some ((0 : Int32), q20.2)
  else
  (f_X6_post q20.2 (a2 + (1000 : Int32)) (0 : Int32)).bind fun v40 =>
  if ¬ v40 = (-1 : Int32) then
  some ((0 : Int32), q20.2)
  else
  (f_X6_arm q20.2 (0 : Int32) (a2 + (1000 : Int32)) (0 : Int32)).bind fun v51 =>
  if ¬ v51 = (-1 : Int32) then
  some ((0 : Int32), q20.2)
  else
  (f_X6_walker q20.2 (a2 + (1000 : Int32)) (0 : Int32)).bind fun v61 =>
  if ¬ v61 = (-1 : Int32) then
  some ((0 : Int32), q20.2)
  else
  (f_X6_pass q20.2 (a2 + (1000 : Int32))).bind fun q70 =>
  if ¬ q70.1 = (-1 : Int32) then
  some ((0 : Int32), q70.2)
  else
  (f_X6_lays q70.2 (0 : Int32) (1 : Int32) (a2 + (1000 : Int32))).bind fun q81 =>
  if ¬ q81.1 = (-1 : Int32) then
  some ((0 : Int32), q81.2)
  else
  (f_X6_paint q81.2 (a2 + (1000 : Int32))).bind fun q90 =>
  if ¬ q90.1 = (-1 : Int32) then
  some ((0 : Int32), q90.2)
  else
  (f_X6_move q90.2 (0 : Int32) (a2 + (1000 : Int32))).bind fun q100 =>
  if ¬ q100.1 = (-1 : Int32) then
  some ((0 : Int32), q100.2)
  else
  (f_X6_retire q100.2 (a2 + (1000 : Int32))).bind fun q109 =>
  if ¬ q109.1 = (-1 : Int32) then
  some ((0 : Int32), q109.2)
  else
  (f_X6_comes q109.2 (a2 + (1000 : Int32))).bind fun q118 =>
  if ¬ q118.1 = (-1 : Int32) then
  some ((0 : Int32), q118.2)
  else
  (f_X6_trail q118.2 (0 : Int32) (a2 + (1000 : Int32))).bind fun q128 =>
  if ¬ q128.1 = (-1 : Int32) then
  some ((0 : Int32), q128.2)
  else
  (f_X6_helps q128.2 (a2 + (1000 : Int32))).bind fun q137 =>
  if ¬ q137.1 = (-1 : Int32) then
  some ((0 : Int32), q137.2)
  else
  (f_X6_paints q137.2 (a2 + (1000 : Int32))).bind fun q146 =>
  if ¬ q146.1 = (-1 : Int32) then
  some ((0 : Int32), q146.2)
  else
  (f_X6_cover q146.2 (a2 + (1000 : Int32))).bind fun q155 =>
  if ¬ q155.1 = (-1 : Int32) then
  some ((0 : Int32), q155.2)
  else
  (f_X6_far q155.2 (a2 + (1000 : Int32)) (0 : Int32)).bind fun v165 =>
  if ¬ v165 = (-1 : Int32) then
  some ((0 : Int32), q155.2)
  else
  (f_X6_told q155.2 (0 : Int32) (0 : Int32) (a2 + (1000 : Int32))).bind fun q176 =>
  if ¬ q176.1 = (-1 : Int32) then
  some ((0 : Int32), q176.2)
  else
  (f_X6_seen q176.2 (a2 + (1000 : Int32)) (0 : Int32) (0 : Int32)).bind fun q187 =>
  if ¬ q187.1 = (-1 : Int32) then
  some ((0 : Int32), q187.2)
  else
  (f_X6_kinds q187.2 (a2 + (1000 : Int32))).bind fun q196 =>
  if ¬ q196.1 = (-1 : Int32) then
  some ((0 : Int32), q196.2)
  else
  (f_X6_likely q196.2 (0 : Int32) (a2 + (1000 : Int32)) (0 : Int32)).bind fun q207 =>
  if ¬ q207.1 = (-1 : Int32) then
  some ((0 : Int32), q207.2)
  else
  (f_X6_century q207.2 (0 : Int32) (a2 + (1000 : Int32)) (0 : Int32)).bind fun q218 =>
  if ¬ q218.1 = (-1 : Int32) then
  some ((0 : Int32), q218.2)
  else
  (f_X6_count q218.2 (a2 + (1000 : Int32))).bind fun v227 =>
  if ¬ v227 = (-1 : Int32) then
  some ((0 : Int32), q218.2)
  else
  some ((1 : Int32), q218.2)
  else
  (f_X6_write σ (a2 - (999 : Int32))).bind fun q20 =>
  if ¬ q20.1 = (-1 : Int32) then
  some ((0 : Int32), q20.2)
  else
  (f_X6_road q20.2 (a2 - (999 : Int32)) (0 : Int32)).bind fun v30 =>
  if ¬ v30 = (-1 : Int32) then
  some ((0 : Int32), q20.2)
  else
  (f_X6_post q20.2 (a2 - (999 : Int32)) (0 : Int32)).bind fun v40 =>
  if ¬ v40 = (-1 : Int32) then
  some ((0 : Int32), q20.2)
  else
  (f_X6_arm q20.2 (0 : Int32) (a2 - (999 : Int32)) (0 : Int32)).bind fun v51 =>
  if ¬ v51 = (-1 : Int32) then
  some ((0 : Int32), q20.2)
  else
  (f_X6_walker q20.2 (a2 - (999 : Int32)) (0 : Int32)).bind fun v61 =>
  if ¬ v61 = (-1 : Int32) then
  some ((0 : Int32), q20.2)
  else
  (f_X6_pass q20.2 (a2 - (999 : Int32))).bind fun q70 =>
  if ¬ q70.1 = (-1 : Int32) then
  some ((0 : Int32), q70.2)
  else
  (f_X6_lays q70.2 (0 : Int32) (1 : Int32) (a2 - (999 : Int32))).bind fun q81 =>
  if ¬ q81.1 = (-1 : Int32) then
  some ((0 : Int32), q81.2)
  else
  (f_X6_paint q81.2 (a2 - (999 : Int32))).bind fun q90 =>
  if ¬ q90.1 = (-1 : Int32) then
  some ((0 : Int32), q90.2)
  else
  (f_X6_move q90.2 (0 : Int32) (a2 - (999 : Int32))).bind fun q100 =>
  if ¬ q100.1 = (-1 : Int32) then
  some ((0 : Int32), q100.2)
  else
  (f_X6_retire q100.2 (a2 - (999 : Int32))).bind fun q109 =>
  if ¬ q109.1 = (-1 : Int32) then
  some ((0 : Int32), q109.2)
  else
  (f_X6_comes q109.2 (a2 - (999 : Int32))).bind fun q118 =>
  if ¬ q118.1 = (-1 : Int32) then
  some ((0 : Int32), q118.2)
  else
  (f_X6_trail q118.2 (0 : Int32) (a2 - (999 : Int32))).bind fun q128 =>
  if ¬ q128.1 = (-1 : Int32) then
  some ((0 : Int32), q128.2)
  else
  (f_X6_helps q128.2 (a2 - (999 : Int32))).bind fun q137 =>
  if ¬ q137.1 = (-1 : Int32) then
  some ((0 : Int32), q137.2)
  else
  (f_X6_paints q137.2 (a2 - (999 : Int32))).bind fun q146 =>
  if ¬ q146.1 = (-1 : Int32) then
  some ((0 : Int32), q146.2)
  else
  (f_X6_cover q146.2 (a2 - (999 : Int32))).bind fun q155 =>
  if ¬ q155.1 = (-1 : Int32) then
  some ((0 : Int32), q155.2)
  else
  (f_X6_far q155.2 (a2 - (999 : Int32)) (0 : Int32)).bind fun v165 =>
  if ¬ v165 = (-1 : Int32) then
  some ((0 : Int32), q155.2)
  else
  (f_X6_told q155.2 (0 : Int32) (0 : Int32) (a2 - (999 : Int32))).bind fun q176 =>
  if ¬ q176.1 = (-1 : Int32) then
  some ((0 : Int32), q176.2)
  else
  (f_X6_seen q176.2 (a2 - (999 : Int32)) (0 : Int32) (0 : Int32)).bind fun q187 =>
  if ¬ q187.1 = (-1 : Int32) then
  some ((0 : Int32), q187.2)
  else
  (f_X6_kinds q187.2 (a2 - (999 : Int32))).bind fun q196 =>
  if ¬ q196.1 = (-1 : Int32) then
  some ((0 : Int32), q196.2)
  else
  (f_X6_likely q196.2 (0 : Int32) (a2 - (999 : Int32)) (0 : Int32)).bind fun q207 =>
  if ¬ q207.1 = (-1 : Int32) then
  some ((0 : Int32), q207.2)
  else
  (f_X6_century q207.2 (0 : Int32) (a2 - (999 : Int32)) (0 : Int32)).bind fun q218 =>
  if ¬ q218.1 = (-1 : Int32) then
  some ((0 : Int32), q218.2)
  else
  (f_X6_count q218.2 (a2 - (999 : Int32))).bind fun v227 =>
  if ¬ v227 = (-1 : Int32) then
  some ((0 : Int32), q218.2)
  else
  some ((1 : Int32), q218.2)
set_option maxHeartbeats 4000000 in
set_option maxRecDepth 100000 in
theorem c_L_refused (l : Launch) (D : va_G) (w : Wv) (σ : Sg) (a2 : Int32) (r : Int32) (σ' : Sg)  (hJ : Inj w) (hf : f_L_refused σ a2 = some (r, σ')) : Met l yL_refused (.code yL_refused cL_refused 3 (some .boolean) :: TB) (rmW 7 173) (pcW D w [.ref (w.1 (0)), .int a2] σ) (qzW D w r σ') 0 0 (AL w) := by
  refine q_open (by decide +kernel) (Nat.le_of_ble_eq_true rfl) ?_
  intro p e s m args below meth c ls hx hb hml hr hlk hown hts hK hP hS hl
  have hown : s.vm.findClass RL = some m.cls := hown
  have hl : lv_has ls 3 [(0, .ref (w.1 (0))), (1, .int a2)] := hl
  unfold f_L_refused at hf
  refine lv_iload_n hx hb dL_refused_0 rfl (lv_at hl 1 rfl) ?_
  refine lv_if_ge (tgt := 12) hx hb dL_refused_1 (by decide) (fun hc => ?_) (fun hc => ?_)
  · have hf := ifp hc hf
    refine lv_iload_n hx hb dL_refused_12 rfl (lv_at hl 1 rfl) ?_
    refine lv_sipush (v := (1000 : Int32)) hx hb dL_refused_13 (by decide) ?_
    refine lv_iadd hx hb dL_refused_16 ?_
    refine lv_istore_n (lv' := [(2, .int (a2 + (1000 : Int32))), (0, .ref (w.1 (0))), (1, .int a2)]) hx hb dL_refused_17 rfl hl (by decide) rfl (fun ls hl => ?_)
    refine lv_aload_n hx hb dL_refused_18 rfl (lv_at hl 1 rfl) ?_
    refine lv_iload_n hx hb dL_refused_19 rfl (lv_at hl 0 rfl) ?_
    obtain ⟨⟨v20, σ20⟩, h20, hf⟩ := bnd hf
    dsimp only at hf
    refine q_cVi (As := [.int (a2 + (1000 : Int32))]) hx hb hts hml hown hK hP hS (c_X6_write l D w σ (a2 + (1000 : Int32)) v20 σ20 hJ h20) hw_L_9 hd_X6_write ⟨rfl, rfl, rfl⟩ o0 (ce6 kd0) rfl ⟨Nat.le_of_ble_eq_true rfl, Nat.le_of_ble_eq_true rfl⟩ ⟨Nat.le_of_ble_eq_true rfl, Nat.le_of_ble_eq_true rfl⟩ hl.1 rfl (Nat.le_of_ble_eq_true rfl) dL_refused_20 (fun H locs hP hS => ?_)
    refine lv_iconst (v := (-1 : Int32)) hx hb dL_refused_23 (by decide) ?_
    refine lv_icmp_ne (tgt := 238) hx hb dL_refused_24 (by decide) (fun hc => ?_) (fun hc => ?_)
    · have hf := ifp hc hf
      refine lv_iconst (v := (0 : Int32)) hx hb dL_refused_238 (by decide) ?_
      have hq := Option.some.inj hf
      exact q_zret hx hb hr hlk hP hS rfl (congrArg Prod.fst hq) (congrArg Prod.snd hq) dL_refused_239
    · have hf := ifn (fun h => h hc) hf
      refine lv_aload_n hx hb dL_refused_27 rfl (lv_at hl 1 rfl) ?_
      refine lv_iload_n hx hb dL_refused_28 rfl (lv_at hl 0 rfl) ?_
      refine lv_iconst (v := (0 : Int32)) hx hb dL_refused_29 (by decide) ?_
      obtain ⟨v30, h30, hf⟩ := bnd hf
      refine q_cVi (As := [.int (a2 + (1000 : Int32)), .int (0 : Int32)]) hx hb hts hml hown hK hP hS (c_X6_road l D w σ20 (a2 + (1000 : Int32)) (0 : Int32) v30 h30) hw_L_15 hd_X6_road ⟨rfl, rfl, rfl⟩ o0 (ce6 kd0) rfl ⟨Nat.le_of_ble_eq_true rfl, Nat.le_of_ble_eq_true rfl⟩ ⟨Nat.le_of_ble_eq_true rfl, Nat.le_of_ble_eq_true rfl⟩ hl.1 rfl (Nat.le_of_ble_eq_true rfl) dL_refused_30 (fun H locs hP hS => ?_)
      refine lv_iconst (v := (-1 : Int32)) hx hb dL_refused_33 (by decide) ?_
      refine lv_icmp_ne (tgt := 238) hx hb dL_refused_34 (by decide) (fun hc => ?_) (fun hc => ?_)
      · have hf := ifp hc hf
        refine lv_iconst (v := (0 : Int32)) hx hb dL_refused_238 (by decide) ?_
        have hq := Option.some.inj hf
        exact q_zret hx hb hr hlk hP hS rfl (congrArg Prod.fst hq) (congrArg Prod.snd hq) dL_refused_239
      · have hf := ifn (fun h => h hc) hf
        refine lv_aload_n hx hb dL_refused_37 rfl (lv_at hl 1 rfl) ?_
        refine lv_iload_n hx hb dL_refused_38 rfl (lv_at hl 0 rfl) ?_
        refine lv_iconst (v := (0 : Int32)) hx hb dL_refused_39 (by decide) ?_
        obtain ⟨v40, h40, hf⟩ := bnd hf
        refine q_cVi (As := [.int (a2 + (1000 : Int32)), .int (0 : Int32)]) hx hb hts hml hown hK hP hS (c_X6_post l D w σ20 (a2 + (1000 : Int32)) (0 : Int32) v40 h40) hw_L_19 hd_X6_post ⟨rfl, rfl, rfl⟩ o0 (ce6 kd0) rfl ⟨Nat.le_of_ble_eq_true rfl, Nat.le_of_ble_eq_true rfl⟩ ⟨Nat.le_of_ble_eq_true rfl, Nat.le_of_ble_eq_true rfl⟩ hl.1 rfl (Nat.le_of_ble_eq_true rfl) dL_refused_40 (fun H locs hP hS => ?_)
        refine lv_iconst (v := (-1 : Int32)) hx hb dL_refused_43 (by decide) ?_
        refine lv_icmp_ne (tgt := 238) hx hb dL_refused_44 (by decide) (fun hc => ?_) (fun hc => ?_)
        · have hf := ifp hc hf
          refine lv_iconst (v := (0 : Int32)) hx hb dL_refused_238 (by decide) ?_
          have hq := Option.some.inj hf
          exact q_zret hx hb hr hlk hP hS rfl (congrArg Prod.fst hq) (congrArg Prod.snd hq) dL_refused_239
        · have hf := ifn (fun h => h hc) hf
          refine lv_aload_n hx hb dL_refused_47 rfl (lv_at hl 1 rfl) ?_
          refine lv_iconst (v := (0 : Int32)) hx hb dL_refused_48 (by decide) ?_
          refine lv_iload_n hx hb dL_refused_49 rfl (lv_at hl 0 rfl) ?_
          refine lv_iconst (v := (0 : Int32)) hx hb dL_refused_50 (by decide) ?_
          obtain ⟨v51, h51, hf⟩ := bnd hf
          refine q_cVi (As := [.int (0 : Int32), .int (a2 + (1000 : Int32)), .int (0 : Int32)]) hx hb hts hml hown hK hP hS (c_X6_arm l D w σ20 (0 : Int32) (a2 + (1000 : Int32)) (0 : Int32) v51 h51) hw_L_22 hd_X6_arm ⟨rfl, rfl, rfl⟩ o0 (ce6 kd0) rfl ⟨Nat.le_of_ble_eq_true rfl, Nat.le_of_ble_eq_true rfl⟩ ⟨Nat.le_of_ble_eq_true rfl, Nat.le_of_ble_eq_true rfl⟩ hl.1 rfl (Nat.le_of_ble_eq_true rfl) dL_refused_51 (fun H locs hP hS => ?_)
          refine lv_iconst (v := (-1 : Int32)) hx hb dL_refused_54 (by decide) ?_
          refine lv_icmp_ne (tgt := 238) hx hb dL_refused_55 (by decide) (fun hc => ?_) (fun hc => ?_)
          · have hf := ifp hc hf
            refine lv_iconst (v := (0 : Int32)) hx hb dL_refused_238 (by decide) ?_
            have hq := Option.some.inj hf
            exact q_zret hx hb hr hlk hP hS rfl (congrArg Prod.fst hq) (congrArg Prod.snd hq) dL_refused_239
          · have hf := ifn (fun h => h hc) hf
            refine lv_aload_n hx hb dL_refused_58 rfl (lv_at hl 1 rfl) ?_
            refine lv_iload_n hx hb dL_refused_59 rfl (lv_at hl 0 rfl) ?_
            refine lv_iconst (v := (0 : Int32)) hx hb dL_refused_60 (by decide) ?_
            obtain ⟨v61, h61, hf⟩ := bnd hf
            refine q_cVi (As := [.int (a2 + (1000 : Int32)), .int (0 : Int32)]) hx hb hts hml hown hK hP hS (c_X6_walker l D w σ20 (a2 + (1000 : Int32)) (0 : Int32) v61 h61) hw_L_26 hd_X6_walker ⟨rfl, rfl, rfl⟩ o0 (ce6 kd0) rfl ⟨Nat.le_of_ble_eq_true rfl, Nat.le_of_ble_eq_true rfl⟩ ⟨Nat.le_of_ble_eq_true rfl, Nat.le_of_ble_eq_true rfl⟩ hl.1 rfl (Nat.le_of_ble_eq_true rfl) dL_refused_61 (fun H locs hP hS => ?_)
            refine lv_iconst (v := (-1 : Int32)) hx hb dL_refused_64 (by decide) ?_
            refine lv_icmp_ne (tgt := 238) hx hb dL_refused_65 (by decide) (fun hc => ?_) (fun hc => ?_)
            · have hf := ifp hc hf
              refine lv_iconst (v := (0 : Int32)) hx hb dL_refused_238 (by decide) ?_
              have hq := Option.some.inj hf
              exact q_zret hx hb hr hlk hP hS rfl (congrArg Prod.fst hq) (congrArg Prod.snd hq) dL_refused_239
            · have hf := ifn (fun h => h hc) hf
              refine lv_aload_n hx hb dL_refused_68 rfl (lv_at hl 1 rfl) ?_
              refine lv_iload_n hx hb dL_refused_69 rfl (lv_at hl 0 rfl) ?_
              obtain ⟨⟨v70, σ70⟩, h70, hf⟩ := bnd hf
              dsimp only at hf
              refine q_cVi (As := [.int (a2 + (1000 : Int32))]) hx hb hts hml hown hK hP hS (c_X6_pass l D w σ20 (a2 + (1000 : Int32)) v70 σ70 hJ h70) hw_L_29 hd_X6_pass ⟨rfl, rfl, rfl⟩ o0 (ce6 kd0) rfl ⟨Nat.le_of_ble_eq_true rfl, Nat.le_of_ble_eq_true rfl⟩ ⟨Nat.le_of_ble_eq_true rfl, Nat.le_of_ble_eq_true rfl⟩ hl.1 rfl (Nat.le_of_ble_eq_true rfl) dL_refused_70 (fun H locs hP hS => ?_)
              refine lv_iconst (v := (-1 : Int32)) hx hb dL_refused_73 (by decide) ?_
              refine lv_icmp_ne (tgt := 238) hx hb dL_refused_74 (by decide) (fun hc => ?_) (fun hc => ?_)
              · have hf := ifp hc hf
                refine lv_iconst (v := (0 : Int32)) hx hb dL_refused_238 (by decide) ?_
                have hq := Option.some.inj hf
                exact q_zret hx hb hr hlk hP hS rfl (congrArg Prod.fst hq) (congrArg Prod.snd hq) dL_refused_239
              · have hf := ifn (fun h => h hc) hf
                refine lv_aload_n hx hb dL_refused_77 rfl (lv_at hl 1 rfl) ?_
                refine lv_iconst (v := (0 : Int32)) hx hb dL_refused_78 (by decide) ?_
                refine lv_iconst (v := (1 : Int32)) hx hb dL_refused_79 (by decide) ?_
                refine lv_iload_n hx hb dL_refused_80 rfl (lv_at hl 0 rfl) ?_
                obtain ⟨⟨v81, σ81⟩, h81, hf⟩ := bnd hf
                dsimp only at hf
                refine q_cVi (As := [.int (0 : Int32), .int (1 : Int32), .int (a2 + (1000 : Int32))]) hx hb hts hml hown hK hP hS (c_X6_lays l D w σ70 (0 : Int32) (1 : Int32) (a2 + (1000 : Int32)) v81 σ81 hJ h81) hw_L_32 hd_X6_lays ⟨rfl, rfl, rfl⟩ o0 (ce6 kd0) rfl ⟨Nat.le_of_ble_eq_true rfl, Nat.le_of_ble_eq_true rfl⟩ ⟨Nat.le_of_ble_eq_true rfl, Nat.le_of_ble_eq_true rfl⟩ hl.1 rfl (Nat.le_of_ble_eq_true rfl) dL_refused_81 (fun H locs hP hS => ?_)
                refine lv_iconst (v := (-1 : Int32)) hx hb dL_refused_84 (by decide) ?_
                refine lv_icmp_ne (tgt := 238) hx hb dL_refused_85 (by decide) (fun hc => ?_) (fun hc => ?_)
                · have hf := ifp hc hf
                  refine lv_iconst (v := (0 : Int32)) hx hb dL_refused_238 (by decide) ?_
                  have hq := Option.some.inj hf
                  exact q_zret hx hb hr hlk hP hS rfl (congrArg Prod.fst hq) (congrArg Prod.snd hq) dL_refused_239
                · have hf := ifn (fun h => h hc) hf
                  refine lv_aload_n hx hb dL_refused_88 rfl (lv_at hl 1 rfl) ?_
                  refine lv_iload_n hx hb dL_refused_89 rfl (lv_at hl 0 rfl) ?_
                  obtain ⟨⟨v90, σ90⟩, h90, hf⟩ := bnd hf
                  dsimp only at hf
                  refine q_cVi (As := [.int (a2 + (1000 : Int32))]) hx hb hts hml hown hK hP hS (c_X6_paint l D w σ81 (a2 + (1000 : Int32)) v90 σ90 hJ h90) hw_L_35 hd_X6_paint ⟨rfl, rfl, rfl⟩ o0 (ce6 kd0) rfl ⟨Nat.le_of_ble_eq_true rfl, Nat.le_of_ble_eq_true rfl⟩ ⟨Nat.le_of_ble_eq_true rfl, Nat.le_of_ble_eq_true rfl⟩ hl.1 rfl (Nat.le_of_ble_eq_true rfl) dL_refused_90 (fun H locs hP hS => ?_)
                  refine lv_iconst (v := (-1 : Int32)) hx hb dL_refused_93 (by decide) ?_
                  refine lv_icmp_ne (tgt := 238) hx hb dL_refused_94 (by decide) (fun hc => ?_) (fun hc => ?_)
                  · have hf := ifp hc hf
                    refine lv_iconst (v := (0 : Int32)) hx hb dL_refused_238 (by decide) ?_
                    have hq := Option.some.inj hf
                    exact q_zret hx hb hr hlk hP hS rfl (congrArg Prod.fst hq) (congrArg Prod.snd hq) dL_refused_239
                  · have hf := ifn (fun h => h hc) hf
                    refine lv_aload_n hx hb dL_refused_97 rfl (lv_at hl 1 rfl) ?_
                    refine lv_iconst (v := (0 : Int32)) hx hb dL_refused_98 (by decide) ?_
                    refine lv_iload_n hx hb dL_refused_99 rfl (lv_at hl 0 rfl) ?_
                    obtain ⟨⟨v100, σ100⟩, h100, hf⟩ := bnd hf
                    dsimp only at hf
                    refine q_cVi (As := [.int (0 : Int32), .int (a2 + (1000 : Int32))]) hx hb hts hml hown hK hP hS (c_X6_move l D w σ90 (0 : Int32) (a2 + (1000 : Int32)) v100 σ100 hJ h100) hw_L_38 hd_X6_move ⟨rfl, rfl, rfl⟩ o0 (ce6 kd0) rfl ⟨Nat.le_of_ble_eq_true rfl, Nat.le_of_ble_eq_true rfl⟩ ⟨Nat.le_of_ble_eq_true rfl, Nat.le_of_ble_eq_true rfl⟩ hl.1 rfl (Nat.le_of_ble_eq_true rfl) dL_refused_100 (fun H locs hP hS => ?_)
                    refine lv_iconst (v := (-1 : Int32)) hx hb dL_refused_103 (by decide) ?_
                    refine lv_icmp_ne (tgt := 238) hx hb dL_refused_104 (by decide) (fun hc => ?_) (fun hc => ?_)
                    · have hf := ifp hc hf
                      refine lv_iconst (v := (0 : Int32)) hx hb dL_refused_238 (by decide) ?_
                      have hq := Option.some.inj hf
                      exact q_zret hx hb hr hlk hP hS rfl (congrArg Prod.fst hq) (congrArg Prod.snd hq) dL_refused_239
                    · have hf := ifn (fun h => h hc) hf
                      refine lv_aload_n hx hb dL_refused_107 rfl (lv_at hl 1 rfl) ?_
                      refine lv_iload_n hx hb dL_refused_108 rfl (lv_at hl 0 rfl) ?_
                      obtain ⟨⟨v109, σ109⟩, h109, hf⟩ := bnd hf
                      dsimp only at hf
                      refine q_cVi (As := [.int (a2 + (1000 : Int32))]) hx hb hts hml hown hK hP hS (c_X6_retire l D w σ100 (a2 + (1000 : Int32)) v109 σ109 hJ h109) hw_L_41 hd_X6_retire ⟨rfl, rfl, rfl⟩ o0 (ce6 kd0) rfl ⟨Nat.le_of_ble_eq_true rfl, Nat.le_of_ble_eq_true rfl⟩ ⟨Nat.le_of_ble_eq_true rfl, Nat.le_of_ble_eq_true rfl⟩ hl.1 rfl (Nat.le_of_ble_eq_true rfl) dL_refused_109 (fun H locs hP hS => ?_)
                      refine lv_iconst (v := (-1 : Int32)) hx hb dL_refused_112 (by decide) ?_
                      refine lv_icmp_ne (tgt := 238) hx hb dL_refused_113 (by decide) (fun hc => ?_) (fun hc => ?_)
                      · have hf := ifp hc hf
                        refine lv_iconst (v := (0 : Int32)) hx hb dL_refused_238 (by decide) ?_
                        have hq := Option.some.inj hf
                        exact q_zret hx hb hr hlk hP hS rfl (congrArg Prod.fst hq) (congrArg Prod.snd hq) dL_refused_239
                      · have hf := ifn (fun h => h hc) hf
                        refine lv_aload_n hx hb dL_refused_116 rfl (lv_at hl 1 rfl) ?_
                        refine lv_iload_n hx hb dL_refused_117 rfl (lv_at hl 0 rfl) ?_
                        obtain ⟨⟨v118, σ118⟩, h118, hf⟩ := bnd hf
                        dsimp only at hf
                        refine q_cVi (As := [.int (a2 + (1000 : Int32))]) hx hb hts hml hown hK hP hS (c_X6_comes l D w σ109 (a2 + (1000 : Int32)) v118 σ118 hJ h118) hw_L_44 hd_X6_comes ⟨rfl, rfl, rfl⟩ o0 (ce6 kd0) rfl ⟨Nat.le_of_ble_eq_true rfl, Nat.le_of_ble_eq_true rfl⟩ ⟨Nat.le_of_ble_eq_true rfl, Nat.le_of_ble_eq_true rfl⟩ hl.1 rfl (Nat.le_of_ble_eq_true rfl) dL_refused_118 (fun H locs hP hS => ?_)
                        refine lv_iconst (v := (-1 : Int32)) hx hb dL_refused_121 (by decide) ?_
                        refine lv_icmp_ne (tgt := 238) hx hb dL_refused_122 (by decide) (fun hc => ?_) (fun hc => ?_)
                        · have hf := ifp hc hf
                          refine lv_iconst (v := (0 : Int32)) hx hb dL_refused_238 (by decide) ?_
                          have hq := Option.some.inj hf
                          exact q_zret hx hb hr hlk hP hS rfl (congrArg Prod.fst hq) (congrArg Prod.snd hq) dL_refused_239
                        · have hf := ifn (fun h => h hc) hf
                          refine lv_aload_n hx hb dL_refused_125 rfl (lv_at hl 1 rfl) ?_
                          refine lv_iconst (v := (0 : Int32)) hx hb dL_refused_126 (by decide) ?_
                          refine lv_iload_n hx hb dL_refused_127 rfl (lv_at hl 0 rfl) ?_
                          obtain ⟨⟨v128, σ128⟩, h128, hf⟩ := bnd hf
                          dsimp only at hf
                          refine q_cVi (As := [.int (0 : Int32), .int (a2 + (1000 : Int32))]) hx hb hts hml hown hK hP hS (c_X6_trail l D w σ118 (0 : Int32) (a2 + (1000 : Int32)) v128 σ128 hJ h128) hw_L_47 hd_X6_trail ⟨rfl, rfl, rfl⟩ o0 (ce6 kd0) rfl ⟨Nat.le_of_ble_eq_true rfl, Nat.le_of_ble_eq_true rfl⟩ ⟨Nat.le_of_ble_eq_true rfl, Nat.le_of_ble_eq_true rfl⟩ hl.1 rfl (Nat.le_of_ble_eq_true rfl) dL_refused_128 (fun H locs hP hS => ?_)
                          refine lv_iconst (v := (-1 : Int32)) hx hb dL_refused_131 (by decide) ?_
                          refine lv_icmp_ne (tgt := 238) hx hb dL_refused_132 (by decide) (fun hc => ?_) (fun hc => ?_)
                          · have hf := ifp hc hf
                            refine lv_iconst (v := (0 : Int32)) hx hb dL_refused_238 (by decide) ?_
                            have hq := Option.some.inj hf
                            exact q_zret hx hb hr hlk hP hS rfl (congrArg Prod.fst hq) (congrArg Prod.snd hq) dL_refused_239
                          · have hf := ifn (fun h => h hc) hf
                            refine lv_aload_n hx hb dL_refused_135 rfl (lv_at hl 1 rfl) ?_
                            refine lv_iload_n hx hb dL_refused_136 rfl (lv_at hl 0 rfl) ?_
                            obtain ⟨⟨v137, σ137⟩, h137, hf⟩ := bnd hf
                            dsimp only at hf
                            refine q_cVi (As := [.int (a2 + (1000 : Int32))]) hx hb hts hml hown hK hP hS (c_X6_helps l D w σ128 (a2 + (1000 : Int32)) v137 σ137 hJ h137) hw_L_50 hd_X6_helps ⟨rfl, rfl, rfl⟩ o0 (ce6 kd0) rfl ⟨Nat.le_of_ble_eq_true rfl, Nat.le_of_ble_eq_true rfl⟩ ⟨Nat.le_of_ble_eq_true rfl, Nat.le_of_ble_eq_true rfl⟩ hl.1 rfl (Nat.le_of_ble_eq_true rfl) dL_refused_137 (fun H locs hP hS => ?_)
                            refine lv_iconst (v := (-1 : Int32)) hx hb dL_refused_140 (by decide) ?_
                            refine lv_icmp_ne (tgt := 238) hx hb dL_refused_141 (by decide) (fun hc => ?_) (fun hc => ?_)
                            · have hf := ifp hc hf
                              refine lv_iconst (v := (0 : Int32)) hx hb dL_refused_238 (by decide) ?_
                              have hq := Option.some.inj hf
                              exact q_zret hx hb hr hlk hP hS rfl (congrArg Prod.fst hq) (congrArg Prod.snd hq) dL_refused_239
                            · have hf := ifn (fun h => h hc) hf
                              refine lv_aload_n hx hb dL_refused_144 rfl (lv_at hl 1 rfl) ?_
                              refine lv_iload_n hx hb dL_refused_145 rfl (lv_at hl 0 rfl) ?_
                              obtain ⟨⟨v146, σ146⟩, h146, hf⟩ := bnd hf
                              dsimp only at hf
                              refine q_cVi (As := [.int (a2 + (1000 : Int32))]) hx hb hts hml hown hK hP hS (c_X6_paints l D w σ137 (a2 + (1000 : Int32)) v146 σ146 hJ h146) hw_L_53 hd_X6_paints ⟨rfl, rfl, rfl⟩ o0 (ce6 kd0) rfl ⟨Nat.le_of_ble_eq_true rfl, Nat.le_of_ble_eq_true rfl⟩ ⟨Nat.le_of_ble_eq_true rfl, Nat.le_of_ble_eq_true rfl⟩ hl.1 rfl (Nat.le_of_ble_eq_true rfl) dL_refused_146 (fun H locs hP hS => ?_)
                              refine lv_iconst (v := (-1 : Int32)) hx hb dL_refused_149 (by decide) ?_
                              refine lv_icmp_ne (tgt := 238) hx hb dL_refused_150 (by decide) (fun hc => ?_) (fun hc => ?_)
                              · have hf := ifp hc hf
                                refine lv_iconst (v := (0 : Int32)) hx hb dL_refused_238 (by decide) ?_
                                have hq := Option.some.inj hf
                                exact q_zret hx hb hr hlk hP hS rfl (congrArg Prod.fst hq) (congrArg Prod.snd hq) dL_refused_239
                              · have hf := ifn (fun h => h hc) hf
                                refine lv_aload_n hx hb dL_refused_153 rfl (lv_at hl 1 rfl) ?_
                                refine lv_iload_n hx hb dL_refused_154 rfl (lv_at hl 0 rfl) ?_
                                obtain ⟨⟨v155, σ155⟩, h155, hf⟩ := bnd hf
                                dsimp only at hf
                                refine q_cVi (As := [.int (a2 + (1000 : Int32))]) hx hb hts hml hown hK hP hS (c_X6_cover l D w σ146 (a2 + (1000 : Int32)) v155 σ155 hJ h155) hw_L_56 hd_X6_cover ⟨rfl, rfl, rfl⟩ o0 (ce6 kd0) rfl ⟨Nat.le_of_ble_eq_true rfl, Nat.le_of_ble_eq_true rfl⟩ ⟨Nat.le_of_ble_eq_true rfl, Nat.le_of_ble_eq_true rfl⟩ hl.1 rfl (Nat.le_of_ble_eq_true rfl) dL_refused_155 (fun H locs hP hS => ?_)
                                refine lv_iconst (v := (-1 : Int32)) hx hb dL_refused_158 (by decide) ?_
                                refine lv_icmp_ne (tgt := 238) hx hb dL_refused_159 (by decide) (fun hc => ?_) (fun hc => ?_)
                                · have hf := ifp hc hf
                                  refine lv_iconst (v := (0 : Int32)) hx hb dL_refused_238 (by decide) ?_
                                  have hq := Option.some.inj hf
                                  exact q_zret hx hb hr hlk hP hS rfl (congrArg Prod.fst hq) (congrArg Prod.snd hq) dL_refused_239
                                · have hf := ifn (fun h => h hc) hf
                                  refine lv_aload_n hx hb dL_refused_162 rfl (lv_at hl 1 rfl) ?_
                                  refine lv_iload_n hx hb dL_refused_163 rfl (lv_at hl 0 rfl) ?_
                                  refine lv_iconst (v := (0 : Int32)) hx hb dL_refused_164 (by decide) ?_
                                  obtain ⟨v165, h165, hf⟩ := bnd hf
                                  refine q_cVi (As := [.int (a2 + (1000 : Int32)), .int (0 : Int32)]) hx hb hts hml hown hK hP hS (c_X6_far l D w σ155 (a2 + (1000 : Int32)) (0 : Int32) v165 h165) hw_L_59 hd_X6_far ⟨rfl, rfl, rfl⟩ o0 (ce6 kd0) rfl ⟨Nat.le_of_ble_eq_true rfl, Nat.le_of_ble_eq_true rfl⟩ ⟨Nat.le_of_ble_eq_true rfl, Nat.le_of_ble_eq_true rfl⟩ hl.1 rfl (Nat.le_of_ble_eq_true rfl) dL_refused_165 (fun H locs hP hS => ?_)
                                  refine lv_iconst (v := (-1 : Int32)) hx hb dL_refused_168 (by decide) ?_
                                  refine lv_icmp_ne (tgt := 238) hx hb dL_refused_169 (by decide) (fun hc => ?_) (fun hc => ?_)
                                  · have hf := ifp hc hf
                                    refine lv_iconst (v := (0 : Int32)) hx hb dL_refused_238 (by decide) ?_
                                    have hq := Option.some.inj hf
                                    exact q_zret hx hb hr hlk hP hS rfl (congrArg Prod.fst hq) (congrArg Prod.snd hq) dL_refused_239
                                  · have hf := ifn (fun h => h hc) hf
                                    refine lv_aload_n hx hb dL_refused_172 rfl (lv_at hl 1 rfl) ?_
                                    refine lv_iconst (v := (0 : Int32)) hx hb dL_refused_173 (by decide) ?_
                                    refine lv_iconst (v := (0 : Int32)) hx hb dL_refused_174 (by decide) ?_
                                    refine lv_iload_n hx hb dL_refused_175 rfl (lv_at hl 0 rfl) ?_
                                    obtain ⟨⟨v176, σ176⟩, h176, hf⟩ := bnd hf
                                    dsimp only at hf
                                    refine q_cVi (As := [.int (0 : Int32), .int (0 : Int32), .int (a2 + (1000 : Int32))]) hx hb hts hml hown hK hP hS (c_X6_told l D w σ155 (0 : Int32) (0 : Int32) (a2 + (1000 : Int32)) v176 σ176 hJ h176) hw_L_62 hd_X6_told ⟨rfl, rfl, rfl⟩ o0 (ce6 kd0) rfl ⟨Nat.le_of_ble_eq_true rfl, Nat.le_of_ble_eq_true rfl⟩ ⟨Nat.le_of_ble_eq_true rfl, Nat.le_of_ble_eq_true rfl⟩ hl.1 rfl (Nat.le_of_ble_eq_true rfl) dL_refused_176 (fun H locs hP hS => ?_)
                                    refine lv_iconst (v := (-1 : Int32)) hx hb dL_refused_179 (by decide) ?_
                                    refine lv_icmp_ne (tgt := 238) hx hb dL_refused_180 (by decide) (fun hc => ?_) (fun hc => ?_)
                                    · have hf := ifp hc hf
                                      refine lv_iconst (v := (0 : Int32)) hx hb dL_refused_238 (by decide) ?_
                                      have hq := Option.some.inj hf
                                      exact q_zret hx hb hr hlk hP hS rfl (congrArg Prod.fst hq) (congrArg Prod.snd hq) dL_refused_239
                                    · have hf := ifn (fun h => h hc) hf
                                      refine lv_aload_n hx hb dL_refused_183 rfl (lv_at hl 1 rfl) ?_
                                      refine lv_iload_n hx hb dL_refused_184 rfl (lv_at hl 0 rfl) ?_
                                      refine lv_iconst (v := (0 : Int32)) hx hb dL_refused_185 (by decide) ?_
                                      refine lv_iconst (v := (0 : Int32)) hx hb dL_refused_186 (by decide) ?_
                                      obtain ⟨⟨v187, σ187⟩, h187, hf⟩ := bnd hf
                                      dsimp only at hf
                                      refine q_cVi (As := [.int (a2 + (1000 : Int32)), .int (0 : Int32), .int (0 : Int32)]) hx hb hts hml hown hK hP hS (c_X6_seen l D w σ176 (a2 + (1000 : Int32)) (0 : Int32) (0 : Int32) v187 σ187 hJ h187) hw_L_65 hd_X6_seen ⟨rfl, rfl, rfl⟩ o0 (ce6 kd0) rfl ⟨Nat.le_of_ble_eq_true rfl, Nat.le_of_ble_eq_true rfl⟩ ⟨Nat.le_of_ble_eq_true rfl, Nat.le_of_ble_eq_true rfl⟩ hl.1 rfl (Nat.le_of_ble_eq_true rfl) dL_refused_187 (fun H locs hP hS => ?_)
                                      refine lv_iconst (v := (-1 : Int32)) hx hb dL_refused_190 (by decide) ?_
                                      refine lv_icmp_ne (tgt := 238) hx hb dL_refused_191 (by decide) (fun hc => ?_) (fun hc => ?_)
                                      · have hf := ifp hc hf
                                        refine lv_iconst (v := (0 : Int32)) hx hb dL_refused_238 (by decide) ?_
                                        have hq := Option.some.inj hf
                                        exact q_zret hx hb hr hlk hP hS rfl (congrArg Prod.fst hq) (congrArg Prod.snd hq) dL_refused_239
                                      · have hf := ifn (fun h => h hc) hf
                                        refine lv_aload_n hx hb dL_refused_194 rfl (lv_at hl 1 rfl) ?_
                                        refine lv_iload_n hx hb dL_refused_195 rfl (lv_at hl 0 rfl) ?_
                                        obtain ⟨⟨v196, σ196⟩, h196, hf⟩ := bnd hf
                                        dsimp only at hf
                                        refine q_cVi (As := [.int (a2 + (1000 : Int32))]) hx hb hts hml hown hK hP hS (c_X6_kinds l D w σ187 (a2 + (1000 : Int32)) v196 σ196 hJ h196) hw_L_68 hd_X6_kinds ⟨rfl, rfl, rfl⟩ o0 (ce6 kd0) rfl ⟨Nat.le_of_ble_eq_true rfl, Nat.le_of_ble_eq_true rfl⟩ ⟨Nat.le_of_ble_eq_true rfl, Nat.le_of_ble_eq_true rfl⟩ hl.1 rfl (Nat.le_of_ble_eq_true rfl) dL_refused_196 (fun H locs hP hS => ?_)
                                        refine lv_iconst (v := (-1 : Int32)) hx hb dL_refused_199 (by decide) ?_
                                        refine lv_icmp_ne (tgt := 238) hx hb dL_refused_200 (by decide) (fun hc => ?_) (fun hc => ?_)
                                        · have hf := ifp hc hf
                                          refine lv_iconst (v := (0 : Int32)) hx hb dL_refused_238 (by decide) ?_
                                          have hq := Option.some.inj hf
                                          exact q_zret hx hb hr hlk hP hS rfl (congrArg Prod.fst hq) (congrArg Prod.snd hq) dL_refused_239
                                        · have hf := ifn (fun h => h hc) hf
                                          refine lv_aload_n hx hb dL_refused_203 rfl (lv_at hl 1 rfl) ?_
                                          refine lv_iconst (v := (0 : Int32)) hx hb dL_refused_204 (by decide) ?_
                                          refine lv_iload_n hx hb dL_refused_205 rfl (lv_at hl 0 rfl) ?_
                                          refine lv_iconst (v := (0 : Int32)) hx hb dL_refused_206 (by decide) ?_
                                          obtain ⟨⟨v207, σ207⟩, h207, hf⟩ := bnd hf
                                          dsimp only at hf
                                          refine q_cVi (As := [.int (0 : Int32), .int (a2 + (1000 : Int32)), .int (0 : Int32)]) hx hb hts hml hown hK hP hS (c_X6_likely l D w σ196 (0 : Int32) (a2 + (1000 : Int32)) (0 : Int32) v207 σ207 hJ h207) hw_L_71 hd_X6_likely ⟨rfl, rfl, rfl⟩ o0 (ce6 kd0) rfl ⟨Nat.le_of_ble_eq_true rfl, Nat.le_of_ble_eq_true rfl⟩ ⟨Nat.le_of_ble_eq_true rfl, Nat.le_of_ble_eq_true rfl⟩ hl.1 rfl (Nat.le_of_ble_eq_true rfl) dL_refused_207 (fun H locs hP hS => ?_)
                                          refine lv_iconst (v := (-1 : Int32)) hx hb dL_refused_210 (by decide) ?_
                                          refine lv_icmp_ne (tgt := 238) hx hb dL_refused_211 (by decide) (fun hc => ?_) (fun hc => ?_)
                                          · have hf := ifp hc hf
                                            refine lv_iconst (v := (0 : Int32)) hx hb dL_refused_238 (by decide) ?_
                                            have hq := Option.some.inj hf
                                            exact q_zret hx hb hr hlk hP hS rfl (congrArg Prod.fst hq) (congrArg Prod.snd hq) dL_refused_239
                                          · have hf := ifn (fun h => h hc) hf
                                            refine lv_aload_n hx hb dL_refused_214 rfl (lv_at hl 1 rfl) ?_
                                            refine lv_iconst (v := (0 : Int32)) hx hb dL_refused_215 (by decide) ?_
                                            refine lv_iload_n hx hb dL_refused_216 rfl (lv_at hl 0 rfl) ?_
                                            refine lv_iconst (v := (0 : Int32)) hx hb dL_refused_217 (by decide) ?_
                                            obtain ⟨⟨v218, σ218⟩, h218, hf⟩ := bnd hf
                                            dsimp only at hf
                                            refine q_cVi (As := [.int (0 : Int32), .int (a2 + (1000 : Int32)), .int (0 : Int32)]) hx hb hts hml hown hK hP hS (c_X6_century l D w σ207 (0 : Int32) (a2 + (1000 : Int32)) (0 : Int32) v218 σ218 hJ h218) hw_L_74 hd_X6_century ⟨rfl, rfl, rfl⟩ o0 (ce6 kd0) rfl ⟨Nat.le_of_ble_eq_true rfl, Nat.le_of_ble_eq_true rfl⟩ ⟨Nat.le_of_ble_eq_true rfl, Nat.le_of_ble_eq_true rfl⟩ hl.1 rfl (Nat.le_of_ble_eq_true rfl) dL_refused_218 (fun H locs hP hS => ?_)
                                            refine lv_iconst (v := (-1 : Int32)) hx hb dL_refused_221 (by decide) ?_
                                            refine lv_icmp_ne (tgt := 238) hx hb dL_refused_222 (by decide) (fun hc => ?_) (fun hc => ?_)
                                            · have hf := ifp hc hf
                                              refine lv_iconst (v := (0 : Int32)) hx hb dL_refused_238 (by decide) ?_
                                              have hq := Option.some.inj hf
                                              exact q_zret hx hb hr hlk hP hS rfl (congrArg Prod.fst hq) (congrArg Prod.snd hq) dL_refused_239
                                            · have hf := ifn (fun h => h hc) hf
                                              refine lv_aload_n hx hb dL_refused_225 rfl (lv_at hl 1 rfl) ?_
                                              refine lv_iload_n hx hb dL_refused_226 rfl (lv_at hl 0 rfl) ?_
                                              obtain ⟨v227, h227, hf⟩ := bnd hf
                                              refine q_cVi (As := [.int (a2 + (1000 : Int32))]) hx hb hts hml hown hK hP hS (c_X6_count l D w σ218 (a2 + (1000 : Int32)) v227 h227) hw_L_77 hd_X6_count ⟨rfl, rfl, rfl⟩ o0 (ce6 kd0) rfl ⟨Nat.le_of_ble_eq_true rfl, Nat.le_of_ble_eq_true rfl⟩ ⟨Nat.le_of_ble_eq_true rfl, Nat.le_of_ble_eq_true rfl⟩ hl.1 rfl (Nat.le_of_ble_eq_true rfl) dL_refused_227 (fun H locs hP hS => ?_)
                                              refine lv_iconst (v := (-1 : Int32)) hx hb dL_refused_230 (by decide) ?_
                                              refine lv_icmp_ne (tgt := 238) hx hb dL_refused_231 (by decide) (fun hc => ?_) (fun hc => ?_)
                                              · have hf := ifp hc hf
                                                refine lv_iconst (v := (0 : Int32)) hx hb dL_refused_238 (by decide) ?_
                                                have hq := Option.some.inj hf
                                                exact q_zret hx hb hr hlk hP hS rfl (congrArg Prod.fst hq) (congrArg Prod.snd hq) dL_refused_239
                                              · have hf := ifn (fun h => h hc) hf
                                                refine lv_iconst (v := (1 : Int32)) hx hb dL_refused_234 (by decide) ?_
                                                refine lv_goto (tgt := 239) hx hb dL_refused_235 (by decide) ?_
                                                have hq := Option.some.inj hf
                                                exact q_zret hx hb hr hlk hP hS rfl (congrArg Prod.fst hq) (congrArg Prod.snd hq) dL_refused_239
  · have hf := ifn hc hf
    refine lv_iload_n hx hb dL_refused_4 rfl (lv_at hl 1 rfl) ?_
    refine lv_sipush (v := (999 : Int32)) hx hb dL_refused_5 (by decide) ?_
    refine lv_isub hx hb dL_refused_8 ?_
    refine lv_goto (tgt := 17) hx hb dL_refused_9 (by decide) ?_
    refine lv_istore_n (lv' := [(2, .int (a2 - (999 : Int32))), (0, .ref (w.1 (0))), (1, .int a2)]) hx hb dL_refused_17 rfl hl (by decide) rfl (fun ls hl => ?_)
    refine lv_aload_n hx hb dL_refused_18 rfl (lv_at hl 1 rfl) ?_
    refine lv_iload_n hx hb dL_refused_19 rfl (lv_at hl 0 rfl) ?_
    obtain ⟨⟨v20, σ20⟩, h20, hf⟩ := bnd hf
    dsimp only at hf
    refine q_cVi (As := [.int (a2 - (999 : Int32))]) hx hb hts hml hown hK hP hS (c_X6_write l D w σ (a2 - (999 : Int32)) v20 σ20 hJ h20) hw_L_9 hd_X6_write ⟨rfl, rfl, rfl⟩ o0 (ce6 kd0) rfl ⟨Nat.le_of_ble_eq_true rfl, Nat.le_of_ble_eq_true rfl⟩ ⟨Nat.le_of_ble_eq_true rfl, Nat.le_of_ble_eq_true rfl⟩ hl.1 rfl (Nat.le_of_ble_eq_true rfl) dL_refused_20 (fun H locs hP hS => ?_)
    refine lv_iconst (v := (-1 : Int32)) hx hb dL_refused_23 (by decide) ?_
    refine lv_icmp_ne (tgt := 238) hx hb dL_refused_24 (by decide) (fun hc => ?_) (fun hc => ?_)
    · have hf := ifp hc hf
      refine lv_iconst (v := (0 : Int32)) hx hb dL_refused_238 (by decide) ?_
      have hq := Option.some.inj hf
      exact q_zret hx hb hr hlk hP hS rfl (congrArg Prod.fst hq) (congrArg Prod.snd hq) dL_refused_239
    · have hf := ifn (fun h => h hc) hf
      refine lv_aload_n hx hb dL_refused_27 rfl (lv_at hl 1 rfl) ?_
      refine lv_iload_n hx hb dL_refused_28 rfl (lv_at hl 0 rfl) ?_
      refine lv_iconst (v := (0 : Int32)) hx hb dL_refused_29 (by decide) ?_
      obtain ⟨v30, h30, hf⟩ := bnd hf
      refine q_cVi (As := [.int (a2 - (999 : Int32)), .int (0 : Int32)]) hx hb hts hml hown hK hP hS (c_X6_road l D w σ20 (a2 - (999 : Int32)) (0 : Int32) v30 h30) hw_L_15 hd_X6_road ⟨rfl, rfl, rfl⟩ o0 (ce6 kd0) rfl ⟨Nat.le_of_ble_eq_true rfl, Nat.le_of_ble_eq_true rfl⟩ ⟨Nat.le_of_ble_eq_true rfl, Nat.le_of_ble_eq_true rfl⟩ hl.1 rfl (Nat.le_of_ble_eq_true rfl) dL_refused_30 (fun H locs hP hS => ?_)
      refine lv_iconst (v := (-1 : Int32)) hx hb dL_refused_33 (by decide) ?_
      refine lv_icmp_ne (tgt := 238) hx hb dL_refused_34 (by decide) (fun hc => ?_) (fun hc => ?_)
      · have hf := ifp hc hf
        refine lv_iconst (v := (0 : Int32)) hx hb dL_refused_238 (by decide) ?_
        have hq := Option.some.inj hf
        exact q_zret hx hb hr hlk hP hS rfl (congrArg Prod.fst hq) (congrArg Prod.snd hq) dL_refused_239
      · have hf := ifn (fun h => h hc) hf
        refine lv_aload_n hx hb dL_refused_37 rfl (lv_at hl 1 rfl) ?_
        refine lv_iload_n hx hb dL_refused_38 rfl (lv_at hl 0 rfl) ?_
        refine lv_iconst (v := (0 : Int32)) hx hb dL_refused_39 (by decide) ?_
        obtain ⟨v40, h40, hf⟩ := bnd hf
        refine q_cVi (As := [.int (a2 - (999 : Int32)), .int (0 : Int32)]) hx hb hts hml hown hK hP hS (c_X6_post l D w σ20 (a2 - (999 : Int32)) (0 : Int32) v40 h40) hw_L_19 hd_X6_post ⟨rfl, rfl, rfl⟩ o0 (ce6 kd0) rfl ⟨Nat.le_of_ble_eq_true rfl, Nat.le_of_ble_eq_true rfl⟩ ⟨Nat.le_of_ble_eq_true rfl, Nat.le_of_ble_eq_true rfl⟩ hl.1 rfl (Nat.le_of_ble_eq_true rfl) dL_refused_40 (fun H locs hP hS => ?_)
        refine lv_iconst (v := (-1 : Int32)) hx hb dL_refused_43 (by decide) ?_
        refine lv_icmp_ne (tgt := 238) hx hb dL_refused_44 (by decide) (fun hc => ?_) (fun hc => ?_)
        · have hf := ifp hc hf
          refine lv_iconst (v := (0 : Int32)) hx hb dL_refused_238 (by decide) ?_
          have hq := Option.some.inj hf
          exact q_zret hx hb hr hlk hP hS rfl (congrArg Prod.fst hq) (congrArg Prod.snd hq) dL_refused_239
        · have hf := ifn (fun h => h hc) hf
          refine lv_aload_n hx hb dL_refused_47 rfl (lv_at hl 1 rfl) ?_
          refine lv_iconst (v := (0 : Int32)) hx hb dL_refused_48 (by decide) ?_
          refine lv_iload_n hx hb dL_refused_49 rfl (lv_at hl 0 rfl) ?_
          refine lv_iconst (v := (0 : Int32)) hx hb dL_refused_50 (by decide) ?_
          obtain ⟨v51, h51, hf⟩ := bnd hf
          refine q_cVi (As := [.int (0 : Int32), .int (a2 - (999 : Int32)), .int (0 : Int32)]) hx hb hts hml hown hK hP hS (c_X6_arm l D w σ20 (0 : Int32) (a2 - (999 : Int32)) (0 : Int32) v51 h51) hw_L_22 hd_X6_arm ⟨rfl, rfl, rfl⟩ o0 (ce6 kd0) rfl ⟨Nat.le_of_ble_eq_true rfl, Nat.le_of_ble_eq_true rfl⟩ ⟨Nat.le_of_ble_eq_true rfl, Nat.le_of_ble_eq_true rfl⟩ hl.1 rfl (Nat.le_of_ble_eq_true rfl) dL_refused_51 (fun H locs hP hS => ?_)
          refine lv_iconst (v := (-1 : Int32)) hx hb dL_refused_54 (by decide) ?_
          refine lv_icmp_ne (tgt := 238) hx hb dL_refused_55 (by decide) (fun hc => ?_) (fun hc => ?_)
          · have hf := ifp hc hf
            refine lv_iconst (v := (0 : Int32)) hx hb dL_refused_238 (by decide) ?_
            have hq := Option.some.inj hf
            exact q_zret hx hb hr hlk hP hS rfl (congrArg Prod.fst hq) (congrArg Prod.snd hq) dL_refused_239
          · have hf := ifn (fun h => h hc) hf
            refine lv_aload_n hx hb dL_refused_58 rfl (lv_at hl 1 rfl) ?_
            refine lv_iload_n hx hb dL_refused_59 rfl (lv_at hl 0 rfl) ?_
            refine lv_iconst (v := (0 : Int32)) hx hb dL_refused_60 (by decide) ?_
            obtain ⟨v61, h61, hf⟩ := bnd hf
            refine q_cVi (As := [.int (a2 - (999 : Int32)), .int (0 : Int32)]) hx hb hts hml hown hK hP hS (c_X6_walker l D w σ20 (a2 - (999 : Int32)) (0 : Int32) v61 h61) hw_L_26 hd_X6_walker ⟨rfl, rfl, rfl⟩ o0 (ce6 kd0) rfl ⟨Nat.le_of_ble_eq_true rfl, Nat.le_of_ble_eq_true rfl⟩ ⟨Nat.le_of_ble_eq_true rfl, Nat.le_of_ble_eq_true rfl⟩ hl.1 rfl (Nat.le_of_ble_eq_true rfl) dL_refused_61 (fun H locs hP hS => ?_)
            refine lv_iconst (v := (-1 : Int32)) hx hb dL_refused_64 (by decide) ?_
            refine lv_icmp_ne (tgt := 238) hx hb dL_refused_65 (by decide) (fun hc => ?_) (fun hc => ?_)
            · have hf := ifp hc hf
              refine lv_iconst (v := (0 : Int32)) hx hb dL_refused_238 (by decide) ?_
              have hq := Option.some.inj hf
              exact q_zret hx hb hr hlk hP hS rfl (congrArg Prod.fst hq) (congrArg Prod.snd hq) dL_refused_239
            · have hf := ifn (fun h => h hc) hf
              refine lv_aload_n hx hb dL_refused_68 rfl (lv_at hl 1 rfl) ?_
              refine lv_iload_n hx hb dL_refused_69 rfl (lv_at hl 0 rfl) ?_
              obtain ⟨⟨v70, σ70⟩, h70, hf⟩ := bnd hf
              dsimp only at hf
              refine q_cVi (As := [.int (a2 - (999 : Int32))]) hx hb hts hml hown hK hP hS (c_X6_pass l D w σ20 (a2 - (999 : Int32)) v70 σ70 hJ h70) hw_L_29 hd_X6_pass ⟨rfl, rfl, rfl⟩ o0 (ce6 kd0) rfl ⟨Nat.le_of_ble_eq_true rfl, Nat.le_of_ble_eq_true rfl⟩ ⟨Nat.le_of_ble_eq_true rfl, Nat.le_of_ble_eq_true rfl⟩ hl.1 rfl (Nat.le_of_ble_eq_true rfl) dL_refused_70 (fun H locs hP hS => ?_)
              refine lv_iconst (v := (-1 : Int32)) hx hb dL_refused_73 (by decide) ?_
              refine lv_icmp_ne (tgt := 238) hx hb dL_refused_74 (by decide) (fun hc => ?_) (fun hc => ?_)
              · have hf := ifp hc hf
                refine lv_iconst (v := (0 : Int32)) hx hb dL_refused_238 (by decide) ?_
                have hq := Option.some.inj hf
                exact q_zret hx hb hr hlk hP hS rfl (congrArg Prod.fst hq) (congrArg Prod.snd hq) dL_refused_239
              · have hf := ifn (fun h => h hc) hf
                refine lv_aload_n hx hb dL_refused_77 rfl (lv_at hl 1 rfl) ?_
                refine lv_iconst (v := (0 : Int32)) hx hb dL_refused_78 (by decide) ?_
                refine lv_iconst (v := (1 : Int32)) hx hb dL_refused_79 (by decide) ?_
                refine lv_iload_n hx hb dL_refused_80 rfl (lv_at hl 0 rfl) ?_
                obtain ⟨⟨v81, σ81⟩, h81, hf⟩ := bnd hf
                dsimp only at hf
                refine q_cVi (As := [.int (0 : Int32), .int (1 : Int32), .int (a2 - (999 : Int32))]) hx hb hts hml hown hK hP hS (c_X6_lays l D w σ70 (0 : Int32) (1 : Int32) (a2 - (999 : Int32)) v81 σ81 hJ h81) hw_L_32 hd_X6_lays ⟨rfl, rfl, rfl⟩ o0 (ce6 kd0) rfl ⟨Nat.le_of_ble_eq_true rfl, Nat.le_of_ble_eq_true rfl⟩ ⟨Nat.le_of_ble_eq_true rfl, Nat.le_of_ble_eq_true rfl⟩ hl.1 rfl (Nat.le_of_ble_eq_true rfl) dL_refused_81 (fun H locs hP hS => ?_)
                refine lv_iconst (v := (-1 : Int32)) hx hb dL_refused_84 (by decide) ?_
                refine lv_icmp_ne (tgt := 238) hx hb dL_refused_85 (by decide) (fun hc => ?_) (fun hc => ?_)
                · have hf := ifp hc hf
                  refine lv_iconst (v := (0 : Int32)) hx hb dL_refused_238 (by decide) ?_
                  have hq := Option.some.inj hf
                  exact q_zret hx hb hr hlk hP hS rfl (congrArg Prod.fst hq) (congrArg Prod.snd hq) dL_refused_239
                · have hf := ifn (fun h => h hc) hf
                  refine lv_aload_n hx hb dL_refused_88 rfl (lv_at hl 1 rfl) ?_
                  refine lv_iload_n hx hb dL_refused_89 rfl (lv_at hl 0 rfl) ?_
                  obtain ⟨⟨v90, σ90⟩, h90, hf⟩ := bnd hf
                  dsimp only at hf
                  refine q_cVi (As := [.int (a2 - (999 : Int32))]) hx hb hts hml hown hK hP hS (c_X6_paint l D w σ81 (a2 - (999 : Int32)) v90 σ90 hJ h90) hw_L_35 hd_X6_paint ⟨rfl, rfl, rfl⟩ o0 (ce6 kd0) rfl ⟨Nat.le_of_ble_eq_true rfl, Nat.le_of_ble_eq_true rfl⟩ ⟨Nat.le_of_ble_eq_true rfl, Nat.le_of_ble_eq_true rfl⟩ hl.1 rfl (Nat.le_of_ble_eq_true rfl) dL_refused_90 (fun H locs hP hS => ?_)
                  refine lv_iconst (v := (-1 : Int32)) hx hb dL_refused_93 (by decide) ?_
                  refine lv_icmp_ne (tgt := 238) hx hb dL_refused_94 (by decide) (fun hc => ?_) (fun hc => ?_)
                  · have hf := ifp hc hf
                    refine lv_iconst (v := (0 : Int32)) hx hb dL_refused_238 (by decide) ?_
                    have hq := Option.some.inj hf
                    exact q_zret hx hb hr hlk hP hS rfl (congrArg Prod.fst hq) (congrArg Prod.snd hq) dL_refused_239
                  · have hf := ifn (fun h => h hc) hf
                    refine lv_aload_n hx hb dL_refused_97 rfl (lv_at hl 1 rfl) ?_
                    refine lv_iconst (v := (0 : Int32)) hx hb dL_refused_98 (by decide) ?_
                    refine lv_iload_n hx hb dL_refused_99 rfl (lv_at hl 0 rfl) ?_
                    obtain ⟨⟨v100, σ100⟩, h100, hf⟩ := bnd hf
                    dsimp only at hf
                    refine q_cVi (As := [.int (0 : Int32), .int (a2 - (999 : Int32))]) hx hb hts hml hown hK hP hS (c_X6_move l D w σ90 (0 : Int32) (a2 - (999 : Int32)) v100 σ100 hJ h100) hw_L_38 hd_X6_move ⟨rfl, rfl, rfl⟩ o0 (ce6 kd0) rfl ⟨Nat.le_of_ble_eq_true rfl, Nat.le_of_ble_eq_true rfl⟩ ⟨Nat.le_of_ble_eq_true rfl, Nat.le_of_ble_eq_true rfl⟩ hl.1 rfl (Nat.le_of_ble_eq_true rfl) dL_refused_100 (fun H locs hP hS => ?_)
                    refine lv_iconst (v := (-1 : Int32)) hx hb dL_refused_103 (by decide) ?_
                    refine lv_icmp_ne (tgt := 238) hx hb dL_refused_104 (by decide) (fun hc => ?_) (fun hc => ?_)
                    · have hf := ifp hc hf
                      refine lv_iconst (v := (0 : Int32)) hx hb dL_refused_238 (by decide) ?_
                      have hq := Option.some.inj hf
                      exact q_zret hx hb hr hlk hP hS rfl (congrArg Prod.fst hq) (congrArg Prod.snd hq) dL_refused_239
                    · have hf := ifn (fun h => h hc) hf
                      refine lv_aload_n hx hb dL_refused_107 rfl (lv_at hl 1 rfl) ?_
                      refine lv_iload_n hx hb dL_refused_108 rfl (lv_at hl 0 rfl) ?_
                      obtain ⟨⟨v109, σ109⟩, h109, hf⟩ := bnd hf
                      dsimp only at hf
                      refine q_cVi (As := [.int (a2 - (999 : Int32))]) hx hb hts hml hown hK hP hS (c_X6_retire l D w σ100 (a2 - (999 : Int32)) v109 σ109 hJ h109) hw_L_41 hd_X6_retire ⟨rfl, rfl, rfl⟩ o0 (ce6 kd0) rfl ⟨Nat.le_of_ble_eq_true rfl, Nat.le_of_ble_eq_true rfl⟩ ⟨Nat.le_of_ble_eq_true rfl, Nat.le_of_ble_eq_true rfl⟩ hl.1 rfl (Nat.le_of_ble_eq_true rfl) dL_refused_109 (fun H locs hP hS => ?_)
                      refine lv_iconst (v := (-1 : Int32)) hx hb dL_refused_112 (by decide) ?_
                      refine lv_icmp_ne (tgt := 238) hx hb dL_refused_113 (by decide) (fun hc => ?_) (fun hc => ?_)
                      · have hf := ifp hc hf
                        refine lv_iconst (v := (0 : Int32)) hx hb dL_refused_238 (by decide) ?_
                        have hq := Option.some.inj hf
                        exact q_zret hx hb hr hlk hP hS rfl (congrArg Prod.fst hq) (congrArg Prod.snd hq) dL_refused_239
                      · have hf := ifn (fun h => h hc) hf
                        refine lv_aload_n hx hb dL_refused_116 rfl (lv_at hl 1 rfl) ?_
                        refine lv_iload_n hx hb dL_refused_117 rfl (lv_at hl 0 rfl) ?_
                        obtain ⟨⟨v118, σ118⟩, h118, hf⟩ := bnd hf
                        dsimp only at hf
                        refine q_cVi (As := [.int (a2 - (999 : Int32))]) hx hb hts hml hown hK hP hS (c_X6_comes l D w σ109 (a2 - (999 : Int32)) v118 σ118 hJ h118) hw_L_44 hd_X6_comes ⟨rfl, rfl, rfl⟩ o0 (ce6 kd0) rfl ⟨Nat.le_of_ble_eq_true rfl, Nat.le_of_ble_eq_true rfl⟩ ⟨Nat.le_of_ble_eq_true rfl, Nat.le_of_ble_eq_true rfl⟩ hl.1 rfl (Nat.le_of_ble_eq_true rfl) dL_refused_118 (fun H locs hP hS => ?_)
                        refine lv_iconst (v := (-1 : Int32)) hx hb dL_refused_121 (by decide) ?_
                        refine lv_icmp_ne (tgt := 238) hx hb dL_refused_122 (by decide) (fun hc => ?_) (fun hc => ?_)
                        · have hf := ifp hc hf
                          refine lv_iconst (v := (0 : Int32)) hx hb dL_refused_238 (by decide) ?_
                          have hq := Option.some.inj hf
                          exact q_zret hx hb hr hlk hP hS rfl (congrArg Prod.fst hq) (congrArg Prod.snd hq) dL_refused_239
                        · have hf := ifn (fun h => h hc) hf
                          refine lv_aload_n hx hb dL_refused_125 rfl (lv_at hl 1 rfl) ?_
                          refine lv_iconst (v := (0 : Int32)) hx hb dL_refused_126 (by decide) ?_
                          refine lv_iload_n hx hb dL_refused_127 rfl (lv_at hl 0 rfl) ?_
                          obtain ⟨⟨v128, σ128⟩, h128, hf⟩ := bnd hf
                          dsimp only at hf
                          refine q_cVi (As := [.int (0 : Int32), .int (a2 - (999 : Int32))]) hx hb hts hml hown hK hP hS (c_X6_trail l D w σ118 (0 : Int32) (a2 - (999 : Int32)) v128 σ128 hJ h128) hw_L_47 hd_X6_trail ⟨rfl, rfl, rfl⟩ o0 (ce6 kd0) rfl ⟨Nat.le_of_ble_eq_true rfl, Nat.le_of_ble_eq_true rfl⟩ ⟨Nat.le_of_ble_eq_true rfl, Nat.le_of_ble_eq_true rfl⟩ hl.1 rfl (Nat.le_of_ble_eq_true rfl) dL_refused_128 (fun H locs hP hS => ?_)
                          refine lv_iconst (v := (-1 : Int32)) hx hb dL_refused_131 (by decide) ?_
                          refine lv_icmp_ne (tgt := 238) hx hb dL_refused_132 (by decide) (fun hc => ?_) (fun hc => ?_)
                          · have hf := ifp hc hf
                            refine lv_iconst (v := (0 : Int32)) hx hb dL_refused_238 (by decide) ?_
                            have hq := Option.some.inj hf
                            exact q_zret hx hb hr hlk hP hS rfl (congrArg Prod.fst hq) (congrArg Prod.snd hq) dL_refused_239
                          · have hf := ifn (fun h => h hc) hf
                            refine lv_aload_n hx hb dL_refused_135 rfl (lv_at hl 1 rfl) ?_
                            refine lv_iload_n hx hb dL_refused_136 rfl (lv_at hl 0 rfl) ?_
                            obtain ⟨⟨v137, σ137⟩, h137, hf⟩ := bnd hf
                            dsimp only at hf
                            refine q_cVi (As := [.int (a2 - (999 : Int32))]) hx hb hts hml hown hK hP hS (c_X6_helps l D w σ128 (a2 - (999 : Int32)) v137 σ137 hJ h137) hw_L_50 hd_X6_helps ⟨rfl, rfl, rfl⟩ o0 (ce6 kd0) rfl ⟨Nat.le_of_ble_eq_true rfl, Nat.le_of_ble_eq_true rfl⟩ ⟨Nat.le_of_ble_eq_true rfl, Nat.le_of_ble_eq_true rfl⟩ hl.1 rfl (Nat.le_of_ble_eq_true rfl) dL_refused_137 (fun H locs hP hS => ?_)
                            refine lv_iconst (v := (-1 : Int32)) hx hb dL_refused_140 (by decide) ?_
                            refine lv_icmp_ne (tgt := 238) hx hb dL_refused_141 (by decide) (fun hc => ?_) (fun hc => ?_)
                            · have hf := ifp hc hf
                              refine lv_iconst (v := (0 : Int32)) hx hb dL_refused_238 (by decide) ?_
                              have hq := Option.some.inj hf
                              exact q_zret hx hb hr hlk hP hS rfl (congrArg Prod.fst hq) (congrArg Prod.snd hq) dL_refused_239
                            · have hf := ifn (fun h => h hc) hf
                              refine lv_aload_n hx hb dL_refused_144 rfl (lv_at hl 1 rfl) ?_
                              refine lv_iload_n hx hb dL_refused_145 rfl (lv_at hl 0 rfl) ?_
                              obtain ⟨⟨v146, σ146⟩, h146, hf⟩ := bnd hf
                              dsimp only at hf
                              refine q_cVi (As := [.int (a2 - (999 : Int32))]) hx hb hts hml hown hK hP hS (c_X6_paints l D w σ137 (a2 - (999 : Int32)) v146 σ146 hJ h146) hw_L_53 hd_X6_paints ⟨rfl, rfl, rfl⟩ o0 (ce6 kd0) rfl ⟨Nat.le_of_ble_eq_true rfl, Nat.le_of_ble_eq_true rfl⟩ ⟨Nat.le_of_ble_eq_true rfl, Nat.le_of_ble_eq_true rfl⟩ hl.1 rfl (Nat.le_of_ble_eq_true rfl) dL_refused_146 (fun H locs hP hS => ?_)
                              refine lv_iconst (v := (-1 : Int32)) hx hb dL_refused_149 (by decide) ?_
                              refine lv_icmp_ne (tgt := 238) hx hb dL_refused_150 (by decide) (fun hc => ?_) (fun hc => ?_)
                              · have hf := ifp hc hf
                                refine lv_iconst (v := (0 : Int32)) hx hb dL_refused_238 (by decide) ?_
                                have hq := Option.some.inj hf
                                exact q_zret hx hb hr hlk hP hS rfl (congrArg Prod.fst hq) (congrArg Prod.snd hq) dL_refused_239
                              · have hf := ifn (fun h => h hc) hf
                                refine lv_aload_n hx hb dL_refused_153 rfl (lv_at hl 1 rfl) ?_
                                refine lv_iload_n hx hb dL_refused_154 rfl (lv_at hl 0 rfl) ?_
                                obtain ⟨⟨v155, σ155⟩, h155, hf⟩ := bnd hf
                                dsimp only at hf
                                refine q_cVi (As := [.int (a2 - (999 : Int32))]) hx hb hts hml hown hK hP hS (c_X6_cover l D w σ146 (a2 - (999 : Int32)) v155 σ155 hJ h155) hw_L_56 hd_X6_cover ⟨rfl, rfl, rfl⟩ o0 (ce6 kd0) rfl ⟨Nat.le_of_ble_eq_true rfl, Nat.le_of_ble_eq_true rfl⟩ ⟨Nat.le_of_ble_eq_true rfl, Nat.le_of_ble_eq_true rfl⟩ hl.1 rfl (Nat.le_of_ble_eq_true rfl) dL_refused_155 (fun H locs hP hS => ?_)
                                refine lv_iconst (v := (-1 : Int32)) hx hb dL_refused_158 (by decide) ?_
                                refine lv_icmp_ne (tgt := 238) hx hb dL_refused_159 (by decide) (fun hc => ?_) (fun hc => ?_)
                                · have hf := ifp hc hf
                                  refine lv_iconst (v := (0 : Int32)) hx hb dL_refused_238 (by decide) ?_
                                  have hq := Option.some.inj hf
                                  exact q_zret hx hb hr hlk hP hS rfl (congrArg Prod.fst hq) (congrArg Prod.snd hq) dL_refused_239
                                · have hf := ifn (fun h => h hc) hf
                                  refine lv_aload_n hx hb dL_refused_162 rfl (lv_at hl 1 rfl) ?_
                                  refine lv_iload_n hx hb dL_refused_163 rfl (lv_at hl 0 rfl) ?_
                                  refine lv_iconst (v := (0 : Int32)) hx hb dL_refused_164 (by decide) ?_
                                  obtain ⟨v165, h165, hf⟩ := bnd hf
                                  refine q_cVi (As := [.int (a2 - (999 : Int32)), .int (0 : Int32)]) hx hb hts hml hown hK hP hS (c_X6_far l D w σ155 (a2 - (999 : Int32)) (0 : Int32) v165 h165) hw_L_59 hd_X6_far ⟨rfl, rfl, rfl⟩ o0 (ce6 kd0) rfl ⟨Nat.le_of_ble_eq_true rfl, Nat.le_of_ble_eq_true rfl⟩ ⟨Nat.le_of_ble_eq_true rfl, Nat.le_of_ble_eq_true rfl⟩ hl.1 rfl (Nat.le_of_ble_eq_true rfl) dL_refused_165 (fun H locs hP hS => ?_)
                                  refine lv_iconst (v := (-1 : Int32)) hx hb dL_refused_168 (by decide) ?_
                                  refine lv_icmp_ne (tgt := 238) hx hb dL_refused_169 (by decide) (fun hc => ?_) (fun hc => ?_)
                                  · have hf := ifp hc hf
                                    refine lv_iconst (v := (0 : Int32)) hx hb dL_refused_238 (by decide) ?_
                                    have hq := Option.some.inj hf
                                    exact q_zret hx hb hr hlk hP hS rfl (congrArg Prod.fst hq) (congrArg Prod.snd hq) dL_refused_239
                                  · have hf := ifn (fun h => h hc) hf
                                    refine lv_aload_n hx hb dL_refused_172 rfl (lv_at hl 1 rfl) ?_
                                    refine lv_iconst (v := (0 : Int32)) hx hb dL_refused_173 (by decide) ?_
                                    refine lv_iconst (v := (0 : Int32)) hx hb dL_refused_174 (by decide) ?_
                                    refine lv_iload_n hx hb dL_refused_175 rfl (lv_at hl 0 rfl) ?_
                                    obtain ⟨⟨v176, σ176⟩, h176, hf⟩ := bnd hf
                                    dsimp only at hf
                                    refine q_cVi (As := [.int (0 : Int32), .int (0 : Int32), .int (a2 - (999 : Int32))]) hx hb hts hml hown hK hP hS (c_X6_told l D w σ155 (0 : Int32) (0 : Int32) (a2 - (999 : Int32)) v176 σ176 hJ h176) hw_L_62 hd_X6_told ⟨rfl, rfl, rfl⟩ o0 (ce6 kd0) rfl ⟨Nat.le_of_ble_eq_true rfl, Nat.le_of_ble_eq_true rfl⟩ ⟨Nat.le_of_ble_eq_true rfl, Nat.le_of_ble_eq_true rfl⟩ hl.1 rfl (Nat.le_of_ble_eq_true rfl) dL_refused_176 (fun H locs hP hS => ?_)
                                    refine lv_iconst (v := (-1 : Int32)) hx hb dL_refused_179 (by decide) ?_
                                    refine lv_icmp_ne (tgt := 238) hx hb dL_refused_180 (by decide) (fun hc => ?_) (fun hc => ?_)
                                    · have hf := ifp hc hf
                                      refine lv_iconst (v := (0 : Int32)) hx hb dL_refused_238 (by decide) ?_
                                      have hq := Option.some.inj hf
                                      exact q_zret hx hb hr hlk hP hS rfl (congrArg Prod.fst hq) (congrArg Prod.snd hq) dL_refused_239
                                    · have hf := ifn (fun h => h hc) hf
                                      refine lv_aload_n hx hb dL_refused_183 rfl (lv_at hl 1 rfl) ?_
                                      refine lv_iload_n hx hb dL_refused_184 rfl (lv_at hl 0 rfl) ?_
                                      refine lv_iconst (v := (0 : Int32)) hx hb dL_refused_185 (by decide) ?_
                                      refine lv_iconst (v := (0 : Int32)) hx hb dL_refused_186 (by decide) ?_
                                      obtain ⟨⟨v187, σ187⟩, h187, hf⟩ := bnd hf
                                      dsimp only at hf
                                      refine q_cVi (As := [.int (a2 - (999 : Int32)), .int (0 : Int32), .int (0 : Int32)]) hx hb hts hml hown hK hP hS (c_X6_seen l D w σ176 (a2 - (999 : Int32)) (0 : Int32) (0 : Int32) v187 σ187 hJ h187) hw_L_65 hd_X6_seen ⟨rfl, rfl, rfl⟩ o0 (ce6 kd0) rfl ⟨Nat.le_of_ble_eq_true rfl, Nat.le_of_ble_eq_true rfl⟩ ⟨Nat.le_of_ble_eq_true rfl, Nat.le_of_ble_eq_true rfl⟩ hl.1 rfl (Nat.le_of_ble_eq_true rfl) dL_refused_187 (fun H locs hP hS => ?_)
                                      refine lv_iconst (v := (-1 : Int32)) hx hb dL_refused_190 (by decide) ?_
                                      refine lv_icmp_ne (tgt := 238) hx hb dL_refused_191 (by decide) (fun hc => ?_) (fun hc => ?_)
                                      · have hf := ifp hc hf
                                        refine lv_iconst (v := (0 : Int32)) hx hb dL_refused_238 (by decide) ?_
                                        have hq := Option.some.inj hf
                                        exact q_zret hx hb hr hlk hP hS rfl (congrArg Prod.fst hq) (congrArg Prod.snd hq) dL_refused_239
                                      · have hf := ifn (fun h => h hc) hf
                                        refine lv_aload_n hx hb dL_refused_194 rfl (lv_at hl 1 rfl) ?_
                                        refine lv_iload_n hx hb dL_refused_195 rfl (lv_at hl 0 rfl) ?_
                                        obtain ⟨⟨v196, σ196⟩, h196, hf⟩ := bnd hf
                                        dsimp only at hf
                                        refine q_cVi (As := [.int (a2 - (999 : Int32))]) hx hb hts hml hown hK hP hS (c_X6_kinds l D w σ187 (a2 - (999 : Int32)) v196 σ196 hJ h196) hw_L_68 hd_X6_kinds ⟨rfl, rfl, rfl⟩ o0 (ce6 kd0) rfl ⟨Nat.le_of_ble_eq_true rfl, Nat.le_of_ble_eq_true rfl⟩ ⟨Nat.le_of_ble_eq_true rfl, Nat.le_of_ble_eq_true rfl⟩ hl.1 rfl (Nat.le_of_ble_eq_true rfl) dL_refused_196 (fun H locs hP hS => ?_)
                                        refine lv_iconst (v := (-1 : Int32)) hx hb dL_refused_199 (by decide) ?_
                                        refine lv_icmp_ne (tgt := 238) hx hb dL_refused_200 (by decide) (fun hc => ?_) (fun hc => ?_)
                                        · have hf := ifp hc hf
                                          refine lv_iconst (v := (0 : Int32)) hx hb dL_refused_238 (by decide) ?_
                                          have hq := Option.some.inj hf
                                          exact q_zret hx hb hr hlk hP hS rfl (congrArg Prod.fst hq) (congrArg Prod.snd hq) dL_refused_239
                                        · have hf := ifn (fun h => h hc) hf
                                          refine lv_aload_n hx hb dL_refused_203 rfl (lv_at hl 1 rfl) ?_
                                          refine lv_iconst (v := (0 : Int32)) hx hb dL_refused_204 (by decide) ?_
                                          refine lv_iload_n hx hb dL_refused_205 rfl (lv_at hl 0 rfl) ?_
                                          refine lv_iconst (v := (0 : Int32)) hx hb dL_refused_206 (by decide) ?_
                                          obtain ⟨⟨v207, σ207⟩, h207, hf⟩ := bnd hf
                                          dsimp only at hf
                                          refine q_cVi (As := [.int (0 : Int32), .int (a2 - (999 : Int32)), .int (0 : Int32)]) hx hb hts hml hown hK hP hS (c_X6_likely l D w σ196 (0 : Int32) (a2 - (999 : Int32)) (0 : Int32) v207 σ207 hJ h207) hw_L_71 hd_X6_likely ⟨rfl, rfl, rfl⟩ o0 (ce6 kd0) rfl ⟨Nat.le_of_ble_eq_true rfl, Nat.le_of_ble_eq_true rfl⟩ ⟨Nat.le_of_ble_eq_true rfl, Nat.le_of_ble_eq_true rfl⟩ hl.1 rfl (Nat.le_of_ble_eq_true rfl) dL_refused_207 (fun H locs hP hS => ?_)
                                          refine lv_iconst (v := (-1 : Int32)) hx hb dL_refused_210 (by decide) ?_
                                          refine lv_icmp_ne (tgt := 238) hx hb dL_refused_211 (by decide) (fun hc => ?_) (fun hc => ?_)
                                          · have hf := ifp hc hf
                                            refine lv_iconst (v := (0 : Int32)) hx hb dL_refused_238 (by decide) ?_
                                            have hq := Option.some.inj hf
                                            exact q_zret hx hb hr hlk hP hS rfl (congrArg Prod.fst hq) (congrArg Prod.snd hq) dL_refused_239
                                          · have hf := ifn (fun h => h hc) hf
                                            refine lv_aload_n hx hb dL_refused_214 rfl (lv_at hl 1 rfl) ?_
                                            refine lv_iconst (v := (0 : Int32)) hx hb dL_refused_215 (by decide) ?_
                                            refine lv_iload_n hx hb dL_refused_216 rfl (lv_at hl 0 rfl) ?_
                                            refine lv_iconst (v := (0 : Int32)) hx hb dL_refused_217 (by decide) ?_
                                            obtain ⟨⟨v218, σ218⟩, h218, hf⟩ := bnd hf
                                            dsimp only at hf
                                            refine q_cVi (As := [.int (0 : Int32), .int (a2 - (999 : Int32)), .int (0 : Int32)]) hx hb hts hml hown hK hP hS (c_X6_century l D w σ207 (0 : Int32) (a2 - (999 : Int32)) (0 : Int32) v218 σ218 hJ h218) hw_L_74 hd_X6_century ⟨rfl, rfl, rfl⟩ o0 (ce6 kd0) rfl ⟨Nat.le_of_ble_eq_true rfl, Nat.le_of_ble_eq_true rfl⟩ ⟨Nat.le_of_ble_eq_true rfl, Nat.le_of_ble_eq_true rfl⟩ hl.1 rfl (Nat.le_of_ble_eq_true rfl) dL_refused_218 (fun H locs hP hS => ?_)
                                            refine lv_iconst (v := (-1 : Int32)) hx hb dL_refused_221 (by decide) ?_
                                            refine lv_icmp_ne (tgt := 238) hx hb dL_refused_222 (by decide) (fun hc => ?_) (fun hc => ?_)
                                            · have hf := ifp hc hf
                                              refine lv_iconst (v := (0 : Int32)) hx hb dL_refused_238 (by decide) ?_
                                              have hq := Option.some.inj hf
                                              exact q_zret hx hb hr hlk hP hS rfl (congrArg Prod.fst hq) (congrArg Prod.snd hq) dL_refused_239
                                            · have hf := ifn (fun h => h hc) hf
                                              refine lv_aload_n hx hb dL_refused_225 rfl (lv_at hl 1 rfl) ?_
                                              refine lv_iload_n hx hb dL_refused_226 rfl (lv_at hl 0 rfl) ?_
                                              obtain ⟨v227, h227, hf⟩ := bnd hf
                                              refine q_cVi (As := [.int (a2 - (999 : Int32))]) hx hb hts hml hown hK hP hS (c_X6_count l D w σ218 (a2 - (999 : Int32)) v227 h227) hw_L_77 hd_X6_count ⟨rfl, rfl, rfl⟩ o0 (ce6 kd0) rfl ⟨Nat.le_of_ble_eq_true rfl, Nat.le_of_ble_eq_true rfl⟩ ⟨Nat.le_of_ble_eq_true rfl, Nat.le_of_ble_eq_true rfl⟩ hl.1 rfl (Nat.le_of_ble_eq_true rfl) dL_refused_227 (fun H locs hP hS => ?_)
                                              refine lv_iconst (v := (-1 : Int32)) hx hb dL_refused_230 (by decide) ?_
                                              refine lv_icmp_ne (tgt := 238) hx hb dL_refused_231 (by decide) (fun hc => ?_) (fun hc => ?_)
                                              · have hf := ifp hc hf
                                                refine lv_iconst (v := (0 : Int32)) hx hb dL_refused_238 (by decide) ?_
                                                have hq := Option.some.inj hf
                                                exact q_zret hx hb hr hlk hP hS rfl (congrArg Prod.fst hq) (congrArg Prod.snd hq) dL_refused_239
                                              · have hf := ifn (fun h => h hc) hf
                                                refine lv_iconst (v := (1 : Int32)) hx hb dL_refused_234 (by decide) ?_
                                                refine lv_goto (tgt := 239) hx hb dL_refused_235 (by decide) ?_
                                                have hq := Option.some.inj hf
                                                exact q_zret hx hb hr hlk hP hS rfl (congrArg Prod.fst hq) (congrArg Prod.snd hq) dL_refused_239
def f_L_turn (σ : Sg) (a2 : Int32) : Option (Int32 × Sg) :=
  if (a2 &&& (15 : Int32)) = (0 : Int32) then
  (f_L_low σ (a2 >>> ((4 : Int32) &&& 31)) (4 : Int32)).bind fun v88 =>
  (f_X6_pass σ ((1 : Int32) + v88)).bind fun q92 =>
  some (q92.1, q92.2)
  else if (a2 &&& (15 : Int32)) = (1 : Int32) then
  (f_L_low σ (a2 >>> ((4 : Int32) &&& 31)) (4 : Int32)).bind fun v88 =>
  (f_X6_pass σ ((1 : Int32) + v88)).bind fun q92 =>
  some (q92.1, q92.2)
  else if (a2 &&& (15 : Int32)) = (2 : Int32) then
  (f_X6_year σ).bind fun q97 =>
  some (q97.1, q97.2)
  else if (a2 &&& (15 : Int32)) = (3 : Int32) then
  (f_L_low σ (a2 >>> ((4 : Int32) &&& 31)) (6 : Int32)).bind fun v105 =>
  (f_L_low σ ((a2 >>> ((4 : Int32) &&& 31)) >>> ((3 : Int32) &&& 31)) (6 : Int32)).bind fun v113 =>
  (f_L_low σ ((a2 >>> ((4 : Int32) &&& 31)) >>> ((6 : Int32) &&& 31)) (10 : Int32)).bind fun v122 =>
  (f_X6_lays σ v105 v113 v122).bind fun q125 =>
  some (q125.1, q125.2)
  else if (a2 &&& (15 : Int32)) = (4 : Int32) then
  (f_L_low σ (a2 >>> ((4 : Int32) &&& 31)) (5 : Int32)).bind fun v132 =>
  (f_X6_paint σ v132).bind fun q135 =>
  some (q135.1, q135.2)
  else if (a2 &&& (15 : Int32)) = (5 : Int32) then
  (f_L_low σ (a2 >>> ((4 : Int32) &&& 31)) (5 : Int32)).bind fun v142 =>
  (f_L_low σ ((a2 >>> ((4 : Int32) &&& 31)) >>> ((3 : Int32) &&& 31)) (6 : Int32)).bind fun v150 =>
  (f_X6_move σ v142 v150).bind fun q153 =>
  some (q153.1, q153.2)
  else if (a2 &&& (15 : Int32)) = (6 : Int32) then
  if ¬ ((a2 >>> ((4 : Int32) &&& 31)) &&& (7 : Int32)) = 0 then
  (f_L_low σ ((a2 >>> ((4 : Int32) &&& 31)) >>> ((3 : Int32) &&& 31)) (5 : Int32)).bind fun v183 =>
  (f_X6_paint σ v183).bind fun q186 =>
  some (q186.1, q186.2)
  else
  (f_L_low σ ((a2 >>> ((4 : Int32) &&& 31)) >>> ((3 : Int32) &&& 31)) (5 : Int32)).bind fun v169 =>
  (f_X6_retire σ v169).bind fun q172 =>
  some (q172.1, q172.2)
  else if (a2 &&& (15 : Int32)) = (7 : Int32) then
  (f_X6_undo σ).bind fun q191 =>
  some (q191.1, q191.2)
  else if (a2 &&& (15 : Int32)) = (8 : Int32) then
  if ¬ ((a2 >>> ((4 : Int32) &&& 31)) &&& (1 : Int32)) = 0 then
  (f_X6_back σ).bind fun q209 =>
  some (q209.1, q209.2)
  else
  (f_X6_keep σ).bind fun q202 =>
  some (q202.1, q202.2)
  else if (a2 &&& (15 : Int32)) = (9 : Int32) then
  if ¬ ((a2 >>> ((4 : Int32) &&& 31)) &&& (7 : Int32)) = 0 then
  if ¬ ((a2 >>> ((4 : Int32) &&& 31)) &&& (8 : Int32)) = 0 then
  (f_L_low σ ((a2 >>> ((4 : Int32) &&& 31)) >>> ((4 : Int32) &&& 31)) (5 : Int32)).bind fun v272 =>
  (f_L_low σ ((a2 >>> ((4 : Int32) &&& 31)) >>> ((7 : Int32) &&& 31)) (6 : Int32)).bind fun v281 =>
  (f_L_low σ ((a2 >>> ((4 : Int32) &&& 31)) >>> ((10 : Int32) &&& 31)) (6 : Int32)).bind fun v290 =>
  (f_X6_seen σ v272 v281 v290).bind fun q293 =>
  some (q293.1, q293.2)
  else
  (f_L_low σ ((a2 >>> ((4 : Int32) &&& 31)) >>> ((4 : Int32) &&& 31)) (6 : Int32)).bind fun v240 =>
  (f_L_low σ ((a2 >>> ((4 : Int32) &&& 31)) >>> ((7 : Int32) &&& 31)) (6 : Int32)).bind fun v249 =>
  (f_L_low σ ((a2 >>> ((4 : Int32) &&& 31)) >>> ((10 : Int32) &&& 31)) (14 : Int32)).bind fun v258 =>
  (f_X6_told σ v240 v249 v258).bind fun q261 =>
  some (q261.1, q261.2)
  else
  (f_X6_forget σ).bind fun q221 =>
  some (q221.1, q221.2)
  else if (a2 &&& (15 : Int32)) = (10 : Int32) then
  (f_L_low σ (a2 >>> ((4 : Int32) &&& 31)) (4 : Int32)).bind fun v300 =>
  (f_X6_comes σ v300).bind fun q303 =>
  some (q303.1, q303.2)
  else if (a2 &&& (15 : Int32)) = (11 : Int32) then
  if ¬ ((a2 >>> ((4 : Int32) &&& 31)) &&& (1 : Int32)) = 0 then
  (f_L_low σ ((a2 >>> ((4 : Int32) &&& 31)) >>> ((1 : Int32) &&& 31)) (5 : Int32)).bind fun v325 =>
  (f_X6_kinds σ v325).bind fun q328 =>
  some (q328.1, q328.2)
  else
  (f_X6_stood σ).bind fun v314 =>
  some (v314, σ)
  else if (a2 &&& (15 : Int32)) = (12 : Int32) then
  if ¬ ((a2 >>> ((4 : Int32) &&& 31)) &&& (1 : Int32)) = 0 then
  (f_X6_next σ).bind fun v346 =>
  some (v346, σ)
  else
  (f_X6_lost σ).bind fun q339 =>
  some (q339.1, q339.2)
  else if (a2 &&& (15 : Int32)) = (13 : Int32) then
  if ¬ ((a2 >>> ((4 : Int32) &&& 31)) &&& (1 : Int32)) = 0 then
  (f_L_low σ ((a2 >>> ((4 : Int32) &&& 31)) >>> ((1 : Int32) &&& 31)) (4 : Int32)).bind fun v373 =>
  (f_L_low σ ((a2 >>> ((4 : Int32) &&& 31)) >>> ((3 : Int32) &&& 31)) (41 : Int32)).bind fun v381 =>
  (f_X6_trail σ v373 v381).bind fun q384 =>
  some (q384.1, q384.2)
  else
  (f_X6_helps σ (((a2 >>> ((4 : Int32) &&& 31)) >>> ((1 : Int32) &&& 31)) &&& (1 : Int32))).bind fun q362 =>
  some (q362.1, q362.2)
  else if (a2 &&& (15 : Int32)) = (14 : Int32) then
  if ¬ ((a2 >>> ((4 : Int32) &&& 31)) &&& (7 : Int32)) = 0 then
  (f_L_low σ ((a2 >>> ((4 : Int32) &&& 31)) >>> ((3 : Int32) &&& 31)) (6 : Int32)).bind fun v429 =>
  (f_L_low σ ((a2 >>> ((4 : Int32) &&& 31)) >>> ((6 : Int32) &&& 31)) (6 : Int32)).bind fun v438 =>
  (f_X6_far σ v429 v438).bind fun v441 =>
  some (v441, σ)
  else
  (f_L_low σ ((a2 >>> ((4 : Int32) &&& 31)) >>> ((3 : Int32) &&& 31)) (4 : Int32)).bind fun v400 =>
  (f_L_low σ ((a2 >>> ((4 : Int32) &&& 31)) >>> ((5 : Int32) &&& 31)) (11 : Int32)).bind fun v408 =>
  (f_X6_likely σ v400 v408 (((a2 >>> ((4 : Int32) &&& 31)) >>> ((9 : Int32) &&& 31)) &&& (1 : Int32))).bind fun q417 =>
  some (q417.1, q417.2)
  else (f_L_low σ (a2 >>> ((4 : Int32) &&& 31)) (10000 : Int32)).bind fun v450 =>
  (f_L_low σ ((a2 >>> ((4 : Int32) &&& 31)) >>> ((14 : Int32) &&& 31)) (12 : Int32)).bind fun v460 =>
  (f_L_low σ ((a2 >>> ((4 : Int32) &&& 31)) >>> ((18 : Int32) &&& 31)) (3 : Int32)).bind fun v469 =>
  (f_X6_century σ v450 ((1 : Int32) + v460) v469).bind fun q472 =>
  some (q472.1, q472.2)
set_option maxHeartbeats 4000000 in
set_option maxRecDepth 100000 in
theorem c_L_turn (l : Launch) (D : va_G) (w : Wv) (σ : Sg) (a2 : Int32) (r : Int32) (σ' : Sg)  (hJ : Inj w) (hf : f_L_turn σ a2 = some (r, σ')) : Met l yL_turn (.code yL_turn cL_turn 3 (some .int) :: TB) (rmW 7 173) (pcW D w [.ref (w.1 (0)), .int a2] σ) (qiW D w r σ') 0 0 (AL w) := by
  refine q_open (by decide +kernel) (Nat.le_of_ble_eq_true rfl) ?_
  intro p e s m args below meth c ls hx hb hml hr hlk hown hts hK hP hS hl
  have hown : s.vm.findClass RL = some m.cls := hown
  have hl : lv_has ls 3 [(0, .ref (w.1 (0))), (1, .int a2)] := hl
  unfold f_L_turn at hf
  refine lv_iload_n hx hb dL_turn_0 rfl (lv_at hl 1 rfl) ?_
  refine lv_iconst (v := (4 : Int32)) hx hb dL_turn_1 (by decide) ?_
  refine lv_ishr hx hb dL_turn_2 ?_
  refine lv_istore_n (lv' := [(2, .int (a2 >>> ((4 : Int32) &&& 31))), (0, .ref (w.1 (0))), (1, .int a2)]) hx hb dL_turn_3 rfl hl (by decide) rfl (fun ls hl => ?_)
  refine lv_iload_n hx hb dL_turn_4 rfl (lv_at hl 2 rfl) ?_
  refine lv_bipush (v := (15 : Int32)) hx hb dL_turn_5 (by decide) ?_
  refine lv_iand hx hb dL_turn_7 ?_
  rcases Decidable.em ((a2 &&& (15 : Int32)) = (0 : Int32)) with hc | hc0
  · have hf := ifp hc hf
    refine lv_tableIn (off := 76) (tgt := 84) hx hb dL_turn_8 (by rw [hc]; decide) (by rw [hc]; decide) (by rw [hc]; rfl) (by decide) ?_
    refine lv_aload_n hx hb dL_turn_84 rfl (lv_at hl 1 rfl) ?_
    refine lv_iconst (v := (1 : Int32)) hx hb dL_turn_85 (by decide) ?_
    refine lv_iload_n hx hb dL_turn_86 rfl (lv_at hl 0 rfl) ?_
    refine lv_iconst (v := (4 : Int32)) hx hb dL_turn_87 (by decide) ?_
    obtain ⟨v88, h88, hf⟩ := bnd hf
    refine q_cSi (As := [.int (a2 >>> ((4 : Int32) &&& 31)), .int (4 : Int32)]) hx hb hts hml hown hK hP hS (c_L_low l D w σ (a2 >>> ((4 : Int32) &&& 31)) (4 : Int32) v88 h88) hw_L_80 hd_L_low ⟨rfl, rfl, rfl⟩ ⟨Nat.le_of_ble_eq_true rfl, Nat.le_of_ble_eq_true rfl⟩ ⟨Nat.le_of_ble_eq_true rfl, Nat.le_of_ble_eq_true rfl⟩ hl.1 rfl (Nat.le_of_ble_eq_true rfl) dL_turn_88 (fun H locs hP hS => ?_)
    refine lv_iadd hx hb dL_turn_91 ?_
    obtain ⟨⟨v92, σ92⟩, h92, hf⟩ := bnd hf
    dsimp only at hf
    refine q_cVi (As := [.int ((1 : Int32) + v88)]) hx hb hts hml hown hK hP hS (c_X6_pass l D w σ ((1 : Int32) + v88) v92 σ92 hJ h92) hw_L_29 hd_X6_pass ⟨rfl, rfl, rfl⟩ o0 (ce6 kd0) rfl ⟨Nat.le_of_ble_eq_true rfl, Nat.le_of_ble_eq_true rfl⟩ ⟨Nat.le_of_ble_eq_true rfl, Nat.le_of_ble_eq_true rfl⟩ hl.1 rfl (Nat.le_of_ble_eq_true rfl) dL_turn_92 (fun H locs hP hS => ?_)
    have hq := Option.some.inj hf
    exact q_iret hx hb hr hlk hP hS (congrArg Prod.fst hq) (congrArg Prod.snd hq) dL_turn_95
  have hf := ifn hc0 hf
  rcases Decidable.em ((a2 &&& (15 : Int32)) = (1 : Int32)) with hc | hc1
  · have hf := ifp hc hf
    refine lv_tableIn (off := 76) (tgt := 84) hx hb dL_turn_8 (by rw [hc]; decide) (by rw [hc]; decide) (by rw [hc]; rfl) (by decide) ?_
    refine lv_aload_n hx hb dL_turn_84 rfl (lv_at hl 1 rfl) ?_
    refine lv_iconst (v := (1 : Int32)) hx hb dL_turn_85 (by decide) ?_
    refine lv_iload_n hx hb dL_turn_86 rfl (lv_at hl 0 rfl) ?_
    refine lv_iconst (v := (4 : Int32)) hx hb dL_turn_87 (by decide) ?_
    obtain ⟨v88, h88, hf⟩ := bnd hf
    refine q_cSi (As := [.int (a2 >>> ((4 : Int32) &&& 31)), .int (4 : Int32)]) hx hb hts hml hown hK hP hS (c_L_low l D w σ (a2 >>> ((4 : Int32) &&& 31)) (4 : Int32) v88 h88) hw_L_80 hd_L_low ⟨rfl, rfl, rfl⟩ ⟨Nat.le_of_ble_eq_true rfl, Nat.le_of_ble_eq_true rfl⟩ ⟨Nat.le_of_ble_eq_true rfl, Nat.le_of_ble_eq_true rfl⟩ hl.1 rfl (Nat.le_of_ble_eq_true rfl) dL_turn_88 (fun H locs hP hS => ?_)
    refine lv_iadd hx hb dL_turn_91 ?_
    obtain ⟨⟨v92, σ92⟩, h92, hf⟩ := bnd hf
    dsimp only at hf
    refine q_cVi (As := [.int ((1 : Int32) + v88)]) hx hb hts hml hown hK hP hS (c_X6_pass l D w σ ((1 : Int32) + v88) v92 σ92 hJ h92) hw_L_29 hd_X6_pass ⟨rfl, rfl, rfl⟩ o0 (ce6 kd0) rfl ⟨Nat.le_of_ble_eq_true rfl, Nat.le_of_ble_eq_true rfl⟩ ⟨Nat.le_of_ble_eq_true rfl, Nat.le_of_ble_eq_true rfl⟩ hl.1 rfl (Nat.le_of_ble_eq_true rfl) dL_turn_92 (fun H locs hP hS => ?_)
    have hq := Option.some.inj hf
    exact q_iret hx hb hr hlk hP hS (congrArg Prod.fst hq) (congrArg Prod.snd hq) dL_turn_95
  have hf := ifn hc1 hf
  rcases Decidable.em ((a2 &&& (15 : Int32)) = (2 : Int32)) with hc | hc2
  · have hf := ifp hc hf
    refine lv_tableIn (off := 88) (tgt := 96) hx hb dL_turn_8 (by rw [hc]; decide) (by rw [hc]; decide) (by rw [hc]; rfl) (by decide) ?_
    refine lv_aload_n hx hb dL_turn_96 rfl (lv_at hl 1 rfl) ?_
    obtain ⟨⟨v97, σ97⟩, h97, hf⟩ := bnd hf
    dsimp only at hf
    refine q_cVi (As := []) hx hb hts hml hown hK hP hS (c_X6_year l D w σ v97 σ97 hJ h97) hw_L_85 hd_X6_year ⟨rfl, rfl, rfl⟩ o0 (ce6 kd0) rfl ⟨Nat.le_of_ble_eq_true rfl, Nat.le_of_ble_eq_true rfl⟩ ⟨Nat.le_of_ble_eq_true rfl, Nat.le_of_ble_eq_true rfl⟩ hl.1 rfl (Nat.le_of_ble_eq_true rfl) dL_turn_97 (fun H locs hP hS => ?_)
    have hq := Option.some.inj hf
    exact q_iret hx hb hr hlk hP hS (congrArg Prod.fst hq) (congrArg Prod.snd hq) dL_turn_100
  have hf := ifn hc2 hf
  rcases Decidable.em ((a2 &&& (15 : Int32)) = (3 : Int32)) with hc | hc3
  · have hf := ifp hc hf
    refine lv_tableIn (off := 93) (tgt := 101) hx hb dL_turn_8 (by rw [hc]; decide) (by rw [hc]; decide) (by rw [hc]; rfl) (by decide) ?_
    refine lv_aload_n hx hb dL_turn_101 rfl (lv_at hl 1 rfl) ?_
    refine lv_iload_n hx hb dL_turn_102 rfl (lv_at hl 0 rfl) ?_
    refine lv_bipush (v := (6 : Int32)) hx hb dL_turn_103 (by decide) ?_
    obtain ⟨v105, h105, hf⟩ := bnd hf
    refine q_cSi (As := [.int (a2 >>> ((4 : Int32) &&& 31)), .int (6 : Int32)]) hx hb hts hml hown hK hP hS (c_L_low l D w σ (a2 >>> ((4 : Int32) &&& 31)) (6 : Int32) v105 h105) hw_L_80 hd_L_low ⟨rfl, rfl, rfl⟩ ⟨Nat.le_of_ble_eq_true rfl, Nat.le_of_ble_eq_true rfl⟩ ⟨Nat.le_of_ble_eq_true rfl, Nat.le_of_ble_eq_true rfl⟩ hl.1 rfl (Nat.le_of_ble_eq_true rfl) dL_turn_105 (fun H locs hP hS => ?_)
    refine lv_iload_n hx hb dL_turn_108 rfl (lv_at hl 0 rfl) ?_
    refine lv_iconst (v := (3 : Int32)) hx hb dL_turn_109 (by decide) ?_
    refine lv_ishr hx hb dL_turn_110 ?_
    refine lv_bipush (v := (6 : Int32)) hx hb dL_turn_111 (by decide) ?_
    obtain ⟨v113, h113, hf⟩ := bnd hf
    refine q_cSi (As := [.int ((a2 >>> ((4 : Int32) &&& 31)) >>> ((3 : Int32) &&& 31)), .int (6 : Int32)]) hx hb hts hml hown hK hP hS (c_L_low l D w σ ((a2 >>> ((4 : Int32) &&& 31)) >>> ((3 : Int32) &&& 31)) (6 : Int32) v113 h113) hw_L_80 hd_L_low ⟨rfl, rfl, rfl⟩ ⟨Nat.le_of_ble_eq_true rfl, Nat.le_of_ble_eq_true rfl⟩ ⟨Nat.le_of_ble_eq_true rfl, Nat.le_of_ble_eq_true rfl⟩ hl.1 rfl (Nat.le_of_ble_eq_true rfl) dL_turn_113 (fun H locs hP hS => ?_)
    refine lv_iload_n hx hb dL_turn_116 rfl (lv_at hl 0 rfl) ?_
    refine lv_bipush (v := (6 : Int32)) hx hb dL_turn_117 (by decide) ?_
    refine lv_ishr hx hb dL_turn_119 ?_
    refine lv_bipush (v := (10 : Int32)) hx hb dL_turn_120 (by decide) ?_
    obtain ⟨v122, h122, hf⟩ := bnd hf
    refine q_cSi (As := [.int ((a2 >>> ((4 : Int32) &&& 31)) >>> ((6 : Int32) &&& 31)), .int (10 : Int32)]) hx hb hts hml hown hK hP hS (c_L_low l D w σ ((a2 >>> ((4 : Int32) &&& 31)) >>> ((6 : Int32) &&& 31)) (10 : Int32) v122 h122) hw_L_80 hd_L_low ⟨rfl, rfl, rfl⟩ ⟨Nat.le_of_ble_eq_true rfl, Nat.le_of_ble_eq_true rfl⟩ ⟨Nat.le_of_ble_eq_true rfl, Nat.le_of_ble_eq_true rfl⟩ hl.1 rfl (Nat.le_of_ble_eq_true rfl) dL_turn_122 (fun H locs hP hS => ?_)
    obtain ⟨⟨v125, σ125⟩, h125, hf⟩ := bnd hf
    dsimp only at hf
    refine q_cVi (As := [.int v105, .int v113, .int v122]) hx hb hts hml hown hK hP hS (c_X6_lays l D w σ v105 v113 v122 v125 σ125 hJ h125) hw_L_32 hd_X6_lays ⟨rfl, rfl, rfl⟩ o0 (ce6 kd0) rfl ⟨Nat.le_of_ble_eq_true rfl, Nat.le_of_ble_eq_true rfl⟩ ⟨Nat.le_of_ble_eq_true rfl, Nat.le_of_ble_eq_true rfl⟩ hl.1 rfl (Nat.le_of_ble_eq_true rfl) dL_turn_125 (fun H locs hP hS => ?_)
    have hq := Option.some.inj hf
    exact q_iret hx hb hr hlk hP hS (congrArg Prod.fst hq) (congrArg Prod.snd hq) dL_turn_128
  have hf := ifn hc3 hf
  rcases Decidable.em ((a2 &&& (15 : Int32)) = (4 : Int32)) with hc | hc4
  · have hf := ifp hc hf
    refine lv_tableIn (off := 121) (tgt := 129) hx hb dL_turn_8 (by rw [hc]; decide) (by rw [hc]; decide) (by rw [hc]; rfl) (by decide) ?_
    refine lv_aload_n hx hb dL_turn_129 rfl (lv_at hl 1 rfl) ?_
    refine lv_iload_n hx hb dL_turn_130 rfl (lv_at hl 0 rfl) ?_
    refine lv_iconst (v := (5 : Int32)) hx hb dL_turn_131 (by decide) ?_
    obtain ⟨v132, h132, hf⟩ := bnd hf
    refine q_cSi (As := [.int (a2 >>> ((4 : Int32) &&& 31)), .int (5 : Int32)]) hx hb hts hml hown hK hP hS (c_L_low l D w σ (a2 >>> ((4 : Int32) &&& 31)) (5 : Int32) v132 h132) hw_L_80 hd_L_low ⟨rfl, rfl, rfl⟩ ⟨Nat.le_of_ble_eq_true rfl, Nat.le_of_ble_eq_true rfl⟩ ⟨Nat.le_of_ble_eq_true rfl, Nat.le_of_ble_eq_true rfl⟩ hl.1 rfl (Nat.le_of_ble_eq_true rfl) dL_turn_132 (fun H locs hP hS => ?_)
    obtain ⟨⟨v135, σ135⟩, h135, hf⟩ := bnd hf
    dsimp only at hf
    refine q_cVi (As := [.int v132]) hx hb hts hml hown hK hP hS (c_X6_paint l D w σ v132 v135 σ135 hJ h135) hw_L_35 hd_X6_paint ⟨rfl, rfl, rfl⟩ o0 (ce6 kd0) rfl ⟨Nat.le_of_ble_eq_true rfl, Nat.le_of_ble_eq_true rfl⟩ ⟨Nat.le_of_ble_eq_true rfl, Nat.le_of_ble_eq_true rfl⟩ hl.1 rfl (Nat.le_of_ble_eq_true rfl) dL_turn_135 (fun H locs hP hS => ?_)
    have hq := Option.some.inj hf
    exact q_iret hx hb hr hlk hP hS (congrArg Prod.fst hq) (congrArg Prod.snd hq) dL_turn_138
  have hf := ifn hc4 hf
  rcases Decidable.em ((a2 &&& (15 : Int32)) = (5 : Int32)) with hc | hc5
  · have hf := ifp hc hf
    refine lv_tableIn (off := 131) (tgt := 139) hx hb dL_turn_8 (by rw [hc]; decide) (by rw [hc]; decide) (by rw [hc]; rfl) (by decide) ?_
    refine lv_aload_n hx hb dL_turn_139 rfl (lv_at hl 1 rfl) ?_
    refine lv_iload_n hx hb dL_turn_140 rfl (lv_at hl 0 rfl) ?_
    refine lv_iconst (v := (5 : Int32)) hx hb dL_turn_141 (by decide) ?_
    obtain ⟨v142, h142, hf⟩ := bnd hf
    refine q_cSi (As := [.int (a2 >>> ((4 : Int32) &&& 31)), .int (5 : Int32)]) hx hb hts hml hown hK hP hS (c_L_low l D w σ (a2 >>> ((4 : Int32) &&& 31)) (5 : Int32) v142 h142) hw_L_80 hd_L_low ⟨rfl, rfl, rfl⟩ ⟨Nat.le_of_ble_eq_true rfl, Nat.le_of_ble_eq_true rfl⟩ ⟨Nat.le_of_ble_eq_true rfl, Nat.le_of_ble_eq_true rfl⟩ hl.1 rfl (Nat.le_of_ble_eq_true rfl) dL_turn_142 (fun H locs hP hS => ?_)
    refine lv_iload_n hx hb dL_turn_145 rfl (lv_at hl 0 rfl) ?_
    refine lv_iconst (v := (3 : Int32)) hx hb dL_turn_146 (by decide) ?_
    refine lv_ishr hx hb dL_turn_147 ?_
    refine lv_bipush (v := (6 : Int32)) hx hb dL_turn_148 (by decide) ?_
    obtain ⟨v150, h150, hf⟩ := bnd hf
    refine q_cSi (As := [.int ((a2 >>> ((4 : Int32) &&& 31)) >>> ((3 : Int32) &&& 31)), .int (6 : Int32)]) hx hb hts hml hown hK hP hS (c_L_low l D w σ ((a2 >>> ((4 : Int32) &&& 31)) >>> ((3 : Int32) &&& 31)) (6 : Int32) v150 h150) hw_L_80 hd_L_low ⟨rfl, rfl, rfl⟩ ⟨Nat.le_of_ble_eq_true rfl, Nat.le_of_ble_eq_true rfl⟩ ⟨Nat.le_of_ble_eq_true rfl, Nat.le_of_ble_eq_true rfl⟩ hl.1 rfl (Nat.le_of_ble_eq_true rfl) dL_turn_150 (fun H locs hP hS => ?_)
    obtain ⟨⟨v153, σ153⟩, h153, hf⟩ := bnd hf
    dsimp only at hf
    refine q_cVi (As := [.int v142, .int v150]) hx hb hts hml hown hK hP hS (c_X6_move l D w σ v142 v150 v153 σ153 hJ h153) hw_L_38 hd_X6_move ⟨rfl, rfl, rfl⟩ o0 (ce6 kd0) rfl ⟨Nat.le_of_ble_eq_true rfl, Nat.le_of_ble_eq_true rfl⟩ ⟨Nat.le_of_ble_eq_true rfl, Nat.le_of_ble_eq_true rfl⟩ hl.1 rfl (Nat.le_of_ble_eq_true rfl) dL_turn_153 (fun H locs hP hS => ?_)
    have hq := Option.some.inj hf
    exact q_iret hx hb hr hlk hP hS (congrArg Prod.fst hq) (congrArg Prod.snd hq) dL_turn_156
  have hf := ifn hc5 hf
  rcases Decidable.em ((a2 &&& (15 : Int32)) = (6 : Int32)) with hc | hc6
  · have hf := ifp hc hf
    refine lv_tableIn (off := 149) (tgt := 157) hx hb dL_turn_8 (by rw [hc]; decide) (by rw [hc]; decide) (by rw [hc]; rfl) (by decide) ?_
    refine lv_iload_n hx hb dL_turn_157 rfl (lv_at hl 0 rfl) ?_
    refine lv_bipush (v := (7 : Int32)) hx hb dL_turn_158 (by decide) ?_
    refine lv_iand hx hb dL_turn_160 ?_
    refine lv_if_ne (tgt := 178) hx hb dL_turn_161 (by decide) (fun hc => ?_) (fun hc => ?_)
    · have hf := ifp hc hf
      refine lv_aload_n hx hb dL_turn_178 rfl (lv_at hl 1 rfl) ?_
      refine lv_iload_n hx hb dL_turn_179 rfl (lv_at hl 0 rfl) ?_
      refine lv_iconst (v := (3 : Int32)) hx hb dL_turn_180 (by decide) ?_
      refine lv_ishr hx hb dL_turn_181 ?_
      refine lv_iconst (v := (5 : Int32)) hx hb dL_turn_182 (by decide) ?_
      obtain ⟨v183, h183, hf⟩ := bnd hf
      refine q_cSi (As := [.int ((a2 >>> ((4 : Int32) &&& 31)) >>> ((3 : Int32) &&& 31)), .int (5 : Int32)]) hx hb hts hml hown hK hP hS (c_L_low l D w σ ((a2 >>> ((4 : Int32) &&& 31)) >>> ((3 : Int32) &&& 31)) (5 : Int32) v183 h183) hw_L_80 hd_L_low ⟨rfl, rfl, rfl⟩ ⟨Nat.le_of_ble_eq_true rfl, Nat.le_of_ble_eq_true rfl⟩ ⟨Nat.le_of_ble_eq_true rfl, Nat.le_of_ble_eq_true rfl⟩ hl.1 rfl (Nat.le_of_ble_eq_true rfl) dL_turn_183 (fun H locs hP hS => ?_)
      obtain ⟨⟨v186, σ186⟩, h186, hf⟩ := bnd hf
      dsimp only at hf
      refine q_cVi (As := [.int v183]) hx hb hts hml hown hK hP hS (c_X6_paint l D w σ v183 v186 σ186 hJ h186) hw_L_35 hd_X6_paint ⟨rfl, rfl, rfl⟩ o0 (ce6 kd0) rfl ⟨Nat.le_of_ble_eq_true rfl, Nat.le_of_ble_eq_true rfl⟩ ⟨Nat.le_of_ble_eq_true rfl, Nat.le_of_ble_eq_true rfl⟩ hl.1 rfl (Nat.le_of_ble_eq_true rfl) dL_turn_186 (fun H locs hP hS => ?_)
      have hq := Option.some.inj hf
      exact q_iret hx hb hr hlk hP hS (congrArg Prod.fst hq) (congrArg Prod.snd hq) dL_turn_189
    · have hf := ifn (fun h => h hc) hf
      refine lv_aload_n hx hb dL_turn_164 rfl (lv_at hl 1 rfl) ?_
      refine lv_iload_n hx hb dL_turn_165 rfl (lv_at hl 0 rfl) ?_
      refine lv_iconst (v := (3 : Int32)) hx hb dL_turn_166 (by decide) ?_
      refine lv_ishr hx hb dL_turn_167 ?_
      refine lv_iconst (v := (5 : Int32)) hx hb dL_turn_168 (by decide) ?_
      obtain ⟨v169, h169, hf⟩ := bnd hf
      refine q_cSi (As := [.int ((a2 >>> ((4 : Int32) &&& 31)) >>> ((3 : Int32) &&& 31)), .int (5 : Int32)]) hx hb hts hml hown hK hP hS (c_L_low l D w σ ((a2 >>> ((4 : Int32) &&& 31)) >>> ((3 : Int32) &&& 31)) (5 : Int32) v169 h169) hw_L_80 hd_L_low ⟨rfl, rfl, rfl⟩ ⟨Nat.le_of_ble_eq_true rfl, Nat.le_of_ble_eq_true rfl⟩ ⟨Nat.le_of_ble_eq_true rfl, Nat.le_of_ble_eq_true rfl⟩ hl.1 rfl (Nat.le_of_ble_eq_true rfl) dL_turn_169 (fun H locs hP hS => ?_)
      obtain ⟨⟨v172, σ172⟩, h172, hf⟩ := bnd hf
      dsimp only at hf
      refine q_cVi (As := [.int v169]) hx hb hts hml hown hK hP hS (c_X6_retire l D w σ v169 v172 σ172 hJ h172) hw_L_41 hd_X6_retire ⟨rfl, rfl, rfl⟩ o0 (ce6 kd0) rfl ⟨Nat.le_of_ble_eq_true rfl, Nat.le_of_ble_eq_true rfl⟩ ⟨Nat.le_of_ble_eq_true rfl, Nat.le_of_ble_eq_true rfl⟩ hl.1 rfl (Nat.le_of_ble_eq_true rfl) dL_turn_172 (fun H locs hP hS => ?_)
      refine lv_goto (tgt := 189) hx hb dL_turn_175 (by decide) ?_
      have hq := Option.some.inj hf
      exact q_iret hx hb hr hlk hP hS (congrArg Prod.fst hq) (congrArg Prod.snd hq) dL_turn_189
  have hf := ifn hc6 hf
  rcases Decidable.em ((a2 &&& (15 : Int32)) = (7 : Int32)) with hc | hc7
  · have hf := ifp hc hf
    refine lv_tableIn (off := 182) (tgt := 190) hx hb dL_turn_8 (by rw [hc]; decide) (by rw [hc]; decide) (by rw [hc]; rfl) (by decide) ?_
    refine lv_aload_n hx hb dL_turn_190 rfl (lv_at hl 1 rfl) ?_
    obtain ⟨⟨v191, σ191⟩, h191, hf⟩ := bnd hf
    dsimp only at hf
    refine q_cVi (As := []) hx hb hts hml hown hK hP hS (c_X6_undo l D w σ v191 σ191 hJ h191) hw_L_89 hd_X6_undo ⟨rfl, rfl, rfl⟩ o0 (ce6 kd0) rfl ⟨Nat.le_of_ble_eq_true rfl, Nat.le_of_ble_eq_true rfl⟩ ⟨Nat.le_of_ble_eq_true rfl, Nat.le_of_ble_eq_true rfl⟩ hl.1 rfl (Nat.le_of_ble_eq_true rfl) dL_turn_191 (fun H locs hP hS => ?_)
    have hq := Option.some.inj hf
    exact q_iret hx hb hr hlk hP hS (congrArg Prod.fst hq) (congrArg Prod.snd hq) dL_turn_194
  have hf := ifn hc7 hf
  rcases Decidable.em ((a2 &&& (15 : Int32)) = (8 : Int32)) with hc | hc8
  · have hf := ifp hc hf
    refine lv_tableIn (off := 187) (tgt := 195) hx hb dL_turn_8 (by rw [hc]; decide) (by rw [hc]; decide) (by rw [hc]; rfl) (by decide) ?_
    refine lv_iload_n hx hb dL_turn_195 rfl (lv_at hl 0 rfl) ?_
    refine lv_iconst (v := (1 : Int32)) hx hb dL_turn_196 (by decide) ?_
    refine lv_iand hx hb dL_turn_197 ?_
    refine lv_if_ne (tgt := 208) hx hb dL_turn_198 (by decide) (fun hc => ?_) (fun hc => ?_)
    · have hf := ifp hc hf
      refine lv_aload_n hx hb dL_turn_208 rfl (lv_at hl 1 rfl) ?_
      obtain ⟨⟨v209, σ209⟩, h209, hf⟩ := bnd hf
      dsimp only at hf
      refine q_cVi (As := []) hx hb hts hml hown hK hP hS (c_X6_back l D w σ v209 σ209 hJ h209) hw_L_95 hd_X6_back ⟨rfl, rfl, rfl⟩ o0 (ce6 kd0) rfl ⟨Nat.le_of_ble_eq_true rfl, Nat.le_of_ble_eq_true rfl⟩ ⟨Nat.le_of_ble_eq_true rfl, Nat.le_of_ble_eq_true rfl⟩ hl.1 rfl (Nat.le_of_ble_eq_true rfl) dL_turn_209 (fun H locs hP hS => ?_)
      have hq := Option.some.inj hf
      exact q_iret hx hb hr hlk hP hS (congrArg Prod.fst hq) (congrArg Prod.snd hq) dL_turn_212
    · have hf := ifn (fun h => h hc) hf
      refine lv_aload_n hx hb dL_turn_201 rfl (lv_at hl 1 rfl) ?_
      obtain ⟨⟨v202, σ202⟩, h202, hf⟩ := bnd hf
      dsimp only at hf
      refine q_cVi (As := []) hx hb hts hml hown hK hP hS (c_X6_keep l D w σ v202 σ202 hJ h202) hw_L_92 hd_X6_keep ⟨rfl, rfl, rfl⟩ o0 (ce6 kd0) rfl ⟨Nat.le_of_ble_eq_true rfl, Nat.le_of_ble_eq_true rfl⟩ ⟨Nat.le_of_ble_eq_true rfl, Nat.le_of_ble_eq_true rfl⟩ hl.1 rfl (Nat.le_of_ble_eq_true rfl) dL_turn_202 (fun H locs hP hS => ?_)
      refine lv_goto (tgt := 212) hx hb dL_turn_205 (by decide) ?_
      have hq := Option.some.inj hf
      exact q_iret hx hb hr hlk hP hS (congrArg Prod.fst hq) (congrArg Prod.snd hq) dL_turn_212
  have hf := ifn hc8 hf
  rcases Decidable.em ((a2 &&& (15 : Int32)) = (9 : Int32)) with hc | hc9
  · have hf := ifp hc hf
    refine lv_tableIn (off := 205) (tgt := 213) hx hb dL_turn_8 (by rw [hc]; decide) (by rw [hc]; decide) (by rw [hc]; rfl) (by decide) ?_
    refine lv_iload_n hx hb dL_turn_213 rfl (lv_at hl 0 rfl) ?_
    refine lv_bipush (v := (7 : Int32)) hx hb dL_turn_214 (by decide) ?_
    refine lv_iand hx hb dL_turn_216 ?_
    refine lv_if_ne (tgt := 227) hx hb dL_turn_217 (by decide) (fun hc => ?_) (fun hc => ?_)
    · have hf := ifp hc hf
      refine lv_iload_n hx hb dL_turn_227 rfl (lv_at hl 0 rfl) ?_
      refine lv_bipush (v := (8 : Int32)) hx hb dL_turn_228 (by decide) ?_
      refine lv_iand hx hb dL_turn_230 ?_
      refine lv_if_ne (tgt := 267) hx hb dL_turn_231 (by decide) (fun hc => ?_) (fun hc => ?_)
      · have hf := ifp hc hf
        refine lv_aload_n hx hb dL_turn_267 rfl (lv_at hl 1 rfl) ?_
        refine lv_iload_n hx hb dL_turn_268 rfl (lv_at hl 0 rfl) ?_
        refine lv_iconst (v := (4 : Int32)) hx hb dL_turn_269 (by decide) ?_
        refine lv_ishr hx hb dL_turn_270 ?_
        refine lv_iconst (v := (5 : Int32)) hx hb dL_turn_271 (by decide) ?_
        obtain ⟨v272, h272, hf⟩ := bnd hf
        refine q_cSi (As := [.int ((a2 >>> ((4 : Int32) &&& 31)) >>> ((4 : Int32) &&& 31)), .int (5 : Int32)]) hx hb hts hml hown hK hP hS (c_L_low l D w σ ((a2 >>> ((4 : Int32) &&& 31)) >>> ((4 : Int32) &&& 31)) (5 : Int32) v272 h272) hw_L_80 hd_L_low ⟨rfl, rfl, rfl⟩ ⟨Nat.le_of_ble_eq_true rfl, Nat.le_of_ble_eq_true rfl⟩ ⟨Nat.le_of_ble_eq_true rfl, Nat.le_of_ble_eq_true rfl⟩ hl.1 rfl (Nat.le_of_ble_eq_true rfl) dL_turn_272 (fun H locs hP hS => ?_)
        refine lv_iload_n hx hb dL_turn_275 rfl (lv_at hl 0 rfl) ?_
        refine lv_bipush (v := (7 : Int32)) hx hb dL_turn_276 (by decide) ?_
        refine lv_ishr hx hb dL_turn_278 ?_
        refine lv_bipush (v := (6 : Int32)) hx hb dL_turn_279 (by decide) ?_
        obtain ⟨v281, h281, hf⟩ := bnd hf
        refine q_cSi (As := [.int ((a2 >>> ((4 : Int32) &&& 31)) >>> ((7 : Int32) &&& 31)), .int (6 : Int32)]) hx hb hts hml hown hK hP hS (c_L_low l D w σ ((a2 >>> ((4 : Int32) &&& 31)) >>> ((7 : Int32) &&& 31)) (6 : Int32) v281 h281) hw_L_80 hd_L_low ⟨rfl, rfl, rfl⟩ ⟨Nat.le_of_ble_eq_true rfl, Nat.le_of_ble_eq_true rfl⟩ ⟨Nat.le_of_ble_eq_true rfl, Nat.le_of_ble_eq_true rfl⟩ hl.1 rfl (Nat.le_of_ble_eq_true rfl) dL_turn_281 (fun H locs hP hS => ?_)
        refine lv_iload_n hx hb dL_turn_284 rfl (lv_at hl 0 rfl) ?_
        refine lv_bipush (v := (10 : Int32)) hx hb dL_turn_285 (by decide) ?_
        refine lv_ishr hx hb dL_turn_287 ?_
        refine lv_bipush (v := (6 : Int32)) hx hb dL_turn_288 (by decide) ?_
        obtain ⟨v290, h290, hf⟩ := bnd hf
        refine q_cSi (As := [.int ((a2 >>> ((4 : Int32) &&& 31)) >>> ((10 : Int32) &&& 31)), .int (6 : Int32)]) hx hb hts hml hown hK hP hS (c_L_low l D w σ ((a2 >>> ((4 : Int32) &&& 31)) >>> ((10 : Int32) &&& 31)) (6 : Int32) v290 h290) hw_L_80 hd_L_low ⟨rfl, rfl, rfl⟩ ⟨Nat.le_of_ble_eq_true rfl, Nat.le_of_ble_eq_true rfl⟩ ⟨Nat.le_of_ble_eq_true rfl, Nat.le_of_ble_eq_true rfl⟩ hl.1 rfl (Nat.le_of_ble_eq_true rfl) dL_turn_290 (fun H locs hP hS => ?_)
        obtain ⟨⟨v293, σ293⟩, h293, hf⟩ := bnd hf
        dsimp only at hf
        refine q_cVi (As := [.int v272, .int v281, .int v290]) hx hb hts hml hown hK hP hS (c_X6_seen l D w σ v272 v281 v290 v293 σ293 hJ h293) hw_L_65 hd_X6_seen ⟨rfl, rfl, rfl⟩ o0 (ce6 kd0) rfl ⟨Nat.le_of_ble_eq_true rfl, Nat.le_of_ble_eq_true rfl⟩ ⟨Nat.le_of_ble_eq_true rfl, Nat.le_of_ble_eq_true rfl⟩ hl.1 rfl (Nat.le_of_ble_eq_true rfl) dL_turn_293 (fun H locs hP hS => ?_)
        have hq := Option.some.inj hf
        exact q_iret hx hb hr hlk hP hS (congrArg Prod.fst hq) (congrArg Prod.snd hq) dL_turn_296
      · have hf := ifn (fun h => h hc) hf
        refine lv_aload_n hx hb dL_turn_234 rfl (lv_at hl 1 rfl) ?_
        refine lv_iload_n hx hb dL_turn_235 rfl (lv_at hl 0 rfl) ?_
        refine lv_iconst (v := (4 : Int32)) hx hb dL_turn_236 (by decide) ?_
        refine lv_ishr hx hb dL_turn_237 ?_
        refine lv_bipush (v := (6 : Int32)) hx hb dL_turn_238 (by decide) ?_
        obtain ⟨v240, h240, hf⟩ := bnd hf
        refine q_cSi (As := [.int ((a2 >>> ((4 : Int32) &&& 31)) >>> ((4 : Int32) &&& 31)), .int (6 : Int32)]) hx hb hts hml hown hK hP hS (c_L_low l D w σ ((a2 >>> ((4 : Int32) &&& 31)) >>> ((4 : Int32) &&& 31)) (6 : Int32) v240 h240) hw_L_80 hd_L_low ⟨rfl, rfl, rfl⟩ ⟨Nat.le_of_ble_eq_true rfl, Nat.le_of_ble_eq_true rfl⟩ ⟨Nat.le_of_ble_eq_true rfl, Nat.le_of_ble_eq_true rfl⟩ hl.1 rfl (Nat.le_of_ble_eq_true rfl) dL_turn_240 (fun H locs hP hS => ?_)
        refine lv_iload_n hx hb dL_turn_243 rfl (lv_at hl 0 rfl) ?_
        refine lv_bipush (v := (7 : Int32)) hx hb dL_turn_244 (by decide) ?_
        refine lv_ishr hx hb dL_turn_246 ?_
        refine lv_bipush (v := (6 : Int32)) hx hb dL_turn_247 (by decide) ?_
        obtain ⟨v249, h249, hf⟩ := bnd hf
        refine q_cSi (As := [.int ((a2 >>> ((4 : Int32) &&& 31)) >>> ((7 : Int32) &&& 31)), .int (6 : Int32)]) hx hb hts hml hown hK hP hS (c_L_low l D w σ ((a2 >>> ((4 : Int32) &&& 31)) >>> ((7 : Int32) &&& 31)) (6 : Int32) v249 h249) hw_L_80 hd_L_low ⟨rfl, rfl, rfl⟩ ⟨Nat.le_of_ble_eq_true rfl, Nat.le_of_ble_eq_true rfl⟩ ⟨Nat.le_of_ble_eq_true rfl, Nat.le_of_ble_eq_true rfl⟩ hl.1 rfl (Nat.le_of_ble_eq_true rfl) dL_turn_249 (fun H locs hP hS => ?_)
        refine lv_iload_n hx hb dL_turn_252 rfl (lv_at hl 0 rfl) ?_
        refine lv_bipush (v := (10 : Int32)) hx hb dL_turn_253 (by decide) ?_
        refine lv_ishr hx hb dL_turn_255 ?_
        refine lv_bipush (v := (14 : Int32)) hx hb dL_turn_256 (by decide) ?_
        obtain ⟨v258, h258, hf⟩ := bnd hf
        refine q_cSi (As := [.int ((a2 >>> ((4 : Int32) &&& 31)) >>> ((10 : Int32) &&& 31)), .int (14 : Int32)]) hx hb hts hml hown hK hP hS (c_L_low l D w σ ((a2 >>> ((4 : Int32) &&& 31)) >>> ((10 : Int32) &&& 31)) (14 : Int32) v258 h258) hw_L_80 hd_L_low ⟨rfl, rfl, rfl⟩ ⟨Nat.le_of_ble_eq_true rfl, Nat.le_of_ble_eq_true rfl⟩ ⟨Nat.le_of_ble_eq_true rfl, Nat.le_of_ble_eq_true rfl⟩ hl.1 rfl (Nat.le_of_ble_eq_true rfl) dL_turn_258 (fun H locs hP hS => ?_)
        obtain ⟨⟨v261, σ261⟩, h261, hf⟩ := bnd hf
        dsimp only at hf
        refine q_cVi (As := [.int v240, .int v249, .int v258]) hx hb hts hml hown hK hP hS (c_X6_told l D w σ v240 v249 v258 v261 σ261 hJ h261) hw_L_62 hd_X6_told ⟨rfl, rfl, rfl⟩ o0 (ce6 kd0) rfl ⟨Nat.le_of_ble_eq_true rfl, Nat.le_of_ble_eq_true rfl⟩ ⟨Nat.le_of_ble_eq_true rfl, Nat.le_of_ble_eq_true rfl⟩ hl.1 rfl (Nat.le_of_ble_eq_true rfl) dL_turn_261 (fun H locs hP hS => ?_)
        refine lv_goto (tgt := 296) hx hb dL_turn_264 (by decide) ?_
        have hq := Option.some.inj hf
        exact q_iret hx hb hr hlk hP hS (congrArg Prod.fst hq) (congrArg Prod.snd hq) dL_turn_296
    · have hf := ifn (fun h => h hc) hf
      refine lv_aload_n hx hb dL_turn_220 rfl (lv_at hl 1 rfl) ?_
      obtain ⟨⟨v221, σ221⟩, h221, hf⟩ := bnd hf
      dsimp only at hf
      refine q_cVi (As := []) hx hb hts hml hown hK hP hS (c_X6_forget l D w σ v221 σ221 hJ h221) hw_L_98 hd_X6_forget ⟨rfl, rfl, rfl⟩ o0 (ce6 kd0) rfl ⟨Nat.le_of_ble_eq_true rfl, Nat.le_of_ble_eq_true rfl⟩ ⟨Nat.le_of_ble_eq_true rfl, Nat.le_of_ble_eq_true rfl⟩ hl.1 rfl (Nat.le_of_ble_eq_true rfl) dL_turn_221 (fun H locs hP hS => ?_)
      refine lv_goto (tgt := 296) hx hb dL_turn_224 (by decide) ?_
      have hq := Option.some.inj hf
      exact q_iret hx hb hr hlk hP hS (congrArg Prod.fst hq) (congrArg Prod.snd hq) dL_turn_296
  have hf := ifn hc9 hf
  rcases Decidable.em ((a2 &&& (15 : Int32)) = (10 : Int32)) with hc | hc10
  · have hf := ifp hc hf
    refine lv_tableIn (off := 289) (tgt := 297) hx hb dL_turn_8 (by rw [hc]; decide) (by rw [hc]; decide) (by rw [hc]; rfl) (by decide) ?_
    refine lv_aload_n hx hb dL_turn_297 rfl (lv_at hl 1 rfl) ?_
    refine lv_iload_n hx hb dL_turn_298 rfl (lv_at hl 0 rfl) ?_
    refine lv_iconst (v := (4 : Int32)) hx hb dL_turn_299 (by decide) ?_
    obtain ⟨v300, h300, hf⟩ := bnd hf
    refine q_cSi (As := [.int (a2 >>> ((4 : Int32) &&& 31)), .int (4 : Int32)]) hx hb hts hml hown hK hP hS (c_L_low l D w σ (a2 >>> ((4 : Int32) &&& 31)) (4 : Int32) v300 h300) hw_L_80 hd_L_low ⟨rfl, rfl, rfl⟩ ⟨Nat.le_of_ble_eq_true rfl, Nat.le_of_ble_eq_true rfl⟩ ⟨Nat.le_of_ble_eq_true rfl, Nat.le_of_ble_eq_true rfl⟩ hl.1 rfl (Nat.le_of_ble_eq_true rfl) dL_turn_300 (fun H locs hP hS => ?_)
    obtain ⟨⟨v303, σ303⟩, h303, hf⟩ := bnd hf
    dsimp only at hf
    refine q_cVi (As := [.int v300]) hx hb hts hml hown hK hP hS (c_X6_comes l D w σ v300 v303 σ303 hJ h303) hw_L_44 hd_X6_comes ⟨rfl, rfl, rfl⟩ o0 (ce6 kd0) rfl ⟨Nat.le_of_ble_eq_true rfl, Nat.le_of_ble_eq_true rfl⟩ ⟨Nat.le_of_ble_eq_true rfl, Nat.le_of_ble_eq_true rfl⟩ hl.1 rfl (Nat.le_of_ble_eq_true rfl) dL_turn_303 (fun H locs hP hS => ?_)
    have hq := Option.some.inj hf
    exact q_iret hx hb hr hlk hP hS (congrArg Prod.fst hq) (congrArg Prod.snd hq) dL_turn_306
  have hf := ifn hc10 hf
  rcases Decidable.em ((a2 &&& (15 : Int32)) = (11 : Int32)) with hc | hc11
  · have hf := ifp hc hf
    refine lv_tableIn (off := 299) (tgt := 307) hx hb dL_turn_8 (by rw [hc]; decide) (by rw [hc]; decide) (by rw [hc]; rfl) (by decide) ?_
    refine lv_iload_n hx hb dL_turn_307 rfl (lv_at hl 0 rfl) ?_
    refine lv_iconst (v := (1 : Int32)) hx hb dL_turn_308 (by decide) ?_
    refine lv_iand hx hb dL_turn_309 ?_
    refine lv_if_ne (tgt := 320) hx hb dL_turn_310 (by decide) (fun hc => ?_) (fun hc => ?_)
    · have hf := ifp hc hf
      refine lv_aload_n hx hb dL_turn_320 rfl (lv_at hl 1 rfl) ?_
      refine lv_iload_n hx hb dL_turn_321 rfl (lv_at hl 0 rfl) ?_
      refine lv_iconst (v := (1 : Int32)) hx hb dL_turn_322 (by decide) ?_
      refine lv_ishr hx hb dL_turn_323 ?_
      refine lv_iconst (v := (5 : Int32)) hx hb dL_turn_324 (by decide) ?_
      obtain ⟨v325, h325, hf⟩ := bnd hf
      refine q_cSi (As := [.int ((a2 >>> ((4 : Int32) &&& 31)) >>> ((1 : Int32) &&& 31)), .int (5 : Int32)]) hx hb hts hml hown hK hP hS (c_L_low l D w σ ((a2 >>> ((4 : Int32) &&& 31)) >>> ((1 : Int32) &&& 31)) (5 : Int32) v325 h325) hw_L_80 hd_L_low ⟨rfl, rfl, rfl⟩ ⟨Nat.le_of_ble_eq_true rfl, Nat.le_of_ble_eq_true rfl⟩ ⟨Nat.le_of_ble_eq_true rfl, Nat.le_of_ble_eq_true rfl⟩ hl.1 rfl (Nat.le_of_ble_eq_true rfl) dL_turn_325 (fun H locs hP hS => ?_)
      obtain ⟨⟨v328, σ328⟩, h328, hf⟩ := bnd hf
      dsimp only at hf
      refine q_cVi (As := [.int v325]) hx hb hts hml hown hK hP hS (c_X6_kinds l D w σ v325 v328 σ328 hJ h328) hw_L_68 hd_X6_kinds ⟨rfl, rfl, rfl⟩ o0 (ce6 kd0) rfl ⟨Nat.le_of_ble_eq_true rfl, Nat.le_of_ble_eq_true rfl⟩ ⟨Nat.le_of_ble_eq_true rfl, Nat.le_of_ble_eq_true rfl⟩ hl.1 rfl (Nat.le_of_ble_eq_true rfl) dL_turn_328 (fun H locs hP hS => ?_)
      have hq := Option.some.inj hf
      exact q_iret hx hb hr hlk hP hS (congrArg Prod.fst hq) (congrArg Prod.snd hq) dL_turn_331
    · have hf := ifn (fun h => h hc) hf
      refine lv_aload_n hx hb dL_turn_313 rfl (lv_at hl 1 rfl) ?_
      obtain ⟨v314, h314, hf⟩ := bnd hf
      refine q_cVi (As := []) hx hb hts hml hown hK hP hS (c_X6_stood l D w σ v314 h314) hw_L_101 hd_X6_stood ⟨rfl, rfl, rfl⟩ o0 (ce6 kd0) rfl ⟨Nat.le_of_ble_eq_true rfl, Nat.le_of_ble_eq_true rfl⟩ ⟨Nat.le_of_ble_eq_true rfl, Nat.le_of_ble_eq_true rfl⟩ hl.1 rfl (Nat.le_of_ble_eq_true rfl) dL_turn_314 (fun H locs hP hS => ?_)
      refine lv_goto (tgt := 331) hx hb dL_turn_317 (by decide) ?_
      have hq := Option.some.inj hf
      exact q_iret hx hb hr hlk hP hS (congrArg Prod.fst hq) (congrArg Prod.snd hq) dL_turn_331
  have hf := ifn hc11 hf
  rcases Decidable.em ((a2 &&& (15 : Int32)) = (12 : Int32)) with hc | hc12
  · have hf := ifp hc hf
    refine lv_tableIn (off := 324) (tgt := 332) hx hb dL_turn_8 (by rw [hc]; decide) (by rw [hc]; decide) (by rw [hc]; rfl) (by decide) ?_
    refine lv_iload_n hx hb dL_turn_332 rfl (lv_at hl 0 rfl) ?_
    refine lv_iconst (v := (1 : Int32)) hx hb dL_turn_333 (by decide) ?_
    refine lv_iand hx hb dL_turn_334 ?_
    refine lv_if_ne (tgt := 345) hx hb dL_turn_335 (by decide) (fun hc => ?_) (fun hc => ?_)
    · have hf := ifp hc hf
      refine lv_aload_n hx hb dL_turn_345 rfl (lv_at hl 1 rfl) ?_
      obtain ⟨v346, h346, hf⟩ := bnd hf
      refine q_cVi (As := []) hx hb hts hml hown hK hP hS (c_X6_next l D w σ v346 h346) hw_L_107 hd_X6_next ⟨rfl, rfl, rfl⟩ o0 (ce6 kd0) rfl ⟨Nat.le_of_ble_eq_true rfl, Nat.le_of_ble_eq_true rfl⟩ ⟨Nat.le_of_ble_eq_true rfl, Nat.le_of_ble_eq_true rfl⟩ hl.1 rfl (Nat.le_of_ble_eq_true rfl) dL_turn_346 (fun H locs hP hS => ?_)
      have hq := Option.some.inj hf
      exact q_iret hx hb hr hlk hP hS (congrArg Prod.fst hq) (congrArg Prod.snd hq) dL_turn_349
    · have hf := ifn (fun h => h hc) hf
      refine lv_aload_n hx hb dL_turn_338 rfl (lv_at hl 1 rfl) ?_
      obtain ⟨⟨v339, σ339⟩, h339, hf⟩ := bnd hf
      dsimp only at hf
      refine q_cVi (As := []) hx hb hts hml hown hK hP hS (c_X6_lost l D w σ v339 σ339 hJ h339) hw_L_104 hd_X6_lost ⟨rfl, rfl, rfl⟩ o0 (ce6 kd0) rfl ⟨Nat.le_of_ble_eq_true rfl, Nat.le_of_ble_eq_true rfl⟩ ⟨Nat.le_of_ble_eq_true rfl, Nat.le_of_ble_eq_true rfl⟩ hl.1 rfl (Nat.le_of_ble_eq_true rfl) dL_turn_339 (fun H locs hP hS => ?_)
      refine lv_goto (tgt := 349) hx hb dL_turn_342 (by decide) ?_
      have hq := Option.some.inj hf
      exact q_iret hx hb hr hlk hP hS (congrArg Prod.fst hq) (congrArg Prod.snd hq) dL_turn_349
  have hf := ifn hc12 hf
  rcases Decidable.em ((a2 &&& (15 : Int32)) = (13 : Int32)) with hc | hc13
  · have hf := ifp hc hf
    refine lv_tableIn (off := 342) (tgt := 350) hx hb dL_turn_8 (by rw [hc]; decide) (by rw [hc]; decide) (by rw [hc]; rfl) (by decide) ?_
    refine lv_iload_n hx hb dL_turn_350 rfl (lv_at hl 0 rfl) ?_
    refine lv_iconst (v := (1 : Int32)) hx hb dL_turn_351 (by decide) ?_
    refine lv_iand hx hb dL_turn_352 ?_
    refine lv_if_ne (tgt := 368) hx hb dL_turn_353 (by decide) (fun hc => ?_) (fun hc => ?_)
    · have hf := ifp hc hf
      refine lv_aload_n hx hb dL_turn_368 rfl (lv_at hl 1 rfl) ?_
      refine lv_iload_n hx hb dL_turn_369 rfl (lv_at hl 0 rfl) ?_
      refine lv_iconst (v := (1 : Int32)) hx hb dL_turn_370 (by decide) ?_
      refine lv_ishr hx hb dL_turn_371 ?_
      refine lv_iconst (v := (4 : Int32)) hx hb dL_turn_372 (by decide) ?_
      obtain ⟨v373, h373, hf⟩ := bnd hf
      refine q_cSi (As := [.int ((a2 >>> ((4 : Int32) &&& 31)) >>> ((1 : Int32) &&& 31)), .int (4 : Int32)]) hx hb hts hml hown hK hP hS (c_L_low l D w σ ((a2 >>> ((4 : Int32) &&& 31)) >>> ((1 : Int32) &&& 31)) (4 : Int32) v373 h373) hw_L_80 hd_L_low ⟨rfl, rfl, rfl⟩ ⟨Nat.le_of_ble_eq_true rfl, Nat.le_of_ble_eq_true rfl⟩ ⟨Nat.le_of_ble_eq_true rfl, Nat.le_of_ble_eq_true rfl⟩ hl.1 rfl (Nat.le_of_ble_eq_true rfl) dL_turn_373 (fun H locs hP hS => ?_)
      refine lv_iload_n hx hb dL_turn_376 rfl (lv_at hl 0 rfl) ?_
      refine lv_iconst (v := (3 : Int32)) hx hb dL_turn_377 (by decide) ?_
      refine lv_ishr hx hb dL_turn_378 ?_
      refine lv_bipush (v := (41 : Int32)) hx hb dL_turn_379 (by decide) ?_
      obtain ⟨v381, h381, hf⟩ := bnd hf
      refine q_cSi (As := [.int ((a2 >>> ((4 : Int32) &&& 31)) >>> ((3 : Int32) &&& 31)), .int (41 : Int32)]) hx hb hts hml hown hK hP hS (c_L_low l D w σ ((a2 >>> ((4 : Int32) &&& 31)) >>> ((3 : Int32) &&& 31)) (41 : Int32) v381 h381) hw_L_80 hd_L_low ⟨rfl, rfl, rfl⟩ ⟨Nat.le_of_ble_eq_true rfl, Nat.le_of_ble_eq_true rfl⟩ ⟨Nat.le_of_ble_eq_true rfl, Nat.le_of_ble_eq_true rfl⟩ hl.1 rfl (Nat.le_of_ble_eq_true rfl) dL_turn_381 (fun H locs hP hS => ?_)
      obtain ⟨⟨v384, σ384⟩, h384, hf⟩ := bnd hf
      dsimp only at hf
      refine q_cVi (As := [.int v373, .int v381]) hx hb hts hml hown hK hP hS (c_X6_trail l D w σ v373 v381 v384 σ384 hJ h384) hw_L_47 hd_X6_trail ⟨rfl, rfl, rfl⟩ o0 (ce6 kd0) rfl ⟨Nat.le_of_ble_eq_true rfl, Nat.le_of_ble_eq_true rfl⟩ ⟨Nat.le_of_ble_eq_true rfl, Nat.le_of_ble_eq_true rfl⟩ hl.1 rfl (Nat.le_of_ble_eq_true rfl) dL_turn_384 (fun H locs hP hS => ?_)
      have hq := Option.some.inj hf
      exact q_iret hx hb hr hlk hP hS (congrArg Prod.fst hq) (congrArg Prod.snd hq) dL_turn_387
    · have hf := ifn (fun h => h hc) hf
      refine lv_aload_n hx hb dL_turn_356 rfl (lv_at hl 1 rfl) ?_
      refine lv_iload_n hx hb dL_turn_357 rfl (lv_at hl 0 rfl) ?_
      refine lv_iconst (v := (1 : Int32)) hx hb dL_turn_358 (by decide) ?_
      refine lv_ishr hx hb dL_turn_359 ?_
      refine lv_iconst (v := (1 : Int32)) hx hb dL_turn_360 (by decide) ?_
      refine lv_iand hx hb dL_turn_361 ?_
      obtain ⟨⟨v362, σ362⟩, h362, hf⟩ := bnd hf
      dsimp only at hf
      refine q_cVi (As := [.int (((a2 >>> ((4 : Int32) &&& 31)) >>> ((1 : Int32) &&& 31)) &&& (1 : Int32))]) hx hb hts hml hown hK hP hS (c_X6_helps l D w σ (((a2 >>> ((4 : Int32) &&& 31)) >>> ((1 : Int32) &&& 31)) &&& (1 : Int32)) v362 σ362 hJ h362) hw_L_50 hd_X6_helps ⟨rfl, rfl, rfl⟩ o0 (ce6 kd0) rfl ⟨Nat.le_of_ble_eq_true rfl, Nat.le_of_ble_eq_true rfl⟩ ⟨Nat.le_of_ble_eq_true rfl, Nat.le_of_ble_eq_true rfl⟩ hl.1 rfl (Nat.le_of_ble_eq_true rfl) dL_turn_362 (fun H locs hP hS => ?_)
      refine lv_goto (tgt := 387) hx hb dL_turn_365 (by decide) ?_
      have hq := Option.some.inj hf
      exact q_iret hx hb hr hlk hP hS (congrArg Prod.fst hq) (congrArg Prod.snd hq) dL_turn_387
  have hf := ifn hc13 hf
  rcases Decidable.em ((a2 &&& (15 : Int32)) = (14 : Int32)) with hc | hc14
  · have hf := ifp hc hf
    refine lv_tableIn (off := 380) (tgt := 388) hx hb dL_turn_8 (by rw [hc]; decide) (by rw [hc]; decide) (by rw [hc]; rfl) (by decide) ?_
    refine lv_iload_n hx hb dL_turn_388 rfl (lv_at hl 0 rfl) ?_
    refine lv_bipush (v := (7 : Int32)) hx hb dL_turn_389 (by decide) ?_
    refine lv_iand hx hb dL_turn_391 ?_
    refine lv_if_ne (tgt := 423) hx hb dL_turn_392 (by decide) (fun hc => ?_) (fun hc => ?_)
    · have hf := ifp hc hf
      refine lv_aload_n hx hb dL_turn_423 rfl (lv_at hl 1 rfl) ?_
      refine lv_iload_n hx hb dL_turn_424 rfl (lv_at hl 0 rfl) ?_
      refine lv_iconst (v := (3 : Int32)) hx hb dL_turn_425 (by decide) ?_
      refine lv_ishr hx hb dL_turn_426 ?_
      refine lv_bipush (v := (6 : Int32)) hx hb dL_turn_427 (by decide) ?_
      obtain ⟨v429, h429, hf⟩ := bnd hf
      refine q_cSi (As := [.int ((a2 >>> ((4 : Int32) &&& 31)) >>> ((3 : Int32) &&& 31)), .int (6 : Int32)]) hx hb hts hml hown hK hP hS (c_L_low l D w σ ((a2 >>> ((4 : Int32) &&& 31)) >>> ((3 : Int32) &&& 31)) (6 : Int32) v429 h429) hw_L_80 hd_L_low ⟨rfl, rfl, rfl⟩ ⟨Nat.le_of_ble_eq_true rfl, Nat.le_of_ble_eq_true rfl⟩ ⟨Nat.le_of_ble_eq_true rfl, Nat.le_of_ble_eq_true rfl⟩ hl.1 rfl (Nat.le_of_ble_eq_true rfl) dL_turn_429 (fun H locs hP hS => ?_)
      refine lv_iload_n hx hb dL_turn_432 rfl (lv_at hl 0 rfl) ?_
      refine lv_bipush (v := (6 : Int32)) hx hb dL_turn_433 (by decide) ?_
      refine lv_ishr hx hb dL_turn_435 ?_
      refine lv_bipush (v := (6 : Int32)) hx hb dL_turn_436 (by decide) ?_
      obtain ⟨v438, h438, hf⟩ := bnd hf
      refine q_cSi (As := [.int ((a2 >>> ((4 : Int32) &&& 31)) >>> ((6 : Int32) &&& 31)), .int (6 : Int32)]) hx hb hts hml hown hK hP hS (c_L_low l D w σ ((a2 >>> ((4 : Int32) &&& 31)) >>> ((6 : Int32) &&& 31)) (6 : Int32) v438 h438) hw_L_80 hd_L_low ⟨rfl, rfl, rfl⟩ ⟨Nat.le_of_ble_eq_true rfl, Nat.le_of_ble_eq_true rfl⟩ ⟨Nat.le_of_ble_eq_true rfl, Nat.le_of_ble_eq_true rfl⟩ hl.1 rfl (Nat.le_of_ble_eq_true rfl) dL_turn_438 (fun H locs hP hS => ?_)
      obtain ⟨v441, h441, hf⟩ := bnd hf
      refine q_cVi (As := [.int v429, .int v438]) hx hb hts hml hown hK hP hS (c_X6_far l D w σ v429 v438 v441 h441) hw_L_59 hd_X6_far ⟨rfl, rfl, rfl⟩ o0 (ce6 kd0) rfl ⟨Nat.le_of_ble_eq_true rfl, Nat.le_of_ble_eq_true rfl⟩ ⟨Nat.le_of_ble_eq_true rfl, Nat.le_of_ble_eq_true rfl⟩ hl.1 rfl (Nat.le_of_ble_eq_true rfl) dL_turn_441 (fun H locs hP hS => ?_)
      have hq := Option.some.inj hf
      exact q_iret hx hb hr hlk hP hS (congrArg Prod.fst hq) (congrArg Prod.snd hq) dL_turn_444
    · have hf := ifn (fun h => h hc) hf
      refine lv_aload_n hx hb dL_turn_395 rfl (lv_at hl 1 rfl) ?_
      refine lv_iload_n hx hb dL_turn_396 rfl (lv_at hl 0 rfl) ?_
      refine lv_iconst (v := (3 : Int32)) hx hb dL_turn_397 (by decide) ?_
      refine lv_ishr hx hb dL_turn_398 ?_
      refine lv_iconst (v := (4 : Int32)) hx hb dL_turn_399 (by decide) ?_
      obtain ⟨v400, h400, hf⟩ := bnd hf
      refine q_cSi (As := [.int ((a2 >>> ((4 : Int32) &&& 31)) >>> ((3 : Int32) &&& 31)), .int (4 : Int32)]) hx hb hts hml hown hK hP hS (c_L_low l D w σ ((a2 >>> ((4 : Int32) &&& 31)) >>> ((3 : Int32) &&& 31)) (4 : Int32) v400 h400) hw_L_80 hd_L_low ⟨rfl, rfl, rfl⟩ ⟨Nat.le_of_ble_eq_true rfl, Nat.le_of_ble_eq_true rfl⟩ ⟨Nat.le_of_ble_eq_true rfl, Nat.le_of_ble_eq_true rfl⟩ hl.1 rfl (Nat.le_of_ble_eq_true rfl) dL_turn_400 (fun H locs hP hS => ?_)
      refine lv_iload_n hx hb dL_turn_403 rfl (lv_at hl 0 rfl) ?_
      refine lv_iconst (v := (5 : Int32)) hx hb dL_turn_404 (by decide) ?_
      refine lv_ishr hx hb dL_turn_405 ?_
      refine lv_bipush (v := (11 : Int32)) hx hb dL_turn_406 (by decide) ?_
      obtain ⟨v408, h408, hf⟩ := bnd hf
      refine q_cSi (As := [.int ((a2 >>> ((4 : Int32) &&& 31)) >>> ((5 : Int32) &&& 31)), .int (11 : Int32)]) hx hb hts hml hown hK hP hS (c_L_low l D w σ ((a2 >>> ((4 : Int32) &&& 31)) >>> ((5 : Int32) &&& 31)) (11 : Int32) v408 h408) hw_L_80 hd_L_low ⟨rfl, rfl, rfl⟩ ⟨Nat.le_of_ble_eq_true rfl, Nat.le_of_ble_eq_true rfl⟩ ⟨Nat.le_of_ble_eq_true rfl, Nat.le_of_ble_eq_true rfl⟩ hl.1 rfl (Nat.le_of_ble_eq_true rfl) dL_turn_408 (fun H locs hP hS => ?_)
      refine lv_iload_n hx hb dL_turn_411 rfl (lv_at hl 0 rfl) ?_
      refine lv_bipush (v := (9 : Int32)) hx hb dL_turn_412 (by decide) ?_
      refine lv_ishr hx hb dL_turn_414 ?_
      refine lv_iconst (v := (1 : Int32)) hx hb dL_turn_415 (by decide) ?_
      refine lv_iand hx hb dL_turn_416 ?_
      obtain ⟨⟨v417, σ417⟩, h417, hf⟩ := bnd hf
      dsimp only at hf
      refine q_cVi (As := [.int v400, .int v408, .int (((a2 >>> ((4 : Int32) &&& 31)) >>> ((9 : Int32) &&& 31)) &&& (1 : Int32))]) hx hb hts hml hown hK hP hS (c_X6_likely l D w σ v400 v408 (((a2 >>> ((4 : Int32) &&& 31)) >>> ((9 : Int32) &&& 31)) &&& (1 : Int32)) v417 σ417 hJ h417) hw_L_71 hd_X6_likely ⟨rfl, rfl, rfl⟩ o0 (ce6 kd0) rfl ⟨Nat.le_of_ble_eq_true rfl, Nat.le_of_ble_eq_true rfl⟩ ⟨Nat.le_of_ble_eq_true rfl, Nat.le_of_ble_eq_true rfl⟩ hl.1 rfl (Nat.le_of_ble_eq_true rfl) dL_turn_417 (fun H locs hP hS => ?_)
      refine lv_goto (tgt := 444) hx hb dL_turn_420 (by decide) ?_
      have hq := Option.some.inj hf
      exact q_iret hx hb hr hlk hP hS (congrArg Prod.fst hq) (congrArg Prod.snd hq) dL_turn_444
  have hf := ifn hc14 hf
  refine lv_tableOut (tgt := 445) hx hb dL_turn_8 (tb_out_0_14 hc0 hc1 hc2 hc3 hc4 hc5 hc6 hc7 hc8 hc9 hc10 hc11 hc12 hc13 hc14) (by decide) ?_
  refine lv_aload_n hx hb dL_turn_445 rfl (lv_at hl 1 rfl) ?_
  refine lv_iload_n hx hb dL_turn_446 rfl (lv_at hl 0 rfl) ?_
  refine lv_sipush (v := (10000 : Int32)) hx hb dL_turn_447 (by decide) ?_
  obtain ⟨v450, h450, hf⟩ := bnd hf
  refine q_cSi (As := [.int (a2 >>> ((4 : Int32) &&& 31)), .int (10000 : Int32)]) hx hb hts hml hown hK hP hS (c_L_low l D w σ (a2 >>> ((4 : Int32) &&& 31)) (10000 : Int32) v450 h450) hw_L_80 hd_L_low ⟨rfl, rfl, rfl⟩ ⟨Nat.le_of_ble_eq_true rfl, Nat.le_of_ble_eq_true rfl⟩ ⟨Nat.le_of_ble_eq_true rfl, Nat.le_of_ble_eq_true rfl⟩ hl.1 rfl (Nat.le_of_ble_eq_true rfl) dL_turn_450 (fun H locs hP hS => ?_)
  refine lv_iconst (v := (1 : Int32)) hx hb dL_turn_453 (by decide) ?_
  refine lv_iload_n hx hb dL_turn_454 rfl (lv_at hl 0 rfl) ?_
  refine lv_bipush (v := (14 : Int32)) hx hb dL_turn_455 (by decide) ?_
  refine lv_ishr hx hb dL_turn_457 ?_
  refine lv_bipush (v := (12 : Int32)) hx hb dL_turn_458 (by decide) ?_
  obtain ⟨v460, h460, hf⟩ := bnd hf
  refine q_cSi (As := [.int ((a2 >>> ((4 : Int32) &&& 31)) >>> ((14 : Int32) &&& 31)), .int (12 : Int32)]) hx hb hts hml hown hK hP hS (c_L_low l D w σ ((a2 >>> ((4 : Int32) &&& 31)) >>> ((14 : Int32) &&& 31)) (12 : Int32) v460 h460) hw_L_80 hd_L_low ⟨rfl, rfl, rfl⟩ ⟨Nat.le_of_ble_eq_true rfl, Nat.le_of_ble_eq_true rfl⟩ ⟨Nat.le_of_ble_eq_true rfl, Nat.le_of_ble_eq_true rfl⟩ hl.1 rfl (Nat.le_of_ble_eq_true rfl) dL_turn_460 (fun H locs hP hS => ?_)
  refine lv_iadd hx hb dL_turn_463 ?_
  refine lv_iload_n hx hb dL_turn_464 rfl (lv_at hl 0 rfl) ?_
  refine lv_bipush (v := (18 : Int32)) hx hb dL_turn_465 (by decide) ?_
  refine lv_ishr hx hb dL_turn_467 ?_
  refine lv_iconst (v := (3 : Int32)) hx hb dL_turn_468 (by decide) ?_
  obtain ⟨v469, h469, hf⟩ := bnd hf
  refine q_cSi (As := [.int ((a2 >>> ((4 : Int32) &&& 31)) >>> ((18 : Int32) &&& 31)), .int (3 : Int32)]) hx hb hts hml hown hK hP hS (c_L_low l D w σ ((a2 >>> ((4 : Int32) &&& 31)) >>> ((18 : Int32) &&& 31)) (3 : Int32) v469 h469) hw_L_80 hd_L_low ⟨rfl, rfl, rfl⟩ ⟨Nat.le_of_ble_eq_true rfl, Nat.le_of_ble_eq_true rfl⟩ ⟨Nat.le_of_ble_eq_true rfl, Nat.le_of_ble_eq_true rfl⟩ hl.1 rfl (Nat.le_of_ble_eq_true rfl) dL_turn_469 (fun H locs hP hS => ?_)
  obtain ⟨⟨v472, σ472⟩, h472, hf⟩ := bnd hf
  dsimp only at hf
  refine q_cVi (As := [.int v450, .int ((1 : Int32) + v460), .int v469]) hx hb hts hml hown hK hP hS (c_X6_century l D w σ v450 ((1 : Int32) + v460) v469 v472 σ472 hJ h472) hw_L_74 hd_X6_century ⟨rfl, rfl, rfl⟩ o0 (ce6 kd0) rfl ⟨Nat.le_of_ble_eq_true rfl, Nat.le_of_ble_eq_true rfl⟩ ⟨Nat.le_of_ble_eq_true rfl, Nat.le_of_ble_eq_true rfl⟩ hl.1 rfl (Nat.le_of_ble_eq_true rfl) dL_turn_472 (fun H locs hP hS => ?_)
  have hq := Option.some.inj hf
  exact q_iret hx hb hr hlk hP hS (congrArg Prod.fst hq) (congrArg Prod.snd hq) dL_turn_475
