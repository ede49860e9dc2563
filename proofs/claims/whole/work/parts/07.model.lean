def f_X7_begin_b1 (x1_34 : Int32) (σ_34 : Sg) : Option ((Int32 × Sg) ⊕ Sg) :=
  if (64 : Int32) ≤ x1_34 then
  some (.inr σ_34)
  else
  (sa σ_34 (191) (ln (191)) x1_34 (0 : Int32)).bind fun σ46 =>
  some (.inl ((x1_34 + (1 : Int32)), σ46))
def f_X7_begin_k1 (σ_53 : Sg) : Option Sg :=
  some σ_53
def f_X7_begin (σ : Sg)  : Option Sg :=
  (some (sf σ (184) 13 (0 : Int32))).bind fun σ2 =>
  (some (sf σ2 (184) 12 (0 : Int32))).bind fun σ7 =>
  (sa σ7 (186) (ln (186)) (1 : Int32) (6 : Int32)).bind fun σ17 =>
  (sa σ17 (187) (ln (187)) (1 : Int32) (0 : Int32)).bind fun σ24 =>
  (sa σ24 (188) (ln (188)) (1 : Int32) (0 : Int32)).bind fun σ31 =>
  (lp (fun st => f_X7_begin_b1  st.1 st.2) FU ((0 : Int32), σ31)).bind fun rr => f_X7_begin_k1 rr
set_option maxHeartbeats 4000000 in
set_option maxRecDepth 100000 in
theorem c_X7_begin (l : Launch) (D : va_G) (w : Wv) (σ : Sg)  (σ' : Sg)  (hJ : Inj w) (hf : f_X7_begin σ = some σ') : Met l yX7_begin (.code yX7_begin cX7_begin 2 none :: TB) (rmW 0 0) (pcW D w [.ref (w.1 (184))] σ) (qvW D w σ') 0 0 (AL w) := by
  refine q_open (by decide +kernel) (Nat.le_of_ble_eq_true rfl) ?_
  intro p e s m args below meth c ls hx hb hml hr hlk hown hts hK hP hS hl
  have hown : s.vm.findClass RX7 = some m.cls := hown
  have hl : lv_has ls 2 [(0, .ref (w.1 (184)))] := hl
  unfold f_X7_begin at hf
  refine lv_aload_n hx hb dX7_begin_0 rfl (lv_at hl 0 rfl) ?_
  refine lv_iconst (v := (0 : Int32)) hx hb dX7_begin_1 (by decide) ?_
  obtain ⟨σ2, h2, hf⟩ := bnd hf
  refine pt_X7_114 hx hb hts hown hK hP hJ hS h2 dX7_begin_2 (fun H locs hP hS => ?_)
  refine lv_aload_n hx hb dX7_begin_5 rfl (lv_at hl 0 rfl) ?_
  refine lv_iconst (v := (0 : Int32)) hx hb dX7_begin_6 (by decide) ?_
  obtain ⟨σ7, h7, hf⟩ := bnd hf
  refine pt_X7_98 hx hb hts hown hK hP hJ hS ⟨rfl, rfl⟩ h7 dX7_begin_7 (fun H locs hP hS => ?_)
  refine lv_aload_n hx hb dX7_begin_10 rfl (lv_at hl 0 rfl) ?_
  refine gt_X7_13 hx hb hts hown hK hP dX7_begin_11 ?_
  refine lv_iconst (v := (1 : Int32)) hx hb dX7_begin_14 (by decide) ?_
  refine lv_bipush (v := (6 : Int32)) hx hb dX7_begin_15 (by decide) ?_
  obtain ⟨σ17, h17, hf⟩ := bnd hf
  refine q_iast hx hb hK hP hJ hS isC186.o isC186.k h17 dX7_begin_17 (fun H locs hP hS => ?_)
  refine lv_aload_n hx hb dX7_begin_18 rfl (lv_at hl 0 rfl) ?_
  refine gt_X7_17 hx hb hts hown hK hP dX7_begin_19 ?_
  refine lv_iconst (v := (1 : Int32)) hx hb dX7_begin_22 (by decide) ?_
  refine lv_iconst (v := (0 : Int32)) hx hb dX7_begin_23 (by decide) ?_
  obtain ⟨σ24, h24, hf⟩ := bnd hf
  refine q_iast hx hb hK hP hJ hS isC187.o isC187.k h24 dX7_begin_24 (fun H locs hP hS => ?_)
  refine lv_aload_n hx hb dX7_begin_25 rfl (lv_at hl 0 rfl) ?_
  refine gt_X7_20 hx hb hts hown hK hP dX7_begin_26 ?_
  refine lv_iconst (v := (1 : Int32)) hx hb dX7_begin_29 (by decide) ?_
  refine lv_iconst (v := (0 : Int32)) hx hb dX7_begin_30 (by decide) ?_
  obtain ⟨σ31, h31, hf⟩ := bnd hf
  refine q_iast hx hb hK hP hJ hS isC188.o isC188.k h31 dX7_begin_31 (fun H locs hP hS => ?_)
  refine lv_iconst (v := (0 : Int32)) hx hb dX7_begin_32 (by decide) ?_
  refine lv_istore_n (lv' := [(1, .int (0 : Int32)), (0, .ref (w.1 (184)))]) hx hb dX7_begin_33 rfl hl (by decide) rfl (fun ls hl => ?_)
  obtain ⟨rr, hlp, hf⟩ := bnd hf
  have hE34_53 : ∀ (σ_53 : Sg) (H : Heap) (locs : List Loc) (ls : Array Slot), f_X7_begin_k1 σ_53 = some σ' → va_P D vwCl (WL w σ_53) H → va_S (AL w) s.heap H locs → lv_has ls 2 [] → W p l e (rmW 0 0) s m args below meth c H locs 0 0 (MQ below (qvW D w σ') args s 0 0 (AL w)) (F0 m 53 ls []) := by
    intro σ_53 H locs ls hf hP hS hl
    unfold f_X7_begin_k1 at hf
    have hq := Option.some.inj hf
    exact q_vret hx hb hr hlk hP hS hq dX7_begin_53
  refine lp_ind (G := fun (st : (Int32 × Sg)) => ∀ (H : Heap) (locs : List Loc) (ls : Array Slot), va_P D vwCl (WL w st.2) H → va_S (AL w) s.heap H locs → lv_has ls 2 [(0, .ref (w.1 (184))), (1, .int st.1)] → W p l e (rmW 0 0) s m args below meth c H locs 0 0 (MQ below (qvW D w σ') args s 0 0 (AL w)) (F0 m 34 ls [])) (X := fun rr => f_X7_begin_k1 rr = some σ') ?_ _ _ rr hlp hf _ _ _ hP hS (lv_sub hl [1, 0] rfl)
  rintro ⟨x1_34, σ_34⟩ oo34 hb9 hG34 hX34 H locs ls hP hS hl
  have hP : va_P D vwCl (WL w σ_34) H := hP
  have hl : lv_has ls 2 [(0, .ref (w.1 (184))), (1, .int x1_34)] := hl
  have hf : f_X7_begin_b1  x1_34 σ_34 = some oo34 := hb9
  unfold f_X7_begin_b1 at hf
  refine lv_iload_n hx hb dX7_begin_34 rfl (lv_at hl 1 rfl) ?_
  refine lv_bipush (v := (64 : Int32)) hx hb dX7_begin_35 (by decide) ?_
  refine lv_icmp_ge (tgt := 53) hx hb dX7_begin_37 (by decide) (fun hc => ?_) (fun hc => ?_)
  · have hf := ifp hc hf
    obtain rfl := Option.some.inj hf
    exact hE34_53 σ_34 _ _ _ (hX34 _ rfl) hP hS (lv_sub hl [] rfl)
  · have hf := ifn hc hf
    refine lv_aload_n hx hb dX7_begin_40 rfl (lv_at hl 0 rfl) ?_
    refine gt_X7_29 hx hb hts hown hK hP dX7_begin_41 ?_
    refine lv_iload_n hx hb dX7_begin_44 rfl (lv_at hl 1 rfl) ?_
    refine lv_iconst (v := (0 : Int32)) hx hb dX7_begin_45 (by decide) ?_
    obtain ⟨σ46, h46, hf⟩ := bnd hf
    refine q_iast hx hb hK hP hJ hS isC191.o isC191.k h46 dX7_begin_46 (fun H locs hP hS => ?_)
    refine lv_iinc (v := (x1_34 + (1 : Int32))) (lv' := [(1, .int (x1_34 + (1 : Int32))), (0, .ref (w.1 (184)))]) hx hb dX7_begin_47 hl (k := 1) rfl ii_1 (by decide) rfl (fun ls hl => ?_)
    refine lv_goto (tgt := 34) hx hb dX7_begin_50 (by decide) ?_
    obtain rfl := Option.some.inj hf
    exact hG34 _ rfl _ _ _ hP hS (lv_sub hl [1, 0] rfl)
def f_X7_tellRoad (σ : Sg) (a1 : Int32) (a2 : Int32) (a3 : Int32) : Option Sg :=
  (sa σ (191) (ln (191)) (((8 : Int32) * a1) + a2) a3).bind fun σ11 =>
  (sa σ11 (191) (ln (191)) (((8 : Int32) * a2) + a1) a3).bind fun σ23 =>
  some σ23
set_option maxHeartbeats 4000000 in
set_option maxRecDepth 100000 in
theorem c_X7_tellRoad (l : Launch) (D : va_G) (w : Wv) (σ : Sg) (a1 : Int32) (a2 : Int32) (a3 : Int32) (σ' : Sg)  (hJ : Inj w) (hf : f_X7_tellRoad σ a1 a2 a3 = some σ') : Met l yX7_tellRoad (.code yX7_tellRoad cX7_tellRoad 4 none :: TB) (rmW 0 0) (pcW D w [.ref (w.1 (184)), .int a1, .int a2, .int a3] σ) (qvW D w σ') 0 0 (AL w) := by
  refine q_open (by decide +kernel) (Nat.le_of_ble_eq_true rfl) ?_
  intro p e s m args below meth c ls hx hb hml hr hlk hown hts hK hP hS hl
  have hown : s.vm.findClass RX7 = some m.cls := hown
  have hl : lv_has ls 4 [(0, .ref (w.1 (184))), (1, .int a1), (2, .int a2), (3, .int a3)] := hl
  unfold f_X7_tellRoad at hf
  refine lv_aload_n hx hb dX7_tellRoad_0 rfl (lv_at hl 0 rfl) ?_
  refine gt_X7_29 hx hb hts hown hK hP dX7_tellRoad_1 ?_
  refine lv_bipush (v := (8 : Int32)) hx hb dX7_tellRoad_4 (by decide) ?_
  refine lv_iload_n hx hb dX7_tellRoad_6 rfl (lv_at hl 1 rfl) ?_
  refine lv_imul hx hb dX7_tellRoad_7 ?_
  refine lv_iload_n hx hb dX7_tellRoad_8 rfl (lv_at hl 2 rfl) ?_
  refine lv_iadd hx hb dX7_tellRoad_9 ?_
  refine lv_iload_n hx hb dX7_tellRoad_10 rfl (lv_at hl 3 rfl) ?_
  obtain ⟨σ11, h11, hf⟩ := bnd hf
  refine q_iast hx hb hK hP hJ hS isC191.o isC191.k h11 dX7_tellRoad_11 (fun H locs hP hS => ?_)
  refine lv_aload_n hx hb dX7_tellRoad_12 rfl (lv_at hl 0 rfl) ?_
  refine gt_X7_29 hx hb hts hown hK hP dX7_tellRoad_13 ?_
  refine lv_bipush (v := (8 : Int32)) hx hb dX7_tellRoad_16 (by decide) ?_
  refine lv_iload_n hx hb dX7_tellRoad_18 rfl (lv_at hl 2 rfl) ?_
  refine lv_imul hx hb dX7_tellRoad_19 ?_
  refine lv_iload_n hx hb dX7_tellRoad_20 rfl (lv_at hl 1 rfl) ?_
  refine lv_iadd hx hb dX7_tellRoad_21 ?_
  refine lv_iload_n hx hb dX7_tellRoad_22 rfl (lv_at hl 3 rfl) ?_
  obtain ⟨σ23, h23, hf⟩ := bnd hf
  refine q_iast hx hb hK hP hJ hS isC191.o isC191.k h23 dX7_tellRoad_23 (fun H locs hP hS => ?_)
  have hq := Option.some.inj hf
  exact q_vret hx hb hr hlk hP hS hq dX7_tellRoad_24
def f_X7_tellPost (σ : Sg) (a1 : Int32) (a2 : Int32) (a3 : Int32) : Option Sg :=
  (ga (σ (187)) (ln (187)) (1 : Int32)).bind fun v11 =>
  (sa σ (189) (ln (189)) ((6 : Int32) + v11) a1).bind fun σ14 =>
  (ga (σ14 (187)) (ln (187)) (1 : Int32)).bind fun v24 =>
  (sa σ14 (192) (ln (192)) v24 a2).bind fun σ26 =>
  (ga (σ26 (187)) (ln (187)) (1 : Int32)).bind fun v36 =>
  (sa σ26 (193) (ln (193)) v36 a3).bind fun σ38 =>
  (ga (σ38 (187)) (ln (187)) (1 : Int32)).bind fun v45 =>
  (sa σ38 (187) (ln (187)) (1 : Int32) (v45 + (1 : Int32))).bind fun σ48 =>
  some σ48
set_option maxHeartbeats 4000000 in
set_option maxRecDepth 100000 in
theorem c_X7_tellPost (l : Launch) (D : va_G) (w : Wv) (σ : Sg) (a1 : Int32) (a2 : Int32) (a3 : Int32) (σ' : Sg)  (hJ : Inj w) (hf : f_X7_tellPost σ a1 a2 a3 = some σ') : Met l yX7_tellPost (.code yX7_tellPost cX7_tellPost 4 none :: TB) (rmW 0 0) (pcW D w [.ref (w.1 (184)), .int a1, .int a2, .int a3] σ) (qvW D w σ') 0 0 (AL w) := by
  refine q_open (by decide +kernel) (Nat.le_of_ble_eq_true rfl) ?_
  intro p e s m args below meth c ls hx hb hml hr hlk hown hts hK hP hS hl
  have hown : s.vm.findClass RX7 = some m.cls := hown
  have hl : lv_has ls 4 [(0, .ref (w.1 (184))), (1, .int a1), (2, .int a2), (3, .int a3)] := hl
  unfold f_X7_tellPost at hf
  refine lv_aload_n hx hb dX7_tellPost_0 rfl (lv_at hl 0 rfl) ?_
  refine gt_X7_23 hx hb hts hown hK hP dX7_tellPost_1 ?_
  refine lv_bipush (v := (6 : Int32)) hx hb dX7_tellPost_4 (by decide) ?_
  refine lv_aload_n hx hb dX7_tellPost_6 rfl (lv_at hl 0 rfl) ?_
  refine gt_X7_17 hx hb hts hown hK hP dX7_tellPost_7 ?_
  refine lv_iconst (v := (1 : Int32)) hx hb dX7_tellPost_10 (by decide) ?_
  obtain ⟨v11, h11, hf⟩ := bnd hf
  refine q_iald hx hb hK hP isC187.o isC187.k h11 dX7_tellPost_11 ?_
  refine lv_iadd hx hb dX7_tellPost_12 ?_
  refine lv_iload_n hx hb dX7_tellPost_13 rfl (lv_at hl 1 rfl) ?_
  obtain ⟨σ14, h14, hf⟩ := bnd hf
  refine q_iast hx hb hK hP hJ hS isC189.o isC189.k h14 dX7_tellPost_14 (fun H locs hP hS => ?_)
  refine lv_aload_n hx hb dX7_tellPost_15 rfl (lv_at hl 0 rfl) ?_
  refine gt_X7_32 hx hb hts hown hK hP dX7_tellPost_16 ?_
  refine lv_aload_n hx hb dX7_tellPost_19 rfl (lv_at hl 0 rfl) ?_
  refine gt_X7_17 hx hb hts hown hK hP dX7_tellPost_20 ?_
  refine lv_iconst (v := (1 : Int32)) hx hb dX7_tellPost_23 (by decide) ?_
  obtain ⟨v24, h24, hf⟩ := bnd hf
  refine q_iald hx hb hK hP isC187.o isC187.k h24 dX7_tellPost_24 ?_
  refine lv_iload_n hx hb dX7_tellPost_25 rfl (lv_at hl 2 rfl) ?_
  obtain ⟨σ26, h26, hf⟩ := bnd hf
  refine q_iast hx hb hK hP hJ hS isC192.o isC192.k h26 dX7_tellPost_26 (fun H locs hP hS => ?_)
  refine lv_aload_n hx hb dX7_tellPost_27 rfl (lv_at hl 0 rfl) ?_
  refine gt_X7_35 hx hb hts hown hK hP dX7_tellPost_28 ?_
  refine lv_aload_n hx hb dX7_tellPost_31 rfl (lv_at hl 0 rfl) ?_
  refine gt_X7_17 hx hb hts hown hK hP dX7_tellPost_32 ?_
  refine lv_iconst (v := (1 : Int32)) hx hb dX7_tellPost_35 (by decide) ?_
  obtain ⟨v36, h36, hf⟩ := bnd hf
  refine q_iald hx hb hK hP isC187.o isC187.k h36 dX7_tellPost_36 ?_
  refine lv_iload_n hx hb dX7_tellPost_37 rfl (lv_at hl 3 rfl) ?_
  obtain ⟨σ38, h38, hf⟩ := bnd hf
  refine q_iast hx hb hK hP hJ hS isC193.o isC193.k h38 dX7_tellPost_38 (fun H locs hP hS => ?_)
  refine lv_aload_n hx hb dX7_tellPost_39 rfl (lv_at hl 0 rfl) ?_
  refine gt_X7_17 hx hb hts hown hK hP dX7_tellPost_40 ?_
  refine lv_iconst (v := (1 : Int32)) hx hb dX7_tellPost_43 (by decide) ?_
  refine lv_dup2_11 hx hb dX7_tellPost_44 rfl rfl ?_
  obtain ⟨v45, h45, hf⟩ := bnd hf
  refine q_iald hx hb hK hP isC187.o isC187.k h45 dX7_tellPost_45 ?_
  refine lv_iconst (v := (1 : Int32)) hx hb dX7_tellPost_46 (by decide) ?_
  refine lv_iadd hx hb dX7_tellPost_47 ?_
  obtain ⟨σ48, h48, hf⟩ := bnd hf
  refine q_iast hx hb hK hP hJ hS isC187.o isC187.k h48 dX7_tellPost_48 (fun H locs hP hS => ?_)
  have hq := Option.some.inj hf
  exact q_vret hx hb hr hlk hP hS hq dX7_tellPost_49
def f_X7_tellWalker (σ : Sg) (a1 : Int32) (a2 : Int32) : Option Sg :=
  (ga (σ (188)) (ln (188)) (1 : Int32)).bind fun v9 =>
  (sa σ (194) (ln (194)) v9 a1).bind fun σ11 =>
  (ga (σ11 (188)) (ln (188)) (1 : Int32)).bind fun v22 =>
  (sa σ11 (190) (ln (190)) ((5 : Int32) + v22) a2).bind fun σ25 =>
  (ga (σ25 (188)) (ln (188)) (1 : Int32)).bind fun v32 =>
  (sa σ25 (188) (ln (188)) (1 : Int32) (v32 + (1 : Int32))).bind fun σ35 =>
  some σ35
set_option maxHeartbeats 4000000 in
set_option maxRecDepth 100000 in
theorem c_X7_tellWalker (l : Launch) (D : va_G) (w : Wv) (σ : Sg) (a1 : Int32) (a2 : Int32) (σ' : Sg)  (hJ : Inj w) (hf : f_X7_tellWalker σ a1 a2 = some σ') : Met l yX7_tellWalker (.code yX7_tellWalker cX7_tellWalker 3 none :: TB) (rmW 0 0) (pcW D w [.ref (w.1 (184)), .int a1, .int a2] σ) (qvW D w σ') 0 0 (AL w) := by
  refine q_open (by decide +kernel) (Nat.le_of_ble_eq_true rfl) ?_
  intro p e s m args below meth c ls hx hb hml hr hlk hown hts hK hP hS hl
  have hown : s.vm.findClass RX7 = some m.cls := hown
  have hl : lv_has ls 3 [(0, .ref (w.1 (184))), (1, .int a1), (2, .int a2)] := hl
  unfold f_X7_tellWalker at hf
  refine lv_aload_n hx hb dX7_tellWalker_0 rfl (lv_at hl 0 rfl) ?_
  refine gt_X7_38 hx hb hts hown hK hP dX7_tellWalker_1 ?_
  refine lv_aload_n hx hb dX7_tellWalker_4 rfl (lv_at hl 0 rfl) ?_
  refine gt_X7_20 hx hb hts hown hK hP dX7_tellWalker_5 ?_
  refine lv_iconst (v := (1 : Int32)) hx hb dX7_tellWalker_8 (by decide) ?_
  obtain ⟨v9, h9, hf⟩ := bnd hf
  refine q_iald hx hb hK hP isC188.o isC188.k h9 dX7_tellWalker_9 ?_
  refine lv_iload_n hx hb dX7_tellWalker_10 rfl (lv_at hl 1 rfl) ?_
  obtain ⟨σ11, h11, hf⟩ := bnd hf
  refine q_iast hx hb hK hP hJ hS isC194.o isC194.k h11 dX7_tellWalker_11 (fun H locs hP hS => ?_)
  refine lv_aload_n hx hb dX7_tellWalker_12 rfl (lv_at hl 0 rfl) ?_
  refine gt_X7_26 hx hb hts hown hK hP dX7_tellWalker_13 ?_
  refine lv_iconst (v := (5 : Int32)) hx hb dX7_tellWalker_16 (by decide) ?_
  refine lv_aload_n hx hb dX7_tellWalker_17 rfl (lv_at hl 0 rfl) ?_
  refine gt_X7_20 hx hb hts hown hK hP dX7_tellWalker_18 ?_
  refine lv_iconst (v := (1 : Int32)) hx hb dX7_tellWalker_21 (by decide) ?_
  obtain ⟨v22, h22, hf⟩ := bnd hf
  refine q_iald hx hb hK hP isC188.o isC188.k h22 dX7_tellWalker_22 ?_
  refine lv_iadd hx hb dX7_tellWalker_23 ?_
  refine lv_iload_n hx hb dX7_tellWalker_24 rfl (lv_at hl 2 rfl) ?_
  obtain ⟨σ25, h25, hf⟩ := bnd hf
  refine q_iast hx hb hK hP hJ hS isC190.o isC190.k h25 dX7_tellWalker_25 (fun H locs hP hS => ?_)
  refine lv_aload_n hx hb dX7_tellWalker_26 rfl (lv_at hl 0 rfl) ?_
  refine gt_X7_20 hx hb hts hown hK hP dX7_tellWalker_27 ?_
  refine lv_iconst (v := (1 : Int32)) hx hb dX7_tellWalker_30 (by decide) ?_
  refine lv_dup2_11 hx hb dX7_tellWalker_31 rfl rfl ?_
  obtain ⟨v32, h32, hf⟩ := bnd hf
  refine q_iald hx hb hK hP isC188.o isC188.k h32 dX7_tellWalker_32 ?_
  refine lv_iconst (v := (1 : Int32)) hx hb dX7_tellWalker_33 (by decide) ?_
  refine lv_iadd hx hb dX7_tellWalker_34 ?_
  obtain ⟨σ35, h35, hf⟩ := bnd hf
  refine q_iast hx hb hK hP hJ hS isC188.o isC188.k h35 dX7_tellWalker_35 (fun H locs hP hS => ?_)
  have hq := Option.some.inj hf
  exact q_vret hx hb hr hlk hP hS hq dX7_tellWalker_36
def f_X7_first (σ : Sg)  : Option Sg :=
  (f_X7_begin σ).bind fun σ1 =>
  (f_X7_tellRoad σ1 (0 : Int32) (1 : Int32) (2 : Int32)).bind fun σ8 =>
  (f_X7_tellRoad σ8 (1 : Int32) (2 : Int32) (3 : Int32)).bind fun σ15 =>
  (f_X7_tellRoad σ15 (2 : Int32) (3 : Int32) (1 : Int32)).bind fun σ22 =>
  (f_X7_tellRoad σ22 (3 : Int32) (4 : Int32) (4 : Int32)).bind fun σ29 =>
  (f_X7_tellRoad σ29 (4 : Int32) (5 : Int32) (2 : Int32)).bind fun σ36 =>
  (f_X7_tellRoad σ36 (5 : Int32) (0 : Int32) (6 : Int32)).bind fun σ44 =>
  (f_X7_tellRoad σ44 (1 : Int32) (4 : Int32) (5 : Int32)).bind fun σ51 =>
  (f_X7_tellPost σ51 (0 : Int32) (0 : Int32) (10 : Int32)).bind fun σ59 =>
  (f_X7_tellPost σ59 (1 : Int32) (1 : Int32) (45 : Int32)).bind fun σ67 =>
  (f_X7_tellPost σ67 (2 : Int32) (4 : Int32) (30 : Int32)).bind fun σ75 =>
  (f_X7_tellPost σ75 (3 : Int32) (2 : Int32) (20 : Int32)).bind fun σ83 =>
  (f_X7_tellPost σ83 (0 : Int32) (5 : Int32) (59 : Int32)).bind fun σ91 =>
  (f_X7_tellWalker σ91 (0 : Int32) (3 : Int32)).bind fun σ97 =>
  (f_X7_tellWalker σ97 (5 : Int32) (2 : Int32)).bind fun σ103 =>
  (f_X7_tellWalker σ103 (2 : Int32) (0 : Int32)).bind fun σ109 =>
  (f_X7_tellWalker σ109 (4 : Int32) (1 : Int32)).bind fun σ115 =>
  some σ115
set_option maxHeartbeats 4000000 in
set_option maxRecDepth 100000 in
theorem c_X7_first (l : Launch) (D : va_G) (w : Wv) (σ : Sg)  (σ' : Sg)  (hJ : Inj w) (hf : f_X7_first σ = some σ') : Met l yX7_first (.code yX7_first cX7_first 1 none :: TB) (rmW 1 23) (pcW D w [.ref (w.1 (184))] σ) (qvW D w σ') 0 0 (AL w) := by
  refine q_open (by decide +kernel) (Nat.le_of_ble_eq_true rfl) ?_
  intro p e s m args below meth c ls hx hb hml hr hlk hown hts hK hP hS hl
  have hown : s.vm.findClass RX7 = some m.cls := hown
  have hl : lv_has ls 1 [(0, .ref (w.1 (184)))] := hl
  unfold f_X7_first at hf
  refine lv_aload_n hx hb dX7_first_0 rfl (lv_at hl 0 rfl) ?_
  obtain ⟨σ1, h1, hf⟩ := bnd hf
  refine q_cVv (As := []) hx hb hts hml hown hK hP hS (c_X7_begin l D w σ σ1 hJ h1) hw_X7_126 hd_X7_begin ⟨rfl, rfl, rfl⟩ o184 (ce7 kd184) rfl ⟨Nat.le_of_ble_eq_true rfl, Nat.le_of_ble_eq_true rfl⟩ ⟨Nat.le_of_ble_eq_true rfl, Nat.le_of_ble_eq_true rfl⟩ hl.1 rfl (Nat.le_of_ble_eq_true rfl) dX7_first_1 (fun H locs hP hS => ?_)
  refine lv_aload_n hx hb dX7_first_4 rfl (lv_at hl 0 rfl) ?_
  refine lv_iconst (v := (0 : Int32)) hx hb dX7_first_5 (by decide) ?_
  refine lv_iconst (v := (1 : Int32)) hx hb dX7_first_6 (by decide) ?_
  refine lv_iconst (v := (2 : Int32)) hx hb dX7_first_7 (by decide) ?_
  obtain ⟨σ8, h8, hf⟩ := bnd hf
  refine q_cVv (As := [.int (0 : Int32), .int (1 : Int32), .int (2 : Int32)]) hx hb hts hml hown hK hP hS (c_X7_tellRoad l D w σ1 (0 : Int32) (1 : Int32) (2 : Int32) σ8 hJ h8) hw_X7_135 hd_X7_tellRoad ⟨rfl, rfl, rfl⟩ o184 (ce7 kd184) rfl ⟨Nat.le_of_ble_eq_true rfl, Nat.le_of_ble_eq_true rfl⟩ ⟨Nat.le_of_ble_eq_true rfl, Nat.le_of_ble_eq_true rfl⟩ hl.1 rfl (Nat.le_of_ble_eq_true rfl) dX7_first_8 (fun H locs hP hS => ?_)
  refine lv_aload_n hx hb dX7_first_11 rfl (lv_at hl 0 rfl) ?_
  refine lv_iconst (v := (1 : Int32)) hx hb dX7_first_12 (by decide) ?_
  refine lv_iconst (v := (2 : Int32)) hx hb dX7_first_13 (by decide) ?_
  refine lv_iconst (v := (3 : Int32)) hx hb dX7_first_14 (by decide) ?_
  obtain ⟨σ15, h15, hf⟩ := bnd hf
  refine q_cVv (As := [.int (1 : Int32), .int (2 : Int32), .int (3 : Int32)]) hx hb hts hml hown hK hP hS (c_X7_tellRoad l D w σ8 (1 : Int32) (2 : Int32) (3 : Int32) σ15 hJ h15) hw_X7_135 hd_X7_tellRoad ⟨rfl, rfl, rfl⟩ o184 (ce7 kd184) rfl ⟨Nat.le_of_ble_eq_true rfl, Nat.le_of_ble_eq_true rfl⟩ ⟨Nat.le_of_ble_eq_true rfl, Nat.le_of_ble_eq_true rfl⟩ hl.1 rfl (Nat.le_of_ble_eq_true rfl) dX7_first_15 (fun H locs hP hS => ?_)
  refine lv_aload_n hx hb dX7_first_18 rfl (lv_at hl 0 rfl) ?_
  refine lv_iconst (v := (2 : Int32)) hx hb dX7_first_19 (by decide) ?_
  refine lv_iconst (v := (3 : Int32)) hx hb dX7_first_20 (by decide) ?_
  refine lv_iconst (v := (1 : Int32)) hx hb dX7_first_21 (by decide) ?_
  obtain ⟨σ22, h22, hf⟩ := bnd hf
  refine q_cVv (As := [.int (2 : Int32), .int (3 : Int32), .int (1 : Int32)]) hx hb hts hml hown hK hP hS (c_X7_tellRoad l D w σ15 (2 : Int32) (3 : Int32) (1 : Int32) σ22 hJ h22) hw_X7_135 hd_X7_tellRoad ⟨rfl, rfl, rfl⟩ o184 (ce7 kd184) rfl ⟨Nat.le_of_ble_eq_true rfl, Nat.le_of_ble_eq_true rfl⟩ ⟨Nat.le_of_ble_eq_true rfl, Nat.le_of_ble_eq_true rfl⟩ hl.1 rfl (Nat.le_of_ble_eq_true rfl) dX7_first_22 (fun H locs hP hS => ?_)
  refine lv_aload_n hx hb dX7_first_25 rfl (lv_at hl 0 rfl) ?_
  refine lv_iconst (v := (3 : Int32)) hx hb dX7_first_26 (by decide) ?_
  refine lv_iconst (v := (4 : Int32)) hx hb dX7_first_27 (by decide) ?_
  refine lv_iconst (v := (4 : Int32)) hx hb dX7_first_28 (by decide) ?_
  obtain ⟨σ29, h29, hf⟩ := bnd hf
  refine q_cVv (As := [.int (3 : Int32), .int (4 : Int32), .int (4 : Int32)]) hx hb hts hml hown hK hP hS (c_X7_tellRoad l D w σ22 (3 : Int32) (4 : Int32) (4 : Int32) σ29 hJ h29) hw_X7_135 hd_X7_tellRoad ⟨rfl, rfl, rfl⟩ o184 (ce7 kd184) rfl ⟨Nat.le_of_ble_eq_true rfl, Nat.le_of_ble_eq_true rfl⟩ ⟨Nat.le_of_ble_eq_true rfl, Nat.le_of_ble_eq_true rfl⟩ hl.1 rfl (Nat.le_of_ble_eq_true rfl) dX7_first_29 (fun H locs hP hS => ?_)
  refine lv_aload_n hx hb dX7_first_32 rfl (lv_at hl 0 rfl) ?_
  refine lv_iconst (v := (4 : Int32)) hx hb dX7_first_33 (by decide) ?_
  refine lv_iconst (v := (5 : Int32)) hx hb dX7_first_34 (by decide) ?_
  refine lv_iconst (v := (2 : Int32)) hx hb dX7_first_35 (by decide) ?_
  obtain ⟨σ36, h36, hf⟩ := bnd hf
  refine q_cVv (As := [.int (4 : Int32), .int (5 : Int32), .int (2 : Int32)]) hx hb hts hml hown hK hP hS (c_X7_tellRoad l D w σ29 (4 : Int32) (5 : Int32) (2 : Int32) σ36 hJ h36) hw_X7_135 hd_X7_tellRoad ⟨rfl, rfl, rfl⟩ o184 (ce7 kd184) rfl ⟨Nat.le_of_ble_eq_true rfl, Nat.le_of_ble_eq_true rfl⟩ ⟨Nat.le_of_ble_eq_true rfl, Nat.le_of_ble_eq_true rfl⟩ hl.1 rfl (Nat.le_of_ble_eq_true rfl) dX7_first_36 (fun H locs hP hS => ?_)
  refine lv_aload_n hx hb dX7_first_39 rfl (lv_at hl 0 rfl) ?_
  refine lv_iconst (v := (5 : Int32)) hx hb dX7_first_40 (by decide) ?_
  refine lv_iconst (v := (0 : Int32)) hx hb dX7_first_41 (by decide) ?_
  refine lv_bipush (v := (6 : Int32)) hx hb dX7_first_42 (by decide) ?_
  obtain ⟨σ44, h44, hf⟩ := bnd hf
  refine q_cVv (As := [.int (5 : Int32), .int (0 : Int32), .int (6 : Int32)]) hx hb hts hml hown hK hP hS (c_X7_tellRoad l D w σ36 (5 : Int32) (0 : Int32) (6 : Int32) σ44 hJ h44) hw_X7_135 hd_X7_tellRoad ⟨rfl, rfl, rfl⟩ o184 (ce7 kd184) rfl ⟨Nat.le_of_ble_eq_true rfl, Nat.le_of_ble_eq_true rfl⟩ ⟨Nat.le_of_ble_eq_true rfl, Nat.le_of_ble_eq_true rfl⟩ hl.1 rfl (Nat.le_of_ble_eq_true rfl) dX7_first_44 (fun H locs hP hS => ?_)
  refine lv_aload_n hx hb dX7_first_47 rfl (lv_at hl 0 rfl) ?_
  refine lv_iconst (v := (1 : Int32)) hx hb dX7_first_48 (by decide) ?_
  refine lv_iconst (v := (4 : Int32)) hx hb dX7_first_49 (by decide) ?_
  refine lv_iconst (v := (5 : Int32)) hx hb dX7_first_50 (by decide) ?_
  obtain ⟨σ51, h51, hf⟩ := bnd hf
  refine q_cVv (As := [.int (1 : Int32), .int (4 : Int32), .int (5 : Int32)]) hx hb hts hml hown hK hP hS (c_X7_tellRoad l D w σ44 (1 : Int32) (4 : Int32) (5 : Int32) σ51 hJ h51) hw_X7_135 hd_X7_tellRoad ⟨rfl, rfl, rfl⟩ o184 (ce7 kd184) rfl ⟨Nat.le_of_ble_eq_true rfl, Nat.le_of_ble_eq_true rfl⟩ ⟨Nat.le_of_ble_eq_true rfl, Nat.le_of_ble_eq_true rfl⟩ hl.1 rfl (Nat.le_of_ble_eq_true rfl) dX7_first_51 (fun H locs hP hS => ?_)
  refine lv_aload_n hx hb dX7_first_54 rfl (lv_at hl 0 rfl) ?_
  refine lv_iconst (v := (0 : Int32)) hx hb dX7_first_55 (by decide) ?_
  refine lv_iconst (v := (0 : Int32)) hx hb dX7_first_56 (by decide) ?_
  refine lv_bipush (v := (10 : Int32)) hx hb dX7_first_57 (by decide) ?_
  obtain ⟨σ59, h59, hf⟩ := bnd hf
  refine q_cVv (As := [.int (0 : Int32), .int (0 : Int32), .int (10 : Int32)]) hx hb hts hml hown hK hP hS (c_X7_tellPost l D w σ51 (0 : Int32) (0 : Int32) (10 : Int32) σ59 hJ h59) hw_X7_139 hd_X7_tellPost ⟨rfl, rfl, rfl⟩ o184 (ce7 kd184) rfl ⟨Nat.le_of_ble_eq_true rfl, Nat.le_of_ble_eq_true rfl⟩ ⟨Nat.le_of_ble_eq_true rfl, Nat.le_of_ble_eq_true rfl⟩ hl.1 rfl (Nat.le_of_ble_eq_true rfl) dX7_first_59 (fun H locs hP hS => ?_)
  refine lv_aload_n hx hb dX7_first_62 rfl (lv_at hl 0 rfl) ?_
  refine lv_iconst (v := (1 : Int32)) hx hb dX7_first_63 (by decide) ?_
  refine lv_iconst (v := (1 : Int32)) hx hb dX7_first_64 (by decide) ?_
  refine lv_bipush (v := (45 : Int32)) hx hb dX7_first_65 (by decide) ?_
  obtain ⟨σ67, h67, hf⟩ := bnd hf
  refine q_cVv (As := [.int (1 : Int32), .int (1 : Int32), .int (45 : Int32)]) hx hb hts hml hown hK hP hS (c_X7_tellPost l D w σ59 (1 : Int32) (1 : Int32) (45 : Int32) σ67 hJ h67) hw_X7_139 hd_X7_tellPost ⟨rfl, rfl, rfl⟩ o184 (ce7 kd184) rfl ⟨Nat.le_of_ble_eq_true rfl, Nat.le_of_ble_eq_true rfl⟩ ⟨Nat.le_of_ble_eq_true rfl, Nat.le_of_ble_eq_true rfl⟩ hl.1 rfl (Nat.le_of_ble_eq_true rfl) dX7_first_67 (fun H locs hP hS => ?_)
  refine lv_aload_n hx hb dX7_first_70 rfl (lv_at hl 0 rfl) ?_
  refine lv_iconst (v := (2 : Int32)) hx hb dX7_first_71 (by decide) ?_
  refine lv_iconst (v := (4 : Int32)) hx hb dX7_first_72 (by decide) ?_
  refine lv_bipush (v := (30 : Int32)) hx hb dX7_first_73 (by decide) ?_
  obtain ⟨σ75, h75, hf⟩ := bnd hf
  refine q_cVv (As := [.int (2 : Int32), .int (4 : Int32), .int (30 : Int32)]) hx hb hts hml hown hK hP hS (c_X7_tellPost l D w σ67 (2 : Int32) (4 : Int32) (30 : Int32) σ75 hJ h75) hw_X7_139 hd_X7_tellPost ⟨rfl, rfl, rfl⟩ o184 (ce7 kd184) rfl ⟨Nat.le_of_ble_eq_true rfl, Nat.le_of_ble_eq_true rfl⟩ ⟨Nat.le_of_ble_eq_true rfl, Nat.le_of_ble_eq_true rfl⟩ hl.1 rfl (Nat.le_of_ble_eq_true rfl) dX7_first_75 (fun H locs hP hS => ?_)
  refine lv_aload_n hx hb dX7_first_78 rfl (lv_at hl 0 rfl) ?_
  refine lv_iconst (v := (3 : Int32)) hx hb dX7_first_79 (by decide) ?_
  refine lv_iconst (v := (2 : Int32)) hx hb dX7_first_80 (by decide) ?_
  refine lv_bipush (v := (20 : Int32)) hx hb dX7_first_81 (by decide) ?_
  obtain ⟨σ83, h83, hf⟩ := bnd hf
  refine q_cVv (As := [.int (3 : Int32), .int (2 : Int32), .int (20 : Int32)]) hx hb hts hml hown hK hP hS (c_X7_tellPost l D w σ75 (3 : Int32) (2 : Int32) (20 : Int32) σ83 hJ h83) hw_X7_139 hd_X7_tellPost ⟨rfl, rfl, rfl⟩ o184 (ce7 kd184) rfl ⟨Nat.le_of_ble_eq_true rfl, Nat.le_of_ble_eq_true rfl⟩ ⟨Nat.le_of_ble_eq_true rfl, Nat.le_of_ble_eq_true rfl⟩ hl.1 rfl (Nat.le_of_ble_eq_true rfl) dX7_first_83 (fun H locs hP hS => ?_)
  refine lv_aload_n hx hb dX7_first_86 rfl (lv_at hl 0 rfl) ?_
  refine lv_iconst (v := (0 : Int32)) hx hb dX7_first_87 (by decide) ?_
  refine lv_iconst (v := (5 : Int32)) hx hb dX7_first_88 (by decide) ?_
  refine lv_bipush (v := (59 : Int32)) hx hb dX7_first_89 (by decide) ?_
  obtain ⟨σ91, h91, hf⟩ := bnd hf
  refine q_cVv (As := [.int (0 : Int32), .int (5 : Int32), .int (59 : Int32)]) hx hb hts hml hown hK hP hS (c_X7_tellPost l D w σ83 (0 : Int32) (5 : Int32) (59 : Int32) σ91 hJ h91) hw_X7_139 hd_X7_tellPost ⟨rfl, rfl, rfl⟩ o184 (ce7 kd184) rfl ⟨Nat.le_of_ble_eq_true rfl, Nat.le_of_ble_eq_true rfl⟩ ⟨Nat.le_of_ble_eq_true rfl, Nat.le_of_ble_eq_true rfl⟩ hl.1 rfl (Nat.le_of_ble_eq_true rfl) dX7_first_91 (fun H locs hP hS => ?_)
  refine lv_aload_n hx hb dX7_first_94 rfl (lv_at hl 0 rfl) ?_
  refine lv_iconst (v := (0 : Int32)) hx hb dX7_first_95 (by decide) ?_
  refine lv_iconst (v := (3 : Int32)) hx hb dX7_first_96 (by decide) ?_
  obtain ⟨σ97, h97, hf⟩ := bnd hf
  refine q_cVv (As := [.int (0 : Int32), .int (3 : Int32)]) hx hb hts hml hown hK hP hS (c_X7_tellWalker l D w σ91 (0 : Int32) (3 : Int32) σ97 hJ h97) hw_X7_142 hd_X7_tellWalker ⟨rfl, rfl, rfl⟩ o184 (ce7 kd184) rfl ⟨Nat.le_of_ble_eq_true rfl, Nat.le_of_ble_eq_true rfl⟩ ⟨Nat.le_of_ble_eq_true rfl, Nat.le_of_ble_eq_true rfl⟩ hl.1 rfl (Nat.le_of_ble_eq_true rfl) dX7_first_97 (fun H locs hP hS => ?_)
  refine lv_aload_n hx hb dX7_first_100 rfl (lv_at hl 0 rfl) ?_
  refine lv_iconst (v := (5 : Int32)) hx hb dX7_first_101 (by decide) ?_
  refine lv_iconst (v := (2 : Int32)) hx hb dX7_first_102 (by decide) ?_
  obtain ⟨σ103, h103, hf⟩ := bnd hf
  refine q_cVv (As := [.int (5 : Int32), .int (2 : Int32)]) hx hb hts hml hown hK hP hS (c_X7_tellWalker l D w σ97 (5 : Int32) (2 : Int32) σ103 hJ h103) hw_X7_142 hd_X7_tellWalker ⟨rfl, rfl, rfl⟩ o184 (ce7 kd184) rfl ⟨Nat.le_of_ble_eq_true rfl, Nat.le_of_ble_eq_true rfl⟩ ⟨Nat.le_of_ble_eq_true rfl, Nat.le_of_ble_eq_true rfl⟩ hl.1 rfl (Nat.le_of_ble_eq_true rfl) dX7_first_103 (fun H locs hP hS => ?_)
  refine lv_aload_n hx hb dX7_first_106 rfl (lv_at hl 0 rfl) ?_
  refine lv_iconst (v := (2 : Int32)) hx hb dX7_first_107 (by decide) ?_
  refine lv_iconst (v := (0 : Int32)) hx hb dX7_first_108 (by decide) ?_
  obtain ⟨σ109, h109, hf⟩ := bnd hf
  refine q_cVv (As := [.int (2 : Int32), .int (0 : Int32)]) hx hb hts hml hown hK hP hS (c_X7_tellWalker l D w σ103 (2 : Int32) (0 : Int32) σ109 hJ h109) hw_X7_142 hd_X7_tellWalker ⟨rfl, rfl, rfl⟩ o184 (ce7 kd184) rfl ⟨Nat.le_of_ble_eq_true rfl, Nat.le_of_ble_eq_true rfl⟩ ⟨Nat.le_of_ble_eq_true rfl, Nat.le_of_ble_eq_true rfl⟩ hl.1 rfl (Nat.le_of_ble_eq_true rfl) dX7_first_109 (fun H locs hP hS => ?_)
  refine lv_aload_n hx hb dX7_first_112 rfl (lv_at hl 0 rfl) ?_
  refine lv_iconst (v := (4 : Int32)) hx hb dX7_first_113 (by decide) ?_
  refine lv_iconst (v := (1 : Int32)) hx hb dX7_first_114 (by decide) ?_
  obtain ⟨σ115, h115, hf⟩ := bnd hf
  refine q_cVv (As := [.int (4 : Int32), .int (1 : Int32)]) hx hb hts hml hown hK hP hS (c_X7_tellWalker l D w σ109 (4 : Int32) (1 : Int32) σ115 hJ h115) hw_X7_142 hd_X7_tellWalker ⟨rfl, rfl, rfl⟩ o184 (ce7 kd184) rfl ⟨Nat.le_of_ble_eq_true rfl, Nat.le_of_ble_eq_true rfl⟩ ⟨Nat.le_of_ble_eq_true rfl, Nat.le_of_ble_eq_true rfl⟩ hl.1 rfl (Nat.le_of_ble_eq_true rfl) dX7_first_115 (fun H locs hP hS => ?_)
  have hq := Option.some.inj hf
  exact q_vret hx hb hr hlk hP hS hq dX7_first_118
def f_X7_measure_b1 (a1 : Nat) (x2_2 : Int32) (σ_2 : Sg) : Option ((Int32 × Sg) ⊕ Sg) :=
  if (64 : Int32) ≤ x2_2 then
  some (.inr σ_2)
  else
  if ¬ (x2_2 / (8 : Int32)) = (jrem x2_2 (8 : Int32)) then
  (ga (σ_2 (a1)) (ln (a1)) ((7 : Int32) + x2_2)).bind fun v33 =>
  if v33 ≤ 0 then
  (sa σ_2 (199) (ln (199)) x2_2 (100000 : Int32)).bind fun σ48 =>
  some (.inl ((x2_2 + (1 : Int32)), σ48))
  else
  (ga (σ_2 (a1)) (ln (a1)) ((7 : Int32) + x2_2)).bind fun v42 =>
  (sa σ_2 (199) (ln (199)) x2_2 v42).bind fun σ48 =>
  some (.inl ((x2_2 + (1 : Int32)), σ48))
  else
  (sa σ_2 (199) (ln (199)) x2_2 (0 : Int32)).bind fun σ48 =>
  some (.inl ((x2_2 + (1 : Int32)), σ48))
def f_X7_measure_b2 (x2_57 : Int32) (x3_65 : Int32) (x4_74 : Int32) (σ_74 : Sg) : Option ((Int32 × Sg) ⊕ Sg) :=
  if (8 : Int32) ≤ x4_74 then
  some (.inr σ_74)
  else
  (ga (σ_74 (199)) (ln (199)) (((8 : Int32) * x3_65) + x2_57)).bind fun v91 =>
  (ga (σ_74 (199)) (ln (199)) (((8 : Int32) * x2_57) + x4_74)).bind fun v103 =>
  (ga (σ_74 (199)) (ln (199)) (((8 : Int32) * x3_65) + x4_74)).bind fun v131 =>
  if v131 ≤ (v91 + v103) then
  (ga (σ_74 (199)) (ln (199)) (((8 : Int32) * x3_65) + x4_74)).bind fun v151 =>
  (sa σ_74 (199) (ln (199)) (((8 : Int32) * x3_65) + x4_74) v151).bind fun σ152 =>
  some (.inl ((x4_74 + (1 : Int32)), σ152))
  else
  (sa σ_74 (199) (ln (199)) (((8 : Int32) * x3_65) + x4_74) (v91 + v103)).bind fun σ152 =>
  some (.inl ((x4_74 + (1 : Int32)), σ152))
def f_X7_measure_k1 (x3_65 : Int32) (σ_159 : Sg) : Option ((Int32 × Sg) ⊕ Sg) :=
  some (.inl ((x3_65 + (1 : Int32)), σ_159))
def f_X7_measure_b3 (x2_57 : Int32) (x3_65 : Int32) (σ_65 : Sg) : Option ((Int32 × Sg) ⊕ Sg) :=
  if (8 : Int32) ≤ x3_65 then
  some (.inr σ_65)
  else
  (lp (fun st => f_X7_measure_b2 x2_57 x3_65 st.1 st.2) FU ((0 : Int32), σ_65)).bind fun rr => f_X7_measure_k1 x3_65 rr
def f_X7_measure_k2 (x2_57 : Int32) (σ_165 : Sg) : Option ((Int32 × Sg) ⊕ Sg) :=
  some (.inl ((x2_57 + (1 : Int32)), σ_165))
def f_X7_measure_b4 (x2_57 : Int32) (σ_57 : Sg) : Option ((Int32 × Sg) ⊕ Sg) :=
  if (8 : Int32) ≤ x2_57 then
  some (.inr σ_57)
  else
  (lp (fun st => f_X7_measure_b3 x2_57 st.1 st.2) FU ((0 : Int32), σ_57)).bind fun rr => f_X7_measure_k2 x2_57 rr
def f_X7_measure_k3 (σ_171 : Sg) : Option Sg :=
  some σ_171
def f_X7_measure_k4 (σ_55 : Sg) : Option Sg :=
  (lp (fun st => f_X7_measure_b4  st.1 st.2) FU ((0 : Int32), σ_55)).bind fun rr => f_X7_measure_k3 rr
def f_X7_measure (σ : Sg) (a1 : Nat) : Option Sg :=
  (lp (fun st => f_X7_measure_b1 a1 st.1 st.2) FU ((0 : Int32), σ)).bind fun rr => f_X7_measure_k4 rr
set_option maxHeartbeats 4000000 in
set_option maxRecDepth 100000 in
theorem c_X7_measure (l : Launch) (D : va_G) (w : Wv) (σ : Sg) (a1 : Nat) (σ' : Sg) (ha1 : isC a1) (hJ : Inj w) (hf : f_X7_measure σ a1 = some σ') : Met l yX7_measure (.code yX7_measure cX7_measure 6 none :: TB) (rmW 0 0) (pcW D w [.ref (w.1 (184)), .ref (w.1 (a1))] σ) (qvW D w σ') 0 0 (AL w) := by
  refine q_open (by decide +kernel) (Nat.le_of_ble_eq_true rfl) ?_
  intro p e s m args below meth c ls hx hb hml hr hlk hown hts hK hP hS hl
  have hown : s.vm.findClass RX7 = some m.cls := hown
  have hl : lv_has ls 6 [(0, .ref (w.1 (184))), (1, .ref (w.1 (a1)))] := hl
  unfold f_X7_measure at hf
  refine lv_iconst (v := (0 : Int32)) hx hb dX7_measure_0 (by decide) ?_
  refine lv_istore_n (lv' := [(2, .int (0 : Int32)), (0, .ref (w.1 (184))), (1, .ref (w.1 (a1)))]) hx hb dX7_measure_1 rfl hl (by decide) rfl (fun ls hl => ?_)
  obtain ⟨rr, hlp, hf⟩ := bnd hf
  have hE2_55 : ∀ (σ_55 : Sg) (H : Heap) (locs : List Loc) (ls : Array Slot), f_X7_measure_k4 σ_55 = some σ' → va_P D vwCl (WL w σ_55) H → va_S (AL w) s.heap H locs → lv_has ls 6 [(0, .ref (w.1 (184)))] → W p l e (rmW 0 0) s m args below meth c H locs 0 0 (MQ below (qvW D w σ') args s 0 0 (AL w)) (F0 m 55 ls []) := by
    intro σ_55 H locs ls hf hP hS hl
    unfold f_X7_measure_k4 at hf
    refine lv_iconst (v := (0 : Int32)) hx hb dX7_measure_55 (by decide) ?_
    refine lv_istore_n (lv' := [(2, .int (0 : Int32)), (0, .ref (w.1 (184)))]) hx hb dX7_measure_56 rfl hl (by decide) rfl (fun ls hl => ?_)
    obtain ⟨rr, hlp, hf⟩ := bnd hf
    have hE57_171 : ∀ (σ_171 : Sg) (H : Heap) (locs : List Loc) (ls : Array Slot), f_X7_measure_k3 σ_171 = some σ' → va_P D vwCl (WL w σ_171) H → va_S (AL w) s.heap H locs → lv_has ls 6 [] → W p l e (rmW 0 0) s m args below meth c H locs 0 0 (MQ below (qvW D w σ') args s 0 0 (AL w)) (F0 m 171 ls []) := by
      intro σ_171 H locs ls hf hP hS hl
      unfold f_X7_measure_k3 at hf
      have hq := Option.some.inj hf
      exact q_vret hx hb hr hlk hP hS hq dX7_measure_171
    refine lp_ind (G := fun (st : (Int32 × Sg)) => ∀ (H : Heap) (locs : List Loc) (ls : Array Slot), va_P D vwCl (WL w st.2) H → va_S (AL w) s.heap H locs → lv_has ls 6 [(0, .ref (w.1 (184))), (2, .int st.1)] → W p l e (rmW 0 0) s m args below meth c H locs 0 0 (MQ below (qvW D w σ') args s 0 0 (AL w)) (F0 m 57 ls [])) (X := fun rr => f_X7_measure_k3 rr = some σ') ?_ _ _ rr hlp hf _ _ _ hP hS (lv_sub hl [1, 0] rfl)
    rintro ⟨x2_57, σ_57⟩ oo57 hb9 hG57 hX57 H locs ls hP hS hl
    have hP : va_P D vwCl (WL w σ_57) H := hP
    have hl : lv_has ls 6 [(0, .ref (w.1 (184))), (2, .int x2_57)] := hl
    have hf : f_X7_measure_b4  x2_57 σ_57 = some oo57 := hb9
    unfold f_X7_measure_b4 at hf
    refine lv_iload_n hx hb dX7_measure_57 rfl (lv_at hl 1 rfl) ?_
    refine lv_bipush (v := (8 : Int32)) hx hb dX7_measure_58 (by decide) ?_
    refine lv_icmp_ge (tgt := 171) hx hb dX7_measure_60 (by decide) (fun hc => ?_) (fun hc => ?_)
    · have hf := ifp hc hf
      obtain rfl := Option.some.inj hf
      exact hE57_171 σ_57 _ _ _ (hX57 _ rfl) hP hS (lv_sub hl [] rfl)
    · have hf := ifn hc hf
      refine lv_iconst (v := (0 : Int32)) hx hb dX7_measure_63 (by decide) ?_
      refine lv_istore_n (lv' := [(3, .int (0 : Int32)), (0, .ref (w.1 (184))), (2, .int x2_57)]) hx hb dX7_measure_64 rfl hl (by decide) rfl (fun ls hl => ?_)
      obtain ⟨rr, hlp, hf⟩ := bnd hf
      have hE65_165 : ∀ (σ_165 : Sg) (H : Heap) (locs : List Loc) (ls : Array Slot), f_X7_measure_k2 x2_57 σ_165 = some oo57 → va_P D vwCl (WL w σ_165) H → va_S (AL w) s.heap H locs → lv_has ls 6 [(0, .ref (w.1 (184))), (2, .int x2_57)] → W p l e (rmW 0 0) s m args below meth c H locs 0 0 (MQ below (qvW D w σ') args s 0 0 (AL w)) (F0 m 165 ls []) := by
        intro σ_165 H locs ls hf hP hS hl
        unfold f_X7_measure_k2 at hf
        refine lv_iinc (v := (x2_57 + (1 : Int32))) (lv' := [(2, .int (x2_57 + (1 : Int32))), (0, .ref (w.1 (184)))]) hx hb dX7_measure_165 hl (k := 1) rfl ii_1 (by decide) rfl (fun ls hl => ?_)
        refine lv_goto (tgt := 57) hx hb dX7_measure_168 (by decide) ?_
        obtain rfl := Option.some.inj hf
        exact hG57 _ rfl _ _ _ hP hS (lv_sub hl [1, 0] rfl)
      refine lp_ind (G := fun (st : (Int32 × Sg)) => ∀ (H : Heap) (locs : List Loc) (ls : Array Slot), va_P D vwCl (WL w st.2) H → va_S (AL w) s.heap H locs → lv_has ls 6 [(0, .ref (w.1 (184))), (2, .int x2_57), (3, .int st.1)] → W p l e (rmW 0 0) s m args below meth c H locs 0 0 (MQ below (qvW D w σ') args s 0 0 (AL w)) (F0 m 65 ls [])) (X := fun rr => f_X7_measure_k2 x2_57 rr = some oo57) ?_ _ _ rr hlp hf _ _ _ hP hS (lv_sub hl [1, 2, 0] rfl)
      rintro ⟨x3_65, σ_65⟩ oo65 hb9 hG65 hX65 H locs ls hP hS hl
      have hP : va_P D vwCl (WL w σ_65) H := hP
      have hl : lv_has ls 6 [(0, .ref (w.1 (184))), (2, .int x2_57), (3, .int x3_65)] := hl
      have hf : f_X7_measure_b3 x2_57 x3_65 σ_65 = some oo65 := hb9
      unfold f_X7_measure_b3 at hf
      refine lv_iload_n hx hb dX7_measure_65 rfl (lv_at hl 2 rfl) ?_
      refine lv_bipush (v := (8 : Int32)) hx hb dX7_measure_66 (by decide) ?_
      refine lv_icmp_ge (tgt := 165) hx hb dX7_measure_68 (by decide) (fun hc => ?_) (fun hc => ?_)
      · have hf := ifp hc hf
        obtain rfl := Option.some.inj hf
        exact hE65_165 σ_65 _ _ _ (hX65 _ rfl) hP hS (lv_sub hl [0, 1] rfl)
      · have hf := ifn hc hf
        refine lv_iconst (v := (0 : Int32)) hx hb dX7_measure_71 (by decide) ?_
        refine lv_istore (lv' := [(4, .int (0 : Int32)), (0, .ref (w.1 (184))), (2, .int x2_57), (3, .int x3_65)]) hx hb dX7_measure_72 hl (by decide) rfl (fun ls hl => ?_)
        obtain ⟨rr, hlp, hf⟩ := bnd hf
        have hE74_159 : ∀ (σ_159 : Sg) (H : Heap) (locs : List Loc) (ls : Array Slot), f_X7_measure_k1 x3_65 σ_159 = some oo65 → va_P D vwCl (WL w σ_159) H → va_S (AL w) s.heap H locs → lv_has ls 6 [(0, .ref (w.1 (184))), (2, .int x2_57), (3, .int x3_65)] → W p l e (rmW 0 0) s m args below meth c H locs 0 0 (MQ below (qvW D w σ') args s 0 0 (AL w)) (F0 m 159 ls []) := by
          intro σ_159 H locs ls hf hP hS hl
          unfold f_X7_measure_k1 at hf
          refine lv_iinc (v := (x3_65 + (1 : Int32))) (lv' := [(3, .int (x3_65 + (1 : Int32))), (0, .ref (w.1 (184))), (2, .int x2_57)]) hx hb dX7_measure_159 hl (k := 2) rfl ii_1 (by decide) rfl (fun ls hl => ?_)
          refine lv_goto (tgt := 65) hx hb dX7_measure_162 (by decide) ?_
          obtain rfl := Option.some.inj hf
          exact hG65 _ rfl _ _ _ hP hS (lv_sub hl [1, 2, 0] rfl)
        refine lp_ind (G := fun (st : (Int32 × Sg)) => ∀ (H : Heap) (locs : List Loc) (ls : Array Slot), va_P D vwCl (WL w st.2) H → va_S (AL w) s.heap H locs → lv_has ls 6 [(0, .ref (w.1 (184))), (2, .int x2_57), (3, .int x3_65), (4, .int st.1)] → W p l e (rmW 0 0) s m args below meth c H locs 0 0 (MQ below (qvW D w σ') args s 0 0 (AL w)) (F0 m 74 ls [])) (X := fun rr => f_X7_measure_k1 x3_65 rr = some oo65) ?_ _ _ rr hlp hf _ _ _ hP hS (lv_sub hl [1, 2, 3, 0] rfl)
        rintro ⟨x4_74, σ_74⟩ oo74 hb9 hG74 hX74 H locs ls hP hS hl
        have hP : va_P D vwCl (WL w σ_74) H := hP
        have hl : lv_has ls 6 [(0, .ref (w.1 (184))), (2, .int x2_57), (3, .int x3_65), (4, .int x4_74)] := hl
        have hf : f_X7_measure_b2 x2_57 x3_65 x4_74 σ_74 = some oo74 := hb9
        unfold f_X7_measure_b2 at hf
        refine lv_iload hx hb dX7_measure_74 (lv_at hl 3 rfl) ?_
        refine lv_bipush (v := (8 : Int32)) hx hb dX7_measure_76 (by decide) ?_
        refine lv_icmp_ge (tgt := 159) hx hb dX7_measure_78 (by decide) (fun hc => ?_) (fun hc => ?_)
        · have hf := ifp hc hf
          obtain rfl := Option.some.inj hf
          exact hE74_159 σ_74 _ _ _ (hX74 _ rfl) hP hS (lv_sub hl [0, 1, 2] rfl)
        · have hf := ifn hc hf
          refine lv_aload_n hx hb dX7_measure_81 rfl (lv_at hl 0 rfl) ?_
          refine gt_X7_53 hx hb hts hown hK hP dX7_measure_82 ?_
          refine lv_bipush (v := (8 : Int32)) hx hb dX7_measure_85 (by decide) ?_
          refine lv_iload_n hx hb dX7_measure_87 rfl (lv_at hl 2 rfl) ?_
          refine lv_imul hx hb dX7_measure_88 ?_
          refine lv_iload_n hx hb dX7_measure_89 rfl (lv_at hl 1 rfl) ?_
          refine lv_iadd hx hb dX7_measure_90 ?_
          obtain ⟨v91, h91, hf⟩ := bnd hf
          refine q_iald hx hb hK hP isC199.o isC199.k h91 dX7_measure_91 ?_
          refine lv_aload_n hx hb dX7_measure_92 rfl (lv_at hl 0 rfl) ?_
          refine gt_X7_53 hx hb hts hown hK hP dX7_measure_93 ?_
          refine lv_bipush (v := (8 : Int32)) hx hb dX7_measure_96 (by decide) ?_
          refine lv_iload_n hx hb dX7_measure_98 rfl (lv_at hl 1 rfl) ?_
          refine lv_imul hx hb dX7_measure_99 ?_
          refine lv_iload hx hb dX7_measure_100 (lv_at hl 3 rfl) ?_
          refine lv_iadd hx hb dX7_measure_102 ?_
          obtain ⟨v103, h103, hf⟩ := bnd hf
          refine q_iald hx hb hK hP isC199.o isC199.k h103 dX7_measure_103 ?_
          refine lv_iadd hx hb dX7_measure_104 ?_
          refine lv_istore (lv' := [(5, .int (v91 + v103)), (0, .ref (w.1 (184))), (2, .int x2_57), (3, .int x3_65), (4, .int x4_74)]) hx hb dX7_measure_105 hl (by decide) rfl (fun ls hl => ?_)
          refine lv_aload_n hx hb dX7_measure_107 rfl (lv_at hl 1 rfl) ?_
          refine gt_X7_53 hx hb hts hown hK hP dX7_measure_108 ?_
          refine lv_bipush (v := (8 : Int32)) hx hb dX7_measure_111 (by decide) ?_
          refine lv_iload_n hx hb dX7_measure_113 rfl (lv_at hl 3 rfl) ?_
          refine lv_imul hx hb dX7_measure_114 ?_
          refine lv_iload hx hb dX7_measure_115 (lv_at hl 4 rfl) ?_
          refine lv_iadd hx hb dX7_measure_117 ?_
          refine lv_iload hx hb dX7_measure_118 (lv_at hl 0 rfl) ?_
          refine lv_aload_n hx hb dX7_measure_120 rfl (lv_at hl 1 rfl) ?_
          refine gt_X7_53 hx hb hts hown hK hP dX7_measure_121 ?_
          refine lv_bipush (v := (8 : Int32)) hx hb dX7_measure_124 (by decide) ?_
          refine lv_iload_n hx hb dX7_measure_126 rfl (lv_at hl 3 rfl) ?_
          refine lv_imul hx hb dX7_measure_127 ?_
          refine lv_iload hx hb dX7_measure_128 (lv_at hl 4 rfl) ?_
          refine lv_iadd hx hb dX7_measure_130 ?_
          obtain ⟨v131, h131, hf⟩ := bnd hf
          refine q_iald hx hb hK hP isC199.o isC199.k h131 dX7_measure_131 ?_
          refine lv_icmp_ge (tgt := 140) hx hb dX7_measure_132 (by decide) (fun hc => ?_) (fun hc => ?_)
          · have hf := ifp hc hf
            refine lv_aload_n hx hb dX7_measure_140 rfl (lv_at hl 1 rfl) ?_
            refine gt_X7_53 hx hb hts hown hK hP dX7_measure_141 ?_
            refine lv_bipush (v := (8 : Int32)) hx hb dX7_measure_144 (by decide) ?_
            refine lv_iload_n hx hb dX7_measure_146 rfl (lv_at hl 3 rfl) ?_
            refine lv_imul hx hb dX7_measure_147 ?_
            refine lv_iload hx hb dX7_measure_148 (lv_at hl 4 rfl) ?_
            refine lv_iadd hx hb dX7_measure_150 ?_
            obtain ⟨v151, h151, hf⟩ := bnd hf
            refine q_iald hx hb hK hP isC199.o isC199.k h151 dX7_measure_151 ?_
            obtain ⟨σ152, h152, hf⟩ := bnd hf
            refine q_iast hx hb hK hP hJ hS isC199.o isC199.k h152 dX7_measure_152 (fun H locs hP hS => ?_)
            refine lv_iinc (v := (x4_74 + (1 : Int32))) (lv' := [(4, .int (x4_74 + (1 : Int32))), (5, .int (v91 + v103)), (0, .ref (w.1 (184))), (2, .int x2_57), (3, .int x3_65)]) hx hb dX7_measure_153 hl (k := 4) rfl ii_1 (by decide) rfl (fun ls hl => ?_)
            refine lv_goto (tgt := 74) hx hb dX7_measure_156 (by decide) ?_
            obtain rfl := Option.some.inj hf
            exact hG74 _ rfl _ _ _ hP hS (lv_sub hl [2, 3, 4, 0] rfl)
          · have hf := ifn hc hf
            refine lv_iload hx hb dX7_measure_135 (lv_at hl 0 rfl) ?_
            refine lv_goto (tgt := 152) hx hb dX7_measure_137 (by decide) ?_
            obtain ⟨σ152, h152, hf⟩ := bnd hf
            refine q_iast hx hb hK hP hJ hS isC199.o isC199.k h152 dX7_measure_152 (fun H locs hP hS => ?_)
            refine lv_iinc (v := (x4_74 + (1 : Int32))) (lv' := [(4, .int (x4_74 + (1 : Int32))), (5, .int (v91 + v103)), (0, .ref (w.1 (184))), (2, .int x2_57), (3, .int x3_65)]) hx hb dX7_measure_153 hl (k := 4) rfl ii_1 (by decide) rfl (fun ls hl => ?_)
            refine lv_goto (tgt := 74) hx hb dX7_measure_156 (by decide) ?_
            obtain rfl := Option.some.inj hf
            exact hG74 _ rfl _ _ _ hP hS (lv_sub hl [2, 3, 4, 0] rfl)
  refine lp_ind (G := fun (st : (Int32 × Sg)) => ∀ (H : Heap) (locs : List Loc) (ls : Array Slot), va_P D vwCl (WL w st.2) H → va_S (AL w) s.heap H locs → lv_has ls 6 [(0, .ref (w.1 (184))), (1, .ref (w.1 (a1))), (2, .int st.1)] → W p l e (rmW 0 0) s m args below meth c H locs 0 0 (MQ below (qvW D w σ') args s 0 0 (AL w)) (F0 m 2 ls [])) (X := fun rr => f_X7_measure_k4 rr = some σ') ?_ _ _ rr hlp hf _ _ _ hP hS (lv_sub hl [1, 2, 0] rfl)
  rintro ⟨x2_2, σ_2⟩ oo2 hb9 hG2 hX2 H locs ls hP hS hl
  have hP : va_P D vwCl (WL w σ_2) H := hP
  have hl : lv_has ls 6 [(0, .ref (w.1 (184))), (1, .ref (w.1 (a1))), (2, .int x2_2)] := hl
  have hf : f_X7_measure_b1 a1 x2_2 σ_2 = some oo2 := hb9
  unfold f_X7_measure_b1 at hf
  refine lv_iload_n hx hb dX7_measure_2 rfl (lv_at hl 2 rfl) ?_
  refine lv_bipush (v := (64 : Int32)) hx hb dX7_measure_3 (by decide) ?_
  refine lv_icmp_ge (tgt := 55) hx hb dX7_measure_5 (by decide) (fun hc => ?_) (fun hc => ?_)
  · have hf := ifp hc hf
    obtain rfl := Option.some.inj hf
    exact hE2_55 σ_2 _ _ _ (hX2 _ rfl) hP hS (lv_sub hl [0] rfl)
  · have hf := ifn hc hf
    refine lv_aload_n hx hb dX7_measure_8 rfl (lv_at hl 0 rfl) ?_
    refine gt_X7_53 hx hb hts hown hK hP dX7_measure_9 ?_
    refine lv_iload_n hx hb dX7_measure_12 rfl (lv_at hl 2 rfl) ?_
    refine lv_iload_n hx hb dX7_measure_13 rfl (lv_at hl 2 rfl) ?_
    refine lv_bipush (v := (8 : Int32)) hx hb dX7_measure_14 (by decide) ?_
    refine lv_idiv hx hb dX7_measure_16 (by decide) ?_
    refine lv_iload_n hx hb dX7_measure_17 rfl (lv_at hl 2 rfl) ?_
    refine lv_bipush (v := (8 : Int32)) hx hb dX7_measure_18 (by decide) ?_
    refine q_iremL hx hb (by decide) dX7_measure_20 ?_
    refine lv_icmp_ne (tgt := 28) hx hb dX7_measure_21 (by decide) (fun hc => ?_) (fun hc => ?_)
    · have hf := ifp hc hf
      refine lv_aload_n hx hb dX7_measure_28 rfl (lv_at hl 1 rfl) ?_
      refine lv_bipush (v := (7 : Int32)) hx hb dX7_measure_29 (by decide) ?_
      refine lv_iload_n hx hb dX7_measure_31 rfl (lv_at hl 2 rfl) ?_
      refine lv_iadd hx hb dX7_measure_32 ?_
      obtain ⟨v33, h33, hf⟩ := bnd hf
      refine q_iald hx hb hK hP ha1.o ha1.k h33 dX7_measure_33 ?_
      refine lv_if_le (tgt := 46) hx hb dX7_measure_34 (by decide) (fun hc => ?_) (fun hc => ?_)
      · have hf := ifp hc hf
        refine lv_ldc (v := (100000 : Int32)) hx hb hown (hts _ tw_854) dX7_measure_46 ?_
        obtain ⟨σ48, h48, hf⟩ := bnd hf
        refine q_iast hx hb hK hP hJ hS isC199.o isC199.k h48 dX7_measure_48 (fun H locs hP hS => ?_)
        refine lv_iinc (v := (x2_2 + (1 : Int32))) (lv' := [(2, .int (x2_2 + (1 : Int32))), (0, .ref (w.1 (184))), (1, .ref (w.1 (a1)))]) hx hb dX7_measure_49 hl (k := 2) rfl ii_1 (by decide) rfl (fun ls hl => ?_)
        refine lv_goto (tgt := 2) hx hb dX7_measure_52 (by decide) ?_
        obtain rfl := Option.some.inj hf
        exact hG2 _ rfl _ _ _ hP hS (lv_sub hl [1, 2, 0] rfl)
      · have hf := ifn hc hf
        refine lv_aload_n hx hb dX7_measure_37 rfl (lv_at hl 1 rfl) ?_
        refine lv_bipush (v := (7 : Int32)) hx hb dX7_measure_38 (by decide) ?_
        refine lv_iload_n hx hb dX7_measure_40 rfl (lv_at hl 2 rfl) ?_
        refine lv_iadd hx hb dX7_measure_41 ?_
        obtain ⟨v42, h42, hf⟩ := bnd hf
        refine q_iald hx hb hK hP ha1.o ha1.k h42 dX7_measure_42 ?_
        refine lv_goto (tgt := 48) hx hb dX7_measure_43 (by decide) ?_
        obtain ⟨σ48, h48, hf⟩ := bnd hf
        refine q_iast hx hb hK hP hJ hS isC199.o isC199.k h48 dX7_measure_48 (fun H locs hP hS => ?_)
        refine lv_iinc (v := (x2_2 + (1 : Int32))) (lv' := [(2, .int (x2_2 + (1 : Int32))), (0, .ref (w.1 (184))), (1, .ref (w.1 (a1)))]) hx hb dX7_measure_49 hl (k := 2) rfl ii_1 (by decide) rfl (fun ls hl => ?_)
        refine lv_goto (tgt := 2) hx hb dX7_measure_52 (by decide) ?_
        obtain rfl := Option.some.inj hf
        exact hG2 _ rfl _ _ _ hP hS (lv_sub hl [1, 2, 0] rfl)
    · have hf := ifn (fun h => h hc) hf
      refine lv_iconst (v := (0 : Int32)) hx hb dX7_measure_24 (by decide) ?_
      refine lv_goto (tgt := 48) hx hb dX7_measure_25 (by decide) ?_
      obtain ⟨σ48, h48, hf⟩ := bnd hf
      refine q_iast hx hb hK hP hJ hS isC199.o isC199.k h48 dX7_measure_48 (fun H locs hP hS => ?_)
      refine lv_iinc (v := (x2_2 + (1 : Int32))) (lv' := [(2, .int (x2_2 + (1 : Int32))), (0, .ref (w.1 (184))), (1, .ref (w.1 (a1)))]) hx hb dX7_measure_49 hl (k := 2) rfl ii_1 (by decide) rfl (fun ls hl => ?_)
      refine lv_goto (tgt := 2) hx hb dX7_measure_52 (by decide) ?_
      obtain rfl := Option.some.inj hf
      exact hG2 _ rfl _ _ _ hP hS (lv_sub hl [1, 2, 0] rfl)
def f_X7_nextOn_b1 (σ : Sg) (a1 : Nat) (a2 : Int32) (a3 : Int32) (x4_8 : Int32) (x5_8 : Int32) : Option ((Int32 × Int32) ⊕ Int32) :=
  if x5_8 < 0 then
  some (.inr x4_8)
  else
  if a2 = a3 then
  some (.inr x4_8)
  else
  (ga (σ (a1)) (ln (a1)) (((7 : Int32) + ((8 : Int32) * a2)) + x5_8)).bind fun v29 =>
  if v29 ≤ 0 then
  some (.inl (x4_8, (x5_8 + (-1 : Int32))))
  else
  (ga (σ (199)) (ln (199)) (((8 : Int32) * a2) + a3)).bind fun v47 =>
  if (100000 : Int32) ≤ v47 then
  some (.inl (x4_8, (x5_8 + (-1 : Int32))))
  else
  (ga (σ (199)) (ln (199)) (((8 : Int32) * x5_8) + a3)).bind fun v66 =>
  (ga (σ (199)) (ln (199)) (((8 : Int32) * a2) + a3)).bind fun v78 =>
  if ¬ (v29 + v66) = v78 then
  some (.inl (x4_8, (x5_8 + (-1 : Int32))))
  else
  some (.inl (x5_8, (x5_8 + (-1 : Int32))))
def f_X7_nextOn_k1 (y4_97 : Int32) : Option Int32 :=
  some y4_97
def f_X7_nextOn (σ : Sg) (a1 : Nat) (a2 : Int32) (a3 : Int32) : Option Int32 :=
  (lp (fun st => f_X7_nextOn_b1 σ a1 a2 a3 st.1 st.2) FU ((-4 : Int32), (7 : Int32))).bind fun rr => f_X7_nextOn_k1 rr
set_option maxHeartbeats 4000000 in
set_option maxRecDepth 100000 in
theorem c_X7_nextOn (l : Launch) (D : va_G) (w : Wv) (σ : Sg) (a1 : Nat) (a2 : Int32) (a3 : Int32) (r : Int32) (ha1 : isC a1) (hf : f_X7_nextOn σ a1 a2 a3 = some r) : Met l yX7_nextOn (.code yX7_nextOn cX7_nextOn 7 (some .int) :: TB) (rmW 0 0) (pcW D w [.ref (w.1 (184)), .ref (w.1 (a1)), .int a2, .int a3] σ) (qiW D w r σ) 0 0 (AL w) := by
  refine q_open (by decide +kernel) (Nat.le_of_ble_eq_true rfl) ?_
  intro p e s m args below meth c ls hx hb hml hr hlk hown hts hK hP hS hl
  have hown : s.vm.findClass RX7 = some m.cls := hown
  have hl : lv_has ls 7 [(0, .ref (w.1 (184))), (1, .ref (w.1 (a1))), (2, .int a2), (3, .int a3)] := hl
  unfold f_X7_nextOn at hf
  refine lv_bipush (v := (-4 : Int32)) hx hb dX7_nextOn_0 (by decide) ?_
  refine lv_istore (lv' := [(4, .int (-4 : Int32)), (0, .ref (w.1 (184))), (1, .ref (w.1 (a1))), (2, .int a2), (3, .int a3)]) hx hb dX7_nextOn_2 hl (by decide) rfl (fun ls hl => ?_)
  refine lv_bipush (v := (7 : Int32)) hx hb dX7_nextOn_4 (by decide) ?_
  refine lv_istore (lv' := [(5, .int (7 : Int32)), (4, .int (-4 : Int32)), (0, .ref (w.1 (184))), (1, .ref (w.1 (a1))), (2, .int a2), (3, .int a3)]) hx hb dX7_nextOn_6 hl (by decide) rfl (fun ls hl => ?_)
  obtain ⟨rr, hlp, hf⟩ := bnd hf
  have hE8_97 : ∀ (y4_97 : Int32) (H : Heap) (locs : List Loc) (ls : Array Slot), f_X7_nextOn_k1 y4_97 = some r → va_P D vwCl (WL w σ) H → va_S (AL w) s.heap H locs → lv_has ls 7 [(4, .int y4_97)] → W p l e (rmW 0 0) s m args below meth c H locs 0 0 (MQ below (qiW D w r σ) args s 0 0 (AL w)) (F0 m 97 ls []) := by
    intro y4_97 H locs ls hf hP hS hl
    unfold f_X7_nextOn_k1 at hf
    refine lv_iload hx hb dX7_nextOn_97 (lv_at hl 0 rfl) ?_
    have hq := Option.some.inj hf
    exact q_iret hx hb hr hlk hP hS hq rfl dX7_nextOn_99
  refine lp_ind (G := fun (st : (Int32 × Int32)) => ∀ (H : Heap) (locs : List Loc) (ls : Array Slot), va_P D vwCl (WL w σ) H → va_S (AL w) s.heap H locs → lv_has ls 7 [(0, .ref (w.1 (184))), (1, .ref (w.1 (a1))), (2, .int a2), (3, .int a3), (4, .int st.1), (5, .int st.2)] → W p l e (rmW 0 0) s m args below meth c H locs 0 0 (MQ below (qiW D w r σ) args s 0 0 (AL w)) (F0 m 8 ls [])) (X := fun rr => f_X7_nextOn_k1 rr = some r) ?_ _ _ rr hlp hf _ _ _ hP hS (lv_sub hl [2, 3, 4, 5, 1, 0] rfl)
  rintro ⟨x4_8, x5_8⟩ oo8 hb9 hG8 hX8 H locs ls hP hS hl
  have hP : va_P D vwCl (WL w σ) H := hP
  have hl : lv_has ls 7 [(0, .ref (w.1 (184))), (1, .ref (w.1 (a1))), (2, .int a2), (3, .int a3), (4, .int x4_8), (5, .int x5_8)] := hl
  have hf : f_X7_nextOn_b1 σ a1 a2 a3 x4_8 x5_8 = some oo8 := hb9
  unfold f_X7_nextOn_b1 at hf
  refine lv_iload hx hb dX7_nextOn_8 (lv_at hl 5 rfl) ?_
  refine lv_if_lt (tgt := 97) hx hb dX7_nextOn_10 (by decide) (fun hc => ?_) (fun hc => ?_)
  · have hf := ifp hc hf
    obtain rfl := Option.some.inj hf
    exact hE8_97 x4_8 _ _ _ (hX8 _ rfl) hP hS (lv_sub hl [4] rfl)
  · have hf := ifn hc hf
    refine lv_iload_n hx hb dX7_nextOn_13 rfl (lv_at hl 2 rfl) ?_
    refine lv_iload_n hx hb dX7_nextOn_14 rfl (lv_at hl 3 rfl) ?_
    refine lv_icmp_eq (tgt := 97) hx hb dX7_nextOn_15 (by decide) (fun hc => ?_) (fun hc => ?_)
    · have hf := ifp hc hf
      obtain rfl := Option.some.inj hf
      exact hE8_97 x4_8 _ _ _ (hX8 _ rfl) hP hS (lv_sub hl [4] rfl)
    · have hf := ifn hc hf
      refine lv_aload_n hx hb dX7_nextOn_18 rfl (lv_at hl 1 rfl) ?_
      refine lv_bipush (v := (7 : Int32)) hx hb dX7_nextOn_19 (by decide) ?_
      refine lv_bipush (v := (8 : Int32)) hx hb dX7_nextOn_21 (by decide) ?_
      refine lv_iload_n hx hb dX7_nextOn_23 rfl (lv_at hl 2 rfl) ?_
      refine lv_imul hx hb dX7_nextOn_24 ?_
      refine lv_iadd hx hb dX7_nextOn_25 ?_
      refine lv_iload hx hb dX7_nextOn_26 (lv_at hl 5 rfl) ?_
      refine lv_iadd hx hb dX7_nextOn_28 ?_
      obtain ⟨v29, h29, hf⟩ := bnd hf
      refine q_iald hx hb hK hP ha1.o ha1.k h29 dX7_nextOn_29 ?_
      refine lv_istore (lv' := [(6, .int v29), (0, .ref (w.1 (184))), (1, .ref (w.1 (a1))), (2, .int a2), (3, .int a3), (4, .int x4_8), (5, .int x5_8)]) hx hb dX7_nextOn_30 hl (by decide) rfl (fun ls hl => ?_)
      refine lv_iload hx hb dX7_nextOn_32 (lv_at hl 0 rfl) ?_
      refine lv_if_le (tgt := 87) hx hb dX7_nextOn_34 (by decide) (fun hc => ?_) (fun hc => ?_)
      · have hf := ifp hc hf
        refine lv_iload hx hb dX7_nextOn_87 (lv_at hl 5 rfl) ?_
        refine lv_istore (lv' := [(4, .int x4_8), (6, .int v29), (0, .ref (w.1 (184))), (1, .ref (w.1 (a1))), (2, .int a2), (3, .int a3), (5, .int x5_8)]) hx hb dX7_nextOn_89 hl (by decide) rfl (fun ls hl => ?_)
        refine lv_iinc (v := (x5_8 + (-1 : Int32))) (lv' := [(5, .int (x5_8 + (-1 : Int32))), (4, .int x4_8), (6, .int v29), (0, .ref (w.1 (184))), (1, .ref (w.1 (a1))), (2, .int a2), (3, .int a3)]) hx hb dX7_nextOn_91 hl (k := 6) rfl ii_m1 (by decide) rfl (fun ls hl => ?_)
        refine lv_goto (tgt := 8) hx hb dX7_nextOn_94 (by decide) ?_
        obtain rfl := Option.some.inj hf
        exact hG8 _ rfl _ _ _ hP hS (lv_sub hl [3, 4, 5, 6, 1, 0] rfl)
      · have hf := ifn hc hf
        refine lv_aload_n hx hb dX7_nextOn_37 rfl (lv_at hl 1 rfl) ?_
        refine gt_X7_53 hx hb hts hown hK hP dX7_nextOn_38 ?_
        refine lv_bipush (v := (8 : Int32)) hx hb dX7_nextOn_41 (by decide) ?_
        refine lv_iload_n hx hb dX7_nextOn_43 rfl (lv_at hl 3 rfl) ?_
        refine lv_imul hx hb dX7_nextOn_44 ?_
        refine lv_iload_n hx hb dX7_nextOn_45 rfl (lv_at hl 4 rfl) ?_
        refine lv_iadd hx hb dX7_nextOn_46 ?_
        obtain ⟨v47, h47, hf⟩ := bnd hf
        refine q_iald hx hb hK hP isC199.o isC199.k h47 dX7_nextOn_47 ?_
        refine lv_ldc (v := (100000 : Int32)) hx hb hown (hts _ tw_854) dX7_nextOn_48 ?_
        refine lv_icmp_ge (tgt := 87) hx hb dX7_nextOn_50 (by decide) (fun hc => ?_) (fun hc => ?_)
        · have hf := ifp hc hf
          refine lv_iload hx hb dX7_nextOn_87 (lv_at hl 5 rfl) ?_
          refine lv_istore (lv' := [(4, .int x4_8), (6, .int v29), (0, .ref (w.1 (184))), (1, .ref (w.1 (a1))), (2, .int a2), (3, .int a3), (5, .int x5_8)]) hx hb dX7_nextOn_89 hl (by decide) rfl (fun ls hl => ?_)
          refine lv_iinc (v := (x5_8 + (-1 : Int32))) (lv' := [(5, .int (x5_8 + (-1 : Int32))), (4, .int x4_8), (6, .int v29), (0, .ref (w.1 (184))), (1, .ref (w.1 (a1))), (2, .int a2), (3, .int a3)]) hx hb dX7_nextOn_91 hl (k := 6) rfl ii_m1 (by decide) rfl (fun ls hl => ?_)
          refine lv_goto (tgt := 8) hx hb dX7_nextOn_94 (by decide) ?_
          obtain rfl := Option.some.inj hf
          exact hG8 _ rfl _ _ _ hP hS (lv_sub hl [3, 4, 5, 6, 1, 0] rfl)
        · have hf := ifn hc hf
          refine lv_iload hx hb dX7_nextOn_53 (lv_at hl 0 rfl) ?_
          refine lv_aload_n hx hb dX7_nextOn_55 rfl (lv_at hl 1 rfl) ?_
          refine gt_X7_53 hx hb hts hown hK hP dX7_nextOn_56 ?_
          refine lv_bipush (v := (8 : Int32)) hx hb dX7_nextOn_59 (by decide) ?_
          refine lv_iload hx hb dX7_nextOn_61 (lv_at hl 6 rfl) ?_
          refine lv_imul hx hb dX7_nextOn_63 ?_
          refine lv_iload_n hx hb dX7_nextOn_64 rfl (lv_at hl 4 rfl) ?_
          refine lv_iadd hx hb dX7_nextOn_65 ?_
          obtain ⟨v66, h66, hf⟩ := bnd hf
          refine q_iald hx hb hK hP isC199.o isC199.k h66 dX7_nextOn_66 ?_
          refine lv_iadd hx hb dX7_nextOn_67 ?_
          refine lv_aload_n hx hb dX7_nextOn_68 rfl (lv_at hl 1 rfl) ?_
          refine gt_X7_53 hx hb hts hown hK hP dX7_nextOn_69 ?_
          refine lv_bipush (v := (8 : Int32)) hx hb dX7_nextOn_72 (by decide) ?_
          refine lv_iload_n hx hb dX7_nextOn_74 rfl (lv_at hl 3 rfl) ?_
          refine lv_imul hx hb dX7_nextOn_75 ?_
          refine lv_iload_n hx hb dX7_nextOn_76 rfl (lv_at hl 4 rfl) ?_
          refine lv_iadd hx hb dX7_nextOn_77 ?_
          obtain ⟨v78, h78, hf⟩ := bnd hf
          refine q_iald hx hb hK hP isC199.o isC199.k h78 dX7_nextOn_78 ?_
          refine lv_icmp_ne (tgt := 87) hx hb dX7_nextOn_79 (by decide) (fun hc => ?_) (fun hc => ?_)
          · have hf := ifp hc hf
            refine lv_iload hx hb dX7_nextOn_87 (lv_at hl 5 rfl) ?_
            refine lv_istore (lv' := [(4, .int x4_8), (6, .int v29), (0, .ref (w.1 (184))), (1, .ref (w.1 (a1))), (2, .int a2), (3, .int a3), (5, .int x5_8)]) hx hb dX7_nextOn_89 hl (by decide) rfl (fun ls hl => ?_)
            refine lv_iinc (v := (x5_8 + (-1 : Int32))) (lv' := [(5, .int (x5_8 + (-1 : Int32))), (4, .int x4_8), (6, .int v29), (0, .ref (w.1 (184))), (1, .ref (w.1 (a1))), (2, .int a2), (3, .int a3)]) hx hb dX7_nextOn_91 hl (k := 6) rfl ii_m1 (by decide) rfl (fun ls hl => ?_)
            refine lv_goto (tgt := 8) hx hb dX7_nextOn_94 (by decide) ?_
            obtain rfl := Option.some.inj hf
            exact hG8 _ rfl _ _ _ hP hS (lv_sub hl [3, 4, 5, 6, 1, 0] rfl)
          · have hf := ifn (fun h => h hc) hf
            refine lv_iload hx hb dX7_nextOn_82 (lv_at hl 6 rfl) ?_
            refine lv_goto (tgt := 89) hx hb dX7_nextOn_84 (by decide) ?_
            refine lv_istore (lv' := [(4, .int x5_8), (6, .int v29), (0, .ref (w.1 (184))), (1, .ref (w.1 (a1))), (2, .int a2), (3, .int a3), (5, .int x5_8)]) hx hb dX7_nextOn_89 hl (by decide) rfl (fun ls hl => ?_)
            refine lv_iinc (v := (x5_8 + (-1 : Int32))) (lv' := [(5, .int (x5_8 + (-1 : Int32))), (4, .int x5_8), (6, .int v29), (0, .ref (w.1 (184))), (1, .ref (w.1 (a1))), (2, .int a2), (3, .int a3)]) hx hb dX7_nextOn_91 hl (k := 6) rfl ii_m1 (by decide) rfl (fun ls hl => ?_)
            refine lv_goto (tgt := 8) hx hb dX7_nextOn_94 (by decide) ?_
            obtain rfl := Option.some.inj hf
            exact hG8 _ rfl _ _ _ hP hS (lv_sub hl [3, 4, 5, 6, 1, 0] rfl)
def f_X7_paintOn_b1 (a1 : Nat) (a2 : Int32) (v5 : Int32) (x4_10 : Int32) (σ_10 : Sg) : Option ((Int32 × Sg) ⊕ Sg) :=
  if (8 : Int32) ≤ x4_10 then
  some (.inr σ_10)
  else
  (ga (σ_10 (186)) (ln (186)) (0 : Int32)).bind fun v24 =>
  if v24 ≤ x4_10 then
  (sa σ_10 (a1) (ln (a1)) (((83 : Int32) + ((8 : Int32) * a2)) + x4_10) (-4 : Int32)).bind fun σ56 =>
  (sa σ56 (a1) (ln (a1)) (((131 : Int32) + ((8 : Int32) * a2)) + x4_10) (-4 : Int32)).bind fun σ93 =>
  some (.inl ((x4_10 + (1 : Int32)), σ93))
  else
  (f_X7_nextOn σ_10 (a1) v5 x4_10).bind fun v33 =>
  (sa σ_10 (a1) (ln (a1)) (((83 : Int32) + ((8 : Int32) * a2)) + x4_10) v33).bind fun σ56 =>
  if ¬ v33 = (-4 : Int32) then
  (ga (σ56 (199)) (ln (199)) (((8 : Int32) * v5) + x4_10)).bind fun v92 =>
  (sa σ56 (a1) (ln (a1)) (((131 : Int32) + ((8 : Int32) * a2)) + x4_10) v92).bind fun σ93 =>
  some (.inl ((x4_10 + (1 : Int32)), σ93))
  else
  (sa σ56 (a1) (ln (a1)) (((131 : Int32) + ((8 : Int32) * a2)) + x4_10) (-4 : Int32)).bind fun σ93 =>
  some (.inl ((x4_10 + (1 : Int32)), σ93))
def f_X7_paintOn_k1 (σ_100 : Sg) : Option Sg :=
  some σ_100
def f_X7_paintOn (σ : Sg) (a1 : Nat) (a2 : Int32) : Option Sg :=
  (ga (σ (a1)) (ln (a1)) ((71 : Int32) + a2)).bind fun v5 =>
  (lp (fun st => f_X7_paintOn_b1 a1 a2 v5 st.1 st.2) FU ((0 : Int32), σ)).bind fun rr => f_X7_paintOn_k1 rr
set_option maxHeartbeats 4000000 in
set_option maxRecDepth 100000 in
theorem c_X7_paintOn (l : Launch) (D : va_G) (w : Wv) (σ : Sg) (a1 : Nat) (a2 : Int32) (σ' : Sg) (ha1 : isC a1) (hJ : Inj w) (hf : f_X7_paintOn σ a1 a2 = some σ') : Met l yX7_paintOn (.code yX7_paintOn cX7_paintOn 6 none :: TB) (rmW 1 26) (pcW D w [.ref (w.1 (184)), .ref (w.1 (a1)), .int a2] σ) (qvW D w σ') 0 0 (AL w) := by
  refine q_open (by decide +kernel) (Nat.le_of_ble_eq_true rfl) ?_
  intro p e s m args below meth c ls hx hb hml hr hlk hown hts hK hP hS hl
  have hown : s.vm.findClass RX7 = some m.cls := hown
  have hl : lv_has ls 6 [(0, .ref (w.1 (184))), (1, .ref (w.1 (a1))), (2, .int a2)] := hl
  unfold f_X7_paintOn at hf
  refine lv_aload_n hx hb dX7_paintOn_0 rfl (lv_at hl 1 rfl) ?_
  refine lv_bipush (v := (71 : Int32)) hx hb dX7_paintOn_1 (by decide) ?_
  refine lv_iload_n hx hb dX7_paintOn_3 rfl (lv_at hl 2 rfl) ?_
  refine lv_iadd hx hb dX7_paintOn_4 ?_
  obtain ⟨v5, h5, hf⟩ := bnd hf
  refine q_iald hx hb hK hP ha1.o ha1.k h5 dX7_paintOn_5 ?_
  refine lv_istore_n (lv' := [(3, .int v5), (0, .ref (w.1 (184))), (1, .ref (w.1 (a1))), (2, .int a2)]) hx hb dX7_paintOn_6 rfl hl (by decide) rfl (fun ls hl => ?_)
  refine lv_iconst (v := (0 : Int32)) hx hb dX7_paintOn_7 (by decide) ?_
  refine lv_istore (lv' := [(4, .int (0 : Int32)), (3, .int v5), (0, .ref (w.1 (184))), (1, .ref (w.1 (a1))), (2, .int a2)]) hx hb dX7_paintOn_8 hl (by decide) rfl (fun ls hl => ?_)
  obtain ⟨rr, hlp, hf⟩ := bnd hf
  have hE10_100 : ∀ (σ_100 : Sg) (H : Heap) (locs : List Loc) (ls : Array Slot), f_X7_paintOn_k1 σ_100 = some σ' → va_P D vwCl (WL w σ_100) H → va_S (AL w) s.heap H locs → lv_has ls 6 [] → W p l e (rmW 1 26) s m args below meth c H locs 0 0 (MQ below (qvW D w σ') args s 0 0 (AL w)) (F0 m 100 ls []) := by
    intro σ_100 H locs ls hf hP hS hl
    unfold f_X7_paintOn_k1 at hf
    have hq := Option.some.inj hf
    exact q_vret hx hb hr hlk hP hS hq dX7_paintOn_100
  refine lp_ind (G := fun (st : (Int32 × Sg)) => ∀ (H : Heap) (locs : List Loc) (ls : Array Slot), va_P D vwCl (WL w st.2) H → va_S (AL w) s.heap H locs → lv_has ls 6 [(0, .ref (w.1 (184))), (1, .ref (w.1 (a1))), (2, .int a2), (3, .int v5), (4, .int st.1)] → W p l e (rmW 1 26) s m args below meth c H locs 0 0 (MQ below (qvW D w σ') args s 0 0 (AL w)) (F0 m 10 ls [])) (X := fun rr => f_X7_paintOn_k1 rr = some σ') ?_ _ _ rr hlp hf _ _ _ hP hS (lv_sub hl [2, 3, 4, 1, 0] rfl)
  rintro ⟨x4_10, σ_10⟩ oo10 hb9 hG10 hX10 H locs ls hP hS hl
  have hP : va_P D vwCl (WL w σ_10) H := hP
  have hl : lv_has ls 6 [(0, .ref (w.1 (184))), (1, .ref (w.1 (a1))), (2, .int a2), (3, .int v5), (4, .int x4_10)] := hl
  have hf : f_X7_paintOn_b1 a1 a2 v5 x4_10 σ_10 = some oo10 := hb9
  unfold f_X7_paintOn_b1 at hf
  refine lv_iload hx hb dX7_paintOn_10 (lv_at hl 4 rfl) ?_
  refine lv_bipush (v := (8 : Int32)) hx hb dX7_paintOn_12 (by decide) ?_
  refine lv_icmp_ge (tgt := 100) hx hb dX7_paintOn_14 (by decide) (fun hc => ?_) (fun hc => ?_)
  · have hf := ifp hc hf
    obtain rfl := Option.some.inj hf
    exact hE10_100 σ_10 _ _ _ (hX10 _ rfl) hP hS (lv_sub hl [] rfl)
  · have hf := ifn hc hf
    refine lv_iload hx hb dX7_paintOn_17 (lv_at hl 4 rfl) ?_
    refine lv_aload_n hx hb dX7_paintOn_19 rfl (lv_at hl 0 rfl) ?_
    refine gt_X7_13 hx hb hts hown hK hP dX7_paintOn_20 ?_
    refine lv_iconst (v := (0 : Int32)) hx hb dX7_paintOn_23 (by decide) ?_
    obtain ⟨v24, h24, hf⟩ := bnd hf
    refine q_iald hx hb hK hP isC186.o isC186.k h24 dX7_paintOn_24 ?_
    refine lv_icmp_ge (tgt := 39) hx hb dX7_paintOn_25 (by decide) (fun hc => ?_) (fun hc => ?_)
    · have hf := ifp hc hf
      refine lv_bipush (v := (-4 : Int32)) hx hb dX7_paintOn_39 (by decide) ?_
      refine lv_istore (lv' := [(5, .int (-4 : Int32)), (0, .ref (w.1 (184))), (1, .ref (w.1 (a1))), (2, .int a2), (3, .int v5), (4, .int x4_10)]) hx hb dX7_paintOn_41 hl (by decide) rfl (fun ls hl => ?_)
      refine lv_aload_n hx hb dX7_paintOn_43 rfl (lv_at hl 2 rfl) ?_
      refine lv_bipush (v := (83 : Int32)) hx hb dX7_paintOn_44 (by decide) ?_
      refine lv_bipush (v := (8 : Int32)) hx hb dX7_paintOn_46 (by decide) ?_
      refine lv_iload_n hx hb dX7_paintOn_48 rfl (lv_at hl 3 rfl) ?_
      refine lv_imul hx hb dX7_paintOn_49 ?_
      refine lv_iadd hx hb dX7_paintOn_50 ?_
      refine lv_iload hx hb dX7_paintOn_51 (lv_at hl 5 rfl) ?_
      refine lv_iadd hx hb dX7_paintOn_53 ?_
      refine lv_iload hx hb dX7_paintOn_54 (lv_at hl 0 rfl) ?_
      obtain ⟨σ56, h56, hf⟩ := bnd hf
      refine q_iast hx hb hK hP hJ hS ha1.o ha1.k h56 dX7_paintOn_56 (fun H locs hP hS => ?_)
      refine lv_aload_n hx hb dX7_paintOn_57 rfl (lv_at hl 2 rfl) ?_
      refine lv_sipush (v := (131 : Int32)) hx hb dX7_paintOn_58 (by decide) ?_
      refine lv_bipush (v := (8 : Int32)) hx hb dX7_paintOn_61 (by decide) ?_
      refine lv_iload_n hx hb dX7_paintOn_63 rfl (lv_at hl 3 rfl) ?_
      refine lv_imul hx hb dX7_paintOn_64 ?_
      refine lv_iadd hx hb dX7_paintOn_65 ?_
      refine lv_iload hx hb dX7_paintOn_66 (lv_at hl 5 rfl) ?_
      refine lv_iadd hx hb dX7_paintOn_68 ?_
      refine lv_iload hx hb dX7_paintOn_69 (lv_at hl 0 rfl) ?_
      refine lv_bipush (v := (-4 : Int32)) hx hb dX7_paintOn_71 (by decide) ?_
      refine lv_icmp_ne (tgt := 81) hx hb dX7_paintOn_73 (by decide) (fun hc => absurd hc (by decide)) (fun _ => ?_)
      refine lv_bipush (v := (-4 : Int32)) hx hb dX7_paintOn_76 (by decide) ?_
      refine lv_goto (tgt := 93) hx hb dX7_paintOn_78 (by decide) ?_
      obtain ⟨σ93, h93, hf⟩ := bnd hf
      refine q_iast hx hb hK hP hJ hS ha1.o ha1.k h93 dX7_paintOn_93 (fun H locs hP hS => ?_)
      refine lv_iinc (v := (x4_10 + (1 : Int32))) (lv' := [(4, .int (x4_10 + (1 : Int32))), (5, .int (-4 : Int32)), (0, .ref (w.1 (184))), (1, .ref (w.1 (a1))), (2, .int a2), (3, .int v5)]) hx hb dX7_paintOn_94 hl (k := 5) rfl ii_1 (by decide) rfl (fun ls hl => ?_)
      refine lv_goto (tgt := 10) hx hb dX7_paintOn_97 (by decide) ?_
      obtain rfl := Option.some.inj hf
      exact hG10 _ rfl _ _ _ hP hS (lv_sub hl [2, 3, 4, 5, 0] rfl)
    · have hf := ifn hc hf
      refine lv_aload_n hx hb dX7_paintOn_28 rfl (lv_at hl 0 rfl) ?_
      refine lv_aload_n hx hb dX7_paintOn_29 rfl (lv_at hl 1 rfl) ?_
      refine lv_iload_n hx hb dX7_paintOn_30 rfl (lv_at hl 3 rfl) ?_
      refine lv_iload hx hb dX7_paintOn_31 (lv_at hl 4 rfl) ?_
      obtain ⟨v33, h33, hf⟩ := bnd hf
      refine q_cVi (As := [.ref (w.1 (a1)), .int v5, .int x4_10]) hx hb hts hml hown hK hP hS (c_X7_nextOn l D w σ_10 (a1) v5 x4_10 v33 ha1 h33) hw_X7_167 hd_X7_nextOn ⟨rfl, rfl, rfl⟩ o184 (ce7 kd184) rfl ⟨Nat.le_of_ble_eq_true rfl, Nat.le_of_ble_eq_true rfl⟩ ⟨Nat.le_of_ble_eq_true rfl, Nat.le_of_ble_eq_true rfl⟩ hl.1 rfl (Nat.le_of_ble_eq_true rfl) dX7_paintOn_33 (fun H locs hP hS => ?_)
      refine lv_goto (tgt := 41) hx hb dX7_paintOn_36 (by decide) ?_
      refine lv_istore (lv' := [(5, .int v33), (0, .ref (w.1 (184))), (1, .ref (w.1 (a1))), (2, .int a2), (3, .int v5), (4, .int x4_10)]) hx hb dX7_paintOn_41 hl (by decide) rfl (fun ls hl => ?_)
      refine lv_aload_n hx hb dX7_paintOn_43 rfl (lv_at hl 2 rfl) ?_
      refine lv_bipush (v := (83 : Int32)) hx hb dX7_paintOn_44 (by decide) ?_
      refine lv_bipush (v := (8 : Int32)) hx hb dX7_paintOn_46 (by decide) ?_
      refine lv_iload_n hx hb dX7_paintOn_48 rfl (lv_at hl 3 rfl) ?_
      refine lv_imul hx hb dX7_paintOn_49 ?_
      refine lv_iadd hx hb dX7_paintOn_50 ?_
      refine lv_iload hx hb dX7_paintOn_51 (lv_at hl 5 rfl) ?_
      refine lv_iadd hx hb dX7_paintOn_53 ?_
      refine lv_iload hx hb dX7_paintOn_54 (lv_at hl 0 rfl) ?_
      obtain ⟨σ56, h56, hf⟩ := bnd hf
      refine q_iast hx hb hK hP hJ hS ha1.o ha1.k h56 dX7_paintOn_56 (fun H locs hP hS => ?_)
      refine lv_aload_n hx hb dX7_paintOn_57 rfl (lv_at hl 2 rfl) ?_
      refine lv_sipush (v := (131 : Int32)) hx hb dX7_paintOn_58 (by decide) ?_
      refine lv_bipush (v := (8 : Int32)) hx hb dX7_paintOn_61 (by decide) ?_
      refine lv_iload_n hx hb dX7_paintOn_63 rfl (lv_at hl 3 rfl) ?_
      refine lv_imul hx hb dX7_paintOn_64 ?_
      refine lv_iadd hx hb dX7_paintOn_65 ?_
      refine lv_iload hx hb dX7_paintOn_66 (lv_at hl 5 rfl) ?_
      refine lv_iadd hx hb dX7_paintOn_68 ?_
      refine lv_iload hx hb dX7_paintOn_69 (lv_at hl 0 rfl) ?_
      refine lv_bipush (v := (-4 : Int32)) hx hb dX7_paintOn_71 (by decide) ?_
      refine lv_icmp_ne (tgt := 81) hx hb dX7_paintOn_73 (by decide) (fun hc => ?_) (fun hc => ?_)
      · have hf := ifp hc hf
        refine lv_aload_n hx hb dX7_paintOn_81 rfl (lv_at hl 1 rfl) ?_
        refine gt_X7_53 hx hb hts hown hK hP dX7_paintOn_82 ?_
        refine lv_bipush (v := (8 : Int32)) hx hb dX7_paintOn_85 (by decide) ?_
        refine lv_iload_n hx hb dX7_paintOn_87 rfl (lv_at hl 4 rfl) ?_
        refine lv_imul hx hb dX7_paintOn_88 ?_
        refine lv_iload hx hb dX7_paintOn_89 (lv_at hl 5 rfl) ?_
        refine lv_iadd hx hb dX7_paintOn_91 ?_
        obtain ⟨v92, h92, hf⟩ := bnd hf
        refine q_iald hx hb hK hP isC199.o isC199.k h92 dX7_paintOn_92 ?_
        obtain ⟨σ93, h93, hf⟩ := bnd hf
        refine q_iast hx hb hK hP hJ hS ha1.o ha1.k h93 dX7_paintOn_93 (fun H locs hP hS => ?_)
        refine lv_iinc (v := (x4_10 + (1 : Int32))) (lv' := [(4, .int (x4_10 + (1 : Int32))), (5, .int v33), (0, .ref (w.1 (184))), (1, .ref (w.1 (a1))), (2, .int a2), (3, .int v5)]) hx hb dX7_paintOn_94 hl (k := 5) rfl ii_1 (by decide) rfl (fun ls hl => ?_)
        refine lv_goto (tgt := 10) hx hb dX7_paintOn_97 (by decide) ?_
        obtain rfl := Option.some.inj hf
        exact hG10 _ rfl _ _ _ hP hS (lv_sub hl [2, 3, 4, 5, 0] rfl)
      · have hf := ifn (fun h => h hc) hf
        refine lv_bipush (v := (-4 : Int32)) hx hb dX7_paintOn_76 (by decide) ?_
        refine lv_goto (tgt := 93) hx hb dX7_paintOn_78 (by decide) ?_
        obtain ⟨σ93, h93, hf⟩ := bnd hf
        refine q_iast hx hb hK hP hJ hS ha1.o ha1.k h93 dX7_paintOn_93 (fun H locs hP hS => ?_)
        refine lv_iinc (v := (x4_10 + (1 : Int32))) (lv' := [(4, .int (x4_10 + (1 : Int32))), (5, .int v33), (0, .ref (w.1 (184))), (1, .ref (w.1 (a1))), (2, .int a2), (3, .int v5)]) hx hb dX7_paintOn_94 hl (k := 5) rfl ii_1 (by decide) rfl (fun ls hl => ?_)
        refine lv_goto (tgt := 10) hx hb dX7_paintOn_97 (by decide) ?_
        obtain rfl := Option.some.inj hf
        exact hG10 _ rfl _ _ _ hP hS (lv_sub hl [2, 3, 4, 5, 0] rfl)
def f_X7_takeDraft_b1 (x1_38 : Int32) (σ_38 : Sg) : Option ((Int32 × Sg) ⊕ Sg) :=
  if (179 : Int32) ≤ x1_38 then
  some (.inr σ_38)
  else
  (sa σ_38 (195) (ln (195)) x1_38 (0 : Int32)).bind fun σ51 =>
  some (.inl ((x1_38 + (1 : Int32)), σ51))
def f_X7_takeDraft_b2 (x1_60 : Int32) (σ_60 : Sg) : Option ((Int32 × Sg) ⊕ Sg) :=
  if (64 : Int32) ≤ x1_60 then
  some (.inr σ_60)
  else
  (ga (σ_60 (191)) (ln (191)) x1_60).bind fun v79 =>
  (sa σ_60 (195) (ln (195)) ((7 : Int32) + x1_60) v79).bind fun σ80 =>
  some (.inl ((x1_60 + (1 : Int32)), σ80))
def f_X7_takeDraft_b3 (x1_89 : Int32) (σ_89 : Sg) : Option ((Int32 × Sg) ⊕ Sg) :=
  if (5 : Int32) ≤ x1_89 then
  some (.inr σ_89)
  else
  (ga (σ_89 (190)) (ln (190)) ((5 : Int32) + x1_89)).bind fun v106 =>
  (sa σ_89 (190) (ln (190)) x1_89 v106).bind fun σ107 =>
  (ga (σ107 (188)) (ln (188)) (0 : Int32)).bind fun v121 =>
  if v121 ≤ x1_89 then
  (sa σ107 (195) (ln (195)) ((0 : Int32) + x1_89) (0 : Int32)).bind fun σ135 =>
  some (.inl ((x1_89 + (1 : Int32)), σ135))
  else
  (ga (σ107 (194)) (ln (194)) x1_89).bind fun v130 =>
  (sa σ107 (195) (ln (195)) ((0 : Int32) + x1_89) v130).bind fun σ135 =>
  some (.inl ((x1_89 + (1 : Int32)), σ135))
def f_X7_takeDraft_b4 (x1_144 : Int32) (σ_144 : Sg) : Option ((Int32 × Sg) ⊕ Sg) :=
  if (6 : Int32) ≤ x1_144 then
  some (.inr σ_144)
  else
  (ga (σ_144 (189)) (ln (189)) ((6 : Int32) + x1_144)).bind fun v163 =>
  (sa σ_144 (189) (ln (189)) x1_144 v163).bind fun σ164 =>
  (ga (σ164 (187)) (ln (187)) (0 : Int32)).bind fun v179 =>
  if v179 ≤ x1_144 then
  (sa σ164 (195) (ln (195)) ((71 : Int32) + x1_144) (-4 : Int32)).bind fun σ194 =>
  (ga (σ194 (187)) (ln (187)) (0 : Int32)).bind fun v209 =>
  if v209 ≤ x1_144 then
  (sa σ194 (195) (ln (195)) ((77 : Int32) + x1_144) (0 : Int32)).bind fun σ223 =>
  some (.inl ((x1_144 + (1 : Int32)), σ223))
  else
  (ga (σ194 (193)) (ln (193)) x1_144).bind fun v218 =>
  (sa σ194 (195) (ln (195)) ((77 : Int32) + x1_144) v218).bind fun σ223 =>
  some (.inl ((x1_144 + (1 : Int32)), σ223))
  else
  (ga (σ164 (192)) (ln (192)) x1_144).bind fun v188 =>
  (sa σ164 (195) (ln (195)) ((71 : Int32) + x1_144) v188).bind fun σ194 =>
  (ga (σ194 (187)) (ln (187)) (0 : Int32)).bind fun v209 =>
  if v209 ≤ x1_144 then
  (sa σ194 (195) (ln (195)) ((77 : Int32) + x1_144) (0 : Int32)).bind fun σ223 =>
  some (.inl ((x1_144 + (1 : Int32)), σ223))
  else
  (ga (σ194 (193)) (ln (193)) x1_144).bind fun v218 =>
  (sa σ194 (195) (ln (195)) ((77 : Int32) + x1_144) v218).bind fun σ223 =>
  some (.inl ((x1_144 + (1 : Int32)), σ223))
def f_X7_takeDraft_b5 (x1_240 : Int32) (σ_240 : Sg) : Option ((Int32 × Sg) ⊕ Sg) :=
  (ga (σ_240 (187)) (ln (187)) (0 : Int32)).bind fun v246 =>
  if v246 ≤ x1_240 then
  some (.inr σ_240)
  else
  (f_X7_paintOn σ_240 (195) x1_240).bind fun σ256 =>
  some (.inl ((x1_240 + (1 : Int32)), σ256))
def f_X7_takeDraft_k1 (σ_265 : Sg) : Option Sg :=
  (some (sf σ_265 (184) 16 (0 : Int32))).bind fun σ267 =>
  (some (sf σ267 (184) 18 (0 : Int32))).bind fun σ272 =>
  (some (sf σ272 (184) 28 (0 : Int32))).bind fun σ277 =>
  (some (sf σ277 (184) 32 (0 : Int32))).bind fun σ282 =>
  some σ282
def f_X7_takeDraft_k2 (σ_230 : Sg) : Option Sg :=
  (f_X7_measure σ_230 (195)).bind fun σ235 =>
  (lp (fun st => f_X7_takeDraft_b5  st.1 st.2) FU ((0 : Int32), σ235)).bind fun rr => f_X7_takeDraft_k1 rr
def f_X7_takeDraft_k3 (σ_142 : Sg) : Option Sg :=
  (lp (fun st => f_X7_takeDraft_b4  st.1 st.2) FU ((0 : Int32), σ_142)).bind fun rr => f_X7_takeDraft_k2 rr
def f_X7_takeDraft_k4 (σ_87 : Sg) : Option Sg :=
  (lp (fun st => f_X7_takeDraft_b3  st.1 st.2) FU ((0 : Int32), σ_87)).bind fun rr => f_X7_takeDraft_k3 rr
def f_X7_takeDraft_k5 (σ_58 : Sg) : Option Sg :=
  (lp (fun st => f_X7_takeDraft_b2  st.1 st.2) FU ((0 : Int32), σ_58)).bind fun rr => f_X7_takeDraft_k4 rr
def f_X7_takeDraft (σ : Sg)  : Option Sg :=
  (ga (σ (186)) (ln (186)) (1 : Int32)).bind fun v10 =>
  (sa σ (186) (ln (186)) (0 : Int32) v10).bind fun σ11 =>
  (ga (σ11 (187)) (ln (187)) (1 : Int32)).bind fun v22 =>
  (sa σ11 (187) (ln (187)) (0 : Int32) v22).bind fun σ23 =>
  (ga (σ23 (188)) (ln (188)) (1 : Int32)).bind fun v34 =>
  (sa σ23 (188) (ln (188)) (0 : Int32) v34).bind fun σ35 =>
  (lp (fun st => f_X7_takeDraft_b1  st.1 st.2) FU ((0 : Int32), σ35)).bind fun rr => f_X7_takeDraft_k5 rr
set_option maxHeartbeats 4000000 in
set_option maxRecDepth 100000 in
theorem c_X7_takeDraft (l : Launch) (D : va_G) (w : Wv) (σ : Sg)  (σ' : Sg)  (hJ : Inj w) (hf : f_X7_takeDraft σ = some σ') : Met l yX7_takeDraft (.code yX7_takeDraft cX7_takeDraft 2 none :: TB) (rmW 2 51) (pcW D w [.ref (w.1 (184))] σ) (qvW D w σ') 0 0 (AL w) := by
  refine q_open (by decide +kernel) (Nat.le_of_ble_eq_true rfl) ?_
  intro p e s m args below meth c ls hx hb hml hr hlk hown hts hK hP hS hl
  have hown : s.vm.findClass RX7 = some m.cls := hown
  have hl : lv_has ls 2 [(0, .ref (w.1 (184)))] := hl
  unfold f_X7_takeDraft at hf
  refine lv_aload_n hx hb dX7_takeDraft_0 rfl (lv_at hl 0 rfl) ?_
  refine gt_X7_13 hx hb hts hown hK hP dX7_takeDraft_1 ?_
  refine lv_iconst (v := (0 : Int32)) hx hb dX7_takeDraft_4 (by decide) ?_
  refine lv_aload_n hx hb dX7_takeDraft_5 rfl (lv_at hl 0 rfl) ?_
  refine gt_X7_13 hx hb hts hown hK hP dX7_takeDraft_6 ?_
  refine lv_iconst (v := (1 : Int32)) hx hb dX7_takeDraft_9 (by decide) ?_
  obtain ⟨v10, h10, hf⟩ := bnd hf
  refine q_iald hx hb hK hP isC186.o isC186.k h10 dX7_takeDraft_10 ?_
  obtain ⟨σ11, h11, hf⟩ := bnd hf
  refine q_iast hx hb hK hP hJ hS isC186.o isC186.k h11 dX7_takeDraft_11 (fun H locs hP hS => ?_)
  refine lv_aload_n hx hb dX7_takeDraft_12 rfl (lv_at hl 0 rfl) ?_
  refine gt_X7_17 hx hb hts hown hK hP dX7_takeDraft_13 ?_
  refine lv_iconst (v := (0 : Int32)) hx hb dX7_takeDraft_16 (by decide) ?_
  refine lv_aload_n hx hb dX7_takeDraft_17 rfl (lv_at hl 0 rfl) ?_
  refine gt_X7_17 hx hb hts hown hK hP dX7_takeDraft_18 ?_
  refine lv_iconst (v := (1 : Int32)) hx hb dX7_takeDraft_21 (by decide) ?_
  obtain ⟨v22, h22, hf⟩ := bnd hf
  refine q_iald hx hb hK hP isC187.o isC187.k h22 dX7_takeDraft_22 ?_
  obtain ⟨σ23, h23, hf⟩ := bnd hf
  refine q_iast hx hb hK hP hJ hS isC187.o isC187.k h23 dX7_takeDraft_23 (fun H locs hP hS => ?_)
  refine lv_aload_n hx hb dX7_takeDraft_24 rfl (lv_at hl 0 rfl) ?_
  refine gt_X7_20 hx hb hts hown hK hP dX7_takeDraft_25 ?_
  refine lv_iconst (v := (0 : Int32)) hx hb dX7_takeDraft_28 (by decide) ?_
  refine lv_aload_n hx hb dX7_takeDraft_29 rfl (lv_at hl 0 rfl) ?_
  refine gt_X7_20 hx hb hts hown hK hP dX7_takeDraft_30 ?_
  refine lv_iconst (v := (1 : Int32)) hx hb dX7_takeDraft_33 (by decide) ?_
  obtain ⟨v34, h34, hf⟩ := bnd hf
  refine q_iald hx hb hK hP isC188.o isC188.k h34 dX7_takeDraft_34 ?_
  obtain ⟨σ35, h35, hf⟩ := bnd hf
  refine q_iast hx hb hK hP hJ hS isC188.o isC188.k h35 dX7_takeDraft_35 (fun H locs hP hS => ?_)
  refine lv_iconst (v := (0 : Int32)) hx hb dX7_takeDraft_36 (by decide) ?_
  refine lv_istore_n (lv' := [(1, .int (0 : Int32)), (0, .ref (w.1 (184)))]) hx hb dX7_takeDraft_37 rfl hl (by decide) rfl (fun ls hl => ?_)
  obtain ⟨rr, hlp, hf⟩ := bnd hf
  have hE38_58 : ∀ (σ_58 : Sg) (H : Heap) (locs : List Loc) (ls : Array Slot), f_X7_takeDraft_k5 σ_58 = some σ' → va_P D vwCl (WL w σ_58) H → va_S (AL w) s.heap H locs → lv_has ls 2 [(0, .ref (w.1 (184)))] → W p l e (rmW 2 51) s m args below meth c H locs 0 0 (MQ below (qvW D w σ') args s 0 0 (AL w)) (F0 m 58 ls []) := by
    intro σ_58 H locs ls hf hP hS hl
    unfold f_X7_takeDraft_k5 at hf
    refine lv_iconst (v := (0 : Int32)) hx hb dX7_takeDraft_58 (by decide) ?_
    refine lv_istore_n (lv' := [(1, .int (0 : Int32)), (0, .ref (w.1 (184)))]) hx hb dX7_takeDraft_59 rfl hl (by decide) rfl (fun ls hl => ?_)
    obtain ⟨rr, hlp, hf⟩ := bnd hf
    have hE60_87 : ∀ (σ_87 : Sg) (H : Heap) (locs : List Loc) (ls : Array Slot), f_X7_takeDraft_k4 σ_87 = some σ' → va_P D vwCl (WL w σ_87) H → va_S (AL w) s.heap H locs → lv_has ls 2 [(0, .ref (w.1 (184)))] → W p l e (rmW 2 51) s m args below meth c H locs 0 0 (MQ below (qvW D w σ') args s 0 0 (AL w)) (F0 m 87 ls []) := by
      intro σ_87 H locs ls hf hP hS hl
      unfold f_X7_takeDraft_k4 at hf
      refine lv_iconst (v := (0 : Int32)) hx hb dX7_takeDraft_87 (by decide) ?_
      refine lv_istore_n (lv' := [(1, .int (0 : Int32)), (0, .ref (w.1 (184)))]) hx hb dX7_takeDraft_88 rfl hl (by decide) rfl (fun ls hl => ?_)
      obtain ⟨rr, hlp, hf⟩ := bnd hf
      have hE89_142 : ∀ (σ_142 : Sg) (H : Heap) (locs : List Loc) (ls : Array Slot), f_X7_takeDraft_k3 σ_142 = some σ' → va_P D vwCl (WL w σ_142) H → va_S (AL w) s.heap H locs → lv_has ls 2 [(0, .ref (w.1 (184)))] → W p l e (rmW 2 51) s m args below meth c H locs 0 0 (MQ below (qvW D w σ') args s 0 0 (AL w)) (F0 m 142 ls []) := by
        intro σ_142 H locs ls hf hP hS hl
        unfold f_X7_takeDraft_k3 at hf
        refine lv_iconst (v := (0 : Int32)) hx hb dX7_takeDraft_142 (by decide) ?_
        refine lv_istore_n (lv' := [(1, .int (0 : Int32)), (0, .ref (w.1 (184)))]) hx hb dX7_takeDraft_143 rfl hl (by decide) rfl (fun ls hl => ?_)
        obtain ⟨rr, hlp, hf⟩ := bnd hf
        have hE144_230 : ∀ (σ_230 : Sg) (H : Heap) (locs : List Loc) (ls : Array Slot), f_X7_takeDraft_k2 σ_230 = some σ' → va_P D vwCl (WL w σ_230) H → va_S (AL w) s.heap H locs → lv_has ls 2 [(0, .ref (w.1 (184)))] → W p l e (rmW 2 51) s m args below meth c H locs 0 0 (MQ below (qvW D w σ') args s 0 0 (AL w)) (F0 m 230 ls []) := by
          intro σ_230 H locs ls hf hP hS hl
          unfold f_X7_takeDraft_k2 at hf
          refine lv_aload_n hx hb dX7_takeDraft_230 rfl (lv_at hl 0 rfl) ?_
          refine lv_aload_n hx hb dX7_takeDraft_231 rfl (lv_at hl 0 rfl) ?_
          refine gt_X7_41 hx hb hts hown hK hP dX7_takeDraft_232 ?_
          obtain ⟨σ235, h235, hf⟩ := bnd hf
          refine q_cVv (As := [.ref (w.1 (195))]) hx hb hts hml hown hK hP hS (c_X7_measure l D w σ_230 (195) σ235 isC195 hJ h235) hw_X7_146 hd_X7_measure ⟨rfl, rfl, rfl⟩ o184 (ce7 kd184) rfl ⟨Nat.le_of_ble_eq_true rfl, Nat.le_of_ble_eq_true rfl⟩ ⟨Nat.le_of_ble_eq_true rfl, Nat.le_of_ble_eq_true rfl⟩ hl.1 rfl (Nat.le_of_ble_eq_true rfl) dX7_takeDraft_235 (fun H locs hP hS => ?_)
          refine lv_iconst (v := (0 : Int32)) hx hb dX7_takeDraft_238 (by decide) ?_
          refine lv_istore_n (lv' := [(1, .int (0 : Int32)), (0, .ref (w.1 (184)))]) hx hb dX7_takeDraft_239 rfl hl (by decide) rfl (fun ls hl => ?_)
          obtain ⟨rr, hlp, hf⟩ := bnd hf
          have hE240_265 : ∀ (σ_265 : Sg) (H : Heap) (locs : List Loc) (ls : Array Slot), f_X7_takeDraft_k1 σ_265 = some σ' → va_P D vwCl (WL w σ_265) H → va_S (AL w) s.heap H locs → lv_has ls 2 [(0, .ref (w.1 (184)))] → W p l e (rmW 2 51) s m args below meth c H locs 0 0 (MQ below (qvW D w σ') args s 0 0 (AL w)) (F0 m 265 ls []) := by
            intro σ_265 H locs ls hf hP hS hl
            unfold f_X7_takeDraft_k1 at hf
            refine lv_aload_n hx hb dX7_takeDraft_265 rfl (lv_at hl 0 rfl) ?_
            refine lv_iconst (v := (0 : Int32)) hx hb dX7_takeDraft_266 (by decide) ?_
            obtain ⟨σ267, h267, hf⟩ := bnd hf
            refine pt_X7_154 hx hb hts hown hK hP hJ hS h267 dX7_takeDraft_267 (fun H locs hP hS => ?_)
            refine lv_aload_n hx hb dX7_takeDraft_270 rfl (lv_at hl 0 rfl) ?_
            refine lv_iconst (v := (0 : Int32)) hx hb dX7_takeDraft_271 (by decide) ?_
            obtain ⟨σ272, h272, hf⟩ := bnd hf
            refine pt_X7_157 hx hb hts hown hK hP hJ hS h272 dX7_takeDraft_272 (fun H locs hP hS => ?_)
            refine lv_aload_n hx hb dX7_takeDraft_275 rfl (lv_at hl 0 rfl) ?_
            refine lv_iconst (v := (0 : Int32)) hx hb dX7_takeDraft_276 (by decide) ?_
            obtain ⟨σ277, h277, hf⟩ := bnd hf
            refine pt_X7_160 hx hb hts hown hK hP hJ hS h277 dX7_takeDraft_277 (fun H locs hP hS => ?_)
            refine lv_aload_n hx hb dX7_takeDraft_280 rfl (lv_at hl 0 rfl) ?_
            refine lv_iconst (v := (0 : Int32)) hx hb dX7_takeDraft_281 (by decide) ?_
            obtain ⟨σ282, h282, hf⟩ := bnd hf
            refine pt_X7_163 hx hb hts hown hK hP hJ hS h282 dX7_takeDraft_282 (fun H locs hP hS => ?_)
            have hq := Option.some.inj hf
            exact q_vret hx hb hr hlk hP hS hq dX7_takeDraft_285
          refine lp_ind (G := fun (st : (Int32 × Sg)) => ∀ (H : Heap) (locs : List Loc) (ls : Array Slot), va_P D vwCl (WL w st.2) H → va_S (AL w) s.heap H locs → lv_has ls 2 [(0, .ref (w.1 (184))), (1, .int st.1)] → W p l e (rmW 2 51) s m args below meth c H locs 0 0 (MQ below (qvW D w σ') args s 0 0 (AL w)) (F0 m 240 ls [])) (X := fun rr => f_X7_takeDraft_k1 rr = some σ') ?_ _ _ rr hlp hf _ _ _ hP hS (lv_sub hl [1, 0] rfl)
          rintro ⟨x1_240, σ_240⟩ oo240 hb9 hG240 hX240 H locs ls hP hS hl
          have hP : va_P D vwCl (WL w σ_240) H := hP
          have hl : lv_has ls 2 [(0, .ref (w.1 (184))), (1, .int x1_240)] := hl
          have hf : f_X7_takeDraft_b5  x1_240 σ_240 = some oo240 := hb9
          unfold f_X7_takeDraft_b5 at hf
          refine lv_iload_n hx hb dX7_takeDraft_240 rfl (lv_at hl 1 rfl) ?_
          refine lv_aload_n hx hb dX7_takeDraft_241 rfl (lv_at hl 0 rfl) ?_
          refine gt_X7_17 hx hb hts hown hK hP dX7_takeDraft_242 ?_
          refine lv_iconst (v := (0 : Int32)) hx hb dX7_takeDraft_245 (by decide) ?_
          obtain ⟨v246, h246, hf⟩ := bnd hf
          refine q_iald hx hb hK hP isC187.o isC187.k h246 dX7_takeDraft_246 ?_
          refine lv_icmp_ge (tgt := 265) hx hb dX7_takeDraft_247 (by decide) (fun hc => ?_) (fun hc => ?_)
          · have hf := ifp hc hf
            obtain rfl := Option.some.inj hf
            exact hE240_265 σ_240 _ _ _ (hX240 _ rfl) hP hS (lv_sub hl [0] rfl)
          · have hf := ifn hc hf
            refine lv_aload_n hx hb dX7_takeDraft_250 rfl (lv_at hl 0 rfl) ?_
            refine lv_aload_n hx hb dX7_takeDraft_251 rfl (lv_at hl 0 rfl) ?_
            refine gt_X7_41 hx hb hts hown hK hP dX7_takeDraft_252 ?_
            refine lv_iload_n hx hb dX7_takeDraft_255 rfl (lv_at hl 1 rfl) ?_
            obtain ⟨σ256, h256, hf⟩ := bnd hf
            refine q_cVv (As := [.ref (w.1 (195)), .int x1_240]) hx hb hts hml hown hK hP hS (c_X7_paintOn l D w σ_240 (195) x1_240 σ256 isC195 hJ h256) hw_X7_150 hd_X7_paintOn ⟨rfl, rfl, rfl⟩ o184 (ce7 kd184) rfl ⟨Nat.le_of_ble_eq_true rfl, Nat.le_of_ble_eq_true rfl⟩ ⟨Nat.le_of_ble_eq_true rfl, Nat.le_of_ble_eq_true rfl⟩ hl.1 rfl (Nat.le_of_ble_eq_true rfl) dX7_takeDraft_256 (fun H locs hP hS => ?_)
            refine lv_iinc (v := (x1_240 + (1 : Int32))) (lv' := [(1, .int (x1_240 + (1 : Int32))), (0, .ref (w.1 (184)))]) hx hb dX7_takeDraft_259 hl (k := 1) rfl ii_1 (by decide) rfl (fun ls hl => ?_)
            refine lv_goto (tgt := 240) hx hb dX7_takeDraft_262 (by decide) ?_
            obtain rfl := Option.some.inj hf
            exact hG240 _ rfl _ _ _ hP hS (lv_sub hl [1, 0] rfl)
        refine lp_ind (G := fun (st : (Int32 × Sg)) => ∀ (H : Heap) (locs : List Loc) (ls : Array Slot), va_P D vwCl (WL w st.2) H → va_S (AL w) s.heap H locs → lv_has ls 2 [(0, .ref (w.1 (184))), (1, .int st.1)] → W p l e (rmW 2 51) s m args below meth c H locs 0 0 (MQ below (qvW D w σ') args s 0 0 (AL w)) (F0 m 144 ls [])) (X := fun rr => f_X7_takeDraft_k2 rr = some σ') ?_ _ _ rr hlp hf _ _ _ hP hS (lv_sub hl [1, 0] rfl)
        rintro ⟨x1_144, σ_144⟩ oo144 hb9 hG144 hX144 H locs ls hP hS hl
        have hP : va_P D vwCl (WL w σ_144) H := hP
        have hl : lv_has ls 2 [(0, .ref (w.1 (184))), (1, .int x1_144)] := hl
        have hf : f_X7_takeDraft_b4  x1_144 σ_144 = some oo144 := hb9
        unfold f_X7_takeDraft_b4 at hf
        refine lv_iload_n hx hb dX7_takeDraft_144 rfl (lv_at hl 1 rfl) ?_
        refine lv_bipush (v := (6 : Int32)) hx hb dX7_takeDraft_145 (by decide) ?_
        refine lv_icmp_ge (tgt := 230) hx hb dX7_takeDraft_147 (by decide) (fun hc => ?_) (fun hc => ?_)
        · have hf := ifp hc hf
          obtain rfl := Option.some.inj hf
          exact hE144_230 σ_144 _ _ _ (hX144 _ rfl) hP hS (lv_sub hl [0] rfl)
        · have hf := ifn hc hf
          refine lv_aload_n hx hb dX7_takeDraft_150 rfl (lv_at hl 0 rfl) ?_
          refine gt_X7_23 hx hb hts hown hK hP dX7_takeDraft_151 ?_
          refine lv_iload_n hx hb dX7_takeDraft_154 rfl (lv_at hl 1 rfl) ?_
          refine lv_aload_n hx hb dX7_takeDraft_155 rfl (lv_at hl 0 rfl) ?_
          refine gt_X7_23 hx hb hts hown hK hP dX7_takeDraft_156 ?_
          refine lv_bipush (v := (6 : Int32)) hx hb dX7_takeDraft_159 (by decide) ?_
          refine lv_iload_n hx hb dX7_takeDraft_161 rfl (lv_at hl 1 rfl) ?_
          refine lv_iadd hx hb dX7_takeDraft_162 ?_
          obtain ⟨v163, h163, hf⟩ := bnd hf
          refine q_iald hx hb hK hP isC189.o isC189.k h163 dX7_takeDraft_163 ?_
          obtain ⟨σ164, h164, hf⟩ := bnd hf
          refine q_iast hx hb hK hP hJ hS isC189.o isC189.k h164 dX7_takeDraft_164 (fun H locs hP hS => ?_)
          refine lv_aload_n hx hb dX7_takeDraft_165 rfl (lv_at hl 0 rfl) ?_
          refine gt_X7_41 hx hb hts hown hK hP dX7_takeDraft_166 ?_
          refine lv_bipush (v := (71 : Int32)) hx hb dX7_takeDraft_169 (by decide) ?_
          refine lv_iload_n hx hb dX7_takeDraft_171 rfl (lv_at hl 1 rfl) ?_
          refine lv_iadd hx hb dX7_takeDraft_172 ?_
          refine lv_iload_n hx hb dX7_takeDraft_173 rfl (lv_at hl 1 rfl) ?_
          refine lv_aload_n hx hb dX7_takeDraft_174 rfl (lv_at hl 0 rfl) ?_
          refine gt_X7_17 hx hb hts hown hK hP dX7_takeDraft_175 ?_
          refine lv_iconst (v := (0 : Int32)) hx hb dX7_takeDraft_178 (by decide) ?_
          obtain ⟨v179, h179, hf⟩ := bnd hf
          refine q_iald hx hb hK hP isC187.o isC187.k h179 dX7_takeDraft_179 ?_
          refine lv_icmp_ge (tgt := 192) hx hb dX7_takeDraft_180 (by decide) (fun hc => ?_) (fun hc => ?_)
          · have hf := ifp hc hf
            refine lv_bipush (v := (-4 : Int32)) hx hb dX7_takeDraft_192 (by decide) ?_
            obtain ⟨σ194, h194, hf⟩ := bnd hf
            refine q_iast hx hb hK hP hJ hS isC195.o isC195.k h194 dX7_takeDraft_194 (fun H locs hP hS => ?_)
            refine lv_aload_n hx hb dX7_takeDraft_195 rfl (lv_at hl 0 rfl) ?_
            refine gt_X7_41 hx hb hts hown hK hP dX7_takeDraft_196 ?_
            refine lv_bipush (v := (77 : Int32)) hx hb dX7_takeDraft_199 (by decide) ?_
            refine lv_iload_n hx hb dX7_takeDraft_201 rfl (lv_at hl 1 rfl) ?_
            refine lv_iadd hx hb dX7_takeDraft_202 ?_
            refine lv_iload_n hx hb dX7_takeDraft_203 rfl (lv_at hl 1 rfl) ?_
            refine lv_aload_n hx hb dX7_takeDraft_204 rfl (lv_at hl 0 rfl) ?_
            refine gt_X7_17 hx hb hts hown hK hP dX7_takeDraft_205 ?_
            refine lv_iconst (v := (0 : Int32)) hx hb dX7_takeDraft_208 (by decide) ?_
            obtain ⟨v209, h209, hf⟩ := bnd hf
            refine q_iald hx hb hK hP isC187.o isC187.k h209 dX7_takeDraft_209 ?_
            refine lv_icmp_ge (tgt := 222) hx hb dX7_takeDraft_210 (by decide) (fun hc => ?_) (fun hc => ?_)
            · have hf := ifp hc hf
              refine lv_iconst (v := (0 : Int32)) hx hb dX7_takeDraft_222 (by decide) ?_
              obtain ⟨σ223, h223, hf⟩ := bnd hf
              refine q_iast hx hb hK hP hJ hS isC195.o isC195.k h223 dX7_takeDraft_223 (fun H locs hP hS => ?_)
              refine lv_iinc (v := (x1_144 + (1 : Int32))) (lv' := [(1, .int (x1_144 + (1 : Int32))), (0, .ref (w.1 (184)))]) hx hb dX7_takeDraft_224 hl (k := 1) rfl ii_1 (by decide) rfl (fun ls hl => ?_)
              refine lv_goto (tgt := 144) hx hb dX7_takeDraft_227 (by decide) ?_
              obtain rfl := Option.some.inj hf
              exact hG144 _ rfl _ _ _ hP hS (lv_sub hl [1, 0] rfl)
            · have hf := ifn hc hf
              refine lv_aload_n hx hb dX7_takeDraft_213 rfl (lv_at hl 0 rfl) ?_
              refine gt_X7_35 hx hb hts hown hK hP dX7_takeDraft_214 ?_
              refine lv_iload_n hx hb dX7_takeDraft_217 rfl (lv_at hl 1 rfl) ?_
              obtain ⟨v218, h218, hf⟩ := bnd hf
              refine q_iald hx hb hK hP isC193.o isC193.k h218 dX7_takeDraft_218 ?_
              refine lv_goto (tgt := 223) hx hb dX7_takeDraft_219 (by decide) ?_
              obtain ⟨σ223, h223, hf⟩ := bnd hf
              refine q_iast hx hb hK hP hJ hS isC195.o isC195.k h223 dX7_takeDraft_223 (fun H locs hP hS => ?_)
              refine lv_iinc (v := (x1_144 + (1 : Int32))) (lv' := [(1, .int (x1_144 + (1 : Int32))), (0, .ref (w.1 (184)))]) hx hb dX7_takeDraft_224 hl (k := 1) rfl ii_1 (by decide) rfl (fun ls hl => ?_)
              refine lv_goto (tgt := 144) hx hb dX7_takeDraft_227 (by decide) ?_
              obtain rfl := Option.some.inj hf
              exact hG144 _ rfl _ _ _ hP hS (lv_sub hl [1, 0] rfl)
          · have hf := ifn hc hf
            refine lv_aload_n hx hb dX7_takeDraft_183 rfl (lv_at hl 0 rfl) ?_
            refine gt_X7_32 hx hb hts hown hK hP dX7_takeDraft_184 ?_
            refine lv_iload_n hx hb dX7_takeDraft_187 rfl (lv_at hl 1 rfl) ?_
            obtain ⟨v188, h188, hf⟩ := bnd hf
            refine q_iald hx hb hK hP isC192.o isC192.k h188 dX7_takeDraft_188 ?_
            refine lv_goto (tgt := 194) hx hb dX7_takeDraft_189 (by decide) ?_
            obtain ⟨σ194, h194, hf⟩ := bnd hf
            refine q_iast hx hb hK hP hJ hS isC195.o isC195.k h194 dX7_takeDraft_194 (fun H locs hP hS => ?_)
            refine lv_aload_n hx hb dX7_takeDraft_195 rfl (lv_at hl 0 rfl) ?_
            refine gt_X7_41 hx hb hts hown hK hP dX7_takeDraft_196 ?_
            refine lv_bipush (v := (77 : Int32)) hx hb dX7_takeDraft_199 (by decide) ?_
            refine lv_iload_n hx hb dX7_takeDraft_201 rfl (lv_at hl 1 rfl) ?_
            refine lv_iadd hx hb dX7_takeDraft_202 ?_
            refine lv_iload_n hx hb dX7_takeDraft_203 rfl (lv_at hl 1 rfl) ?_
            refine lv_aload_n hx hb dX7_takeDraft_204 rfl (lv_at hl 0 rfl) ?_
            refine gt_X7_17 hx hb hts hown hK hP dX7_takeDraft_205 ?_
            refine lv_iconst (v := (0 : Int32)) hx hb dX7_takeDraft_208 (by decide) ?_
            obtain ⟨v209, h209, hf⟩ := bnd hf
            refine q_iald hx hb hK hP isC187.o isC187.k h209 dX7_takeDraft_209 ?_
            refine lv_icmp_ge (tgt := 222) hx hb dX7_takeDraft_210 (by decide) (fun hc => ?_) (fun hc => ?_)
            · have hf := ifp hc hf
              refine lv_iconst (v := (0 : Int32)) hx hb dX7_takeDraft_222 (by decide) ?_
              obtain ⟨σ223, h223, hf⟩ := bnd hf
              refine q_iast hx hb hK hP hJ hS isC195.o isC195.k h223 dX7_takeDraft_223 (fun H locs hP hS => ?_)
              refine lv_iinc (v := (x1_144 + (1 : Int32))) (lv' := [(1, .int (x1_144 + (1 : Int32))), (0, .ref (w.1 (184)))]) hx hb dX7_takeDraft_224 hl (k := 1) rfl ii_1 (by decide) rfl (fun ls hl => ?_)
              refine lv_goto (tgt := 144) hx hb dX7_takeDraft_227 (by decide) ?_
              obtain rfl := Option.some.inj hf
              exact hG144 _ rfl _ _ _ hP hS (lv_sub hl [1, 0] rfl)
            · have hf := ifn hc hf
              refine lv_aload_n hx hb dX7_takeDraft_213 rfl (lv_at hl 0 rfl) ?_
              refine gt_X7_35 hx hb hts hown hK hP dX7_takeDraft_214 ?_
              refine lv_iload_n hx hb dX7_takeDraft_217 rfl (lv_at hl 1 rfl) ?_
              obtain ⟨v218, h218, hf⟩ := bnd hf
              refine q_iald hx hb hK hP isC193.o isC193.k h218 dX7_takeDraft_218 ?_
              refine lv_goto (tgt := 223) hx hb dX7_takeDraft_219 (by decide) ?_
              obtain ⟨σ223, h223, hf⟩ := bnd hf
              refine q_iast hx hb hK hP hJ hS isC195.o isC195.k h223 dX7_takeDraft_223 (fun H locs hP hS => ?_)
              refine lv_iinc (v := (x1_144 + (1 : Int32))) (lv' := [(1, .int (x1_144 + (1 : Int32))), (0, .ref (w.1 (184)))]) hx hb dX7_takeDraft_224 hl (k := 1) rfl ii_1 (by decide) rfl (fun ls hl => ?_)
              refine lv_goto (tgt := 144) hx hb dX7_takeDraft_227 (by decide) ?_
              obtain rfl := Option.some.inj hf
              exact hG144 _ rfl _ _ _ hP hS (lv_sub hl [1, 0] rfl)
      refine lp_ind (G := fun (st : (Int32 × Sg)) => ∀ (H : Heap) (locs : List Loc) (ls : Array Slot), va_P D vwCl (WL w st.2) H → va_S (AL w) s.heap H locs → lv_has ls 2 [(0, .ref (w.1 (184))), (1, .int st.1)] → W p l e (rmW 2 51) s m args below meth c H locs 0 0 (MQ below (qvW D w σ') args s 0 0 (AL w)) (F0 m 89 ls [])) (X := fun rr => f_X7_takeDraft_k3 rr = some σ') ?_ _ _ rr hlp hf _ _ _ hP hS (lv_sub hl [1, 0] rfl)
      rintro ⟨x1_89, σ_89⟩ oo89 hb9 hG89 hX89 H locs ls hP hS hl
      have hP : va_P D vwCl (WL w σ_89) H := hP
      have hl : lv_has ls 2 [(0, .ref (w.1 (184))), (1, .int x1_89)] := hl
      have hf : f_X7_takeDraft_b3  x1_89 σ_89 = some oo89 := hb9
      unfold f_X7_takeDraft_b3 at hf
      refine lv_iload_n hx hb dX7_takeDraft_89 rfl (lv_at hl 1 rfl) ?_
      refine lv_iconst (v := (5 : Int32)) hx hb dX7_takeDraft_90 (by decide) ?_
      refine lv_icmp_ge (tgt := 142) hx hb dX7_takeDraft_91 (by decide) (fun hc => ?_) (fun hc => ?_)
      · have hf := ifp hc hf
        obtain rfl := Option.some.inj hf
        exact hE89_142 σ_89 _ _ _ (hX89 _ rfl) hP hS (lv_sub hl [0] rfl)
      · have hf := ifn hc hf
        refine lv_aload_n hx hb dX7_takeDraft_94 rfl (lv_at hl 0 rfl) ?_
        refine gt_X7_26 hx hb hts hown hK hP dX7_takeDraft_95 ?_
        refine lv_iload_n hx hb dX7_takeDraft_98 rfl (lv_at hl 1 rfl) ?_
        refine lv_aload_n hx hb dX7_takeDraft_99 rfl (lv_at hl 0 rfl) ?_
        refine gt_X7_26 hx hb hts hown hK hP dX7_takeDraft_100 ?_
        refine lv_iconst (v := (5 : Int32)) hx hb dX7_takeDraft_103 (by decide) ?_
        refine lv_iload_n hx hb dX7_takeDraft_104 rfl (lv_at hl 1 rfl) ?_
        refine lv_iadd hx hb dX7_takeDraft_105 ?_
        obtain ⟨v106, h106, hf⟩ := bnd hf
        refine q_iald hx hb hK hP isC190.o isC190.k h106 dX7_takeDraft_106 ?_
        obtain ⟨σ107, h107, hf⟩ := bnd hf
        refine q_iast hx hb hK hP hJ hS isC190.o isC190.k h107 dX7_takeDraft_107 (fun H locs hP hS => ?_)
        refine lv_aload_n hx hb dX7_takeDraft_108 rfl (lv_at hl 0 rfl) ?_
        refine gt_X7_41 hx hb hts hown hK hP dX7_takeDraft_109 ?_
        refine lv_iconst (v := (0 : Int32)) hx hb dX7_takeDraft_112 (by decide) ?_
        refine lv_iload_n hx hb dX7_takeDraft_113 rfl (lv_at hl 1 rfl) ?_
        refine lv_iadd hx hb dX7_takeDraft_114 ?_
        refine lv_iload_n hx hb dX7_takeDraft_115 rfl (lv_at hl 1 rfl) ?_
        refine lv_aload_n hx hb dX7_takeDraft_116 rfl (lv_at hl 0 rfl) ?_
        refine gt_X7_20 hx hb hts hown hK hP dX7_takeDraft_117 ?_
        refine lv_iconst (v := (0 : Int32)) hx hb dX7_takeDraft_120 (by decide) ?_
        obtain ⟨v121, h121, hf⟩ := bnd hf
        refine q_iald hx hb hK hP isC188.o isC188.k h121 dX7_takeDraft_121 ?_
        refine lv_icmp_ge (tgt := 134) hx hb dX7_takeDraft_122 (by decide) (fun hc => ?_) (fun hc => ?_)
        · have hf := ifp hc hf
          refine lv_iconst (v := (0 : Int32)) hx hb dX7_takeDraft_134 (by decide) ?_
          obtain ⟨σ135, h135, hf⟩ := bnd hf
          refine q_iast hx hb hK hP hJ hS isC195.o isC195.k h135 dX7_takeDraft_135 (fun H locs hP hS => ?_)
          refine lv_iinc (v := (x1_89 + (1 : Int32))) (lv' := [(1, .int (x1_89 + (1 : Int32))), (0, .ref (w.1 (184)))]) hx hb dX7_takeDraft_136 hl (k := 1) rfl ii_1 (by decide) rfl (fun ls hl => ?_)
          refine lv_goto (tgt := 89) hx hb dX7_takeDraft_139 (by decide) ?_
          obtain rfl := Option.some.inj hf
          exact hG89 _ rfl _ _ _ hP hS (lv_sub hl [1, 0] rfl)
        · have hf := ifn hc hf
          refine lv_aload_n hx hb dX7_takeDraft_125 rfl (lv_at hl 0 rfl) ?_
          refine gt_X7_38 hx hb hts hown hK hP dX7_takeDraft_126 ?_
          refine lv_iload_n hx hb dX7_takeDraft_129 rfl (lv_at hl 1 rfl) ?_
          obtain ⟨v130, h130, hf⟩ := bnd hf
          refine q_iald hx hb hK hP isC194.o isC194.k h130 dX7_takeDraft_130 ?_
          refine lv_goto (tgt := 135) hx hb dX7_takeDraft_131 (by decide) ?_
          obtain ⟨σ135, h135, hf⟩ := bnd hf
          refine q_iast hx hb hK hP hJ hS isC195.o isC195.k h135 dX7_takeDraft_135 (fun H locs hP hS => ?_)
          refine lv_iinc (v := (x1_89 + (1 : Int32))) (lv' := [(1, .int (x1_89 + (1 : Int32))), (0, .ref (w.1 (184)))]) hx hb dX7_takeDraft_136 hl (k := 1) rfl ii_1 (by decide) rfl (fun ls hl => ?_)
          refine lv_goto (tgt := 89) hx hb dX7_takeDraft_139 (by decide) ?_
          obtain rfl := Option.some.inj hf
          exact hG89 _ rfl _ _ _ hP hS (lv_sub hl [1, 0] rfl)
    refine lp_ind (G := fun (st : (Int32 × Sg)) => ∀ (H : Heap) (locs : List Loc) (ls : Array Slot), va_P D vwCl (WL w st.2) H → va_S (AL w) s.heap H locs → lv_has ls 2 [(0, .ref (w.1 (184))), (1, .int st.1)] → W p l e (rmW 2 51) s m args below meth c H locs 0 0 (MQ below (qvW D w σ') args s 0 0 (AL w)) (F0 m 60 ls [])) (X := fun rr => f_X7_takeDraft_k4 rr = some σ') ?_ _ _ rr hlp hf _ _ _ hP hS (lv_sub hl [1, 0] rfl)
    rintro ⟨x1_60, σ_60⟩ oo60 hb9 hG60 hX60 H locs ls hP hS hl
    have hP : va_P D vwCl (WL w σ_60) H := hP
    have hl : lv_has ls 2 [(0, .ref (w.1 (184))), (1, .int x1_60)] := hl
    have hf : f_X7_takeDraft_b2  x1_60 σ_60 = some oo60 := hb9
    unfold f_X7_takeDraft_b2 at hf
    refine lv_iload_n hx hb dX7_takeDraft_60 rfl (lv_at hl 1 rfl) ?_
    refine lv_bipush (v := (64 : Int32)) hx hb dX7_takeDraft_61 (by decide) ?_
    refine lv_icmp_ge (tgt := 87) hx hb dX7_takeDraft_63 (by decide) (fun hc => ?_) (fun hc => ?_)
    · have hf := ifp hc hf
      obtain rfl := Option.some.inj hf
      exact hE60_87 σ_60 _ _ _ (hX60 _ rfl) hP hS (lv_sub hl [0] rfl)
    · have hf := ifn hc hf
      refine lv_aload_n hx hb dX7_takeDraft_66 rfl (lv_at hl 0 rfl) ?_
      refine gt_X7_41 hx hb hts hown hK hP dX7_takeDraft_67 ?_
      refine lv_bipush (v := (7 : Int32)) hx hb dX7_takeDraft_70 (by decide) ?_
      refine lv_iload_n hx hb dX7_takeDraft_72 rfl (lv_at hl 1 rfl) ?_
      refine lv_iadd hx hb dX7_takeDraft_73 ?_
      refine lv_aload_n hx hb dX7_takeDraft_74 rfl (lv_at hl 0 rfl) ?_
      refine gt_X7_29 hx hb hts hown hK hP dX7_takeDraft_75 ?_
      refine lv_iload_n hx hb dX7_takeDraft_78 rfl (lv_at hl 1 rfl) ?_
      obtain ⟨v79, h79, hf⟩ := bnd hf
      refine q_iald hx hb hK hP isC191.o isC191.k h79 dX7_takeDraft_79 ?_
      obtain ⟨σ80, h80, hf⟩ := bnd hf
      refine q_iast hx hb hK hP hJ hS isC195.o isC195.k h80 dX7_takeDraft_80 (fun H locs hP hS => ?_)
      refine lv_iinc (v := (x1_60 + (1 : Int32))) (lv' := [(1, .int (x1_60 + (1 : Int32))), (0, .ref (w.1 (184)))]) hx hb dX7_takeDraft_81 hl (k := 1) rfl ii_1 (by decide) rfl (fun ls hl => ?_)
      refine lv_goto (tgt := 60) hx hb dX7_takeDraft_84 (by decide) ?_
      obtain rfl := Option.some.inj hf
      exact hG60 _ rfl _ _ _ hP hS (lv_sub hl [1, 0] rfl)
  refine lp_ind (G := fun (st : (Int32 × Sg)) => ∀ (H : Heap) (locs : List Loc) (ls : Array Slot), va_P D vwCl (WL w st.2) H → va_S (AL w) s.heap H locs → lv_has ls 2 [(0, .ref (w.1 (184))), (1, .int st.1)] → W p l e (rmW 2 51) s m args below meth c H locs 0 0 (MQ below (qvW D w σ') args s 0 0 (AL w)) (F0 m 38 ls [])) (X := fun rr => f_X7_takeDraft_k5 rr = some σ') ?_ _ _ rr hlp hf _ _ _ hP hS (lv_sub hl [1, 0] rfl)
  rintro ⟨x1_38, σ_38⟩ oo38 hb9 hG38 hX38 H locs ls hP hS hl
  have hP : va_P D vwCl (WL w σ_38) H := hP
  have hl : lv_has ls 2 [(0, .ref (w.1 (184))), (1, .int x1_38)] := hl
  have hf : f_X7_takeDraft_b1  x1_38 σ_38 = some oo38 := hb9
  unfold f_X7_takeDraft_b1 at hf
  refine lv_iload_n hx hb dX7_takeDraft_38 rfl (lv_at hl 1 rfl) ?_
  refine lv_sipush (v := (179 : Int32)) hx hb dX7_takeDraft_39 (by decide) ?_
  refine lv_icmp_ge (tgt := 58) hx hb dX7_takeDraft_42 (by decide) (fun hc => ?_) (fun hc => ?_)
  · have hf := ifp hc hf
    obtain rfl := Option.some.inj hf
    exact hE38_58 σ_38 _ _ _ (hX38 _ rfl) hP hS (lv_sub hl [0] rfl)
  · have hf := ifn hc hf
    refine lv_aload_n hx hb dX7_takeDraft_45 rfl (lv_at hl 0 rfl) ?_
    refine gt_X7_41 hx hb hts hown hK hP dX7_takeDraft_46 ?_
    refine lv_iload_n hx hb dX7_takeDraft_49 rfl (lv_at hl 1 rfl) ?_
    refine lv_iconst (v := (0 : Int32)) hx hb dX7_takeDraft_50 (by decide) ?_
    obtain ⟨σ51, h51, hf⟩ := bnd hf
    refine q_iast hx hb hK hP hJ hS isC195.o isC195.k h51 dX7_takeDraft_51 (fun H locs hP hS => ?_)
    refine lv_iinc (v := (x1_38 + (1 : Int32))) (lv' := [(1, .int (x1_38 + (1 : Int32))), (0, .ref (w.1 (184)))]) hx hb dX7_takeDraft_52 hl (k := 1) rfl ii_1 (by decide) rfl (fun ls hl => ?_)
    refine lv_goto (tgt := 38) hx hb dX7_takeDraft_55 (by decide) ?_
    obtain rfl := Option.some.inj hf
    exact hG38 _ rfl _ _ _ hP hS (lv_sub hl [1, 0] rfl)
def f_X7_in (σ : Sg) (a1 : Int32) (a2 : Int32) (a3 : Int32) : Option Int32 :=
  if a1 < a2 then
  some (0 : Int32)
  else
  if a3 < a1 then
  some (0 : Int32)
  else
  some (1 : Int32)
set_option maxHeartbeats 4000000 in
set_option maxRecDepth 100000 in
theorem c_X7_in (l : Launch) (D : va_G) (w : Wv) (σ : Sg) (a1 : Int32) (a2 : Int32) (a3 : Int32) (r : Int32)  (hf : f_X7_in σ a1 a2 a3 = some r) : Met l yX7_in (.code yX7_in cX7_in 3 (some .boolean) :: TB) (rmW 0 0) (pcW D w [.int a1, .int a2, .int a3] σ) (qzW D w r σ) 0 0 (AL w) := by
  refine q_open (by decide +kernel) (Nat.le_of_ble_eq_true rfl) ?_
  intro p e s m args below meth c ls hx hb hml hr hlk hown hts hK hP hS hl
  have hown : s.vm.findClass RX7 = some m.cls := hown
  have hl : lv_has ls 3 [(0, .int a1), (1, .int a2), (2, .int a3)] := hl
  unfold f_X7_in at hf
  refine lv_iload_n hx hb dX7_in_0 rfl (lv_at hl 0 rfl) ?_
  refine lv_iload_n hx hb dX7_in_1 rfl (lv_at hl 1 rfl) ?_
  refine lv_icmp_lt (tgt := 14) hx hb dX7_in_2 (by decide) (fun hc => ?_) (fun hc => ?_)
  · have hf := ifp hc hf
    refine lv_iconst (v := (0 : Int32)) hx hb dX7_in_14 (by decide) ?_
    have hq := Option.some.inj hf
    exact q_zret hx hb hr hlk hP hS rfl hq rfl dX7_in_15
  · have hf := ifn hc hf
    refine lv_iload_n hx hb dX7_in_5 rfl (lv_at hl 0 rfl) ?_
    refine lv_iload_n hx hb dX7_in_6 rfl (lv_at hl 2 rfl) ?_
    refine lv_icmp_gt (tgt := 14) hx hb dX7_in_7 (by decide) (fun hc => ?_) (fun hc => ?_)
    · have hf := ifp hc hf
      refine lv_iconst (v := (0 : Int32)) hx hb dX7_in_14 (by decide) ?_
      have hq := Option.some.inj hf
      exact q_zret hx hb hr hlk hP hS rfl hq rfl dX7_in_15
    · have hf := ifn hc hf
      refine lv_iconst (v := (1 : Int32)) hx hb dX7_in_10 (by decide) ?_
      refine lv_goto (tgt := 15) hx hb dX7_in_11 (by decide) ?_
      have hq := Option.some.inj hf
      exact q_zret hx hb hr hlk hP hS rfl hq rfl dX7_in_15
def f_X7_has (σ : Sg) (a1 : Int32) (a2 : Int32) : Option Int32 :=
  if ¬ ((a1 >>> (a2 &&& 31)) &&& (1 : Int32)) = (1 : Int32) then
  some (0 : Int32)
  else
  some (1 : Int32)
set_option maxHeartbeats 4000000 in
set_option maxRecDepth 100000 in
theorem c_X7_has (l : Launch) (D : va_G) (w : Wv) (σ : Sg) (a1 : Int32) (a2 : Int32) (r : Int32)  (hf : f_X7_has σ a1 a2 = some r) : Met l yX7_has (.code yX7_has cX7_has 2 (some .boolean) :: TB) (rmW 0 0) (pcW D w [.int a1, .int a2] σ) (qzW D w r σ) 0 0 (AL w) := by
  refine q_open (by decide +kernel) (Nat.le_of_ble_eq_true rfl) ?_
  intro p e s m args below meth c ls hx hb hml hr hlk hown hts hK hP hS hl
  have hown : s.vm.findClass RX7 = some m.cls := hown
  have hl : lv_has ls 2 [(0, .int a1), (1, .int a2)] := hl
  unfold f_X7_has at hf
  refine lv_iload_n hx hb dX7_has_0 rfl (lv_at hl 0 rfl) ?_
  refine lv_iload_n hx hb dX7_has_1 rfl (lv_at hl 1 rfl) ?_
  refine lv_ishr hx hb dX7_has_2 ?_
  refine lv_iconst (v := (1 : Int32)) hx hb dX7_has_3 (by decide) ?_
  refine lv_iand hx hb dX7_has_4 ?_
  refine lv_iconst (v := (1 : Int32)) hx hb dX7_has_5 (by decide) ?_
  refine lv_icmp_ne (tgt := 13) hx hb dX7_has_6 (by decide) (fun hc => ?_) (fun hc => ?_)
  · have hf := ifp hc hf
    refine lv_iconst (v := (0 : Int32)) hx hb dX7_has_13 (by decide) ?_
    have hq := Option.some.inj hf
    exact q_zret hx hb hr hlk hP hS rfl hq rfl dX7_has_14
  · have hf := ifn (fun h => h hc) hf
    refine lv_iconst (v := (1 : Int32)) hx hb dX7_has_9 (by decide) ?_
    refine lv_goto (tgt := 14) hx hb dX7_has_10 (by decide) ?_
    have hq := Option.some.inj hf
    exact q_zret hx hb hr hlk hP hS rfl hq rfl dX7_has_14
def f_X7_bitsOf_b1 (a1 : Int32) (x1_4 : Int32) (x2_4 : Int32) : Option ((Int32 × Int32) ⊕ Int32) :=
  if (8 : Int32) ≤ x2_4 then
  some (.inr x1_4)
  else
  some (.inl ((x1_4 + ((a1 >>> (x2_4 &&& 31)) &&& (1 : Int32))), (x2_4 + (1 : Int32))))
def f_X7_bitsOf_k1 (y1_24 : Int32) : Option Int32 :=
  some y1_24
def f_X7_bitsOf (σ : Sg) (a1 : Int32) : Option Int32 :=
  (lp (fun st => f_X7_bitsOf_b1 a1 st.1 st.2) FU ((0 : Int32), (0 : Int32))).bind fun rr => f_X7_bitsOf_k1 rr
set_option maxHeartbeats 4000000 in
set_option maxRecDepth 100000 in
theorem c_X7_bitsOf (l : Launch) (D : va_G) (w : Wv) (σ : Sg) (a1 : Int32) (r : Int32)  (hf : f_X7_bitsOf σ a1 = some r) : Met l yX7_bitsOf (.code yX7_bitsOf cX7_bitsOf 3 (some .int) :: TB) (rmW 0 0) (pcW D w [.int a1] σ) (qiW D w r σ) 0 0 (AL w) := by
  refine q_open (by decide +kernel) (Nat.le_of_ble_eq_true rfl) ?_
  intro p e s m args below meth c ls hx hb hml hr hlk hown hts hK hP hS hl
  have hown : s.vm.findClass RX7 = some m.cls := hown
  have hl : lv_has ls 3 [(0, .int a1)] := hl
  unfold f_X7_bitsOf at hf
  refine lv_iconst (v := (0 : Int32)) hx hb dX7_bitsOf_0 (by decide) ?_
  refine lv_istore_n (lv' := [(1, .int (0 : Int32)), (0, .int a1)]) hx hb dX7_bitsOf_1 rfl hl (by decide) rfl (fun ls hl => ?_)
  refine lv_iconst (v := (0 : Int32)) hx hb dX7_bitsOf_2 (by decide) ?_
  refine lv_istore_n (lv' := [(2, .int (0 : Int32)), (1, .int (0 : Int32)), (0, .int a1)]) hx hb dX7_bitsOf_3 rfl hl (by decide) rfl (fun ls hl => ?_)
  obtain ⟨rr, hlp, hf⟩ := bnd hf
  have hE4_24 : ∀ (y1_24 : Int32) (H : Heap) (locs : List Loc) (ls : Array Slot), f_X7_bitsOf_k1 y1_24 = some r → va_P D vwCl (WL w σ) H → va_S (AL w) s.heap H locs → lv_has ls 3 [(1, .int y1_24)] → W p l e (rmW 0 0) s m args below meth c H locs 0 0 (MQ below (qiW D w r σ) args s 0 0 (AL w)) (F0 m 24 ls []) := by
    intro y1_24 H locs ls hf hP hS hl
    unfold f_X7_bitsOf_k1 at hf
    refine lv_iload_n hx hb dX7_bitsOf_24 rfl (lv_at hl 0 rfl) ?_
    have hq := Option.some.inj hf
    exact q_iret hx hb hr hlk hP hS hq rfl dX7_bitsOf_25
  refine lp_ind (G := fun (st : (Int32 × Int32)) => ∀ (H : Heap) (locs : List Loc) (ls : Array Slot), va_P D vwCl (WL w σ) H → va_S (AL w) s.heap H locs → lv_has ls 3 [(0, .int a1), (1, .int st.1), (2, .int st.2)] → W p l e (rmW 0 0) s m args below meth c H locs 0 0 (MQ below (qiW D w r σ) args s 0 0 (AL w)) (F0 m 4 ls [])) (X := fun rr => f_X7_bitsOf_k1 rr = some r) ?_ _ _ rr hlp hf _ _ _ hP hS (lv_sub hl [2, 1, 0] rfl)
  rintro ⟨x1_4, x2_4⟩ oo4 hb9 hG4 hX4 H locs ls hP hS hl
  have hP : va_P D vwCl (WL w σ) H := hP
  have hl : lv_has ls 3 [(0, .int a1), (1, .int x1_4), (2, .int x2_4)] := hl
  have hf : f_X7_bitsOf_b1 a1 x1_4 x2_4 = some oo4 := hb9
  unfold f_X7_bitsOf_b1 at hf
  refine lv_iload_n hx hb dX7_bitsOf_4 rfl (lv_at hl 2 rfl) ?_
  refine lv_bipush (v := (8 : Int32)) hx hb dX7_bitsOf_5 (by decide) ?_
  refine lv_icmp_ge (tgt := 24) hx hb dX7_bitsOf_7 (by decide) (fun hc => ?_) (fun hc => ?_)
  · have hf := ifp hc hf
    obtain rfl := Option.some.inj hf
    exact hE4_24 x1_4 _ _ _ (hX4 _ rfl) hP hS (lv_sub hl [1] rfl)
  · have hf := ifn hc hf
    refine lv_iload_n hx hb dX7_bitsOf_10 rfl (lv_at hl 1 rfl) ?_
    refine lv_iload_n hx hb dX7_bitsOf_11 rfl (lv_at hl 0 rfl) ?_
    refine lv_iload_n hx hb dX7_bitsOf_12 rfl (lv_at hl 2 rfl) ?_
    refine lv_ishr hx hb dX7_bitsOf_13 ?_
    refine lv_iconst (v := (1 : Int32)) hx hb dX7_bitsOf_14 (by decide) ?_
    refine lv_iand hx hb dX7_bitsOf_15 ?_
    refine lv_iadd hx hb dX7_bitsOf_16 ?_
    refine lv_istore_n (lv' := [(1, .int (x1_4 + ((a1 >>> (x2_4 &&& 31)) &&& (1 : Int32)))), (0, .int a1), (2, .int x2_4)]) hx hb dX7_bitsOf_17 rfl hl (by decide) rfl (fun ls hl => ?_)
    refine lv_iinc (v := (x2_4 + (1 : Int32))) (lv' := [(2, .int (x2_4 + (1 : Int32))), (1, .int (x1_4 + ((a1 >>> (x2_4 &&& 31)) &&& (1 : Int32)))), (0, .int a1)]) hx hb dX7_bitsOf_18 hl (k := 2) rfl ii_1 (by decide) rfl (fun ls hl => ?_)
    refine lv_goto (tgt := 4) hx hb dX7_bitsOf_21 (by decide) ?_
    obtain rfl := Option.some.inj hf
    exact hG4 _ rfl _ _ _ hP hS (lv_sub hl [2, 1, 0] rfl)
def f_X7_write (σ : Sg) (a1 : Int32) : Option (Int32 × Sg) :=
  (f_X7_in σ a1 (32 : Int32) (126 : Int32)).bind fun v5 =>
  if ¬ v5 = 0 then
  if ¬ (σ 184 1) = (200 : Int32) then
  (sa σ (185) (ln (185)) (σ 184 1) (vp_nar .byte (a1).toInt8.toInt32)).bind fun σ36 =>
  (some (sf σ36 (184) 1 ((σ36 184 1) + (1 : Int32)))).bind fun σ44 =>
  some ((σ44 184 1), σ44)
  else
  some ((-3 : Int32), σ)
  else
  some ((-1 : Int32), σ)
set_option maxHeartbeats 4000000 in
set_option maxRecDepth 100000 in
theorem c_X7_write (l : Launch) (D : va_G) (w : Wv) (σ : Sg) (a1 : Int32) (r : Int32) (σ' : Sg)  (hJ : Inj w) (hf : f_X7_write σ a1 = some (r, σ')) : Met l yX7_write (.code yX7_write cX7_write 2 (some .int) :: TB) (rmW 1 22) (pcW D w [.ref (w.1 (184)), .int a1] σ) (qiW D w r σ') 0 0 (AL w) := by
  refine q_open (by decide +kernel) (Nat.le_of_ble_eq_true rfl) ?_
  intro p e s m args below meth c ls hx hb hml hr hlk hown hts hK hP hS hl
  have hown : s.vm.findClass RX7 = some m.cls := hown
  have hl : lv_has ls 2 [(0, .ref (w.1 (184))), (1, .int a1)] := hl
  unfold f_X7_write at hf
  refine lv_iload_n hx hb dX7_write_0 rfl (lv_at hl 1 rfl) ?_
  refine lv_bipush (v := (32 : Int32)) hx hb dX7_write_1 (by decide) ?_
  refine lv_bipush (v := (126 : Int32)) hx hb dX7_write_3 (by decide) ?_
  obtain ⟨v5, h5, hf⟩ := bnd hf
  refine q_cSz (As := [.int a1, .int (32 : Int32), .int (126 : Int32)]) hx hb hts hml hown hK hP hS (c_X7_in l D w σ a1 (32 : Int32) (126 : Int32) v5 h5) hw_X7_83 hd_X7_in ⟨rfl, rfl, rfl⟩ ⟨Nat.le_of_ble_eq_true rfl, Nat.le_of_ble_eq_true rfl⟩ ⟨Nat.le_of_ble_eq_true rfl, Nat.le_of_ble_eq_true rfl⟩ hl.1 rfl (Nat.le_of_ble_eq_true rfl) dX7_write_5 (fun hz5 H locs hP hS => ?_)
  refine lv_if_ne (tgt := 13) hx hb dX7_write_8 (by decide) (fun hc => ?_) (fun hc => ?_)
  · have hf := ifp hc hf
    refine lv_aload_n hx hb dX7_write_13 rfl (lv_at hl 0 rfl) ?_
    refine gt_X7_87 hx hb hts hown hK hP dX7_write_14 ?_
    refine lv_sipush (v := (200 : Int32)) hx hb dX7_write_17 (by decide) ?_
    refine lv_icmp_ne (tgt := 26) hx hb dX7_write_20 (by decide) (fun hc => ?_) (fun hc => ?_)
    · have hf := ifp hc hf
      refine lv_aload_n hx hb dX7_write_26 rfl (lv_at hl 0 rfl) ?_
      refine gt_X7_7 hx hb hts hown hK hP dX7_write_27 ?_
      refine lv_aload_n hx hb dX7_write_30 rfl (lv_at hl 0 rfl) ?_
      refine gt_X7_87 hx hb hts hown hK hP dX7_write_31 ?_
      refine lv_iload_n hx hb dX7_write_34 rfl (lv_at hl 1 rfl) ?_
      refine lv_i2b hx hb dX7_write_35 rfl ?_
      obtain ⟨σ36, h36, hf⟩ := bnd hf
      refine q_bast hx hb hK hP hJ hS o185 kd185 h36 dX7_write_36 (fun H locs hP hS => ?_)
      refine lv_aload_n hx hb dX7_write_37 rfl (lv_at hl 0 rfl) ?_
      refine lv_dup hx hb dX7_write_38 rfl ?_
      refine gt_X7_87 hx hb hts hown hK hP dX7_write_39 ?_
      refine lv_iconst (v := (1 : Int32)) hx hb dX7_write_42 (by decide) ?_
      refine lv_iadd hx hb dX7_write_43 ?_
      obtain ⟨σ44, h44, hf⟩ := bnd hf
      refine pt_X7_87 hx hb hts hown hK hP hJ hS h44 dX7_write_44 (fun H locs hP hS => ?_)
      refine lv_aload_n hx hb dX7_write_47 rfl (lv_at hl 0 rfl) ?_
      refine gt_X7_87 hx hb hts hown hK hP dX7_write_48 ?_
      have hq := Option.some.inj hf
      exact q_iret hx hb hr hlk hP hS (congrArg Prod.fst hq) (congrArg Prod.snd hq) dX7_write_51
    · have hf := ifn (fun h => h hc) hf
      refine lv_bipush (v := (-3 : Int32)) hx hb dX7_write_23 (by decide) ?_
      have hq := Option.some.inj hf
      exact q_iret hx hb hr hlk hP hS (congrArg Prod.fst hq) (congrArg Prod.snd hq) dX7_write_25
  · have hf := ifn (fun h => h hc) hf
    refine lv_iconst (v := (-1 : Int32)) hx hb dX7_write_11 (by decide) ?_
    have hq := Option.some.inj hf
    exact q_iret hx hb hr hlk hP hS (congrArg Prod.fst hq) (congrArg Prod.snd hq) dX7_write_12
def f_X7_wipe (σ : Sg)  : Option (Int32 × Sg) :=
  (some (sf σ (184) 1 (0 : Int32))).bind fun σ7 =>
  some ((σ 184 1), σ7)
set_option maxHeartbeats 4000000 in
set_option maxRecDepth 100000 in
theorem c_X7_wipe (l : Launch) (D : va_G) (w : Wv) (σ : Sg)  (r : Int32) (σ' : Sg)  (hJ : Inj w) (hf : f_X7_wipe σ = some (r, σ')) : Met l yX7_wipe (.code yX7_wipe cX7_wipe 2 (some .int) :: TB) (rmW 0 0) (pcW D w [.ref (w.1 (184))] σ) (qiW D w r σ') 0 0 (AL w) := by
  refine q_open (by decide +kernel) (Nat.le_of_ble_eq_true rfl) ?_
  intro p e s m args below meth c ls hx hb hml hr hlk hown hts hK hP hS hl
  have hown : s.vm.findClass RX7 = some m.cls := hown
  have hl : lv_has ls 2 [(0, .ref (w.1 (184)))] := hl
  unfold f_X7_wipe at hf
  refine lv_aload_n hx hb dX7_wipe_0 rfl (lv_at hl 0 rfl) ?_
  refine gt_X7_87 hx hb hts hown hK hP dX7_wipe_1 ?_
  refine lv_istore_n (lv' := [(1, .int (σ 184 1)), (0, .ref (w.1 (184)))]) hx hb dX7_wipe_4 rfl hl (by decide) rfl (fun ls hl => ?_)
  refine lv_aload_n hx hb dX7_wipe_5 rfl (lv_at hl 1 rfl) ?_
  refine lv_iconst (v := (0 : Int32)) hx hb dX7_wipe_6 (by decide) ?_
  obtain ⟨σ7, h7, hf⟩ := bnd hf
  refine pt_X7_87 hx hb hts hown hK hP hJ hS h7 dX7_wipe_7 (fun H locs hP hS => ?_)
  refine lv_iload_n hx hb dX7_wipe_10 rfl (lv_at hl 0 rfl) ?_
  have hq := Option.some.inj hf
  exact q_iret hx hb hr hlk hP hS (congrArg Prod.fst hq) (congrArg Prod.snd hq) dX7_wipe_11
def f_X7_here (σ : Sg)  : Option Int32 :=
  if (σ 184 1) ≤ (σ 184 11) then
  some (-4 : Int32)
  else
  (ga (σ (185)) (ln (185)) (σ 184 11)).bind fun v19 =>
  some v19
set_option maxHeartbeats 4000000 in
set_option maxRecDepth 100000 in
theorem c_X7_here (l : Launch) (D : va_G) (w : Wv) (σ : Sg)  (r : Int32)  (hf : f_X7_here σ = some r) : Met l yX7_here (.code yX7_here cX7_here 1 (some .int) :: TB) (rmW 0 0) (pcW D w [.ref (w.1 (184))] σ) (qiW D w r σ) 0 0 (AL w) := by
  refine q_open (by decide +kernel) (Nat.le_of_ble_eq_true rfl) ?_
  intro p e s m args below meth c ls hx hb hml hr hlk hown hts hK hP hS hl
  have hown : s.vm.findClass RX7 = some m.cls := hown
  have hl : lv_has ls 1 [(0, .ref (w.1 (184)))] := hl
  unfold f_X7_here at hf
  refine lv_aload_n hx hb dX7_here_0 rfl (lv_at hl 0 rfl) ?_
  refine gt_X7_91 hx hb hts hown hK hP dX7_here_1 ?_
  refine lv_aload_n hx hb dX7_here_4 rfl (lv_at hl 0 rfl) ?_
  refine gt_X7_87 hx hb hts hown hK hP dX7_here_5 ?_
  refine lv_icmp_ge (tgt := 23) hx hb dX7_here_8 (by decide) (fun hc => ?_) (fun hc => ?_)
  · have hf := ifp hc hf
    refine lv_bipush (v := (-4 : Int32)) hx hb dX7_here_23 (by decide) ?_
    have hq := Option.some.inj hf
    exact q_iret hx hb hr hlk hP hS hq rfl dX7_here_25
  · have hf := ifn hc hf
    refine lv_aload_n hx hb dX7_here_11 rfl (lv_at hl 0 rfl) ?_
    refine gt_X7_7 hx hb hts hown hK hP dX7_here_12 ?_
    refine lv_aload_n hx hb dX7_here_15 rfl (lv_at hl 0 rfl) ?_
    refine gt_X7_91 hx hb hts hown hK hP dX7_here_16 ?_
    obtain ⟨v19, h19, hf⟩ := bnd hf
    refine q_bald hx hb hK hP o185 kd185 h19 dX7_here_19 ?_
    refine lv_goto (tgt := 25) hx hb dX7_here_20 (by decide) ?_
    have hq := Option.some.inj hf
    exact q_iret hx hb hr hlk hP hS hq rfl dX7_here_25
def f_X7_isFigure (σ : Sg)  : Option Int32 :=
  (f_X7_here σ).bind fun v1 =>
  (f_X7_in σ v1 (48 : Int32) (57 : Int32)).bind fun v8 =>
  some v8
set_option maxHeartbeats 4000000 in
set_option maxRecDepth 100000 in
theorem c_X7_isFigure (l : Launch) (D : va_G) (w : Wv) (σ : Sg)  (r : Int32)  (hf : f_X7_isFigure σ = some r) : Met l yX7_isFigure (.code yX7_isFigure cX7_isFigure 1 (some .boolean) :: TB) (rmW 1 22) (pcW D w [.ref (w.1 (184))] σ) (qzW D w r σ) 0 0 (AL w) := by
  refine q_open (by decide +kernel) (Nat.le_of_ble_eq_true rfl) ?_
  intro p e s m args below meth c ls hx hb hml hr hlk hown hts hK hP hS hl
  have hown : s.vm.findClass RX7 = some m.cls := hown
  have hl : lv_has ls 1 [(0, .ref (w.1 (184)))] := hl
  unfold f_X7_isFigure at hf
  refine lv_aload_n hx hb dX7_isFigure_0 rfl (lv_at hl 0 rfl) ?_
  obtain ⟨v1, h1, hf⟩ := bnd hf
  refine q_cVi (As := []) hx hb hts hml hown hK hP hS (c_X7_here l D w σ v1 h1) hw_X7_94 hd_X7_here ⟨rfl, rfl, rfl⟩ o184 (ce7 kd184) rfl ⟨Nat.le_of_ble_eq_true rfl, Nat.le_of_ble_eq_true rfl⟩ ⟨Nat.le_of_ble_eq_true rfl, Nat.le_of_ble_eq_true rfl⟩ hl.1 rfl (Nat.le_of_ble_eq_true rfl) dX7_isFigure_1 (fun H locs hP hS => ?_)
  refine lv_bipush (v := (48 : Int32)) hx hb dX7_isFigure_4 (by decide) ?_
  refine lv_bipush (v := (57 : Int32)) hx hb dX7_isFigure_6 (by decide) ?_
  obtain ⟨v8, h8, hf⟩ := bnd hf
  refine q_cSz (As := [.int v1, .int (48 : Int32), .int (57 : Int32)]) hx hb hts hml hown hK hP hS (c_X7_in l D w σ v1 (48 : Int32) (57 : Int32) v8 h8) hw_X7_83 hd_X7_in ⟨rfl, rfl, rfl⟩ ⟨Nat.le_of_ble_eq_true rfl, Nat.le_of_ble_eq_true rfl⟩ ⟨Nat.le_of_ble_eq_true rfl, Nat.le_of_ble_eq_true rfl⟩ hl.1 rfl (Nat.le_of_ble_eq_true rfl) dX7_isFigure_8 (fun hz8 H locs hP hS => ?_)
  have hq := Option.some.inj hf
  exact q_zret hx hb hr hlk hP hS hz8 hq rfl dX7_isFigure_11
def f_X7_due (σ : Sg) (a1 : Int32) : Option Sg :=
  if ¬ (σ 184 12) = 0 then
  (some (sf σ (184) 12 (1 : Int32))).bind fun σ21 =>
  (some (sf σ21 (184) 11 ((σ21 184 11) + (1 : Int32)))).bind fun σ31 =>
  some σ31
  else
  (f_X7_here σ).bind fun v9 =>
  if v9 = a1 then
  (some (sf σ (184) 12 (0 : Int32))).bind fun σ21 =>
  (some (sf σ21 (184) 11 ((σ21 184 11) + (1 : Int32)))).bind fun σ31 =>
  some σ31
  else
  (some (sf σ (184) 12 (1 : Int32))).bind fun σ21 =>
  (some (sf σ21 (184) 11 ((σ21 184 11) + (1 : Int32)))).bind fun σ31 =>
  some σ31
set_option maxHeartbeats 4000000 in
set_option maxRecDepth 100000 in
theorem c_X7_due (l : Launch) (D : va_G) (w : Wv) (σ : Sg) (a1 : Int32) (σ' : Sg)  (hJ : Inj w) (hf : f_X7_due σ a1 = some σ') : Met l yX7_due (.code yX7_due cX7_due 2 none :: TB) (rmW 1 20) (pcW D w [.ref (w.1 (184)), .int a1] σ) (qvW D w σ') 0 0 (AL w) := by
  refine q_open (by decide +kernel) (Nat.le_of_ble_eq_true rfl) ?_
  intro p e s m args below meth c ls hx hb hml hr hlk hown hts hK hP hS hl
  have hown : s.vm.findClass RX7 = some m.cls := hown
  have hl : lv_has ls 2 [(0, .ref (w.1 (184))), (1, .int a1)] := hl
  unfold f_X7_due at hf
  refine lv_aload_n hx hb dX7_due_0 rfl (lv_at hl 0 rfl) ?_
  refine lv_aload_n hx hb dX7_due_1 rfl (lv_at hl 0 rfl) ?_
  refine gt_X7_98 hx hb hts hown hK hP dX7_due_2 ?_
  refine lv_if_ne (tgt := 16) hx hb dX7_due_5 (by decide) (fun hc => ?_) (fun hc => ?_)
  · have hf := ifp hc hf
    refine lv_iconst (v := (1 : Int32)) hx hb dX7_due_16 (by decide) ?_
    refine lv_goto (tgt := 21) hx hb dX7_due_17 (by decide) ?_
    obtain ⟨σ21, h21, hf⟩ := bnd hf
    refine pt_X7_98 hx hb hts hown hK hP hJ hS ⟨rfl, rfl⟩ h21 dX7_due_21 (fun H locs hP hS => ?_)
    refine lv_aload_n hx hb dX7_due_24 rfl (lv_at hl 0 rfl) ?_
    refine lv_dup hx hb dX7_due_25 rfl ?_
    refine gt_X7_91 hx hb hts hown hK hP dX7_due_26 ?_
    refine lv_iconst (v := (1 : Int32)) hx hb dX7_due_29 (by decide) ?_
    refine lv_iadd hx hb dX7_due_30 ?_
    obtain ⟨σ31, h31, hf⟩ := bnd hf
    refine pt_X7_91 hx hb hts hown hK hP hJ hS h31 dX7_due_31 (fun H locs hP hS => ?_)
    have hq := Option.some.inj hf
    exact q_vret hx hb hr hlk hP hS hq dX7_due_34
  · have hf := ifn (fun h => h hc) hf
    refine lv_aload_n hx hb dX7_due_8 rfl (lv_at hl 0 rfl) ?_
    obtain ⟨v9, h9, hf⟩ := bnd hf
    refine q_cVi (As := []) hx hb hts hml hown hK hP hS (c_X7_here l D w σ v9 h9) hw_X7_94 hd_X7_here ⟨rfl, rfl, rfl⟩ o184 (ce7 kd184) rfl ⟨Nat.le_of_ble_eq_true rfl, Nat.le_of_ble_eq_true rfl⟩ ⟨Nat.le_of_ble_eq_true rfl, Nat.le_of_ble_eq_true rfl⟩ hl.1 rfl (Nat.le_of_ble_eq_true rfl) dX7_due_9 (fun H locs hP hS => ?_)
    refine lv_iload_n hx hb dX7_due_12 rfl (lv_at hl 1 rfl) ?_
    refine lv_icmp_eq (tgt := 20) hx hb dX7_due_13 (by decide) (fun hc => ?_) (fun hc => ?_)
    · have hf := ifp hc hf
      refine lv_iconst (v := (0 : Int32)) hx hb dX7_due_20 (by decide) ?_
      obtain ⟨σ21, h21, hf⟩ := bnd hf
      refine pt_X7_98 hx hb hts hown hK hP hJ hS ⟨rfl, rfl⟩ h21 dX7_due_21 (fun H locs hP hS => ?_)
      refine lv_aload_n hx hb dX7_due_24 rfl (lv_at hl 0 rfl) ?_
      refine lv_dup hx hb dX7_due_25 rfl ?_
      refine gt_X7_91 hx hb hts hown hK hP dX7_due_26 ?_
      refine lv_iconst (v := (1 : Int32)) hx hb dX7_due_29 (by decide) ?_
      refine lv_iadd hx hb dX7_due_30 ?_
      obtain ⟨σ31, h31, hf⟩ := bnd hf
      refine pt_X7_91 hx hb hts hown hK hP hJ hS h31 dX7_due_31 (fun H locs hP hS => ?_)
      have hq := Option.some.inj hf
      exact q_vret hx hb hr hlk hP hS hq dX7_due_34
    · have hf := ifn hc hf
      refine lv_iconst (v := (1 : Int32)) hx hb dX7_due_16 (by decide) ?_
      refine lv_goto (tgt := 21) hx hb dX7_due_17 (by decide) ?_
      obtain ⟨σ21, h21, hf⟩ := bnd hf
      refine pt_X7_98 hx hb hts hown hK hP hJ hS ⟨rfl, rfl⟩ h21 dX7_due_21 (fun H locs hP hS => ?_)
      refine lv_aload_n hx hb dX7_due_24 rfl (lv_at hl 0 rfl) ?_
      refine lv_dup hx hb dX7_due_25 rfl ?_
      refine gt_X7_91 hx hb hts hown hK hP dX7_due_26 ?_
      refine lv_iconst (v := (1 : Int32)) hx hb dX7_due_29 (by decide) ?_
      refine lv_iadd hx hb dX7_due_30 ?_
      obtain ⟨σ31, h31, hf⟩ := bnd hf
      refine pt_X7_91 hx hb hts hown hK hP hJ hS h31 dX7_due_31 (fun H locs hP hS => ?_)
      have hq := Option.some.inj hf
      exact q_vret hx hb hr hlk hP hS hq dX7_due_34
def f_X7_number_b1 (x3_6 : Int32) (x4_6 : Int32) (σ_6 : Sg) : Option ((Int32 × Int32 × Sg) ⊕ (Int32 × Sg)) :=
  if (2 : Int32) ≤ x4_6 then
  some (.inr (x3_6, σ_6))
  else
  (f_X7_isFigure σ_6).bind fun v13 =>
  if v13 = 0 then
  some (.inr (x3_6, σ_6))
  else
  if ¬ x3_6 = (-4 : Int32) then
  (f_X7_here σ_6).bind fun v34 =>
  (some (sf σ_6 (184) 11 ((σ_6 184 11) + (1 : Int32)))).bind fun σ49 =>
  some (.inl (((((10 : Int32) * x3_6) + v34) - (48 : Int32)), (x4_6 + (1 : Int32)), σ49))
  else
  (f_X7_here σ_6).bind fun v34 =>
  (some (sf σ_6 (184) 11 ((σ_6 184 11) + (1 : Int32)))).bind fun σ49 =>
  some (.inl ((((0 : Int32) + v34) - (48 : Int32)), (x4_6 + (1 : Int32)), σ49))
def f_X7_number_k1 (a1 : Int32) (a2 : Int32) (y3_58 : Int32) (σ_58 : Sg) : Option (Int32 × Sg) :=
  (f_X7_in σ_58 y3_58 a1 a2).bind fun v61 =>
  if ¬ (σ_58 184 12) = 0 then
  (some (sf σ_58 (184) 12 (1 : Int32))).bind fun σ84 =>
  if v61 = 0 then
  some ((0 : Int32), σ84)
  else
  some (y3_58, σ84)
  else
  if ¬ v61 = 0 then
  (some (sf σ_58 (184) 12 (0 : Int32))).bind fun σ84 =>
  if v61 = 0 then
  some ((0 : Int32), σ84)
  else
  some (y3_58, σ84)
  else
  (some (sf σ_58 (184) 12 (1 : Int32))).bind fun σ84 =>
  if v61 = 0 then
  some ((0 : Int32), σ84)
  else
  some (y3_58, σ84)
def f_X7_number (σ : Sg) (a1 : Int32) (a2 : Int32) : Option (Int32 × Sg) :=
  (lp (fun st => f_X7_number_b1  st.1 st.2.1 st.2.2) FU ((-4 : Int32), (0 : Int32), σ)).bind fun rr => f_X7_number_k1 a1 a2 rr.1 rr.2
set_option maxHeartbeats 4000000 in
set_option maxRecDepth 100000 in
theorem c_X7_number (l : Launch) (D : va_G) (w : Wv) (σ : Sg) (a1 : Int32) (a2 : Int32) (r : Int32) (σ' : Sg)  (hJ : Inj w) (hf : f_X7_number σ a1 a2 = some (r, σ')) : Met l yX7_number (.code yX7_number cX7_number 5 (some .int) :: TB) (rmW 2 42) (pcW D w [.ref (w.1 (184)), .int a1, .int a2] σ) (qiW D w r σ') 0 0 (AL w) := by
  refine q_open (by decide +kernel) (Nat.le_of_ble_eq_true rfl) ?_
  intro p e s m args below meth c ls hx hb hml hr hlk hown hts hK hP hS hl
  have hown : s.vm.findClass RX7 = some m.cls := hown
  have hl : lv_has ls 5 [(0, .ref (w.1 (184))), (1, .int a1), (2, .int a2)] := hl
  unfold f_X7_number at hf
  refine lv_bipush (v := (-4 : Int32)) hx hb dX7_number_0 (by decide) ?_
  refine lv_istore_n (lv' := [(3, .int (-4 : Int32)), (0, .ref (w.1 (184))), (1, .int a1), (2, .int a2)]) hx hb dX7_number_2 rfl hl (by decide) rfl (fun ls hl => ?_)
  refine lv_iconst (v := (0 : Int32)) hx hb dX7_number_3 (by decide) ?_
  refine lv_istore (lv' := [(4, .int (0 : Int32)), (3, .int (-4 : Int32)), (0, .ref (w.1 (184))), (1, .int a1), (2, .int a2)]) hx hb dX7_number_4 hl (by decide) rfl (fun ls hl => ?_)
  obtain ⟨rr, hlp, hf⟩ := bnd hf
  have hE6_58 : ∀ (y3_58 : Int32) (σ_58 : Sg) (H : Heap) (locs : List Loc) (ls : Array Slot), f_X7_number_k1 a1 a2 y3_58 σ_58 = some (r, σ') → va_P D vwCl (WL w σ_58) H → va_S (AL w) s.heap H locs → lv_has ls 5 [(0, .ref (w.1 (184))), (1, .int a1), (2, .int a2), (3, .int y3_58)] → W p l e (rmW 2 42) s m args below meth c H locs 0 0 (MQ below (qiW D w r σ') args s 0 0 (AL w)) (F0 m 58 ls []) := by
    intro y3_58 σ_58 H locs ls hf hP hS hl
    unfold f_X7_number_k1 at hf
    refine lv_iload_n hx hb dX7_number_58 rfl (lv_at hl 3 rfl) ?_
    refine lv_iload_n hx hb dX7_number_59 rfl (lv_at hl 1 rfl) ?_
    refine lv_iload_n hx hb dX7_number_60 rfl (lv_at hl 2 rfl) ?_
    obtain ⟨v61, h61, hf⟩ := bnd hf
    refine q_cSz (As := [.int y3_58, .int a1, .int a2]) hx hb hts hml hown hK hP hS (c_X7_in l D w σ_58 y3_58 a1 a2 v61 h61) hw_X7_83 hd_X7_in ⟨rfl, rfl, rfl⟩ ⟨Nat.le_of_ble_eq_true rfl, Nat.le_of_ble_eq_true rfl⟩ ⟨Nat.le_of_ble_eq_true rfl, Nat.le_of_ble_eq_true rfl⟩ hl.1 rfl (Nat.le_of_ble_eq_true rfl) dX7_number_61 (fun hz61 H locs hP hS => ?_)
    refine lv_istore (lv' := [(4, .int v61), (0, .ref (w.1 (184))), (1, .int a1), (2, .int a2), (3, .int y3_58)]) hx hb dX7_number_64 hl (by decide) rfl (fun ls hl => ?_)
    refine lv_aload_n hx hb dX7_number_66 rfl (lv_at hl 1 rfl) ?_
    refine lv_aload_n hx hb dX7_number_67 rfl (lv_at hl 1 rfl) ?_
    refine gt_X7_98 hx hb hts hown hK hP dX7_number_68 ?_
    refine lv_if_ne (tgt := 79) hx hb dX7_number_71 (by decide) (fun hc => ?_) (fun hc => ?_)
    · have hf := ifp hc hf
      refine lv_iconst (v := (1 : Int32)) hx hb dX7_number_79 (by decide) ?_
      refine lv_goto (tgt := 84) hx hb dX7_number_80 (by decide) ?_
      obtain ⟨σ84, h84, hf⟩ := bnd hf
      refine pt_X7_98 hx hb hts hown hK hP hJ hS ⟨rfl, rfl⟩ h84 dX7_number_84 (fun H locs hP hS => ?_)
      refine lv_iload hx hb dX7_number_87 (lv_at hl 0 rfl) ?_
      refine lv_if_eq (tgt := 96) hx hb dX7_number_89 (by decide) (fun hc => ?_) (fun hc => ?_)
      · have hf := ifp hc hf
        refine lv_iconst (v := (0 : Int32)) hx hb dX7_number_96 (by decide) ?_
        have hq := Option.some.inj hf
        exact q_iret hx hb hr hlk hP hS (congrArg Prod.fst hq) (congrArg Prod.snd hq) dX7_number_97
      · have hf := ifn hc hf
        refine lv_iload_n hx hb dX7_number_92 rfl (lv_at hl 4 rfl) ?_
        refine lv_goto (tgt := 97) hx hb dX7_number_93 (by decide) ?_
        have hq := Option.some.inj hf
        exact q_iret hx hb hr hlk hP hS (congrArg Prod.fst hq) (congrArg Prod.snd hq) dX7_number_97
    · have hf := ifn (fun h => h hc) hf
      refine lv_iload hx hb dX7_number_74 (lv_at hl 0 rfl) ?_
      refine lv_if_ne (tgt := 83) hx hb dX7_number_76 (by decide) (fun hc => ?_) (fun hc => ?_)
      · have hf := ifp hc hf
        refine lv_iconst (v := (0 : Int32)) hx hb dX7_number_83 (by decide) ?_
        obtain ⟨σ84, h84, hf⟩ := bnd hf
        refine pt_X7_98 hx hb hts hown hK hP hJ hS ⟨rfl, rfl⟩ h84 dX7_number_84 (fun H locs hP hS => ?_)
        refine lv_iload hx hb dX7_number_87 (lv_at hl 0 rfl) ?_
        refine lv_if_eq (tgt := 96) hx hb dX7_number_89 (by decide) (fun hc => ?_) (fun hc => ?_)
        · have hf := ifp hc hf
          refine lv_iconst (v := (0 : Int32)) hx hb dX7_number_96 (by decide) ?_
          have hq := Option.some.inj hf
          exact q_iret hx hb hr hlk hP hS (congrArg Prod.fst hq) (congrArg Prod.snd hq) dX7_number_97
        · have hf := ifn hc hf
          refine lv_iload_n hx hb dX7_number_92 rfl (lv_at hl 4 rfl) ?_
          refine lv_goto (tgt := 97) hx hb dX7_number_93 (by decide) ?_
          have hq := Option.some.inj hf
          exact q_iret hx hb hr hlk hP hS (congrArg Prod.fst hq) (congrArg Prod.snd hq) dX7_number_97
      · have hf := ifn (fun h => h hc) hf
        refine lv_iconst (v := (1 : Int32)) hx hb dX7_number_79 (by decide) ?_
        refine lv_goto (tgt := 84) hx hb dX7_number_80 (by decide) ?_
        obtain ⟨σ84, h84, hf⟩ := bnd hf
        refine pt_X7_98 hx hb hts hown hK hP hJ hS ⟨rfl, rfl⟩ h84 dX7_number_84 (fun H locs hP hS => ?_)
        refine lv_iload hx hb dX7_number_87 (lv_at hl 0 rfl) ?_
        refine lv_if_eq (tgt := 96) hx hb dX7_number_89 (by decide) (fun hc => ?_) (fun hc => ?_)
        · have hf := ifp hc hf
          refine lv_iconst (v := (0 : Int32)) hx hb dX7_number_96 (by decide) ?_
          have hq := Option.some.inj hf
          exact q_iret hx hb hr hlk hP hS (congrArg Prod.fst hq) (congrArg Prod.snd hq) dX7_number_97
        · have hf := ifn hc hf
          refine lv_iload_n hx hb dX7_number_92 rfl (lv_at hl 4 rfl) ?_
          refine lv_goto (tgt := 97) hx hb dX7_number_93 (by decide) ?_
          have hq := Option.some.inj hf
          exact q_iret hx hb hr hlk hP hS (congrArg Prod.fst hq) (congrArg Prod.snd hq) dX7_number_97
  refine lp_ind (G := fun (st : (Int32 × Int32 × Sg)) => ∀ (H : Heap) (locs : List Loc) (ls : Array Slot), va_P D vwCl (WL w st.2.2) H → va_S (AL w) s.heap H locs → lv_has ls 5 [(0, .ref (w.1 (184))), (1, .int a1), (2, .int a2), (3, .int st.1), (4, .int st.2.1)] → W p l e (rmW 2 42) s m args below meth c H locs 0 0 (MQ below (qiW D w r σ') args s 0 0 (AL w)) (F0 m 6 ls [])) (X := fun rr => f_X7_number_k1 a1 a2 rr.1 rr.2 = some (r, σ')) ?_ _ _ rr hlp hf _ _ _ hP hS (lv_sub hl [2, 3, 4, 1, 0] rfl)
  rintro ⟨x3_6, x4_6, σ_6⟩ oo6 hb9 hG6 hX6 H locs ls hP hS hl
  have hP : va_P D vwCl (WL w σ_6) H := hP
  have hl : lv_has ls 5 [(0, .ref (w.1 (184))), (1, .int a1), (2, .int a2), (3, .int x3_6), (4, .int x4_6)] := hl
  have hf : f_X7_number_b1  x3_6 x4_6 σ_6 = some oo6 := hb9
  unfold f_X7_number_b1 at hf
  refine lv_iload hx hb dX7_number_6 (lv_at hl 4 rfl) ?_
  refine lv_iconst (v := (2 : Int32)) hx hb dX7_number_8 (by decide) ?_
  refine lv_icmp_ge (tgt := 58) hx hb dX7_number_9 (by decide) (fun hc => ?_) (fun hc => ?_)
  · have hf := ifp hc hf
    obtain rfl := Option.some.inj hf
    exact hE6_58 x3_6 σ_6 _ _ _ (hX6 _ rfl) hP hS (lv_sub hl [0, 1, 2, 3] rfl)
  · have hf := ifn hc hf
    refine lv_aload_n hx hb dX7_number_12 rfl (lv_at hl 0 rfl) ?_
    obtain ⟨v13, h13, hf⟩ := bnd hf
    refine q_cVz (As := []) hx hb hts hml hown hK hP hS (c_X7_isFigure l D w σ_6 v13 h13) hw_X7_102 hd_X7_isFigure ⟨rfl, rfl, rfl⟩ o184 (ce7 kd184) rfl ⟨Nat.le_of_ble_eq_true rfl, Nat.le_of_ble_eq_true rfl⟩ ⟨Nat.le_of_ble_eq_true rfl, Nat.le_of_ble_eq_true rfl⟩ hl.1 rfl (Nat.le_of_ble_eq_true rfl) dX7_number_13 (fun hz13 H locs hP hS => ?_)
    refine lv_if_eq (tgt := 58) hx hb dX7_number_16 (by decide) (fun hc => ?_) (fun hc => ?_)
    · have hf := ifp hc hf
      obtain rfl := Option.some.inj hf
      exact hE6_58 x3_6 σ_6 _ _ _ (hX6 _ rfl) hP hS (lv_sub hl [0, 1, 2, 3] rfl)
    · have hf := ifn hc hf
      refine lv_iload_n hx hb dX7_number_19 rfl (lv_at hl 3 rfl) ?_
      refine lv_bipush (v := (-4 : Int32)) hx hb dX7_number_20 (by decide) ?_
      refine lv_icmp_ne (tgt := 29) hx hb dX7_number_22 (by decide) (fun hc => ?_) (fun hc => ?_)
      · have hf := ifp hc hf
        refine lv_bipush (v := (10 : Int32)) hx hb dX7_number_29 (by decide) ?_
        refine lv_iload_n hx hb dX7_number_31 rfl (lv_at hl 3 rfl) ?_
        refine lv_imul hx hb dX7_number_32 ?_
        refine lv_aload_n hx hb dX7_number_33 rfl (lv_at hl 0 rfl) ?_
        obtain ⟨v34, h34, hf⟩ := bnd hf
        refine q_cVi (As := []) hx hb hts hml hown hK hP hS (c_X7_here l D w σ_6 v34 h34) hw_X7_94 hd_X7_here ⟨rfl, rfl, rfl⟩ o184 (ce7 kd184) rfl ⟨Nat.le_of_ble_eq_true rfl, Nat.le_of_ble_eq_true rfl⟩ ⟨Nat.le_of_ble_eq_true rfl, Nat.le_of_ble_eq_true rfl⟩ hl.1 rfl (Nat.le_of_ble_eq_true rfl) dX7_number_34 (fun H locs hP hS => ?_)
        refine lv_iadd hx hb dX7_number_37 ?_
        refine lv_bipush (v := (48 : Int32)) hx hb dX7_number_38 (by decide) ?_
        refine lv_isub hx hb dX7_number_40 ?_
        refine lv_istore_n (lv' := [(3, .int ((((10 : Int32) * x3_6) + v34) - (48 : Int32))), (0, .ref (w.1 (184))), (1, .int a1), (2, .int a2), (4, .int x4_6)]) hx hb dX7_number_41 rfl hl (by decide) rfl (fun ls hl => ?_)
        refine lv_aload_n hx hb dX7_number_42 rfl (lv_at hl 1 rfl) ?_
        refine lv_dup hx hb dX7_number_43 rfl ?_
        refine gt_X7_91 hx hb hts hown hK hP dX7_number_44 ?_
        refine lv_iconst (v := (1 : Int32)) hx hb dX7_number_47 (by decide) ?_
        refine lv_iadd hx hb dX7_number_48 ?_
        obtain ⟨σ49, h49, hf⟩ := bnd hf
        refine pt_X7_91 hx hb hts hown hK hP hJ hS h49 dX7_number_49 (fun H locs hP hS => ?_)
        refine lv_iinc (v := (x4_6 + (1 : Int32))) (lv' := [(4, .int (x4_6 + (1 : Int32))), (3, .int ((((10 : Int32) * x3_6) + v34) - (48 : Int32))), (0, .ref (w.1 (184))), (1, .int a1), (2, .int a2)]) hx hb dX7_number_52 hl (k := 4) rfl ii_1 (by decide) rfl (fun ls hl => ?_)
        refine lv_goto (tgt := 6) hx hb dX7_number_55 (by decide) ?_
        obtain rfl := Option.some.inj hf
        exact hG6 _ rfl _ _ _ hP hS (lv_sub hl [2, 3, 4, 1, 0] rfl)
      · have hf := ifn (fun h => h hc) hf
        refine lv_iconst (v := (0 : Int32)) hx hb dX7_number_25 (by decide) ?_
        refine lv_goto (tgt := 33) hx hb dX7_number_26 (by decide) ?_
        refine lv_aload_n hx hb dX7_number_33 rfl (lv_at hl 0 rfl) ?_
        obtain ⟨v34, h34, hf⟩ := bnd hf
        refine q_cVi (As := []) hx hb hts hml hown hK hP hS (c_X7_here l D w σ_6 v34 h34) hw_X7_94 hd_X7_here ⟨rfl, rfl, rfl⟩ o184 (ce7 kd184) rfl ⟨Nat.le_of_ble_eq_true rfl, Nat.le_of_ble_eq_true rfl⟩ ⟨Nat.le_of_ble_eq_true rfl, Nat.le_of_ble_eq_true rfl⟩ hl.1 rfl (Nat.le_of_ble_eq_true rfl) dX7_number_34 (fun H locs hP hS => ?_)
        refine lv_iadd hx hb dX7_number_37 ?_
        refine lv_bipush (v := (48 : Int32)) hx hb dX7_number_38 (by decide) ?_
        refine lv_isub hx hb dX7_number_40 ?_
        refine lv_istore_n (lv' := [(3, .int (((0 : Int32) + v34) - (48 : Int32))), (0, .ref (w.1 (184))), (1, .int a1), (2, .int a2), (4, .int x4_6)]) hx hb dX7_number_41 rfl hl (by decide) rfl (fun ls hl => ?_)
        refine lv_aload_n hx hb dX7_number_42 rfl (lv_at hl 1 rfl) ?_
        refine lv_dup hx hb dX7_number_43 rfl ?_
        refine gt_X7_91 hx hb hts hown hK hP dX7_number_44 ?_
        refine lv_iconst (v := (1 : Int32)) hx hb dX7_number_47 (by decide) ?_
        refine lv_iadd hx hb dX7_number_48 ?_
        obtain ⟨σ49, h49, hf⟩ := bnd hf
        refine pt_X7_91 hx hb hts hown hK hP hJ hS h49 dX7_number_49 (fun H locs hP hS => ?_)
        refine lv_iinc (v := (x4_6 + (1 : Int32))) (lv' := [(4, .int (x4_6 + (1 : Int32))), (3, .int (((0 : Int32) + v34) - (48 : Int32))), (0, .ref (w.1 (184))), (1, .int a1), (2, .int a2)]) hx hb dX7_number_52 hl (k := 4) rfl ii_1 (by decide) rfl (fun ls hl => ?_)
        refine lv_goto (tgt := 6) hx hb dX7_number_55 (by decide) ?_
        obtain rfl := Option.some.inj hf
        exact hG6 _ rfl _ _ _ hP hS (lv_sub hl [2, 3, 4, 1, 0] rfl)
def f_X7_readRoad (σ : Sg)  : Option Sg :=
  (ga (σ (186)) (ln (186)) (1 : Int32)).bind fun v7 =>
  (f_X7_number σ (0 : Int32) (v7 - (1 : Int32))).bind fun q10 =>
  (f_X7_due q10.2 (44 : Int32)).bind fun σ17 =>
  (ga (σ17 (186)) (ln (186)) (1 : Int32)).bind fun v27 =>
  (f_X7_number σ17 (0 : Int32) (v27 - (1 : Int32))).bind fun q30 =>
  (f_X7_due q30.2 (44 : Int32)).bind fun σ37 =>
  (f_X7_number σ37 (1 : Int32) (9 : Int32)).bind fun q44 =>
  if ¬ (q44.2 184 12) = 0 then
  (some (sf q44.2 (184) 12 (1 : Int32))).bind fun σ66 =>
  if ¬ (σ66 184 12) = 0 then
  some σ66
  else
  (sa σ66 (191) (ln (191)) (((8 : Int32) * q10.1) + q30.1) q44.1).bind fun σ87 =>
  (sa σ87 (191) (ln (191)) (((8 : Int32) * q30.1) + q10.1) q44.1).bind fun σ99 =>
  some σ99
  else
  if ¬ q10.1 = q30.1 then
  (some (sf q44.2 (184) 12 (0 : Int32))).bind fun σ66 =>
  if ¬ (σ66 184 12) = 0 then
  some σ66
  else
  (sa σ66 (191) (ln (191)) (((8 : Int32) * q10.1) + q30.1) q44.1).bind fun σ87 =>
  (sa σ87 (191) (ln (191)) (((8 : Int32) * q30.1) + q10.1) q44.1).bind fun σ99 =>
  some σ99
  else
  (some (sf q44.2 (184) 12 (1 : Int32))).bind fun σ66 =>
  if ¬ (σ66 184 12) = 0 then
  some σ66
  else
  (sa σ66 (191) (ln (191)) (((8 : Int32) * q10.1) + q30.1) q44.1).bind fun σ87 =>
  (sa σ87 (191) (ln (191)) (((8 : Int32) * q30.1) + q10.1) q44.1).bind fun σ99 =>
  some σ99
set_option maxHeartbeats 4000000 in
set_option maxRecDepth 100000 in
theorem c_X7_readRoad (l : Launch) (D : va_G) (w : Wv) (σ : Sg)  (σ' : Sg)  (hJ : Inj w) (hf : f_X7_readRoad σ = some σ') : Met l yX7_readRoad (.code yX7_readRoad cX7_readRoad 4 none :: TB) (rmW 3 66) (pcW D w [.ref (w.1 (184))] σ) (qvW D w σ') 0 0 (AL w) := by
  refine q_open (by decide +kernel) (Nat.le_of_ble_eq_true rfl) ?_
  intro p e s m args below meth c ls hx hb hml hr hlk hown hts hK hP hS hl
  have hown : s.vm.findClass RX7 = some m.cls := hown
  have hl : lv_has ls 4 [(0, .ref (w.1 (184)))] := hl
  unfold f_X7_readRoad at hf
  refine lv_aload_n hx hb dX7_readRoad_0 rfl (lv_at hl 0 rfl) ?_
  refine lv_iconst (v := (0 : Int32)) hx hb dX7_readRoad_1 (by decide) ?_
  refine lv_aload_n hx hb dX7_readRoad_2 rfl (lv_at hl 0 rfl) ?_
  refine gt_X7_13 hx hb hts hown hK hP dX7_readRoad_3 ?_
  refine lv_iconst (v := (1 : Int32)) hx hb dX7_readRoad_6 (by decide) ?_
  obtain ⟨v7, h7, hf⟩ := bnd hf
  refine q_iald hx hb hK hP isC186.o isC186.k h7 dX7_readRoad_7 ?_
  refine lv_iconst (v := (1 : Int32)) hx hb dX7_readRoad_8 (by decide) ?_
  refine lv_isub hx hb dX7_readRoad_9 ?_
  obtain ⟨⟨v10, σ10⟩, h10, hf⟩ := bnd hf
  dsimp only at hf
  refine q_cVi (As := [.int (0 : Int32), .int (v7 - (1 : Int32))]) hx hb hts hml hown hK hP hS (c_X7_number l D w σ (0 : Int32) (v7 - (1 : Int32)) v10 σ10 hJ h10) hw_X7_106 hd_X7_number ⟨rfl, rfl, rfl⟩ o184 (ce7 kd184) rfl ⟨Nat.le_of_ble_eq_true rfl, Nat.le_of_ble_eq_true rfl⟩ ⟨Nat.le_of_ble_eq_true rfl, Nat.le_of_ble_eq_true rfl⟩ hl.1 rfl (Nat.le_of_ble_eq_true rfl) dX7_readRoad_10 (fun H locs hP hS => ?_)
  refine lv_istore_n (lv' := [(1, .int v10), (0, .ref (w.1 (184)))]) hx hb dX7_readRoad_13 rfl hl (by decide) rfl (fun ls hl => ?_)
  refine lv_aload_n hx hb dX7_readRoad_14 rfl (lv_at hl 1 rfl) ?_
  refine lv_bipush (v := (44 : Int32)) hx hb dX7_readRoad_15 (by decide) ?_
  obtain ⟨σ17, h17, hf⟩ := bnd hf
  refine q_cVv (As := [.int (44 : Int32)]) hx hb hts hml hown hK hP hS (c_X7_due l D w σ10 (44 : Int32) σ17 hJ h17) hw_X7_110 hd_X7_due ⟨rfl, rfl, rfl⟩ o184 (ce7 kd184) rfl ⟨Nat.le_of_ble_eq_true rfl, Nat.le_of_ble_eq_true rfl⟩ ⟨Nat.le_of_ble_eq_true rfl, Nat.le_of_ble_eq_true rfl⟩ hl.1 rfl (Nat.le_of_ble_eq_true rfl) dX7_readRoad_17 (fun H locs hP hS => ?_)
  refine lv_aload_n hx hb dX7_readRoad_20 rfl (lv_at hl 1 rfl) ?_
  refine lv_iconst (v := (0 : Int32)) hx hb dX7_readRoad_21 (by decide) ?_
  refine lv_aload_n hx hb dX7_readRoad_22 rfl (lv_at hl 1 rfl) ?_
  refine gt_X7_13 hx hb hts hown hK hP dX7_readRoad_23 ?_
  refine lv_iconst (v := (1 : Int32)) hx hb dX7_readRoad_26 (by decide) ?_
  obtain ⟨v27, h27, hf⟩ := bnd hf
  refine q_iald hx hb hK hP isC186.o isC186.k h27 dX7_readRoad_27 ?_
  refine lv_iconst (v := (1 : Int32)) hx hb dX7_readRoad_28 (by decide) ?_
  refine lv_isub hx hb dX7_readRoad_29 ?_
  obtain ⟨⟨v30, σ30⟩, h30, hf⟩ := bnd hf
  dsimp only at hf
  refine q_cVi (As := [.int (0 : Int32), .int (v27 - (1 : Int32))]) hx hb hts hml hown hK hP hS (c_X7_number l D w σ17 (0 : Int32) (v27 - (1 : Int32)) v30 σ30 hJ h30) hw_X7_106 hd_X7_number ⟨rfl, rfl, rfl⟩ o184 (ce7 kd184) rfl ⟨Nat.le_of_ble_eq_true rfl, Nat.le_of_ble_eq_true rfl⟩ ⟨Nat.le_of_ble_eq_true rfl, Nat.le_of_ble_eq_true rfl⟩ hl.1 rfl (Nat.le_of_ble_eq_true rfl) dX7_readRoad_30 (fun H locs hP hS => ?_)
  refine lv_istore_n (lv' := [(2, .int v30), (1, .int v10), (0, .ref (w.1 (184)))]) hx hb dX7_readRoad_33 rfl hl (by decide) rfl (fun ls hl => ?_)
  refine lv_aload_n hx hb dX7_readRoad_34 rfl (lv_at hl 2 rfl) ?_
  refine lv_bipush (v := (44 : Int32)) hx hb dX7_readRoad_35 (by decide) ?_
  obtain ⟨σ37, h37, hf⟩ := bnd hf
  refine q_cVv (As := [.int (44 : Int32)]) hx hb hts hml hown hK hP hS (c_X7_due l D w σ30 (44 : Int32) σ37 hJ h37) hw_X7_110 hd_X7_due ⟨rfl, rfl, rfl⟩ o184 (ce7 kd184) rfl ⟨Nat.le_of_ble_eq_true rfl, Nat.le_of_ble_eq_true rfl⟩ ⟨Nat.le_of_ble_eq_true rfl, Nat.le_of_ble_eq_true rfl⟩ hl.1 rfl (Nat.le_of_ble_eq_true rfl) dX7_readRoad_37 (fun H locs hP hS => ?_)
  refine lv_aload_n hx hb dX7_readRoad_40 rfl (lv_at hl 2 rfl) ?_
  refine lv_iconst (v := (1 : Int32)) hx hb dX7_readRoad_41 (by decide) ?_
  refine lv_bipush (v := (9 : Int32)) hx hb dX7_readRoad_42 (by decide) ?_
  obtain ⟨⟨v44, σ44⟩, h44, hf⟩ := bnd hf
  dsimp only at hf
  refine q_cVi (As := [.int (1 : Int32), .int (9 : Int32)]) hx hb hts hml hown hK hP hS (c_X7_number l D w σ37 (1 : Int32) (9 : Int32) v44 σ44 hJ h44) hw_X7_106 hd_X7_number ⟨rfl, rfl, rfl⟩ o184 (ce7 kd184) rfl ⟨Nat.le_of_ble_eq_true rfl, Nat.le_of_ble_eq_true rfl⟩ ⟨Nat.le_of_ble_eq_true rfl, Nat.le_of_ble_eq_true rfl⟩ hl.1 rfl (Nat.le_of_ble_eq_true rfl) dX7_readRoad_44 (fun H locs hP hS => ?_)
  refine lv_istore_n (lv' := [(3, .int v44), (2, .int v30), (1, .int v10), (0, .ref (w.1 (184)))]) hx hb dX7_readRoad_47 rfl hl (by decide) rfl (fun ls hl => ?_)
  refine lv_aload_n hx hb dX7_readRoad_48 rfl (lv_at hl 3 rfl) ?_
  refine lv_aload_n hx hb dX7_readRoad_49 rfl (lv_at hl 3 rfl) ?_
  refine gt_X7_98 hx hb hts hown hK hP dX7_readRoad_50 ?_
  refine lv_if_ne (tgt := 61) hx hb dX7_readRoad_53 (by decide) (fun hc => ?_) (fun hc => ?_)
  · have hf := ifp hc hf
    refine lv_iconst (v := (1 : Int32)) hx hb dX7_readRoad_61 (by decide) ?_
    refine lv_goto (tgt := 66) hx hb dX7_readRoad_62 (by decide) ?_
    obtain ⟨σ66, h66, hf⟩ := bnd hf
    refine pt_X7_98 hx hb hts hown hK hP hJ hS ⟨rfl, rfl⟩ h66 dX7_readRoad_66 (fun H locs hP hS => ?_)
    refine lv_aload_n hx hb dX7_readRoad_69 rfl (lv_at hl 3 rfl) ?_
    refine gt_X7_98 hx hb hts hown hK hP dX7_readRoad_70 ?_
    refine lv_if_ne (tgt := 100) hx hb dX7_readRoad_73 (by decide) (fun hc => ?_) (fun hc => ?_)
    · have hf := ifp hc hf
      have hq := Option.some.inj hf
      exact q_vret hx hb hr hlk hP hS hq dX7_readRoad_100
    · have hf := ifn (fun h => h hc) hf
      refine lv_aload_n hx hb dX7_readRoad_76 rfl (lv_at hl 3 rfl) ?_
      refine gt_X7_29 hx hb hts hown hK hP dX7_readRoad_77 ?_
      refine lv_bipush (v := (8 : Int32)) hx hb dX7_readRoad_80 (by decide) ?_
      refine lv_iload_n hx hb dX7_readRoad_82 rfl (lv_at hl 2 rfl) ?_
      refine lv_imul hx hb dX7_readRoad_83 ?_
      refine lv_iload_n hx hb dX7_readRoad_84 rfl (lv_at hl 1 rfl) ?_
      refine lv_iadd hx hb dX7_readRoad_85 ?_
      refine lv_iload_n hx hb dX7_readRoad_86 rfl (lv_at hl 0 rfl) ?_
      obtain ⟨σ87, h87, hf⟩ := bnd hf
      refine q_iast hx hb hK hP hJ hS isC191.o isC191.k h87 dX7_readRoad_87 (fun H locs hP hS => ?_)
      refine lv_aload_n hx hb dX7_readRoad_88 rfl (lv_at hl 3 rfl) ?_
      refine gt_X7_29 hx hb hts hown hK hP dX7_readRoad_89 ?_
      refine lv_bipush (v := (8 : Int32)) hx hb dX7_readRoad_92 (by decide) ?_
      refine lv_iload_n hx hb dX7_readRoad_94 rfl (lv_at hl 1 rfl) ?_
      refine lv_imul hx hb dX7_readRoad_95 ?_
      refine lv_iload_n hx hb dX7_readRoad_96 rfl (lv_at hl 2 rfl) ?_
      refine lv_iadd hx hb dX7_readRoad_97 ?_
      refine lv_iload_n hx hb dX7_readRoad_98 rfl (lv_at hl 0 rfl) ?_
      obtain ⟨σ99, h99, hf⟩ := bnd hf
      refine q_iast hx hb hK hP hJ hS isC191.o isC191.k h99 dX7_readRoad_99 (fun H locs hP hS => ?_)
      have hq := Option.some.inj hf
      exact q_vret hx hb hr hlk hP hS hq dX7_readRoad_100
  · have hf := ifn (fun h => h hc) hf
    refine lv_iload_n hx hb dX7_readRoad_56 rfl (lv_at hl 2 rfl) ?_
    refine lv_iload_n hx hb dX7_readRoad_57 rfl (lv_at hl 1 rfl) ?_
    refine lv_icmp_ne (tgt := 65) hx hb dX7_readRoad_58 (by decide) (fun hc => ?_) (fun hc => ?_)
    · have hf := ifp hc hf
      refine lv_iconst (v := (0 : Int32)) hx hb dX7_readRoad_65 (by decide) ?_
      obtain ⟨σ66, h66, hf⟩ := bnd hf
      refine pt_X7_98 hx hb hts hown hK hP hJ hS ⟨rfl, rfl⟩ h66 dX7_readRoad_66 (fun H locs hP hS => ?_)
      refine lv_aload_n hx hb dX7_readRoad_69 rfl (lv_at hl 3 rfl) ?_
      refine gt_X7_98 hx hb hts hown hK hP dX7_readRoad_70 ?_
      refine lv_if_ne (tgt := 100) hx hb dX7_readRoad_73 (by decide) (fun hc => ?_) (fun hc => ?_)
      · have hf := ifp hc hf
        have hq := Option.some.inj hf
        exact q_vret hx hb hr hlk hP hS hq dX7_readRoad_100
      · have hf := ifn (fun h => h hc) hf
        refine lv_aload_n hx hb dX7_readRoad_76 rfl (lv_at hl 3 rfl) ?_
        refine gt_X7_29 hx hb hts hown hK hP dX7_readRoad_77 ?_
        refine lv_bipush (v := (8 : Int32)) hx hb dX7_readRoad_80 (by decide) ?_
        refine lv_iload_n hx hb dX7_readRoad_82 rfl (lv_at hl 2 rfl) ?_
        refine lv_imul hx hb dX7_readRoad_83 ?_
        refine lv_iload_n hx hb dX7_readRoad_84 rfl (lv_at hl 1 rfl) ?_
        refine lv_iadd hx hb dX7_readRoad_85 ?_
        refine lv_iload_n hx hb dX7_readRoad_86 rfl (lv_at hl 0 rfl) ?_
        obtain ⟨σ87, h87, hf⟩ := bnd hf
        refine q_iast hx hb hK hP hJ hS isC191.o isC191.k h87 dX7_readRoad_87 (fun H locs hP hS => ?_)
        refine lv_aload_n hx hb dX7_readRoad_88 rfl (lv_at hl 3 rfl) ?_
        refine gt_X7_29 hx hb hts hown hK hP dX7_readRoad_89 ?_
        refine lv_bipush (v := (8 : Int32)) hx hb dX7_readRoad_92 (by decide) ?_
        refine lv_iload_n hx hb dX7_readRoad_94 rfl (lv_at hl 1 rfl) ?_
        refine lv_imul hx hb dX7_readRoad_95 ?_
        refine lv_iload_n hx hb dX7_readRoad_96 rfl (lv_at hl 2 rfl) ?_
        refine lv_iadd hx hb dX7_readRoad_97 ?_
        refine lv_iload_n hx hb dX7_readRoad_98 rfl (lv_at hl 0 rfl) ?_
        obtain ⟨σ99, h99, hf⟩ := bnd hf
        refine q_iast hx hb hK hP hJ hS isC191.o isC191.k h99 dX7_readRoad_99 (fun H locs hP hS => ?_)
        have hq := Option.some.inj hf
        exact q_vret hx hb hr hlk hP hS hq dX7_readRoad_100
    · have hf := ifn (fun h => h hc) hf
      refine lv_iconst (v := (1 : Int32)) hx hb dX7_readRoad_61 (by decide) ?_
      refine lv_goto (tgt := 66) hx hb dX7_readRoad_62 (by decide) ?_
      obtain ⟨σ66, h66, hf⟩ := bnd hf
      refine pt_X7_98 hx hb hts hown hK hP hJ hS ⟨rfl, rfl⟩ h66 dX7_readRoad_66 (fun H locs hP hS => ?_)
      refine lv_aload_n hx hb dX7_readRoad_69 rfl (lv_at hl 3 rfl) ?_
      refine gt_X7_98 hx hb hts hown hK hP dX7_readRoad_70 ?_
      refine lv_if_ne (tgt := 100) hx hb dX7_readRoad_73 (by decide) (fun hc => ?_) (fun hc => ?_)
      · have hf := ifp hc hf
        have hq := Option.some.inj hf
        exact q_vret hx hb hr hlk hP hS hq dX7_readRoad_100
      · have hf := ifn (fun h => h hc) hf
        refine lv_aload_n hx hb dX7_readRoad_76 rfl (lv_at hl 3 rfl) ?_
        refine gt_X7_29 hx hb hts hown hK hP dX7_readRoad_77 ?_
        refine lv_bipush (v := (8 : Int32)) hx hb dX7_readRoad_80 (by decide) ?_
        refine lv_iload_n hx hb dX7_readRoad_82 rfl (lv_at hl 2 rfl) ?_
        refine lv_imul hx hb dX7_readRoad_83 ?_
        refine lv_iload_n hx hb dX7_readRoad_84 rfl (lv_at hl 1 rfl) ?_
        refine lv_iadd hx hb dX7_readRoad_85 ?_
        refine lv_iload_n hx hb dX7_readRoad_86 rfl (lv_at hl 0 rfl) ?_
        obtain ⟨σ87, h87, hf⟩ := bnd hf
        refine q_iast hx hb hK hP hJ hS isC191.o isC191.k h87 dX7_readRoad_87 (fun H locs hP hS => ?_)
        refine lv_aload_n hx hb dX7_readRoad_88 rfl (lv_at hl 3 rfl) ?_
        refine gt_X7_29 hx hb hts hown hK hP dX7_readRoad_89 ?_
        refine lv_bipush (v := (8 : Int32)) hx hb dX7_readRoad_92 (by decide) ?_
        refine lv_iload_n hx hb dX7_readRoad_94 rfl (lv_at hl 1 rfl) ?_
        refine lv_imul hx hb dX7_readRoad_95 ?_
        refine lv_iload_n hx hb dX7_readRoad_96 rfl (lv_at hl 2 rfl) ?_
        refine lv_iadd hx hb dX7_readRoad_97 ?_
        refine lv_iload_n hx hb dX7_readRoad_98 rfl (lv_at hl 0 rfl) ?_
        obtain ⟨σ99, h99, hf⟩ := bnd hf
        refine q_iast hx hb hK hP hJ hS isC191.o isC191.k h99 dX7_readRoad_99 (fun H locs hP hS => ?_)
        have hq := Option.some.inj hf
        exact q_vret hx hb hr hlk hP hS hq dX7_readRoad_100
def f_X7_readPost (σ : Sg)  : Option Sg :=
  (ga (σ (187)) (ln (187)) (1 : Int32)).bind fun v5 =>
  if ¬ v5 = (6 : Int32) then
  (ga (σ (187)) (ln (187)) (1 : Int32)).bind fun v28 =>
  (f_X7_number σ (0 : Int32) (3 : Int32)).bind fun q33 =>
  (sa q33.2 (189) (ln (189)) ((6 : Int32) + v28) q33.1).bind fun σ36 =>
  (f_X7_due σ36 (44 : Int32)).bind fun σ40 =>
  (ga (σ40 (187)) (ln (187)) (1 : Int32)).bind fun v52 =>
  (ga (σ40 (186)) (ln (186)) (1 : Int32)).bind fun v60 =>
  (f_X7_number σ40 (0 : Int32) (v60 - (1 : Int32))).bind fun q63 =>
  (sa q63.2 (192) (ln (192)) v52 q63.1).bind fun σ66 =>
  (f_X7_due σ66 (44 : Int32)).bind fun σ70 =>
  (ga (σ70 (187)) (ln (187)) (1 : Int32)).bind fun v82 =>
  (f_X7_number σ70 (0 : Int32) (59 : Int32)).bind fun q87 =>
  (sa q87.2 (193) (ln (193)) v82 q87.1).bind fun σ90 =>
  (ga (σ90 (187)) (ln (187)) (1 : Int32)).bind fun v97 =>
  (sa σ90 (187) (ln (187)) (1 : Int32) (v97 + (1 : Int32))).bind fun σ100 =>
  some σ100
  else
  (some (sf σ (184) 12 (1 : Int32))).bind fun σ13 =>
  some σ13
set_option maxHeartbeats 4000000 in
set_option maxRecDepth 100000 in
theorem c_X7_readPost (l : Launch) (D : va_G) (w : Wv) (σ : Sg)  (σ' : Sg)  (hJ : Inj w) (hf : f_X7_readPost σ = some σ') : Met l yX7_readPost (.code yX7_readPost cX7_readPost 1 none :: TB) (rmW 3 66) (pcW D w [.ref (w.1 (184))] σ) (qvW D w σ') 0 0 (AL w) := by
  refine q_open (by decide +kernel) (Nat.le_of_ble_eq_true rfl) ?_
  intro p e s m args below meth c ls hx hb hml hr hlk hown hts hK hP hS hl
  have hown : s.vm.findClass RX7 = some m.cls := hown
  have hl : lv_has ls 1 [(0, .ref (w.1 (184)))] := hl
  unfold f_X7_readPost at hf
  refine lv_aload_n hx hb dX7_readPost_0 rfl (lv_at hl 0 rfl) ?_
  refine gt_X7_17 hx hb hts hown hK hP dX7_readPost_1 ?_
  refine lv_iconst (v := (1 : Int32)) hx hb dX7_readPost_4 (by decide) ?_
  obtain ⟨v5, h5, hf⟩ := bnd hf
  refine q_iald hx hb hK hP isC187.o isC187.k h5 dX7_readPost_5 ?_
  refine lv_bipush (v := (6 : Int32)) hx hb dX7_readPost_6 (by decide) ?_
  refine lv_icmp_ne (tgt := 17) hx hb dX7_readPost_8 (by decide) (fun hc => ?_) (fun hc => ?_)
  · have hf := ifp hc hf
    refine lv_aload_n hx hb dX7_readPost_17 rfl (lv_at hl 0 rfl) ?_
    refine gt_X7_23 hx hb hts hown hK hP dX7_readPost_18 ?_
    refine lv_bipush (v := (6 : Int32)) hx hb dX7_readPost_21 (by decide) ?_
    refine lv_aload_n hx hb dX7_readPost_23 rfl (lv_at hl 0 rfl) ?_
    refine gt_X7_17 hx hb hts hown hK hP dX7_readPost_24 ?_
    refine lv_iconst (v := (1 : Int32)) hx hb dX7_readPost_27 (by decide) ?_
    obtain ⟨v28, h28, hf⟩ := bnd hf
    refine q_iald hx hb hK hP isC187.o isC187.k h28 dX7_readPost_28 ?_
    refine lv_iadd hx hb dX7_readPost_29 ?_
    refine lv_aload_n hx hb dX7_readPost_30 rfl (lv_at hl 0 rfl) ?_
    refine lv_iconst (v := (0 : Int32)) hx hb dX7_readPost_31 (by decide) ?_
    refine lv_iconst (v := (3 : Int32)) hx hb dX7_readPost_32 (by decide) ?_
    obtain ⟨⟨v33, σ33⟩, h33, hf⟩ := bnd hf
    dsimp only at hf
    refine q_cVi (As := [.int (0 : Int32), .int (3 : Int32)]) hx hb hts hml hown hK hP hS (c_X7_number l D w σ (0 : Int32) (3 : Int32) v33 σ33 hJ h33) hw_X7_106 hd_X7_number ⟨rfl, rfl, rfl⟩ o184 (ce7 kd184) rfl ⟨Nat.le_of_ble_eq_true rfl, Nat.le_of_ble_eq_true rfl⟩ ⟨Nat.le_of_ble_eq_true rfl, Nat.le_of_ble_eq_true rfl⟩ hl.1 rfl (Nat.le_of_ble_eq_true rfl) dX7_readPost_33 (fun H locs hP hS => ?_)
    obtain ⟨σ36, h36, hf⟩ := bnd hf
    refine q_iast hx hb hK hP hJ hS isC189.o isC189.k h36 dX7_readPost_36 (fun H locs hP hS => ?_)
    refine lv_aload_n hx hb dX7_readPost_37 rfl (lv_at hl 0 rfl) ?_
    refine lv_bipush (v := (44 : Int32)) hx hb dX7_readPost_38 (by decide) ?_
    obtain ⟨σ40, h40, hf⟩ := bnd hf
    refine q_cVv (As := [.int (44 : Int32)]) hx hb hts hml hown hK hP hS (c_X7_due l D w σ36 (44 : Int32) σ40 hJ h40) hw_X7_110 hd_X7_due ⟨rfl, rfl, rfl⟩ o184 (ce7 kd184) rfl ⟨Nat.le_of_ble_eq_true rfl, Nat.le_of_ble_eq_true rfl⟩ ⟨Nat.le_of_ble_eq_true rfl, Nat.le_of_ble_eq_true rfl⟩ hl.1 rfl (Nat.le_of_ble_eq_true rfl) dX7_readPost_40 (fun H locs hP hS => ?_)
    refine lv_aload_n hx hb dX7_readPost_43 rfl (lv_at hl 0 rfl) ?_
    refine gt_X7_32 hx hb hts hown hK hP dX7_readPost_44 ?_
    refine lv_aload_n hx hb dX7_readPost_47 rfl (lv_at hl 0 rfl) ?_
    refine gt_X7_17 hx hb hts hown hK hP dX7_readPost_48 ?_
    refine lv_iconst (v := (1 : Int32)) hx hb dX7_readPost_51 (by decide) ?_
    obtain ⟨v52, h52, hf⟩ := bnd hf
    refine q_iald hx hb hK hP isC187.o isC187.k h52 dX7_readPost_52 ?_
    refine lv_aload_n hx hb dX7_readPost_53 rfl (lv_at hl 0 rfl) ?_
    refine lv_iconst (v := (0 : Int32)) hx hb dX7_readPost_54 (by decide) ?_
    refine lv_aload_n hx hb dX7_readPost_55 rfl (lv_at hl 0 rfl) ?_
    refine gt_X7_13 hx hb hts hown hK hP dX7_readPost_56 ?_
    refine lv_iconst (v := (1 : Int32)) hx hb dX7_readPost_59 (by decide) ?_
    obtain ⟨v60, h60, hf⟩ := bnd hf
    refine q_iald hx hb hK hP isC186.o isC186.k h60 dX7_readPost_60 ?_
    refine lv_iconst (v := (1 : Int32)) hx hb dX7_readPost_61 (by decide) ?_
    refine lv_isub hx hb dX7_readPost_62 ?_
    obtain ⟨⟨v63, σ63⟩, h63, hf⟩ := bnd hf
    dsimp only at hf
    refine q_cVi (As := [.int (0 : Int32), .int (v60 - (1 : Int32))]) hx hb hts hml hown hK hP hS (c_X7_number l D w σ40 (0 : Int32) (v60 - (1 : Int32)) v63 σ63 hJ h63) hw_X7_106 hd_X7_number ⟨rfl, rfl, rfl⟩ o184 (ce7 kd184) rfl ⟨Nat.le_of_ble_eq_true rfl, Nat.le_of_ble_eq_true rfl⟩ ⟨Nat.le_of_ble_eq_true rfl, Nat.le_of_ble_eq_true rfl⟩ hl.1 rfl (Nat.le_of_ble_eq_true rfl) dX7_readPost_63 (fun H locs hP hS => ?_)
    obtain ⟨σ66, h66, hf⟩ := bnd hf
    refine q_iast hx hb hK hP hJ hS isC192.o isC192.k h66 dX7_readPost_66 (fun H locs hP hS => ?_)
    refine lv_aload_n hx hb dX7_readPost_67 rfl (lv_at hl 0 rfl) ?_
    refine lv_bipush (v := (44 : Int32)) hx hb dX7_readPost_68 (by decide) ?_
    obtain ⟨σ70, h70, hf⟩ := bnd hf
    refine q_cVv (As := [.int (44 : Int32)]) hx hb hts hml hown hK hP hS (c_X7_due l D w σ66 (44 : Int32) σ70 hJ h70) hw_X7_110 hd_X7_due ⟨rfl, rfl, rfl⟩ o184 (ce7 kd184) rfl ⟨Nat.le_of_ble_eq_true rfl, Nat.le_of_ble_eq_true rfl⟩ ⟨Nat.le_of_ble_eq_true rfl, Nat.le_of_ble_eq_true rfl⟩ hl.1 rfl (Nat.le_of_ble_eq_true rfl) dX7_readPost_70 (fun H locs hP hS => ?_)
    refine lv_aload_n hx hb dX7_readPost_73 rfl (lv_at hl 0 rfl) ?_
    refine gt_X7_35 hx hb hts hown hK hP dX7_readPost_74 ?_
    refine lv_aload_n hx hb dX7_readPost_77 rfl (lv_at hl 0 rfl) ?_
    refine gt_X7_17 hx hb hts hown hK hP dX7_readPost_78 ?_
    refine lv_iconst (v := (1 : Int32)) hx hb dX7_readPost_81 (by decide) ?_
    obtain ⟨v82, h82, hf⟩ := bnd hf
    refine q_iald hx hb hK hP isC187.o isC187.k h82 dX7_readPost_82 ?_
    refine lv_aload_n hx hb dX7_readPost_83 rfl (lv_at hl 0 rfl) ?_
    refine lv_iconst (v := (0 : Int32)) hx hb dX7_readPost_84 (by decide) ?_
    refine lv_bipush (v := (59 : Int32)) hx hb dX7_readPost_85 (by decide) ?_
    obtain ⟨⟨v87, σ87⟩, h87, hf⟩ := bnd hf
    dsimp only at hf
    refine q_cVi (As := [.int (0 : Int32), .int (59 : Int32)]) hx hb hts hml hown hK hP hS (c_X7_number l D w σ70 (0 : Int32) (59 : Int32) v87 σ87 hJ h87) hw_X7_106 hd_X7_number ⟨rfl, rfl, rfl⟩ o184 (ce7 kd184) rfl ⟨Nat.le_of_ble_eq_true rfl, Nat.le_of_ble_eq_true rfl⟩ ⟨Nat.le_of_ble_eq_true rfl, Nat.le_of_ble_eq_true rfl⟩ hl.1 rfl (Nat.le_of_ble_eq_true rfl) dX7_readPost_87 (fun H locs hP hS => ?_)
    obtain ⟨σ90, h90, hf⟩ := bnd hf
    refine q_iast hx hb hK hP hJ hS isC193.o isC193.k h90 dX7_readPost_90 (fun H locs hP hS => ?_)
    refine lv_aload_n hx hb dX7_readPost_91 rfl (lv_at hl 0 rfl) ?_
    refine gt_X7_17 hx hb hts hown hK hP dX7_readPost_92 ?_
    refine lv_iconst (v := (1 : Int32)) hx hb dX7_readPost_95 (by decide) ?_
    refine lv_dup2_11 hx hb dX7_readPost_96 rfl rfl ?_
    obtain ⟨v97, h97, hf⟩ := bnd hf
    refine q_iald hx hb hK hP isC187.o isC187.k h97 dX7_readPost_97 ?_
    refine lv_iconst (v := (1 : Int32)) hx hb dX7_readPost_98 (by decide) ?_
    refine lv_iadd hx hb dX7_readPost_99 ?_
    obtain ⟨σ100, h100, hf⟩ := bnd hf
    refine q_iast hx hb hK hP hJ hS isC187.o isC187.k h100 dX7_readPost_100 (fun H locs hP hS => ?_)
    have hq := Option.some.inj hf
    exact q_vret hx hb hr hlk hP hS hq dX7_readPost_101
  · have hf := ifn (fun h => h hc) hf
    refine lv_aload_n hx hb dX7_readPost_11 rfl (lv_at hl 0 rfl) ?_
    refine lv_iconst (v := (1 : Int32)) hx hb dX7_readPost_12 (by decide) ?_
    obtain ⟨σ13, h13, hf⟩ := bnd hf
    refine pt_X7_98 hx hb hts hown hK hP hJ hS ⟨rfl, rfl⟩ h13 dX7_readPost_13 (fun H locs hP hS => ?_)
    have hq := Option.some.inj hf
    exact q_vret hx hb hr hlk hP hS hq dX7_readPost_16
def f_X7_readWalker (σ : Sg)  : Option Sg :=
  (ga (σ (188)) (ln (188)) (1 : Int32)).bind fun v5 =>
  if ¬ v5 = (5 : Int32) then
  (ga (σ (186)) (ln (186)) (1 : Int32)).bind fun v23 =>
  (f_X7_number σ (0 : Int32) (v23 - (1 : Int32))).bind fun q26 =>
  (f_X7_due q26.2 (44 : Int32)).bind fun σ33 =>
  (ga (σ33 (186)) (ln (186)) (1 : Int32)).bind fun v43 =>
  (f_X7_number σ33 (0 : Int32) (v43 - (1 : Int32))).bind fun q46 =>
  if ¬ (q46.2 184 12) = 0 then
  (some (sf q46.2 (184) 12 (1 : Int32))).bind fun σ68 =>
  (ga (σ68 (188)) (ln (188)) (1 : Int32)).bind fun v80 =>
  (sa σ68 (194) (ln (194)) v80 q26.1).bind fun σ82 =>
  (ga (σ82 (188)) (ln (188)) (1 : Int32)).bind fun v93 =>
  (sa σ82 (190) (ln (190)) ((5 : Int32) + v93) q46.1).bind fun σ96 =>
  (ga (σ96 (188)) (ln (188)) (1 : Int32)).bind fun v103 =>
  (sa σ96 (188) (ln (188)) (1 : Int32) (v103 + (1 : Int32))).bind fun σ106 =>
  some σ106
  else
  if ¬ q26.1 = q46.1 then
  (some (sf q46.2 (184) 12 (0 : Int32))).bind fun σ68 =>
  (ga (σ68 (188)) (ln (188)) (1 : Int32)).bind fun v80 =>
  (sa σ68 (194) (ln (194)) v80 q26.1).bind fun σ82 =>
  (ga (σ82 (188)) (ln (188)) (1 : Int32)).bind fun v93 =>
  (sa σ82 (190) (ln (190)) ((5 : Int32) + v93) q46.1).bind fun σ96 =>
  (ga (σ96 (188)) (ln (188)) (1 : Int32)).bind fun v103 =>
  (sa σ96 (188) (ln (188)) (1 : Int32) (v103 + (1 : Int32))).bind fun σ106 =>
  some σ106
  else
  (some (sf q46.2 (184) 12 (1 : Int32))).bind fun σ68 =>
  (ga (σ68 (188)) (ln (188)) (1 : Int32)).bind fun v80 =>
  (sa σ68 (194) (ln (194)) v80 q26.1).bind fun σ82 =>
  (ga (σ82 (188)) (ln (188)) (1 : Int32)).bind fun v93 =>
  (sa σ82 (190) (ln (190)) ((5 : Int32) + v93) q46.1).bind fun σ96 =>
  (ga (σ96 (188)) (ln (188)) (1 : Int32)).bind fun v103 =>
  (sa σ96 (188) (ln (188)) (1 : Int32) (v103 + (1 : Int32))).bind fun σ106 =>
  some σ106
  else
  (some (sf σ (184) 12 (1 : Int32))).bind fun σ12 =>
  some σ12
set_option maxHeartbeats 4000000 in
set_option maxRecDepth 100000 in
theorem c_X7_readWalker (l : Launch) (D : va_G) (w : Wv) (σ : Sg)  (σ' : Sg)  (hJ : Inj w) (hf : f_X7_readWalker σ = some σ') : Met l yX7_readWalker (.code yX7_readWalker cX7_readWalker 3 none :: TB) (rmW 3 66) (pcW D w [.ref (w.1 (184))] σ) (qvW D w σ') 0 0 (AL w) := by
  refine q_open (by decide +kernel) (Nat.le_of_ble_eq_true rfl) ?_
  intro p e s m args below meth c ls hx hb hml hr hlk hown hts hK hP hS hl
  have hown : s.vm.findClass RX7 = some m.cls := hown
  have hl : lv_has ls 3 [(0, .ref (w.1 (184)))] := hl
  unfold f_X7_readWalker at hf
  refine lv_aload_n hx hb dX7_readWalker_0 rfl (lv_at hl 0 rfl) ?_
  refine gt_X7_20 hx hb hts hown hK hP dX7_readWalker_1 ?_
  refine lv_iconst (v := (1 : Int32)) hx hb dX7_readWalker_4 (by decide) ?_
  obtain ⟨v5, h5, hf⟩ := bnd hf
  refine q_iald hx hb hK hP isC188.o isC188.k h5 dX7_readWalker_5 ?_
  refine lv_iconst (v := (5 : Int32)) hx hb dX7_readWalker_6 (by decide) ?_
  refine lv_icmp_ne (tgt := 16) hx hb dX7_readWalker_7 (by decide) (fun hc => ?_) (fun hc => ?_)
  · have hf := ifp hc hf
    refine lv_aload_n hx hb dX7_readWalker_16 rfl (lv_at hl 0 rfl) ?_
    refine lv_iconst (v := (0 : Int32)) hx hb dX7_readWalker_17 (by decide) ?_
    refine lv_aload_n hx hb dX7_readWalker_18 rfl (lv_at hl 0 rfl) ?_
    refine gt_X7_13 hx hb hts hown hK hP dX7_readWalker_19 ?_
    refine lv_iconst (v := (1 : Int32)) hx hb dX7_readWalker_22 (by decide) ?_
    obtain ⟨v23, h23, hf⟩ := bnd hf
    refine q_iald hx hb hK hP isC186.o isC186.k h23 dX7_readWalker_23 ?_
    refine lv_iconst (v := (1 : Int32)) hx hb dX7_readWalker_24 (by decide) ?_
    refine lv_isub hx hb dX7_readWalker_25 ?_
    obtain ⟨⟨v26, σ26⟩, h26, hf⟩ := bnd hf
    dsimp only at hf
    refine q_cVi (As := [.int (0 : Int32), .int (v23 - (1 : Int32))]) hx hb hts hml hown hK hP hS (c_X7_number l D w σ (0 : Int32) (v23 - (1 : Int32)) v26 σ26 hJ h26) hw_X7_106 hd_X7_number ⟨rfl, rfl, rfl⟩ o184 (ce7 kd184) rfl ⟨Nat.le_of_ble_eq_true rfl, Nat.le_of_ble_eq_true rfl⟩ ⟨Nat.le_of_ble_eq_true rfl, Nat.le_of_ble_eq_true rfl⟩ hl.1 rfl (Nat.le_of_ble_eq_true rfl) dX7_readWalker_26 (fun H locs hP hS => ?_)
    refine lv_istore_n (lv' := [(1, .int v26), (0, .ref (w.1 (184)))]) hx hb dX7_readWalker_29 rfl hl (by decide) rfl (fun ls hl => ?_)
    refine lv_aload_n hx hb dX7_readWalker_30 rfl (lv_at hl 1 rfl) ?_
    refine lv_bipush (v := (44 : Int32)) hx hb dX7_readWalker_31 (by decide) ?_
    obtain ⟨σ33, h33, hf⟩ := bnd hf
    refine q_cVv (As := [.int (44 : Int32)]) hx hb hts hml hown hK hP hS (c_X7_due l D w σ26 (44 : Int32) σ33 hJ h33) hw_X7_110 hd_X7_due ⟨rfl, rfl, rfl⟩ o184 (ce7 kd184) rfl ⟨Nat.le_of_ble_eq_true rfl, Nat.le_of_ble_eq_true rfl⟩ ⟨Nat.le_of_ble_eq_true rfl, Nat.le_of_ble_eq_true rfl⟩ hl.1 rfl (Nat.le_of_ble_eq_true rfl) dX7_readWalker_33 (fun H locs hP hS => ?_)
    refine lv_aload_n hx hb dX7_readWalker_36 rfl (lv_at hl 1 rfl) ?_
    refine lv_iconst (v := (0 : Int32)) hx hb dX7_readWalker_37 (by decide) ?_
    refine lv_aload_n hx hb dX7_readWalker_38 rfl (lv_at hl 1 rfl) ?_
    refine gt_X7_13 hx hb hts hown hK hP dX7_readWalker_39 ?_
    refine lv_iconst (v := (1 : Int32)) hx hb dX7_readWalker_42 (by decide) ?_
    obtain ⟨v43, h43, hf⟩ := bnd hf
    refine q_iald hx hb hK hP isC186.o isC186.k h43 dX7_readWalker_43 ?_
    refine lv_iconst (v := (1 : Int32)) hx hb dX7_readWalker_44 (by decide) ?_
    refine lv_isub hx hb dX7_readWalker_45 ?_
    obtain ⟨⟨v46, σ46⟩, h46, hf⟩ := bnd hf
    dsimp only at hf
    refine q_cVi (As := [.int (0 : Int32), .int (v43 - (1 : Int32))]) hx hb hts hml hown hK hP hS (c_X7_number l D w σ33 (0 : Int32) (v43 - (1 : Int32)) v46 σ46 hJ h46) hw_X7_106 hd_X7_number ⟨rfl, rfl, rfl⟩ o184 (ce7 kd184) rfl ⟨Nat.le_of_ble_eq_true rfl, Nat.le_of_ble_eq_true rfl⟩ ⟨Nat.le_of_ble_eq_true rfl, Nat.le_of_ble_eq_true rfl⟩ hl.1 rfl (Nat.le_of_ble_eq_true rfl) dX7_readWalker_46 (fun H locs hP hS => ?_)
    refine lv_istore_n (lv' := [(2, .int v46), (1, .int v26), (0, .ref (w.1 (184)))]) hx hb dX7_readWalker_49 rfl hl (by decide) rfl (fun ls hl => ?_)
    refine lv_aload_n hx hb dX7_readWalker_50 rfl (lv_at hl 2 rfl) ?_
    refine lv_aload_n hx hb dX7_readWalker_51 rfl (lv_at hl 2 rfl) ?_
    refine gt_X7_98 hx hb hts hown hK hP dX7_readWalker_52 ?_
    refine lv_if_ne (tgt := 63) hx hb dX7_readWalker_55 (by decide) (fun hc => ?_) (fun hc => ?_)
    · have hf := ifp hc hf
      refine lv_iconst (v := (1 : Int32)) hx hb dX7_readWalker_63 (by decide) ?_
      refine lv_goto (tgt := 68) hx hb dX7_readWalker_64 (by decide) ?_
      obtain ⟨σ68, h68, hf⟩ := bnd hf
      refine pt_X7_98 hx hb hts hown hK hP hJ hS ⟨rfl, rfl⟩ h68 dX7_readWalker_68 (fun H locs hP hS => ?_)
      refine lv_aload_n hx hb dX7_readWalker_71 rfl (lv_at hl 2 rfl) ?_
      refine gt_X7_38 hx hb hts hown hK hP dX7_readWalker_72 ?_
      refine lv_aload_n hx hb dX7_readWalker_75 rfl (lv_at hl 2 rfl) ?_
      refine gt_X7_20 hx hb hts hown hK hP dX7_readWalker_76 ?_
      refine lv_iconst (v := (1 : Int32)) hx hb dX7_readWalker_79 (by decide) ?_
      obtain ⟨v80, h80, hf⟩ := bnd hf
      refine q_iald hx hb hK hP isC188.o isC188.k h80 dX7_readWalker_80 ?_
      refine lv_iload_n hx hb dX7_readWalker_81 rfl (lv_at hl 1 rfl) ?_
      obtain ⟨σ82, h82, hf⟩ := bnd hf
      refine q_iast hx hb hK hP hJ hS isC194.o isC194.k h82 dX7_readWalker_82 (fun H locs hP hS => ?_)
      refine lv_aload_n hx hb dX7_readWalker_83 rfl (lv_at hl 2 rfl) ?_
      refine gt_X7_26 hx hb hts hown hK hP dX7_readWalker_84 ?_
      refine lv_iconst (v := (5 : Int32)) hx hb dX7_readWalker_87 (by decide) ?_
      refine lv_aload_n hx hb dX7_readWalker_88 rfl (lv_at hl 2 rfl) ?_
      refine gt_X7_20 hx hb hts hown hK hP dX7_readWalker_89 ?_
      refine lv_iconst (v := (1 : Int32)) hx hb dX7_readWalker_92 (by decide) ?_
      obtain ⟨v93, h93, hf⟩ := bnd hf
      refine q_iald hx hb hK hP isC188.o isC188.k h93 dX7_readWalker_93 ?_
      refine lv_iadd hx hb dX7_readWalker_94 ?_
      refine lv_iload_n hx hb dX7_readWalker_95 rfl (lv_at hl 0 rfl) ?_
      obtain ⟨σ96, h96, hf⟩ := bnd hf
      refine q_iast hx hb hK hP hJ hS isC190.o isC190.k h96 dX7_readWalker_96 (fun H locs hP hS => ?_)
      refine lv_aload_n hx hb dX7_readWalker_97 rfl (lv_at hl 2 rfl) ?_
      refine gt_X7_20 hx hb hts hown hK hP dX7_readWalker_98 ?_
      refine lv_iconst (v := (1 : Int32)) hx hb dX7_readWalker_101 (by decide) ?_
      refine lv_dup2_11 hx hb dX7_readWalker_102 rfl rfl ?_
      obtain ⟨v103, h103, hf⟩ := bnd hf
      refine q_iald hx hb hK hP isC188.o isC188.k h103 dX7_readWalker_103 ?_
      refine lv_iconst (v := (1 : Int32)) hx hb dX7_readWalker_104 (by decide) ?_
      refine lv_iadd hx hb dX7_readWalker_105 ?_
      obtain ⟨σ106, h106, hf⟩ := bnd hf
      refine q_iast hx hb hK hP hJ hS isC188.o isC188.k h106 dX7_readWalker_106 (fun H locs hP hS => ?_)
      have hq := Option.some.inj hf
      exact q_vret hx hb hr hlk hP hS hq dX7_readWalker_107
    · have hf := ifn (fun h => h hc) hf
      refine lv_iload_n hx hb dX7_readWalker_58 rfl (lv_at hl 1 rfl) ?_
      refine lv_iload_n hx hb dX7_readWalker_59 rfl (lv_at hl 0 rfl) ?_
      refine lv_icmp_ne (tgt := 67) hx hb dX7_readWalker_60 (by decide) (fun hc => ?_) (fun hc => ?_)
      · have hf := ifp hc hf
        refine lv_iconst (v := (0 : Int32)) hx hb dX7_readWalker_67 (by decide) ?_
        obtain ⟨σ68, h68, hf⟩ := bnd hf
        refine pt_X7_98 hx hb hts hown hK hP hJ hS ⟨rfl, rfl⟩ h68 dX7_readWalker_68 (fun H locs hP hS => ?_)
        refine lv_aload_n hx hb dX7_readWalker_71 rfl (lv_at hl 2 rfl) ?_
        refine gt_X7_38 hx hb hts hown hK hP dX7_readWalker_72 ?_
        refine lv_aload_n hx hb dX7_readWalker_75 rfl (lv_at hl 2 rfl) ?_
        refine gt_X7_20 hx hb hts hown hK hP dX7_readWalker_76 ?_
        refine lv_iconst (v := (1 : Int32)) hx hb dX7_readWalker_79 (by decide) ?_
        obtain ⟨v80, h80, hf⟩ := bnd hf
        refine q_iald hx hb hK hP isC188.o isC188.k h80 dX7_readWalker_80 ?_
        refine lv_iload_n hx hb dX7_readWalker_81 rfl (lv_at hl 1 rfl) ?_
        obtain ⟨σ82, h82, hf⟩ := bnd hf
        refine q_iast hx hb hK hP hJ hS isC194.o isC194.k h82 dX7_readWalker_82 (fun H locs hP hS => ?_)
        refine lv_aload_n hx hb dX7_readWalker_83 rfl (lv_at hl 2 rfl) ?_
        refine gt_X7_26 hx hb hts hown hK hP dX7_readWalker_84 ?_
        refine lv_iconst (v := (5 : Int32)) hx hb dX7_readWalker_87 (by decide) ?_
        refine lv_aload_n hx hb dX7_readWalker_88 rfl (lv_at hl 2 rfl) ?_
        refine gt_X7_20 hx hb hts hown hK hP dX7_readWalker_89 ?_
        refine lv_iconst (v := (1 : Int32)) hx hb dX7_readWalker_92 (by decide) ?_
        obtain ⟨v93, h93, hf⟩ := bnd hf
        refine q_iald hx hb hK hP isC188.o isC188.k h93 dX7_readWalker_93 ?_
        refine lv_iadd hx hb dX7_readWalker_94 ?_
        refine lv_iload_n hx hb dX7_readWalker_95 rfl (lv_at hl 0 rfl) ?_
        obtain ⟨σ96, h96, hf⟩ := bnd hf
        refine q_iast hx hb hK hP hJ hS isC190.o isC190.k h96 dX7_readWalker_96 (fun H locs hP hS => ?_)
        refine lv_aload_n hx hb dX7_readWalker_97 rfl (lv_at hl 2 rfl) ?_
        refine gt_X7_20 hx hb hts hown hK hP dX7_readWalker_98 ?_
        refine lv_iconst (v := (1 : Int32)) hx hb dX7_readWalker_101 (by decide) ?_
        refine lv_dup2_11 hx hb dX7_readWalker_102 rfl rfl ?_
        obtain ⟨v103, h103, hf⟩ := bnd hf
        refine q_iald hx hb hK hP isC188.o isC188.k h103 dX7_readWalker_103 ?_
        refine lv_iconst (v := (1 : Int32)) hx hb dX7_readWalker_104 (by decide) ?_
        refine lv_iadd hx hb dX7_readWalker_105 ?_
        obtain ⟨σ106, h106, hf⟩ := bnd hf
        refine q_iast hx hb hK hP hJ hS isC188.o isC188.k h106 dX7_readWalker_106 (fun H locs hP hS => ?_)
        have hq := Option.some.inj hf
        exact q_vret hx hb hr hlk hP hS hq dX7_readWalker_107
      · have hf := ifn (fun h => h hc) hf
        refine lv_iconst (v := (1 : Int32)) hx hb dX7_readWalker_63 (by decide) ?_
        refine lv_goto (tgt := 68) hx hb dX7_readWalker_64 (by decide) ?_
        obtain ⟨σ68, h68, hf⟩ := bnd hf
        refine pt_X7_98 hx hb hts hown hK hP hJ hS ⟨rfl, rfl⟩ h68 dX7_readWalker_68 (fun H locs hP hS => ?_)
        refine lv_aload_n hx hb dX7_readWalker_71 rfl (lv_at hl 2 rfl) ?_
        refine gt_X7_38 hx hb hts hown hK hP dX7_readWalker_72 ?_
        refine lv_aload_n hx hb dX7_readWalker_75 rfl (lv_at hl 2 rfl) ?_
        refine gt_X7_20 hx hb hts hown hK hP dX7_readWalker_76 ?_
        refine lv_iconst (v := (1 : Int32)) hx hb dX7_readWalker_79 (by decide) ?_
        obtain ⟨v80, h80, hf⟩ := bnd hf
        refine q_iald hx hb hK hP isC188.o isC188.k h80 dX7_readWalker_80 ?_
        refine lv_iload_n hx hb dX7_readWalker_81 rfl (lv_at hl 1 rfl) ?_
        obtain ⟨σ82, h82, hf⟩ := bnd hf
        refine q_iast hx hb hK hP hJ hS isC194.o isC194.k h82 dX7_readWalker_82 (fun H locs hP hS => ?_)
        refine lv_aload_n hx hb dX7_readWalker_83 rfl (lv_at hl 2 rfl) ?_
        refine gt_X7_26 hx hb hts hown hK hP dX7_readWalker_84 ?_
        refine lv_iconst (v := (5 : Int32)) hx hb dX7_readWalker_87 (by decide) ?_
        refine lv_aload_n hx hb dX7_readWalker_88 rfl (lv_at hl 2 rfl) ?_
        refine gt_X7_20 hx hb hts hown hK hP dX7_readWalker_89 ?_
        refine lv_iconst (v := (1 : Int32)) hx hb dX7_readWalker_92 (by decide) ?_
        obtain ⟨v93, h93, hf⟩ := bnd hf
        refine q_iald hx hb hK hP isC188.o isC188.k h93 dX7_readWalker_93 ?_
        refine lv_iadd hx hb dX7_readWalker_94 ?_
        refine lv_iload_n hx hb dX7_readWalker_95 rfl (lv_at hl 0 rfl) ?_
        obtain ⟨σ96, h96, hf⟩ := bnd hf
        refine q_iast hx hb hK hP hJ hS isC190.o isC190.k h96 dX7_readWalker_96 (fun H locs hP hS => ?_)
        refine lv_aload_n hx hb dX7_readWalker_97 rfl (lv_at hl 2 rfl) ?_
        refine gt_X7_20 hx hb hts hown hK hP dX7_readWalker_98 ?_
        refine lv_iconst (v := (1 : Int32)) hx hb dX7_readWalker_101 (by decide) ?_
        refine lv_dup2_11 hx hb dX7_readWalker_102 rfl rfl ?_
        obtain ⟨v103, h103, hf⟩ := bnd hf
        refine q_iald hx hb hK hP isC188.o isC188.k h103 dX7_readWalker_103 ?_
        refine lv_iconst (v := (1 : Int32)) hx hb dX7_readWalker_104 (by decide) ?_
        refine lv_iadd hx hb dX7_readWalker_105 ?_
        obtain ⟨σ106, h106, hf⟩ := bnd hf
        refine q_iast hx hb hK hP hJ hS isC188.o isC188.k h106 dX7_readWalker_106 (fun H locs hP hS => ?_)
        have hq := Option.some.inj hf
        exact q_vret hx hb hr hlk hP hS hq dX7_readWalker_107
  · have hf := ifn (fun h => h hc) hf
    refine lv_aload_n hx hb dX7_readWalker_10 rfl (lv_at hl 0 rfl) ?_
    refine lv_iconst (v := (1 : Int32)) hx hb dX7_readWalker_11 (by decide) ?_
    obtain ⟨σ12, h12, hf⟩ := bnd hf
    refine pt_X7_98 hx hb hts hown hK hP hJ hS ⟨rfl, rfl⟩ h12 dX7_readWalker_12 (fun H locs hP hS => ?_)
    have hq := Option.some.inj hf
    exact q_vret hx hb hr hlk hP hS hq dX7_readWalker_15
def f_X7_readItem (σ : Sg)  : Option Sg :=
  (f_X7_here σ).bind fun v1 =>
  (some (sf σ (184) 11 ((σ 184 11) + (1 : Int32)))).bind fun σ12 =>
  if v1 = (110 : Int32) then
  if (σ12 184 13) ≤ 0 then
  (some (sf σ12 (184) 12 (0 : Int32))).bind fun σ85 =>
  (f_X7_number σ85 (2 : Int32) (8 : Int32)).bind fun q97 =>
  (sa q97.2 (186) (ln (186)) (1 : Int32) q97.1).bind fun σ100 =>
  (f_X7_due σ100 (59 : Int32)).bind fun σ133 =>
  (some (sf σ133 (184) 13 ((σ133 184 13) + (1 : Int32)))).bind fun σ143 =>
  some σ143
  else
  (some (sf σ12 (184) 12 (1 : Int32))).bind fun σ85 =>
  (f_X7_number σ85 (2 : Int32) (8 : Int32)).bind fun q97 =>
  (sa q97.2 (186) (ln (186)) (1 : Int32) q97.1).bind fun σ100 =>
  (f_X7_due σ100 (59 : Int32)).bind fun σ133 =>
  (some (sf σ133 (184) 13 ((σ133 184 13) + (1 : Int32)))).bind fun σ143 =>
  some σ143
  else if v1 = (111 : Int32) then
  (some (sf σ12 (184) 12 (1 : Int32))).bind fun σ127 =>
  (f_X7_due σ127 (59 : Int32)).bind fun σ133 =>
  (some (sf σ133 (184) 13 ((σ133 184 13) + (1 : Int32)))).bind fun σ143 =>
  some σ143
  else if v1 = (112 : Int32) then
  (f_X7_readPost σ12).bind fun σ112 =>
  (f_X7_due σ112 (59 : Int32)).bind fun σ133 =>
  (some (sf σ133 (184) 13 ((σ133 184 13) + (1 : Int32)))).bind fun σ143 =>
  some σ143
  else if v1 = (113 : Int32) then
  (some (sf σ12 (184) 12 (1 : Int32))).bind fun σ127 =>
  (f_X7_due σ127 (59 : Int32)).bind fun σ133 =>
  (some (sf σ133 (184) 13 ((σ133 184 13) + (1 : Int32)))).bind fun σ143 =>
  some σ143
  else if v1 = (114 : Int32) then
  (f_X7_readRoad σ12).bind fun σ105 =>
  (f_X7_due σ105 (59 : Int32)).bind fun σ133 =>
  (some (sf σ133 (184) 13 ((σ133 184 13) + (1 : Int32)))).bind fun σ143 =>
  some σ143
  else if v1 = (115 : Int32) then
  (some (sf σ12 (184) 12 (1 : Int32))).bind fun σ127 =>
  (f_X7_due σ127 (59 : Int32)).bind fun σ133 =>
  (some (sf σ133 (184) 13 ((σ133 184 13) + (1 : Int32)))).bind fun σ143 =>
  some σ143
  else if v1 = (116 : Int32) then
  (some (sf σ12 (184) 12 (1 : Int32))).bind fun σ127 =>
  (f_X7_due σ127 (59 : Int32)).bind fun σ133 =>
  (some (sf σ133 (184) 13 ((σ133 184 13) + (1 : Int32)))).bind fun σ143 =>
  some σ143
  else if v1 = (117 : Int32) then
  (some (sf σ12 (184) 12 (1 : Int32))).bind fun σ127 =>
  (f_X7_due σ127 (59 : Int32)).bind fun σ133 =>
  (some (sf σ133 (184) 13 ((σ133 184 13) + (1 : Int32)))).bind fun σ143 =>
  some σ143
  else if v1 = (118 : Int32) then
  (some (sf σ12 (184) 12 (1 : Int32))).bind fun σ127 =>
  (f_X7_due σ127 (59 : Int32)).bind fun σ133 =>
  (some (sf σ133 (184) 13 ((σ133 184 13) + (1 : Int32)))).bind fun σ143 =>
  some σ143
  else if v1 = (119 : Int32) then
  (f_X7_readWalker σ12).bind fun σ119 =>
  (f_X7_due σ119 (59 : Int32)).bind fun σ133 =>
  (some (sf σ133 (184) 13 ((σ133 184 13) + (1 : Int32)))).bind fun σ143 =>
  some σ143
  else (some (sf σ12 (184) 12 (1 : Int32))).bind fun σ127 =>
  (f_X7_due σ127 (59 : Int32)).bind fun σ133 =>
  (some (sf σ133 (184) 13 ((σ133 184 13) + (1 : Int32)))).bind fun σ143 =>
  some σ143
set_option maxHeartbeats 4000000 in
set_option maxRecDepth 100000 in
theorem c_X7_readItem (l : Launch) (D : va_G) (w : Wv) (σ : Sg)  (σ' : Sg)  (hJ : Inj w) (hf : f_X7_readItem σ = some σ') : Met l yX7_readItem (.code yX7_readItem cX7_readItem 2 none :: TB) (rmW 4 89) (pcW D w [.ref (w.1 (184))] σ) (qvW D w σ') 0 0 (AL w) := by
  refine q_open (by decide +kernel) (Nat.le_of_ble_eq_true rfl) ?_
  intro p e s m args below meth c ls hx hb hml hr hlk hown hts hK hP hS hl
  have hown : s.vm.findClass RX7 = some m.cls := hown
  have hl : lv_has ls 2 [(0, .ref (w.1 (184)))] := hl
  unfold f_X7_readItem at hf
  refine lv_aload_n hx hb dX7_readItem_0 rfl (lv_at hl 0 rfl) ?_
  obtain ⟨v1, h1, hf⟩ := bnd hf
  refine q_cVi (As := []) hx hb hts hml hown hK hP hS (c_X7_here l D w σ v1 h1) hw_X7_94 hd_X7_here ⟨rfl, rfl, rfl⟩ o184 (ce7 kd184) rfl ⟨Nat.le_of_ble_eq_true rfl, Nat.le_of_ble_eq_true rfl⟩ ⟨Nat.le_of_ble_eq_true rfl, Nat.le_of_ble_eq_true rfl⟩ hl.1 rfl (Nat.le_of_ble_eq_true rfl) dX7_readItem_1 (fun H locs hP hS => ?_)
  refine lv_istore_n (lv' := [(1, .int v1), (0, .ref (w.1 (184)))]) hx hb dX7_readItem_4 rfl hl (by decide) rfl (fun ls hl => ?_)
  refine lv_aload_n hx hb dX7_readItem_5 rfl (lv_at hl 1 rfl) ?_
  refine lv_dup hx hb dX7_readItem_6 rfl ?_
  refine gt_X7_91 hx hb hts hown hK hP dX7_readItem_7 ?_
  refine lv_iconst (v := (1 : Int32)) hx hb dX7_readItem_10 (by decide) ?_
  refine lv_iadd hx hb dX7_readItem_11 ?_
  obtain ⟨σ12, h12, hf⟩ := bnd hf
  refine pt_X7_91 hx hb hts hown hK hP hJ hS h12 dX7_readItem_12 (fun H locs hP hS => ?_)
  refine lv_iload_n hx hb dX7_readItem_15 rfl (lv_at hl 0 rfl) ?_
  rcases Decidable.em (v1 = (110 : Int32)) with hc | hc110
  · have hf := ifp hc hf
    refine lv_tableIn (off := 56) (tgt := 72) hx hb dX7_readItem_16 (by rw [hc]; decide) (by rw [hc]; decide) (by rw [hc]; rfl) (by decide) ?_
    refine lv_aload_n hx hb dX7_readItem_72 rfl (lv_at hl 1 rfl) ?_
    refine lv_aload_n hx hb dX7_readItem_73 rfl (lv_at hl 1 rfl) ?_
    refine gt_X7_114 hx hb hts hown hK hP dX7_readItem_74 ?_
    refine lv_if_le (tgt := 84) hx hb dX7_readItem_77 (by decide) (fun hc => ?_) (fun hc => ?_)
    · have hf := ifp hc hf
      refine lv_iconst (v := (0 : Int32)) hx hb dX7_readItem_84 (by decide) ?_
      obtain ⟨σ85, h85, hf⟩ := bnd hf
      refine pt_X7_98 hx hb hts hown hK hP hJ hS ⟨rfl, rfl⟩ h85 dX7_readItem_85 (fun H locs hP hS => ?_)
      refine lv_aload_n hx hb dX7_readItem_88 rfl (lv_at hl 1 rfl) ?_
      refine gt_X7_13 hx hb hts hown hK hP dX7_readItem_89 ?_
      refine lv_iconst (v := (1 : Int32)) hx hb dX7_readItem_92 (by decide) ?_
      refine lv_aload_n hx hb dX7_readItem_93 rfl (lv_at hl 1 rfl) ?_
      refine lv_iconst (v := (2 : Int32)) hx hb dX7_readItem_94 (by decide) ?_
      refine lv_bipush (v := (8 : Int32)) hx hb dX7_readItem_95 (by decide) ?_
      obtain ⟨⟨v97, σ97⟩, h97, hf⟩ := bnd hf
      dsimp only at hf
      refine q_cVi (As := [.int (2 : Int32), .int (8 : Int32)]) hx hb hts hml hown hK hP hS (c_X7_number l D w σ85 (2 : Int32) (8 : Int32) v97 σ97 hJ h97) hw_X7_106 hd_X7_number ⟨rfl, rfl, rfl⟩ o184 (ce7 kd184) rfl ⟨Nat.le_of_ble_eq_true rfl, Nat.le_of_ble_eq_true rfl⟩ ⟨Nat.le_of_ble_eq_true rfl, Nat.le_of_ble_eq_true rfl⟩ hl.1 rfl (Nat.le_of_ble_eq_true rfl) dX7_readItem_97 (fun H locs hP hS => ?_)
      obtain ⟨σ100, h100, hf⟩ := bnd hf
      refine q_iast hx hb hK hP hJ hS isC186.o isC186.k h100 dX7_readItem_100 (fun H locs hP hS => ?_)
      refine lv_goto (tgt := 130) hx hb dX7_readItem_101 (by decide) ?_
      refine lv_aload_n hx hb dX7_readItem_130 rfl (lv_at hl 1 rfl) ?_
      refine lv_bipush (v := (59 : Int32)) hx hb dX7_readItem_131 (by decide) ?_
      obtain ⟨σ133, h133, hf⟩ := bnd hf
      refine q_cVv (As := [.int (59 : Int32)]) hx hb hts hml hown hK hP hS (c_X7_due l D w σ100 (59 : Int32) σ133 hJ h133) hw_X7_110 hd_X7_due ⟨rfl, rfl, rfl⟩ o184 (ce7 kd184) rfl ⟨Nat.le_of_ble_eq_true rfl, Nat.le_of_ble_eq_true rfl⟩ ⟨Nat.le_of_ble_eq_true rfl, Nat.le_of_ble_eq_true rfl⟩ hl.1 rfl (Nat.le_of_ble_eq_true rfl) dX7_readItem_133 (fun H locs hP hS => ?_)
      refine lv_aload_n hx hb dX7_readItem_136 rfl (lv_at hl 1 rfl) ?_
      refine lv_dup hx hb dX7_readItem_137 rfl ?_
      refine gt_X7_114 hx hb hts hown hK hP dX7_readItem_138 ?_
      refine lv_iconst (v := (1 : Int32)) hx hb dX7_readItem_141 (by decide) ?_
      refine lv_iadd hx hb dX7_readItem_142 ?_
      obtain ⟨σ143, h143, hf⟩ := bnd hf
      refine pt_X7_114 hx hb hts hown hK hP hJ hS h143 dX7_readItem_143 (fun H locs hP hS => ?_)
      have hq := Option.some.inj hf
      exact q_vret hx hb hr hlk hP hS hq dX7_readItem_146
    · have hf := ifn hc hf
      refine lv_iconst (v := (1 : Int32)) hx hb dX7_readItem_80 (by decide) ?_
      refine lv_goto (tgt := 85) hx hb dX7_readItem_81 (by decide) ?_
      obtain ⟨σ85, h85, hf⟩ := bnd hf
      refine pt_X7_98 hx hb hts hown hK hP hJ hS ⟨rfl, rfl⟩ h85 dX7_readItem_85 (fun H locs hP hS => ?_)
      refine lv_aload_n hx hb dX7_readItem_88 rfl (lv_at hl 1 rfl) ?_
      refine gt_X7_13 hx hb hts hown hK hP dX7_readItem_89 ?_
      refine lv_iconst (v := (1 : Int32)) hx hb dX7_readItem_92 (by decide) ?_
      refine lv_aload_n hx hb dX7_readItem_93 rfl (lv_at hl 1 rfl) ?_
      refine lv_iconst (v := (2 : Int32)) hx hb dX7_readItem_94 (by decide) ?_
      refine lv_bipush (v := (8 : Int32)) hx hb dX7_readItem_95 (by decide) ?_
      obtain ⟨⟨v97, σ97⟩, h97, hf⟩ := bnd hf
      dsimp only at hf
      refine q_cVi (As := [.int (2 : Int32), .int (8 : Int32)]) hx hb hts hml hown hK hP hS (c_X7_number l D w σ85 (2 : Int32) (8 : Int32) v97 σ97 hJ h97) hw_X7_106 hd_X7_number ⟨rfl, rfl, rfl⟩ o184 (ce7 kd184) rfl ⟨Nat.le_of_ble_eq_true rfl, Nat.le_of_ble_eq_true rfl⟩ ⟨Nat.le_of_ble_eq_true rfl, Nat.le_of_ble_eq_true rfl⟩ hl.1 rfl (Nat.le_of_ble_eq_true rfl) dX7_readItem_97 (fun H locs hP hS => ?_)
      obtain ⟨σ100, h100, hf⟩ := bnd hf
      refine q_iast hx hb hK hP hJ hS isC186.o isC186.k h100 dX7_readItem_100 (fun H locs hP hS => ?_)
      refine lv_goto (tgt := 130) hx hb dX7_readItem_101 (by decide) ?_
      refine lv_aload_n hx hb dX7_readItem_130 rfl (lv_at hl 1 rfl) ?_
      refine lv_bipush (v := (59 : Int32)) hx hb dX7_readItem_131 (by decide) ?_
      obtain ⟨σ133, h133, hf⟩ := bnd hf
      refine q_cVv (As := [.int (59 : Int32)]) hx hb hts hml hown hK hP hS (c_X7_due l D w σ100 (59 : Int32) σ133 hJ h133) hw_X7_110 hd_X7_due ⟨rfl, rfl, rfl⟩ o184 (ce7 kd184) rfl ⟨Nat.le_of_ble_eq_true rfl, Nat.le_of_ble_eq_true rfl⟩ ⟨Nat.le_of_ble_eq_true rfl, Nat.le_of_ble_eq_true rfl⟩ hl.1 rfl (Nat.le_of_ble_eq_true rfl) dX7_readItem_133 (fun H locs hP hS => ?_)
      refine lv_aload_n hx hb dX7_readItem_136 rfl (lv_at hl 1 rfl) ?_
      refine lv_dup hx hb dX7_readItem_137 rfl ?_
      refine gt_X7_114 hx hb hts hown hK hP dX7_readItem_138 ?_
      refine lv_iconst (v := (1 : Int32)) hx hb dX7_readItem_141 (by decide) ?_
      refine lv_iadd hx hb dX7_readItem_142 ?_
      obtain ⟨σ143, h143, hf⟩ := bnd hf
      refine pt_X7_114 hx hb hts hown hK hP hJ hS h143 dX7_readItem_143 (fun H locs hP hS => ?_)
      have hq := Option.some.inj hf
      exact q_vret hx hb hr hlk hP hS hq dX7_readItem_146
  have hf := ifn hc110 hf
  rcases Decidable.em (v1 = (111 : Int32)) with hc | hc111
  · have hf := ifp hc hf
    refine lv_tableIn (off := 109) (tgt := 125) hx hb dX7_readItem_16 (by rw [hc]; decide) (by rw [hc]; decide) (by rw [hc]; rfl) (by decide) ?_
    refine lv_aload_n hx hb dX7_readItem_125 rfl (lv_at hl 1 rfl) ?_
    refine lv_iconst (v := (1 : Int32)) hx hb dX7_readItem_126 (by decide) ?_
    obtain ⟨σ127, h127, hf⟩ := bnd hf
    refine pt_X7_98 hx hb hts hown hK hP hJ hS ⟨rfl, rfl⟩ h127 dX7_readItem_127 (fun H locs hP hS => ?_)
    refine lv_aload_n hx hb dX7_readItem_130 rfl (lv_at hl 1 rfl) ?_
    refine lv_bipush (v := (59 : Int32)) hx hb dX7_readItem_131 (by decide) ?_
    obtain ⟨σ133, h133, hf⟩ := bnd hf
    refine q_cVv (As := [.int (59 : Int32)]) hx hb hts hml hown hK hP hS (c_X7_due l D w σ127 (59 : Int32) σ133 hJ h133) hw_X7_110 hd_X7_due ⟨rfl, rfl, rfl⟩ o184 (ce7 kd184) rfl ⟨Nat.le_of_ble_eq_true rfl, Nat.le_of_ble_eq_true rfl⟩ ⟨Nat.le_of_ble_eq_true rfl, Nat.le_of_ble_eq_true rfl⟩ hl.1 rfl (Nat.le_of_ble_eq_true rfl) dX7_readItem_133 (fun H locs hP hS => ?_)
    refine lv_aload_n hx hb dX7_readItem_136 rfl (lv_at hl 1 rfl) ?_
    refine lv_dup hx hb dX7_readItem_137 rfl ?_
    refine gt_X7_114 hx hb hts hown hK hP dX7_readItem_138 ?_
    refine lv_iconst (v := (1 : Int32)) hx hb dX7_readItem_141 (by decide) ?_
    refine lv_iadd hx hb dX7_readItem_142 ?_
    obtain ⟨σ143, h143, hf⟩ := bnd hf
    refine pt_X7_114 hx hb hts hown hK hP hJ hS h143 dX7_readItem_143 (fun H locs hP hS => ?_)
    have hq := Option.some.inj hf
    exact q_vret hx hb hr hlk hP hS hq dX7_readItem_146
  have hf := ifn hc111 hf
  rcases Decidable.em (v1 = (112 : Int32)) with hc | hc112
  · have hf := ifp hc hf
    refine lv_tableIn (off := 95) (tgt := 111) hx hb dX7_readItem_16 (by rw [hc]; decide) (by rw [hc]; decide) (by rw [hc]; rfl) (by decide) ?_
    refine lv_aload_n hx hb dX7_readItem_111 rfl (lv_at hl 1 rfl) ?_
    obtain ⟨σ112, h112, hf⟩ := bnd hf
    refine q_cVv (As := []) hx hb hts hml hown hK hP hS (c_X7_readPost l D w σ12 σ112 hJ h112) hw_X7_120 hd_X7_readPost ⟨rfl, rfl, rfl⟩ o184 (ce7 kd184) rfl ⟨Nat.le_of_ble_eq_true rfl, Nat.le_of_ble_eq_true rfl⟩ ⟨Nat.le_of_ble_eq_true rfl, Nat.le_of_ble_eq_true rfl⟩ hl.1 rfl (Nat.le_of_ble_eq_true rfl) dX7_readItem_112 (fun H locs hP hS => ?_)
    refine lv_goto (tgt := 130) hx hb dX7_readItem_115 (by decide) ?_
    refine lv_aload_n hx hb dX7_readItem_130 rfl (lv_at hl 1 rfl) ?_
    refine lv_bipush (v := (59 : Int32)) hx hb dX7_readItem_131 (by decide) ?_
    obtain ⟨σ133, h133, hf⟩ := bnd hf
    refine q_cVv (As := [.int (59 : Int32)]) hx hb hts hml hown hK hP hS (c_X7_due l D w σ112 (59 : Int32) σ133 hJ h133) hw_X7_110 hd_X7_due ⟨rfl, rfl, rfl⟩ o184 (ce7 kd184) rfl ⟨Nat.le_of_ble_eq_true rfl, Nat.le_of_ble_eq_true rfl⟩ ⟨Nat.le_of_ble_eq_true rfl, Nat.le_of_ble_eq_true rfl⟩ hl.1 rfl (Nat.le_of_ble_eq_true rfl) dX7_readItem_133 (fun H locs hP hS => ?_)
    refine lv_aload_n hx hb dX7_readItem_136 rfl (lv_at hl 1 rfl) ?_
    refine lv_dup hx hb dX7_readItem_137 rfl ?_
    refine gt_X7_114 hx hb hts hown hK hP dX7_readItem_138 ?_
    refine lv_iconst (v := (1 : Int32)) hx hb dX7_readItem_141 (by decide) ?_
    refine lv_iadd hx hb dX7_readItem_142 ?_
    obtain ⟨σ143, h143, hf⟩ := bnd hf
    refine pt_X7_114 hx hb hts hown hK hP hJ hS h143 dX7_readItem_143 (fun H locs hP hS => ?_)
    have hq := Option.some.inj hf
    exact q_vret hx hb hr hlk hP hS hq dX7_readItem_146
  have hf := ifn hc112 hf
  rcases Decidable.em (v1 = (113 : Int32)) with hc | hc113
  · have hf := ifp hc hf
    refine lv_tableIn (off := 109) (tgt := 125) hx hb dX7_readItem_16 (by rw [hc]; decide) (by rw [hc]; decide) (by rw [hc]; rfl) (by decide) ?_
    refine lv_aload_n hx hb dX7_readItem_125 rfl (lv_at hl 1 rfl) ?_
    refine lv_iconst (v := (1 : Int32)) hx hb dX7_readItem_126 (by decide) ?_
    obtain ⟨σ127, h127, hf⟩ := bnd hf
    refine pt_X7_98 hx hb hts hown hK hP hJ hS ⟨rfl, rfl⟩ h127 dX7_readItem_127 (fun H locs hP hS => ?_)
    refine lv_aload_n hx hb dX7_readItem_130 rfl (lv_at hl 1 rfl) ?_
    refine lv_bipush (v := (59 : Int32)) hx hb dX7_readItem_131 (by decide) ?_
    obtain ⟨σ133, h133, hf⟩ := bnd hf
    refine q_cVv (As := [.int (59 : Int32)]) hx hb hts hml hown hK hP hS (c_X7_due l D w σ127 (59 : Int32) σ133 hJ h133) hw_X7_110 hd_X7_due ⟨rfl, rfl, rfl⟩ o184 (ce7 kd184) rfl ⟨Nat.le_of_ble_eq_true rfl, Nat.le_of_ble_eq_true rfl⟩ ⟨Nat.le_of_ble_eq_true rfl, Nat.le_of_ble_eq_true rfl⟩ hl.1 rfl (Nat.le_of_ble_eq_true rfl) dX7_readItem_133 (fun H locs hP hS => ?_)
    refine lv_aload_n hx hb dX7_readItem_136 rfl (lv_at hl 1 rfl) ?_
    refine lv_dup hx hb dX7_readItem_137 rfl ?_
    refine gt_X7_114 hx hb hts hown hK hP dX7_readItem_138 ?_
    refine lv_iconst (v := (1 : Int32)) hx hb dX7_readItem_141 (by decide) ?_
    refine lv_iadd hx hb dX7_readItem_142 ?_
    obtain ⟨σ143, h143, hf⟩ := bnd hf
    refine pt_X7_114 hx hb hts hown hK hP hJ hS h143 dX7_readItem_143 (fun H locs hP hS => ?_)
    have hq := Option.some.inj hf
    exact q_vret hx hb hr hlk hP hS hq dX7_readItem_146
  have hf := ifn hc113 hf
  rcases Decidable.em (v1 = (114 : Int32)) with hc | hc114
  · have hf := ifp hc hf
    refine lv_tableIn (off := 88) (tgt := 104) hx hb dX7_readItem_16 (by rw [hc]; decide) (by rw [hc]; decide) (by rw [hc]; rfl) (by decide) ?_
    refine lv_aload_n hx hb dX7_readItem_104 rfl (lv_at hl 1 rfl) ?_
    obtain ⟨σ105, h105, hf⟩ := bnd hf
    refine q_cVv (As := []) hx hb hts hml hown hK hP hS (c_X7_readRoad l D w σ12 σ105 hJ h105) hw_X7_117 hd_X7_readRoad ⟨rfl, rfl, rfl⟩ o184 (ce7 kd184) rfl ⟨Nat.le_of_ble_eq_true rfl, Nat.le_of_ble_eq_true rfl⟩ ⟨Nat.le_of_ble_eq_true rfl, Nat.le_of_ble_eq_true rfl⟩ hl.1 rfl (Nat.le_of_ble_eq_true rfl) dX7_readItem_105 (fun H locs hP hS => ?_)
    refine lv_goto (tgt := 130) hx hb dX7_readItem_108 (by decide) ?_
    refine lv_aload_n hx hb dX7_readItem_130 rfl (lv_at hl 1 rfl) ?_
    refine lv_bipush (v := (59 : Int32)) hx hb dX7_readItem_131 (by decide) ?_
    obtain ⟨σ133, h133, hf⟩ := bnd hf
    refine q_cVv (As := [.int (59 : Int32)]) hx hb hts hml hown hK hP hS (c_X7_due l D w σ105 (59 : Int32) σ133 hJ h133) hw_X7_110 hd_X7_due ⟨rfl, rfl, rfl⟩ o184 (ce7 kd184) rfl ⟨Nat.le_of_ble_eq_true rfl, Nat.le_of_ble_eq_true rfl⟩ ⟨Nat.le_of_ble_eq_true rfl, Nat.le_of_ble_eq_true rfl⟩ hl.1 rfl (Nat.le_of_ble_eq_true rfl) dX7_readItem_133 (fun H locs hP hS => ?_)
    refine lv_aload_n hx hb dX7_readItem_136 rfl (lv_at hl 1 rfl) ?_
    refine lv_dup hx hb dX7_readItem_137 rfl ?_
    refine gt_X7_114 hx hb hts hown hK hP dX7_readItem_138 ?_
    refine lv_iconst (v := (1 : Int32)) hx hb dX7_readItem_141 (by decide) ?_
    refine lv_iadd hx hb dX7_readItem_142 ?_
    obtain ⟨σ143, h143, hf⟩ := bnd hf
    refine pt_X7_114 hx hb hts hown hK hP hJ hS h143 dX7_readItem_143 (fun H locs hP hS => ?_)
    have hq := Option.some.inj hf
    exact q_vret hx hb hr hlk hP hS hq dX7_readItem_146
  have hf := ifn hc114 hf
  rcases Decidable.em (v1 = (115 : Int32)) with hc | hc115
  · have hf := ifp hc hf
    refine lv_tableIn (off := 109) (tgt := 125) hx hb dX7_readItem_16 (by rw [hc]; decide) (by rw [hc]; decide) (by rw [hc]; rfl) (by decide) ?_
    refine lv_aload_n hx hb dX7_readItem_125 rfl (lv_at hl 1 rfl) ?_
    refine lv_iconst (v := (1 : Int32)) hx hb dX7_readItem_126 (by decide) ?_
    obtain ⟨σ127, h127, hf⟩ := bnd hf
    refine pt_X7_98 hx hb hts hown hK hP hJ hS ⟨rfl, rfl⟩ h127 dX7_readItem_127 (fun H locs hP hS => ?_)
    refine lv_aload_n hx hb dX7_readItem_130 rfl (lv_at hl 1 rfl) ?_
    refine lv_bipush (v := (59 : Int32)) hx hb dX7_readItem_131 (by decide) ?_
    obtain ⟨σ133, h133, hf⟩ := bnd hf
    refine q_cVv (As := [.int (59 : Int32)]) hx hb hts hml hown hK hP hS (c_X7_due l D w σ127 (59 : Int32) σ133 hJ h133) hw_X7_110 hd_X7_due ⟨rfl, rfl, rfl⟩ o184 (ce7 kd184) rfl ⟨Nat.le_of_ble_eq_true rfl, Nat.le_of_ble_eq_true rfl⟩ ⟨Nat.le_of_ble_eq_true rfl, Nat.le_of_ble_eq_true rfl⟩ hl.1 rfl (Nat.le_of_ble_eq_true rfl) dX7_readItem_133 (fun H locs hP hS => ?_)
    refine lv_aload_n hx hb dX7_readItem_136 rfl (lv_at hl 1 rfl) ?_
    refine lv_dup hx hb dX7_readItem_137 rfl ?_
    refine gt_X7_114 hx hb hts hown hK hP dX7_readItem_138 ?_
    refine lv_iconst (v := (1 : Int32)) hx hb dX7_readItem_141 (by decide) ?_
    refine lv_iadd hx hb dX7_readItem_142 ?_
    obtain ⟨σ143, h143, hf⟩ := bnd hf
    refine pt_X7_114 hx hb hts hown hK hP hJ hS h143 dX7_readItem_143 (fun H locs hP hS => ?_)
    have hq := Option.some.inj hf
    exact q_vret hx hb hr hlk hP hS hq dX7_readItem_146
  have hf := ifn hc115 hf
  rcases Decidable.em (v1 = (116 : Int32)) with hc | hc116
  · have hf := ifp hc hf
    refine lv_tableIn (off := 109) (tgt := 125) hx hb dX7_readItem_16 (by rw [hc]; decide) (by rw [hc]; decide) (by rw [hc]; rfl) (by decide) ?_
    refine lv_aload_n hx hb dX7_readItem_125 rfl (lv_at hl 1 rfl) ?_
    refine lv_iconst (v := (1 : Int32)) hx hb dX7_readItem_126 (by decide) ?_
    obtain ⟨σ127, h127, hf⟩ := bnd hf
    refine pt_X7_98 hx hb hts hown hK hP hJ hS ⟨rfl, rfl⟩ h127 dX7_readItem_127 (fun H locs hP hS => ?_)
    refine lv_aload_n hx hb dX7_readItem_130 rfl (lv_at hl 1 rfl) ?_
    refine lv_bipush (v := (59 : Int32)) hx hb dX7_readItem_131 (by decide) ?_
    obtain ⟨σ133, h133, hf⟩ := bnd hf
    refine q_cVv (As := [.int (59 : Int32)]) hx hb hts hml hown hK hP hS (c_X7_due l D w σ127 (59 : Int32) σ133 hJ h133) hw_X7_110 hd_X7_due ⟨rfl, rfl, rfl⟩ o184 (ce7 kd184) rfl ⟨Nat.le_of_ble_eq_true rfl, Nat.le_of_ble_eq_true rfl⟩ ⟨Nat.le_of_ble_eq_true rfl, Nat.le_of_ble_eq_true rfl⟩ hl.1 rfl (Nat.le_of_ble_eq_true rfl) dX7_readItem_133 (fun H locs hP hS => ?_)
    refine lv_aload_n hx hb dX7_readItem_136 rfl (lv_at hl 1 rfl) ?_
    refine lv_dup hx hb dX7_readItem_137 rfl ?_
    refine gt_X7_114 hx hb hts hown hK hP dX7_readItem_138 ?_
    refine lv_iconst (v := (1 : Int32)) hx hb dX7_readItem_141 (by decide) ?_
    refine lv_iadd hx hb dX7_readItem_142 ?_
    obtain ⟨σ143, h143, hf⟩ := bnd hf
    refine pt_X7_114 hx hb hts hown hK hP hJ hS h143 dX7_readItem_143 (fun H locs hP hS => ?_)
    have hq := Option.some.inj hf
    exact q_vret hx hb hr hlk hP hS hq dX7_readItem_146
  have hf := ifn hc116 hf
  rcases Decidable.em (v1 = (117 : Int32)) with hc | hc117
  · have hf := ifp hc hf
    refine lv_tableIn (off := 109) (tgt := 125) hx hb dX7_readItem_16 (by rw [hc]; decide) (by rw [hc]; decide) (by rw [hc]; rfl) (by decide) ?_
    refine lv_aload_n hx hb dX7_readItem_125 rfl (lv_at hl 1 rfl) ?_
    refine lv_iconst (v := (1 : Int32)) hx hb dX7_readItem_126 (by decide) ?_
    obtain ⟨σ127, h127, hf⟩ := bnd hf
    refine pt_X7_98 hx hb hts hown hK hP hJ hS ⟨rfl, rfl⟩ h127 dX7_readItem_127 (fun H locs hP hS => ?_)
    refine lv_aload_n hx hb dX7_readItem_130 rfl (lv_at hl 1 rfl) ?_
    refine lv_bipush (v := (59 : Int32)) hx hb dX7_readItem_131 (by decide) ?_
    obtain ⟨σ133, h133, hf⟩ := bnd hf
    refine q_cVv (As := [.int (59 : Int32)]) hx hb hts hml hown hK hP hS (c_X7_due l D w σ127 (59 : Int32) σ133 hJ h133) hw_X7_110 hd_X7_due ⟨rfl, rfl, rfl⟩ o184 (ce7 kd184) rfl ⟨Nat.le_of_ble_eq_true rfl, Nat.le_of_ble_eq_true rfl⟩ ⟨Nat.le_of_ble_eq_true rfl, Nat.le_of_ble_eq_true rfl⟩ hl.1 rfl (Nat.le_of_ble_eq_true rfl) dX7_readItem_133 (fun H locs hP hS => ?_)
    refine lv_aload_n hx hb dX7_readItem_136 rfl (lv_at hl 1 rfl) ?_
    refine lv_dup hx hb dX7_readItem_137 rfl ?_
    refine gt_X7_114 hx hb hts hown hK hP dX7_readItem_138 ?_
    refine lv_iconst (v := (1 : Int32)) hx hb dX7_readItem_141 (by decide) ?_
    refine lv_iadd hx hb dX7_readItem_142 ?_
    obtain ⟨σ143, h143, hf⟩ := bnd hf
    refine pt_X7_114 hx hb hts hown hK hP hJ hS h143 dX7_readItem_143 (fun H locs hP hS => ?_)
    have hq := Option.some.inj hf
    exact q_vret hx hb hr hlk hP hS hq dX7_readItem_146
  have hf := ifn hc117 hf
  rcases Decidable.em (v1 = (118 : Int32)) with hc | hc118
  · have hf := ifp hc hf
    refine lv_tableIn (off := 109) (tgt := 125) hx hb dX7_readItem_16 (by rw [hc]; decide) (by rw [hc]; decide) (by rw [hc]; rfl) (by decide) ?_
    refine lv_aload_n hx hb dX7_readItem_125 rfl (lv_at hl 1 rfl) ?_
    refine lv_iconst (v := (1 : Int32)) hx hb dX7_readItem_126 (by decide) ?_
    obtain ⟨σ127, h127, hf⟩ := bnd hf
    refine pt_X7_98 hx hb hts hown hK hP hJ hS ⟨rfl, rfl⟩ h127 dX7_readItem_127 (fun H locs hP hS => ?_)
    refine lv_aload_n hx hb dX7_readItem_130 rfl (lv_at hl 1 rfl) ?_
    refine lv_bipush (v := (59 : Int32)) hx hb dX7_readItem_131 (by decide) ?_
    obtain ⟨σ133, h133, hf⟩ := bnd hf
    refine q_cVv (As := [.int (59 : Int32)]) hx hb hts hml hown hK hP hS (c_X7_due l D w σ127 (59 : Int32) σ133 hJ h133) hw_X7_110 hd_X7_due ⟨rfl, rfl, rfl⟩ o184 (ce7 kd184) rfl ⟨Nat.le_of_ble_eq_true rfl, Nat.le_of_ble_eq_true rfl⟩ ⟨Nat.le_of_ble_eq_true rfl, Nat.le_of_ble_eq_true rfl⟩ hl.1 rfl (Nat.le_of_ble_eq_true rfl) dX7_readItem_133 (fun H locs hP hS => ?_)
    refine lv_aload_n hx hb dX7_readItem_136 rfl (lv_at hl 1 rfl) ?_
    refine lv_dup hx hb dX7_readItem_137 rfl ?_
    refine gt_X7_114 hx hb hts hown hK hP dX7_readItem_138 ?_
    refine lv_iconst (v := (1 : Int32)) hx hb dX7_readItem_141 (by decide) ?_
    refine lv_iadd hx hb dX7_readItem_142 ?_
    obtain ⟨σ143, h143, hf⟩ := bnd hf
    refine pt_X7_114 hx hb hts hown hK hP hJ hS h143 dX7_readItem_143 (fun H locs hP hS => ?_)
    have hq := Option.some.inj hf
    exact q_vret hx hb hr hlk hP hS hq dX7_readItem_146
  have hf := ifn hc118 hf
  rcases Decidable.em (v1 = (119 : Int32)) with hc | hc119
  · have hf := ifp hc hf
    refine lv_tableIn (off := 102) (tgt := 118) hx hb dX7_readItem_16 (by rw [hc]; decide) (by rw [hc]; decide) (by rw [hc]; rfl) (by decide) ?_
    refine lv_aload_n hx hb dX7_readItem_118 rfl (lv_at hl 1 rfl) ?_
    obtain ⟨σ119, h119, hf⟩ := bnd hf
    refine q_cVv (As := []) hx hb hts hml hown hK hP hS (c_X7_readWalker l D w σ12 σ119 hJ h119) hw_X7_123 hd_X7_readWalker ⟨rfl, rfl, rfl⟩ o184 (ce7 kd184) rfl ⟨Nat.le_of_ble_eq_true rfl, Nat.le_of_ble_eq_true rfl⟩ ⟨Nat.le_of_ble_eq_true rfl, Nat.le_of_ble_eq_true rfl⟩ hl.1 rfl (Nat.le_of_ble_eq_true rfl) dX7_readItem_119 (fun H locs hP hS => ?_)
    refine lv_goto (tgt := 130) hx hb dX7_readItem_122 (by decide) ?_
    refine lv_aload_n hx hb dX7_readItem_130 rfl (lv_at hl 1 rfl) ?_
    refine lv_bipush (v := (59 : Int32)) hx hb dX7_readItem_131 (by decide) ?_
    obtain ⟨σ133, h133, hf⟩ := bnd hf
    refine q_cVv (As := [.int (59 : Int32)]) hx hb hts hml hown hK hP hS (c_X7_due l D w σ119 (59 : Int32) σ133 hJ h133) hw_X7_110 hd_X7_due ⟨rfl, rfl, rfl⟩ o184 (ce7 kd184) rfl ⟨Nat.le_of_ble_eq_true rfl, Nat.le_of_ble_eq_true rfl⟩ ⟨Nat.le_of_ble_eq_true rfl, Nat.le_of_ble_eq_true rfl⟩ hl.1 rfl (Nat.le_of_ble_eq_true rfl) dX7_readItem_133 (fun H locs hP hS => ?_)
    refine lv_aload_n hx hb dX7_readItem_136 rfl (lv_at hl 1 rfl) ?_
    refine lv_dup hx hb dX7_readItem_137 rfl ?_
    refine gt_X7_114 hx hb hts hown hK hP dX7_readItem_138 ?_
    refine lv_iconst (v := (1 : Int32)) hx hb dX7_readItem_141 (by decide) ?_
    refine lv_iadd hx hb dX7_readItem_142 ?_
    obtain ⟨σ143, h143, hf⟩ := bnd hf
    refine pt_X7_114 hx hb hts hown hK hP hJ hS h143 dX7_readItem_143 (fun H locs hP hS => ?_)
    have hq := Option.some.inj hf
    exact q_vret hx hb hr hlk hP hS hq dX7_readItem_146
  have hf := ifn hc119 hf
  refine lv_tableOut (tgt := 125) hx hb dX7_readItem_16 (tb_out_110_119 hc110 hc111 hc112 hc113 hc114 hc115 hc116 hc117 hc118 hc119) (by decide) ?_
  refine lv_aload_n hx hb dX7_readItem_125 rfl (lv_at hl 1 rfl) ?_
  refine lv_iconst (v := (1 : Int32)) hx hb dX7_readItem_126 (by decide) ?_
  obtain ⟨σ127, h127, hf⟩ := bnd hf
  refine pt_X7_98 hx hb hts hown hK hP hJ hS ⟨rfl, rfl⟩ h127 dX7_readItem_127 (fun H locs hP hS => ?_)
  refine lv_aload_n hx hb dX7_readItem_130 rfl (lv_at hl 1 rfl) ?_
  refine lv_bipush (v := (59 : Int32)) hx hb dX7_readItem_131 (by decide) ?_
  obtain ⟨σ133, h133, hf⟩ := bnd hf
  refine q_cVv (As := [.int (59 : Int32)]) hx hb hts hml hown hK hP hS (c_X7_due l D w σ127 (59 : Int32) σ133 hJ h133) hw_X7_110 hd_X7_due ⟨rfl, rfl, rfl⟩ o184 (ce7 kd184) rfl ⟨Nat.le_of_ble_eq_true rfl, Nat.le_of_ble_eq_true rfl⟩ ⟨Nat.le_of_ble_eq_true rfl, Nat.le_of_ble_eq_true rfl⟩ hl.1 rfl (Nat.le_of_ble_eq_true rfl) dX7_readItem_133 (fun H locs hP hS => ?_)
  refine lv_aload_n hx hb dX7_readItem_136 rfl (lv_at hl 1 rfl) ?_
  refine lv_dup hx hb dX7_readItem_137 rfl ?_
  refine gt_X7_114 hx hb hts hown hK hP dX7_readItem_138 ?_
  refine lv_iconst (v := (1 : Int32)) hx hb dX7_readItem_141 (by decide) ?_
  refine lv_iadd hx hb dX7_readItem_142 ?_
  obtain ⟨σ143, h143, hf⟩ := bnd hf
  refine pt_X7_114 hx hb hts hown hK hP hJ hS h143 dX7_readItem_143 (fun H locs hP hS => ?_)
  have hq := Option.some.inj hf
  exact q_vret hx hb hr hlk hP hS hq dX7_readItem_146
def f_X7_read_b1 (σ_9 : Sg) : Option (Sg ⊕ ((Int32 × Sg) ⊕ Sg)) :=
  if (σ_9 184 1) ≤ (σ_9 184 11) then
  some (.inr (.inr σ_9))
  else
  (f_X7_readItem σ_9).bind fun σ26 =>
  if (σ26 184 12) = 0 then
  some (.inl σ26)
  else
  some (.inr (.inl ((σ_9 184 11), σ26)))
def f_X7_read_k1 (y1_36 : Int32) (σ_36 : Sg) : Option (Int32 × Sg) :=
  some (y1_36, σ_36)
def f_X7_read_k2 (σ_41 : Sg) : Option (Int32 × Sg) :=
  some ((-4 : Int32), σ_41)
def f_X7_read (σ : Sg)  : Option (Int32 × Sg) :=
  (some (sf σ (184) 11 (0 : Int32))).bind fun σ2 =>
  (f_X7_begin σ2).bind fun σ6 =>
  (lp (fun st => f_X7_read_b1  st) FU σ6).bind fun rr => Sum.elim (fun q => f_X7_read_k1 q.1 q.2) (fun q => f_X7_read_k2 q) rr
set_option maxHeartbeats 4000000 in
set_option maxRecDepth 100000 in
theorem c_X7_read (l : Launch) (D : va_G) (w : Wv) (σ : Sg)  (r : Int32) (σ' : Sg)  (hJ : Inj w) (hf : f_X7_read σ = some (r, σ')) : Met l yX7_read (.code yX7_read cX7_read 2 (some .int) :: TB) (rmW 5 110) (pcW D w [.ref (w.1 (184))] σ) (qiW D w r σ') 0 0 (AL w) := by
  refine q_open (by decide +kernel) (Nat.le_of_ble_eq_true rfl) ?_
  intro p e s m args below meth c ls hx hb hml hr hlk hown hts hK hP hS hl
  have hown : s.vm.findClass RX7 = some m.cls := hown
  have hl : lv_has ls 2 [(0, .ref (w.1 (184)))] := hl
  unfold f_X7_read at hf
  refine lv_aload_n hx hb dX7_read_0 rfl (lv_at hl 0 rfl) ?_
  refine lv_iconst (v := (0 : Int32)) hx hb dX7_read_1 (by decide) ?_
  obtain ⟨σ2, h2, hf⟩ := bnd hf
  refine pt_X7_91 hx hb hts hown hK hP hJ hS h2 dX7_read_2 (fun H locs hP hS => ?_)
  refine lv_aload_n hx hb dX7_read_5 rfl (lv_at hl 0 rfl) ?_
  obtain ⟨σ6, h6, hf⟩ := bnd hf
  refine q_cVv (As := []) hx hb hts hml hown hK hP hS (c_X7_begin l D w σ2 σ6 hJ h6) hw_X7_126 hd_X7_begin ⟨rfl, rfl, rfl⟩ o184 (ce7 kd184) rfl ⟨Nat.le_of_ble_eq_true rfl, Nat.le_of_ble_eq_true rfl⟩ ⟨Nat.le_of_ble_eq_true rfl, Nat.le_of_ble_eq_true rfl⟩ hl.1 rfl (Nat.le_of_ble_eq_true rfl) dX7_read_6 (fun H locs hP hS => ?_)
  obtain ⟨rr, hlp, hf⟩ := bnd hf
  have hE9_36 : ∀ (y1_36 : Int32) (σ_36 : Sg) (H : Heap) (locs : List Loc) (ls : Array Slot), f_X7_read_k1 y1_36 σ_36 = some (r, σ') → va_P D vwCl (WL w σ_36) H → va_S (AL w) s.heap H locs → lv_has ls 2 [(1, .int y1_36)] → W p l e (rmW 5 110) s m args below meth c H locs 0 0 (MQ below (qiW D w r σ') args s 0 0 (AL w)) (F0 m 36 ls []) := by
    intro y1_36 σ_36 H locs ls hf hP hS hl
    unfold f_X7_read_k1 at hf
    refine lv_iload_n hx hb dX7_read_36 rfl (lv_at hl 0 rfl) ?_
    have hq := Option.some.inj hf
    exact q_iret hx hb hr hlk hP hS (congrArg Prod.fst hq) (congrArg Prod.snd hq) dX7_read_37
  have hE9_41 : ∀ (σ_41 : Sg) (H : Heap) (locs : List Loc) (ls : Array Slot), f_X7_read_k2 σ_41 = some (r, σ') → va_P D vwCl (WL w σ_41) H → va_S (AL w) s.heap H locs → lv_has ls 2 [] → W p l e (rmW 5 110) s m args below meth c H locs 0 0 (MQ below (qiW D w r σ') args s 0 0 (AL w)) (F0 m 41 ls []) := by
    intro σ_41 H locs ls hf hP hS hl
    unfold f_X7_read_k2 at hf
    refine lv_bipush (v := (-4 : Int32)) hx hb dX7_read_41 (by decide) ?_
    have hq := Option.some.inj hf
    exact q_iret hx hb hr hlk hP hS (congrArg Prod.fst hq) (congrArg Prod.snd hq) dX7_read_43
  refine lp_ind (G := fun (st : Sg) => ∀ (H : Heap) (locs : List Loc) (ls : Array Slot), va_P D vwCl (WL w st) H → va_S (AL w) s.heap H locs → lv_has ls 2 [(0, .ref (w.1 (184)))] → W p l e (rmW 5 110) s m args below meth c H locs 0 0 (MQ below (qiW D w r σ') args s 0 0 (AL w)) (F0 m 9 ls [])) (X := fun rr => Sum.elim (fun q => f_X7_read_k1 q.1 q.2) (fun q => f_X7_read_k2 q) rr = some (r, σ')) ?_ _ _ rr hlp hf _ _ _ hP hS (lv_sub hl [0] rfl)
  intro σ_9 oo9 hb9 hG9 hX9 H locs ls hP hS hl
  have hP : va_P D vwCl (WL w σ_9) H := hP
  have hl : lv_has ls 2 [(0, .ref (w.1 (184)))] := hl
  have hf : f_X7_read_b1  σ_9 = some oo9 := hb9
  unfold f_X7_read_b1 at hf
  refine lv_aload_n hx hb dX7_read_9 rfl (lv_at hl 0 rfl) ?_
  refine gt_X7_91 hx hb hts hown hK hP dX7_read_10 ?_
  refine lv_aload_n hx hb dX7_read_13 rfl (lv_at hl 0 rfl) ?_
  refine gt_X7_87 hx hb hts hown hK hP dX7_read_14 ?_
  refine lv_icmp_ge (tgt := 41) hx hb dX7_read_17 (by decide) (fun hc => ?_) (fun hc => ?_)
  · have hf := ifp hc hf
    obtain rfl := Option.some.inj hf
    exact hE9_41 σ_9 _ _ _ (hX9 _ rfl) hP hS (lv_sub hl [] rfl)
  · have hf := ifn hc hf
    refine lv_aload_n hx hb dX7_read_20 rfl (lv_at hl 0 rfl) ?_
    refine gt_X7_91 hx hb hts hown hK hP dX7_read_21 ?_
    refine lv_istore_n (lv' := [(1, .int (σ_9 184 11)), (0, .ref (w.1 (184)))]) hx hb dX7_read_24 rfl hl (by decide) rfl (fun ls hl => ?_)
    refine lv_aload_n hx hb dX7_read_25 rfl (lv_at hl 1 rfl) ?_
    obtain ⟨σ26, h26, hf⟩ := bnd hf
    refine q_cVv (As := []) hx hb hts hml hown hK hP hS (c_X7_readItem l D w σ_9 σ26 hJ h26) hw_X7_129 hd_X7_readItem ⟨rfl, rfl, rfl⟩ o184 (ce7 kd184) rfl ⟨Nat.le_of_ble_eq_true rfl, Nat.le_of_ble_eq_true rfl⟩ ⟨Nat.le_of_ble_eq_true rfl, Nat.le_of_ble_eq_true rfl⟩ hl.1 rfl (Nat.le_of_ble_eq_true rfl) dX7_read_26 (fun H locs hP hS => ?_)
    refine lv_aload_n hx hb dX7_read_29 rfl (lv_at hl 1 rfl) ?_
    refine gt_X7_98 hx hb hts hown hK hP dX7_read_30 ?_
    refine lv_if_eq (tgt := 38) hx hb dX7_read_33 (by decide) (fun hc => ?_) (fun hc => ?_)
    · have hf := ifp hc hf
      refine lv_goto (tgt := 9) hx hb dX7_read_38 (by decide) ?_
      obtain rfl := Option.some.inj hf
      exact hG9 _ rfl _ _ _ hP hS (lv_sub hl [1] rfl)
    · have hf := ifn hc hf
      obtain rfl := Option.some.inj hf
      exact hE9_36 (σ_9 184 11) σ26 _ _ _ (hX9 _ rfl) hP hS (lv_sub hl [0] rfl)
def f_X7_fault (σ : Sg)  : Option (Int32 × Sg) :=
  (f_X7_read σ).bind fun q1 =>
  some (q1.1, q1.2)
set_option maxHeartbeats 4000000 in
set_option maxRecDepth 100000 in
theorem c_X7_fault (l : Launch) (D : va_G) (w : Wv) (σ : Sg)  (r : Int32) (σ' : Sg)  (hJ : Inj w) (hf : f_X7_fault σ = some (r, σ')) : Met l yX7_fault (.code yX7_fault cX7_fault 1 (some .int) :: TB) (rmW 6 131) (pcW D w [.ref (w.1 (184))] σ) (qiW D w r σ') 0 0 (AL w) := by
  refine q_open (by decide +kernel) (Nat.le_of_ble_eq_true rfl) ?_
  intro p e s m args below meth c ls hx hb hml hr hlk hown hts hK hP hS hl
  have hown : s.vm.findClass RX7 = some m.cls := hown
  have hl : lv_has ls 1 [(0, .ref (w.1 (184)))] := hl
  unfold f_X7_fault at hf
  refine lv_aload_n hx hb dX7_fault_0 rfl (lv_at hl 0 rfl) ?_
  obtain ⟨⟨v1, σ1⟩, h1, hf⟩ := bnd hf
  dsimp only at hf
  refine q_cVi (As := []) hx hb hts hml hown hK hP hS (c_X7_read l D w σ v1 σ1 hJ h1) hw_X7_132 hd_X7_read ⟨rfl, rfl, rfl⟩ o184 (ce7 kd184) rfl ⟨Nat.le_of_ble_eq_true rfl, Nat.le_of_ble_eq_true rfl⟩ ⟨Nat.le_of_ble_eq_true rfl, Nat.le_of_ble_eq_true rfl⟩ hl.1 rfl (Nat.le_of_ble_eq_true rfl) dX7_fault_1 (fun H locs hP hS => ?_)
  have hq := Option.some.inj hf
  exact q_iret hx hb hr hlk hP hS (congrArg Prod.fst hq) (congrArg Prod.snd hq) dX7_fault_4
def f_X7_lay (σ : Sg)  : Option (Int32 × Sg) :=
  (f_X7_read σ).bind fun q1 =>
  if ¬ q1.1 = (-4 : Int32) then
  some ((-2 : Int32), q1.2)
  else
  (ga (q1.2 (187)) (ln (187)) (1 : Int32)).bind fun v14 =>
  if v14 = 0 then
  some ((-2 : Int32), q1.2)
  else
  (ga (q1.2 (188)) (ln (188)) (1 : Int32)).bind fun v23 =>
  if ¬ v23 = 0 then
  (f_X7_takeDraft q1.2).bind fun σ31 =>
  (ga (σ31 (187)) (ln (187)) (0 : Int32)).bind fun v39 =>
  some (v39, σ31)
  else
  some ((-2 : Int32), q1.2)
set_option maxHeartbeats 4000000 in
set_option maxRecDepth 100000 in
theorem c_X7_lay (l : Launch) (D : va_G) (w : Wv) (σ : Sg)  (r : Int32) (σ' : Sg)  (hJ : Inj w) (hf : f_X7_lay σ = some (r, σ')) : Met l yX7_lay (.code yX7_lay cX7_lay 1 (some .int) :: TB) (rmW 6 131) (pcW D w [.ref (w.1 (184))] σ) (qiW D w r σ') 0 0 (AL w) := by
  refine q_open (by decide +kernel) (Nat.le_of_ble_eq_true rfl) ?_
  intro p e s m args below meth c ls hx hb hml hr hlk hown hts hK hP hS hl
  have hown : s.vm.findClass RX7 = some m.cls := hown
  have hl : lv_has ls 1 [(0, .ref (w.1 (184)))] := hl
  unfold f_X7_lay at hf
  refine lv_aload_n hx hb dX7_lay_0 rfl (lv_at hl 0 rfl) ?_
  obtain ⟨⟨v1, σ1⟩, h1, hf⟩ := bnd hf
  dsimp only at hf
  refine q_cVi (As := []) hx hb hts hml hown hK hP hS (c_X7_read l D w σ v1 σ1 hJ h1) hw_X7_132 hd_X7_read ⟨rfl, rfl, rfl⟩ o184 (ce7 kd184) rfl ⟨Nat.le_of_ble_eq_true rfl, Nat.le_of_ble_eq_true rfl⟩ ⟨Nat.le_of_ble_eq_true rfl, Nat.le_of_ble_eq_true rfl⟩ hl.1 rfl (Nat.le_of_ble_eq_true rfl) dX7_lay_1 (fun H locs hP hS => ?_)
  refine lv_bipush (v := (-4 : Int32)) hx hb dX7_lay_4 (by decide) ?_
  refine lv_icmp_ne (tgt := 27) hx hb dX7_lay_6 (by decide) (fun hc => ?_) (fun hc => ?_)
  · have hf := ifp hc hf
    refine lv_bipush (v := (-2 : Int32)) hx hb dX7_lay_27 (by decide) ?_
    have hq := Option.some.inj hf
    exact q_iret hx hb hr hlk hP hS (congrArg Prod.fst hq) (congrArg Prod.snd hq) dX7_lay_29
  · have hf := ifn (fun h => h hc) hf
    refine lv_aload_n hx hb dX7_lay_9 rfl (lv_at hl 0 rfl) ?_
    refine gt_X7_17 hx hb hts hown hK hP dX7_lay_10 ?_
    refine lv_iconst (v := (1 : Int32)) hx hb dX7_lay_13 (by decide) ?_
    obtain ⟨v14, h14, hf⟩ := bnd hf
    refine q_iald hx hb hK hP isC187.o isC187.k h14 dX7_lay_14 ?_
    refine lv_if_eq (tgt := 27) hx hb dX7_lay_15 (by decide) (fun hc => ?_) (fun hc => ?_)
    · have hf := ifp hc hf
      refine lv_bipush (v := (-2 : Int32)) hx hb dX7_lay_27 (by decide) ?_
      have hq := Option.some.inj hf
      exact q_iret hx hb hr hlk hP hS (congrArg Prod.fst hq) (congrArg Prod.snd hq) dX7_lay_29
    · have hf := ifn hc hf
      refine lv_aload_n hx hb dX7_lay_18 rfl (lv_at hl 0 rfl) ?_
      refine gt_X7_20 hx hb hts hown hK hP dX7_lay_19 ?_
      refine lv_iconst (v := (1 : Int32)) hx hb dX7_lay_22 (by decide) ?_
      obtain ⟨v23, h23, hf⟩ := bnd hf
      refine q_iald hx hb hK hP isC188.o isC188.k h23 dX7_lay_23 ?_
      refine lv_if_ne (tgt := 30) hx hb dX7_lay_24 (by decide) (fun hc => ?_) (fun hc => ?_)
      · have hf := ifp hc hf
        refine lv_aload_n hx hb dX7_lay_30 rfl (lv_at hl 0 rfl) ?_
        obtain ⟨σ31, h31, hf⟩ := bnd hf
        refine q_cVv (As := []) hx hb hts hml hown hK hP hS (c_X7_takeDraft l D w σ1 σ31 hJ h31) hw_X7_80 hd_X7_takeDraft ⟨rfl, rfl, rfl⟩ o184 (ce7 kd184) rfl ⟨Nat.le_of_ble_eq_true rfl, Nat.le_of_ble_eq_true rfl⟩ ⟨Nat.le_of_ble_eq_true rfl, Nat.le_of_ble_eq_true rfl⟩ hl.1 rfl (Nat.le_of_ble_eq_true rfl) dX7_lay_31 (fun H locs hP hS => ?_)
        refine lv_aload_n hx hb dX7_lay_34 rfl (lv_at hl 0 rfl) ?_
        refine gt_X7_17 hx hb hts hown hK hP dX7_lay_35 ?_
        refine lv_iconst (v := (0 : Int32)) hx hb dX7_lay_38 (by decide) ?_
        obtain ⟨v39, h39, hf⟩ := bnd hf
        refine q_iald hx hb hK hP isC187.o isC187.k h39 dX7_lay_39 ?_
        have hq := Option.some.inj hf
        exact q_iret hx hb hr hlk hP hS (congrArg Prod.fst hq) (congrArg Prod.snd hq) dX7_lay_40
      · have hf := ifn (fun h => h hc) hf
        refine lv_bipush (v := (-2 : Int32)) hx hb dX7_lay_27 (by decide) ?_
        have hq := Option.some.inj hf
        exact q_iret hx hb hr hlk hP hS (congrArg Prod.fst hq) (congrArg Prod.snd hq) dX7_lay_29
def f_X7_take_b1 (x1_2 : Int32) (σ_2 : Sg) : Option ((Int32 × Sg) ⊕ Sg) :=
  if (179 : Int32) ≤ x1_2 then
  some (.inr σ_2)
  else
  (ga (σ_2 (195)) (ln (195)) x1_2).bind fun v19 =>
  (sa σ_2 (198) (ln (198)) x1_2 v19).bind fun σ20 =>
  some (.inl ((x1_2 + (1 : Int32)), σ20))
def f_X7_take_k1 (σ_27 : Sg) : Option Sg :=
  some σ_27
def f_X7_take (σ : Sg)  : Option Sg :=
  (lp (fun st => f_X7_take_b1  st.1 st.2) FU ((0 : Int32), σ)).bind fun rr => f_X7_take_k1 rr
set_option maxHeartbeats 4000000 in
set_option maxRecDepth 100000 in
theorem c_X7_take (l : Launch) (D : va_G) (w : Wv) (σ : Sg)  (σ' : Sg)  (hJ : Inj w) (hf : f_X7_take σ = some σ') : Met l yX7_take (.code yX7_take cX7_take 2 none :: TB) (rmW 0 0) (pcW D w [.ref (w.1 (184))] σ) (qvW D w σ') 0 0 (AL w) := by
  refine q_open (by decide +kernel) (Nat.le_of_ble_eq_true rfl) ?_
  intro p e s m args below meth c ls hx hb hml hr hlk hown hts hK hP hS hl
  have hown : s.vm.findClass RX7 = some m.cls := hown
  have hl : lv_has ls 2 [(0, .ref (w.1 (184)))] := hl
  unfold f_X7_take at hf
  refine lv_iconst (v := (0 : Int32)) hx hb dX7_take_0 (by decide) ?_
  refine lv_istore_n (lv' := [(1, .int (0 : Int32)), (0, .ref (w.1 (184)))]) hx hb dX7_take_1 rfl hl (by decide) rfl (fun ls hl => ?_)
  obtain ⟨rr, hlp, hf⟩ := bnd hf
  have hE2_27 : ∀ (σ_27 : Sg) (H : Heap) (locs : List Loc) (ls : Array Slot), f_X7_take_k1 σ_27 = some σ' → va_P D vwCl (WL w σ_27) H → va_S (AL w) s.heap H locs → lv_has ls 2 [] → W p l e (rmW 0 0) s m args below meth c H locs 0 0 (MQ below (qvW D w σ') args s 0 0 (AL w)) (F0 m 27 ls []) := by
    intro σ_27 H locs ls hf hP hS hl
    unfold f_X7_take_k1 at hf
    have hq := Option.some.inj hf
    exact q_vret hx hb hr hlk hP hS hq dX7_take_27
  refine lp_ind (G := fun (st : (Int32 × Sg)) => ∀ (H : Heap) (locs : List Loc) (ls : Array Slot), va_P D vwCl (WL w st.2) H → va_S (AL w) s.heap H locs → lv_has ls 2 [(0, .ref (w.1 (184))), (1, .int st.1)] → W p l e (rmW 0 0) s m args below meth c H locs 0 0 (MQ below (qvW D w σ') args s 0 0 (AL w)) (F0 m 2 ls [])) (X := fun rr => f_X7_take_k1 rr = some σ') ?_ _ _ rr hlp hf _ _ _ hP hS (lv_sub hl [1, 0] rfl)
  rintro ⟨x1_2, σ_2⟩ oo2 hb9 hG2 hX2 H locs ls hP hS hl
  have hP : va_P D vwCl (WL w σ_2) H := hP
  have hl : lv_has ls 2 [(0, .ref (w.1 (184))), (1, .int x1_2)] := hl
  have hf : f_X7_take_b1  x1_2 σ_2 = some oo2 := hb9
  unfold f_X7_take_b1 at hf
  refine lv_iload_n hx hb dX7_take_2 rfl (lv_at hl 1 rfl) ?_
  refine lv_sipush (v := (179 : Int32)) hx hb dX7_take_3 (by decide) ?_
  refine lv_icmp_ge (tgt := 27) hx hb dX7_take_6 (by decide) (fun hc => ?_) (fun hc => ?_)
  · have hf := ifp hc hf
    obtain rfl := Option.some.inj hf
    exact hE2_27 σ_2 _ _ _ (hX2 _ rfl) hP hS (lv_sub hl [] rfl)
  · have hf := ifn hc hf
    refine lv_aload_n hx hb dX7_take_9 rfl (lv_at hl 0 rfl) ?_
    refine gt_X7_50 hx hb hts hown hK hP dX7_take_10 ?_
    refine lv_iload_n hx hb dX7_take_13 rfl (lv_at hl 1 rfl) ?_
    refine lv_aload_n hx hb dX7_take_14 rfl (lv_at hl 0 rfl) ?_
    refine gt_X7_41 hx hb hts hown hK hP dX7_take_15 ?_
    refine lv_iload_n hx hb dX7_take_18 rfl (lv_at hl 1 rfl) ?_
    obtain ⟨v19, h19, hf⟩ := bnd hf
    refine q_iald hx hb hK hP isC195.o isC195.k h19 dX7_take_19 ?_
    obtain ⟨σ20, h20, hf⟩ := bnd hf
    refine q_iast hx hb hK hP hJ hS isC198.o isC198.k h20 dX7_take_20 (fun H locs hP hS => ?_)
    refine lv_iinc (v := (x1_2 + (1 : Int32))) (lv' := [(1, .int (x1_2 + (1 : Int32))), (0, .ref (w.1 (184)))]) hx hb dX7_take_21 hl (k := 1) rfl ii_1 (by decide) rfl (fun ls hl => ?_)
    refine lv_goto (tgt := 2) hx hb dX7_take_24 (by decide) ?_
    obtain rfl := Option.some.inj hf
    exact hG2 _ rfl _ _ _ hP hS (lv_sub hl [1, 0] rfl)
def f_X7_isTown (σ : Sg) (a1 : Int32) : Option Int32 :=
  (ga (σ (186)) (ln (186)) (0 : Int32)).bind fun v7 =>
  (f_X7_in σ a1 (0 : Int32) (v7 - (1 : Int32))).bind fun v10 =>
  some v10
set_option maxHeartbeats 4000000 in
set_option maxRecDepth 100000 in
theorem c_X7_isTown (l : Launch) (D : va_G) (w : Wv) (σ : Sg) (a1 : Int32) (r : Int32)  (hf : f_X7_isTown σ a1 = some r) : Met l yX7_isTown (.code yX7_isTown cX7_isTown 2 (some .boolean) :: TB) (rmW 1 22) (pcW D w [.ref (w.1 (184)), .int a1] σ) (qzW D w r σ) 0 0 (AL w) := by
  refine q_open (by decide +kernel) (Nat.le_of_ble_eq_true rfl) ?_
  intro p e s m args below meth c ls hx hb hml hr hlk hown hts hK hP hS hl
  have hown : s.vm.findClass RX7 = some m.cls := hown
  have hl : lv_has ls 2 [(0, .ref (w.1 (184))), (1, .int a1)] := hl
  unfold f_X7_isTown at hf
  refine lv_iload_n hx hb dX7_isTown_0 rfl (lv_at hl 1 rfl) ?_
  refine lv_iconst (v := (0 : Int32)) hx hb dX7_isTown_1 (by decide) ?_
  refine lv_aload_n hx hb dX7_isTown_2 rfl (lv_at hl 0 rfl) ?_
  refine gt_X7_13 hx hb hts hown hK hP dX7_isTown_3 ?_
  refine lv_iconst (v := (0 : Int32)) hx hb dX7_isTown_6 (by decide) ?_
  obtain ⟨v7, h7, hf⟩ := bnd hf
  refine q_iald hx hb hK hP isC186.o isC186.k h7 dX7_isTown_7 ?_
  refine lv_iconst (v := (1 : Int32)) hx hb dX7_isTown_8 (by decide) ?_
  refine lv_isub hx hb dX7_isTown_9 ?_
  obtain ⟨v10, h10, hf⟩ := bnd hf
  refine q_cSz (As := [.int a1, .int (0 : Int32), .int (v7 - (1 : Int32))]) hx hb hts hml hown hK hP hS (c_X7_in l D w σ a1 (0 : Int32) (v7 - (1 : Int32)) v10 h10) hw_X7_83 hd_X7_in ⟨rfl, rfl, rfl⟩ ⟨Nat.le_of_ble_eq_true rfl, Nat.le_of_ble_eq_true rfl⟩ ⟨Nat.le_of_ble_eq_true rfl, Nat.le_of_ble_eq_true rfl⟩ hl.1 rfl (Nat.le_of_ble_eq_true rfl) dX7_isTown_10 (fun hz10 H locs hP hS => ?_)
  have hq := Option.some.inj hf
  exact q_zret hx hb hr hlk hP hS hz10 hq rfl dX7_isTown_13
def f_X7_isPost (σ : Sg) (a1 : Int32) : Option Int32 :=
  (ga (σ (187)) (ln (187)) (0 : Int32)).bind fun v7 =>
  (f_X7_in σ a1 (0 : Int32) (v7 - (1 : Int32))).bind fun v10 =>
  some v10
set_option maxHeartbeats 4000000 in
set_option maxRecDepth 100000 in
theorem c_X7_isPost (l : Launch) (D : va_G) (w : Wv) (σ : Sg) (a1 : Int32) (r : Int32)  (hf : f_X7_isPost σ a1 = some r) : Met l yX7_isPost (.code yX7_isPost cX7_isPost 2 (some .boolean) :: TB) (rmW 1 22) (pcW D w [.ref (w.1 (184)), .int a1] σ) (qzW D w r σ) 0 0 (AL w) := by
  refine q_open (by decide +kernel) (Nat.le_of_ble_eq_true rfl) ?_
  intro p e s m args below meth c ls hx hb hml hr hlk hown hts hK hP hS hl
  have hown : s.vm.findClass RX7 = some m.cls := hown
  have hl : lv_has ls 2 [(0, .ref (w.1 (184))), (1, .int a1)] := hl
  unfold f_X7_isPost at hf
  refine lv_iload_n hx hb dX7_isPost_0 rfl (lv_at hl 1 rfl) ?_
  refine lv_iconst (v := (0 : Int32)) hx hb dX7_isPost_1 (by decide) ?_
  refine lv_aload_n hx hb dX7_isPost_2 rfl (lv_at hl 0 rfl) ?_
  refine gt_X7_17 hx hb hts hown hK hP dX7_isPost_3 ?_
  refine lv_iconst (v := (0 : Int32)) hx hb dX7_isPost_6 (by decide) ?_
  obtain ⟨v7, h7, hf⟩ := bnd hf
  refine q_iald hx hb hK hP isC187.o isC187.k h7 dX7_isPost_7 ?_
  refine lv_iconst (v := (1 : Int32)) hx hb dX7_isPost_8 (by decide) ?_
  refine lv_isub hx hb dX7_isPost_9 ?_
  obtain ⟨v10, h10, hf⟩ := bnd hf
  refine q_cSz (As := [.int a1, .int (0 : Int32), .int (v7 - (1 : Int32))]) hx hb hts hml hown hK hP hS (c_X7_in l D w σ a1 (0 : Int32) (v7 - (1 : Int32)) v10 h10) hw_X7_83 hd_X7_in ⟨rfl, rfl, rfl⟩ ⟨Nat.le_of_ble_eq_true rfl, Nat.le_of_ble_eq_true rfl⟩ ⟨Nat.le_of_ble_eq_true rfl, Nat.le_of_ble_eq_true rfl⟩ hl.1 rfl (Nat.le_of_ble_eq_true rfl) dX7_isPost_10 (fun hz10 H locs hP hS => ?_)
  have hq := Option.some.inj hf
  exact q_zret hx hb hr hlk hP hS hz10 hq rfl dX7_isPost_13
def f_X7_isWalker (σ : Sg) (a1 : Int32) : Option Int32 :=
  (ga (σ (188)) (ln (188)) (0 : Int32)).bind fun v7 =>
  (f_X7_in σ a1 (0 : Int32) (v7 - (1 : Int32))).bind fun v10 =>
  some v10
set_option maxHeartbeats 4000000 in
set_option maxRecDepth 100000 in
theorem c_X7_isWalker (l : Launch) (D : va_G) (w : Wv) (σ : Sg) (a1 : Int32) (r : Int32)  (hf : f_X7_isWalker σ a1 = some r) : Met l yX7_isWalker (.code yX7_isWalker cX7_isWalker 2 (some .boolean) :: TB) (rmW 1 22) (pcW D w [.ref (w.1 (184)), .int a1] σ) (qzW D w r σ) 0 0 (AL w) := by
  refine q_open (by decide +kernel) (Nat.le_of_ble_eq_true rfl) ?_
  intro p e s m args below meth c ls hx hb hml hr hlk hown hts hK hP hS hl
  have hown : s.vm.findClass RX7 = some m.cls := hown
  have hl : lv_has ls 2 [(0, .ref (w.1 (184))), (1, .int a1)] := hl
  unfold f_X7_isWalker at hf
  refine lv_iload_n hx hb dX7_isWalker_0 rfl (lv_at hl 1 rfl) ?_
  refine lv_iconst (v := (0 : Int32)) hx hb dX7_isWalker_1 (by decide) ?_
  refine lv_aload_n hx hb dX7_isWalker_2 rfl (lv_at hl 0 rfl) ?_
  refine gt_X7_20 hx hb hts hown hK hP dX7_isWalker_3 ?_
  refine lv_iconst (v := (0 : Int32)) hx hb dX7_isWalker_6 (by decide) ?_
  obtain ⟨v7, h7, hf⟩ := bnd hf
  refine q_iald hx hb hK hP isC188.o isC188.k h7 dX7_isWalker_7 ?_
  refine lv_iconst (v := (1 : Int32)) hx hb dX7_isWalker_8 (by decide) ?_
  refine lv_isub hx hb dX7_isWalker_9 ?_
  obtain ⟨v10, h10, hf⟩ := bnd hf
  refine q_cSz (As := [.int a1, .int (0 : Int32), .int (v7 - (1 : Int32))]) hx hb hts hml hown hK hP hS (c_X7_in l D w σ a1 (0 : Int32) (v7 - (1 : Int32)) v10 h10) hw_X7_83 hd_X7_in ⟨rfl, rfl, rfl⟩ ⟨Nat.le_of_ble_eq_true rfl, Nat.le_of_ble_eq_true rfl⟩ ⟨Nat.le_of_ble_eq_true rfl, Nat.le_of_ble_eq_true rfl⟩ hl.1 rfl (Nat.le_of_ble_eq_true rfl) dX7_isWalker_10 (fun hz10 H locs hP hS => ?_)
  have hq := Option.some.inj hf
  exact q_zret hx hb hr hlk hP hS hz10 hq rfl dX7_isWalker_13
def f_X7_turned_b1 (σ : Sg) (a1 : Nat) (a2 : Int32) (a3 : Int32) (x4_3 : Int32) : Option (Int32 ⊕ (Int32 ⊕ Unit)) :=
  (ga (σ (186)) (ln (186)) (0 : Int32)).bind fun v10 =>
  if v10 < x4_3 then
  some (.inr (.inr ()))
  else
  if a3 = (-4 : Int32) then
  some (.inr (.inr ()))
  else
  (ga (σ (186)) (ln (186)) (0 : Int32)).bind fun v29 =>
  (re (a3 + x4_3) v29).bind fun v30 =>
  (ga (σ (a1)) (ln (a1)) (((7 : Int32) + ((8 : Int32) * a2)) + v30)).bind fun v44 =>
  if v44 ≤ 0 then
  some (.inl (x4_3 + (1 : Int32)))
  else
  some (.inr (.inl v30))
def f_X7_turned_k1 (y5_48 : Int32) : Option Int32 :=
  some y5_48
def f_X7_turned_k2 (_u : Unit) : Option Int32 :=
  some (-4 : Int32)
def f_X7_turned (σ : Sg) (a1 : Nat) (a2 : Int32) (a3 : Int32) : Option Int32 :=
  (lp (fun st => f_X7_turned_b1 σ a1 a2 a3 st) FU (1 : Int32)).bind fun rr => Sum.elim (fun q => f_X7_turned_k1 q) (fun q => f_X7_turned_k2 ()) rr
set_option maxHeartbeats 4000000 in
set_option maxRecDepth 100000 in
theorem c_X7_turned (l : Launch) (D : va_G) (w : Wv) (σ : Sg) (a1 : Nat) (a2 : Int32) (a3 : Int32) (r : Int32) (ha1 : isC a1) (hf : f_X7_turned σ a1 a2 a3 = some r) : Met l yX7_turned (.code yX7_turned cX7_turned 6 (some .int) :: TB) (rmW 0 0) (pcW D w [.ref (w.1 (184)), .ref (w.1 (a1)), .int a2, .int a3] σ) (qiW D w r σ) 0 0 (AL w) := by
  refine q_open (by decide +kernel) (Nat.le_of_ble_eq_true rfl) ?_
  intro p e s m args below meth c ls hx hb hml hr hlk hown hts hK hP hS hl
  have hown : s.vm.findClass RX7 = some m.cls := hown
  have hl : lv_has ls 6 [(0, .ref (w.1 (184))), (1, .ref (w.1 (a1))), (2, .int a2), (3, .int a3)] := hl
  unfold f_X7_turned at hf
  refine lv_iconst (v := (1 : Int32)) hx hb dX7_turned_0 (by decide) ?_
  refine lv_istore (lv' := [(4, .int (1 : Int32)), (0, .ref (w.1 (184))), (1, .ref (w.1 (a1))), (2, .int a2), (3, .int a3)]) hx hb dX7_turned_1 hl (by decide) rfl (fun ls hl => ?_)
  obtain ⟨rr, hlp, hf⟩ := bnd hf
  have hE3_48 : ∀ (y5_48 : Int32) (H : Heap) (locs : List Loc) (ls : Array Slot), f_X7_turned_k1 y5_48 = some r → va_P D vwCl (WL w σ) H → va_S (AL w) s.heap H locs → lv_has ls 6 [(5, .int y5_48)] → W p l e (rmW 0 0) s m args below meth c H locs 0 0 (MQ below (qiW D w r σ) args s 0 0 (AL w)) (F0 m 48 ls []) := by
    intro y5_48 H locs ls hf hP hS hl
    unfold f_X7_turned_k1 at hf
    refine lv_iload hx hb dX7_turned_48 (lv_at hl 0 rfl) ?_
    have hq := Option.some.inj hf
    exact q_iret hx hb hr hlk hP hS hq rfl dX7_turned_50
  have hE3_57 : ∀  (H : Heap) (locs : List Loc) (ls : Array Slot), f_X7_turned_k2 () = some r → va_P D vwCl (WL w σ) H → va_S (AL w) s.heap H locs → lv_has ls 6 [] → W p l e (rmW 0 0) s m args below meth c H locs 0 0 (MQ below (qiW D w r σ) args s 0 0 (AL w)) (F0 m 57 ls []) := by
    intro  H locs ls hf hP hS hl
    unfold f_X7_turned_k2 at hf
    refine lv_bipush (v := (-4 : Int32)) hx hb dX7_turned_57 (by decide) ?_
    have hq := Option.some.inj hf
    exact q_iret hx hb hr hlk hP hS hq rfl dX7_turned_59
  refine lp_ind (G := fun (st : Int32) => ∀ (H : Heap) (locs : List Loc) (ls : Array Slot), va_P D vwCl (WL w σ) H → va_S (AL w) s.heap H locs → lv_has ls 6 [(0, .ref (w.1 (184))), (1, .ref (w.1 (a1))), (2, .int a2), (3, .int a3), (4, .int st)] → W p l e (rmW 0 0) s m args below meth c H locs 0 0 (MQ below (qiW D w r σ) args s 0 0 (AL w)) (F0 m 3 ls [])) (X := fun rr => Sum.elim (fun q => f_X7_turned_k1 q) (fun q => f_X7_turned_k2 ()) rr = some r) ?_ _ _ rr hlp hf _ _ _ hP hS (lv_sub hl [1, 2, 3, 4, 0] rfl)
  intro x4_3 oo3 hb9 hG3 hX3 H locs ls hP hS hl
  have hP : va_P D vwCl (WL w σ) H := hP
  have hl : lv_has ls 6 [(0, .ref (w.1 (184))), (1, .ref (w.1 (a1))), (2, .int a2), (3, .int a3), (4, .int x4_3)] := hl
  have hf : f_X7_turned_b1 σ a1 a2 a3 x4_3 = some oo3 := hb9
  unfold f_X7_turned_b1 at hf
  refine lv_iload hx hb dX7_turned_3 (lv_at hl 4 rfl) ?_
  refine lv_aload_n hx hb dX7_turned_5 rfl (lv_at hl 0 rfl) ?_
  refine gt_X7_13 hx hb hts hown hK hP dX7_turned_6 ?_
  refine lv_iconst (v := (0 : Int32)) hx hb dX7_turned_9 (by decide) ?_
  obtain ⟨v10, h10, hf⟩ := bnd hf
  refine q_iald hx hb hK hP isC186.o isC186.k h10 dX7_turned_10 ?_
  refine lv_icmp_gt (tgt := 57) hx hb dX7_turned_11 (by decide) (fun hc => ?_) (fun hc => ?_)
  · have hf := ifp hc hf
    obtain rfl := Option.some.inj hf
    exact hE3_57  _ _ _ (hX3 _ rfl) hP hS (lv_sub hl [] rfl)
  · have hf := ifn hc hf
    refine lv_iload_n hx hb dX7_turned_14 rfl (lv_at hl 3 rfl) ?_
    refine lv_bipush (v := (-4 : Int32)) hx hb dX7_turned_15 (by decide) ?_
    refine lv_icmp_eq (tgt := 57) hx hb dX7_turned_17 (by decide) (fun hc => ?_) (fun hc => ?_)
    · have hf := ifp hc hf
      obtain rfl := Option.some.inj hf
      exact hE3_57  _ _ _ (hX3 _ rfl) hP hS (lv_sub hl [] rfl)
    · have hf := ifn hc hf
      refine lv_iload_n hx hb dX7_turned_20 rfl (lv_at hl 3 rfl) ?_
      refine lv_iload hx hb dX7_turned_21 (lv_at hl 4 rfl) ?_
      refine lv_iadd hx hb dX7_turned_23 ?_
      refine lv_aload_n hx hb dX7_turned_24 rfl (lv_at hl 0 rfl) ?_
      refine gt_X7_13 hx hb hts hown hK hP dX7_turned_25 ?_
      refine lv_iconst (v := (0 : Int32)) hx hb dX7_turned_28 (by decide) ?_
      obtain ⟨v29, h29, hf⟩ := bnd hf
      refine q_iald hx hb hK hP isC186.o isC186.k h29 dX7_turned_29 ?_
      obtain ⟨v30, h30, hf⟩ := bnd hf
      refine q_irem hx hb h30 dX7_turned_30 ?_
      refine lv_istore (lv' := [(5, .int v30), (0, .ref (w.1 (184))), (1, .ref (w.1 (a1))), (2, .int a2), (3, .int a3), (4, .int x4_3)]) hx hb dX7_turned_31 hl (by decide) rfl (fun ls hl => ?_)
      refine lv_aload_n hx hb dX7_turned_33 rfl (lv_at hl 2 rfl) ?_
      refine lv_bipush (v := (7 : Int32)) hx hb dX7_turned_34 (by decide) ?_
      refine lv_bipush (v := (8 : Int32)) hx hb dX7_turned_36 (by decide) ?_
      refine lv_iload_n hx hb dX7_turned_38 rfl (lv_at hl 3 rfl) ?_
      refine lv_imul hx hb dX7_turned_39 ?_
      refine lv_iadd hx hb dX7_turned_40 ?_
      refine lv_iload hx hb dX7_turned_41 (lv_at hl 0 rfl) ?_
      refine lv_iadd hx hb dX7_turned_43 ?_
      obtain ⟨v44, h44, hf⟩ := bnd hf
      refine q_iald hx hb hK hP ha1.o ha1.k h44 dX7_turned_44 ?_
      refine lv_if_le (tgt := 51) hx hb dX7_turned_45 (by decide) (fun hc => ?_) (fun hc => ?_)
      · have hf := ifp hc hf
        refine lv_iinc (v := (x4_3 + (1 : Int32))) (lv' := [(4, .int (x4_3 + (1 : Int32))), (5, .int v30), (0, .ref (w.1 (184))), (1, .ref (w.1 (a1))), (2, .int a2), (3, .int a3)]) hx hb dX7_turned_51 hl (k := 5) rfl ii_1 (by decide) rfl (fun ls hl => ?_)
        refine lv_goto (tgt := 3) hx hb dX7_turned_54 (by decide) ?_
        obtain rfl := Option.some.inj hf
        exact hG3 _ rfl _ _ _ hP hS (lv_sub hl [2, 3, 4, 5, 0] rfl)
      · have hf := ifn hc hf
        obtain rfl := Option.some.inj hf
        exact hE3_48 v30 _ _ _ (hX3 _ rfl) hP hS (lv_sub hl [0] rfl)
def f_X7_points_b1 (σ : Sg) (a1 : Nat) (v5 : Int32) (x6_114 : Int32) (x8_114 : Int32) : Option ((Int32 × Int32) ⊕ Int32) :=
  if ((1 : Int32) + (0 : Int32)) ≤ x8_114 then
  some (.inr x6_114)
  else
  (f_X7_turned σ (a1) v5 x6_114).bind fun v127 =>
  some (.inl (v127, (x8_114 + (1 : Int32))))
def f_X7_points_k1 (y6_138 : Int32) : Option Int32 :=
  some y6_138
def f_X7_points_b2 (σ : Sg) (a1 : Nat) (v5 : Int32) (x6_114 : Int32) (x8_114 : Int32) : Option ((Int32 × Int32) ⊕ Int32) :=
  if ((1 : Int32) + (1 : Int32)) ≤ x8_114 then
  some (.inr x6_114)
  else
  (f_X7_turned σ (a1) v5 x6_114).bind fun v127 =>
  some (.inl (v127, (x8_114 + (1 : Int32))))
def f_X7_points_b3 (σ : Sg) (a1 : Nat) (v5 : Int32) (x6_114 : Int32) (x8_114 : Int32) : Option ((Int32 × Int32) ⊕ Int32) :=
  if ((0 : Int32) + (0 : Int32)) ≤ x8_114 then
  some (.inr x6_114)
  else
  (f_X7_turned σ (a1) v5 x6_114).bind fun v127 =>
  some (.inl (v127, (x8_114 + (1 : Int32))))
def f_X7_points_b4 (σ : Sg) (a1 : Nat) (v5 : Int32) (x6_114 : Int32) (x8_114 : Int32) : Option ((Int32 × Int32) ⊕ Int32) :=
  if ((0 : Int32) + (1 : Int32)) ≤ x8_114 then
  some (.inr x6_114)
  else
  (f_X7_turned σ (a1) v5 x6_114).bind fun v127 =>
  some (.inl (v127, (x8_114 + (1 : Int32))))
def f_X7_points_b5 (σ : Sg) (a1 : Nat) (v5 : Int32) (x6_114 : Int32) (x8_114 : Int32) : Option ((Int32 × Int32) ⊕ Int32) :=
  if ((2 : Int32) + (0 : Int32)) ≤ x8_114 then
  some (.inr x6_114)
  else
  (f_X7_turned σ (a1) v5 x6_114).bind fun v127 =>
  some (.inl (v127, (x8_114 + (1 : Int32))))
def f_X7_points_b6 (σ : Sg) (a1 : Nat) (v5 : Int32) (x6_114 : Int32) (x8_114 : Int32) : Option ((Int32 × Int32) ⊕ Int32) :=
  if ((2 : Int32) + (1 : Int32)) ≤ x8_114 then
  some (.inr x6_114)
  else
  (f_X7_turned σ (a1) v5 x6_114).bind fun v127 =>
  some (.inl (v127, (x8_114 + (1 : Int32))))
def f_X7_points (σ : Sg) (a1 : Nat) (a2 : Int32) (a3 : Int32) (a4 : Int32) : Option Int32 :=
  (ga (σ (a1)) (ln (a1)) ((71 : Int32) + a2)).bind fun v5 =>
  if ¬ v5 = (-4 : Int32) then
  (ga (σ (a1)) (ln (a1)) (((83 : Int32) + ((8 : Int32) * a2)) + a4)).bind fun v31 =>
  if ¬ v31 = (-4 : Int32) then
  if a3 = (2 : Int32) then
  (f_X7_has σ (σ 184 21) a2).bind fun v97 =>
  if v97 = 0 then
  (lp (fun st => f_X7_points_b1 σ a1 v5 st.1 st.2) FU (v31, (0 : Int32))).bind fun rr => f_X7_points_k1 rr
  else
  (lp (fun st => f_X7_points_b2 σ a1 v5 st.1 st.2) FU (v31, (0 : Int32))).bind fun rr => f_X7_points_k1 rr
  else
  if ¬ a3 = (1 : Int32) then
  if ¬ a3 = (3 : Int32) then
  (f_X7_has σ (σ 184 21) a2).bind fun v97 =>
  if v97 = 0 then
  (lp (fun st => f_X7_points_b3 σ a1 v5 st.1 st.2) FU (v31, (0 : Int32))).bind fun rr => f_X7_points_k1 rr
  else
  (lp (fun st => f_X7_points_b4 σ a1 v5 st.1 st.2) FU (v31, (0 : Int32))).bind fun rr => f_X7_points_k1 rr
  else
  (ga (σ (a1)) (ln (a1)) (5 : Int32)).bind fun v76 =>
  if ¬ (jrem v76 (2 : Int32)) = (1 : Int32) then
  (f_X7_has σ (σ 184 21) a2).bind fun v97 =>
  if v97 = 0 then
  (lp (fun st => f_X7_points_b3 σ a1 v5 st.1 st.2) FU (v31, (0 : Int32))).bind fun rr => f_X7_points_k1 rr
  else
  (lp (fun st => f_X7_points_b4 σ a1 v5 st.1 st.2) FU (v31, (0 : Int32))).bind fun rr => f_X7_points_k1 rr
  else
  (f_X7_has σ (σ 184 21) a2).bind fun v97 =>
  if v97 = 0 then
  (lp (fun st => f_X7_points_b5 σ a1 v5 st.1 st.2) FU (v31, (0 : Int32))).bind fun rr => f_X7_points_k1 rr
  else
  (lp (fun st => f_X7_points_b6 σ a1 v5 st.1 st.2) FU (v31, (0 : Int32))).bind fun rr => f_X7_points_k1 rr
  else
  (ga (σ (a1)) (ln (a1)) ((77 : Int32) + a2)).bind fun v59 =>
  if v59 < (40 : Int32) then
  if ¬ a3 = (3 : Int32) then
  (f_X7_has σ (σ 184 21) a2).bind fun v97 =>
  if v97 = 0 then
  (lp (fun st => f_X7_points_b3 σ a1 v5 st.1 st.2) FU (v31, (0 : Int32))).bind fun rr => f_X7_points_k1 rr
  else
  (lp (fun st => f_X7_points_b4 σ a1 v5 st.1 st.2) FU (v31, (0 : Int32))).bind fun rr => f_X7_points_k1 rr
  else
  (ga (σ (a1)) (ln (a1)) (5 : Int32)).bind fun v76 =>
  if ¬ (jrem v76 (2 : Int32)) = (1 : Int32) then
  (f_X7_has σ (σ 184 21) a2).bind fun v97 =>
  if v97 = 0 then
  (lp (fun st => f_X7_points_b3 σ a1 v5 st.1 st.2) FU (v31, (0 : Int32))).bind fun rr => f_X7_points_k1 rr
  else
  (lp (fun st => f_X7_points_b4 σ a1 v5 st.1 st.2) FU (v31, (0 : Int32))).bind fun rr => f_X7_points_k1 rr
  else
  (f_X7_has σ (σ 184 21) a2).bind fun v97 =>
  if v97 = 0 then
  (lp (fun st => f_X7_points_b5 σ a1 v5 st.1 st.2) FU (v31, (0 : Int32))).bind fun rr => f_X7_points_k1 rr
  else
  (lp (fun st => f_X7_points_b6 σ a1 v5 st.1 st.2) FU (v31, (0 : Int32))).bind fun rr => f_X7_points_k1 rr
  else
  (f_X7_has σ (σ 184 21) a2).bind fun v97 =>
  if v97 = 0 then
  (lp (fun st => f_X7_points_b1 σ a1 v5 st.1 st.2) FU (v31, (0 : Int32))).bind fun rr => f_X7_points_k1 rr
  else
  (lp (fun st => f_X7_points_b2 σ a1 v5 st.1 st.2) FU (v31, (0 : Int32))).bind fun rr => f_X7_points_k1 rr
  else
  some (-4 : Int32)
  else
  some (-4 : Int32)
set_option maxHeartbeats 4000000 in
set_option maxRecDepth 100000 in
theorem c_X7_points (l : Launch) (D : va_G) (w : Wv) (σ : Sg) (a1 : Nat) (a2 : Int32) (a3 : Int32) (a4 : Int32) (r : Int32) (ha1 : isC a1) (hf : f_X7_points σ a1 a2 a3 a4 = some r) : Met l yX7_points (.code yX7_points cX7_points 9 (some .int) :: TB) (rmW 1 25) (pcW D w [.ref (w.1 (184)), .ref (w.1 (a1)), .int a2, .int a3, .int a4] σ) (qiW D w r σ) 0 0 (AL w) := by
  refine q_open (by decide +kernel) (Nat.le_of_ble_eq_true rfl) ?_
  intro p e s m args below meth c ls hx hb hml hr hlk hown hts hK hP hS hl
  have hown : s.vm.findClass RX7 = some m.cls := hown
  have hl : lv_has ls 9 [(0, .ref (w.1 (184))), (1, .ref (w.1 (a1))), (2, .int a2), (3, .int a3), (4, .int a4)] := hl
  unfold f_X7_points at hf
  refine lv_aload_n hx hb dX7_points_0 rfl (lv_at hl 1 rfl) ?_
  refine lv_bipush (v := (71 : Int32)) hx hb dX7_points_1 (by decide) ?_
  refine lv_iload_n hx hb dX7_points_3 rfl (lv_at hl 2 rfl) ?_
  refine lv_iadd hx hb dX7_points_4 ?_
  obtain ⟨v5, h5, hf⟩ := bnd hf
  refine q_iald hx hb hK hP ha1.o ha1.k h5 dX7_points_5 ?_
  refine lv_istore (lv' := [(5, .int v5), (0, .ref (w.1 (184))), (1, .ref (w.1 (a1))), (2, .int a2), (3, .int a3), (4, .int a4)]) hx hb dX7_points_6 hl (by decide) rfl (fun ls hl => ?_)
  refine lv_iload hx hb dX7_points_8 (lv_at hl 0 rfl) ?_
  refine lv_bipush (v := (-4 : Int32)) hx hb dX7_points_10 (by decide) ?_
  refine lv_icmp_ne (tgt := 20) hx hb dX7_points_12 (by decide) (fun hc => ?_) (fun hc => ?_)
  · have hf := ifp hc hf
    refine lv_aload_n hx hb dX7_points_20 rfl (lv_at hl 2 rfl) ?_
    refine lv_bipush (v := (83 : Int32)) hx hb dX7_points_21 (by decide) ?_
    refine lv_bipush (v := (8 : Int32)) hx hb dX7_points_23 (by decide) ?_
    refine lv_iload_n hx hb dX7_points_25 rfl (lv_at hl 3 rfl) ?_
    refine lv_imul hx hb dX7_points_26 ?_
    refine lv_iadd hx hb dX7_points_27 ?_
    refine lv_iload hx hb dX7_points_28 (lv_at hl 5 rfl) ?_
    refine lv_iadd hx hb dX7_points_30 ?_
    obtain ⟨v31, h31, hf⟩ := bnd hf
    refine q_iald hx hb hK hP ha1.o ha1.k h31 dX7_points_31 ?_
    refine lv_istore (lv' := [(6, .int v31), (5, .int v5), (0, .ref (w.1 (184))), (1, .ref (w.1 (a1))), (2, .int a2), (3, .int a3), (4, .int a4)]) hx hb dX7_points_32 hl (by decide) rfl (fun ls hl => ?_)
    refine lv_iload hx hb dX7_points_34 (lv_at hl 0 rfl) ?_
    refine lv_bipush (v := (-4 : Int32)) hx hb dX7_points_36 (by decide) ?_
    refine lv_icmp_ne (tgt := 44) hx hb dX7_points_38 (by decide) (fun hc => ?_) (fun hc => ?_)
    · have hf := ifp hc hf
      refine lv_iload_n hx hb dX7_points_44 rfl (lv_at hl 5 rfl) ?_
      refine lv_iconst (v := (2 : Int32)) hx hb dX7_points_45 (by decide) ?_
      refine lv_icmp_eq (tgt := 65) hx hb dX7_points_46 (by decide) (fun hc => ?_) (fun hc => ?_)
      · have hf := ifp hc hf
        refine lv_iconst (v := (1 : Int32)) hx hb dX7_points_65 (by decide) ?_
        refine lv_goto (tgt := 88) hx hb dX7_points_66 (by decide) ?_
        refine lv_istore (lv' := [(7, .int (1 : Int32)), (6, .int v31), (5, .int v5), (0, .ref (w.1 (184))), (1, .ref (w.1 (a1))), (2, .int a2), (3, .int a3), (4, .int a4)]) hx hb dX7_points_88 hl (by decide) rfl (fun ls hl => ?_)
        refine lv_iload hx hb dX7_points_90 (lv_at hl 0 rfl) ?_
        refine lv_aload_n hx hb dX7_points_92 rfl (lv_at hl 3 rfl) ?_
        refine gt_X7_171 hx hb hts hown hK hP dX7_points_93 ?_
        refine lv_iload_n hx hb dX7_points_96 rfl (lv_at hl 5 rfl) ?_
        obtain ⟨v97, h97, hf⟩ := bnd hf
        refine q_cSz (As := [.int (σ 184 21), .int a2]) hx hb hts hml hown hK hP hS (c_X7_has l D w σ (σ 184 21) a2 v97 h97) hw_X7_174 hd_X7_has ⟨rfl, rfl, rfl⟩ ⟨Nat.le_of_ble_eq_true rfl, Nat.le_of_ble_eq_true rfl⟩ ⟨Nat.le_of_ble_eq_true rfl, Nat.le_of_ble_eq_true rfl⟩ hl.1 rfl (Nat.le_of_ble_eq_true rfl) dX7_points_97 (fun hz97 H locs hP hS => ?_)
        refine lv_if_eq (tgt := 107) hx hb dX7_points_100 (by decide) (fun hc => ?_) (fun hc => ?_)
        · have hf := ifp hc hf
          refine lv_iconst (v := (0 : Int32)) hx hb dX7_points_107 (by decide) ?_
          refine lv_iadd hx hb dX7_points_108 ?_
          refine lv_istore (lv' := [(7, .int ((1 : Int32) + (0 : Int32))), (6, .int v31), (5, .int v5), (0, .ref (w.1 (184))), (1, .ref (w.1 (a1))), (2, .int a2), (3, .int a3), (4, .int a4)]) hx hb dX7_points_109 hl (by decide) rfl (fun ls hl => ?_)
          refine lv_iconst (v := (0 : Int32)) hx hb dX7_points_111 (by decide) ?_
          refine lv_istore (lv' := [(8, .int (0 : Int32)), (7, .int ((1 : Int32) + (0 : Int32))), (6, .int v31), (5, .int v5), (0, .ref (w.1 (184))), (1, .ref (w.1 (a1))), (2, .int a2), (3, .int a3), (4, .int a4)]) hx hb dX7_points_112 hl (by decide) rfl (fun ls hl => ?_)
          obtain ⟨rr, hlp, hf⟩ := bnd hf
          have hE114_138 : ∀ (y6_138 : Int32) (H : Heap) (locs : List Loc) (ls : Array Slot), f_X7_points_k1 y6_138 = some r → va_P D vwCl (WL w σ) H → va_S (AL w) s.heap H locs → lv_has ls 9 [(6, .int y6_138)] → W p l e (rmW 1 25) s m args below meth c H locs 0 0 (MQ below (qiW D w r σ) args s 0 0 (AL w)) (F0 m 138 ls []) := by
            intro y6_138 H locs ls hf hP hS hl
            unfold f_X7_points_k1 at hf
            refine lv_iload hx hb dX7_points_138 (lv_at hl 0 rfl) ?_
            have hq := Option.some.inj hf
            exact q_iret hx hb hr hlk hP hS hq rfl dX7_points_140
          refine lp_ind (G := fun (st : (Int32 × Int32)) => ∀ (H : Heap) (locs : List Loc) (ls : Array Slot), va_P D vwCl (WL w σ) H → va_S (AL w) s.heap H locs → lv_has ls 9 [(0, .ref (w.1 (184))), (1, .ref (w.1 (a1))), (5, .int v5), (6, .int st.1), (7, .int ((1 : Int32) + (0 : Int32))), (8, .int st.2)] → W p l e (rmW 1 25) s m args below meth c H locs 0 0 (MQ below (qiW D w r σ) args s 0 0 (AL w)) (F0 m 114 ls [])) (X := fun rr => f_X7_points_k1 rr = some r) ?_ _ _ rr hlp hf _ _ _ hP hS (lv_sub hl [4, 5, 3, 2, 1, 0] rfl)
          rintro ⟨x6_114, x8_114⟩ oo114 hb9 hG114 hX114 H locs ls hP hS hl
          have hP : va_P D vwCl (WL w σ) H := hP
          have hl : lv_has ls 9 [(0, .ref (w.1 (184))), (1, .ref (w.1 (a1))), (5, .int v5), (6, .int x6_114), (7, .int ((1 : Int32) + (0 : Int32))), (8, .int x8_114)] := hl
          have hf : f_X7_points_b1 σ a1 v5 x6_114 x8_114 = some oo114 := hb9
          unfold f_X7_points_b1 at hf
          refine lv_iload hx hb dX7_points_114 (lv_at hl 5 rfl) ?_
          refine lv_iload hx hb dX7_points_116 (lv_at hl 4 rfl) ?_
          refine lv_icmp_ge (tgt := 138) hx hb dX7_points_118 (by decide) (fun hc => ?_) (fun hc => ?_)
          · have hf := ifp hc hf
            obtain rfl := Option.some.inj hf
            exact hE114_138 x6_114 _ _ _ (hX114 _ rfl) hP hS (lv_sub hl [3] rfl)
          · have hf := ifn hc hf
            refine lv_aload_n hx hb dX7_points_121 rfl (lv_at hl 0 rfl) ?_
            refine lv_aload_n hx hb dX7_points_122 rfl (lv_at hl 1 rfl) ?_
            refine lv_iload hx hb dX7_points_123 (lv_at hl 2 rfl) ?_
            refine lv_iload hx hb dX7_points_125 (lv_at hl 3 rfl) ?_
            obtain ⟨v127, h127, hf⟩ := bnd hf
            refine q_cVi (As := [.ref (w.1 (a1)), .int v5, .int x6_114]) hx hb hts hml hown hK hP hS (c_X7_turned l D w σ (a1) v5 x6_114 v127 ha1 h127) hw_X7_178 hd_X7_turned ⟨rfl, rfl, rfl⟩ o184 (ce7 kd184) rfl ⟨Nat.le_of_ble_eq_true rfl, Nat.le_of_ble_eq_true rfl⟩ ⟨Nat.le_of_ble_eq_true rfl, Nat.le_of_ble_eq_true rfl⟩ hl.1 rfl (Nat.le_of_ble_eq_true rfl) dX7_points_127 (fun H locs hP hS => ?_)
            refine lv_istore (lv' := [(6, .int v127), (0, .ref (w.1 (184))), (1, .ref (w.1 (a1))), (5, .int v5), (7, .int ((1 : Int32) + (0 : Int32))), (8, .int x8_114)]) hx hb dX7_points_130 hl (by decide) rfl (fun ls hl => ?_)
            refine lv_iinc (v := (x8_114 + (1 : Int32))) (lv' := [(8, .int (x8_114 + (1 : Int32))), (6, .int v127), (0, .ref (w.1 (184))), (1, .ref (w.1 (a1))), (5, .int v5), (7, .int ((1 : Int32) + (0 : Int32)))]) hx hb dX7_points_132 hl (k := 5) rfl ii_1 (by decide) rfl (fun ls hl => ?_)
            refine lv_goto (tgt := 114) hx hb dX7_points_135 (by decide) ?_
            obtain rfl := Option.some.inj hf
            exact hG114 _ rfl _ _ _ hP hS (lv_sub hl [2, 3, 4, 1, 5, 0] rfl)
        · have hf := ifn hc hf
          refine lv_iconst (v := (1 : Int32)) hx hb dX7_points_103 (by decide) ?_
          refine lv_goto (tgt := 108) hx hb dX7_points_104 (by decide) ?_
          refine lv_iadd hx hb dX7_points_108 ?_
          refine lv_istore (lv' := [(7, .int ((1 : Int32) + (1 : Int32))), (6, .int v31), (5, .int v5), (0, .ref (w.1 (184))), (1, .ref (w.1 (a1))), (2, .int a2), (3, .int a3), (4, .int a4)]) hx hb dX7_points_109 hl (by decide) rfl (fun ls hl => ?_)
          refine lv_iconst (v := (0 : Int32)) hx hb dX7_points_111 (by decide) ?_
          refine lv_istore (lv' := [(8, .int (0 : Int32)), (7, .int ((1 : Int32) + (1 : Int32))), (6, .int v31), (5, .int v5), (0, .ref (w.1 (184))), (1, .ref (w.1 (a1))), (2, .int a2), (3, .int a3), (4, .int a4)]) hx hb dX7_points_112 hl (by decide) rfl (fun ls hl => ?_)
          obtain ⟨rr, hlp, hf⟩ := bnd hf
          have hE114_138 : ∀ (y6_138 : Int32) (H : Heap) (locs : List Loc) (ls : Array Slot), f_X7_points_k1 y6_138 = some r → va_P D vwCl (WL w σ) H → va_S (AL w) s.heap H locs → lv_has ls 9 [(6, .int y6_138)] → W p l e (rmW 1 25) s m args below meth c H locs 0 0 (MQ below (qiW D w r σ) args s 0 0 (AL w)) (F0 m 138 ls []) := by
            intro y6_138 H locs ls hf hP hS hl
            unfold f_X7_points_k1 at hf
            refine lv_iload hx hb dX7_points_138 (lv_at hl 0 rfl) ?_
            have hq := Option.some.inj hf
            exact q_iret hx hb hr hlk hP hS hq rfl dX7_points_140
          refine lp_ind (G := fun (st : (Int32 × Int32)) => ∀ (H : Heap) (locs : List Loc) (ls : Array Slot), va_P D vwCl (WL w σ) H → va_S (AL w) s.heap H locs → lv_has ls 9 [(0, .ref (w.1 (184))), (1, .ref (w.1 (a1))), (5, .int v5), (6, .int st.1), (7, .int ((1 : Int32) + (1 : Int32))), (8, .int st.2)] → W p l e (rmW 1 25) s m args below meth c H locs 0 0 (MQ below (qiW D w r σ) args s 0 0 (AL w)) (F0 m 114 ls [])) (X := fun rr => f_X7_points_k1 rr = some r) ?_ _ _ rr hlp hf _ _ _ hP hS (lv_sub hl [4, 5, 3, 2, 1, 0] rfl)
          rintro ⟨x6_114, x8_114⟩ oo114 hb9 hG114 hX114 H locs ls hP hS hl
          have hP : va_P D vwCl (WL w σ) H := hP
          have hl : lv_has ls 9 [(0, .ref (w.1 (184))), (1, .ref (w.1 (a1))), (5, .int v5), (6, .int x6_114), (7, .int ((1 : Int32) + (1 : Int32))), (8, .int x8_114)] := hl
          have hf : f_X7_points_b2 σ a1 v5 x6_114 x8_114 = some oo114 := hb9
          unfold f_X7_points_b2 at hf
          refine lv_iload hx hb dX7_points_114 (lv_at hl 5 rfl) ?_
          refine lv_iload hx hb dX7_points_116 (lv_at hl 4 rfl) ?_
          refine lv_icmp_ge (tgt := 138) hx hb dX7_points_118 (by decide) (fun hc => ?_) (fun hc => ?_)
          · have hf := ifp hc hf
            obtain rfl := Option.some.inj hf
            exact hE114_138 x6_114 _ _ _ (hX114 _ rfl) hP hS (lv_sub hl [3] rfl)
          · have hf := ifn hc hf
            refine lv_aload_n hx hb dX7_points_121 rfl (lv_at hl 0 rfl) ?_
            refine lv_aload_n hx hb dX7_points_122 rfl (lv_at hl 1 rfl) ?_
            refine lv_iload hx hb dX7_points_123 (lv_at hl 2 rfl) ?_
            refine lv_iload hx hb dX7_points_125 (lv_at hl 3 rfl) ?_
            obtain ⟨v127, h127, hf⟩ := bnd hf
            refine q_cVi (As := [.ref (w.1 (a1)), .int v5, .int x6_114]) hx hb hts hml hown hK hP hS (c_X7_turned l D w σ (a1) v5 x6_114 v127 ha1 h127) hw_X7_178 hd_X7_turned ⟨rfl, rfl, rfl⟩ o184 (ce7 kd184) rfl ⟨Nat.le_of_ble_eq_true rfl, Nat.le_of_ble_eq_true rfl⟩ ⟨Nat.le_of_ble_eq_true rfl, Nat.le_of_ble_eq_true rfl⟩ hl.1 rfl (Nat.le_of_ble_eq_true rfl) dX7_points_127 (fun H locs hP hS => ?_)
            refine lv_istore (lv' := [(6, .int v127), (0, .ref (w.1 (184))), (1, .ref (w.1 (a1))), (5, .int v5), (7, .int ((1 : Int32) + (1 : Int32))), (8, .int x8_114)]) hx hb dX7_points_130 hl (by decide) rfl (fun ls hl => ?_)
            refine lv_iinc (v := (x8_114 + (1 : Int32))) (lv' := [(8, .int (x8_114 + (1 : Int32))), (6, .int v127), (0, .ref (w.1 (184))), (1, .ref (w.1 (a1))), (5, .int v5), (7, .int ((1 : Int32) + (1 : Int32)))]) hx hb dX7_points_132 hl (k := 5) rfl ii_1 (by decide) rfl (fun ls hl => ?_)
            refine lv_goto (tgt := 114) hx hb dX7_points_135 (by decide) ?_
            obtain rfl := Option.some.inj hf
            exact hG114 _ rfl _ _ _ hP hS (lv_sub hl [2, 3, 4, 1, 5, 0] rfl)
      · have hf := ifn hc hf
        refine lv_iload_n hx hb dX7_points_49 rfl (lv_at hl 5 rfl) ?_
        refine lv_iconst (v := (1 : Int32)) hx hb dX7_points_50 (by decide) ?_
        refine lv_icmp_ne (tgt := 69) hx hb dX7_points_51 (by decide) (fun hc => ?_) (fun hc => ?_)
        · have hf := ifp hc hf
          refine lv_iload_n hx hb dX7_points_69 rfl (lv_at hl 5 rfl) ?_
          refine lv_iconst (v := (3 : Int32)) hx hb dX7_points_70 (by decide) ?_
          refine lv_icmp_ne (tgt := 87) hx hb dX7_points_71 (by decide) (fun hc => ?_) (fun hc => ?_)
          · have hf := ifp hc hf
            refine lv_iconst (v := (0 : Int32)) hx hb dX7_points_87 (by decide) ?_
            refine lv_istore (lv' := [(7, .int (0 : Int32)), (6, .int v31), (5, .int v5), (0, .ref (w.1 (184))), (1, .ref (w.1 (a1))), (2, .int a2), (3, .int a3), (4, .int a4)]) hx hb dX7_points_88 hl (by decide) rfl (fun ls hl => ?_)
            refine lv_iload hx hb dX7_points_90 (lv_at hl 0 rfl) ?_
            refine lv_aload_n hx hb dX7_points_92 rfl (lv_at hl 3 rfl) ?_
            refine gt_X7_171 hx hb hts hown hK hP dX7_points_93 ?_
            refine lv_iload_n hx hb dX7_points_96 rfl (lv_at hl 5 rfl) ?_
            obtain ⟨v97, h97, hf⟩ := bnd hf
            refine q_cSz (As := [.int (σ 184 21), .int a2]) hx hb hts hml hown hK hP hS (c_X7_has l D w σ (σ 184 21) a2 v97 h97) hw_X7_174 hd_X7_has ⟨rfl, rfl, rfl⟩ ⟨Nat.le_of_ble_eq_true rfl, Nat.le_of_ble_eq_true rfl⟩ ⟨Nat.le_of_ble_eq_true rfl, Nat.le_of_ble_eq_true rfl⟩ hl.1 rfl (Nat.le_of_ble_eq_true rfl) dX7_points_97 (fun hz97 H locs hP hS => ?_)
            refine lv_if_eq (tgt := 107) hx hb dX7_points_100 (by decide) (fun hc => ?_) (fun hc => ?_)
            · have hf := ifp hc hf
              refine lv_iconst (v := (0 : Int32)) hx hb dX7_points_107 (by decide) ?_
              refine lv_iadd hx hb dX7_points_108 ?_
              refine lv_istore (lv' := [(7, .int ((0 : Int32) + (0 : Int32))), (6, .int v31), (5, .int v5), (0, .ref (w.1 (184))), (1, .ref (w.1 (a1))), (2, .int a2), (3, .int a3), (4, .int a4)]) hx hb dX7_points_109 hl (by decide) rfl (fun ls hl => ?_)
              refine lv_iconst (v := (0 : Int32)) hx hb dX7_points_111 (by decide) ?_
              refine lv_istore (lv' := [(8, .int (0 : Int32)), (7, .int ((0 : Int32) + (0 : Int32))), (6, .int v31), (5, .int v5), (0, .ref (w.1 (184))), (1, .ref (w.1 (a1))), (2, .int a2), (3, .int a3), (4, .int a4)]) hx hb dX7_points_112 hl (by decide) rfl (fun ls hl => ?_)
              obtain ⟨rr, hlp, hf⟩ := bnd hf
              have hE114_138 : ∀ (y6_138 : Int32) (H : Heap) (locs : List Loc) (ls : Array Slot), f_X7_points_k1 y6_138 = some r → va_P D vwCl (WL w σ) H → va_S (AL w) s.heap H locs → lv_has ls 9 [(6, .int y6_138)] → W p l e (rmW 1 25) s m args below meth c H locs 0 0 (MQ below (qiW D w r σ) args s 0 0 (AL w)) (F0 m 138 ls []) := by
                intro y6_138 H locs ls hf hP hS hl
                unfold f_X7_points_k1 at hf
                refine lv_iload hx hb dX7_points_138 (lv_at hl 0 rfl) ?_
                have hq := Option.some.inj hf
                exact q_iret hx hb hr hlk hP hS hq rfl dX7_points_140
              refine lp_ind (G := fun (st : (Int32 × Int32)) => ∀ (H : Heap) (locs : List Loc) (ls : Array Slot), va_P D vwCl (WL w σ) H → va_S (AL w) s.heap H locs → lv_has ls 9 [(0, .ref (w.1 (184))), (1, .ref (w.1 (a1))), (5, .int v5), (6, .int st.1), (7, .int ((0 : Int32) + (0 : Int32))), (8, .int st.2)] → W p l e (rmW 1 25) s m args below meth c H locs 0 0 (MQ below (qiW D w r σ) args s 0 0 (AL w)) (F0 m 114 ls [])) (X := fun rr => f_X7_points_k1 rr = some r) ?_ _ _ rr hlp hf _ _ _ hP hS (lv_sub hl [4, 5, 3, 2, 1, 0] rfl)
              rintro ⟨x6_114, x8_114⟩ oo114 hb9 hG114 hX114 H locs ls hP hS hl
              have hP : va_P D vwCl (WL w σ) H := hP
              have hl : lv_has ls 9 [(0, .ref (w.1 (184))), (1, .ref (w.1 (a1))), (5, .int v5), (6, .int x6_114), (7, .int ((0 : Int32) + (0 : Int32))), (8, .int x8_114)] := hl
              have hf : f_X7_points_b3 σ a1 v5 x6_114 x8_114 = some oo114 := hb9
              unfold f_X7_points_b3 at hf
              refine lv_iload hx hb dX7_points_114 (lv_at hl 5 rfl) ?_
              refine lv_iload hx hb dX7_points_116 (lv_at hl 4 rfl) ?_
              refine lv_icmp_ge (tgt := 138) hx hb dX7_points_118 (by decide) (fun hc => ?_) (fun hc => ?_)
              · have hf := ifp hc hf
                obtain rfl := Option.some.inj hf
                exact hE114_138 x6_114 _ _ _ (hX114 _ rfl) hP hS (lv_sub hl [3] rfl)
              · have hf := ifn hc hf
                refine lv_aload_n hx hb dX7_points_121 rfl (lv_at hl 0 rfl) ?_
                refine lv_aload_n hx hb dX7_points_122 rfl (lv_at hl 1 rfl) ?_
                refine lv_iload hx hb dX7_points_123 (lv_at hl 2 rfl) ?_
                refine lv_iload hx hb dX7_points_125 (lv_at hl 3 rfl) ?_
                obtain ⟨v127, h127, hf⟩ := bnd hf
                refine q_cVi (As := [.ref (w.1 (a1)), .int v5, .int x6_114]) hx hb hts hml hown hK hP hS (c_X7_turned l D w σ (a1) v5 x6_114 v127 ha1 h127) hw_X7_178 hd_X7_turned ⟨rfl, rfl, rfl⟩ o184 (ce7 kd184) rfl ⟨Nat.le_of_ble_eq_true rfl, Nat.le_of_ble_eq_true rfl⟩ ⟨Nat.le_of_ble_eq_true rfl, Nat.le_of_ble_eq_true rfl⟩ hl.1 rfl (Nat.le_of_ble_eq_true rfl) dX7_points_127 (fun H locs hP hS => ?_)
                refine lv_istore (lv' := [(6, .int v127), (0, .ref (w.1 (184))), (1, .ref (w.1 (a1))), (5, .int v5), (7, .int ((0 : Int32) + (0 : Int32))), (8, .int x8_114)]) hx hb dX7_points_130 hl (by decide) rfl (fun ls hl => ?_)
                refine lv_iinc (v := (x8_114 + (1 : Int32))) (lv' := [(8, .int (x8_114 + (1 : Int32))), (6, .int v127), (0, .ref (w.1 (184))), (1, .ref (w.1 (a1))), (5, .int v5), (7, .int ((0 : Int32) + (0 : Int32)))]) hx hb dX7_points_132 hl (k := 5) rfl ii_1 (by decide) rfl (fun ls hl => ?_)
                refine lv_goto (tgt := 114) hx hb dX7_points_135 (by decide) ?_
                obtain rfl := Option.some.inj hf
                exact hG114 _ rfl _ _ _ hP hS (lv_sub hl [2, 3, 4, 1, 5, 0] rfl)
            · have hf := ifn hc hf
              refine lv_iconst (v := (1 : Int32)) hx hb dX7_points_103 (by decide) ?_
              refine lv_goto (tgt := 108) hx hb dX7_points_104 (by decide) ?_
              refine lv_iadd hx hb dX7_points_108 ?_
              refine lv_istore (lv' := [(7, .int ((0 : Int32) + (1 : Int32))), (6, .int v31), (5, .int v5), (0, .ref (w.1 (184))), (1, .ref (w.1 (a1))), (2, .int a2), (3, .int a3), (4, .int a4)]) hx hb dX7_points_109 hl (by decide) rfl (fun ls hl => ?_)
              refine lv_iconst (v := (0 : Int32)) hx hb dX7_points_111 (by decide) ?_
              refine lv_istore (lv' := [(8, .int (0 : Int32)), (7, .int ((0 : Int32) + (1 : Int32))), (6, .int v31), (5, .int v5), (0, .ref (w.1 (184))), (1, .ref (w.1 (a1))), (2, .int a2), (3, .int a3), (4, .int a4)]) hx hb dX7_points_112 hl (by decide) rfl (fun ls hl => ?_)
              obtain ⟨rr, hlp, hf⟩ := bnd hf
              have hE114_138 : ∀ (y6_138 : Int32) (H : Heap) (locs : List Loc) (ls : Array Slot), f_X7_points_k1 y6_138 = some r → va_P D vwCl (WL w σ) H → va_S (AL w) s.heap H locs → lv_has ls 9 [(6, .int y6_138)] → W p l e (rmW 1 25) s m args below meth c H locs 0 0 (MQ below (qiW D w r σ) args s 0 0 (AL w)) (F0 m 138 ls []) := by
                intro y6_138 H locs ls hf hP hS hl
                unfold f_X7_points_k1 at hf
                refine lv_iload hx hb dX7_points_138 (lv_at hl 0 rfl) ?_
                have hq := Option.some.inj hf
                exact q_iret hx hb hr hlk hP hS hq rfl dX7_points_140
              refine lp_ind (G := fun (st : (Int32 × Int32)) => ∀ (H : Heap) (locs : List Loc) (ls : Array Slot), va_P D vwCl (WL w σ) H → va_S (AL w) s.heap H locs → lv_has ls 9 [(0, .ref (w.1 (184))), (1, .ref (w.1 (a1))), (5, .int v5), (6, .int st.1), (7, .int ((0 : Int32) + (1 : Int32))), (8, .int st.2)] → W p l e (rmW 1 25) s m args below meth c H locs 0 0 (MQ below (qiW D w r σ) args s 0 0 (AL w)) (F0 m 114 ls [])) (X := fun rr => f_X7_points_k1 rr = some r) ?_ _ _ rr hlp hf _ _ _ hP hS (lv_sub hl [4, 5, 3, 2, 1, 0] rfl)
              rintro ⟨x6_114, x8_114⟩ oo114 hb9 hG114 hX114 H locs ls hP hS hl
              have hP : va_P D vwCl (WL w σ) H := hP
              have hl : lv_has ls 9 [(0, .ref (w.1 (184))), (1, .ref (w.1 (a1))), (5, .int v5), (6, .int x6_114), (7, .int ((0 : Int32) + (1 : Int32))), (8, .int x8_114)] := hl
              have hf : f_X7_points_b4 σ a1 v5 x6_114 x8_114 = some oo114 := hb9
              unfold f_X7_points_b4 at hf
              refine lv_iload hx hb dX7_points_114 (lv_at hl 5 rfl) ?_
              refine lv_iload hx hb dX7_points_116 (lv_at hl 4 rfl) ?_
              refine lv_icmp_ge (tgt := 138) hx hb dX7_points_118 (by decide) (fun hc => ?_) (fun hc => ?_)
              · have hf := ifp hc hf
                obtain rfl := Option.some.inj hf
                exact hE114_138 x6_114 _ _ _ (hX114 _ rfl) hP hS (lv_sub hl [3] rfl)
              · have hf := ifn hc hf
                refine lv_aload_n hx hb dX7_points_121 rfl (lv_at hl 0 rfl) ?_
                refine lv_aload_n hx hb dX7_points_122 rfl (lv_at hl 1 rfl) ?_
                refine lv_iload hx hb dX7_points_123 (lv_at hl 2 rfl) ?_
                refine lv_iload hx hb dX7_points_125 (lv_at hl 3 rfl) ?_
                obtain ⟨v127, h127, hf⟩ := bnd hf
                refine q_cVi (As := [.ref (w.1 (a1)), .int v5, .int x6_114]) hx hb hts hml hown hK hP hS (c_X7_turned l D w σ (a1) v5 x6_114 v127 ha1 h127) hw_X7_178 hd_X7_turned ⟨rfl, rfl, rfl⟩ o184 (ce7 kd184) rfl ⟨Nat.le_of_ble_eq_true rfl, Nat.le_of_ble_eq_true rfl⟩ ⟨Nat.le_of_ble_eq_true rfl, Nat.le_of_ble_eq_true rfl⟩ hl.1 rfl (Nat.le_of_ble_eq_true rfl) dX7_points_127 (fun H locs hP hS => ?_)
                refine lv_istore (lv' := [(6, .int v127), (0, .ref (w.1 (184))), (1, .ref (w.1 (a1))), (5, .int v5), (7, .int ((0 : Int32) + (1 : Int32))), (8, .int x8_114)]) hx hb dX7_points_130 hl (by decide) rfl (fun ls hl => ?_)
                refine lv_iinc (v := (x8_114 + (1 : Int32))) (lv' := [(8, .int (x8_114 + (1 : Int32))), (6, .int v127), (0, .ref (w.1 (184))), (1, .ref (w.1 (a1))), (5, .int v5), (7, .int ((0 : Int32) + (1 : Int32)))]) hx hb dX7_points_132 hl (k := 5) rfl ii_1 (by decide) rfl (fun ls hl => ?_)
                refine lv_goto (tgt := 114) hx hb dX7_points_135 (by decide) ?_
                obtain rfl := Option.some.inj hf
                exact hG114 _ rfl _ _ _ hP hS (lv_sub hl [2, 3, 4, 1, 5, 0] rfl)
          · have hf := ifn (fun h => h hc) hf
            refine lv_aload_n hx hb dX7_points_74 rfl (lv_at hl 3 rfl) ?_
            refine lv_iconst (v := (5 : Int32)) hx hb dX7_points_75 (by decide) ?_
            obtain ⟨v76, h76, hf⟩ := bnd hf
            refine q_iald hx hb hK hP ha1.o ha1.k h76 dX7_points_76 ?_
            refine lv_iconst (v := (2 : Int32)) hx hb dX7_points_77 (by decide) ?_
            refine q_iremL hx hb (by decide) dX7_points_78 ?_
            refine lv_iconst (v := (1 : Int32)) hx hb dX7_points_79 (by decide) ?_
            refine lv_icmp_ne (tgt := 87) hx hb dX7_points_80 (by decide) (fun hc => ?_) (fun hc => ?_)
            · have hf := ifp hc hf
              refine lv_iconst (v := (0 : Int32)) hx hb dX7_points_87 (by decide) ?_
              refine lv_istore (lv' := [(7, .int (0 : Int32)), (6, .int v31), (5, .int v5), (0, .ref (w.1 (184))), (1, .ref (w.1 (a1))), (2, .int a2), (3, .int a3), (4, .int a4)]) hx hb dX7_points_88 hl (by decide) rfl (fun ls hl => ?_)
              refine lv_iload hx hb dX7_points_90 (lv_at hl 0 rfl) ?_
              refine lv_aload_n hx hb dX7_points_92 rfl (lv_at hl 3 rfl) ?_
              refine gt_X7_171 hx hb hts hown hK hP dX7_points_93 ?_
              refine lv_iload_n hx hb dX7_points_96 rfl (lv_at hl 5 rfl) ?_
              obtain ⟨v97, h97, hf⟩ := bnd hf
              refine q_cSz (As := [.int (σ 184 21), .int a2]) hx hb hts hml hown hK hP hS (c_X7_has l D w σ (σ 184 21) a2 v97 h97) hw_X7_174 hd_X7_has ⟨rfl, rfl, rfl⟩ ⟨Nat.le_of_ble_eq_true rfl, Nat.le_of_ble_eq_true rfl⟩ ⟨Nat.le_of_ble_eq_true rfl, Nat.le_of_ble_eq_true rfl⟩ hl.1 rfl (Nat.le_of_ble_eq_true rfl) dX7_points_97 (fun hz97 H locs hP hS => ?_)
              refine lv_if_eq (tgt := 107) hx hb dX7_points_100 (by decide) (fun hc => ?_) (fun hc => ?_)
              · have hf := ifp hc hf
                refine lv_iconst (v := (0 : Int32)) hx hb dX7_points_107 (by decide) ?_
                refine lv_iadd hx hb dX7_points_108 ?_
                refine lv_istore (lv' := [(7, .int ((0 : Int32) + (0 : Int32))), (6, .int v31), (5, .int v5), (0, .ref (w.1 (184))), (1, .ref (w.1 (a1))), (2, .int a2), (3, .int a3), (4, .int a4)]) hx hb dX7_points_109 hl (by decide) rfl (fun ls hl => ?_)
                refine lv_iconst (v := (0 : Int32)) hx hb dX7_points_111 (by decide) ?_
                refine lv_istore (lv' := [(8, .int (0 : Int32)), (7, .int ((0 : Int32) + (0 : Int32))), (6, .int v31), (5, .int v5), (0, .ref (w.1 (184))), (1, .ref (w.1 (a1))), (2, .int a2), (3, .int a3), (4, .int a4)]) hx hb dX7_points_112 hl (by decide) rfl (fun ls hl => ?_)
                obtain ⟨rr, hlp, hf⟩ := bnd hf
                have hE114_138 : ∀ (y6_138 : Int32) (H : Heap) (locs : List Loc) (ls : Array Slot), f_X7_points_k1 y6_138 = some r → va_P D vwCl (WL w σ) H → va_S (AL w) s.heap H locs → lv_has ls 9 [(6, .int y6_138)] → W p l e (rmW 1 25) s m args below meth c H locs 0 0 (MQ below (qiW D w r σ) args s 0 0 (AL w)) (F0 m 138 ls []) := by
                  intro y6_138 H locs ls hf hP hS hl
                  unfold f_X7_points_k1 at hf
                  refine lv_iload hx hb dX7_points_138 (lv_at hl 0 rfl) ?_
                  have hq := Option.some.inj hf
                  exact q_iret hx hb hr hlk hP hS hq rfl dX7_points_140
                refine lp_ind (G := fun (st : (Int32 × Int32)) => ∀ (H : Heap) (locs : List Loc) (ls : Array Slot), va_P D vwCl (WL w σ) H → va_S (AL w) s.heap H locs → lv_has ls 9 [(0, .ref (w.1 (184))), (1, .ref (w.1 (a1))), (5, .int v5), (6, .int st.1), (7, .int ((0 : Int32) + (0 : Int32))), (8, .int st.2)] → W p l e (rmW 1 25) s m args below meth c H locs 0 0 (MQ below (qiW D w r σ) args s 0 0 (AL w)) (F0 m 114 ls [])) (X := fun rr => f_X7_points_k1 rr = some r) ?_ _ _ rr hlp hf _ _ _ hP hS (lv_sub hl [4, 5, 3, 2, 1, 0] rfl)
                rintro ⟨x6_114, x8_114⟩ oo114 hb9 hG114 hX114 H locs ls hP hS hl
                have hP : va_P D vwCl (WL w σ) H := hP
                have hl : lv_has ls 9 [(0, .ref (w.1 (184))), (1, .ref (w.1 (a1))), (5, .int v5), (6, .int x6_114), (7, .int ((0 : Int32) + (0 : Int32))), (8, .int x8_114)] := hl
                have hf : f_X7_points_b3 σ a1 v5 x6_114 x8_114 = some oo114 := hb9
                unfold f_X7_points_b3 at hf
                refine lv_iload hx hb dX7_points_114 (lv_at hl 5 rfl) ?_
                refine lv_iload hx hb dX7_points_116 (lv_at hl 4 rfl) ?_
                refine lv_icmp_ge (tgt := 138) hx hb dX7_points_118 (by decide) (fun hc => ?_) (fun hc => ?_)
                · have hf := ifp hc hf
                  obtain rfl := Option.some.inj hf
                  exact hE114_138 x6_114 _ _ _ (hX114 _ rfl) hP hS (lv_sub hl [3] rfl)
                · have hf := ifn hc hf
                  refine lv_aload_n hx hb dX7_points_121 rfl (lv_at hl 0 rfl) ?_
                  refine lv_aload_n hx hb dX7_points_122 rfl (lv_at hl 1 rfl) ?_
                  refine lv_iload hx hb dX7_points_123 (lv_at hl 2 rfl) ?_
                  refine lv_iload hx hb dX7_points_125 (lv_at hl 3 rfl) ?_
                  obtain ⟨v127, h127, hf⟩ := bnd hf
                  refine q_cVi (As := [.ref (w.1 (a1)), .int v5, .int x6_114]) hx hb hts hml hown hK hP hS (c_X7_turned l D w σ (a1) v5 x6_114 v127 ha1 h127) hw_X7_178 hd_X7_turned ⟨rfl, rfl, rfl⟩ o184 (ce7 kd184) rfl ⟨Nat.le_of_ble_eq_true rfl, Nat.le_of_ble_eq_true rfl⟩ ⟨Nat.le_of_ble_eq_true rfl, Nat.le_of_ble_eq_true rfl⟩ hl.1 rfl (Nat.le_of_ble_eq_true rfl) dX7_points_127 (fun H locs hP hS => ?_)
                  refine lv_istore (lv' := [(6, .int v127), (0, .ref (w.1 (184))), (1, .ref (w.1 (a1))), (5, .int v5), (7, .int ((0 : Int32) + (0 : Int32))), (8, .int x8_114)]) hx hb dX7_points_130 hl (by decide) rfl (fun ls hl => ?_)
                  refine lv_iinc (v := (x8_114 + (1 : Int32))) (lv' := [(8, .int (x8_114 + (1 : Int32))), (6, .int v127), (0, .ref (w.1 (184))), (1, .ref (w.1 (a1))), (5, .int v5), (7, .int ((0 : Int32) + (0 : Int32)))]) hx hb dX7_points_132 hl (k := 5) rfl ii_1 (by decide) rfl (fun ls hl => ?_)
                  refine lv_goto (tgt := 114) hx hb dX7_points_135 (by decide) ?_
                  obtain rfl := Option.some.inj hf
                  exact hG114 _ rfl _ _ _ hP hS (lv_sub hl [2, 3, 4, 1, 5, 0] rfl)
              · have hf := ifn hc hf
                refine lv_iconst (v := (1 : Int32)) hx hb dX7_points_103 (by decide) ?_
                refine lv_goto (tgt := 108) hx hb dX7_points_104 (by decide) ?_
                refine lv_iadd hx hb dX7_points_108 ?_
                refine lv_istore (lv' := [(7, .int ((0 : Int32) + (1 : Int32))), (6, .int v31), (5, .int v5), (0, .ref (w.1 (184))), (1, .ref (w.1 (a1))), (2, .int a2), (3, .int a3), (4, .int a4)]) hx hb dX7_points_109 hl (by decide) rfl (fun ls hl => ?_)
                refine lv_iconst (v := (0 : Int32)) hx hb dX7_points_111 (by decide) ?_
                refine lv_istore (lv' := [(8, .int (0 : Int32)), (7, .int ((0 : Int32) + (1 : Int32))), (6, .int v31), (5, .int v5), (0, .ref (w.1 (184))), (1, .ref (w.1 (a1))), (2, .int a2), (3, .int a3), (4, .int a4)]) hx hb dX7_points_112 hl (by decide) rfl (fun ls hl => ?_)
                obtain ⟨rr, hlp, hf⟩ := bnd hf
                have hE114_138 : ∀ (y6_138 : Int32) (H : Heap) (locs : List Loc) (ls : Array Slot), f_X7_points_k1 y6_138 = some r → va_P D vwCl (WL w σ) H → va_S (AL w) s.heap H locs → lv_has ls 9 [(6, .int y6_138)] → W p l e (rmW 1 25) s m args below meth c H locs 0 0 (MQ below (qiW D w r σ) args s 0 0 (AL w)) (F0 m 138 ls []) := by
                  intro y6_138 H locs ls hf hP hS hl
                  unfold f_X7_points_k1 at hf
                  refine lv_iload hx hb dX7_points_138 (lv_at hl 0 rfl) ?_
                  have hq := Option.some.inj hf
                  exact q_iret hx hb hr hlk hP hS hq rfl dX7_points_140
                refine lp_ind (G := fun (st : (Int32 × Int32)) => ∀ (H : Heap) (locs : List Loc) (ls : Array Slot), va_P D vwCl (WL w σ) H → va_S (AL w) s.heap H locs → lv_has ls 9 [(0, .ref (w.1 (184))), (1, .ref (w.1 (a1))), (5, .int v5), (6, .int st.1), (7, .int ((0 : Int32) + (1 : Int32))), (8, .int st.2)] → W p l e (rmW 1 25) s m args below meth c H locs 0 0 (MQ below (qiW D w r σ) args s 0 0 (AL w)) (F0 m 114 ls [])) (X := fun rr => f_X7_points_k1 rr = some r) ?_ _ _ rr hlp hf _ _ _ hP hS (lv_sub hl [4, 5, 3, 2, 1, 0] rfl)
                rintro ⟨x6_114, x8_114⟩ oo114 hb9 hG114 hX114 H locs ls hP hS hl
                have hP : va_P D vwCl (WL w σ) H := hP
                have hl : lv_has ls 9 [(0, .ref (w.1 (184))), (1, .ref (w.1 (a1))), (5, .int v5), (6, .int x6_114), (7, .int ((0 : Int32) + (1 : Int32))), (8, .int x8_114)] := hl
                have hf : f_X7_points_b4 σ a1 v5 x6_114 x8_114 = some oo114 := hb9
                unfold f_X7_points_b4 at hf
                refine lv_iload hx hb dX7_points_114 (lv_at hl 5 rfl) ?_
                refine lv_iload hx hb dX7_points_116 (lv_at hl 4 rfl) ?_
                refine lv_icmp_ge (tgt := 138) hx hb dX7_points_118 (by decide) (fun hc => ?_) (fun hc => ?_)
                · have hf := ifp hc hf
                  obtain rfl := Option.some.inj hf
                  exact hE114_138 x6_114 _ _ _ (hX114 _ rfl) hP hS (lv_sub hl [3] rfl)
                · have hf := ifn hc hf
                  refine lv_aload_n hx hb dX7_points_121 rfl (lv_at hl 0 rfl) ?_
                  refine lv_aload_n hx hb dX7_points_122 rfl (lv_at hl 1 rfl) ?_
                  refine lv_iload hx hb dX7_points_123 (lv_at hl 2 rfl) ?_
                  refine lv_iload hx hb dX7_points_125 (lv_at hl 3 rfl) ?_
                  obtain ⟨v127, h127, hf⟩ := bnd hf
                  refine q_cVi (As := [.ref (w.1 (a1)), .int v5, .int x6_114]) hx hb hts hml hown hK hP hS (c_X7_turned l D w σ (a1) v5 x6_114 v127 ha1 h127) hw_X7_178 hd_X7_turned ⟨rfl, rfl, rfl⟩ o184 (ce7 kd184) rfl ⟨Nat.le_of_ble_eq_true rfl, Nat.le_of_ble_eq_true rfl⟩ ⟨Nat.le_of_ble_eq_true rfl, Nat.le_of_ble_eq_true rfl⟩ hl.1 rfl (Nat.le_of_ble_eq_true rfl) dX7_points_127 (fun H locs hP hS => ?_)
                  refine lv_istore (lv' := [(6, .int v127), (0, .ref (w.1 (184))), (1, .ref (w.1 (a1))), (5, .int v5), (7, .int ((0 : Int32) + (1 : Int32))), (8, .int x8_114)]) hx hb dX7_points_130 hl (by decide) rfl (fun ls hl => ?_)
                  refine lv_iinc (v := (x8_114 + (1 : Int32))) (lv' := [(8, .int (x8_114 + (1 : Int32))), (6, .int v127), (0, .ref (w.1 (184))), (1, .ref (w.1 (a1))), (5, .int v5), (7, .int ((0 : Int32) + (1 : Int32)))]) hx hb dX7_points_132 hl (k := 5) rfl ii_1 (by decide) rfl (fun ls hl => ?_)
                  refine lv_goto (tgt := 114) hx hb dX7_points_135 (by decide) ?_
                  obtain rfl := Option.some.inj hf
                  exact hG114 _ rfl _ _ _ hP hS (lv_sub hl [2, 3, 4, 1, 5, 0] rfl)
            · have hf := ifn (fun h => h hc) hf
              refine lv_iconst (v := (2 : Int32)) hx hb dX7_points_83 (by decide) ?_
              refine lv_goto (tgt := 88) hx hb dX7_points_84 (by decide) ?_
              refine lv_istore (lv' := [(7, .int (2 : Int32)), (6, .int v31), (5, .int v5), (0, .ref (w.1 (184))), (1, .ref (w.1 (a1))), (2, .int a2), (3, .int a3), (4, .int a4)]) hx hb dX7_points_88 hl (by decide) rfl (fun ls hl => ?_)
              refine lv_iload hx hb dX7_points_90 (lv_at hl 0 rfl) ?_
              refine lv_aload_n hx hb dX7_points_92 rfl (lv_at hl 3 rfl) ?_
              refine gt_X7_171 hx hb hts hown hK hP dX7_points_93 ?_
              refine lv_iload_n hx hb dX7_points_96 rfl (lv_at hl 5 rfl) ?_
              obtain ⟨v97, h97, hf⟩ := bnd hf
              refine q_cSz (As := [.int (σ 184 21), .int a2]) hx hb hts hml hown hK hP hS (c_X7_has l D w σ (σ 184 21) a2 v97 h97) hw_X7_174 hd_X7_has ⟨rfl, rfl, rfl⟩ ⟨Nat.le_of_ble_eq_true rfl, Nat.le_of_ble_eq_true rfl⟩ ⟨Nat.le_of_ble_eq_true rfl, Nat.le_of_ble_eq_true rfl⟩ hl.1 rfl (Nat.le_of_ble_eq_true rfl) dX7_points_97 (fun hz97 H locs hP hS => ?_)
              refine lv_if_eq (tgt := 107) hx hb dX7_points_100 (by decide) (fun hc => ?_) (fun hc => ?_)
              · have hf := ifp hc hf
                refine lv_iconst (v := (0 : Int32)) hx hb dX7_points_107 (by decide) ?_
                refine lv_iadd hx hb dX7_points_108 ?_
                refine lv_istore (lv' := [(7, .int ((2 : Int32) + (0 : Int32))), (6, .int v31), (5, .int v5), (0, .ref (w.1 (184))), (1, .ref (w.1 (a1))), (2, .int a2), (3, .int a3), (4, .int a4)]) hx hb dX7_points_109 hl (by decide) rfl (fun ls hl => ?_)
                refine lv_iconst (v := (0 : Int32)) hx hb dX7_points_111 (by decide) ?_
                refine lv_istore (lv' := [(8, .int (0 : Int32)), (7, .int ((2 : Int32) + (0 : Int32))), (6, .int v31), (5, .int v5), (0, .ref (w.1 (184))), (1, .ref (w.1 (a1))), (2, .int a2), (3, .int a3), (4, .int a4)]) hx hb dX7_points_112 hl (by decide) rfl (fun ls hl => ?_)
                obtain ⟨rr, hlp, hf⟩ := bnd hf
                have hE114_138 : ∀ (y6_138 : Int32) (H : Heap) (locs : List Loc) (ls : Array Slot), f_X7_points_k1 y6_138 = some r → va_P D vwCl (WL w σ) H → va_S (AL w) s.heap H locs → lv_has ls 9 [(6, .int y6_138)] → W p l e (rmW 1 25) s m args below meth c H locs 0 0 (MQ below (qiW D w r σ) args s 0 0 (AL w)) (F0 m 138 ls []) := by
                  intro y6_138 H locs ls hf hP hS hl
                  unfold f_X7_points_k1 at hf
                  refine lv_iload hx hb dX7_points_138 (lv_at hl 0 rfl) ?_
                  have hq := Option.some.inj hf
                  exact q_iret hx hb hr hlk hP hS hq rfl dX7_points_140
                refine lp_ind (G := fun (st : (Int32 × Int32)) => ∀ (H : Heap) (locs : List Loc) (ls : Array Slot), va_P D vwCl (WL w σ) H → va_S (AL w) s.heap H locs → lv_has ls 9 [(0, .ref (w.1 (184))), (1, .ref (w.1 (a1))), (5, .int v5), (6, .int st.1), (7, .int ((2 : Int32) + (0 : Int32))), (8, .int st.2)] → W p l e (rmW 1 25) s m args below meth c H locs 0 0 (MQ below (qiW D w r σ) args s 0 0 (AL w)) (F0 m 114 ls [])) (X := fun rr => f_X7_points_k1 rr = some r) ?_ _ _ rr hlp hf _ _ _ hP hS (lv_sub hl [4, 5, 3, 2, 1, 0] rfl)
                rintro ⟨x6_114, x8_114⟩ oo114 hb9 hG114 hX114 H locs ls hP hS hl
                have hP : va_P D vwCl (WL w σ) H := hP
                have hl : lv_has ls 9 [(0, .ref (w.1 (184))), (1, .ref (w.1 (a1))), (5, .int v5), (6, .int x6_114), (7, .int ((2 : Int32) + (0 : Int32))), (8, .int x8_114)] := hl
                have hf : f_X7_points_b5 σ a1 v5 x6_114 x8_114 = some oo114 := hb9
                unfold f_X7_points_b5 at hf
                refine lv_iload hx hb dX7_points_114 (lv_at hl 5 rfl) ?_
                refine lv_iload hx hb dX7_points_116 (lv_at hl 4 rfl) ?_
                refine lv_icmp_ge (tgt := 138) hx hb dX7_points_118 (by decide) (fun hc => ?_) (fun hc => ?_)
                · have hf := ifp hc hf
                  obtain rfl := Option.some.inj hf
                  exact hE114_138 x6_114 _ _ _ (hX114 _ rfl) hP hS (lv_sub hl [3] rfl)
                · have hf := ifn hc hf
                  refine lv_aload_n hx hb dX7_points_121 rfl (lv_at hl 0 rfl) ?_
                  refine lv_aload_n hx hb dX7_points_122 rfl (lv_at hl 1 rfl) ?_
                  refine lv_iload hx hb dX7_points_123 (lv_at hl 2 rfl) ?_
                  refine lv_iload hx hb dX7_points_125 (lv_at hl 3 rfl) ?_
                  obtain ⟨v127, h127, hf⟩ := bnd hf
                  refine q_cVi (As := [.ref (w.1 (a1)), .int v5, .int x6_114]) hx hb hts hml hown hK hP hS (c_X7_turned l D w σ (a1) v5 x6_114 v127 ha1 h127) hw_X7_178 hd_X7_turned ⟨rfl, rfl, rfl⟩ o184 (ce7 kd184) rfl ⟨Nat.le_of_ble_eq_true rfl, Nat.le_of_ble_eq_true rfl⟩ ⟨Nat.le_of_ble_eq_true rfl, Nat.le_of_ble_eq_true rfl⟩ hl.1 rfl (Nat.le_of_ble_eq_true rfl) dX7_points_127 (fun H locs hP hS => ?_)
                  refine lv_istore (lv' := [(6, .int v127), (0, .ref (w.1 (184))), (1, .ref (w.1 (a1))), (5, .int v5), (7, .int ((2 : Int32) + (0 : Int32))), (8, .int x8_114)]) hx hb dX7_points_130 hl (by decide) rfl (fun ls hl => ?_)
                  refine lv_iinc (v := (x8_114 + (1 : Int32))) (lv' := [(8, .int (x8_114 + (1 : Int32))), (6, .int v127), (0, .ref (w.1 (184))), (1, .ref (w.1 (a1))), (5, .int v5), (7, .int ((2 : Int32) + (0 : Int32)))]) hx hb dX7_points_132 hl (k := 5) rfl ii_1 (by decide) rfl (fun ls hl => ?_)
                  refine lv_goto (tgt := 114) hx hb dX7_points_135 (by decide) ?_
                  obtain rfl := Option.some.inj hf
                  exact hG114 _ rfl _ _ _ hP hS (lv_sub hl [2, 3, 4, 1, 5, 0] rfl)
              · have hf := ifn hc hf
                refine lv_iconst (v := (1 : Int32)) hx hb dX7_points_103 (by decide) ?_
                refine lv_goto (tgt := 108) hx hb dX7_points_104 (by decide) ?_
                refine lv_iadd hx hb dX7_points_108 ?_
                refine lv_istore (lv' := [(7, .int ((2 : Int32) + (1 : Int32))), (6, .int v31), (5, .int v5), (0, .ref (w.1 (184))), (1, .ref (w.1 (a1))), (2, .int a2), (3, .int a3), (4, .int a4)]) hx hb dX7_points_109 hl (by decide) rfl (fun ls hl => ?_)
                refine lv_iconst (v := (0 : Int32)) hx hb dX7_points_111 (by decide) ?_
                refine lv_istore (lv' := [(8, .int (0 : Int32)), (7, .int ((2 : Int32) + (1 : Int32))), (6, .int v31), (5, .int v5), (0, .ref (w.1 (184))), (1, .ref (w.1 (a1))), (2, .int a2), (3, .int a3), (4, .int a4)]) hx hb dX7_points_112 hl (by decide) rfl (fun ls hl => ?_)
                obtain ⟨rr, hlp, hf⟩ := bnd hf
                have hE114_138 : ∀ (y6_138 : Int32) (H : Heap) (locs : List Loc) (ls : Array Slot), f_X7_points_k1 y6_138 = some r → va_P D vwCl (WL w σ) H → va_S (AL w) s.heap H locs → lv_has ls 9 [(6, .int y6_138)] → W p l e (rmW 1 25) s m args below meth c H locs 0 0 (MQ below (qiW D w r σ) args s 0 0 (AL w)) (F0 m 138 ls []) := by
                  intro y6_138 H locs ls hf hP hS hl
                  unfold f_X7_points_k1 at hf
                  refine lv_iload hx hb dX7_points_138 (lv_at hl 0 rfl) ?_
                  have hq := Option.some.inj hf
                  exact q_iret hx hb hr hlk hP hS hq rfl dX7_points_140
                refine lp_ind (G := fun (st : (Int32 × Int32)) => ∀ (H : Heap) (locs : List Loc) (ls : Array Slot), va_P D vwCl (WL w σ) H → va_S (AL w) s.heap H locs → lv_has ls 9 [(0, .ref (w.1 (184))), (1, .ref (w.1 (a1))), (5, .int v5), (6, .int st.1), (7, .int ((2 : Int32) + (1 : Int32))), (8, .int st.2)] → W p l e (rmW 1 25) s m args below meth c H locs 0 0 (MQ below (qiW D w r σ) args s 0 0 (AL w)) (F0 m 114 ls [])) (X := fun rr => f_X7_points_k1 rr = some r) ?_ _ _ rr hlp hf _ _ _ hP hS (lv_sub hl [4, 5, 3, 2, 1, 0] rfl)
                rintro ⟨x6_114, x8_114⟩ oo114 hb9 hG114 hX114 H locs ls hP hS hl
                have hP : va_P D vwCl (WL w σ) H := hP
                have hl : lv_has ls 9 [(0, .ref (w.1 (184))), (1, .ref (w.1 (a1))), (5, .int v5), (6, .int x6_114), (7, .int ((2 : Int32) + (1 : Int32))), (8, .int x8_114)] := hl
                have hf : f_X7_points_b6 σ a1 v5 x6_114 x8_114 = some oo114 := hb9
                unfold f_X7_points_b6 at hf
                refine lv_iload hx hb dX7_points_114 (lv_at hl 5 rfl) ?_
                refine lv_iload hx hb dX7_points_116 (lv_at hl 4 rfl) ?_
                refine lv_icmp_ge (tgt := 138) hx hb dX7_points_118 (by decide) (fun hc => ?_) (fun hc => ?_)
                · have hf := ifp hc hf
                  obtain rfl := Option.some.inj hf
                  exact hE114_138 x6_114 _ _ _ (hX114 _ rfl) hP hS (lv_sub hl [3] rfl)
                · have hf := ifn hc hf
                  refine lv_aload_n hx hb dX7_points_121 rfl (lv_at hl 0 rfl) ?_
                  refine lv_aload_n hx hb dX7_points_122 rfl (lv_at hl 1 rfl) ?_
                  refine lv_iload hx hb dX7_points_123 (lv_at hl 2 rfl) ?_
                  refine lv_iload hx hb dX7_points_125 (lv_at hl 3 rfl) ?_
                  obtain ⟨v127, h127, hf⟩ := bnd hf
                  refine q_cVi (As := [.ref (w.1 (a1)), .int v5, .int x6_114]) hx hb hts hml hown hK hP hS (c_X7_turned l D w σ (a1) v5 x6_114 v127 ha1 h127) hw_X7_178 hd_X7_turned ⟨rfl, rfl, rfl⟩ o184 (ce7 kd184) rfl ⟨Nat.le_of_ble_eq_true rfl, Nat.le_of_ble_eq_true rfl⟩ ⟨Nat.le_of_ble_eq_true rfl, Nat.le_of_ble_eq_true rfl⟩ hl.1 rfl (Nat.le_of_ble_eq_true rfl) dX7_points_127 (fun H locs hP hS => ?_)
                  refine lv_istore (lv' := [(6, .int v127), (0, .ref (w.1 (184))), (1, .ref (w.1 (a1))), (5, .int v5), (7, .int ((2 : Int32) + (1 : Int32))), (8, .int x8_114)]) hx hb dX7_points_130 hl (by decide) rfl (fun ls hl => ?_)
                  refine lv_iinc (v := (x8_114 + (1 : Int32))) (lv' := [(8, .int (x8_114 + (1 : Int32))), (6, .int v127), (0, .ref (w.1 (184))), (1, .ref (w.1 (a1))), (5, .int v5), (7, .int ((2 : Int32) + (1 : Int32)))]) hx hb dX7_points_132 hl (k := 5) rfl ii_1 (by decide) rfl (fun ls hl => ?_)
                  refine lv_goto (tgt := 114) hx hb dX7_points_135 (by decide) ?_
                  obtain rfl := Option.some.inj hf
                  exact hG114 _ rfl _ _ _ hP hS (lv_sub hl [2, 3, 4, 1, 5, 0] rfl)
        · have hf := ifn (fun h => h hc) hf
          refine lv_aload_n hx hb dX7_points_54 rfl (lv_at hl 3 rfl) ?_
          refine lv_bipush (v := (77 : Int32)) hx hb dX7_points_55 (by decide) ?_
          refine lv_iload_n hx hb dX7_points_57 rfl (lv_at hl 4 rfl) ?_
          refine lv_iadd hx hb dX7_points_58 ?_
          obtain ⟨v59, h59, hf⟩ := bnd hf
          refine q_iald hx hb hK hP ha1.o ha1.k h59 dX7_points_59 ?_
          refine lv_bipush (v := (40 : Int32)) hx hb dX7_points_60 (by decide) ?_
          refine lv_icmp_lt (tgt := 69) hx hb dX7_points_62 (by decide) (fun hc => ?_) (fun hc => ?_)
          · have hf := ifp hc hf
            refine lv_iload_n hx hb dX7_points_69 rfl (lv_at hl 5 rfl) ?_
            refine lv_iconst (v := (3 : Int32)) hx hb dX7_points_70 (by decide) ?_
            refine lv_icmp_ne (tgt := 87) hx hb dX7_points_71 (by decide) (fun hc => ?_) (fun hc => ?_)
            · have hf := ifp hc hf
              refine lv_iconst (v := (0 : Int32)) hx hb dX7_points_87 (by decide) ?_
              refine lv_istore (lv' := [(7, .int (0 : Int32)), (6, .int v31), (5, .int v5), (0, .ref (w.1 (184))), (1, .ref (w.1 (a1))), (2, .int a2), (3, .int a3), (4, .int a4)]) hx hb dX7_points_88 hl (by decide) rfl (fun ls hl => ?_)
              refine lv_iload hx hb dX7_points_90 (lv_at hl 0 rfl) ?_
              refine lv_aload_n hx hb dX7_points_92 rfl (lv_at hl 3 rfl) ?_
              refine gt_X7_171 hx hb hts hown hK hP dX7_points_93 ?_
              refine lv_iload_n hx hb dX7_points_96 rfl (lv_at hl 5 rfl) ?_
              obtain ⟨v97, h97, hf⟩ := bnd hf
              refine q_cSz (As := [.int (σ 184 21), .int a2]) hx hb hts hml hown hK hP hS (c_X7_has l D w σ (σ 184 21) a2 v97 h97) hw_X7_174 hd_X7_has ⟨rfl, rfl, rfl⟩ ⟨Nat.le_of_ble_eq_true rfl, Nat.le_of_ble_eq_true rfl⟩ ⟨Nat.le_of_ble_eq_true rfl, Nat.le_of_ble_eq_true rfl⟩ hl.1 rfl (Nat.le_of_ble_eq_true rfl) dX7_points_97 (fun hz97 H locs hP hS => ?_)
              refine lv_if_eq (tgt := 107) hx hb dX7_points_100 (by decide) (fun hc => ?_) (fun hc => ?_)
              · have hf := ifp hc hf
                refine lv_iconst (v := (0 : Int32)) hx hb dX7_points_107 (by decide) ?_
                refine lv_iadd hx hb dX7_points_108 ?_
                refine lv_istore (lv' := [(7, .int ((0 : Int32) + (0 : Int32))), (6, .int v31), (5, .int v5), (0, .ref (w.1 (184))), (1, .ref (w.1 (a1))), (2, .int a2), (3, .int a3), (4, .int a4)]) hx hb dX7_points_109 hl (by decide) rfl (fun ls hl => ?_)
                refine lv_iconst (v := (0 : Int32)) hx hb dX7_points_111 (by decide) ?_
                refine lv_istore (lv' := [(8, .int (0 : Int32)), (7, .int ((0 : Int32) + (0 : Int32))), (6, .int v31), (5, .int v5), (0, .ref (w.1 (184))), (1, .ref (w.1 (a1))), (2, .int a2), (3, .int a3), (4, .int a4)]) hx hb dX7_points_112 hl (by decide) rfl (fun ls hl => ?_)
                obtain ⟨rr, hlp, hf⟩ := bnd hf
                have hE114_138 : ∀ (y6_138 : Int32) (H : Heap) (locs : List Loc) (ls : Array Slot), f_X7_points_k1 y6_138 = some r → va_P D vwCl (WL w σ) H → va_S (AL w) s.heap H locs → lv_has ls 9 [(6, .int y6_138)] → W p l e (rmW 1 25) s m args below meth c H locs 0 0 (MQ below (qiW D w r σ) args s 0 0 (AL w)) (F0 m 138 ls []) := by
                  intro y6_138 H locs ls hf hP hS hl
                  unfold f_X7_points_k1 at hf
                  refine lv_iload hx hb dX7_points_138 (lv_at hl 0 rfl) ?_
                  have hq := Option.some.inj hf
                  exact q_iret hx hb hr hlk hP hS hq rfl dX7_points_140
                refine lp_ind (G := fun (st : (Int32 × Int32)) => ∀ (H : Heap) (locs : List Loc) (ls : Array Slot), va_P D vwCl (WL w σ) H → va_S (AL w) s.heap H locs → lv_has ls 9 [(0, .ref (w.1 (184))), (1, .ref (w.1 (a1))), (5, .int v5), (6, .int st.1), (7, .int ((0 : Int32) + (0 : Int32))), (8, .int st.2)] → W p l e (rmW 1 25) s m args below meth c H locs 0 0 (MQ below (qiW D w r σ) args s 0 0 (AL w)) (F0 m 114 ls [])) (X := fun rr => f_X7_points_k1 rr = some r) ?_ _ _ rr hlp hf _ _ _ hP hS (lv_sub hl [4, 5, 3, 2, 1, 0] rfl)
                rintro ⟨x6_114, x8_114⟩ oo114 hb9 hG114 hX114 H locs ls hP hS hl
                have hP : va_P D vwCl (WL w σ) H := hP
                have hl : lv_has ls 9 [(0, .ref (w.1 (184))), (1, .ref (w.1 (a1))), (5, .int v5), (6, .int x6_114), (7, .int ((0 : Int32) + (0 : Int32))), (8, .int x8_114)] := hl
                have hf : f_X7_points_b3 σ a1 v5 x6_114 x8_114 = some oo114 := hb9
                unfold f_X7_points_b3 at hf
                refine lv_iload hx hb dX7_points_114 (lv_at hl 5 rfl) ?_
                refine lv_iload hx hb dX7_points_116 (lv_at hl 4 rfl) ?_
                refine lv_icmp_ge (tgt := 138) hx hb dX7_points_118 (by decide) (fun hc => ?_) (fun hc => ?_)
                · have hf := ifp hc hf
                  obtain rfl := Option.some.inj hf
                  exact hE114_138 x6_114 _ _ _ (hX114 _ rfl) hP hS (lv_sub hl [3] rfl)
                · have hf := ifn hc hf
                  refine lv_aload_n hx hb dX7_points_121 rfl (lv_at hl 0 rfl) ?_
                  refine lv_aload_n hx hb dX7_points_122 rfl (lv_at hl 1 rfl) ?_
                  refine lv_iload hx hb dX7_points_123 (lv_at hl 2 rfl) ?_
                  refine lv_iload hx hb dX7_points_125 (lv_at hl 3 rfl) ?_
                  obtain ⟨v127, h127, hf⟩ := bnd hf
                  refine q_cVi (As := [.ref (w.1 (a1)), .int v5, .int x6_114]) hx hb hts hml hown hK hP hS (c_X7_turned l D w σ (a1) v5 x6_114 v127 ha1 h127) hw_X7_178 hd_X7_turned ⟨rfl, rfl, rfl⟩ o184 (ce7 kd184) rfl ⟨Nat.le_of_ble_eq_true rfl, Nat.le_of_ble_eq_true rfl⟩ ⟨Nat.le_of_ble_eq_true rfl, Nat.le_of_ble_eq_true rfl⟩ hl.1 rfl (Nat.le_of_ble_eq_true rfl) dX7_points_127 (fun H locs hP hS => ?_)
                  refine lv_istore (lv' := [(6, .int v127), (0, .ref (w.1 (184))), (1, .ref (w.1 (a1))), (5, .int v5), (7, .int ((0 : Int32) + (0 : Int32))), (8, .int x8_114)]) hx hb dX7_points_130 hl (by decide) rfl (fun ls hl => ?_)
                  refine lv_iinc (v := (x8_114 + (1 : Int32))) (lv' := [(8, .int (x8_114 + (1 : Int32))), (6, .int v127), (0, .ref (w.1 (184))), (1, .ref (w.1 (a1))), (5, .int v5), (7, .int ((0 : Int32) + (0 : Int32)))]) hx hb dX7_points_132 hl (k := 5) rfl ii_1 (by decide) rfl (fun ls hl => ?_)
                  refine lv_goto (tgt := 114) hx hb dX7_points_135 (by decide) ?_
                  obtain rfl := Option.some.inj hf
                  exact hG114 _ rfl _ _ _ hP hS (lv_sub hl [2, 3, 4, 1, 5, 0] rfl)
              · have hf := ifn hc hf
                refine lv_iconst (v := (1 : Int32)) hx hb dX7_points_103 (by decide) ?_
                refine lv_goto (tgt := 108) hx hb dX7_points_104 (by decide) ?_
                refine lv_iadd hx hb dX7_points_108 ?_
                refine lv_istore (lv' := [(7, .int ((0 : Int32) + (1 : Int32))), (6, .int v31), (5, .int v5), (0, .ref (w.1 (184))), (1, .ref (w.1 (a1))), (2, .int a2), (3, .int a3), (4, .int a4)]) hx hb dX7_points_109 hl (by decide) rfl (fun ls hl => ?_)
                refine lv_iconst (v := (0 : Int32)) hx hb dX7_points_111 (by decide) ?_
                refine lv_istore (lv' := [(8, .int (0 : Int32)), (7, .int ((0 : Int32) + (1 : Int32))), (6, .int v31), (5, .int v5), (0, .ref (w.1 (184))), (1, .ref (w.1 (a1))), (2, .int a2), (3, .int a3), (4, .int a4)]) hx hb dX7_points_112 hl (by decide) rfl (fun ls hl => ?_)
                obtain ⟨rr, hlp, hf⟩ := bnd hf
                have hE114_138 : ∀ (y6_138 : Int32) (H : Heap) (locs : List Loc) (ls : Array Slot), f_X7_points_k1 y6_138 = some r → va_P D vwCl (WL w σ) H → va_S (AL w) s.heap H locs → lv_has ls 9 [(6, .int y6_138)] → W p l e (rmW 1 25) s m args below meth c H locs 0 0 (MQ below (qiW D w r σ) args s 0 0 (AL w)) (F0 m 138 ls []) := by
                  intro y6_138 H locs ls hf hP hS hl
                  unfold f_X7_points_k1 at hf
                  refine lv_iload hx hb dX7_points_138 (lv_at hl 0 rfl) ?_
                  have hq := Option.some.inj hf
                  exact q_iret hx hb hr hlk hP hS hq rfl dX7_points_140
                refine lp_ind (G := fun (st : (Int32 × Int32)) => ∀ (H : Heap) (locs : List Loc) (ls : Array Slot), va_P D vwCl (WL w σ) H → va_S (AL w) s.heap H locs → lv_has ls 9 [(0, .ref (w.1 (184))), (1, .ref (w.1 (a1))), (5, .int v5), (6, .int st.1), (7, .int ((0 : Int32) + (1 : Int32))), (8, .int st.2)] → W p l e (rmW 1 25) s m args below meth c H locs 0 0 (MQ below (qiW D w r σ) args s 0 0 (AL w)) (F0 m 114 ls [])) (X := fun rr => f_X7_points_k1 rr = some r) ?_ _ _ rr hlp hf _ _ _ hP hS (lv_sub hl [4, 5, 3, 2, 1, 0] rfl)
                rintro ⟨x6_114, x8_114⟩ oo114 hb9 hG114 hX114 H locs ls hP hS hl
                have hP : va_P D vwCl (WL w σ) H := hP
                have hl : lv_has ls 9 [(0, .ref (w.1 (184))), (1, .ref (w.1 (a1))), (5, .int v5), (6, .int x6_114), (7, .int ((0 : Int32) + (1 : Int32))), (8, .int x8_114)] := hl
                have hf : f_X7_points_b4 σ a1 v5 x6_114 x8_114 = some oo114 := hb9
                unfold f_X7_points_b4 at hf
                refine lv_iload hx hb dX7_points_114 (lv_at hl 5 rfl) ?_
                refine lv_iload hx hb dX7_points_116 (lv_at hl 4 rfl) ?_
                refine lv_icmp_ge (tgt := 138) hx hb dX7_points_118 (by decide) (fun hc => ?_) (fun hc => ?_)
                · have hf := ifp hc hf
                  obtain rfl := Option.some.inj hf
                  exact hE114_138 x6_114 _ _ _ (hX114 _ rfl) hP hS (lv_sub hl [3] rfl)
                · have hf := ifn hc hf
                  refine lv_aload_n hx hb dX7_points_121 rfl (lv_at hl 0 rfl) ?_
                  refine lv_aload_n hx hb dX7_points_122 rfl (lv_at hl 1 rfl) ?_
                  refine lv_iload hx hb dX7_points_123 (lv_at hl 2 rfl) ?_
                  refine lv_iload hx hb dX7_points_125 (lv_at hl 3 rfl) ?_
                  obtain ⟨v127, h127, hf⟩ := bnd hf
                  refine q_cVi (As := [.ref (w.1 (a1)), .int v5, .int x6_114]) hx hb hts hml hown hK hP hS (c_X7_turned l D w σ (a1) v5 x6_114 v127 ha1 h127) hw_X7_178 hd_X7_turned ⟨rfl, rfl, rfl⟩ o184 (ce7 kd184) rfl ⟨Nat.le_of_ble_eq_true rfl, Nat.le_of_ble_eq_true rfl⟩ ⟨Nat.le_of_ble_eq_true rfl, Nat.le_of_ble_eq_true rfl⟩ hl.1 rfl (Nat.le_of_ble_eq_true rfl) dX7_points_127 (fun H locs hP hS => ?_)
                  refine lv_istore (lv' := [(6, .int v127), (0, .ref (w.1 (184))), (1, .ref (w.1 (a1))), (5, .int v5), (7, .int ((0 : Int32) + (1 : Int32))), (8, .int x8_114)]) hx hb dX7_points_130 hl (by decide) rfl (fun ls hl => ?_)
                  refine lv_iinc (v := (x8_114 + (1 : Int32))) (lv' := [(8, .int (x8_114 + (1 : Int32))), (6, .int v127), (0, .ref (w.1 (184))), (1, .ref (w.1 (a1))), (5, .int v5), (7, .int ((0 : Int32) + (1 : Int32)))]) hx hb dX7_points_132 hl (k := 5) rfl ii_1 (by decide) rfl (fun ls hl => ?_)
                  refine lv_goto (tgt := 114) hx hb dX7_points_135 (by decide) ?_
                  obtain rfl := Option.some.inj hf
                  exact hG114 _ rfl _ _ _ hP hS (lv_sub hl [2, 3, 4, 1, 5, 0] rfl)
            · have hf := ifn (fun h => h hc) hf
              refine lv_aload_n hx hb dX7_points_74 rfl (lv_at hl 3 rfl) ?_
              refine lv_iconst (v := (5 : Int32)) hx hb dX7_points_75 (by decide) ?_
              obtain ⟨v76, h76, hf⟩ := bnd hf
              refine q_iald hx hb hK hP ha1.o ha1.k h76 dX7_points_76 ?_
              refine lv_iconst (v := (2 : Int32)) hx hb dX7_points_77 (by decide) ?_
              refine q_iremL hx hb (by decide) dX7_points_78 ?_
              refine lv_iconst (v := (1 : Int32)) hx hb dX7_points_79 (by decide) ?_
              refine lv_icmp_ne (tgt := 87) hx hb dX7_points_80 (by decide) (fun hc => ?_) (fun hc => ?_)
              · have hf := ifp hc hf
                refine lv_iconst (v := (0 : Int32)) hx hb dX7_points_87 (by decide) ?_
                refine lv_istore (lv' := [(7, .int (0 : Int32)), (6, .int v31), (5, .int v5), (0, .ref (w.1 (184))), (1, .ref (w.1 (a1))), (2, .int a2), (3, .int a3), (4, .int a4)]) hx hb dX7_points_88 hl (by decide) rfl (fun ls hl => ?_)
                refine lv_iload hx hb dX7_points_90 (lv_at hl 0 rfl) ?_
                refine lv_aload_n hx hb dX7_points_92 rfl (lv_at hl 3 rfl) ?_
                refine gt_X7_171 hx hb hts hown hK hP dX7_points_93 ?_
                refine lv_iload_n hx hb dX7_points_96 rfl (lv_at hl 5 rfl) ?_
                obtain ⟨v97, h97, hf⟩ := bnd hf
                refine q_cSz (As := [.int (σ 184 21), .int a2]) hx hb hts hml hown hK hP hS (c_X7_has l D w σ (σ 184 21) a2 v97 h97) hw_X7_174 hd_X7_has ⟨rfl, rfl, rfl⟩ ⟨Nat.le_of_ble_eq_true rfl, Nat.le_of_ble_eq_true rfl⟩ ⟨Nat.le_of_ble_eq_true rfl, Nat.le_of_ble_eq_true rfl⟩ hl.1 rfl (Nat.le_of_ble_eq_true rfl) dX7_points_97 (fun hz97 H locs hP hS => ?_)
                refine lv_if_eq (tgt := 107) hx hb dX7_points_100 (by decide) (fun hc => ?_) (fun hc => ?_)
                · have hf := ifp hc hf
                  refine lv_iconst (v := (0 : Int32)) hx hb dX7_points_107 (by decide) ?_
                  refine lv_iadd hx hb dX7_points_108 ?_
                  refine lv_istore (lv' := [(7, .int ((0 : Int32) + (0 : Int32))), (6, .int v31), (5, .int v5), (0, .ref (w.1 (184))), (1, .ref (w.1 (a1))), (2, .int a2), (3, .int a3), (4, .int a4)]) hx hb dX7_points_109 hl (by decide) rfl (fun ls hl => ?_)
                  refine lv_iconst (v := (0 : Int32)) hx hb dX7_points_111 (by decide) ?_
                  refine lv_istore (lv' := [(8, .int (0 : Int32)), (7, .int ((0 : Int32) + (0 : Int32))), (6, .int v31), (5, .int v5), (0, .ref (w.1 (184))), (1, .ref (w.1 (a1))), (2, .int a2), (3, .int a3), (4, .int a4)]) hx hb dX7_points_112 hl (by decide) rfl (fun ls hl => ?_)
                  obtain ⟨rr, hlp, hf⟩ := bnd hf
                  have hE114_138 : ∀ (y6_138 : Int32) (H : Heap) (locs : List Loc) (ls : Array Slot), f_X7_points_k1 y6_138 = some r → va_P D vwCl (WL w σ) H → va_S (AL w) s.heap H locs → lv_has ls 9 [(6, .int y6_138)] → W p l e (rmW 1 25) s m args below meth c H locs 0 0 (MQ below (qiW D w r σ) args s 0 0 (AL w)) (F0 m 138 ls []) := by
                    intro y6_138 H locs ls hf hP hS hl
                    unfold f_X7_points_k1 at hf
                    refine lv_iload hx hb dX7_points_138 (lv_at hl 0 rfl) ?_
                    have hq := Option.some.inj hf
                    exact q_iret hx hb hr hlk hP hS hq rfl dX7_points_140
                  refine lp_ind (G := fun (st : (Int32 × Int32)) => ∀ (H : Heap) (locs : List Loc) (ls : Array Slot), va_P D vwCl (WL w σ) H → va_S (AL w) s.heap H locs → lv_has ls 9 [(0, .ref (w.1 (184))), (1, .ref (w.1 (a1))), (5, .int v5), (6, .int st.1), (7, .int ((0 : Int32) + (0 : Int32))), (8, .int st.2)] → W p l e (rmW 1 25) s m args below meth c H locs 0 0 (MQ below (qiW D w r σ) args s 0 0 (AL w)) (F0 m 114 ls [])) (X := fun rr => f_X7_points_k1 rr = some r) ?_ _ _ rr hlp hf _ _ _ hP hS (lv_sub hl [4, 5, 3, 2, 1, 0] rfl)
                  rintro ⟨x6_114, x8_114⟩ oo114 hb9 hG114 hX114 H locs ls hP hS hl
                  have hP : va_P D vwCl (WL w σ) H := hP
                  have hl : lv_has ls 9 [(0, .ref (w.1 (184))), (1, .ref (w.1 (a1))), (5, .int v5), (6, .int x6_114), (7, .int ((0 : Int32) + (0 : Int32))), (8, .int x8_114)] := hl
                  have hf : f_X7_points_b3 σ a1 v5 x6_114 x8_114 = some oo114 := hb9
                  unfold f_X7_points_b3 at hf
                  refine lv_iload hx hb dX7_points_114 (lv_at hl 5 rfl) ?_
                  refine lv_iload hx hb dX7_points_116 (lv_at hl 4 rfl) ?_
                  refine lv_icmp_ge (tgt := 138) hx hb dX7_points_118 (by decide) (fun hc => ?_) (fun hc => ?_)
                  · have hf := ifp hc hf
                    obtain rfl := Option.some.inj hf
                    exact hE114_138 x6_114 _ _ _ (hX114 _ rfl) hP hS (lv_sub hl [3] rfl)
                  · have hf := ifn hc hf
                    refine lv_aload_n hx hb dX7_points_121 rfl (lv_at hl 0 rfl) ?_
                    refine lv_aload_n hx hb dX7_points_122 rfl (lv_at hl 1 rfl) ?_
                    refine lv_iload hx hb dX7_points_123 (lv_at hl 2 rfl) ?_
                    refine lv_iload hx hb dX7_points_125 (lv_at hl 3 rfl) ?_
                    obtain ⟨v127, h127, hf⟩ := bnd hf
                    refine q_cVi (As := [.ref (w.1 (a1)), .int v5, .int x6_114]) hx hb hts hml hown hK hP hS (c_X7_turned l D w σ (a1) v5 x6_114 v127 ha1 h127) hw_X7_178 hd_X7_turned ⟨rfl, rfl, rfl⟩ o184 (ce7 kd184) rfl ⟨Nat.le_of_ble_eq_true rfl, Nat.le_of_ble_eq_true rfl⟩ ⟨Nat.le_of_ble_eq_true rfl, Nat.le_of_ble_eq_true rfl⟩ hl.1 rfl (Nat.le_of_ble_eq_true rfl) dX7_points_127 (fun H locs hP hS => ?_)
                    refine lv_istore (lv' := [(6, .int v127), (0, .ref (w.1 (184))), (1, .ref (w.1 (a1))), (5, .int v5), (7, .int ((0 : Int32) + (0 : Int32))), (8, .int x8_114)]) hx hb dX7_points_130 hl (by decide) rfl (fun ls hl => ?_)
                    refine lv_iinc (v := (x8_114 + (1 : Int32))) (lv' := [(8, .int (x8_114 + (1 : Int32))), (6, .int v127), (0, .ref (w.1 (184))), (1, .ref (w.1 (a1))), (5, .int v5), (7, .int ((0 : Int32) + (0 : Int32)))]) hx hb dX7_points_132 hl (k := 5) rfl ii_1 (by decide) rfl (fun ls hl => ?_)
                    refine lv_goto (tgt := 114) hx hb dX7_points_135 (by decide) ?_
                    obtain rfl := Option.some.inj hf
                    exact hG114 _ rfl _ _ _ hP hS (lv_sub hl [2, 3, 4, 1, 5, 0] rfl)
                · have hf := ifn hc hf
                  refine lv_iconst (v := (1 : Int32)) hx hb dX7_points_103 (by decide) ?_
                  refine lv_goto (tgt := 108) hx hb dX7_points_104 (by decide) ?_
                  refine lv_iadd hx hb dX7_points_108 ?_
                  refine lv_istore (lv' := [(7, .int ((0 : Int32) + (1 : Int32))), (6, .int v31), (5, .int v5), (0, .ref (w.1 (184))), (1, .ref (w.1 (a1))), (2, .int a2), (3, .int a3), (4, .int a4)]) hx hb dX7_points_109 hl (by decide) rfl (fun ls hl => ?_)
                  refine lv_iconst (v := (0 : Int32)) hx hb dX7_points_111 (by decide) ?_
                  refine lv_istore (lv' := [(8, .int (0 : Int32)), (7, .int ((0 : Int32) + (1 : Int32))), (6, .int v31), (5, .int v5), (0, .ref (w.1 (184))), (1, .ref (w.1 (a1))), (2, .int a2), (3, .int a3), (4, .int a4)]) hx hb dX7_points_112 hl (by decide) rfl (fun ls hl => ?_)
                  obtain ⟨rr, hlp, hf⟩ := bnd hf
                  have hE114_138 : ∀ (y6_138 : Int32) (H : Heap) (locs : List Loc) (ls : Array Slot), f_X7_points_k1 y6_138 = some r → va_P D vwCl (WL w σ) H → va_S (AL w) s.heap H locs → lv_has ls 9 [(6, .int y6_138)] → W p l e (rmW 1 25) s m args below meth c H locs 0 0 (MQ below (qiW D w r σ) args s 0 0 (AL w)) (F0 m 138 ls []) := by
                    intro y6_138 H locs ls hf hP hS hl
                    unfold f_X7_points_k1 at hf
                    refine lv_iload hx hb dX7_points_138 (lv_at hl 0 rfl) ?_
                    have hq := Option.some.inj hf
                    exact q_iret hx hb hr hlk hP hS hq rfl dX7_points_140
                  refine lp_ind (G := fun (st : (Int32 × Int32)) => ∀ (H : Heap) (locs : List Loc) (ls : Array Slot), va_P D vwCl (WL w σ) H → va_S (AL w) s.heap H locs → lv_has ls 9 [(0, .ref (w.1 (184))), (1, .ref (w.1 (a1))), (5, .int v5), (6, .int st.1), (7, .int ((0 : Int32) + (1 : Int32))), (8, .int st.2)] → W p l e (rmW 1 25) s m args below meth c H locs 0 0 (MQ below (qiW D w r σ) args s 0 0 (AL w)) (F0 m 114 ls [])) (X := fun rr => f_X7_points_k1 rr = some r) ?_ _ _ rr hlp hf _ _ _ hP hS (lv_sub hl [4, 5, 3, 2, 1, 0] rfl)
                  rintro ⟨x6_114, x8_114⟩ oo114 hb9 hG114 hX114 H locs ls hP hS hl
                  have hP : va_P D vwCl (WL w σ) H := hP
                  have hl : lv_has ls 9 [(0, .ref (w.1 (184))), (1, .ref (w.1 (a1))), (5, .int v5), (6, .int x6_114), (7, .int ((0 : Int32) + (1 : Int32))), (8, .int x8_114)] := hl
                  have hf : f_X7_points_b4 σ a1 v5 x6_114 x8_114 = some oo114 := hb9
                  unfold f_X7_points_b4 at hf
                  refine lv_iload hx hb dX7_points_114 (lv_at hl 5 rfl) ?_
                  refine lv_iload hx hb dX7_points_116 (lv_at hl 4 rfl) ?_
                  refine lv_icmp_ge (tgt := 138) hx hb dX7_points_118 (by decide) (fun hc => ?_) (fun hc => ?_)
                  · have hf := ifp hc hf
                    obtain rfl := Option.some.inj hf
                    exact hE114_138 x6_114 _ _ _ (hX114 _ rfl) hP hS (lv_sub hl [3] rfl)
                  · have hf := ifn hc hf
                    refine lv_aload_n hx hb dX7_points_121 rfl (lv_at hl 0 rfl) ?_
                    refine lv_aload_n hx hb dX7_points_122 rfl (lv_at hl 1 rfl) ?_
                    refine lv_iload hx hb dX7_points_123 (lv_at hl 2 rfl) ?_
                    refine lv_iload hx hb dX7_points_125 (lv_at hl 3 rfl) ?_
                    obtain ⟨v127, h127, hf⟩ := bnd hf
                    refine q_cVi (As := [.ref (w.1 (a1)), .int v5, .int x6_114]) hx hb hts hml hown hK hP hS (c_X7_turned l D w σ (a1) v5 x6_114 v127 ha1 h127) hw_X7_178 hd_X7_turned ⟨rfl, rfl, rfl⟩ o184 (ce7 kd184) rfl ⟨Nat.le_of_ble_eq_true rfl, Nat.le_of_ble_eq_true rfl⟩ ⟨Nat.le_of_ble_eq_true rfl, Nat.le_of_ble_eq_true rfl⟩ hl.1 rfl (Nat.le_of_ble_eq_true rfl) dX7_points_127 (fun H locs hP hS => ?_)
                    refine lv_istore (lv' := [(6, .int v127), (0, .ref (w.1 (184))), (1, .ref (w.1 (a1))), (5, .int v5), (7, .int ((0 : Int32) + (1 : Int32))), (8, .int x8_114)]) hx hb dX7_points_130 hl (by decide) rfl (fun ls hl => ?_)
                    refine lv_iinc (v := (x8_114 + (1 : Int32))) (lv' := [(8, .int (x8_114 + (1 : Int32))), (6, .int v127), (0, .ref (w.1 (184))), (1, .ref (w.1 (a1))), (5, .int v5), (7, .int ((0 : Int32) + (1 : Int32)))]) hx hb dX7_points_132 hl (k := 5) rfl ii_1 (by decide) rfl (fun ls hl => ?_)
                    refine lv_goto (tgt := 114) hx hb dX7_points_135 (by decide) ?_
                    obtain rfl := Option.some.inj hf
                    exact hG114 _ rfl _ _ _ hP hS (lv_sub hl [2, 3, 4, 1, 5, 0] rfl)
              · have hf := ifn (fun h => h hc) hf
                refine lv_iconst (v := (2 : Int32)) hx hb dX7_points_83 (by decide) ?_
                refine lv_goto (tgt := 88) hx hb dX7_points_84 (by decide) ?_
                refine lv_istore (lv' := [(7, .int (2 : Int32)), (6, .int v31), (5, .int v5), (0, .ref (w.1 (184))), (1, .ref (w.1 (a1))), (2, .int a2), (3, .int a3), (4, .int a4)]) hx hb dX7_points_88 hl (by decide) rfl (fun ls hl => ?_)
                refine lv_iload hx hb dX7_points_90 (lv_at hl 0 rfl) ?_
                refine lv_aload_n hx hb dX7_points_92 rfl (lv_at hl 3 rfl) ?_
                refine gt_X7_171 hx hb hts hown hK hP dX7_points_93 ?_
                refine lv_iload_n hx hb dX7_points_96 rfl (lv_at hl 5 rfl) ?_
                obtain ⟨v97, h97, hf⟩ := bnd hf
                refine q_cSz (As := [.int (σ 184 21), .int a2]) hx hb hts hml hown hK hP hS (c_X7_has l D w σ (σ 184 21) a2 v97 h97) hw_X7_174 hd_X7_has ⟨rfl, rfl, rfl⟩ ⟨Nat.le_of_ble_eq_true rfl, Nat.le_of_ble_eq_true rfl⟩ ⟨Nat.le_of_ble_eq_true rfl, Nat.le_of_ble_eq_true rfl⟩ hl.1 rfl (Nat.le_of_ble_eq_true rfl) dX7_points_97 (fun hz97 H locs hP hS => ?_)
                refine lv_if_eq (tgt := 107) hx hb dX7_points_100 (by decide) (fun hc => ?_) (fun hc => ?_)
                · have hf := ifp hc hf
                  refine lv_iconst (v := (0 : Int32)) hx hb dX7_points_107 (by decide) ?_
                  refine lv_iadd hx hb dX7_points_108 ?_
                  refine lv_istore (lv' := [(7, .int ((2 : Int32) + (0 : Int32))), (6, .int v31), (5, .int v5), (0, .ref (w.1 (184))), (1, .ref (w.1 (a1))), (2, .int a2), (3, .int a3), (4, .int a4)]) hx hb dX7_points_109 hl (by decide) rfl (fun ls hl => ?_)
                  refine lv_iconst (v := (0 : Int32)) hx hb dX7_points_111 (by decide) ?_
                  refine lv_istore (lv' := [(8, .int (0 : Int32)), (7, .int ((2 : Int32) + (0 : Int32))), (6, .int v31), (5, .int v5), (0, .ref (w.1 (184))), (1, .ref (w.1 (a1))), (2, .int a2), (3, .int a3), (4, .int a4)]) hx hb dX7_points_112 hl (by decide) rfl (fun ls hl => ?_)
                  obtain ⟨rr, hlp, hf⟩ := bnd hf
                  have hE114_138 : ∀ (y6_138 : Int32) (H : Heap) (locs : List Loc) (ls : Array Slot), f_X7_points_k1 y6_138 = some r → va_P D vwCl (WL w σ) H → va_S (AL w) s.heap H locs → lv_has ls 9 [(6, .int y6_138)] → W p l e (rmW 1 25) s m args below meth c H locs 0 0 (MQ below (qiW D w r σ) args s 0 0 (AL w)) (F0 m 138 ls []) := by
                    intro y6_138 H locs ls hf hP hS hl
                    unfold f_X7_points_k1 at hf
                    refine lv_iload hx hb dX7_points_138 (lv_at hl 0 rfl) ?_
                    have hq := Option.some.inj hf
                    exact q_iret hx hb hr hlk hP hS hq rfl dX7_points_140
                  refine lp_ind (G := fun (st : (Int32 × Int32)) => ∀ (H : Heap) (locs : List Loc) (ls : Array Slot), va_P D vwCl (WL w σ) H → va_S (AL w) s.heap H locs → lv_has ls 9 [(0, .ref (w.1 (184))), (1, .ref (w.1 (a1))), (5, .int v5), (6, .int st.1), (7, .int ((2 : Int32) + (0 : Int32))), (8, .int st.2)] → W p l e (rmW 1 25) s m args below meth c H locs 0 0 (MQ below (qiW D w r σ) args s 0 0 (AL w)) (F0 m 114 ls [])) (X := fun rr => f_X7_points_k1 rr = some r) ?_ _ _ rr hlp hf _ _ _ hP hS (lv_sub hl [4, 5, 3, 2, 1, 0] rfl)
                  rintro ⟨x6_114, x8_114⟩ oo114 hb9 hG114 hX114 H locs ls hP hS hl
                  have hP : va_P D vwCl (WL w σ) H := hP
                  have hl : lv_has ls 9 [(0, .ref (w.1 (184))), (1, .ref (w.1 (a1))), (5, .int v5), (6, .int x6_114), (7, .int ((2 : Int32) + (0 : Int32))), (8, .int x8_114)] := hl
                  have hf : f_X7_points_b5 σ a1 v5 x6_114 x8_114 = some oo114 := hb9
                  unfold f_X7_points_b5 at hf
                  refine lv_iload hx hb dX7_points_114 (lv_at hl 5 rfl) ?_
                  refine lv_iload hx hb dX7_points_116 (lv_at hl 4 rfl) ?_
                  refine lv_icmp_ge (tgt := 138) hx hb dX7_points_118 (by decide) (fun hc => ?_) (fun hc => ?_)
                  · have hf := ifp hc hf
                    obtain rfl := Option.some.inj hf
                    exact hE114_138 x6_114 _ _ _ (hX114 _ rfl) hP hS (lv_sub hl [3] rfl)
                  · have hf := ifn hc hf
                    refine lv_aload_n hx hb dX7_points_121 rfl (lv_at hl 0 rfl) ?_
                    refine lv_aload_n hx hb dX7_points_122 rfl (lv_at hl 1 rfl) ?_
                    refine lv_iload hx hb dX7_points_123 (lv_at hl 2 rfl) ?_
                    refine lv_iload hx hb dX7_points_125 (lv_at hl 3 rfl) ?_
                    obtain ⟨v127, h127, hf⟩ := bnd hf
                    refine q_cVi (As := [.ref (w.1 (a1)), .int v5, .int x6_114]) hx hb hts hml hown hK hP hS (c_X7_turned l D w σ (a1) v5 x6_114 v127 ha1 h127) hw_X7_178 hd_X7_turned ⟨rfl, rfl, rfl⟩ o184 (ce7 kd184) rfl ⟨Nat.le_of_ble_eq_true rfl, Nat.le_of_ble_eq_true rfl⟩ ⟨Nat.le_of_ble_eq_true rfl, Nat.le_of_ble_eq_true rfl⟩ hl.1 rfl (Nat.le_of_ble_eq_true rfl) dX7_points_127 (fun H locs hP hS => ?_)
                    refine lv_istore (lv' := [(6, .int v127), (0, .ref (w.1 (184))), (1, .ref (w.1 (a1))), (5, .int v5), (7, .int ((2 : Int32) + (0 : Int32))), (8, .int x8_114)]) hx hb dX7_points_130 hl (by decide) rfl (fun ls hl => ?_)
                    refine lv_iinc (v := (x8_114 + (1 : Int32))) (lv' := [(8, .int (x8_114 + (1 : Int32))), (6, .int v127), (0, .ref (w.1 (184))), (1, .ref (w.1 (a1))), (5, .int v5), (7, .int ((2 : Int32) + (0 : Int32)))]) hx hb dX7_points_132 hl (k := 5) rfl ii_1 (by decide) rfl (fun ls hl => ?_)
                    refine lv_goto (tgt := 114) hx hb dX7_points_135 (by decide) ?_
                    obtain rfl := Option.some.inj hf
                    exact hG114 _ rfl _ _ _ hP hS (lv_sub hl [2, 3, 4, 1, 5, 0] rfl)
                · have hf := ifn hc hf
                  refine lv_iconst (v := (1 : Int32)) hx hb dX7_points_103 (by decide) ?_
                  refine lv_goto (tgt := 108) hx hb dX7_points_104 (by decide) ?_
                  refine lv_iadd hx hb dX7_points_108 ?_
                  refine lv_istore (lv' := [(7, .int ((2 : Int32) + (1 : Int32))), (6, .int v31), (5, .int v5), (0, .ref (w.1 (184))), (1, .ref (w.1 (a1))), (2, .int a2), (3, .int a3), (4, .int a4)]) hx hb dX7_points_109 hl (by decide) rfl (fun ls hl => ?_)
                  refine lv_iconst (v := (0 : Int32)) hx hb dX7_points_111 (by decide) ?_
                  refine lv_istore (lv' := [(8, .int (0 : Int32)), (7, .int ((2 : Int32) + (1 : Int32))), (6, .int v31), (5, .int v5), (0, .ref (w.1 (184))), (1, .ref (w.1 (a1))), (2, .int a2), (3, .int a3), (4, .int a4)]) hx hb dX7_points_112 hl (by decide) rfl (fun ls hl => ?_)
                  obtain ⟨rr, hlp, hf⟩ := bnd hf
                  have hE114_138 : ∀ (y6_138 : Int32) (H : Heap) (locs : List Loc) (ls : Array Slot), f_X7_points_k1 y6_138 = some r → va_P D vwCl (WL w σ) H → va_S (AL w) s.heap H locs → lv_has ls 9 [(6, .int y6_138)] → W p l e (rmW 1 25) s m args below meth c H locs 0 0 (MQ below (qiW D w r σ) args s 0 0 (AL w)) (F0 m 138 ls []) := by
                    intro y6_138 H locs ls hf hP hS hl
                    unfold f_X7_points_k1 at hf
                    refine lv_iload hx hb dX7_points_138 (lv_at hl 0 rfl) ?_
                    have hq := Option.some.inj hf
                    exact q_iret hx hb hr hlk hP hS hq rfl dX7_points_140
                  refine lp_ind (G := fun (st : (Int32 × Int32)) => ∀ (H : Heap) (locs : List Loc) (ls : Array Slot), va_P D vwCl (WL w σ) H → va_S (AL w) s.heap H locs → lv_has ls 9 [(0, .ref (w.1 (184))), (1, .ref (w.1 (a1))), (5, .int v5), (6, .int st.1), (7, .int ((2 : Int32) + (1 : Int32))), (8, .int st.2)] → W p l e (rmW 1 25) s m args below meth c H locs 0 0 (MQ below (qiW D w r σ) args s 0 0 (AL w)) (F0 m 114 ls [])) (X := fun rr => f_X7_points_k1 rr = some r) ?_ _ _ rr hlp hf _ _ _ hP hS (lv_sub hl [4, 5, 3, 2, 1, 0] rfl)
                  rintro ⟨x6_114, x8_114⟩ oo114 hb9 hG114 hX114 H locs ls hP hS hl
                  have hP : va_P D vwCl (WL w σ) H := hP
                  have hl : lv_has ls 9 [(0, .ref (w.1 (184))), (1, .ref (w.1 (a1))), (5, .int v5), (6, .int x6_114), (7, .int ((2 : Int32) + (1 : Int32))), (8, .int x8_114)] := hl
                  have hf : f_X7_points_b6 σ a1 v5 x6_114 x8_114 = some oo114 := hb9
                  unfold f_X7_points_b6 at hf
                  refine lv_iload hx hb dX7_points_114 (lv_at hl 5 rfl) ?_
                  refine lv_iload hx hb dX7_points_116 (lv_at hl 4 rfl) ?_
                  refine lv_icmp_ge (tgt := 138) hx hb dX7_points_118 (by decide) (fun hc => ?_) (fun hc => ?_)
                  · have hf := ifp hc hf
                    obtain rfl := Option.some.inj hf
                    exact hE114_138 x6_114 _ _ _ (hX114 _ rfl) hP hS (lv_sub hl [3] rfl)
                  · have hf := ifn hc hf
                    refine lv_aload_n hx hb dX7_points_121 rfl (lv_at hl 0 rfl) ?_
                    refine lv_aload_n hx hb dX7_points_122 rfl (lv_at hl 1 rfl) ?_
                    refine lv_iload hx hb dX7_points_123 (lv_at hl 2 rfl) ?_
                    refine lv_iload hx hb dX7_points_125 (lv_at hl 3 rfl) ?_
                    obtain ⟨v127, h127, hf⟩ := bnd hf
                    refine q_cVi (As := [.ref (w.1 (a1)), .int v5, .int x6_114]) hx hb hts hml hown hK hP hS (c_X7_turned l D w σ (a1) v5 x6_114 v127 ha1 h127) hw_X7_178 hd_X7_turned ⟨rfl, rfl, rfl⟩ o184 (ce7 kd184) rfl ⟨Nat.le_of_ble_eq_true rfl, Nat.le_of_ble_eq_true rfl⟩ ⟨Nat.le_of_ble_eq_true rfl, Nat.le_of_ble_eq_true rfl⟩ hl.1 rfl (Nat.le_of_ble_eq_true rfl) dX7_points_127 (fun H locs hP hS => ?_)
                    refine lv_istore (lv' := [(6, .int v127), (0, .ref (w.1 (184))), (1, .ref (w.1 (a1))), (5, .int v5), (7, .int ((2 : Int32) + (1 : Int32))), (8, .int x8_114)]) hx hb dX7_points_130 hl (by decide) rfl (fun ls hl => ?_)
                    refine lv_iinc (v := (x8_114 + (1 : Int32))) (lv' := [(8, .int (x8_114 + (1 : Int32))), (6, .int v127), (0, .ref (w.1 (184))), (1, .ref (w.1 (a1))), (5, .int v5), (7, .int ((2 : Int32) + (1 : Int32)))]) hx hb dX7_points_132 hl (k := 5) rfl ii_1 (by decide) rfl (fun ls hl => ?_)
                    refine lv_goto (tgt := 114) hx hb dX7_points_135 (by decide) ?_
                    obtain rfl := Option.some.inj hf
                    exact hG114 _ rfl _ _ _ hP hS (lv_sub hl [2, 3, 4, 1, 5, 0] rfl)
          · have hf := ifn hc hf
            refine lv_iconst (v := (1 : Int32)) hx hb dX7_points_65 (by decide) ?_
            refine lv_goto (tgt := 88) hx hb dX7_points_66 (by decide) ?_
            refine lv_istore (lv' := [(7, .int (1 : Int32)), (6, .int v31), (5, .int v5), (0, .ref (w.1 (184))), (1, .ref (w.1 (a1))), (2, .int a2), (3, .int a3), (4, .int a4)]) hx hb dX7_points_88 hl (by decide) rfl (fun ls hl => ?_)
            refine lv_iload hx hb dX7_points_90 (lv_at hl 0 rfl) ?_
            refine lv_aload_n hx hb dX7_points_92 rfl (lv_at hl 3 rfl) ?_
            refine gt_X7_171 hx hb hts hown hK hP dX7_points_93 ?_
            refine lv_iload_n hx hb dX7_points_96 rfl (lv_at hl 5 rfl) ?_
            obtain ⟨v97, h97, hf⟩ := bnd hf
            refine q_cSz (As := [.int (σ 184 21), .int a2]) hx hb hts hml hown hK hP hS (c_X7_has l D w σ (σ 184 21) a2 v97 h97) hw_X7_174 hd_X7_has ⟨rfl, rfl, rfl⟩ ⟨Nat.le_of_ble_eq_true rfl, Nat.le_of_ble_eq_true rfl⟩ ⟨Nat.le_of_ble_eq_true rfl, Nat.le_of_ble_eq_true rfl⟩ hl.1 rfl (Nat.le_of_ble_eq_true rfl) dX7_points_97 (fun hz97 H locs hP hS => ?_)
            refine lv_if_eq (tgt := 107) hx hb dX7_points_100 (by decide) (fun hc => ?_) (fun hc => ?_)
            · have hf := ifp hc hf
              refine lv_iconst (v := (0 : Int32)) hx hb dX7_points_107 (by decide) ?_
              refine lv_iadd hx hb dX7_points_108 ?_
              refine lv_istore (lv' := [(7, .int ((1 : Int32) + (0 : Int32))), (6, .int v31), (5, .int v5), (0, .ref (w.1 (184))), (1, .ref (w.1 (a1))), (2, .int a2), (3, .int a3), (4, .int a4)]) hx hb dX7_points_109 hl (by decide) rfl (fun ls hl => ?_)
              refine lv_iconst (v := (0 : Int32)) hx hb dX7_points_111 (by decide) ?_
              refine lv_istore (lv' := [(8, .int (0 : Int32)), (7, .int ((1 : Int32) + (0 : Int32))), (6, .int v31), (5, .int v5), (0, .ref (w.1 (184))), (1, .ref (w.1 (a1))), (2, .int a2), (3, .int a3), (4, .int a4)]) hx hb dX7_points_112 hl (by decide) rfl (fun ls hl => ?_)
              obtain ⟨rr, hlp, hf⟩ := bnd hf
              have hE114_138 : ∀ (y6_138 : Int32) (H : Heap) (locs : List Loc) (ls : Array Slot), f_X7_points_k1 y6_138 = some r → va_P D vwCl (WL w σ) H → va_S (AL w) s.heap H locs → lv_has ls 9 [(6, .int y6_138)] → W p l e (rmW 1 25) s m args below meth c H locs 0 0 (MQ below (qiW D w r σ) args s 0 0 (AL w)) (F0 m 138 ls []) := by
                intro y6_138 H locs ls hf hP hS hl
                unfold f_X7_points_k1 at hf
                refine lv_iload hx hb dX7_points_138 (lv_at hl 0 rfl) ?_
                have hq := Option.some.inj hf
                exact q_iret hx hb hr hlk hP hS hq rfl dX7_points_140
              refine lp_ind (G := fun (st : (Int32 × Int32)) => ∀ (H : Heap) (locs : List Loc) (ls : Array Slot), va_P D vwCl (WL w σ) H → va_S (AL w) s.heap H locs → lv_has ls 9 [(0, .ref (w.1 (184))), (1, .ref (w.1 (a1))), (5, .int v5), (6, .int st.1), (7, .int ((1 : Int32) + (0 : Int32))), (8, .int st.2)] → W p l e (rmW 1 25) s m args below meth c H locs 0 0 (MQ below (qiW D w r σ) args s 0 0 (AL w)) (F0 m 114 ls [])) (X := fun rr => f_X7_points_k1 rr = some r) ?_ _ _ rr hlp hf _ _ _ hP hS (lv_sub hl [4, 5, 3, 2, 1, 0] rfl)
              rintro ⟨x6_114, x8_114⟩ oo114 hb9 hG114 hX114 H locs ls hP hS hl
              have hP : va_P D vwCl (WL w σ) H := hP
              have hl : lv_has ls 9 [(0, .ref (w.1 (184))), (1, .ref (w.1 (a1))), (5, .int v5), (6, .int x6_114), (7, .int ((1 : Int32) + (0 : Int32))), (8, .int x8_114)] := hl
              have hf : f_X7_points_b1 σ a1 v5 x6_114 x8_114 = some oo114 := hb9
              unfold f_X7_points_b1 at hf
              refine lv_iload hx hb dX7_points_114 (lv_at hl 5 rfl) ?_
              refine lv_iload hx hb dX7_points_116 (lv_at hl 4 rfl) ?_
              refine lv_icmp_ge (tgt := 138) hx hb dX7_points_118 (by decide) (fun hc => ?_) (fun hc => ?_)
              · have hf := ifp hc hf
                obtain rfl := Option.some.inj hf
                exact hE114_138 x6_114 _ _ _ (hX114 _ rfl) hP hS (lv_sub hl [3] rfl)
              · have hf := ifn hc hf
                refine lv_aload_n hx hb dX7_points_121 rfl (lv_at hl 0 rfl) ?_
                refine lv_aload_n hx hb dX7_points_122 rfl (lv_at hl 1 rfl) ?_
                refine lv_iload hx hb dX7_points_123 (lv_at hl 2 rfl) ?_
                refine lv_iload hx hb dX7_points_125 (lv_at hl 3 rfl) ?_
                obtain ⟨v127, h127, hf⟩ := bnd hf
                refine q_cVi (As := [.ref (w.1 (a1)), .int v5, .int x6_114]) hx hb hts hml hown hK hP hS (c_X7_turned l D w σ (a1) v5 x6_114 v127 ha1 h127) hw_X7_178 hd_X7_turned ⟨rfl, rfl, rfl⟩ o184 (ce7 kd184) rfl ⟨Nat.le_of_ble_eq_true rfl, Nat.le_of_ble_eq_true rfl⟩ ⟨Nat.le_of_ble_eq_true rfl, Nat.le_of_ble_eq_true rfl⟩ hl.1 rfl (Nat.le_of_ble_eq_true rfl) dX7_points_127 (fun H locs hP hS => ?_)
                refine lv_istore (lv' := [(6, .int v127), (0, .ref (w.1 (184))), (1, .ref (w.1 (a1))), (5, .int v5), (7, .int ((1 : Int32) + (0 : Int32))), (8, .int x8_114)]) hx hb dX7_points_130 hl (by decide) rfl (fun ls hl => ?_)
                refine lv_iinc (v := (x8_114 + (1 : Int32))) (lv' := [(8, .int (x8_114 + (1 : Int32))), (6, .int v127), (0, .ref (w.1 (184))), (1, .ref (w.1 (a1))), (5, .int v5), (7, .int ((1 : Int32) + (0 : Int32)))]) hx hb dX7_points_132 hl (k := 5) rfl ii_1 (by decide) rfl (fun ls hl => ?_)
                refine lv_goto (tgt := 114) hx hb dX7_points_135 (by decide) ?_
                obtain rfl := Option.some.inj hf
                exact hG114 _ rfl _ _ _ hP hS (lv_sub hl [2, 3, 4, 1, 5, 0] rfl)
            · have hf := ifn hc hf
              refine lv_iconst (v := (1 : Int32)) hx hb dX7_points_103 (by decide) ?_
              refine lv_goto (tgt := 108) hx hb dX7_points_104 (by decide) ?_
              refine lv_iadd hx hb dX7_points_108 ?_
              refine lv_istore (lv' := [(7, .int ((1 : Int32) + (1 : Int32))), (6, .int v31), (5, .int v5), (0, .ref (w.1 (184))), (1, .ref (w.1 (a1))), (2, .int a2), (3, .int a3), (4, .int a4)]) hx hb dX7_points_109 hl (by decide) rfl (fun ls hl => ?_)
              refine lv_iconst (v := (0 : Int32)) hx hb dX7_points_111 (by decide) ?_
              refine lv_istore (lv' := [(8, .int (0 : Int32)), (7, .int ((1 : Int32) + (1 : Int32))), (6, .int v31), (5, .int v5), (0, .ref (w.1 (184))), (1, .ref (w.1 (a1))), (2, .int a2), (3, .int a3), (4, .int a4)]) hx hb dX7_points_112 hl (by decide) rfl (fun ls hl => ?_)
              obtain ⟨rr, hlp, hf⟩ := bnd hf
              have hE114_138 : ∀ (y6_138 : Int32) (H : Heap) (locs : List Loc) (ls : Array Slot), f_X7_points_k1 y6_138 = some r → va_P D vwCl (WL w σ) H → va_S (AL w) s.heap H locs → lv_has ls 9 [(6, .int y6_138)] → W p l e (rmW 1 25) s m args below meth c H locs 0 0 (MQ below (qiW D w r σ) args s 0 0 (AL w)) (F0 m 138 ls []) := by
                intro y6_138 H locs ls hf hP hS hl
                unfold f_X7_points_k1 at hf
                refine lv_iload hx hb dX7_points_138 (lv_at hl 0 rfl) ?_
                have hq := Option.some.inj hf
                exact q_iret hx hb hr hlk hP hS hq rfl dX7_points_140
              refine lp_ind (G := fun (st : (Int32 × Int32)) => ∀ (H : Heap) (locs : List Loc) (ls : Array Slot), va_P D vwCl (WL w σ) H → va_S (AL w) s.heap H locs → lv_has ls 9 [(0, .ref (w.1 (184))), (1, .ref (w.1 (a1))), (5, .int v5), (6, .int st.1), (7, .int ((1 : Int32) + (1 : Int32))), (8, .int st.2)] → W p l e (rmW 1 25) s m args below meth c H locs 0 0 (MQ below (qiW D w r σ) args s 0 0 (AL w)) (F0 m 114 ls [])) (X := fun rr => f_X7_points_k1 rr = some r) ?_ _ _ rr hlp hf _ _ _ hP hS (lv_sub hl [4, 5, 3, 2, 1, 0] rfl)
              rintro ⟨x6_114, x8_114⟩ oo114 hb9 hG114 hX114 H locs ls hP hS hl
              have hP : va_P D vwCl (WL w σ) H := hP
              have hl : lv_has ls 9 [(0, .ref (w.1 (184))), (1, .ref (w.1 (a1))), (5, .int v5), (6, .int x6_114), (7, .int ((1 : Int32) + (1 : Int32))), (8, .int x8_114)] := hl
              have hf : f_X7_points_b2 σ a1 v5 x6_114 x8_114 = some oo114 := hb9
              unfold f_X7_points_b2 at hf
              refine lv_iload hx hb dX7_points_114 (lv_at hl 5 rfl) ?_
              refine lv_iload hx hb dX7_points_116 (lv_at hl 4 rfl) ?_
              refine lv_icmp_ge (tgt := 138) hx hb dX7_points_118 (by decide) (fun hc => ?_) (fun hc => ?_)
              · have hf := ifp hc hf
                obtain rfl := Option.some.inj hf
                exact hE114_138 x6_114 _ _ _ (hX114 _ rfl) hP hS (lv_sub hl [3] rfl)
              · have hf := ifn hc hf
                refine lv_aload_n hx hb dX7_points_121 rfl (lv_at hl 0 rfl) ?_
                refine lv_aload_n hx hb dX7_points_122 rfl (lv_at hl 1 rfl) ?_
                refine lv_iload hx hb dX7_points_123 (lv_at hl 2 rfl) ?_
                refine lv_iload hx hb dX7_points_125 (lv_at hl 3 rfl) ?_
                obtain ⟨v127, h127, hf⟩ := bnd hf
                refine q_cVi (As := [.ref (w.1 (a1)), .int v5, .int x6_114]) hx hb hts hml hown hK hP hS (c_X7_turned l D w σ (a1) v5 x6_114 v127 ha1 h127) hw_X7_178 hd_X7_turned ⟨rfl, rfl, rfl⟩ o184 (ce7 kd184) rfl ⟨Nat.le_of_ble_eq_true rfl, Nat.le_of_ble_eq_true rfl⟩ ⟨Nat.le_of_ble_eq_true rfl, Nat.le_of_ble_eq_true rfl⟩ hl.1 rfl (Nat.le_of_ble_eq_true rfl) dX7_points_127 (fun H locs hP hS => ?_)
                refine lv_istore (lv' := [(6, .int v127), (0, .ref (w.1 (184))), (1, .ref (w.1 (a1))), (5, .int v5), (7, .int ((1 : Int32) + (1 : Int32))), (8, .int x8_114)]) hx hb dX7_points_130 hl (by decide) rfl (fun ls hl => ?_)
                refine lv_iinc (v := (x8_114 + (1 : Int32))) (lv' := [(8, .int (x8_114 + (1 : Int32))), (6, .int v127), (0, .ref (w.1 (184))), (1, .ref (w.1 (a1))), (5, .int v5), (7, .int ((1 : Int32) + (1 : Int32)))]) hx hb dX7_points_132 hl (k := 5) rfl ii_1 (by decide) rfl (fun ls hl => ?_)
                refine lv_goto (tgt := 114) hx hb dX7_points_135 (by decide) ?_
                obtain rfl := Option.some.inj hf
                exact hG114 _ rfl _ _ _ hP hS (lv_sub hl [2, 3, 4, 1, 5, 0] rfl)
    · have hf := ifn (fun h => h hc) hf
      refine lv_bipush (v := (-4 : Int32)) hx hb dX7_points_41 (by decide) ?_
      have hq := Option.some.inj hf
      exact q_iret hx hb hr hlk hP hS hq rfl dX7_points_43
  · have hf := ifn (fun h => h hc) hf
    refine lv_bipush (v := (-4 : Int32)) hx hb dX7_points_15 (by decide) ?_
    refine lv_goto (tgt := 32) hx hb dX7_points_17 (by decide) ?_
    refine lv_istore (lv' := [(6, .int (-4 : Int32)), (5, .int v5), (0, .ref (w.1 (184))), (1, .ref (w.1 (a1))), (2, .int a2), (3, .int a3), (4, .int a4)]) hx hb dX7_points_32 hl (by decide) rfl (fun ls hl => ?_)
    refine lv_iload hx hb dX7_points_34 (lv_at hl 0 rfl) ?_
    refine lv_bipush (v := (-4 : Int32)) hx hb dX7_points_36 (by decide) ?_
    refine lv_icmp_ne (tgt := 44) hx hb dX7_points_38 (by decide) (fun hc => absurd hc (by decide)) (fun _ => ?_)
    refine lv_bipush (v := (-4 : Int32)) hx hb dX7_points_41 (by decide) ?_
    have hq := Option.some.inj hf
    exact q_iret hx hb hr hlk hP hS hq rfl dX7_points_43
def f_X7_postAt_b1 (σ : Sg) (a1 : Nat) (a2 : Int32) (x3_13 : Int32) (x4_13 : Int32) : Option ((Int32 × Int32) ⊕ Int32) :=
  if x4_13 < 0 then
  some (.inr x3_13)
  else
  (ga (σ (a1)) (ln (a1)) ((71 : Int32) + x4_13)).bind fun v24 =>
  if ¬ v24 = a2 then
  some (.inl (x3_13, (x4_13 + (-1 : Int32))))
  else
  some (.inl (x4_13, (x4_13 + (-1 : Int32))))
def f_X7_postAt_k1 (y3_42 : Int32) : Option Int32 :=
  some y3_42
def f_X7_postAt (σ : Sg) (a1 : Nat) (a2 : Int32) : Option Int32 :=
  (ga (σ (187)) (ln (187)) (0 : Int32)).bind fun v8 =>
  (lp (fun st => f_X7_postAt_b1 σ a1 a2 st.1 st.2) FU ((-4 : Int32), (v8 - (1 : Int32)))).bind fun rr => f_X7_postAt_k1 rr
set_option maxHeartbeats 4000000 in
set_option maxRecDepth 100000 in
theorem c_X7_postAt (l : Launch) (D : va_G) (w : Wv) (σ : Sg) (a1 : Nat) (a2 : Int32) (r : Int32) (ha1 : isC a1) (hf : f_X7_postAt σ a1 a2 = some r) : Met l yX7_postAt (.code yX7_postAt cX7_postAt 5 (some .int) :: TB) (rmW 0 0) (pcW D w [.ref (w.1 (184)), .ref (w.1 (a1)), .int a2] σ) (qiW D w r σ) 0 0 (AL w) := by
  refine q_open (by decide +kernel) (Nat.le_of_ble_eq_true rfl) ?_
  intro p e s m args below meth c ls hx hb hml hr hlk hown hts hK hP hS hl
  have hown : s.vm.findClass RX7 = some m.cls := hown
  have hl : lv_has ls 5 [(0, .ref (w.1 (184))), (1, .ref (w.1 (a1))), (2, .int a2)] := hl
  unfold f_X7_postAt at hf
  refine lv_bipush (v := (-4 : Int32)) hx hb dX7_postAt_0 (by decide) ?_
  refine lv_istore_n (lv' := [(3, .int (-4 : Int32)), (0, .ref (w.1 (184))), (1, .ref (w.1 (a1))), (2, .int a2)]) hx hb dX7_postAt_2 rfl hl (by decide) rfl (fun ls hl => ?_)
  refine lv_aload_n hx hb dX7_postAt_3 rfl (lv_at hl 1 rfl) ?_
  refine gt_X7_17 hx hb hts hown hK hP dX7_postAt_4 ?_
  refine lv_iconst (v := (0 : Int32)) hx hb dX7_postAt_7 (by decide) ?_
  obtain ⟨v8, h8, hf⟩ := bnd hf
  refine q_iald hx hb hK hP isC187.o isC187.k h8 dX7_postAt_8 ?_
  refine lv_iconst (v := (1 : Int32)) hx hb dX7_postAt_9 (by decide) ?_
  refine lv_isub hx hb dX7_postAt_10 ?_
  refine lv_istore (lv' := [(4, .int (v8 - (1 : Int32))), (3, .int (-4 : Int32)), (0, .ref (w.1 (184))), (1, .ref (w.1 (a1))), (2, .int a2)]) hx hb dX7_postAt_11 hl (by decide) rfl (fun ls hl => ?_)
  obtain ⟨rr, hlp, hf⟩ := bnd hf
  have hE13_42 : ∀ (y3_42 : Int32) (H : Heap) (locs : List Loc) (ls : Array Slot), f_X7_postAt_k1 y3_42 = some r → va_P D vwCl (WL w σ) H → va_S (AL w) s.heap H locs → lv_has ls 5 [(3, .int y3_42)] → W p l e (rmW 0 0) s m args below meth c H locs 0 0 (MQ below (qiW D w r σ) args s 0 0 (AL w)) (F0 m 42 ls []) := by
    intro y3_42 H locs ls hf hP hS hl
    unfold f_X7_postAt_k1 at hf
    refine lv_iload_n hx hb dX7_postAt_42 rfl (lv_at hl 0 rfl) ?_
    have hq := Option.some.inj hf
    exact q_iret hx hb hr hlk hP hS hq rfl dX7_postAt_43
  refine lp_ind (G := fun (st : (Int32 × Int32)) => ∀ (H : Heap) (locs : List Loc) (ls : Array Slot), va_P D vwCl (WL w σ) H → va_S (AL w) s.heap H locs → lv_has ls 5 [(1, .ref (w.1 (a1))), (2, .int a2), (3, .int st.1), (4, .int st.2)] → W p l e (rmW 0 0) s m args below meth c H locs 0 0 (MQ below (qiW D w r σ) args s 0 0 (AL w)) (F0 m 13 ls [])) (X := fun rr => f_X7_postAt_k1 rr = some r) ?_ _ _ rr hlp hf _ _ _ hP hS (lv_sub hl [3, 4, 1, 0] rfl)
  rintro ⟨x3_13, x4_13⟩ oo13 hb9 hG13 hX13 H locs ls hP hS hl
  have hP : va_P D vwCl (WL w σ) H := hP
  have hl : lv_has ls 5 [(1, .ref (w.1 (a1))), (2, .int a2), (3, .int x3_13), (4, .int x4_13)] := hl
  have hf : f_X7_postAt_b1 σ a1 a2 x3_13 x4_13 = some oo13 := hb9
  unfold f_X7_postAt_b1 at hf
  refine lv_iload hx hb dX7_postAt_13 (lv_at hl 3 rfl) ?_
  refine lv_if_lt (tgt := 42) hx hb dX7_postAt_15 (by decide) (fun hc => ?_) (fun hc => ?_)
  · have hf := ifp hc hf
    obtain rfl := Option.some.inj hf
    exact hE13_42 x3_13 _ _ _ (hX13 _ rfl) hP hS (lv_sub hl [2] rfl)
  · have hf := ifn hc hf
    refine lv_aload_n hx hb dX7_postAt_18 rfl (lv_at hl 0 rfl) ?_
    refine lv_bipush (v := (71 : Int32)) hx hb dX7_postAt_19 (by decide) ?_
    refine lv_iload hx hb dX7_postAt_21 (lv_at hl 3 rfl) ?_
    refine lv_iadd hx hb dX7_postAt_23 ?_
    obtain ⟨v24, h24, hf⟩ := bnd hf
    refine q_iald hx hb hK hP ha1.o ha1.k h24 dX7_postAt_24 ?_
    refine lv_iload_n hx hb dX7_postAt_25 rfl (lv_at hl 1 rfl) ?_
    refine lv_icmp_ne (tgt := 34) hx hb dX7_postAt_26 (by decide) (fun hc => ?_) (fun hc => ?_)
    · have hf := ifp hc hf
      refine lv_iload_n hx hb dX7_postAt_34 rfl (lv_at hl 2 rfl) ?_
      refine lv_istore_n (lv' := [(3, .int x3_13), (1, .ref (w.1 (a1))), (2, .int a2), (4, .int x4_13)]) hx hb dX7_postAt_35 rfl hl (by decide) rfl (fun ls hl => ?_)
      refine lv_iinc (v := (x4_13 + (-1 : Int32))) (lv' := [(4, .int (x4_13 + (-1 : Int32))), (3, .int x3_13), (1, .ref (w.1 (a1))), (2, .int a2)]) hx hb dX7_postAt_36 hl (k := 3) rfl ii_m1 (by decide) rfl (fun ls hl => ?_)
      refine lv_goto (tgt := 13) hx hb dX7_postAt_39 (by decide) ?_
      obtain rfl := Option.some.inj hf
      exact hG13 _ rfl _ _ _ hP hS (lv_sub hl [2, 3, 1, 0] rfl)
    · have hf := ifn (fun h => h hc) hf
      refine lv_iload hx hb dX7_postAt_29 (lv_at hl 3 rfl) ?_
      refine lv_goto (tgt := 35) hx hb dX7_postAt_31 (by decide) ?_
      refine lv_istore_n (lv' := [(3, .int x4_13), (1, .ref (w.1 (a1))), (2, .int a2), (4, .int x4_13)]) hx hb dX7_postAt_35 rfl hl (by decide) rfl (fun ls hl => ?_)
      refine lv_iinc (v := (x4_13 + (-1 : Int32))) (lv' := [(4, .int (x4_13 + (-1 : Int32))), (3, .int x4_13), (1, .ref (w.1 (a1))), (2, .int a2)]) hx hb dX7_postAt_36 hl (k := 3) rfl ii_m1 (by decide) rfl (fun ls hl => ?_)
      refine lv_goto (tgt := 13) hx hb dX7_postAt_39 (by decide) ?_
      obtain rfl := Option.some.inj hf
      exact hG13 _ rfl _ _ _ hP hS (lv_sub hl [2, 3, 1, 0] rfl)
def f_X7_goesTo_b1 (σ : Sg) (a1 : Nat) (v4 : Int32) (x6_108 : Int32) (x7_108 : Int32) : Option ((Int32 × Int32) ⊕ Int32) :=
  if x7_108 < 0 then
  some (.inr x6_108)
  else
  (ga (σ (a1)) (ln (a1)) (((7 : Int32) + ((8 : Int32) * v4)) + x7_108)).bind fun v124 =>
  if v124 ≤ 0 then
  some (.inl (x6_108, (x7_108 + (-1 : Int32))))
  else
  if x6_108 = (-4 : Int32) then
  some (.inl (x7_108, (x7_108 + (-1 : Int32))))
  else
  (ga (σ (a1)) (ln (a1)) (((7 : Int32) + ((8 : Int32) * v4)) + x6_108)).bind fun v152 =>
  if v152 < v124 then
  some (.inl (x6_108, (x7_108 + (-1 : Int32))))
  else
  some (.inl (x7_108, (x7_108 + (-1 : Int32))))
def f_X7_goesTo_k1 (σ : Sg) (a1 : Nat) (v4 : Int32) (y6_171 : Int32) : Option Int32 :=
  if y6_171 = (-4 : Int32) then
  some v4
  else
  (ga (σ (a1)) (ln (a1)) (((7 : Int32) + ((8 : Int32) * v4)) + y6_171)).bind fun v189 =>
  if v189 ≤ 0 then
  some v4
  else
  some y6_171
def f_X7_goesTo (σ : Sg) (a1 : Nat) (a2 : Int32) : Option Int32 :=
  (ga (σ (a1)) (ln (a1)) ((0 : Int32) + a2)).bind fun v4 =>
  (ga (σ (190)) (ln (190)) a2).bind fun v11 =>
  if ¬ v4 = v11 then
  if (σ 184 23) = 0 then
  (f_X7_postAt σ (a1) v4).bind fun v37 =>
  if v37 = (-4 : Int32) then
  (f_X7_has σ (σ 184 22) v4).bind fun v79 =>
  if v79 = 0 then
  (ga (σ (186)) (ln (186)) (0 : Int32)).bind fun v103 =>
  (lp (fun st => f_X7_goesTo_b1 σ a1 v4 st.1 st.2) FU ((-4 : Int32), (v103 - (1 : Int32)))).bind fun rr => f_X7_goesTo_k1 σ a1 v4 rr
  else
  (f_X7_nextOn σ (a1) v4 v11).bind fun v90 =>
  if v90 = (-4 : Int32) then
  some v4
  else
  (ga (σ (a1)) (ln (a1)) (((7 : Int32) + ((8 : Int32) * v4)) + v90)).bind fun v189 =>
  if v189 ≤ 0 then
  some v4
  else
  some v90
  else
  (ga (σ (189)) (ln (189)) v37).bind fun v63 =>
  (f_X7_points σ (a1) v37 v63 v11).bind fun v66 =>
  if v66 = (-4 : Int32) then
  some v4
  else
  (ga (σ (a1)) (ln (a1)) (((7 : Int32) + ((8 : Int32) * v4)) + v66)).bind fun v189 =>
  if v189 ≤ 0 then
  some v4
  else
  some v66
  else
  (f_X7_has σ (σ 184 22) v4).bind fun v79 =>
  if v79 = 0 then
  (ga (σ (186)) (ln (186)) (0 : Int32)).bind fun v103 =>
  (lp (fun st => f_X7_goesTo_b1 σ a1 v4 st.1 st.2) FU ((-4 : Int32), (v103 - (1 : Int32)))).bind fun rr => f_X7_goesTo_k1 σ a1 v4 rr
  else
  (f_X7_nextOn σ (a1) v4 v11).bind fun v90 =>
  if v90 = (-4 : Int32) then
  some v4
  else
  (ga (σ (a1)) (ln (a1)) (((7 : Int32) + ((8 : Int32) * v4)) + v90)).bind fun v189 =>
  if v189 ≤ 0 then
  some v4
  else
  some v90
  else
  some v4
set_option maxHeartbeats 4000000 in
set_option maxRecDepth 100000 in
theorem c_X7_goesTo (l : Launch) (D : va_G) (w : Wv) (σ : Sg) (a1 : Nat) (a2 : Int32) (r : Int32) (ha1 : isC a1) (hf : f_X7_goesTo σ a1 a2 = some r) : Met l yX7_goesTo (.code yX7_goesTo cX7_goesTo 9 (some .int) :: TB) (rmW 2 53) (pcW D w [.ref (w.1 (184)), .ref (w.1 (a1)), .int a2] σ) (qiW D w r σ) 0 0 (AL w) := by
  refine q_open (by decide +kernel) (Nat.le_of_ble_eq_true rfl) ?_
  intro p e s m args below meth c ls hx hb hml hr hlk hown hts hK hP hS hl
  have hown : s.vm.findClass RX7 = some m.cls := hown
  have hl : lv_has ls 9 [(0, .ref (w.1 (184))), (1, .ref (w.1 (a1))), (2, .int a2)] := hl
  unfold f_X7_goesTo at hf
  refine lv_aload_n hx hb dX7_goesTo_0 rfl (lv_at hl 1 rfl) ?_
  refine lv_iconst (v := (0 : Int32)) hx hb dX7_goesTo_1 (by decide) ?_
  refine lv_iload_n hx hb dX7_goesTo_2 rfl (lv_at hl 2 rfl) ?_
  refine lv_iadd hx hb dX7_goesTo_3 ?_
  obtain ⟨v4, h4, hf⟩ := bnd hf
  refine q_iald hx hb hK hP ha1.o ha1.k h4 dX7_goesTo_4 ?_
  refine lv_istore_n (lv' := [(3, .int v4), (0, .ref (w.1 (184))), (1, .ref (w.1 (a1))), (2, .int a2)]) hx hb dX7_goesTo_5 rfl hl (by decide) rfl (fun ls hl => ?_)
  refine lv_aload_n hx hb dX7_goesTo_6 rfl (lv_at hl 1 rfl) ?_
  refine gt_X7_26 hx hb hts hown hK hP dX7_goesTo_7 ?_
  refine lv_iload_n hx hb dX7_goesTo_10 rfl (lv_at hl 3 rfl) ?_
  obtain ⟨v11, h11, hf⟩ := bnd hf
  refine q_iald hx hb hK hP isC190.o isC190.k h11 dX7_goesTo_11 ?_
  refine lv_istore (lv' := [(4, .int v11), (3, .int v4), (0, .ref (w.1 (184))), (1, .ref (w.1 (a1))), (2, .int a2)]) hx hb dX7_goesTo_12 hl (by decide) rfl (fun ls hl => ?_)
  refine lv_iload_n hx hb dX7_goesTo_14 rfl (lv_at hl 1 rfl) ?_
  refine lv_iload hx hb dX7_goesTo_15 (lv_at hl 0 rfl) ?_
  refine lv_icmp_ne (tgt := 22) hx hb dX7_goesTo_17 (by decide) (fun hc => ?_) (fun hc => ?_)
  · have hf := ifp hc hf
    refine lv_aload_n hx hb dX7_goesTo_22 rfl (lv_at hl 2 rfl) ?_
    refine gt_X7_181 hx hb hts hown hK hP dX7_goesTo_23 ?_
    refine lv_if_eq (tgt := 34) hx hb dX7_goesTo_26 (by decide) (fun hc => ?_) (fun hc => ?_)
    · have hf := ifp hc hf
      refine lv_aload_n hx hb dX7_goesTo_34 rfl (lv_at hl 2 rfl) ?_
      refine lv_aload_n hx hb dX7_goesTo_35 rfl (lv_at hl 3 rfl) ?_
      refine lv_iload_n hx hb dX7_goesTo_36 rfl (lv_at hl 1 rfl) ?_
      obtain ⟨v37, h37, hf⟩ := bnd hf
      refine q_cVi (As := [.ref (w.1 (a1)), .int v4]) hx hb hts hml hown hK hP hS (c_X7_postAt l D w σ (a1) v4 v37 ha1 h37) hw_X7_184 hd_X7_postAt ⟨rfl, rfl, rfl⟩ o184 (ce7 kd184) rfl ⟨Nat.le_of_ble_eq_true rfl, Nat.le_of_ble_eq_true rfl⟩ ⟨Nat.le_of_ble_eq_true rfl, Nat.le_of_ble_eq_true rfl⟩ hl.1 rfl (Nat.le_of_ble_eq_true rfl) dX7_goesTo_37 (fun H locs hP hS => ?_)
      refine lv_istore (lv' := [(5, .int v37), (4, .int v11), (3, .int v4), (0, .ref (w.1 (184))), (1, .ref (w.1 (a1))), (2, .int a2)]) hx hb dX7_goesTo_40 hl (by decide) rfl (fun ls hl => ?_)
      refine lv_bipush (v := (-4 : Int32)) hx hb dX7_goesTo_42 (by decide) ?_
      refine lv_istore (lv' := [(6, .int (-4 : Int32)), (5, .int v37), (4, .int v11), (3, .int v4), (0, .ref (w.1 (184))), (1, .ref (w.1 (a1))), (2, .int a2)]) hx hb dX7_goesTo_44 hl (by decide) rfl (fun ls hl => ?_)
      refine lv_iload hx hb dX7_goesTo_46 (lv_at hl 1 rfl) ?_
      refine lv_bipush (v := (-4 : Int32)) hx hb dX7_goesTo_48 (by decide) ?_
      refine lv_icmp_eq (tgt := 74) hx hb dX7_goesTo_50 (by decide) (fun hc => ?_) (fun hc => ?_)
      · have hf := ifp hc hf
        refine lv_aload_n hx hb dX7_goesTo_74 rfl (lv_at hl 4 rfl) ?_
        refine gt_X7_192 hx hb hts hown hK hP dX7_goesTo_75 ?_
        refine lv_iload_n hx hb dX7_goesTo_78 rfl (lv_at hl 3 rfl) ?_
        obtain ⟨v79, h79, hf⟩ := bnd hf
        refine q_cSz (As := [.int (σ 184 22), .int v4]) hx hb hts hml hown hK hP hS (c_X7_has l D w σ (σ 184 22) v4 v79 h79) hw_X7_174 hd_X7_has ⟨rfl, rfl, rfl⟩ ⟨Nat.le_of_ble_eq_true rfl, Nat.le_of_ble_eq_true rfl⟩ ⟨Nat.le_of_ble_eq_true rfl, Nat.le_of_ble_eq_true rfl⟩ hl.1 rfl (Nat.le_of_ble_eq_true rfl) dX7_goesTo_79 (fun hz79 H locs hP hS => ?_)
        refine lv_if_eq (tgt := 98) hx hb dX7_goesTo_82 (by decide) (fun hc => ?_) (fun hc => ?_)
        · have hf := ifp hc hf
          refine lv_aload_n hx hb dX7_goesTo_98 rfl (lv_at hl 4 rfl) ?_
          refine gt_X7_13 hx hb hts hown hK hP dX7_goesTo_99 ?_
          refine lv_iconst (v := (0 : Int32)) hx hb dX7_goesTo_102 (by decide) ?_
          obtain ⟨v103, h103, hf⟩ := bnd hf
          refine q_iald hx hb hK hP isC186.o isC186.k h103 dX7_goesTo_103 ?_
          refine lv_iconst (v := (1 : Int32)) hx hb dX7_goesTo_104 (by decide) ?_
          refine lv_isub hx hb dX7_goesTo_105 ?_
          refine lv_istore (lv' := [(7, .int (v103 - (1 : Int32))), (6, .int (-4 : Int32)), (5, .int v37), (4, .int v11), (3, .int v4), (0, .ref (w.1 (184))), (1, .ref (w.1 (a1))), (2, .int a2)]) hx hb dX7_goesTo_106 hl (by decide) rfl (fun ls hl => ?_)
          obtain ⟨rr, hlp, hf⟩ := bnd hf
          have hE108_171 : ∀ (y6_171 : Int32) (H : Heap) (locs : List Loc) (ls : Array Slot), f_X7_goesTo_k1 σ a1 v4 y6_171 = some r → va_P D vwCl (WL w σ) H → va_S (AL w) s.heap H locs → lv_has ls 9 [(1, .ref (w.1 (a1))), (3, .int v4), (6, .int y6_171)] → W p l e (rmW 2 53) s m args below meth c H locs 0 0 (MQ below (qiW D w r σ) args s 0 0 (AL w)) (F0 m 171 ls []) := by
            intro y6_171 H locs ls hf hP hS hl
            unfold f_X7_goesTo_k1 at hf
            refine lv_iload hx hb dX7_goesTo_171 (lv_at hl 2 rfl) ?_
            refine lv_bipush (v := (-4 : Int32)) hx hb dX7_goesTo_173 (by decide) ?_
            refine lv_icmp_eq (tgt := 198) hx hb dX7_goesTo_175 (by decide) (fun hc => ?_) (fun hc => ?_)
            · have hf := ifp hc hf
              refine lv_iload_n hx hb dX7_goesTo_198 rfl (lv_at hl 1 rfl) ?_
              have hq := Option.some.inj hf
              exact q_iret hx hb hr hlk hP hS hq rfl dX7_goesTo_199
            · have hf := ifn hc hf
              refine lv_aload_n hx hb dX7_goesTo_178 rfl (lv_at hl 0 rfl) ?_
              refine lv_bipush (v := (7 : Int32)) hx hb dX7_goesTo_179 (by decide) ?_
              refine lv_bipush (v := (8 : Int32)) hx hb dX7_goesTo_181 (by decide) ?_
              refine lv_iload_n hx hb dX7_goesTo_183 rfl (lv_at hl 1 rfl) ?_
              refine lv_imul hx hb dX7_goesTo_184 ?_
              refine lv_iadd hx hb dX7_goesTo_185 ?_
              refine lv_iload hx hb dX7_goesTo_186 (lv_at hl 2 rfl) ?_
              refine lv_iadd hx hb dX7_goesTo_188 ?_
              obtain ⟨v189, h189, hf⟩ := bnd hf
              refine q_iald hx hb hK hP ha1.o ha1.k h189 dX7_goesTo_189 ?_
              refine lv_if_le (tgt := 198) hx hb dX7_goesTo_190 (by decide) (fun hc => ?_) (fun hc => ?_)
              · have hf := ifp hc hf
                refine lv_iload_n hx hb dX7_goesTo_198 rfl (lv_at hl 1 rfl) ?_
                have hq := Option.some.inj hf
                exact q_iret hx hb hr hlk hP hS hq rfl dX7_goesTo_199
              · have hf := ifn hc hf
                refine lv_iload hx hb dX7_goesTo_193 (lv_at hl 2 rfl) ?_
                refine lv_goto (tgt := 199) hx hb dX7_goesTo_195 (by decide) ?_
                have hq := Option.some.inj hf
                exact q_iret hx hb hr hlk hP hS hq rfl dX7_goesTo_199
          refine lp_ind (G := fun (st : (Int32 × Int32)) => ∀ (H : Heap) (locs : List Loc) (ls : Array Slot), va_P D vwCl (WL w σ) H → va_S (AL w) s.heap H locs → lv_has ls 9 [(1, .ref (w.1 (a1))), (3, .int v4), (6, .int st.1), (7, .int st.2)] → W p l e (rmW 2 53) s m args below meth c H locs 0 0 (MQ below (qiW D w r σ) args s 0 0 (AL w)) (F0 m 108 ls [])) (X := fun rr => f_X7_goesTo_k1 σ a1 v4 rr = some r) ?_ _ _ rr hlp hf _ _ _ hP hS (lv_sub hl [6, 4, 1, 0] rfl)
          rintro ⟨x6_108, x7_108⟩ oo108 hb9 hG108 hX108 H locs ls hP hS hl
          have hP : va_P D vwCl (WL w σ) H := hP
          have hl : lv_has ls 9 [(1, .ref (w.1 (a1))), (3, .int v4), (6, .int x6_108), (7, .int x7_108)] := hl
          have hf : f_X7_goesTo_b1 σ a1 v4 x6_108 x7_108 = some oo108 := hb9
          unfold f_X7_goesTo_b1 at hf
          refine lv_iload hx hb dX7_goesTo_108 (lv_at hl 3 rfl) ?_
          refine lv_if_lt (tgt := 171) hx hb dX7_goesTo_110 (by decide) (fun hc => ?_) (fun hc => ?_)
          · have hf := ifp hc hf
            obtain rfl := Option.some.inj hf
            exact hE108_171 x6_108 _ _ _ (hX108 _ rfl) hP hS (lv_sub hl [0, 1, 2] rfl)
          · have hf := ifn hc hf
            refine lv_aload_n hx hb dX7_goesTo_113 rfl (lv_at hl 0 rfl) ?_
            refine lv_bipush (v := (7 : Int32)) hx hb dX7_goesTo_114 (by decide) ?_
            refine lv_bipush (v := (8 : Int32)) hx hb dX7_goesTo_116 (by decide) ?_
            refine lv_iload_n hx hb dX7_goesTo_118 rfl (lv_at hl 1 rfl) ?_
            refine lv_imul hx hb dX7_goesTo_119 ?_
            refine lv_iadd hx hb dX7_goesTo_120 ?_
            refine lv_iload hx hb dX7_goesTo_121 (lv_at hl 3 rfl) ?_
            refine lv_iadd hx hb dX7_goesTo_123 ?_
            obtain ⟨v124, h124, hf⟩ := bnd hf
            refine q_iald hx hb hK hP ha1.o ha1.k h124 dX7_goesTo_124 ?_
            refine lv_istore (lv' := [(8, .int v124), (1, .ref (w.1 (a1))), (3, .int v4), (6, .int x6_108), (7, .int x7_108)]) hx hb dX7_goesTo_125 hl (by decide) rfl (fun ls hl => ?_)
            refine lv_iload hx hb dX7_goesTo_127 (lv_at hl 0 rfl) ?_
            refine lv_if_le (tgt := 161) hx hb dX7_goesTo_129 (by decide) (fun hc => ?_) (fun hc => ?_)
            · have hf := ifp hc hf
              refine lv_iload hx hb dX7_goesTo_161 (lv_at hl 3 rfl) ?_
              refine lv_istore (lv' := [(6, .int x6_108), (8, .int v124), (1, .ref (w.1 (a1))), (3, .int v4), (7, .int x7_108)]) hx hb dX7_goesTo_163 hl (by decide) rfl (fun ls hl => ?_)
              refine lv_iinc (v := (x7_108 + (-1 : Int32))) (lv' := [(7, .int (x7_108 + (-1 : Int32))), (6, .int x6_108), (8, .int v124), (1, .ref (w.1 (a1))), (3, .int v4)]) hx hb dX7_goesTo_165 hl (k := 4) rfl ii_m1 (by decide) rfl (fun ls hl => ?_)
              refine lv_goto (tgt := 108) hx hb dX7_goesTo_168 (by decide) ?_
              obtain rfl := Option.some.inj hf
              exact hG108 _ rfl _ _ _ hP hS (lv_sub hl [3, 4, 1, 0] rfl)
            · have hf := ifn hc hf
              refine lv_iload hx hb dX7_goesTo_132 (lv_at hl 3 rfl) ?_
              refine lv_bipush (v := (-4 : Int32)) hx hb dX7_goesTo_134 (by decide) ?_
              refine lv_icmp_eq (tgt := 156) hx hb dX7_goesTo_136 (by decide) (fun hc => ?_) (fun hc => ?_)
              · have hf := ifp hc hf
                refine lv_iload hx hb dX7_goesTo_156 (lv_at hl 4 rfl) ?_
                refine lv_goto (tgt := 163) hx hb dX7_goesTo_158 (by decide) ?_
                refine lv_istore (lv' := [(6, .int x7_108), (8, .int v124), (1, .ref (w.1 (a1))), (3, .int v4), (7, .int x7_108)]) hx hb dX7_goesTo_163 hl (by decide) rfl (fun ls hl => ?_)
                refine lv_iinc (v := (x7_108 + (-1 : Int32))) (lv' := [(7, .int (x7_108 + (-1 : Int32))), (6, .int x7_108), (8, .int v124), (1, .ref (w.1 (a1))), (3, .int v4)]) hx hb dX7_goesTo_165 hl (k := 4) rfl ii_m1 (by decide) rfl (fun ls hl => ?_)
                refine lv_goto (tgt := 108) hx hb dX7_goesTo_168 (by decide) ?_
                obtain rfl := Option.some.inj hf
                exact hG108 _ rfl _ _ _ hP hS (lv_sub hl [3, 4, 1, 0] rfl)
              · have hf := ifn hc hf
                refine lv_iload hx hb dX7_goesTo_139 (lv_at hl 0 rfl) ?_
                refine lv_aload_n hx hb dX7_goesTo_141 rfl (lv_at hl 1 rfl) ?_
                refine lv_bipush (v := (7 : Int32)) hx hb dX7_goesTo_142 (by decide) ?_
                refine lv_bipush (v := (8 : Int32)) hx hb dX7_goesTo_144 (by decide) ?_
                refine lv_iload_n hx hb dX7_goesTo_146 rfl (lv_at hl 2 rfl) ?_
                refine lv_imul hx hb dX7_goesTo_147 ?_
                refine lv_iadd hx hb dX7_goesTo_148 ?_
                refine lv_iload hx hb dX7_goesTo_149 (lv_at hl 3 rfl) ?_
                refine lv_iadd hx hb dX7_goesTo_151 ?_
                obtain ⟨v152, h152, hf⟩ := bnd hf
                refine q_iald hx hb hK hP ha1.o ha1.k h152 dX7_goesTo_152 ?_
                refine lv_icmp_gt (tgt := 161) hx hb dX7_goesTo_153 (by decide) (fun hc => ?_) (fun hc => ?_)
                · have hf := ifp hc hf
                  refine lv_iload hx hb dX7_goesTo_161 (lv_at hl 3 rfl) ?_
                  refine lv_istore (lv' := [(6, .int x6_108), (8, .int v124), (1, .ref (w.1 (a1))), (3, .int v4), (7, .int x7_108)]) hx hb dX7_goesTo_163 hl (by decide) rfl (fun ls hl => ?_)
                  refine lv_iinc (v := (x7_108 + (-1 : Int32))) (lv' := [(7, .int (x7_108 + (-1 : Int32))), (6, .int x6_108), (8, .int v124), (1, .ref (w.1 (a1))), (3, .int v4)]) hx hb dX7_goesTo_165 hl (k := 4) rfl ii_m1 (by decide) rfl (fun ls hl => ?_)
                  refine lv_goto (tgt := 108) hx hb dX7_goesTo_168 (by decide) ?_
                  obtain rfl := Option.some.inj hf
                  exact hG108 _ rfl _ _ _ hP hS (lv_sub hl [3, 4, 1, 0] rfl)
                · have hf := ifn hc hf
                  refine lv_iload hx hb dX7_goesTo_156 (lv_at hl 4 rfl) ?_
                  refine lv_goto (tgt := 163) hx hb dX7_goesTo_158 (by decide) ?_
                  refine lv_istore (lv' := [(6, .int x7_108), (8, .int v124), (1, .ref (w.1 (a1))), (3, .int v4), (7, .int x7_108)]) hx hb dX7_goesTo_163 hl (by decide) rfl (fun ls hl => ?_)
                  refine lv_iinc (v := (x7_108 + (-1 : Int32))) (lv' := [(7, .int (x7_108 + (-1 : Int32))), (6, .int x7_108), (8, .int v124), (1, .ref (w.1 (a1))), (3, .int v4)]) hx hb dX7_goesTo_165 hl (k := 4) rfl ii_m1 (by decide) rfl (fun ls hl => ?_)
                  refine lv_goto (tgt := 108) hx hb dX7_goesTo_168 (by decide) ?_
                  obtain rfl := Option.some.inj hf
                  exact hG108 _ rfl _ _ _ hP hS (lv_sub hl [3, 4, 1, 0] rfl)
        · have hf := ifn hc hf
          refine lv_aload_n hx hb dX7_goesTo_85 rfl (lv_at hl 4 rfl) ?_
          refine lv_aload_n hx hb dX7_goesTo_86 rfl (lv_at hl 5 rfl) ?_
          refine lv_iload_n hx hb dX7_goesTo_87 rfl (lv_at hl 3 rfl) ?_
          refine lv_iload hx hb dX7_goesTo_88 (lv_at hl 2 rfl) ?_
          obtain ⟨v90, h90, hf⟩ := bnd hf
          refine q_cVi (As := [.ref (w.1 (a1)), .int v4, .int v11]) hx hb hts hml hown hK hP hS (c_X7_nextOn l D w σ (a1) v4 v11 v90 ha1 h90) hw_X7_167 hd_X7_nextOn ⟨rfl, rfl, rfl⟩ o184 (ce7 kd184) rfl ⟨Nat.le_of_ble_eq_true rfl, Nat.le_of_ble_eq_true rfl⟩ ⟨Nat.le_of_ble_eq_true rfl, Nat.le_of_ble_eq_true rfl⟩ hl.1 rfl (Nat.le_of_ble_eq_true rfl) dX7_goesTo_90 (fun H locs hP hS => ?_)
          refine lv_istore (lv' := [(6, .int v90), (5, .int v37), (4, .int v11), (3, .int v4), (0, .ref (w.1 (184))), (1, .ref (w.1 (a1))), (2, .int a2)]) hx hb dX7_goesTo_93 hl (by decide) rfl (fun ls hl => ?_)
          refine lv_goto (tgt := 171) hx hb dX7_goesTo_95 (by decide) ?_
          refine lv_iload hx hb dX7_goesTo_171 (lv_at hl 0 rfl) ?_
          refine lv_bipush (v := (-4 : Int32)) hx hb dX7_goesTo_173 (by decide) ?_
          refine lv_icmp_eq (tgt := 198) hx hb dX7_goesTo_175 (by decide) (fun hc => ?_) (fun hc => ?_)
          · have hf := ifp hc hf
            refine lv_iload_n hx hb dX7_goesTo_198 rfl (lv_at hl 3 rfl) ?_
            have hq := Option.some.inj hf
            exact q_iret hx hb hr hlk hP hS hq rfl dX7_goesTo_199
          · have hf := ifn hc hf
            refine lv_aload_n hx hb dX7_goesTo_178 rfl (lv_at hl 5 rfl) ?_
            refine lv_bipush (v := (7 : Int32)) hx hb dX7_goesTo_179 (by decide) ?_
            refine lv_bipush (v := (8 : Int32)) hx hb dX7_goesTo_181 (by decide) ?_
            refine lv_iload_n hx hb dX7_goesTo_183 rfl (lv_at hl 3 rfl) ?_
            refine lv_imul hx hb dX7_goesTo_184 ?_
            refine lv_iadd hx hb dX7_goesTo_185 ?_
            refine lv_iload hx hb dX7_goesTo_186 (lv_at hl 0 rfl) ?_
            refine lv_iadd hx hb dX7_goesTo_188 ?_
            obtain ⟨v189, h189, hf⟩ := bnd hf
            refine q_iald hx hb hK hP ha1.o ha1.k h189 dX7_goesTo_189 ?_
            refine lv_if_le (tgt := 198) hx hb dX7_goesTo_190 (by decide) (fun hc => ?_) (fun hc => ?_)
            · have hf := ifp hc hf
              refine lv_iload_n hx hb dX7_goesTo_198 rfl (lv_at hl 3 rfl) ?_
              have hq := Option.some.inj hf
              exact q_iret hx hb hr hlk hP hS hq rfl dX7_goesTo_199
            · have hf := ifn hc hf
              refine lv_iload hx hb dX7_goesTo_193 (lv_at hl 0 rfl) ?_
              refine lv_goto (tgt := 199) hx hb dX7_goesTo_195 (by decide) ?_
              have hq := Option.some.inj hf
              exact q_iret hx hb hr hlk hP hS hq rfl dX7_goesTo_199
      · have hf := ifn hc hf
        refine lv_aload_n hx hb dX7_goesTo_53 rfl (lv_at hl 4 rfl) ?_
        refine lv_aload_n hx hb dX7_goesTo_54 rfl (lv_at hl 5 rfl) ?_
        refine lv_iload hx hb dX7_goesTo_55 (lv_at hl 1 rfl) ?_
        refine lv_aload_n hx hb dX7_goesTo_57 rfl (lv_at hl 4 rfl) ?_
        refine gt_X7_23 hx hb hts hown hK hP dX7_goesTo_58 ?_
        refine lv_iload hx hb dX7_goesTo_61 (lv_at hl 1 rfl) ?_
        obtain ⟨v63, h63, hf⟩ := bnd hf
        refine q_iald hx hb hK hP isC189.o isC189.k h63 dX7_goesTo_63 ?_
        refine lv_iload hx hb dX7_goesTo_64 (lv_at hl 2 rfl) ?_
        obtain ⟨v66, h66, hf⟩ := bnd hf
        refine q_cVi (As := [.ref (w.1 (a1)), .int v37, .int v63, .int v11]) hx hb hts hml hown hK hP hS (c_X7_points l D w σ (a1) v37 v63 v11 v66 ha1 h66) hw_X7_188 hd_X7_points ⟨rfl, rfl, rfl⟩ o184 (ce7 kd184) rfl ⟨Nat.le_of_ble_eq_true rfl, Nat.le_of_ble_eq_true rfl⟩ ⟨Nat.le_of_ble_eq_true rfl, Nat.le_of_ble_eq_true rfl⟩ hl.1 rfl (Nat.le_of_ble_eq_true rfl) dX7_goesTo_66 (fun H locs hP hS => ?_)
        refine lv_istore (lv' := [(6, .int v66), (5, .int v37), (4, .int v11), (3, .int v4), (0, .ref (w.1 (184))), (1, .ref (w.1 (a1))), (2, .int a2)]) hx hb dX7_goesTo_69 hl (by decide) rfl (fun ls hl => ?_)
        refine lv_goto (tgt := 171) hx hb dX7_goesTo_71 (by decide) ?_
        refine lv_iload hx hb dX7_goesTo_171 (lv_at hl 0 rfl) ?_
        refine lv_bipush (v := (-4 : Int32)) hx hb dX7_goesTo_173 (by decide) ?_
        refine lv_icmp_eq (tgt := 198) hx hb dX7_goesTo_175 (by decide) (fun hc => ?_) (fun hc => ?_)
        · have hf := ifp hc hf
          refine lv_iload_n hx hb dX7_goesTo_198 rfl (lv_at hl 3 rfl) ?_
          have hq := Option.some.inj hf
          exact q_iret hx hb hr hlk hP hS hq rfl dX7_goesTo_199
        · have hf := ifn hc hf
          refine lv_aload_n hx hb dX7_goesTo_178 rfl (lv_at hl 5 rfl) ?_
          refine lv_bipush (v := (7 : Int32)) hx hb dX7_goesTo_179 (by decide) ?_
          refine lv_bipush (v := (8 : Int32)) hx hb dX7_goesTo_181 (by decide) ?_
          refine lv_iload_n hx hb dX7_goesTo_183 rfl (lv_at hl 3 rfl) ?_
          refine lv_imul hx hb dX7_goesTo_184 ?_
          refine lv_iadd hx hb dX7_goesTo_185 ?_
          refine lv_iload hx hb dX7_goesTo_186 (lv_at hl 0 rfl) ?_
          refine lv_iadd hx hb dX7_goesTo_188 ?_
          obtain ⟨v189, h189, hf⟩ := bnd hf
          refine q_iald hx hb hK hP ha1.o ha1.k h189 dX7_goesTo_189 ?_
          refine lv_if_le (tgt := 198) hx hb dX7_goesTo_190 (by decide) (fun hc => ?_) (fun hc => ?_)
          · have hf := ifp hc hf
            refine lv_iload_n hx hb dX7_goesTo_198 rfl (lv_at hl 3 rfl) ?_
            have hq := Option.some.inj hf
            exact q_iret hx hb hr hlk hP hS hq rfl dX7_goesTo_199
          · have hf := ifn hc hf
            refine lv_iload hx hb dX7_goesTo_193 (lv_at hl 0 rfl) ?_
            refine lv_goto (tgt := 199) hx hb dX7_goesTo_195 (by decide) ?_
            have hq := Option.some.inj hf
            exact q_iret hx hb hr hlk hP hS hq rfl dX7_goesTo_199
    · have hf := ifn hc hf
      refine lv_bipush (v := (-4 : Int32)) hx hb dX7_goesTo_29 (by decide) ?_
      refine lv_goto (tgt := 40) hx hb dX7_goesTo_31 (by decide) ?_
      refine lv_istore (lv' := [(5, .int (-4 : Int32)), (4, .int v11), (3, .int v4), (0, .ref (w.1 (184))), (1, .ref (w.1 (a1))), (2, .int a2)]) hx hb dX7_goesTo_40 hl (by decide) rfl (fun ls hl => ?_)
      refine lv_bipush (v := (-4 : Int32)) hx hb dX7_goesTo_42 (by decide) ?_
      refine lv_istore (lv' := [(6, .int (-4 : Int32)), (5, .int (-4 : Int32)), (4, .int v11), (3, .int v4), (0, .ref (w.1 (184))), (1, .ref (w.1 (a1))), (2, .int a2)]) hx hb dX7_goesTo_44 hl (by decide) rfl (fun ls hl => ?_)
      refine lv_iload hx hb dX7_goesTo_46 (lv_at hl 1 rfl) ?_
      refine lv_bipush (v := (-4 : Int32)) hx hb dX7_goesTo_48 (by decide) ?_
      refine lv_icmp_eq (tgt := 74) hx hb dX7_goesTo_50 (by decide) (fun _ => ?_) (fun hc => absurd (by decide) hc)
      refine lv_aload_n hx hb dX7_goesTo_74 rfl (lv_at hl 4 rfl) ?_
      refine gt_X7_192 hx hb hts hown hK hP dX7_goesTo_75 ?_
      refine lv_iload_n hx hb dX7_goesTo_78 rfl (lv_at hl 3 rfl) ?_
      obtain ⟨v79, h79, hf⟩ := bnd hf
      refine q_cSz (As := [.int (σ 184 22), .int v4]) hx hb hts hml hown hK hP hS (c_X7_has l D w σ (σ 184 22) v4 v79 h79) hw_X7_174 hd_X7_has ⟨rfl, rfl, rfl⟩ ⟨Nat.le_of_ble_eq_true rfl, Nat.le_of_ble_eq_true rfl⟩ ⟨Nat.le_of_ble_eq_true rfl, Nat.le_of_ble_eq_true rfl⟩ hl.1 rfl (Nat.le_of_ble_eq_true rfl) dX7_goesTo_79 (fun hz79 H locs hP hS => ?_)
      refine lv_if_eq (tgt := 98) hx hb dX7_goesTo_82 (by decide) (fun hc => ?_) (fun hc => ?_)
      · have hf := ifp hc hf
        refine lv_aload_n hx hb dX7_goesTo_98 rfl (lv_at hl 4 rfl) ?_
        refine gt_X7_13 hx hb hts hown hK hP dX7_goesTo_99 ?_
        refine lv_iconst (v := (0 : Int32)) hx hb dX7_goesTo_102 (by decide) ?_
        obtain ⟨v103, h103, hf⟩ := bnd hf
        refine q_iald hx hb hK hP isC186.o isC186.k h103 dX7_goesTo_103 ?_
        refine lv_iconst (v := (1 : Int32)) hx hb dX7_goesTo_104 (by decide) ?_
        refine lv_isub hx hb dX7_goesTo_105 ?_
        refine lv_istore (lv' := [(7, .int (v103 - (1 : Int32))), (6, .int (-4 : Int32)), (5, .int (-4 : Int32)), (4, .int v11), (3, .int v4), (0, .ref (w.1 (184))), (1, .ref (w.1 (a1))), (2, .int a2)]) hx hb dX7_goesTo_106 hl (by decide) rfl (fun ls hl => ?_)
        obtain ⟨rr, hlp, hf⟩ := bnd hf
        have hE108_171 : ∀ (y6_171 : Int32) (H : Heap) (locs : List Loc) (ls : Array Slot), f_X7_goesTo_k1 σ a1 v4 y6_171 = some r → va_P D vwCl (WL w σ) H → va_S (AL w) s.heap H locs → lv_has ls 9 [(1, .ref (w.1 (a1))), (3, .int v4), (6, .int y6_171)] → W p l e (rmW 2 53) s m args below meth c H locs 0 0 (MQ below (qiW D w r σ) args s 0 0 (AL w)) (F0 m 171 ls []) := by
          intro y6_171 H locs ls hf hP hS hl
          unfold f_X7_goesTo_k1 at hf
          refine lv_iload hx hb dX7_goesTo_171 (lv_at hl 2 rfl) ?_
          refine lv_bipush (v := (-4 : Int32)) hx hb dX7_goesTo_173 (by decide) ?_
          refine lv_icmp_eq (tgt := 198) hx hb dX7_goesTo_175 (by decide) (fun hc => ?_) (fun hc => ?_)
          · have hf := ifp hc hf
            refine lv_iload_n hx hb dX7_goesTo_198 rfl (lv_at hl 1 rfl) ?_
            have hq := Option.some.inj hf
            exact q_iret hx hb hr hlk hP hS hq rfl dX7_goesTo_199
          · have hf := ifn hc hf
            refine lv_aload_n hx hb dX7_goesTo_178 rfl (lv_at hl 0 rfl) ?_
            refine lv_bipush (v := (7 : Int32)) hx hb dX7_goesTo_179 (by decide) ?_
            refine lv_bipush (v := (8 : Int32)) hx hb dX7_goesTo_181 (by decide) ?_
            refine lv_iload_n hx hb dX7_goesTo_183 rfl (lv_at hl 1 rfl) ?_
            refine lv_imul hx hb dX7_goesTo_184 ?_
            refine lv_iadd hx hb dX7_goesTo_185 ?_
            refine lv_iload hx hb dX7_goesTo_186 (lv_at hl 2 rfl) ?_
            refine lv_iadd hx hb dX7_goesTo_188 ?_
            obtain ⟨v189, h189, hf⟩ := bnd hf
            refine q_iald hx hb hK hP ha1.o ha1.k h189 dX7_goesTo_189 ?_
            refine lv_if_le (tgt := 198) hx hb dX7_goesTo_190 (by decide) (fun hc => ?_) (fun hc => ?_)
            · have hf := ifp hc hf
              refine lv_iload_n hx hb dX7_goesTo_198 rfl (lv_at hl 1 rfl) ?_
              have hq := Option.some.inj hf
              exact q_iret hx hb hr hlk hP hS hq rfl dX7_goesTo_199
            · have hf := ifn hc hf
              refine lv_iload hx hb dX7_goesTo_193 (lv_at hl 2 rfl) ?_
              refine lv_goto (tgt := 199) hx hb dX7_goesTo_195 (by decide) ?_
              have hq := Option.some.inj hf
              exact q_iret hx hb hr hlk hP hS hq rfl dX7_goesTo_199
        refine lp_ind (G := fun (st : (Int32 × Int32)) => ∀ (H : Heap) (locs : List Loc) (ls : Array Slot), va_P D vwCl (WL w σ) H → va_S (AL w) s.heap H locs → lv_has ls 9 [(1, .ref (w.1 (a1))), (3, .int v4), (6, .int st.1), (7, .int st.2)] → W p l e (rmW 2 53) s m args below meth c H locs 0 0 (MQ below (qiW D w r σ) args s 0 0 (AL w)) (F0 m 108 ls [])) (X := fun rr => f_X7_goesTo_k1 σ a1 v4 rr = some r) ?_ _ _ rr hlp hf _ _ _ hP hS (lv_sub hl [6, 4, 1, 0] rfl)
        rintro ⟨x6_108, x7_108⟩ oo108 hb9 hG108 hX108 H locs ls hP hS hl
        have hP : va_P D vwCl (WL w σ) H := hP
        have hl : lv_has ls 9 [(1, .ref (w.1 (a1))), (3, .int v4), (6, .int x6_108), (7, .int x7_108)] := hl
        have hf : f_X7_goesTo_b1 σ a1 v4 x6_108 x7_108 = some oo108 := hb9
        unfold f_X7_goesTo_b1 at hf
        refine lv_iload hx hb dX7_goesTo_108 (lv_at hl 3 rfl) ?_
        refine lv_if_lt (tgt := 171) hx hb dX7_goesTo_110 (by decide) (fun hc => ?_) (fun hc => ?_)
        · have hf := ifp hc hf
          obtain rfl := Option.some.inj hf
          exact hE108_171 x6_108 _ _ _ (hX108 _ rfl) hP hS (lv_sub hl [0, 1, 2] rfl)
        · have hf := ifn hc hf
          refine lv_aload_n hx hb dX7_goesTo_113 rfl (lv_at hl 0 rfl) ?_
          refine lv_bipush (v := (7 : Int32)) hx hb dX7_goesTo_114 (by decide) ?_
          refine lv_bipush (v := (8 : Int32)) hx hb dX7_goesTo_116 (by decide) ?_
          refine lv_iload_n hx hb dX7_goesTo_118 rfl (lv_at hl 1 rfl) ?_
          refine lv_imul hx hb dX7_goesTo_119 ?_
          refine lv_iadd hx hb dX7_goesTo_120 ?_
          refine lv_iload hx hb dX7_goesTo_121 (lv_at hl 3 rfl) ?_
          refine lv_iadd hx hb dX7_goesTo_123 ?_
          obtain ⟨v124, h124, hf⟩ := bnd hf
          refine q_iald hx hb hK hP ha1.o ha1.k h124 dX7_goesTo_124 ?_
          refine lv_istore (lv' := [(8, .int v124), (1, .ref (w.1 (a1))), (3, .int v4), (6, .int x6_108), (7, .int x7_108)]) hx hb dX7_goesTo_125 hl (by decide) rfl (fun ls hl => ?_)
          refine lv_iload hx hb dX7_goesTo_127 (lv_at hl 0 rfl) ?_
          refine lv_if_le (tgt := 161) hx hb dX7_goesTo_129 (by decide) (fun hc => ?_) (fun hc => ?_)
          · have hf := ifp hc hf
            refine lv_iload hx hb dX7_goesTo_161 (lv_at hl 3 rfl) ?_
            refine lv_istore (lv' := [(6, .int x6_108), (8, .int v124), (1, .ref (w.1 (a1))), (3, .int v4), (7, .int x7_108)]) hx hb dX7_goesTo_163 hl (by decide) rfl (fun ls hl => ?_)
            refine lv_iinc (v := (x7_108 + (-1 : Int32))) (lv' := [(7, .int (x7_108 + (-1 : Int32))), (6, .int x6_108), (8, .int v124), (1, .ref (w.1 (a1))), (3, .int v4)]) hx hb dX7_goesTo_165 hl (k := 4) rfl ii_m1 (by decide) rfl (fun ls hl => ?_)
            refine lv_goto (tgt := 108) hx hb dX7_goesTo_168 (by decide) ?_
            obtain rfl := Option.some.inj hf
            exact hG108 _ rfl _ _ _ hP hS (lv_sub hl [3, 4, 1, 0] rfl)
          · have hf := ifn hc hf
            refine lv_iload hx hb dX7_goesTo_132 (lv_at hl 3 rfl) ?_
            refine lv_bipush (v := (-4 : Int32)) hx hb dX7_goesTo_134 (by decide) ?_
            refine lv_icmp_eq (tgt := 156) hx hb dX7_goesTo_136 (by decide) (fun hc => ?_) (fun hc => ?_)
            · have hf := ifp hc hf
              refine lv_iload hx hb dX7_goesTo_156 (lv_at hl 4 rfl) ?_
              refine lv_goto (tgt := 163) hx hb dX7_goesTo_158 (by decide) ?_
              refine lv_istore (lv' := [(6, .int x7_108), (8, .int v124), (1, .ref (w.1 (a1))), (3, .int v4), (7, .int x7_108)]) hx hb dX7_goesTo_163 hl (by decide) rfl (fun ls hl => ?_)
              refine lv_iinc (v := (x7_108 + (-1 : Int32))) (lv' := [(7, .int (x7_108 + (-1 : Int32))), (6, .int x7_108), (8, .int v124), (1, .ref (w.1 (a1))), (3, .int v4)]) hx hb dX7_goesTo_165 hl (k := 4) rfl ii_m1 (by decide) rfl (fun ls hl => ?_)
              refine lv_goto (tgt := 108) hx hb dX7_goesTo_168 (by decide) ?_
              obtain rfl := Option.some.inj hf
              exact hG108 _ rfl _ _ _ hP hS (lv_sub hl [3, 4, 1, 0] rfl)
            · have hf := ifn hc hf
              refine lv_iload hx hb dX7_goesTo_139 (lv_at hl 0 rfl) ?_
              refine lv_aload_n hx hb dX7_goesTo_141 rfl (lv_at hl 1 rfl) ?_
              refine lv_bipush (v := (7 : Int32)) hx hb dX7_goesTo_142 (by decide) ?_
              refine lv_bipush (v := (8 : Int32)) hx hb dX7_goesTo_144 (by decide) ?_
              refine lv_iload_n hx hb dX7_goesTo_146 rfl (lv_at hl 2 rfl) ?_
              refine lv_imul hx hb dX7_goesTo_147 ?_
              refine lv_iadd hx hb dX7_goesTo_148 ?_
              refine lv_iload hx hb dX7_goesTo_149 (lv_at hl 3 rfl) ?_
              refine lv_iadd hx hb dX7_goesTo_151 ?_
              obtain ⟨v152, h152, hf⟩ := bnd hf
              refine q_iald hx hb hK hP ha1.o ha1.k h152 dX7_goesTo_152 ?_
              refine lv_icmp_gt (tgt := 161) hx hb dX7_goesTo_153 (by decide) (fun hc => ?_) (fun hc => ?_)
              · have hf := ifp hc hf
                refine lv_iload hx hb dX7_goesTo_161 (lv_at hl 3 rfl) ?_
                refine lv_istore (lv' := [(6, .int x6_108), (8, .int v124), (1, .ref (w.1 (a1))), (3, .int v4), (7, .int x7_108)]) hx hb dX7_goesTo_163 hl (by decide) rfl (fun ls hl => ?_)
                refine lv_iinc (v := (x7_108 + (-1 : Int32))) (lv' := [(7, .int (x7_108 + (-1 : Int32))), (6, .int x6_108), (8, .int v124), (1, .ref (w.1 (a1))), (3, .int v4)]) hx hb dX7_goesTo_165 hl (k := 4) rfl ii_m1 (by decide) rfl (fun ls hl => ?_)
                refine lv_goto (tgt := 108) hx hb dX7_goesTo_168 (by decide) ?_
                obtain rfl := Option.some.inj hf
                exact hG108 _ rfl _ _ _ hP hS (lv_sub hl [3, 4, 1, 0] rfl)
              · have hf := ifn hc hf
                refine lv_iload hx hb dX7_goesTo_156 (lv_at hl 4 rfl) ?_
                refine lv_goto (tgt := 163) hx hb dX7_goesTo_158 (by decide) ?_
                refine lv_istore (lv' := [(6, .int x7_108), (8, .int v124), (1, .ref (w.1 (a1))), (3, .int v4), (7, .int x7_108)]) hx hb dX7_goesTo_163 hl (by decide) rfl (fun ls hl => ?_)
                refine lv_iinc (v := (x7_108 + (-1 : Int32))) (lv' := [(7, .int (x7_108 + (-1 : Int32))), (6, .int x7_108), (8, .int v124), (1, .ref (w.1 (a1))), (3, .int v4)]) hx hb dX7_goesTo_165 hl (k := 4) rfl ii_m1 (by decide) rfl (fun ls hl => ?_)
                refine lv_goto (tgt := 108) hx hb dX7_goesTo_168 (by decide) ?_
                obtain rfl := Option.some.inj hf
                exact hG108 _ rfl _ _ _ hP hS (lv_sub hl [3, 4, 1, 0] rfl)
      · have hf := ifn hc hf
        refine lv_aload_n hx hb dX7_goesTo_85 rfl (lv_at hl 4 rfl) ?_
        refine lv_aload_n hx hb dX7_goesTo_86 rfl (lv_at hl 5 rfl) ?_
        refine lv_iload_n hx hb dX7_goesTo_87 rfl (lv_at hl 3 rfl) ?_
        refine lv_iload hx hb dX7_goesTo_88 (lv_at hl 2 rfl) ?_
        obtain ⟨v90, h90, hf⟩ := bnd hf
        refine q_cVi (As := [.ref (w.1 (a1)), .int v4, .int v11]) hx hb hts hml hown hK hP hS (c_X7_nextOn l D w σ (a1) v4 v11 v90 ha1 h90) hw_X7_167 hd_X7_nextOn ⟨rfl, rfl, rfl⟩ o184 (ce7 kd184) rfl ⟨Nat.le_of_ble_eq_true rfl, Nat.le_of_ble_eq_true rfl⟩ ⟨Nat.le_of_ble_eq_true rfl, Nat.le_of_ble_eq_true rfl⟩ hl.1 rfl (Nat.le_of_ble_eq_true rfl) dX7_goesTo_90 (fun H locs hP hS => ?_)
        refine lv_istore (lv' := [(6, .int v90), (5, .int (-4 : Int32)), (4, .int v11), (3, .int v4), (0, .ref (w.1 (184))), (1, .ref (w.1 (a1))), (2, .int a2)]) hx hb dX7_goesTo_93 hl (by decide) rfl (fun ls hl => ?_)
        refine lv_goto (tgt := 171) hx hb dX7_goesTo_95 (by decide) ?_
        refine lv_iload hx hb dX7_goesTo_171 (lv_at hl 0 rfl) ?_
        refine lv_bipush (v := (-4 : Int32)) hx hb dX7_goesTo_173 (by decide) ?_
        refine lv_icmp_eq (tgt := 198) hx hb dX7_goesTo_175 (by decide) (fun hc => ?_) (fun hc => ?_)
        · have hf := ifp hc hf
          refine lv_iload_n hx hb dX7_goesTo_198 rfl (lv_at hl 3 rfl) ?_
          have hq := Option.some.inj hf
          exact q_iret hx hb hr hlk hP hS hq rfl dX7_goesTo_199
        · have hf := ifn hc hf
          refine lv_aload_n hx hb dX7_goesTo_178 rfl (lv_at hl 5 rfl) ?_
          refine lv_bipush (v := (7 : Int32)) hx hb dX7_goesTo_179 (by decide) ?_
          refine lv_bipush (v := (8 : Int32)) hx hb dX7_goesTo_181 (by decide) ?_
          refine lv_iload_n hx hb dX7_goesTo_183 rfl (lv_at hl 3 rfl) ?_
          refine lv_imul hx hb dX7_goesTo_184 ?_
          refine lv_iadd hx hb dX7_goesTo_185 ?_
          refine lv_iload hx hb dX7_goesTo_186 (lv_at hl 0 rfl) ?_
          refine lv_iadd hx hb dX7_goesTo_188 ?_
          obtain ⟨v189, h189, hf⟩ := bnd hf
          refine q_iald hx hb hK hP ha1.o ha1.k h189 dX7_goesTo_189 ?_
          refine lv_if_le (tgt := 198) hx hb dX7_goesTo_190 (by decide) (fun hc => ?_) (fun hc => ?_)
          · have hf := ifp hc hf
            refine lv_iload_n hx hb dX7_goesTo_198 rfl (lv_at hl 3 rfl) ?_
            have hq := Option.some.inj hf
            exact q_iret hx hb hr hlk hP hS hq rfl dX7_goesTo_199
          · have hf := ifn hc hf
            refine lv_iload hx hb dX7_goesTo_193 (lv_at hl 0 rfl) ?_
            refine lv_goto (tgt := 199) hx hb dX7_goesTo_195 (by decide) ?_
            have hq := Option.some.inj hf
            exact q_iret hx hb hr hlk hP hS hq rfl dX7_goesTo_199
  · have hf := ifn (fun h => h hc) hf
    refine lv_iload_n hx hb dX7_goesTo_20 rfl (lv_at hl 1 rfl) ?_
    have hq := Option.some.inj hf
    exact q_iret hx hb hr hlk hP hS hq rfl dX7_goesTo_21
def f_X7_passHour_b1 (a1 : Nat) (x2_2 : Int32) (σ_2 : Sg) : Option ((Int32 × Sg) ⊕ Sg) :=
  (ga (σ_2 (188)) (ln (188)) (0 : Int32)).bind fun v8 =>
  if v8 ≤ x2_2 then
  some (.inr σ_2)
  else
  (f_X7_goesTo σ_2 (a1) x2_2).bind fun v20 =>
  (sa σ_2 (200) (ln (200)) x2_2 v20).bind fun σ23 =>
  some (.inl ((x2_2 + (1 : Int32)), σ23))
def f_X7_passHour_b2 (a1 : Nat) (x2_32 : Int32) (σ_32 : Sg) : Option ((Int32 × Sg) ⊕ Sg) :=
  (ga (σ_32 (188)) (ln (188)) (0 : Int32)).bind fun v38 =>
  if v38 ≤ x2_32 then
  some (.inr σ_32)
  else
  (ga (σ_32 (200)) (ln (200)) x2_32).bind fun v51 =>
  (sa σ_32 (a1) (ln (a1)) ((0 : Int32) + x2_32) v51).bind fun σ52 =>
  some (.inl ((x2_32 + (1 : Int32)), σ52))
def f_X7_passHour_k1 (a1 : Nat) (σ_59 : Sg) : Option Sg :=
  (ga (σ_59 (a1)) (ln (a1)) (5 : Int32)).bind fun v62 =>
  (sa σ_59 (a1) (ln (a1)) (5 : Int32) (v62 + (1 : Int32))).bind fun σ65 =>
  some σ65
def f_X7_passHour_k2 (a1 : Nat) (σ_30 : Sg) : Option Sg :=
  (lp (fun st => f_X7_passHour_b2 a1 st.1 st.2) FU ((0 : Int32), σ_30)).bind fun rr => f_X7_passHour_k1 a1 rr
def f_X7_passHour (σ : Sg) (a1 : Nat) : Option Sg :=
  (lp (fun st => f_X7_passHour_b1 a1 st.1 st.2) FU ((0 : Int32), σ)).bind fun rr => f_X7_passHour_k2 a1 rr
set_option maxHeartbeats 4000000 in
set_option maxRecDepth 100000 in
theorem c_X7_passHour (l : Launch) (D : va_G) (w : Wv) (σ : Sg) (a1 : Nat) (σ' : Sg) (ha1 : isC a1) (hJ : Inj w) (hf : f_X7_passHour σ a1 = some σ') : Met l yX7_passHour (.code yX7_passHour cX7_passHour 3 none :: TB) (rmW 3 81) (pcW D w [.ref (w.1 (184)), .ref (w.1 (a1))] σ) (qvW D w σ') 0 0 (AL w) := by
  refine q_open (by decide +kernel) (Nat.le_of_ble_eq_true rfl) ?_
  intro p e s m args below meth c ls hx hb hml hr hlk hown hts hK hP hS hl
  have hown : s.vm.findClass RX7 = some m.cls := hown
  have hl : lv_has ls 3 [(0, .ref (w.1 (184))), (1, .ref (w.1 (a1)))] := hl
  unfold f_X7_passHour at hf
  refine lv_iconst (v := (0 : Int32)) hx hb dX7_passHour_0 (by decide) ?_
  refine lv_istore_n (lv' := [(2, .int (0 : Int32)), (0, .ref (w.1 (184))), (1, .ref (w.1 (a1)))]) hx hb dX7_passHour_1 rfl hl (by decide) rfl (fun ls hl => ?_)
  obtain ⟨rr, hlp, hf⟩ := bnd hf
  have hE2_30 : ∀ (σ_30 : Sg) (H : Heap) (locs : List Loc) (ls : Array Slot), f_X7_passHour_k2 a1 σ_30 = some σ' → va_P D vwCl (WL w σ_30) H → va_S (AL w) s.heap H locs → lv_has ls 3 [(0, .ref (w.1 (184))), (1, .ref (w.1 (a1)))] → W p l e (rmW 3 81) s m args below meth c H locs 0 0 (MQ below (qvW D w σ') args s 0 0 (AL w)) (F0 m 30 ls []) := by
    intro σ_30 H locs ls hf hP hS hl
    unfold f_X7_passHour_k2 at hf
    refine lv_iconst (v := (0 : Int32)) hx hb dX7_passHour_30 (by decide) ?_
    refine lv_istore_n (lv' := [(2, .int (0 : Int32)), (0, .ref (w.1 (184))), (1, .ref (w.1 (a1)))]) hx hb dX7_passHour_31 rfl hl (by decide) rfl (fun ls hl => ?_)
    obtain ⟨rr, hlp, hf⟩ := bnd hf
    have hE32_59 : ∀ (σ_59 : Sg) (H : Heap) (locs : List Loc) (ls : Array Slot), f_X7_passHour_k1 a1 σ_59 = some σ' → va_P D vwCl (WL w σ_59) H → va_S (AL w) s.heap H locs → lv_has ls 3 [(1, .ref (w.1 (a1)))] → W p l e (rmW 3 81) s m args below meth c H locs 0 0 (MQ below (qvW D w σ') args s 0 0 (AL w)) (F0 m 59 ls []) := by
      intro σ_59 H locs ls hf hP hS hl
      unfold f_X7_passHour_k1 at hf
      refine lv_aload_n hx hb dX7_passHour_59 rfl (lv_at hl 0 rfl) ?_
      refine lv_iconst (v := (5 : Int32)) hx hb dX7_passHour_60 (by decide) ?_
      refine lv_dup2_11 hx hb dX7_passHour_61 rfl rfl ?_
      obtain ⟨v62, h62, hf⟩ := bnd hf
      refine q_iald hx hb hK hP ha1.o ha1.k h62 dX7_passHour_62 ?_
      refine lv_iconst (v := (1 : Int32)) hx hb dX7_passHour_63 (by decide) ?_
      refine lv_iadd hx hb dX7_passHour_64 ?_
      obtain ⟨σ65, h65, hf⟩ := bnd hf
      refine q_iast hx hb hK hP hJ hS ha1.o ha1.k h65 dX7_passHour_65 (fun H locs hP hS => ?_)
      have hq := Option.some.inj hf
      exact q_vret hx hb hr hlk hP hS hq dX7_passHour_66
    refine lp_ind (G := fun (st : (Int32 × Sg)) => ∀ (H : Heap) (locs : List Loc) (ls : Array Slot), va_P D vwCl (WL w st.2) H → va_S (AL w) s.heap H locs → lv_has ls 3 [(0, .ref (w.1 (184))), (1, .ref (w.1 (a1))), (2, .int st.1)] → W p l e (rmW 3 81) s m args below meth c H locs 0 0 (MQ below (qvW D w σ') args s 0 0 (AL w)) (F0 m 32 ls [])) (X := fun rr => f_X7_passHour_k1 a1 rr = some σ') ?_ _ _ rr hlp hf _ _ _ hP hS (lv_sub hl [1, 2, 0] rfl)
    rintro ⟨x2_32, σ_32⟩ oo32 hb9 hG32 hX32 H locs ls hP hS hl
    have hP : va_P D vwCl (WL w σ_32) H := hP
    have hl : lv_has ls 3 [(0, .ref (w.1 (184))), (1, .ref (w.1 (a1))), (2, .int x2_32)] := hl
    have hf : f_X7_passHour_b2 a1 x2_32 σ_32 = some oo32 := hb9
    unfold f_X7_passHour_b2 at hf
    refine lv_iload_n hx hb dX7_passHour_32 rfl (lv_at hl 2 rfl) ?_
    refine lv_aload_n hx hb dX7_passHour_33 rfl (lv_at hl 0 rfl) ?_
    refine gt_X7_20 hx hb hts hown hK hP dX7_passHour_34 ?_
    refine lv_iconst (v := (0 : Int32)) hx hb dX7_passHour_37 (by decide) ?_
    obtain ⟨v38, h38, hf⟩ := bnd hf
    refine q_iald hx hb hK hP isC188.o isC188.k h38 dX7_passHour_38 ?_
    refine lv_icmp_ge (tgt := 59) hx hb dX7_passHour_39 (by decide) (fun hc => ?_) (fun hc => ?_)
    · have hf := ifp hc hf
      obtain rfl := Option.some.inj hf
      exact hE32_59 σ_32 _ _ _ (hX32 _ rfl) hP hS (lv_sub hl [1] rfl)
    · have hf := ifn hc hf
      refine lv_aload_n hx hb dX7_passHour_42 rfl (lv_at hl 1 rfl) ?_
      refine lv_iconst (v := (0 : Int32)) hx hb dX7_passHour_43 (by decide) ?_
      refine lv_iload_n hx hb dX7_passHour_44 rfl (lv_at hl 2 rfl) ?_
      refine lv_iadd hx hb dX7_passHour_45 ?_
      refine lv_aload_n hx hb dX7_passHour_46 rfl (lv_at hl 0 rfl) ?_
      refine gt_X7_56 hx hb hts hown hK hP dX7_passHour_47 ?_
      refine lv_iload_n hx hb dX7_passHour_50 rfl (lv_at hl 2 rfl) ?_
      obtain ⟨v51, h51, hf⟩ := bnd hf
      refine q_iald hx hb hK hP isC200.o isC200.k h51 dX7_passHour_51 ?_
      obtain ⟨σ52, h52, hf⟩ := bnd hf
      refine q_iast hx hb hK hP hJ hS ha1.o ha1.k h52 dX7_passHour_52 (fun H locs hP hS => ?_)
      refine lv_iinc (v := (x2_32 + (1 : Int32))) (lv' := [(2, .int (x2_32 + (1 : Int32))), (0, .ref (w.1 (184))), (1, .ref (w.1 (a1)))]) hx hb dX7_passHour_53 hl (k := 2) rfl ii_1 (by decide) rfl (fun ls hl => ?_)
      refine lv_goto (tgt := 32) hx hb dX7_passHour_56 (by decide) ?_
      obtain rfl := Option.some.inj hf
      exact hG32 _ rfl _ _ _ hP hS (lv_sub hl [1, 2, 0] rfl)
  refine lp_ind (G := fun (st : (Int32 × Sg)) => ∀ (H : Heap) (locs : List Loc) (ls : Array Slot), va_P D vwCl (WL w st.2) H → va_S (AL w) s.heap H locs → lv_has ls 3 [(0, .ref (w.1 (184))), (1, .ref (w.1 (a1))), (2, .int st.1)] → W p l e (rmW 3 81) s m args below meth c H locs 0 0 (MQ below (qvW D w σ') args s 0 0 (AL w)) (F0 m 2 ls [])) (X := fun rr => f_X7_passHour_k2 a1 rr = some σ') ?_ _ _ rr hlp hf _ _ _ hP hS (lv_sub hl [1, 2, 0] rfl)
  rintro ⟨x2_2, σ_2⟩ oo2 hb9 hG2 hX2 H locs ls hP hS hl
  have hP : va_P D vwCl (WL w σ_2) H := hP
  have hl : lv_has ls 3 [(0, .ref (w.1 (184))), (1, .ref (w.1 (a1))), (2, .int x2_2)] := hl
  have hf : f_X7_passHour_b1 a1 x2_2 σ_2 = some oo2 := hb9
  unfold f_X7_passHour_b1 at hf
  refine lv_iload_n hx hb dX7_passHour_2 rfl (lv_at hl 2 rfl) ?_
  refine lv_aload_n hx hb dX7_passHour_3 rfl (lv_at hl 0 rfl) ?_
  refine gt_X7_20 hx hb hts hown hK hP dX7_passHour_4 ?_
  refine lv_iconst (v := (0 : Int32)) hx hb dX7_passHour_7 (by decide) ?_
  obtain ⟨v8, h8, hf⟩ := bnd hf
  refine q_iald hx hb hK hP isC188.o isC188.k h8 dX7_passHour_8 ?_
  refine lv_icmp_ge (tgt := 30) hx hb dX7_passHour_9 (by decide) (fun hc => ?_) (fun hc => ?_)
  · have hf := ifp hc hf
    obtain rfl := Option.some.inj hf
    exact hE2_30 σ_2 _ _ _ (hX2 _ rfl) hP hS (lv_sub hl [0, 1] rfl)
  · have hf := ifn hc hf
    refine lv_aload_n hx hb dX7_passHour_12 rfl (lv_at hl 0 rfl) ?_
    refine gt_X7_56 hx hb hts hown hK hP dX7_passHour_13 ?_
    refine lv_iload_n hx hb dX7_passHour_16 rfl (lv_at hl 2 rfl) ?_
    refine lv_aload_n hx hb dX7_passHour_17 rfl (lv_at hl 0 rfl) ?_
    refine lv_aload_n hx hb dX7_passHour_18 rfl (lv_at hl 1 rfl) ?_
    refine lv_iload_n hx hb dX7_passHour_19 rfl (lv_at hl 2 rfl) ?_
    obtain ⟨v20, h20, hf⟩ := bnd hf
    refine q_cVi (As := [.ref (w.1 (a1)), .int x2_2]) hx hb hts hml hown hK hP hS (c_X7_goesTo l D w σ_2 (a1) x2_2 v20 ha1 h20) hw_X7_195 hd_X7_goesTo ⟨rfl, rfl, rfl⟩ o184 (ce7 kd184) rfl ⟨Nat.le_of_ble_eq_true rfl, Nat.le_of_ble_eq_true rfl⟩ ⟨Nat.le_of_ble_eq_true rfl, Nat.le_of_ble_eq_true rfl⟩ hl.1 rfl (Nat.le_of_ble_eq_true rfl) dX7_passHour_20 (fun H locs hP hS => ?_)
    obtain ⟨σ23, h23, hf⟩ := bnd hf
    refine q_iast hx hb hK hP hJ hS isC200.o isC200.k h23 dX7_passHour_23 (fun H locs hP hS => ?_)
    refine lv_iinc (v := (x2_2 + (1 : Int32))) (lv' := [(2, .int (x2_2 + (1 : Int32))), (0, .ref (w.1 (184))), (1, .ref (w.1 (a1)))]) hx hb dX7_passHour_24 hl (k := 2) rfl ii_1 (by decide) rfl (fun ls hl => ?_)
    refine lv_goto (tgt := 2) hx hb dX7_passHour_27 (by decide) ?_
    obtain rfl := Option.some.inj hf
    exact hG2 _ rfl _ _ _ hP hS (lv_sub hl [1, 2, 0] rfl)
def f_X7_passYear_b1 (a1 : Nat) (x2_4 : Int32) (x3_4 : Int32) (σ_4 : Sg) : Option ((Int32 × Int32 × Sg) ⊕ (Int32 × Sg)) :=
  (ga (σ_4 (187)) (ln (187)) (0 : Int32)).bind fun v10 =>
  if v10 ≤ x3_4 then
  some (.inr (x2_4, σ_4))
  else
  (ga (σ_4 (a1)) (ln (a1)) ((71 : Int32) + x3_4)).bind fun v19 =>
  if v19 = (-4 : Int32) then
  some (.inl (x2_4, (x3_4 + (1 : Int32)), σ_4))
  else
  (ga (σ_4 (a1)) (ln (a1)) ((77 : Int32) + x3_4)).bind fun v31 =>
  (sa σ_4 (a1) (ln (a1)) ((77 : Int32) + x3_4) (v31 + (1 : Int32))).bind fun σ34 =>
  (ga (σ34 (a1)) (ln (a1)) ((77 : Int32) + x3_4)).bind fun v40 =>
  if ¬ v40 = (60 : Int32) then
  some (.inl (x2_4, (x3_4 + (1 : Int32)), σ34))
  else
  (sa σ34 (a1) (ln (a1)) ((71 : Int32) + x3_4) (-4 : Int32)).bind fun σ53 =>
  some (.inl ((x2_4 + (1 : Int32)), (x3_4 + (1 : Int32)), σ53))
def f_X7_passYear_k1 (a1 : Nat) (y2_63 : Int32) (σ_63 : Sg) : Option (Int32 × Sg) :=
  (ga (σ_63 (a1)) (ln (a1)) (6 : Int32)).bind fun v67 =>
  (sa σ_63 (a1) (ln (a1)) (6 : Int32) (v67 + (1 : Int32))).bind fun σ70 =>
  some (y2_63, σ70)
def f_X7_passYear (σ : Sg) (a1 : Nat) : Option (Int32 × Sg) :=
  (lp (fun st => f_X7_passYear_b1 a1 st.1 st.2.1 st.2.2) FU ((0 : Int32), (0 : Int32), σ)).bind fun rr => f_X7_passYear_k1 a1 rr.1 rr.2
set_option maxHeartbeats 4000000 in
set_option maxRecDepth 100000 in
theorem c_X7_passYear (l : Launch) (D : va_G) (w : Wv) (σ : Sg) (a1 : Nat) (r : Int32) (σ' : Sg) (ha1 : isC a1) (hJ : Inj w) (hf : f_X7_passYear σ a1 = some (r, σ')) : Met l yX7_passYear (.code yX7_passYear cX7_passYear 4 (some .int) :: TB) (rmW 0 0) (pcW D w [.ref (w.1 (184)), .ref (w.1 (a1))] σ) (qiW D w r σ') 0 0 (AL w) := by
  refine q_open (by decide +kernel) (Nat.le_of_ble_eq_true rfl) ?_
  intro p e s m args below meth c ls hx hb hml hr hlk hown hts hK hP hS hl
  have hown : s.vm.findClass RX7 = some m.cls := hown
  have hl : lv_has ls 4 [(0, .ref (w.1 (184))), (1, .ref (w.1 (a1)))] := hl
  unfold f_X7_passYear at hf
  refine lv_iconst (v := (0 : Int32)) hx hb dX7_passYear_0 (by decide) ?_
  refine lv_istore_n (lv' := [(2, .int (0 : Int32)), (0, .ref (w.1 (184))), (1, .ref (w.1 (a1)))]) hx hb dX7_passYear_1 rfl hl (by decide) rfl (fun ls hl => ?_)
  refine lv_iconst (v := (0 : Int32)) hx hb dX7_passYear_2 (by decide) ?_
  refine lv_istore_n (lv' := [(3, .int (0 : Int32)), (2, .int (0 : Int32)), (0, .ref (w.1 (184))), (1, .ref (w.1 (a1)))]) hx hb dX7_passYear_3 rfl hl (by decide) rfl (fun ls hl => ?_)
  obtain ⟨rr, hlp, hf⟩ := bnd hf
  have hE4_63 : ∀ (y2_63 : Int32) (σ_63 : Sg) (H : Heap) (locs : List Loc) (ls : Array Slot), f_X7_passYear_k1 a1 y2_63 σ_63 = some (r, σ') → va_P D vwCl (WL w σ_63) H → va_S (AL w) s.heap H locs → lv_has ls 4 [(1, .ref (w.1 (a1))), (2, .int y2_63)] → W p l e (rmW 0 0) s m args below meth c H locs 0 0 (MQ below (qiW D w r σ') args s 0 0 (AL w)) (F0 m 63 ls []) := by
    intro y2_63 σ_63 H locs ls hf hP hS hl
    unfold f_X7_passYear_k1 at hf
    refine lv_aload_n hx hb dX7_passYear_63 rfl (lv_at hl 0 rfl) ?_
    refine lv_bipush (v := (6 : Int32)) hx hb dX7_passYear_64 (by decide) ?_
    refine lv_dup2_11 hx hb dX7_passYear_66 rfl rfl ?_
    obtain ⟨v67, h67, hf⟩ := bnd hf
    refine q_iald hx hb hK hP ha1.o ha1.k h67 dX7_passYear_67 ?_
    refine lv_iconst (v := (1 : Int32)) hx hb dX7_passYear_68 (by decide) ?_
    refine lv_iadd hx hb dX7_passYear_69 ?_
    obtain ⟨σ70, h70, hf⟩ := bnd hf
    refine q_iast hx hb hK hP hJ hS ha1.o ha1.k h70 dX7_passYear_70 (fun H locs hP hS => ?_)
    refine lv_iload_n hx hb dX7_passYear_71 rfl (lv_at hl 1 rfl) ?_
    have hq := Option.some.inj hf
    exact q_iret hx hb hr hlk hP hS (congrArg Prod.fst hq) (congrArg Prod.snd hq) dX7_passYear_72
  refine lp_ind (G := fun (st : (Int32 × Int32 × Sg)) => ∀ (H : Heap) (locs : List Loc) (ls : Array Slot), va_P D vwCl (WL w st.2.2) H → va_S (AL w) s.heap H locs → lv_has ls 4 [(0, .ref (w.1 (184))), (1, .ref (w.1 (a1))), (2, .int st.1), (3, .int st.2.1)] → W p l e (rmW 0 0) s m args below meth c H locs 0 0 (MQ below (qiW D w r σ') args s 0 0 (AL w)) (F0 m 4 ls [])) (X := fun rr => f_X7_passYear_k1 a1 rr.1 rr.2 = some (r, σ')) ?_ _ _ rr hlp hf _ _ _ hP hS (lv_sub hl [2, 3, 1, 0] rfl)
  rintro ⟨x2_4, x3_4, σ_4⟩ oo4 hb9 hG4 hX4 H locs ls hP hS hl
  have hP : va_P D vwCl (WL w σ_4) H := hP
  have hl : lv_has ls 4 [(0, .ref (w.1 (184))), (1, .ref (w.1 (a1))), (2, .int x2_4), (3, .int x3_4)] := hl
  have hf : f_X7_passYear_b1 a1 x2_4 x3_4 σ_4 = some oo4 := hb9
  unfold f_X7_passYear_b1 at hf
  refine lv_iload_n hx hb dX7_passYear_4 rfl (lv_at hl 3 rfl) ?_
  refine lv_aload_n hx hb dX7_passYear_5 rfl (lv_at hl 0 rfl) ?_
  refine gt_X7_17 hx hb hts hown hK hP dX7_passYear_6 ?_
  refine lv_iconst (v := (0 : Int32)) hx hb dX7_passYear_9 (by decide) ?_
  obtain ⟨v10, h10, hf⟩ := bnd hf
  refine q_iald hx hb hK hP isC187.o isC187.k h10 dX7_passYear_10 ?_
  refine lv_icmp_ge (tgt := 63) hx hb dX7_passYear_11 (by decide) (fun hc => ?_) (fun hc => ?_)
  · have hf := ifp hc hf
    obtain rfl := Option.some.inj hf
    exact hE4_63 x2_4 σ_4 _ _ _ (hX4 _ rfl) hP hS (lv_sub hl [1, 2] rfl)
  · have hf := ifn hc hf
    refine lv_aload_n hx hb dX7_passYear_14 rfl (lv_at hl 1 rfl) ?_
    refine lv_bipush (v := (71 : Int32)) hx hb dX7_passYear_15 (by decide) ?_
    refine lv_iload_n hx hb dX7_passYear_17 rfl (lv_at hl 3 rfl) ?_
    refine lv_iadd hx hb dX7_passYear_18 ?_
    obtain ⟨v19, h19, hf⟩ := bnd hf
    refine q_iald hx hb hK hP ha1.o ha1.k h19 dX7_passYear_19 ?_
    refine lv_bipush (v := (-4 : Int32)) hx hb dX7_passYear_20 (by decide) ?_
    refine lv_icmp_eq (tgt := 57) hx hb dX7_passYear_22 (by decide) (fun hc => ?_) (fun hc => ?_)
    · have hf := ifp hc hf
      refine lv_iinc (v := (x3_4 + (1 : Int32))) (lv' := [(3, .int (x3_4 + (1 : Int32))), (0, .ref (w.1 (184))), (1, .ref (w.1 (a1))), (2, .int x2_4)]) hx hb dX7_passYear_57 hl (k := 3) rfl ii_1 (by decide) rfl (fun ls hl => ?_)
      refine lv_goto (tgt := 4) hx hb dX7_passYear_60 (by decide) ?_
      obtain rfl := Option.some.inj hf
      exact hG4 _ rfl _ _ _ hP hS (lv_sub hl [1, 2, 3, 0] rfl)
    · have hf := ifn hc hf
      refine lv_aload_n hx hb dX7_passYear_25 rfl (lv_at hl 1 rfl) ?_
      refine lv_bipush (v := (77 : Int32)) hx hb dX7_passYear_26 (by decide) ?_
      refine lv_iload_n hx hb dX7_passYear_28 rfl (lv_at hl 3 rfl) ?_
      refine lv_iadd hx hb dX7_passYear_29 ?_
      refine lv_dup2_11 hx hb dX7_passYear_30 rfl rfl ?_
      obtain ⟨v31, h31, hf⟩ := bnd hf
      refine q_iald hx hb hK hP ha1.o ha1.k h31 dX7_passYear_31 ?_
      refine lv_iconst (v := (1 : Int32)) hx hb dX7_passYear_32 (by decide) ?_
      refine lv_iadd hx hb dX7_passYear_33 ?_
      obtain ⟨σ34, h34, hf⟩ := bnd hf
      refine q_iast hx hb hK hP hJ hS ha1.o ha1.k h34 dX7_passYear_34 (fun H locs hP hS => ?_)
      refine lv_aload_n hx hb dX7_passYear_35 rfl (lv_at hl 1 rfl) ?_
      refine lv_bipush (v := (77 : Int32)) hx hb dX7_passYear_36 (by decide) ?_
      refine lv_iload_n hx hb dX7_passYear_38 rfl (lv_at hl 3 rfl) ?_
      refine lv_iadd hx hb dX7_passYear_39 ?_
      obtain ⟨v40, h40, hf⟩ := bnd hf
      refine q_iald hx hb hK hP ha1.o ha1.k h40 dX7_passYear_40 ?_
      refine lv_bipush (v := (60 : Int32)) hx hb dX7_passYear_41 (by decide) ?_
      refine lv_icmp_ne (tgt := 57) hx hb dX7_passYear_43 (by decide) (fun hc => ?_) (fun hc => ?_)
      · have hf := ifp hc hf
        refine lv_iinc (v := (x3_4 + (1 : Int32))) (lv' := [(3, .int (x3_4 + (1 : Int32))), (0, .ref (w.1 (184))), (1, .ref (w.1 (a1))), (2, .int x2_4)]) hx hb dX7_passYear_57 hl (k := 3) rfl ii_1 (by decide) rfl (fun ls hl => ?_)
        refine lv_goto (tgt := 4) hx hb dX7_passYear_60 (by decide) ?_
        obtain rfl := Option.some.inj hf
        exact hG4 _ rfl _ _ _ hP hS (lv_sub hl [1, 2, 3, 0] rfl)
      · have hf := ifn (fun h => h hc) hf
        refine lv_aload_n hx hb dX7_passYear_46 rfl (lv_at hl 1 rfl) ?_
        refine lv_bipush (v := (71 : Int32)) hx hb dX7_passYear_47 (by decide) ?_
        refine lv_iload_n hx hb dX7_passYear_49 rfl (lv_at hl 3 rfl) ?_
        refine lv_iadd hx hb dX7_passYear_50 ?_
        refine lv_bipush (v := (-4 : Int32)) hx hb dX7_passYear_51 (by decide) ?_
        obtain ⟨σ53, h53, hf⟩ := bnd hf
        refine q_iast hx hb hK hP hJ hS ha1.o ha1.k h53 dX7_passYear_53 (fun H locs hP hS => ?_)
        refine lv_iinc (v := (x2_4 + (1 : Int32))) (lv' := [(2, .int (x2_4 + (1 : Int32))), (0, .ref (w.1 (184))), (1, .ref (w.1 (a1))), (3, .int x3_4)]) hx hb dX7_passYear_54 hl (k := 2) rfl ii_1 (by decide) rfl (fun ls hl => ?_)
        refine lv_iinc (v := (x3_4 + (1 : Int32))) (lv' := [(3, .int (x3_4 + (1 : Int32))), (2, .int (x2_4 + (1 : Int32))), (0, .ref (w.1 (184))), (1, .ref (w.1 (a1)))]) hx hb dX7_passYear_57 hl (k := 3) rfl ii_1 (by decide) rfl (fun ls hl => ?_)
        refine lv_goto (tgt := 4) hx hb dX7_passYear_60 (by decide) ?_
        obtain rfl := Option.some.inj hf
        exact hG4 _ rfl _ _ _ hP hS (lv_sub hl [2, 3, 1, 0] rfl)
def f_X7_comeTo_b1 (σ : Sg) (a1 : Nat) (x2_4 : Int32) (x3_4 : Int32) : Option ((Int32 × Int32) ⊕ Int32) :=
  (ga (σ (188)) (ln (188)) (0 : Int32)).bind fun v10 =>
  if v10 ≤ x3_4 then
  some (.inr x2_4)
  else
  (ga (σ (a1)) (ln (a1)) ((0 : Int32) + x3_4)).bind fun v19 =>
  (ga (σ (190)) (ln (190)) x3_4).bind fun v25 =>
  if ¬ v19 = v25 then
  some (.inl ((x2_4 + (0 : Int32)), (x3_4 + (1 : Int32))))
  else
  some (.inl ((x2_4 + (1 : Int32)), (x3_4 + (1 : Int32))))
def f_X7_comeTo_k1 (y2_42 : Int32) : Option Int32 :=
  some y2_42
def f_X7_comeTo (σ : Sg) (a1 : Nat) : Option Int32 :=
  (lp (fun st => f_X7_comeTo_b1 σ a1 st.1 st.2) FU ((0 : Int32), (0 : Int32))).bind fun rr => f_X7_comeTo_k1 rr
set_option maxHeartbeats 4000000 in
set_option maxRecDepth 100000 in
theorem c_X7_comeTo (l : Launch) (D : va_G) (w : Wv) (σ : Sg) (a1 : Nat) (r : Int32) (ha1 : isC a1) (hf : f_X7_comeTo σ a1 = some r) : Met l yX7_comeTo (.code yX7_comeTo cX7_comeTo 4 (some .int) :: TB) (rmW 0 0) (pcW D w [.ref (w.1 (184)), .ref (w.1 (a1))] σ) (qiW D w r σ) 0 0 (AL w) := by
  refine q_open (by decide +kernel) (Nat.le_of_ble_eq_true rfl) ?_
  intro p e s m args below meth c ls hx hb hml hr hlk hown hts hK hP hS hl
  have hown : s.vm.findClass RX7 = some m.cls := hown
  have hl : lv_has ls 4 [(0, .ref (w.1 (184))), (1, .ref (w.1 (a1)))] := hl
  unfold f_X7_comeTo at hf
  refine lv_iconst (v := (0 : Int32)) hx hb dX7_comeTo_0 (by decide) ?_
  refine lv_istore_n (lv' := [(2, .int (0 : Int32)), (0, .ref (w.1 (184))), (1, .ref (w.1 (a1)))]) hx hb dX7_comeTo_1 rfl hl (by decide) rfl (fun ls hl => ?_)
  refine lv_iconst (v := (0 : Int32)) hx hb dX7_comeTo_2 (by decide) ?_
  refine lv_istore_n (lv' := [(3, .int (0 : Int32)), (2, .int (0 : Int32)), (0, .ref (w.1 (184))), (1, .ref (w.1 (a1)))]) hx hb dX7_comeTo_3 rfl hl (by decide) rfl (fun ls hl => ?_)
  obtain ⟨rr, hlp, hf⟩ := bnd hf
  have hE4_42 : ∀ (y2_42 : Int32) (H : Heap) (locs : List Loc) (ls : Array Slot), f_X7_comeTo_k1 y2_42 = some r → va_P D vwCl (WL w σ) H → va_S (AL w) s.heap H locs → lv_has ls 4 [(2, .int y2_42)] → W p l e (rmW 0 0) s m args below meth c H locs 0 0 (MQ below (qiW D w r σ) args s 0 0 (AL w)) (F0 m 42 ls []) := by
    intro y2_42 H locs ls hf hP hS hl
    unfold f_X7_comeTo_k1 at hf
    refine lv_iload_n hx hb dX7_comeTo_42 rfl (lv_at hl 0 rfl) ?_
    have hq := Option.some.inj hf
    exact q_iret hx hb hr hlk hP hS hq rfl dX7_comeTo_43
  refine lp_ind (G := fun (st : (Int32 × Int32)) => ∀ (H : Heap) (locs : List Loc) (ls : Array Slot), va_P D vwCl (WL w σ) H → va_S (AL w) s.heap H locs → lv_has ls 4 [(0, .ref (w.1 (184))), (1, .ref (w.1 (a1))), (2, .int st.1), (3, .int st.2)] → W p l e (rmW 0 0) s m args below meth c H locs 0 0 (MQ below (qiW D w r σ) args s 0 0 (AL w)) (F0 m 4 ls [])) (X := fun rr => f_X7_comeTo_k1 rr = some r) ?_ _ _ rr hlp hf _ _ _ hP hS (lv_sub hl [2, 3, 1, 0] rfl)
  rintro ⟨x2_4, x3_4⟩ oo4 hb9 hG4 hX4 H locs ls hP hS hl
  have hP : va_P D vwCl (WL w σ) H := hP
  have hl : lv_has ls 4 [(0, .ref (w.1 (184))), (1, .ref (w.1 (a1))), (2, .int x2_4), (3, .int x3_4)] := hl
  have hf : f_X7_comeTo_b1 σ a1 x2_4 x3_4 = some oo4 := hb9
  unfold f_X7_comeTo_b1 at hf
  refine lv_iload_n hx hb dX7_comeTo_4 rfl (lv_at hl 3 rfl) ?_
  refine lv_aload_n hx hb dX7_comeTo_5 rfl (lv_at hl 0 rfl) ?_
  refine gt_X7_20 hx hb hts hown hK hP dX7_comeTo_6 ?_
  refine lv_iconst (v := (0 : Int32)) hx hb dX7_comeTo_9 (by decide) ?_
  obtain ⟨v10, h10, hf⟩ := bnd hf
  refine q_iald hx hb hK hP isC188.o isC188.k h10 dX7_comeTo_10 ?_
  refine lv_icmp_ge (tgt := 42) hx hb dX7_comeTo_11 (by decide) (fun hc => ?_) (fun hc => ?_)
  · have hf := ifp hc hf
    obtain rfl := Option.some.inj hf
    exact hE4_42 x2_4 _ _ _ (hX4 _ rfl) hP hS (lv_sub hl [2] rfl)
  · have hf := ifn hc hf
    refine lv_iload_n hx hb dX7_comeTo_14 rfl (lv_at hl 2 rfl) ?_
    refine lv_aload_n hx hb dX7_comeTo_15 rfl (lv_at hl 1 rfl) ?_
    refine lv_iconst (v := (0 : Int32)) hx hb dX7_comeTo_16 (by decide) ?_
    refine lv_iload_n hx hb dX7_comeTo_17 rfl (lv_at hl 3 rfl) ?_
    refine lv_iadd hx hb dX7_comeTo_18 ?_
    obtain ⟨v19, h19, hf⟩ := bnd hf
    refine q_iald hx hb hK hP ha1.o ha1.k h19 dX7_comeTo_19 ?_
    refine lv_aload_n hx hb dX7_comeTo_20 rfl (lv_at hl 0 rfl) ?_
    refine gt_X7_26 hx hb hts hown hK hP dX7_comeTo_21 ?_
    refine lv_iload_n hx hb dX7_comeTo_24 rfl (lv_at hl 3 rfl) ?_
    obtain ⟨v25, h25, hf⟩ := bnd hf
    refine q_iald hx hb hK hP isC190.o isC190.k h25 dX7_comeTo_25 ?_
    refine lv_icmp_ne (tgt := 33) hx hb dX7_comeTo_26 (by decide) (fun hc => ?_) (fun hc => ?_)
    · have hf := ifp hc hf
      refine lv_iconst (v := (0 : Int32)) hx hb dX7_comeTo_33 (by decide) ?_
      refine lv_iadd hx hb dX7_comeTo_34 ?_
      refine lv_istore_n (lv' := [(2, .int (x2_4 + (0 : Int32))), (0, .ref (w.1 (184))), (1, .ref (w.1 (a1))), (3, .int x3_4)]) hx hb dX7_comeTo_35 rfl hl (by decide) rfl (fun ls hl => ?_)
      refine lv_iinc (v := (x3_4 + (1 : Int32))) (lv' := [(3, .int (x3_4 + (1 : Int32))), (2, .int (x2_4 + (0 : Int32))), (0, .ref (w.1 (184))), (1, .ref (w.1 (a1)))]) hx hb dX7_comeTo_36 hl (k := 3) rfl ii_1 (by decide) rfl (fun ls hl => ?_)
      refine lv_goto (tgt := 4) hx hb dX7_comeTo_39 (by decide) ?_
      obtain rfl := Option.some.inj hf
      exact hG4 _ rfl _ _ _ hP hS (lv_sub hl [2, 3, 1, 0] rfl)
    · have hf := ifn (fun h => h hc) hf
      refine lv_iconst (v := (1 : Int32)) hx hb dX7_comeTo_29 (by decide) ?_
      refine lv_goto (tgt := 34) hx hb dX7_comeTo_30 (by decide) ?_
      refine lv_iadd hx hb dX7_comeTo_34 ?_
      refine lv_istore_n (lv' := [(2, .int (x2_4 + (1 : Int32))), (0, .ref (w.1 (184))), (1, .ref (w.1 (a1))), (3, .int x3_4)]) hx hb dX7_comeTo_35 rfl hl (by decide) rfl (fun ls hl => ?_)
      refine lv_iinc (v := (x3_4 + (1 : Int32))) (lv' := [(3, .int (x3_4 + (1 : Int32))), (2, .int (x2_4 + (1 : Int32))), (0, .ref (w.1 (184))), (1, .ref (w.1 (a1)))]) hx hb dX7_comeTo_36 hl (k := 3) rfl ii_1 (by decide) rfl (fun ls hl => ?_)
      refine lv_goto (tgt := 4) hx hb dX7_comeTo_39 (by decide) ?_
      obtain rfl := Option.some.inj hf
      exact hG4 _ rfl _ _ _ hP hS (lv_sub hl [2, 3, 1, 0] rfl)
def f_X7_comeBy_b1 (x1_10 : Int32) (σ_10 : Sg) : Option ((Int32 × Sg) ⊕ Sg) :=
  if (40 : Int32) ≤ x1_10 then
  some (.inr σ_10)
  else
  (f_X7_passHour σ_10 (198)).bind fun σ21 =>
  some (.inl ((x1_10 + (1 : Int32)), σ21))
def f_X7_comeBy_k1 (σ_30 : Sg) : Option (Int32 × Sg) :=
  (f_X7_comeTo σ_30 (198)).bind fun v35 =>
  some (v35, σ_30)
def f_X7_comeBy (σ : Sg)  : Option (Int32 × Sg) :=
  (f_X7_measure σ (198)).bind fun σ5 =>
  (lp (fun st => f_X7_comeBy_b1  st.1 st.2) FU ((0 : Int32), σ5)).bind fun rr => f_X7_comeBy_k1 rr
set_option maxHeartbeats 4000000 in
set_option maxRecDepth 100000 in
theorem c_X7_comeBy (l : Launch) (D : va_G) (w : Wv) (σ : Sg)  (r : Int32) (σ' : Sg)  (hJ : Inj w) (hf : f_X7_comeBy σ = some (r, σ')) : Met l yX7_comeBy (.code yX7_comeBy cX7_comeBy 2 (some .int) :: TB) (rmW 4 103) (pcW D w [.ref (w.1 (184))] σ) (qiW D w r σ') 0 0 (AL w) := by
  refine q_open (by decide +kernel) (Nat.le_of_ble_eq_true rfl) ?_
  intro p e s m args below meth c ls hx hb hml hr hlk hown hts hK hP hS hl
  have hown : s.vm.findClass RX7 = some m.cls := hown
  have hl : lv_has ls 2 [(0, .ref (w.1 (184)))] := hl
  unfold f_X7_comeBy at hf
  refine lv_aload_n hx hb dX7_comeBy_0 rfl (lv_at hl 0 rfl) ?_
  refine lv_aload_n hx hb dX7_comeBy_1 rfl (lv_at hl 0 rfl) ?_
  refine gt_X7_50 hx hb hts hown hK hP dX7_comeBy_2 ?_
  obtain ⟨σ5, h5, hf⟩ := bnd hf
  refine q_cVv (As := [.ref (w.1 (198))]) hx hb hts hml hown hK hP hS (c_X7_measure l D w σ (198) σ5 isC198 hJ h5) hw_X7_146 hd_X7_measure ⟨rfl, rfl, rfl⟩ o184 (ce7 kd184) rfl ⟨Nat.le_of_ble_eq_true rfl, Nat.le_of_ble_eq_true rfl⟩ ⟨Nat.le_of_ble_eq_true rfl, Nat.le_of_ble_eq_true rfl⟩ hl.1 rfl (Nat.le_of_ble_eq_true rfl) dX7_comeBy_5 (fun H locs hP hS => ?_)
  refine lv_iconst (v := (0 : Int32)) hx hb dX7_comeBy_8 (by decide) ?_
  refine lv_istore_n (lv' := [(1, .int (0 : Int32)), (0, .ref (w.1 (184)))]) hx hb dX7_comeBy_9 rfl hl (by decide) rfl (fun ls hl => ?_)
  obtain ⟨rr, hlp, hf⟩ := bnd hf
  have hE10_30 : ∀ (σ_30 : Sg) (H : Heap) (locs : List Loc) (ls : Array Slot), f_X7_comeBy_k1 σ_30 = some (r, σ') → va_P D vwCl (WL w σ_30) H → va_S (AL w) s.heap H locs → lv_has ls 2 [(0, .ref (w.1 (184)))] → W p l e (rmW 4 103) s m args below meth c H locs 0 0 (MQ below (qiW D w r σ') args s 0 0 (AL w)) (F0 m 30 ls []) := by
    intro σ_30 H locs ls hf hP hS hl
    unfold f_X7_comeBy_k1 at hf
    refine lv_aload_n hx hb dX7_comeBy_30 rfl (lv_at hl 0 rfl) ?_
    refine lv_aload_n hx hb dX7_comeBy_31 rfl (lv_at hl 0 rfl) ?_
    refine gt_X7_50 hx hb hts hown hK hP dX7_comeBy_32 ?_
    obtain ⟨v35, h35, hf⟩ := bnd hf
    refine q_cVi (As := [.ref (w.1 (198))]) hx hb hts hml hown hK hP hS (c_X7_comeTo l D w σ_30 (198) v35 isC198 h35) hw_X7_201 hd_X7_comeTo ⟨rfl, rfl, rfl⟩ o184 (ce7 kd184) rfl ⟨Nat.le_of_ble_eq_true rfl, Nat.le_of_ble_eq_true rfl⟩ ⟨Nat.le_of_ble_eq_true rfl, Nat.le_of_ble_eq_true rfl⟩ hl.1 rfl (Nat.le_of_ble_eq_true rfl) dX7_comeBy_35 (fun H locs hP hS => ?_)
    have hq := Option.some.inj hf
    exact q_iret hx hb hr hlk hP hS (congrArg Prod.fst hq) (congrArg Prod.snd hq) dX7_comeBy_38
  refine lp_ind (G := fun (st : (Int32 × Sg)) => ∀ (H : Heap) (locs : List Loc) (ls : Array Slot), va_P D vwCl (WL w st.2) H → va_S (AL w) s.heap H locs → lv_has ls 2 [(0, .ref (w.1 (184))), (1, .int st.1)] → W p l e (rmW 4 103) s m args below meth c H locs 0 0 (MQ below (qiW D w r σ') args s 0 0 (AL w)) (F0 m 10 ls [])) (X := fun rr => f_X7_comeBy_k1 rr = some (r, σ')) ?_ _ _ rr hlp hf _ _ _ hP hS (lv_sub hl [1, 0] rfl)
  rintro ⟨x1_10, σ_10⟩ oo10 hb9 hG10 hX10 H locs ls hP hS hl
  have hP : va_P D vwCl (WL w σ_10) H := hP
  have hl : lv_has ls 2 [(0, .ref (w.1 (184))), (1, .int x1_10)] := hl
  have hf : f_X7_comeBy_b1  x1_10 σ_10 = some oo10 := hb9
  unfold f_X7_comeBy_b1 at hf
  refine lv_iload_n hx hb dX7_comeBy_10 rfl (lv_at hl 1 rfl) ?_
  refine lv_bipush (v := (40 : Int32)) hx hb dX7_comeBy_11 (by decide) ?_
  refine lv_icmp_ge (tgt := 30) hx hb dX7_comeBy_13 (by decide) (fun hc => ?_) (fun hc => ?_)
  · have hf := ifp hc hf
    obtain rfl := Option.some.inj hf
    exact hE10_30 σ_10 _ _ _ (hX10 _ rfl) hP hS (lv_sub hl [0] rfl)
  · have hf := ifn hc hf
    refine lv_aload_n hx hb dX7_comeBy_16 rfl (lv_at hl 0 rfl) ?_
    refine lv_aload_n hx hb dX7_comeBy_17 rfl (lv_at hl 0 rfl) ?_
    refine gt_X7_50 hx hb hts hown hK hP dX7_comeBy_18 ?_
    obtain ⟨σ21, h21, hf⟩ := bnd hf
    refine q_cVv (As := [.ref (w.1 (198))]) hx hb hts hml hown hK hP hS (c_X7_passHour l D w σ_10 (198) σ21 isC198 hJ h21) hw_X7_198 hd_X7_passHour ⟨rfl, rfl, rfl⟩ o184 (ce7 kd184) rfl ⟨Nat.le_of_ble_eq_true rfl, Nat.le_of_ble_eq_true rfl⟩ ⟨Nat.le_of_ble_eq_true rfl, Nat.le_of_ble_eq_true rfl⟩ hl.1 rfl (Nat.le_of_ble_eq_true rfl) dX7_comeBy_21 (fun H locs hP hS => ?_)
    refine lv_iinc (v := (x1_10 + (1 : Int32))) (lv' := [(1, .int (x1_10 + (1 : Int32))), (0, .ref (w.1 (184)))]) hx hb dX7_comeBy_24 hl (k := 1) rfl ii_1 (by decide) rfl (fun ls hl => ?_)
    refine lv_goto (tgt := 10) hx hb dX7_comeBy_27 (by decide) ?_
    obtain rfl := Option.some.inj hf
    exact hG10 _ rfl _ _ _ hP hS (lv_sub hl [1, 0] rfl)
def f_X7_roadsOf_b1 (σ : Sg) (a1 : Nat) (a2 : Int32) (x3_4 : Int32) (x2_15 : Int32) (x4_15 : Int32) : Option ((Int32 × Int32) ⊕ Int32) :=
  if (8 : Int32) ≤ x4_15 then
  some (.inr x2_15)
  else
  (ga (σ (a1)) (ln (a1)) (((7 : Int32) + ((8 : Int32) * x3_4)) + x4_15)).bind fun v33 =>
  if a2 = 0 then
  if v33 ≤ 0 then
  some (.inl ((x2_15 + (0 : Int32)), (x4_15 + (1 : Int32))))
  else
  some (.inl ((x2_15 + (1 : Int32)), (x4_15 + (1 : Int32))))
  else
  some (.inl ((x2_15 + v33), (x4_15 + (1 : Int32))))
def f_X7_roadsOf_k1 (x3_4 : Int32) (y2_64 : Int32) : Option ((Int32 × Int32) ⊕ Int32) :=
  some (.inl (y2_64, (x3_4 + (1 : Int32))))
def f_X7_roadsOf_b2 (σ : Sg) (a1 : Nat) (a2 : Int32) (x2_4 : Int32) (x3_4 : Int32) : Option ((Int32 × Int32) ⊕ Int32) :=
  if (8 : Int32) ≤ x3_4 then
  some (.inr x2_4)
  else
  (lp (fun st => f_X7_roadsOf_b1 σ a1 a2 x3_4 st.1 st.2) FU (x2_4, (x3_4 + (1 : Int32)))).bind fun rr => f_X7_roadsOf_k1 x3_4 rr
def f_X7_roadsOf_k2 (y2_70 : Int32) : Option Int32 :=
  some y2_70
def f_X7_roadsOf (σ : Sg) (a1 : Nat) (a2 : Int32) : Option Int32 :=
  (lp (fun st => f_X7_roadsOf_b2 σ a1 a2 st.1 st.2) FU ((0 : Int32), (0 : Int32))).bind fun rr => f_X7_roadsOf_k2 rr
set_option maxHeartbeats 4000000 in
set_option maxRecDepth 100000 in
theorem c_X7_roadsOf (l : Launch) (D : va_G) (w : Wv) (σ : Sg) (a1 : Nat) (a2 : Int32) (r : Int32) (ha1 : isC a1) (hf : f_X7_roadsOf σ a1 a2 = some r) : Met l yX7_roadsOf (.code yX7_roadsOf cX7_roadsOf 6 (some .int) :: TB) (rmW 0 0) (pcW D w [.ref (w.1 (a1)), .int a2] σ) (qiW D w r σ) 0 0 (AL w) := by
  refine q_open (by decide +kernel) (Nat.le_of_ble_eq_true rfl) ?_
  intro p e s m args below meth c ls hx hb hml hr hlk hown hts hK hP hS hl
  have hown : s.vm.findClass RX7 = some m.cls := hown
  have hl : lv_has ls 6 [(0, .ref (w.1 (a1))), (1, .int a2)] := hl
  unfold f_X7_roadsOf at hf
  refine lv_iconst (v := (0 : Int32)) hx hb dX7_roadsOf_0 (by decide) ?_
  refine lv_istore_n (lv' := [(2, .int (0 : Int32)), (0, .ref (w.1 (a1))), (1, .int a2)]) hx hb dX7_roadsOf_1 rfl hl (by decide) rfl (fun ls hl => ?_)
  refine lv_iconst (v := (0 : Int32)) hx hb dX7_roadsOf_2 (by decide) ?_
  refine lv_istore_n (lv' := [(3, .int (0 : Int32)), (2, .int (0 : Int32)), (0, .ref (w.1 (a1))), (1, .int a2)]) hx hb dX7_roadsOf_3 rfl hl (by decide) rfl (fun ls hl => ?_)
  obtain ⟨rr, hlp, hf⟩ := bnd hf
  have hE4_70 : ∀ (y2_70 : Int32) (H : Heap) (locs : List Loc) (ls : Array Slot), f_X7_roadsOf_k2 y2_70 = some r → va_P D vwCl (WL w σ) H → va_S (AL w) s.heap H locs → lv_has ls 6 [(2, .int y2_70)] → W p l e (rmW 0 0) s m args below meth c H locs 0 0 (MQ below (qiW D w r σ) args s 0 0 (AL w)) (F0 m 70 ls []) := by
    intro y2_70 H locs ls hf hP hS hl
    unfold f_X7_roadsOf_k2 at hf
    refine lv_iload_n hx hb dX7_roadsOf_70 rfl (lv_at hl 0 rfl) ?_
    have hq := Option.some.inj hf
    exact q_iret hx hb hr hlk hP hS hq rfl dX7_roadsOf_71
  refine lp_ind (G := fun (st : (Int32 × Int32)) => ∀ (H : Heap) (locs : List Loc) (ls : Array Slot), va_P D vwCl (WL w σ) H → va_S (AL w) s.heap H locs → lv_has ls 6 [(0, .ref (w.1 (a1))), (1, .int a2), (2, .int st.1), (3, .int st.2)] → W p l e (rmW 0 0) s m args below meth c H locs 0 0 (MQ below (qiW D w r σ) args s 0 0 (AL w)) (F0 m 4 ls [])) (X := fun rr => f_X7_roadsOf_k2 rr = some r) ?_ _ _ rr hlp hf _ _ _ hP hS (lv_sub hl [2, 3, 1, 0] rfl)
  rintro ⟨x2_4, x3_4⟩ oo4 hb9 hG4 hX4 H locs ls hP hS hl
  have hP : va_P D vwCl (WL w σ) H := hP
  have hl : lv_has ls 6 [(0, .ref (w.1 (a1))), (1, .int a2), (2, .int x2_4), (3, .int x3_4)] := hl
  have hf : f_X7_roadsOf_b2 σ a1 a2 x2_4 x3_4 = some oo4 := hb9
  unfold f_X7_roadsOf_b2 at hf
  refine lv_iload_n hx hb dX7_roadsOf_4 rfl (lv_at hl 3 rfl) ?_
  refine lv_bipush (v := (8 : Int32)) hx hb dX7_roadsOf_5 (by decide) ?_
  refine lv_icmp_ge (tgt := 70) hx hb dX7_roadsOf_7 (by decide) (fun hc => ?_) (fun hc => ?_)
  · have hf := ifp hc hf
    obtain rfl := Option.some.inj hf
    exact hE4_70 x2_4 _ _ _ (hX4 _ rfl) hP hS (lv_sub hl [2] rfl)
  · have hf := ifn hc hf
    refine lv_iload_n hx hb dX7_roadsOf_10 rfl (lv_at hl 3 rfl) ?_
    refine lv_iconst (v := (1 : Int32)) hx hb dX7_roadsOf_11 (by decide) ?_
    refine lv_iadd hx hb dX7_roadsOf_12 ?_
    refine lv_istore (lv' := [(4, .int (x3_4 + (1 : Int32))), (0, .ref (w.1 (a1))), (1, .int a2), (2, .int x2_4), (3, .int x3_4)]) hx hb dX7_roadsOf_13 hl (by decide) rfl (fun ls hl => ?_)
    obtain ⟨rr, hlp, hf⟩ := bnd hf
    have hE15_64 : ∀ (y2_64 : Int32) (H : Heap) (locs : List Loc) (ls : Array Slot), f_X7_roadsOf_k1 x3_4 y2_64 = some oo4 → va_P D vwCl (WL w σ) H → va_S (AL w) s.heap H locs → lv_has ls 6 [(0, .ref (w.1 (a1))), (1, .int a2), (2, .int y2_64), (3, .int x3_4)] → W p l e (rmW 0 0) s m args below meth c H locs 0 0 (MQ below (qiW D w r σ) args s 0 0 (AL w)) (F0 m 64 ls []) := by
      intro y2_64 H locs ls hf hP hS hl
      unfold f_X7_roadsOf_k1 at hf
      refine lv_iinc (v := (x3_4 + (1 : Int32))) (lv' := [(3, .int (x3_4 + (1 : Int32))), (0, .ref (w.1 (a1))), (1, .int a2), (2, .int y2_64)]) hx hb dX7_roadsOf_64 hl (k := 3) rfl ii_1 (by decide) rfl (fun ls hl => ?_)
      refine lv_goto (tgt := 4) hx hb dX7_roadsOf_67 (by decide) ?_
      obtain rfl := Option.some.inj hf
      exact hG4 _ rfl _ _ _ hP hS (lv_sub hl [1, 2, 3, 0] rfl)
    refine lp_ind (G := fun (st : (Int32 × Int32)) => ∀ (H : Heap) (locs : List Loc) (ls : Array Slot), va_P D vwCl (WL w σ) H → va_S (AL w) s.heap H locs → lv_has ls 6 [(0, .ref (w.1 (a1))), (1, .int a2), (2, .int st.1), (3, .int x3_4), (4, .int st.2)] → W p l e (rmW 0 0) s m args below meth c H locs 0 0 (MQ below (qiW D w r σ) args s 0 0 (AL w)) (F0 m 15 ls [])) (X := fun rr => f_X7_roadsOf_k1 x3_4 rr = some oo4) ?_ _ _ rr hlp hf _ _ _ hP hS (lv_sub hl [1, 2, 3, 4, 0] rfl)
    rintro ⟨x2_15, x4_15⟩ oo15 hb9 hG15 hX15 H locs ls hP hS hl
    have hP : va_P D vwCl (WL w σ) H := hP
    have hl : lv_has ls 6 [(0, .ref (w.1 (a1))), (1, .int a2), (2, .int x2_15), (3, .int x3_4), (4, .int x4_15)] := hl
    have hf : f_X7_roadsOf_b1 σ a1 a2 x3_4 x2_15 x4_15 = some oo15 := hb9
    unfold f_X7_roadsOf_b1 at hf
    refine lv_iload hx hb dX7_roadsOf_15 (lv_at hl 4 rfl) ?_
    refine lv_bipush (v := (8 : Int32)) hx hb dX7_roadsOf_17 (by decide) ?_
    refine lv_icmp_ge (tgt := 64) hx hb dX7_roadsOf_19 (by decide) (fun hc => ?_) (fun hc => ?_)
    · have hf := ifp hc hf
      obtain rfl := Option.some.inj hf
      exact hE15_64 x2_15 _ _ _ (hX15 _ rfl) hP hS (lv_sub hl [0, 1, 2, 3] rfl)
    · have hf := ifn hc hf
      refine lv_aload_n hx hb dX7_roadsOf_22 rfl (lv_at hl 0 rfl) ?_
      refine lv_bipush (v := (7 : Int32)) hx hb dX7_roadsOf_23 (by decide) ?_
      refine lv_bipush (v := (8 : Int32)) hx hb dX7_roadsOf_25 (by decide) ?_
      refine lv_iload_n hx hb dX7_roadsOf_27 rfl (lv_at hl 3 rfl) ?_
      refine lv_imul hx hb dX7_roadsOf_28 ?_
      refine lv_iadd hx hb dX7_roadsOf_29 ?_
      refine lv_iload hx hb dX7_roadsOf_30 (lv_at hl 4 rfl) ?_
      refine lv_iadd hx hb dX7_roadsOf_32 ?_
      obtain ⟨v33, h33, hf⟩ := bnd hf
      refine q_iald hx hb hK hP ha1.o ha1.k h33 dX7_roadsOf_33 ?_
      refine lv_istore (lv' := [(5, .int v33), (0, .ref (w.1 (a1))), (1, .int a2), (2, .int x2_15), (3, .int x3_4), (4, .int x4_15)]) hx hb dX7_roadsOf_34 hl (by decide) rfl (fun ls hl => ?_)
      refine lv_iload_n hx hb dX7_roadsOf_36 rfl (lv_at hl 3 rfl) ?_
      refine lv_iload_n hx hb dX7_roadsOf_37 rfl (lv_at hl 2 rfl) ?_
      refine lv_if_eq (tgt := 46) hx hb dX7_roadsOf_38 (by decide) (fun hc => ?_) (fun hc => ?_)
      · have hf := ifp hc hf
        refine lv_iload hx hb dX7_roadsOf_46 (lv_at hl 0 rfl) ?_
        refine lv_if_le (tgt := 55) hx hb dX7_roadsOf_48 (by decide) (fun hc => ?_) (fun hc => ?_)
        · have hf := ifp hc hf
          refine lv_iconst (v := (0 : Int32)) hx hb dX7_roadsOf_55 (by decide) ?_
          refine lv_iadd hx hb dX7_roadsOf_56 ?_
          refine lv_istore_n (lv' := [(2, .int (x2_15 + (0 : Int32))), (5, .int v33), (0, .ref (w.1 (a1))), (1, .int a2), (3, .int x3_4), (4, .int x4_15)]) hx hb dX7_roadsOf_57 rfl hl (by decide) rfl (fun ls hl => ?_)
          refine lv_iinc (v := (x4_15 + (1 : Int32))) (lv' := [(4, .int (x4_15 + (1 : Int32))), (2, .int (x2_15 + (0 : Int32))), (5, .int v33), (0, .ref (w.1 (a1))), (1, .int a2), (3, .int x3_4)]) hx hb dX7_roadsOf_58 hl (k := 5) rfl ii_1 (by decide) rfl (fun ls hl => ?_)
          refine lv_goto (tgt := 15) hx hb dX7_roadsOf_61 (by decide) ?_
          obtain rfl := Option.some.inj hf
          exact hG15 _ rfl _ _ _ hP hS (lv_sub hl [3, 4, 1, 5, 0] rfl)
        · have hf := ifn hc hf
          refine lv_iconst (v := (1 : Int32)) hx hb dX7_roadsOf_51 (by decide) ?_
          refine lv_goto (tgt := 56) hx hb dX7_roadsOf_52 (by decide) ?_
          refine lv_iadd hx hb dX7_roadsOf_56 ?_
          refine lv_istore_n (lv' := [(2, .int (x2_15 + (1 : Int32))), (5, .int v33), (0, .ref (w.1 (a1))), (1, .int a2), (3, .int x3_4), (4, .int x4_15)]) hx hb dX7_roadsOf_57 rfl hl (by decide) rfl (fun ls hl => ?_)
          refine lv_iinc (v := (x4_15 + (1 : Int32))) (lv' := [(4, .int (x4_15 + (1 : Int32))), (2, .int (x2_15 + (1 : Int32))), (5, .int v33), (0, .ref (w.1 (a1))), (1, .int a2), (3, .int x3_4)]) hx hb dX7_roadsOf_58 hl (k := 5) rfl ii_1 (by decide) rfl (fun ls hl => ?_)
          refine lv_goto (tgt := 15) hx hb dX7_roadsOf_61 (by decide) ?_
          obtain rfl := Option.some.inj hf
          exact hG15 _ rfl _ _ _ hP hS (lv_sub hl [3, 4, 1, 5, 0] rfl)
      · have hf := ifn hc hf
        refine lv_iload hx hb dX7_roadsOf_41 (lv_at hl 0 rfl) ?_
        refine lv_goto (tgt := 56) hx hb dX7_roadsOf_43 (by decide) ?_
        refine lv_iadd hx hb dX7_roadsOf_56 ?_
        refine lv_istore_n (lv' := [(2, .int (x2_15 + v33)), (5, .int v33), (0, .ref (w.1 (a1))), (1, .int a2), (3, .int x3_4), (4, .int x4_15)]) hx hb dX7_roadsOf_57 rfl hl (by decide) rfl (fun ls hl => ?_)
        refine lv_iinc (v := (x4_15 + (1 : Int32))) (lv' := [(4, .int (x4_15 + (1 : Int32))), (2, .int (x2_15 + v33)), (5, .int v33), (0, .ref (w.1 (a1))), (1, .int a2), (3, .int x3_4)]) hx hb dX7_roadsOf_58 hl (k := 5) rfl ii_1 (by decide) rfl (fun ls hl => ?_)
        refine lv_goto (tgt := 15) hx hb dX7_roadsOf_61 (by decide) ?_
        obtain rfl := Option.some.inj hf
        exact hG15 _ rfl _ _ _ hP hS (lv_sub hl [3, 4, 1, 5, 0] rfl)
def f_X7_retiredOf_b1 (σ : Sg) (a1 : Nat) (x2_4 : Int32) (x3_4 : Int32) : Option ((Int32 × Int32) ⊕ Int32) :=
  (ga (σ (187)) (ln (187)) (0 : Int32)).bind fun v10 =>
  if v10 ≤ x3_4 then
  some (.inr x2_4)
  else
  (ga (σ (a1)) (ln (a1)) ((71 : Int32) + x3_4)).bind fun v20 =>
  if ¬ v20 = (-4 : Int32) then
  some (.inl ((x2_4 + (0 : Int32)), (x3_4 + (1 : Int32))))
  else
  some (.inl ((x2_4 + (1 : Int32)), (x3_4 + (1 : Int32))))
def f_X7_retiredOf_k1 (y2_39 : Int32) : Option Int32 :=
  some y2_39
def f_X7_retiredOf (σ : Sg) (a1 : Nat) : Option Int32 :=
  (lp (fun st => f_X7_retiredOf_b1 σ a1 st.1 st.2) FU ((0 : Int32), (0 : Int32))).bind fun rr => f_X7_retiredOf_k1 rr
set_option maxHeartbeats 4000000 in
set_option maxRecDepth 100000 in
theorem c_X7_retiredOf (l : Launch) (D : va_G) (w : Wv) (σ : Sg) (a1 : Nat) (r : Int32) (ha1 : isC a1) (hf : f_X7_retiredOf σ a1 = some r) : Met l yX7_retiredOf (.code yX7_retiredOf cX7_retiredOf 4 (some .int) :: TB) (rmW 0 0) (pcW D w [.ref (w.1 (184)), .ref (w.1 (a1))] σ) (qiW D w r σ) 0 0 (AL w) := by
  refine q_open (by decide +kernel) (Nat.le_of_ble_eq_true rfl) ?_
  intro p e s m args below meth c ls hx hb hml hr hlk hown hts hK hP hS hl
  have hown : s.vm.findClass RX7 = some m.cls := hown
  have hl : lv_has ls 4 [(0, .ref (w.1 (184))), (1, .ref (w.1 (a1)))] := hl
  unfold f_X7_retiredOf at hf
  refine lv_iconst (v := (0 : Int32)) hx hb dX7_retiredOf_0 (by decide) ?_
  refine lv_istore_n (lv' := [(2, .int (0 : Int32)), (0, .ref (w.1 (184))), (1, .ref (w.1 (a1)))]) hx hb dX7_retiredOf_1 rfl hl (by decide) rfl (fun ls hl => ?_)
  refine lv_iconst (v := (0 : Int32)) hx hb dX7_retiredOf_2 (by decide) ?_
  refine lv_istore_n (lv' := [(3, .int (0 : Int32)), (2, .int (0 : Int32)), (0, .ref (w.1 (184))), (1, .ref (w.1 (a1)))]) hx hb dX7_retiredOf_3 rfl hl (by decide) rfl (fun ls hl => ?_)
  obtain ⟨rr, hlp, hf⟩ := bnd hf
  have hE4_39 : ∀ (y2_39 : Int32) (H : Heap) (locs : List Loc) (ls : Array Slot), f_X7_retiredOf_k1 y2_39 = some r → va_P D vwCl (WL w σ) H → va_S (AL w) s.heap H locs → lv_has ls 4 [(2, .int y2_39)] → W p l e (rmW 0 0) s m args below meth c H locs 0 0 (MQ below (qiW D w r σ) args s 0 0 (AL w)) (F0 m 39 ls []) := by
    intro y2_39 H locs ls hf hP hS hl
    unfold f_X7_retiredOf_k1 at hf
    refine lv_iload_n hx hb dX7_retiredOf_39 rfl (lv_at hl 0 rfl) ?_
    have hq := Option.some.inj hf
    exact q_iret hx hb hr hlk hP hS hq rfl dX7_retiredOf_40
  refine lp_ind (G := fun (st : (Int32 × Int32)) => ∀ (H : Heap) (locs : List Loc) (ls : Array Slot), va_P D vwCl (WL w σ) H → va_S (AL w) s.heap H locs → lv_has ls 4 [(0, .ref (w.1 (184))), (1, .ref (w.1 (a1))), (2, .int st.1), (3, .int st.2)] → W p l e (rmW 0 0) s m args below meth c H locs 0 0 (MQ below (qiW D w r σ) args s 0 0 (AL w)) (F0 m 4 ls [])) (X := fun rr => f_X7_retiredOf_k1 rr = some r) ?_ _ _ rr hlp hf _ _ _ hP hS (lv_sub hl [2, 3, 1, 0] rfl)
  rintro ⟨x2_4, x3_4⟩ oo4 hb9 hG4 hX4 H locs ls hP hS hl
  have hP : va_P D vwCl (WL w σ) H := hP
  have hl : lv_has ls 4 [(0, .ref (w.1 (184))), (1, .ref (w.1 (a1))), (2, .int x2_4), (3, .int x3_4)] := hl
  have hf : f_X7_retiredOf_b1 σ a1 x2_4 x3_4 = some oo4 := hb9
  unfold f_X7_retiredOf_b1 at hf
  refine lv_iload_n hx hb dX7_retiredOf_4 rfl (lv_at hl 3 rfl) ?_
  refine lv_aload_n hx hb dX7_retiredOf_5 rfl (lv_at hl 0 rfl) ?_
  refine gt_X7_17 hx hb hts hown hK hP dX7_retiredOf_6 ?_
  refine lv_iconst (v := (0 : Int32)) hx hb dX7_retiredOf_9 (by decide) ?_
  obtain ⟨v10, h10, hf⟩ := bnd hf
  refine q_iald hx hb hK hP isC187.o isC187.k h10 dX7_retiredOf_10 ?_
  refine lv_icmp_ge (tgt := 39) hx hb dX7_retiredOf_11 (by decide) (fun hc => ?_) (fun hc => ?_)
  · have hf := ifp hc hf
    obtain rfl := Option.some.inj hf
    exact hE4_39 x2_4 _ _ _ (hX4 _ rfl) hP hS (lv_sub hl [2] rfl)
  · have hf := ifn hc hf
    refine lv_iload_n hx hb dX7_retiredOf_14 rfl (lv_at hl 2 rfl) ?_
    refine lv_aload_n hx hb dX7_retiredOf_15 rfl (lv_at hl 1 rfl) ?_
    refine lv_bipush (v := (71 : Int32)) hx hb dX7_retiredOf_16 (by decide) ?_
    refine lv_iload_n hx hb dX7_retiredOf_18 rfl (lv_at hl 3 rfl) ?_
    refine lv_iadd hx hb dX7_retiredOf_19 ?_
    obtain ⟨v20, h20, hf⟩ := bnd hf
    refine q_iald hx hb hK hP ha1.o ha1.k h20 dX7_retiredOf_20 ?_
    refine lv_bipush (v := (-4 : Int32)) hx hb dX7_retiredOf_21 (by decide) ?_
    refine lv_icmp_ne (tgt := 30) hx hb dX7_retiredOf_23 (by decide) (fun hc => ?_) (fun hc => ?_)
    · have hf := ifp hc hf
      refine lv_iconst (v := (0 : Int32)) hx hb dX7_retiredOf_30 (by decide) ?_
      refine lv_iadd hx hb dX7_retiredOf_31 ?_
      refine lv_istore_n (lv' := [(2, .int (x2_4 + (0 : Int32))), (0, .ref (w.1 (184))), (1, .ref (w.1 (a1))), (3, .int x3_4)]) hx hb dX7_retiredOf_32 rfl hl (by decide) rfl (fun ls hl => ?_)
      refine lv_iinc (v := (x3_4 + (1 : Int32))) (lv' := [(3, .int (x3_4 + (1 : Int32))), (2, .int (x2_4 + (0 : Int32))), (0, .ref (w.1 (184))), (1, .ref (w.1 (a1)))]) hx hb dX7_retiredOf_33 hl (k := 3) rfl ii_1 (by decide) rfl (fun ls hl => ?_)
      refine lv_goto (tgt := 4) hx hb dX7_retiredOf_36 (by decide) ?_
      obtain rfl := Option.some.inj hf
      exact hG4 _ rfl _ _ _ hP hS (lv_sub hl [2, 3, 1, 0] rfl)
    · have hf := ifn (fun h => h hc) hf
      refine lv_iconst (v := (1 : Int32)) hx hb dX7_retiredOf_26 (by decide) ?_
      refine lv_goto (tgt := 31) hx hb dX7_retiredOf_27 (by decide) ?_
      refine lv_iadd hx hb dX7_retiredOf_31 ?_
      refine lv_istore_n (lv' := [(2, .int (x2_4 + (1 : Int32))), (0, .ref (w.1 (184))), (1, .ref (w.1 (a1))), (3, .int x3_4)]) hx hb dX7_retiredOf_32 rfl hl (by decide) rfl (fun ls hl => ?_)
      refine lv_iinc (v := (x3_4 + (1 : Int32))) (lv' := [(3, .int (x3_4 + (1 : Int32))), (2, .int (x2_4 + (1 : Int32))), (0, .ref (w.1 (184))), (1, .ref (w.1 (a1)))]) hx hb dX7_retiredOf_33 hl (k := 3) rfl ii_1 (by decide) rfl (fun ls hl => ?_)
      refine lv_goto (tgt := 4) hx hb dX7_retiredOf_36 (by decide) ?_
      obtain rfl := Option.some.inj hf
      exact hG4 _ rfl _ _ _ hP hS (lv_sub hl [2, 3, 1, 0] rfl)
def f_X7_road (σ : Sg) (a1 : Int32) (a2 : Int32) : Option Int32 :=
  (f_X7_isTown σ a1).bind fun v2 =>
  if v2 = 0 then
  some (-1 : Int32)
  else
  (f_X7_isTown σ a2).bind fun v10 =>
  if v10 = 0 then
  some (-1 : Int32)
  else
  if ¬ a1 = a2 then
  (ga (σ (195)) (ln (195)) (((7 : Int32) + ((8 : Int32) * a1)) + a2)).bind fun v36 =>
  if ¬ v36 = 0 then
  some v36
  else
  some (-4 : Int32)
  else
  some (-1 : Int32)
set_option maxHeartbeats 4000000 in
set_option maxRecDepth 100000 in
theorem c_X7_road (l : Launch) (D : va_G) (w : Wv) (σ : Sg) (a1 : Int32) (a2 : Int32) (r : Int32)  (hf : f_X7_road σ a1 a2 = some r) : Met l yX7_road (.code yX7_road cX7_road 4 (some .int) :: TB) (rmW 2 43) (pcW D w [.ref (w.1 (184)), .int a1, .int a2] σ) (qiW D w r σ) 0 0 (AL w) := by
  refine q_open (by decide +kernel) (Nat.le_of_ble_eq_true rfl) ?_
  intro p e s m args below meth c ls hx hb hml hr hlk hown hts hK hP hS hl
  have hown : s.vm.findClass RX7 = some m.cls := hown
  have hl : lv_has ls 4 [(0, .ref (w.1 (184))), (1, .int a1), (2, .int a2)] := hl
  unfold f_X7_road at hf
  refine lv_aload_n hx hb dX7_road_0 rfl (lv_at hl 0 rfl) ?_
  refine lv_iload_n hx hb dX7_road_1 rfl (lv_at hl 1 rfl) ?_
  obtain ⟨v2, h2, hf⟩ := bnd hf
  refine q_cVz (As := [.int a1]) hx hb hts hml hown hK hP hS (c_X7_isTown l D w σ a1 v2 h2) hw_X7_205 hd_X7_isTown ⟨rfl, rfl, rfl⟩ o184 (ce7 kd184) rfl ⟨Nat.le_of_ble_eq_true rfl, Nat.le_of_ble_eq_true rfl⟩ ⟨Nat.le_of_ble_eq_true rfl, Nat.le_of_ble_eq_true rfl⟩ hl.1 rfl (Nat.le_of_ble_eq_true rfl) dX7_road_2 (fun hz2 H locs hP hS => ?_)
  refine lv_if_eq (tgt := 21) hx hb dX7_road_5 (by decide) (fun hc => ?_) (fun hc => ?_)
  · have hf := ifp hc hf
    refine lv_iconst (v := (-1 : Int32)) hx hb dX7_road_21 (by decide) ?_
    have hq := Option.some.inj hf
    exact q_iret hx hb hr hlk hP hS hq rfl dX7_road_22
  · have hf := ifn hc hf
    refine lv_aload_n hx hb dX7_road_8 rfl (lv_at hl 0 rfl) ?_
    refine lv_iload_n hx hb dX7_road_9 rfl (lv_at hl 2 rfl) ?_
    obtain ⟨v10, h10, hf⟩ := bnd hf
    refine q_cVz (As := [.int a2]) hx hb hts hml hown hK hP hS (c_X7_isTown l D w σ a2 v10 h10) hw_X7_205 hd_X7_isTown ⟨rfl, rfl, rfl⟩ o184 (ce7 kd184) rfl ⟨Nat.le_of_ble_eq_true rfl, Nat.le_of_ble_eq_true rfl⟩ ⟨Nat.le_of_ble_eq_true rfl, Nat.le_of_ble_eq_true rfl⟩ hl.1 rfl (Nat.le_of_ble_eq_true rfl) dX7_road_10 (fun hz10 H locs hP hS => ?_)
    refine lv_if_eq (tgt := 21) hx hb dX7_road_13 (by decide) (fun hc => ?_) (fun hc => ?_)
    · have hf := ifp hc hf
      refine lv_iconst (v := (-1 : Int32)) hx hb dX7_road_21 (by decide) ?_
      have hq := Option.some.inj hf
      exact q_iret hx hb hr hlk hP hS hq rfl dX7_road_22
    · have hf := ifn hc hf
      refine lv_iload_n hx hb dX7_road_16 rfl (lv_at hl 1 rfl) ?_
      refine lv_iload_n hx hb dX7_road_17 rfl (lv_at hl 2 rfl) ?_
      refine lv_icmp_ne (tgt := 23) hx hb dX7_road_18 (by decide) (fun hc => ?_) (fun hc => ?_)
      · have hf := ifp hc hf
        refine lv_aload_n hx hb dX7_road_23 rfl (lv_at hl 0 rfl) ?_
        refine gt_X7_41 hx hb hts hown hK hP dX7_road_24 ?_
        refine lv_bipush (v := (7 : Int32)) hx hb dX7_road_27 (by decide) ?_
        refine lv_bipush (v := (8 : Int32)) hx hb dX7_road_29 (by decide) ?_
        refine lv_iload_n hx hb dX7_road_31 rfl (lv_at hl 1 rfl) ?_
        refine lv_imul hx hb dX7_road_32 ?_
        refine lv_iadd hx hb dX7_road_33 ?_
        refine lv_iload_n hx hb dX7_road_34 rfl (lv_at hl 2 rfl) ?_
        refine lv_iadd hx hb dX7_road_35 ?_
        obtain ⟨v36, h36, hf⟩ := bnd hf
        refine q_iald hx hb hK hP isC195.o isC195.k h36 dX7_road_36 ?_
        refine lv_istore_n (lv' := [(3, .int v36), (0, .ref (w.1 (184))), (1, .int a1), (2, .int a2)]) hx hb dX7_road_37 rfl hl (by decide) rfl (fun ls hl => ?_)
        refine lv_iload_n hx hb dX7_road_38 rfl (lv_at hl 0 rfl) ?_
        refine lv_if_ne (tgt := 47) hx hb dX7_road_39 (by decide) (fun hc => ?_) (fun hc => ?_)
        · have hf := ifp hc hf
          refine lv_iload_n hx hb dX7_road_47 rfl (lv_at hl 0 rfl) ?_
          have hq := Option.some.inj hf
          exact q_iret hx hb hr hlk hP hS hq rfl dX7_road_48
        · have hf := ifn (fun h => h hc) hf
          refine lv_bipush (v := (-4 : Int32)) hx hb dX7_road_42 (by decide) ?_
          refine lv_goto (tgt := 48) hx hb dX7_road_44 (by decide) ?_
          have hq := Option.some.inj hf
          exact q_iret hx hb hr hlk hP hS hq rfl dX7_road_48
      · have hf := ifn (fun h => h hc) hf
        refine lv_iconst (v := (-1 : Int32)) hx hb dX7_road_21 (by decide) ?_
        have hq := Option.some.inj hf
        exact q_iret hx hb hr hlk hP hS hq rfl dX7_road_22
def f_X7_post (σ : Sg) (a1 : Int32) (a2 : Int32) : Option Int32 :=
  (f_X7_isPost σ a1).bind fun v2 =>
  if ¬ v2 = 0 then
  if a2 = (0 : Int32) then
  (ga (σ (189)) (ln (189)) a1).bind fun v41 =>
  some v41
  else if a2 = (1 : Int32) then
  (ga (σ (195)) (ln (195)) ((71 : Int32) + a1)).bind fun v51 =>
  some v51
  else if a2 = (2 : Int32) then
  (ga (σ (195)) (ln (195)) ((77 : Int32) + a1)).bind fun v61 =>
  some v61
  else some (-1 : Int32)
  else
  some (-1 : Int32)
set_option maxHeartbeats 4000000 in
set_option maxRecDepth 100000 in
theorem c_X7_post (l : Launch) (D : va_G) (w : Wv) (σ : Sg) (a1 : Int32) (a2 : Int32) (r : Int32)  (hf : f_X7_post σ a1 a2 = some r) : Met l yX7_post (.code yX7_post cX7_post 3 (some .int) :: TB) (rmW 2 43) (pcW D w [.ref (w.1 (184)), .int a1, .int a2] σ) (qiW D w r σ) 0 0 (AL w) := by
  refine q_open (by decide +kernel) (Nat.le_of_ble_eq_true rfl) ?_
  intro p e s m args below meth c ls hx hb hml hr hlk hown hts hK hP hS hl
  have hown : s.vm.findClass RX7 = some m.cls := hown
  have hl : lv_has ls 3 [(0, .ref (w.1 (184))), (1, .int a1), (2, .int a2)] := hl
  unfold f_X7_post at hf
  refine lv_aload_n hx hb dX7_post_0 rfl (lv_at hl 0 rfl) ?_
  refine lv_iload_n hx hb dX7_post_1 rfl (lv_at hl 1 rfl) ?_
  obtain ⟨v2, h2, hf⟩ := bnd hf
  refine q_cVz (As := [.int a1]) hx hb hts hml hown hK hP hS (c_X7_isPost l D w σ a1 v2 h2) hw_X7_209 hd_X7_isPost ⟨rfl, rfl, rfl⟩ o184 (ce7 kd184) rfl ⟨Nat.le_of_ble_eq_true rfl, Nat.le_of_ble_eq_true rfl⟩ ⟨Nat.le_of_ble_eq_true rfl, Nat.le_of_ble_eq_true rfl⟩ hl.1 rfl (Nat.le_of_ble_eq_true rfl) dX7_post_2 (fun hz2 H locs hP hS => ?_)
  refine lv_if_ne (tgt := 10) hx hb dX7_post_5 (by decide) (fun hc => ?_) (fun hc => ?_)
  · have hf := ifp hc hf
    refine lv_iload_n hx hb dX7_post_10 rfl (lv_at hl 2 rfl) ?_
    rcases Decidable.em (a2 = (0 : Int32)) with hc | hc0
    · have hf := ifp hc hf
      refine lv_tableIn (off := 25) (tgt := 36) hx hb dX7_post_11 (by rw [hc]; decide) (by rw [hc]; decide) (by rw [hc]; rfl) (by decide) ?_
      refine lv_aload_n hx hb dX7_post_36 rfl (lv_at hl 0 rfl) ?_
      refine gt_X7_23 hx hb hts hown hK hP dX7_post_37 ?_
      refine lv_iload_n hx hb dX7_post_40 rfl (lv_at hl 1 rfl) ?_
      obtain ⟨v41, h41, hf⟩ := bnd hf
      refine q_iald hx hb hK hP isC189.o isC189.k h41 dX7_post_41 ?_
      have hq := Option.some.inj hf
      exact q_iret hx hb hr hlk hP hS hq rfl dX7_post_42
    have hf := ifn hc0 hf
    rcases Decidable.em (a2 = (1 : Int32)) with hc | hc1
    · have hf := ifp hc hf
      refine lv_tableIn (off := 32) (tgt := 43) hx hb dX7_post_11 (by rw [hc]; decide) (by rw [hc]; decide) (by rw [hc]; rfl) (by decide) ?_
      refine lv_aload_n hx hb dX7_post_43 rfl (lv_at hl 0 rfl) ?_
      refine gt_X7_41 hx hb hts hown hK hP dX7_post_44 ?_
      refine lv_bipush (v := (71 : Int32)) hx hb dX7_post_47 (by decide) ?_
      refine lv_iload_n hx hb dX7_post_49 rfl (lv_at hl 1 rfl) ?_
      refine lv_iadd hx hb dX7_post_50 ?_
      obtain ⟨v51, h51, hf⟩ := bnd hf
      refine q_iald hx hb hK hP isC195.o isC195.k h51 dX7_post_51 ?_
      have hq := Option.some.inj hf
      exact q_iret hx hb hr hlk hP hS hq rfl dX7_post_52
    have hf := ifn hc1 hf
    rcases Decidable.em (a2 = (2 : Int32)) with hc | hc2
    · have hf := ifp hc hf
      refine lv_tableIn (off := 42) (tgt := 53) hx hb dX7_post_11 (by rw [hc]; decide) (by rw [hc]; decide) (by rw [hc]; rfl) (by decide) ?_
      refine lv_aload_n hx hb dX7_post_53 rfl (lv_at hl 0 rfl) ?_
      refine gt_X7_41 hx hb hts hown hK hP dX7_post_54 ?_
      refine lv_bipush (v := (77 : Int32)) hx hb dX7_post_57 (by decide) ?_
      refine lv_iload_n hx hb dX7_post_59 rfl (lv_at hl 1 rfl) ?_
      refine lv_iadd hx hb dX7_post_60 ?_
      obtain ⟨v61, h61, hf⟩ := bnd hf
      refine q_iald hx hb hK hP isC195.o isC195.k h61 dX7_post_61 ?_
      have hq := Option.some.inj hf
      exact q_iret hx hb hr hlk hP hS hq rfl dX7_post_62
    have hf := ifn hc2 hf
    refine lv_tableOut (tgt := 63) hx hb dX7_post_11 (tb_out_0_2 hc0 hc1 hc2) (by decide) ?_
    refine lv_iconst (v := (-1 : Int32)) hx hb dX7_post_63 (by decide) ?_
    have hq := Option.some.inj hf
    exact q_iret hx hb hr hlk hP hS hq rfl dX7_post_64
  · have hf := ifn (fun h => h hc) hf
    refine lv_iconst (v := (-1 : Int32)) hx hb dX7_post_8 (by decide) ?_
    have hq := Option.some.inj hf
    exact q_iret hx hb hr hlk hP hS hq rfl dX7_post_9
def f_X7_arm (σ : Sg) (a1 : Int32) (a2 : Int32) (a3 : Int32) : Option Int32 :=
  (f_X7_isPost σ a1).bind fun v2 =>
  if v2 = 0 then
  some (-1 : Int32)
  else
  (f_X7_isTown σ a2).bind fun v10 =>
  if v10 = 0 then
  some (-1 : Int32)
  else
  (f_X7_in σ a3 (0 : Int32) (2 : Int32)).bind fun v19 =>
  if ¬ v19 = 0 then
  (ga (σ (195)) (ln (195)) ((71 : Int32) + a1)).bind fun v35 =>
  if ¬ v35 = (-4 : Int32) then
  if ¬ a3 = 0 then
  if ¬ a3 = (1 : Int32) then
  (ga (σ (189)) (ln (189)) a1).bind fun v99 =>
  (f_X7_points σ (195) a1 v99 a2).bind fun v101 =>
  some v101
  else
  (ga (σ (195)) (ln (195)) (((131 : Int32) + ((8 : Int32) * a1)) + a2)).bind fun v84 =>
  some v84
  else
  (ga (σ (195)) (ln (195)) (((83 : Int32) + ((8 : Int32) * a1)) + a2)).bind fun v61 =>
  some v61
  else
  some (-4 : Int32)
  else
  some (-1 : Int32)
set_option maxHeartbeats 4000000 in
set_option maxRecDepth 100000 in
theorem c_X7_arm (l : Launch) (D : va_G) (w : Wv) (σ : Sg) (a1 : Int32) (a2 : Int32) (a3 : Int32) (r : Int32)  (hf : f_X7_arm σ a1 a2 a3 = some r) : Met l yX7_arm (.code yX7_arm cX7_arm 4 (some .int) :: TB) (rmW 2 53) (pcW D w [.ref (w.1 (184)), .int a1, .int a2, .int a3] σ) (qiW D w r σ) 0 0 (AL w) := by
  refine q_open (by decide +kernel) (Nat.le_of_ble_eq_true rfl) ?_
  intro p e s m args below meth c ls hx hb hml hr hlk hown hts hK hP hS hl
  have hown : s.vm.findClass RX7 = some m.cls := hown
  have hl : lv_has ls 4 [(0, .ref (w.1 (184))), (1, .int a1), (2, .int a2), (3, .int a3)] := hl
  unfold f_X7_arm at hf
  refine lv_aload_n hx hb dX7_arm_0 rfl (lv_at hl 0 rfl) ?_
  refine lv_iload_n hx hb dX7_arm_1 rfl (lv_at hl 1 rfl) ?_
  obtain ⟨v2, h2, hf⟩ := bnd hf
  refine q_cVz (As := [.int a1]) hx hb hts hml hown hK hP hS (c_X7_isPost l D w σ a1 v2 h2) hw_X7_209 hd_X7_isPost ⟨rfl, rfl, rfl⟩ o184 (ce7 kd184) rfl ⟨Nat.le_of_ble_eq_true rfl, Nat.le_of_ble_eq_true rfl⟩ ⟨Nat.le_of_ble_eq_true rfl, Nat.le_of_ble_eq_true rfl⟩ hl.1 rfl (Nat.le_of_ble_eq_true rfl) dX7_arm_2 (fun hz2 H locs hP hS => ?_)
  refine lv_if_eq (tgt := 25) hx hb dX7_arm_5 (by decide) (fun hc => ?_) (fun hc => ?_)
  · have hf := ifp hc hf
    refine lv_iconst (v := (-1 : Int32)) hx hb dX7_arm_25 (by decide) ?_
    have hq := Option.some.inj hf
    exact q_iret hx hb hr hlk hP hS hq rfl dX7_arm_26
  · have hf := ifn hc hf
    refine lv_aload_n hx hb dX7_arm_8 rfl (lv_at hl 0 rfl) ?_
    refine lv_iload_n hx hb dX7_arm_9 rfl (lv_at hl 2 rfl) ?_
    obtain ⟨v10, h10, hf⟩ := bnd hf
    refine q_cVz (As := [.int a2]) hx hb hts hml hown hK hP hS (c_X7_isTown l D w σ a2 v10 h10) hw_X7_205 hd_X7_isTown ⟨rfl, rfl, rfl⟩ o184 (ce7 kd184) rfl ⟨Nat.le_of_ble_eq_true rfl, Nat.le_of_ble_eq_true rfl⟩ ⟨Nat.le_of_ble_eq_true rfl, Nat.le_of_ble_eq_true rfl⟩ hl.1 rfl (Nat.le_of_ble_eq_true rfl) dX7_arm_10 (fun hz10 H locs hP hS => ?_)
    refine lv_if_eq (tgt := 25) hx hb dX7_arm_13 (by decide) (fun hc => ?_) (fun hc => ?_)
    · have hf := ifp hc hf
      refine lv_iconst (v := (-1 : Int32)) hx hb dX7_arm_25 (by decide) ?_
      have hq := Option.some.inj hf
      exact q_iret hx hb hr hlk hP hS hq rfl dX7_arm_26
    · have hf := ifn hc hf
      refine lv_iload_n hx hb dX7_arm_16 rfl (lv_at hl 3 rfl) ?_
      refine lv_iconst (v := (0 : Int32)) hx hb dX7_arm_17 (by decide) ?_
      refine lv_iconst (v := (2 : Int32)) hx hb dX7_arm_18 (by decide) ?_
      obtain ⟨v19, h19, hf⟩ := bnd hf
      refine q_cSz (As := [.int a3, .int (0 : Int32), .int (2 : Int32)]) hx hb hts hml hown hK hP hS (c_X7_in l D w σ a3 (0 : Int32) (2 : Int32) v19 h19) hw_X7_83 hd_X7_in ⟨rfl, rfl, rfl⟩ ⟨Nat.le_of_ble_eq_true rfl, Nat.le_of_ble_eq_true rfl⟩ ⟨Nat.le_of_ble_eq_true rfl, Nat.le_of_ble_eq_true rfl⟩ hl.1 rfl (Nat.le_of_ble_eq_true rfl) dX7_arm_19 (fun hz19 H locs hP hS => ?_)
      refine lv_if_ne (tgt := 27) hx hb dX7_arm_22 (by decide) (fun hc => ?_) (fun hc => ?_)
      · have hf := ifp hc hf
        refine lv_aload_n hx hb dX7_arm_27 rfl (lv_at hl 0 rfl) ?_
        refine gt_X7_41 hx hb hts hown hK hP dX7_arm_28 ?_
        refine lv_bipush (v := (71 : Int32)) hx hb dX7_arm_31 (by decide) ?_
        refine lv_iload_n hx hb dX7_arm_33 rfl (lv_at hl 1 rfl) ?_
        refine lv_iadd hx hb dX7_arm_34 ?_
        obtain ⟨v35, h35, hf⟩ := bnd hf
        refine q_iald hx hb hK hP isC195.o isC195.k h35 dX7_arm_35 ?_
        refine lv_bipush (v := (-4 : Int32)) hx hb dX7_arm_36 (by decide) ?_
        refine lv_icmp_ne (tgt := 44) hx hb dX7_arm_38 (by decide) (fun hc => ?_) (fun hc => ?_)
        · have hf := ifp hc hf
          refine lv_iload_n hx hb dX7_arm_44 rfl (lv_at hl 3 rfl) ?_
          refine lv_if_ne (tgt := 65) hx hb dX7_arm_45 (by decide) (fun hc => ?_) (fun hc => ?_)
          · have hf := ifp hc hf
            refine lv_iload_n hx hb dX7_arm_65 rfl (lv_at hl 3 rfl) ?_
            refine lv_iconst (v := (1 : Int32)) hx hb dX7_arm_66 (by decide) ?_
            refine lv_icmp_ne (tgt := 88) hx hb dX7_arm_67 (by decide) (fun hc => ?_) (fun hc => ?_)
            · have hf := ifp hc hf
              refine lv_aload_n hx hb dX7_arm_88 rfl (lv_at hl 0 rfl) ?_
              refine lv_aload_n hx hb dX7_arm_89 rfl (lv_at hl 0 rfl) ?_
              refine gt_X7_41 hx hb hts hown hK hP dX7_arm_90 ?_
              refine lv_iload_n hx hb dX7_arm_93 rfl (lv_at hl 1 rfl) ?_
              refine lv_aload_n hx hb dX7_arm_94 rfl (lv_at hl 0 rfl) ?_
              refine gt_X7_23 hx hb hts hown hK hP dX7_arm_95 ?_
              refine lv_iload_n hx hb dX7_arm_98 rfl (lv_at hl 1 rfl) ?_
              obtain ⟨v99, h99, hf⟩ := bnd hf
              refine q_iald hx hb hK hP isC189.o isC189.k h99 dX7_arm_99 ?_
              refine lv_iload_n hx hb dX7_arm_100 rfl (lv_at hl 2 rfl) ?_
              obtain ⟨v101, h101, hf⟩ := bnd hf
              refine q_cVi (As := [.ref (w.1 (195)), .int a1, .int v99, .int a2]) hx hb hts hml hown hK hP hS (c_X7_points l D w σ (195) a1 v99 a2 v101 isC195 h101) hw_X7_188 hd_X7_points ⟨rfl, rfl, rfl⟩ o184 (ce7 kd184) rfl ⟨Nat.le_of_ble_eq_true rfl, Nat.le_of_ble_eq_true rfl⟩ ⟨Nat.le_of_ble_eq_true rfl, Nat.le_of_ble_eq_true rfl⟩ hl.1 rfl (Nat.le_of_ble_eq_true rfl) dX7_arm_101 (fun H locs hP hS => ?_)
              have hq := Option.some.inj hf
              exact q_iret hx hb hr hlk hP hS hq rfl dX7_arm_104
            · have hf := ifn (fun h => h hc) hf
              refine lv_aload_n hx hb dX7_arm_70 rfl (lv_at hl 0 rfl) ?_
              refine gt_X7_41 hx hb hts hown hK hP dX7_arm_71 ?_
              refine lv_sipush (v := (131 : Int32)) hx hb dX7_arm_74 (by decide) ?_
              refine lv_bipush (v := (8 : Int32)) hx hb dX7_arm_77 (by decide) ?_
              refine lv_iload_n hx hb dX7_arm_79 rfl (lv_at hl 1 rfl) ?_
              refine lv_imul hx hb dX7_arm_80 ?_
              refine lv_iadd hx hb dX7_arm_81 ?_
              refine lv_iload_n hx hb dX7_arm_82 rfl (lv_at hl 2 rfl) ?_
              refine lv_iadd hx hb dX7_arm_83 ?_
              obtain ⟨v84, h84, hf⟩ := bnd hf
              refine q_iald hx hb hK hP isC195.o isC195.k h84 dX7_arm_84 ?_
              refine lv_goto (tgt := 104) hx hb dX7_arm_85 (by decide) ?_
              have hq := Option.some.inj hf
              exact q_iret hx hb hr hlk hP hS hq rfl dX7_arm_104
          · have hf := ifn (fun h => h hc) hf
            refine lv_aload_n hx hb dX7_arm_48 rfl (lv_at hl 0 rfl) ?_
            refine gt_X7_41 hx hb hts hown hK hP dX7_arm_49 ?_
            refine lv_bipush (v := (83 : Int32)) hx hb dX7_arm_52 (by decide) ?_
            refine lv_bipush (v := (8 : Int32)) hx hb dX7_arm_54 (by decide) ?_
            refine lv_iload_n hx hb dX7_arm_56 rfl (lv_at hl 1 rfl) ?_
            refine lv_imul hx hb dX7_arm_57 ?_
            refine lv_iadd hx hb dX7_arm_58 ?_
            refine lv_iload_n hx hb dX7_arm_59 rfl (lv_at hl 2 rfl) ?_
            refine lv_iadd hx hb dX7_arm_60 ?_
            obtain ⟨v61, h61, hf⟩ := bnd hf
            refine q_iald hx hb hK hP isC195.o isC195.k h61 dX7_arm_61 ?_
            refine lv_goto (tgt := 104) hx hb dX7_arm_62 (by decide) ?_
            have hq := Option.some.inj hf
            exact q_iret hx hb hr hlk hP hS hq rfl dX7_arm_104
        · have hf := ifn (fun h => h hc) hf
          refine lv_bipush (v := (-4 : Int32)) hx hb dX7_arm_41 (by decide) ?_
          have hq := Option.some.inj hf
          exact q_iret hx hb hr hlk hP hS hq rfl dX7_arm_43
      · have hf := ifn (fun h => h hc) hf
        refine lv_iconst (v := (-1 : Int32)) hx hb dX7_arm_25 (by decide) ?_
        have hq := Option.some.inj hf
        exact q_iret hx hb hr hlk hP hS hq rfl dX7_arm_26
def f_X7_walker (σ : Sg) (a1 : Int32) (a2 : Int32) : Option Int32 :=
  (f_X7_isWalker σ a1).bind fun v2 =>
  if ¬ v2 = 0 then
  if a2 = (0 : Int32) then
  (ga (σ (195)) (ln (195)) ((0 : Int32) + a1)).bind fun v43 =>
  some v43
  else if a2 = (1 : Int32) then
  (ga (σ (190)) (ln (190)) a1).bind fun v50 =>
  some v50
  else if a2 = (2 : Int32) then
  (ga (σ (195)) (ln (195)) ((0 : Int32) + a1)).bind fun v59 =>
  (ga (σ (190)) (ln (190)) a1).bind fun v65 =>
  if ¬ v59 = v65 then
  some (0 : Int32)
  else
  some (1 : Int32)
  else some (-1 : Int32)
  else
  some (-1 : Int32)
set_option maxHeartbeats 4000000 in
set_option maxRecDepth 100000 in
theorem c_X7_walker (l : Launch) (D : va_G) (w : Wv) (σ : Sg) (a1 : Int32) (a2 : Int32) (r : Int32)  (hf : f_X7_walker σ a1 a2 = some r) : Met l yX7_walker (.code yX7_walker cX7_walker 3 (some .int) :: TB) (rmW 2 43) (pcW D w [.ref (w.1 (184)), .int a1, .int a2] σ) (qiW D w r σ) 0 0 (AL w) := by
  refine q_open (by decide +kernel) (Nat.le_of_ble_eq_true rfl) ?_
  intro p e s m args below meth c ls hx hb hml hr hlk hown hts hK hP hS hl
  have hown : s.vm.findClass RX7 = some m.cls := hown
  have hl : lv_has ls 3 [(0, .ref (w.1 (184))), (1, .int a1), (2, .int a2)] := hl
  unfold f_X7_walker at hf
  refine lv_aload_n hx hb dX7_walker_0 rfl (lv_at hl 0 rfl) ?_
  refine lv_iload_n hx hb dX7_walker_1 rfl (lv_at hl 1 rfl) ?_
  obtain ⟨v2, h2, hf⟩ := bnd hf
  refine q_cVz (As := [.int a1]) hx hb hts hml hown hK hP hS (c_X7_isWalker l D w σ a1 v2 h2) hw_X7_212 hd_X7_isWalker ⟨rfl, rfl, rfl⟩ o184 (ce7 kd184) rfl ⟨Nat.le_of_ble_eq_true rfl, Nat.le_of_ble_eq_true rfl⟩ ⟨Nat.le_of_ble_eq_true rfl, Nat.le_of_ble_eq_true rfl⟩ hl.1 rfl (Nat.le_of_ble_eq_true rfl) dX7_walker_2 (fun hz2 H locs hP hS => ?_)
  refine lv_if_ne (tgt := 10) hx hb dX7_walker_5 (by decide) (fun hc => ?_) (fun hc => ?_)
  · have hf := ifp hc hf
    refine lv_iload_n hx hb dX7_walker_10 rfl (lv_at hl 2 rfl) ?_
    rcases Decidable.em (a2 = (0 : Int32)) with hc | hc0
    · have hf := ifp hc hf
      refine lv_tableIn (off := 25) (tgt := 36) hx hb dX7_walker_11 (by rw [hc]; decide) (by rw [hc]; decide) (by rw [hc]; rfl) (by decide) ?_
      refine lv_aload_n hx hb dX7_walker_36 rfl (lv_at hl 0 rfl) ?_
      refine gt_X7_41 hx hb hts hown hK hP dX7_walker_37 ?_
      refine lv_iconst (v := (0 : Int32)) hx hb dX7_walker_40 (by decide) ?_
      refine lv_iload_n hx hb dX7_walker_41 rfl (lv_at hl 1 rfl) ?_
      refine lv_iadd hx hb dX7_walker_42 ?_
      obtain ⟨v43, h43, hf⟩ := bnd hf
      refine q_iald hx hb hK hP isC195.o isC195.k h43 dX7_walker_43 ?_
      have hq := Option.some.inj hf
      exact q_iret hx hb hr hlk hP hS hq rfl dX7_walker_44
    have hf := ifn hc0 hf
    rcases Decidable.em (a2 = (1 : Int32)) with hc | hc1
    · have hf := ifp hc hf
      refine lv_tableIn (off := 34) (tgt := 45) hx hb dX7_walker_11 (by rw [hc]; decide) (by rw [hc]; decide) (by rw [hc]; rfl) (by decide) ?_
      refine lv_aload_n hx hb dX7_walker_45 rfl (lv_at hl 0 rfl) ?_
      refine gt_X7_26 hx hb hts hown hK hP dX7_walker_46 ?_
      refine lv_iload_n hx hb dX7_walker_49 rfl (lv_at hl 1 rfl) ?_
      obtain ⟨v50, h50, hf⟩ := bnd hf
      refine q_iald hx hb hK hP isC190.o isC190.k h50 dX7_walker_50 ?_
      have hq := Option.some.inj hf
      exact q_iret hx hb hr hlk hP hS hq rfl dX7_walker_51
    have hf := ifn hc1 hf
    rcases Decidable.em (a2 = (2 : Int32)) with hc | hc2
    · have hf := ifp hc hf
      refine lv_tableIn (off := 41) (tgt := 52) hx hb dX7_walker_11 (by rw [hc]; decide) (by rw [hc]; decide) (by rw [hc]; rfl) (by decide) ?_
      refine lv_aload_n hx hb dX7_walker_52 rfl (lv_at hl 0 rfl) ?_
      refine gt_X7_41 hx hb hts hown hK hP dX7_walker_53 ?_
      refine lv_iconst (v := (0 : Int32)) hx hb dX7_walker_56 (by decide) ?_
      refine lv_iload_n hx hb dX7_walker_57 rfl (lv_at hl 1 rfl) ?_
      refine lv_iadd hx hb dX7_walker_58 ?_
      obtain ⟨v59, h59, hf⟩ := bnd hf
      refine q_iald hx hb hK hP isC195.o isC195.k h59 dX7_walker_59 ?_
      refine lv_aload_n hx hb dX7_walker_60 rfl (lv_at hl 0 rfl) ?_
      refine gt_X7_26 hx hb hts hown hK hP dX7_walker_61 ?_
      refine lv_iload_n hx hb dX7_walker_64 rfl (lv_at hl 1 rfl) ?_
      obtain ⟨v65, h65, hf⟩ := bnd hf
      refine q_iald hx hb hK hP isC190.o isC190.k h65 dX7_walker_65 ?_
      refine lv_icmp_ne (tgt := 73) hx hb dX7_walker_66 (by decide) (fun hc => ?_) (fun hc => ?_)
      · have hf := ifp hc hf
        refine lv_iconst (v := (0 : Int32)) hx hb dX7_walker_73 (by decide) ?_
        have hq := Option.some.inj hf
        exact q_iret hx hb hr hlk hP hS hq rfl dX7_walker_74
      · have hf := ifn (fun h => h hc) hf
        refine lv_iconst (v := (1 : Int32)) hx hb dX7_walker_69 (by decide) ?_
        refine lv_goto (tgt := 74) hx hb dX7_walker_70 (by decide) ?_
        have hq := Option.some.inj hf
        exact q_iret hx hb hr hlk hP hS hq rfl dX7_walker_74
    have hf := ifn hc2 hf
    refine lv_tableOut (tgt := 75) hx hb dX7_walker_11 (tb_out_0_2 hc0 hc1 hc2) (by decide) ?_
    refine lv_iconst (v := (-1 : Int32)) hx hb dX7_walker_75 (by decide) ?_
    have hq := Option.some.inj hf
    exact q_iret hx hb hr hlk hP hS hq rfl dX7_walker_76
  · have hf := ifn (fun h => h hc) hf
    refine lv_iconst (v := (-1 : Int32)) hx hb dX7_walker_8 (by decide) ?_
    have hq := Option.some.inj hf
    exact q_iret hx hb hr hlk hP hS hq rfl dX7_walker_9
def f_X7_know_b1 (x1_52 : Int32) (σ_52 : Sg) : Option ((Int32 × Sg) ⊕ Sg) :=
  if (179 : Int32) ≤ x1_52 then
  some (.inr σ_52)
  else
  (ga (σ_52 (195)) (ln (195)) x1_52).bind fun v78 =>
  (sa σ_52 (196) (ln (196)) (((179 : Int32) * (σ_52 184 16)) + x1_52) v78).bind fun σ79 =>
  some (.inl ((x1_52 + (1 : Int32)), σ79))
def f_X7_know_k1 (σ_86 : Sg) : Option Sg :=
  (some (sf σ_86 (184) 16 ((σ_86 184 16) + (1 : Int32)))).bind fun σ93 =>
  some σ93
def f_X7_know_b2 (x1_11 : Int32) (σ_11 : Sg) : Option ((Int32 × Sg) ⊕ Sg) :=
  if (1253 : Int32) ≤ x1_11 then
  some (.inr σ_11)
  else
  (ga (σ_11 (196)) (ln (196)) ((179 : Int32) + x1_11)).bind fun v32 =>
  (sa σ_11 (196) (ln (196)) x1_11 v32).bind fun σ33 =>
  some (.inl ((x1_11 + (1 : Int32)), σ33))
def f_X7_know_k2 (σ_40 : Sg) : Option Sg :=
  (some (sf σ_40 (184) 16 ((σ_40 184 16) - (1 : Int32)))).bind fun σ47 =>
  (lp (fun st => f_X7_know_b1  st.1 st.2) FU ((0 : Int32), σ47)).bind fun rr => f_X7_know_k1 rr
def f_X7_know (σ : Sg)  : Option Sg :=
  if ¬ (σ 184 16) = (8 : Int32) then
  (lp (fun st => f_X7_know_b1  st.1 st.2) FU ((0 : Int32), σ)).bind fun rr => f_X7_know_k1 rr
  else
  (lp (fun st => f_X7_know_b2  st.1 st.2) FU ((0 : Int32), σ)).bind fun rr => f_X7_know_k2 rr
set_option maxHeartbeats 4000000 in
set_option maxRecDepth 100000 in
theorem c_X7_know (l : Launch) (D : va_G) (w : Wv) (σ : Sg)  (σ' : Sg)  (hJ : Inj w) (hf : f_X7_know σ = some σ') : Met l yX7_know (.code yX7_know cX7_know 2 none :: TB) (rmW 0 0) (pcW D w [.ref (w.1 (184))] σ) (qvW D w σ') 0 0 (AL w) := by
  refine q_open (by decide +kernel) (Nat.le_of_ble_eq_true rfl) ?_
  intro p e s m args below meth c ls hx hb hml hr hlk hown hts hK hP hS hl
  have hown : s.vm.findClass RX7 = some m.cls := hown
  have hl : lv_has ls 2 [(0, .ref (w.1 (184)))] := hl
  unfold f_X7_know at hf
  refine lv_aload_n hx hb dX7_know_0 rfl (lv_at hl 0 rfl) ?_
  refine gt_X7_154 hx hb hts hown hK hP dX7_know_1 ?_
  refine lv_bipush (v := (8 : Int32)) hx hb dX7_know_4 (by decide) ?_
  refine lv_icmp_ne (tgt := 50) hx hb dX7_know_6 (by decide) (fun hc => ?_) (fun hc => ?_)
  · have hf := ifp hc hf
    refine lv_iconst (v := (0 : Int32)) hx hb dX7_know_50 (by decide) ?_
    refine lv_istore_n (lv' := [(1, .int (0 : Int32)), (0, .ref (w.1 (184)))]) hx hb dX7_know_51 rfl hl (by decide) rfl (fun ls hl => ?_)
    obtain ⟨rr, hlp, hf⟩ := bnd hf
    have hE52_86 : ∀ (σ_86 : Sg) (H : Heap) (locs : List Loc) (ls : Array Slot), f_X7_know_k1 σ_86 = some σ' → va_P D vwCl (WL w σ_86) H → va_S (AL w) s.heap H locs → lv_has ls 2 [(0, .ref (w.1 (184)))] → W p l e (rmW 0 0) s m args below meth c H locs 0 0 (MQ below (qvW D w σ') args s 0 0 (AL w)) (F0 m 86 ls []) := by
      intro σ_86 H locs ls hf hP hS hl
      unfold f_X7_know_k1 at hf
      refine lv_aload_n hx hb dX7_know_86 rfl (lv_at hl 0 rfl) ?_
      refine lv_dup hx hb dX7_know_87 rfl ?_
      refine gt_X7_154 hx hb hts hown hK hP dX7_know_88 ?_
      refine lv_iconst (v := (1 : Int32)) hx hb dX7_know_91 (by decide) ?_
      refine lv_iadd hx hb dX7_know_92 ?_
      obtain ⟨σ93, h93, hf⟩ := bnd hf
      refine pt_X7_154 hx hb hts hown hK hP hJ hS h93 dX7_know_93 (fun H locs hP hS => ?_)
      have hq := Option.some.inj hf
      exact q_vret hx hb hr hlk hP hS hq dX7_know_96
    refine lp_ind (G := fun (st : (Int32 × Sg)) => ∀ (H : Heap) (locs : List Loc) (ls : Array Slot), va_P D vwCl (WL w st.2) H → va_S (AL w) s.heap H locs → lv_has ls 2 [(0, .ref (w.1 (184))), (1, .int st.1)] → W p l e (rmW 0 0) s m args below meth c H locs 0 0 (MQ below (qvW D w σ') args s 0 0 (AL w)) (F0 m 52 ls [])) (X := fun rr => f_X7_know_k1 rr = some σ') ?_ _ _ rr hlp hf _ _ _ hP hS (lv_sub hl [1, 0] rfl)
    rintro ⟨x1_52, σ_52⟩ oo52 hb9 hG52 hX52 H locs ls hP hS hl
    have hP : va_P D vwCl (WL w σ_52) H := hP
    have hl : lv_has ls 2 [(0, .ref (w.1 (184))), (1, .int x1_52)] := hl
    have hf : f_X7_know_b1  x1_52 σ_52 = some oo52 := hb9
    unfold f_X7_know_b1 at hf
    refine lv_iload_n hx hb dX7_know_52 rfl (lv_at hl 1 rfl) ?_
    refine lv_sipush (v := (179 : Int32)) hx hb dX7_know_53 (by decide) ?_
    refine lv_icmp_ge (tgt := 86) hx hb dX7_know_56 (by decide) (fun hc => ?_) (fun hc => ?_)
    · have hf := ifp hc hf
      obtain rfl := Option.some.inj hf
      exact hE52_86 σ_52 _ _ _ (hX52 _ rfl) hP hS (lv_sub hl [0] rfl)
    · have hf := ifn hc hf
      refine lv_aload_n hx hb dX7_know_59 rfl (lv_at hl 0 rfl) ?_
      refine gt_X7_44 hx hb hts hown hK hP dX7_know_60 ?_
      refine lv_sipush (v := (179 : Int32)) hx hb dX7_know_63 (by decide) ?_
      refine lv_aload_n hx hb dX7_know_66 rfl (lv_at hl 0 rfl) ?_
      refine gt_X7_154 hx hb hts hown hK hP dX7_know_67 ?_
      refine lv_imul hx hb dX7_know_70 ?_
      refine lv_iload_n hx hb dX7_know_71 rfl (lv_at hl 1 rfl) ?_
      refine lv_iadd hx hb dX7_know_72 ?_
      refine lv_aload_n hx hb dX7_know_73 rfl (lv_at hl 0 rfl) ?_
      refine gt_X7_41 hx hb hts hown hK hP dX7_know_74 ?_
      refine lv_iload_n hx hb dX7_know_77 rfl (lv_at hl 1 rfl) ?_
      obtain ⟨v78, h78, hf⟩ := bnd hf
      refine q_iald hx hb hK hP isC195.o isC195.k h78 dX7_know_78 ?_
      obtain ⟨σ79, h79, hf⟩ := bnd hf
      refine q_iast hx hb hK hP hJ hS isC196.o isC196.k h79 dX7_know_79 (fun H locs hP hS => ?_)
      refine lv_iinc (v := (x1_52 + (1 : Int32))) (lv' := [(1, .int (x1_52 + (1 : Int32))), (0, .ref (w.1 (184)))]) hx hb dX7_know_80 hl (k := 1) rfl ii_1 (by decide) rfl (fun ls hl => ?_)
      refine lv_goto (tgt := 52) hx hb dX7_know_83 (by decide) ?_
      obtain rfl := Option.some.inj hf
      exact hG52 _ rfl _ _ _ hP hS (lv_sub hl [1, 0] rfl)
  · have hf := ifn (fun h => h hc) hf
    refine lv_iconst (v := (0 : Int32)) hx hb dX7_know_9 (by decide) ?_
    refine lv_istore_n (lv' := [(1, .int (0 : Int32)), (0, .ref (w.1 (184)))]) hx hb dX7_know_10 rfl hl (by decide) rfl (fun ls hl => ?_)
    obtain ⟨rr, hlp, hf⟩ := bnd hf
    have hE11_40 : ∀ (σ_40 : Sg) (H : Heap) (locs : List Loc) (ls : Array Slot), f_X7_know_k2 σ_40 = some σ' → va_P D vwCl (WL w σ_40) H → va_S (AL w) s.heap H locs → lv_has ls 2 [(0, .ref (w.1 (184)))] → W p l e (rmW 0 0) s m args below meth c H locs 0 0 (MQ below (qvW D w σ') args s 0 0 (AL w)) (F0 m 40 ls []) := by
      intro σ_40 H locs ls hf hP hS hl
      unfold f_X7_know_k2 at hf
      refine lv_aload_n hx hb dX7_know_40 rfl (lv_at hl 0 rfl) ?_
      refine lv_dup hx hb dX7_know_41 rfl ?_
      refine gt_X7_154 hx hb hts hown hK hP dX7_know_42 ?_
      refine lv_iconst (v := (1 : Int32)) hx hb dX7_know_45 (by decide) ?_
      refine lv_isub hx hb dX7_know_46 ?_
      obtain ⟨σ47, h47, hf⟩ := bnd hf
      refine pt_X7_154 hx hb hts hown hK hP hJ hS h47 dX7_know_47 (fun H locs hP hS => ?_)
      refine lv_iconst (v := (0 : Int32)) hx hb dX7_know_50 (by decide) ?_
      refine lv_istore_n (lv' := [(1, .int (0 : Int32)), (0, .ref (w.1 (184)))]) hx hb dX7_know_51 rfl hl (by decide) rfl (fun ls hl => ?_)
      obtain ⟨rr, hlp, hf⟩ := bnd hf
      have hE52_86 : ∀ (σ_86 : Sg) (H : Heap) (locs : List Loc) (ls : Array Slot), f_X7_know_k1 σ_86 = some σ' → va_P D vwCl (WL w σ_86) H → va_S (AL w) s.heap H locs → lv_has ls 2 [(0, .ref (w.1 (184)))] → W p l e (rmW 0 0) s m args below meth c H locs 0 0 (MQ below (qvW D w σ') args s 0 0 (AL w)) (F0 m 86 ls []) := by
        intro σ_86 H locs ls hf hP hS hl
        unfold f_X7_know_k1 at hf
        refine lv_aload_n hx hb dX7_know_86 rfl (lv_at hl 0 rfl) ?_
        refine lv_dup hx hb dX7_know_87 rfl ?_
        refine gt_X7_154 hx hb hts hown hK hP dX7_know_88 ?_
        refine lv_iconst (v := (1 : Int32)) hx hb dX7_know_91 (by decide) ?_
        refine lv_iadd hx hb dX7_know_92 ?_
        obtain ⟨σ93, h93, hf⟩ := bnd hf
        refine pt_X7_154 hx hb hts hown hK hP hJ hS h93 dX7_know_93 (fun H locs hP hS => ?_)
        have hq := Option.some.inj hf
        exact q_vret hx hb hr hlk hP hS hq dX7_know_96
      refine lp_ind (G := fun (st : (Int32 × Sg)) => ∀ (H : Heap) (locs : List Loc) (ls : Array Slot), va_P D vwCl (WL w st.2) H → va_S (AL w) s.heap H locs → lv_has ls 2 [(0, .ref (w.1 (184))), (1, .int st.1)] → W p l e (rmW 0 0) s m args below meth c H locs 0 0 (MQ below (qvW D w σ') args s 0 0 (AL w)) (F0 m 52 ls [])) (X := fun rr => f_X7_know_k1 rr = some σ') ?_ _ _ rr hlp hf _ _ _ hP hS (lv_sub hl [1, 0] rfl)
      rintro ⟨x1_52, σ_52⟩ oo52 hb9 hG52 hX52 H locs ls hP hS hl
      have hP : va_P D vwCl (WL w σ_52) H := hP
      have hl : lv_has ls 2 [(0, .ref (w.1 (184))), (1, .int x1_52)] := hl
      have hf : f_X7_know_b1  x1_52 σ_52 = some oo52 := hb9
      unfold f_X7_know_b1 at hf
      refine lv_iload_n hx hb dX7_know_52 rfl (lv_at hl 1 rfl) ?_
      refine lv_sipush (v := (179 : Int32)) hx hb dX7_know_53 (by decide) ?_
      refine lv_icmp_ge (tgt := 86) hx hb dX7_know_56 (by decide) (fun hc => ?_) (fun hc => ?_)
      · have hf := ifp hc hf
        obtain rfl := Option.some.inj hf
        exact hE52_86 σ_52 _ _ _ (hX52 _ rfl) hP hS (lv_sub hl [0] rfl)
      · have hf := ifn hc hf
        refine lv_aload_n hx hb dX7_know_59 rfl (lv_at hl 0 rfl) ?_
        refine gt_X7_44 hx hb hts hown hK hP dX7_know_60 ?_
        refine lv_sipush (v := (179 : Int32)) hx hb dX7_know_63 (by decide) ?_
        refine lv_aload_n hx hb dX7_know_66 rfl (lv_at hl 0 rfl) ?_
        refine gt_X7_154 hx hb hts hown hK hP dX7_know_67 ?_
        refine lv_imul hx hb dX7_know_70 ?_
        refine lv_iload_n hx hb dX7_know_71 rfl (lv_at hl 1 rfl) ?_
        refine lv_iadd hx hb dX7_know_72 ?_
        refine lv_aload_n hx hb dX7_know_73 rfl (lv_at hl 0 rfl) ?_
        refine gt_X7_41 hx hb hts hown hK hP dX7_know_74 ?_
        refine lv_iload_n hx hb dX7_know_77 rfl (lv_at hl 1 rfl) ?_
        obtain ⟨v78, h78, hf⟩ := bnd hf
        refine q_iald hx hb hK hP isC195.o isC195.k h78 dX7_know_78 ?_
        obtain ⟨σ79, h79, hf⟩ := bnd hf
        refine q_iast hx hb hK hP hJ hS isC196.o isC196.k h79 dX7_know_79 (fun H locs hP hS => ?_)
        refine lv_iinc (v := (x1_52 + (1 : Int32))) (lv' := [(1, .int (x1_52 + (1 : Int32))), (0, .ref (w.1 (184)))]) hx hb dX7_know_80 hl (k := 1) rfl ii_1 (by decide) rfl (fun ls hl => ?_)
        refine lv_goto (tgt := 52) hx hb dX7_know_83 (by decide) ?_
        obtain rfl := Option.some.inj hf
        exact hG52 _ rfl _ _ _ hP hS (lv_sub hl [1, 0] rfl)
    refine lp_ind (G := fun (st : (Int32 × Sg)) => ∀ (H : Heap) (locs : List Loc) (ls : Array Slot), va_P D vwCl (WL w st.2) H → va_S (AL w) s.heap H locs → lv_has ls 2 [(0, .ref (w.1 (184))), (1, .int st.1)] → W p l e (rmW 0 0) s m args below meth c H locs 0 0 (MQ below (qvW D w σ') args s 0 0 (AL w)) (F0 m 11 ls [])) (X := fun rr => f_X7_know_k2 rr = some σ') ?_ _ _ rr hlp hf _ _ _ hP hS (lv_sub hl [1, 0] rfl)
    rintro ⟨x1_11, σ_11⟩ oo11 hb9 hG11 hX11 H locs ls hP hS hl
    have hP : va_P D vwCl (WL w σ_11) H := hP
    have hl : lv_has ls 2 [(0, .ref (w.1 (184))), (1, .int x1_11)] := hl
    have hf : f_X7_know_b2  x1_11 σ_11 = some oo11 := hb9
    unfold f_X7_know_b2 at hf
    refine lv_iload_n hx hb dX7_know_11 rfl (lv_at hl 1 rfl) ?_
    refine lv_sipush (v := (1253 : Int32)) hx hb dX7_know_12 (by decide) ?_
    refine lv_icmp_ge (tgt := 40) hx hb dX7_know_15 (by decide) (fun hc => ?_) (fun hc => ?_)
    · have hf := ifp hc hf
      obtain rfl := Option.some.inj hf
      exact hE11_40 σ_11 _ _ _ (hX11 _ rfl) hP hS (lv_sub hl [0] rfl)
    · have hf := ifn hc hf
      refine lv_aload_n hx hb dX7_know_18 rfl (lv_at hl 0 rfl) ?_
      refine gt_X7_44 hx hb hts hown hK hP dX7_know_19 ?_
      refine lv_iload_n hx hb dX7_know_22 rfl (lv_at hl 1 rfl) ?_
      refine lv_aload_n hx hb dX7_know_23 rfl (lv_at hl 0 rfl) ?_
      refine gt_X7_44 hx hb hts hown hK hP dX7_know_24 ?_
      refine lv_sipush (v := (179 : Int32)) hx hb dX7_know_27 (by decide) ?_
      refine lv_iload_n hx hb dX7_know_30 rfl (lv_at hl 1 rfl) ?_
      refine lv_iadd hx hb dX7_know_31 ?_
      obtain ⟨v32, h32, hf⟩ := bnd hf
      refine q_iald hx hb hK hP isC196.o isC196.k h32 dX7_know_32 ?_
      obtain ⟨σ33, h33, hf⟩ := bnd hf
      refine q_iast hx hb hK hP hJ hS isC196.o isC196.k h33 dX7_know_33 (fun H locs hP hS => ?_)
      refine lv_iinc (v := (x1_11 + (1 : Int32))) (lv' := [(1, .int (x1_11 + (1 : Int32))), (0, .ref (w.1 (184)))]) hx hb dX7_know_34 hl (k := 1) rfl ii_1 (by decide) rfl (fun ls hl => ?_)
      refine lv_goto (tgt := 11) hx hb dX7_know_37 (by decide) ?_
      obtain rfl := Option.some.inj hf
      exact hG11 _ rfl _ _ _ hP hS (lv_sub hl [1, 0] rfl)
def f_X7_pass_b1 (a1 : Int32) (x2_35 : Int32) (σ_35 : Sg) : Option ((Int32 × Sg) ⊕ Sg) :=
  if a1 ≤ x2_35 then
  some (.inr σ_35)
  else
  (f_X7_passHour σ_35 (195)).bind fun σ45 =>
  some (.inl ((x2_35 + (1 : Int32)), σ45))
def f_X7_pass_k1 (σ_54 : Sg) : Option (Int32 × Sg) :=
  (ga (σ_54 (195)) (ln (195)) (5 : Int32)).bind fun v59 =>
  some (v59, σ_54)
def f_X7_pass (σ : Sg) (a1 : Int32) : Option (Int32 × Sg) :=
  (f_X7_in σ a1 (1 : Int32) (20 : Int32)).bind fun v4 =>
  if ¬ v4 = 0 then
  (ga (σ (195)) (ln (195)) (5 : Int32)).bind fun v17 =>
  if (v17 + a1) ≤ (999 : Int32) then
  (f_X7_know σ).bind fun σ30 =>
  (lp (fun st => f_X7_pass_b1 a1 st.1 st.2) FU ((0 : Int32), σ30)).bind fun rr => f_X7_pass_k1 rr
  else
  some ((-2 : Int32), σ)
  else
  some ((-1 : Int32), σ)
set_option maxHeartbeats 4000000 in
set_option maxRecDepth 100000 in
theorem c_X7_pass (l : Launch) (D : va_G) (w : Wv) (σ : Sg) (a1 : Int32) (r : Int32) (σ' : Sg)  (hJ : Inj w) (hf : f_X7_pass σ a1 = some (r, σ')) : Met l yX7_pass (.code yX7_pass cX7_pass 3 (some .int) :: TB) (rmW 4 103) (pcW D w [.ref (w.1 (184)), .int a1] σ) (qiW D w r σ') 0 0 (AL w) := by
  refine q_open (by decide +kernel) (Nat.le_of_ble_eq_true rfl) ?_
  intro p e s m args below meth c ls hx hb hml hr hlk hown hts hK hP hS hl
  have hown : s.vm.findClass RX7 = some m.cls := hown
  have hl : lv_has ls 3 [(0, .ref (w.1 (184))), (1, .int a1)] := hl
  unfold f_X7_pass at hf
  refine lv_iload_n hx hb dX7_pass_0 rfl (lv_at hl 1 rfl) ?_
  refine lv_iconst (v := (1 : Int32)) hx hb dX7_pass_1 (by decide) ?_
  refine lv_bipush (v := (20 : Int32)) hx hb dX7_pass_2 (by decide) ?_
  obtain ⟨v4, h4, hf⟩ := bnd hf
  refine q_cSz (As := [.int a1, .int (1 : Int32), .int (20 : Int32)]) hx hb hts hml hown hK hP hS (c_X7_in l D w σ a1 (1 : Int32) (20 : Int32) v4 h4) hw_X7_83 hd_X7_in ⟨rfl, rfl, rfl⟩ ⟨Nat.le_of_ble_eq_true rfl, Nat.le_of_ble_eq_true rfl⟩ ⟨Nat.le_of_ble_eq_true rfl, Nat.le_of_ble_eq_true rfl⟩ hl.1 rfl (Nat.le_of_ble_eq_true rfl) dX7_pass_4 (fun hz4 H locs hP hS => ?_)
  refine lv_if_ne (tgt := 12) hx hb dX7_pass_7 (by decide) (fun hc => ?_) (fun hc => ?_)
  · have hf := ifp hc hf
    refine lv_aload_n hx hb dX7_pass_12 rfl (lv_at hl 0 rfl) ?_
    refine gt_X7_41 hx hb hts hown hK hP dX7_pass_13 ?_
    refine lv_iconst (v := (5 : Int32)) hx hb dX7_pass_16 (by decide) ?_
    obtain ⟨v17, h17, hf⟩ := bnd hf
    refine q_iald hx hb hK hP isC195.o isC195.k h17 dX7_pass_17 ?_
    refine lv_iload_n hx hb dX7_pass_18 rfl (lv_at hl 1 rfl) ?_
    refine lv_iadd hx hb dX7_pass_19 ?_
    refine lv_sipush (v := (999 : Int32)) hx hb dX7_pass_20 (by decide) ?_
    refine lv_icmp_le (tgt := 29) hx hb dX7_pass_23 (by decide) (fun hc => ?_) (fun hc => ?_)
    · have hf := ifp hc hf
      refine lv_aload_n hx hb dX7_pass_29 rfl (lv_at hl 0 rfl) ?_
      obtain ⟨σ30, h30, hf⟩ := bnd hf
      refine q_cVv (As := []) hx hb hts hml hown hK hP hS (c_X7_know l D w σ σ30 hJ h30) hw_X7_215 hd_X7_know ⟨rfl, rfl, rfl⟩ o184 (ce7 kd184) rfl ⟨Nat.le_of_ble_eq_true rfl, Nat.le_of_ble_eq_true rfl⟩ ⟨Nat.le_of_ble_eq_true rfl, Nat.le_of_ble_eq_true rfl⟩ hl.1 rfl (Nat.le_of_ble_eq_true rfl) dX7_pass_30 (fun H locs hP hS => ?_)
      refine lv_iconst (v := (0 : Int32)) hx hb dX7_pass_33 (by decide) ?_
      refine lv_istore_n (lv' := [(2, .int (0 : Int32)), (0, .ref (w.1 (184))), (1, .int a1)]) hx hb dX7_pass_34 rfl hl (by decide) rfl (fun ls hl => ?_)
      obtain ⟨rr, hlp, hf⟩ := bnd hf
      have hE35_54 : ∀ (σ_54 : Sg) (H : Heap) (locs : List Loc) (ls : Array Slot), f_X7_pass_k1 σ_54 = some (r, σ') → va_P D vwCl (WL w σ_54) H → va_S (AL w) s.heap H locs → lv_has ls 3 [(0, .ref (w.1 (184)))] → W p l e (rmW 4 103) s m args below meth c H locs 0 0 (MQ below (qiW D w r σ') args s 0 0 (AL w)) (F0 m 54 ls []) := by
        intro σ_54 H locs ls hf hP hS hl
        unfold f_X7_pass_k1 at hf
        refine lv_aload_n hx hb dX7_pass_54 rfl (lv_at hl 0 rfl) ?_
        refine gt_X7_41 hx hb hts hown hK hP dX7_pass_55 ?_
        refine lv_iconst (v := (5 : Int32)) hx hb dX7_pass_58 (by decide) ?_
        obtain ⟨v59, h59, hf⟩ := bnd hf
        refine q_iald hx hb hK hP isC195.o isC195.k h59 dX7_pass_59 ?_
        have hq := Option.some.inj hf
        exact q_iret hx hb hr hlk hP hS (congrArg Prod.fst hq) (congrArg Prod.snd hq) dX7_pass_60
      refine lp_ind (G := fun (st : (Int32 × Sg)) => ∀ (H : Heap) (locs : List Loc) (ls : Array Slot), va_P D vwCl (WL w st.2) H → va_S (AL w) s.heap H locs → lv_has ls 3 [(0, .ref (w.1 (184))), (1, .int a1), (2, .int st.1)] → W p l e (rmW 4 103) s m args below meth c H locs 0 0 (MQ below (qiW D w r σ') args s 0 0 (AL w)) (F0 m 35 ls [])) (X := fun rr => f_X7_pass_k1 rr = some (r, σ')) ?_ _ _ rr hlp hf _ _ _ hP hS (lv_sub hl [1, 2, 0] rfl)
      rintro ⟨x2_35, σ_35⟩ oo35 hb9 hG35 hX35 H locs ls hP hS hl
      have hP : va_P D vwCl (WL w σ_35) H := hP
      have hl : lv_has ls 3 [(0, .ref (w.1 (184))), (1, .int a1), (2, .int x2_35)] := hl
      have hf : f_X7_pass_b1 a1 x2_35 σ_35 = some oo35 := hb9
      unfold f_X7_pass_b1 at hf
      refine lv_iload_n hx hb dX7_pass_35 rfl (lv_at hl 2 rfl) ?_
      refine lv_iload_n hx hb dX7_pass_36 rfl (lv_at hl 1 rfl) ?_
      refine lv_icmp_ge (tgt := 54) hx hb dX7_pass_37 (by decide) (fun hc => ?_) (fun hc => ?_)
      · have hf := ifp hc hf
        obtain rfl := Option.some.inj hf
        exact hE35_54 σ_35 _ _ _ (hX35 _ rfl) hP hS (lv_sub hl [0] rfl)
      · have hf := ifn hc hf
        refine lv_aload_n hx hb dX7_pass_40 rfl (lv_at hl 0 rfl) ?_
        refine lv_aload_n hx hb dX7_pass_41 rfl (lv_at hl 0 rfl) ?_
        refine gt_X7_41 hx hb hts hown hK hP dX7_pass_42 ?_
        obtain ⟨σ45, h45, hf⟩ := bnd hf
        refine q_cVv (As := [.ref (w.1 (195))]) hx hb hts hml hown hK hP hS (c_X7_passHour l D w σ_35 (195) σ45 isC195 hJ h45) hw_X7_198 hd_X7_passHour ⟨rfl, rfl, rfl⟩ o184 (ce7 kd184) rfl ⟨Nat.le_of_ble_eq_true rfl, Nat.le_of_ble_eq_true rfl⟩ ⟨Nat.le_of_ble_eq_true rfl, Nat.le_of_ble_eq_true rfl⟩ hl.1 rfl (Nat.le_of_ble_eq_true rfl) dX7_pass_45 (fun H locs hP hS => ?_)
        refine lv_iinc (v := (x2_35 + (1 : Int32))) (lv' := [(2, .int (x2_35 + (1 : Int32))), (0, .ref (w.1 (184))), (1, .int a1)]) hx hb dX7_pass_48 hl (k := 2) rfl ii_1 (by decide) rfl (fun ls hl => ?_)
        refine lv_goto (tgt := 35) hx hb dX7_pass_51 (by decide) ?_
        obtain rfl := Option.some.inj hf
        exact hG35 _ rfl _ _ _ hP hS (lv_sub hl [1, 2, 0] rfl)
    · have hf := ifn hc hf
      refine lv_bipush (v := (-2 : Int32)) hx hb dX7_pass_26 (by decide) ?_
      have hq := Option.some.inj hf
      exact q_iret hx hb hr hlk hP hS (congrArg Prod.fst hq) (congrArg Prod.snd hq) dX7_pass_28
  · have hf := ifn (fun h => h hc) hf
    refine lv_iconst (v := (-1 : Int32)) hx hb dX7_pass_10 (by decide) ?_
    have hq := Option.some.inj hf
    exact q_iret hx hb hr hlk hP hS (congrArg Prod.fst hq) (congrArg Prod.snd hq) dX7_pass_11
def f_X7_year (σ : Sg)  : Option (Int32 × Sg) :=
  (f_X7_know σ).bind fun σ1 =>
  (f_X7_passYear σ1 (195)).bind fun q9 =>
  some (q9.1, q9.2)
set_option maxHeartbeats 4000000 in
set_option maxRecDepth 100000 in
theorem c_X7_year (l : Launch) (D : va_G) (w : Wv) (σ : Sg)  (r : Int32) (σ' : Sg)  (hJ : Inj w) (hf : f_X7_year σ = some (r, σ')) : Met l yX7_year (.code yX7_year cX7_year 1 (some .int) :: TB) (rmW 1 23) (pcW D w [.ref (w.1 (184))] σ) (qiW D w r σ') 0 0 (AL w) := by
  refine q_open (by decide +kernel) (Nat.le_of_ble_eq_true rfl) ?_
  intro p e s m args below meth c ls hx hb hml hr hlk hown hts hK hP hS hl
  have hown : s.vm.findClass RX7 = some m.cls := hown
  have hl : lv_has ls 1 [(0, .ref (w.1 (184)))] := hl
  unfold f_X7_year at hf
  refine lv_aload_n hx hb dX7_year_0 rfl (lv_at hl 0 rfl) ?_
  obtain ⟨σ1, h1, hf⟩ := bnd hf
  refine q_cVv (As := []) hx hb hts hml hown hK hP hS (c_X7_know l D w σ σ1 hJ h1) hw_X7_215 hd_X7_know ⟨rfl, rfl, rfl⟩ o184 (ce7 kd184) rfl ⟨Nat.le_of_ble_eq_true rfl, Nat.le_of_ble_eq_true rfl⟩ ⟨Nat.le_of_ble_eq_true rfl, Nat.le_of_ble_eq_true rfl⟩ hl.1 rfl (Nat.le_of_ble_eq_true rfl) dX7_year_1 (fun H locs hP hS => ?_)
  refine lv_aload_n hx hb dX7_year_4 rfl (lv_at hl 0 rfl) ?_
  refine lv_aload_n hx hb dX7_year_5 rfl (lv_at hl 0 rfl) ?_
  refine gt_X7_41 hx hb hts hown hK hP dX7_year_6 ?_
  obtain ⟨⟨v9, σ9⟩, h9, hf⟩ := bnd hf
  dsimp only at hf
  refine q_cVi (As := [.ref (w.1 (195))]) hx hb hts hml hown hK hP hS (c_X7_passYear l D w σ1 (195) v9 σ9 isC195 hJ h9) hw_X7_218 hd_X7_passYear ⟨rfl, rfl, rfl⟩ o184 (ce7 kd184) rfl ⟨Nat.le_of_ble_eq_true rfl, Nat.le_of_ble_eq_true rfl⟩ ⟨Nat.le_of_ble_eq_true rfl, Nat.le_of_ble_eq_true rfl⟩ hl.1 rfl (Nat.le_of_ble_eq_true rfl) dX7_year_9 (fun H locs hP hS => ?_)
  have hq := Option.some.inj hf
  exact q_iret hx hb hr hlk hP hS (congrArg Prod.fst hq) (congrArg Prod.snd hq) dX7_year_12
def f_X7_layOn (σ : Sg) (a1 : Nat) (a2 : Int32) (a3 : Int32) (a4 : Int32) : Option Sg :=
  (sa σ (a1) (ln (a1)) (((7 : Int32) + ((8 : Int32) * a2)) + a3) a4).bind fun σ11 =>
  (sa σ11 (a1) (ln (a1)) (((7 : Int32) + ((8 : Int32) * a3)) + a2) a4).bind fun σ23 =>
  some σ23
set_option maxHeartbeats 4000000 in
set_option maxRecDepth 100000 in
theorem c_X7_layOn (l : Launch) (D : va_G) (w : Wv) (σ : Sg) (a1 : Nat) (a2 : Int32) (a3 : Int32) (a4 : Int32) (σ' : Sg) (ha1 : isC a1) (hJ : Inj w) (hf : f_X7_layOn σ a1 a2 a3 a4 = some σ') : Met l yX7_layOn (.code yX7_layOn cX7_layOn 4 none :: TB) (rmW 0 0) (pcW D w [.ref (w.1 (a1)), .int a2, .int a3, .int a4] σ) (qvW D w σ') 0 0 (AL w) := by
  refine q_open (by decide +kernel) (Nat.le_of_ble_eq_true rfl) ?_
  intro p e s m args below meth c ls hx hb hml hr hlk hown hts hK hP hS hl
  have hown : s.vm.findClass RX7 = some m.cls := hown
  have hl : lv_has ls 4 [(0, .ref (w.1 (a1))), (1, .int a2), (2, .int a3), (3, .int a4)] := hl
  unfold f_X7_layOn at hf
  refine lv_aload_n hx hb dX7_layOn_0 rfl (lv_at hl 0 rfl) ?_
  refine lv_bipush (v := (7 : Int32)) hx hb dX7_layOn_1 (by decide) ?_
  refine lv_bipush (v := (8 : Int32)) hx hb dX7_layOn_3 (by decide) ?_
  refine lv_iload_n hx hb dX7_layOn_5 rfl (lv_at hl 1 rfl) ?_
  refine lv_imul hx hb dX7_layOn_6 ?_
  refine lv_iadd hx hb dX7_layOn_7 ?_
  refine lv_iload_n hx hb dX7_layOn_8 rfl (lv_at hl 2 rfl) ?_
  refine lv_iadd hx hb dX7_layOn_9 ?_
  refine lv_iload_n hx hb dX7_layOn_10 rfl (lv_at hl 3 rfl) ?_
  obtain ⟨σ11, h11, hf⟩ := bnd hf
  refine q_iast hx hb hK hP hJ hS ha1.o ha1.k h11 dX7_layOn_11 (fun H locs hP hS => ?_)
  refine lv_aload_n hx hb dX7_layOn_12 rfl (lv_at hl 0 rfl) ?_
  refine lv_bipush (v := (7 : Int32)) hx hb dX7_layOn_13 (by decide) ?_
  refine lv_bipush (v := (8 : Int32)) hx hb dX7_layOn_15 (by decide) ?_
  refine lv_iload_n hx hb dX7_layOn_17 rfl (lv_at hl 2 rfl) ?_
  refine lv_imul hx hb dX7_layOn_18 ?_
  refine lv_iadd hx hb dX7_layOn_19 ?_
  refine lv_iload_n hx hb dX7_layOn_20 rfl (lv_at hl 1 rfl) ?_
  refine lv_iadd hx hb dX7_layOn_21 ?_
  refine lv_iload_n hx hb dX7_layOn_22 rfl (lv_at hl 3 rfl) ?_
  obtain ⟨σ23, h23, hf⟩ := bnd hf
  refine q_iast hx hb hK hP hJ hS ha1.o ha1.k h23 dX7_layOn_23 (fun H locs hP hS => ?_)
  have hq := Option.some.inj hf
  exact q_vret hx hb hr hlk hP hS hq dX7_layOn_24
def f_X7_lays (σ : Sg) (a1 : Int32) (a2 : Int32) (a3 : Int32) : Option (Int32 × Sg) :=
  (f_X7_isTown σ a1).bind fun v2 =>
  if v2 = 0 then
  some ((-1 : Int32), σ)
  else
  (f_X7_isTown σ a2).bind fun v10 =>
  if v10 = 0 then
  some ((-1 : Int32), σ)
  else
  if a1 = a2 then
  some ((-1 : Int32), σ)
  else
  (f_X7_in σ a3 (0 : Int32) (9 : Int32)).bind fun v25 =>
  if ¬ v25 = 0 then
  (f_X7_know σ).bind fun σ34 =>
  (ga (σ34 (195)) (ln (195)) (((7 : Int32) + ((8 : Int32) * a1)) + a2)).bind fun v50 =>
  (f_X7_layOn σ34 (195) a1 a2 a3).bind fun σ60 =>
  some (v50, σ60)
  else
  some ((-1 : Int32), σ)
set_option maxHeartbeats 4000000 in
set_option maxRecDepth 100000 in
theorem c_X7_lays (l : Launch) (D : va_G) (w : Wv) (σ : Sg) (a1 : Int32) (a2 : Int32) (a3 : Int32) (r : Int32) (σ' : Sg)  (hJ : Inj w) (hf : f_X7_lays σ a1 a2 a3 = some (r, σ')) : Met l yX7_lays (.code yX7_lays cX7_lays 5 (some .int) :: TB) (rmW 2 43) (pcW D w [.ref (w.1 (184)), .int a1, .int a2, .int a3] σ) (qiW D w r σ') 0 0 (AL w) := by
  refine q_open (by decide +kernel) (Nat.le_of_ble_eq_true rfl) ?_
  intro p e s m args below meth c ls hx hb hml hr hlk hown hts hK hP hS hl
  have hown : s.vm.findClass RX7 = some m.cls := hown
  have hl : lv_has ls 5 [(0, .ref (w.1 (184))), (1, .int a1), (2, .int a2), (3, .int a3)] := hl
  unfold f_X7_lays at hf
  refine lv_aload_n hx hb dX7_lays_0 rfl (lv_at hl 0 rfl) ?_
  refine lv_iload_n hx hb dX7_lays_1 rfl (lv_at hl 1 rfl) ?_
  obtain ⟨v2, h2, hf⟩ := bnd hf
  refine q_cVz (As := [.int a1]) hx hb hts hml hown hK hP hS (c_X7_isTown l D w σ a1 v2 h2) hw_X7_205 hd_X7_isTown ⟨rfl, rfl, rfl⟩ o184 (ce7 kd184) rfl ⟨Nat.le_of_ble_eq_true rfl, Nat.le_of_ble_eq_true rfl⟩ ⟨Nat.le_of_ble_eq_true rfl, Nat.le_of_ble_eq_true rfl⟩ hl.1 rfl (Nat.le_of_ble_eq_true rfl) dX7_lays_2 (fun hz2 H locs hP hS => ?_)
  refine lv_if_eq (tgt := 31) hx hb dX7_lays_5 (by decide) (fun hc => ?_) (fun hc => ?_)
  · have hf := ifp hc hf
    refine lv_iconst (v := (-1 : Int32)) hx hb dX7_lays_31 (by decide) ?_
    have hq := Option.some.inj hf
    exact q_iret hx hb hr hlk hP hS (congrArg Prod.fst hq) (congrArg Prod.snd hq) dX7_lays_32
  · have hf := ifn hc hf
    refine lv_aload_n hx hb dX7_lays_8 rfl (lv_at hl 0 rfl) ?_
    refine lv_iload_n hx hb dX7_lays_9 rfl (lv_at hl 2 rfl) ?_
    obtain ⟨v10, h10, hf⟩ := bnd hf
    refine q_cVz (As := [.int a2]) hx hb hts hml hown hK hP hS (c_X7_isTown l D w σ a2 v10 h10) hw_X7_205 hd_X7_isTown ⟨rfl, rfl, rfl⟩ o184 (ce7 kd184) rfl ⟨Nat.le_of_ble_eq_true rfl, Nat.le_of_ble_eq_true rfl⟩ ⟨Nat.le_of_ble_eq_true rfl, Nat.le_of_ble_eq_true rfl⟩ hl.1 rfl (Nat.le_of_ble_eq_true rfl) dX7_lays_10 (fun hz10 H locs hP hS => ?_)
    refine lv_if_eq (tgt := 31) hx hb dX7_lays_13 (by decide) (fun hc => ?_) (fun hc => ?_)
    · have hf := ifp hc hf
      refine lv_iconst (v := (-1 : Int32)) hx hb dX7_lays_31 (by decide) ?_
      have hq := Option.some.inj hf
      exact q_iret hx hb hr hlk hP hS (congrArg Prod.fst hq) (congrArg Prod.snd hq) dX7_lays_32
    · have hf := ifn hc hf
      refine lv_iload_n hx hb dX7_lays_16 rfl (lv_at hl 1 rfl) ?_
      refine lv_iload_n hx hb dX7_lays_17 rfl (lv_at hl 2 rfl) ?_
      refine lv_icmp_eq (tgt := 31) hx hb dX7_lays_18 (by decide) (fun hc => ?_) (fun hc => ?_)
      · have hf := ifp hc hf
        refine lv_iconst (v := (-1 : Int32)) hx hb dX7_lays_31 (by decide) ?_
        have hq := Option.some.inj hf
        exact q_iret hx hb hr hlk hP hS (congrArg Prod.fst hq) (congrArg Prod.snd hq) dX7_lays_32
      · have hf := ifn hc hf
        refine lv_iload_n hx hb dX7_lays_21 rfl (lv_at hl 3 rfl) ?_
        refine lv_iconst (v := (0 : Int32)) hx hb dX7_lays_22 (by decide) ?_
        refine lv_bipush (v := (9 : Int32)) hx hb dX7_lays_23 (by decide) ?_
        obtain ⟨v25, h25, hf⟩ := bnd hf
        refine q_cSz (As := [.int a3, .int (0 : Int32), .int (9 : Int32)]) hx hb hts hml hown hK hP hS (c_X7_in l D w σ a3 (0 : Int32) (9 : Int32) v25 h25) hw_X7_83 hd_X7_in ⟨rfl, rfl, rfl⟩ ⟨Nat.le_of_ble_eq_true rfl, Nat.le_of_ble_eq_true rfl⟩ ⟨Nat.le_of_ble_eq_true rfl, Nat.le_of_ble_eq_true rfl⟩ hl.1 rfl (Nat.le_of_ble_eq_true rfl) dX7_lays_25 (fun hz25 H locs hP hS => ?_)
        refine lv_if_ne (tgt := 33) hx hb dX7_lays_28 (by decide) (fun hc => ?_) (fun hc => ?_)
        · have hf := ifp hc hf
          refine lv_aload_n hx hb dX7_lays_33 rfl (lv_at hl 0 rfl) ?_
          obtain ⟨σ34, h34, hf⟩ := bnd hf
          refine q_cVv (As := []) hx hb hts hml hown hK hP hS (c_X7_know l D w σ σ34 hJ h34) hw_X7_215 hd_X7_know ⟨rfl, rfl, rfl⟩ o184 (ce7 kd184) rfl ⟨Nat.le_of_ble_eq_true rfl, Nat.le_of_ble_eq_true rfl⟩ ⟨Nat.le_of_ble_eq_true rfl, Nat.le_of_ble_eq_true rfl⟩ hl.1 rfl (Nat.le_of_ble_eq_true rfl) dX7_lays_34 (fun H locs hP hS => ?_)
          refine lv_aload_n hx hb dX7_lays_37 rfl (lv_at hl 0 rfl) ?_
          refine gt_X7_41 hx hb hts hown hK hP dX7_lays_38 ?_
          refine lv_bipush (v := (7 : Int32)) hx hb dX7_lays_41 (by decide) ?_
          refine lv_bipush (v := (8 : Int32)) hx hb dX7_lays_43 (by decide) ?_
          refine lv_iload_n hx hb dX7_lays_45 rfl (lv_at hl 1 rfl) ?_
          refine lv_imul hx hb dX7_lays_46 ?_
          refine lv_iadd hx hb dX7_lays_47 ?_
          refine lv_iload_n hx hb dX7_lays_48 rfl (lv_at hl 2 rfl) ?_
          refine lv_iadd hx hb dX7_lays_49 ?_
          obtain ⟨v50, h50, hf⟩ := bnd hf
          refine q_iald hx hb hK hP isC195.o isC195.k h50 dX7_lays_50 ?_
          refine lv_istore (lv' := [(4, .int v50), (0, .ref (w.1 (184))), (1, .int a1), (2, .int a2), (3, .int a3)]) hx hb dX7_lays_51 hl (by decide) rfl (fun ls hl => ?_)
          refine lv_aload_n hx hb dX7_lays_53 rfl (lv_at hl 1 rfl) ?_
          refine gt_X7_41 hx hb hts hown hK hP dX7_lays_54 ?_
          refine lv_iload_n hx hb dX7_lays_57 rfl (lv_at hl 2 rfl) ?_
          refine lv_iload_n hx hb dX7_lays_58 rfl (lv_at hl 3 rfl) ?_
          refine lv_iload_n hx hb dX7_lays_59 rfl (lv_at hl 4 rfl) ?_
          obtain ⟨σ60, h60, hf⟩ := bnd hf
          refine q_cSv (As := [.ref (w.1 (195)), .int a1, .int a2, .int a3]) hx hb hts hml hown hK hP hS (c_X7_layOn l D w σ34 (195) a1 a2 a3 σ60 isC195 hJ h60) hw_X7_221 hd_X7_layOn ⟨rfl, rfl, rfl⟩ ⟨Nat.le_of_ble_eq_true rfl, Nat.le_of_ble_eq_true rfl⟩ ⟨Nat.le_of_ble_eq_true rfl, Nat.le_of_ble_eq_true rfl⟩ hl.1 rfl (Nat.le_of_ble_eq_true rfl) dX7_lays_60 (fun H locs hP hS => ?_)
          refine lv_iload hx hb dX7_lays_63 (lv_at hl 0 rfl) ?_
          have hq := Option.some.inj hf
          exact q_iret hx hb hr hlk hP hS (congrArg Prod.fst hq) (congrArg Prod.snd hq) dX7_lays_65
        · have hf := ifn (fun h => h hc) hf
          refine lv_iconst (v := (-1 : Int32)) hx hb dX7_lays_31 (by decide) ?_
          have hq := Option.some.inj hf
          exact q_iret hx hb hr hlk hP hS (congrArg Prod.fst hq) (congrArg Prod.snd hq) dX7_lays_32
def f_X7_paint_b1 (a1 : Int32) (σ45 : Sg) (x2_52 : Int32) (x3_52 : Int32) : Option ((Int32 × Int32) ⊕ Int32) :=
  if (8 : Int32) ≤ x3_52 then
  some (.inr x2_52)
  else
  (ga (σ45 (195)) (ln (195)) (((83 : Int32) + ((8 : Int32) * a1)) + x3_52)).bind fun v72 =>
  if ¬ v72 = (-4 : Int32) then
  some (.inl ((x2_52 + (1 : Int32)), (x3_52 + (1 : Int32))))
  else
  some (.inl ((x2_52 + (0 : Int32)), (x3_52 + (1 : Int32))))
def f_X7_paint_k1 (σ45 : Sg) (y2_91 : Int32) : Option (Int32 × Sg) :=
  some (y2_91, σ45)
def f_X7_paint (σ : Sg) (a1 : Int32) : Option (Int32 × Sg) :=
  (f_X7_isPost σ a1).bind fun v2 =>
  if ¬ v2 = 0 then
  (ga (σ (195)) (ln (195)) ((71 : Int32) + a1)).bind fun v18 =>
  if ¬ v18 = (-4 : Int32) then
  (f_X7_know σ).bind fun σ28 =>
  (f_X7_measure σ28 (195)).bind fun σ36 =>
  (f_X7_paintOn σ36 (195) a1).bind fun σ45 =>
  (lp (fun st => f_X7_paint_b1 a1 σ45 st.1 st.2) FU ((0 : Int32), (0 : Int32))).bind fun rr => f_X7_paint_k1 σ45 rr
  else
  some ((-2 : Int32), σ)
  else
  some ((-1 : Int32), σ)
set_option maxHeartbeats 4000000 in
set_option maxRecDepth 100000 in
theorem c_X7_paint (l : Launch) (D : va_G) (w : Wv) (σ : Sg) (a1 : Int32) (r : Int32) (σ' : Sg)  (hJ : Inj w) (hf : f_X7_paint σ a1 = some (r, σ')) : Met l yX7_paint (.code yX7_paint cX7_paint 4 (some .int) :: TB) (rmW 2 51) (pcW D w [.ref (w.1 (184)), .int a1] σ) (qiW D w r σ') 0 0 (AL w) := by
  refine q_open (by decide +kernel) (Nat.le_of_ble_eq_true rfl) ?_
  intro p e s m args below meth c ls hx hb hml hr hlk hown hts hK hP hS hl
  have hown : s.vm.findClass RX7 = some m.cls := hown
  have hl : lv_has ls 4 [(0, .ref (w.1 (184))), (1, .int a1)] := hl
  unfold f_X7_paint at hf
  refine lv_aload_n hx hb dX7_paint_0 rfl (lv_at hl 0 rfl) ?_
  refine lv_iload_n hx hb dX7_paint_1 rfl (lv_at hl 1 rfl) ?_
  obtain ⟨v2, h2, hf⟩ := bnd hf
  refine q_cVz (As := [.int a1]) hx hb hts hml hown hK hP hS (c_X7_isPost l D w σ a1 v2 h2) hw_X7_209 hd_X7_isPost ⟨rfl, rfl, rfl⟩ o184 (ce7 kd184) rfl ⟨Nat.le_of_ble_eq_true rfl, Nat.le_of_ble_eq_true rfl⟩ ⟨Nat.le_of_ble_eq_true rfl, Nat.le_of_ble_eq_true rfl⟩ hl.1 rfl (Nat.le_of_ble_eq_true rfl) dX7_paint_2 (fun hz2 H locs hP hS => ?_)
  refine lv_if_ne (tgt := 10) hx hb dX7_paint_5 (by decide) (fun hc => ?_) (fun hc => ?_)
  · have hf := ifp hc hf
    refine lv_aload_n hx hb dX7_paint_10 rfl (lv_at hl 0 rfl) ?_
    refine gt_X7_41 hx hb hts hown hK hP dX7_paint_11 ?_
    refine lv_bipush (v := (71 : Int32)) hx hb dX7_paint_14 (by decide) ?_
    refine lv_iload_n hx hb dX7_paint_16 rfl (lv_at hl 1 rfl) ?_
    refine lv_iadd hx hb dX7_paint_17 ?_
    obtain ⟨v18, h18, hf⟩ := bnd hf
    refine q_iald hx hb hK hP isC195.o isC195.k h18 dX7_paint_18 ?_
    refine lv_bipush (v := (-4 : Int32)) hx hb dX7_paint_19 (by decide) ?_
    refine lv_icmp_ne (tgt := 27) hx hb dX7_paint_21 (by decide) (fun hc => ?_) (fun hc => ?_)
    · have hf := ifp hc hf
      refine lv_aload_n hx hb dX7_paint_27 rfl (lv_at hl 0 rfl) ?_
      obtain ⟨σ28, h28, hf⟩ := bnd hf
      refine q_cVv (As := []) hx hb hts hml hown hK hP hS (c_X7_know l D w σ σ28 hJ h28) hw_X7_215 hd_X7_know ⟨rfl, rfl, rfl⟩ o184 (ce7 kd184) rfl ⟨Nat.le_of_ble_eq_true rfl, Nat.le_of_ble_eq_true rfl⟩ ⟨Nat.le_of_ble_eq_true rfl, Nat.le_of_ble_eq_true rfl⟩ hl.1 rfl (Nat.le_of_ble_eq_true rfl) dX7_paint_28 (fun H locs hP hS => ?_)
      refine lv_aload_n hx hb dX7_paint_31 rfl (lv_at hl 0 rfl) ?_
      refine lv_aload_n hx hb dX7_paint_32 rfl (lv_at hl 0 rfl) ?_
      refine gt_X7_41 hx hb hts hown hK hP dX7_paint_33 ?_
      obtain ⟨σ36, h36, hf⟩ := bnd hf
      refine q_cVv (As := [.ref (w.1 (195))]) hx hb hts hml hown hK hP hS (c_X7_measure l D w σ28 (195) σ36 isC195 hJ h36) hw_X7_146 hd_X7_measure ⟨rfl, rfl, rfl⟩ o184 (ce7 kd184) rfl ⟨Nat.le_of_ble_eq_true rfl, Nat.le_of_ble_eq_true rfl⟩ ⟨Nat.le_of_ble_eq_true rfl, Nat.le_of_ble_eq_true rfl⟩ hl.1 rfl (Nat.le_of_ble_eq_true rfl) dX7_paint_36 (fun H locs hP hS => ?_)
      refine lv_aload_n hx hb dX7_paint_39 rfl (lv_at hl 0 rfl) ?_
      refine lv_aload_n hx hb dX7_paint_40 rfl (lv_at hl 0 rfl) ?_
      refine gt_X7_41 hx hb hts hown hK hP dX7_paint_41 ?_
      refine lv_iload_n hx hb dX7_paint_44 rfl (lv_at hl 1 rfl) ?_
      obtain ⟨σ45, h45, hf⟩ := bnd hf
      refine q_cVv (As := [.ref (w.1 (195)), .int a1]) hx hb hts hml hown hK hP hS (c_X7_paintOn l D w σ36 (195) a1 σ45 isC195 hJ h45) hw_X7_150 hd_X7_paintOn ⟨rfl, rfl, rfl⟩ o184 (ce7 kd184) rfl ⟨Nat.le_of_ble_eq_true rfl, Nat.le_of_ble_eq_true rfl⟩ ⟨Nat.le_of_ble_eq_true rfl, Nat.le_of_ble_eq_true rfl⟩ hl.1 rfl (Nat.le_of_ble_eq_true rfl) dX7_paint_45 (fun H locs hP hS => ?_)
      refine lv_iconst (v := (0 : Int32)) hx hb dX7_paint_48 (by decide) ?_
      refine lv_istore_n (lv' := [(2, .int (0 : Int32)), (0, .ref (w.1 (184))), (1, .int a1)]) hx hb dX7_paint_49 rfl hl (by decide) rfl (fun ls hl => ?_)
      refine lv_iconst (v := (0 : Int32)) hx hb dX7_paint_50 (by decide) ?_
      refine lv_istore_n (lv' := [(3, .int (0 : Int32)), (2, .int (0 : Int32)), (0, .ref (w.1 (184))), (1, .int a1)]) hx hb dX7_paint_51 rfl hl (by decide) rfl (fun ls hl => ?_)
      obtain ⟨rr, hlp, hf⟩ := bnd hf
      have hE52_91 : ∀ (y2_91 : Int32) (H : Heap) (locs : List Loc) (ls : Array Slot), f_X7_paint_k1 σ45 y2_91 = some (r, σ') → va_P D vwCl (WL w σ45) H → va_S (AL w) s.heap H locs → lv_has ls 4 [(2, .int y2_91)] → W p l e (rmW 2 51) s m args below meth c H locs 0 0 (MQ below (qiW D w r σ') args s 0 0 (AL w)) (F0 m 91 ls []) := by
        intro y2_91 H locs ls hf hP hS hl
        unfold f_X7_paint_k1 at hf
        refine lv_iload_n hx hb dX7_paint_91 rfl (lv_at hl 0 rfl) ?_
        have hq := Option.some.inj hf
        exact q_iret hx hb hr hlk hP hS (congrArg Prod.fst hq) (congrArg Prod.snd hq) dX7_paint_92
      refine lp_ind (G := fun (st : (Int32 × Int32)) => ∀ (H : Heap) (locs : List Loc) (ls : Array Slot), va_P D vwCl (WL w σ45) H → va_S (AL w) s.heap H locs → lv_has ls 4 [(0, .ref (w.1 (184))), (1, .int a1), (2, .int st.1), (3, .int st.2)] → W p l e (rmW 2 51) s m args below meth c H locs 0 0 (MQ below (qiW D w r σ') args s 0 0 (AL w)) (F0 m 52 ls [])) (X := fun rr => f_X7_paint_k1 σ45 rr = some (r, σ')) ?_ _ _ rr hlp hf _ _ _ hP hS (lv_sub hl [2, 3, 1, 0] rfl)
      rintro ⟨x2_52, x3_52⟩ oo52 hb9 hG52 hX52 H locs ls hP hS hl
      have hP : va_P D vwCl (WL w σ45) H := hP
      have hl : lv_has ls 4 [(0, .ref (w.1 (184))), (1, .int a1), (2, .int x2_52), (3, .int x3_52)] := hl
      have hf : f_X7_paint_b1 a1 σ45 x2_52 x3_52 = some oo52 := hb9
      unfold f_X7_paint_b1 at hf
      refine lv_iload_n hx hb dX7_paint_52 rfl (lv_at hl 3 rfl) ?_
      refine lv_bipush (v := (8 : Int32)) hx hb dX7_paint_53 (by decide) ?_
      refine lv_icmp_ge (tgt := 91) hx hb dX7_paint_55 (by decide) (fun hc => ?_) (fun hc => ?_)
      · have hf := ifp hc hf
        obtain rfl := Option.some.inj hf
        exact hE52_91 x2_52 _ _ _ (hX52 _ rfl) hP hS (lv_sub hl [2] rfl)
      · have hf := ifn hc hf
        refine lv_iload_n hx hb dX7_paint_58 rfl (lv_at hl 2 rfl) ?_
        refine lv_aload_n hx hb dX7_paint_59 rfl (lv_at hl 0 rfl) ?_
        refine gt_X7_41 hx hb hts hown hK hP dX7_paint_60 ?_
        refine lv_bipush (v := (83 : Int32)) hx hb dX7_paint_63 (by decide) ?_
        refine lv_bipush (v := (8 : Int32)) hx hb dX7_paint_65 (by decide) ?_
        refine lv_iload_n hx hb dX7_paint_67 rfl (lv_at hl 1 rfl) ?_
        refine lv_imul hx hb dX7_paint_68 ?_
        refine lv_iadd hx hb dX7_paint_69 ?_
        refine lv_iload_n hx hb dX7_paint_70 rfl (lv_at hl 3 rfl) ?_
        refine lv_iadd hx hb dX7_paint_71 ?_
        obtain ⟨v72, h72, hf⟩ := bnd hf
        refine q_iald hx hb hK hP isC195.o isC195.k h72 dX7_paint_72 ?_
        refine lv_bipush (v := (-4 : Int32)) hx hb dX7_paint_73 (by decide) ?_
        refine lv_icmp_ne (tgt := 82) hx hb dX7_paint_75 (by decide) (fun hc => ?_) (fun hc => ?_)
        · have hf := ifp hc hf
          refine lv_iconst (v := (1 : Int32)) hx hb dX7_paint_82 (by decide) ?_
          refine lv_iadd hx hb dX7_paint_83 ?_
          refine lv_istore_n (lv' := [(2, .int (x2_52 + (1 : Int32))), (0, .ref (w.1 (184))), (1, .int a1), (3, .int x3_52)]) hx hb dX7_paint_84 rfl hl (by decide) rfl (fun ls hl => ?_)
          refine lv_iinc (v := (x3_52 + (1 : Int32))) (lv' := [(3, .int (x3_52 + (1 : Int32))), (2, .int (x2_52 + (1 : Int32))), (0, .ref (w.1 (184))), (1, .int a1)]) hx hb dX7_paint_85 hl (k := 3) rfl ii_1 (by decide) rfl (fun ls hl => ?_)
          refine lv_goto (tgt := 52) hx hb dX7_paint_88 (by decide) ?_
          obtain rfl := Option.some.inj hf
          exact hG52 _ rfl _ _ _ hP hS (lv_sub hl [2, 3, 1, 0] rfl)
        · have hf := ifn (fun h => h hc) hf
          refine lv_iconst (v := (0 : Int32)) hx hb dX7_paint_78 (by decide) ?_
          refine lv_goto (tgt := 83) hx hb dX7_paint_79 (by decide) ?_
          refine lv_iadd hx hb dX7_paint_83 ?_
          refine lv_istore_n (lv' := [(2, .int (x2_52 + (0 : Int32))), (0, .ref (w.1 (184))), (1, .int a1), (3, .int x3_52)]) hx hb dX7_paint_84 rfl hl (by decide) rfl (fun ls hl => ?_)
          refine lv_iinc (v := (x3_52 + (1 : Int32))) (lv' := [(3, .int (x3_52 + (1 : Int32))), (2, .int (x2_52 + (0 : Int32))), (0, .ref (w.1 (184))), (1, .int a1)]) hx hb dX7_paint_85 hl (k := 3) rfl ii_1 (by decide) rfl (fun ls hl => ?_)
          refine lv_goto (tgt := 52) hx hb dX7_paint_88 (by decide) ?_
          obtain rfl := Option.some.inj hf
          exact hG52 _ rfl _ _ _ hP hS (lv_sub hl [2, 3, 1, 0] rfl)
    · have hf := ifn (fun h => h hc) hf
      refine lv_bipush (v := (-2 : Int32)) hx hb dX7_paint_24 (by decide) ?_
      have hq := Option.some.inj hf
      exact q_iret hx hb hr hlk hP hS (congrArg Prod.fst hq) (congrArg Prod.snd hq) dX7_paint_26
  · have hf := ifn (fun h => h hc) hf
    refine lv_iconst (v := (-1 : Int32)) hx hb dX7_paint_8 (by decide) ?_
    have hq := Option.some.inj hf
    exact q_iret hx hb hr hlk hP hS (congrArg Prod.fst hq) (congrArg Prod.snd hq) dX7_paint_9
def f_X7_move (σ : Sg) (a1 : Int32) (a2 : Int32) : Option (Int32 × Sg) :=
  (f_X7_isPost σ a1).bind fun v2 =>
  if v2 = 0 then
  some ((-1 : Int32), σ)
  else
  (f_X7_isTown σ a2).bind fun v10 =>
  if ¬ v10 = 0 then
  (ga (σ (195)) (ln (195)) ((71 : Int32) + a1)).bind fun v26 =>
  if v26 = (-4 : Int32) then
  some ((-2 : Int32), σ)
  else
  if ¬ v26 = a2 then
  (f_X7_know σ).bind fun σ43 =>
  (sa σ43 (195) (ln (195)) ((71 : Int32) + a1) a2).bind fun σ55 =>
  some (v26, σ55)
  else
  some ((-2 : Int32), σ)
  else
  some ((-1 : Int32), σ)
set_option maxHeartbeats 4000000 in
set_option maxRecDepth 100000 in
theorem c_X7_move (l : Launch) (D : va_G) (w : Wv) (σ : Sg) (a1 : Int32) (a2 : Int32) (r : Int32) (σ' : Sg)  (hJ : Inj w) (hf : f_X7_move σ a1 a2 = some (r, σ')) : Met l yX7_move (.code yX7_move cX7_move 4 (some .int) :: TB) (rmW 2 43) (pcW D w [.ref (w.1 (184)), .int a1, .int a2] σ) (qiW D w r σ') 0 0 (AL w) := by
  refine q_open (by decide +kernel) (Nat.le_of_ble_eq_true rfl) ?_
  intro p e s m args below meth c ls hx hb hml hr hlk hown hts hK hP hS hl
  have hown : s.vm.findClass RX7 = some m.cls := hown
  have hl : lv_has ls 4 [(0, .ref (w.1 (184))), (1, .int a1), (2, .int a2)] := hl
  unfold f_X7_move at hf
  refine lv_aload_n hx hb dX7_move_0 rfl (lv_at hl 0 rfl) ?_
  refine lv_iload_n hx hb dX7_move_1 rfl (lv_at hl 1 rfl) ?_
  obtain ⟨v2, h2, hf⟩ := bnd hf
  refine q_cVz (As := [.int a1]) hx hb hts hml hown hK hP hS (c_X7_isPost l D w σ a1 v2 h2) hw_X7_209 hd_X7_isPost ⟨rfl, rfl, rfl⟩ o184 (ce7 kd184) rfl ⟨Nat.le_of_ble_eq_true rfl, Nat.le_of_ble_eq_true rfl⟩ ⟨Nat.le_of_ble_eq_true rfl, Nat.le_of_ble_eq_true rfl⟩ hl.1 rfl (Nat.le_of_ble_eq_true rfl) dX7_move_2 (fun hz2 H locs hP hS => ?_)
  refine lv_if_eq (tgt := 16) hx hb dX7_move_5 (by decide) (fun hc => ?_) (fun hc => ?_)
  · have hf := ifp hc hf
    refine lv_iconst (v := (-1 : Int32)) hx hb dX7_move_16 (by decide) ?_
    have hq := Option.some.inj hf
    exact q_iret hx hb hr hlk hP hS (congrArg Prod.fst hq) (congrArg Prod.snd hq) dX7_move_17
  · have hf := ifn hc hf
    refine lv_aload_n hx hb dX7_move_8 rfl (lv_at hl 0 rfl) ?_
    refine lv_iload_n hx hb dX7_move_9 rfl (lv_at hl 2 rfl) ?_
    obtain ⟨v10, h10, hf⟩ := bnd hf
    refine q_cVz (As := [.int a2]) hx hb hts hml hown hK hP hS (c_X7_isTown l D w σ a2 v10 h10) hw_X7_205 hd_X7_isTown ⟨rfl, rfl, rfl⟩ o184 (ce7 kd184) rfl ⟨Nat.le_of_ble_eq_true rfl, Nat.le_of_ble_eq_true rfl⟩ ⟨Nat.le_of_ble_eq_true rfl, Nat.le_of_ble_eq_true rfl⟩ hl.1 rfl (Nat.le_of_ble_eq_true rfl) dX7_move_10 (fun hz10 H locs hP hS => ?_)
    refine lv_if_ne (tgt := 18) hx hb dX7_move_13 (by decide) (fun hc => ?_) (fun hc => ?_)
    · have hf := ifp hc hf
      refine lv_aload_n hx hb dX7_move_18 rfl (lv_at hl 0 rfl) ?_
      refine gt_X7_41 hx hb hts hown hK hP dX7_move_19 ?_
      refine lv_bipush (v := (71 : Int32)) hx hb dX7_move_22 (by decide) ?_
      refine lv_iload_n hx hb dX7_move_24 rfl (lv_at hl 1 rfl) ?_
      refine lv_iadd hx hb dX7_move_25 ?_
      obtain ⟨v26, h26, hf⟩ := bnd hf
      refine q_iald hx hb hK hP isC195.o isC195.k h26 dX7_move_26 ?_
      refine lv_istore_n (lv' := [(3, .int v26), (0, .ref (w.1 (184))), (1, .int a1), (2, .int a2)]) hx hb dX7_move_27 rfl hl (by decide) rfl (fun ls hl => ?_)
      refine lv_iload_n hx hb dX7_move_28 rfl (lv_at hl 0 rfl) ?_
      refine lv_bipush (v := (-4 : Int32)) hx hb dX7_move_29 (by decide) ?_
      refine lv_icmp_eq (tgt := 39) hx hb dX7_move_31 (by decide) (fun hc => ?_) (fun hc => ?_)
      · have hf := ifp hc hf
        refine lv_bipush (v := (-2 : Int32)) hx hb dX7_move_39 (by decide) ?_
        have hq := Option.some.inj hf
        exact q_iret hx hb hr hlk hP hS (congrArg Prod.fst hq) (congrArg Prod.snd hq) dX7_move_41
      · have hf := ifn hc hf
        refine lv_iload_n hx hb dX7_move_34 rfl (lv_at hl 0 rfl) ?_
        refine lv_iload_n hx hb dX7_move_35 rfl (lv_at hl 3 rfl) ?_
        refine lv_icmp_ne (tgt := 42) hx hb dX7_move_36 (by decide) (fun hc => ?_) (fun hc => ?_)
        · have hf := ifp hc hf
          refine lv_aload_n hx hb dX7_move_42 rfl (lv_at hl 1 rfl) ?_
          obtain ⟨σ43, h43, hf⟩ := bnd hf
          refine q_cVv (As := []) hx hb hts hml hown hK hP hS (c_X7_know l D w σ σ43 hJ h43) hw_X7_215 hd_X7_know ⟨rfl, rfl, rfl⟩ o184 (ce7 kd184) rfl ⟨Nat.le_of_ble_eq_true rfl, Nat.le_of_ble_eq_true rfl⟩ ⟨Nat.le_of_ble_eq_true rfl, Nat.le_of_ble_eq_true rfl⟩ hl.1 rfl (Nat.le_of_ble_eq_true rfl) dX7_move_43 (fun H locs hP hS => ?_)
          refine lv_aload_n hx hb dX7_move_46 rfl (lv_at hl 1 rfl) ?_
          refine gt_X7_41 hx hb hts hown hK hP dX7_move_47 ?_
          refine lv_bipush (v := (71 : Int32)) hx hb dX7_move_50 (by decide) ?_
          refine lv_iload_n hx hb dX7_move_52 rfl (lv_at hl 2 rfl) ?_
          refine lv_iadd hx hb dX7_move_53 ?_
          refine lv_iload_n hx hb dX7_move_54 rfl (lv_at hl 3 rfl) ?_
          obtain ⟨σ55, h55, hf⟩ := bnd hf
          refine q_iast hx hb hK hP hJ hS isC195.o isC195.k h55 dX7_move_55 (fun H locs hP hS => ?_)
          refine lv_iload_n hx hb dX7_move_56 rfl (lv_at hl 0 rfl) ?_
          have hq := Option.some.inj hf
          exact q_iret hx hb hr hlk hP hS (congrArg Prod.fst hq) (congrArg Prod.snd hq) dX7_move_57
        · have hf := ifn (fun h => h hc) hf
          refine lv_bipush (v := (-2 : Int32)) hx hb dX7_move_39 (by decide) ?_
          have hq := Option.some.inj hf
          exact q_iret hx hb hr hlk hP hS (congrArg Prod.fst hq) (congrArg Prod.snd hq) dX7_move_41
    · have hf := ifn (fun h => h hc) hf
      refine lv_iconst (v := (-1 : Int32)) hx hb dX7_move_16 (by decide) ?_
      have hq := Option.some.inj hf
      exact q_iret hx hb hr hlk hP hS (congrArg Prod.fst hq) (congrArg Prod.snd hq) dX7_move_17
def f_X7_retire (σ : Sg) (a1 : Int32) : Option (Int32 × Sg) :=
  (f_X7_isPost σ a1).bind fun v2 =>
  if ¬ v2 = 0 then
  (ga (σ (195)) (ln (195)) ((71 : Int32) + a1)).bind fun v18 =>
  if ¬ v18 = (-4 : Int32) then
  (f_X7_know σ).bind fun σ30 =>
  (sa σ30 (195) (ln (195)) ((71 : Int32) + a1) (-4 : Int32)).bind fun σ43 =>
  some (v18, σ43)
  else
  some ((-2 : Int32), σ)
  else
  some ((-1 : Int32), σ)
set_option maxHeartbeats 4000000 in
set_option maxRecDepth 100000 in
theorem c_X7_retire (l : Launch) (D : va_G) (w : Wv) (σ : Sg) (a1 : Int32) (r : Int32) (σ' : Sg)  (hJ : Inj w) (hf : f_X7_retire σ a1 = some (r, σ')) : Met l yX7_retire (.code yX7_retire cX7_retire 3 (some .int) :: TB) (rmW 2 43) (pcW D w [.ref (w.1 (184)), .int a1] σ) (qiW D w r σ') 0 0 (AL w) := by
  refine q_open (by decide +kernel) (Nat.le_of_ble_eq_true rfl) ?_
  intro p e s m args below meth c ls hx hb hml hr hlk hown hts hK hP hS hl
  have hown : s.vm.findClass RX7 = some m.cls := hown
  have hl : lv_has ls 3 [(0, .ref (w.1 (184))), (1, .int a1)] := hl
  unfold f_X7_retire at hf
  refine lv_aload_n hx hb dX7_retire_0 rfl (lv_at hl 0 rfl) ?_
  refine lv_iload_n hx hb dX7_retire_1 rfl (lv_at hl 1 rfl) ?_
  obtain ⟨v2, h2, hf⟩ := bnd hf
  refine q_cVz (As := [.int a1]) hx hb hts hml hown hK hP hS (c_X7_isPost l D w σ a1 v2 h2) hw_X7_209 hd_X7_isPost ⟨rfl, rfl, rfl⟩ o184 (ce7 kd184) rfl ⟨Nat.le_of_ble_eq_true rfl, Nat.le_of_ble_eq_true rfl⟩ ⟨Nat.le_of_ble_eq_true rfl, Nat.le_of_ble_eq_true rfl⟩ hl.1 rfl (Nat.le_of_ble_eq_true rfl) dX7_retire_2 (fun hz2 H locs hP hS => ?_)
  refine lv_if_ne (tgt := 10) hx hb dX7_retire_5 (by decide) (fun hc => ?_) (fun hc => ?_)
  · have hf := ifp hc hf
    refine lv_aload_n hx hb dX7_retire_10 rfl (lv_at hl 0 rfl) ?_
    refine gt_X7_41 hx hb hts hown hK hP dX7_retire_11 ?_
    refine lv_bipush (v := (71 : Int32)) hx hb dX7_retire_14 (by decide) ?_
    refine lv_iload_n hx hb dX7_retire_16 rfl (lv_at hl 1 rfl) ?_
    refine lv_iadd hx hb dX7_retire_17 ?_
    obtain ⟨v18, h18, hf⟩ := bnd hf
    refine q_iald hx hb hK hP isC195.o isC195.k h18 dX7_retire_18 ?_
    refine lv_istore_n (lv' := [(2, .int v18), (0, .ref (w.1 (184))), (1, .int a1)]) hx hb dX7_retire_19 rfl hl (by decide) rfl (fun ls hl => ?_)
    refine lv_iload_n hx hb dX7_retire_20 rfl (lv_at hl 0 rfl) ?_
    refine lv_bipush (v := (-4 : Int32)) hx hb dX7_retire_21 (by decide) ?_
    refine lv_icmp_ne (tgt := 29) hx hb dX7_retire_23 (by decide) (fun hc => ?_) (fun hc => ?_)
    · have hf := ifp hc hf
      refine lv_aload_n hx hb dX7_retire_29 rfl (lv_at hl 1 rfl) ?_
      obtain ⟨σ30, h30, hf⟩ := bnd hf
      refine q_cVv (As := []) hx hb hts hml hown hK hP hS (c_X7_know l D w σ σ30 hJ h30) hw_X7_215 hd_X7_know ⟨rfl, rfl, rfl⟩ o184 (ce7 kd184) rfl ⟨Nat.le_of_ble_eq_true rfl, Nat.le_of_ble_eq_true rfl⟩ ⟨Nat.le_of_ble_eq_true rfl, Nat.le_of_ble_eq_true rfl⟩ hl.1 rfl (Nat.le_of_ble_eq_true rfl) dX7_retire_30 (fun H locs hP hS => ?_)
      refine lv_aload_n hx hb dX7_retire_33 rfl (lv_at hl 1 rfl) ?_
      refine gt_X7_41 hx hb hts hown hK hP dX7_retire_34 ?_
      refine lv_bipush (v := (71 : Int32)) hx hb dX7_retire_37 (by decide) ?_
      refine lv_iload_n hx hb dX7_retire_39 rfl (lv_at hl 2 rfl) ?_
      refine lv_iadd hx hb dX7_retire_40 ?_
      refine lv_bipush (v := (-4 : Int32)) hx hb dX7_retire_41 (by decide) ?_
      obtain ⟨σ43, h43, hf⟩ := bnd hf
      refine q_iast hx hb hK hP hJ hS isC195.o isC195.k h43 dX7_retire_43 (fun H locs hP hS => ?_)
      refine lv_iload_n hx hb dX7_retire_44 rfl (lv_at hl 0 rfl) ?_
      have hq := Option.some.inj hf
      exact q_iret hx hb hr hlk hP hS (congrArg Prod.fst hq) (congrArg Prod.snd hq) dX7_retire_45
    · have hf := ifn (fun h => h hc) hf
      refine lv_bipush (v := (-2 : Int32)) hx hb dX7_retire_26 (by decide) ?_
      have hq := Option.some.inj hf
      exact q_iret hx hb hr hlk hP hS (congrArg Prod.fst hq) (congrArg Prod.snd hq) dX7_retire_28
  · have hf := ifn (fun h => h hc) hf
    refine lv_iconst (v := (-1 : Int32)) hx hb dX7_retire_8 (by decide) ?_
    have hq := Option.some.inj hf
    exact q_iret hx hb hr hlk hP hS (congrArg Prod.fst hq) (congrArg Prod.snd hq) dX7_retire_9
def f_X7_undo_b1 (x1_22 : Int32) (σ_22 : Sg) : Option ((Int32 × Sg) ⊕ Sg) :=
  if (179 : Int32) ≤ x1_22 then
  some (.inr σ_22)
  else
  (ga (σ_22 (196)) (ln (196)) (((179 : Int32) * (σ_22 184 16)) + x1_22)).bind fun v48 =>
  (sa σ_22 (195) (ln (195)) x1_22 v48).bind fun σ49 =>
  some (.inl ((x1_22 + (1 : Int32)), σ49))
def f_X7_undo_k1 (σ_56 : Sg) : Option (Int32 × Sg) :=
  some ((σ_56 184 16), σ_56)
def f_X7_undo (σ : Sg)  : Option (Int32 × Sg) :=
  if ¬ (σ 184 16) = 0 then
  (some (sf σ (184) 16 ((σ 184 16) - (1 : Int32)))).bind fun σ17 =>
  (lp (fun st => f_X7_undo_b1  st.1 st.2) FU ((0 : Int32), σ17)).bind fun rr => f_X7_undo_k1 rr
  else
  some ((-2 : Int32), σ)
set_option maxHeartbeats 4000000 in
set_option maxRecDepth 100000 in
theorem c_X7_undo (l : Launch) (D : va_G) (w : Wv) (σ : Sg)  (r : Int32) (σ' : Sg)  (hJ : Inj w) (hf : f_X7_undo σ = some (r, σ')) : Met l yX7_undo (.code yX7_undo cX7_undo 2 (some .int) :: TB) (rmW 0 0) (pcW D w [.ref (w.1 (184))] σ) (qiW D w r σ') 0 0 (AL w) := by
  refine q_open (by decide +kernel) (Nat.le_of_ble_eq_true rfl) ?_
  intro p e s m args below meth c ls hx hb hml hr hlk hown hts hK hP hS hl
  have hown : s.vm.findClass RX7 = some m.cls := hown
  have hl : lv_has ls 2 [(0, .ref (w.1 (184)))] := hl
  unfold f_X7_undo at hf
  refine lv_aload_n hx hb dX7_undo_0 rfl (lv_at hl 0 rfl) ?_
  refine gt_X7_154 hx hb hts hown hK hP dX7_undo_1 ?_
  refine lv_if_ne (tgt := 10) hx hb dX7_undo_4 (by decide) (fun hc => ?_) (fun hc => ?_)
  · have hf := ifp hc hf
    refine lv_aload_n hx hb dX7_undo_10 rfl (lv_at hl 0 rfl) ?_
    refine lv_dup hx hb dX7_undo_11 rfl ?_
    refine gt_X7_154 hx hb hts hown hK hP dX7_undo_12 ?_
    refine lv_iconst (v := (1 : Int32)) hx hb dX7_undo_15 (by decide) ?_
    refine lv_isub hx hb dX7_undo_16 ?_
    obtain ⟨σ17, h17, hf⟩ := bnd hf
    refine pt_X7_154 hx hb hts hown hK hP hJ hS h17 dX7_undo_17 (fun H locs hP hS => ?_)
    refine lv_iconst (v := (0 : Int32)) hx hb dX7_undo_20 (by decide) ?_
    refine lv_istore_n (lv' := [(1, .int (0 : Int32)), (0, .ref (w.1 (184)))]) hx hb dX7_undo_21 rfl hl (by decide) rfl (fun ls hl => ?_)
    obtain ⟨rr, hlp, hf⟩ := bnd hf
    have hE22_56 : ∀ (σ_56 : Sg) (H : Heap) (locs : List Loc) (ls : Array Slot), f_X7_undo_k1 σ_56 = some (r, σ') → va_P D vwCl (WL w σ_56) H → va_S (AL w) s.heap H locs → lv_has ls 2 [(0, .ref (w.1 (184)))] → W p l e (rmW 0 0) s m args below meth c H locs 0 0 (MQ below (qiW D w r σ') args s 0 0 (AL w)) (F0 m 56 ls []) := by
      intro σ_56 H locs ls hf hP hS hl
      unfold f_X7_undo_k1 at hf
      refine lv_aload_n hx hb dX7_undo_56 rfl (lv_at hl 0 rfl) ?_
      refine gt_X7_154 hx hb hts hown hK hP dX7_undo_57 ?_
      have hq := Option.some.inj hf
      exact q_iret hx hb hr hlk hP hS (congrArg Prod.fst hq) (congrArg Prod.snd hq) dX7_undo_60
    refine lp_ind (G := fun (st : (Int32 × Sg)) => ∀ (H : Heap) (locs : List Loc) (ls : Array Slot), va_P D vwCl (WL w st.2) H → va_S (AL w) s.heap H locs → lv_has ls 2 [(0, .ref (w.1 (184))), (1, .int st.1)] → W p l e (rmW 0 0) s m args below meth c H locs 0 0 (MQ below (qiW D w r σ') args s 0 0 (AL w)) (F0 m 22 ls [])) (X := fun rr => f_X7_undo_k1 rr = some (r, σ')) ?_ _ _ rr hlp hf _ _ _ hP hS (lv_sub hl [1, 0] rfl)
    rintro ⟨x1_22, σ_22⟩ oo22 hb9 hG22 hX22 H locs ls hP hS hl
    have hP : va_P D vwCl (WL w σ_22) H := hP
    have hl : lv_has ls 2 [(0, .ref (w.1 (184))), (1, .int x1_22)] := hl
    have hf : f_X7_undo_b1  x1_22 σ_22 = some oo22 := hb9
    unfold f_X7_undo_b1 at hf
    refine lv_iload_n hx hb dX7_undo_22 rfl (lv_at hl 1 rfl) ?_
    refine lv_sipush (v := (179 : Int32)) hx hb dX7_undo_23 (by decide) ?_
    refine lv_icmp_ge (tgt := 56) hx hb dX7_undo_26 (by decide) (fun hc => ?_) (fun hc => ?_)
    · have hf := ifp hc hf
      obtain rfl := Option.some.inj hf
      exact hE22_56 σ_22 _ _ _ (hX22 _ rfl) hP hS (lv_sub hl [0] rfl)
    · have hf := ifn hc hf
      refine lv_aload_n hx hb dX7_undo_29 rfl (lv_at hl 0 rfl) ?_
      refine gt_X7_41 hx hb hts hown hK hP dX7_undo_30 ?_
      refine lv_iload_n hx hb dX7_undo_33 rfl (lv_at hl 1 rfl) ?_
      refine lv_aload_n hx hb dX7_undo_34 rfl (lv_at hl 0 rfl) ?_
      refine gt_X7_44 hx hb hts hown hK hP dX7_undo_35 ?_
      refine lv_sipush (v := (179 : Int32)) hx hb dX7_undo_38 (by decide) ?_
      refine lv_aload_n hx hb dX7_undo_41 rfl (lv_at hl 0 rfl) ?_
      refine gt_X7_154 hx hb hts hown hK hP dX7_undo_42 ?_
      refine lv_imul hx hb dX7_undo_45 ?_
      refine lv_iload_n hx hb dX7_undo_46 rfl (lv_at hl 1 rfl) ?_
      refine lv_iadd hx hb dX7_undo_47 ?_
      obtain ⟨v48, h48, hf⟩ := bnd hf
      refine q_iald hx hb hK hP isC196.o isC196.k h48 dX7_undo_48 ?_
      obtain ⟨σ49, h49, hf⟩ := bnd hf
      refine q_iast hx hb hK hP hJ hS isC195.o isC195.k h49 dX7_undo_49 (fun H locs hP hS => ?_)
      refine lv_iinc (v := (x1_22 + (1 : Int32))) (lv' := [(1, .int (x1_22 + (1 : Int32))), (0, .ref (w.1 (184)))]) hx hb dX7_undo_50 hl (k := 1) rfl ii_1 (by decide) rfl (fun ls hl => ?_)
      refine lv_goto (tgt := 22) hx hb dX7_undo_53 (by decide) ?_
      obtain rfl := Option.some.inj hf
      exact hG22 _ rfl _ _ _ hP hS (lv_sub hl [1, 0] rfl)
  · have hf := ifn (fun h => h hc) hf
    refine lv_bipush (v := (-2 : Int32)) hx hb dX7_undo_7 (by decide) ?_
    have hq := Option.some.inj hf
    exact q_iret hx hb hr hlk hP hS (congrArg Prod.fst hq) (congrArg Prod.snd hq) dX7_undo_9
def f_X7_comes_b1 (a1 : Int32) (x2_16 : Int32) (σ_16 : Sg) : Option ((Int32 × Sg) ⊕ ((Int32 × Sg) ⊕ Sg)) :=
  if (40 : Int32) < x2_16 then
  some (.inr (.inr σ_16))
  else
  (ga (σ_16 (198)) (ln (198)) ((0 : Int32) + a1)).bind fun v29 =>
  (ga (σ_16 (190)) (ln (190)) a1).bind fun v35 =>
  if ¬ v29 = v35 then
  (f_X7_passHour σ_16 (198)).bind fun σ46 =>
  some (.inl ((x2_16 + (1 : Int32)), σ46))
  else
  some (.inr (.inl (x2_16, σ_16)))
def f_X7_comes_k1 (y2_39 : Int32) (σ_39 : Sg) : Option (Int32 × Sg) :=
  some (y2_39, σ_39)
def f_X7_comes_k2 (σ_55 : Sg) : Option (Int32 × Sg) :=
  some ((-4 : Int32), σ_55)
def f_X7_comes (σ : Sg) (a1 : Int32) : Option (Int32 × Sg) :=
  (f_X7_isWalker σ a1).bind fun v2 =>
  if ¬ v2 = 0 then
  (f_X7_take σ).bind fun σ11 =>
  (lp (fun st => f_X7_comes_b1 a1 st.1 st.2) FU ((0 : Int32), σ11)).bind fun rr => Sum.elim (fun q => f_X7_comes_k1 q.1 q.2) (fun q => f_X7_comes_k2 q) rr
  else
  some ((-1 : Int32), σ)
set_option maxHeartbeats 4000000 in
set_option maxRecDepth 100000 in
theorem c_X7_comes (l : Launch) (D : va_G) (w : Wv) (σ : Sg) (a1 : Int32) (r : Int32) (σ' : Sg)  (hJ : Inj w) (hf : f_X7_comes σ a1 = some (r, σ')) : Met l yX7_comes (.code yX7_comes cX7_comes 3 (some .int) :: TB) (rmW 4 103) (pcW D w [.ref (w.1 (184)), .int a1] σ) (qiW D w r σ') 0 0 (AL w) := by
  refine q_open (by decide +kernel) (Nat.le_of_ble_eq_true rfl) ?_
  intro p e s m args below meth c ls hx hb hml hr hlk hown hts hK hP hS hl
  have hown : s.vm.findClass RX7 = some m.cls := hown
  have hl : lv_has ls 3 [(0, .ref (w.1 (184))), (1, .int a1)] := hl
  unfold f_X7_comes at hf
  refine lv_aload_n hx hb dX7_comes_0 rfl (lv_at hl 0 rfl) ?_
  refine lv_iload_n hx hb dX7_comes_1 rfl (lv_at hl 1 rfl) ?_
  obtain ⟨v2, h2, hf⟩ := bnd hf
  refine q_cVz (As := [.int a1]) hx hb hts hml hown hK hP hS (c_X7_isWalker l D w σ a1 v2 h2) hw_X7_212 hd_X7_isWalker ⟨rfl, rfl, rfl⟩ o184 (ce7 kd184) rfl ⟨Nat.le_of_ble_eq_true rfl, Nat.le_of_ble_eq_true rfl⟩ ⟨Nat.le_of_ble_eq_true rfl, Nat.le_of_ble_eq_true rfl⟩ hl.1 rfl (Nat.le_of_ble_eq_true rfl) dX7_comes_2 (fun hz2 H locs hP hS => ?_)
  refine lv_if_ne (tgt := 10) hx hb dX7_comes_5 (by decide) (fun hc => ?_) (fun hc => ?_)
  · have hf := ifp hc hf
    refine lv_aload_n hx hb dX7_comes_10 rfl (lv_at hl 0 rfl) ?_
    obtain ⟨σ11, h11, hf⟩ := bnd hf
    refine q_cVv (As := []) hx hb hts hml hown hK hP hS (c_X7_take l D w σ σ11 hJ h11) hw_X7_225 hd_X7_take ⟨rfl, rfl, rfl⟩ o184 (ce7 kd184) rfl ⟨Nat.le_of_ble_eq_true rfl, Nat.le_of_ble_eq_true rfl⟩ ⟨Nat.le_of_ble_eq_true rfl, Nat.le_of_ble_eq_true rfl⟩ hl.1 rfl (Nat.le_of_ble_eq_true rfl) dX7_comes_11 (fun H locs hP hS => ?_)
    refine lv_iconst (v := (0 : Int32)) hx hb dX7_comes_14 (by decide) ?_
    refine lv_istore_n (lv' := [(2, .int (0 : Int32)), (0, .ref (w.1 (184))), (1, .int a1)]) hx hb dX7_comes_15 rfl hl (by decide) rfl (fun ls hl => ?_)
    obtain ⟨rr, hlp, hf⟩ := bnd hf
    have hE16_39 : ∀ (y2_39 : Int32) (σ_39 : Sg) (H : Heap) (locs : List Loc) (ls : Array Slot), f_X7_comes_k1 y2_39 σ_39 = some (r, σ') → va_P D vwCl (WL w σ_39) H → va_S (AL w) s.heap H locs → lv_has ls 3 [(2, .int y2_39)] → W p l e (rmW 4 103) s m args below meth c H locs 0 0 (MQ below (qiW D w r σ') args s 0 0 (AL w)) (F0 m 39 ls []) := by
      intro y2_39 σ_39 H locs ls hf hP hS hl
      unfold f_X7_comes_k1 at hf
      refine lv_iload_n hx hb dX7_comes_39 rfl (lv_at hl 0 rfl) ?_
      have hq := Option.some.inj hf
      exact q_iret hx hb hr hlk hP hS (congrArg Prod.fst hq) (congrArg Prod.snd hq) dX7_comes_40
    have hE16_55 : ∀ (σ_55 : Sg) (H : Heap) (locs : List Loc) (ls : Array Slot), f_X7_comes_k2 σ_55 = some (r, σ') → va_P D vwCl (WL w σ_55) H → va_S (AL w) s.heap H locs → lv_has ls 3 [] → W p l e (rmW 4 103) s m args below meth c H locs 0 0 (MQ below (qiW D w r σ') args s 0 0 (AL w)) (F0 m 55 ls []) := by
      intro σ_55 H locs ls hf hP hS hl
      unfold f_X7_comes_k2 at hf
      refine lv_bipush (v := (-4 : Int32)) hx hb dX7_comes_55 (by decide) ?_
      have hq := Option.some.inj hf
      exact q_iret hx hb hr hlk hP hS (congrArg Prod.fst hq) (congrArg Prod.snd hq) dX7_comes_57
    refine lp_ind (G := fun (st : (Int32 × Sg)) => ∀ (H : Heap) (locs : List Loc) (ls : Array Slot), va_P D vwCl (WL w st.2) H → va_S (AL w) s.heap H locs → lv_has ls 3 [(0, .ref (w.1 (184))), (1, .int a1), (2, .int st.1)] → W p l e (rmW 4 103) s m args below meth c H locs 0 0 (MQ below (qiW D w r σ') args s 0 0 (AL w)) (F0 m 16 ls [])) (X := fun rr => Sum.elim (fun q => f_X7_comes_k1 q.1 q.2) (fun q => f_X7_comes_k2 q) rr = some (r, σ')) ?_ _ _ rr hlp hf _ _ _ hP hS (lv_sub hl [1, 2, 0] rfl)
    rintro ⟨x2_16, σ_16⟩ oo16 hb9 hG16 hX16 H locs ls hP hS hl
    have hP : va_P D vwCl (WL w σ_16) H := hP
    have hl : lv_has ls 3 [(0, .ref (w.1 (184))), (1, .int a1), (2, .int x2_16)] := hl
    have hf : f_X7_comes_b1 a1 x2_16 σ_16 = some oo16 := hb9
    unfold f_X7_comes_b1 at hf
    refine lv_iload_n hx hb dX7_comes_16 rfl (lv_at hl 2 rfl) ?_
    refine lv_bipush (v := (40 : Int32)) hx hb dX7_comes_17 (by decide) ?_
    refine lv_icmp_gt (tgt := 55) hx hb dX7_comes_19 (by decide) (fun hc => ?_) (fun hc => ?_)
    · have hf := ifp hc hf
      obtain rfl := Option.some.inj hf
      exact hE16_55 σ_16 _ _ _ (hX16 _ rfl) hP hS (lv_sub hl [] rfl)
    · have hf := ifn hc hf
      refine lv_aload_n hx hb dX7_comes_22 rfl (lv_at hl 0 rfl) ?_
      refine gt_X7_50 hx hb hts hown hK hP dX7_comes_23 ?_
      refine lv_iconst (v := (0 : Int32)) hx hb dX7_comes_26 (by decide) ?_
      refine lv_iload_n hx hb dX7_comes_27 rfl (lv_at hl 1 rfl) ?_
      refine lv_iadd hx hb dX7_comes_28 ?_
      obtain ⟨v29, h29, hf⟩ := bnd hf
      refine q_iald hx hb hK hP isC198.o isC198.k h29 dX7_comes_29 ?_
      refine lv_aload_n hx hb dX7_comes_30 rfl (lv_at hl 0 rfl) ?_
      refine gt_X7_26 hx hb hts hown hK hP dX7_comes_31 ?_
      refine lv_iload_n hx hb dX7_comes_34 rfl (lv_at hl 1 rfl) ?_
      obtain ⟨v35, h35, hf⟩ := bnd hf
      refine q_iald hx hb hK hP isC190.o isC190.k h35 dX7_comes_35 ?_
      refine lv_icmp_ne (tgt := 41) hx hb dX7_comes_36 (by decide) (fun hc => ?_) (fun hc => ?_)
      · have hf := ifp hc hf
        refine lv_aload_n hx hb dX7_comes_41 rfl (lv_at hl 0 rfl) ?_
        refine lv_aload_n hx hb dX7_comes_42 rfl (lv_at hl 0 rfl) ?_
        refine gt_X7_50 hx hb hts hown hK hP dX7_comes_43 ?_
        obtain ⟨σ46, h46, hf⟩ := bnd hf
        refine q_cVv (As := [.ref (w.1 (198))]) hx hb hts hml hown hK hP hS (c_X7_passHour l D w σ_16 (198) σ46 isC198 hJ h46) hw_X7_198 hd_X7_passHour ⟨rfl, rfl, rfl⟩ o184 (ce7 kd184) rfl ⟨Nat.le_of_ble_eq_true rfl, Nat.le_of_ble_eq_true rfl⟩ ⟨Nat.le_of_ble_eq_true rfl, Nat.le_of_ble_eq_true rfl⟩ hl.1 rfl (Nat.le_of_ble_eq_true rfl) dX7_comes_46 (fun H locs hP hS => ?_)
        refine lv_iinc (v := (x2_16 + (1 : Int32))) (lv' := [(2, .int (x2_16 + (1 : Int32))), (0, .ref (w.1 (184))), (1, .int a1)]) hx hb dX7_comes_49 hl (k := 2) rfl ii_1 (by decide) rfl (fun ls hl => ?_)
        refine lv_goto (tgt := 16) hx hb dX7_comes_52 (by decide) ?_
        obtain rfl := Option.some.inj hf
        exact hG16 _ rfl _ _ _ hP hS (lv_sub hl [1, 2, 0] rfl)
      · have hf := ifn (fun h => h hc) hf
        obtain rfl := Option.some.inj hf
        exact hE16_39 x2_16 σ_16 _ _ _ (hX16 _ rfl) hP hS (lv_sub hl [2] rfl)
  · have hf := ifn (fun h => h hc) hf
    refine lv_iconst (v := (-1 : Int32)) hx hb dX7_comes_8 (by decide) ?_
    have hq := Option.some.inj hf
    exact q_iret hx hb hr hlk hP hS (congrArg Prod.fst hq) (congrArg Prod.snd hq) dX7_comes_9
def f_X7_trail_b1 (a2 : Int32) (x3_26 : Int32) (σ_26 : Sg) : Option ((Int32 × Sg) ⊕ Sg) :=
  if a2 ≤ x3_26 then
  some (.inr σ_26)
  else
  (f_X7_passHour σ_26 (198)).bind fun σ36 =>
  some (.inl ((x3_26 + (1 : Int32)), σ36))
def f_X7_trail_k1 (a1 : Int32) (σ_45 : Sg) : Option (Int32 × Sg) :=
  (ga (σ_45 (198)) (ln (198)) ((0 : Int32) + a1)).bind fun v52 =>
  some (v52, σ_45)
def f_X7_trail (σ : Sg) (a1 : Int32) (a2 : Int32) : Option (Int32 × Sg) :=
  (f_X7_isWalker σ a1).bind fun v2 =>
  if v2 = 0 then
  some ((-1 : Int32), σ)
  else
  (f_X7_in σ a2 (0 : Int32) (40 : Int32)).bind fun v12 =>
  if ¬ v12 = 0 then
  (f_X7_take σ).bind fun σ21 =>
  (lp (fun st => f_X7_trail_b1 a2 st.1 st.2) FU ((0 : Int32), σ21)).bind fun rr => f_X7_trail_k1 a1 rr
  else
  some ((-1 : Int32), σ)
set_option maxHeartbeats 4000000 in
set_option maxRecDepth 100000 in
theorem c_X7_trail (l : Launch) (D : va_G) (w : Wv) (σ : Sg) (a1 : Int32) (a2 : Int32) (r : Int32) (σ' : Sg)  (hJ : Inj w) (hf : f_X7_trail σ a1 a2 = some (r, σ')) : Met l yX7_trail (.code yX7_trail cX7_trail 4 (some .int) :: TB) (rmW 4 103) (pcW D w [.ref (w.1 (184)), .int a1, .int a2] σ) (qiW D w r σ') 0 0 (AL w) := by
  refine q_open (by decide +kernel) (Nat.le_of_ble_eq_true rfl) ?_
  intro p e s m args below meth c ls hx hb hml hr hlk hown hts hK hP hS hl
  have hown : s.vm.findClass RX7 = some m.cls := hown
  have hl : lv_has ls 4 [(0, .ref (w.1 (184))), (1, .int a1), (2, .int a2)] := hl
  unfold f_X7_trail at hf
  refine lv_aload_n hx hb dX7_trail_0 rfl (lv_at hl 0 rfl) ?_
  refine lv_iload_n hx hb dX7_trail_1 rfl (lv_at hl 1 rfl) ?_
  obtain ⟨v2, h2, hf⟩ := bnd hf
  refine q_cVz (As := [.int a1]) hx hb hts hml hown hK hP hS (c_X7_isWalker l D w σ a1 v2 h2) hw_X7_212 hd_X7_isWalker ⟨rfl, rfl, rfl⟩ o184 (ce7 kd184) rfl ⟨Nat.le_of_ble_eq_true rfl, Nat.le_of_ble_eq_true rfl⟩ ⟨Nat.le_of_ble_eq_true rfl, Nat.le_of_ble_eq_true rfl⟩ hl.1 rfl (Nat.le_of_ble_eq_true rfl) dX7_trail_2 (fun hz2 H locs hP hS => ?_)
  refine lv_if_eq (tgt := 18) hx hb dX7_trail_5 (by decide) (fun hc => ?_) (fun hc => ?_)
  · have hf := ifp hc hf
    refine lv_iconst (v := (-1 : Int32)) hx hb dX7_trail_18 (by decide) ?_
    have hq := Option.some.inj hf
    exact q_iret hx hb hr hlk hP hS (congrArg Prod.fst hq) (congrArg Prod.snd hq) dX7_trail_19
  · have hf := ifn hc hf
    refine lv_iload_n hx hb dX7_trail_8 rfl (lv_at hl 2 rfl) ?_
    refine lv_iconst (v := (0 : Int32)) hx hb dX7_trail_9 (by decide) ?_
    refine lv_bipush (v := (40 : Int32)) hx hb dX7_trail_10 (by decide) ?_
    obtain ⟨v12, h12, hf⟩ := bnd hf
    refine q_cSz (As := [.int a2, .int (0 : Int32), .int (40 : Int32)]) hx hb hts hml hown hK hP hS (c_X7_in l D w σ a2 (0 : Int32) (40 : Int32) v12 h12) hw_X7_83 hd_X7_in ⟨rfl, rfl, rfl⟩ ⟨Nat.le_of_ble_eq_true rfl, Nat.le_of_ble_eq_true rfl⟩ ⟨Nat.le_of_ble_eq_true rfl, Nat.le_of_ble_eq_true rfl⟩ hl.1 rfl (Nat.le_of_ble_eq_true rfl) dX7_trail_12 (fun hz12 H locs hP hS => ?_)
    refine lv_if_ne (tgt := 20) hx hb dX7_trail_15 (by decide) (fun hc => ?_) (fun hc => ?_)
    · have hf := ifp hc hf
      refine lv_aload_n hx hb dX7_trail_20 rfl (lv_at hl 0 rfl) ?_
      obtain ⟨σ21, h21, hf⟩ := bnd hf
      refine q_cVv (As := []) hx hb hts hml hown hK hP hS (c_X7_take l D w σ σ21 hJ h21) hw_X7_225 hd_X7_take ⟨rfl, rfl, rfl⟩ o184 (ce7 kd184) rfl ⟨Nat.le_of_ble_eq_true rfl, Nat.le_of_ble_eq_true rfl⟩ ⟨Nat.le_of_ble_eq_true rfl, Nat.le_of_ble_eq_true rfl⟩ hl.1 rfl (Nat.le_of_ble_eq_true rfl) dX7_trail_21 (fun H locs hP hS => ?_)
      refine lv_iconst (v := (0 : Int32)) hx hb dX7_trail_24 (by decide) ?_
      refine lv_istore_n (lv' := [(3, .int (0 : Int32)), (0, .ref (w.1 (184))), (1, .int a1), (2, .int a2)]) hx hb dX7_trail_25 rfl hl (by decide) rfl (fun ls hl => ?_)
      obtain ⟨rr, hlp, hf⟩ := bnd hf
      have hE26_45 : ∀ (σ_45 : Sg) (H : Heap) (locs : List Loc) (ls : Array Slot), f_X7_trail_k1 a1 σ_45 = some (r, σ') → va_P D vwCl (WL w σ_45) H → va_S (AL w) s.heap H locs → lv_has ls 4 [(0, .ref (w.1 (184))), (1, .int a1)] → W p l e (rmW 4 103) s m args below meth c H locs 0 0 (MQ below (qiW D w r σ') args s 0 0 (AL w)) (F0 m 45 ls []) := by
        intro σ_45 H locs ls hf hP hS hl
        unfold f_X7_trail_k1 at hf
        refine lv_aload_n hx hb dX7_trail_45 rfl (lv_at hl 0 rfl) ?_
        refine gt_X7_50 hx hb hts hown hK hP dX7_trail_46 ?_
        refine lv_iconst (v := (0 : Int32)) hx hb dX7_trail_49 (by decide) ?_
        refine lv_iload_n hx hb dX7_trail_50 rfl (lv_at hl 1 rfl) ?_
        refine lv_iadd hx hb dX7_trail_51 ?_
        obtain ⟨v52, h52, hf⟩ := bnd hf
        refine q_iald hx hb hK hP isC198.o isC198.k h52 dX7_trail_52 ?_
        have hq := Option.some.inj hf
        exact q_iret hx hb hr hlk hP hS (congrArg Prod.fst hq) (congrArg Prod.snd hq) dX7_trail_53
      refine lp_ind (G := fun (st : (Int32 × Sg)) => ∀ (H : Heap) (locs : List Loc) (ls : Array Slot), va_P D vwCl (WL w st.2) H → va_S (AL w) s.heap H locs → lv_has ls 4 [(0, .ref (w.1 (184))), (1, .int a1), (2, .int a2), (3, .int st.1)] → W p l e (rmW 4 103) s m args below meth c H locs 0 0 (MQ below (qiW D w r σ') args s 0 0 (AL w)) (F0 m 26 ls [])) (X := fun rr => f_X7_trail_k1 a1 rr = some (r, σ')) ?_ _ _ rr hlp hf _ _ _ hP hS (lv_sub hl [1, 2, 3, 0] rfl)
      rintro ⟨x3_26, σ_26⟩ oo26 hb9 hG26 hX26 H locs ls hP hS hl
      have hP : va_P D vwCl (WL w σ_26) H := hP
      have hl : lv_has ls 4 [(0, .ref (w.1 (184))), (1, .int a1), (2, .int a2), (3, .int x3_26)] := hl
      have hf : f_X7_trail_b1 a2 x3_26 σ_26 = some oo26 := hb9
      unfold f_X7_trail_b1 at hf
      refine lv_iload_n hx hb dX7_trail_26 rfl (lv_at hl 3 rfl) ?_
      refine lv_iload_n hx hb dX7_trail_27 rfl (lv_at hl 2 rfl) ?_
      refine lv_icmp_ge (tgt := 45) hx hb dX7_trail_28 (by decide) (fun hc => ?_) (fun hc => ?_)
      · have hf := ifp hc hf
        obtain rfl := Option.some.inj hf
        exact hE26_45 σ_26 _ _ _ (hX26 _ rfl) hP hS (lv_sub hl [0, 1] rfl)
      · have hf := ifn hc hf
        refine lv_aload_n hx hb dX7_trail_31 rfl (lv_at hl 0 rfl) ?_
        refine lv_aload_n hx hb dX7_trail_32 rfl (lv_at hl 0 rfl) ?_
        refine gt_X7_50 hx hb hts hown hK hP dX7_trail_33 ?_
        obtain ⟨σ36, h36, hf⟩ := bnd hf
        refine q_cVv (As := [.ref (w.1 (198))]) hx hb hts hml hown hK hP hS (c_X7_passHour l D w σ_26 (198) σ36 isC198 hJ h36) hw_X7_198 hd_X7_passHour ⟨rfl, rfl, rfl⟩ o184 (ce7 kd184) rfl ⟨Nat.le_of_ble_eq_true rfl, Nat.le_of_ble_eq_true rfl⟩ ⟨Nat.le_of_ble_eq_true rfl, Nat.le_of_ble_eq_true rfl⟩ hl.1 rfl (Nat.le_of_ble_eq_true rfl) dX7_trail_36 (fun H locs hP hS => ?_)
        refine lv_iinc (v := (x3_26 + (1 : Int32))) (lv' := [(3, .int (x3_26 + (1 : Int32))), (0, .ref (w.1 (184))), (1, .int a1), (2, .int a2)]) hx hb dX7_trail_39 hl (k := 3) rfl ii_1 (by decide) rfl (fun ls hl => ?_)
        refine lv_goto (tgt := 26) hx hb dX7_trail_42 (by decide) ?_
        obtain rfl := Option.some.inj hf
        exact hG26 _ rfl _ _ _ hP hS (lv_sub hl [1, 2, 3, 0] rfl)
    · have hf := ifn (fun h => h hc) hf
      refine lv_iconst (v := (-1 : Int32)) hx hb dX7_trail_18 (by decide) ?_
      have hq := Option.some.inj hf
      exact q_iret hx hb hr hlk hP hS (congrArg Prod.fst hq) (congrArg Prod.snd hq) dX7_trail_19
def f_X7_lost_b1 (σ5 : Sg) (x1_13 : Int32) (x2_13 : Int32) : Option ((Int32 × Int32) ⊕ Int32) :=
  (ga (σ5 (188)) (ln (188)) (0 : Int32)).bind fun v19 =>
  if v19 ≤ x2_13 then
  some (.inr x1_13)
  else
  (ga (σ5 (198)) (ln (198)) ((0 : Int32) + x2_13)).bind fun v31 =>
  (ga (σ5 (190)) (ln (190)) x2_13).bind fun v37 =>
  if ¬ v31 = v37 then
  some (.inl ((x1_13 ||| ((1 : Int32) <<< (x2_13 &&& 31))), (x2_13 + (1 : Int32))))
  else
  some (.inl ((x1_13 ||| (0 : Int32)), (x2_13 + (1 : Int32))))
def f_X7_lost_k1 (σ5 : Sg) (y1_56 : Int32) : Option (Int32 × Sg) :=
  some (y1_56, σ5)
def f_X7_lost (σ : Sg)  : Option (Int32 × Sg) :=
  (f_X7_take σ).bind fun σ1 =>
  (f_X7_comeBy σ1).bind fun q5 =>
  (lp (fun st => f_X7_lost_b1 q5.2 st.1 st.2) FU ((0 : Int32), (0 : Int32))).bind fun rr => f_X7_lost_k1 q5.2 rr
set_option maxHeartbeats 4000000 in
set_option maxRecDepth 100000 in
theorem c_X7_lost (l : Launch) (D : va_G) (w : Wv) (σ : Sg)  (r : Int32) (σ' : Sg)  (hJ : Inj w) (hf : f_X7_lost σ = some (r, σ')) : Met l yX7_lost (.code yX7_lost cX7_lost 3 (some .int) :: TB) (rmW 5 124) (pcW D w [.ref (w.1 (184))] σ) (qiW D w r σ') 0 0 (AL w) := by
  refine q_open (by decide +kernel) (Nat.le_of_ble_eq_true rfl) ?_
  intro p e s m args below meth c ls hx hb hml hr hlk hown hts hK hP hS hl
  have hown : s.vm.findClass RX7 = some m.cls := hown
  have hl : lv_has ls 3 [(0, .ref (w.1 (184)))] := hl
  unfold f_X7_lost at hf
  refine lv_aload_n hx hb dX7_lost_0 rfl (lv_at hl 0 rfl) ?_
  obtain ⟨σ1, h1, hf⟩ := bnd hf
  refine q_cVv (As := []) hx hb hts hml hown hK hP hS (c_X7_take l D w σ σ1 hJ h1) hw_X7_225 hd_X7_take ⟨rfl, rfl, rfl⟩ o184 (ce7 kd184) rfl ⟨Nat.le_of_ble_eq_true rfl, Nat.le_of_ble_eq_true rfl⟩ ⟨Nat.le_of_ble_eq_true rfl, Nat.le_of_ble_eq_true rfl⟩ hl.1 rfl (Nat.le_of_ble_eq_true rfl) dX7_lost_1 (fun H locs hP hS => ?_)
  refine lv_aload_n hx hb dX7_lost_4 rfl (lv_at hl 0 rfl) ?_
  obtain ⟨⟨v5, σ5⟩, h5, hf⟩ := bnd hf
  dsimp only at hf
  refine q_cVi (As := []) hx hb hts hml hown hK hP hS (c_X7_comeBy l D w σ1 v5 σ5 hJ h5) hw_X7_228 hd_X7_comeBy ⟨rfl, rfl, rfl⟩ o184 (ce7 kd184) rfl ⟨Nat.le_of_ble_eq_true rfl, Nat.le_of_ble_eq_true rfl⟩ ⟨Nat.le_of_ble_eq_true rfl, Nat.le_of_ble_eq_true rfl⟩ hl.1 rfl (Nat.le_of_ble_eq_true rfl) dX7_lost_5 (fun H locs hP hS => ?_)
  refine lv_pop hx hb dX7_lost_8 rfl ?_
  refine lv_iconst (v := (0 : Int32)) hx hb dX7_lost_9 (by decide) ?_
  refine lv_istore_n (lv' := [(1, .int (0 : Int32)), (0, .ref (w.1 (184)))]) hx hb dX7_lost_10 rfl hl (by decide) rfl (fun ls hl => ?_)
  refine lv_iconst (v := (0 : Int32)) hx hb dX7_lost_11 (by decide) ?_
  refine lv_istore_n (lv' := [(2, .int (0 : Int32)), (1, .int (0 : Int32)), (0, .ref (w.1 (184)))]) hx hb dX7_lost_12 rfl hl (by decide) rfl (fun ls hl => ?_)
  obtain ⟨rr, hlp, hf⟩ := bnd hf
  have hE13_56 : ∀ (y1_56 : Int32) (H : Heap) (locs : List Loc) (ls : Array Slot), f_X7_lost_k1 σ5 y1_56 = some (r, σ') → va_P D vwCl (WL w σ5) H → va_S (AL w) s.heap H locs → lv_has ls 3 [(1, .int y1_56)] → W p l e (rmW 5 124) s m args below meth c H locs 0 0 (MQ below (qiW D w r σ') args s 0 0 (AL w)) (F0 m 56 ls []) := by
    intro y1_56 H locs ls hf hP hS hl
    unfold f_X7_lost_k1 at hf
    refine lv_iload_n hx hb dX7_lost_56 rfl (lv_at hl 0 rfl) ?_
    have hq := Option.some.inj hf
    exact q_iret hx hb hr hlk hP hS (congrArg Prod.fst hq) (congrArg Prod.snd hq) dX7_lost_57
  refine lp_ind (G := fun (st : (Int32 × Int32)) => ∀ (H : Heap) (locs : List Loc) (ls : Array Slot), va_P D vwCl (WL w σ5) H → va_S (AL w) s.heap H locs → lv_has ls 3 [(0, .ref (w.1 (184))), (1, .int st.1), (2, .int st.2)] → W p l e (rmW 5 124) s m args below meth c H locs 0 0 (MQ below (qiW D w r σ') args s 0 0 (AL w)) (F0 m 13 ls [])) (X := fun rr => f_X7_lost_k1 σ5 rr = some (r, σ')) ?_ _ _ rr hlp hf _ _ _ hP hS (lv_sub hl [2, 1, 0] rfl)
  rintro ⟨x1_13, x2_13⟩ oo13 hb9 hG13 hX13 H locs ls hP hS hl
  have hP : va_P D vwCl (WL w σ5) H := hP
  have hl : lv_has ls 3 [(0, .ref (w.1 (184))), (1, .int x1_13), (2, .int x2_13)] := hl
  have hf : f_X7_lost_b1 σ5 x1_13 x2_13 = some oo13 := hb9
  unfold f_X7_lost_b1 at hf
  refine lv_iload_n hx hb dX7_lost_13 rfl (lv_at hl 2 rfl) ?_
  refine lv_aload_n hx hb dX7_lost_14 rfl (lv_at hl 0 rfl) ?_
  refine gt_X7_20 hx hb hts hown hK hP dX7_lost_15 ?_
  refine lv_iconst (v := (0 : Int32)) hx hb dX7_lost_18 (by decide) ?_
  obtain ⟨v19, h19, hf⟩ := bnd hf
  refine q_iald hx hb hK hP isC188.o isC188.k h19 dX7_lost_19 ?_
  refine lv_icmp_ge (tgt := 56) hx hb dX7_lost_20 (by decide) (fun hc => ?_) (fun hc => ?_)
  · have hf := ifp hc hf
    obtain rfl := Option.some.inj hf
    exact hE13_56 x1_13 _ _ _ (hX13 _ rfl) hP hS (lv_sub hl [1] rfl)
  · have hf := ifn hc hf
    refine lv_iload_n hx hb dX7_lost_23 rfl (lv_at hl 1 rfl) ?_
    refine lv_aload_n hx hb dX7_lost_24 rfl (lv_at hl 0 rfl) ?_
    refine gt_X7_50 hx hb hts hown hK hP dX7_lost_25 ?_
    refine lv_iconst (v := (0 : Int32)) hx hb dX7_lost_28 (by decide) ?_
    refine lv_iload_n hx hb dX7_lost_29 rfl (lv_at hl 2 rfl) ?_
    refine lv_iadd hx hb dX7_lost_30 ?_
    obtain ⟨v31, h31, hf⟩ := bnd hf
    refine q_iald hx hb hK hP isC198.o isC198.k h31 dX7_lost_31 ?_
    refine lv_aload_n hx hb dX7_lost_32 rfl (lv_at hl 0 rfl) ?_
    refine gt_X7_26 hx hb hts hown hK hP dX7_lost_33 ?_
    refine lv_iload_n hx hb dX7_lost_36 rfl (lv_at hl 2 rfl) ?_
    obtain ⟨v37, h37, hf⟩ := bnd hf
    refine q_iald hx hb hK hP isC190.o isC190.k h37 dX7_lost_37 ?_
    refine lv_icmp_ne (tgt := 45) hx hb dX7_lost_38 (by decide) (fun hc => ?_) (fun hc => ?_)
    · have hf := ifp hc hf
      refine lv_iconst (v := (1 : Int32)) hx hb dX7_lost_45 (by decide) ?_
      refine lv_iload_n hx hb dX7_lost_46 rfl (lv_at hl 2 rfl) ?_
      refine lv_ishl hx hb dX7_lost_47 ?_
      refine lv_ior hx hb dX7_lost_48 ?_
      refine lv_istore_n (lv' := [(1, .int (x1_13 ||| ((1 : Int32) <<< (x2_13 &&& 31)))), (0, .ref (w.1 (184))), (2, .int x2_13)]) hx hb dX7_lost_49 rfl hl (by decide) rfl (fun ls hl => ?_)
      refine lv_iinc (v := (x2_13 + (1 : Int32))) (lv' := [(2, .int (x2_13 + (1 : Int32))), (1, .int (x1_13 ||| ((1 : Int32) <<< (x2_13 &&& 31)))), (0, .ref (w.1 (184)))]) hx hb dX7_lost_50 hl (k := 2) rfl ii_1 (by decide) rfl (fun ls hl => ?_)
      refine lv_goto (tgt := 13) hx hb dX7_lost_53 (by decide) ?_
      obtain rfl := Option.some.inj hf
      exact hG13 _ rfl _ _ _ hP hS (lv_sub hl [2, 1, 0] rfl)
    · have hf := ifn (fun h => h hc) hf
      refine lv_iconst (v := (0 : Int32)) hx hb dX7_lost_41 (by decide) ?_
      refine lv_goto (tgt := 48) hx hb dX7_lost_42 (by decide) ?_
      refine lv_ior hx hb dX7_lost_48 ?_
      refine lv_istore_n (lv' := [(1, .int (x1_13 ||| (0 : Int32))), (0, .ref (w.1 (184))), (2, .int x2_13)]) hx hb dX7_lost_49 rfl hl (by decide) rfl (fun ls hl => ?_)
      refine lv_iinc (v := (x2_13 + (1 : Int32))) (lv' := [(2, .int (x2_13 + (1 : Int32))), (1, .int (x1_13 ||| (0 : Int32))), (0, .ref (w.1 (184)))]) hx hb dX7_lost_50 hl (k := 2) rfl ii_1 (by decide) rfl (fun ls hl => ?_)
      refine lv_goto (tgt := 13) hx hb dX7_lost_53 (by decide) ?_
      obtain rfl := Option.some.inj hf
      exact hG13 _ rfl _ _ _ hP hS (lv_sub hl [2, 1, 0] rfl)
def f_X7_helps_b1 (x2_19 : Int32) (x3_19 : Int32) (x4_19 : Int32) (σ_19 : Sg) : Option ((Int32 × Int32 × Int32 × Sg) ⊕ (Int32 × Int32 × Sg)) :=
  (ga (σ_19 (186)) (ln (186)) (0 : Int32)).bind fun v26 =>
  if v26 ≤ x4_19 then
  some (.inr (x2_19, x3_19, σ_19))
  else
  (f_X7_postAt σ_19 (195) x4_19).bind fun v37 =>
  if ¬ v37 = (-4 : Int32) then
  some (.inl (x2_19, x3_19, (x4_19 + (1 : Int32)), σ_19))
  else
  (f_X7_take σ_19).bind fun σ46 =>
  (some (sf σ46 (184) 22 ((1 : Int32) <<< (x4_19 &&& 31)))).bind fun σ54 =>
  (f_X7_comeBy σ54).bind fun q58 =>
  (some (sf q58.2 (184) 22 (0 : Int32))).bind fun σ65 =>
  if x2_19 = (-4 : Int32) then
  some (.inl (x4_19, q58.1, (x4_19 + (1 : Int32)), σ65))
  else
  if q58.1 ≤ x3_19 then
  some (.inl (x2_19, x3_19, (x4_19 + (1 : Int32)), σ65))
  else
  some (.inl (x4_19, q58.1, (x4_19 + (1 : Int32)), σ65))
def f_X7_helps_k1 (a1 : Int32) (y2_92 : Int32) (y3_92 : Int32) (σ_92 : Sg) : Option (Int32 × Sg) :=
  if y2_92 = (-4 : Int32) then
  some (y2_92, σ_92)
  else
  if ¬ a1 = 0 then
  some (y3_92, σ_92)
  else
  some (y2_92, σ_92)
def f_X7_helps (σ : Sg) (a1 : Int32) : Option (Int32 × Sg) :=
  (f_X7_in σ a1 (0 : Int32) (1 : Int32)).bind fun v3 =>
  if ¬ v3 = 0 then
  (lp (fun st => f_X7_helps_b1  st.1 st.2.1 st.2.2.1 st.2.2.2) FU ((-4 : Int32), (0 : Int32), (0 : Int32), σ)).bind fun rr => f_X7_helps_k1 a1 rr.1 rr.2.1 rr.2.2
  else
  some ((-1 : Int32), σ)
set_option maxHeartbeats 4000000 in
set_option maxRecDepth 100000 in
theorem c_X7_helps (l : Launch) (D : va_G) (w : Wv) (σ : Sg) (a1 : Int32) (r : Int32) (σ' : Sg)  (hJ : Inj w) (hf : f_X7_helps σ a1 = some (r, σ')) : Met l yX7_helps (.code yX7_helps cX7_helps 6 (some .int) :: TB) (rmW 5 124) (pcW D w [.ref (w.1 (184)), .int a1] σ) (qiW D w r σ') 0 0 (AL w) := by
  refine q_open (by decide +kernel) (Nat.le_of_ble_eq_true rfl) ?_
  intro p e s m args below meth c ls hx hb hml hr hlk hown hts hK hP hS hl
  have hown : s.vm.findClass RX7 = some m.cls := hown
  have hl : lv_has ls 6 [(0, .ref (w.1 (184))), (1, .int a1)] := hl
  unfold f_X7_helps at hf
  refine lv_iload_n hx hb dX7_helps_0 rfl (lv_at hl 1 rfl) ?_
  refine lv_iconst (v := (0 : Int32)) hx hb dX7_helps_1 (by decide) ?_
  refine lv_iconst (v := (1 : Int32)) hx hb dX7_helps_2 (by decide) ?_
  obtain ⟨v3, h3, hf⟩ := bnd hf
  refine q_cSz (As := [.int a1, .int (0 : Int32), .int (1 : Int32)]) hx hb hts hml hown hK hP hS (c_X7_in l D w σ a1 (0 : Int32) (1 : Int32) v3 h3) hw_X7_83 hd_X7_in ⟨rfl, rfl, rfl⟩ ⟨Nat.le_of_ble_eq_true rfl, Nat.le_of_ble_eq_true rfl⟩ ⟨Nat.le_of_ble_eq_true rfl, Nat.le_of_ble_eq_true rfl⟩ hl.1 rfl (Nat.le_of_ble_eq_true rfl) dX7_helps_3 (fun hz3 H locs hP hS => ?_)
  refine lv_if_ne (tgt := 11) hx hb dX7_helps_6 (by decide) (fun hc => ?_) (fun hc => ?_)
  · have hf := ifp hc hf
    refine lv_bipush (v := (-4 : Int32)) hx hb dX7_helps_11 (by decide) ?_
    refine lv_istore_n (lv' := [(2, .int (-4 : Int32)), (0, .ref (w.1 (184))), (1, .int a1)]) hx hb dX7_helps_13 rfl hl (by decide) rfl (fun ls hl => ?_)
    refine lv_iconst (v := (0 : Int32)) hx hb dX7_helps_14 (by decide) ?_
    refine lv_istore_n (lv' := [(3, .int (0 : Int32)), (2, .int (-4 : Int32)), (0, .ref (w.1 (184))), (1, .int a1)]) hx hb dX7_helps_15 rfl hl (by decide) rfl (fun ls hl => ?_)
    refine lv_iconst (v := (0 : Int32)) hx hb dX7_helps_16 (by decide) ?_
    refine lv_istore (lv' := [(4, .int (0 : Int32)), (3, .int (0 : Int32)), (2, .int (-4 : Int32)), (0, .ref (w.1 (184))), (1, .int a1)]) hx hb dX7_helps_17 hl (by decide) rfl (fun ls hl => ?_)
    obtain ⟨rr, hlp, hf⟩ := bnd hf
    have hE19_92 : ∀ (y2_92 : Int32) (y3_92 : Int32) (σ_92 : Sg) (H : Heap) (locs : List Loc) (ls : Array Slot), f_X7_helps_k1 a1 y2_92 y3_92 σ_92 = some (r, σ') → va_P D vwCl (WL w σ_92) H → va_S (AL w) s.heap H locs → lv_has ls 6 [(1, .int a1), (2, .int y2_92), (3, .int y3_92)] → W p l e (rmW 5 124) s m args below meth c H locs 0 0 (MQ below (qiW D w r σ') args s 0 0 (AL w)) (F0 m 92 ls []) := by
      intro y2_92 y3_92 σ_92 H locs ls hf hP hS hl
      unfold f_X7_helps_k1 at hf
      refine lv_iload_n hx hb dX7_helps_92 rfl (lv_at hl 1 rfl) ?_
      refine lv_bipush (v := (-4 : Int32)) hx hb dX7_helps_93 (by decide) ?_
      refine lv_icmp_eq (tgt := 102) hx hb dX7_helps_95 (by decide) (fun hc => ?_) (fun hc => ?_)
      · have hf := ifp hc hf
        refine lv_iload_n hx hb dX7_helps_102 rfl (lv_at hl 1 rfl) ?_
        refine lv_goto (tgt := 107) hx hb dX7_helps_103 (by decide) ?_
        have hq := Option.some.inj hf
        exact q_iret hx hb hr hlk hP hS (congrArg Prod.fst hq) (congrArg Prod.snd hq) dX7_helps_107
      · have hf := ifn hc hf
        refine lv_iload_n hx hb dX7_helps_98 rfl (lv_at hl 0 rfl) ?_
        refine lv_if_ne (tgt := 106) hx hb dX7_helps_99 (by decide) (fun hc => ?_) (fun hc => ?_)
        · have hf := ifp hc hf
          refine lv_iload_n hx hb dX7_helps_106 rfl (lv_at hl 2 rfl) ?_
          have hq := Option.some.inj hf
          exact q_iret hx hb hr hlk hP hS (congrArg Prod.fst hq) (congrArg Prod.snd hq) dX7_helps_107
        · have hf := ifn (fun h => h hc) hf
          refine lv_iload_n hx hb dX7_helps_102 rfl (lv_at hl 1 rfl) ?_
          refine lv_goto (tgt := 107) hx hb dX7_helps_103 (by decide) ?_
          have hq := Option.some.inj hf
          exact q_iret hx hb hr hlk hP hS (congrArg Prod.fst hq) (congrArg Prod.snd hq) dX7_helps_107
    refine lp_ind (G := fun (st : (Int32 × Int32 × Int32 × Sg)) => ∀ (H : Heap) (locs : List Loc) (ls : Array Slot), va_P D vwCl (WL w st.2.2.2) H → va_S (AL w) s.heap H locs → lv_has ls 6 [(0, .ref (w.1 (184))), (1, .int a1), (2, .int st.1), (3, .int st.2.1), (4, .int st.2.2.1)] → W p l e (rmW 5 124) s m args below meth c H locs 0 0 (MQ below (qiW D w r σ') args s 0 0 (AL w)) (F0 m 19 ls [])) (X := fun rr => f_X7_helps_k1 a1 rr.1 rr.2.1 rr.2.2 = some (r, σ')) ?_ _ _ rr hlp hf _ _ _ hP hS (lv_sub hl [3, 4, 2, 1, 0] rfl)
    rintro ⟨x2_19, x3_19, x4_19, σ_19⟩ oo19 hb9 hG19 hX19 H locs ls hP hS hl
    have hP : va_P D vwCl (WL w σ_19) H := hP
    have hl : lv_has ls 6 [(0, .ref (w.1 (184))), (1, .int a1), (2, .int x2_19), (3, .int x3_19), (4, .int x4_19)] := hl
    have hf : f_X7_helps_b1  x2_19 x3_19 x4_19 σ_19 = some oo19 := hb9
    unfold f_X7_helps_b1 at hf
    refine lv_iload hx hb dX7_helps_19 (lv_at hl 4 rfl) ?_
    refine lv_aload_n hx hb dX7_helps_21 rfl (lv_at hl 0 rfl) ?_
    refine gt_X7_13 hx hb hts hown hK hP dX7_helps_22 ?_
    refine lv_iconst (v := (0 : Int32)) hx hb dX7_helps_25 (by decide) ?_
    obtain ⟨v26, h26, hf⟩ := bnd hf
    refine q_iald hx hb hK hP isC186.o isC186.k h26 dX7_helps_26 ?_
    refine lv_icmp_ge (tgt := 92) hx hb dX7_helps_27 (by decide) (fun hc => ?_) (fun hc => ?_)
    · have hf := ifp hc hf
      obtain rfl := Option.some.inj hf
      exact hE19_92 x2_19 x3_19 σ_19 _ _ _ (hX19 _ rfl) hP hS (lv_sub hl [1, 2, 3] rfl)
    · have hf := ifn hc hf
      refine lv_aload_n hx hb dX7_helps_30 rfl (lv_at hl 0 rfl) ?_
      refine lv_aload_n hx hb dX7_helps_31 rfl (lv_at hl 0 rfl) ?_
      refine gt_X7_41 hx hb hts hown hK hP dX7_helps_32 ?_
      refine lv_iload hx hb dX7_helps_35 (lv_at hl 4 rfl) ?_
      obtain ⟨v37, h37, hf⟩ := bnd hf
      refine q_cVi (As := [.ref (w.1 (195)), .int x4_19]) hx hb hts hml hown hK hP hS (c_X7_postAt l D w σ_19 (195) x4_19 v37 isC195 h37) hw_X7_184 hd_X7_postAt ⟨rfl, rfl, rfl⟩ o184 (ce7 kd184) rfl ⟨Nat.le_of_ble_eq_true rfl, Nat.le_of_ble_eq_true rfl⟩ ⟨Nat.le_of_ble_eq_true rfl, Nat.le_of_ble_eq_true rfl⟩ hl.1 rfl (Nat.le_of_ble_eq_true rfl) dX7_helps_37 (fun H locs hP hS => ?_)
      refine lv_bipush (v := (-4 : Int32)) hx hb dX7_helps_40 (by decide) ?_
      refine lv_icmp_ne (tgt := 86) hx hb dX7_helps_42 (by decide) (fun hc => ?_) (fun hc => ?_)
      · have hf := ifp hc hf
        refine lv_iinc (v := (x4_19 + (1 : Int32))) (lv' := [(4, .int (x4_19 + (1 : Int32))), (0, .ref (w.1 (184))), (1, .int a1), (2, .int x2_19), (3, .int x3_19)]) hx hb dX7_helps_86 hl (k := 4) rfl ii_1 (by decide) rfl (fun ls hl => ?_)
        refine lv_goto (tgt := 19) hx hb dX7_helps_89 (by decide) ?_
        obtain rfl := Option.some.inj hf
        exact hG19 _ rfl _ _ _ hP hS (lv_sub hl [1, 2, 3, 4, 0] rfl)
      · have hf := ifn (fun h => h hc) hf
        refine lv_aload_n hx hb dX7_helps_45 rfl (lv_at hl 0 rfl) ?_
        obtain ⟨σ46, h46, hf⟩ := bnd hf
        refine q_cVv (As := []) hx hb hts hml hown hK hP hS (c_X7_take l D w σ_19 σ46 hJ h46) hw_X7_225 hd_X7_take ⟨rfl, rfl, rfl⟩ o184 (ce7 kd184) rfl ⟨Nat.le_of_ble_eq_true rfl, Nat.le_of_ble_eq_true rfl⟩ ⟨Nat.le_of_ble_eq_true rfl, Nat.le_of_ble_eq_true rfl⟩ hl.1 rfl (Nat.le_of_ble_eq_true rfl) dX7_helps_46 (fun H locs hP hS => ?_)
        refine lv_aload_n hx hb dX7_helps_49 rfl (lv_at hl 0 rfl) ?_
        refine lv_iconst (v := (1 : Int32)) hx hb dX7_helps_50 (by decide) ?_
        refine lv_iload hx hb dX7_helps_51 (lv_at hl 4 rfl) ?_
        refine lv_ishl hx hb dX7_helps_53 ?_
        obtain ⟨σ54, h54, hf⟩ := bnd hf
        refine pt_X7_192 hx hb hts hown hK hP hJ hS h54 dX7_helps_54 (fun H locs hP hS => ?_)
        refine lv_aload_n hx hb dX7_helps_57 rfl (lv_at hl 0 rfl) ?_
        obtain ⟨⟨v58, σ58⟩, h58, hf⟩ := bnd hf
        dsimp only at hf
        refine q_cVi (As := []) hx hb hts hml hown hK hP hS (c_X7_comeBy l D w σ54 v58 σ58 hJ h58) hw_X7_228 hd_X7_comeBy ⟨rfl, rfl, rfl⟩ o184 (ce7 kd184) rfl ⟨Nat.le_of_ble_eq_true rfl, Nat.le_of_ble_eq_true rfl⟩ ⟨Nat.le_of_ble_eq_true rfl, Nat.le_of_ble_eq_true rfl⟩ hl.1 rfl (Nat.le_of_ble_eq_true rfl) dX7_helps_58 (fun H locs hP hS => ?_)
        refine lv_istore (lv' := [(5, .int v58), (0, .ref (w.1 (184))), (1, .int a1), (2, .int x2_19), (3, .int x3_19), (4, .int x4_19)]) hx hb dX7_helps_61 hl (by decide) rfl (fun ls hl => ?_)
        refine lv_aload_n hx hb dX7_helps_63 rfl (lv_at hl 1 rfl) ?_
        refine lv_iconst (v := (0 : Int32)) hx hb dX7_helps_64 (by decide) ?_
        obtain ⟨σ65, h65, hf⟩ := bnd hf
        refine pt_X7_192 hx hb hts hown hK hP hJ hS h65 dX7_helps_65 (fun H locs hP hS => ?_)
        refine lv_iload_n hx hb dX7_helps_68 rfl (lv_at hl 3 rfl) ?_
        refine lv_bipush (v := (-4 : Int32)) hx hb dX7_helps_69 (by decide) ?_
        refine lv_icmp_eq (tgt := 80) hx hb dX7_helps_71 (by decide) (fun hc => ?_) (fun hc => ?_)
        · have hf := ifp hc hf
          refine lv_iload hx hb dX7_helps_80 (lv_at hl 5 rfl) ?_
          refine lv_istore_n (lv' := [(2, .int x4_19), (5, .int v58), (0, .ref (w.1 (184))), (1, .int a1), (3, .int x3_19), (4, .int x4_19)]) hx hb dX7_helps_82 rfl hl (by decide) rfl (fun ls hl => ?_)
          refine lv_iload hx hb dX7_helps_83 (lv_at hl 1 rfl) ?_
          refine lv_istore_n (lv' := [(3, .int v58), (2, .int x4_19), (5, .int v58), (0, .ref (w.1 (184))), (1, .int a1), (4, .int x4_19)]) hx hb dX7_helps_85 rfl hl (by decide) rfl (fun ls hl => ?_)
          refine lv_iinc (v := (x4_19 + (1 : Int32))) (lv' := [(4, .int (x4_19 + (1 : Int32))), (3, .int v58), (2, .int x4_19), (5, .int v58), (0, .ref (w.1 (184))), (1, .int a1)]) hx hb dX7_helps_86 hl (k := 5) rfl ii_1 (by decide) rfl (fun ls hl => ?_)
          refine lv_goto (tgt := 19) hx hb dX7_helps_89 (by decide) ?_
          obtain rfl := Option.some.inj hf
          exact hG19 _ rfl _ _ _ hP hS (lv_sub hl [4, 5, 2, 1, 0] rfl)
        · have hf := ifn hc hf
          refine lv_iload hx hb dX7_helps_74 (lv_at hl 0 rfl) ?_
          refine lv_iload_n hx hb dX7_helps_76 rfl (lv_at hl 4 rfl) ?_
          refine lv_icmp_le (tgt := 86) hx hb dX7_helps_77 (by decide) (fun hc => ?_) (fun hc => ?_)
          · have hf := ifp hc hf
            refine lv_iinc (v := (x4_19 + (1 : Int32))) (lv' := [(4, .int (x4_19 + (1 : Int32))), (5, .int v58), (0, .ref (w.1 (184))), (1, .int a1), (2, .int x2_19), (3, .int x3_19)]) hx hb dX7_helps_86 hl (k := 5) rfl ii_1 (by decide) rfl (fun ls hl => ?_)
            refine lv_goto (tgt := 19) hx hb dX7_helps_89 (by decide) ?_
            obtain rfl := Option.some.inj hf
            exact hG19 _ rfl _ _ _ hP hS (lv_sub hl [2, 3, 4, 5, 0] rfl)
          · have hf := ifn hc hf
            refine lv_iload hx hb dX7_helps_80 (lv_at hl 5 rfl) ?_
            refine lv_istore_n (lv' := [(2, .int x4_19), (5, .int v58), (0, .ref (w.1 (184))), (1, .int a1), (3, .int x3_19), (4, .int x4_19)]) hx hb dX7_helps_82 rfl hl (by decide) rfl (fun ls hl => ?_)
            refine lv_iload hx hb dX7_helps_83 (lv_at hl 1 rfl) ?_
            refine lv_istore_n (lv' := [(3, .int v58), (2, .int x4_19), (5, .int v58), (0, .ref (w.1 (184))), (1, .int a1), (4, .int x4_19)]) hx hb dX7_helps_85 rfl hl (by decide) rfl (fun ls hl => ?_)
            refine lv_iinc (v := (x4_19 + (1 : Int32))) (lv' := [(4, .int (x4_19 + (1 : Int32))), (3, .int v58), (2, .int x4_19), (5, .int v58), (0, .ref (w.1 (184))), (1, .int a1)]) hx hb dX7_helps_86 hl (k := 5) rfl ii_1 (by decide) rfl (fun ls hl => ?_)
            refine lv_goto (tgt := 19) hx hb dX7_helps_89 (by decide) ?_
            obtain rfl := Option.some.inj hf
            exact hG19 _ rfl _ _ _ hP hS (lv_sub hl [4, 5, 2, 1, 0] rfl)
  · have hf := ifn (fun h => h hc) hf
    refine lv_iconst (v := (-1 : Int32)) hx hb dX7_helps_9 (by decide) ?_
    have hq := Option.some.inj hf
    exact q_iret hx hb hr hlk hP hS (congrArg Prod.fst hq) (congrArg Prod.snd hq) dX7_helps_10
def f_X7_paints_b1 (x4_18 : Int32) (x5_49 : Int32) (x6_49 : Int32) (σ_49 : Sg) : Option ((Int32 × Int32 × Sg) ⊕ (Int32 × Sg)) :=
  (ga (σ_49 (187)) (ln (187)) (0 : Int32)).bind fun v56 =>
  if v56 ≤ x6_49 then
  some (.inr (x5_49, σ_49))
  else
  (f_X7_has σ_49 x4_18 x6_49).bind fun v64 =>
  if v64 = 0 then
  some (.inl (x5_49, (x6_49 + (1 : Int32)), σ_49))
  else
  if x5_49 = 0 then
  some (.inl ((0 : Int32), (x6_49 + (1 : Int32)), σ_49))
  else
  (ga (σ_49 (198)) (ln (198)) ((71 : Int32) + x6_49)).bind fun v84 =>
  if v84 = (-4 : Int32) then
  some (.inl ((0 : Int32), (x6_49 + (1 : Int32)), σ_49))
  else
  (f_X7_paintOn σ_49 (198) x6_49).bind fun σ109 =>
  some (.inl ((1 : Int32), (x6_49 + (1 : Int32)), σ109))
def f_X7_paints_k1 (x2_18 : Int32) (x3_18 : Int32) (x4_18 : Int32) (y5_118 : Int32) (σ_118 : Sg) : Option ((Int32 × Int32 × Int32 × Sg) ⊕ (Int32 × Int32 × Sg)) :=
  if y5_118 = 0 then
  if x3_18 < (-1 : Int32) then
  some (.inl (x4_18, (-1 : Int32), (x4_18 + (1 : Int32)), σ_118))
  else
  if ¬ (-1 : Int32) = x3_18 then
  some (.inl (x2_18, x3_18, (x4_18 + (1 : Int32)), σ_118))
  else
  (f_X7_bitsOf σ_118 x4_18).bind fun v147 =>
  (f_X7_bitsOf σ_118 x2_18).bind fun v151 =>
  if v151 ≤ v147 then
  some (.inl (x2_18, x3_18, (x4_18 + (1 : Int32)), σ_118))
  else
  some (.inl (x4_18, (-1 : Int32), (x4_18 + (1 : Int32)), σ_118))
  else
  (f_X7_comeBy σ_118).bind fun q124 =>
  if x3_18 < q124.1 then
  some (.inl (x4_18, q124.1, (x4_18 + (1 : Int32)), q124.2))
  else
  if ¬ q124.1 = x3_18 then
  some (.inl (x2_18, x3_18, (x4_18 + (1 : Int32)), q124.2))
  else
  (f_X7_bitsOf q124.2 x4_18).bind fun v147 =>
  (f_X7_bitsOf q124.2 x2_18).bind fun v151 =>
  if v151 ≤ v147 then
  some (.inl (x2_18, x3_18, (x4_18 + (1 : Int32)), q124.2))
  else
  some (.inl (x4_18, q124.1, (x4_18 + (1 : Int32)), q124.2))
def f_X7_paints_b2 (x2_18 : Int32) (x3_18 : Int32) (x4_18 : Int32) (σ_18 : Sg) : Option ((Int32 × Int32 × Int32 × Sg) ⊕ (Int32 × Int32 × Sg)) :=
  (ga (σ_18 (187)) (ln (187)) (0 : Int32)).bind fun v26 =>
  if ((1 : Int32) <<< (v26 &&& 31)) ≤ x4_18 then
  some (.inr (x2_18, x3_18, σ_18))
  else
  (f_X7_take σ_18).bind fun σ32 =>
  (f_X7_measure σ32 (198)).bind fun σ40 =>
  (lp (fun st => f_X7_paints_b1 x4_18 st.1 st.2.1 st.2.2) FU ((1 : Int32), (0 : Int32), σ40)).bind fun rr => f_X7_paints_k1 x2_18 x3_18 x4_18 rr.1 rr.2
def f_X7_paints_k2 (a1 : Int32) (y2_169 : Int32) (y3_169 : Int32) (σ_169 : Sg) : Option (Int32 × Sg) :=
  if ¬ a1 = 0 then
  some (y3_169, σ_169)
  else
  some (y2_169, σ_169)
def f_X7_paints (σ : Sg) (a1 : Int32) : Option (Int32 × Sg) :=
  (f_X7_in σ a1 (0 : Int32) (1 : Int32)).bind fun v3 =>
  if ¬ v3 = 0 then
  (lp (fun st => f_X7_paints_b2  st.1 st.2.1 st.2.2.1 st.2.2.2) FU ((0 : Int32), (-1 : Int32), (0 : Int32), σ)).bind fun rr => f_X7_paints_k2 a1 rr.1 rr.2.1 rr.2.2
  else
  some ((-1 : Int32), σ)
set_option maxHeartbeats 4000000 in
set_option maxRecDepth 100000 in
theorem c_X7_paints (l : Launch) (D : va_G) (w : Wv) (σ : Sg) (a1 : Int32) (r : Int32) (σ' : Sg)  (hJ : Inj w) (hf : f_X7_paints σ a1 = some (r, σ')) : Met l yX7_paints (.code yX7_paints cX7_paints 7 (some .int) :: TB) (rmW 5 124) (pcW D w [.ref (w.1 (184)), .int a1] σ) (qiW D w r σ') 0 0 (AL w) := by
  refine q_open (by decide +kernel) (Nat.le_of_ble_eq_true rfl) ?_
  intro p e s m args below meth c ls hx hb hml hr hlk hown hts hK hP hS hl
  have hown : s.vm.findClass RX7 = some m.cls := hown
  have hl : lv_has ls 7 [(0, .ref (w.1 (184))), (1, .int a1)] := hl
  unfold f_X7_paints at hf
  refine lv_iload_n hx hb dX7_paints_0 rfl (lv_at hl 1 rfl) ?_
  refine lv_iconst (v := (0 : Int32)) hx hb dX7_paints_1 (by decide) ?_
  refine lv_iconst (v := (1 : Int32)) hx hb dX7_paints_2 (by decide) ?_
  obtain ⟨v3, h3, hf⟩ := bnd hf
  refine q_cSz (As := [.int a1, .int (0 : Int32), .int (1 : Int32)]) hx hb hts hml hown hK hP hS (c_X7_in l D w σ a1 (0 : Int32) (1 : Int32) v3 h3) hw_X7_83 hd_X7_in ⟨rfl, rfl, rfl⟩ ⟨Nat.le_of_ble_eq_true rfl, Nat.le_of_ble_eq_true rfl⟩ ⟨Nat.le_of_ble_eq_true rfl, Nat.le_of_ble_eq_true rfl⟩ hl.1 rfl (Nat.le_of_ble_eq_true rfl) dX7_paints_3 (fun hz3 H locs hP hS => ?_)
  refine lv_if_ne (tgt := 11) hx hb dX7_paints_6 (by decide) (fun hc => ?_) (fun hc => ?_)
  · have hf := ifp hc hf
    refine lv_iconst (v := (0 : Int32)) hx hb dX7_paints_11 (by decide) ?_
    refine lv_istore_n (lv' := [(2, .int (0 : Int32)), (0, .ref (w.1 (184))), (1, .int a1)]) hx hb dX7_paints_12 rfl hl (by decide) rfl (fun ls hl => ?_)
    refine lv_iconst (v := (-1 : Int32)) hx hb dX7_paints_13 (by decide) ?_
    refine lv_istore_n (lv' := [(3, .int (-1 : Int32)), (2, .int (0 : Int32)), (0, .ref (w.1 (184))), (1, .int a1)]) hx hb dX7_paints_14 rfl hl (by decide) rfl (fun ls hl => ?_)
    refine lv_iconst (v := (0 : Int32)) hx hb dX7_paints_15 (by decide) ?_
    refine lv_istore (lv' := [(4, .int (0 : Int32)), (3, .int (-1 : Int32)), (2, .int (0 : Int32)), (0, .ref (w.1 (184))), (1, .int a1)]) hx hb dX7_paints_16 hl (by decide) rfl (fun ls hl => ?_)
    obtain ⟨rr, hlp, hf⟩ := bnd hf
    have hE18_169 : ∀ (y2_169 : Int32) (y3_169 : Int32) (σ_169 : Sg) (H : Heap) (locs : List Loc) (ls : Array Slot), f_X7_paints_k2 a1 y2_169 y3_169 σ_169 = some (r, σ') → va_P D vwCl (WL w σ_169) H → va_S (AL w) s.heap H locs → lv_has ls 7 [(1, .int a1), (2, .int y2_169), (3, .int y3_169)] → W p l e (rmW 5 124) s m args below meth c H locs 0 0 (MQ below (qiW D w r σ') args s 0 0 (AL w)) (F0 m 169 ls []) := by
      intro y2_169 y3_169 σ_169 H locs ls hf hP hS hl
      unfold f_X7_paints_k2 at hf
      refine lv_iload_n hx hb dX7_paints_169 rfl (lv_at hl 0 rfl) ?_
      refine lv_if_ne (tgt := 177) hx hb dX7_paints_170 (by decide) (fun hc => ?_) (fun hc => ?_)
      · have hf := ifp hc hf
        refine lv_iload_n hx hb dX7_paints_177 rfl (lv_at hl 2 rfl) ?_
        have hq := Option.some.inj hf
        exact q_iret hx hb hr hlk hP hS (congrArg Prod.fst hq) (congrArg Prod.snd hq) dX7_paints_178
      · have hf := ifn (fun h => h hc) hf
        refine lv_iload_n hx hb dX7_paints_173 rfl (lv_at hl 1 rfl) ?_
        refine lv_goto (tgt := 178) hx hb dX7_paints_174 (by decide) ?_
        have hq := Option.some.inj hf
        exact q_iret hx hb hr hlk hP hS (congrArg Prod.fst hq) (congrArg Prod.snd hq) dX7_paints_178
    refine lp_ind (G := fun (st : (Int32 × Int32 × Int32 × Sg)) => ∀ (H : Heap) (locs : List Loc) (ls : Array Slot), va_P D vwCl (WL w st.2.2.2) H → va_S (AL w) s.heap H locs → lv_has ls 7 [(0, .ref (w.1 (184))), (1, .int a1), (2, .int st.1), (3, .int st.2.1), (4, .int st.2.2.1)] → W p l e (rmW 5 124) s m args below meth c H locs 0 0 (MQ below (qiW D w r σ') args s 0 0 (AL w)) (F0 m 18 ls [])) (X := fun rr => f_X7_paints_k2 a1 rr.1 rr.2.1 rr.2.2 = some (r, σ')) ?_ _ _ rr hlp hf _ _ _ hP hS (lv_sub hl [3, 4, 2, 1, 0] rfl)
    rintro ⟨x2_18, x3_18, x4_18, σ_18⟩ oo18 hb9 hG18 hX18 H locs ls hP hS hl
    have hP : va_P D vwCl (WL w σ_18) H := hP
    have hl : lv_has ls 7 [(0, .ref (w.1 (184))), (1, .int a1), (2, .int x2_18), (3, .int x3_18), (4, .int x4_18)] := hl
    have hf : f_X7_paints_b2  x2_18 x3_18 x4_18 σ_18 = some oo18 := hb9
    unfold f_X7_paints_b2 at hf
    refine lv_iload hx hb dX7_paints_18 (lv_at hl 4 rfl) ?_
    refine lv_iconst (v := (1 : Int32)) hx hb dX7_paints_20 (by decide) ?_
    refine lv_aload_n hx hb dX7_paints_21 rfl (lv_at hl 0 rfl) ?_
    refine gt_X7_17 hx hb hts hown hK hP dX7_paints_22 ?_
    refine lv_iconst (v := (0 : Int32)) hx hb dX7_paints_25 (by decide) ?_
    obtain ⟨v26, h26, hf⟩ := bnd hf
    refine q_iald hx hb hK hP isC187.o isC187.k h26 dX7_paints_26 ?_
    refine lv_ishl hx hb dX7_paints_27 ?_
    refine lv_icmp_ge (tgt := 169) hx hb dX7_paints_28 (by decide) (fun hc => ?_) (fun hc => ?_)
    · have hf := ifp hc hf
      obtain rfl := Option.some.inj hf
      exact hE18_169 x2_18 x3_18 σ_18 _ _ _ (hX18 _ rfl) hP hS (lv_sub hl [1, 2, 3] rfl)
    · have hf := ifn hc hf
      refine lv_aload_n hx hb dX7_paints_31 rfl (lv_at hl 0 rfl) ?_
      obtain ⟨σ32, h32, hf⟩ := bnd hf
      refine q_cVv (As := []) hx hb hts hml hown hK hP hS (c_X7_take l D w σ_18 σ32 hJ h32) hw_X7_225 hd_X7_take ⟨rfl, rfl, rfl⟩ o184 (ce7 kd184) rfl ⟨Nat.le_of_ble_eq_true rfl, Nat.le_of_ble_eq_true rfl⟩ ⟨Nat.le_of_ble_eq_true rfl, Nat.le_of_ble_eq_true rfl⟩ hl.1 rfl (Nat.le_of_ble_eq_true rfl) dX7_paints_32 (fun H locs hP hS => ?_)
      refine lv_aload_n hx hb dX7_paints_35 rfl (lv_at hl 0 rfl) ?_
      refine lv_aload_n hx hb dX7_paints_36 rfl (lv_at hl 0 rfl) ?_
      refine gt_X7_50 hx hb hts hown hK hP dX7_paints_37 ?_
      obtain ⟨σ40, h40, hf⟩ := bnd hf
      refine q_cVv (As := [.ref (w.1 (198))]) hx hb hts hml hown hK hP hS (c_X7_measure l D w σ32 (198) σ40 isC198 hJ h40) hw_X7_146 hd_X7_measure ⟨rfl, rfl, rfl⟩ o184 (ce7 kd184) rfl ⟨Nat.le_of_ble_eq_true rfl, Nat.le_of_ble_eq_true rfl⟩ ⟨Nat.le_of_ble_eq_true rfl, Nat.le_of_ble_eq_true rfl⟩ hl.1 rfl (Nat.le_of_ble_eq_true rfl) dX7_paints_40 (fun H locs hP hS => ?_)
      refine lv_iconst (v := (1 : Int32)) hx hb dX7_paints_43 (by decide) ?_
      refine lv_istore (lv' := [(5, .int (1 : Int32)), (0, .ref (w.1 (184))), (1, .int a1), (2, .int x2_18), (3, .int x3_18), (4, .int x4_18)]) hx hb dX7_paints_44 hl (by decide) rfl (fun ls hl => ?_)
      refine lv_iconst (v := (0 : Int32)) hx hb dX7_paints_46 (by decide) ?_
      refine lv_istore (lv' := [(6, .int (0 : Int32)), (5, .int (1 : Int32)), (0, .ref (w.1 (184))), (1, .int a1), (2, .int x2_18), (3, .int x3_18), (4, .int x4_18)]) hx hb dX7_paints_47 hl (by decide) rfl (fun ls hl => ?_)
      obtain ⟨rr, hlp, hf⟩ := bnd hf
      have hE49_118 : ∀ (y5_118 : Int32) (σ_118 : Sg) (H : Heap) (locs : List Loc) (ls : Array Slot), f_X7_paints_k1 x2_18 x3_18 x4_18 y5_118 σ_118 = some oo18 → va_P D vwCl (WL w σ_118) H → va_S (AL w) s.heap H locs → lv_has ls 7 [(0, .ref (w.1 (184))), (1, .int a1), (2, .int x2_18), (3, .int x3_18), (4, .int x4_18), (5, .int y5_118)] → W p l e (rmW 5 124) s m args below meth c H locs 0 0 (MQ below (qiW D w r σ') args s 0 0 (AL w)) (F0 m 118 ls []) := by
        intro y5_118 σ_118 H locs ls hf hP hS hl
        unfold f_X7_paints_k1 at hf
        refine lv_iload hx hb dX7_paints_118 (lv_at hl 5 rfl) ?_
        refine lv_if_eq (tgt := 130) hx hb dX7_paints_120 (by decide) (fun hc => ?_) (fun hc => ?_)
        · have hf := ifp hc hf
          refine lv_iconst (v := (-1 : Int32)) hx hb dX7_paints_130 (by decide) ?_
          refine lv_istore (lv' := [(6, .int (-1 : Int32)), (0, .ref (w.1 (184))), (1, .int a1), (2, .int x2_18), (3, .int x3_18), (4, .int x4_18), (5, .int y5_118)]) hx hb dX7_paints_131 hl (by decide) rfl (fun ls hl => ?_)
          refine lv_iload hx hb dX7_paints_133 (lv_at hl 0 rfl) ?_
          refine lv_iload_n hx hb dX7_paints_135 rfl (lv_at hl 4 rfl) ?_
          refine lv_icmp_gt (tgt := 157) hx hb dX7_paints_136 (by decide) (fun hc => ?_) (fun hc => ?_)
          · have hf := ifp hc hf
            refine lv_iload hx hb dX7_paints_157 (lv_at hl 5 rfl) ?_
            refine lv_istore_n (lv' := [(2, .int x4_18), (6, .int (-1 : Int32)), (0, .ref (w.1 (184))), (1, .int a1), (3, .int x3_18), (4, .int x4_18), (5, .int y5_118)]) hx hb dX7_paints_159 rfl hl (by decide) rfl (fun ls hl => ?_)
            refine lv_iload hx hb dX7_paints_160 (lv_at hl 1 rfl) ?_
            refine lv_istore_n (lv' := [(3, .int (-1 : Int32)), (2, .int x4_18), (6, .int (-1 : Int32)), (0, .ref (w.1 (184))), (1, .int a1), (4, .int x4_18), (5, .int y5_118)]) hx hb dX7_paints_162 rfl hl (by decide) rfl (fun ls hl => ?_)
            refine lv_iinc (v := (x4_18 + (1 : Int32))) (lv' := [(4, .int (x4_18 + (1 : Int32))), (3, .int (-1 : Int32)), (2, .int x4_18), (6, .int (-1 : Int32)), (0, .ref (w.1 (184))), (1, .int a1), (5, .int y5_118)]) hx hb dX7_paints_163 hl (k := 5) rfl ii_1 (by decide) rfl (fun ls hl => ?_)
            refine lv_goto (tgt := 18) hx hb dX7_paints_166 (by decide) ?_
            obtain rfl := Option.some.inj hf
            exact hG18 _ rfl _ _ _ hP hS (lv_sub hl [4, 5, 2, 1, 0] rfl)
          · have hf := ifn hc hf
            refine lv_iload hx hb dX7_paints_139 (lv_at hl 0 rfl) ?_
            refine lv_iload_n hx hb dX7_paints_141 rfl (lv_at hl 4 rfl) ?_
            refine lv_icmp_ne (tgt := 163) hx hb dX7_paints_142 (by decide) (fun hc => ?_) (fun hc => ?_)
            · have hf := ifp hc hf
              refine lv_iinc (v := (x4_18 + (1 : Int32))) (lv' := [(4, .int (x4_18 + (1 : Int32))), (6, .int (-1 : Int32)), (0, .ref (w.1 (184))), (1, .int a1), (2, .int x2_18), (3, .int x3_18), (5, .int y5_118)]) hx hb dX7_paints_163 hl (k := 5) rfl ii_1 (by decide) rfl (fun ls hl => ?_)
              refine lv_goto (tgt := 18) hx hb dX7_paints_166 (by decide) ?_
              obtain rfl := Option.some.inj hf
              exact hG18 _ rfl _ _ _ hP hS (lv_sub hl [2, 3, 4, 5, 0] rfl)
            · have hf := ifn (fun h => h hc) hf
              refine lv_iload hx hb dX7_paints_145 (lv_at hl 5 rfl) ?_
              obtain ⟨v147, h147, hf⟩ := bnd hf
              refine q_cSi (As := [.int x4_18]) hx hb hts hml hown hK hP hS (c_X7_bitsOf l D w σ_118 x4_18 v147 h147) hw_X7_231 hd_X7_bitsOf ⟨rfl, rfl, rfl⟩ ⟨Nat.le_of_ble_eq_true rfl, Nat.le_of_ble_eq_true rfl⟩ ⟨Nat.le_of_ble_eq_true rfl, Nat.le_of_ble_eq_true rfl⟩ hl.1 rfl (Nat.le_of_ble_eq_true rfl) dX7_paints_147 (fun H locs hP hS => ?_)
              refine lv_iload_n hx hb dX7_paints_150 rfl (lv_at hl 3 rfl) ?_
              obtain ⟨v151, h151, hf⟩ := bnd hf
              refine q_cSi (As := [.int x2_18]) hx hb hts hml hown hK hP hS (c_X7_bitsOf l D w σ_118 x2_18 v151 h151) hw_X7_231 hd_X7_bitsOf ⟨rfl, rfl, rfl⟩ ⟨Nat.le_of_ble_eq_true rfl, Nat.le_of_ble_eq_true rfl⟩ ⟨Nat.le_of_ble_eq_true rfl, Nat.le_of_ble_eq_true rfl⟩ hl.1 rfl (Nat.le_of_ble_eq_true rfl) dX7_paints_151 (fun H locs hP hS => ?_)
              refine lv_icmp_ge (tgt := 163) hx hb dX7_paints_154 (by decide) (fun hc => ?_) (fun hc => ?_)
              · have hf := ifp hc hf
                refine lv_iinc (v := (x4_18 + (1 : Int32))) (lv' := [(4, .int (x4_18 + (1 : Int32))), (6, .int (-1 : Int32)), (0, .ref (w.1 (184))), (1, .int a1), (2, .int x2_18), (3, .int x3_18), (5, .int y5_118)]) hx hb dX7_paints_163 hl (k := 5) rfl ii_1 (by decide) rfl (fun ls hl => ?_)
                refine lv_goto (tgt := 18) hx hb dX7_paints_166 (by decide) ?_
                obtain rfl := Option.some.inj hf
                exact hG18 _ rfl _ _ _ hP hS (lv_sub hl [2, 3, 4, 5, 0] rfl)
              · have hf := ifn hc hf
                refine lv_iload hx hb dX7_paints_157 (lv_at hl 5 rfl) ?_
                refine lv_istore_n (lv' := [(2, .int x4_18), (6, .int (-1 : Int32)), (0, .ref (w.1 (184))), (1, .int a1), (3, .int x3_18), (4, .int x4_18), (5, .int y5_118)]) hx hb dX7_paints_159 rfl hl (by decide) rfl (fun ls hl => ?_)
                refine lv_iload hx hb dX7_paints_160 (lv_at hl 1 rfl) ?_
                refine lv_istore_n (lv' := [(3, .int (-1 : Int32)), (2, .int x4_18), (6, .int (-1 : Int32)), (0, .ref (w.1 (184))), (1, .int a1), (4, .int x4_18), (5, .int y5_118)]) hx hb dX7_paints_162 rfl hl (by decide) rfl (fun ls hl => ?_)
                refine lv_iinc (v := (x4_18 + (1 : Int32))) (lv' := [(4, .int (x4_18 + (1 : Int32))), (3, .int (-1 : Int32)), (2, .int x4_18), (6, .int (-1 : Int32)), (0, .ref (w.1 (184))), (1, .int a1), (5, .int y5_118)]) hx hb dX7_paints_163 hl (k := 5) rfl ii_1 (by decide) rfl (fun ls hl => ?_)
                refine lv_goto (tgt := 18) hx hb dX7_paints_166 (by decide) ?_
                obtain rfl := Option.some.inj hf
                exact hG18 _ rfl _ _ _ hP hS (lv_sub hl [4, 5, 2, 1, 0] rfl)
        · have hf := ifn hc hf
          refine lv_aload_n hx hb dX7_paints_123 rfl (lv_at hl 0 rfl) ?_
          obtain ⟨⟨v124, σ124⟩, h124, hf⟩ := bnd hf
          dsimp only at hf
          refine q_cVi (As := []) hx hb hts hml hown hK hP hS (c_X7_comeBy l D w σ_118 v124 σ124 hJ h124) hw_X7_228 hd_X7_comeBy ⟨rfl, rfl, rfl⟩ o184 (ce7 kd184) rfl ⟨Nat.le_of_ble_eq_true rfl, Nat.le_of_ble_eq_true rfl⟩ ⟨Nat.le_of_ble_eq_true rfl, Nat.le_of_ble_eq_true rfl⟩ hl.1 rfl (Nat.le_of_ble_eq_true rfl) dX7_paints_124 (fun H locs hP hS => ?_)
          refine lv_goto (tgt := 131) hx hb dX7_paints_127 (by decide) ?_
          refine lv_istore (lv' := [(6, .int v124), (0, .ref (w.1 (184))), (1, .int a1), (2, .int x2_18), (3, .int x3_18), (4, .int x4_18), (5, .int y5_118)]) hx hb dX7_paints_131 hl (by decide) rfl (fun ls hl => ?_)
          refine lv_iload hx hb dX7_paints_133 (lv_at hl 0 rfl) ?_
          refine lv_iload_n hx hb dX7_paints_135 rfl (lv_at hl 4 rfl) ?_
          refine lv_icmp_gt (tgt := 157) hx hb dX7_paints_136 (by decide) (fun hc => ?_) (fun hc => ?_)
          · have hf := ifp hc hf
            refine lv_iload hx hb dX7_paints_157 (lv_at hl 5 rfl) ?_
            refine lv_istore_n (lv' := [(2, .int x4_18), (6, .int v124), (0, .ref (w.1 (184))), (1, .int a1), (3, .int x3_18), (4, .int x4_18), (5, .int y5_118)]) hx hb dX7_paints_159 rfl hl (by decide) rfl (fun ls hl => ?_)
            refine lv_iload hx hb dX7_paints_160 (lv_at hl 1 rfl) ?_
            refine lv_istore_n (lv' := [(3, .int v124), (2, .int x4_18), (6, .int v124), (0, .ref (w.1 (184))), (1, .int a1), (4, .int x4_18), (5, .int y5_118)]) hx hb dX7_paints_162 rfl hl (by decide) rfl (fun ls hl => ?_)
            refine lv_iinc (v := (x4_18 + (1 : Int32))) (lv' := [(4, .int (x4_18 + (1 : Int32))), (3, .int v124), (2, .int x4_18), (6, .int v124), (0, .ref (w.1 (184))), (1, .int a1), (5, .int y5_118)]) hx hb dX7_paints_163 hl (k := 5) rfl ii_1 (by decide) rfl (fun ls hl => ?_)
            refine lv_goto (tgt := 18) hx hb dX7_paints_166 (by decide) ?_
            obtain rfl := Option.some.inj hf
            exact hG18 _ rfl _ _ _ hP hS (lv_sub hl [4, 5, 2, 1, 0] rfl)
          · have hf := ifn hc hf
            refine lv_iload hx hb dX7_paints_139 (lv_at hl 0 rfl) ?_
            refine lv_iload_n hx hb dX7_paints_141 rfl (lv_at hl 4 rfl) ?_
            refine lv_icmp_ne (tgt := 163) hx hb dX7_paints_142 (by decide) (fun hc => ?_) (fun hc => ?_)
            · have hf := ifp hc hf
              refine lv_iinc (v := (x4_18 + (1 : Int32))) (lv' := [(4, .int (x4_18 + (1 : Int32))), (6, .int v124), (0, .ref (w.1 (184))), (1, .int a1), (2, .int x2_18), (3, .int x3_18), (5, .int y5_118)]) hx hb dX7_paints_163 hl (k := 5) rfl ii_1 (by decide) rfl (fun ls hl => ?_)
              refine lv_goto (tgt := 18) hx hb dX7_paints_166 (by decide) ?_
              obtain rfl := Option.some.inj hf
              exact hG18 _ rfl _ _ _ hP hS (lv_sub hl [2, 3, 4, 5, 0] rfl)
            · have hf := ifn (fun h => h hc) hf
              refine lv_iload hx hb dX7_paints_145 (lv_at hl 5 rfl) ?_
              obtain ⟨v147, h147, hf⟩ := bnd hf
              refine q_cSi (As := [.int x4_18]) hx hb hts hml hown hK hP hS (c_X7_bitsOf l D w σ124 x4_18 v147 h147) hw_X7_231 hd_X7_bitsOf ⟨rfl, rfl, rfl⟩ ⟨Nat.le_of_ble_eq_true rfl, Nat.le_of_ble_eq_true rfl⟩ ⟨Nat.le_of_ble_eq_true rfl, Nat.le_of_ble_eq_true rfl⟩ hl.1 rfl (Nat.le_of_ble_eq_true rfl) dX7_paints_147 (fun H locs hP hS => ?_)
              refine lv_iload_n hx hb dX7_paints_150 rfl (lv_at hl 3 rfl) ?_
              obtain ⟨v151, h151, hf⟩ := bnd hf
              refine q_cSi (As := [.int x2_18]) hx hb hts hml hown hK hP hS (c_X7_bitsOf l D w σ124 x2_18 v151 h151) hw_X7_231 hd_X7_bitsOf ⟨rfl, rfl, rfl⟩ ⟨Nat.le_of_ble_eq_true rfl, Nat.le_of_ble_eq_true rfl⟩ ⟨Nat.le_of_ble_eq_true rfl, Nat.le_of_ble_eq_true rfl⟩ hl.1 rfl (Nat.le_of_ble_eq_true rfl) dX7_paints_151 (fun H locs hP hS => ?_)
              refine lv_icmp_ge (tgt := 163) hx hb dX7_paints_154 (by decide) (fun hc => ?_) (fun hc => ?_)
              · have hf := ifp hc hf
                refine lv_iinc (v := (x4_18 + (1 : Int32))) (lv' := [(4, .int (x4_18 + (1 : Int32))), (6, .int v124), (0, .ref (w.1 (184))), (1, .int a1), (2, .int x2_18), (3, .int x3_18), (5, .int y5_118)]) hx hb dX7_paints_163 hl (k := 5) rfl ii_1 (by decide) rfl (fun ls hl => ?_)
                refine lv_goto (tgt := 18) hx hb dX7_paints_166 (by decide) ?_
                obtain rfl := Option.some.inj hf
                exact hG18 _ rfl _ _ _ hP hS (lv_sub hl [2, 3, 4, 5, 0] rfl)
              · have hf := ifn hc hf
                refine lv_iload hx hb dX7_paints_157 (lv_at hl 5 rfl) ?_
                refine lv_istore_n (lv' := [(2, .int x4_18), (6, .int v124), (0, .ref (w.1 (184))), (1, .int a1), (3, .int x3_18), (4, .int x4_18), (5, .int y5_118)]) hx hb dX7_paints_159 rfl hl (by decide) rfl (fun ls hl => ?_)
                refine lv_iload hx hb dX7_paints_160 (lv_at hl 1 rfl) ?_
                refine lv_istore_n (lv' := [(3, .int v124), (2, .int x4_18), (6, .int v124), (0, .ref (w.1 (184))), (1, .int a1), (4, .int x4_18), (5, .int y5_118)]) hx hb dX7_paints_162 rfl hl (by decide) rfl (fun ls hl => ?_)
                refine lv_iinc (v := (x4_18 + (1 : Int32))) (lv' := [(4, .int (x4_18 + (1 : Int32))), (3, .int v124), (2, .int x4_18), (6, .int v124), (0, .ref (w.1 (184))), (1, .int a1), (5, .int y5_118)]) hx hb dX7_paints_163 hl (k := 5) rfl ii_1 (by decide) rfl (fun ls hl => ?_)
                refine lv_goto (tgt := 18) hx hb dX7_paints_166 (by decide) ?_
                obtain rfl := Option.some.inj hf
                exact hG18 _ rfl _ _ _ hP hS (lv_sub hl [4, 5, 2, 1, 0] rfl)
      refine lp_ind (G := fun (st : (Int32 × Int32 × Sg)) => ∀ (H : Heap) (locs : List Loc) (ls : Array Slot), va_P D vwCl (WL w st.2.2) H → va_S (AL w) s.heap H locs → lv_has ls 7 [(0, .ref (w.1 (184))), (1, .int a1), (2, .int x2_18), (3, .int x3_18), (4, .int x4_18), (5, .int st.1), (6, .int st.2.1)] → W p l e (rmW 5 124) s m args below meth c H locs 0 0 (MQ below (qiW D w r σ') args s 0 0 (AL w)) (F0 m 49 ls [])) (X := fun rr => f_X7_paints_k1 x2_18 x3_18 x4_18 rr.1 rr.2 = some oo18) ?_ _ _ rr hlp hf _ _ _ hP hS (lv_sub hl [2, 3, 4, 5, 6, 1, 0] rfl)
      rintro ⟨x5_49, x6_49, σ_49⟩ oo49 hb9 hG49 hX49 H locs ls hP hS hl
      have hP : va_P D vwCl (WL w σ_49) H := hP
      have hl : lv_has ls 7 [(0, .ref (w.1 (184))), (1, .int a1), (2, .int x2_18), (3, .int x3_18), (4, .int x4_18), (5, .int x5_49), (6, .int x6_49)] := hl
      have hf : f_X7_paints_b1 x4_18 x5_49 x6_49 σ_49 = some oo49 := hb9
      unfold f_X7_paints_b1 at hf
      refine lv_iload hx hb dX7_paints_49 (lv_at hl 6 rfl) ?_
      refine lv_aload_n hx hb dX7_paints_51 rfl (lv_at hl 0 rfl) ?_
      refine gt_X7_17 hx hb hts hown hK hP dX7_paints_52 ?_
      refine lv_iconst (v := (0 : Int32)) hx hb dX7_paints_55 (by decide) ?_
      obtain ⟨v56, h56, hf⟩ := bnd hf
      refine q_iald hx hb hK hP isC187.o isC187.k h56 dX7_paints_56 ?_
      refine lv_icmp_ge (tgt := 118) hx hb dX7_paints_57 (by decide) (fun hc => ?_) (fun hc => ?_)
      · have hf := ifp hc hf
        obtain rfl := Option.some.inj hf
        exact hE49_118 x5_49 σ_49 _ _ _ (hX49 _ rfl) hP hS (lv_sub hl [0, 1, 2, 3, 4, 5] rfl)
      · have hf := ifn hc hf
        refine lv_iload hx hb dX7_paints_60 (lv_at hl 4 rfl) ?_
        refine lv_iload hx hb dX7_paints_62 (lv_at hl 6 rfl) ?_
        obtain ⟨v64, h64, hf⟩ := bnd hf
        refine q_cSz (As := [.int x4_18, .int x6_49]) hx hb hts hml hown hK hP hS (c_X7_has l D w σ_49 x4_18 x6_49 v64 h64) hw_X7_174 hd_X7_has ⟨rfl, rfl, rfl⟩ ⟨Nat.le_of_ble_eq_true rfl, Nat.le_of_ble_eq_true rfl⟩ ⟨Nat.le_of_ble_eq_true rfl, Nat.le_of_ble_eq_true rfl⟩ hl.1 rfl (Nat.le_of_ble_eq_true rfl) dX7_paints_64 (fun hz64 H locs hP hS => ?_)
        refine lv_if_eq (tgt := 112) hx hb dX7_paints_67 (by decide) (fun hc => ?_) (fun hc => ?_)
        · have hf := ifp hc hf
          refine lv_iinc (v := (x6_49 + (1 : Int32))) (lv' := [(6, .int (x6_49 + (1 : Int32))), (0, .ref (w.1 (184))), (1, .int a1), (2, .int x2_18), (3, .int x3_18), (4, .int x4_18), (5, .int x5_49)]) hx hb dX7_paints_112 hl (k := 6) rfl ii_1 (by decide) rfl (fun ls hl => ?_)
          refine lv_goto (tgt := 49) hx hb dX7_paints_115 (by decide) ?_
          obtain rfl := Option.some.inj hf
          exact hG49 _ rfl _ _ _ hP hS (lv_sub hl [1, 2, 3, 4, 5, 6, 0] rfl)
        · have hf := ifn hc hf
          refine lv_iload hx hb dX7_paints_70 (lv_at hl 5 rfl) ?_
          refine lv_if_eq (tgt := 94) hx hb dX7_paints_72 (by decide) (fun hc => ?_) (fun hc => ?_)
          · have hf := ifp hc hf
            refine lv_iconst (v := (0 : Int32)) hx hb dX7_paints_94 (by decide) ?_
            refine lv_istore (lv' := [(5, .int (0 : Int32)), (0, .ref (w.1 (184))), (1, .int a1), (2, .int x2_18), (3, .int x3_18), (4, .int x4_18), (6, .int x6_49)]) hx hb dX7_paints_95 hl (by decide) rfl (fun ls hl => ?_)
            refine lv_iload hx hb dX7_paints_97 (lv_at hl 0 rfl) ?_
            refine lv_if_eq (tgt := 112) hx hb dX7_paints_99 (by decide) (fun _ => ?_) (fun hc => absurd (by decide) hc)
            refine lv_iinc (v := (x6_49 + (1 : Int32))) (lv' := [(6, .int (x6_49 + (1 : Int32))), (5, .int (0 : Int32)), (0, .ref (w.1 (184))), (1, .int a1), (2, .int x2_18), (3, .int x3_18), (4, .int x4_18)]) hx hb dX7_paints_112 hl (k := 6) rfl ii_1 (by decide) rfl (fun ls hl => ?_)
            refine lv_goto (tgt := 49) hx hb dX7_paints_115 (by decide) ?_
            obtain rfl := Option.some.inj hf
            exact hG49 _ rfl _ _ _ hP hS (lv_sub hl [2, 3, 4, 5, 6, 1, 0] rfl)
          · have hf := ifn hc hf
            refine lv_aload_n hx hb dX7_paints_75 rfl (lv_at hl 0 rfl) ?_
            refine gt_X7_50 hx hb hts hown hK hP dX7_paints_76 ?_
            refine lv_bipush (v := (71 : Int32)) hx hb dX7_paints_79 (by decide) ?_
            refine lv_iload hx hb dX7_paints_81 (lv_at hl 6 rfl) ?_
            refine lv_iadd hx hb dX7_paints_83 ?_
            obtain ⟨v84, h84, hf⟩ := bnd hf
            refine q_iald hx hb hK hP isC198.o isC198.k h84 dX7_paints_84 ?_
            refine lv_bipush (v := (-4 : Int32)) hx hb dX7_paints_85 (by decide) ?_
            refine lv_icmp_eq (tgt := 94) hx hb dX7_paints_87 (by decide) (fun hc => ?_) (fun hc => ?_)
            · have hf := ifp hc hf
              refine lv_iconst (v := (0 : Int32)) hx hb dX7_paints_94 (by decide) ?_
              refine lv_istore (lv' := [(5, .int (0 : Int32)), (0, .ref (w.1 (184))), (1, .int a1), (2, .int x2_18), (3, .int x3_18), (4, .int x4_18), (6, .int x6_49)]) hx hb dX7_paints_95 hl (by decide) rfl (fun ls hl => ?_)
              refine lv_iload hx hb dX7_paints_97 (lv_at hl 0 rfl) ?_
              refine lv_if_eq (tgt := 112) hx hb dX7_paints_99 (by decide) (fun _ => ?_) (fun hc => absurd (by decide) hc)
              refine lv_iinc (v := (x6_49 + (1 : Int32))) (lv' := [(6, .int (x6_49 + (1 : Int32))), (5, .int (0 : Int32)), (0, .ref (w.1 (184))), (1, .int a1), (2, .int x2_18), (3, .int x3_18), (4, .int x4_18)]) hx hb dX7_paints_112 hl (k := 6) rfl ii_1 (by decide) rfl (fun ls hl => ?_)
              refine lv_goto (tgt := 49) hx hb dX7_paints_115 (by decide) ?_
              obtain rfl := Option.some.inj hf
              exact hG49 _ rfl _ _ _ hP hS (lv_sub hl [2, 3, 4, 5, 6, 1, 0] rfl)
            · have hf := ifn hc hf
              refine lv_iconst (v := (1 : Int32)) hx hb dX7_paints_90 (by decide) ?_
              refine lv_goto (tgt := 95) hx hb dX7_paints_91 (by decide) ?_
              refine lv_istore (lv' := [(5, .int (1 : Int32)), (0, .ref (w.1 (184))), (1, .int a1), (2, .int x2_18), (3, .int x3_18), (4, .int x4_18), (6, .int x6_49)]) hx hb dX7_paints_95 hl (by decide) rfl (fun ls hl => ?_)
              refine lv_iload hx hb dX7_paints_97 (lv_at hl 0 rfl) ?_
              refine lv_if_eq (tgt := 112) hx hb dX7_paints_99 (by decide) (fun hc => absurd hc (by decide)) (fun _ => ?_)
              refine lv_aload_n hx hb dX7_paints_102 rfl (lv_at hl 1 rfl) ?_
              refine lv_aload_n hx hb dX7_paints_103 rfl (lv_at hl 1 rfl) ?_
              refine gt_X7_50 hx hb hts hown hK hP dX7_paints_104 ?_
              refine lv_iload hx hb dX7_paints_107 (lv_at hl 6 rfl) ?_
              obtain ⟨σ109, h109, hf⟩ := bnd hf
              refine q_cVv (As := [.ref (w.1 (198)), .int x6_49]) hx hb hts hml hown hK hP hS (c_X7_paintOn l D w σ_49 (198) x6_49 σ109 isC198 hJ h109) hw_X7_150 hd_X7_paintOn ⟨rfl, rfl, rfl⟩ o184 (ce7 kd184) rfl ⟨Nat.le_of_ble_eq_true rfl, Nat.le_of_ble_eq_true rfl⟩ ⟨Nat.le_of_ble_eq_true rfl, Nat.le_of_ble_eq_true rfl⟩ hl.1 rfl (Nat.le_of_ble_eq_true rfl) dX7_paints_109 (fun H locs hP hS => ?_)
              refine lv_iinc (v := (x6_49 + (1 : Int32))) (lv' := [(6, .int (x6_49 + (1 : Int32))), (5, .int (1 : Int32)), (0, .ref (w.1 (184))), (1, .int a1), (2, .int x2_18), (3, .int x3_18), (4, .int x4_18)]) hx hb dX7_paints_112 hl (k := 6) rfl ii_1 (by decide) rfl (fun ls hl => ?_)
              refine lv_goto (tgt := 49) hx hb dX7_paints_115 (by decide) ?_
              obtain rfl := Option.some.inj hf
              exact hG49 _ rfl _ _ _ hP hS (lv_sub hl [2, 3, 4, 5, 6, 1, 0] rfl)
  · have hf := ifn (fun h => h hc) hf
    refine lv_iconst (v := (-1 : Int32)) hx hb dX7_paints_9 (by decide) ?_
    have hq := Option.some.inj hf
    exact q_iret hx hb hr hlk hP hS (congrArg Prod.fst hq) (congrArg Prod.snd hq) dX7_paints_10
def f_X7_cover_b1 (x2_16 : Int32) (x3_16 : Int32) (σ_16 : Sg) : Option ((Int32 × Int32 × Sg) ⊕ (Int32 × Sg)) :=
  (ga (σ_16 (186)) (ln (186)) (0 : Int32)).bind fun v23 =>
  if ((1 : Int32) <<< (v23 &&& 31)) ≤ x3_16 then
  some (.inr (x2_16, σ_16))
  else
  if x2_16 = (-4 : Int32) then
  (f_X7_take σ_16).bind fun σ46 =>
  (some (sf σ46 (184) 22 x3_16)).bind fun σ51 =>
  (some (sf σ51 (184) 23 (1 : Int32))).bind fun σ56 =>
  (f_X7_comeBy σ56).bind fun q60 =>
  (ga (q60.2 (188)) (ln (188)) (0 : Int32)).bind fun v68 =>
  if ¬ q60.1 = v68 then
  (some (sf q60.2 (184) 22 (0 : Int32))).bind fun σ80 =>
  (some (sf σ80 (184) 23 (0 : Int32))).bind fun σ85 =>
  some (.inl (x2_16, (x3_16 + (1 : Int32)), σ85))
  else
  (some (sf q60.2 (184) 22 (0 : Int32))).bind fun σ80 =>
  (some (sf σ80 (184) 23 (0 : Int32))).bind fun σ85 =>
  some (.inl (x3_16, (x3_16 + (1 : Int32)), σ85))
  else
  (f_X7_bitsOf σ_16 x3_16).bind fun v35 =>
  (f_X7_bitsOf σ_16 x2_16).bind fun v39 =>
  if v39 ≤ v35 then
  some (.inl (x2_16, (x3_16 + (1 : Int32)), σ_16))
  else
  (f_X7_take σ_16).bind fun σ46 =>
  (some (sf σ46 (184) 22 x3_16)).bind fun σ51 =>
  (some (sf σ51 (184) 23 (1 : Int32))).bind fun σ56 =>
  (f_X7_comeBy σ56).bind fun q60 =>
  (ga (q60.2 (188)) (ln (188)) (0 : Int32)).bind fun v68 =>
  if ¬ q60.1 = v68 then
  (some (sf q60.2 (184) 22 (0 : Int32))).bind fun σ80 =>
  (some (sf σ80 (184) 23 (0 : Int32))).bind fun σ85 =>
  some (.inl (x2_16, (x3_16 + (1 : Int32)), σ85))
  else
  (some (sf q60.2 (184) 22 (0 : Int32))).bind fun σ80 =>
  (some (sf σ80 (184) 23 (0 : Int32))).bind fun σ85 =>
  some (.inl (x3_16, (x3_16 + (1 : Int32)), σ85))
def f_X7_cover_k1 (a1 : Int32) (y2_94 : Int32) (σ_94 : Sg) : Option (Int32 × Sg) :=
  if y2_94 = (-4 : Int32) then
  some (y2_94, σ_94)
  else
  if ¬ a1 = (1 : Int32) then
  (f_X7_bitsOf σ_94 y2_94).bind fun v110 =>
  some (v110, σ_94)
  else
  some (y2_94, σ_94)
def f_X7_cover (σ : Sg) (a1 : Int32) : Option (Int32 × Sg) :=
  (f_X7_in σ a1 (0 : Int32) (1 : Int32)).bind fun v3 =>
  if ¬ v3 = 0 then
  (lp (fun st => f_X7_cover_b1  st.1 st.2.1 st.2.2) FU ((-4 : Int32), (0 : Int32), σ)).bind fun rr => f_X7_cover_k1 a1 rr.1 rr.2
  else
  some ((-1 : Int32), σ)
set_option maxHeartbeats 4000000 in
set_option maxRecDepth 100000 in
theorem c_X7_cover (l : Launch) (D : va_G) (w : Wv) (σ : Sg) (a1 : Int32) (r : Int32) (σ' : Sg)  (hJ : Inj w) (hf : f_X7_cover σ a1 = some (r, σ')) : Met l yX7_cover (.code yX7_cover cX7_cover 4 (some .int) :: TB) (rmW 5 124) (pcW D w [.ref (w.1 (184)), .int a1] σ) (qiW D w r σ') 0 0 (AL w) := by
  refine q_open (by decide +kernel) (Nat.le_of_ble_eq_true rfl) ?_
  intro p e s m args below meth c ls hx hb hml hr hlk hown hts hK hP hS hl
  have hown : s.vm.findClass RX7 = some m.cls := hown
  have hl : lv_has ls 4 [(0, .ref (w.1 (184))), (1, .int a1)] := hl
  unfold f_X7_cover at hf
  refine lv_iload_n hx hb dX7_cover_0 rfl (lv_at hl 1 rfl) ?_
  refine lv_iconst (v := (0 : Int32)) hx hb dX7_cover_1 (by decide) ?_
  refine lv_iconst (v := (1 : Int32)) hx hb dX7_cover_2 (by decide) ?_
  obtain ⟨v3, h3, hf⟩ := bnd hf
  refine q_cSz (As := [.int a1, .int (0 : Int32), .int (1 : Int32)]) hx hb hts hml hown hK hP hS (c_X7_in l D w σ a1 (0 : Int32) (1 : Int32) v3 h3) hw_X7_83 hd_X7_in ⟨rfl, rfl, rfl⟩ ⟨Nat.le_of_ble_eq_true rfl, Nat.le_of_ble_eq_true rfl⟩ ⟨Nat.le_of_ble_eq_true rfl, Nat.le_of_ble_eq_true rfl⟩ hl.1 rfl (Nat.le_of_ble_eq_true rfl) dX7_cover_3 (fun hz3 H locs hP hS => ?_)
  refine lv_if_ne (tgt := 11) hx hb dX7_cover_6 (by decide) (fun hc => ?_) (fun hc => ?_)
  · have hf := ifp hc hf
    refine lv_bipush (v := (-4 : Int32)) hx hb dX7_cover_11 (by decide) ?_
    refine lv_istore_n (lv' := [(2, .int (-4 : Int32)), (0, .ref (w.1 (184))), (1, .int a1)]) hx hb dX7_cover_13 rfl hl (by decide) rfl (fun ls hl => ?_)
    refine lv_iconst (v := (0 : Int32)) hx hb dX7_cover_14 (by decide) ?_
    refine lv_istore_n (lv' := [(3, .int (0 : Int32)), (2, .int (-4 : Int32)), (0, .ref (w.1 (184))), (1, .int a1)]) hx hb dX7_cover_15 rfl hl (by decide) rfl (fun ls hl => ?_)
    obtain ⟨rr, hlp, hf⟩ := bnd hf
    have hE16_94 : ∀ (y2_94 : Int32) (σ_94 : Sg) (H : Heap) (locs : List Loc) (ls : Array Slot), f_X7_cover_k1 a1 y2_94 σ_94 = some (r, σ') → va_P D vwCl (WL w σ_94) H → va_S (AL w) s.heap H locs → lv_has ls 4 [(1, .int a1), (2, .int y2_94)] → W p l e (rmW 5 124) s m args below meth c H locs 0 0 (MQ below (qiW D w r σ') args s 0 0 (AL w)) (F0 m 94 ls []) := by
      intro y2_94 σ_94 H locs ls hf hP hS hl
      unfold f_X7_cover_k1 at hf
      refine lv_iload_n hx hb dX7_cover_94 rfl (lv_at hl 1 rfl) ?_
      refine lv_bipush (v := (-4 : Int32)) hx hb dX7_cover_95 (by decide) ?_
      refine lv_icmp_eq (tgt := 105) hx hb dX7_cover_97 (by decide) (fun hc => ?_) (fun hc => ?_)
      · have hf := ifp hc hf
        refine lv_iload_n hx hb dX7_cover_105 rfl (lv_at hl 1 rfl) ?_
        refine lv_goto (tgt := 113) hx hb dX7_cover_106 (by decide) ?_
        have hq := Option.some.inj hf
        exact q_iret hx hb hr hlk hP hS (congrArg Prod.fst hq) (congrArg Prod.snd hq) dX7_cover_113
      · have hf := ifn hc hf
        refine lv_iload_n hx hb dX7_cover_100 rfl (lv_at hl 0 rfl) ?_
        refine lv_iconst (v := (1 : Int32)) hx hb dX7_cover_101 (by decide) ?_
        refine lv_icmp_ne (tgt := 109) hx hb dX7_cover_102 (by decide) (fun hc => ?_) (fun hc => ?_)
        · have hf := ifp hc hf
          refine lv_iload_n hx hb dX7_cover_109 rfl (lv_at hl 1 rfl) ?_
          obtain ⟨v110, h110, hf⟩ := bnd hf
          refine q_cSi (As := [.int y2_94]) hx hb hts hml hown hK hP hS (c_X7_bitsOf l D w σ_94 y2_94 v110 h110) hw_X7_231 hd_X7_bitsOf ⟨rfl, rfl, rfl⟩ ⟨Nat.le_of_ble_eq_true rfl, Nat.le_of_ble_eq_true rfl⟩ ⟨Nat.le_of_ble_eq_true rfl, Nat.le_of_ble_eq_true rfl⟩ hl.1 rfl (Nat.le_of_ble_eq_true rfl) dX7_cover_110 (fun H locs hP hS => ?_)
          have hq := Option.some.inj hf
          exact q_iret hx hb hr hlk hP hS (congrArg Prod.fst hq) (congrArg Prod.snd hq) dX7_cover_113
        · have hf := ifn (fun h => h hc) hf
          refine lv_iload_n hx hb dX7_cover_105 rfl (lv_at hl 1 rfl) ?_
          refine lv_goto (tgt := 113) hx hb dX7_cover_106 (by decide) ?_
          have hq := Option.some.inj hf
          exact q_iret hx hb hr hlk hP hS (congrArg Prod.fst hq) (congrArg Prod.snd hq) dX7_cover_113
    refine lp_ind (G := fun (st : (Int32 × Int32 × Sg)) => ∀ (H : Heap) (locs : List Loc) (ls : Array Slot), va_P D vwCl (WL w st.2.2) H → va_S (AL w) s.heap H locs → lv_has ls 4 [(0, .ref (w.1 (184))), (1, .int a1), (2, .int st.1), (3, .int st.2.1)] → W p l e (rmW 5 124) s m args below meth c H locs 0 0 (MQ below (qiW D w r σ') args s 0 0 (AL w)) (F0 m 16 ls [])) (X := fun rr => f_X7_cover_k1 a1 rr.1 rr.2 = some (r, σ')) ?_ _ _ rr hlp hf _ _ _ hP hS (lv_sub hl [2, 3, 1, 0] rfl)
    rintro ⟨x2_16, x3_16, σ_16⟩ oo16 hb9 hG16 hX16 H locs ls hP hS hl
    have hP : va_P D vwCl (WL w σ_16) H := hP
    have hl : lv_has ls 4 [(0, .ref (w.1 (184))), (1, .int a1), (2, .int x2_16), (3, .int x3_16)] := hl
    have hf : f_X7_cover_b1  x2_16 x3_16 σ_16 = some oo16 := hb9
    unfold f_X7_cover_b1 at hf
    refine lv_iload_n hx hb dX7_cover_16 rfl (lv_at hl 3 rfl) ?_
    refine lv_iconst (v := (1 : Int32)) hx hb dX7_cover_17 (by decide) ?_
    refine lv_aload_n hx hb dX7_cover_18 rfl (lv_at hl 0 rfl) ?_
    refine gt_X7_13 hx hb hts hown hK hP dX7_cover_19 ?_
    refine lv_iconst (v := (0 : Int32)) hx hb dX7_cover_22 (by decide) ?_
    obtain ⟨v23, h23, hf⟩ := bnd hf
    refine q_iald hx hb hK hP isC186.o isC186.k h23 dX7_cover_23 ?_
    refine lv_ishl hx hb dX7_cover_24 ?_
    refine lv_icmp_ge (tgt := 94) hx hb dX7_cover_25 (by decide) (fun hc => ?_) (fun hc => ?_)
    · have hf := ifp hc hf
      obtain rfl := Option.some.inj hf
      exact hE16_94 x2_16 σ_16 _ _ _ (hX16 _ rfl) hP hS (lv_sub hl [1, 2] rfl)
    · have hf := ifn hc hf
      refine lv_iload_n hx hb dX7_cover_28 rfl (lv_at hl 2 rfl) ?_
      refine lv_bipush (v := (-4 : Int32)) hx hb dX7_cover_29 (by decide) ?_
      refine lv_icmp_eq (tgt := 45) hx hb dX7_cover_31 (by decide) (fun hc => ?_) (fun hc => ?_)
      · have hf := ifp hc hf
        refine lv_aload_n hx hb dX7_cover_45 rfl (lv_at hl 0 rfl) ?_
        obtain ⟨σ46, h46, hf⟩ := bnd hf
        refine q_cVv (As := []) hx hb hts hml hown hK hP hS (c_X7_take l D w σ_16 σ46 hJ h46) hw_X7_225 hd_X7_take ⟨rfl, rfl, rfl⟩ o184 (ce7 kd184) rfl ⟨Nat.le_of_ble_eq_true rfl, Nat.le_of_ble_eq_true rfl⟩ ⟨Nat.le_of_ble_eq_true rfl, Nat.le_of_ble_eq_true rfl⟩ hl.1 rfl (Nat.le_of_ble_eq_true rfl) dX7_cover_46 (fun H locs hP hS => ?_)
        refine lv_aload_n hx hb dX7_cover_49 rfl (lv_at hl 0 rfl) ?_
        refine lv_iload_n hx hb dX7_cover_50 rfl (lv_at hl 3 rfl) ?_
        obtain ⟨σ51, h51, hf⟩ := bnd hf
        refine pt_X7_192 hx hb hts hown hK hP hJ hS h51 dX7_cover_51 (fun H locs hP hS => ?_)
        refine lv_aload_n hx hb dX7_cover_54 rfl (lv_at hl 0 rfl) ?_
        refine lv_iconst (v := (1 : Int32)) hx hb dX7_cover_55 (by decide) ?_
        obtain ⟨σ56, h56, hf⟩ := bnd hf
        refine pt_X7_181 hx hb hts hown hK hP hJ hS ⟨rfl, rfl⟩ h56 dX7_cover_56 (fun H locs hP hS => ?_)
        refine lv_aload_n hx hb dX7_cover_59 rfl (lv_at hl 0 rfl) ?_
        obtain ⟨⟨v60, σ60⟩, h60, hf⟩ := bnd hf
        dsimp only at hf
        refine q_cVi (As := []) hx hb hts hml hown hK hP hS (c_X7_comeBy l D w σ56 v60 σ60 hJ h60) hw_X7_228 hd_X7_comeBy ⟨rfl, rfl, rfl⟩ o184 (ce7 kd184) rfl ⟨Nat.le_of_ble_eq_true rfl, Nat.le_of_ble_eq_true rfl⟩ ⟨Nat.le_of_ble_eq_true rfl, Nat.le_of_ble_eq_true rfl⟩ hl.1 rfl (Nat.le_of_ble_eq_true rfl) dX7_cover_60 (fun H locs hP hS => ?_)
        refine lv_aload_n hx hb dX7_cover_63 rfl (lv_at hl 0 rfl) ?_
        refine gt_X7_20 hx hb hts hown hK hP dX7_cover_64 ?_
        refine lv_iconst (v := (0 : Int32)) hx hb dX7_cover_67 (by decide) ?_
        obtain ⟨v68, h68, hf⟩ := bnd hf
        refine q_iald hx hb hK hP isC188.o isC188.k h68 dX7_cover_68 ?_
        refine lv_icmp_ne (tgt := 76) hx hb dX7_cover_69 (by decide) (fun hc => ?_) (fun hc => ?_)
        · have hf := ifp hc hf
          refine lv_iload_n hx hb dX7_cover_76 rfl (lv_at hl 2 rfl) ?_
          refine lv_istore_n (lv' := [(2, .int x2_16), (0, .ref (w.1 (184))), (1, .int a1), (3, .int x3_16)]) hx hb dX7_cover_77 rfl hl (by decide) rfl (fun ls hl => ?_)
          refine lv_aload_n hx hb dX7_cover_78 rfl (lv_at hl 1 rfl) ?_
          refine lv_iconst (v := (0 : Int32)) hx hb dX7_cover_79 (by decide) ?_
          obtain ⟨σ80, h80, hf⟩ := bnd hf
          refine pt_X7_192 hx hb hts hown hK hP hJ hS h80 dX7_cover_80 (fun H locs hP hS => ?_)
          refine lv_aload_n hx hb dX7_cover_83 rfl (lv_at hl 1 rfl) ?_
          refine lv_iconst (v := (0 : Int32)) hx hb dX7_cover_84 (by decide) ?_
          obtain ⟨σ85, h85, hf⟩ := bnd hf
          refine pt_X7_181 hx hb hts hown hK hP hJ hS ⟨rfl, rfl⟩ h85 dX7_cover_85 (fun H locs hP hS => ?_)
          refine lv_iinc (v := (x3_16 + (1 : Int32))) (lv' := [(3, .int (x3_16 + (1 : Int32))), (2, .int x2_16), (0, .ref (w.1 (184))), (1, .int a1)]) hx hb dX7_cover_88 hl (k := 3) rfl ii_1 (by decide) rfl (fun ls hl => ?_)
          refine lv_goto (tgt := 16) hx hb dX7_cover_91 (by decide) ?_
          obtain rfl := Option.some.inj hf
          exact hG16 _ rfl _ _ _ hP hS (lv_sub hl [2, 3, 1, 0] rfl)
        · have hf := ifn (fun h => h hc) hf
          refine lv_iload_n hx hb dX7_cover_72 rfl (lv_at hl 3 rfl) ?_
          refine lv_goto (tgt := 77) hx hb dX7_cover_73 (by decide) ?_
          refine lv_istore_n (lv' := [(2, .int x3_16), (0, .ref (w.1 (184))), (1, .int a1), (3, .int x3_16)]) hx hb dX7_cover_77 rfl hl (by decide) rfl (fun ls hl => ?_)
          refine lv_aload_n hx hb dX7_cover_78 rfl (lv_at hl 1 rfl) ?_
          refine lv_iconst (v := (0 : Int32)) hx hb dX7_cover_79 (by decide) ?_
          obtain ⟨σ80, h80, hf⟩ := bnd hf
          refine pt_X7_192 hx hb hts hown hK hP hJ hS h80 dX7_cover_80 (fun H locs hP hS => ?_)
          refine lv_aload_n hx hb dX7_cover_83 rfl (lv_at hl 1 rfl) ?_
          refine lv_iconst (v := (0 : Int32)) hx hb dX7_cover_84 (by decide) ?_
          obtain ⟨σ85, h85, hf⟩ := bnd hf
          refine pt_X7_181 hx hb hts hown hK hP hJ hS ⟨rfl, rfl⟩ h85 dX7_cover_85 (fun H locs hP hS => ?_)
          refine lv_iinc (v := (x3_16 + (1 : Int32))) (lv' := [(3, .int (x3_16 + (1 : Int32))), (2, .int x3_16), (0, .ref (w.1 (184))), (1, .int a1)]) hx hb dX7_cover_88 hl (k := 3) rfl ii_1 (by decide) rfl (fun ls hl => ?_)
          refine lv_goto (tgt := 16) hx hb dX7_cover_91 (by decide) ?_
          obtain rfl := Option.some.inj hf
          exact hG16 _ rfl _ _ _ hP hS (lv_sub hl [2, 3, 1, 0] rfl)
      · have hf := ifn hc hf
        refine lv_iload_n hx hb dX7_cover_34 rfl (lv_at hl 3 rfl) ?_
        obtain ⟨v35, h35, hf⟩ := bnd hf
        refine q_cSi (As := [.int x3_16]) hx hb hts hml hown hK hP hS (c_X7_bitsOf l D w σ_16 x3_16 v35 h35) hw_X7_231 hd_X7_bitsOf ⟨rfl, rfl, rfl⟩ ⟨Nat.le_of_ble_eq_true rfl, Nat.le_of_ble_eq_true rfl⟩ ⟨Nat.le_of_ble_eq_true rfl, Nat.le_of_ble_eq_true rfl⟩ hl.1 rfl (Nat.le_of_ble_eq_true rfl) dX7_cover_35 (fun H locs hP hS => ?_)
        refine lv_iload_n hx hb dX7_cover_38 rfl (lv_at hl 2 rfl) ?_
        obtain ⟨v39, h39, hf⟩ := bnd hf
        refine q_cSi (As := [.int x2_16]) hx hb hts hml hown hK hP hS (c_X7_bitsOf l D w σ_16 x2_16 v39 h39) hw_X7_231 hd_X7_bitsOf ⟨rfl, rfl, rfl⟩ ⟨Nat.le_of_ble_eq_true rfl, Nat.le_of_ble_eq_true rfl⟩ ⟨Nat.le_of_ble_eq_true rfl, Nat.le_of_ble_eq_true rfl⟩ hl.1 rfl (Nat.le_of_ble_eq_true rfl) dX7_cover_39 (fun H locs hP hS => ?_)
        refine lv_icmp_ge (tgt := 88) hx hb dX7_cover_42 (by decide) (fun hc => ?_) (fun hc => ?_)
        · have hf := ifp hc hf
          refine lv_iinc (v := (x3_16 + (1 : Int32))) (lv' := [(3, .int (x3_16 + (1 : Int32))), (0, .ref (w.1 (184))), (1, .int a1), (2, .int x2_16)]) hx hb dX7_cover_88 hl (k := 3) rfl ii_1 (by decide) rfl (fun ls hl => ?_)
          refine lv_goto (tgt := 16) hx hb dX7_cover_91 (by decide) ?_
          obtain rfl := Option.some.inj hf
          exact hG16 _ rfl _ _ _ hP hS (lv_sub hl [1, 2, 3, 0] rfl)
        · have hf := ifn hc hf
          refine lv_aload_n hx hb dX7_cover_45 rfl (lv_at hl 0 rfl) ?_
          obtain ⟨σ46, h46, hf⟩ := bnd hf
          refine q_cVv (As := []) hx hb hts hml hown hK hP hS (c_X7_take l D w σ_16 σ46 hJ h46) hw_X7_225 hd_X7_take ⟨rfl, rfl, rfl⟩ o184 (ce7 kd184) rfl ⟨Nat.le_of_ble_eq_true rfl, Nat.le_of_ble_eq_true rfl⟩ ⟨Nat.le_of_ble_eq_true rfl, Nat.le_of_ble_eq_true rfl⟩ hl.1 rfl (Nat.le_of_ble_eq_true rfl) dX7_cover_46 (fun H locs hP hS => ?_)
          refine lv_aload_n hx hb dX7_cover_49 rfl (lv_at hl 0 rfl) ?_
          refine lv_iload_n hx hb dX7_cover_50 rfl (lv_at hl 3 rfl) ?_
          obtain ⟨σ51, h51, hf⟩ := bnd hf
          refine pt_X7_192 hx hb hts hown hK hP hJ hS h51 dX7_cover_51 (fun H locs hP hS => ?_)
          refine lv_aload_n hx hb dX7_cover_54 rfl (lv_at hl 0 rfl) ?_
          refine lv_iconst (v := (1 : Int32)) hx hb dX7_cover_55 (by decide) ?_
          obtain ⟨σ56, h56, hf⟩ := bnd hf
          refine pt_X7_181 hx hb hts hown hK hP hJ hS ⟨rfl, rfl⟩ h56 dX7_cover_56 (fun H locs hP hS => ?_)
          refine lv_aload_n hx hb dX7_cover_59 rfl (lv_at hl 0 rfl) ?_
          obtain ⟨⟨v60, σ60⟩, h60, hf⟩ := bnd hf
          dsimp only at hf
          refine q_cVi (As := []) hx hb hts hml hown hK hP hS (c_X7_comeBy l D w σ56 v60 σ60 hJ h60) hw_X7_228 hd_X7_comeBy ⟨rfl, rfl, rfl⟩ o184 (ce7 kd184) rfl ⟨Nat.le_of_ble_eq_true rfl, Nat.le_of_ble_eq_true rfl⟩ ⟨Nat.le_of_ble_eq_true rfl, Nat.le_of_ble_eq_true rfl⟩ hl.1 rfl (Nat.le_of_ble_eq_true rfl) dX7_cover_60 (fun H locs hP hS => ?_)
          refine lv_aload_n hx hb dX7_cover_63 rfl (lv_at hl 0 rfl) ?_
          refine gt_X7_20 hx hb hts hown hK hP dX7_cover_64 ?_
          refine lv_iconst (v := (0 : Int32)) hx hb dX7_cover_67 (by decide) ?_
          obtain ⟨v68, h68, hf⟩ := bnd hf
          refine q_iald hx hb hK hP isC188.o isC188.k h68 dX7_cover_68 ?_
          refine lv_icmp_ne (tgt := 76) hx hb dX7_cover_69 (by decide) (fun hc => ?_) (fun hc => ?_)
          · have hf := ifp hc hf
            refine lv_iload_n hx hb dX7_cover_76 rfl (lv_at hl 2 rfl) ?_
            refine lv_istore_n (lv' := [(2, .int x2_16), (0, .ref (w.1 (184))), (1, .int a1), (3, .int x3_16)]) hx hb dX7_cover_77 rfl hl (by decide) rfl (fun ls hl => ?_)
            refine lv_aload_n hx hb dX7_cover_78 rfl (lv_at hl 1 rfl) ?_
            refine lv_iconst (v := (0 : Int32)) hx hb dX7_cover_79 (by decide) ?_
            obtain ⟨σ80, h80, hf⟩ := bnd hf
            refine pt_X7_192 hx hb hts hown hK hP hJ hS h80 dX7_cover_80 (fun H locs hP hS => ?_)
            refine lv_aload_n hx hb dX7_cover_83 rfl (lv_at hl 1 rfl) ?_
            refine lv_iconst (v := (0 : Int32)) hx hb dX7_cover_84 (by decide) ?_
            obtain ⟨σ85, h85, hf⟩ := bnd hf
            refine pt_X7_181 hx hb hts hown hK hP hJ hS ⟨rfl, rfl⟩ h85 dX7_cover_85 (fun H locs hP hS => ?_)
            refine lv_iinc (v := (x3_16 + (1 : Int32))) (lv' := [(3, .int (x3_16 + (1 : Int32))), (2, .int x2_16), (0, .ref (w.1 (184))), (1, .int a1)]) hx hb dX7_cover_88 hl (k := 3) rfl ii_1 (by decide) rfl (fun ls hl => ?_)
            refine lv_goto (tgt := 16) hx hb dX7_cover_91 (by decide) ?_
            obtain rfl := Option.some.inj hf
            exact hG16 _ rfl _ _ _ hP hS (lv_sub hl [2, 3, 1, 0] rfl)
          · have hf := ifn (fun h => h hc) hf
            refine lv_iload_n hx hb dX7_cover_72 rfl (lv_at hl 3 rfl) ?_
            refine lv_goto (tgt := 77) hx hb dX7_cover_73 (by decide) ?_
            refine lv_istore_n (lv' := [(2, .int x3_16), (0, .ref (w.1 (184))), (1, .int a1), (3, .int x3_16)]) hx hb dX7_cover_77 rfl hl (by decide) rfl (fun ls hl => ?_)
            refine lv_aload_n hx hb dX7_cover_78 rfl (lv_at hl 1 rfl) ?_
            refine lv_iconst (v := (0 : Int32)) hx hb dX7_cover_79 (by decide) ?_
            obtain ⟨σ80, h80, hf⟩ := bnd hf
            refine pt_X7_192 hx hb hts hown hK hP hJ hS h80 dX7_cover_80 (fun H locs hP hS => ?_)
            refine lv_aload_n hx hb dX7_cover_83 rfl (lv_at hl 1 rfl) ?_
            refine lv_iconst (v := (0 : Int32)) hx hb dX7_cover_84 (by decide) ?_
            obtain ⟨σ85, h85, hf⟩ := bnd hf
            refine pt_X7_181 hx hb hts hown hK hP hJ hS ⟨rfl, rfl⟩ h85 dX7_cover_85 (fun H locs hP hS => ?_)
            refine lv_iinc (v := (x3_16 + (1 : Int32))) (lv' := [(3, .int (x3_16 + (1 : Int32))), (2, .int x3_16), (0, .ref (w.1 (184))), (1, .int a1)]) hx hb dX7_cover_88 hl (k := 3) rfl ii_1 (by decide) rfl (fun ls hl => ?_)
            refine lv_goto (tgt := 16) hx hb dX7_cover_91 (by decide) ?_
            obtain rfl := Option.some.inj hf
            exact hG16 _ rfl _ _ _ hP hS (lv_sub hl [2, 3, 1, 0] rfl)
  · have hf := ifn (fun h => h hc) hf
    refine lv_iconst (v := (-1 : Int32)) hx hb dX7_cover_9 (by decide) ?_
    have hq := Option.some.inj hf
    exact q_iret hx hb hr hlk hP hS (congrArg Prod.fst hq) (congrArg Prod.snd hq) dX7_cover_10
def f_X7_far (σ : Sg) (a1 : Int32) (a2 : Int32) : Option (Int32 × Sg) :=
  (f_X7_isTown σ a1).bind fun v2 =>
  if v2 = 0 then
  some ((-1 : Int32), σ)
  else
  (f_X7_isTown σ a2).bind fun v10 =>
  if ¬ v10 = 0 then
  (f_X7_measure σ (195)).bind fun σ23 =>
  (ga (σ23 (199)) (ln (199)) (((8 : Int32) * a1) + a2)).bind fun v36 =>
  if (100000 : Int32) ≤ v36 then
  some ((-4 : Int32), σ23)
  else
  some (v36, σ23)
  else
  some ((-1 : Int32), σ)
set_option maxHeartbeats 4000000 in
set_option maxRecDepth 100000 in
theorem c_X7_far (l : Launch) (D : va_G) (w : Wv) (σ : Sg) (a1 : Int32) (a2 : Int32) (r : Int32) (σ' : Sg)  (hJ : Inj w) (hf : f_X7_far σ a1 a2 = some (r, σ')) : Met l yX7_far (.code yX7_far cX7_far 4 (some .int) :: TB) (rmW 2 43) (pcW D w [.ref (w.1 (184)), .int a1, .int a2] σ) (qiW D w r σ') 0 0 (AL w) := by
  refine q_open (by decide +kernel) (Nat.le_of_ble_eq_true rfl) ?_
  intro p e s m args below meth c ls hx hb hml hr hlk hown hts hK hP hS hl
  have hown : s.vm.findClass RX7 = some m.cls := hown
  have hl : lv_has ls 4 [(0, .ref (w.1 (184))), (1, .int a1), (2, .int a2)] := hl
  unfold f_X7_far at hf
  refine lv_aload_n hx hb dX7_far_0 rfl (lv_at hl 0 rfl) ?_
  refine lv_iload_n hx hb dX7_far_1 rfl (lv_at hl 1 rfl) ?_
  obtain ⟨v2, h2, hf⟩ := bnd hf
  refine q_cVz (As := [.int a1]) hx hb hts hml hown hK hP hS (c_X7_isTown l D w σ a1 v2 h2) hw_X7_205 hd_X7_isTown ⟨rfl, rfl, rfl⟩ o184 (ce7 kd184) rfl ⟨Nat.le_of_ble_eq_true rfl, Nat.le_of_ble_eq_true rfl⟩ ⟨Nat.le_of_ble_eq_true rfl, Nat.le_of_ble_eq_true rfl⟩ hl.1 rfl (Nat.le_of_ble_eq_true rfl) dX7_far_2 (fun hz2 H locs hP hS => ?_)
  refine lv_if_eq (tgt := 16) hx hb dX7_far_5 (by decide) (fun hc => ?_) (fun hc => ?_)
  · have hf := ifp hc hf
    refine lv_iconst (v := (-1 : Int32)) hx hb dX7_far_16 (by decide) ?_
    have hq := Option.some.inj hf
    exact q_iret hx hb hr hlk hP hS (congrArg Prod.fst hq) (congrArg Prod.snd hq) dX7_far_17
  · have hf := ifn hc hf
    refine lv_aload_n hx hb dX7_far_8 rfl (lv_at hl 0 rfl) ?_
    refine lv_iload_n hx hb dX7_far_9 rfl (lv_at hl 2 rfl) ?_
    obtain ⟨v10, h10, hf⟩ := bnd hf
    refine q_cVz (As := [.int a2]) hx hb hts hml hown hK hP hS (c_X7_isTown l D w σ a2 v10 h10) hw_X7_205 hd_X7_isTown ⟨rfl, rfl, rfl⟩ o184 (ce7 kd184) rfl ⟨Nat.le_of_ble_eq_true rfl, Nat.le_of_ble_eq_true rfl⟩ ⟨Nat.le_of_ble_eq_true rfl, Nat.le_of_ble_eq_true rfl⟩ hl.1 rfl (Nat.le_of_ble_eq_true rfl) dX7_far_10 (fun hz10 H locs hP hS => ?_)
    refine lv_if_ne (tgt := 18) hx hb dX7_far_13 (by decide) (fun hc => ?_) (fun hc => ?_)
    · have hf := ifp hc hf
      refine lv_aload_n hx hb dX7_far_18 rfl (lv_at hl 0 rfl) ?_
      refine lv_aload_n hx hb dX7_far_19 rfl (lv_at hl 0 rfl) ?_
      refine gt_X7_41 hx hb hts hown hK hP dX7_far_20 ?_
      obtain ⟨σ23, h23, hf⟩ := bnd hf
      refine q_cVv (As := [.ref (w.1 (195))]) hx hb hts hml hown hK hP hS (c_X7_measure l D w σ (195) σ23 isC195 hJ h23) hw_X7_146 hd_X7_measure ⟨rfl, rfl, rfl⟩ o184 (ce7 kd184) rfl ⟨Nat.le_of_ble_eq_true rfl, Nat.le_of_ble_eq_true rfl⟩ ⟨Nat.le_of_ble_eq_true rfl, Nat.le_of_ble_eq_true rfl⟩ hl.1 rfl (Nat.le_of_ble_eq_true rfl) dX7_far_23 (fun H locs hP hS => ?_)
      refine lv_aload_n hx hb dX7_far_26 rfl (lv_at hl 0 rfl) ?_
      refine gt_X7_53 hx hb hts hown hK hP dX7_far_27 ?_
      refine lv_bipush (v := (8 : Int32)) hx hb dX7_far_30 (by decide) ?_
      refine lv_iload_n hx hb dX7_far_32 rfl (lv_at hl 1 rfl) ?_
      refine lv_imul hx hb dX7_far_33 ?_
      refine lv_iload_n hx hb dX7_far_34 rfl (lv_at hl 2 rfl) ?_
      refine lv_iadd hx hb dX7_far_35 ?_
      obtain ⟨v36, h36, hf⟩ := bnd hf
      refine q_iald hx hb hK hP isC199.o isC199.k h36 dX7_far_36 ?_
      refine lv_istore_n (lv' := [(3, .int v36), (0, .ref (w.1 (184))), (1, .int a1), (2, .int a2)]) hx hb dX7_far_37 rfl hl (by decide) rfl (fun ls hl => ?_)
      refine lv_iload_n hx hb dX7_far_38 rfl (lv_at hl 0 rfl) ?_
      refine lv_ldc (v := (100000 : Int32)) hx hb hown (hts _ tw_854) dX7_far_39 ?_
      refine lv_icmp_ge (tgt := 48) hx hb dX7_far_41 (by decide) (fun hc => ?_) (fun hc => ?_)
      · have hf := ifp hc hf
        refine lv_bipush (v := (-4 : Int32)) hx hb dX7_far_48 (by decide) ?_
        have hq := Option.some.inj hf
        exact q_iret hx hb hr hlk hP hS (congrArg Prod.fst hq) (congrArg Prod.snd hq) dX7_far_50
      · have hf := ifn hc hf
        refine lv_iload_n hx hb dX7_far_44 rfl (lv_at hl 0 rfl) ?_
        refine lv_goto (tgt := 50) hx hb dX7_far_45 (by decide) ?_
        have hq := Option.some.inj hf
        exact q_iret hx hb hr hlk hP hS (congrArg Prod.fst hq) (congrArg Prod.snd hq) dX7_far_50
    · have hf := ifn (fun h => h hc) hf
      refine lv_iconst (v := (-1 : Int32)) hx hb dX7_far_16 (by decide) ?_
      have hq := Option.some.inj hf
      exact q_iret hx hb hr hlk hP hS (congrArg Prod.fst hq) (congrArg Prod.snd hq) dX7_far_17
def f_X7_told (σ : Sg) (a1 : Int32) (a2 : Int32) (a3 : Int32) : Option (Int32 × Sg) :=
  (f_X7_isTown σ a1).bind fun v2 =>
  if v2 = 0 then
  some ((-1 : Int32), σ)
  else
  (f_X7_isTown σ a2).bind fun v10 =>
  if v10 = 0 then
  some ((-1 : Int32), σ)
  else
  (f_X7_in σ a3 (0 : Int32) (72 : Int32)).bind fun v20 =>
  if ¬ v20 = 0 then
  if ¬ (σ 184 28) = (6 : Int32) then
  (sa σ (201) (ln (201)) (σ 184 28) a1).bind fun σ49 =>
  (sa σ49 (202) (ln (202)) (σ49 184 28) a2).bind fun σ59 =>
  (sa σ59 (203) (ln (203)) (σ59 184 28) a3).bind fun σ69 =>
  (some (sf σ69 (184) 28 ((σ69 184 28) + (1 : Int32)))).bind fun σ77 =>
  some ((σ77 184 28), σ77)
  else
  some ((-3 : Int32), σ)
  else
  some ((-1 : Int32), σ)
set_option maxHeartbeats 4000000 in
set_option maxRecDepth 100000 in
theorem c_X7_told (l : Launch) (D : va_G) (w : Wv) (σ : Sg) (a1 : Int32) (a2 : Int32) (a3 : Int32) (r : Int32) (σ' : Sg)  (hJ : Inj w) (hf : f_X7_told σ a1 a2 a3 = some (r, σ')) : Met l yX7_told (.code yX7_told cX7_told 4 (some .int) :: TB) (rmW 2 43) (pcW D w [.ref (w.1 (184)), .int a1, .int a2, .int a3] σ) (qiW D w r σ') 0 0 (AL w) := by
  refine q_open (by decide +kernel) (Nat.le_of_ble_eq_true rfl) ?_
  intro p e s m args below meth c ls hx hb hml hr hlk hown hts hK hP hS hl
  have hown : s.vm.findClass RX7 = some m.cls := hown
  have hl : lv_has ls 4 [(0, .ref (w.1 (184))), (1, .int a1), (2, .int a2), (3, .int a3)] := hl
  unfold f_X7_told at hf
  refine lv_aload_n hx hb dX7_told_0 rfl (lv_at hl 0 rfl) ?_
  refine lv_iload_n hx hb dX7_told_1 rfl (lv_at hl 1 rfl) ?_
  obtain ⟨v2, h2, hf⟩ := bnd hf
  refine q_cVz (As := [.int a1]) hx hb hts hml hown hK hP hS (c_X7_isTown l D w σ a1 v2 h2) hw_X7_205 hd_X7_isTown ⟨rfl, rfl, rfl⟩ o184 (ce7 kd184) rfl ⟨Nat.le_of_ble_eq_true rfl, Nat.le_of_ble_eq_true rfl⟩ ⟨Nat.le_of_ble_eq_true rfl, Nat.le_of_ble_eq_true rfl⟩ hl.1 rfl (Nat.le_of_ble_eq_true rfl) dX7_told_2 (fun hz2 H locs hP hS => ?_)
  refine lv_if_eq (tgt := 26) hx hb dX7_told_5 (by decide) (fun hc => ?_) (fun hc => ?_)
  · have hf := ifp hc hf
    refine lv_iconst (v := (-1 : Int32)) hx hb dX7_told_26 (by decide) ?_
    have hq := Option.some.inj hf
    exact q_iret hx hb hr hlk hP hS (congrArg Prod.fst hq) (congrArg Prod.snd hq) dX7_told_27
  · have hf := ifn hc hf
    refine lv_aload_n hx hb dX7_told_8 rfl (lv_at hl 0 rfl) ?_
    refine lv_iload_n hx hb dX7_told_9 rfl (lv_at hl 2 rfl) ?_
    obtain ⟨v10, h10, hf⟩ := bnd hf
    refine q_cVz (As := [.int a2]) hx hb hts hml hown hK hP hS (c_X7_isTown l D w σ a2 v10 h10) hw_X7_205 hd_X7_isTown ⟨rfl, rfl, rfl⟩ o184 (ce7 kd184) rfl ⟨Nat.le_of_ble_eq_true rfl, Nat.le_of_ble_eq_true rfl⟩ ⟨Nat.le_of_ble_eq_true rfl, Nat.le_of_ble_eq_true rfl⟩ hl.1 rfl (Nat.le_of_ble_eq_true rfl) dX7_told_10 (fun hz10 H locs hP hS => ?_)
    refine lv_if_eq (tgt := 26) hx hb dX7_told_13 (by decide) (fun hc => ?_) (fun hc => ?_)
    · have hf := ifp hc hf
      refine lv_iconst (v := (-1 : Int32)) hx hb dX7_told_26 (by decide) ?_
      have hq := Option.some.inj hf
      exact q_iret hx hb hr hlk hP hS (congrArg Prod.fst hq) (congrArg Prod.snd hq) dX7_told_27
    · have hf := ifn hc hf
      refine lv_iload_n hx hb dX7_told_16 rfl (lv_at hl 3 rfl) ?_
      refine lv_iconst (v := (0 : Int32)) hx hb dX7_told_17 (by decide) ?_
      refine lv_bipush (v := (72 : Int32)) hx hb dX7_told_18 (by decide) ?_
      obtain ⟨v20, h20, hf⟩ := bnd hf
      refine q_cSz (As := [.int a3, .int (0 : Int32), .int (72 : Int32)]) hx hb hts hml hown hK hP hS (c_X7_in l D w σ a3 (0 : Int32) (72 : Int32) v20 h20) hw_X7_83 hd_X7_in ⟨rfl, rfl, rfl⟩ ⟨Nat.le_of_ble_eq_true rfl, Nat.le_of_ble_eq_true rfl⟩ ⟨Nat.le_of_ble_eq_true rfl, Nat.le_of_ble_eq_true rfl⟩ hl.1 rfl (Nat.le_of_ble_eq_true rfl) dX7_told_20 (fun hz20 H locs hP hS => ?_)
      refine lv_if_ne (tgt := 28) hx hb dX7_told_23 (by decide) (fun hc => ?_) (fun hc => ?_)
      · have hf := ifp hc hf
        refine lv_aload_n hx hb dX7_told_28 rfl (lv_at hl 0 rfl) ?_
        refine gt_X7_160 hx hb hts hown hK hP dX7_told_29 ?_
        refine lv_bipush (v := (6 : Int32)) hx hb dX7_told_32 (by decide) ?_
        refine lv_icmp_ne (tgt := 40) hx hb dX7_told_34 (by decide) (fun hc => ?_) (fun hc => ?_)
        · have hf := ifp hc hf
          refine lv_aload_n hx hb dX7_told_40 rfl (lv_at hl 0 rfl) ?_
          refine gt_X7_59 hx hb hts hown hK hP dX7_told_41 ?_
          refine lv_aload_n hx hb dX7_told_44 rfl (lv_at hl 0 rfl) ?_
          refine gt_X7_160 hx hb hts hown hK hP dX7_told_45 ?_
          refine lv_iload_n hx hb dX7_told_48 rfl (lv_at hl 1 rfl) ?_
          obtain ⟨σ49, h49, hf⟩ := bnd hf
          refine q_iast hx hb hK hP hJ hS isC201.o isC201.k h49 dX7_told_49 (fun H locs hP hS => ?_)
          refine lv_aload_n hx hb dX7_told_50 rfl (lv_at hl 0 rfl) ?_
          refine gt_X7_62 hx hb hts hown hK hP dX7_told_51 ?_
          refine lv_aload_n hx hb dX7_told_54 rfl (lv_at hl 0 rfl) ?_
          refine gt_X7_160 hx hb hts hown hK hP dX7_told_55 ?_
          refine lv_iload_n hx hb dX7_told_58 rfl (lv_at hl 2 rfl) ?_
          obtain ⟨σ59, h59, hf⟩ := bnd hf
          refine q_iast hx hb hK hP hJ hS isC202.o isC202.k h59 dX7_told_59 (fun H locs hP hS => ?_)
          refine lv_aload_n hx hb dX7_told_60 rfl (lv_at hl 0 rfl) ?_
          refine gt_X7_65 hx hb hts hown hK hP dX7_told_61 ?_
          refine lv_aload_n hx hb dX7_told_64 rfl (lv_at hl 0 rfl) ?_
          refine gt_X7_160 hx hb hts hown hK hP dX7_told_65 ?_
          refine lv_iload_n hx hb dX7_told_68 rfl (lv_at hl 3 rfl) ?_
          obtain ⟨σ69, h69, hf⟩ := bnd hf
          refine q_iast hx hb hK hP hJ hS isC203.o isC203.k h69 dX7_told_69 (fun H locs hP hS => ?_)
          refine lv_aload_n hx hb dX7_told_70 rfl (lv_at hl 0 rfl) ?_
          refine lv_dup hx hb dX7_told_71 rfl ?_
          refine gt_X7_160 hx hb hts hown hK hP dX7_told_72 ?_
          refine lv_iconst (v := (1 : Int32)) hx hb dX7_told_75 (by decide) ?_
          refine lv_iadd hx hb dX7_told_76 ?_
          obtain ⟨σ77, h77, hf⟩ := bnd hf
          refine pt_X7_160 hx hb hts hown hK hP hJ hS h77 dX7_told_77 (fun H locs hP hS => ?_)
          refine lv_aload_n hx hb dX7_told_80 rfl (lv_at hl 0 rfl) ?_
          refine gt_X7_160 hx hb hts hown hK hP dX7_told_81 ?_
          have hq := Option.some.inj hf
          exact q_iret hx hb hr hlk hP hS (congrArg Prod.fst hq) (congrArg Prod.snd hq) dX7_told_84
        · have hf := ifn (fun h => h hc) hf
          refine lv_bipush (v := (-3 : Int32)) hx hb dX7_told_37 (by decide) ?_
          have hq := Option.some.inj hf
          exact q_iret hx hb hr hlk hP hS (congrArg Prod.fst hq) (congrArg Prod.snd hq) dX7_told_39
      · have hf := ifn (fun h => h hc) hf
        refine lv_iconst (v := (-1 : Int32)) hx hb dX7_told_26 (by decide) ?_
        have hq := Option.some.inj hf
        exact q_iret hx hb hr hlk hP hS (congrArg Prod.fst hq) (congrArg Prod.snd hq) dX7_told_27
def f_X7_stood_b1 (σ5 : Sg) (x2_12 : Int32) (x3_27 : Int32) (x4_27 : Int32) : Option ((Int32 × Int32) ⊕ Int32) :=
  if (σ5 184 28) ≤ x4_27 then
  some (.inr x3_27)
  else
  if x3_27 = 0 then
  some (.inl ((0 : Int32), (x4_27 + (1 : Int32))))
  else
  (ga (σ5 (201)) (ln (201)) x4_27).bind fun v52 =>
  (f_X7_nextOn σ5 (195) x2_12 v52).bind fun v53 =>
  (ga (σ5 (202)) (ln (202)) x4_27).bind fun v62 =>
  if ¬ v53 = v62 then
  some (.inl ((0 : Int32), (x4_27 + (1 : Int32))))
  else
  (ga (σ5 (201)) (ln (201)) x4_27).bind fun v80 =>
  (ga (σ5 (199)) (ln (199)) (((8 : Int32) * x2_12) + v80)).bind fun v82 =>
  (ga (σ5 (203)) (ln (203)) x4_27).bind fun v89 =>
  if ¬ v82 = v89 then
  some (.inl ((0 : Int32), (x4_27 + (1 : Int32))))
  else
  some (.inl ((1 : Int32), (x4_27 + (1 : Int32))))
def f_X7_stood_k1 (x1_12 : Int32) (x2_12 : Int32) (y3_105 : Int32) : Option ((Int32 × Int32) ⊕ Int32) :=
  if y3_105 = 0 then
  some (.inl ((x1_12 ||| (0 : Int32)), (x2_12 + (1 : Int32))))
  else
  some (.inl ((x1_12 ||| ((1 : Int32) <<< (x2_12 &&& 31))), (x2_12 + (1 : Int32))))
def f_X7_stood_b2 (σ5 : Sg) (x1_12 : Int32) (x2_12 : Int32) : Option ((Int32 × Int32) ⊕ Int32) :=
  (ga (σ5 (186)) (ln (186)) (0 : Int32)).bind fun v18 =>
  if v18 ≤ x2_12 then
  some (.inr x1_12)
  else
  (lp (fun st => f_X7_stood_b1 σ5 x2_12 st.1 st.2) FU ((1 : Int32), (0 : Int32))).bind fun rr => f_X7_stood_k1 x1_12 x2_12 rr
def f_X7_stood_k2 (σ5 : Sg) (y1_125 : Int32) : Option (Int32 × Sg) :=
  some (y1_125, σ5)
def f_X7_stood (σ : Sg)  : Option (Int32 × Sg) :=
  (f_X7_measure σ (195)).bind fun σ5 =>
  (lp (fun st => f_X7_stood_b2 σ5 st.1 st.2) FU ((0 : Int32), (0 : Int32))).bind fun rr => f_X7_stood_k2 σ5 rr
set_option maxHeartbeats 4000000 in
set_option maxRecDepth 100000 in
theorem c_X7_stood (l : Launch) (D : va_G) (w : Wv) (σ : Sg)  (r : Int32) (σ' : Sg)  (hJ : Inj w) (hf : f_X7_stood σ = some (r, σ')) : Met l yX7_stood (.code yX7_stood cX7_stood 5 (some .int) :: TB) (rmW 1 26) (pcW D w [.ref (w.1 (184))] σ) (qiW D w r σ') 0 0 (AL w) := by
  refine q_open (by decide +kernel) (Nat.le_of_ble_eq_true rfl) ?_
  intro p e s m args below meth c ls hx hb hml hr hlk hown hts hK hP hS hl
  have hown : s.vm.findClass RX7 = some m.cls := hown
  have hl : lv_has ls 5 [(0, .ref (w.1 (184)))] := hl
  unfold f_X7_stood at hf
  refine lv_aload_n hx hb dX7_stood_0 rfl (lv_at hl 0 rfl) ?_
  refine lv_aload_n hx hb dX7_stood_1 rfl (lv_at hl 0 rfl) ?_
  refine gt_X7_41 hx hb hts hown hK hP dX7_stood_2 ?_
  obtain ⟨σ5, h5, hf⟩ := bnd hf
  refine q_cVv (As := [.ref (w.1 (195))]) hx hb hts hml hown hK hP hS (c_X7_measure l D w σ (195) σ5 isC195 hJ h5) hw_X7_146 hd_X7_measure ⟨rfl, rfl, rfl⟩ o184 (ce7 kd184) rfl ⟨Nat.le_of_ble_eq_true rfl, Nat.le_of_ble_eq_true rfl⟩ ⟨Nat.le_of_ble_eq_true rfl, Nat.le_of_ble_eq_true rfl⟩ hl.1 rfl (Nat.le_of_ble_eq_true rfl) dX7_stood_5 (fun H locs hP hS => ?_)
  refine lv_iconst (v := (0 : Int32)) hx hb dX7_stood_8 (by decide) ?_
  refine lv_istore_n (lv' := [(1, .int (0 : Int32)), (0, .ref (w.1 (184)))]) hx hb dX7_stood_9 rfl hl (by decide) rfl (fun ls hl => ?_)
  refine lv_iconst (v := (0 : Int32)) hx hb dX7_stood_10 (by decide) ?_
  refine lv_istore_n (lv' := [(2, .int (0 : Int32)), (1, .int (0 : Int32)), (0, .ref (w.1 (184)))]) hx hb dX7_stood_11 rfl hl (by decide) rfl (fun ls hl => ?_)
  obtain ⟨rr, hlp, hf⟩ := bnd hf
  have hE12_125 : ∀ (y1_125 : Int32) (H : Heap) (locs : List Loc) (ls : Array Slot), f_X7_stood_k2 σ5 y1_125 = some (r, σ') → va_P D vwCl (WL w σ5) H → va_S (AL w) s.heap H locs → lv_has ls 5 [(1, .int y1_125)] → W p l e (rmW 1 26) s m args below meth c H locs 0 0 (MQ below (qiW D w r σ') args s 0 0 (AL w)) (F0 m 125 ls []) := by
    intro y1_125 H locs ls hf hP hS hl
    unfold f_X7_stood_k2 at hf
    refine lv_iload_n hx hb dX7_stood_125 rfl (lv_at hl 0 rfl) ?_
    have hq := Option.some.inj hf
    exact q_iret hx hb hr hlk hP hS (congrArg Prod.fst hq) (congrArg Prod.snd hq) dX7_stood_126
  refine lp_ind (G := fun (st : (Int32 × Int32)) => ∀ (H : Heap) (locs : List Loc) (ls : Array Slot), va_P D vwCl (WL w σ5) H → va_S (AL w) s.heap H locs → lv_has ls 5 [(0, .ref (w.1 (184))), (1, .int st.1), (2, .int st.2)] → W p l e (rmW 1 26) s m args below meth c H locs 0 0 (MQ below (qiW D w r σ') args s 0 0 (AL w)) (F0 m 12 ls [])) (X := fun rr => f_X7_stood_k2 σ5 rr = some (r, σ')) ?_ _ _ rr hlp hf _ _ _ hP hS (lv_sub hl [2, 1, 0] rfl)
  rintro ⟨x1_12, x2_12⟩ oo12 hb9 hG12 hX12 H locs ls hP hS hl
  have hP : va_P D vwCl (WL w σ5) H := hP
  have hl : lv_has ls 5 [(0, .ref (w.1 (184))), (1, .int x1_12), (2, .int x2_12)] := hl
  have hf : f_X7_stood_b2 σ5 x1_12 x2_12 = some oo12 := hb9
  unfold f_X7_stood_b2 at hf
  refine lv_iload_n hx hb dX7_stood_12 rfl (lv_at hl 2 rfl) ?_
  refine lv_aload_n hx hb dX7_stood_13 rfl (lv_at hl 0 rfl) ?_
  refine gt_X7_13 hx hb hts hown hK hP dX7_stood_14 ?_
  refine lv_iconst (v := (0 : Int32)) hx hb dX7_stood_17 (by decide) ?_
  obtain ⟨v18, h18, hf⟩ := bnd hf
  refine q_iald hx hb hK hP isC186.o isC186.k h18 dX7_stood_18 ?_
  refine lv_icmp_ge (tgt := 125) hx hb dX7_stood_19 (by decide) (fun hc => ?_) (fun hc => ?_)
  · have hf := ifp hc hf
    obtain rfl := Option.some.inj hf
    exact hE12_125 x1_12 _ _ _ (hX12 _ rfl) hP hS (lv_sub hl [1] rfl)
  · have hf := ifn hc hf
    refine lv_iconst (v := (1 : Int32)) hx hb dX7_stood_22 (by decide) ?_
    refine lv_istore_n (lv' := [(3, .int (1 : Int32)), (0, .ref (w.1 (184))), (1, .int x1_12), (2, .int x2_12)]) hx hb dX7_stood_23 rfl hl (by decide) rfl (fun ls hl => ?_)
    refine lv_iconst (v := (0 : Int32)) hx hb dX7_stood_24 (by decide) ?_
    refine lv_istore (lv' := [(4, .int (0 : Int32)), (3, .int (1 : Int32)), (0, .ref (w.1 (184))), (1, .int x1_12), (2, .int x2_12)]) hx hb dX7_stood_25 hl (by decide) rfl (fun ls hl => ?_)
    obtain ⟨rr, hlp, hf⟩ := bnd hf
    have hE27_105 : ∀ (y3_105 : Int32) (H : Heap) (locs : List Loc) (ls : Array Slot), f_X7_stood_k1 x1_12 x2_12 y3_105 = some oo12 → va_P D vwCl (WL w σ5) H → va_S (AL w) s.heap H locs → lv_has ls 5 [(0, .ref (w.1 (184))), (1, .int x1_12), (2, .int x2_12), (3, .int y3_105)] → W p l e (rmW 1 26) s m args below meth c H locs 0 0 (MQ below (qiW D w r σ') args s 0 0 (AL w)) (F0 m 105 ls []) := by
      intro y3_105 H locs ls hf hP hS hl
      unfold f_X7_stood_k1 at hf
      refine lv_iload_n hx hb dX7_stood_105 rfl (lv_at hl 1 rfl) ?_
      refine lv_iload_n hx hb dX7_stood_106 rfl (lv_at hl 3 rfl) ?_
      refine lv_if_eq (tgt := 116) hx hb dX7_stood_107 (by decide) (fun hc => ?_) (fun hc => ?_)
      · have hf := ifp hc hf
        refine lv_iconst (v := (0 : Int32)) hx hb dX7_stood_116 (by decide) ?_
        refine lv_ior hx hb dX7_stood_117 ?_
        refine lv_istore_n (lv' := [(1, .int (x1_12 ||| (0 : Int32))), (0, .ref (w.1 (184))), (2, .int x2_12), (3, .int y3_105)]) hx hb dX7_stood_118 rfl hl (by decide) rfl (fun ls hl => ?_)
        refine lv_iinc (v := (x2_12 + (1 : Int32))) (lv' := [(2, .int (x2_12 + (1 : Int32))), (1, .int (x1_12 ||| (0 : Int32))), (0, .ref (w.1 (184))), (3, .int y3_105)]) hx hb dX7_stood_119 hl (k := 2) rfl ii_1 (by decide) rfl (fun ls hl => ?_)
        refine lv_goto (tgt := 12) hx hb dX7_stood_122 (by decide) ?_
        obtain rfl := Option.some.inj hf
        exact hG12 _ rfl _ _ _ hP hS (lv_sub hl [2, 1, 0] rfl)
      · have hf := ifn hc hf
        refine lv_iconst (v := (1 : Int32)) hx hb dX7_stood_110 (by decide) ?_
        refine lv_iload_n hx hb dX7_stood_111 rfl (lv_at hl 2 rfl) ?_
        refine lv_ishl hx hb dX7_stood_112 ?_
        refine lv_goto (tgt := 117) hx hb dX7_stood_113 (by decide) ?_
        refine lv_ior hx hb dX7_stood_117 ?_
        refine lv_istore_n (lv' := [(1, .int (x1_12 ||| ((1 : Int32) <<< (x2_12 &&& 31)))), (0, .ref (w.1 (184))), (2, .int x2_12), (3, .int y3_105)]) hx hb dX7_stood_118 rfl hl (by decide) rfl (fun ls hl => ?_)
        refine lv_iinc (v := (x2_12 + (1 : Int32))) (lv' := [(2, .int (x2_12 + (1 : Int32))), (1, .int (x1_12 ||| ((1 : Int32) <<< (x2_12 &&& 31)))), (0, .ref (w.1 (184))), (3, .int y3_105)]) hx hb dX7_stood_119 hl (k := 2) rfl ii_1 (by decide) rfl (fun ls hl => ?_)
        refine lv_goto (tgt := 12) hx hb dX7_stood_122 (by decide) ?_
        obtain rfl := Option.some.inj hf
        exact hG12 _ rfl _ _ _ hP hS (lv_sub hl [2, 1, 0] rfl)
    refine lp_ind (G := fun (st : (Int32 × Int32)) => ∀ (H : Heap) (locs : List Loc) (ls : Array Slot), va_P D vwCl (WL w σ5) H → va_S (AL w) s.heap H locs → lv_has ls 5 [(0, .ref (w.1 (184))), (1, .int x1_12), (2, .int x2_12), (3, .int st.1), (4, .int st.2)] → W p l e (rmW 1 26) s m args below meth c H locs 0 0 (MQ below (qiW D w r σ') args s 0 0 (AL w)) (F0 m 27 ls [])) (X := fun rr => f_X7_stood_k1 x1_12 x2_12 rr = some oo12) ?_ _ _ rr hlp hf _ _ _ hP hS (lv_sub hl [2, 3, 4, 1, 0] rfl)
    rintro ⟨x3_27, x4_27⟩ oo27 hb9 hG27 hX27 H locs ls hP hS hl
    have hP : va_P D vwCl (WL w σ5) H := hP
    have hl : lv_has ls 5 [(0, .ref (w.1 (184))), (1, .int x1_12), (2, .int x2_12), (3, .int x3_27), (4, .int x4_27)] := hl
    have hf : f_X7_stood_b1 σ5 x2_12 x3_27 x4_27 = some oo27 := hb9
    unfold f_X7_stood_b1 at hf
    refine lv_iload hx hb dX7_stood_27 (lv_at hl 4 rfl) ?_
    refine lv_aload_n hx hb dX7_stood_29 rfl (lv_at hl 0 rfl) ?_
    refine gt_X7_160 hx hb hts hown hK hP dX7_stood_30 ?_
    refine lv_icmp_ge (tgt := 105) hx hb dX7_stood_33 (by decide) (fun hc => ?_) (fun hc => ?_)
    · have hf := ifp hc hf
      obtain rfl := Option.some.inj hf
      exact hE27_105 x3_27 _ _ _ (hX27 _ rfl) hP hS (lv_sub hl [0, 1, 2, 3] rfl)
    · have hf := ifn hc hf
      refine lv_iload_n hx hb dX7_stood_36 rfl (lv_at hl 3 rfl) ?_
      refine lv_if_eq (tgt := 97) hx hb dX7_stood_37 (by decide) (fun hc => ?_) (fun hc => ?_)
      · have hf := ifp hc hf
        refine lv_iconst (v := (0 : Int32)) hx hb dX7_stood_97 (by decide) ?_
        refine lv_istore_n (lv' := [(3, .int (0 : Int32)), (0, .ref (w.1 (184))), (1, .int x1_12), (2, .int x2_12), (4, .int x4_27)]) hx hb dX7_stood_98 rfl hl (by decide) rfl (fun ls hl => ?_)
        refine lv_iinc (v := (x4_27 + (1 : Int32))) (lv' := [(4, .int (x4_27 + (1 : Int32))), (3, .int (0 : Int32)), (0, .ref (w.1 (184))), (1, .int x1_12), (2, .int x2_12)]) hx hb dX7_stood_99 hl (k := 4) rfl ii_1 (by decide) rfl (fun ls hl => ?_)
        refine lv_goto (tgt := 27) hx hb dX7_stood_102 (by decide) ?_
        obtain rfl := Option.some.inj hf
        exact hG27 _ rfl _ _ _ hP hS (lv_sub hl [2, 3, 4, 1, 0] rfl)
      · have hf := ifn hc hf
        refine lv_aload_n hx hb dX7_stood_40 rfl (lv_at hl 0 rfl) ?_
        refine lv_aload_n hx hb dX7_stood_41 rfl (lv_at hl 0 rfl) ?_
        refine gt_X7_41 hx hb hts hown hK hP dX7_stood_42 ?_
        refine lv_iload_n hx hb dX7_stood_45 rfl (lv_at hl 2 rfl) ?_
        refine lv_aload_n hx hb dX7_stood_46 rfl (lv_at hl 0 rfl) ?_
        refine gt_X7_59 hx hb hts hown hK hP dX7_stood_47 ?_
        refine lv_iload hx hb dX7_stood_50 (lv_at hl 4 rfl) ?_
        obtain ⟨v52, h52, hf⟩ := bnd hf
        refine q_iald hx hb hK hP isC201.o isC201.k h52 dX7_stood_52 ?_
        obtain ⟨v53, h53, hf⟩ := bnd hf
        refine q_cVi (As := [.ref (w.1 (195)), .int x2_12, .int v52]) hx hb hts hml hown hK hP hS (c_X7_nextOn l D w σ5 (195) x2_12 v52 v53 isC195 h53) hw_X7_167 hd_X7_nextOn ⟨rfl, rfl, rfl⟩ o184 (ce7 kd184) rfl ⟨Nat.le_of_ble_eq_true rfl, Nat.le_of_ble_eq_true rfl⟩ ⟨Nat.le_of_ble_eq_true rfl, Nat.le_of_ble_eq_true rfl⟩ hl.1 rfl (Nat.le_of_ble_eq_true rfl) dX7_stood_53 (fun H locs hP hS => ?_)
        refine lv_aload_n hx hb dX7_stood_56 rfl (lv_at hl 0 rfl) ?_
        refine gt_X7_62 hx hb hts hown hK hP dX7_stood_57 ?_
        refine lv_iload hx hb dX7_stood_60 (lv_at hl 4 rfl) ?_
        obtain ⟨v62, h62, hf⟩ := bnd hf
        refine q_iald hx hb hK hP isC202.o isC202.k h62 dX7_stood_62 ?_
        refine lv_icmp_ne (tgt := 97) hx hb dX7_stood_63 (by decide) (fun hc => ?_) (fun hc => ?_)
        · have hf := ifp hc hf
          refine lv_iconst (v := (0 : Int32)) hx hb dX7_stood_97 (by decide) ?_
          refine lv_istore_n (lv' := [(3, .int (0 : Int32)), (0, .ref (w.1 (184))), (1, .int x1_12), (2, .int x2_12), (4, .int x4_27)]) hx hb dX7_stood_98 rfl hl (by decide) rfl (fun ls hl => ?_)
          refine lv_iinc (v := (x4_27 + (1 : Int32))) (lv' := [(4, .int (x4_27 + (1 : Int32))), (3, .int (0 : Int32)), (0, .ref (w.1 (184))), (1, .int x1_12), (2, .int x2_12)]) hx hb dX7_stood_99 hl (k := 4) rfl ii_1 (by decide) rfl (fun ls hl => ?_)
          refine lv_goto (tgt := 27) hx hb dX7_stood_102 (by decide) ?_
          obtain rfl := Option.some.inj hf
          exact hG27 _ rfl _ _ _ hP hS (lv_sub hl [2, 3, 4, 1, 0] rfl)
        · have hf := ifn (fun h => h hc) hf
          refine lv_aload_n hx hb dX7_stood_66 rfl (lv_at hl 0 rfl) ?_
          refine gt_X7_53 hx hb hts hown hK hP dX7_stood_67 ?_
          refine lv_bipush (v := (8 : Int32)) hx hb dX7_stood_70 (by decide) ?_
          refine lv_iload_n hx hb dX7_stood_72 rfl (lv_at hl 2 rfl) ?_
          refine lv_imul hx hb dX7_stood_73 ?_
          refine lv_aload_n hx hb dX7_stood_74 rfl (lv_at hl 0 rfl) ?_
          refine gt_X7_59 hx hb hts hown hK hP dX7_stood_75 ?_
          refine lv_iload hx hb dX7_stood_78 (lv_at hl 4 rfl) ?_
          obtain ⟨v80, h80, hf⟩ := bnd hf
          refine q_iald hx hb hK hP isC201.o isC201.k h80 dX7_stood_80 ?_
          refine lv_iadd hx hb dX7_stood_81 ?_
          obtain ⟨v82, h82, hf⟩ := bnd hf
          refine q_iald hx hb hK hP isC199.o isC199.k h82 dX7_stood_82 ?_
          refine lv_aload_n hx hb dX7_stood_83 rfl (lv_at hl 0 rfl) ?_
          refine gt_X7_65 hx hb hts hown hK hP dX7_stood_84 ?_
          refine lv_iload hx hb dX7_stood_87 (lv_at hl 4 rfl) ?_
          obtain ⟨v89, h89, hf⟩ := bnd hf
          refine q_iald hx hb hK hP isC203.o isC203.k h89 dX7_stood_89 ?_
          refine lv_icmp_ne (tgt := 97) hx hb dX7_stood_90 (by decide) (fun hc => ?_) (fun hc => ?_)
          · have hf := ifp hc hf
            refine lv_iconst (v := (0 : Int32)) hx hb dX7_stood_97 (by decide) ?_
            refine lv_istore_n (lv' := [(3, .int (0 : Int32)), (0, .ref (w.1 (184))), (1, .int x1_12), (2, .int x2_12), (4, .int x4_27)]) hx hb dX7_stood_98 rfl hl (by decide) rfl (fun ls hl => ?_)
            refine lv_iinc (v := (x4_27 + (1 : Int32))) (lv' := [(4, .int (x4_27 + (1 : Int32))), (3, .int (0 : Int32)), (0, .ref (w.1 (184))), (1, .int x1_12), (2, .int x2_12)]) hx hb dX7_stood_99 hl (k := 4) rfl ii_1 (by decide) rfl (fun ls hl => ?_)
            refine lv_goto (tgt := 27) hx hb dX7_stood_102 (by decide) ?_
            obtain rfl := Option.some.inj hf
            exact hG27 _ rfl _ _ _ hP hS (lv_sub hl [2, 3, 4, 1, 0] rfl)
          · have hf := ifn (fun h => h hc) hf
            refine lv_iconst (v := (1 : Int32)) hx hb dX7_stood_93 (by decide) ?_
            refine lv_goto (tgt := 98) hx hb dX7_stood_94 (by decide) ?_
            refine lv_istore_n (lv' := [(3, .int (1 : Int32)), (0, .ref (w.1 (184))), (1, .int x1_12), (2, .int x2_12), (4, .int x4_27)]) hx hb dX7_stood_98 rfl hl (by decide) rfl (fun ls hl => ?_)
            refine lv_iinc (v := (x4_27 + (1 : Int32))) (lv' := [(4, .int (x4_27 + (1 : Int32))), (3, .int (1 : Int32)), (0, .ref (w.1 (184))), (1, .int x1_12), (2, .int x2_12)]) hx hb dX7_stood_99 hl (k := 4) rfl ii_1 (by decide) rfl (fun ls hl => ?_)
            refine lv_goto (tgt := 27) hx hb dX7_stood_102 (by decide) ?_
            obtain rfl := Option.some.inj hf
            exact hG27 _ rfl _ _ _ hP hS (lv_sub hl [2, 3, 4, 1, 0] rfl)
def f_X7_areAlike (σ : Sg) (a1 : Int32) (a2 : Int32) (a3 : Int32) : Option Int32 :=
  (f_X7_nextOn σ (195) a1 a3).bind fun v7 =>
  (f_X7_nextOn σ (195) a2 a3).bind fun v21 =>
  if ¬ v7 = v21 then
  some (0 : Int32)
  else
  if v7 = (-4 : Int32) then
  some (1 : Int32)
  else
  (ga (σ (199)) (ln (199)) (((8 : Int32) * a1) + a3)).bind fun v44 =>
  (ga (σ (199)) (ln (199)) (((8 : Int32) * a2) + a3)).bind fun v55 =>
  if ¬ v44 = v55 then
  some (0 : Int32)
  else
  some (1 : Int32)
set_option maxHeartbeats 4000000 in
set_option maxRecDepth 100000 in
theorem c_X7_areAlike (l : Launch) (D : va_G) (w : Wv) (σ : Sg) (a1 : Int32) (a2 : Int32) (a3 : Int32) (r : Int32)  (hf : f_X7_areAlike σ a1 a2 a3 = some r) : Met l yX7_areAlike (.code yX7_areAlike cX7_areAlike 5 (some .boolean) :: TB) (rmW 1 26) (pcW D w [.ref (w.1 (184)), .int a1, .int a2, .int a3] σ) (qzW D w r σ) 0 0 (AL w) := by
  refine q_open (by decide +kernel) (Nat.le_of_ble_eq_true rfl) ?_
  intro p e s m args below meth c ls hx hb hml hr hlk hown hts hK hP hS hl
  have hown : s.vm.findClass RX7 = some m.cls := hown
  have hl : lv_has ls 5 [(0, .ref (w.1 (184))), (1, .int a1), (2, .int a2), (3, .int a3)] := hl
  unfold f_X7_areAlike at hf
  refine lv_aload_n hx hb dX7_areAlike_0 rfl (lv_at hl 0 rfl) ?_
  refine lv_aload_n hx hb dX7_areAlike_1 rfl (lv_at hl 0 rfl) ?_
  refine gt_X7_41 hx hb hts hown hK hP dX7_areAlike_2 ?_
  refine lv_iload_n hx hb dX7_areAlike_5 rfl (lv_at hl 1 rfl) ?_
  refine lv_iload_n hx hb dX7_areAlike_6 rfl (lv_at hl 3 rfl) ?_
  obtain ⟨v7, h7, hf⟩ := bnd hf
  refine q_cVi (As := [.ref (w.1 (195)), .int a1, .int a3]) hx hb hts hml hown hK hP hS (c_X7_nextOn l D w σ (195) a1 a3 v7 isC195 h7) hw_X7_167 hd_X7_nextOn ⟨rfl, rfl, rfl⟩ o184 (ce7 kd184) rfl ⟨Nat.le_of_ble_eq_true rfl, Nat.le_of_ble_eq_true rfl⟩ ⟨Nat.le_of_ble_eq_true rfl, Nat.le_of_ble_eq_true rfl⟩ hl.1 rfl (Nat.le_of_ble_eq_true rfl) dX7_areAlike_7 (fun H locs hP hS => ?_)
  refine lv_istore (lv' := [(4, .int v7), (0, .ref (w.1 (184))), (1, .int a1), (2, .int a2), (3, .int a3)]) hx hb dX7_areAlike_10 hl (by decide) rfl (fun ls hl => ?_)
  refine lv_iload hx hb dX7_areAlike_12 (lv_at hl 0 rfl) ?_
  refine lv_aload_n hx hb dX7_areAlike_14 rfl (lv_at hl 1 rfl) ?_
  refine lv_aload_n hx hb dX7_areAlike_15 rfl (lv_at hl 1 rfl) ?_
  refine gt_X7_41 hx hb hts hown hK hP dX7_areAlike_16 ?_
  refine lv_iload_n hx hb dX7_areAlike_19 rfl (lv_at hl 3 rfl) ?_
  refine lv_iload_n hx hb dX7_areAlike_20 rfl (lv_at hl 4 rfl) ?_
  obtain ⟨v21, h21, hf⟩ := bnd hf
  refine q_cVi (As := [.ref (w.1 (195)), .int a2, .int a3]) hx hb hts hml hown hK hP hS (c_X7_nextOn l D w σ (195) a2 a3 v21 isC195 h21) hw_X7_167 hd_X7_nextOn ⟨rfl, rfl, rfl⟩ o184 (ce7 kd184) rfl ⟨Nat.le_of_ble_eq_true rfl, Nat.le_of_ble_eq_true rfl⟩ ⟨Nat.le_of_ble_eq_true rfl, Nat.le_of_ble_eq_true rfl⟩ hl.1 rfl (Nat.le_of_ble_eq_true rfl) dX7_areAlike_21 (fun H locs hP hS => ?_)
  refine lv_icmp_ne (tgt := 63) hx hb dX7_areAlike_24 (by decide) (fun hc => ?_) (fun hc => ?_)
  · have hf := ifp hc hf
    refine lv_iconst (v := (0 : Int32)) hx hb dX7_areAlike_63 (by decide) ?_
    have hq := Option.some.inj hf
    exact q_zret hx hb hr hlk hP hS rfl hq rfl dX7_areAlike_64
  · have hf := ifn (fun h => h hc) hf
    refine lv_iload hx hb dX7_areAlike_27 (lv_at hl 0 rfl) ?_
    refine lv_bipush (v := (-4 : Int32)) hx hb dX7_areAlike_29 (by decide) ?_
    refine lv_icmp_eq (tgt := 59) hx hb dX7_areAlike_31 (by decide) (fun hc => ?_) (fun hc => ?_)
    · have hf := ifp hc hf
      refine lv_iconst (v := (1 : Int32)) hx hb dX7_areAlike_59 (by decide) ?_
      refine lv_goto (tgt := 64) hx hb dX7_areAlike_60 (by decide) ?_
      have hq := Option.some.inj hf
      exact q_zret hx hb hr hlk hP hS rfl hq rfl dX7_areAlike_64
    · have hf := ifn hc hf
      refine lv_aload_n hx hb dX7_areAlike_34 rfl (lv_at hl 1 rfl) ?_
      refine gt_X7_53 hx hb hts hown hK hP dX7_areAlike_35 ?_
      refine lv_bipush (v := (8 : Int32)) hx hb dX7_areAlike_38 (by decide) ?_
      refine lv_iload_n hx hb dX7_areAlike_40 rfl (lv_at hl 2 rfl) ?_
      refine lv_imul hx hb dX7_areAlike_41 ?_
      refine lv_iload_n hx hb dX7_areAlike_42 rfl (lv_at hl 4 rfl) ?_
      refine lv_iadd hx hb dX7_areAlike_43 ?_
      obtain ⟨v44, h44, hf⟩ := bnd hf
      refine q_iald hx hb hK hP isC199.o isC199.k h44 dX7_areAlike_44 ?_
      refine lv_aload_n hx hb dX7_areAlike_45 rfl (lv_at hl 1 rfl) ?_
      refine gt_X7_53 hx hb hts hown hK hP dX7_areAlike_46 ?_
      refine lv_bipush (v := (8 : Int32)) hx hb dX7_areAlike_49 (by decide) ?_
      refine lv_iload_n hx hb dX7_areAlike_51 rfl (lv_at hl 3 rfl) ?_
      refine lv_imul hx hb dX7_areAlike_52 ?_
      refine lv_iload_n hx hb dX7_areAlike_53 rfl (lv_at hl 4 rfl) ?_
      refine lv_iadd hx hb dX7_areAlike_54 ?_
      obtain ⟨v55, h55, hf⟩ := bnd hf
      refine q_iald hx hb hK hP isC199.o isC199.k h55 dX7_areAlike_55 ?_
      refine lv_icmp_ne (tgt := 63) hx hb dX7_areAlike_56 (by decide) (fun hc => ?_) (fun hc => ?_)
      · have hf := ifp hc hf
        refine lv_iconst (v := (0 : Int32)) hx hb dX7_areAlike_63 (by decide) ?_
        have hq := Option.some.inj hf
        exact q_zret hx hb hr hlk hP hS rfl hq rfl dX7_areAlike_64
      · have hf := ifn (fun h => h hc) hf
        refine lv_iconst (v := (1 : Int32)) hx hb dX7_areAlike_59 (by decide) ?_
        refine lv_goto (tgt := 64) hx hb dX7_areAlike_60 (by decide) ?_
        have hq := Option.some.inj hf
        exact q_zret hx hb hr hlk hP hS rfl hq rfl dX7_areAlike_64
def f_X7_next_b1 (v1 : Int32) (σ1 : Sg) (x4_13 : Int32) (x6_34 : Int32) (x7_51 : Int32) (x8_51 : Int32) : Option ((Int32 × Int32) ⊕ Int32) :=
  (ga (σ1 (186)) (ln (186)) (0 : Int32)).bind fun v58 =>
  if v58 ≤ x8_51 then
  some (.inr x7_51)
  else
  (f_X7_has σ1 v1 x6_34).bind fun v67 =>
  if v67 = 0 then
  some (.inl ((x7_51 + (0 : Int32)), (x8_51 + (1 : Int32))))
  else
  (f_X7_has σ1 v1 x8_51).bind fun v76 =>
  if v76 = 0 then
  some (.inl ((x7_51 + (0 : Int32)), (x8_51 + (1 : Int32))))
  else
  (f_X7_areAlike σ1 x6_34 x8_51 x4_13).bind fun v89 =>
  if v89 = 0 then
  some (.inl ((x7_51 + (0 : Int32)), (x8_51 + (1 : Int32))))
  else
  some (.inl ((x7_51 + (1 : Int32)), (x8_51 + (1 : Int32))))
def f_X7_next_k1 (x5_34 : Int32) (x6_34 : Int32) (y7_109 : Int32) : Option ((Int32 × Int32) ⊕ Int32) :=
  if y7_109 ≤ x5_34 then
  some (.inl (x5_34, (x6_34 + (1 : Int32))))
  else
  some (.inl (y7_109, (x6_34 + (1 : Int32))))
def f_X7_next_b2 (v1 : Int32) (σ1 : Sg) (x4_13 : Int32) (x5_34 : Int32) (x6_34 : Int32) : Option ((Int32 × Int32) ⊕ Int32) :=
  (ga (σ1 (186)) (ln (186)) (0 : Int32)).bind fun v41 =>
  if v41 ≤ x6_34 then
  some (.inr x5_34)
  else
  (lp (fun st => f_X7_next_b1 v1 σ1 x4_13 x6_34 st.1 st.2) FU ((0 : Int32), (0 : Int32))).bind fun rr => f_X7_next_k1 x5_34 x6_34 rr
def f_X7_next_k2 (x2_13 : Int32) (x3_13 : Int32) (x4_13 : Int32) (y5_131 : Int32) : Option ((Int32 × Int32 × Int32) ⊕ Int32) :=
  if x2_13 = (-4 : Int32) then
  some (.inl (x4_13, y5_131, (x4_13 + (1 : Int32))))
  else
  if x3_13 ≤ y5_131 then
  some (.inl (x2_13, x3_13, (x4_13 + (1 : Int32))))
  else
  some (.inl (x4_13, y5_131, (x4_13 + (1 : Int32))))
def f_X7_next_b3 (v1 : Int32) (σ1 : Sg) (x2_13 : Int32) (x3_13 : Int32) (x4_13 : Int32) : Option ((Int32 × Int32 × Int32) ⊕ Int32) :=
  (ga (σ1 (186)) (ln (186)) (0 : Int32)).bind fun v20 =>
  if v20 ≤ x4_13 then
  some (.inr x2_13)
  else
  if v1 = 0 then
  some (.inr x2_13)
  else
  (lp (fun st => f_X7_next_b2 v1 σ1 x4_13 st.1 st.2) FU ((0 : Int32), (0 : Int32))).bind fun rr => f_X7_next_k2 x2_13 x3_13 x4_13 rr
def f_X7_next_k3 (σ1 : Sg) (y2_155 : Int32) : Option (Int32 × Sg) :=
  some (y2_155, σ1)
def f_X7_next (σ : Sg)  : Option (Int32 × Sg) :=
  (f_X7_stood σ).bind fun q1 =>
  (lp (fun st => f_X7_next_b3 q1.1 q1.2 st.1 st.2.1 st.2.2) FU ((-4 : Int32), (0 : Int32), (0 : Int32))).bind fun rr => f_X7_next_k3 q1.2 rr
set_option maxHeartbeats 4000000 in
set_option maxRecDepth 100000 in
theorem c_X7_next (l : Launch) (D : va_G) (w : Wv) (σ : Sg)  (r : Int32) (σ' : Sg)  (hJ : Inj w) (hf : f_X7_next σ = some (r, σ')) : Met l yX7_next (.code yX7_next cX7_next 9 (some .int) :: TB) (rmW 2 50) (pcW D w [.ref (w.1 (184))] σ) (qiW D w r σ') 0 0 (AL w) := by
  refine q_open (by decide +kernel) (Nat.le_of_ble_eq_true rfl) ?_
  intro p e s m args below meth c ls hx hb hml hr hlk hown hts hK hP hS hl
  have hown : s.vm.findClass RX7 = some m.cls := hown
  have hl : lv_has ls 9 [(0, .ref (w.1 (184)))] := hl
  unfold f_X7_next at hf
  refine lv_aload_n hx hb dX7_next_0 rfl (lv_at hl 0 rfl) ?_
  obtain ⟨⟨v1, σ1⟩, h1, hf⟩ := bnd hf
  dsimp only at hf
  refine q_cVi (As := []) hx hb hts hml hown hK hP hS (c_X7_stood l D w σ v1 σ1 hJ h1) hw_X7_235 hd_X7_stood ⟨rfl, rfl, rfl⟩ o184 (ce7 kd184) rfl ⟨Nat.le_of_ble_eq_true rfl, Nat.le_of_ble_eq_true rfl⟩ ⟨Nat.le_of_ble_eq_true rfl, Nat.le_of_ble_eq_true rfl⟩ hl.1 rfl (Nat.le_of_ble_eq_true rfl) dX7_next_1 (fun H locs hP hS => ?_)
  refine lv_istore_n (lv' := [(1, .int v1), (0, .ref (w.1 (184)))]) hx hb dX7_next_4 rfl hl (by decide) rfl (fun ls hl => ?_)
  refine lv_bipush (v := (-4 : Int32)) hx hb dX7_next_5 (by decide) ?_
  refine lv_istore_n (lv' := [(2, .int (-4 : Int32)), (1, .int v1), (0, .ref (w.1 (184)))]) hx hb dX7_next_7 rfl hl (by decide) rfl (fun ls hl => ?_)
  refine lv_iconst (v := (0 : Int32)) hx hb dX7_next_8 (by decide) ?_
  refine lv_istore_n (lv' := [(3, .int (0 : Int32)), (2, .int (-4 : Int32)), (1, .int v1), (0, .ref (w.1 (184)))]) hx hb dX7_next_9 rfl hl (by decide) rfl (fun ls hl => ?_)
  refine lv_iconst (v := (0 : Int32)) hx hb dX7_next_10 (by decide) ?_
  refine lv_istore (lv' := [(4, .int (0 : Int32)), (3, .int (0 : Int32)), (2, .int (-4 : Int32)), (1, .int v1), (0, .ref (w.1 (184)))]) hx hb dX7_next_11 hl (by decide) rfl (fun ls hl => ?_)
  obtain ⟨rr, hlp, hf⟩ := bnd hf
  have hE13_155 : ∀ (y2_155 : Int32) (H : Heap) (locs : List Loc) (ls : Array Slot), f_X7_next_k3 σ1 y2_155 = some (r, σ') → va_P D vwCl (WL w σ1) H → va_S (AL w) s.heap H locs → lv_has ls 9 [(2, .int y2_155)] → W p l e (rmW 2 50) s m args below meth c H locs 0 0 (MQ below (qiW D w r σ') args s 0 0 (AL w)) (F0 m 155 ls []) := by
    intro y2_155 H locs ls hf hP hS hl
    unfold f_X7_next_k3 at hf
    refine lv_iload_n hx hb dX7_next_155 rfl (lv_at hl 0 rfl) ?_
    have hq := Option.some.inj hf
    exact q_iret hx hb hr hlk hP hS (congrArg Prod.fst hq) (congrArg Prod.snd hq) dX7_next_156
  refine lp_ind (G := fun (st : (Int32 × Int32 × Int32)) => ∀ (H : Heap) (locs : List Loc) (ls : Array Slot), va_P D vwCl (WL w σ1) H → va_S (AL w) s.heap H locs → lv_has ls 9 [(0, .ref (w.1 (184))), (1, .int v1), (2, .int st.1), (3, .int st.2.1), (4, .int st.2.2)] → W p l e (rmW 2 50) s m args below meth c H locs 0 0 (MQ below (qiW D w r σ') args s 0 0 (AL w)) (F0 m 13 ls [])) (X := fun rr => f_X7_next_k3 σ1 rr = some (r, σ')) ?_ _ _ rr hlp hf _ _ _ hP hS (lv_sub hl [4, 3, 2, 1, 0] rfl)
  rintro ⟨x2_13, x3_13, x4_13⟩ oo13 hb9 hG13 hX13 H locs ls hP hS hl
  have hP : va_P D vwCl (WL w σ1) H := hP
  have hl : lv_has ls 9 [(0, .ref (w.1 (184))), (1, .int v1), (2, .int x2_13), (3, .int x3_13), (4, .int x4_13)] := hl
  have hf : f_X7_next_b3 v1 σ1 x2_13 x3_13 x4_13 = some oo13 := hb9
  unfold f_X7_next_b3 at hf
  refine lv_iload hx hb dX7_next_13 (lv_at hl 4 rfl) ?_
  refine lv_aload_n hx hb dX7_next_15 rfl (lv_at hl 0 rfl) ?_
  refine gt_X7_13 hx hb hts hown hK hP dX7_next_16 ?_
  refine lv_iconst (v := (0 : Int32)) hx hb dX7_next_19 (by decide) ?_
  obtain ⟨v20, h20, hf⟩ := bnd hf
  refine q_iald hx hb hK hP isC186.o isC186.k h20 dX7_next_20 ?_
  refine lv_icmp_ge (tgt := 155) hx hb dX7_next_21 (by decide) (fun hc => ?_) (fun hc => ?_)
  · have hf := ifp hc hf
    obtain rfl := Option.some.inj hf
    exact hE13_155 x2_13 _ _ _ (hX13 _ rfl) hP hS (lv_sub hl [2] rfl)
  · have hf := ifn hc hf
    refine lv_iload_n hx hb dX7_next_24 rfl (lv_at hl 1 rfl) ?_
    refine lv_if_eq (tgt := 155) hx hb dX7_next_25 (by decide) (fun hc => ?_) (fun hc => ?_)
    · have hf := ifp hc hf
      obtain rfl := Option.some.inj hf
      exact hE13_155 x2_13 _ _ _ (hX13 _ rfl) hP hS (lv_sub hl [2] rfl)
    · have hf := ifn hc hf
      refine lv_iconst (v := (0 : Int32)) hx hb dX7_next_28 (by decide) ?_
      refine lv_istore (lv' := [(5, .int (0 : Int32)), (0, .ref (w.1 (184))), (1, .int v1), (2, .int x2_13), (3, .int x3_13), (4, .int x4_13)]) hx hb dX7_next_29 hl (by decide) rfl (fun ls hl => ?_)
      refine lv_iconst (v := (0 : Int32)) hx hb dX7_next_31 (by decide) ?_
      refine lv_istore (lv' := [(6, .int (0 : Int32)), (5, .int (0 : Int32)), (0, .ref (w.1 (184))), (1, .int v1), (2, .int x2_13), (3, .int x3_13), (4, .int x4_13)]) hx hb dX7_next_32 hl (by decide) rfl (fun ls hl => ?_)
      obtain ⟨rr, hlp, hf⟩ := bnd hf
      have hE34_131 : ∀ (y5_131 : Int32) (H : Heap) (locs : List Loc) (ls : Array Slot), f_X7_next_k2 x2_13 x3_13 x4_13 y5_131 = some oo13 → va_P D vwCl (WL w σ1) H → va_S (AL w) s.heap H locs → lv_has ls 9 [(0, .ref (w.1 (184))), (1, .int v1), (2, .int x2_13), (3, .int x3_13), (4, .int x4_13), (5, .int y5_131)] → W p l e (rmW 2 50) s m args below meth c H locs 0 0 (MQ below (qiW D w r σ') args s 0 0 (AL w)) (F0 m 131 ls []) := by
        intro y5_131 H locs ls hf hP hS hl
        unfold f_X7_next_k2 at hf
        refine lv_iload_n hx hb dX7_next_131 rfl (lv_at hl 2 rfl) ?_
        refine lv_bipush (v := (-4 : Int32)) hx hb dX7_next_132 (by decide) ?_
        refine lv_icmp_eq (tgt := 143) hx hb dX7_next_134 (by decide) (fun hc => ?_) (fun hc => ?_)
        · have hf := ifp hc hf
          refine lv_iload hx hb dX7_next_143 (lv_at hl 4 rfl) ?_
          refine lv_istore_n (lv' := [(2, .int x4_13), (0, .ref (w.1 (184))), (1, .int v1), (3, .int x3_13), (4, .int x4_13), (5, .int y5_131)]) hx hb dX7_next_145 rfl hl (by decide) rfl (fun ls hl => ?_)
          refine lv_iload hx hb dX7_next_146 (lv_at hl 5 rfl) ?_
          refine lv_istore_n (lv' := [(3, .int y5_131), (2, .int x4_13), (0, .ref (w.1 (184))), (1, .int v1), (4, .int x4_13), (5, .int y5_131)]) hx hb dX7_next_148 rfl hl (by decide) rfl (fun ls hl => ?_)
          refine lv_iinc (v := (x4_13 + (1 : Int32))) (lv' := [(4, .int (x4_13 + (1 : Int32))), (3, .int y5_131), (2, .int x4_13), (0, .ref (w.1 (184))), (1, .int v1), (5, .int y5_131)]) hx hb dX7_next_149 hl (k := 4) rfl ii_1 (by decide) rfl (fun ls hl => ?_)
          refine lv_goto (tgt := 13) hx hb dX7_next_152 (by decide) ?_
          obtain rfl := Option.some.inj hf
          exact hG13 _ rfl _ _ _ hP hS (lv_sub hl [3, 4, 2, 1, 0] rfl)
        · have hf := ifn hc hf
          refine lv_iload hx hb dX7_next_137 (lv_at hl 5 rfl) ?_
          refine lv_iload_n hx hb dX7_next_139 rfl (lv_at hl 3 rfl) ?_
          refine lv_icmp_ge (tgt := 149) hx hb dX7_next_140 (by decide) (fun hc => ?_) (fun hc => ?_)
          · have hf := ifp hc hf
            refine lv_iinc (v := (x4_13 + (1 : Int32))) (lv' := [(4, .int (x4_13 + (1 : Int32))), (0, .ref (w.1 (184))), (1, .int v1), (2, .int x2_13), (3, .int x3_13), (5, .int y5_131)]) hx hb dX7_next_149 hl (k := 4) rfl ii_1 (by decide) rfl (fun ls hl => ?_)
            refine lv_goto (tgt := 13) hx hb dX7_next_152 (by decide) ?_
            obtain rfl := Option.some.inj hf
            exact hG13 _ rfl _ _ _ hP hS (lv_sub hl [1, 2, 3, 4, 0] rfl)
          · have hf := ifn hc hf
            refine lv_iload hx hb dX7_next_143 (lv_at hl 4 rfl) ?_
            refine lv_istore_n (lv' := [(2, .int x4_13), (0, .ref (w.1 (184))), (1, .int v1), (3, .int x3_13), (4, .int x4_13), (5, .int y5_131)]) hx hb dX7_next_145 rfl hl (by decide) rfl (fun ls hl => ?_)
            refine lv_iload hx hb dX7_next_146 (lv_at hl 5 rfl) ?_
            refine lv_istore_n (lv' := [(3, .int y5_131), (2, .int x4_13), (0, .ref (w.1 (184))), (1, .int v1), (4, .int x4_13), (5, .int y5_131)]) hx hb dX7_next_148 rfl hl (by decide) rfl (fun ls hl => ?_)
            refine lv_iinc (v := (x4_13 + (1 : Int32))) (lv' := [(4, .int (x4_13 + (1 : Int32))), (3, .int y5_131), (2, .int x4_13), (0, .ref (w.1 (184))), (1, .int v1), (5, .int y5_131)]) hx hb dX7_next_149 hl (k := 4) rfl ii_1 (by decide) rfl (fun ls hl => ?_)
            refine lv_goto (tgt := 13) hx hb dX7_next_152 (by decide) ?_
            obtain rfl := Option.some.inj hf
            exact hG13 _ rfl _ _ _ hP hS (lv_sub hl [3, 4, 2, 1, 0] rfl)
      refine lp_ind (G := fun (st : (Int32 × Int32)) => ∀ (H : Heap) (locs : List Loc) (ls : Array Slot), va_P D vwCl (WL w σ1) H → va_S (AL w) s.heap H locs → lv_has ls 9 [(0, .ref (w.1 (184))), (1, .int v1), (2, .int x2_13), (3, .int x3_13), (4, .int x4_13), (5, .int st.1), (6, .int st.2)] → W p l e (rmW 2 50) s m args below meth c H locs 0 0 (MQ below (qiW D w r σ') args s 0 0 (AL w)) (F0 m 34 ls [])) (X := fun rr => f_X7_next_k2 x2_13 x3_13 x4_13 rr = some oo13) ?_ _ _ rr hlp hf _ _ _ hP hS (lv_sub hl [2, 3, 4, 5, 6, 1, 0] rfl)
      rintro ⟨x5_34, x6_34⟩ oo34 hb9 hG34 hX34 H locs ls hP hS hl
      have hP : va_P D vwCl (WL w σ1) H := hP
      have hl : lv_has ls 9 [(0, .ref (w.1 (184))), (1, .int v1), (2, .int x2_13), (3, .int x3_13), (4, .int x4_13), (5, .int x5_34), (6, .int x6_34)] := hl
      have hf : f_X7_next_b2 v1 σ1 x4_13 x5_34 x6_34 = some oo34 := hb9
      unfold f_X7_next_b2 at hf
      refine lv_iload hx hb dX7_next_34 (lv_at hl 6 rfl) ?_
      refine lv_aload_n hx hb dX7_next_36 rfl (lv_at hl 0 rfl) ?_
      refine gt_X7_13 hx hb hts hown hK hP dX7_next_37 ?_
      refine lv_iconst (v := (0 : Int32)) hx hb dX7_next_40 (by decide) ?_
      obtain ⟨v41, h41, hf⟩ := bnd hf
      refine q_iald hx hb hK hP isC186.o isC186.k h41 dX7_next_41 ?_
      refine lv_icmp_ge (tgt := 131) hx hb dX7_next_42 (by decide) (fun hc => ?_) (fun hc => ?_)
      · have hf := ifp hc hf
        obtain rfl := Option.some.inj hf
        exact hE34_131 x5_34 _ _ _ (hX34 _ rfl) hP hS (lv_sub hl [0, 1, 2, 3, 4, 5] rfl)
      · have hf := ifn hc hf
        refine lv_iconst (v := (0 : Int32)) hx hb dX7_next_45 (by decide) ?_
        refine lv_istore (lv' := [(7, .int (0 : Int32)), (0, .ref (w.1 (184))), (1, .int v1), (2, .int x2_13), (3, .int x3_13), (4, .int x4_13), (5, .int x5_34), (6, .int x6_34)]) hx hb dX7_next_46 hl (by decide) rfl (fun ls hl => ?_)
        refine lv_iconst (v := (0 : Int32)) hx hb dX7_next_48 (by decide) ?_
        refine lv_istore (lv' := [(8, .int (0 : Int32)), (7, .int (0 : Int32)), (0, .ref (w.1 (184))), (1, .int v1), (2, .int x2_13), (3, .int x3_13), (4, .int x4_13), (5, .int x5_34), (6, .int x6_34)]) hx hb dX7_next_49 hl (by decide) rfl (fun ls hl => ?_)
        obtain ⟨rr, hlp, hf⟩ := bnd hf
        have hE51_109 : ∀ (y7_109 : Int32) (H : Heap) (locs : List Loc) (ls : Array Slot), f_X7_next_k1 x5_34 x6_34 y7_109 = some oo34 → va_P D vwCl (WL w σ1) H → va_S (AL w) s.heap H locs → lv_has ls 9 [(0, .ref (w.1 (184))), (1, .int v1), (2, .int x2_13), (3, .int x3_13), (4, .int x4_13), (5, .int x5_34), (6, .int x6_34), (7, .int y7_109)] → W p l e (rmW 2 50) s m args below meth c H locs 0 0 (MQ below (qiW D w r σ') args s 0 0 (AL w)) (F0 m 109 ls []) := by
          intro y7_109 H locs ls hf hP hS hl
          unfold f_X7_next_k1 at hf
          refine lv_iload hx hb dX7_next_109 (lv_at hl 7 rfl) ?_
          refine lv_iload hx hb dX7_next_111 (lv_at hl 5 rfl) ?_
          refine lv_icmp_le (tgt := 121) hx hb dX7_next_113 (by decide) (fun hc => ?_) (fun hc => ?_)
          · have hf := ifp hc hf
            refine lv_iload hx hb dX7_next_121 (lv_at hl 5 rfl) ?_
            refine lv_istore (lv' := [(5, .int x5_34), (0, .ref (w.1 (184))), (1, .int v1), (2, .int x2_13), (3, .int x3_13), (4, .int x4_13), (6, .int x6_34), (7, .int y7_109)]) hx hb dX7_next_123 hl (by decide) rfl (fun ls hl => ?_)
            refine lv_iinc (v := (x6_34 + (1 : Int32))) (lv' := [(6, .int (x6_34 + (1 : Int32))), (5, .int x5_34), (0, .ref (w.1 (184))), (1, .int v1), (2, .int x2_13), (3, .int x3_13), (4, .int x4_13), (7, .int y7_109)]) hx hb dX7_next_125 hl (k := 6) rfl ii_1 (by decide) rfl (fun ls hl => ?_)
            refine lv_goto (tgt := 34) hx hb dX7_next_128 (by decide) ?_
            obtain rfl := Option.some.inj hf
            exact hG34 _ rfl _ _ _ hP hS (lv_sub hl [2, 3, 4, 5, 6, 1, 0] rfl)
          · have hf := ifn hc hf
            refine lv_iload hx hb dX7_next_116 (lv_at hl 7 rfl) ?_
            refine lv_goto (tgt := 123) hx hb dX7_next_118 (by decide) ?_
            refine lv_istore (lv' := [(5, .int y7_109), (0, .ref (w.1 (184))), (1, .int v1), (2, .int x2_13), (3, .int x3_13), (4, .int x4_13), (6, .int x6_34), (7, .int y7_109)]) hx hb dX7_next_123 hl (by decide) rfl (fun ls hl => ?_)
            refine lv_iinc (v := (x6_34 + (1 : Int32))) (lv' := [(6, .int (x6_34 + (1 : Int32))), (5, .int y7_109), (0, .ref (w.1 (184))), (1, .int v1), (2, .int x2_13), (3, .int x3_13), (4, .int x4_13), (7, .int y7_109)]) hx hb dX7_next_125 hl (k := 6) rfl ii_1 (by decide) rfl (fun ls hl => ?_)
            refine lv_goto (tgt := 34) hx hb dX7_next_128 (by decide) ?_
            obtain rfl := Option.some.inj hf
            exact hG34 _ rfl _ _ _ hP hS (lv_sub hl [2, 3, 4, 5, 6, 1, 0] rfl)
        refine lp_ind (G := fun (st : (Int32 × Int32)) => ∀ (H : Heap) (locs : List Loc) (ls : Array Slot), va_P D vwCl (WL w σ1) H → va_S (AL w) s.heap H locs → lv_has ls 9 [(0, .ref (w.1 (184))), (1, .int v1), (2, .int x2_13), (3, .int x3_13), (4, .int x4_13), (5, .int x5_34), (6, .int x6_34), (7, .int st.1), (8, .int st.2)] → W p l e (rmW 2 50) s m args below meth c H locs 0 0 (MQ below (qiW D w r σ') args s 0 0 (AL w)) (F0 m 51 ls [])) (X := fun rr => f_X7_next_k1 x5_34 x6_34 rr = some oo34) ?_ _ _ rr hlp hf _ _ _ hP hS (lv_sub hl [2, 3, 4, 5, 6, 7, 8, 1, 0] rfl)
        rintro ⟨x7_51, x8_51⟩ oo51 hb9 hG51 hX51 H locs ls hP hS hl
        have hP : va_P D vwCl (WL w σ1) H := hP
        have hl : lv_has ls 9 [(0, .ref (w.1 (184))), (1, .int v1), (2, .int x2_13), (3, .int x3_13), (4, .int x4_13), (5, .int x5_34), (6, .int x6_34), (7, .int x7_51), (8, .int x8_51)] := hl
        have hf : f_X7_next_b1 v1 σ1 x4_13 x6_34 x7_51 x8_51 = some oo51 := hb9
        unfold f_X7_next_b1 at hf
        refine lv_iload hx hb dX7_next_51 (lv_at hl 8 rfl) ?_
        refine lv_aload_n hx hb dX7_next_53 rfl (lv_at hl 0 rfl) ?_
        refine gt_X7_13 hx hb hts hown hK hP dX7_next_54 ?_
        refine lv_iconst (v := (0 : Int32)) hx hb dX7_next_57 (by decide) ?_
        obtain ⟨v58, h58, hf⟩ := bnd hf
        refine q_iald hx hb hK hP isC186.o isC186.k h58 dX7_next_58 ?_
        refine lv_icmp_ge (tgt := 109) hx hb dX7_next_59 (by decide) (fun hc => ?_) (fun hc => ?_)
        · have hf := ifp hc hf
          obtain rfl := Option.some.inj hf
          exact hE51_109 x7_51 _ _ _ (hX51 _ rfl) hP hS (lv_sub hl [0, 1, 2, 3, 4, 5, 6, 7] rfl)
        · have hf := ifn hc hf
          refine lv_iload hx hb dX7_next_62 (lv_at hl 7 rfl) ?_
          refine lv_iload_n hx hb dX7_next_64 rfl (lv_at hl 1 rfl) ?_
          refine lv_iload hx hb dX7_next_65 (lv_at hl 6 rfl) ?_
          obtain ⟨v67, h67, hf⟩ := bnd hf
          refine q_cSz (As := [.int v1, .int x6_34]) hx hb hts hml hown hK hP hS (c_X7_has l D w σ1 v1 x6_34 v67 h67) hw_X7_174 hd_X7_has ⟨rfl, rfl, rfl⟩ ⟨Nat.le_of_ble_eq_true rfl, Nat.le_of_ble_eq_true rfl⟩ ⟨Nat.le_of_ble_eq_true rfl, Nat.le_of_ble_eq_true rfl⟩ hl.1 rfl (Nat.le_of_ble_eq_true rfl) dX7_next_67 (fun hz67 H locs hP hS => ?_)
          refine lv_if_eq (tgt := 99) hx hb dX7_next_70 (by decide) (fun hc => ?_) (fun hc => ?_)
          · have hf := ifp hc hf
            refine lv_iconst (v := (0 : Int32)) hx hb dX7_next_99 (by decide) ?_
            refine lv_iadd hx hb dX7_next_100 ?_
            refine lv_istore (lv' := [(7, .int (x7_51 + (0 : Int32))), (0, .ref (w.1 (184))), (1, .int v1), (2, .int x2_13), (3, .int x3_13), (4, .int x4_13), (5, .int x5_34), (6, .int x6_34), (8, .int x8_51)]) hx hb dX7_next_101 hl (by decide) rfl (fun ls hl => ?_)
            refine lv_iinc (v := (x8_51 + (1 : Int32))) (lv' := [(8, .int (x8_51 + (1 : Int32))), (7, .int (x7_51 + (0 : Int32))), (0, .ref (w.1 (184))), (1, .int v1), (2, .int x2_13), (3, .int x3_13), (4, .int x4_13), (5, .int x5_34), (6, .int x6_34)]) hx hb dX7_next_103 hl (k := 8) rfl ii_1 (by decide) rfl (fun ls hl => ?_)
            refine lv_goto (tgt := 51) hx hb dX7_next_106 (by decide) ?_
            obtain rfl := Option.some.inj hf
            exact hG51 _ rfl _ _ _ hP hS (lv_sub hl [2, 3, 4, 5, 6, 7, 8, 1, 0] rfl)
          · have hf := ifn hc hf
            refine lv_iload_n hx hb dX7_next_73 rfl (lv_at hl 1 rfl) ?_
            refine lv_iload hx hb dX7_next_74 (lv_at hl 8 rfl) ?_
            obtain ⟨v76, h76, hf⟩ := bnd hf
            refine q_cSz (As := [.int v1, .int x8_51]) hx hb hts hml hown hK hP hS (c_X7_has l D w σ1 v1 x8_51 v76 h76) hw_X7_174 hd_X7_has ⟨rfl, rfl, rfl⟩ ⟨Nat.le_of_ble_eq_true rfl, Nat.le_of_ble_eq_true rfl⟩ ⟨Nat.le_of_ble_eq_true rfl, Nat.le_of_ble_eq_true rfl⟩ hl.1 rfl (Nat.le_of_ble_eq_true rfl) dX7_next_76 (fun hz76 H locs hP hS => ?_)
            refine lv_if_eq (tgt := 99) hx hb dX7_next_79 (by decide) (fun hc => ?_) (fun hc => ?_)
            · have hf := ifp hc hf
              refine lv_iconst (v := (0 : Int32)) hx hb dX7_next_99 (by decide) ?_
              refine lv_iadd hx hb dX7_next_100 ?_
              refine lv_istore (lv' := [(7, .int (x7_51 + (0 : Int32))), (0, .ref (w.1 (184))), (1, .int v1), (2, .int x2_13), (3, .int x3_13), (4, .int x4_13), (5, .int x5_34), (6, .int x6_34), (8, .int x8_51)]) hx hb dX7_next_101 hl (by decide) rfl (fun ls hl => ?_)
              refine lv_iinc (v := (x8_51 + (1 : Int32))) (lv' := [(8, .int (x8_51 + (1 : Int32))), (7, .int (x7_51 + (0 : Int32))), (0, .ref (w.1 (184))), (1, .int v1), (2, .int x2_13), (3, .int x3_13), (4, .int x4_13), (5, .int x5_34), (6, .int x6_34)]) hx hb dX7_next_103 hl (k := 8) rfl ii_1 (by decide) rfl (fun ls hl => ?_)
              refine lv_goto (tgt := 51) hx hb dX7_next_106 (by decide) ?_
              obtain rfl := Option.some.inj hf
              exact hG51 _ rfl _ _ _ hP hS (lv_sub hl [2, 3, 4, 5, 6, 7, 8, 1, 0] rfl)
            · have hf := ifn hc hf
              refine lv_aload_n hx hb dX7_next_82 rfl (lv_at hl 0 rfl) ?_
              refine lv_iload hx hb dX7_next_83 (lv_at hl 6 rfl) ?_
              refine lv_iload hx hb dX7_next_85 (lv_at hl 8 rfl) ?_
              refine lv_iload hx hb dX7_next_87 (lv_at hl 4 rfl) ?_
              obtain ⟨v89, h89, hf⟩ := bnd hf
              refine q_cVz (As := [.int x6_34, .int x8_51, .int x4_13]) hx hb hts hml hown hK hP hS (c_X7_areAlike l D w σ1 x6_34 x8_51 x4_13 v89 h89) hw_X7_238 hd_X7_areAlike ⟨rfl, rfl, rfl⟩ o184 (ce7 kd184) rfl ⟨Nat.le_of_ble_eq_true rfl, Nat.le_of_ble_eq_true rfl⟩ ⟨Nat.le_of_ble_eq_true rfl, Nat.le_of_ble_eq_true rfl⟩ hl.1 rfl (Nat.le_of_ble_eq_true rfl) dX7_next_89 (fun hz89 H locs hP hS => ?_)
              refine lv_if_eq (tgt := 99) hx hb dX7_next_92 (by decide) (fun hc => ?_) (fun hc => ?_)
              · have hf := ifp hc hf
                refine lv_iconst (v := (0 : Int32)) hx hb dX7_next_99 (by decide) ?_
                refine lv_iadd hx hb dX7_next_100 ?_
                refine lv_istore (lv' := [(7, .int (x7_51 + (0 : Int32))), (0, .ref (w.1 (184))), (1, .int v1), (2, .int x2_13), (3, .int x3_13), (4, .int x4_13), (5, .int x5_34), (6, .int x6_34), (8, .int x8_51)]) hx hb dX7_next_101 hl (by decide) rfl (fun ls hl => ?_)
                refine lv_iinc (v := (x8_51 + (1 : Int32))) (lv' := [(8, .int (x8_51 + (1 : Int32))), (7, .int (x7_51 + (0 : Int32))), (0, .ref (w.1 (184))), (1, .int v1), (2, .int x2_13), (3, .int x3_13), (4, .int x4_13), (5, .int x5_34), (6, .int x6_34)]) hx hb dX7_next_103 hl (k := 8) rfl ii_1 (by decide) rfl (fun ls hl => ?_)
                refine lv_goto (tgt := 51) hx hb dX7_next_106 (by decide) ?_
                obtain rfl := Option.some.inj hf
                exact hG51 _ rfl _ _ _ hP hS (lv_sub hl [2, 3, 4, 5, 6, 7, 8, 1, 0] rfl)
              · have hf := ifn hc hf
                refine lv_iconst (v := (1 : Int32)) hx hb dX7_next_95 (by decide) ?_
                refine lv_goto (tgt := 100) hx hb dX7_next_96 (by decide) ?_
                refine lv_iadd hx hb dX7_next_100 ?_
                refine lv_istore (lv' := [(7, .int (x7_51 + (1 : Int32))), (0, .ref (w.1 (184))), (1, .int v1), (2, .int x2_13), (3, .int x3_13), (4, .int x4_13), (5, .int x5_34), (6, .int x6_34), (8, .int x8_51)]) hx hb dX7_next_101 hl (by decide) rfl (fun ls hl => ?_)
                refine lv_iinc (v := (x8_51 + (1 : Int32))) (lv' := [(8, .int (x8_51 + (1 : Int32))), (7, .int (x7_51 + (1 : Int32))), (0, .ref (w.1 (184))), (1, .int v1), (2, .int x2_13), (3, .int x3_13), (4, .int x4_13), (5, .int x5_34), (6, .int x6_34)]) hx hb dX7_next_103 hl (k := 8) rfl ii_1 (by decide) rfl (fun ls hl => ?_)
                refine lv_goto (tgt := 51) hx hb dX7_next_106 (by decide) ?_
                obtain rfl := Option.some.inj hf
                exact hG51 _ rfl _ _ _ hP hS (lv_sub hl [2, 3, 4, 5, 6, 7, 8, 1, 0] rfl)
def f_X7_seen (σ : Sg) (a1 : Int32) (a2 : Int32) (a3 : Int32) : Option (Int32 × Sg) :=
  (f_X7_isPost σ a1).bind fun v2 =>
  if v2 = 0 then
  some ((-1 : Int32), σ)
  else
  (f_X7_isTown σ a2).bind fun v10 =>
  if v10 = 0 then
  some ((-1 : Int32), σ)
  else
  (f_X7_isTown σ a3).bind fun v18 =>
  if ¬ v18 = 0 then
  if ¬ (σ 184 32) = (6 : Int32) then
  (sa σ (204) (ln (204)) (σ 184 32) a1).bind fun σ47 =>
  (sa σ47 (205) (ln (205)) (σ47 184 32) a2).bind fun σ57 =>
  (sa σ57 (206) (ln (206)) (σ57 184 32) a3).bind fun σ67 =>
  (some (sf σ67 (184) 32 ((σ67 184 32) + (1 : Int32)))).bind fun σ75 =>
  some ((σ75 184 32), σ75)
  else
  some ((-3 : Int32), σ)
  else
  some ((-1 : Int32), σ)
set_option maxHeartbeats 4000000 in
set_option maxRecDepth 100000 in
theorem c_X7_seen (l : Launch) (D : va_G) (w : Wv) (σ : Sg) (a1 : Int32) (a2 : Int32) (a3 : Int32) (r : Int32) (σ' : Sg)  (hJ : Inj w) (hf : f_X7_seen σ a1 a2 a3 = some (r, σ')) : Met l yX7_seen (.code yX7_seen cX7_seen 4 (some .int) :: TB) (rmW 2 43) (pcW D w [.ref (w.1 (184)), .int a1, .int a2, .int a3] σ) (qiW D w r σ') 0 0 (AL w) := by
  refine q_open (by decide +kernel) (Nat.le_of_ble_eq_true rfl) ?_
  intro p e s m args below meth c ls hx hb hml hr hlk hown hts hK hP hS hl
  have hown : s.vm.findClass RX7 = some m.cls := hown
  have hl : lv_has ls 4 [(0, .ref (w.1 (184))), (1, .int a1), (2, .int a2), (3, .int a3)] := hl
  unfold f_X7_seen at hf
  refine lv_aload_n hx hb dX7_seen_0 rfl (lv_at hl 0 rfl) ?_
  refine lv_iload_n hx hb dX7_seen_1 rfl (lv_at hl 1 rfl) ?_
  obtain ⟨v2, h2, hf⟩ := bnd hf
  refine q_cVz (As := [.int a1]) hx hb hts hml hown hK hP hS (c_X7_isPost l D w σ a1 v2 h2) hw_X7_209 hd_X7_isPost ⟨rfl, rfl, rfl⟩ o184 (ce7 kd184) rfl ⟨Nat.le_of_ble_eq_true rfl, Nat.le_of_ble_eq_true rfl⟩ ⟨Nat.le_of_ble_eq_true rfl, Nat.le_of_ble_eq_true rfl⟩ hl.1 rfl (Nat.le_of_ble_eq_true rfl) dX7_seen_2 (fun hz2 H locs hP hS => ?_)
  refine lv_if_eq (tgt := 24) hx hb dX7_seen_5 (by decide) (fun hc => ?_) (fun hc => ?_)
  · have hf := ifp hc hf
    refine lv_iconst (v := (-1 : Int32)) hx hb dX7_seen_24 (by decide) ?_
    have hq := Option.some.inj hf
    exact q_iret hx hb hr hlk hP hS (congrArg Prod.fst hq) (congrArg Prod.snd hq) dX7_seen_25
  · have hf := ifn hc hf
    refine lv_aload_n hx hb dX7_seen_8 rfl (lv_at hl 0 rfl) ?_
    refine lv_iload_n hx hb dX7_seen_9 rfl (lv_at hl 2 rfl) ?_
    obtain ⟨v10, h10, hf⟩ := bnd hf
    refine q_cVz (As := [.int a2]) hx hb hts hml hown hK hP hS (c_X7_isTown l D w σ a2 v10 h10) hw_X7_205 hd_X7_isTown ⟨rfl, rfl, rfl⟩ o184 (ce7 kd184) rfl ⟨Nat.le_of_ble_eq_true rfl, Nat.le_of_ble_eq_true rfl⟩ ⟨Nat.le_of_ble_eq_true rfl, Nat.le_of_ble_eq_true rfl⟩ hl.1 rfl (Nat.le_of_ble_eq_true rfl) dX7_seen_10 (fun hz10 H locs hP hS => ?_)
    refine lv_if_eq (tgt := 24) hx hb dX7_seen_13 (by decide) (fun hc => ?_) (fun hc => ?_)
    · have hf := ifp hc hf
      refine lv_iconst (v := (-1 : Int32)) hx hb dX7_seen_24 (by decide) ?_
      have hq := Option.some.inj hf
      exact q_iret hx hb hr hlk hP hS (congrArg Prod.fst hq) (congrArg Prod.snd hq) dX7_seen_25
    · have hf := ifn hc hf
      refine lv_aload_n hx hb dX7_seen_16 rfl (lv_at hl 0 rfl) ?_
      refine lv_iload_n hx hb dX7_seen_17 rfl (lv_at hl 3 rfl) ?_
      obtain ⟨v18, h18, hf⟩ := bnd hf
      refine q_cVz (As := [.int a3]) hx hb hts hml hown hK hP hS (c_X7_isTown l D w σ a3 v18 h18) hw_X7_205 hd_X7_isTown ⟨rfl, rfl, rfl⟩ o184 (ce7 kd184) rfl ⟨Nat.le_of_ble_eq_true rfl, Nat.le_of_ble_eq_true rfl⟩ ⟨Nat.le_of_ble_eq_true rfl, Nat.le_of_ble_eq_true rfl⟩ hl.1 rfl (Nat.le_of_ble_eq_true rfl) dX7_seen_18 (fun hz18 H locs hP hS => ?_)
      refine lv_if_ne (tgt := 26) hx hb dX7_seen_21 (by decide) (fun hc => ?_) (fun hc => ?_)
      · have hf := ifp hc hf
        refine lv_aload_n hx hb dX7_seen_26 rfl (lv_at hl 0 rfl) ?_
        refine gt_X7_163 hx hb hts hown hK hP dX7_seen_27 ?_
        refine lv_bipush (v := (6 : Int32)) hx hb dX7_seen_30 (by decide) ?_
        refine lv_icmp_ne (tgt := 38) hx hb dX7_seen_32 (by decide) (fun hc => ?_) (fun hc => ?_)
        · have hf := ifp hc hf
          refine lv_aload_n hx hb dX7_seen_38 rfl (lv_at hl 0 rfl) ?_
          refine gt_X7_68 hx hb hts hown hK hP dX7_seen_39 ?_
          refine lv_aload_n hx hb dX7_seen_42 rfl (lv_at hl 0 rfl) ?_
          refine gt_X7_163 hx hb hts hown hK hP dX7_seen_43 ?_
          refine lv_iload_n hx hb dX7_seen_46 rfl (lv_at hl 1 rfl) ?_
          obtain ⟨σ47, h47, hf⟩ := bnd hf
          refine q_iast hx hb hK hP hJ hS isC204.o isC204.k h47 dX7_seen_47 (fun H locs hP hS => ?_)
          refine lv_aload_n hx hb dX7_seen_48 rfl (lv_at hl 0 rfl) ?_
          refine gt_X7_71 hx hb hts hown hK hP dX7_seen_49 ?_
          refine lv_aload_n hx hb dX7_seen_52 rfl (lv_at hl 0 rfl) ?_
          refine gt_X7_163 hx hb hts hown hK hP dX7_seen_53 ?_
          refine lv_iload_n hx hb dX7_seen_56 rfl (lv_at hl 2 rfl) ?_
          obtain ⟨σ57, h57, hf⟩ := bnd hf
          refine q_iast hx hb hK hP hJ hS isC205.o isC205.k h57 dX7_seen_57 (fun H locs hP hS => ?_)
          refine lv_aload_n hx hb dX7_seen_58 rfl (lv_at hl 0 rfl) ?_
          refine gt_X7_74 hx hb hts hown hK hP dX7_seen_59 ?_
          refine lv_aload_n hx hb dX7_seen_62 rfl (lv_at hl 0 rfl) ?_
          refine gt_X7_163 hx hb hts hown hK hP dX7_seen_63 ?_
          refine lv_iload_n hx hb dX7_seen_66 rfl (lv_at hl 3 rfl) ?_
          obtain ⟨σ67, h67, hf⟩ := bnd hf
          refine q_iast hx hb hK hP hJ hS isC206.o isC206.k h67 dX7_seen_67 (fun H locs hP hS => ?_)
          refine lv_aload_n hx hb dX7_seen_68 rfl (lv_at hl 0 rfl) ?_
          refine lv_dup hx hb dX7_seen_69 rfl ?_
          refine gt_X7_163 hx hb hts hown hK hP dX7_seen_70 ?_
          refine lv_iconst (v := (1 : Int32)) hx hb dX7_seen_73 (by decide) ?_
          refine lv_iadd hx hb dX7_seen_74 ?_
          obtain ⟨σ75, h75, hf⟩ := bnd hf
          refine pt_X7_163 hx hb hts hown hK hP hJ hS h75 dX7_seen_75 (fun H locs hP hS => ?_)
          refine lv_aload_n hx hb dX7_seen_78 rfl (lv_at hl 0 rfl) ?_
          refine gt_X7_163 hx hb hts hown hK hP dX7_seen_79 ?_
          have hq := Option.some.inj hf
          exact q_iret hx hb hr hlk hP hS (congrArg Prod.fst hq) (congrArg Prod.snd hq) dX7_seen_82
        · have hf := ifn (fun h => h hc) hf
          refine lv_bipush (v := (-3 : Int32)) hx hb dX7_seen_35 (by decide) ?_
          have hq := Option.some.inj hf
          exact q_iret hx hb hr hlk hP hS (congrArg Prod.fst hq) (congrArg Prod.snd hq) dX7_seen_37
      · have hf := ifn (fun h => h hc) hf
        refine lv_iconst (v := (-1 : Int32)) hx hb dX7_seen_24 (by decide) ?_
        have hq := Option.some.inj hf
        exact q_iret hx hb hr hlk hP hS (congrArg Prod.fst hq) (congrArg Prod.snd hq) dX7_seen_25
def f_X7_kinds_b1 (σ : Sg) (a1 : Int32) (x3_14 : Int32) (x4_25 : Int32) (x5_25 : Int32) : Option ((Int32 × Int32) ⊕ Int32) :=
  if (σ 184 32) ≤ x5_25 then
  some (.inr x4_25)
  else
  if x4_25 = 0 then
  some (.inl ((0 : Int32), (x5_25 + (1 : Int32))))
  else
  (ga (σ (204)) (ln (204)) x5_25).bind fun v45 =>
  if ¬ v45 = a1 then
  some (.inl ((1 : Int32), (x5_25 + (1 : Int32))))
  else
  (ga (σ (205)) (ln (205)) x5_25).bind fun v63 =>
  (f_X7_points σ (195) a1 x3_14 v63).bind fun v64 =>
  (ga (σ (206)) (ln (206)) x5_25).bind fun v73 =>
  if ¬ v64 = v73 then
  some (.inl ((0 : Int32), (x5_25 + (1 : Int32))))
  else
  some (.inl ((1 : Int32), (x5_25 + (1 : Int32))))
def f_X7_kinds_k1 (x2_14 : Int32) (x3_14 : Int32) (y4_90 : Int32) : Option ((Int32 × Int32) ⊕ Int32) :=
  if y4_90 = 0 then
  some (.inl ((x2_14 ||| (0 : Int32)), (x3_14 + (1 : Int32))))
  else
  some (.inl ((x2_14 ||| ((1 : Int32) <<< (x3_14 &&& 31))), (x3_14 + (1 : Int32))))
def f_X7_kinds_b2 (σ : Sg) (a1 : Int32) (x2_14 : Int32) (x3_14 : Int32) : Option ((Int32 × Int32) ⊕ Int32) :=
  if (3 : Int32) < x3_14 then
  some (.inr x2_14)
  else
  (lp (fun st => f_X7_kinds_b1 σ a1 x3_14 st.1 st.2) FU ((1 : Int32), (0 : Int32))).bind fun rr => f_X7_kinds_k1 x2_14 x3_14 rr
def f_X7_kinds_k2 (y2_111 : Int32) : Option Int32 :=
  some y2_111
def f_X7_kinds (σ : Sg) (a1 : Int32) : Option Int32 :=
  (f_X7_isPost σ a1).bind fun v2 =>
  if ¬ v2 = 0 then
  (lp (fun st => f_X7_kinds_b2 σ a1 st.1 st.2) FU ((0 : Int32), (0 : Int32))).bind fun rr => f_X7_kinds_k2 rr
  else
  some (-1 : Int32)
set_option maxHeartbeats 4000000 in
set_option maxRecDepth 100000 in
theorem c_X7_kinds (l : Launch) (D : va_G) (w : Wv) (σ : Sg) (a1 : Int32) (r : Int32)  (hf : f_X7_kinds σ a1 = some r) : Met l yX7_kinds (.code yX7_kinds cX7_kinds 6 (some .int) :: TB) (rmW 2 53) (pcW D w [.ref (w.1 (184)), .int a1] σ) (qiW D w r σ) 0 0 (AL w) := by
  refine q_open (by decide +kernel) (Nat.le_of_ble_eq_true rfl) ?_
  intro p e s m args below meth c ls hx hb hml hr hlk hown hts hK hP hS hl
  have hown : s.vm.findClass RX7 = some m.cls := hown
  have hl : lv_has ls 6 [(0, .ref (w.1 (184))), (1, .int a1)] := hl
  unfold f_X7_kinds at hf
  refine lv_aload_n hx hb dX7_kinds_0 rfl (lv_at hl 0 rfl) ?_
  refine lv_iload_n hx hb dX7_kinds_1 rfl (lv_at hl 1 rfl) ?_
  obtain ⟨v2, h2, hf⟩ := bnd hf
  refine q_cVz (As := [.int a1]) hx hb hts hml hown hK hP hS (c_X7_isPost l D w σ a1 v2 h2) hw_X7_209 hd_X7_isPost ⟨rfl, rfl, rfl⟩ o184 (ce7 kd184) rfl ⟨Nat.le_of_ble_eq_true rfl, Nat.le_of_ble_eq_true rfl⟩ ⟨Nat.le_of_ble_eq_true rfl, Nat.le_of_ble_eq_true rfl⟩ hl.1 rfl (Nat.le_of_ble_eq_true rfl) dX7_kinds_2 (fun hz2 H locs hP hS => ?_)
  refine lv_if_ne (tgt := 10) hx hb dX7_kinds_5 (by decide) (fun hc => ?_) (fun hc => ?_)
  · have hf := ifp hc hf
    refine lv_iconst (v := (0 : Int32)) hx hb dX7_kinds_10 (by decide) ?_
    refine lv_istore_n (lv' := [(2, .int (0 : Int32)), (0, .ref (w.1 (184))), (1, .int a1)]) hx hb dX7_kinds_11 rfl hl (by decide) rfl (fun ls hl => ?_)
    refine lv_iconst (v := (0 : Int32)) hx hb dX7_kinds_12 (by decide) ?_
    refine lv_istore_n (lv' := [(3, .int (0 : Int32)), (2, .int (0 : Int32)), (0, .ref (w.1 (184))), (1, .int a1)]) hx hb dX7_kinds_13 rfl hl (by decide) rfl (fun ls hl => ?_)
    obtain ⟨rr, hlp, hf⟩ := bnd hf
    have hE14_111 : ∀ (y2_111 : Int32) (H : Heap) (locs : List Loc) (ls : Array Slot), f_X7_kinds_k2 y2_111 = some r → va_P D vwCl (WL w σ) H → va_S (AL w) s.heap H locs → lv_has ls 6 [(2, .int y2_111)] → W p l e (rmW 2 53) s m args below meth c H locs 0 0 (MQ below (qiW D w r σ) args s 0 0 (AL w)) (F0 m 111 ls []) := by
      intro y2_111 H locs ls hf hP hS hl
      unfold f_X7_kinds_k2 at hf
      refine lv_iload_n hx hb dX7_kinds_111 rfl (lv_at hl 0 rfl) ?_
      have hq := Option.some.inj hf
      exact q_iret hx hb hr hlk hP hS hq rfl dX7_kinds_112
    refine lp_ind (G := fun (st : (Int32 × Int32)) => ∀ (H : Heap) (locs : List Loc) (ls : Array Slot), va_P D vwCl (WL w σ) H → va_S (AL w) s.heap H locs → lv_has ls 6 [(0, .ref (w.1 (184))), (1, .int a1), (2, .int st.1), (3, .int st.2)] → W p l e (rmW 2 53) s m args below meth c H locs 0 0 (MQ below (qiW D w r σ) args s 0 0 (AL w)) (F0 m 14 ls [])) (X := fun rr => f_X7_kinds_k2 rr = some r) ?_ _ _ rr hlp hf _ _ _ hP hS (lv_sub hl [2, 3, 1, 0] rfl)
    rintro ⟨x2_14, x3_14⟩ oo14 hb9 hG14 hX14 H locs ls hP hS hl
    have hP : va_P D vwCl (WL w σ) H := hP
    have hl : lv_has ls 6 [(0, .ref (w.1 (184))), (1, .int a1), (2, .int x2_14), (3, .int x3_14)] := hl
    have hf : f_X7_kinds_b2 σ a1 x2_14 x3_14 = some oo14 := hb9
    unfold f_X7_kinds_b2 at hf
    refine lv_iload_n hx hb dX7_kinds_14 rfl (lv_at hl 3 rfl) ?_
    refine lv_iconst (v := (3 : Int32)) hx hb dX7_kinds_15 (by decide) ?_
    refine lv_icmp_gt (tgt := 111) hx hb dX7_kinds_16 (by decide) (fun hc => ?_) (fun hc => ?_)
    · have hf := ifp hc hf
      obtain rfl := Option.some.inj hf
      exact hE14_111 x2_14 _ _ _ (hX14 _ rfl) hP hS (lv_sub hl [2] rfl)
    · have hf := ifn hc hf
      refine lv_iconst (v := (1 : Int32)) hx hb dX7_kinds_19 (by decide) ?_
      refine lv_istore (lv' := [(4, .int (1 : Int32)), (0, .ref (w.1 (184))), (1, .int a1), (2, .int x2_14), (3, .int x3_14)]) hx hb dX7_kinds_20 hl (by decide) rfl (fun ls hl => ?_)
      refine lv_iconst (v := (0 : Int32)) hx hb dX7_kinds_22 (by decide) ?_
      refine lv_istore (lv' := [(5, .int (0 : Int32)), (4, .int (1 : Int32)), (0, .ref (w.1 (184))), (1, .int a1), (2, .int x2_14), (3, .int x3_14)]) hx hb dX7_kinds_23 hl (by decide) rfl (fun ls hl => ?_)
      obtain ⟨rr, hlp, hf⟩ := bnd hf
      have hE25_90 : ∀ (y4_90 : Int32) (H : Heap) (locs : List Loc) (ls : Array Slot), f_X7_kinds_k1 x2_14 x3_14 y4_90 = some oo14 → va_P D vwCl (WL w σ) H → va_S (AL w) s.heap H locs → lv_has ls 6 [(0, .ref (w.1 (184))), (1, .int a1), (2, .int x2_14), (3, .int x3_14), (4, .int y4_90)] → W p l e (rmW 2 53) s m args below meth c H locs 0 0 (MQ below (qiW D w r σ) args s 0 0 (AL w)) (F0 m 90 ls []) := by
        intro y4_90 H locs ls hf hP hS hl
        unfold f_X7_kinds_k1 at hf
        refine lv_iload_n hx hb dX7_kinds_90 rfl (lv_at hl 2 rfl) ?_
        refine lv_iload hx hb dX7_kinds_91 (lv_at hl 4 rfl) ?_
        refine lv_if_eq (tgt := 102) hx hb dX7_kinds_93 (by decide) (fun hc => ?_) (fun hc => ?_)
        · have hf := ifp hc hf
          refine lv_iconst (v := (0 : Int32)) hx hb dX7_kinds_102 (by decide) ?_
          refine lv_ior hx hb dX7_kinds_103 ?_
          refine lv_istore_n (lv' := [(2, .int (x2_14 ||| (0 : Int32))), (0, .ref (w.1 (184))), (1, .int a1), (3, .int x3_14), (4, .int y4_90)]) hx hb dX7_kinds_104 rfl hl (by decide) rfl (fun ls hl => ?_)
          refine lv_iinc (v := (x3_14 + (1 : Int32))) (lv' := [(3, .int (x3_14 + (1 : Int32))), (2, .int (x2_14 ||| (0 : Int32))), (0, .ref (w.1 (184))), (1, .int a1), (4, .int y4_90)]) hx hb dX7_kinds_105 hl (k := 3) rfl ii_1 (by decide) rfl (fun ls hl => ?_)
          refine lv_goto (tgt := 14) hx hb dX7_kinds_108 (by decide) ?_
          obtain rfl := Option.some.inj hf
          exact hG14 _ rfl _ _ _ hP hS (lv_sub hl [2, 3, 1, 0] rfl)
        · have hf := ifn hc hf
          refine lv_iconst (v := (1 : Int32)) hx hb dX7_kinds_96 (by decide) ?_
          refine lv_iload_n hx hb dX7_kinds_97 rfl (lv_at hl 3 rfl) ?_
          refine lv_ishl hx hb dX7_kinds_98 ?_
          refine lv_goto (tgt := 103) hx hb dX7_kinds_99 (by decide) ?_
          refine lv_ior hx hb dX7_kinds_103 ?_
          refine lv_istore_n (lv' := [(2, .int (x2_14 ||| ((1 : Int32) <<< (x3_14 &&& 31)))), (0, .ref (w.1 (184))), (1, .int a1), (3, .int x3_14), (4, .int y4_90)]) hx hb dX7_kinds_104 rfl hl (by decide) rfl (fun ls hl => ?_)
          refine lv_iinc (v := (x3_14 + (1 : Int32))) (lv' := [(3, .int (x3_14 + (1 : Int32))), (2, .int (x2_14 ||| ((1 : Int32) <<< (x3_14 &&& 31)))), (0, .ref (w.1 (184))), (1, .int a1), (4, .int y4_90)]) hx hb dX7_kinds_105 hl (k := 3) rfl ii_1 (by decide) rfl (fun ls hl => ?_)
          refine lv_goto (tgt := 14) hx hb dX7_kinds_108 (by decide) ?_
          obtain rfl := Option.some.inj hf
          exact hG14 _ rfl _ _ _ hP hS (lv_sub hl [2, 3, 1, 0] rfl)
      refine lp_ind (G := fun (st : (Int32 × Int32)) => ∀ (H : Heap) (locs : List Loc) (ls : Array Slot), va_P D vwCl (WL w σ) H → va_S (AL w) s.heap H locs → lv_has ls 6 [(0, .ref (w.1 (184))), (1, .int a1), (2, .int x2_14), (3, .int x3_14), (4, .int st.1), (5, .int st.2)] → W p l e (rmW 2 53) s m args below meth c H locs 0 0 (MQ below (qiW D w r σ) args s 0 0 (AL w)) (F0 m 25 ls [])) (X := fun rr => f_X7_kinds_k1 x2_14 x3_14 rr = some oo14) ?_ _ _ rr hlp hf _ _ _ hP hS (lv_sub hl [2, 3, 4, 5, 1, 0] rfl)
      rintro ⟨x4_25, x5_25⟩ oo25 hb9 hG25 hX25 H locs ls hP hS hl
      have hP : va_P D vwCl (WL w σ) H := hP
      have hl : lv_has ls 6 [(0, .ref (w.1 (184))), (1, .int a1), (2, .int x2_14), (3, .int x3_14), (4, .int x4_25), (5, .int x5_25)] := hl
      have hf : f_X7_kinds_b1 σ a1 x3_14 x4_25 x5_25 = some oo25 := hb9
      unfold f_X7_kinds_b1 at hf
      refine lv_iload hx hb dX7_kinds_25 (lv_at hl 5 rfl) ?_
      refine lv_aload_n hx hb dX7_kinds_27 rfl (lv_at hl 0 rfl) ?_
      refine gt_X7_163 hx hb hts hown hK hP dX7_kinds_28 ?_
      refine lv_icmp_ge (tgt := 90) hx hb dX7_kinds_31 (by decide) (fun hc => ?_) (fun hc => ?_)
      · have hf := ifp hc hf
        obtain rfl := Option.some.inj hf
        exact hE25_90 x4_25 _ _ _ (hX25 _ rfl) hP hS (lv_sub hl [0, 1, 2, 3, 4] rfl)
      · have hf := ifn hc hf
        refine lv_iload hx hb dX7_kinds_34 (lv_at hl 4 rfl) ?_
        refine lv_if_eq (tgt := 81) hx hb dX7_kinds_36 (by decide) (fun hc => ?_) (fun hc => ?_)
        · have hf := ifp hc hf
          refine lv_iconst (v := (0 : Int32)) hx hb dX7_kinds_81 (by decide) ?_
          refine lv_istore (lv' := [(4, .int (0 : Int32)), (0, .ref (w.1 (184))), (1, .int a1), (2, .int x2_14), (3, .int x3_14), (5, .int x5_25)]) hx hb dX7_kinds_82 hl (by decide) rfl (fun ls hl => ?_)
          refine lv_iinc (v := (x5_25 + (1 : Int32))) (lv' := [(5, .int (x5_25 + (1 : Int32))), (4, .int (0 : Int32)), (0, .ref (w.1 (184))), (1, .int a1), (2, .int x2_14), (3, .int x3_14)]) hx hb dX7_kinds_84 hl (k := 5) rfl ii_1 (by decide) rfl (fun ls hl => ?_)
          refine lv_goto (tgt := 25) hx hb dX7_kinds_87 (by decide) ?_
          obtain rfl := Option.some.inj hf
          exact hG25 _ rfl _ _ _ hP hS (lv_sub hl [2, 3, 4, 5, 1, 0] rfl)
        · have hf := ifn hc hf
          refine lv_aload_n hx hb dX7_kinds_39 rfl (lv_at hl 0 rfl) ?_
          refine gt_X7_68 hx hb hts hown hK hP dX7_kinds_40 ?_
          refine lv_iload hx hb dX7_kinds_43 (lv_at hl 5 rfl) ?_
          obtain ⟨v45, h45, hf⟩ := bnd hf
          refine q_iald hx hb hK hP isC204.o isC204.k h45 dX7_kinds_45 ?_
          refine lv_iload_n hx hb dX7_kinds_46 rfl (lv_at hl 1 rfl) ?_
          refine lv_icmp_ne (tgt := 77) hx hb dX7_kinds_47 (by decide) (fun hc => ?_) (fun hc => ?_)
          · have hf := ifp hc hf
            refine lv_iconst (v := (1 : Int32)) hx hb dX7_kinds_77 (by decide) ?_
            refine lv_goto (tgt := 82) hx hb dX7_kinds_78 (by decide) ?_
            refine lv_istore (lv' := [(4, .int (1 : Int32)), (0, .ref (w.1 (184))), (1, .int a1), (2, .int x2_14), (3, .int x3_14), (5, .int x5_25)]) hx hb dX7_kinds_82 hl (by decide) rfl (fun ls hl => ?_)
            refine lv_iinc (v := (x5_25 + (1 : Int32))) (lv' := [(5, .int (x5_25 + (1 : Int32))), (4, .int (1 : Int32)), (0, .ref (w.1 (184))), (1, .int a1), (2, .int x2_14), (3, .int x3_14)]) hx hb dX7_kinds_84 hl (k := 5) rfl ii_1 (by decide) rfl (fun ls hl => ?_)
            refine lv_goto (tgt := 25) hx hb dX7_kinds_87 (by decide) ?_
            obtain rfl := Option.some.inj hf
            exact hG25 _ rfl _ _ _ hP hS (lv_sub hl [2, 3, 4, 5, 1, 0] rfl)
          · have hf := ifn (fun h => h hc) hf
            refine lv_aload_n hx hb dX7_kinds_50 rfl (lv_at hl 0 rfl) ?_
            refine lv_aload_n hx hb dX7_kinds_51 rfl (lv_at hl 0 rfl) ?_
            refine gt_X7_41 hx hb hts hown hK hP dX7_kinds_52 ?_
            refine lv_iload_n hx hb dX7_kinds_55 rfl (lv_at hl 1 rfl) ?_
            refine lv_iload_n hx hb dX7_kinds_56 rfl (lv_at hl 3 rfl) ?_
            refine lv_aload_n hx hb dX7_kinds_57 rfl (lv_at hl 0 rfl) ?_
            refine gt_X7_71 hx hb hts hown hK hP dX7_kinds_58 ?_
            refine lv_iload hx hb dX7_kinds_61 (lv_at hl 5 rfl) ?_
            obtain ⟨v63, h63, hf⟩ := bnd hf
            refine q_iald hx hb hK hP isC205.o isC205.k h63 dX7_kinds_63 ?_
            obtain ⟨v64, h64, hf⟩ := bnd hf
            refine q_cVi (As := [.ref (w.1 (195)), .int a1, .int x3_14, .int v63]) hx hb hts hml hown hK hP hS (c_X7_points l D w σ (195) a1 x3_14 v63 v64 isC195 h64) hw_X7_188 hd_X7_points ⟨rfl, rfl, rfl⟩ o184 (ce7 kd184) rfl ⟨Nat.le_of_ble_eq_true rfl, Nat.le_of_ble_eq_true rfl⟩ ⟨Nat.le_of_ble_eq_true rfl, Nat.le_of_ble_eq_true rfl⟩ hl.1 rfl (Nat.le_of_ble_eq_true rfl) dX7_kinds_64 (fun H locs hP hS => ?_)
            refine lv_aload_n hx hb dX7_kinds_67 rfl (lv_at hl 0 rfl) ?_
            refine gt_X7_74 hx hb hts hown hK hP dX7_kinds_68 ?_
            refine lv_iload hx hb dX7_kinds_71 (lv_at hl 5 rfl) ?_
            obtain ⟨v73, h73, hf⟩ := bnd hf
            refine q_iald hx hb hK hP isC206.o isC206.k h73 dX7_kinds_73 ?_
            refine lv_icmp_ne (tgt := 81) hx hb dX7_kinds_74 (by decide) (fun hc => ?_) (fun hc => ?_)
            · have hf := ifp hc hf
              refine lv_iconst (v := (0 : Int32)) hx hb dX7_kinds_81 (by decide) ?_
              refine lv_istore (lv' := [(4, .int (0 : Int32)), (0, .ref (w.1 (184))), (1, .int a1), (2, .int x2_14), (3, .int x3_14), (5, .int x5_25)]) hx hb dX7_kinds_82 hl (by decide) rfl (fun ls hl => ?_)
              refine lv_iinc (v := (x5_25 + (1 : Int32))) (lv' := [(5, .int (x5_25 + (1 : Int32))), (4, .int (0 : Int32)), (0, .ref (w.1 (184))), (1, .int a1), (2, .int x2_14), (3, .int x3_14)]) hx hb dX7_kinds_84 hl (k := 5) rfl ii_1 (by decide) rfl (fun ls hl => ?_)
              refine lv_goto (tgt := 25) hx hb dX7_kinds_87 (by decide) ?_
              obtain rfl := Option.some.inj hf
              exact hG25 _ rfl _ _ _ hP hS (lv_sub hl [2, 3, 4, 5, 1, 0] rfl)
            · have hf := ifn (fun h => h hc) hf
              refine lv_iconst (v := (1 : Int32)) hx hb dX7_kinds_77 (by decide) ?_
              refine lv_goto (tgt := 82) hx hb dX7_kinds_78 (by decide) ?_
              refine lv_istore (lv' := [(4, .int (1 : Int32)), (0, .ref (w.1 (184))), (1, .int a1), (2, .int x2_14), (3, .int x3_14), (5, .int x5_25)]) hx hb dX7_kinds_82 hl (by decide) rfl (fun ls hl => ?_)
              refine lv_iinc (v := (x5_25 + (1 : Int32))) (lv' := [(5, .int (x5_25 + (1 : Int32))), (4, .int (1 : Int32)), (0, .ref (w.1 (184))), (1, .int a1), (2, .int x2_14), (3, .int x3_14)]) hx hb dX7_kinds_84 hl (k := 5) rfl ii_1 (by decide) rfl (fun ls hl => ?_)
              refine lv_goto (tgt := 25) hx hb dX7_kinds_87 (by decide) ?_
              obtain rfl := Option.some.inj hf
              exact hG25 _ rfl _ _ _ hP hS (lv_sub hl [2, 3, 4, 5, 1, 0] rfl)
  · have hf := ifn (fun h => h hc) hf
    refine lv_iconst (v := (-1 : Int32)) hx hb dX7_kinds_8 (by decide) ?_
    have hq := Option.some.inj hf
    exact q_iret hx hb hr hlk hP hS hq rfl dX7_kinds_9
def f_X7_forget (σ : Sg)  : Option (Int32 × Sg) :=
  (some (sf σ (184) 28 (0 : Int32))).bind fun σ12 =>
  (some (sf σ12 (184) 32 (0 : Int32))).bind fun σ17 =>
  some (((σ 184 28) + (σ 184 32)), σ17)
set_option maxHeartbeats 4000000 in
set_option maxRecDepth 100000 in
theorem c_X7_forget (l : Launch) (D : va_G) (w : Wv) (σ : Sg)  (r : Int32) (σ' : Sg)  (hJ : Inj w) (hf : f_X7_forget σ = some (r, σ')) : Met l yX7_forget (.code yX7_forget cX7_forget 2 (some .int) :: TB) (rmW 0 0) (pcW D w [.ref (w.1 (184))] σ) (qiW D w r σ') 0 0 (AL w) := by
  refine q_open (by decide +kernel) (Nat.le_of_ble_eq_true rfl) ?_
  intro p e s m args below meth c ls hx hb hml hr hlk hown hts hK hP hS hl
  have hown : s.vm.findClass RX7 = some m.cls := hown
  have hl : lv_has ls 2 [(0, .ref (w.1 (184)))] := hl
  unfold f_X7_forget at hf
  refine lv_aload_n hx hb dX7_forget_0 rfl (lv_at hl 0 rfl) ?_
  refine gt_X7_160 hx hb hts hown hK hP dX7_forget_1 ?_
  refine lv_aload_n hx hb dX7_forget_4 rfl (lv_at hl 0 rfl) ?_
  refine gt_X7_163 hx hb hts hown hK hP dX7_forget_5 ?_
  refine lv_iadd hx hb dX7_forget_8 ?_
  refine lv_istore_n (lv' := [(1, .int ((σ 184 28) + (σ 184 32))), (0, .ref (w.1 (184)))]) hx hb dX7_forget_9 rfl hl (by decide) rfl (fun ls hl => ?_)
  refine lv_aload_n hx hb dX7_forget_10 rfl (lv_at hl 1 rfl) ?_
  refine lv_iconst (v := (0 : Int32)) hx hb dX7_forget_11 (by decide) ?_
  obtain ⟨σ12, h12, hf⟩ := bnd hf
  refine pt_X7_160 hx hb hts hown hK hP hJ hS h12 dX7_forget_12 (fun H locs hP hS => ?_)
  refine lv_aload_n hx hb dX7_forget_15 rfl (lv_at hl 1 rfl) ?_
  refine lv_iconst (v := (0 : Int32)) hx hb dX7_forget_16 (by decide) ?_
  obtain ⟨σ17, h17, hf⟩ := bnd hf
  refine pt_X7_163 hx hb hts hown hK hP hJ hS h17 dX7_forget_17 (fun H locs hP hS => ?_)
  refine lv_iload_n hx hb dX7_forget_20 rfl (lv_at hl 0 rfl) ?_
  have hq := Option.some.inj hf
  exact q_iret hx hb hr hlk hP hS (congrArg Prod.fst hq) (congrArg Prod.snd hq) dX7_forget_21
def f_X7_likely_b1 (a2 : Int32) (x6_38 : Int32) (σ_38 : Sg) (x7_57 : Int32) (x8_57 : Int32) : Option ((Int32 × Int32) ⊕ Int32) :=
  (ga (σ_38 (187)) (ln (187)) (0 : Int32)).bind fun v64 =>
  if v64 ≤ x8_57 then
  some (.inr x7_57)
  else
  (ga (σ_38 (195)) (ln (195)) ((71 : Int32) + x8_57)).bind fun v79 =>
  if ¬ v79 = (-4 : Int32) then
  (f_X7_has σ_38 x6_38 x8_57).bind fun v107 =>
  if v107 = 0 then
  some (.inl ((x7_57 * ((10 : Int32) - a2)), (x8_57 + (1 : Int32))))
  else
  some (.inl ((x7_57 * a2), (x8_57 + (1 : Int32))))
  else
  (f_X7_has σ_38 x6_38 x8_57).bind fun v89 =>
  if v89 = 0 then
  some (.inl ((x7_57 * (1 : Int32)), (x8_57 + (1 : Int32))))
  else
  some (.inl ((x7_57 * (0 : Int32)), (x8_57 + (1 : Int32))))
def f_X7_likely_k1 (a1 : Int32) (x4_38 : Int32) (x6_38 : Int32) (σ_38 : Sg) (y7_130 : Int32) : Option ((Int32 × Int32 × Sg) ⊕ (Int32 × Sg)) :=
  if y7_130 ≤ 0 then
  some (.inl (x4_38, (x6_38 + (1 : Int32)), σ_38))
  else
  (some (sf σ_38 (184) 21 x6_38)).bind fun σ138 =>
  (f_X7_comes σ138 a1).bind fun q145 =>
  if ¬ q145.1 = (-4 : Int32) then
  (some (sf q145.2 (184) 21 (0 : Int32))).bind fun σ164 =>
  some (.inl ((x4_38 + y7_130), (x6_38 + (1 : Int32)), σ164))
  else
  (some (sf q145.2 (184) 21 (0 : Int32))).bind fun σ164 =>
  some (.inl ((x4_38 + (0 : Int32)), (x6_38 + (1 : Int32)), σ164))
def f_X7_likely_b2 (a1 : Int32) (a2 : Int32) (x4_38 : Int32) (x6_38 : Int32) (σ_38 : Sg) : Option ((Int32 × Int32 × Sg) ⊕ (Int32 × Sg)) :=
  (ga (σ_38 (187)) (ln (187)) (0 : Int32)).bind fun v46 =>
  if ((1 : Int32) <<< (v46 &&& 31)) ≤ x6_38 then
  some (.inr (x4_38, σ_38))
  else
  (lp (fun st => f_X7_likely_b1 a2 x6_38 σ_38 st.1 st.2) FU ((1 : Int32), (0 : Int32))).bind fun rr => f_X7_likely_k1 a1 x4_38 x6_38 σ_38 rr
def f_X7_likely_b3 (σ_173 : Sg) (x5_176 : Int32) (x6_176 : Int32) : Option ((Int32 × Int32) ⊕ Int32) :=
  (ga (σ_173 (187)) (ln (187)) (0 : Int32)).bind fun v183 =>
  if v183 ≤ x6_176 then
  some (.inr x5_176)
  else
  (ga (σ_173 (195)) (ln (195)) ((71 : Int32) + x6_176)).bind fun v198 =>
  if ¬ v198 = (-4 : Int32) then
  some (.inl ((x5_176 * (10 : Int32)), (x6_176 + (1 : Int32))))
  else
  some (.inl ((x5_176 * (1 : Int32)), (x6_176 + (1 : Int32))))
def f_X7_likely_b4 (x6_227 : Int32) (x7_227 : Int32) : Option ((Int32 × Int32) ⊕ Int32) :=
  if x7_227 = 0 then
  some (.inr x6_227)
  else
  (re x6_227 x7_227).bind fun v236 =>
  some (.inl (x7_227, v236))
def f_X7_likely_k2 (a3 : Int32) (y4_173 : Int32) (σ_173 : Sg) (y5_219 : Int32) (y6_250 : Int32) : Option (Int32 × Sg) :=
  if ¬ a3 = 0 then
  (di y5_219 y6_250).bind fun v266 =>
  some (v266, σ_173)
  else
  (di y4_173 y6_250).bind fun v258 =>
  some (v258, σ_173)
def f_X7_likely_k3 (a3 : Int32) (y4_173 : Int32) (σ_173 : Sg) (y5_219 : Int32) : Option (Int32 × Sg) :=
  (lp (fun st => f_X7_likely_b4  st.1 st.2) FU (y4_173, y5_219)).bind fun rr => f_X7_likely_k2 a3 y4_173 σ_173 y5_219 rr
def f_X7_likely_k4 (a3 : Int32) (y4_173 : Int32) (σ_173 : Sg) : Option (Int32 × Sg) :=
  (lp (fun st => f_X7_likely_b3 σ_173 st.1 st.2) FU ((1 : Int32), (0 : Int32))).bind fun rr => f_X7_likely_k3 a3 y4_173 σ_173 rr
def f_X7_likely (σ : Sg) (a1 : Int32) (a2 : Int32) (a3 : Int32) : Option (Int32 × Sg) :=
  (f_X7_isWalker σ a1).bind fun v2 =>
  if v2 = 0 then
  some ((-1 : Int32), σ)
  else
  (f_X7_in σ a2 (0 : Int32) (10 : Int32)).bind fun v12 =>
  if v12 = 0 then
  some ((-1 : Int32), σ)
  else
  (f_X7_in σ a3 (0 : Int32) (1 : Int32)).bind fun v21 =>
  if ¬ v21 = 0 then
  (lp (fun st => f_X7_likely_b2 a1 a2 st.1 st.2.1 st.2.2) FU ((0 : Int32), (0 : Int32), σ)).bind fun rr => f_X7_likely_k4 a3 rr.1 rr.2
  else
  some ((-1 : Int32), σ)
set_option maxHeartbeats 4000000 in
set_option maxRecDepth 100000 in
theorem c_X7_likely (l : Launch) (D : va_G) (w : Wv) (σ : Sg) (a1 : Int32) (a2 : Int32) (a3 : Int32) (r : Int32) (σ' : Sg)  (hJ : Inj w) (hf : f_X7_likely σ a1 a2 a3 = some (r, σ')) : Met l yX7_likely (.code yX7_likely cX7_likely 9 (some .int) :: TB) (rmW 5 125) (pcW D w [.ref (w.1 (184)), .int a1, .int a2, .int a3] σ) (qiW D w r σ') 0 0 (AL w) := by
  refine q_open (by decide +kernel) (Nat.le_of_ble_eq_true rfl) ?_
  intro p e s m args below meth c ls hx hb hml hr hlk hown hts hK hP hS hl
  have hown : s.vm.findClass RX7 = some m.cls := hown
  have hl : lv_has ls 9 [(0, .ref (w.1 (184))), (1, .int a1), (2, .int a2), (3, .int a3)] := hl
  unfold f_X7_likely at hf
  refine lv_aload_n hx hb dX7_likely_0 rfl (lv_at hl 0 rfl) ?_
  refine lv_iload_n hx hb dX7_likely_1 rfl (lv_at hl 1 rfl) ?_
  obtain ⟨v2, h2, hf⟩ := bnd hf
  refine q_cVz (As := [.int a1]) hx hb hts hml hown hK hP hS (c_X7_isWalker l D w σ a1 v2 h2) hw_X7_212 hd_X7_isWalker ⟨rfl, rfl, rfl⟩ o184 (ce7 kd184) rfl ⟨Nat.le_of_ble_eq_true rfl, Nat.le_of_ble_eq_true rfl⟩ ⟨Nat.le_of_ble_eq_true rfl, Nat.le_of_ble_eq_true rfl⟩ hl.1 rfl (Nat.le_of_ble_eq_true rfl) dX7_likely_2 (fun hz2 H locs hP hS => ?_)
  refine lv_if_eq (tgt := 27) hx hb dX7_likely_5 (by decide) (fun hc => ?_) (fun hc => ?_)
  · have hf := ifp hc hf
    refine lv_iconst (v := (-1 : Int32)) hx hb dX7_likely_27 (by decide) ?_
    have hq := Option.some.inj hf
    exact q_iret hx hb hr hlk hP hS (congrArg Prod.fst hq) (congrArg Prod.snd hq) dX7_likely_28
  · have hf := ifn hc hf
    refine lv_iload_n hx hb dX7_likely_8 rfl (lv_at hl 2 rfl) ?_
    refine lv_iconst (v := (0 : Int32)) hx hb dX7_likely_9 (by decide) ?_
    refine lv_bipush (v := (10 : Int32)) hx hb dX7_likely_10 (by decide) ?_
    obtain ⟨v12, h12, hf⟩ := bnd hf
    refine q_cSz (As := [.int a2, .int (0 : Int32), .int (10 : Int32)]) hx hb hts hml hown hK hP hS (c_X7_in l D w σ a2 (0 : Int32) (10 : Int32) v12 h12) hw_X7_83 hd_X7_in ⟨rfl, rfl, rfl⟩ ⟨Nat.le_of_ble_eq_true rfl, Nat.le_of_ble_eq_true rfl⟩ ⟨Nat.le_of_ble_eq_true rfl, Nat.le_of_ble_eq_true rfl⟩ hl.1 rfl (Nat.le_of_ble_eq_true rfl) dX7_likely_12 (fun hz12 H locs hP hS => ?_)
    refine lv_if_eq (tgt := 27) hx hb dX7_likely_15 (by decide) (fun hc => ?_) (fun hc => ?_)
    · have hf := ifp hc hf
      refine lv_iconst (v := (-1 : Int32)) hx hb dX7_likely_27 (by decide) ?_
      have hq := Option.some.inj hf
      exact q_iret hx hb hr hlk hP hS (congrArg Prod.fst hq) (congrArg Prod.snd hq) dX7_likely_28
    · have hf := ifn hc hf
      refine lv_iload_n hx hb dX7_likely_18 rfl (lv_at hl 3 rfl) ?_
      refine lv_iconst (v := (0 : Int32)) hx hb dX7_likely_19 (by decide) ?_
      refine lv_iconst (v := (1 : Int32)) hx hb dX7_likely_20 (by decide) ?_
      obtain ⟨v21, h21, hf⟩ := bnd hf
      refine q_cSz (As := [.int a3, .int (0 : Int32), .int (1 : Int32)]) hx hb hts hml hown hK hP hS (c_X7_in l D w σ a3 (0 : Int32) (1 : Int32) v21 h21) hw_X7_83 hd_X7_in ⟨rfl, rfl, rfl⟩ ⟨Nat.le_of_ble_eq_true rfl, Nat.le_of_ble_eq_true rfl⟩ ⟨Nat.le_of_ble_eq_true rfl, Nat.le_of_ble_eq_true rfl⟩ hl.1 rfl (Nat.le_of_ble_eq_true rfl) dX7_likely_21 (fun hz21 H locs hP hS => ?_)
      refine lv_if_ne (tgt := 29) hx hb dX7_likely_24 (by decide) (fun hc => ?_) (fun hc => ?_)
      · have hf := ifp hc hf
        refine lv_iconst (v := (0 : Int32)) hx hb dX7_likely_29 (by decide) ?_
        refine lv_istore (lv' := [(4, .int (0 : Int32)), (0, .ref (w.1 (184))), (1, .int a1), (2, .int a2), (3, .int a3)]) hx hb dX7_likely_30 hl (by decide) rfl (fun ls hl => ?_)
        refine lv_iconst (v := (1 : Int32)) hx hb dX7_likely_32 (by decide) ?_
        refine lv_istore (lv' := [(5, .int (1 : Int32)), (4, .int (0 : Int32)), (0, .ref (w.1 (184))), (1, .int a1), (2, .int a2), (3, .int a3)]) hx hb dX7_likely_33 hl (by decide) rfl (fun ls hl => ?_)
        refine lv_iconst (v := (0 : Int32)) hx hb dX7_likely_35 (by decide) ?_
        refine lv_istore (lv' := [(6, .int (0 : Int32)), (5, .int (1 : Int32)), (4, .int (0 : Int32)), (0, .ref (w.1 (184))), (1, .int a1), (2, .int a2), (3, .int a3)]) hx hb dX7_likely_36 hl (by decide) rfl (fun ls hl => ?_)
        obtain ⟨rr, hlp, hf⟩ := bnd hf
        have hE38_173 : ∀ (y4_173 : Int32) (σ_173 : Sg) (H : Heap) (locs : List Loc) (ls : Array Slot), f_X7_likely_k4 a3 y4_173 σ_173 = some (r, σ') → va_P D vwCl (WL w σ_173) H → va_S (AL w) s.heap H locs → lv_has ls 9 [(0, .ref (w.1 (184))), (3, .int a3), (4, .int y4_173), (5, .int (1 : Int32))] → W p l e (rmW 5 125) s m args below meth c H locs 0 0 (MQ below (qiW D w r σ') args s 0 0 (AL w)) (F0 m 173 ls []) := by
          intro y4_173 σ_173 H locs ls hf hP hS hl
          unfold f_X7_likely_k4 at hf
          refine lv_iconst (v := (0 : Int32)) hx hb dX7_likely_173 (by decide) ?_
          refine lv_istore (lv' := [(6, .int (0 : Int32)), (0, .ref (w.1 (184))), (3, .int a3), (4, .int y4_173), (5, .int (1 : Int32))]) hx hb dX7_likely_174 hl (by decide) rfl (fun ls hl => ?_)
          obtain ⟨rr, hlp, hf⟩ := bnd hf
          have hE176_219 : ∀ (y5_219 : Int32) (H : Heap) (locs : List Loc) (ls : Array Slot), f_X7_likely_k3 a3 y4_173 σ_173 y5_219 = some (r, σ') → va_P D vwCl (WL w σ_173) H → va_S (AL w) s.heap H locs → lv_has ls 9 [(3, .int a3), (4, .int y4_173), (5, .int y5_219)] → W p l e (rmW 5 125) s m args below meth c H locs 0 0 (MQ below (qiW D w r σ') args s 0 0 (AL w)) (F0 m 219 ls []) := by
            intro y5_219 H locs ls hf hP hS hl
            unfold f_X7_likely_k3 at hf
            refine lv_iload hx hb dX7_likely_219 (lv_at hl 1 rfl) ?_
            refine lv_istore (lv' := [(6, .int y4_173), (3, .int a3), (4, .int y4_173), (5, .int y5_219)]) hx hb dX7_likely_221 hl (by decide) rfl (fun ls hl => ?_)
            refine lv_iload hx hb dX7_likely_223 (lv_at hl 3 rfl) ?_
            refine lv_istore (lv' := [(7, .int y5_219), (6, .int y4_173), (3, .int a3), (4, .int y4_173), (5, .int y5_219)]) hx hb dX7_likely_225 hl (by decide) rfl (fun ls hl => ?_)
            obtain ⟨rr, hlp, hf⟩ := bnd hf
            have hE227_250 : ∀ (y6_250 : Int32) (H : Heap) (locs : List Loc) (ls : Array Slot), f_X7_likely_k2 a3 y4_173 σ_173 y5_219 y6_250 = some (r, σ') → va_P D vwCl (WL w σ_173) H → va_S (AL w) s.heap H locs → lv_has ls 9 [(3, .int a3), (4, .int y4_173), (5, .int y5_219), (6, .int y6_250)] → W p l e (rmW 5 125) s m args below meth c H locs 0 0 (MQ below (qiW D w r σ') args s 0 0 (AL w)) (F0 m 250 ls []) := by
              intro y6_250 H locs ls hf hP hS hl
              unfold f_X7_likely_k2 at hf
              refine lv_iload_n hx hb dX7_likely_250 rfl (lv_at hl 0 rfl) ?_
              refine lv_if_ne (tgt := 262) hx hb dX7_likely_251 (by decide) (fun hc => ?_) (fun hc => ?_)
              · have hf := ifp hc hf
                refine lv_iload hx hb dX7_likely_262 (lv_at hl 2 rfl) ?_
                refine lv_iload hx hb dX7_likely_264 (lv_at hl 3 rfl) ?_
                obtain ⟨v266, h266, hf⟩ := bnd hf
                refine q_idiv hx hb h266 dX7_likely_266 ?_
                have hq := Option.some.inj hf
                exact q_iret hx hb hr hlk hP hS (congrArg Prod.fst hq) (congrArg Prod.snd hq) dX7_likely_267
              · have hf := ifn (fun h => h hc) hf
                refine lv_iload hx hb dX7_likely_254 (lv_at hl 1 rfl) ?_
                refine lv_iload hx hb dX7_likely_256 (lv_at hl 3 rfl) ?_
                obtain ⟨v258, h258, hf⟩ := bnd hf
                refine q_idiv hx hb h258 dX7_likely_258 ?_
                refine lv_goto (tgt := 267) hx hb dX7_likely_259 (by decide) ?_
                have hq := Option.some.inj hf
                exact q_iret hx hb hr hlk hP hS (congrArg Prod.fst hq) (congrArg Prod.snd hq) dX7_likely_267
            refine lp_ind (G := fun (st : (Int32 × Int32)) => ∀ (H : Heap) (locs : List Loc) (ls : Array Slot), va_P D vwCl (WL w σ_173) H → va_S (AL w) s.heap H locs → lv_has ls 9 [(3, .int a3), (4, .int y4_173), (5, .int y5_219), (6, .int st.1), (7, .int st.2)] → W p l e (rmW 5 125) s m args below meth c H locs 0 0 (MQ below (qiW D w r σ') args s 0 0 (AL w)) (F0 m 227 ls [])) (X := fun rr => f_X7_likely_k2 a3 y4_173 σ_173 y5_219 rr = some (r, σ')) ?_ _ _ rr hlp hf _ _ _ hP hS (lv_sub hl [2, 3, 4, 1, 0] rfl)
            rintro ⟨x6_227, x7_227⟩ oo227 hb9 hG227 hX227 H locs ls hP hS hl
            have hP : va_P D vwCl (WL w σ_173) H := hP
            have hl : lv_has ls 9 [(3, .int a3), (4, .int y4_173), (5, .int y5_219), (6, .int x6_227), (7, .int x7_227)] := hl
            have hf : f_X7_likely_b4  x6_227 x7_227 = some oo227 := hb9
            unfold f_X7_likely_b4 at hf
            refine lv_iload hx hb dX7_likely_227 (lv_at hl 4 rfl) ?_
            refine lv_if_eq (tgt := 250) hx hb dX7_likely_229 (by decide) (fun hc => ?_) (fun hc => ?_)
            · have hf := ifp hc hf
              obtain rfl := Option.some.inj hf
              exact hE227_250 x6_227 _ _ _ (hX227 _ rfl) hP hS (lv_sub hl [0, 1, 2, 3] rfl)
            · have hf := ifn hc hf
              refine lv_iload hx hb dX7_likely_232 (lv_at hl 3 rfl) ?_
              refine lv_iload hx hb dX7_likely_234 (lv_at hl 4 rfl) ?_
              obtain ⟨v236, h236, hf⟩ := bnd hf
              refine q_irem hx hb h236 dX7_likely_236 ?_
              refine lv_istore (lv' := [(8, .int v236), (3, .int a3), (4, .int y4_173), (5, .int y5_219), (6, .int x6_227), (7, .int x7_227)]) hx hb dX7_likely_237 hl (by decide) rfl (fun ls hl => ?_)
              refine lv_iload hx hb dX7_likely_239 (lv_at hl 5 rfl) ?_
              refine lv_istore (lv' := [(6, .int x7_227), (8, .int v236), (3, .int a3), (4, .int y4_173), (5, .int y5_219), (7, .int x7_227)]) hx hb dX7_likely_241 hl (by decide) rfl (fun ls hl => ?_)
              refine lv_iload hx hb dX7_likely_243 (lv_at hl 1 rfl) ?_
              refine lv_istore (lv' := [(7, .int v236), (6, .int x7_227), (8, .int v236), (3, .int a3), (4, .int y4_173), (5, .int y5_219)]) hx hb dX7_likely_245 hl (by decide) rfl (fun ls hl => ?_)
              refine lv_goto (tgt := 227) hx hb dX7_likely_247 (by decide) ?_
              obtain rfl := Option.some.inj hf
              exact hG227 _ rfl _ _ _ hP hS (lv_sub hl [3, 4, 5, 1, 0] rfl)
          refine lp_ind (G := fun (st : (Int32 × Int32)) => ∀ (H : Heap) (locs : List Loc) (ls : Array Slot), va_P D vwCl (WL w σ_173) H → va_S (AL w) s.heap H locs → lv_has ls 9 [(0, .ref (w.1 (184))), (3, .int a3), (4, .int y4_173), (5, .int st.1), (6, .int st.2)] → W p l e (rmW 5 125) s m args below meth c H locs 0 0 (MQ below (qiW D w r σ') args s 0 0 (AL w)) (F0 m 176 ls [])) (X := fun rr => f_X7_likely_k3 a3 y4_173 σ_173 rr = some (r, σ')) ?_ _ _ rr hlp hf _ _ _ hP hS (lv_sub hl [1, 2, 3, 4, 0] rfl)
          rintro ⟨x5_176, x6_176⟩ oo176 hb9 hG176 hX176 H locs ls hP hS hl
          have hP : va_P D vwCl (WL w σ_173) H := hP
          have hl : lv_has ls 9 [(0, .ref (w.1 (184))), (3, .int a3), (4, .int y4_173), (5, .int x5_176), (6, .int x6_176)] := hl
          have hf : f_X7_likely_b3 σ_173 x5_176 x6_176 = some oo176 := hb9
          unfold f_X7_likely_b3 at hf
          refine lv_iload hx hb dX7_likely_176 (lv_at hl 4 rfl) ?_
          refine lv_aload_n hx hb dX7_likely_178 rfl (lv_at hl 0 rfl) ?_
          refine gt_X7_17 hx hb hts hown hK hP dX7_likely_179 ?_
          refine lv_iconst (v := (0 : Int32)) hx hb dX7_likely_182 (by decide) ?_
          obtain ⟨v183, h183, hf⟩ := bnd hf
          refine q_iald hx hb hK hP isC187.o isC187.k h183 dX7_likely_183 ?_
          refine lv_icmp_ge (tgt := 219) hx hb dX7_likely_184 (by decide) (fun hc => ?_) (fun hc => ?_)
          · have hf := ifp hc hf
            obtain rfl := Option.some.inj hf
            exact hE176_219 x5_176 _ _ _ (hX176 _ rfl) hP hS (lv_sub hl [1, 2, 3] rfl)
          · have hf := ifn hc hf
            refine lv_iload hx hb dX7_likely_187 (lv_at hl 3 rfl) ?_
            refine lv_aload_n hx hb dX7_likely_189 rfl (lv_at hl 0 rfl) ?_
            refine gt_X7_41 hx hb hts hown hK hP dX7_likely_190 ?_
            refine lv_bipush (v := (71 : Int32)) hx hb dX7_likely_193 (by decide) ?_
            refine lv_iload hx hb dX7_likely_195 (lv_at hl 4 rfl) ?_
            refine lv_iadd hx hb dX7_likely_197 ?_
            obtain ⟨v198, h198, hf⟩ := bnd hf
            refine q_iald hx hb hK hP isC195.o isC195.k h198 dX7_likely_198 ?_
            refine lv_bipush (v := (-4 : Int32)) hx hb dX7_likely_199 (by decide) ?_
            refine lv_icmp_ne (tgt := 208) hx hb dX7_likely_201 (by decide) (fun hc => ?_) (fun hc => ?_)
            · have hf := ifp hc hf
              refine lv_bipush (v := (10 : Int32)) hx hb dX7_likely_208 (by decide) ?_
              refine lv_imul hx hb dX7_likely_210 ?_
              refine lv_istore (lv' := [(5, .int (x5_176 * (10 : Int32))), (0, .ref (w.1 (184))), (3, .int a3), (4, .int y4_173), (6, .int x6_176)]) hx hb dX7_likely_211 hl (by decide) rfl (fun ls hl => ?_)
              refine lv_iinc (v := (x6_176 + (1 : Int32))) (lv' := [(6, .int (x6_176 + (1 : Int32))), (5, .int (x5_176 * (10 : Int32))), (0, .ref (w.1 (184))), (3, .int a3), (4, .int y4_173)]) hx hb dX7_likely_213 hl (k := 4) rfl ii_1 (by decide) rfl (fun ls hl => ?_)
              refine lv_goto (tgt := 176) hx hb dX7_likely_216 (by decide) ?_
              obtain rfl := Option.some.inj hf
              exact hG176 _ rfl _ _ _ hP hS (lv_sub hl [2, 3, 4, 1, 0] rfl)
            · have hf := ifn (fun h => h hc) hf
              refine lv_iconst (v := (1 : Int32)) hx hb dX7_likely_204 (by decide) ?_
              refine lv_goto (tgt := 210) hx hb dX7_likely_205 (by decide) ?_
              refine lv_imul hx hb dX7_likely_210 ?_
              refine lv_istore (lv' := [(5, .int (x5_176 * (1 : Int32))), (0, .ref (w.1 (184))), (3, .int a3), (4, .int y4_173), (6, .int x6_176)]) hx hb dX7_likely_211 hl (by decide) rfl (fun ls hl => ?_)
              refine lv_iinc (v := (x6_176 + (1 : Int32))) (lv' := [(6, .int (x6_176 + (1 : Int32))), (5, .int (x5_176 * (1 : Int32))), (0, .ref (w.1 (184))), (3, .int a3), (4, .int y4_173)]) hx hb dX7_likely_213 hl (k := 4) rfl ii_1 (by decide) rfl (fun ls hl => ?_)
              refine lv_goto (tgt := 176) hx hb dX7_likely_216 (by decide) ?_
              obtain rfl := Option.some.inj hf
              exact hG176 _ rfl _ _ _ hP hS (lv_sub hl [2, 3, 4, 1, 0] rfl)
        refine lp_ind (G := fun (st : (Int32 × Int32 × Sg)) => ∀ (H : Heap) (locs : List Loc) (ls : Array Slot), va_P D vwCl (WL w st.2.2) H → va_S (AL w) s.heap H locs → lv_has ls 9 [(0, .ref (w.1 (184))), (1, .int a1), (2, .int a2), (3, .int a3), (4, .int st.1), (5, .int (1 : Int32)), (6, .int st.2.1)] → W p l e (rmW 5 125) s m args below meth c H locs 0 0 (MQ below (qiW D w r σ') args s 0 0 (AL w)) (F0 m 38 ls [])) (X := fun rr => f_X7_likely_k4 a3 rr.1 rr.2 = some (r, σ')) ?_ _ _ rr hlp hf _ _ _ hP hS (lv_sub hl [3, 4, 5, 6, 2, 1, 0] rfl)
        rintro ⟨x4_38, x6_38, σ_38⟩ oo38 hb9 hG38 hX38 H locs ls hP hS hl
        have hP : va_P D vwCl (WL w σ_38) H := hP
        have hl : lv_has ls 9 [(0, .ref (w.1 (184))), (1, .int a1), (2, .int a2), (3, .int a3), (4, .int x4_38), (5, .int (1 : Int32)), (6, .int x6_38)] := hl
        have hf : f_X7_likely_b2 a1 a2 x4_38 x6_38 σ_38 = some oo38 := hb9
        unfold f_X7_likely_b2 at hf
        refine lv_iload hx hb dX7_likely_38 (lv_at hl 6 rfl) ?_
        refine lv_iconst (v := (1 : Int32)) hx hb dX7_likely_40 (by decide) ?_
        refine lv_aload_n hx hb dX7_likely_41 rfl (lv_at hl 0 rfl) ?_
        refine gt_X7_17 hx hb hts hown hK hP dX7_likely_42 ?_
        refine lv_iconst (v := (0 : Int32)) hx hb dX7_likely_45 (by decide) ?_
        obtain ⟨v46, h46, hf⟩ := bnd hf
        refine q_iald hx hb hK hP isC187.o isC187.k h46 dX7_likely_46 ?_
        refine lv_ishl hx hb dX7_likely_47 ?_
        refine lv_icmp_ge (tgt := 173) hx hb dX7_likely_48 (by decide) (fun hc => ?_) (fun hc => ?_)
        · have hf := ifp hc hf
          obtain rfl := Option.some.inj hf
          exact hE38_173 x4_38 σ_38 _ _ _ (hX38 _ rfl) hP hS (lv_sub hl [0, 3, 4, 5] rfl)
        · have hf := ifn hc hf
          refine lv_iconst (v := (1 : Int32)) hx hb dX7_likely_51 (by decide) ?_
          refine lv_istore (lv' := [(7, .int (1 : Int32)), (0, .ref (w.1 (184))), (1, .int a1), (2, .int a2), (3, .int a3), (4, .int x4_38), (5, .int (1 : Int32)), (6, .int x6_38)]) hx hb dX7_likely_52 hl (by decide) rfl (fun ls hl => ?_)
          refine lv_iconst (v := (0 : Int32)) hx hb dX7_likely_54 (by decide) ?_
          refine lv_istore (lv' := [(8, .int (0 : Int32)), (7, .int (1 : Int32)), (0, .ref (w.1 (184))), (1, .int a1), (2, .int a2), (3, .int a3), (4, .int x4_38), (5, .int (1 : Int32)), (6, .int x6_38)]) hx hb dX7_likely_55 hl (by decide) rfl (fun ls hl => ?_)
          obtain ⟨rr, hlp, hf⟩ := bnd hf
          have hE57_130 : ∀ (y7_130 : Int32) (H : Heap) (locs : List Loc) (ls : Array Slot), f_X7_likely_k1 a1 x4_38 x6_38 σ_38 y7_130 = some oo38 → va_P D vwCl (WL w σ_38) H → va_S (AL w) s.heap H locs → lv_has ls 9 [(0, .ref (w.1 (184))), (1, .int a1), (2, .int a2), (3, .int a3), (4, .int x4_38), (5, .int (1 : Int32)), (6, .int x6_38), (7, .int y7_130)] → W p l e (rmW 5 125) s m args below meth c H locs 0 0 (MQ below (qiW D w r σ') args s 0 0 (AL w)) (F0 m 130 ls []) := by
            intro y7_130 H locs ls hf hP hS hl
            unfold f_X7_likely_k1 at hf
            refine lv_iload hx hb dX7_likely_130 (lv_at hl 7 rfl) ?_
            refine lv_if_le (tgt := 167) hx hb dX7_likely_132 (by decide) (fun hc => ?_) (fun hc => ?_)
            · have hf := ifp hc hf
              refine lv_iinc (v := (x6_38 + (1 : Int32))) (lv' := [(6, .int (x6_38 + (1 : Int32))), (0, .ref (w.1 (184))), (1, .int a1), (2, .int a2), (3, .int a3), (4, .int x4_38), (5, .int (1 : Int32)), (7, .int y7_130)]) hx hb dX7_likely_167 hl (k := 6) rfl ii_1 (by decide) rfl (fun ls hl => ?_)
              refine lv_goto (tgt := 38) hx hb dX7_likely_170 (by decide) ?_
              obtain rfl := Option.some.inj hf
              exact hG38 _ rfl _ _ _ hP hS (lv_sub hl [1, 2, 3, 4, 5, 6, 0] rfl)
            · have hf := ifn hc hf
              refine lv_aload_n hx hb dX7_likely_135 rfl (lv_at hl 0 rfl) ?_
              refine lv_iload hx hb dX7_likely_136 (lv_at hl 6 rfl) ?_
              obtain ⟨σ138, h138, hf⟩ := bnd hf
              refine pt_X7_171 hx hb hts hown hK hP hJ hS h138 dX7_likely_138 (fun H locs hP hS => ?_)
              refine lv_iload hx hb dX7_likely_141 (lv_at hl 4 rfl) ?_
              refine lv_aload_n hx hb dX7_likely_143 rfl (lv_at hl 0 rfl) ?_
              refine lv_iload_n hx hb dX7_likely_144 rfl (lv_at hl 1 rfl) ?_
              obtain ⟨⟨v145, σ145⟩, h145, hf⟩ := bnd hf
              dsimp only at hf
              refine q_cVi (As := [.int a1]) hx hb hts hml hown hK hP hS (c_X7_comes l D w σ138 a1 v145 σ145 hJ h145) hw_X7_241 hd_X7_comes ⟨rfl, rfl, rfl⟩ o184 (ce7 kd184) rfl ⟨Nat.le_of_ble_eq_true rfl, Nat.le_of_ble_eq_true rfl⟩ ⟨Nat.le_of_ble_eq_true rfl, Nat.le_of_ble_eq_true rfl⟩ hl.1 rfl (Nat.le_of_ble_eq_true rfl) dX7_likely_145 (fun H locs hP hS => ?_)
              refine lv_bipush (v := (-4 : Int32)) hx hb dX7_likely_148 (by decide) ?_
              refine lv_icmp_ne (tgt := 157) hx hb dX7_likely_150 (by decide) (fun hc => ?_) (fun hc => ?_)
              · have hf := ifp hc hf
                refine lv_iload hx hb dX7_likely_157 (lv_at hl 7 rfl) ?_
                refine lv_iadd hx hb dX7_likely_159 ?_
                refine lv_istore (lv' := [(4, .int (x4_38 + y7_130)), (0, .ref (w.1 (184))), (1, .int a1), (2, .int a2), (3, .int a3), (5, .int (1 : Int32)), (6, .int x6_38), (7, .int y7_130)]) hx hb dX7_likely_160 hl (by decide) rfl (fun ls hl => ?_)
                refine lv_aload_n hx hb dX7_likely_162 rfl (lv_at hl 1 rfl) ?_
                refine lv_iconst (v := (0 : Int32)) hx hb dX7_likely_163 (by decide) ?_
                obtain ⟨σ164, h164, hf⟩ := bnd hf
                refine pt_X7_171 hx hb hts hown hK hP hJ hS h164 dX7_likely_164 (fun H locs hP hS => ?_)
                refine lv_iinc (v := (x6_38 + (1 : Int32))) (lv' := [(6, .int (x6_38 + (1 : Int32))), (4, .int (x4_38 + y7_130)), (0, .ref (w.1 (184))), (1, .int a1), (2, .int a2), (3, .int a3), (5, .int (1 : Int32)), (7, .int y7_130)]) hx hb dX7_likely_167 hl (k := 6) rfl ii_1 (by decide) rfl (fun ls hl => ?_)
                refine lv_goto (tgt := 38) hx hb dX7_likely_170 (by decide) ?_
                obtain rfl := Option.some.inj hf
                exact hG38 _ rfl _ _ _ hP hS (lv_sub hl [2, 3, 4, 5, 1, 6, 0] rfl)
              · have hf := ifn (fun h => h hc) hf
                refine lv_iconst (v := (0 : Int32)) hx hb dX7_likely_153 (by decide) ?_
                refine lv_goto (tgt := 159) hx hb dX7_likely_154 (by decide) ?_
                refine lv_iadd hx hb dX7_likely_159 ?_
                refine lv_istore (lv' := [(4, .int (x4_38 + (0 : Int32))), (0, .ref (w.1 (184))), (1, .int a1), (2, .int a2), (3, .int a3), (5, .int (1 : Int32)), (6, .int x6_38), (7, .int y7_130)]) hx hb dX7_likely_160 hl (by decide) rfl (fun ls hl => ?_)
                refine lv_aload_n hx hb dX7_likely_162 rfl (lv_at hl 1 rfl) ?_
                refine lv_iconst (v := (0 : Int32)) hx hb dX7_likely_163 (by decide) ?_
                obtain ⟨σ164, h164, hf⟩ := bnd hf
                refine pt_X7_171 hx hb hts hown hK hP hJ hS h164 dX7_likely_164 (fun H locs hP hS => ?_)
                refine lv_iinc (v := (x6_38 + (1 : Int32))) (lv' := [(6, .int (x6_38 + (1 : Int32))), (4, .int (x4_38 + (0 : Int32))), (0, .ref (w.1 (184))), (1, .int a1), (2, .int a2), (3, .int a3), (5, .int (1 : Int32)), (7, .int y7_130)]) hx hb dX7_likely_167 hl (k := 6) rfl ii_1 (by decide) rfl (fun ls hl => ?_)
                refine lv_goto (tgt := 38) hx hb dX7_likely_170 (by decide) ?_
                obtain rfl := Option.some.inj hf
                exact hG38 _ rfl _ _ _ hP hS (lv_sub hl [2, 3, 4, 5, 1, 6, 0] rfl)
          refine lp_ind (G := fun (st : (Int32 × Int32)) => ∀ (H : Heap) (locs : List Loc) (ls : Array Slot), va_P D vwCl (WL w σ_38) H → va_S (AL w) s.heap H locs → lv_has ls 9 [(0, .ref (w.1 (184))), (1, .int a1), (2, .int a2), (3, .int a3), (4, .int x4_38), (5, .int (1 : Int32)), (6, .int x6_38), (7, .int st.1), (8, .int st.2)] → W p l e (rmW 5 125) s m args below meth c H locs 0 0 (MQ below (qiW D w r σ') args s 0 0 (AL w)) (F0 m 57 ls [])) (X := fun rr => f_X7_likely_k1 a1 x4_38 x6_38 σ_38 rr = some oo38) ?_ _ _ rr hlp hf _ _ _ hP hS (lv_sub hl [2, 3, 4, 5, 6, 7, 8, 1, 0] rfl)
          rintro ⟨x7_57, x8_57⟩ oo57 hb9 hG57 hX57 H locs ls hP hS hl
          have hP : va_P D vwCl (WL w σ_38) H := hP
          have hl : lv_has ls 9 [(0, .ref (w.1 (184))), (1, .int a1), (2, .int a2), (3, .int a3), (4, .int x4_38), (5, .int (1 : Int32)), (6, .int x6_38), (7, .int x7_57), (8, .int x8_57)] := hl
          have hf : f_X7_likely_b1 a2 x6_38 σ_38 x7_57 x8_57 = some oo57 := hb9
          unfold f_X7_likely_b1 at hf
          refine lv_iload hx hb dX7_likely_57 (lv_at hl 8 rfl) ?_
          refine lv_aload_n hx hb dX7_likely_59 rfl (lv_at hl 0 rfl) ?_
          refine gt_X7_17 hx hb hts hown hK hP dX7_likely_60 ?_
          refine lv_iconst (v := (0 : Int32)) hx hb dX7_likely_63 (by decide) ?_
          obtain ⟨v64, h64, hf⟩ := bnd hf
          refine q_iald hx hb hK hP isC187.o isC187.k h64 dX7_likely_64 ?_
          refine lv_icmp_ge (tgt := 130) hx hb dX7_likely_65 (by decide) (fun hc => ?_) (fun hc => ?_)
          · have hf := ifp hc hf
            obtain rfl := Option.some.inj hf
            exact hE57_130 x7_57 _ _ _ (hX57 _ rfl) hP hS (lv_sub hl [0, 1, 2, 3, 4, 5, 6, 7] rfl)
          · have hf := ifn hc hf
            refine lv_iload hx hb dX7_likely_68 (lv_at hl 7 rfl) ?_
            refine lv_aload_n hx hb dX7_likely_70 rfl (lv_at hl 0 rfl) ?_
            refine gt_X7_41 hx hb hts hown hK hP dX7_likely_71 ?_
            refine lv_bipush (v := (71 : Int32)) hx hb dX7_likely_74 (by decide) ?_
            refine lv_iload hx hb dX7_likely_76 (lv_at hl 8 rfl) ?_
            refine lv_iadd hx hb dX7_likely_78 ?_
            obtain ⟨v79, h79, hf⟩ := bnd hf
            refine q_iald hx hb hK hP isC195.o isC195.k h79 dX7_likely_79 ?_
            refine lv_bipush (v := (-4 : Int32)) hx hb dX7_likely_80 (by decide) ?_
            refine lv_icmp_ne (tgt := 103) hx hb dX7_likely_82 (by decide) (fun hc => ?_) (fun hc => ?_)
            · have hf := ifp hc hf
              refine lv_iload hx hb dX7_likely_103 (lv_at hl 6 rfl) ?_
              refine lv_iload hx hb dX7_likely_105 (lv_at hl 8 rfl) ?_
              obtain ⟨v107, h107, hf⟩ := bnd hf
              refine q_cSz (As := [.int x6_38, .int x8_57]) hx hb hts hml hown hK hP hS (c_X7_has l D w σ_38 x6_38 x8_57 v107 h107) hw_X7_174 hd_X7_has ⟨rfl, rfl, rfl⟩ ⟨Nat.le_of_ble_eq_true rfl, Nat.le_of_ble_eq_true rfl⟩ ⟨Nat.le_of_ble_eq_true rfl, Nat.le_of_ble_eq_true rfl⟩ hl.1 rfl (Nat.le_of_ble_eq_true rfl) dX7_likely_107 (fun hz107 H locs hP hS => ?_)
              refine lv_if_eq (tgt := 117) hx hb dX7_likely_110 (by decide) (fun hc => ?_) (fun hc => ?_)
              · have hf := ifp hc hf
                refine lv_bipush (v := (10 : Int32)) hx hb dX7_likely_117 (by decide) ?_
                refine lv_iload_n hx hb dX7_likely_119 rfl (lv_at hl 2 rfl) ?_
                refine lv_isub hx hb dX7_likely_120 ?_
                refine lv_imul hx hb dX7_likely_121 ?_
                refine lv_istore (lv' := [(7, .int (x7_57 * ((10 : Int32) - a2))), (0, .ref (w.1 (184))), (1, .int a1), (2, .int a2), (3, .int a3), (4, .int x4_38), (5, .int (1 : Int32)), (6, .int x6_38), (8, .int x8_57)]) hx hb dX7_likely_122 hl (by decide) rfl (fun ls hl => ?_)
                refine lv_iinc (v := (x8_57 + (1 : Int32))) (lv' := [(8, .int (x8_57 + (1 : Int32))), (7, .int (x7_57 * ((10 : Int32) - a2))), (0, .ref (w.1 (184))), (1, .int a1), (2, .int a2), (3, .int a3), (4, .int x4_38), (5, .int (1 : Int32)), (6, .int x6_38)]) hx hb dX7_likely_124 hl (k := 8) rfl ii_1 (by decide) rfl (fun ls hl => ?_)
                refine lv_goto (tgt := 57) hx hb dX7_likely_127 (by decide) ?_
                obtain rfl := Option.some.inj hf
                exact hG57 _ rfl _ _ _ hP hS (lv_sub hl [2, 3, 4, 5, 6, 7, 8, 1, 0] rfl)
              · have hf := ifn hc hf
                refine lv_iload_n hx hb dX7_likely_113 rfl (lv_at hl 2 rfl) ?_
                refine lv_goto (tgt := 121) hx hb dX7_likely_114 (by decide) ?_
                refine lv_imul hx hb dX7_likely_121 ?_
                refine lv_istore (lv' := [(7, .int (x7_57 * a2)), (0, .ref (w.1 (184))), (1, .int a1), (2, .int a2), (3, .int a3), (4, .int x4_38), (5, .int (1 : Int32)), (6, .int x6_38), (8, .int x8_57)]) hx hb dX7_likely_122 hl (by decide) rfl (fun ls hl => ?_)
                refine lv_iinc (v := (x8_57 + (1 : Int32))) (lv' := [(8, .int (x8_57 + (1 : Int32))), (7, .int (x7_57 * a2)), (0, .ref (w.1 (184))), (1, .int a1), (2, .int a2), (3, .int a3), (4, .int x4_38), (5, .int (1 : Int32)), (6, .int x6_38)]) hx hb dX7_likely_124 hl (k := 8) rfl ii_1 (by decide) rfl (fun ls hl => ?_)
                refine lv_goto (tgt := 57) hx hb dX7_likely_127 (by decide) ?_
                obtain rfl := Option.some.inj hf
                exact hG57 _ rfl _ _ _ hP hS (lv_sub hl [2, 3, 4, 5, 6, 7, 8, 1, 0] rfl)
            · have hf := ifn (fun h => h hc) hf
              refine lv_iload hx hb dX7_likely_85 (lv_at hl 6 rfl) ?_
              refine lv_iload hx hb dX7_likely_87 (lv_at hl 8 rfl) ?_
              obtain ⟨v89, h89, hf⟩ := bnd hf
              refine q_cSz (As := [.int x6_38, .int x8_57]) hx hb hts hml hown hK hP hS (c_X7_has l D w σ_38 x6_38 x8_57 v89 h89) hw_X7_174 hd_X7_has ⟨rfl, rfl, rfl⟩ ⟨Nat.le_of_ble_eq_true rfl, Nat.le_of_ble_eq_true rfl⟩ ⟨Nat.le_of_ble_eq_true rfl, Nat.le_of_ble_eq_true rfl⟩ hl.1 rfl (Nat.le_of_ble_eq_true rfl) dX7_likely_89 (fun hz89 H locs hP hS => ?_)
              refine lv_if_eq (tgt := 99) hx hb dX7_likely_92 (by decide) (fun hc => ?_) (fun hc => ?_)
              · have hf := ifp hc hf
                refine lv_iconst (v := (1 : Int32)) hx hb dX7_likely_99 (by decide) ?_
                refine lv_goto (tgt := 121) hx hb dX7_likely_100 (by decide) ?_
                refine lv_imul hx hb dX7_likely_121 ?_
                refine lv_istore (lv' := [(7, .int (x7_57 * (1 : Int32))), (0, .ref (w.1 (184))), (1, .int a1), (2, .int a2), (3, .int a3), (4, .int x4_38), (5, .int (1 : Int32)), (6, .int x6_38), (8, .int x8_57)]) hx hb dX7_likely_122 hl (by decide) rfl (fun ls hl => ?_)
                refine lv_iinc (v := (x8_57 + (1 : Int32))) (lv' := [(8, .int (x8_57 + (1 : Int32))), (7, .int (x7_57 * (1 : Int32))), (0, .ref (w.1 (184))), (1, .int a1), (2, .int a2), (3, .int a3), (4, .int x4_38), (5, .int (1 : Int32)), (6, .int x6_38)]) hx hb dX7_likely_124 hl (k := 8) rfl ii_1 (by decide) rfl (fun ls hl => ?_)
                refine lv_goto (tgt := 57) hx hb dX7_likely_127 (by decide) ?_
                obtain rfl := Option.some.inj hf
                exact hG57 _ rfl _ _ _ hP hS (lv_sub hl [2, 3, 4, 5, 6, 7, 8, 1, 0] rfl)
              · have hf := ifn hc hf
                refine lv_iconst (v := (0 : Int32)) hx hb dX7_likely_95 (by decide) ?_
                refine lv_goto (tgt := 121) hx hb dX7_likely_96 (by decide) ?_
                refine lv_imul hx hb dX7_likely_121 ?_
                refine lv_istore (lv' := [(7, .int (x7_57 * (0 : Int32))), (0, .ref (w.1 (184))), (1, .int a1), (2, .int a2), (3, .int a3), (4, .int x4_38), (5, .int (1 : Int32)), (6, .int x6_38), (8, .int x8_57)]) hx hb dX7_likely_122 hl (by decide) rfl (fun ls hl => ?_)
                refine lv_iinc (v := (x8_57 + (1 : Int32))) (lv' := [(8, .int (x8_57 + (1 : Int32))), (7, .int (x7_57 * (0 : Int32))), (0, .ref (w.1 (184))), (1, .int a1), (2, .int a2), (3, .int a3), (4, .int x4_38), (5, .int (1 : Int32)), (6, .int x6_38)]) hx hb dX7_likely_124 hl (k := 8) rfl ii_1 (by decide) rfl (fun ls hl => ?_)
                refine lv_goto (tgt := 57) hx hb dX7_likely_127 (by decide) ?_
                obtain rfl := Option.some.inj hf
                exact hG57 _ rfl _ _ _ hP hS (lv_sub hl [2, 3, 4, 5, 6, 7, 8, 1, 0] rfl)
      · have hf := ifn (fun h => h hc) hf
        refine lv_iconst (v := (-1 : Int32)) hx hb dX7_likely_27 (by decide) ?_
        have hq := Option.some.inj hf
        exact q_iret hx hb hr hlk hP hS (congrArg Prod.fst hq) (congrArg Prod.snd hq) dX7_likely_28
def f_X7_turn (σ : Sg) (a1 : Int32) : Option Sg :=
  (ga (σ (187)) (ln (187)) (0 : Int32)).bind fun v6 =>
  (re a1 v6).bind fun v7 =>
  (ga (σ (186)) (ln (186)) (0 : Int32)).bind fun v18 =>
  (re (a1 / (8 : Int32)) v18).bind fun v19 =>
  (ga (σ (186)) (ln (186)) (0 : Int32)).bind fun v29 =>
  (re (v19 + (1 : Int32)) v29).bind fun v30 =>
  (ga (σ (198)) (ln (198)) ((71 : Int32) + v7)).bind fun v41 =>
  if v41 = (-4 : Int32) then
  if (jrem (a1 / (64 : Int32)) (6 : Int32)) = (0 : Int32) then
  some σ
  else if (jrem (a1 / (64 : Int32)) (6 : Int32)) = (1 : Int32) then
  some σ
  else if (jrem (a1 / (64 : Int32)) (6 : Int32)) = (2 : Int32) then
  (f_X7_passYear σ (198)).bind fun q140 =>
  some q140.2
  else if (jrem (a1 / (64 : Int32)) (6 : Int32)) = (3 : Int32) then
  (ga (σ (198)) (ln (198)) (((7 : Int32) + ((8 : Int32) * v19)) + v30)).bind fun v168 =>
  if v168 ≤ 0 then
  (f_X7_layOn σ (198) v19 v30 ((jrem (a1 / (512 : Int32)) (9 : Int32)) + (1 : Int32))).bind fun σ186 =>
  some σ186
  else
  (f_X7_layOn σ (198) v19 v30 (0 : Int32)).bind fun σ186 =>
  some σ186
  else some σ
  else
  if (jrem (a1 / (64 : Int32)) (6 : Int32)) = (0 : Int32) then
  (f_X7_measure σ (198)).bind fun σ102 =>
  (f_X7_paintOn σ102 (198) v7).bind fun σ111 =>
  some σ111
  else if (jrem (a1 / (64 : Int32)) (6 : Int32)) = (1 : Int32) then
  (sa σ (198) (ln (198)) ((71 : Int32) + v7) v19).bind fun σ131 =>
  some σ131
  else if (jrem (a1 / (64 : Int32)) (6 : Int32)) = (2 : Int32) then
  (f_X7_passYear σ (198)).bind fun q140 =>
  some q140.2
  else if (jrem (a1 / (64 : Int32)) (6 : Int32)) = (3 : Int32) then
  (ga (σ (198)) (ln (198)) (((7 : Int32) + ((8 : Int32) * v19)) + v30)).bind fun v168 =>
  if v168 ≤ 0 then
  (f_X7_layOn σ (198) v19 v30 ((jrem (a1 / (512 : Int32)) (9 : Int32)) + (1 : Int32))).bind fun σ186 =>
  some σ186
  else
  (f_X7_layOn σ (198) v19 v30 (0 : Int32)).bind fun σ186 =>
  some σ186
  else some σ
set_option maxHeartbeats 4000000 in
set_option maxRecDepth 100000 in
theorem c_X7_turn (l : Launch) (D : va_G) (w : Wv) (σ : Sg) (a1 : Int32) (σ' : Sg)  (hJ : Inj w) (hf : f_X7_turn σ a1 = some σ') : Met l yX7_turn (.code yX7_turn cX7_turn 6 none :: TB) (rmW 2 51) (pcW D w [.ref (w.1 (184)), .int a1] σ) (qvW D w σ') 0 0 (AL w) := by
  refine q_open (by decide +kernel) (Nat.le_of_ble_eq_true rfl) ?_
  intro p e s m args below meth c ls hx hb hml hr hlk hown hts hK hP hS hl
  have hown : s.vm.findClass RX7 = some m.cls := hown
  have hl : lv_has ls 6 [(0, .ref (w.1 (184))), (1, .int a1)] := hl
  unfold f_X7_turn at hf
  refine lv_iload_n hx hb dX7_turn_0 rfl (lv_at hl 1 rfl) ?_
  refine lv_aload_n hx hb dX7_turn_1 rfl (lv_at hl 0 rfl) ?_
  refine gt_X7_17 hx hb hts hown hK hP dX7_turn_2 ?_
  refine lv_iconst (v := (0 : Int32)) hx hb dX7_turn_5 (by decide) ?_
  obtain ⟨v6, h6, hf⟩ := bnd hf
  refine q_iald hx hb hK hP isC187.o isC187.k h6 dX7_turn_6 ?_
  obtain ⟨v7, h7, hf⟩ := bnd hf
  refine q_irem hx hb h7 dX7_turn_7 ?_
  refine lv_istore_n (lv' := [(2, .int v7), (0, .ref (w.1 (184))), (1, .int a1)]) hx hb dX7_turn_8 rfl hl (by decide) rfl (fun ls hl => ?_)
  refine lv_iload_n hx hb dX7_turn_9 rfl (lv_at hl 2 rfl) ?_
  refine lv_bipush (v := (8 : Int32)) hx hb dX7_turn_10 (by decide) ?_
  refine lv_idiv hx hb dX7_turn_12 (by decide) ?_
  refine lv_aload_n hx hb dX7_turn_13 rfl (lv_at hl 1 rfl) ?_
  refine gt_X7_13 hx hb hts hown hK hP dX7_turn_14 ?_
  refine lv_iconst (v := (0 : Int32)) hx hb dX7_turn_17 (by decide) ?_
  obtain ⟨v18, h18, hf⟩ := bnd hf
  refine q_iald hx hb hK hP isC186.o isC186.k h18 dX7_turn_18 ?_
  obtain ⟨v19, h19, hf⟩ := bnd hf
  refine q_irem hx hb h19 dX7_turn_19 ?_
  refine lv_istore_n (lv' := [(3, .int v19), (2, .int v7), (0, .ref (w.1 (184))), (1, .int a1)]) hx hb dX7_turn_20 rfl hl (by decide) rfl (fun ls hl => ?_)
  refine lv_iload_n hx hb dX7_turn_21 rfl (lv_at hl 0 rfl) ?_
  refine lv_iconst (v := (1 : Int32)) hx hb dX7_turn_22 (by decide) ?_
  refine lv_iadd hx hb dX7_turn_23 ?_
  refine lv_aload_n hx hb dX7_turn_24 rfl (lv_at hl 2 rfl) ?_
  refine gt_X7_13 hx hb hts hown hK hP dX7_turn_25 ?_
  refine lv_iconst (v := (0 : Int32)) hx hb dX7_turn_28 (by decide) ?_
  obtain ⟨v29, h29, hf⟩ := bnd hf
  refine q_iald hx hb hK hP isC186.o isC186.k h29 dX7_turn_29 ?_
  obtain ⟨v30, h30, hf⟩ := bnd hf
  refine q_irem hx hb h30 dX7_turn_30 ?_
  refine lv_istore (lv' := [(4, .int v30), (3, .int v19), (2, .int v7), (0, .ref (w.1 (184))), (1, .int a1)]) hx hb dX7_turn_31 hl (by decide) rfl (fun ls hl => ?_)
  refine lv_aload_n hx hb dX7_turn_33 rfl (lv_at hl 3 rfl) ?_
  refine gt_X7_50 hx hb hts hown hK hP dX7_turn_34 ?_
  refine lv_bipush (v := (71 : Int32)) hx hb dX7_turn_37 (by decide) ?_
  refine lv_iload_n hx hb dX7_turn_39 rfl (lv_at hl 2 rfl) ?_
  refine lv_iadd hx hb dX7_turn_40 ?_
  obtain ⟨v41, h41, hf⟩ := bnd hf
  refine q_iald hx hb hK hP isC198.o isC198.k h41 dX7_turn_41 ?_
  refine lv_bipush (v := (-4 : Int32)) hx hb dX7_turn_42 (by decide) ?_
  refine lv_icmp_eq (tgt := 51) hx hb dX7_turn_44 (by decide) (fun hc => ?_) (fun hc => ?_)
  · have hf := ifp hc hf
    refine lv_iconst (v := (0 : Int32)) hx hb dX7_turn_51 (by decide) ?_
    refine lv_istore (lv' := [(5, .int (0 : Int32)), (4, .int v30), (3, .int v19), (2, .int v7), (0, .ref (w.1 (184))), (1, .int a1)]) hx hb dX7_turn_52 hl (by decide) rfl (fun ls hl => ?_)
    refine lv_iload_n hx hb dX7_turn_54 rfl (lv_at hl 5 rfl) ?_
    refine lv_bipush (v := (64 : Int32)) hx hb dX7_turn_55 (by decide) ?_
    refine lv_idiv hx hb dX7_turn_57 (by decide) ?_
    refine lv_bipush (v := (6 : Int32)) hx hb dX7_turn_58 (by decide) ?_
    refine q_iremL hx hb (by decide) dX7_turn_60 ?_
    rcases Decidable.em ((jrem (a1 / (64 : Int32)) (6 : Int32)) = (0 : Int32)) with hc | hc0
    · have hf := ifp hc hf
      refine lv_tableIn (off := 31) (tgt := 92) hx hb dX7_turn_61 (by rw [hc]; decide) (by rw [hc]; decide) (by rw [hc]; rfl) (by decide) ?_
      refine lv_iload hx hb dX7_turn_92 (lv_at hl 0 rfl) ?_
      refine lv_if_eq (tgt := 192) hx hb dX7_turn_94 (by decide) (fun _ => ?_) (fun hc => absurd (by decide) hc)
      have hq := Option.some.inj hf
      exact q_vret hx hb hr hlk hP hS hq dX7_turn_192
    have hf := ifn hc0 hf
    rcases Decidable.em ((jrem (a1 / (64 : Int32)) (6 : Int32)) = (1 : Int32)) with hc | hc1
    · have hf := ifp hc hf
      refine lv_tableIn (off := 56) (tgt := 117) hx hb dX7_turn_61 (by rw [hc]; decide) (by rw [hc]; decide) (by rw [hc]; rfl) (by decide) ?_
      refine lv_iload hx hb dX7_turn_117 (lv_at hl 0 rfl) ?_
      refine lv_if_eq (tgt := 192) hx hb dX7_turn_119 (by decide) (fun _ => ?_) (fun hc => absurd (by decide) hc)
      have hq := Option.some.inj hf
      exact q_vret hx hb hr hlk hP hS hq dX7_turn_192
    have hf := ifn hc1 hf
    rcases Decidable.em ((jrem (a1 / (64 : Int32)) (6 : Int32)) = (2 : Int32)) with hc | hc2
    · have hf := ifp hc hf
      refine lv_tableIn (off := 74) (tgt := 135) hx hb dX7_turn_61 (by rw [hc]; decide) (by rw [hc]; decide) (by rw [hc]; rfl) (by decide) ?_
      refine lv_aload_n hx hb dX7_turn_135 rfl (lv_at hl 4 rfl) ?_
      refine lv_aload_n hx hb dX7_turn_136 rfl (lv_at hl 4 rfl) ?_
      refine gt_X7_50 hx hb hts hown hK hP dX7_turn_137 ?_
      obtain ⟨⟨v140, σ140⟩, h140, hf⟩ := bnd hf
      dsimp only at hf
      refine q_cVi (As := [.ref (w.1 (198))]) hx hb hts hml hown hK hP hS (c_X7_passYear l D w σ (198) v140 σ140 isC198 hJ h140) hw_X7_218 hd_X7_passYear ⟨rfl, rfl, rfl⟩ o184 (ce7 kd184) rfl ⟨Nat.le_of_ble_eq_true rfl, Nat.le_of_ble_eq_true rfl⟩ ⟨Nat.le_of_ble_eq_true rfl, Nat.le_of_ble_eq_true rfl⟩ hl.1 rfl (Nat.le_of_ble_eq_true rfl) dX7_turn_140 (fun H locs hP hS => ?_)
      refine lv_pop hx hb dX7_turn_143 rfl ?_
      refine lv_goto (tgt := 192) hx hb dX7_turn_144 (by decide) ?_
      have hq := Option.some.inj hf
      exact q_vret hx hb hr hlk hP hS hq dX7_turn_192
    have hf := ifn hc2 hf
    rcases Decidable.em ((jrem (a1 / (64 : Int32)) (6 : Int32)) = (3 : Int32)) with hc | hc3
    · have hf := ifp hc hf
      refine lv_tableIn (off := 86) (tgt := 147) hx hb dX7_turn_61 (by rw [hc]; decide) (by rw [hc]; decide) (by rw [hc]; rfl) (by decide) ?_
      refine lv_aload_n hx hb dX7_turn_147 rfl (lv_at hl 4 rfl) ?_
      refine gt_X7_50 hx hb hts hown hK hP dX7_turn_148 ?_
      refine lv_iload_n hx hb dX7_turn_151 rfl (lv_at hl 2 rfl) ?_
      refine lv_iload hx hb dX7_turn_152 (lv_at hl 1 rfl) ?_
      refine lv_aload_n hx hb dX7_turn_154 rfl (lv_at hl 4 rfl) ?_
      refine gt_X7_50 hx hb hts hown hK hP dX7_turn_155 ?_
      refine lv_bipush (v := (7 : Int32)) hx hb dX7_turn_158 (by decide) ?_
      refine lv_bipush (v := (8 : Int32)) hx hb dX7_turn_160 (by decide) ?_
      refine lv_iload_n hx hb dX7_turn_162 rfl (lv_at hl 2 rfl) ?_
      refine lv_imul hx hb dX7_turn_163 ?_
      refine lv_iadd hx hb dX7_turn_164 ?_
      refine lv_iload hx hb dX7_turn_165 (lv_at hl 1 rfl) ?_
      refine lv_iadd hx hb dX7_turn_167 ?_
      obtain ⟨v168, h168, hf⟩ := bnd hf
      refine q_iald hx hb hK hP isC198.o isC198.k h168 dX7_turn_168 ?_
      refine lv_if_le (tgt := 176) hx hb dX7_turn_169 (by decide) (fun hc => ?_) (fun hc => ?_)
      · have hf := ifp hc hf
        refine lv_iload_n hx hb dX7_turn_176 rfl (lv_at hl 5 rfl) ?_
        refine lv_sipush (v := (512 : Int32)) hx hb dX7_turn_177 (by decide) ?_
        refine lv_idiv hx hb dX7_turn_180 (by decide) ?_
        refine lv_bipush (v := (9 : Int32)) hx hb dX7_turn_181 (by decide) ?_
        refine q_iremL hx hb (by decide) dX7_turn_183 ?_
        refine lv_iconst (v := (1 : Int32)) hx hb dX7_turn_184 (by decide) ?_
        refine lv_iadd hx hb dX7_turn_185 ?_
        obtain ⟨σ186, h186, hf⟩ := bnd hf
        refine q_cSv (As := [.ref (w.1 (198)), .int v19, .int v30, .int ((jrem (a1 / (512 : Int32)) (9 : Int32)) + (1 : Int32))]) hx hb hts hml hown hK hP hS (c_X7_layOn l D w σ (198) v19 v30 ((jrem (a1 / (512 : Int32)) (9 : Int32)) + (1 : Int32)) σ186 isC198 hJ h186) hw_X7_221 hd_X7_layOn ⟨rfl, rfl, rfl⟩ ⟨Nat.le_of_ble_eq_true rfl, Nat.le_of_ble_eq_true rfl⟩ ⟨Nat.le_of_ble_eq_true rfl, Nat.le_of_ble_eq_true rfl⟩ hl.1 rfl (Nat.le_of_ble_eq_true rfl) dX7_turn_186 (fun H locs hP hS => ?_)
        refine lv_goto (tgt := 192) hx hb dX7_turn_189 (by decide) ?_
        have hq := Option.some.inj hf
        exact q_vret hx hb hr hlk hP hS hq dX7_turn_192
      · have hf := ifn hc hf
        refine lv_iconst (v := (0 : Int32)) hx hb dX7_turn_172 (by decide) ?_
        refine lv_goto (tgt := 186) hx hb dX7_turn_173 (by decide) ?_
        obtain ⟨σ186, h186, hf⟩ := bnd hf
        refine q_cSv (As := [.ref (w.1 (198)), .int v19, .int v30, .int (0 : Int32)]) hx hb hts hml hown hK hP hS (c_X7_layOn l D w σ (198) v19 v30 (0 : Int32) σ186 isC198 hJ h186) hw_X7_221 hd_X7_layOn ⟨rfl, rfl, rfl⟩ ⟨Nat.le_of_ble_eq_true rfl, Nat.le_of_ble_eq_true rfl⟩ ⟨Nat.le_of_ble_eq_true rfl, Nat.le_of_ble_eq_true rfl⟩ hl.1 rfl (Nat.le_of_ble_eq_true rfl) dX7_turn_186 (fun H locs hP hS => ?_)
        refine lv_goto (tgt := 192) hx hb dX7_turn_189 (by decide) ?_
        have hq := Option.some.inj hf
        exact q_vret hx hb hr hlk hP hS hq dX7_turn_192
    have hf := ifn hc3 hf
    refine lv_tableOut (tgt := 192) hx hb dX7_turn_61 (tb_out_0_3 hc0 hc1 hc2 hc3) (by decide) ?_
    have hq := Option.some.inj hf
    exact q_vret hx hb hr hlk hP hS hq dX7_turn_192
  · have hf := ifn hc hf
    refine lv_iconst (v := (1 : Int32)) hx hb dX7_turn_47 (by decide) ?_
    refine lv_goto (tgt := 52) hx hb dX7_turn_48 (by decide) ?_
    refine lv_istore (lv' := [(5, .int (1 : Int32)), (4, .int v30), (3, .int v19), (2, .int v7), (0, .ref (w.1 (184))), (1, .int a1)]) hx hb dX7_turn_52 hl (by decide) rfl (fun ls hl => ?_)
    refine lv_iload_n hx hb dX7_turn_54 rfl (lv_at hl 5 rfl) ?_
    refine lv_bipush (v := (64 : Int32)) hx hb dX7_turn_55 (by decide) ?_
    refine lv_idiv hx hb dX7_turn_57 (by decide) ?_
    refine lv_bipush (v := (6 : Int32)) hx hb dX7_turn_58 (by decide) ?_
    refine q_iremL hx hb (by decide) dX7_turn_60 ?_
    rcases Decidable.em ((jrem (a1 / (64 : Int32)) (6 : Int32)) = (0 : Int32)) with hc | hc0
    · have hf := ifp hc hf
      refine lv_tableIn (off := 31) (tgt := 92) hx hb dX7_turn_61 (by rw [hc]; decide) (by rw [hc]; decide) (by rw [hc]; rfl) (by decide) ?_
      refine lv_iload hx hb dX7_turn_92 (lv_at hl 0 rfl) ?_
      refine lv_if_eq (tgt := 192) hx hb dX7_turn_94 (by decide) (fun hc => absurd hc (by decide)) (fun _ => ?_)
      refine lv_aload_n hx hb dX7_turn_97 rfl (lv_at hl 4 rfl) ?_
      refine lv_aload_n hx hb dX7_turn_98 rfl (lv_at hl 4 rfl) ?_
      refine gt_X7_50 hx hb hts hown hK hP dX7_turn_99 ?_
      obtain ⟨σ102, h102, hf⟩ := bnd hf
      refine q_cVv (As := [.ref (w.1 (198))]) hx hb hts hml hown hK hP hS (c_X7_measure l D w σ (198) σ102 isC198 hJ h102) hw_X7_146 hd_X7_measure ⟨rfl, rfl, rfl⟩ o184 (ce7 kd184) rfl ⟨Nat.le_of_ble_eq_true rfl, Nat.le_of_ble_eq_true rfl⟩ ⟨Nat.le_of_ble_eq_true rfl, Nat.le_of_ble_eq_true rfl⟩ hl.1 rfl (Nat.le_of_ble_eq_true rfl) dX7_turn_102 (fun H locs hP hS => ?_)
      refine lv_aload_n hx hb dX7_turn_105 rfl (lv_at hl 4 rfl) ?_
      refine lv_aload_n hx hb dX7_turn_106 rfl (lv_at hl 4 rfl) ?_
      refine gt_X7_50 hx hb hts hown hK hP dX7_turn_107 ?_
      refine lv_iload_n hx hb dX7_turn_110 rfl (lv_at hl 3 rfl) ?_
      obtain ⟨σ111, h111, hf⟩ := bnd hf
      refine q_cVv (As := [.ref (w.1 (198)), .int v7]) hx hb hts hml hown hK hP hS (c_X7_paintOn l D w σ102 (198) v7 σ111 isC198 hJ h111) hw_X7_150 hd_X7_paintOn ⟨rfl, rfl, rfl⟩ o184 (ce7 kd184) rfl ⟨Nat.le_of_ble_eq_true rfl, Nat.le_of_ble_eq_true rfl⟩ ⟨Nat.le_of_ble_eq_true rfl, Nat.le_of_ble_eq_true rfl⟩ hl.1 rfl (Nat.le_of_ble_eq_true rfl) dX7_turn_111 (fun H locs hP hS => ?_)
      refine lv_goto (tgt := 192) hx hb dX7_turn_114 (by decide) ?_
      have hq := Option.some.inj hf
      exact q_vret hx hb hr hlk hP hS hq dX7_turn_192
    have hf := ifn hc0 hf
    rcases Decidable.em ((jrem (a1 / (64 : Int32)) (6 : Int32)) = (1 : Int32)) with hc | hc1
    · have hf := ifp hc hf
      refine lv_tableIn (off := 56) (tgt := 117) hx hb dX7_turn_61 (by rw [hc]; decide) (by rw [hc]; decide) (by rw [hc]; rfl) (by decide) ?_
      refine lv_iload hx hb dX7_turn_117 (lv_at hl 0 rfl) ?_
      refine lv_if_eq (tgt := 192) hx hb dX7_turn_119 (by decide) (fun hc => absurd hc (by decide)) (fun _ => ?_)
      refine lv_aload_n hx hb dX7_turn_122 rfl (lv_at hl 4 rfl) ?_
      refine gt_X7_50 hx hb hts hown hK hP dX7_turn_123 ?_
      refine lv_bipush (v := (71 : Int32)) hx hb dX7_turn_126 (by decide) ?_
      refine lv_iload_n hx hb dX7_turn_128 rfl (lv_at hl 3 rfl) ?_
      refine lv_iadd hx hb dX7_turn_129 ?_
      refine lv_iload_n hx hb dX7_turn_130 rfl (lv_at hl 2 rfl) ?_
      obtain ⟨σ131, h131, hf⟩ := bnd hf
      refine q_iast hx hb hK hP hJ hS isC198.o isC198.k h131 dX7_turn_131 (fun H locs hP hS => ?_)
      refine lv_goto (tgt := 192) hx hb dX7_turn_132 (by decide) ?_
      have hq := Option.some.inj hf
      exact q_vret hx hb hr hlk hP hS hq dX7_turn_192
    have hf := ifn hc1 hf
    rcases Decidable.em ((jrem (a1 / (64 : Int32)) (6 : Int32)) = (2 : Int32)) with hc | hc2
    · have hf := ifp hc hf
      refine lv_tableIn (off := 74) (tgt := 135) hx hb dX7_turn_61 (by rw [hc]; decide) (by rw [hc]; decide) (by rw [hc]; rfl) (by decide) ?_
      refine lv_aload_n hx hb dX7_turn_135 rfl (lv_at hl 4 rfl) ?_
      refine lv_aload_n hx hb dX7_turn_136 rfl (lv_at hl 4 rfl) ?_
      refine gt_X7_50 hx hb hts hown hK hP dX7_turn_137 ?_
      obtain ⟨⟨v140, σ140⟩, h140, hf⟩ := bnd hf
      dsimp only at hf
      refine q_cVi (As := [.ref (w.1 (198))]) hx hb hts hml hown hK hP hS (c_X7_passYear l D w σ (198) v140 σ140 isC198 hJ h140) hw_X7_218 hd_X7_passYear ⟨rfl, rfl, rfl⟩ o184 (ce7 kd184) rfl ⟨Nat.le_of_ble_eq_true rfl, Nat.le_of_ble_eq_true rfl⟩ ⟨Nat.le_of_ble_eq_true rfl, Nat.le_of_ble_eq_true rfl⟩ hl.1 rfl (Nat.le_of_ble_eq_true rfl) dX7_turn_140 (fun H locs hP hS => ?_)
      refine lv_pop hx hb dX7_turn_143 rfl ?_
      refine lv_goto (tgt := 192) hx hb dX7_turn_144 (by decide) ?_
      have hq := Option.some.inj hf
      exact q_vret hx hb hr hlk hP hS hq dX7_turn_192
    have hf := ifn hc2 hf
    rcases Decidable.em ((jrem (a1 / (64 : Int32)) (6 : Int32)) = (3 : Int32)) with hc | hc3
    · have hf := ifp hc hf
      refine lv_tableIn (off := 86) (tgt := 147) hx hb dX7_turn_61 (by rw [hc]; decide) (by rw [hc]; decide) (by rw [hc]; rfl) (by decide) ?_
      refine lv_aload_n hx hb dX7_turn_147 rfl (lv_at hl 4 rfl) ?_
      refine gt_X7_50 hx hb hts hown hK hP dX7_turn_148 ?_
      refine lv_iload_n hx hb dX7_turn_151 rfl (lv_at hl 2 rfl) ?_
      refine lv_iload hx hb dX7_turn_152 (lv_at hl 1 rfl) ?_
      refine lv_aload_n hx hb dX7_turn_154 rfl (lv_at hl 4 rfl) ?_
      refine gt_X7_50 hx hb hts hown hK hP dX7_turn_155 ?_
      refine lv_bipush (v := (7 : Int32)) hx hb dX7_turn_158 (by decide) ?_
      refine lv_bipush (v := (8 : Int32)) hx hb dX7_turn_160 (by decide) ?_
      refine lv_iload_n hx hb dX7_turn_162 rfl (lv_at hl 2 rfl) ?_
      refine lv_imul hx hb dX7_turn_163 ?_
      refine lv_iadd hx hb dX7_turn_164 ?_
      refine lv_iload hx hb dX7_turn_165 (lv_at hl 1 rfl) ?_
      refine lv_iadd hx hb dX7_turn_167 ?_
      obtain ⟨v168, h168, hf⟩ := bnd hf
      refine q_iald hx hb hK hP isC198.o isC198.k h168 dX7_turn_168 ?_
      refine lv_if_le (tgt := 176) hx hb dX7_turn_169 (by decide) (fun hc => ?_) (fun hc => ?_)
      · have hf := ifp hc hf
        refine lv_iload_n hx hb dX7_turn_176 rfl (lv_at hl 5 rfl) ?_
        refine lv_sipush (v := (512 : Int32)) hx hb dX7_turn_177 (by decide) ?_
        refine lv_idiv hx hb dX7_turn_180 (by decide) ?_
        refine lv_bipush (v := (9 : Int32)) hx hb dX7_turn_181 (by decide) ?_
        refine q_iremL hx hb (by decide) dX7_turn_183 ?_
        refine lv_iconst (v := (1 : Int32)) hx hb dX7_turn_184 (by decide) ?_
        refine lv_iadd hx hb dX7_turn_185 ?_
        obtain ⟨σ186, h186, hf⟩ := bnd hf
        refine q_cSv (As := [.ref (w.1 (198)), .int v19, .int v30, .int ((jrem (a1 / (512 : Int32)) (9 : Int32)) + (1 : Int32))]) hx hb hts hml hown hK hP hS (c_X7_layOn l D w σ (198) v19 v30 ((jrem (a1 / (512 : Int32)) (9 : Int32)) + (1 : Int32)) σ186 isC198 hJ h186) hw_X7_221 hd_X7_layOn ⟨rfl, rfl, rfl⟩ ⟨Nat.le_of_ble_eq_true rfl, Nat.le_of_ble_eq_true rfl⟩ ⟨Nat.le_of_ble_eq_true rfl, Nat.le_of_ble_eq_true rfl⟩ hl.1 rfl (Nat.le_of_ble_eq_true rfl) dX7_turn_186 (fun H locs hP hS => ?_)
        refine lv_goto (tgt := 192) hx hb dX7_turn_189 (by decide) ?_
        have hq := Option.some.inj hf
        exact q_vret hx hb hr hlk hP hS hq dX7_turn_192
      · have hf := ifn hc hf
        refine lv_iconst (v := (0 : Int32)) hx hb dX7_turn_172 (by decide) ?_
        refine lv_goto (tgt := 186) hx hb dX7_turn_173 (by decide) ?_
        obtain ⟨σ186, h186, hf⟩ := bnd hf
        refine q_cSv (As := [.ref (w.1 (198)), .int v19, .int v30, .int (0 : Int32)]) hx hb hts hml hown hK hP hS (c_X7_layOn l D w σ (198) v19 v30 (0 : Int32) σ186 isC198 hJ h186) hw_X7_221 hd_X7_layOn ⟨rfl, rfl, rfl⟩ ⟨Nat.le_of_ble_eq_true rfl, Nat.le_of_ble_eq_true rfl⟩ ⟨Nat.le_of_ble_eq_true rfl, Nat.le_of_ble_eq_true rfl⟩ hl.1 rfl (Nat.le_of_ble_eq_true rfl) dX7_turn_186 (fun H locs hP hS => ?_)
        refine lv_goto (tgt := 192) hx hb dX7_turn_189 (by decide) ?_
        have hq := Option.some.inj hf
        exact q_vret hx hb hr hlk hP hS hq dX7_turn_192
    have hf := ifn hc3 hf
    refine lv_tableOut (tgt := 192) hx hb dX7_turn_61 (tb_out_0_3 hc0 hc1 hc2 hc3) (by decide) ?_
    have hq := Option.some.inj hf
    exact q_vret hx hb hr hlk hP hS hq dX7_turn_192
def f_X7_century_b1 (a1 : Int32) (a2 : Int32) (x4_39 : Int32) (σ_39 : Sg) : Option ((Int32 × Sg) ⊕ Sg) :=
  if a2 ≤ x4_39 then
  some (.inr σ_39)
  else
  (f_X7_turn σ_39 (((jreml (((((7919 : Int64) * (a1).toInt64) + ((6151 : Int64) * (x4_39).toInt64)) + (1 : Int64)) * ((((7919 : Int64) * (a1).toInt64) + ((6151 : Int64) * (x4_39).toInt64)) + (1 : Int64))) (65521 : Int64))).toInt32 / (2 : Int32))).bind fun σ76 =>
  (f_X7_passHour σ76 (198)).bind fun σ84 =>
  some (.inl ((x4_39 + (1 : Int32)), σ84))
def f_X7_century_k1 (a3 : Int32) (σ_93 : Sg) : Option (Int32 × Sg) :=
  if ¬ a3 = 0 then
  if ¬ a3 = (1 : Int32) then
  (f_X7_roadsOf σ_93 (198) (1 : Int32)).bind fun v129 =>
  some (v129, σ_93)
  else
  (f_X7_retiredOf σ_93 (198)).bind fun v118 =>
  some (v118, σ_93)
  else
  (f_X7_comeTo σ_93 (198)).bind fun v102 =>
  some (v102, σ_93)
def f_X7_century (σ : Sg) (a1 : Int32) (a2 : Int32) (a3 : Int32) : Option (Int32 × Sg) :=
  (f_X7_in σ a1 (0 : Int32) (9999 : Int32)).bind fun v5 =>
  if v5 = 0 then
  some ((-1 : Int32), σ)
  else
  (f_X7_in σ a2 (1 : Int32) (60 : Int32)).bind fun v15 =>
  if v15 = 0 then
  some ((-1 : Int32), σ)
  else
  (f_X7_in σ a3 (0 : Int32) (2 : Int32)).bind fun v24 =>
  if ¬ v24 = 0 then
  (f_X7_take σ).bind fun σ33 =>
  (lp (fun st => f_X7_century_b1 a1 a2 st.1 st.2) FU ((0 : Int32), σ33)).bind fun rr => f_X7_century_k1 a3 rr
  else
  some ((-1 : Int32), σ)
set_option maxHeartbeats 4000000 in
set_option maxRecDepth 100000 in
theorem c_X7_century (l : Launch) (D : va_G) (w : Wv) (σ : Sg) (a1 : Int32) (a2 : Int32) (a3 : Int32) (r : Int32) (σ' : Sg)  (hJ : Inj w) (hf : f_X7_century σ a1 a2 a3 = some (r, σ')) : Met l yX7_century (.code yX7_century cX7_century 7 (some .int) :: TB) (rmW 4 103) (pcW D w [.ref (w.1 (184)), .int a1, .int a2, .int a3] σ) (qiW D w r σ') 0 0 (AL w) := by
  refine q_open (by decide +kernel) (Nat.le_of_ble_eq_true rfl) ?_
  intro p e s m args below meth c ls hx hb hml hr hlk hown hts hK hP hS hl
  have hown : s.vm.findClass RX7 = some m.cls := hown
  have hl : lv_has ls 7 [(0, .ref (w.1 (184))), (1, .int a1), (2, .int a2), (3, .int a3)] := hl
  unfold f_X7_century at hf
  refine lv_iload_n hx hb dX7_century_0 rfl (lv_at hl 1 rfl) ?_
  refine lv_iconst (v := (0 : Int32)) hx hb dX7_century_1 (by decide) ?_
  refine lv_sipush (v := (9999 : Int32)) hx hb dX7_century_2 (by decide) ?_
  obtain ⟨v5, h5, hf⟩ := bnd hf
  refine q_cSz (As := [.int a1, .int (0 : Int32), .int (9999 : Int32)]) hx hb hts hml hown hK hP hS (c_X7_in l D w σ a1 (0 : Int32) (9999 : Int32) v5 h5) hw_X7_83 hd_X7_in ⟨rfl, rfl, rfl⟩ ⟨Nat.le_of_ble_eq_true rfl, Nat.le_of_ble_eq_true rfl⟩ ⟨Nat.le_of_ble_eq_true rfl, Nat.le_of_ble_eq_true rfl⟩ hl.1 rfl (Nat.le_of_ble_eq_true rfl) dX7_century_5 (fun hz5 H locs hP hS => ?_)
  refine lv_if_eq (tgt := 30) hx hb dX7_century_8 (by decide) (fun hc => ?_) (fun hc => ?_)
  · have hf := ifp hc hf
    refine lv_iconst (v := (-1 : Int32)) hx hb dX7_century_30 (by decide) ?_
    have hq := Option.some.inj hf
    exact q_iret hx hb hr hlk hP hS (congrArg Prod.fst hq) (congrArg Prod.snd hq) dX7_century_31
  · have hf := ifn hc hf
    refine lv_iload_n hx hb dX7_century_11 rfl (lv_at hl 2 rfl) ?_
    refine lv_iconst (v := (1 : Int32)) hx hb dX7_century_12 (by decide) ?_
    refine lv_bipush (v := (60 : Int32)) hx hb dX7_century_13 (by decide) ?_
    obtain ⟨v15, h15, hf⟩ := bnd hf
    refine q_cSz (As := [.int a2, .int (1 : Int32), .int (60 : Int32)]) hx hb hts hml hown hK hP hS (c_X7_in l D w σ a2 (1 : Int32) (60 : Int32) v15 h15) hw_X7_83 hd_X7_in ⟨rfl, rfl, rfl⟩ ⟨Nat.le_of_ble_eq_true rfl, Nat.le_of_ble_eq_true rfl⟩ ⟨Nat.le_of_ble_eq_true rfl, Nat.le_of_ble_eq_true rfl⟩ hl.1 rfl (Nat.le_of_ble_eq_true rfl) dX7_century_15 (fun hz15 H locs hP hS => ?_)
    refine lv_if_eq (tgt := 30) hx hb dX7_century_18 (by decide) (fun hc => ?_) (fun hc => ?_)
    · have hf := ifp hc hf
      refine lv_iconst (v := (-1 : Int32)) hx hb dX7_century_30 (by decide) ?_
      have hq := Option.some.inj hf
      exact q_iret hx hb hr hlk hP hS (congrArg Prod.fst hq) (congrArg Prod.snd hq) dX7_century_31
    · have hf := ifn hc hf
      refine lv_iload_n hx hb dX7_century_21 rfl (lv_at hl 3 rfl) ?_
      refine lv_iconst (v := (0 : Int32)) hx hb dX7_century_22 (by decide) ?_
      refine lv_iconst (v := (2 : Int32)) hx hb dX7_century_23 (by decide) ?_
      obtain ⟨v24, h24, hf⟩ := bnd hf
      refine q_cSz (As := [.int a3, .int (0 : Int32), .int (2 : Int32)]) hx hb hts hml hown hK hP hS (c_X7_in l D w σ a3 (0 : Int32) (2 : Int32) v24 h24) hw_X7_83 hd_X7_in ⟨rfl, rfl, rfl⟩ ⟨Nat.le_of_ble_eq_true rfl, Nat.le_of_ble_eq_true rfl⟩ ⟨Nat.le_of_ble_eq_true rfl, Nat.le_of_ble_eq_true rfl⟩ hl.1 rfl (Nat.le_of_ble_eq_true rfl) dX7_century_24 (fun hz24 H locs hP hS => ?_)
      refine lv_if_ne (tgt := 32) hx hb dX7_century_27 (by decide) (fun hc => ?_) (fun hc => ?_)
      · have hf := ifp hc hf
        refine lv_aload_n hx hb dX7_century_32 rfl (lv_at hl 0 rfl) ?_
        obtain ⟨σ33, h33, hf⟩ := bnd hf
        refine q_cVv (As := []) hx hb hts hml hown hK hP hS (c_X7_take l D w σ σ33 hJ h33) hw_X7_225 hd_X7_take ⟨rfl, rfl, rfl⟩ o184 (ce7 kd184) rfl ⟨Nat.le_of_ble_eq_true rfl, Nat.le_of_ble_eq_true rfl⟩ ⟨Nat.le_of_ble_eq_true rfl, Nat.le_of_ble_eq_true rfl⟩ hl.1 rfl (Nat.le_of_ble_eq_true rfl) dX7_century_33 (fun H locs hP hS => ?_)
        refine lv_iconst (v := (0 : Int32)) hx hb dX7_century_36 (by decide) ?_
        refine lv_istore (lv' := [(4, .int (0 : Int32)), (0, .ref (w.1 (184))), (1, .int a1), (2, .int a2), (3, .int a3)]) hx hb dX7_century_37 hl (by decide) rfl (fun ls hl => ?_)
        obtain ⟨rr, hlp, hf⟩ := bnd hf
        have hE39_93 : ∀ (σ_93 : Sg) (H : Heap) (locs : List Loc) (ls : Array Slot), f_X7_century_k1 a3 σ_93 = some (r, σ') → va_P D vwCl (WL w σ_93) H → va_S (AL w) s.heap H locs → lv_has ls 7 [(0, .ref (w.1 (184))), (3, .int a3)] → W p l e (rmW 4 103) s m args below meth c H locs 0 0 (MQ below (qiW D w r σ') args s 0 0 (AL w)) (F0 m 93 ls []) := by
          intro σ_93 H locs ls hf hP hS hl
          unfold f_X7_century_k1 at hf
          refine lv_iload_n hx hb dX7_century_93 rfl (lv_at hl 1 rfl) ?_
          refine lv_if_ne (tgt := 108) hx hb dX7_century_94 (by decide) (fun hc => ?_) (fun hc => ?_)
          · have hf := ifp hc hf
            refine lv_iload_n hx hb dX7_century_108 rfl (lv_at hl 1 rfl) ?_
            refine lv_iconst (v := (1 : Int32)) hx hb dX7_century_109 (by decide) ?_
            refine lv_icmp_ne (tgt := 124) hx hb dX7_century_110 (by decide) (fun hc => ?_) (fun hc => ?_)
            · have hf := ifp hc hf
              refine lv_aload_n hx hb dX7_century_124 rfl (lv_at hl 0 rfl) ?_
              refine gt_X7_50 hx hb hts hown hK hP dX7_century_125 ?_
              refine lv_iconst (v := (1 : Int32)) hx hb dX7_century_128 (by decide) ?_
              obtain ⟨v129, h129, hf⟩ := bnd hf
              refine q_cSi (As := [.ref (w.1 (198)), .int (1 : Int32)]) hx hb hts hml hown hK hP hS (c_X7_roadsOf l D w σ_93 (198) (1 : Int32) v129 isC198 h129) hw_X7_256 hd_X7_roadsOf ⟨rfl, rfl, rfl⟩ ⟨Nat.le_of_ble_eq_true rfl, Nat.le_of_ble_eq_true rfl⟩ ⟨Nat.le_of_ble_eq_true rfl, Nat.le_of_ble_eq_true rfl⟩ hl.1 rfl (Nat.le_of_ble_eq_true rfl) dX7_century_129 (fun H locs hP hS => ?_)
              have hq := Option.some.inj hf
              exact q_iret hx hb hr hlk hP hS (congrArg Prod.fst hq) (congrArg Prod.snd hq) dX7_century_132
            · have hf := ifn (fun h => h hc) hf
              refine lv_aload_n hx hb dX7_century_113 rfl (lv_at hl 0 rfl) ?_
              refine lv_aload_n hx hb dX7_century_114 rfl (lv_at hl 0 rfl) ?_
              refine gt_X7_50 hx hb hts hown hK hP dX7_century_115 ?_
              obtain ⟨v118, h118, hf⟩ := bnd hf
              refine q_cVi (As := [.ref (w.1 (198))]) hx hb hts hml hown hK hP hS (c_X7_retiredOf l D w σ_93 (198) v118 isC198 h118) hw_X7_253 hd_X7_retiredOf ⟨rfl, rfl, rfl⟩ o184 (ce7 kd184) rfl ⟨Nat.le_of_ble_eq_true rfl, Nat.le_of_ble_eq_true rfl⟩ ⟨Nat.le_of_ble_eq_true rfl, Nat.le_of_ble_eq_true rfl⟩ hl.1 rfl (Nat.le_of_ble_eq_true rfl) dX7_century_118 (fun H locs hP hS => ?_)
              refine lv_goto (tgt := 132) hx hb dX7_century_121 (by decide) ?_
              have hq := Option.some.inj hf
              exact q_iret hx hb hr hlk hP hS (congrArg Prod.fst hq) (congrArg Prod.snd hq) dX7_century_132
          · have hf := ifn (fun h => h hc) hf
            refine lv_aload_n hx hb dX7_century_97 rfl (lv_at hl 0 rfl) ?_
            refine lv_aload_n hx hb dX7_century_98 rfl (lv_at hl 0 rfl) ?_
            refine gt_X7_50 hx hb hts hown hK hP dX7_century_99 ?_
            obtain ⟨v102, h102, hf⟩ := bnd hf
            refine q_cVi (As := [.ref (w.1 (198))]) hx hb hts hml hown hK hP hS (c_X7_comeTo l D w σ_93 (198) v102 isC198 h102) hw_X7_201 hd_X7_comeTo ⟨rfl, rfl, rfl⟩ o184 (ce7 kd184) rfl ⟨Nat.le_of_ble_eq_true rfl, Nat.le_of_ble_eq_true rfl⟩ ⟨Nat.le_of_ble_eq_true rfl, Nat.le_of_ble_eq_true rfl⟩ hl.1 rfl (Nat.le_of_ble_eq_true rfl) dX7_century_102 (fun H locs hP hS => ?_)
            refine lv_goto (tgt := 132) hx hb dX7_century_105 (by decide) ?_
            have hq := Option.some.inj hf
            exact q_iret hx hb hr hlk hP hS (congrArg Prod.fst hq) (congrArg Prod.snd hq) dX7_century_132
        refine lp_ind (G := fun (st : (Int32 × Sg)) => ∀ (H : Heap) (locs : List Loc) (ls : Array Slot), va_P D vwCl (WL w st.2) H → va_S (AL w) s.heap H locs → lv_has ls 7 [(0, .ref (w.1 (184))), (1, .int a1), (2, .int a2), (3, .int a3), (4, .int st.1)] → W p l e (rmW 4 103) s m args below meth c H locs 0 0 (MQ below (qiW D w r σ') args s 0 0 (AL w)) (F0 m 39 ls [])) (X := fun rr => f_X7_century_k1 a3 rr = some (r, σ')) ?_ _ _ rr hlp hf _ _ _ hP hS (lv_sub hl [1, 2, 3, 4, 0] rfl)
        rintro ⟨x4_39, σ_39⟩ oo39 hb9 hG39 hX39 H locs ls hP hS hl
        have hP : va_P D vwCl (WL w σ_39) H := hP
        have hl : lv_has ls 7 [(0, .ref (w.1 (184))), (1, .int a1), (2, .int a2), (3, .int a3), (4, .int x4_39)] := hl
        have hf : f_X7_century_b1 a1 a2 x4_39 σ_39 = some oo39 := hb9
        unfold f_X7_century_b1 at hf
        refine lv_iload hx hb dX7_century_39 (lv_at hl 4 rfl) ?_
        refine lv_iload_n hx hb dX7_century_41 rfl (lv_at hl 2 rfl) ?_
        refine lv_icmp_ge (tgt := 93) hx hb dX7_century_42 (by decide) (fun hc => ?_) (fun hc => ?_)
        · have hf := ifp hc hf
          obtain rfl := Option.some.inj hf
          exact hE39_93 σ_39 _ _ _ (hX39 _ rfl) hP hS (lv_sub hl [0, 3] rfl)
        · have hf := ifn hc hf
          refine lv_ldc2 (v := (7919 : Int64)) hx hb hown (hts _ tw_1189) dX7_century_45 ?_
          refine lv_iload_n hx hb dX7_century_48 rfl (lv_at hl 1 rfl) ?_
          refine lv_i2l hx hb dX7_century_49 rfl ?_
          refine lv_lmul hx hb dX7_century_50 ?_
          refine lv_ldc2 (v := (6151 : Int64)) hx hb hown (hts _ tw_1190) dX7_century_51 ?_
          refine lv_iload hx hb dX7_century_54 (lv_at hl 4 rfl) ?_
          refine lv_i2l hx hb dX7_century_56 rfl ?_
          refine lv_lmul hx hb dX7_century_57 ?_
          refine lv_ladd hx hb dX7_century_58 ?_
          refine lv_lconst (v := (1 : Int64)) hx hb dX7_century_59 (by decide) ?_
          refine lv_ladd hx hb dX7_century_60 ?_
          refine lv_lstore (lv' := [(5, .long ((((7919 : Int64) * (a1).toInt64) + ((6151 : Int64) * (x4_39).toInt64)) + (1 : Int64))), (0, .ref (w.1 (184))), (1, .int a1), (2, .int a2), (3, .int a3), (4, .int x4_39)]) hx hb dX7_century_61 hl (by decide) rfl (fun ls hl => ?_)
          refine lv_aload_n hx hb dX7_century_63 rfl (lv_at hl 1 rfl) ?_
          refine lv_lload hx hb dX7_century_64 (lv_at hl 0 rfl) ?_
          refine lv_lload hx hb dX7_century_66 (lv_at hl 0 rfl) ?_
          refine lv_lmul hx hb dX7_century_68 ?_
          refine lv_ldc2 (v := (65521 : Int64)) hx hb hown (hts _ tw_1191) dX7_century_69 ?_
          refine q_lremL hx hb (by decide) dX7_century_72 ?_
          refine lv_l2i hx hb dX7_century_73 rfl ?_
          refine lv_iconst (v := (2 : Int32)) hx hb dX7_century_74 (by decide) ?_
          refine lv_idiv hx hb dX7_century_75 (by decide) ?_
          obtain ⟨σ76, h76, hf⟩ := bnd hf
          refine q_cVv (As := [.int (((jreml (((((7919 : Int64) * (a1).toInt64) + ((6151 : Int64) * (x4_39).toInt64)) + (1 : Int64)) * ((((7919 : Int64) * (a1).toInt64) + ((6151 : Int64) * (x4_39).toInt64)) + (1 : Int64))) (65521 : Int64))).toInt32 / (2 : Int32))]) hx hb hts hml hown hK hP hS (c_X7_turn l D w σ_39 (((jreml (((((7919 : Int64) * (a1).toInt64) + ((6151 : Int64) * (x4_39).toInt64)) + (1 : Int64)) * ((((7919 : Int64) * (a1).toInt64) + ((6151 : Int64) * (x4_39).toInt64)) + (1 : Int64))) (65521 : Int64))).toInt32 / (2 : Int32)) σ76 hJ h76) hw_X7_250 hd_X7_turn ⟨rfl, rfl, rfl⟩ o184 (ce7 kd184) rfl ⟨Nat.le_of_ble_eq_true rfl, Nat.le_of_ble_eq_true rfl⟩ ⟨Nat.le_of_ble_eq_true rfl, Nat.le_of_ble_eq_true rfl⟩ hl.1 rfl (Nat.le_of_ble_eq_true rfl) dX7_century_76 (fun H locs hP hS => ?_)
          refine lv_aload_n hx hb dX7_century_79 rfl (lv_at hl 1 rfl) ?_
          refine lv_aload_n hx hb dX7_century_80 rfl (lv_at hl 1 rfl) ?_
          refine gt_X7_50 hx hb hts hown hK hP dX7_century_81 ?_
          obtain ⟨σ84, h84, hf⟩ := bnd hf
          refine q_cVv (As := [.ref (w.1 (198))]) hx hb hts hml hown hK hP hS (c_X7_passHour l D w σ76 (198) σ84 isC198 hJ h84) hw_X7_198 hd_X7_passHour ⟨rfl, rfl, rfl⟩ o184 (ce7 kd184) rfl ⟨Nat.le_of_ble_eq_true rfl, Nat.le_of_ble_eq_true rfl⟩ ⟨Nat.le_of_ble_eq_true rfl, Nat.le_of_ble_eq_true rfl⟩ hl.1 rfl (Nat.le_of_ble_eq_true rfl) dX7_century_84 (fun H locs hP hS => ?_)
          refine lv_iinc (v := (x4_39 + (1 : Int32))) (lv' := [(4, .int (x4_39 + (1 : Int32))), (5, .long ((((7919 : Int64) * (a1).toInt64) + ((6151 : Int64) * (x4_39).toInt64)) + (1 : Int64))), (0, .ref (w.1 (184))), (1, .int a1), (2, .int a2), (3, .int a3)]) hx hb dX7_century_87 hl (k := 5) rfl ii_1 (by decide) rfl (fun ls hl => ?_)
          refine lv_goto (tgt := 39) hx hb dX7_century_90 (by decide) ?_
          obtain rfl := Option.some.inj hf
          exact hG39 _ rfl _ _ _ hP hS (lv_sub hl [2, 3, 4, 5, 0] rfl)
      · have hf := ifn (fun h => h hc) hf
        refine lv_iconst (v := (-1 : Int32)) hx hb dX7_century_30 (by decide) ?_
        have hq := Option.some.inj hf
        exact q_iret hx hb hr hlk hP hS (congrArg Prod.fst hq) (congrArg Prod.snd hq) dX7_century_31
def f_X7_keep_b1 (x1_13 : Int32) (σ_13 : Sg) : Option ((Int32 × Sg) ⊕ Sg) :=
  if (179 : Int32) ≤ x1_13 then
  some (.inr σ_13)
  else
  (ga (σ_13 (195)) (ln (195)) x1_13).bind fun v39 =>
  (sa σ_13 (197) (ln (197)) (((179 : Int32) * (σ_13 184 18)) + x1_13) v39).bind fun σ40 =>
  some (.inl ((x1_13 + (1 : Int32)), σ40))
def f_X7_keep_k1 (σ_47 : Sg) : Option (Int32 × Sg) :=
  (some (sf σ_47 (184) 18 ((σ_47 184 18) + (1 : Int32)))).bind fun σ54 =>
  some ((σ54 184 18), σ54)
def f_X7_keep (σ : Sg)  : Option (Int32 × Sg) :=
  if ¬ (σ 184 18) = (2 : Int32) then
  (lp (fun st => f_X7_keep_b1  st.1 st.2) FU ((0 : Int32), σ)).bind fun rr => f_X7_keep_k1 rr
  else
  some ((-3 : Int32), σ)
set_option maxHeartbeats 4000000 in
set_option maxRecDepth 100000 in
theorem c_X7_keep (l : Launch) (D : va_G) (w : Wv) (σ : Sg)  (r : Int32) (σ' : Sg)  (hJ : Inj w) (hf : f_X7_keep σ = some (r, σ')) : Met l yX7_keep (.code yX7_keep cX7_keep 2 (some .int) :: TB) (rmW 0 0) (pcW D w [.ref (w.1 (184))] σ) (qiW D w r σ') 0 0 (AL w) := by
  refine q_open (by decide +kernel) (Nat.le_of_ble_eq_true rfl) ?_
  intro p e s m args below meth c ls hx hb hml hr hlk hown hts hK hP hS hl
  have hown : s.vm.findClass RX7 = some m.cls := hown
  have hl : lv_has ls 2 [(0, .ref (w.1 (184)))] := hl
  unfold f_X7_keep at hf
  refine lv_aload_n hx hb dX7_keep_0 rfl (lv_at hl 0 rfl) ?_
  refine gt_X7_157 hx hb hts hown hK hP dX7_keep_1 ?_
  refine lv_iconst (v := (2 : Int32)) hx hb dX7_keep_4 (by decide) ?_
  refine lv_icmp_ne (tgt := 11) hx hb dX7_keep_5 (by decide) (fun hc => ?_) (fun hc => ?_)
  · have hf := ifp hc hf
    refine lv_iconst (v := (0 : Int32)) hx hb dX7_keep_11 (by decide) ?_
    refine lv_istore_n (lv' := [(1, .int (0 : Int32)), (0, .ref (w.1 (184)))]) hx hb dX7_keep_12 rfl hl (by decide) rfl (fun ls hl => ?_)
    obtain ⟨rr, hlp, hf⟩ := bnd hf
    have hE13_47 : ∀ (σ_47 : Sg) (H : Heap) (locs : List Loc) (ls : Array Slot), f_X7_keep_k1 σ_47 = some (r, σ') → va_P D vwCl (WL w σ_47) H → va_S (AL w) s.heap H locs → lv_has ls 2 [(0, .ref (w.1 (184)))] → W p l e (rmW 0 0) s m args below meth c H locs 0 0 (MQ below (qiW D w r σ') args s 0 0 (AL w)) (F0 m 47 ls []) := by
      intro σ_47 H locs ls hf hP hS hl
      unfold f_X7_keep_k1 at hf
      refine lv_aload_n hx hb dX7_keep_47 rfl (lv_at hl 0 rfl) ?_
      refine lv_dup hx hb dX7_keep_48 rfl ?_
      refine gt_X7_157 hx hb hts hown hK hP dX7_keep_49 ?_
      refine lv_iconst (v := (1 : Int32)) hx hb dX7_keep_52 (by decide) ?_
      refine lv_iadd hx hb dX7_keep_53 ?_
      obtain ⟨σ54, h54, hf⟩ := bnd hf
      refine pt_X7_157 hx hb hts hown hK hP hJ hS h54 dX7_keep_54 (fun H locs hP hS => ?_)
      refine lv_aload_n hx hb dX7_keep_57 rfl (lv_at hl 0 rfl) ?_
      refine gt_X7_157 hx hb hts hown hK hP dX7_keep_58 ?_
      have hq := Option.some.inj hf
      exact q_iret hx hb hr hlk hP hS (congrArg Prod.fst hq) (congrArg Prod.snd hq) dX7_keep_61
    refine lp_ind (G := fun (st : (Int32 × Sg)) => ∀ (H : Heap) (locs : List Loc) (ls : Array Slot), va_P D vwCl (WL w st.2) H → va_S (AL w) s.heap H locs → lv_has ls 2 [(0, .ref (w.1 (184))), (1, .int st.1)] → W p l e (rmW 0 0) s m args below meth c H locs 0 0 (MQ below (qiW D w r σ') args s 0 0 (AL w)) (F0 m 13 ls [])) (X := fun rr => f_X7_keep_k1 rr = some (r, σ')) ?_ _ _ rr hlp hf _ _ _ hP hS (lv_sub hl [1, 0] rfl)
    rintro ⟨x1_13, σ_13⟩ oo13 hb9 hG13 hX13 H locs ls hP hS hl
    have hP : va_P D vwCl (WL w σ_13) H := hP
    have hl : lv_has ls 2 [(0, .ref (w.1 (184))), (1, .int x1_13)] := hl
    have hf : f_X7_keep_b1  x1_13 σ_13 = some oo13 := hb9
    unfold f_X7_keep_b1 at hf
    refine lv_iload_n hx hb dX7_keep_13 rfl (lv_at hl 1 rfl) ?_
    refine lv_sipush (v := (179 : Int32)) hx hb dX7_keep_14 (by decide) ?_
    refine lv_icmp_ge (tgt := 47) hx hb dX7_keep_17 (by decide) (fun hc => ?_) (fun hc => ?_)
    · have hf := ifp hc hf
      obtain rfl := Option.some.inj hf
      exact hE13_47 σ_13 _ _ _ (hX13 _ rfl) hP hS (lv_sub hl [0] rfl)
    · have hf := ifn hc hf
      refine lv_aload_n hx hb dX7_keep_20 rfl (lv_at hl 0 rfl) ?_
      refine gt_X7_47 hx hb hts hown hK hP dX7_keep_21 ?_
      refine lv_sipush (v := (179 : Int32)) hx hb dX7_keep_24 (by decide) ?_
      refine lv_aload_n hx hb dX7_keep_27 rfl (lv_at hl 0 rfl) ?_
      refine gt_X7_157 hx hb hts hown hK hP dX7_keep_28 ?_
      refine lv_imul hx hb dX7_keep_31 ?_
      refine lv_iload_n hx hb dX7_keep_32 rfl (lv_at hl 1 rfl) ?_
      refine lv_iadd hx hb dX7_keep_33 ?_
      refine lv_aload_n hx hb dX7_keep_34 rfl (lv_at hl 0 rfl) ?_
      refine gt_X7_41 hx hb hts hown hK hP dX7_keep_35 ?_
      refine lv_iload_n hx hb dX7_keep_38 rfl (lv_at hl 1 rfl) ?_
      obtain ⟨v39, h39, hf⟩ := bnd hf
      refine q_iald hx hb hK hP isC195.o isC195.k h39 dX7_keep_39 ?_
      obtain ⟨σ40, h40, hf⟩ := bnd hf
      refine q_iast hx hb hK hP hJ hS isC197.o isC197.k h40 dX7_keep_40 (fun H locs hP hS => ?_)
      refine lv_iinc (v := (x1_13 + (1 : Int32))) (lv' := [(1, .int (x1_13 + (1 : Int32))), (0, .ref (w.1 (184)))]) hx hb dX7_keep_41 hl (k := 1) rfl ii_1 (by decide) rfl (fun ls hl => ?_)
      refine lv_goto (tgt := 13) hx hb dX7_keep_44 (by decide) ?_
      obtain rfl := Option.some.inj hf
      exact hG13 _ rfl _ _ _ hP hS (lv_sub hl [1, 0] rfl)
  · have hf := ifn (fun h => h hc) hf
    refine lv_bipush (v := (-3 : Int32)) hx hb dX7_keep_8 (by decide) ?_
    have hq := Option.some.inj hf
    exact q_iret hx hb hr hlk hP hS (congrArg Prod.fst hq) (congrArg Prod.snd hq) dX7_keep_10
def f_X7_back_b1 (x1_22 : Int32) (σ_22 : Sg) : Option ((Int32 × Sg) ⊕ Sg) :=
  if (179 : Int32) ≤ x1_22 then
  some (.inr σ_22)
  else
  (ga (σ_22 (197)) (ln (197)) (((179 : Int32) * (σ_22 184 18)) + x1_22)).bind fun v48 =>
  (sa σ_22 (195) (ln (195)) x1_22 v48).bind fun σ49 =>
  some (.inl ((x1_22 + (1 : Int32)), σ49))
def f_X7_back_k1 (σ_56 : Sg) : Option (Int32 × Sg) :=
  (some (sf σ_56 (184) 16 (0 : Int32))).bind fun σ58 =>
  some ((σ58 184 18), σ58)
def f_X7_back (σ : Sg)  : Option (Int32 × Sg) :=
  if ¬ (σ 184 18) = 0 then
  (some (sf σ (184) 18 ((σ 184 18) - (1 : Int32)))).bind fun σ17 =>
  (lp (fun st => f_X7_back_b1  st.1 st.2) FU ((0 : Int32), σ17)).bind fun rr => f_X7_back_k1 rr
  else
  some ((-2 : Int32), σ)
set_option maxHeartbeats 4000000 in
set_option maxRecDepth 100000 in
theorem c_X7_back (l : Launch) (D : va_G) (w : Wv) (σ : Sg)  (r : Int32) (σ' : Sg)  (hJ : Inj w) (hf : f_X7_back σ = some (r, σ')) : Met l yX7_back (.code yX7_back cX7_back 2 (some .int) :: TB) (rmW 0 0) (pcW D w [.ref (w.1 (184))] σ) (qiW D w r σ') 0 0 (AL w) := by
  refine q_open (by decide +kernel) (Nat.le_of_ble_eq_true rfl) ?_
  intro p e s m args below meth c ls hx hb hml hr hlk hown hts hK hP hS hl
  have hown : s.vm.findClass RX7 = some m.cls := hown
  have hl : lv_has ls 2 [(0, .ref (w.1 (184)))] := hl
  unfold f_X7_back at hf
  refine lv_aload_n hx hb dX7_back_0 rfl (lv_at hl 0 rfl) ?_
  refine gt_X7_157 hx hb hts hown hK hP dX7_back_1 ?_
  refine lv_if_ne (tgt := 10) hx hb dX7_back_4 (by decide) (fun hc => ?_) (fun hc => ?_)
  · have hf := ifp hc hf
    refine lv_aload_n hx hb dX7_back_10 rfl (lv_at hl 0 rfl) ?_
    refine lv_dup hx hb dX7_back_11 rfl ?_
    refine gt_X7_157 hx hb hts hown hK hP dX7_back_12 ?_
    refine lv_iconst (v := (1 : Int32)) hx hb dX7_back_15 (by decide) ?_
    refine lv_isub hx hb dX7_back_16 ?_
    obtain ⟨σ17, h17, hf⟩ := bnd hf
    refine pt_X7_157 hx hb hts hown hK hP hJ hS h17 dX7_back_17 (fun H locs hP hS => ?_)
    refine lv_iconst (v := (0 : Int32)) hx hb dX7_back_20 (by decide) ?_
    refine lv_istore_n (lv' := [(1, .int (0 : Int32)), (0, .ref (w.1 (184)))]) hx hb dX7_back_21 rfl hl (by decide) rfl (fun ls hl => ?_)
    obtain ⟨rr, hlp, hf⟩ := bnd hf
    have hE22_56 : ∀ (σ_56 : Sg) (H : Heap) (locs : List Loc) (ls : Array Slot), f_X7_back_k1 σ_56 = some (r, σ') → va_P D vwCl (WL w σ_56) H → va_S (AL w) s.heap H locs → lv_has ls 2 [(0, .ref (w.1 (184)))] → W p l e (rmW 0 0) s m args below meth c H locs 0 0 (MQ below (qiW D w r σ') args s 0 0 (AL w)) (F0 m 56 ls []) := by
      intro σ_56 H locs ls hf hP hS hl
      unfold f_X7_back_k1 at hf
      refine lv_aload_n hx hb dX7_back_56 rfl (lv_at hl 0 rfl) ?_
      refine lv_iconst (v := (0 : Int32)) hx hb dX7_back_57 (by decide) ?_
      obtain ⟨σ58, h58, hf⟩ := bnd hf
      refine pt_X7_154 hx hb hts hown hK hP hJ hS h58 dX7_back_58 (fun H locs hP hS => ?_)
      refine lv_aload_n hx hb dX7_back_61 rfl (lv_at hl 0 rfl) ?_
      refine gt_X7_157 hx hb hts hown hK hP dX7_back_62 ?_
      have hq := Option.some.inj hf
      exact q_iret hx hb hr hlk hP hS (congrArg Prod.fst hq) (congrArg Prod.snd hq) dX7_back_65
    refine lp_ind (G := fun (st : (Int32 × Sg)) => ∀ (H : Heap) (locs : List Loc) (ls : Array Slot), va_P D vwCl (WL w st.2) H → va_S (AL w) s.heap H locs → lv_has ls 2 [(0, .ref (w.1 (184))), (1, .int st.1)] → W p l e (rmW 0 0) s m args below meth c H locs 0 0 (MQ below (qiW D w r σ') args s 0 0 (AL w)) (F0 m 22 ls [])) (X := fun rr => f_X7_back_k1 rr = some (r, σ')) ?_ _ _ rr hlp hf _ _ _ hP hS (lv_sub hl [1, 0] rfl)
    rintro ⟨x1_22, σ_22⟩ oo22 hb9 hG22 hX22 H locs ls hP hS hl
    have hP : va_P D vwCl (WL w σ_22) H := hP
    have hl : lv_has ls 2 [(0, .ref (w.1 (184))), (1, .int x1_22)] := hl
    have hf : f_X7_back_b1  x1_22 σ_22 = some oo22 := hb9
    unfold f_X7_back_b1 at hf
    refine lv_iload_n hx hb dX7_back_22 rfl (lv_at hl 1 rfl) ?_
    refine lv_sipush (v := (179 : Int32)) hx hb dX7_back_23 (by decide) ?_
    refine lv_icmp_ge (tgt := 56) hx hb dX7_back_26 (by decide) (fun hc => ?_) (fun hc => ?_)
    · have hf := ifp hc hf
      obtain rfl := Option.some.inj hf
      exact hE22_56 σ_22 _ _ _ (hX22 _ rfl) hP hS (lv_sub hl [0] rfl)
    · have hf := ifn hc hf
      refine lv_aload_n hx hb dX7_back_29 rfl (lv_at hl 0 rfl) ?_
      refine gt_X7_41 hx hb hts hown hK hP dX7_back_30 ?_
      refine lv_iload_n hx hb dX7_back_33 rfl (lv_at hl 1 rfl) ?_
      refine lv_aload_n hx hb dX7_back_34 rfl (lv_at hl 0 rfl) ?_
      refine gt_X7_47 hx hb hts hown hK hP dX7_back_35 ?_
      refine lv_sipush (v := (179 : Int32)) hx hb dX7_back_38 (by decide) ?_
      refine lv_aload_n hx hb dX7_back_41 rfl (lv_at hl 0 rfl) ?_
      refine gt_X7_157 hx hb hts hown hK hP dX7_back_42 ?_
      refine lv_imul hx hb dX7_back_45 ?_
      refine lv_iload_n hx hb dX7_back_46 rfl (lv_at hl 1 rfl) ?_
      refine lv_iadd hx hb dX7_back_47 ?_
      obtain ⟨v48, h48, hf⟩ := bnd hf
      refine q_iald hx hb hK hP isC197.o isC197.k h48 dX7_back_48 ?_
      obtain ⟨σ49, h49, hf⟩ := bnd hf
      refine q_iast hx hb hK hP hJ hS isC195.o isC195.k h49 dX7_back_49 (fun H locs hP hS => ?_)
      refine lv_iinc (v := (x1_22 + (1 : Int32))) (lv' := [(1, .int (x1_22 + (1 : Int32))), (0, .ref (w.1 (184)))]) hx hb dX7_back_50 hl (k := 1) rfl ii_1 (by decide) rfl (fun ls hl => ?_)
      refine lv_goto (tgt := 22) hx hb dX7_back_53 (by decide) ?_
      obtain rfl := Option.some.inj hf
      exact hG22 _ rfl _ _ _ hP hS (lv_sub hl [1, 0] rfl)
  · have hf := ifn (fun h => h hc) hf
    refine lv_bipush (v := (-2 : Int32)) hx hb dX7_back_7 (by decide) ?_
    have hq := Option.some.inj hf
    exact q_iret hx hb hr hlk hP hS (congrArg Prod.fst hq) (congrArg Prod.snd hq) dX7_back_9
def f_X7_count (σ : Sg) (a1 : Int32) : Option Int32 :=
  if a1 = (0 : Int32) then
  (ga (σ (186)) (ln (186)) (0 : Int32)).bind fun v73 =>
  some v73
  else if a1 = (1 : Int32) then
  (ga (σ (187)) (ln (187)) (0 : Int32)).bind fun v80 =>
  some v80
  else if a1 = (2 : Int32) then
  (ga (σ (188)) (ln (188)) (0 : Int32)).bind fun v87 =>
  some v87
  else if a1 = (3 : Int32) then
  (ga (σ (195)) (ln (195)) (5 : Int32)).bind fun v94 =>
  some v94
  else if a1 = (4 : Int32) then
  (ga (σ (195)) (ln (195)) (6 : Int32)).bind fun v102 =>
  some v102
  else if a1 = (5 : Int32) then
  (f_X7_roadsOf σ (195) (0 : Int32)).bind fun v109 =>
  some v109
  else if a1 = (6 : Int32) then
  (f_X7_retiredOf σ (195)).bind fun v118 =>
  some v118
  else if a1 = (7 : Int32) then
  (f_X7_comeTo σ (195)).bind fun v127 =>
  some v127
  else if a1 = (8 : Int32) then
  some (σ 184 28)
  else if a1 = (9 : Int32) then
  some (σ 184 32)
  else if a1 = (10 : Int32) then
  some (σ 184 16)
  else if a1 = (11 : Int32) then
  some (σ 184 18)
  else if a1 = (12 : Int32) then
  some (σ 184 1)
  else some (-1 : Int32)
set_option maxHeartbeats 4000000 in
set_option maxRecDepth 100000 in
theorem c_X7_count (l : Launch) (D : va_G) (w : Wv) (σ : Sg) (a1 : Int32) (r : Int32)  (hf : f_X7_count σ a1 = some r) : Met l yX7_count (.code yX7_count cX7_count 2 (some .int) :: TB) (rmW 1 25) (pcW D w [.ref (w.1 (184)), .int a1] σ) (qiW D w r σ) 0 0 (AL w) := by
  refine q_open (by decide +kernel) (Nat.le_of_ble_eq_true rfl) ?_
  intro p e s m args below meth c ls hx hb hml hr hlk hown hts hK hP hS hl
  have hown : s.vm.findClass RX7 = some m.cls := hown
  have hl : lv_has ls 2 [(0, .ref (w.1 (184))), (1, .int a1)] := hl
  unfold f_X7_count at hf
  refine lv_iload_n hx hb dX7_count_0 rfl (lv_at hl 1 rfl) ?_
  rcases Decidable.em (a1 = (0 : Int32)) with hc | hc0
  · have hf := ifp hc hf
    refine lv_tableIn (off := 67) (tgt := 68) hx hb dX7_count_1 (by rw [hc]; decide) (by rw [hc]; decide) (by rw [hc]; rfl) (by decide) ?_
    refine lv_aload_n hx hb dX7_count_68 rfl (lv_at hl 0 rfl) ?_
    refine gt_X7_13 hx hb hts hown hK hP dX7_count_69 ?_
    refine lv_iconst (v := (0 : Int32)) hx hb dX7_count_72 (by decide) ?_
    obtain ⟨v73, h73, hf⟩ := bnd hf
    refine q_iald hx hb hK hP isC186.o isC186.k h73 dX7_count_73 ?_
    have hq := Option.some.inj hf
    exact q_iret hx hb hr hlk hP hS hq rfl dX7_count_74
  have hf := ifn hc0 hf
  rcases Decidable.em (a1 = (1 : Int32)) with hc | hc1
  · have hf := ifp hc hf
    refine lv_tableIn (off := 74) (tgt := 75) hx hb dX7_count_1 (by rw [hc]; decide) (by rw [hc]; decide) (by rw [hc]; rfl) (by decide) ?_
    refine lv_aload_n hx hb dX7_count_75 rfl (lv_at hl 0 rfl) ?_
    refine gt_X7_17 hx hb hts hown hK hP dX7_count_76 ?_
    refine lv_iconst (v := (0 : Int32)) hx hb dX7_count_79 (by decide) ?_
    obtain ⟨v80, h80, hf⟩ := bnd hf
    refine q_iald hx hb hK hP isC187.o isC187.k h80 dX7_count_80 ?_
    have hq := Option.some.inj hf
    exact q_iret hx hb hr hlk hP hS hq rfl dX7_count_81
  have hf := ifn hc1 hf
  rcases Decidable.em (a1 = (2 : Int32)) with hc | hc2
  · have hf := ifp hc hf
    refine lv_tableIn (off := 81) (tgt := 82) hx hb dX7_count_1 (by rw [hc]; decide) (by rw [hc]; decide) (by rw [hc]; rfl) (by decide) ?_
    refine lv_aload_n hx hb dX7_count_82 rfl (lv_at hl 0 rfl) ?_
    refine gt_X7_20 hx hb hts hown hK hP dX7_count_83 ?_
    refine lv_iconst (v := (0 : Int32)) hx hb dX7_count_86 (by decide) ?_
    obtain ⟨v87, h87, hf⟩ := bnd hf
    refine q_iald hx hb hK hP isC188.o isC188.k h87 dX7_count_87 ?_
    have hq := Option.some.inj hf
    exact q_iret hx hb hr hlk hP hS hq rfl dX7_count_88
  have hf := ifn hc2 hf
  rcases Decidable.em (a1 = (3 : Int32)) with hc | hc3
  · have hf := ifp hc hf
    refine lv_tableIn (off := 88) (tgt := 89) hx hb dX7_count_1 (by rw [hc]; decide) (by rw [hc]; decide) (by rw [hc]; rfl) (by decide) ?_
    refine lv_aload_n hx hb dX7_count_89 rfl (lv_at hl 0 rfl) ?_
    refine gt_X7_41 hx hb hts hown hK hP dX7_count_90 ?_
    refine lv_iconst (v := (5 : Int32)) hx hb dX7_count_93 (by decide) ?_
    obtain ⟨v94, h94, hf⟩ := bnd hf
    refine q_iald hx hb hK hP isC195.o isC195.k h94 dX7_count_94 ?_
    have hq := Option.some.inj hf
    exact q_iret hx hb hr hlk hP hS hq rfl dX7_count_95
  have hf := ifn hc3 hf
  rcases Decidable.em (a1 = (4 : Int32)) with hc | hc4
  · have hf := ifp hc hf
    refine lv_tableIn (off := 95) (tgt := 96) hx hb dX7_count_1 (by rw [hc]; decide) (by rw [hc]; decide) (by rw [hc]; rfl) (by decide) ?_
    refine lv_aload_n hx hb dX7_count_96 rfl (lv_at hl 0 rfl) ?_
    refine gt_X7_41 hx hb hts hown hK hP dX7_count_97 ?_
    refine lv_bipush (v := (6 : Int32)) hx hb dX7_count_100 (by decide) ?_
    obtain ⟨v102, h102, hf⟩ := bnd hf
    refine q_iald hx hb hK hP isC195.o isC195.k h102 dX7_count_102 ?_
    have hq := Option.some.inj hf
    exact q_iret hx hb hr hlk hP hS hq rfl dX7_count_103
  have hf := ifn hc4 hf
  rcases Decidable.em (a1 = (5 : Int32)) with hc | hc5
  · have hf := ifp hc hf
    refine lv_tableIn (off := 103) (tgt := 104) hx hb dX7_count_1 (by rw [hc]; decide) (by rw [hc]; decide) (by rw [hc]; rfl) (by decide) ?_
    refine lv_aload_n hx hb dX7_count_104 rfl (lv_at hl 0 rfl) ?_
    refine gt_X7_41 hx hb hts hown hK hP dX7_count_105 ?_
    refine lv_iconst (v := (0 : Int32)) hx hb dX7_count_108 (by decide) ?_
    obtain ⟨v109, h109, hf⟩ := bnd hf
    refine q_cSi (As := [.ref (w.1 (195)), .int (0 : Int32)]) hx hb hts hml hown hK hP hS (c_X7_roadsOf l D w σ (195) (0 : Int32) v109 isC195 h109) hw_X7_256 hd_X7_roadsOf ⟨rfl, rfl, rfl⟩ ⟨Nat.le_of_ble_eq_true rfl, Nat.le_of_ble_eq_true rfl⟩ ⟨Nat.le_of_ble_eq_true rfl, Nat.le_of_ble_eq_true rfl⟩ hl.1 rfl (Nat.le_of_ble_eq_true rfl) dX7_count_109 (fun H locs hP hS => ?_)
    have hq := Option.some.inj hf
    exact q_iret hx hb hr hlk hP hS hq rfl dX7_count_112
  have hf := ifn hc5 hf
  rcases Decidable.em (a1 = (6 : Int32)) with hc | hc6
  · have hf := ifp hc hf
    refine lv_tableIn (off := 112) (tgt := 113) hx hb dX7_count_1 (by rw [hc]; decide) (by rw [hc]; decide) (by rw [hc]; rfl) (by decide) ?_
    refine lv_aload_n hx hb dX7_count_113 rfl (lv_at hl 0 rfl) ?_
    refine lv_aload_n hx hb dX7_count_114 rfl (lv_at hl 0 rfl) ?_
    refine gt_X7_41 hx hb hts hown hK hP dX7_count_115 ?_
    obtain ⟨v118, h118, hf⟩ := bnd hf
    refine q_cVi (As := [.ref (w.1 (195))]) hx hb hts hml hown hK hP hS (c_X7_retiredOf l D w σ (195) v118 isC195 h118) hw_X7_253 hd_X7_retiredOf ⟨rfl, rfl, rfl⟩ o184 (ce7 kd184) rfl ⟨Nat.le_of_ble_eq_true rfl, Nat.le_of_ble_eq_true rfl⟩ ⟨Nat.le_of_ble_eq_true rfl, Nat.le_of_ble_eq_true rfl⟩ hl.1 rfl (Nat.le_of_ble_eq_true rfl) dX7_count_118 (fun H locs hP hS => ?_)
    have hq := Option.some.inj hf
    exact q_iret hx hb hr hlk hP hS hq rfl dX7_count_121
  have hf := ifn hc6 hf
  rcases Decidable.em (a1 = (7 : Int32)) with hc | hc7
  · have hf := ifp hc hf
    refine lv_tableIn (off := 121) (tgt := 122) hx hb dX7_count_1 (by rw [hc]; decide) (by rw [hc]; decide) (by rw [hc]; rfl) (by decide) ?_
    refine lv_aload_n hx hb dX7_count_122 rfl (lv_at hl 0 rfl) ?_
    refine lv_aload_n hx hb dX7_count_123 rfl (lv_at hl 0 rfl) ?_
    refine gt_X7_41 hx hb hts hown hK hP dX7_count_124 ?_
    obtain ⟨v127, h127, hf⟩ := bnd hf
    refine q_cVi (As := [.ref (w.1 (195))]) hx hb hts hml hown hK hP hS (c_X7_comeTo l D w σ (195) v127 isC195 h127) hw_X7_201 hd_X7_comeTo ⟨rfl, rfl, rfl⟩ o184 (ce7 kd184) rfl ⟨Nat.le_of_ble_eq_true rfl, Nat.le_of_ble_eq_true rfl⟩ ⟨Nat.le_of_ble_eq_true rfl, Nat.le_of_ble_eq_true rfl⟩ hl.1 rfl (Nat.le_of_ble_eq_true rfl) dX7_count_127 (fun H locs hP hS => ?_)
    have hq := Option.some.inj hf
    exact q_iret hx hb hr hlk hP hS hq rfl dX7_count_130
  have hf := ifn hc7 hf
  rcases Decidable.em (a1 = (8 : Int32)) with hc | hc8
  · have hf := ifp hc hf
    refine lv_tableIn (off := 130) (tgt := 131) hx hb dX7_count_1 (by rw [hc]; decide) (by rw [hc]; decide) (by rw [hc]; rfl) (by decide) ?_
    refine lv_aload_n hx hb dX7_count_131 rfl (lv_at hl 0 rfl) ?_
    refine gt_X7_160 hx hb hts hown hK hP dX7_count_132 ?_
    have hq := Option.some.inj hf
    exact q_iret hx hb hr hlk hP hS hq rfl dX7_count_135
  have hf := ifn hc8 hf
  rcases Decidable.em (a1 = (9 : Int32)) with hc | hc9
  · have hf := ifp hc hf
    refine lv_tableIn (off := 135) (tgt := 136) hx hb dX7_count_1 (by rw [hc]; decide) (by rw [hc]; decide) (by rw [hc]; rfl) (by decide) ?_
    refine lv_aload_n hx hb dX7_count_136 rfl (lv_at hl 0 rfl) ?_
    refine gt_X7_163 hx hb hts hown hK hP dX7_count_137 ?_
    have hq := Option.some.inj hf
    exact q_iret hx hb hr hlk hP hS hq rfl dX7_count_140
  have hf := ifn hc9 hf
  rcases Decidable.em (a1 = (10 : Int32)) with hc | hc10
  · have hf := ifp hc hf
    refine lv_tableIn (off := 140) (tgt := 141) hx hb dX7_count_1 (by rw [hc]; decide) (by rw [hc]; decide) (by rw [hc]; rfl) (by decide) ?_
    refine lv_aload_n hx hb dX7_count_141 rfl (lv_at hl 0 rfl) ?_
    refine gt_X7_154 hx hb hts hown hK hP dX7_count_142 ?_
    have hq := Option.some.inj hf
    exact q_iret hx hb hr hlk hP hS hq rfl dX7_count_145
  have hf := ifn hc10 hf
  rcases Decidable.em (a1 = (11 : Int32)) with hc | hc11
  · have hf := ifp hc hf
    refine lv_tableIn (off := 145) (tgt := 146) hx hb dX7_count_1 (by rw [hc]; decide) (by rw [hc]; decide) (by rw [hc]; rfl) (by decide) ?_
    refine lv_aload_n hx hb dX7_count_146 rfl (lv_at hl 0 rfl) ?_
    refine gt_X7_157 hx hb hts hown hK hP dX7_count_147 ?_
    have hq := Option.some.inj hf
    exact q_iret hx hb hr hlk hP hS hq rfl dX7_count_150
  have hf := ifn hc11 hf
  rcases Decidable.em (a1 = (12 : Int32)) with hc | hc12
  · have hf := ifp hc hf
    refine lv_tableIn (off := 150) (tgt := 151) hx hb dX7_count_1 (by rw [hc]; decide) (by rw [hc]; decide) (by rw [hc]; rfl) (by decide) ?_
    refine lv_aload_n hx hb dX7_count_151 rfl (lv_at hl 0 rfl) ?_
    refine gt_X7_87 hx hb hts hown hK hP dX7_count_152 ?_
    have hq := Option.some.inj hf
    exact q_iret hx hb hr hlk hP hS hq rfl dX7_count_155
  have hf := ifn hc12 hf
  refine lv_tableOut (tgt := 156) hx hb dX7_count_1 (tb_out_0_12 hc0 hc1 hc2 hc3 hc4 hc5 hc6 hc7 hc8 hc9 hc10 hc11 hc12) (by decide) ?_
  refine lv_iconst (v := (-1 : Int32)) hx hb dX7_count_156 (by decide) ?_
  have hq := Option.some.inj hf
  exact q_iret hx hb hr hlk hP hS hq rfl dX7_count_157
