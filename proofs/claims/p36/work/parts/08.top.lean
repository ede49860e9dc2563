theorem useP {P Q : Prop} (h : P) (k : P → Q) : Q := k h
theorem ti_nf {x k : Int32} {n : Int} (hn : k.toInt = n) (h : ¬ x = k) : ¬ n = x.toInt := fun e => ti_ne hn h e.symm
def f_X6_write (σ : Sg) (a1 : Int32) : Option (Int32 × Sg) :=
  if a1 < (32 : Int32) then
  some ((-1 : Int32), σ)
  else
  if a1 ≤ (126 : Int32) then
  (f_X1_append σ (1) a1).bind fun q19 =>
  some (q19.1, q19.2)
  else
  some ((-1 : Int32), σ)
set_option maxHeartbeats 4000000 in
set_option maxRecDepth 100000 in
theorem c_X6_write (l : Launch) (D : va_G) (w : Wv) (σ : Sg) (a1 : Int32) (r : Int32) (σ' : Sg)  (hJ : Inj w) (hf : f_X6_write σ a1 = some (r, σ')) : Met l yX6_write (.code yX6_write cX6_write 2 (some .int) :: TB) (rmW 2 45) (pcW D w [.ref (w.1 (0)), .int a1] σ) (qiW D w r σ') 0 0 (AL w) := by
  refine q_open (by decide +kernel) (Nat.le_of_ble_eq_true rfl) ?_
  intro p e s m args below meth c ls hx hb hml hr hlk hown hts hK hP hS hl
  have hown : s.vm.findClass RX6 = some m.cls := hown
  have hl : lv_has ls 2 [(0, .ref (w.1 (0))), (1, .int a1)] := hl
  unfold f_X6_write at hf
  refine lv_iload_n hx hb dX6_write_0 rfl (lv_at hl 1 rfl) ?_
  refine lv_bipush (v := (32 : Int32)) hx hb dX6_write_1 (by decide) ?_
  refine lv_icmp_lt (tgt := 12) hx hb dX6_write_3 (by decide) (fun hc => ?_) (fun hc => ?_)
  · have hf := ifp hc hf
    refine lv_iconst (v := (-1 : Int32)) hx hb dX6_write_12 (by decide) ?_
    have hq := Option.some.inj hf
    exact q_iret hx hb hr hlk hP hS (congrArg Prod.fst hq) (congrArg Prod.snd hq) dX6_write_13
  · have hf := ifn hc hf
    refine lv_iload_n hx hb dX6_write_6 rfl (lv_at hl 1 rfl) ?_
    refine lv_bipush (v := (126 : Int32)) hx hb dX6_write_7 (by decide) ?_
    refine lv_icmp_le (tgt := 14) hx hb dX6_write_9 (by decide) (fun hc => ?_) (fun hc => ?_)
    · have hf := ifp hc hf
      refine lv_aload_n hx hb dX6_write_14 rfl (lv_at hl 0 rfl) ?_
      refine gt_X6_10 hx hb hts hown hK hP dX6_write_15 ?_
      refine lv_iload_n hx hb dX6_write_18 rfl (lv_at hl 1 rfl) ?_
      obtain ⟨⟨v19, σ19⟩, h19, hf⟩ := bnd hf
      dsimp only at hf
      refine q_cVi (As := [.int a1]) hx hb hts hml hown hK hP hS (c_X1_append l D w σ (1) a1 v19 σ19 isL1 hJ h19) hw_X6_60 hd_X1_append ⟨rfl, rfl, rfl⟩ isL1.o (ce1 isL1.k) rfl ⟨Nat.le_of_ble_eq_true rfl, Nat.le_of_ble_eq_true rfl⟩ ⟨Nat.le_of_ble_eq_true rfl, Nat.le_of_ble_eq_true rfl⟩ hl.1 rfl (Nat.le_of_ble_eq_true rfl) dX6_write_19 (fun H locs hP hS => ?_)
      have hq := Option.some.inj hf
      exact q_iret hx hb hr hlk hP hS (congrArg Prod.fst hq) (congrArg Prod.snd hq) dX6_write_22
    · have hf := ifn hc hf
      refine lv_iconst (v := (-1 : Int32)) hx hb dX6_write_12 (by decide) ?_
      have hq := Option.some.inj hf
      exact q_iret hx hb hr hlk hP hS (congrArg Prod.fst hq) (congrArg Prod.snd hq) dX6_write_13
def f_X6_road (σ : Sg) (a1 : Int32) (a2 : Int32) : Option Int32 :=
  (f_X5_areTwoTowns σ (6) a1 a2).bind fun v6 =>
  if ¬ v6 = 0 then
  (f_X3_between σ (6 + 1) a1 a2).bind fun v23 =>
  if v23 ≤ 0 then
  some (-4 : Int32)
  else
  some v23
  else
  some (-1 : Int32)
set_option maxHeartbeats 4000000 in
set_option maxRecDepth 100000 in
theorem c_X6_road (l : Launch) (D : va_G) (w : Wv) (σ : Sg) (a1 : Int32) (a2 : Int32) (r : Int32)  (hf : f_X6_road σ a1 a2 = some r) : Met l yX6_road (.code yX6_road cX6_road 4 (some .int) :: TB) (rmW 3 63) (pcW D w [.ref (w.1 (0)), .int a1, .int a2] σ) (qiW D w r σ) 0 0 (AL w) := by
  refine q_open (by decide +kernel) (Nat.le_of_ble_eq_true rfl) ?_
  intro p e s m args below meth c ls hx hb hml hr hlk hown hts hK hP hS hl
  have hown : s.vm.findClass RX6 = some m.cls := hown
  have hl : lv_has ls 4 [(0, .ref (w.1 (0))), (1, .int a1), (2, .int a2)] := hl
  unfold f_X6_road at hf
  refine lv_aload_n hx hb dX6_road_0 rfl (lv_at hl 0 rfl) ?_
  refine gt_X6_19 hx hb hts hown hK hP dX6_road_1 ?_
  refine lv_iload_n hx hb dX6_road_4 rfl (lv_at hl 1 rfl) ?_
  refine lv_iload_n hx hb dX6_road_5 rfl (lv_at hl 2 rfl) ?_
  obtain ⟨v6, h6, hf⟩ := bnd hf
  refine q_cVz (As := [.int a1, .int a2]) hx hb hts hml hown hK hP hS (c_X5_areTwoTowns l D w σ (6) a1 a2 v6 isY6 h6) hw_X6_87 hd_X5_areTwoTowns ⟨rfl, rfl, rfl⟩ isY6.o (ce5 isY6.k) rfl ⟨Nat.le_of_ble_eq_true rfl, Nat.le_of_ble_eq_true rfl⟩ ⟨Nat.le_of_ble_eq_true rfl, Nat.le_of_ble_eq_true rfl⟩ hl.1 rfl (Nat.le_of_ble_eq_true rfl) dX6_road_6 (fun hz6 H locs hP hS => ?_)
  refine lv_if_ne (tgt := 14) hx hb dX6_road_9 (by decide) (fun hc => ?_) (fun hc => ?_)
  · have hf := ifp hc hf
    refine lv_aload_n hx hb dX6_road_14 rfl (lv_at hl 0 rfl) ?_
    refine gt_X6_19 hx hb hts hown hK hP dX6_road_15 ?_
    refine q_cVr (As := []) hx hb hts hml hown hK hP hS (c_X5_roads l D w σ (6) isY6) hw_X6_91 hd_X5_roads ⟨rfl, rfl, rfl⟩ isY6.o (ce5 isY6.k) rfl ⟨Nat.le_of_ble_eq_true rfl, Nat.le_of_ble_eq_true rfl⟩ ⟨Nat.le_of_ble_eq_true rfl, Nat.le_of_ble_eq_true rfl⟩ hl.1 rfl (Nat.le_of_ble_eq_true rfl) dX6_road_18 (fun H locs hP hS => ?_)
    refine lv_iload_n hx hb dX6_road_21 rfl (lv_at hl 1 rfl) ?_
    refine lv_iload_n hx hb dX6_road_22 rfl (lv_at hl 2 rfl) ?_
    obtain ⟨v23, h23, hf⟩ := bnd hf
    refine q_cVi (As := [.int a1, .int a2]) hx hb hts hml hown hK hP hS (c_X3_between l D w σ (6 + 1) a1 a2 v23 isY6.f0 h23) hw_X6_95 hd_X3_between ⟨rfl, rfl, rfl⟩ isY6.f0.o (ce3 isY6.f0.k) rfl ⟨Nat.le_of_ble_eq_true rfl, Nat.le_of_ble_eq_true rfl⟩ ⟨Nat.le_of_ble_eq_true rfl, Nat.le_of_ble_eq_true rfl⟩ hl.1 rfl (Nat.le_of_ble_eq_true rfl) dX6_road_23 (fun H locs hP hS => ?_)
    refine lv_istore_n (lv' := [(3, .int v23), (0, .ref (w.1 (0))), (1, .int a1), (2, .int a2)]) hx hb dX6_road_26 rfl hl (by decide) rfl (fun ls hl => ?_)
    refine lv_iload_n hx hb dX6_road_27 rfl (lv_at hl 0 rfl) ?_
    refine lv_if_le (tgt := 35) hx hb dX6_road_28 (by decide) (fun hc => ?_) (fun hc => ?_)
    · have hf := ifp hc hf
      refine lv_bipush (v := (-4 : Int32)) hx hb dX6_road_35 (by decide) ?_
      have hq := Option.some.inj hf
      exact q_iret hx hb hr hlk hP hS hq rfl dX6_road_37
    · have hf := ifn hc hf
      refine lv_iload_n hx hb dX6_road_31 rfl (lv_at hl 0 rfl) ?_
      refine lv_goto (tgt := 37) hx hb dX6_road_32 (by decide) ?_
      have hq := Option.some.inj hf
      exact q_iret hx hb hr hlk hP hS hq rfl dX6_road_37
  · have hf := ifn (fun h => h hc) hf
    refine lv_iconst (v := (-1 : Int32)) hx hb dX6_road_12 (by decide) ?_
    have hq := Option.some.inj hf
    exact q_iret hx hb hr hlk hP hS hq rfl dX6_road_13
def f_X6_post (σ : Sg) (a1 : Int32) (a2 : Int32) : Option Int32 :=
  (f_X5_isPost σ (6) a1).bind fun v5 =>
  if ¬ v5 = 0 then
  if a2 = (0 : Int32) then
  (f_X5_kindOf σ (6) a1).bind fun v45 =>
  some v45
  else if a2 = (1 : Int32) then
  (f_X5_townOf σ (6) a1).bind fun v54 =>
  some v54
  else if a2 = (2 : Int32) then
  (f_X5_ageOf σ (6) a1).bind fun v63 =>
  some v63
  else some (-1 : Int32)
  else
  some (-1 : Int32)
set_option maxHeartbeats 4000000 in
set_option maxRecDepth 100000 in
theorem c_X6_post (l : Launch) (D : va_G) (w : Wv) (σ : Sg) (a1 : Int32) (a2 : Int32) (r : Int32)  (hf : f_X6_post σ a1 a2 = some r) : Met l yX6_post (.code yX6_post cX6_post 3 (some .int) :: TB) (rmW 2 45) (pcW D w [.ref (w.1 (0)), .int a1, .int a2] σ) (qiW D w r σ) 0 0 (AL w) := by
  refine q_open (by decide +kernel) (Nat.le_of_ble_eq_true rfl) ?_
  intro p e s m args below meth c ls hx hb hml hr hlk hown hts hK hP hS hl
  have hown : s.vm.findClass RX6 = some m.cls := hown
  have hl : lv_has ls 3 [(0, .ref (w.1 (0))), (1, .int a1), (2, .int a2)] := hl
  unfold f_X6_post at hf
  refine lv_aload_n hx hb dX6_post_0 rfl (lv_at hl 0 rfl) ?_
  refine gt_X6_19 hx hb hts hown hK hP dX6_post_1 ?_
  refine lv_iload_n hx hb dX6_post_4 rfl (lv_at hl 1 rfl) ?_
  obtain ⟨v5, h5, hf⟩ := bnd hf
  refine q_cVz (As := [.int a1]) hx hb hts hml hown hK hP hS (c_X5_isPost l D w σ (6) a1 v5 isY6 h5) hw_X6_101 hd_X5_isPost ⟨rfl, rfl, rfl⟩ isY6.o (ce5 isY6.k) rfl ⟨Nat.le_of_ble_eq_true rfl, Nat.le_of_ble_eq_true rfl⟩ ⟨Nat.le_of_ble_eq_true rfl, Nat.le_of_ble_eq_true rfl⟩ hl.1 rfl (Nat.le_of_ble_eq_true rfl) dX6_post_5 (fun hz5 H locs hP hS => ?_)
  refine lv_if_ne (tgt := 13) hx hb dX6_post_8 (by decide) (fun hc => ?_) (fun hc => ?_)
  · have hf := ifp hc hf
    refine lv_iload_n hx hb dX6_post_13 rfl (lv_at hl 2 rfl) ?_
    rcases Decidable.em (a2 = (0 : Int32)) with hc | hc0
    · have hf := ifp hc hf
      refine lv_tableIn (off := 26) (tgt := 40) hx hb dX6_post_14 (by rw [hc]; decide) (by rw [hc]; decide) (by rw [hc]; rfl) (by decide) ?_
      refine lv_aload_n hx hb dX6_post_40 rfl (lv_at hl 0 rfl) ?_
      refine gt_X6_19 hx hb hts hown hK hP dX6_post_41 ?_
      refine lv_iload_n hx hb dX6_post_44 rfl (lv_at hl 1 rfl) ?_
      obtain ⟨v45, h45, hf⟩ := bnd hf
      refine q_cVi (As := [.int a1]) hx hb hts hml hown hK hP hS (c_X5_kindOf l D w σ (6) a1 v45 isY6 h45) hw_X6_105 hd_X5_kindOf ⟨rfl, rfl, rfl⟩ isY6.o (ce5 isY6.k) rfl ⟨Nat.le_of_ble_eq_true rfl, Nat.le_of_ble_eq_true rfl⟩ ⟨Nat.le_of_ble_eq_true rfl, Nat.le_of_ble_eq_true rfl⟩ hl.1 rfl (Nat.le_of_ble_eq_true rfl) dX6_post_45 (fun H locs hP hS => ?_)
      have hq := Option.some.inj hf
      exact q_iret hx hb hr hlk hP hS hq rfl dX6_post_48
    have hf := ifn hc0 hf
    rcases Decidable.em (a2 = (1 : Int32)) with hc | hc1
    · have hf := ifp hc hf
      refine lv_tableIn (off := 35) (tgt := 49) hx hb dX6_post_14 (by rw [hc]; decide) (by rw [hc]; decide) (by rw [hc]; rfl) (by decide) ?_
      refine lv_aload_n hx hb dX6_post_49 rfl (lv_at hl 0 rfl) ?_
      refine gt_X6_19 hx hb hts hown hK hP dX6_post_50 ?_
      refine lv_iload_n hx hb dX6_post_53 rfl (lv_at hl 1 rfl) ?_
      obtain ⟨v54, h54, hf⟩ := bnd hf
      refine q_cVi (As := [.int a1]) hx hb hts hml hown hK hP hS (c_X5_townOf l D w σ (6) a1 v54 isY6 h54) hw_X6_108 hd_X5_townOf ⟨rfl, rfl, rfl⟩ isY6.o (ce5 isY6.k) rfl ⟨Nat.le_of_ble_eq_true rfl, Nat.le_of_ble_eq_true rfl⟩ ⟨Nat.le_of_ble_eq_true rfl, Nat.le_of_ble_eq_true rfl⟩ hl.1 rfl (Nat.le_of_ble_eq_true rfl) dX6_post_54 (fun H locs hP hS => ?_)
      have hq := Option.some.inj hf
      exact q_iret hx hb hr hlk hP hS hq rfl dX6_post_57
    have hf := ifn hc1 hf
    rcases Decidable.em (a2 = (2 : Int32)) with hc | hc2
    · have hf := ifp hc hf
      refine lv_tableIn (off := 44) (tgt := 58) hx hb dX6_post_14 (by rw [hc]; decide) (by rw [hc]; decide) (by rw [hc]; rfl) (by decide) ?_
      refine lv_aload_n hx hb dX6_post_58 rfl (lv_at hl 0 rfl) ?_
      refine gt_X6_19 hx hb hts hown hK hP dX6_post_59 ?_
      refine lv_iload_n hx hb dX6_post_62 rfl (lv_at hl 1 rfl) ?_
      obtain ⟨v63, h63, hf⟩ := bnd hf
      refine q_cVi (As := [.int a1]) hx hb hts hml hown hK hP hS (c_X5_ageOf l D w σ (6) a1 v63 isY6 h63) hw_X6_111 hd_X5_ageOf ⟨rfl, rfl, rfl⟩ isY6.o (ce5 isY6.k) rfl ⟨Nat.le_of_ble_eq_true rfl, Nat.le_of_ble_eq_true rfl⟩ ⟨Nat.le_of_ble_eq_true rfl, Nat.le_of_ble_eq_true rfl⟩ hl.1 rfl (Nat.le_of_ble_eq_true rfl) dX6_post_63 (fun H locs hP hS => ?_)
      have hq := Option.some.inj hf
      exact q_iret hx hb hr hlk hP hS hq rfl dX6_post_66
    have hf := ifn hc2 hf
    refine lv_tableOut (tgt := 67) hx hb dX6_post_14 (tb_out_0_2 hc0 hc1 hc2) (by decide) ?_
    refine lv_iconst (v := (-1 : Int32)) hx hb dX6_post_67 (by decide) ?_
    have hq := Option.some.inj hf
    exact q_iret hx hb hr hlk hP hS hq rfl dX6_post_68
  · have hf := ifn (fun h => h hc) hf
    refine lv_iconst (v := (-1 : Int32)) hx hb dX6_post_11 (by decide) ?_
    have hq := Option.some.inj hf
    exact q_iret hx hb hr hlk hP hS hq rfl dX6_post_12
def f_X6_arm (σ : Sg) (a1 : Int32) (a2 : Int32) (a3 : Int32) : Option Int32 :=
  (f_X5_isPost σ (6) a1).bind fun v5 =>
  if v5 = 0 then
  some (-1 : Int32)
  else
  (f_X5_isTown σ (6) a2).bind fun v16 =>
  if ¬ v16 = 0 then
  if a3 = (0 : Int32) then
  (f_X5_armOf σ (6) a1 a2).bind fun v58 =>
  some v58
  else if a3 = (1 : Int32) then
  (f_X5_milesOf σ (6) a1 a2).bind fun v68 =>
  some v68
  else if a3 = (2 : Int32) then
  (f_X5_pointing σ (6) a1 a2).bind fun v78 =>
  some v78
  else some (-1 : Int32)
  else
  some (-1 : Int32)
set_option maxHeartbeats 4000000 in
set_option maxRecDepth 100000 in
theorem c_X6_arm (l : Launch) (D : va_G) (w : Wv) (σ : Sg) (a1 : Int32) (a2 : Int32) (a3 : Int32) (r : Int32)  (hf : f_X6_arm σ a1 a2 a3 = some r) : Met l yX6_arm (.code yX6_arm cX6_arm 4 (some .int) :: TB) (rmW 3 74) (pcW D w [.ref (w.1 (0)), .int a1, .int a2, .int a3] σ) (qiW D w r σ) 0 0 (AL w) := by
  refine q_open (by decide +kernel) (Nat.le_of_ble_eq_true rfl) ?_
  intro p e s m args below meth c ls hx hb hml hr hlk hown hts hK hP hS hl
  have hown : s.vm.findClass RX6 = some m.cls := hown
  have hl : lv_has ls 4 [(0, .ref (w.1 (0))), (1, .int a1), (2, .int a2), (3, .int a3)] := hl
  unfold f_X6_arm at hf
  refine lv_aload_n hx hb dX6_arm_0 rfl (lv_at hl 0 rfl) ?_
  refine gt_X6_19 hx hb hts hown hK hP dX6_arm_1 ?_
  refine lv_iload_n hx hb dX6_arm_4 rfl (lv_at hl 1 rfl) ?_
  obtain ⟨v5, h5, hf⟩ := bnd hf
  refine q_cVz (As := [.int a1]) hx hb hts hml hown hK hP hS (c_X5_isPost l D w σ (6) a1 v5 isY6 h5) hw_X6_101 hd_X5_isPost ⟨rfl, rfl, rfl⟩ isY6.o (ce5 isY6.k) rfl ⟨Nat.le_of_ble_eq_true rfl, Nat.le_of_ble_eq_true rfl⟩ ⟨Nat.le_of_ble_eq_true rfl, Nat.le_of_ble_eq_true rfl⟩ hl.1 rfl (Nat.le_of_ble_eq_true rfl) dX6_arm_5 (fun hz5 H locs hP hS => ?_)
  refine lv_if_eq (tgt := 22) hx hb dX6_arm_8 (by decide) (fun hc => ?_) (fun hc => ?_)
  · have hf := ifp hc hf
    refine lv_iconst (v := (-1 : Int32)) hx hb dX6_arm_22 (by decide) ?_
    have hq := Option.some.inj hf
    exact q_iret hx hb hr hlk hP hS hq rfl dX6_arm_23
  · have hf := ifn hc hf
    refine lv_aload_n hx hb dX6_arm_11 rfl (lv_at hl 0 rfl) ?_
    refine gt_X6_19 hx hb hts hown hK hP dX6_arm_12 ?_
    refine lv_iload_n hx hb dX6_arm_15 rfl (lv_at hl 2 rfl) ?_
    obtain ⟨v16, h16, hf⟩ := bnd hf
    refine q_cVz (As := [.int a2]) hx hb hts hml hown hK hP hS (c_X5_isTown l D w σ (6) a2 v16 isY6 h16) hw_X6_114 hd_X5_isTown ⟨rfl, rfl, rfl⟩ isY6.o (ce5 isY6.k) rfl ⟨Nat.le_of_ble_eq_true rfl, Nat.le_of_ble_eq_true rfl⟩ ⟨Nat.le_of_ble_eq_true rfl, Nat.le_of_ble_eq_true rfl⟩ hl.1 rfl (Nat.le_of_ble_eq_true rfl) dX6_arm_16 (fun hz16 H locs hP hS => ?_)
    refine lv_if_ne (tgt := 24) hx hb dX6_arm_19 (by decide) (fun hc => ?_) (fun hc => ?_)
    · have hf := ifp hc hf
      refine lv_iload_n hx hb dX6_arm_24 rfl (lv_at hl 3 rfl) ?_
      rcases Decidable.em (a3 = (0 : Int32)) with hc | hc0
      · have hf := ifp hc hf
        refine lv_tableIn (off := 27) (tgt := 52) hx hb dX6_arm_25 (by rw [hc]; decide) (by rw [hc]; decide) (by rw [hc]; rfl) (by decide) ?_
        refine lv_aload_n hx hb dX6_arm_52 rfl (lv_at hl 0 rfl) ?_
        refine gt_X6_19 hx hb hts hown hK hP dX6_arm_53 ?_
        refine lv_iload_n hx hb dX6_arm_56 rfl (lv_at hl 1 rfl) ?_
        refine lv_iload_n hx hb dX6_arm_57 rfl (lv_at hl 2 rfl) ?_
        obtain ⟨v58, h58, hf⟩ := bnd hf
        refine q_cVi (As := [.int a1, .int a2]) hx hb hts hml hown hK hP hS (c_X5_armOf l D w σ (6) a1 a2 v58 isY6 h58) hw_X6_117 hd_X5_armOf ⟨rfl, rfl, rfl⟩ isY6.o (ce5 isY6.k) rfl ⟨Nat.le_of_ble_eq_true rfl, Nat.le_of_ble_eq_true rfl⟩ ⟨Nat.le_of_ble_eq_true rfl, Nat.le_of_ble_eq_true rfl⟩ hl.1 rfl (Nat.le_of_ble_eq_true rfl) dX6_arm_58 (fun H locs hP hS => ?_)
        have hq := Option.some.inj hf
        exact q_iret hx hb hr hlk hP hS hq rfl dX6_arm_61
      have hf := ifn hc0 hf
      rcases Decidable.em (a3 = (1 : Int32)) with hc | hc1
      · have hf := ifp hc hf
        refine lv_tableIn (off := 37) (tgt := 62) hx hb dX6_arm_25 (by rw [hc]; decide) (by rw [hc]; decide) (by rw [hc]; rfl) (by decide) ?_
        refine lv_aload_n hx hb dX6_arm_62 rfl (lv_at hl 0 rfl) ?_
        refine gt_X6_19 hx hb hts hown hK hP dX6_arm_63 ?_
        refine lv_iload_n hx hb dX6_arm_66 rfl (lv_at hl 1 rfl) ?_
        refine lv_iload_n hx hb dX6_arm_67 rfl (lv_at hl 2 rfl) ?_
        obtain ⟨v68, h68, hf⟩ := bnd hf
        refine q_cVi (As := [.int a1, .int a2]) hx hb hts hml hown hK hP hS (c_X5_milesOf l D w σ (6) a1 a2 v68 isY6 h68) hw_X6_120 hd_X5_milesOf ⟨rfl, rfl, rfl⟩ isY6.o (ce5 isY6.k) rfl ⟨Nat.le_of_ble_eq_true rfl, Nat.le_of_ble_eq_true rfl⟩ ⟨Nat.le_of_ble_eq_true rfl, Nat.le_of_ble_eq_true rfl⟩ hl.1 rfl (Nat.le_of_ble_eq_true rfl) dX6_arm_68 (fun H locs hP hS => ?_)
        have hq := Option.some.inj hf
        exact q_iret hx hb hr hlk hP hS hq rfl dX6_arm_71
      have hf := ifn hc1 hf
      rcases Decidable.em (a3 = (2 : Int32)) with hc | hc2
      · have hf := ifp hc hf
        refine lv_tableIn (off := 47) (tgt := 72) hx hb dX6_arm_25 (by rw [hc]; decide) (by rw [hc]; decide) (by rw [hc]; rfl) (by decide) ?_
        refine lv_aload_n hx hb dX6_arm_72 rfl (lv_at hl 0 rfl) ?_
        refine gt_X6_19 hx hb hts hown hK hP dX6_arm_73 ?_
        refine lv_iload_n hx hb dX6_arm_76 rfl (lv_at hl 1 rfl) ?_
        refine lv_iload_n hx hb dX6_arm_77 rfl (lv_at hl 2 rfl) ?_
        obtain ⟨v78, h78, hf⟩ := bnd hf
        refine q_cVi (As := [.int a1, .int a2]) hx hb hts hml hown hK hP hS (c_X5_pointing l D w σ (6) a1 a2 v78 isY6 h78) hw_X6_123 hd_X5_pointing ⟨rfl, rfl, rfl⟩ isY6.o (ce5 isY6.k) rfl ⟨Nat.le_of_ble_eq_true rfl, Nat.le_of_ble_eq_true rfl⟩ ⟨Nat.le_of_ble_eq_true rfl, Nat.le_of_ble_eq_true rfl⟩ hl.1 rfl (Nat.le_of_ble_eq_true rfl) dX6_arm_78 (fun H locs hP hS => ?_)
        have hq := Option.some.inj hf
        exact q_iret hx hb hr hlk hP hS hq rfl dX6_arm_81
      have hf := ifn hc2 hf
      refine lv_tableOut (tgt := 82) hx hb dX6_arm_25 (tb_out_0_2 hc0 hc1 hc2) (by decide) ?_
      refine lv_iconst (v := (-1 : Int32)) hx hb dX6_arm_82 (by decide) ?_
      have hq := Option.some.inj hf
      exact q_iret hx hb hr hlk hP hS hq rfl dX6_arm_83
    · have hf := ifn (fun h => h hc) hf
      refine lv_iconst (v := (-1 : Int32)) hx hb dX6_arm_22 (by decide) ?_
      have hq := Option.some.inj hf
      exact q_iret hx hb hr hlk hP hS hq rfl dX6_arm_23
def f_X6_walker (σ : Sg) (a1 : Int32) (a2 : Int32) : Option Int32 :=
  (f_X5_isWalker σ (6) a1).bind fun v5 =>
  if ¬ v5 = 0 then
  if a2 = (0 : Int32) then
  (f_X5_placeOf σ (6) a1).bind fun v45 =>
  some v45
  else if a2 = (1 : Int32) then
  (f_X5_goalOf σ (6) a1).bind fun v54 =>
  some v54
  else if a2 = (2 : Int32) then
  (f_X5_hasCome σ (6) a1).bind fun v63 =>
  if v63 = 0 then
  some (0 : Int32)
  else
  some (1 : Int32)
  else some (-1 : Int32)
  else
  some (-1 : Int32)
set_option maxHeartbeats 4000000 in
set_option maxRecDepth 100000 in
theorem c_X6_walker (l : Launch) (D : va_G) (w : Wv) (σ : Sg) (a1 : Int32) (a2 : Int32) (r : Int32)  (hf : f_X6_walker σ a1 a2 = some r) : Met l yX6_walker (.code yX6_walker cX6_walker 3 (some .int) :: TB) (rmW 2 45) (pcW D w [.ref (w.1 (0)), .int a1, .int a2] σ) (qiW D w r σ) 0 0 (AL w) := by
  refine q_open (by decide +kernel) (Nat.le_of_ble_eq_true rfl) ?_
  intro p e s m args below meth c ls hx hb hml hr hlk hown hts hK hP hS hl
  have hown : s.vm.findClass RX6 = some m.cls := hown
  have hl : lv_has ls 3 [(0, .ref (w.1 (0))), (1, .int a1), (2, .int a2)] := hl
  unfold f_X6_walker at hf
  refine lv_aload_n hx hb dX6_walker_0 rfl (lv_at hl 0 rfl) ?_
  refine gt_X6_19 hx hb hts hown hK hP dX6_walker_1 ?_
  refine lv_iload_n hx hb dX6_walker_4 rfl (lv_at hl 1 rfl) ?_
  obtain ⟨v5, h5, hf⟩ := bnd hf
  refine q_cVz (As := [.int a1]) hx hb hts hml hown hK hP hS (c_X5_isWalker l D w σ (6) a1 v5 isY6 h5) hw_X6_126 hd_X5_isWalker ⟨rfl, rfl, rfl⟩ isY6.o (ce5 isY6.k) rfl ⟨Nat.le_of_ble_eq_true rfl, Nat.le_of_ble_eq_true rfl⟩ ⟨Nat.le_of_ble_eq_true rfl, Nat.le_of_ble_eq_true rfl⟩ hl.1 rfl (Nat.le_of_ble_eq_true rfl) dX6_walker_5 (fun hz5 H locs hP hS => ?_)
  refine lv_if_ne (tgt := 13) hx hb dX6_walker_8 (by decide) (fun hc => ?_) (fun hc => ?_)
  · have hf := ifp hc hf
    refine lv_iload_n hx hb dX6_walker_13 rfl (lv_at hl 2 rfl) ?_
    rcases Decidable.em (a2 = (0 : Int32)) with hc | hc0
    · have hf := ifp hc hf
      refine lv_tableIn (off := 26) (tgt := 40) hx hb dX6_walker_14 (by rw [hc]; decide) (by rw [hc]; decide) (by rw [hc]; rfl) (by decide) ?_
      refine lv_aload_n hx hb dX6_walker_40 rfl (lv_at hl 0 rfl) ?_
      refine gt_X6_19 hx hb hts hown hK hP dX6_walker_41 ?_
      refine lv_iload_n hx hb dX6_walker_44 rfl (lv_at hl 1 rfl) ?_
      obtain ⟨v45, h45, hf⟩ := bnd hf
      refine q_cVi (As := [.int a1]) hx hb hts hml hown hK hP hS (c_X5_placeOf l D w σ (6) a1 v45 isY6 h45) hw_X6_129 hd_X5_placeOf ⟨rfl, rfl, rfl⟩ isY6.o (ce5 isY6.k) rfl ⟨Nat.le_of_ble_eq_true rfl, Nat.le_of_ble_eq_true rfl⟩ ⟨Nat.le_of_ble_eq_true rfl, Nat.le_of_ble_eq_true rfl⟩ hl.1 rfl (Nat.le_of_ble_eq_true rfl) dX6_walker_45 (fun H locs hP hS => ?_)
      have hq := Option.some.inj hf
      exact q_iret hx hb hr hlk hP hS hq rfl dX6_walker_48
    have hf := ifn hc0 hf
    rcases Decidable.em (a2 = (1 : Int32)) with hc | hc1
    · have hf := ifp hc hf
      refine lv_tableIn (off := 35) (tgt := 49) hx hb dX6_walker_14 (by rw [hc]; decide) (by rw [hc]; decide) (by rw [hc]; rfl) (by decide) ?_
      refine lv_aload_n hx hb dX6_walker_49 rfl (lv_at hl 0 rfl) ?_
      refine gt_X6_19 hx hb hts hown hK hP dX6_walker_50 ?_
      refine lv_iload_n hx hb dX6_walker_53 rfl (lv_at hl 1 rfl) ?_
      obtain ⟨v54, h54, hf⟩ := bnd hf
      refine q_cVi (As := [.int a1]) hx hb hts hml hown hK hP hS (c_X5_goalOf l D w σ (6) a1 v54 isY6 h54) hw_X6_132 hd_X5_goalOf ⟨rfl, rfl, rfl⟩ isY6.o (ce5 isY6.k) rfl ⟨Nat.le_of_ble_eq_true rfl, Nat.le_of_ble_eq_true rfl⟩ ⟨Nat.le_of_ble_eq_true rfl, Nat.le_of_ble_eq_true rfl⟩ hl.1 rfl (Nat.le_of_ble_eq_true rfl) dX6_walker_54 (fun H locs hP hS => ?_)
      have hq := Option.some.inj hf
      exact q_iret hx hb hr hlk hP hS hq rfl dX6_walker_57
    have hf := ifn hc1 hf
    rcases Decidable.em (a2 = (2 : Int32)) with hc | hc2
    · have hf := ifp hc hf
      refine lv_tableIn (off := 44) (tgt := 58) hx hb dX6_walker_14 (by rw [hc]; decide) (by rw [hc]; decide) (by rw [hc]; rfl) (by decide) ?_
      refine lv_aload_n hx hb dX6_walker_58 rfl (lv_at hl 0 rfl) ?_
      refine gt_X6_19 hx hb hts hown hK hP dX6_walker_59 ?_
      refine lv_iload_n hx hb dX6_walker_62 rfl (lv_at hl 1 rfl) ?_
      obtain ⟨v63, h63, hf⟩ := bnd hf
      refine q_cVz (As := [.int a1]) hx hb hts hml hown hK hP hS (c_X5_hasCome l D w σ (6) a1 v63 isY6 h63) hw_X6_135 hd_X5_hasCome ⟨rfl, rfl, rfl⟩ isY6.o (ce5 isY6.k) rfl ⟨Nat.le_of_ble_eq_true rfl, Nat.le_of_ble_eq_true rfl⟩ ⟨Nat.le_of_ble_eq_true rfl, Nat.le_of_ble_eq_true rfl⟩ hl.1 rfl (Nat.le_of_ble_eq_true rfl) dX6_walker_63 (fun hz63 H locs hP hS => ?_)
      refine lv_if_eq (tgt := 73) hx hb dX6_walker_66 (by decide) (fun hc => ?_) (fun hc => ?_)
      · have hf := ifp hc hf
        refine lv_iconst (v := (0 : Int32)) hx hb dX6_walker_73 (by decide) ?_
        have hq := Option.some.inj hf
        exact q_iret hx hb hr hlk hP hS hq rfl dX6_walker_74
      · have hf := ifn hc hf
        refine lv_iconst (v := (1 : Int32)) hx hb dX6_walker_69 (by decide) ?_
        refine lv_goto (tgt := 74) hx hb dX6_walker_70 (by decide) ?_
        have hq := Option.some.inj hf
        exact q_iret hx hb hr hlk hP hS hq rfl dX6_walker_74
    have hf := ifn hc2 hf
    refine lv_tableOut (tgt := 75) hx hb dX6_walker_14 (tb_out_0_2 hc0 hc1 hc2) (by decide) ?_
    refine lv_iconst (v := (-1 : Int32)) hx hb dX6_walker_75 (by decide) ?_
    have hq := Option.some.inj hf
    exact q_iret hx hb hr hlk hP hS hq rfl dX6_walker_76
  · have hf := ifn (fun h => h hc) hf
    refine lv_iconst (v := (-1 : Int32)) hx hb dX6_walker_11 (by decide) ?_
    have hq := Option.some.inj hf
    exact q_iret hx hb hr hlk hP hS hq rfl dX6_walker_12
def f_X6_pass (σ : Sg) (a1 : Int32) : Option (Int32 × Sg) :=
  if a1 < (1 : Int32) then
  some ((-1 : Int32), σ)
  else
  if a1 ≤ (20 : Int32) then
  (f_X5_hour σ (6)).bind fun v17 =>
  if (v17 + a1) ≤ (999 : Int32) then
  (f_X4_setAside σ (34) (6)).bind fun σ39 =>
  (f_X5_passHours σ39 (6) a1).bind fun σ47 =>
  (f_X5_hour σ47 (6)).bind fun v54 =>
  some (v54, σ47)
  else
  some ((-2 : Int32), σ)
  else
  some ((-1 : Int32), σ)
set_option maxHeartbeats 4000000 in
set_option maxRecDepth 100000 in
theorem c_X6_pass (l : Launch) (D : va_G) (w : Wv) (σ : Sg) (a1 : Int32) (r : Int32) (σ' : Sg)  (hJ : Inj w) (hf : f_X6_pass σ a1 = some (r, σ')) : Met l yX6_pass (.code yX6_pass cX6_pass 2 (some .int) :: TB) (rmW 5 123) (pcW D w [.ref (w.1 (0)), .int a1] σ) (qiW D w r σ') 0 0 (AL w) := by
  refine q_open (by decide +kernel) (Nat.le_of_ble_eq_true rfl) ?_
  intro p e s m args below meth c ls hx hb hml hr hlk hown hts hK hP hS hl
  have hown : s.vm.findClass RX6 = some m.cls := hown
  have hl : lv_has ls 2 [(0, .ref (w.1 (0))), (1, .int a1)] := hl
  unfold f_X6_pass at hf
  refine lv_iload_n hx hb dX6_pass_0 rfl (lv_at hl 1 rfl) ?_
  refine lv_iconst (v := (1 : Int32)) hx hb dX6_pass_1 (by decide) ?_
  refine lv_icmp_lt (tgt := 11) hx hb dX6_pass_2 (by decide) (fun hc => ?_) (fun hc => ?_)
  · have hf := ifp hc hf
    refine lv_iconst (v := (-1 : Int32)) hx hb dX6_pass_11 (by decide) ?_
    have hq := Option.some.inj hf
    exact q_iret hx hb hr hlk hP hS (congrArg Prod.fst hq) (congrArg Prod.snd hq) dX6_pass_12
  · have hf := ifn hc hf
    refine lv_iload_n hx hb dX6_pass_5 rfl (lv_at hl 1 rfl) ?_
    refine lv_bipush (v := (20 : Int32)) hx hb dX6_pass_6 (by decide) ?_
    refine lv_icmp_le (tgt := 13) hx hb dX6_pass_8 (by decide) (fun hc => ?_) (fun hc => ?_)
    · have hf := ifp hc hf
      refine lv_aload_n hx hb dX6_pass_13 rfl (lv_at hl 0 rfl) ?_
      refine gt_X6_19 hx hb hts hown hK hP dX6_pass_14 ?_
      obtain ⟨v17, h17, hf⟩ := bnd hf
      refine q_cVi (As := []) hx hb hts hml hown hK hP hS (c_X5_hour l D w σ (6) v17 isY6 h17) hw_X6_138 hd_X5_hour ⟨rfl, rfl, rfl⟩ isY6.o (ce5 isY6.k) rfl ⟨Nat.le_of_ble_eq_true rfl, Nat.le_of_ble_eq_true rfl⟩ ⟨Nat.le_of_ble_eq_true rfl, Nat.le_of_ble_eq_true rfl⟩ hl.1 rfl (Nat.le_of_ble_eq_true rfl) dX6_pass_17 (fun H locs hP hS => ?_)
      refine lv_iload_n hx hb dX6_pass_20 rfl (lv_at hl 1 rfl) ?_
      refine lv_iadd hx hb dX6_pass_21 ?_
      refine lv_sipush (v := (999 : Int32)) hx hb dX6_pass_22 (by decide) ?_
      refine lv_icmp_le (tgt := 31) hx hb dX6_pass_25 (by decide) (fun hc => ?_) (fun hc => ?_)
      · have hf := ifp hc hf
        refine lv_aload_n hx hb dX6_pass_31 rfl (lv_at hl 0 rfl) ?_
        refine gt_X6_31 hx hb hts hown hK hP dX6_pass_32 ?_
        refine lv_aload_n hx hb dX6_pass_35 rfl (lv_at hl 0 rfl) ?_
        refine gt_X6_19 hx hb hts hown hK hP dX6_pass_36 ?_
        obtain ⟨σ39, h39, hf⟩ := bnd hf
        refine q_cVv (As := [.ref (w.1 (6))]) hx hb hts hml hown hK hP hS (c_X4_setAside l D w σ (34) (6) σ39 isS34 isY6 hJ h39) hw_X6_141 hd_X4_setAside ⟨rfl, rfl, rfl⟩ isS34.o (ce4 isS34.k) rfl ⟨Nat.le_of_ble_eq_true rfl, Nat.le_of_ble_eq_true rfl⟩ ⟨Nat.le_of_ble_eq_true rfl, Nat.le_of_ble_eq_true rfl⟩ hl.1 rfl (Nat.le_of_ble_eq_true rfl) dX6_pass_39 (fun H locs hP hS => ?_)
        refine lv_aload_n hx hb dX6_pass_42 rfl (lv_at hl 0 rfl) ?_
        refine gt_X6_19 hx hb hts hown hK hP dX6_pass_43 ?_
        refine lv_iload_n hx hb dX6_pass_46 rfl (lv_at hl 1 rfl) ?_
        obtain ⟨σ47, h47, hf⟩ := bnd hf
        refine q_cVv (As := [.int a1]) hx hb hts hml hown hK hP hS (c_X5_passHours l D w σ39 (6) a1 σ47 isY6 hJ h47) hw_X6_144 hd_X5_passHours ⟨rfl, rfl, rfl⟩ isY6.o (ce5 isY6.k) rfl ⟨Nat.le_of_ble_eq_true rfl, Nat.le_of_ble_eq_true rfl⟩ ⟨Nat.le_of_ble_eq_true rfl, Nat.le_of_ble_eq_true rfl⟩ hl.1 rfl (Nat.le_of_ble_eq_true rfl) dX6_pass_47 (fun H locs hP hS => ?_)
        refine lv_aload_n hx hb dX6_pass_50 rfl (lv_at hl 0 rfl) ?_
        refine gt_X6_19 hx hb hts hown hK hP dX6_pass_51 ?_
        obtain ⟨v54, h54, hf⟩ := bnd hf
        refine q_cVi (As := []) hx hb hts hml hown hK hP hS (c_X5_hour l D w σ47 (6) v54 isY6 h54) hw_X6_138 hd_X5_hour ⟨rfl, rfl, rfl⟩ isY6.o (ce5 isY6.k) rfl ⟨Nat.le_of_ble_eq_true rfl, Nat.le_of_ble_eq_true rfl⟩ ⟨Nat.le_of_ble_eq_true rfl, Nat.le_of_ble_eq_true rfl⟩ hl.1 rfl (Nat.le_of_ble_eq_true rfl) dX6_pass_54 (fun H locs hP hS => ?_)
        have hq := Option.some.inj hf
        exact q_iret hx hb hr hlk hP hS (congrArg Prod.fst hq) (congrArg Prod.snd hq) dX6_pass_57
      · have hf := ifn hc hf
        refine lv_bipush (v := (-2 : Int32)) hx hb dX6_pass_28 (by decide) ?_
        have hq := Option.some.inj hf
        exact q_iret hx hb hr hlk hP hS (congrArg Prod.fst hq) (congrArg Prod.snd hq) dX6_pass_30
    · have hf := ifn hc hf
      refine lv_iconst (v := (-1 : Int32)) hx hb dX6_pass_11 (by decide) ?_
      have hq := Option.some.inj hf
      exact q_iret hx hb hr hlk hP hS (congrArg Prod.fst hq) (congrArg Prod.snd hq) dX6_pass_12
def f_X6_year (σ : Sg)  : Option (Int32 × Sg) :=
  (f_X4_setAside σ (34) (6)).bind fun σ8 =>
  (f_X5_passYear σ8 (6)).bind fun q15 =>
  some (q15.1, q15.2)
set_option maxHeartbeats 4000000 in
set_option maxRecDepth 100000 in
theorem c_X6_year (l : Launch) (D : va_G) (w : Wv) (σ : Sg)  (r : Int32) (σ' : Sg)  (hJ : Inj w) (hf : f_X6_year σ = some (r, σ')) : Met l yX6_year (.code yX6_year cX6_year 1 (some .int) :: TB) (rmW 5 107) (pcW D w [.ref (w.1 (0))] σ) (qiW D w r σ') 0 0 (AL w) := by
  refine q_open (by decide +kernel) (Nat.le_of_ble_eq_true rfl) ?_
  intro p e s m args below meth c ls hx hb hml hr hlk hown hts hK hP hS hl
  have hown : s.vm.findClass RX6 = some m.cls := hown
  have hl : lv_has ls 1 [(0, .ref (w.1 (0)))] := hl
  unfold f_X6_year at hf
  refine lv_aload_n hx hb dX6_year_0 rfl (lv_at hl 0 rfl) ?_
  refine gt_X6_31 hx hb hts hown hK hP dX6_year_1 ?_
  refine lv_aload_n hx hb dX6_year_4 rfl (lv_at hl 0 rfl) ?_
  refine gt_X6_19 hx hb hts hown hK hP dX6_year_5 ?_
  obtain ⟨σ8, h8, hf⟩ := bnd hf
  refine q_cVv (As := [.ref (w.1 (6))]) hx hb hts hml hown hK hP hS (c_X4_setAside l D w σ (34) (6) σ8 isS34 isY6 hJ h8) hw_X6_141 hd_X4_setAside ⟨rfl, rfl, rfl⟩ isS34.o (ce4 isS34.k) rfl ⟨Nat.le_of_ble_eq_true rfl, Nat.le_of_ble_eq_true rfl⟩ ⟨Nat.le_of_ble_eq_true rfl, Nat.le_of_ble_eq_true rfl⟩ hl.1 rfl (Nat.le_of_ble_eq_true rfl) dX6_year_8 (fun H locs hP hS => ?_)
  refine lv_aload_n hx hb dX6_year_11 rfl (lv_at hl 0 rfl) ?_
  refine gt_X6_19 hx hb hts hown hK hP dX6_year_12 ?_
  obtain ⟨⟨v15, σ15⟩, h15, hf⟩ := bnd hf
  dsimp only at hf
  refine q_cVi (As := []) hx hb hts hml hown hK hP hS (c_X5_passYear l D w σ8 (6) v15 σ15 isY6 hJ h15) hw_X6_147 hd_X5_passYear ⟨rfl, rfl, rfl⟩ isY6.o (ce5 isY6.k) rfl ⟨Nat.le_of_ble_eq_true rfl, Nat.le_of_ble_eq_true rfl⟩ ⟨Nat.le_of_ble_eq_true rfl, Nat.le_of_ble_eq_true rfl⟩ hl.1 rfl (Nat.le_of_ble_eq_true rfl) dX6_year_15 (fun H locs hP hS => ?_)
  have hq := Option.some.inj hf
  exact q_iret hx hb hr hlk hP hS (congrArg Prod.fst hq) (congrArg Prod.snd hq) dX6_year_18
def f_X6_lays (σ : Sg) (a1 : Int32) (a2 : Int32) (a3 : Int32) : Option (Int32 × Sg) :=
  (f_X5_areTwoTowns σ (6) a1 a2).bind fun v6 =>
  if v6 = 0 then
  some ((-1 : Int32), σ)
  else
  if a3 < 0 then
  some ((-1 : Int32), σ)
  else
  if a3 ≤ (9 : Int32) then
  (f_X4_setAside σ (34) (6)).bind fun σ32 =>
  (f_X3_between σ32 (6 + 1) a1 a2).bind fun v44 =>
  (f_X3_change σ32 (6 + 1) a1 a2 a3).bind fun σ59 =>
  some (v44, σ59)
  else
  some ((-1 : Int32), σ)
set_option maxHeartbeats 4000000 in
set_option maxRecDepth 100000 in
theorem c_X6_lays (l : Launch) (D : va_G) (w : Wv) (σ : Sg) (a1 : Int32) (a2 : Int32) (a3 : Int32) (r : Int32) (σ' : Sg)  (hJ : Inj w) (hf : f_X6_lays σ a1 a2 a3 = some (r, σ')) : Met l yX6_lays (.code yX6_lays cX6_lays 5 (some .int) :: TB) (rmW 5 107) (pcW D w [.ref (w.1 (0)), .int a1, .int a2, .int a3] σ) (qiW D w r σ') 0 0 (AL w) := by
  refine q_open (by decide +kernel) (Nat.le_of_ble_eq_true rfl) ?_
  intro p e s m args below meth c ls hx hb hml hr hlk hown hts hK hP hS hl
  have hown : s.vm.findClass RX6 = some m.cls := hown
  have hl : lv_has ls 5 [(0, .ref (w.1 (0))), (1, .int a1), (2, .int a2), (3, .int a3)] := hl
  unfold f_X6_lays at hf
  refine lv_aload_n hx hb dX6_lays_0 rfl (lv_at hl 0 rfl) ?_
  refine gt_X6_19 hx hb hts hown hK hP dX6_lays_1 ?_
  refine lv_iload_n hx hb dX6_lays_4 rfl (lv_at hl 1 rfl) ?_
  refine lv_iload_n hx hb dX6_lays_5 rfl (lv_at hl 2 rfl) ?_
  obtain ⟨v6, h6, hf⟩ := bnd hf
  refine q_cVz (As := [.int a1, .int a2]) hx hb hts hml hown hK hP hS (c_X5_areTwoTowns l D w σ (6) a1 a2 v6 isY6 h6) hw_X6_87 hd_X5_areTwoTowns ⟨rfl, rfl, rfl⟩ isY6.o (ce5 isY6.k) rfl ⟨Nat.le_of_ble_eq_true rfl, Nat.le_of_ble_eq_true rfl⟩ ⟨Nat.le_of_ble_eq_true rfl, Nat.le_of_ble_eq_true rfl⟩ hl.1 rfl (Nat.le_of_ble_eq_true rfl) dX6_lays_6 (fun hz6 H locs hP hS => ?_)
  refine lv_if_eq (tgt := 22) hx hb dX6_lays_9 (by decide) (fun hc => ?_) (fun hc => ?_)
  · have hf := ifp hc hf
    refine lv_iconst (v := (-1 : Int32)) hx hb dX6_lays_22 (by decide) ?_
    have hq := Option.some.inj hf
    exact q_iret hx hb hr hlk hP hS (congrArg Prod.fst hq) (congrArg Prod.snd hq) dX6_lays_23
  · have hf := ifn hc hf
    refine lv_iload_n hx hb dX6_lays_12 rfl (lv_at hl 3 rfl) ?_
    refine lv_if_lt (tgt := 22) hx hb dX6_lays_13 (by decide) (fun hc => ?_) (fun hc => ?_)
    · have hf := ifp hc hf
      refine lv_iconst (v := (-1 : Int32)) hx hb dX6_lays_22 (by decide) ?_
      have hq := Option.some.inj hf
      exact q_iret hx hb hr hlk hP hS (congrArg Prod.fst hq) (congrArg Prod.snd hq) dX6_lays_23
    · have hf := ifn hc hf
      refine lv_iload_n hx hb dX6_lays_16 rfl (lv_at hl 3 rfl) ?_
      refine lv_bipush (v := (9 : Int32)) hx hb dX6_lays_17 (by decide) ?_
      refine lv_icmp_le (tgt := 24) hx hb dX6_lays_19 (by decide) (fun hc => ?_) (fun hc => ?_)
      · have hf := ifp hc hf
        refine lv_aload_n hx hb dX6_lays_24 rfl (lv_at hl 0 rfl) ?_
        refine gt_X6_31 hx hb hts hown hK hP dX6_lays_25 ?_
        refine lv_aload_n hx hb dX6_lays_28 rfl (lv_at hl 0 rfl) ?_
        refine gt_X6_19 hx hb hts hown hK hP dX6_lays_29 ?_
        obtain ⟨σ32, h32, hf⟩ := bnd hf
        refine q_cVv (As := [.ref (w.1 (6))]) hx hb hts hml hown hK hP hS (c_X4_setAside l D w σ (34) (6) σ32 isS34 isY6 hJ h32) hw_X6_141 hd_X4_setAside ⟨rfl, rfl, rfl⟩ isS34.o (ce4 isS34.k) rfl ⟨Nat.le_of_ble_eq_true rfl, Nat.le_of_ble_eq_true rfl⟩ ⟨Nat.le_of_ble_eq_true rfl, Nat.le_of_ble_eq_true rfl⟩ hl.1 rfl (Nat.le_of_ble_eq_true rfl) dX6_lays_32 (fun H locs hP hS => ?_)
        refine lv_aload_n hx hb dX6_lays_35 rfl (lv_at hl 0 rfl) ?_
        refine gt_X6_19 hx hb hts hown hK hP dX6_lays_36 ?_
        refine q_cVr (As := []) hx hb hts hml hown hK hP hS (c_X5_roads l D w σ32 (6) isY6) hw_X6_91 hd_X5_roads ⟨rfl, rfl, rfl⟩ isY6.o (ce5 isY6.k) rfl ⟨Nat.le_of_ble_eq_true rfl, Nat.le_of_ble_eq_true rfl⟩ ⟨Nat.le_of_ble_eq_true rfl, Nat.le_of_ble_eq_true rfl⟩ hl.1 rfl (Nat.le_of_ble_eq_true rfl) dX6_lays_39 (fun H locs hP hS => ?_)
        refine lv_iload_n hx hb dX6_lays_42 rfl (lv_at hl 1 rfl) ?_
        refine lv_iload_n hx hb dX6_lays_43 rfl (lv_at hl 2 rfl) ?_
        obtain ⟨v44, h44, hf⟩ := bnd hf
        refine q_cVi (As := [.int a1, .int a2]) hx hb hts hml hown hK hP hS (c_X3_between l D w σ32 (6 + 1) a1 a2 v44 isY6.f0 h44) hw_X6_95 hd_X3_between ⟨rfl, rfl, rfl⟩ isY6.f0.o (ce3 isY6.f0.k) rfl ⟨Nat.le_of_ble_eq_true rfl, Nat.le_of_ble_eq_true rfl⟩ ⟨Nat.le_of_ble_eq_true rfl, Nat.le_of_ble_eq_true rfl⟩ hl.1 rfl (Nat.le_of_ble_eq_true rfl) dX6_lays_44 (fun H locs hP hS => ?_)
        refine lv_istore (lv' := [(4, .int v44), (0, .ref (w.1 (0))), (1, .int a1), (2, .int a2), (3, .int a3)]) hx hb dX6_lays_47 hl (by decide) rfl (fun ls hl => ?_)
        refine lv_aload_n hx hb dX6_lays_49 rfl (lv_at hl 1 rfl) ?_
        refine gt_X6_19 hx hb hts hown hK hP dX6_lays_50 ?_
        refine q_cVr (As := []) hx hb hts hml hown hK hP hS (c_X5_roads l D w σ32 (6) isY6) hw_X6_91 hd_X5_roads ⟨rfl, rfl, rfl⟩ isY6.o (ce5 isY6.k) rfl ⟨Nat.le_of_ble_eq_true rfl, Nat.le_of_ble_eq_true rfl⟩ ⟨Nat.le_of_ble_eq_true rfl, Nat.le_of_ble_eq_true rfl⟩ hl.1 rfl (Nat.le_of_ble_eq_true rfl) dX6_lays_53 (fun H locs hP hS => ?_)
        refine lv_iload_n hx hb dX6_lays_56 rfl (lv_at hl 2 rfl) ?_
        refine lv_iload_n hx hb dX6_lays_57 rfl (lv_at hl 3 rfl) ?_
        refine lv_iload_n hx hb dX6_lays_58 rfl (lv_at hl 4 rfl) ?_
        obtain ⟨σ59, h59, hf⟩ := bnd hf
        refine q_cVv (As := [.int a1, .int a2, .int a3]) hx hb hts hml hown hK hP hS (c_X3_change l D w σ32 (6 + 1) a1 a2 a3 σ59 isY6.f0 hJ h59) hw_X6_150 hd_X3_change ⟨rfl, rfl, rfl⟩ isY6.f0.o (ce3 isY6.f0.k) rfl ⟨Nat.le_of_ble_eq_true rfl, Nat.le_of_ble_eq_true rfl⟩ ⟨Nat.le_of_ble_eq_true rfl, Nat.le_of_ble_eq_true rfl⟩ hl.1 rfl (Nat.le_of_ble_eq_true rfl) dX6_lays_59 (fun H locs hP hS => ?_)
        refine lv_iload hx hb dX6_lays_62 (lv_at hl 0 rfl) ?_
        have hq := Option.some.inj hf
        exact q_iret hx hb hr hlk hP hS (congrArg Prod.fst hq) (congrArg Prod.snd hq) dX6_lays_64
      · have hf := ifn hc hf
        refine lv_iconst (v := (-1 : Int32)) hx hb dX6_lays_22 (by decide) ?_
        have hq := Option.some.inj hf
        exact q_iret hx hb hr hlk hP hS (congrArg Prod.fst hq) (congrArg Prod.snd hq) dX6_lays_23
def f_X6_paint (σ : Sg) (a1 : Int32) : Option (Int32 × Sg) :=
  (f_X5_isPost σ (6) a1).bind fun v5 =>
  if ¬ v5 = 0 then
  (f_X5_isRetired σ (6) a1).bind fun v18 =>
  if v18 = 0 then
  (f_X4_setAside σ (34) (6)).bind fun σ35 =>
  (f_X5_paintPost σ35 (6) a1).bind fun q43 =>
  some (q43.1, q43.2)
  else
  some ((-2 : Int32), σ)
  else
  some ((-1 : Int32), σ)
set_option maxHeartbeats 4000000 in
set_option maxRecDepth 100000 in
theorem c_X6_paint (l : Launch) (D : va_G) (w : Wv) (σ : Sg) (a1 : Int32) (r : Int32) (σ' : Sg)  (hJ : Inj w) (hf : f_X6_paint σ a1 = some (r, σ')) : Met l yX6_paint (.code yX6_paint cX6_paint 2 (some .int) :: TB) (rmW 5 107) (pcW D w [.ref (w.1 (0)), .int a1] σ) (qiW D w r σ') 0 0 (AL w) := by
  refine q_open (by decide +kernel) (Nat.le_of_ble_eq_true rfl) ?_
  intro p e s m args below meth c ls hx hb hml hr hlk hown hts hK hP hS hl
  have hown : s.vm.findClass RX6 = some m.cls := hown
  have hl : lv_has ls 2 [(0, .ref (w.1 (0))), (1, .int a1)] := hl
  unfold f_X6_paint at hf
  refine lv_aload_n hx hb dX6_paint_0 rfl (lv_at hl 0 rfl) ?_
  refine gt_X6_19 hx hb hts hown hK hP dX6_paint_1 ?_
  refine lv_iload_n hx hb dX6_paint_4 rfl (lv_at hl 1 rfl) ?_
  obtain ⟨v5, h5, hf⟩ := bnd hf
  refine q_cVz (As := [.int a1]) hx hb hts hml hown hK hP hS (c_X5_isPost l D w σ (6) a1 v5 isY6 h5) hw_X6_101 hd_X5_isPost ⟨rfl, rfl, rfl⟩ isY6.o (ce5 isY6.k) rfl ⟨Nat.le_of_ble_eq_true rfl, Nat.le_of_ble_eq_true rfl⟩ ⟨Nat.le_of_ble_eq_true rfl, Nat.le_of_ble_eq_true rfl⟩ hl.1 rfl (Nat.le_of_ble_eq_true rfl) dX6_paint_5 (fun hz5 H locs hP hS => ?_)
  refine lv_if_ne (tgt := 13) hx hb dX6_paint_8 (by decide) (fun hc => ?_) (fun hc => ?_)
  · have hf := ifp hc hf
    refine lv_aload_n hx hb dX6_paint_13 rfl (lv_at hl 0 rfl) ?_
    refine gt_X6_19 hx hb hts hown hK hP dX6_paint_14 ?_
    refine lv_iload_n hx hb dX6_paint_17 rfl (lv_at hl 1 rfl) ?_
    obtain ⟨v18, h18, hf⟩ := bnd hf
    refine q_cVz (As := [.int a1]) hx hb hts hml hown hK hP hS (c_X5_isRetired l D w σ (6) a1 v18 isY6 h18) hw_X6_154 hd_X5_isRetired ⟨rfl, rfl, rfl⟩ isY6.o (ce5 isY6.k) rfl ⟨Nat.le_of_ble_eq_true rfl, Nat.le_of_ble_eq_true rfl⟩ ⟨Nat.le_of_ble_eq_true rfl, Nat.le_of_ble_eq_true rfl⟩ hl.1 rfl (Nat.le_of_ble_eq_true rfl) dX6_paint_18 (fun hz18 H locs hP hS => ?_)
    refine lv_if_eq (tgt := 27) hx hb dX6_paint_21 (by decide) (fun hc => ?_) (fun hc => ?_)
    · have hf := ifp hc hf
      refine lv_aload_n hx hb dX6_paint_27 rfl (lv_at hl 0 rfl) ?_
      refine gt_X6_31 hx hb hts hown hK hP dX6_paint_28 ?_
      refine lv_aload_n hx hb dX6_paint_31 rfl (lv_at hl 0 rfl) ?_
      refine gt_X6_19 hx hb hts hown hK hP dX6_paint_32 ?_
      obtain ⟨σ35, h35, hf⟩ := bnd hf
      refine q_cVv (As := [.ref (w.1 (6))]) hx hb hts hml hown hK hP hS (c_X4_setAside l D w σ (34) (6) σ35 isS34 isY6 hJ h35) hw_X6_141 hd_X4_setAside ⟨rfl, rfl, rfl⟩ isS34.o (ce4 isS34.k) rfl ⟨Nat.le_of_ble_eq_true rfl, Nat.le_of_ble_eq_true rfl⟩ ⟨Nat.le_of_ble_eq_true rfl, Nat.le_of_ble_eq_true rfl⟩ hl.1 rfl (Nat.le_of_ble_eq_true rfl) dX6_paint_35 (fun H locs hP hS => ?_)
      refine lv_aload_n hx hb dX6_paint_38 rfl (lv_at hl 0 rfl) ?_
      refine gt_X6_19 hx hb hts hown hK hP dX6_paint_39 ?_
      refine lv_iload_n hx hb dX6_paint_42 rfl (lv_at hl 1 rfl) ?_
      obtain ⟨⟨v43, σ43⟩, h43, hf⟩ := bnd hf
      dsimp only at hf
      refine q_cVi (As := [.int a1]) hx hb hts hml hown hK hP hS (c_X5_paintPost l D w σ35 (6) a1 v43 σ43 isY6 hJ h43) hw_X6_157 hd_X5_paintPost ⟨rfl, rfl, rfl⟩ isY6.o (ce5 isY6.k) rfl ⟨Nat.le_of_ble_eq_true rfl, Nat.le_of_ble_eq_true rfl⟩ ⟨Nat.le_of_ble_eq_true rfl, Nat.le_of_ble_eq_true rfl⟩ hl.1 rfl (Nat.le_of_ble_eq_true rfl) dX6_paint_43 (fun H locs hP hS => ?_)
      have hq := Option.some.inj hf
      exact q_iret hx hb hr hlk hP hS (congrArg Prod.fst hq) (congrArg Prod.snd hq) dX6_paint_46
    · have hf := ifn hc hf
      refine lv_bipush (v := (-2 : Int32)) hx hb dX6_paint_24 (by decide) ?_
      have hq := Option.some.inj hf
      exact q_iret hx hb hr hlk hP hS (congrArg Prod.fst hq) (congrArg Prod.snd hq) dX6_paint_26
  · have hf := ifn (fun h => h hc) hf
    refine lv_iconst (v := (-1 : Int32)) hx hb dX6_paint_11 (by decide) ?_
    have hq := Option.some.inj hf
    exact q_iret hx hb hr hlk hP hS (congrArg Prod.fst hq) (congrArg Prod.snd hq) dX6_paint_12
def f_X6_move (σ : Sg) (a1 : Int32) (a2 : Int32) : Option (Int32 × Sg) :=
  (f_X5_isPost σ (6) a1).bind fun v5 =>
  if v5 = 0 then
  some ((-1 : Int32), σ)
  else
  (f_X5_isTown σ (6) a2).bind fun v16 =>
  if ¬ v16 = 0 then
  (f_X5_townOf σ (6) a1).bind fun v29 =>
  (f_X5_isRetired σ (6) a1).bind fun v38 =>
  if ¬ v38 = 0 then
  some ((-2 : Int32), σ)
  else
  if ¬ v29 = a2 then
  (f_X4_setAside σ (34) (6)).bind fun σ60 =>
  (f_X5_movePost σ60 (6) a1 a2).bind fun σ69 =>
  some (v29, σ69)
  else
  some ((-2 : Int32), σ)
  else
  some ((-1 : Int32), σ)
set_option maxHeartbeats 4000000 in
set_option maxRecDepth 100000 in
theorem c_X6_move (l : Launch) (D : va_G) (w : Wv) (σ : Sg) (a1 : Int32) (a2 : Int32) (r : Int32) (σ' : Sg)  (hJ : Inj w) (hf : f_X6_move σ a1 a2 = some (r, σ')) : Met l yX6_move (.code yX6_move cX6_move 4 (some .int) :: TB) (rmW 5 107) (pcW D w [.ref (w.1 (0)), .int a1, .int a2] σ) (qiW D w r σ') 0 0 (AL w) := by
  refine q_open (by decide +kernel) (Nat.le_of_ble_eq_true rfl) ?_
  intro p e s m args below meth c ls hx hb hml hr hlk hown hts hK hP hS hl
  have hown : s.vm.findClass RX6 = some m.cls := hown
  have hl : lv_has ls 4 [(0, .ref (w.1 (0))), (1, .int a1), (2, .int a2)] := hl
  unfold f_X6_move at hf
  refine lv_aload_n hx hb dX6_move_0 rfl (lv_at hl 0 rfl) ?_
  refine gt_X6_19 hx hb hts hown hK hP dX6_move_1 ?_
  refine lv_iload_n hx hb dX6_move_4 rfl (lv_at hl 1 rfl) ?_
  obtain ⟨v5, h5, hf⟩ := bnd hf
  refine q_cVz (As := [.int a1]) hx hb hts hml hown hK hP hS (c_X5_isPost l D w σ (6) a1 v5 isY6 h5) hw_X6_101 hd_X5_isPost ⟨rfl, rfl, rfl⟩ isY6.o (ce5 isY6.k) rfl ⟨Nat.le_of_ble_eq_true rfl, Nat.le_of_ble_eq_true rfl⟩ ⟨Nat.le_of_ble_eq_true rfl, Nat.le_of_ble_eq_true rfl⟩ hl.1 rfl (Nat.le_of_ble_eq_true rfl) dX6_move_5 (fun hz5 H locs hP hS => ?_)
  refine lv_if_eq (tgt := 22) hx hb dX6_move_8 (by decide) (fun hc => ?_) (fun hc => ?_)
  · have hf := ifp hc hf
    refine lv_iconst (v := (-1 : Int32)) hx hb dX6_move_22 (by decide) ?_
    have hq := Option.some.inj hf
    exact q_iret hx hb hr hlk hP hS (congrArg Prod.fst hq) (congrArg Prod.snd hq) dX6_move_23
  · have hf := ifn hc hf
    refine lv_aload_n hx hb dX6_move_11 rfl (lv_at hl 0 rfl) ?_
    refine gt_X6_19 hx hb hts hown hK hP dX6_move_12 ?_
    refine lv_iload_n hx hb dX6_move_15 rfl (lv_at hl 2 rfl) ?_
    obtain ⟨v16, h16, hf⟩ := bnd hf
    refine q_cVz (As := [.int a2]) hx hb hts hml hown hK hP hS (c_X5_isTown l D w σ (6) a2 v16 isY6 h16) hw_X6_114 hd_X5_isTown ⟨rfl, rfl, rfl⟩ isY6.o (ce5 isY6.k) rfl ⟨Nat.le_of_ble_eq_true rfl, Nat.le_of_ble_eq_true rfl⟩ ⟨Nat.le_of_ble_eq_true rfl, Nat.le_of_ble_eq_true rfl⟩ hl.1 rfl (Nat.le_of_ble_eq_true rfl) dX6_move_16 (fun hz16 H locs hP hS => ?_)
    refine lv_if_ne (tgt := 24) hx hb dX6_move_19 (by decide) (fun hc => ?_) (fun hc => ?_)
    · have hf := ifp hc hf
      refine lv_aload_n hx hb dX6_move_24 rfl (lv_at hl 0 rfl) ?_
      refine gt_X6_19 hx hb hts hown hK hP dX6_move_25 ?_
      refine lv_iload_n hx hb dX6_move_28 rfl (lv_at hl 1 rfl) ?_
      obtain ⟨v29, h29, hf⟩ := bnd hf
      refine q_cVi (As := [.int a1]) hx hb hts hml hown hK hP hS (c_X5_townOf l D w σ (6) a1 v29 isY6 h29) hw_X6_108 hd_X5_townOf ⟨rfl, rfl, rfl⟩ isY6.o (ce5 isY6.k) rfl ⟨Nat.le_of_ble_eq_true rfl, Nat.le_of_ble_eq_true rfl⟩ ⟨Nat.le_of_ble_eq_true rfl, Nat.le_of_ble_eq_true rfl⟩ hl.1 rfl (Nat.le_of_ble_eq_true rfl) dX6_move_29 (fun H locs hP hS => ?_)
      refine lv_istore_n (lv' := [(3, .int v29), (0, .ref (w.1 (0))), (1, .int a1), (2, .int a2)]) hx hb dX6_move_32 rfl hl (by decide) rfl (fun ls hl => ?_)
      refine lv_aload_n hx hb dX6_move_33 rfl (lv_at hl 1 rfl) ?_
      refine gt_X6_19 hx hb hts hown hK hP dX6_move_34 ?_
      refine lv_iload_n hx hb dX6_move_37 rfl (lv_at hl 2 rfl) ?_
      obtain ⟨v38, h38, hf⟩ := bnd hf
      refine q_cVz (As := [.int a1]) hx hb hts hml hown hK hP hS (c_X5_isRetired l D w σ (6) a1 v38 isY6 h38) hw_X6_154 hd_X5_isRetired ⟨rfl, rfl, rfl⟩ isY6.o (ce5 isY6.k) rfl ⟨Nat.le_of_ble_eq_true rfl, Nat.le_of_ble_eq_true rfl⟩ ⟨Nat.le_of_ble_eq_true rfl, Nat.le_of_ble_eq_true rfl⟩ hl.1 rfl (Nat.le_of_ble_eq_true rfl) dX6_move_38 (fun hz38 H locs hP hS => ?_)
      refine lv_if_ne (tgt := 49) hx hb dX6_move_41 (by decide) (fun hc => ?_) (fun hc => ?_)
      · have hf := ifp hc hf
        refine lv_bipush (v := (-2 : Int32)) hx hb dX6_move_49 (by decide) ?_
        have hq := Option.some.inj hf
        exact q_iret hx hb hr hlk hP hS (congrArg Prod.fst hq) (congrArg Prod.snd hq) dX6_move_51
      · have hf := ifn (fun h => h hc) hf
        refine lv_iload_n hx hb dX6_move_44 rfl (lv_at hl 0 rfl) ?_
        refine lv_iload_n hx hb dX6_move_45 rfl (lv_at hl 3 rfl) ?_
        refine lv_icmp_ne (tgt := 52) hx hb dX6_move_46 (by decide) (fun hc => ?_) (fun hc => ?_)
        · have hf := ifp hc hf
          refine lv_aload_n hx hb dX6_move_52 rfl (lv_at hl 1 rfl) ?_
          refine gt_X6_31 hx hb hts hown hK hP dX6_move_53 ?_
          refine lv_aload_n hx hb dX6_move_56 rfl (lv_at hl 1 rfl) ?_
          refine gt_X6_19 hx hb hts hown hK hP dX6_move_57 ?_
          obtain ⟨σ60, h60, hf⟩ := bnd hf
          refine q_cVv (As := [.ref (w.1 (6))]) hx hb hts hml hown hK hP hS (c_X4_setAside l D w σ (34) (6) σ60 isS34 isY6 hJ h60) hw_X6_141 hd_X4_setAside ⟨rfl, rfl, rfl⟩ isS34.o (ce4 isS34.k) rfl ⟨Nat.le_of_ble_eq_true rfl, Nat.le_of_ble_eq_true rfl⟩ ⟨Nat.le_of_ble_eq_true rfl, Nat.le_of_ble_eq_true rfl⟩ hl.1 rfl (Nat.le_of_ble_eq_true rfl) dX6_move_60 (fun H locs hP hS => ?_)
          refine lv_aload_n hx hb dX6_move_63 rfl (lv_at hl 1 rfl) ?_
          refine gt_X6_19 hx hb hts hown hK hP dX6_move_64 ?_
          refine lv_iload_n hx hb dX6_move_67 rfl (lv_at hl 2 rfl) ?_
          refine lv_iload_n hx hb dX6_move_68 rfl (lv_at hl 3 rfl) ?_
          obtain ⟨σ69, h69, hf⟩ := bnd hf
          refine q_cVv (As := [.int a1, .int a2]) hx hb hts hml hown hK hP hS (c_X5_movePost l D w σ60 (6) a1 a2 σ69 isY6 hJ h69) hw_X6_160 hd_X5_movePost ⟨rfl, rfl, rfl⟩ isY6.o (ce5 isY6.k) rfl ⟨Nat.le_of_ble_eq_true rfl, Nat.le_of_ble_eq_true rfl⟩ ⟨Nat.le_of_ble_eq_true rfl, Nat.le_of_ble_eq_true rfl⟩ hl.1 rfl (Nat.le_of_ble_eq_true rfl) dX6_move_69 (fun H locs hP hS => ?_)
          refine lv_iload_n hx hb dX6_move_72 rfl (lv_at hl 0 rfl) ?_
          have hq := Option.some.inj hf
          exact q_iret hx hb hr hlk hP hS (congrArg Prod.fst hq) (congrArg Prod.snd hq) dX6_move_73
        · have hf := ifn (fun h => h hc) hf
          refine lv_bipush (v := (-2 : Int32)) hx hb dX6_move_49 (by decide) ?_
          have hq := Option.some.inj hf
          exact q_iret hx hb hr hlk hP hS (congrArg Prod.fst hq) (congrArg Prod.snd hq) dX6_move_51
    · have hf := ifn (fun h => h hc) hf
      refine lv_iconst (v := (-1 : Int32)) hx hb dX6_move_22 (by decide) ?_
      have hq := Option.some.inj hf
      exact q_iret hx hb hr hlk hP hS (congrArg Prod.fst hq) (congrArg Prod.snd hq) dX6_move_23
def f_X6_retire (σ : Sg) (a1 : Int32) : Option (Int32 × Sg) :=
  (f_X5_isPost σ (6) a1).bind fun v5 =>
  if ¬ v5 = 0 then
  (f_X5_isRetired σ (6) a1).bind fun v18 =>
  if v18 = 0 then
  (f_X5_townOf σ (6) a1).bind fun v32 =>
  (f_X4_setAside σ (34) (6)).bind fun σ44 =>
  (f_X5_retirePost σ44 (6) a1).bind fun σ52 =>
  some (v32, σ52)
  else
  some ((-2 : Int32), σ)
  else
  some ((-1 : Int32), σ)
set_option maxHeartbeats 4000000 in
set_option maxRecDepth 100000 in
theorem c_X6_retire (l : Launch) (D : va_G) (w : Wv) (σ : Sg) (a1 : Int32) (r : Int32) (σ' : Sg)  (hJ : Inj w) (hf : f_X6_retire σ a1 = some (r, σ')) : Met l yX6_retire (.code yX6_retire cX6_retire 3 (some .int) :: TB) (rmW 5 107) (pcW D w [.ref (w.1 (0)), .int a1] σ) (qiW D w r σ') 0 0 (AL w) := by
  refine q_open (by decide +kernel) (Nat.le_of_ble_eq_true rfl) ?_
  intro p e s m args below meth c ls hx hb hml hr hlk hown hts hK hP hS hl
  have hown : s.vm.findClass RX6 = some m.cls := hown
  have hl : lv_has ls 3 [(0, .ref (w.1 (0))), (1, .int a1)] := hl
  unfold f_X6_retire at hf
  refine lv_aload_n hx hb dX6_retire_0 rfl (lv_at hl 0 rfl) ?_
  refine gt_X6_19 hx hb hts hown hK hP dX6_retire_1 ?_
  refine lv_iload_n hx hb dX6_retire_4 rfl (lv_at hl 1 rfl) ?_
  obtain ⟨v5, h5, hf⟩ := bnd hf
  refine q_cVz (As := [.int a1]) hx hb hts hml hown hK hP hS (c_X5_isPost l D w σ (6) a1 v5 isY6 h5) hw_X6_101 hd_X5_isPost ⟨rfl, rfl, rfl⟩ isY6.o (ce5 isY6.k) rfl ⟨Nat.le_of_ble_eq_true rfl, Nat.le_of_ble_eq_true rfl⟩ ⟨Nat.le_of_ble_eq_true rfl, Nat.le_of_ble_eq_true rfl⟩ hl.1 rfl (Nat.le_of_ble_eq_true rfl) dX6_retire_5 (fun hz5 H locs hP hS => ?_)
  refine lv_if_ne (tgt := 13) hx hb dX6_retire_8 (by decide) (fun hc => ?_) (fun hc => ?_)
  · have hf := ifp hc hf
    refine lv_aload_n hx hb dX6_retire_13 rfl (lv_at hl 0 rfl) ?_
    refine gt_X6_19 hx hb hts hown hK hP dX6_retire_14 ?_
    refine lv_iload_n hx hb dX6_retire_17 rfl (lv_at hl 1 rfl) ?_
    obtain ⟨v18, h18, hf⟩ := bnd hf
    refine q_cVz (As := [.int a1]) hx hb hts hml hown hK hP hS (c_X5_isRetired l D w σ (6) a1 v18 isY6 h18) hw_X6_154 hd_X5_isRetired ⟨rfl, rfl, rfl⟩ isY6.o (ce5 isY6.k) rfl ⟨Nat.le_of_ble_eq_true rfl, Nat.le_of_ble_eq_true rfl⟩ ⟨Nat.le_of_ble_eq_true rfl, Nat.le_of_ble_eq_true rfl⟩ hl.1 rfl (Nat.le_of_ble_eq_true rfl) dX6_retire_18 (fun hz18 H locs hP hS => ?_)
    refine lv_if_eq (tgt := 27) hx hb dX6_retire_21 (by decide) (fun hc => ?_) (fun hc => ?_)
    · have hf := ifp hc hf
      refine lv_aload_n hx hb dX6_retire_27 rfl (lv_at hl 0 rfl) ?_
      refine gt_X6_19 hx hb hts hown hK hP dX6_retire_28 ?_
      refine lv_iload_n hx hb dX6_retire_31 rfl (lv_at hl 1 rfl) ?_
      obtain ⟨v32, h32, hf⟩ := bnd hf
      refine q_cVi (As := [.int a1]) hx hb hts hml hown hK hP hS (c_X5_townOf l D w σ (6) a1 v32 isY6 h32) hw_X6_108 hd_X5_townOf ⟨rfl, rfl, rfl⟩ isY6.o (ce5 isY6.k) rfl ⟨Nat.le_of_ble_eq_true rfl, Nat.le_of_ble_eq_true rfl⟩ ⟨Nat.le_of_ble_eq_true rfl, Nat.le_of_ble_eq_true rfl⟩ hl.1 rfl (Nat.le_of_ble_eq_true rfl) dX6_retire_32 (fun H locs hP hS => ?_)
      refine lv_istore_n (lv' := [(2, .int v32), (0, .ref (w.1 (0))), (1, .int a1)]) hx hb dX6_retire_35 rfl hl (by decide) rfl (fun ls hl => ?_)
      refine lv_aload_n hx hb dX6_retire_36 rfl (lv_at hl 1 rfl) ?_
      refine gt_X6_31 hx hb hts hown hK hP dX6_retire_37 ?_
      refine lv_aload_n hx hb dX6_retire_40 rfl (lv_at hl 1 rfl) ?_
      refine gt_X6_19 hx hb hts hown hK hP dX6_retire_41 ?_
      obtain ⟨σ44, h44, hf⟩ := bnd hf
      refine q_cVv (As := [.ref (w.1 (6))]) hx hb hts hml hown hK hP hS (c_X4_setAside l D w σ (34) (6) σ44 isS34 isY6 hJ h44) hw_X6_141 hd_X4_setAside ⟨rfl, rfl, rfl⟩ isS34.o (ce4 isS34.k) rfl ⟨Nat.le_of_ble_eq_true rfl, Nat.le_of_ble_eq_true rfl⟩ ⟨Nat.le_of_ble_eq_true rfl, Nat.le_of_ble_eq_true rfl⟩ hl.1 rfl (Nat.le_of_ble_eq_true rfl) dX6_retire_44 (fun H locs hP hS => ?_)
      refine lv_aload_n hx hb dX6_retire_47 rfl (lv_at hl 1 rfl) ?_
      refine gt_X6_19 hx hb hts hown hK hP dX6_retire_48 ?_
      refine lv_iload_n hx hb dX6_retire_51 rfl (lv_at hl 2 rfl) ?_
      obtain ⟨σ52, h52, hf⟩ := bnd hf
      refine q_cVv (As := [.int a1]) hx hb hts hml hown hK hP hS (c_X5_retirePost l D w σ44 (6) a1 σ52 isY6 hJ h52) hw_X6_164 hd_X5_retirePost ⟨rfl, rfl, rfl⟩ isY6.o (ce5 isY6.k) rfl ⟨Nat.le_of_ble_eq_true rfl, Nat.le_of_ble_eq_true rfl⟩ ⟨Nat.le_of_ble_eq_true rfl, Nat.le_of_ble_eq_true rfl⟩ hl.1 rfl (Nat.le_of_ble_eq_true rfl) dX6_retire_52 (fun H locs hP hS => ?_)
      refine lv_iload_n hx hb dX6_retire_55 rfl (lv_at hl 0 rfl) ?_
      have hq := Option.some.inj hf
      exact q_iret hx hb hr hlk hP hS (congrArg Prod.fst hq) (congrArg Prod.snd hq) dX6_retire_56
    · have hf := ifn hc hf
      refine lv_bipush (v := (-2 : Int32)) hx hb dX6_retire_24 (by decide) ?_
      have hq := Option.some.inj hf
      exact q_iret hx hb hr hlk hP hS (congrArg Prod.fst hq) (congrArg Prod.snd hq) dX6_retire_26
  · have hf := ifn (fun h => h hc) hf
    refine lv_iconst (v := (-1 : Int32)) hx hb dX6_retire_11 (by decide) ?_
    have hq := Option.some.inj hf
    exact q_iret hx hb hr hlk hP hS (congrArg Prod.fst hq) (congrArg Prod.snd hq) dX6_retire_12
def f_X6_undo (σ : Sg)  : Option (Int32 × Sg) :=
  (f_X4_giveBack σ (34) (6)).bind fun q8 =>
  if q8.1 = 0 then
  some ((-2 : Int32), q8.2)
  else
  (f_X4_held q8.2 (34)).bind fun v18 =>
  some (v18, q8.2)
set_option maxHeartbeats 4000000 in
set_option maxRecDepth 100000 in
theorem c_X6_undo (l : Launch) (D : va_G) (w : Wv) (σ : Sg)  (r : Int32) (σ' : Sg)  (hJ : Inj w) (hf : f_X6_undo σ = some (r, σ')) : Met l yX6_undo (.code yX6_undo cX6_undo 1 (some .int) :: TB) (rmW 5 108) (pcW D w [.ref (w.1 (0))] σ) (qiW D w r σ') 0 0 (AL w) := by
  refine q_open (by decide +kernel) (Nat.le_of_ble_eq_true rfl) ?_
  intro p e s m args below meth c ls hx hb hml hr hlk hown hts hK hP hS hl
  have hown : s.vm.findClass RX6 = some m.cls := hown
  have hl : lv_has ls 1 [(0, .ref (w.1 (0)))] := hl
  unfold f_X6_undo at hf
  refine lv_aload_n hx hb dX6_undo_0 rfl (lv_at hl 0 rfl) ?_
  refine gt_X6_31 hx hb hts hown hK hP dX6_undo_1 ?_
  refine lv_aload_n hx hb dX6_undo_4 rfl (lv_at hl 0 rfl) ?_
  refine gt_X6_19 hx hb hts hown hK hP dX6_undo_5 ?_
  obtain ⟨⟨v8, σ8⟩, h8, hf⟩ := bnd hf
  dsimp only at hf
  refine q_cVz (As := [.ref (w.1 (6))]) hx hb hts hml hown hK hP hS (c_X4_giveBack l D w σ (34) (6) v8 σ8 isS34 isY6 hJ h8) hw_X6_167 hd_X4_giveBack ⟨rfl, rfl, rfl⟩ isS34.o (ce4 isS34.k) rfl ⟨Nat.le_of_ble_eq_true rfl, Nat.le_of_ble_eq_true rfl⟩ ⟨Nat.le_of_ble_eq_true rfl, Nat.le_of_ble_eq_true rfl⟩ hl.1 rfl (Nat.le_of_ble_eq_true rfl) dX6_undo_8 (fun hz8 H locs hP hS => ?_)
  refine lv_if_eq (tgt := 24) hx hb dX6_undo_11 (by decide) (fun hc => ?_) (fun hc => ?_)
  · have hf := ifp hc hf
    refine lv_bipush (v := (-2 : Int32)) hx hb dX6_undo_24 (by decide) ?_
    have hq := Option.some.inj hf
    exact q_iret hx hb hr hlk hP hS (congrArg Prod.fst hq) (congrArg Prod.snd hq) dX6_undo_26
  · have hf := ifn hc hf
    refine lv_aload_n hx hb dX6_undo_14 rfl (lv_at hl 0 rfl) ?_
    refine gt_X6_31 hx hb hts hown hK hP dX6_undo_15 ?_
    obtain ⟨v18, h18, hf⟩ := bnd hf
    refine q_cVi (As := []) hx hb hts hml hown hK hP hS (c_X4_held l D w σ8 (34) v18 isS34 h18) hw_X6_171 hd_X4_held ⟨rfl, rfl, rfl⟩ isS34.o (ce4 isS34.k) rfl ⟨Nat.le_of_ble_eq_true rfl, Nat.le_of_ble_eq_true rfl⟩ ⟨Nat.le_of_ble_eq_true rfl, Nat.le_of_ble_eq_true rfl⟩ hl.1 rfl (Nat.le_of_ble_eq_true rfl) dX6_undo_18 (fun H locs hP hS => ?_)
    refine lv_goto (tgt := 26) hx hb dX6_undo_21 (by decide) ?_
    have hq := Option.some.inj hf
    exact q_iret hx hb hr hlk hP hS (congrArg Prod.fst hq) (congrArg Prod.snd hq) dX6_undo_26
def f_X6_comes_b1 (a1 : Int32) (x2_26 : Int32) (σ_26 : Sg) : Option ((Int32 × Sg) ⊕ ((Int32 × Sg) ⊕ Sg)) :=
  if (40 : Int32) < x2_26 then
  some (.inr (.inr σ_26))
  else
  (f_X5_hasCome σ_26 (20) a1).bind fun v37 =>
  if v37 = 0 then
  (f_X5_passHours σ_26 (20) (1 : Int32)).bind fun σ50 =>
  some (.inl ((x2_26 + (1 : Int32)), σ50))
  else
  some (.inr (.inl (x2_26, σ_26)))
def f_X6_comes_k1 (y2_43 : Int32) (σ_43 : Sg) : Option (Int32 × Sg) :=
  some (y2_43, σ_43)
def f_X6_comes_k2 (σ_59 : Sg) : Option (Int32 × Sg) :=
  some ((-4 : Int32), σ_59)
def f_X6_comes (σ : Sg) (a1 : Int32) : Option (Int32 × Sg) :=
  (f_X5_isWalker σ (6) a1).bind fun v5 =>
  if ¬ v5 = 0 then
  (f_X5_become σ (20) (6)).bind fun σ21 =>
  (lp (fun st => f_X6_comes_b1 a1 st.1 st.2) FU ((0 : Int32), σ21)).bind fun rr => Sum.elim (fun q => f_X6_comes_k1 q.1 q.2) (fun q => f_X6_comes_k2 q) rr
  else
  some ((-1 : Int32), σ)
set_option maxHeartbeats 4000000 in
set_option maxRecDepth 100000 in
theorem c_X6_comes (l : Launch) (D : va_G) (w : Wv) (σ : Sg) (a1 : Int32) (r : Int32) (σ' : Sg)  (hJ : Inj w) (hf : f_X6_comes σ a1 = some (r, σ')) : Met l yX6_comes (.code yX6_comes cX6_comes 3 (some .int) :: TB) (rmW 5 123) (pcW D w [.ref (w.1 (0)), .int a1] σ) (qiW D w r σ') 0 0 (AL w) := by
  refine q_open (by decide +kernel) (Nat.le_of_ble_eq_true rfl) ?_
  intro p e s m args below meth c ls hx hb hml hr hlk hown hts hK hP hS hl
  have hown : s.vm.findClass RX6 = some m.cls := hown
  have hl : lv_has ls 3 [(0, .ref (w.1 (0))), (1, .int a1)] := hl
  unfold f_X6_comes at hf
  refine lv_aload_n hx hb dX6_comes_0 rfl (lv_at hl 0 rfl) ?_
  refine gt_X6_19 hx hb hts hown hK hP dX6_comes_1 ?_
  refine lv_iload_n hx hb dX6_comes_4 rfl (lv_at hl 1 rfl) ?_
  obtain ⟨v5, h5, hf⟩ := bnd hf
  refine q_cVz (As := [.int a1]) hx hb hts hml hown hK hP hS (c_X5_isWalker l D w σ (6) a1 v5 isY6 h5) hw_X6_126 hd_X5_isWalker ⟨rfl, rfl, rfl⟩ isY6.o (ce5 isY6.k) rfl ⟨Nat.le_of_ble_eq_true rfl, Nat.le_of_ble_eq_true rfl⟩ ⟨Nat.le_of_ble_eq_true rfl, Nat.le_of_ble_eq_true rfl⟩ hl.1 rfl (Nat.le_of_ble_eq_true rfl) dX6_comes_5 (fun hz5 H locs hP hS => ?_)
  refine lv_if_ne (tgt := 13) hx hb dX6_comes_8 (by decide) (fun hc => ?_) (fun hc => ?_)
  · have hf := ifp hc hf
    refine lv_aload_n hx hb dX6_comes_13 rfl (lv_at hl 0 rfl) ?_
    refine gt_X6_23 hx hb hts hown hK hP dX6_comes_14 ?_
    refine lv_aload_n hx hb dX6_comes_17 rfl (lv_at hl 0 rfl) ?_
    refine gt_X6_19 hx hb hts hown hK hP dX6_comes_18 ?_
    obtain ⟨σ21, h21, hf⟩ := bnd hf
    refine q_cVv (As := [.ref (w.1 (6))]) hx hb hts hml hown hK hP hS (c_X5_become l D w σ (20) (6) σ21 isY20 isY6 hJ h21) hw_X6_80 hd_X5_become ⟨rfl, rfl, rfl⟩ isY20.o (ce5 isY20.k) rfl ⟨Nat.le_of_ble_eq_true rfl, Nat.le_of_ble_eq_true rfl⟩ ⟨Nat.le_of_ble_eq_true rfl, Nat.le_of_ble_eq_true rfl⟩ hl.1 rfl (Nat.le_of_ble_eq_true rfl) dX6_comes_21 (fun H locs hP hS => ?_)
    refine lv_iconst (v := (0 : Int32)) hx hb dX6_comes_24 (by decide) ?_
    refine lv_istore_n (lv' := [(2, .int (0 : Int32)), (0, .ref (w.1 (0))), (1, .int a1)]) hx hb dX6_comes_25 rfl hl (by decide) rfl (fun ls hl => ?_)
    obtain ⟨rr, hlp, hf⟩ := bnd hf
    have hE26_43 : ∀ (y2_43 : Int32) (σ_43 : Sg) (H : Heap) (locs : List Loc) (ls : Array Slot), f_X6_comes_k1 y2_43 σ_43 = some (r, σ') → va_P D vwCl (WL w σ_43) H → va_S (AL w) s.heap H locs → lv_has ls 3 [(2, .int y2_43)] → W p l e (rmW 5 123) s m args below meth c H locs 0 0 (MQ below (qiW D w r σ') args s 0 0 (AL w)) (F0 m 43 ls []) := by
      intro y2_43 σ_43 H locs ls hf hP hS hl
      unfold f_X6_comes_k1 at hf
      refine lv_iload_n hx hb dX6_comes_43 rfl (lv_at hl 0 rfl) ?_
      have hq := Option.some.inj hf
      exact q_iret hx hb hr hlk hP hS (congrArg Prod.fst hq) (congrArg Prod.snd hq) dX6_comes_44
    have hE26_59 : ∀ (σ_59 : Sg) (H : Heap) (locs : List Loc) (ls : Array Slot), f_X6_comes_k2 σ_59 = some (r, σ') → va_P D vwCl (WL w σ_59) H → va_S (AL w) s.heap H locs → lv_has ls 3 [] → W p l e (rmW 5 123) s m args below meth c H locs 0 0 (MQ below (qiW D w r σ') args s 0 0 (AL w)) (F0 m 59 ls []) := by
      intro σ_59 H locs ls hf hP hS hl
      unfold f_X6_comes_k2 at hf
      refine lv_bipush (v := (-4 : Int32)) hx hb dX6_comes_59 (by decide) ?_
      have hq := Option.some.inj hf
      exact q_iret hx hb hr hlk hP hS (congrArg Prod.fst hq) (congrArg Prod.snd hq) dX6_comes_61
    refine useP (lp_ind (S := (Int32 × Sg)) (R := ((Int32 × Sg) ⊕ Sg)) (b := fun st => f_X6_comes_b1 a1 st.1 st.2) (G := fun (st : (Int32 × Sg)) => ∀ (H : Heap) (locs : List Loc) (ls : Array Slot), va_P D vwCl (WL w st.2) H → va_S (AL w) s.heap H locs → lv_has ls 3 [(0, .ref (w.1 (0))), (1, .int a1), (2, .int st.1)] → W p l e (rmW 5 123) s m args below meth c H locs 0 0 (MQ below (qiW D w r σ') args s 0 0 (AL w)) (F0 m 26 ls [])) (X := fun rr => Sum.elim (fun q => f_X6_comes_k1 q.1 q.2) (fun q => f_X6_comes_k2 q) rr = some (r, σ')) ?_ FU ((0 : Int32), σ21) rr hlp hf) (fun hGo => hGo _ _ _ hP hS (lv_sub hl [1, 2, 0] rfl))
    rintro ⟨x2_26, σ_26⟩ oo26 hb9 hG26 hX26 H locs ls hP hS hl
    have hP : va_P D vwCl (WL w σ_26) H := hP
    have hl : lv_has ls 3 [(0, .ref (w.1 (0))), (1, .int a1), (2, .int x2_26)] := hl
    have hf : f_X6_comes_b1 a1 x2_26 σ_26 = some oo26 := hb9
    unfold f_X6_comes_b1 at hf
    refine lv_iload_n hx hb dX6_comes_26 rfl (lv_at hl 2 rfl) ?_
    refine lv_bipush (v := (40 : Int32)) hx hb dX6_comes_27 (by decide) ?_
    refine lv_icmp_gt (tgt := 59) hx hb dX6_comes_29 (by decide) (fun hc => ?_) (fun hc => ?_)
    · have hf := ifp hc hf
      obtain rfl := Option.some.inj hf
      exact hE26_59 σ_26 _ _ _ (hX26 _ rfl) hP hS (lv_sub hl [] rfl)
    · have hf := ifn hc hf
      refine lv_aload_n hx hb dX6_comes_32 rfl (lv_at hl 0 rfl) ?_
      refine gt_X6_23 hx hb hts hown hK hP dX6_comes_33 ?_
      refine lv_iload_n hx hb dX6_comes_36 rfl (lv_at hl 1 rfl) ?_
      obtain ⟨v37, h37, hf⟩ := bnd hf
      refine q_cVz (As := [.int a1]) hx hb hts hml hown hK hP hS (c_X5_hasCome l D w σ_26 (20) a1 v37 isY20 h37) hw_X6_135 hd_X5_hasCome ⟨rfl, rfl, rfl⟩ isY20.o (ce5 isY20.k) rfl ⟨Nat.le_of_ble_eq_true rfl, Nat.le_of_ble_eq_true rfl⟩ ⟨Nat.le_of_ble_eq_true rfl, Nat.le_of_ble_eq_true rfl⟩ hl.1 rfl (Nat.le_of_ble_eq_true rfl) dX6_comes_37 (fun hz37 H locs hP hS => ?_)
      refine lv_if_eq (tgt := 45) hx hb dX6_comes_40 (by decide) (fun hc => ?_) (fun hc => ?_)
      · have hf := ifp hc hf
        refine lv_aload_n hx hb dX6_comes_45 rfl (lv_at hl 0 rfl) ?_
        refine gt_X6_23 hx hb hts hown hK hP dX6_comes_46 ?_
        refine lv_iconst (v := (1 : Int32)) hx hb dX6_comes_49 (by decide) ?_
        obtain ⟨σ50, h50, hf⟩ := bnd hf
        refine q_cVv (As := [.int (1 : Int32)]) hx hb hts hml hown hK hP hS (c_X5_passHours l D w σ_26 (20) (1 : Int32) σ50 isY20 hJ h50) hw_X6_144 hd_X5_passHours ⟨rfl, rfl, rfl⟩ isY20.o (ce5 isY20.k) rfl ⟨Nat.le_of_ble_eq_true rfl, Nat.le_of_ble_eq_true rfl⟩ ⟨Nat.le_of_ble_eq_true rfl, Nat.le_of_ble_eq_true rfl⟩ hl.1 rfl (Nat.le_of_ble_eq_true rfl) dX6_comes_50 (fun H locs hP hS => ?_)
        refine lv_iinc (v := (x2_26 + (1 : Int32))) (lv' := [(2, .int (x2_26 + (1 : Int32))), (0, .ref (w.1 (0))), (1, .int a1)]) hx hb dX6_comes_53 hl (k := 2) rfl ii_1 (by decide) rfl (fun ls hl => ?_)
        refine lv_goto (tgt := 26) hx hb dX6_comes_56 (by decide) ?_
        obtain rfl := Option.some.inj hf
        exact hG26 _ rfl _ _ _ hP hS (lv_sub hl [1, 2, 0] rfl)
      · have hf := ifn hc hf
        obtain rfl := Option.some.inj hf
        exact hE26_43 x2_26 σ_26 _ _ _ (hX26 _ rfl) hP hS (lv_sub hl [2] rfl)
  · have hf := ifn (fun h => h hc) hf
    refine lv_iconst (v := (-1 : Int32)) hx hb dX6_comes_11 (by decide) ?_
    have hq := Option.some.inj hf
    exact q_iret hx hb hr hlk hP hS (congrArg Prod.fst hq) (congrArg Prod.snd hq) dX6_comes_12
def f_X6_trail (σ : Sg) (a1 : Int32) (a2 : Int32) : Option (Int32 × Sg) :=
  (f_X5_isWalker σ (6) a1).bind fun v5 =>
  if v5 = 0 then
  some ((-1 : Int32), σ)
  else
  if a2 < 0 then
  some ((-1 : Int32), σ)
  else
  if a2 ≤ (40 : Int32) then
  (f_X5_become σ (20) (6)).bind fun σ31 =>
  (f_X5_passHours σ31 (20) a2).bind fun σ39 =>
  (f_X5_placeOf σ39 (20) a1).bind fun v47 =>
  some (v47, σ39)
  else
  some ((-1 : Int32), σ)
set_option maxHeartbeats 4000000 in
set_option maxRecDepth 100000 in
theorem c_X6_trail (l : Launch) (D : va_G) (w : Wv) (σ : Sg) (a1 : Int32) (a2 : Int32) (r : Int32) (σ' : Sg)  (hJ : Inj w) (hf : f_X6_trail σ a1 a2 = some (r, σ')) : Met l yX6_trail (.code yX6_trail cX6_trail 3 (some .int) :: TB) (rmW 5 123) (pcW D w [.ref (w.1 (0)), .int a1, .int a2] σ) (qiW D w r σ') 0 0 (AL w) := by
  refine q_open (by decide +kernel) (Nat.le_of_ble_eq_true rfl) ?_
  intro p e s m args below meth c ls hx hb hml hr hlk hown hts hK hP hS hl
  have hown : s.vm.findClass RX6 = some m.cls := hown
  have hl : lv_has ls 3 [(0, .ref (w.1 (0))), (1, .int a1), (2, .int a2)] := hl
  unfold f_X6_trail at hf
  refine lv_aload_n hx hb dX6_trail_0 rfl (lv_at hl 0 rfl) ?_
  refine gt_X6_19 hx hb hts hown hK hP dX6_trail_1 ?_
  refine lv_iload_n hx hb dX6_trail_4 rfl (lv_at hl 1 rfl) ?_
  obtain ⟨v5, h5, hf⟩ := bnd hf
  refine q_cVz (As := [.int a1]) hx hb hts hml hown hK hP hS (c_X5_isWalker l D w σ (6) a1 v5 isY6 h5) hw_X6_126 hd_X5_isWalker ⟨rfl, rfl, rfl⟩ isY6.o (ce5 isY6.k) rfl ⟨Nat.le_of_ble_eq_true rfl, Nat.le_of_ble_eq_true rfl⟩ ⟨Nat.le_of_ble_eq_true rfl, Nat.le_of_ble_eq_true rfl⟩ hl.1 rfl (Nat.le_of_ble_eq_true rfl) dX6_trail_5 (fun hz5 H locs hP hS => ?_)
  refine lv_if_eq (tgt := 21) hx hb dX6_trail_8 (by decide) (fun hc => ?_) (fun hc => ?_)
  · have hf := ifp hc hf
    refine lv_iconst (v := (-1 : Int32)) hx hb dX6_trail_21 (by decide) ?_
    have hq := Option.some.inj hf
    exact q_iret hx hb hr hlk hP hS (congrArg Prod.fst hq) (congrArg Prod.snd hq) dX6_trail_22
  · have hf := ifn hc hf
    refine lv_iload_n hx hb dX6_trail_11 rfl (lv_at hl 2 rfl) ?_
    refine lv_if_lt (tgt := 21) hx hb dX6_trail_12 (by decide) (fun hc => ?_) (fun hc => ?_)
    · have hf := ifp hc hf
      refine lv_iconst (v := (-1 : Int32)) hx hb dX6_trail_21 (by decide) ?_
      have hq := Option.some.inj hf
      exact q_iret hx hb hr hlk hP hS (congrArg Prod.fst hq) (congrArg Prod.snd hq) dX6_trail_22
    · have hf := ifn hc hf
      refine lv_iload_n hx hb dX6_trail_15 rfl (lv_at hl 2 rfl) ?_
      refine lv_bipush (v := (40 : Int32)) hx hb dX6_trail_16 (by decide) ?_
      refine lv_icmp_le (tgt := 23) hx hb dX6_trail_18 (by decide) (fun hc => ?_) (fun hc => ?_)
      · have hf := ifp hc hf
        refine lv_aload_n hx hb dX6_trail_23 rfl (lv_at hl 0 rfl) ?_
        refine gt_X6_23 hx hb hts hown hK hP dX6_trail_24 ?_
        refine lv_aload_n hx hb dX6_trail_27 rfl (lv_at hl 0 rfl) ?_
        refine gt_X6_19 hx hb hts hown hK hP dX6_trail_28 ?_
        obtain ⟨σ31, h31, hf⟩ := bnd hf
        refine q_cVv (As := [.ref (w.1 (6))]) hx hb hts hml hown hK hP hS (c_X5_become l D w σ (20) (6) σ31 isY20 isY6 hJ h31) hw_X6_80 hd_X5_become ⟨rfl, rfl, rfl⟩ isY20.o (ce5 isY20.k) rfl ⟨Nat.le_of_ble_eq_true rfl, Nat.le_of_ble_eq_true rfl⟩ ⟨Nat.le_of_ble_eq_true rfl, Nat.le_of_ble_eq_true rfl⟩ hl.1 rfl (Nat.le_of_ble_eq_true rfl) dX6_trail_31 (fun H locs hP hS => ?_)
        refine lv_aload_n hx hb dX6_trail_34 rfl (lv_at hl 0 rfl) ?_
        refine gt_X6_23 hx hb hts hown hK hP dX6_trail_35 ?_
        refine lv_iload_n hx hb dX6_trail_38 rfl (lv_at hl 2 rfl) ?_
        obtain ⟨σ39, h39, hf⟩ := bnd hf
        refine q_cVv (As := [.int a2]) hx hb hts hml hown hK hP hS (c_X5_passHours l D w σ31 (20) a2 σ39 isY20 hJ h39) hw_X6_144 hd_X5_passHours ⟨rfl, rfl, rfl⟩ isY20.o (ce5 isY20.k) rfl ⟨Nat.le_of_ble_eq_true rfl, Nat.le_of_ble_eq_true rfl⟩ ⟨Nat.le_of_ble_eq_true rfl, Nat.le_of_ble_eq_true rfl⟩ hl.1 rfl (Nat.le_of_ble_eq_true rfl) dX6_trail_39 (fun H locs hP hS => ?_)
        refine lv_aload_n hx hb dX6_trail_42 rfl (lv_at hl 0 rfl) ?_
        refine gt_X6_23 hx hb hts hown hK hP dX6_trail_43 ?_
        refine lv_iload_n hx hb dX6_trail_46 rfl (lv_at hl 1 rfl) ?_
        obtain ⟨v47, h47, hf⟩ := bnd hf
        refine q_cVi (As := [.int a1]) hx hb hts hml hown hK hP hS (c_X5_placeOf l D w σ39 (20) a1 v47 isY20 h47) hw_X6_129 hd_X5_placeOf ⟨rfl, rfl, rfl⟩ isY20.o (ce5 isY20.k) rfl ⟨Nat.le_of_ble_eq_true rfl, Nat.le_of_ble_eq_true rfl⟩ ⟨Nat.le_of_ble_eq_true rfl, Nat.le_of_ble_eq_true rfl⟩ hl.1 rfl (Nat.le_of_ble_eq_true rfl) dX6_trail_47 (fun H locs hP hS => ?_)
        have hq := Option.some.inj hf
        exact q_iret hx hb hr hlk hP hS (congrArg Prod.fst hq) (congrArg Prod.snd hq) dX6_trail_50
      · have hf := ifn hc hf
        refine lv_iconst (v := (-1 : Int32)) hx hb dX6_trail_21 (by decide) ?_
        have hq := Option.some.inj hf
        exact q_iret hx hb hr hlk hP hS (congrArg Prod.fst hq) (congrArg Prod.snd hq) dX6_trail_22
def f_X6_lost_b1 (σ17 : Sg) (x1_24 : Int32) (x2_24 : Int32) : Option ((Int32 × Int32) ⊕ Int32) :=
  (f_X5_walkers σ17 (20)).bind fun v29 =>
  if v29 ≤ x2_24 then
  some (.inr x1_24)
  else
  (f_X5_hasCome σ17 (20) x2_24).bind fun v40 =>
  if ¬ v40 = 0 then
  some (.inl (x1_24, (x2_24 + (1 : Int32))))
  else
  some (.inl ((x1_24 ||| ((1 : Int32) <<< (x2_24 &&& 31))), (x2_24 + (1 : Int32))))
def f_X6_lost_k1 (σ17 : Sg) (y1_58 : Int32) : Option (Int32 × Sg) :=
  some (y1_58, σ17)
def f_X6_lost (σ : Sg)  : Option (Int32 × Sg) :=
  (f_X5_become σ (20) (6)).bind fun σ8 =>
  (f_X5_passHours σ8 (20) (40 : Int32)).bind fun σ17 =>
  (lp (fun st => f_X6_lost_b1 σ17 st.1 st.2) FU ((0 : Int32), (0 : Int32))).bind fun rr => f_X6_lost_k1 σ17 rr
set_option maxHeartbeats 4000000 in
set_option maxRecDepth 100000 in
theorem c_X6_lost (l : Launch) (D : va_G) (w : Wv) (σ : Sg)  (r : Int32) (σ' : Sg)  (hJ : Inj w) (hf : f_X6_lost σ = some (r, σ')) : Met l yX6_lost (.code yX6_lost cX6_lost 3 (some .int) :: TB) (rmW 5 123) (pcW D w [.ref (w.1 (0))] σ) (qiW D w r σ') 0 0 (AL w) := by
  refine q_open (by decide +kernel) (Nat.le_of_ble_eq_true rfl) ?_
  intro p e s m args below meth c ls hx hb hml hr hlk hown hts hK hP hS hl
  have hown : s.vm.findClass RX6 = some m.cls := hown
  have hl : lv_has ls 3 [(0, .ref (w.1 (0)))] := hl
  unfold f_X6_lost at hf
  refine lv_aload_n hx hb dX6_lost_0 rfl (lv_at hl 0 rfl) ?_
  refine gt_X6_23 hx hb hts hown hK hP dX6_lost_1 ?_
  refine lv_aload_n hx hb dX6_lost_4 rfl (lv_at hl 0 rfl) ?_
  refine gt_X6_19 hx hb hts hown hK hP dX6_lost_5 ?_
  obtain ⟨σ8, h8, hf⟩ := bnd hf
  refine q_cVv (As := [.ref (w.1 (6))]) hx hb hts hml hown hK hP hS (c_X5_become l D w σ (20) (6) σ8 isY20 isY6 hJ h8) hw_X6_80 hd_X5_become ⟨rfl, rfl, rfl⟩ isY20.o (ce5 isY20.k) rfl ⟨Nat.le_of_ble_eq_true rfl, Nat.le_of_ble_eq_true rfl⟩ ⟨Nat.le_of_ble_eq_true rfl, Nat.le_of_ble_eq_true rfl⟩ hl.1 rfl (Nat.le_of_ble_eq_true rfl) dX6_lost_8 (fun H locs hP hS => ?_)
  refine lv_aload_n hx hb dX6_lost_11 rfl (lv_at hl 0 rfl) ?_
  refine gt_X6_23 hx hb hts hown hK hP dX6_lost_12 ?_
  refine lv_bipush (v := (40 : Int32)) hx hb dX6_lost_15 (by decide) ?_
  obtain ⟨σ17, h17, hf⟩ := bnd hf
  refine q_cVv (As := [.int (40 : Int32)]) hx hb hts hml hown hK hP hS (c_X5_passHours l D w σ8 (20) (40 : Int32) σ17 isY20 hJ h17) hw_X6_144 hd_X5_passHours ⟨rfl, rfl, rfl⟩ isY20.o (ce5 isY20.k) rfl ⟨Nat.le_of_ble_eq_true rfl, Nat.le_of_ble_eq_true rfl⟩ ⟨Nat.le_of_ble_eq_true rfl, Nat.le_of_ble_eq_true rfl⟩ hl.1 rfl (Nat.le_of_ble_eq_true rfl) dX6_lost_17 (fun H locs hP hS => ?_)
  refine lv_iconst (v := (0 : Int32)) hx hb dX6_lost_20 (by decide) ?_
  refine lv_istore_n (lv' := [(1, .int (0 : Int32)), (0, .ref (w.1 (0)))]) hx hb dX6_lost_21 rfl hl (by decide) rfl (fun ls hl => ?_)
  refine lv_iconst (v := (0 : Int32)) hx hb dX6_lost_22 (by decide) ?_
  refine lv_istore_n (lv' := [(2, .int (0 : Int32)), (1, .int (0 : Int32)), (0, .ref (w.1 (0)))]) hx hb dX6_lost_23 rfl hl (by decide) rfl (fun ls hl => ?_)
  obtain ⟨rr, hlp, hf⟩ := bnd hf
  have hE24_58 : ∀ (y1_58 : Int32) (H : Heap) (locs : List Loc) (ls : Array Slot), f_X6_lost_k1 σ17 y1_58 = some (r, σ') → va_P D vwCl (WL w σ17) H → va_S (AL w) s.heap H locs → lv_has ls 3 [(1, .int y1_58)] → W p l e (rmW 5 123) s m args below meth c H locs 0 0 (MQ below (qiW D w r σ') args s 0 0 (AL w)) (F0 m 58 ls []) := by
    intro y1_58 H locs ls hf hP hS hl
    unfold f_X6_lost_k1 at hf
    refine lv_iload_n hx hb dX6_lost_58 rfl (lv_at hl 0 rfl) ?_
    have hq := Option.some.inj hf
    exact q_iret hx hb hr hlk hP hS (congrArg Prod.fst hq) (congrArg Prod.snd hq) dX6_lost_59
  refine useP (lp_ind (S := (Int32 × Int32)) (R := Int32) (b := fun st => f_X6_lost_b1 σ17 st.1 st.2) (G := fun (st : (Int32 × Int32)) => ∀ (H : Heap) (locs : List Loc) (ls : Array Slot), va_P D vwCl (WL w σ17) H → va_S (AL w) s.heap H locs → lv_has ls 3 [(0, .ref (w.1 (0))), (1, .int st.1), (2, .int st.2)] → W p l e (rmW 5 123) s m args below meth c H locs 0 0 (MQ below (qiW D w r σ') args s 0 0 (AL w)) (F0 m 24 ls [])) (X := fun rr => f_X6_lost_k1 σ17 rr = some (r, σ')) ?_ FU ((0 : Int32), (0 : Int32)) rr hlp hf) (fun hGo => hGo _ _ _ hP hS (lv_sub hl [2, 1, 0] rfl))
  rintro ⟨x1_24, x2_24⟩ oo24 hb9 hG24 hX24 H locs ls hP hS hl
  have hP : va_P D vwCl (WL w σ17) H := hP
  have hl : lv_has ls 3 [(0, .ref (w.1 (0))), (1, .int x1_24), (2, .int x2_24)] := hl
  have hf : f_X6_lost_b1 σ17 x1_24 x2_24 = some oo24 := hb9
  unfold f_X6_lost_b1 at hf
  refine lv_iload_n hx hb dX6_lost_24 rfl (lv_at hl 2 rfl) ?_
  refine lv_aload_n hx hb dX6_lost_25 rfl (lv_at hl 0 rfl) ?_
  refine gt_X6_23 hx hb hts hown hK hP dX6_lost_26 ?_
  obtain ⟨v29, h29, hf⟩ := bnd hf
  refine q_cVi (As := []) hx hb hts hml hown hK hP hS (c_X5_walkers l D w σ17 (20) v29 isY20 h29) hw_X6_77 hd_X5_walkers ⟨rfl, rfl, rfl⟩ isY20.o (ce5 isY20.k) rfl ⟨Nat.le_of_ble_eq_true rfl, Nat.le_of_ble_eq_true rfl⟩ ⟨Nat.le_of_ble_eq_true rfl, Nat.le_of_ble_eq_true rfl⟩ hl.1 rfl (Nat.le_of_ble_eq_true rfl) dX6_lost_29 (fun H locs hP hS => ?_)
  refine lv_icmp_ge (tgt := 58) hx hb dX6_lost_32 (by decide) (fun hc => ?_) (fun hc => ?_)
  · have hf := ifp hc hf
    obtain rfl := Option.some.inj hf
    exact hE24_58 x1_24 _ _ _ (hX24 _ rfl) hP hS (lv_sub hl [1] rfl)
  · have hf := ifn hc hf
    refine lv_aload_n hx hb dX6_lost_35 rfl (lv_at hl 0 rfl) ?_
    refine gt_X6_23 hx hb hts hown hK hP dX6_lost_36 ?_
    refine lv_iload_n hx hb dX6_lost_39 rfl (lv_at hl 2 rfl) ?_
    obtain ⟨v40, h40, hf⟩ := bnd hf
    refine q_cVz (As := [.int x2_24]) hx hb hts hml hown hK hP hS (c_X5_hasCome l D w σ17 (20) x2_24 v40 isY20 h40) hw_X6_135 hd_X5_hasCome ⟨rfl, rfl, rfl⟩ isY20.o (ce5 isY20.k) rfl ⟨Nat.le_of_ble_eq_true rfl, Nat.le_of_ble_eq_true rfl⟩ ⟨Nat.le_of_ble_eq_true rfl, Nat.le_of_ble_eq_true rfl⟩ hl.1 rfl (Nat.le_of_ble_eq_true rfl) dX6_lost_40 (fun hz40 H locs hP hS => ?_)
    refine lv_if_ne (tgt := 52) hx hb dX6_lost_43 (by decide) (fun hc => ?_) (fun hc => ?_)
    · have hf := ifp hc hf
      refine lv_iinc (v := (x2_24 + (1 : Int32))) (lv' := [(2, .int (x2_24 + (1 : Int32))), (0, .ref (w.1 (0))), (1, .int x1_24)]) hx hb dX6_lost_52 hl (k := 2) rfl ii_1 (by decide) rfl (fun ls hl => ?_)
      refine lv_goto (tgt := 24) hx hb dX6_lost_55 (by decide) ?_
      obtain rfl := Option.some.inj hf
      exact hG24 _ rfl _ _ _ hP hS (lv_sub hl [1, 2, 0] rfl)
    · have hf := ifn (fun h => h hc) hf
      refine lv_iload_n hx hb dX6_lost_46 rfl (lv_at hl 1 rfl) ?_
      refine lv_iconst (v := (1 : Int32)) hx hb dX6_lost_47 (by decide) ?_
      refine lv_iload_n hx hb dX6_lost_48 rfl (lv_at hl 2 rfl) ?_
      refine lv_ishl hx hb dX6_lost_49 ?_
      refine lv_ior hx hb dX6_lost_50 ?_
      refine lv_istore_n (lv' := [(1, .int (x1_24 ||| ((1 : Int32) <<< (x2_24 &&& 31)))), (0, .ref (w.1 (0))), (2, .int x2_24)]) hx hb dX6_lost_51 rfl hl (by decide) rfl (fun ls hl => ?_)
      refine lv_iinc (v := (x2_24 + (1 : Int32))) (lv' := [(2, .int (x2_24 + (1 : Int32))), (1, .int (x1_24 ||| ((1 : Int32) <<< (x2_24 &&& 31)))), (0, .ref (w.1 (0)))]) hx hb dX6_lost_52 hl (k := 2) rfl ii_1 (by decide) rfl (fun ls hl => ?_)
      refine lv_goto (tgt := 24) hx hb dX6_lost_55 (by decide) ?_
      obtain rfl := Option.some.inj hf
      exact hG24 _ rfl _ _ _ hP hS (lv_sub hl [2, 1, 0] rfl)
def f_X6_comersHelpedIn (σ : Sg) (a1 : Int32) : Option (Int32 × Sg) :=
  (f_X5_become σ (20) (6)).bind fun σ8 =>
  (f_X5_standPlain σ8 (20) a1).bind fun σ16 =>
  (f_X5_passHours σ16 (20) (40 : Int32)).bind fun σ25 =>
  (f_X5_comeCount σ25 (20)).bind fun v32 =>
  some (v32, σ25)
set_option maxHeartbeats 4000000 in
set_option maxRecDepth 100000 in
theorem c_X6_comersHelpedIn (l : Launch) (D : va_G) (w : Wv) (σ : Sg) (a1 : Int32) (r : Int32) (σ' : Sg)  (hJ : Inj w) (hf : f_X6_comersHelpedIn σ a1 = some (r, σ')) : Met l yX6_comersHelpedIn (.code yX6_comersHelpedIn cX6_comersHelpedIn 2 (some .int) :: TB) (rmW 5 123) (pcW D w [.ref (w.1 (0)), .int a1] σ) (qiW D w r σ') 0 0 (AL w) := by
  refine q_open (by decide +kernel) (Nat.le_of_ble_eq_true rfl) ?_
  intro p e s m args below meth c ls hx hb hml hr hlk hown hts hK hP hS hl
  have hown : s.vm.findClass RX6 = some m.cls := hown
  have hl : lv_has ls 2 [(0, .ref (w.1 (0))), (1, .int a1)] := hl
  unfold f_X6_comersHelpedIn at hf
  refine lv_aload_n hx hb dX6_comersHelpedIn_0 rfl (lv_at hl 0 rfl) ?_
  refine gt_X6_23 hx hb hts hown hK hP dX6_comersHelpedIn_1 ?_
  refine lv_aload_n hx hb dX6_comersHelpedIn_4 rfl (lv_at hl 0 rfl) ?_
  refine gt_X6_19 hx hb hts hown hK hP dX6_comersHelpedIn_5 ?_
  obtain ⟨σ8, h8, hf⟩ := bnd hf
  refine q_cVv (As := [.ref (w.1 (6))]) hx hb hts hml hown hK hP hS (c_X5_become l D w σ (20) (6) σ8 isY20 isY6 hJ h8) hw_X6_80 hd_X5_become ⟨rfl, rfl, rfl⟩ isY20.o (ce5 isY20.k) rfl ⟨Nat.le_of_ble_eq_true rfl, Nat.le_of_ble_eq_true rfl⟩ ⟨Nat.le_of_ble_eq_true rfl, Nat.le_of_ble_eq_true rfl⟩ hl.1 rfl (Nat.le_of_ble_eq_true rfl) dX6_comersHelpedIn_8 (fun H locs hP hS => ?_)
  refine lv_aload_n hx hb dX6_comersHelpedIn_11 rfl (lv_at hl 0 rfl) ?_
  refine gt_X6_23 hx hb hts hown hK hP dX6_comersHelpedIn_12 ?_
  refine lv_iload_n hx hb dX6_comersHelpedIn_15 rfl (lv_at hl 1 rfl) ?_
  obtain ⟨σ16, h16, hf⟩ := bnd hf
  refine q_cVv (As := [.int a1]) hx hb hts hml hown hK hP hS (c_X5_standPlain l D w σ8 (20) a1 σ16 isY20 hJ h16) hw_X6_183 hd_X5_standPlain ⟨rfl, rfl, rfl⟩ isY20.o (ce5 isY20.k) rfl ⟨Nat.le_of_ble_eq_true rfl, Nat.le_of_ble_eq_true rfl⟩ ⟨Nat.le_of_ble_eq_true rfl, Nat.le_of_ble_eq_true rfl⟩ hl.1 rfl (Nat.le_of_ble_eq_true rfl) dX6_comersHelpedIn_16 (fun H locs hP hS => ?_)
  refine lv_aload_n hx hb dX6_comersHelpedIn_19 rfl (lv_at hl 0 rfl) ?_
  refine gt_X6_23 hx hb hts hown hK hP dX6_comersHelpedIn_20 ?_
  refine lv_bipush (v := (40 : Int32)) hx hb dX6_comersHelpedIn_23 (by decide) ?_
  obtain ⟨σ25, h25, hf⟩ := bnd hf
  refine q_cVv (As := [.int (40 : Int32)]) hx hb hts hml hown hK hP hS (c_X5_passHours l D w σ16 (20) (40 : Int32) σ25 isY20 hJ h25) hw_X6_144 hd_X5_passHours ⟨rfl, rfl, rfl⟩ isY20.o (ce5 isY20.k) rfl ⟨Nat.le_of_ble_eq_true rfl, Nat.le_of_ble_eq_true rfl⟩ ⟨Nat.le_of_ble_eq_true rfl, Nat.le_of_ble_eq_true rfl⟩ hl.1 rfl (Nat.le_of_ble_eq_true rfl) dX6_comersHelpedIn_25 (fun H locs hP hS => ?_)
  refine lv_aload_n hx hb dX6_comersHelpedIn_28 rfl (lv_at hl 0 rfl) ?_
  refine gt_X6_23 hx hb hts hown hK hP dX6_comersHelpedIn_29 ?_
  obtain ⟨v32, h32, hf⟩ := bnd hf
  refine q_cVi (As := []) hx hb hts hml hown hK hP hS (c_X5_comeCount l D w σ25 (20) v32 isY20 h32) hw_X6_186 hd_X5_comeCount ⟨rfl, rfl, rfl⟩ isY20.o (ce5 isY20.k) rfl ⟨Nat.le_of_ble_eq_true rfl, Nat.le_of_ble_eq_true rfl⟩ ⟨Nat.le_of_ble_eq_true rfl, Nat.le_of_ble_eq_true rfl⟩ hl.1 rfl (Nat.le_of_ble_eq_true rfl) dX6_comersHelpedIn_32 (fun H locs hP hS => ?_)
  have hq := Option.some.inj hf
  exact q_iret hx hb hr hlk hP hS (congrArg Prod.fst hq) (congrArg Prod.snd hq) dX6_comersHelpedIn_35
def f_X6_helps_b1 (x2_20 : Int32) (x3_20 : Int32) (x4_20 : Int32) (σ_20 : Sg) : Option ((Int32 × Int32 × Int32 × Sg) ⊕ (Int32 × Int32 × Sg)) :=
  (f_X5_towns σ_20 (6)).bind fun v26 =>
  if v26 ≤ x4_20 then
  some (.inr (x2_20, x3_20, σ_20))
  else
  (f_X5_lowestPostIn σ_20 (6) x4_20).bind fun v38 =>
  if ¬ v38 = (-4 : Int32) then
  some (.inl (x2_20, x3_20, (x4_20 + (1 : Int32)), σ_20))
  else
  (f_X6_comersHelpedIn σ_20 x4_20).bind fun q49 =>
  if x2_20 = (-4 : Int32) then
  some (.inl (x4_20, q49.1, (x4_20 + (1 : Int32)), q49.2))
  else
  if q49.1 ≤ x3_20 then
  some (.inl (x2_20, x3_20, (x4_20 + (1 : Int32)), q49.2))
  else
  some (.inl (x4_20, q49.1, (x4_20 + (1 : Int32)), q49.2))
def f_X6_helps_k1 (a1 : Int32) (y2_78 : Int32) (y3_78 : Int32) (σ_78 : Sg) : Option (Int32 × Sg) :=
  if ¬ a1 = 0 then
  some (y3_78, σ_78)
  else
  some (y2_78, σ_78)
def f_X6_helps (σ : Sg) (a1 : Int32) : Option (Int32 × Sg) :=
  if a1 < 0 then
  some ((-1 : Int32), σ)
  else
  if a1 ≤ (1 : Int32) then
  (lp (fun st => f_X6_helps_b1  st.1 st.2.1 st.2.2.1 st.2.2.2) FU ((-4 : Int32), (-4 : Int32), (0 : Int32), σ)).bind fun rr => f_X6_helps_k1 a1 rr.1 rr.2.1 rr.2.2
  else
  some ((-1 : Int32), σ)
set_option maxHeartbeats 4000000 in
set_option maxRecDepth 100000 in
theorem c_X6_helps (l : Launch) (D : va_G) (w : Wv) (σ : Sg) (a1 : Int32) (r : Int32) (σ' : Sg)  (hJ : Inj w) (hf : f_X6_helps σ a1 = some (r, σ')) : Met l yX6_helps (.code yX6_helps cX6_helps 6 (some .int) :: TB) (rmW 6 144) (pcW D w [.ref (w.1 (0)), .int a1] σ) (qiW D w r σ') 0 0 (AL w) := by
  refine q_open (by decide +kernel) (Nat.le_of_ble_eq_true rfl) ?_
  intro p e s m args below meth c ls hx hb hml hr hlk hown hts hK hP hS hl
  have hown : s.vm.findClass RX6 = some m.cls := hown
  have hl : lv_has ls 6 [(0, .ref (w.1 (0))), (1, .int a1)] := hl
  unfold f_X6_helps at hf
  refine lv_iload_n hx hb dX6_helps_0 rfl (lv_at hl 1 rfl) ?_
  refine lv_if_lt (tgt := 9) hx hb dX6_helps_1 (by decide) (fun hc => ?_) (fun hc => ?_)
  · have hf := ifp hc hf
    refine lv_iconst (v := (-1 : Int32)) hx hb dX6_helps_9 (by decide) ?_
    have hq := Option.some.inj hf
    exact q_iret hx hb hr hlk hP hS (congrArg Prod.fst hq) (congrArg Prod.snd hq) dX6_helps_10
  · have hf := ifn hc hf
    refine lv_iload_n hx hb dX6_helps_4 rfl (lv_at hl 1 rfl) ?_
    refine lv_iconst (v := (1 : Int32)) hx hb dX6_helps_5 (by decide) ?_
    refine lv_icmp_le (tgt := 11) hx hb dX6_helps_6 (by decide) (fun hc => ?_) (fun hc => ?_)
    · have hf := ifp hc hf
      refine lv_bipush (v := (-4 : Int32)) hx hb dX6_helps_11 (by decide) ?_
      refine lv_istore_n (lv' := [(2, .int (-4 : Int32)), (0, .ref (w.1 (0))), (1, .int a1)]) hx hb dX6_helps_13 rfl hl (by decide) rfl (fun ls hl => ?_)
      refine lv_bipush (v := (-4 : Int32)) hx hb dX6_helps_14 (by decide) ?_
      refine lv_istore_n (lv' := [(3, .int (-4 : Int32)), (2, .int (-4 : Int32)), (0, .ref (w.1 (0))), (1, .int a1)]) hx hb dX6_helps_16 rfl hl (by decide) rfl (fun ls hl => ?_)
      refine lv_iconst (v := (0 : Int32)) hx hb dX6_helps_17 (by decide) ?_
      refine lv_istore (lv' := [(4, .int (0 : Int32)), (3, .int (-4 : Int32)), (2, .int (-4 : Int32)), (0, .ref (w.1 (0))), (1, .int a1)]) hx hb dX6_helps_18 hl (by decide) rfl (fun ls hl => ?_)
      obtain ⟨rr, hlp, hf⟩ := bnd hf
      have hE20_78 : ∀ (y2_78 : Int32) (y3_78 : Int32) (σ_78 : Sg) (H : Heap) (locs : List Loc) (ls : Array Slot), f_X6_helps_k1 a1 y2_78 y3_78 σ_78 = some (r, σ') → va_P D vwCl (WL w σ_78) H → va_S (AL w) s.heap H locs → lv_has ls 6 [(1, .int a1), (2, .int y2_78), (3, .int y3_78)] → W p l e (rmW 6 144) s m args below meth c H locs 0 0 (MQ below (qiW D w r σ') args s 0 0 (AL w)) (F0 m 78 ls []) := by
        intro y2_78 y3_78 σ_78 H locs ls hf hP hS hl
        unfold f_X6_helps_k1 at hf
        refine lv_iload_n hx hb dX6_helps_78 rfl (lv_at hl 0 rfl) ?_
        refine lv_if_ne (tgt := 86) hx hb dX6_helps_79 (by decide) (fun hc => ?_) (fun hc => ?_)
        · have hf := ifp hc hf
          refine lv_iload_n hx hb dX6_helps_86 rfl (lv_at hl 2 rfl) ?_
          have hq := Option.some.inj hf
          exact q_iret hx hb hr hlk hP hS (congrArg Prod.fst hq) (congrArg Prod.snd hq) dX6_helps_87
        · have hf := ifn (fun h => h hc) hf
          refine lv_iload_n hx hb dX6_helps_82 rfl (lv_at hl 1 rfl) ?_
          refine lv_goto (tgt := 87) hx hb dX6_helps_83 (by decide) ?_
          have hq := Option.some.inj hf
          exact q_iret hx hb hr hlk hP hS (congrArg Prod.fst hq) (congrArg Prod.snd hq) dX6_helps_87
      refine useP (lp_ind (S := (Int32 × Int32 × Int32 × Sg)) (R := (Int32 × Int32 × Sg)) (b := fun st => f_X6_helps_b1  st.1 st.2.1 st.2.2.1 st.2.2.2) (G := fun (st : (Int32 × Int32 × Int32 × Sg)) => ∀ (H : Heap) (locs : List Loc) (ls : Array Slot), va_P D vwCl (WL w st.2.2.2) H → va_S (AL w) s.heap H locs → lv_has ls 6 [(0, .ref (w.1 (0))), (1, .int a1), (2, .int st.1), (3, .int st.2.1), (4, .int st.2.2.1)] → W p l e (rmW 6 144) s m args below meth c H locs 0 0 (MQ below (qiW D w r σ') args s 0 0 (AL w)) (F0 m 20 ls [])) (X := fun rr => f_X6_helps_k1 a1 rr.1 rr.2.1 rr.2.2 = some (r, σ')) ?_ FU ((-4 : Int32), (-4 : Int32), (0 : Int32), σ) rr hlp hf) (fun hGo => hGo _ _ _ hP hS (lv_sub hl [3, 4, 2, 1, 0] rfl))
      rintro ⟨x2_20, x3_20, x4_20, σ_20⟩ oo20 hb9 hG20 hX20 H locs ls hP hS hl
      have hP : va_P D vwCl (WL w σ_20) H := hP
      have hl : lv_has ls 6 [(0, .ref (w.1 (0))), (1, .int a1), (2, .int x2_20), (3, .int x3_20), (4, .int x4_20)] := hl
      have hf : f_X6_helps_b1  x2_20 x3_20 x4_20 σ_20 = some oo20 := hb9
      unfold f_X6_helps_b1 at hf
      refine lv_iload hx hb dX6_helps_20 (lv_at hl 4 rfl) ?_
      refine lv_aload_n hx hb dX6_helps_22 rfl (lv_at hl 0 rfl) ?_
      refine gt_X6_19 hx hb hts hown hK hP dX6_helps_23 ?_
      obtain ⟨v26, h26, hf⟩ := bnd hf
      refine q_cVi (As := []) hx hb hts hml hown hK hP hS (c_X5_towns l D w σ_20 (6) v26 isY6 h26) hw_X6_174 hd_X5_towns ⟨rfl, rfl, rfl⟩ isY6.o (ce5 isY6.k) rfl ⟨Nat.le_of_ble_eq_true rfl, Nat.le_of_ble_eq_true rfl⟩ ⟨Nat.le_of_ble_eq_true rfl, Nat.le_of_ble_eq_true rfl⟩ hl.1 rfl (Nat.le_of_ble_eq_true rfl) dX6_helps_26 (fun H locs hP hS => ?_)
      refine lv_icmp_ge (tgt := 78) hx hb dX6_helps_29 (by decide) (fun hc => ?_) (fun hc => ?_)
      · have hf := ifp hc hf
        obtain rfl := Option.some.inj hf
        exact hE20_78 x2_20 x3_20 σ_20 _ _ _ (hX20 _ rfl) hP hS (lv_sub hl [1, 2, 3] rfl)
      · have hf := ifn hc hf
        refine lv_aload_n hx hb dX6_helps_32 rfl (lv_at hl 0 rfl) ?_
        refine gt_X6_19 hx hb hts hown hK hP dX6_helps_33 ?_
        refine lv_iload hx hb dX6_helps_36 (lv_at hl 4 rfl) ?_
        obtain ⟨v38, h38, hf⟩ := bnd hf
        refine q_cVi (As := [.int x4_20]) hx hb hts hml hown hK hP hS (c_X5_lowestPostIn l D w σ_20 (6) x4_20 v38 isY6 h38) hw_X6_177 hd_X5_lowestPostIn ⟨rfl, rfl, rfl⟩ isY6.o (ce5 isY6.k) rfl ⟨Nat.le_of_ble_eq_true rfl, Nat.le_of_ble_eq_true rfl⟩ ⟨Nat.le_of_ble_eq_true rfl, Nat.le_of_ble_eq_true rfl⟩ hl.1 rfl (Nat.le_of_ble_eq_true rfl) dX6_helps_38 (fun H locs hP hS => ?_)
        refine lv_bipush (v := (-4 : Int32)) hx hb dX6_helps_41 (by decide) ?_
        refine lv_icmp_ne (tgt := 72) hx hb dX6_helps_43 (by decide) (fun hc => ?_) (fun hc => ?_)
        · have hf := ifp hc hf
          refine lv_iinc (v := (x4_20 + (1 : Int32))) (lv' := [(4, .int (x4_20 + (1 : Int32))), (0, .ref (w.1 (0))), (1, .int a1), (2, .int x2_20), (3, .int x3_20)]) hx hb dX6_helps_72 hl (k := 4) rfl ii_1 (by decide) rfl (fun ls hl => ?_)
          refine lv_goto (tgt := 20) hx hb dX6_helps_75 (by decide) ?_
          obtain rfl := Option.some.inj hf
          exact hG20 _ rfl _ _ _ hP hS (lv_sub hl [1, 2, 3, 4, 0] rfl)
        · have hf := ifn (fun h => h hc) hf
          refine lv_aload_n hx hb dX6_helps_46 rfl (lv_at hl 0 rfl) ?_
          refine lv_iload hx hb dX6_helps_47 (lv_at hl 4 rfl) ?_
          obtain ⟨⟨v49, σ49⟩, h49, hf⟩ := bnd hf
          dsimp only at hf
          refine q_cVi (As := [.int x4_20]) hx hb hts hml hown hK hP hS (c_X6_comersHelpedIn l D w σ_20 x4_20 v49 σ49 hJ h49) hw_X6_180 hd_X6_comersHelpedIn ⟨rfl, rfl, rfl⟩ o0 (ce6 kd0) rfl ⟨Nat.le_of_ble_eq_true rfl, Nat.le_of_ble_eq_true rfl⟩ ⟨Nat.le_of_ble_eq_true rfl, Nat.le_of_ble_eq_true rfl⟩ hl.1 rfl (Nat.le_of_ble_eq_true rfl) dX6_helps_49 (fun H locs hP hS => ?_)
          refine lv_istore (lv' := [(5, .int v49), (0, .ref (w.1 (0))), (1, .int a1), (2, .int x2_20), (3, .int x3_20), (4, .int x4_20)]) hx hb dX6_helps_52 hl (by decide) rfl (fun ls hl => ?_)
          refine lv_iload_n hx hb dX6_helps_54 rfl (lv_at hl 3 rfl) ?_
          refine lv_bipush (v := (-4 : Int32)) hx hb dX6_helps_55 (by decide) ?_
          refine lv_icmp_eq (tgt := 66) hx hb dX6_helps_57 (by decide) (fun hc => ?_) (fun hc => ?_)
          · have hf := ifp hc hf
            refine lv_iload hx hb dX6_helps_66 (lv_at hl 5 rfl) ?_
            refine lv_istore_n (lv' := [(2, .int x4_20), (5, .int v49), (0, .ref (w.1 (0))), (1, .int a1), (3, .int x3_20), (4, .int x4_20)]) hx hb dX6_helps_68 rfl hl (by decide) rfl (fun ls hl => ?_)
            refine lv_iload hx hb dX6_helps_69 (lv_at hl 1 rfl) ?_
            refine lv_istore_n (lv' := [(3, .int v49), (2, .int x4_20), (5, .int v49), (0, .ref (w.1 (0))), (1, .int a1), (4, .int x4_20)]) hx hb dX6_helps_71 rfl hl (by decide) rfl (fun ls hl => ?_)
            refine lv_iinc (v := (x4_20 + (1 : Int32))) (lv' := [(4, .int (x4_20 + (1 : Int32))), (3, .int v49), (2, .int x4_20), (5, .int v49), (0, .ref (w.1 (0))), (1, .int a1)]) hx hb dX6_helps_72 hl (k := 5) rfl ii_1 (by decide) rfl (fun ls hl => ?_)
            refine lv_goto (tgt := 20) hx hb dX6_helps_75 (by decide) ?_
            obtain rfl := Option.some.inj hf
            exact hG20 _ rfl _ _ _ hP hS (lv_sub hl [4, 5, 2, 1, 0] rfl)
          · have hf := ifn hc hf
            refine lv_iload hx hb dX6_helps_60 (lv_at hl 0 rfl) ?_
            refine lv_iload_n hx hb dX6_helps_62 rfl (lv_at hl 4 rfl) ?_
            refine lv_icmp_le (tgt := 72) hx hb dX6_helps_63 (by decide) (fun hc => ?_) (fun hc => ?_)
            · have hf := ifp hc hf
              refine lv_iinc (v := (x4_20 + (1 : Int32))) (lv' := [(4, .int (x4_20 + (1 : Int32))), (5, .int v49), (0, .ref (w.1 (0))), (1, .int a1), (2, .int x2_20), (3, .int x3_20)]) hx hb dX6_helps_72 hl (k := 5) rfl ii_1 (by decide) rfl (fun ls hl => ?_)
              refine lv_goto (tgt := 20) hx hb dX6_helps_75 (by decide) ?_
              obtain rfl := Option.some.inj hf
              exact hG20 _ rfl _ _ _ hP hS (lv_sub hl [2, 3, 4, 5, 0] rfl)
            · have hf := ifn hc hf
              refine lv_iload hx hb dX6_helps_66 (lv_at hl 5 rfl) ?_
              refine lv_istore_n (lv' := [(2, .int x4_20), (5, .int v49), (0, .ref (w.1 (0))), (1, .int a1), (3, .int x3_20), (4, .int x4_20)]) hx hb dX6_helps_68 rfl hl (by decide) rfl (fun ls hl => ?_)
              refine lv_iload hx hb dX6_helps_69 (lv_at hl 1 rfl) ?_
              refine lv_istore_n (lv' := [(3, .int v49), (2, .int x4_20), (5, .int v49), (0, .ref (w.1 (0))), (1, .int a1), (4, .int x4_20)]) hx hb dX6_helps_71 rfl hl (by decide) rfl (fun ls hl => ?_)
              refine lv_iinc (v := (x4_20 + (1 : Int32))) (lv' := [(4, .int (x4_20 + (1 : Int32))), (3, .int v49), (2, .int x4_20), (5, .int v49), (0, .ref (w.1 (0))), (1, .int a1)]) hx hb dX6_helps_72 hl (k := 5) rfl ii_1 (by decide) rfl (fun ls hl => ?_)
              refine lv_goto (tgt := 20) hx hb dX6_helps_75 (by decide) ?_
              obtain rfl := Option.some.inj hf
              exact hG20 _ rfl _ _ _ hP hS (lv_sub hl [4, 5, 2, 1, 0] rfl)
    · have hf := ifn hc hf
      refine lv_iconst (v := (-1 : Int32)) hx hb dX6_helps_9 (by decide) ?_
      have hq := Option.some.inj hf
      exact q_iret hx hb hr hlk hP hS (congrArg Prod.fst hq) (congrArg Prod.snd hq) dX6_helps_10
def f_X6_comersPainted_b1 (a1 : Int32) (x2_13 : Int32) (σ_13 : Sg) : Option ((Int32 × Sg) ⊕ Sg) :=
  (f_X5_posts σ_13 (6)).bind fun v18 =>
  if v18 ≤ x2_13 then
  some (.inr σ_13)
  else
  (f_X6_hasBit σ_13 a1 x2_13).bind fun v26 =>
  if v26 = 0 then
  some (.inl ((x2_13 + (1 : Int32)), σ_13))
  else
  (f_X5_paintPost σ_13 (20) x2_13).bind fun q37 =>
  some (.inl ((x2_13 + (1 : Int32)), q37.2))
def f_X6_comersPainted_k1 (σ_47 : Sg) : Option (Int32 × Sg) :=
  (f_X5_passHours σ_47 (20) (40 : Int32)).bind fun σ53 =>
  (f_X5_comeCount σ53 (20)).bind fun v60 =>
  some (v60, σ53)
def f_X6_comersPainted (σ : Sg) (a1 : Int32) : Option (Int32 × Sg) :=
  (f_X5_become σ (20) (6)).bind fun σ8 =>
  (lp (fun st => f_X6_comersPainted_b1 a1 st.1 st.2) FU ((0 : Int32), σ8)).bind fun rr => f_X6_comersPainted_k1 rr
set_option maxHeartbeats 4000000 in
set_option maxRecDepth 100000 in
theorem c_X6_comersPainted (l : Launch) (D : va_G) (w : Wv) (σ : Sg) (a1 : Int32) (r : Int32) (σ' : Sg)  (hJ : Inj w) (hf : f_X6_comersPainted σ a1 = some (r, σ')) : Met l yX6_comersPainted (.code yX6_comersPainted cX6_comersPainted 3 (some .int) :: TB) (rmW 5 123) (pcW D w [.ref (w.1 (0)), .int a1] σ) (qiW D w r σ') 0 0 (AL w) := by
  refine q_open (by decide +kernel) (Nat.le_of_ble_eq_true rfl) ?_
  intro p e s m args below meth c ls hx hb hml hr hlk hown hts hK hP hS hl
  have hown : s.vm.findClass RX6 = some m.cls := hown
  have hl : lv_has ls 3 [(0, .ref (w.1 (0))), (1, .int a1)] := hl
  unfold f_X6_comersPainted at hf
  refine lv_aload_n hx hb dX6_comersPainted_0 rfl (lv_at hl 0 rfl) ?_
  refine gt_X6_23 hx hb hts hown hK hP dX6_comersPainted_1 ?_
  refine lv_aload_n hx hb dX6_comersPainted_4 rfl (lv_at hl 0 rfl) ?_
  refine gt_X6_19 hx hb hts hown hK hP dX6_comersPainted_5 ?_
  obtain ⟨σ8, h8, hf⟩ := bnd hf
  refine q_cVv (As := [.ref (w.1 (6))]) hx hb hts hml hown hK hP hS (c_X5_become l D w σ (20) (6) σ8 isY20 isY6 hJ h8) hw_X6_80 hd_X5_become ⟨rfl, rfl, rfl⟩ isY20.o (ce5 isY20.k) rfl ⟨Nat.le_of_ble_eq_true rfl, Nat.le_of_ble_eq_true rfl⟩ ⟨Nat.le_of_ble_eq_true rfl, Nat.le_of_ble_eq_true rfl⟩ hl.1 rfl (Nat.le_of_ble_eq_true rfl) dX6_comersPainted_8 (fun H locs hP hS => ?_)
  refine lv_iconst (v := (0 : Int32)) hx hb dX6_comersPainted_11 (by decide) ?_
  refine lv_istore_n (lv' := [(2, .int (0 : Int32)), (0, .ref (w.1 (0))), (1, .int a1)]) hx hb dX6_comersPainted_12 rfl hl (by decide) rfl (fun ls hl => ?_)
  obtain ⟨rr, hlp, hf⟩ := bnd hf
  have hE13_47 : ∀ (σ_47 : Sg) (H : Heap) (locs : List Loc) (ls : Array Slot), f_X6_comersPainted_k1 σ_47 = some (r, σ') → va_P D vwCl (WL w σ_47) H → va_S (AL w) s.heap H locs → lv_has ls 3 [(0, .ref (w.1 (0)))] → W p l e (rmW 5 123) s m args below meth c H locs 0 0 (MQ below (qiW D w r σ') args s 0 0 (AL w)) (F0 m 47 ls []) := by
    intro σ_47 H locs ls hf hP hS hl
    unfold f_X6_comersPainted_k1 at hf
    refine lv_aload_n hx hb dX6_comersPainted_47 rfl (lv_at hl 0 rfl) ?_
    refine gt_X6_23 hx hb hts hown hK hP dX6_comersPainted_48 ?_
    refine lv_bipush (v := (40 : Int32)) hx hb dX6_comersPainted_51 (by decide) ?_
    obtain ⟨σ53, h53, hf⟩ := bnd hf
    refine q_cVv (As := [.int (40 : Int32)]) hx hb hts hml hown hK hP hS (c_X5_passHours l D w σ_47 (20) (40 : Int32) σ53 isY20 hJ h53) hw_X6_144 hd_X5_passHours ⟨rfl, rfl, rfl⟩ isY20.o (ce5 isY20.k) rfl ⟨Nat.le_of_ble_eq_true rfl, Nat.le_of_ble_eq_true rfl⟩ ⟨Nat.le_of_ble_eq_true rfl, Nat.le_of_ble_eq_true rfl⟩ hl.1 rfl (Nat.le_of_ble_eq_true rfl) dX6_comersPainted_53 (fun H locs hP hS => ?_)
    refine lv_aload_n hx hb dX6_comersPainted_56 rfl (lv_at hl 0 rfl) ?_
    refine gt_X6_23 hx hb hts hown hK hP dX6_comersPainted_57 ?_
    obtain ⟨v60, h60, hf⟩ := bnd hf
    refine q_cVi (As := []) hx hb hts hml hown hK hP hS (c_X5_comeCount l D w σ53 (20) v60 isY20 h60) hw_X6_186 hd_X5_comeCount ⟨rfl, rfl, rfl⟩ isY20.o (ce5 isY20.k) rfl ⟨Nat.le_of_ble_eq_true rfl, Nat.le_of_ble_eq_true rfl⟩ ⟨Nat.le_of_ble_eq_true rfl, Nat.le_of_ble_eq_true rfl⟩ hl.1 rfl (Nat.le_of_ble_eq_true rfl) dX6_comersPainted_60 (fun H locs hP hS => ?_)
    have hq := Option.some.inj hf
    exact q_iret hx hb hr hlk hP hS (congrArg Prod.fst hq) (congrArg Prod.snd hq) dX6_comersPainted_63
  refine useP (lp_ind (S := (Int32 × Sg)) (R := Sg) (b := fun st => f_X6_comersPainted_b1 a1 st.1 st.2) (G := fun (st : (Int32 × Sg)) => ∀ (H : Heap) (locs : List Loc) (ls : Array Slot), va_P D vwCl (WL w st.2) H → va_S (AL w) s.heap H locs → lv_has ls 3 [(0, .ref (w.1 (0))), (1, .int a1), (2, .int st.1)] → W p l e (rmW 5 123) s m args below meth c H locs 0 0 (MQ below (qiW D w r σ') args s 0 0 (AL w)) (F0 m 13 ls [])) (X := fun rr => f_X6_comersPainted_k1 rr = some (r, σ')) ?_ FU ((0 : Int32), σ8) rr hlp hf) (fun hGo => hGo _ _ _ hP hS (lv_sub hl [1, 2, 0] rfl))
  rintro ⟨x2_13, σ_13⟩ oo13 hb9 hG13 hX13 H locs ls hP hS hl
  have hP : va_P D vwCl (WL w σ_13) H := hP
  have hl : lv_has ls 3 [(0, .ref (w.1 (0))), (1, .int a1), (2, .int x2_13)] := hl
  have hf : f_X6_comersPainted_b1 a1 x2_13 σ_13 = some oo13 := hb9
  unfold f_X6_comersPainted_b1 at hf
  refine lv_iload_n hx hb dX6_comersPainted_13 rfl (lv_at hl 2 rfl) ?_
  refine lv_aload_n hx hb dX6_comersPainted_14 rfl (lv_at hl 0 rfl) ?_
  refine gt_X6_19 hx hb hts hown hK hP dX6_comersPainted_15 ?_
  obtain ⟨v18, h18, hf⟩ := bnd hf
  refine q_cVi (As := []) hx hb hts hml hown hK hP hS (c_X5_posts l D w σ_13 (6) v18 isY6 h18) hw_X6_74 hd_X5_posts ⟨rfl, rfl, rfl⟩ isY6.o (ce5 isY6.k) rfl ⟨Nat.le_of_ble_eq_true rfl, Nat.le_of_ble_eq_true rfl⟩ ⟨Nat.le_of_ble_eq_true rfl, Nat.le_of_ble_eq_true rfl⟩ hl.1 rfl (Nat.le_of_ble_eq_true rfl) dX6_comersPainted_18 (fun H locs hP hS => ?_)
  refine lv_icmp_ge (tgt := 47) hx hb dX6_comersPainted_21 (by decide) (fun hc => ?_) (fun hc => ?_)
  · have hf := ifp hc hf
    obtain rfl := Option.some.inj hf
    exact hE13_47 σ_13 _ _ _ (hX13 _ rfl) hP hS (lv_sub hl [0] rfl)
  · have hf := ifn hc hf
    refine lv_iload_n hx hb dX6_comersPainted_24 rfl (lv_at hl 1 rfl) ?_
    refine lv_iload_n hx hb dX6_comersPainted_25 rfl (lv_at hl 2 rfl) ?_
    obtain ⟨v26, h26, hf⟩ := bnd hf
    refine q_cSz (As := [.int a1, .int x2_13]) hx hb hts hml hown hK hP hS (c_X6_hasBit l D w σ_13 a1 x2_13 v26 h26) hw_X6_200 hd_X6_hasBit ⟨rfl, rfl, rfl⟩ ⟨Nat.le_of_ble_eq_true rfl, Nat.le_of_ble_eq_true rfl⟩ ⟨Nat.le_of_ble_eq_true rfl, Nat.le_of_ble_eq_true rfl⟩ hl.1 rfl (Nat.le_of_ble_eq_true rfl) dX6_comersPainted_26 (fun hz26 H locs hP hS => ?_)
    refine lv_if_eq (tgt := 41) hx hb dX6_comersPainted_29 (by decide) (fun hc => ?_) (fun hc => ?_)
    · have hf := ifp hc hf
      refine lv_iinc (v := (x2_13 + (1 : Int32))) (lv' := [(2, .int (x2_13 + (1 : Int32))), (0, .ref (w.1 (0))), (1, .int a1)]) hx hb dX6_comersPainted_41 hl (k := 2) rfl ii_1 (by decide) rfl (fun ls hl => ?_)
      refine lv_goto (tgt := 13) hx hb dX6_comersPainted_44 (by decide) ?_
      obtain rfl := Option.some.inj hf
      exact hG13 _ rfl _ _ _ hP hS (lv_sub hl [1, 2, 0] rfl)
    · have hf := ifn hc hf
      refine lv_aload_n hx hb dX6_comersPainted_32 rfl (lv_at hl 0 rfl) ?_
      refine gt_X6_23 hx hb hts hown hK hP dX6_comersPainted_33 ?_
      refine lv_iload_n hx hb dX6_comersPainted_36 rfl (lv_at hl 2 rfl) ?_
      obtain ⟨⟨v37, σ37⟩, h37, hf⟩ := bnd hf
      dsimp only at hf
      refine q_cVi (As := [.int x2_13]) hx hb hts hml hown hK hP hS (c_X5_paintPost l D w σ_13 (20) x2_13 v37 σ37 isY20 hJ h37) hw_X6_157 hd_X5_paintPost ⟨rfl, rfl, rfl⟩ isY20.o (ce5 isY20.k) rfl ⟨Nat.le_of_ble_eq_true rfl, Nat.le_of_ble_eq_true rfl⟩ ⟨Nat.le_of_ble_eq_true rfl, Nat.le_of_ble_eq_true rfl⟩ hl.1 rfl (Nat.le_of_ble_eq_true rfl) dX6_comersPainted_37 (fun H locs hP hS => ?_)
      refine lv_pop hx hb dX6_comersPainted_40 rfl ?_
      refine lv_iinc (v := (x2_13 + (1 : Int32))) (lv' := [(2, .int (x2_13 + (1 : Int32))), (0, .ref (w.1 (0))), (1, .int a1)]) hx hb dX6_comersPainted_41 hl (k := 2) rfl ii_1 (by decide) rfl (fun ls hl => ?_)
      refine lv_goto (tgt := 13) hx hb dX6_comersPainted_44 (by decide) ?_
      obtain rfl := Option.some.inj hf
      exact hG13 _ rfl _ _ _ hP hS (lv_sub hl [1, 2, 0] rfl)
def f_X6_paints_b1 (v24 : Int32) (x2_33 : Int32) (x3_33 : Int32) (x5_33 : Int32) (σ_33 : Sg) : Option ((Int32 × Int32 × Int32 × Sg) ⊕ (Int32 × Int32 × Sg)) :=
  if ((1 : Int32) <<< (v24 &&& 31)) ≤ x5_33 then
  some (.inr (x2_33, x3_33, σ_33))
  else
  (f_X5_noneRetired σ_33 (6) x5_33).bind fun v46 =>
  if v46 = 0 then
  some (.inl (x2_33, x3_33, (x5_33 + (1 : Int32)), σ_33))
  else
  (f_X6_comersPainted σ_33 x5_33).bind fun q55 =>
  (f_J6_bitCount_0f7a4 q55.2 x5_33).bind fun v62 =>
  (f_J6_bitCount_0f7a4 q55.2 x2_33).bind fun v66 =>
  if v66 ≤ v62 then
  if x3_33 < q55.1 then
  some (.inl (x5_33, q55.1, (x5_33 + (1 : Int32)), q55.2))
  else
  if ¬ q55.1 = x3_33 then
  some (.inl (x2_33, x3_33, (x5_33 + (1 : Int32)), q55.2))
  else
  some (.inl (x2_33, x3_33, (x5_33 + (1 : Int32)), q55.2))
  else
  if x3_33 < q55.1 then
  some (.inl (x5_33, q55.1, (x5_33 + (1 : Int32)), q55.2))
  else
  if ¬ q55.1 = x3_33 then
  some (.inl (x2_33, x3_33, (x5_33 + (1 : Int32)), q55.2))
  else
  some (.inl (x5_33, q55.1, (x5_33 + (1 : Int32)), q55.2))
def f_X6_paints_k1 (a1 : Int32) (y2_108 : Int32) (y3_108 : Int32) (σ_108 : Sg) : Option (Int32 × Sg) :=
  if ¬ a1 = 0 then
  some (y3_108, σ_108)
  else
  some (y2_108, σ_108)
def f_X6_paints (σ : Sg) (a1 : Int32) : Option (Int32 × Sg) :=
  if a1 < 0 then
  some ((-1 : Int32), σ)
  else
  if a1 ≤ (1 : Int32) then
  (f_X6_comersPainted σ (0 : Int32)).bind fun q15 =>
  (f_X5_posts q15.2 (6)).bind fun v24 =>
  (lp (fun st => f_X6_paints_b1 v24 st.1 st.2.1 st.2.2.1 st.2.2.2) FU ((0 : Int32), q15.1, (1 : Int32), q15.2)).bind fun rr => f_X6_paints_k1 a1 rr.1 rr.2.1 rr.2.2
  else
  some ((-1 : Int32), σ)
set_option maxHeartbeats 4000000 in
set_option maxRecDepth 100000 in
theorem c_X6_paints (l : Launch) (D : va_G) (w : Wv) (σ : Sg) (a1 : Int32) (r : Int32) (σ' : Sg)  (hJ : Inj w) (hf : f_X6_paints σ a1 = some (r, σ')) : Met l yX6_paints (.code yX6_paints cX6_paints 8 (some .int) :: TB) (rmW 6 145) (pcW D w [.ref (w.1 (0)), .int a1] σ) (qiW D w r σ') 0 0 (AL w) := by
  refine q_open (by decide +kernel) (Nat.le_of_ble_eq_true rfl) ?_
  intro p e s m args below meth c ls hx hb hml hr hlk hown hts hK hP hS hl
  have hown : s.vm.findClass RX6 = some m.cls := hown
  have hl : lv_has ls 8 [(0, .ref (w.1 (0))), (1, .int a1)] := hl
  unfold f_X6_paints at hf
  refine lv_iload_n hx hb dX6_paints_0 rfl (lv_at hl 1 rfl) ?_
  refine lv_if_lt (tgt := 9) hx hb dX6_paints_1 (by decide) (fun hc => ?_) (fun hc => ?_)
  · have hf := ifp hc hf
    refine lv_iconst (v := (-1 : Int32)) hx hb dX6_paints_9 (by decide) ?_
    have hq := Option.some.inj hf
    exact q_iret hx hb hr hlk hP hS (congrArg Prod.fst hq) (congrArg Prod.snd hq) dX6_paints_10
  · have hf := ifn hc hf
    refine lv_iload_n hx hb dX6_paints_4 rfl (lv_at hl 1 rfl) ?_
    refine lv_iconst (v := (1 : Int32)) hx hb dX6_paints_5 (by decide) ?_
    refine lv_icmp_le (tgt := 11) hx hb dX6_paints_6 (by decide) (fun hc => ?_) (fun hc => ?_)
    · have hf := ifp hc hf
      refine lv_iconst (v := (0 : Int32)) hx hb dX6_paints_11 (by decide) ?_
      refine lv_istore_n (lv' := [(2, .int (0 : Int32)), (0, .ref (w.1 (0))), (1, .int a1)]) hx hb dX6_paints_12 rfl hl (by decide) rfl (fun ls hl => ?_)
      refine lv_aload_n hx hb dX6_paints_13 rfl (lv_at hl 1 rfl) ?_
      refine lv_iconst (v := (0 : Int32)) hx hb dX6_paints_14 (by decide) ?_
      obtain ⟨⟨v15, σ15⟩, h15, hf⟩ := bnd hf
      dsimp only at hf
      refine q_cVi (As := [.int (0 : Int32)]) hx hb hts hml hown hK hP hS (c_X6_comersPainted l D w σ (0 : Int32) v15 σ15 hJ h15) hw_X6_189 hd_X6_comersPainted ⟨rfl, rfl, rfl⟩ o0 (ce6 kd0) rfl ⟨Nat.le_of_ble_eq_true rfl, Nat.le_of_ble_eq_true rfl⟩ ⟨Nat.le_of_ble_eq_true rfl, Nat.le_of_ble_eq_true rfl⟩ hl.1 rfl (Nat.le_of_ble_eq_true rfl) dX6_paints_15 (fun H locs hP hS => ?_)
      refine lv_istore_n (lv' := [(3, .int v15), (2, .int (0 : Int32)), (0, .ref (w.1 (0))), (1, .int a1)]) hx hb dX6_paints_18 rfl hl (by decide) rfl (fun ls hl => ?_)
      refine lv_iconst (v := (1 : Int32)) hx hb dX6_paints_19 (by decide) ?_
      refine lv_aload_n hx hb dX6_paints_20 rfl (lv_at hl 2 rfl) ?_
      refine gt_X6_19 hx hb hts hown hK hP dX6_paints_21 ?_
      obtain ⟨v24, h24, hf⟩ := bnd hf
      refine q_cVi (As := []) hx hb hts hml hown hK hP hS (c_X5_posts l D w σ15 (6) v24 isY6 h24) hw_X6_74 hd_X5_posts ⟨rfl, rfl, rfl⟩ isY6.o (ce5 isY6.k) rfl ⟨Nat.le_of_ble_eq_true rfl, Nat.le_of_ble_eq_true rfl⟩ ⟨Nat.le_of_ble_eq_true rfl, Nat.le_of_ble_eq_true rfl⟩ hl.1 rfl (Nat.le_of_ble_eq_true rfl) dX6_paints_24 (fun H locs hP hS => ?_)
      refine lv_ishl hx hb dX6_paints_27 ?_
      refine lv_istore (lv' := [(4, .int ((1 : Int32) <<< (v24 &&& 31))), (3, .int v15), (2, .int (0 : Int32)), (0, .ref (w.1 (0))), (1, .int a1)]) hx hb dX6_paints_28 hl (by decide) rfl (fun ls hl => ?_)
      refine lv_iconst (v := (1 : Int32)) hx hb dX6_paints_30 (by decide) ?_
      refine lv_istore (lv' := [(5, .int (1 : Int32)), (4, .int ((1 : Int32) <<< (v24 &&& 31))), (3, .int v15), (2, .int (0 : Int32)), (0, .ref (w.1 (0))), (1, .int a1)]) hx hb dX6_paints_31 hl (by decide) rfl (fun ls hl => ?_)
      obtain ⟨rr, hlp, hf⟩ := bnd hf
      have hE33_108 : ∀ (y2_108 : Int32) (y3_108 : Int32) (σ_108 : Sg) (H : Heap) (locs : List Loc) (ls : Array Slot), f_X6_paints_k1 a1 y2_108 y3_108 σ_108 = some (r, σ') → va_P D vwCl (WL w σ_108) H → va_S (AL w) s.heap H locs → lv_has ls 8 [(1, .int a1), (2, .int y2_108), (3, .int y3_108)] → W p l e (rmW 6 145) s m args below meth c H locs 0 0 (MQ below (qiW D w r σ') args s 0 0 (AL w)) (F0 m 108 ls []) := by
        intro y2_108 y3_108 σ_108 H locs ls hf hP hS hl
        unfold f_X6_paints_k1 at hf
        refine lv_iload_n hx hb dX6_paints_108 rfl (lv_at hl 0 rfl) ?_
        refine lv_if_ne (tgt := 116) hx hb dX6_paints_109 (by decide) (fun hc => ?_) (fun hc => ?_)
        · have hf := ifp hc hf
          refine lv_iload_n hx hb dX6_paints_116 rfl (lv_at hl 2 rfl) ?_
          have hq := Option.some.inj hf
          exact q_iret hx hb hr hlk hP hS (congrArg Prod.fst hq) (congrArg Prod.snd hq) dX6_paints_117
        · have hf := ifn (fun h => h hc) hf
          refine lv_iload_n hx hb dX6_paints_112 rfl (lv_at hl 1 rfl) ?_
          refine lv_goto (tgt := 117) hx hb dX6_paints_113 (by decide) ?_
          have hq := Option.some.inj hf
          exact q_iret hx hb hr hlk hP hS (congrArg Prod.fst hq) (congrArg Prod.snd hq) dX6_paints_117
      refine useP (lp_ind (S := (Int32 × Int32 × Int32 × Sg)) (R := (Int32 × Int32 × Sg)) (b := fun st => f_X6_paints_b1 v24 st.1 st.2.1 st.2.2.1 st.2.2.2) (G := fun (st : (Int32 × Int32 × Int32 × Sg)) => ∀ (H : Heap) (locs : List Loc) (ls : Array Slot), va_P D vwCl (WL w st.2.2.2) H → va_S (AL w) s.heap H locs → lv_has ls 8 [(0, .ref (w.1 (0))), (1, .int a1), (2, .int st.1), (3, .int st.2.1), (4, .int ((1 : Int32) <<< (v24 &&& 31))), (5, .int st.2.2.1)] → W p l e (rmW 6 145) s m args below meth c H locs 0 0 (MQ below (qiW D w r σ') args s 0 0 (AL w)) (F0 m 33 ls [])) (X := fun rr => f_X6_paints_k1 a1 rr.1 rr.2.1 rr.2.2 = some (r, σ')) ?_ FU ((0 : Int32), v15, (1 : Int32), σ15) rr hlp hf) (fun hGo => hGo _ _ _ hP hS (lv_sub hl [4, 5, 3, 2, 1, 0] rfl))
      rintro ⟨x2_33, x3_33, x5_33, σ_33⟩ oo33 hb9 hG33 hX33 H locs ls hP hS hl
      have hP : va_P D vwCl (WL w σ_33) H := hP
      have hl : lv_has ls 8 [(0, .ref (w.1 (0))), (1, .int a1), (2, .int x2_33), (3, .int x3_33), (4, .int ((1 : Int32) <<< (v24 &&& 31))), (5, .int x5_33)] := hl
      have hf : f_X6_paints_b1 v24 x2_33 x3_33 x5_33 σ_33 = some oo33 := hb9
      unfold f_X6_paints_b1 at hf
      refine lv_iload hx hb dX6_paints_33 (lv_at hl 5 rfl) ?_
      refine lv_iload hx hb dX6_paints_35 (lv_at hl 4 rfl) ?_
      refine lv_icmp_ge (tgt := 108) hx hb dX6_paints_37 (by decide) (fun hc => ?_) (fun hc => ?_)
      · have hf := ifp hc hf
        obtain rfl := Option.some.inj hf
        exact hE33_108 x2_33 x3_33 σ_33 _ _ _ (hX33 _ rfl) hP hS (lv_sub hl [1, 2, 3] rfl)
      · have hf := ifn hc hf
        refine lv_aload_n hx hb dX6_paints_40 rfl (lv_at hl 0 rfl) ?_
        refine gt_X6_19 hx hb hts hown hK hP dX6_paints_41 ?_
        refine lv_iload hx hb dX6_paints_44 (lv_at hl 5 rfl) ?_
        obtain ⟨v46, h46, hf⟩ := bnd hf
        refine q_cVz (As := [.int x5_33]) hx hb hts hml hown hK hP hS (c_X5_noneRetired l D w σ_33 (6) x5_33 v46 isY6 h46) hw_X6_192 hd_X5_noneRetired ⟨rfl, rfl, rfl⟩ isY6.o (ce5 isY6.k) rfl ⟨Nat.le_of_ble_eq_true rfl, Nat.le_of_ble_eq_true rfl⟩ ⟨Nat.le_of_ble_eq_true rfl, Nat.le_of_ble_eq_true rfl⟩ hl.1 rfl (Nat.le_of_ble_eq_true rfl) dX6_paints_46 (fun hz46 H locs hP hS => ?_)
        refine lv_if_eq (tgt := 102) hx hb dX6_paints_49 (by decide) (fun hc => ?_) (fun hc => ?_)
        · have hf := ifp hc hf
          refine lv_iinc (v := (x5_33 + (1 : Int32))) (lv' := [(5, .int (x5_33 + (1 : Int32))), (0, .ref (w.1 (0))), (1, .int a1), (2, .int x2_33), (3, .int x3_33), (4, .int ((1 : Int32) <<< (v24 &&& 31)))]) hx hb dX6_paints_102 hl (k := 5) rfl ii_1 (by decide) rfl (fun ls hl => ?_)
          refine lv_goto (tgt := 33) hx hb dX6_paints_105 (by decide) ?_
          obtain rfl := Option.some.inj hf
          exact hG33 _ rfl _ _ _ hP hS (lv_sub hl [1, 2, 3, 4, 5, 0] rfl)
        · have hf := ifn hc hf
          refine lv_aload_n hx hb dX6_paints_52 rfl (lv_at hl 0 rfl) ?_
          refine lv_iload hx hb dX6_paints_53 (lv_at hl 5 rfl) ?_
          obtain ⟨⟨v55, σ55⟩, h55, hf⟩ := bnd hf
          dsimp only at hf
          refine q_cVi (As := [.int x5_33]) hx hb hts hml hown hK hP hS (c_X6_comersPainted l D w σ_33 x5_33 v55 σ55 hJ h55) hw_X6_189 hd_X6_comersPainted ⟨rfl, rfl, rfl⟩ o0 (ce6 kd0) rfl ⟨Nat.le_of_ble_eq_true rfl, Nat.le_of_ble_eq_true rfl⟩ ⟨Nat.le_of_ble_eq_true rfl, Nat.le_of_ble_eq_true rfl⟩ hl.1 rfl (Nat.le_of_ble_eq_true rfl) dX6_paints_55 (fun H locs hP hS => ?_)
          refine lv_istore (lv' := [(6, .int v55), (0, .ref (w.1 (0))), (1, .int a1), (2, .int x2_33), (3, .int x3_33), (4, .int ((1 : Int32) <<< (v24 &&& 31))), (5, .int x5_33)]) hx hb dX6_paints_58 hl (by decide) rfl (fun ls hl => ?_)
          refine lv_iload hx hb dX6_paints_60 (lv_at hl 6 rfl) ?_
          obtain ⟨v62, h62, hf⟩ := bnd hf
          refine q_cSi (As := [.int x5_33]) hx hb hts hml hown hK hP hS (c_J6_bitCount_0f7a4 l D w σ55 x5_33 v62 h62) hw_X6_195 hd_J6_bitCount_0f7a4 ⟨rfl, rfl, rfl⟩ ⟨Nat.le_of_ble_eq_true rfl, Nat.le_of_ble_eq_true rfl⟩ ⟨Nat.le_of_ble_eq_true rfl, Nat.le_of_ble_eq_true rfl⟩ hl.1 rfl (Nat.le_of_ble_eq_true rfl) dX6_paints_62 (fun H locs hP hS => ?_)
          refine lv_iload_n hx hb dX6_paints_65 rfl (lv_at hl 3 rfl) ?_
          obtain ⟨v66, h66, hf⟩ := bnd hf
          refine q_cSi (As := [.int x2_33]) hx hb hts hml hown hK hP hS (c_J6_bitCount_0f7a4 l D w σ55 x2_33 v66 h66) hw_X6_195 hd_J6_bitCount_0f7a4 ⟨rfl, rfl, rfl⟩ ⟨Nat.le_of_ble_eq_true rfl, Nat.le_of_ble_eq_true rfl⟩ ⟨Nat.le_of_ble_eq_true rfl, Nat.le_of_ble_eq_true rfl⟩ hl.1 rfl (Nat.le_of_ble_eq_true rfl) dX6_paints_66 (fun H locs hP hS => ?_)
          refine lv_icmp_ge (tgt := 76) hx hb dX6_paints_69 (by decide) (fun hc => ?_) (fun hc => ?_)
          · have hf := ifp hc hf
            refine lv_iconst (v := (0 : Int32)) hx hb dX6_paints_76 (by decide) ?_
            refine lv_istore (lv' := [(7, .int (0 : Int32)), (6, .int v55), (0, .ref (w.1 (0))), (1, .int a1), (2, .int x2_33), (3, .int x3_33), (4, .int ((1 : Int32) <<< (v24 &&& 31))), (5, .int x5_33)]) hx hb dX6_paints_77 hl (by decide) rfl (fun ls hl => ?_)
            refine lv_iload hx hb dX6_paints_79 (lv_at hl 1 rfl) ?_
            refine lv_iload_n hx hb dX6_paints_81 rfl (lv_at hl 5 rfl) ?_
            refine lv_icmp_gt (tgt := 96) hx hb dX6_paints_82 (by decide) (fun hc => ?_) (fun hc => ?_)
            · have hf := ifp hc hf
              refine lv_iload hx hb dX6_paints_96 (lv_at hl 7 rfl) ?_
              refine lv_istore_n (lv' := [(2, .int x5_33), (7, .int (0 : Int32)), (6, .int v55), (0, .ref (w.1 (0))), (1, .int a1), (3, .int x3_33), (4, .int ((1 : Int32) <<< (v24 &&& 31))), (5, .int x5_33)]) hx hb dX6_paints_98 rfl hl (by decide) rfl (fun ls hl => ?_)
              refine lv_iload hx hb dX6_paints_99 (lv_at hl 2 rfl) ?_
              refine lv_istore_n (lv' := [(3, .int v55), (2, .int x5_33), (7, .int (0 : Int32)), (6, .int v55), (0, .ref (w.1 (0))), (1, .int a1), (4, .int ((1 : Int32) <<< (v24 &&& 31))), (5, .int x5_33)]) hx hb dX6_paints_101 rfl hl (by decide) rfl (fun ls hl => ?_)
              refine lv_iinc (v := (x5_33 + (1 : Int32))) (lv' := [(5, .int (x5_33 + (1 : Int32))), (3, .int v55), (2, .int x5_33), (7, .int (0 : Int32)), (6, .int v55), (0, .ref (w.1 (0))), (1, .int a1), (4, .int ((1 : Int32) <<< (v24 &&& 31)))]) hx hb dX6_paints_102 hl (k := 7) rfl ii_1 (by decide) rfl (fun ls hl => ?_)
              refine lv_goto (tgt := 33) hx hb dX6_paints_105 (by decide) ?_
              obtain rfl := Option.some.inj hf
              exact hG33 _ rfl _ _ _ hP hS (lv_sub hl [5, 6, 2, 1, 7, 0] rfl)
            · have hf := ifn hc hf
              refine lv_iload hx hb dX6_paints_85 (lv_at hl 1 rfl) ?_
              refine lv_iload_n hx hb dX6_paints_87 rfl (lv_at hl 5 rfl) ?_
              refine lv_icmp_ne (tgt := 102) hx hb dX6_paints_88 (by decide) (fun hc => ?_) (fun hc => ?_)
              · have hf := ifp hc hf
                refine lv_iinc (v := (x5_33 + (1 : Int32))) (lv' := [(5, .int (x5_33 + (1 : Int32))), (7, .int (0 : Int32)), (6, .int v55), (0, .ref (w.1 (0))), (1, .int a1), (2, .int x2_33), (3, .int x3_33), (4, .int ((1 : Int32) <<< (v24 &&& 31)))]) hx hb dX6_paints_102 hl (k := 7) rfl ii_1 (by decide) rfl (fun ls hl => ?_)
                refine lv_goto (tgt := 33) hx hb dX6_paints_105 (by decide) ?_
                obtain rfl := Option.some.inj hf
                exact hG33 _ rfl _ _ _ hP hS (lv_sub hl [3, 4, 5, 6, 7, 0] rfl)
              · have hf := ifn (fun h => h hc) hf
                refine lv_iload hx hb dX6_paints_91 (lv_at hl 0 rfl) ?_
                refine lv_if_eq (tgt := 102) hx hb dX6_paints_93 (by decide) (fun _ => ?_) (fun hc => absurd (by decide) hc)
                refine lv_iinc (v := (x5_33 + (1 : Int32))) (lv' := [(5, .int (x5_33 + (1 : Int32))), (7, .int (0 : Int32)), (6, .int v55), (0, .ref (w.1 (0))), (1, .int a1), (2, .int x2_33), (3, .int x3_33), (4, .int ((1 : Int32) <<< (v24 &&& 31)))]) hx hb dX6_paints_102 hl (k := 7) rfl ii_1 (by decide) rfl (fun ls hl => ?_)
                refine lv_goto (tgt := 33) hx hb dX6_paints_105 (by decide) ?_
                obtain rfl := Option.some.inj hf
                exact hG33 _ rfl _ _ _ hP hS (lv_sub hl [3, 4, 5, 6, 7, 0] rfl)
          · have hf := ifn hc hf
            refine lv_iconst (v := (1 : Int32)) hx hb dX6_paints_72 (by decide) ?_
            refine lv_goto (tgt := 77) hx hb dX6_paints_73 (by decide) ?_
            refine lv_istore (lv' := [(7, .int (1 : Int32)), (6, .int v55), (0, .ref (w.1 (0))), (1, .int a1), (2, .int x2_33), (3, .int x3_33), (4, .int ((1 : Int32) <<< (v24 &&& 31))), (5, .int x5_33)]) hx hb dX6_paints_77 hl (by decide) rfl (fun ls hl => ?_)
            refine lv_iload hx hb dX6_paints_79 (lv_at hl 1 rfl) ?_
            refine lv_iload_n hx hb dX6_paints_81 rfl (lv_at hl 5 rfl) ?_
            refine lv_icmp_gt (tgt := 96) hx hb dX6_paints_82 (by decide) (fun hc => ?_) (fun hc => ?_)
            · have hf := ifp hc hf
              refine lv_iload hx hb dX6_paints_96 (lv_at hl 7 rfl) ?_
              refine lv_istore_n (lv' := [(2, .int x5_33), (7, .int (1 : Int32)), (6, .int v55), (0, .ref (w.1 (0))), (1, .int a1), (3, .int x3_33), (4, .int ((1 : Int32) <<< (v24 &&& 31))), (5, .int x5_33)]) hx hb dX6_paints_98 rfl hl (by decide) rfl (fun ls hl => ?_)
              refine lv_iload hx hb dX6_paints_99 (lv_at hl 2 rfl) ?_
              refine lv_istore_n (lv' := [(3, .int v55), (2, .int x5_33), (7, .int (1 : Int32)), (6, .int v55), (0, .ref (w.1 (0))), (1, .int a1), (4, .int ((1 : Int32) <<< (v24 &&& 31))), (5, .int x5_33)]) hx hb dX6_paints_101 rfl hl (by decide) rfl (fun ls hl => ?_)
              refine lv_iinc (v := (x5_33 + (1 : Int32))) (lv' := [(5, .int (x5_33 + (1 : Int32))), (3, .int v55), (2, .int x5_33), (7, .int (1 : Int32)), (6, .int v55), (0, .ref (w.1 (0))), (1, .int a1), (4, .int ((1 : Int32) <<< (v24 &&& 31)))]) hx hb dX6_paints_102 hl (k := 7) rfl ii_1 (by decide) rfl (fun ls hl => ?_)
              refine lv_goto (tgt := 33) hx hb dX6_paints_105 (by decide) ?_
              obtain rfl := Option.some.inj hf
              exact hG33 _ rfl _ _ _ hP hS (lv_sub hl [5, 6, 2, 1, 7, 0] rfl)
            · have hf := ifn hc hf
              refine lv_iload hx hb dX6_paints_85 (lv_at hl 1 rfl) ?_
              refine lv_iload_n hx hb dX6_paints_87 rfl (lv_at hl 5 rfl) ?_
              refine lv_icmp_ne (tgt := 102) hx hb dX6_paints_88 (by decide) (fun hc => ?_) (fun hc => ?_)
              · have hf := ifp hc hf
                refine lv_iinc (v := (x5_33 + (1 : Int32))) (lv' := [(5, .int (x5_33 + (1 : Int32))), (7, .int (1 : Int32)), (6, .int v55), (0, .ref (w.1 (0))), (1, .int a1), (2, .int x2_33), (3, .int x3_33), (4, .int ((1 : Int32) <<< (v24 &&& 31)))]) hx hb dX6_paints_102 hl (k := 7) rfl ii_1 (by decide) rfl (fun ls hl => ?_)
                refine lv_goto (tgt := 33) hx hb dX6_paints_105 (by decide) ?_
                obtain rfl := Option.some.inj hf
                exact hG33 _ rfl _ _ _ hP hS (lv_sub hl [3, 4, 5, 6, 7, 0] rfl)
              · have hf := ifn (fun h => h hc) hf
                refine lv_iload hx hb dX6_paints_91 (lv_at hl 0 rfl) ?_
                refine lv_if_eq (tgt := 102) hx hb dX6_paints_93 (by decide) (fun hc => absurd hc (by decide)) (fun _ => ?_)
                refine lv_iload hx hb dX6_paints_96 (lv_at hl 7 rfl) ?_
                refine lv_istore_n (lv' := [(2, .int x5_33), (7, .int (1 : Int32)), (6, .int v55), (0, .ref (w.1 (0))), (1, .int a1), (3, .int x3_33), (4, .int ((1 : Int32) <<< (v24 &&& 31))), (5, .int x5_33)]) hx hb dX6_paints_98 rfl hl (by decide) rfl (fun ls hl => ?_)
                refine lv_iload hx hb dX6_paints_99 (lv_at hl 2 rfl) ?_
                refine lv_istore_n (lv' := [(3, .int v55), (2, .int x5_33), (7, .int (1 : Int32)), (6, .int v55), (0, .ref (w.1 (0))), (1, .int a1), (4, .int ((1 : Int32) <<< (v24 &&& 31))), (5, .int x5_33)]) hx hb dX6_paints_101 rfl hl (by decide) rfl (fun ls hl => ?_)
                refine lv_iinc (v := (x5_33 + (1 : Int32))) (lv' := [(5, .int (x5_33 + (1 : Int32))), (3, .int v55), (2, .int x5_33), (7, .int (1 : Int32)), (6, .int v55), (0, .ref (w.1 (0))), (1, .int a1), (4, .int ((1 : Int32) <<< (v24 &&& 31)))]) hx hb dX6_paints_102 hl (k := 7) rfl ii_1 (by decide) rfl (fun ls hl => ?_)
                refine lv_goto (tgt := 33) hx hb dX6_paints_105 (by decide) ?_
                obtain rfl := Option.some.inj hf
                exact hG33 _ rfl _ _ _ hP hS (lv_sub hl [5, 6, 2, 1, 7, 0] rfl)
    · have hf := ifn hc hf
      refine lv_iconst (v := (-1 : Int32)) hx hb dX6_paints_9 (by decide) ?_
      have hq := Option.some.inj hf
      exact q_iret hx hb hr hlk hP hS (congrArg Prod.fst hq) (congrArg Prod.snd hq) dX6_paints_10
def f_X6_isCover_b1 (a1 : Int32) (x2_20 : Int32) (σ_20 : Sg) : Option ((Int32 × Sg) ⊕ Sg) :=
  (f_X5_towns σ_20 (6)).bind fun v25 =>
  if v25 ≤ x2_20 then
  some (.inr σ_20)
  else
  (f_X6_hasBit σ_20 a1 x2_20).bind fun v33 =>
  if v33 = 0 then
  some (.inl ((x2_20 + (1 : Int32)), σ_20))
  else
  (f_X5_standPlain σ_20 (20) x2_20).bind fun σ44 =>
  some (.inl ((x2_20 + (1 : Int32)), σ44))
def f_X6_isCover_k1 (σ_53 : Sg) : Option (Int32 × Sg) :=
  (f_X5_passHours σ_53 (20) (40 : Int32)).bind fun σ59 =>
  (f_X5_comeCount σ59 (20)).bind fun v66 =>
  (f_X5_walkers σ59 (20)).bind fun v73 =>
  if ¬ v66 = v73 then
  some ((0 : Int32), σ59)
  else
  some ((1 : Int32), σ59)
def f_X6_isCover (σ : Sg) (a1 : Int32) : Option (Int32 × Sg) :=
  (f_X5_become σ (20) (6)).bind fun σ8 =>
  (f_X5_dropPosts σ8 (20)).bind fun σ15 =>
  (lp (fun st => f_X6_isCover_b1 a1 st.1 st.2) FU ((0 : Int32), σ15)).bind fun rr => f_X6_isCover_k1 rr
set_option maxHeartbeats 4000000 in
set_option maxRecDepth 100000 in
theorem c_X6_isCover (l : Launch) (D : va_G) (w : Wv) (σ : Sg) (a1 : Int32) (r : Int32) (σ' : Sg)  (hJ : Inj w) (hf : f_X6_isCover σ a1 = some (r, σ')) : Met l yX6_isCover (.code yX6_isCover cX6_isCover 3 (some .boolean) :: TB) (rmW 5 123) (pcW D w [.ref (w.1 (0)), .int a1] σ) (qzW D w r σ') 0 0 (AL w) := by
  refine q_open (by decide +kernel) (Nat.le_of_ble_eq_true rfl) ?_
  intro p e s m args below meth c ls hx hb hml hr hlk hown hts hK hP hS hl
  have hown : s.vm.findClass RX6 = some m.cls := hown
  have hl : lv_has ls 3 [(0, .ref (w.1 (0))), (1, .int a1)] := hl
  unfold f_X6_isCover at hf
  refine lv_aload_n hx hb dX6_isCover_0 rfl (lv_at hl 0 rfl) ?_
  refine gt_X6_23 hx hb hts hown hK hP dX6_isCover_1 ?_
  refine lv_aload_n hx hb dX6_isCover_4 rfl (lv_at hl 0 rfl) ?_
  refine gt_X6_19 hx hb hts hown hK hP dX6_isCover_5 ?_
  obtain ⟨σ8, h8, hf⟩ := bnd hf
  refine q_cVv (As := [.ref (w.1 (6))]) hx hb hts hml hown hK hP hS (c_X5_become l D w σ (20) (6) σ8 isY20 isY6 hJ h8) hw_X6_80 hd_X5_become ⟨rfl, rfl, rfl⟩ isY20.o (ce5 isY20.k) rfl ⟨Nat.le_of_ble_eq_true rfl, Nat.le_of_ble_eq_true rfl⟩ ⟨Nat.le_of_ble_eq_true rfl, Nat.le_of_ble_eq_true rfl⟩ hl.1 rfl (Nat.le_of_ble_eq_true rfl) dX6_isCover_8 (fun H locs hP hS => ?_)
  refine lv_aload_n hx hb dX6_isCover_11 rfl (lv_at hl 0 rfl) ?_
  refine gt_X6_23 hx hb hts hown hK hP dX6_isCover_12 ?_
  obtain ⟨σ15, h15, hf⟩ := bnd hf
  refine q_cVv (As := []) hx hb hts hml hown hK hP hS (c_X5_dropPosts l D w σ8 (20) σ15 isY20 hJ h15) hw_X6_206 hd_X5_dropPosts ⟨rfl, rfl, rfl⟩ isY20.o (ce5 isY20.k) rfl ⟨Nat.le_of_ble_eq_true rfl, Nat.le_of_ble_eq_true rfl⟩ ⟨Nat.le_of_ble_eq_true rfl, Nat.le_of_ble_eq_true rfl⟩ hl.1 rfl (Nat.le_of_ble_eq_true rfl) dX6_isCover_15 (fun H locs hP hS => ?_)
  refine lv_iconst (v := (0 : Int32)) hx hb dX6_isCover_18 (by decide) ?_
  refine lv_istore_n (lv' := [(2, .int (0 : Int32)), (0, .ref (w.1 (0))), (1, .int a1)]) hx hb dX6_isCover_19 rfl hl (by decide) rfl (fun ls hl => ?_)
  obtain ⟨rr, hlp, hf⟩ := bnd hf
  have hE20_53 : ∀ (σ_53 : Sg) (H : Heap) (locs : List Loc) (ls : Array Slot), f_X6_isCover_k1 σ_53 = some (r, σ') → va_P D vwCl (WL w σ_53) H → va_S (AL w) s.heap H locs → lv_has ls 3 [(0, .ref (w.1 (0)))] → W p l e (rmW 5 123) s m args below meth c H locs 0 0 (MQ below (qzW D w r σ') args s 0 0 (AL w)) (F0 m 53 ls []) := by
    intro σ_53 H locs ls hf hP hS hl
    unfold f_X6_isCover_k1 at hf
    refine lv_aload_n hx hb dX6_isCover_53 rfl (lv_at hl 0 rfl) ?_
    refine gt_X6_23 hx hb hts hown hK hP dX6_isCover_54 ?_
    refine lv_bipush (v := (40 : Int32)) hx hb dX6_isCover_57 (by decide) ?_
    obtain ⟨σ59, h59, hf⟩ := bnd hf
    refine q_cVv (As := [.int (40 : Int32)]) hx hb hts hml hown hK hP hS (c_X5_passHours l D w σ_53 (20) (40 : Int32) σ59 isY20 hJ h59) hw_X6_144 hd_X5_passHours ⟨rfl, rfl, rfl⟩ isY20.o (ce5 isY20.k) rfl ⟨Nat.le_of_ble_eq_true rfl, Nat.le_of_ble_eq_true rfl⟩ ⟨Nat.le_of_ble_eq_true rfl, Nat.le_of_ble_eq_true rfl⟩ hl.1 rfl (Nat.le_of_ble_eq_true rfl) dX6_isCover_59 (fun H locs hP hS => ?_)
    refine lv_aload_n hx hb dX6_isCover_62 rfl (lv_at hl 0 rfl) ?_
    refine gt_X6_23 hx hb hts hown hK hP dX6_isCover_63 ?_
    obtain ⟨v66, h66, hf⟩ := bnd hf
    refine q_cVi (As := []) hx hb hts hml hown hK hP hS (c_X5_comeCount l D w σ59 (20) v66 isY20 h66) hw_X6_186 hd_X5_comeCount ⟨rfl, rfl, rfl⟩ isY20.o (ce5 isY20.k) rfl ⟨Nat.le_of_ble_eq_true rfl, Nat.le_of_ble_eq_true rfl⟩ ⟨Nat.le_of_ble_eq_true rfl, Nat.le_of_ble_eq_true rfl⟩ hl.1 rfl (Nat.le_of_ble_eq_true rfl) dX6_isCover_66 (fun H locs hP hS => ?_)
    refine lv_aload_n hx hb dX6_isCover_69 rfl (lv_at hl 0 rfl) ?_
    refine gt_X6_23 hx hb hts hown hK hP dX6_isCover_70 ?_
    obtain ⟨v73, h73, hf⟩ := bnd hf
    refine q_cVi (As := []) hx hb hts hml hown hK hP hS (c_X5_walkers l D w σ59 (20) v73 isY20 h73) hw_X6_77 hd_X5_walkers ⟨rfl, rfl, rfl⟩ isY20.o (ce5 isY20.k) rfl ⟨Nat.le_of_ble_eq_true rfl, Nat.le_of_ble_eq_true rfl⟩ ⟨Nat.le_of_ble_eq_true rfl, Nat.le_of_ble_eq_true rfl⟩ hl.1 rfl (Nat.le_of_ble_eq_true rfl) dX6_isCover_73 (fun H locs hP hS => ?_)
    refine lv_icmp_ne (tgt := 83) hx hb dX6_isCover_76 (by decide) (fun hc => ?_) (fun hc => ?_)
    · have hf := ifp hc hf
      refine lv_iconst (v := (0 : Int32)) hx hb dX6_isCover_83 (by decide) ?_
      have hq := Option.some.inj hf
      exact q_zret hx hb hr hlk hP hS rfl (congrArg Prod.fst hq) (congrArg Prod.snd hq) dX6_isCover_84
    · have hf := ifn (fun h => h hc) hf
      refine lv_iconst (v := (1 : Int32)) hx hb dX6_isCover_79 (by decide) ?_
      refine lv_goto (tgt := 84) hx hb dX6_isCover_80 (by decide) ?_
      have hq := Option.some.inj hf
      exact q_zret hx hb hr hlk hP hS rfl (congrArg Prod.fst hq) (congrArg Prod.snd hq) dX6_isCover_84
  refine useP (lp_ind (S := (Int32 × Sg)) (R := Sg) (b := fun st => f_X6_isCover_b1 a1 st.1 st.2) (G := fun (st : (Int32 × Sg)) => ∀ (H : Heap) (locs : List Loc) (ls : Array Slot), va_P D vwCl (WL w st.2) H → va_S (AL w) s.heap H locs → lv_has ls 3 [(0, .ref (w.1 (0))), (1, .int a1), (2, .int st.1)] → W p l e (rmW 5 123) s m args below meth c H locs 0 0 (MQ below (qzW D w r σ') args s 0 0 (AL w)) (F0 m 20 ls [])) (X := fun rr => f_X6_isCover_k1 rr = some (r, σ')) ?_ FU ((0 : Int32), σ15) rr hlp hf) (fun hGo => hGo _ _ _ hP hS (lv_sub hl [1, 2, 0] rfl))
  rintro ⟨x2_20, σ_20⟩ oo20 hb9 hG20 hX20 H locs ls hP hS hl
  have hP : va_P D vwCl (WL w σ_20) H := hP
  have hl : lv_has ls 3 [(0, .ref (w.1 (0))), (1, .int a1), (2, .int x2_20)] := hl
  have hf : f_X6_isCover_b1 a1 x2_20 σ_20 = some oo20 := hb9
  unfold f_X6_isCover_b1 at hf
  refine lv_iload_n hx hb dX6_isCover_20 rfl (lv_at hl 2 rfl) ?_
  refine lv_aload_n hx hb dX6_isCover_21 rfl (lv_at hl 0 rfl) ?_
  refine gt_X6_19 hx hb hts hown hK hP dX6_isCover_22 ?_
  obtain ⟨v25, h25, hf⟩ := bnd hf
  refine q_cVi (As := []) hx hb hts hml hown hK hP hS (c_X5_towns l D w σ_20 (6) v25 isY6 h25) hw_X6_174 hd_X5_towns ⟨rfl, rfl, rfl⟩ isY6.o (ce5 isY6.k) rfl ⟨Nat.le_of_ble_eq_true rfl, Nat.le_of_ble_eq_true rfl⟩ ⟨Nat.le_of_ble_eq_true rfl, Nat.le_of_ble_eq_true rfl⟩ hl.1 rfl (Nat.le_of_ble_eq_true rfl) dX6_isCover_25 (fun H locs hP hS => ?_)
  refine lv_icmp_ge (tgt := 53) hx hb dX6_isCover_28 (by decide) (fun hc => ?_) (fun hc => ?_)
  · have hf := ifp hc hf
    obtain rfl := Option.some.inj hf
    exact hE20_53 σ_20 _ _ _ (hX20 _ rfl) hP hS (lv_sub hl [0] rfl)
  · have hf := ifn hc hf
    refine lv_iload_n hx hb dX6_isCover_31 rfl (lv_at hl 1 rfl) ?_
    refine lv_iload_n hx hb dX6_isCover_32 rfl (lv_at hl 2 rfl) ?_
    obtain ⟨v33, h33, hf⟩ := bnd hf
    refine q_cSz (As := [.int a1, .int x2_20]) hx hb hts hml hown hK hP hS (c_X6_hasBit l D w σ_20 a1 x2_20 v33 h33) hw_X6_200 hd_X6_hasBit ⟨rfl, rfl, rfl⟩ ⟨Nat.le_of_ble_eq_true rfl, Nat.le_of_ble_eq_true rfl⟩ ⟨Nat.le_of_ble_eq_true rfl, Nat.le_of_ble_eq_true rfl⟩ hl.1 rfl (Nat.le_of_ble_eq_true rfl) dX6_isCover_33 (fun hz33 H locs hP hS => ?_)
    refine lv_if_eq (tgt := 47) hx hb dX6_isCover_36 (by decide) (fun hc => ?_) (fun hc => ?_)
    · have hf := ifp hc hf
      refine lv_iinc (v := (x2_20 + (1 : Int32))) (lv' := [(2, .int (x2_20 + (1 : Int32))), (0, .ref (w.1 (0))), (1, .int a1)]) hx hb dX6_isCover_47 hl (k := 2) rfl ii_1 (by decide) rfl (fun ls hl => ?_)
      refine lv_goto (tgt := 20) hx hb dX6_isCover_50 (by decide) ?_
      obtain rfl := Option.some.inj hf
      exact hG20 _ rfl _ _ _ hP hS (lv_sub hl [1, 2, 0] rfl)
    · have hf := ifn hc hf
      refine lv_aload_n hx hb dX6_isCover_39 rfl (lv_at hl 0 rfl) ?_
      refine gt_X6_23 hx hb hts hown hK hP dX6_isCover_40 ?_
      refine lv_iload_n hx hb dX6_isCover_43 rfl (lv_at hl 2 rfl) ?_
      obtain ⟨σ44, h44, hf⟩ := bnd hf
      refine q_cVv (As := [.int x2_20]) hx hb hts hml hown hK hP hS (c_X5_standPlain l D w σ_20 (20) x2_20 σ44 isY20 hJ h44) hw_X6_183 hd_X5_standPlain ⟨rfl, rfl, rfl⟩ isY20.o (ce5 isY20.k) rfl ⟨Nat.le_of_ble_eq_true rfl, Nat.le_of_ble_eq_true rfl⟩ ⟨Nat.le_of_ble_eq_true rfl, Nat.le_of_ble_eq_true rfl⟩ hl.1 rfl (Nat.le_of_ble_eq_true rfl) dX6_isCover_44 (fun H locs hP hS => ?_)
      refine lv_iinc (v := (x2_20 + (1 : Int32))) (lv' := [(2, .int (x2_20 + (1 : Int32))), (0, .ref (w.1 (0))), (1, .int a1)]) hx hb dX6_isCover_47 hl (k := 2) rfl ii_1 (by decide) rfl (fun ls hl => ?_)
      refine lv_goto (tgt := 20) hx hb dX6_isCover_50 (by decide) ?_
      obtain rfl := Option.some.inj hf
      exact hG20 _ rfl _ _ _ hP hS (lv_sub hl [1, 2, 0] rfl)
def f_X6_cover_b1 (v19 : Int32) (x2_27 : Int32) (x4_27 : Int32) (σ_27 : Sg) : Option ((Int32 × Int32 × Sg) ⊕ (Int32 × Sg)) :=
  if ((1 : Int32) <<< (v19 &&& 31)) ≤ x4_27 then
  some (.inr (x2_27, σ_27))
  else
  if x2_27 = (-4 : Int32) then
  (f_X6_isCover σ_27 x4_27).bind fun q66 =>
  if q66.1 = 0 then
  some (.inl (x2_27, (x4_27 + (1 : Int32)), q66.2))
  else
  some (.inl (x4_27, (x4_27 + (1 : Int32)), q66.2))
  else
  (f_J6_bitCount_0f7a4 σ_27 x4_27).bind fun v41 =>
  (f_J6_bitCount_0f7a4 σ_27 x2_27).bind fun v45 =>
  if v45 ≤ v41 then
  some (.inl (x2_27, (x4_27 + (1 : Int32)), σ_27))
  else
  (f_X6_isCover σ_27 x4_27).bind fun q66 =>
  if q66.1 = 0 then
  some (.inl (x2_27, (x4_27 + (1 : Int32)), q66.2))
  else
  some (.inl (x4_27, (x4_27 + (1 : Int32)), q66.2))
def f_X6_cover_k1 (a1 : Int32) (y2_81 : Int32) (σ_81 : Sg) : Option (Int32 × Sg) :=
  if ¬ y2_81 = (-4 : Int32) then
  if ¬ a1 = 0 then
  some (y2_81, σ_81)
  else
  (f_J6_bitCount_0f7a4 σ_81 y2_81).bind fun v95 =>
  some (v95, σ_81)
  else
  some ((-4 : Int32), σ_81)
def f_X6_cover (σ : Sg) (a1 : Int32) : Option (Int32 × Sg) :=
  if a1 < 0 then
  some ((-1 : Int32), σ)
  else
  if a1 ≤ (1 : Int32) then
  (f_X5_towns σ (6)).bind fun v19 =>
  (lp (fun st => f_X6_cover_b1 v19 st.1 st.2.1 st.2.2) FU ((-4 : Int32), (0 : Int32), σ)).bind fun rr => f_X6_cover_k1 a1 rr.1 rr.2
  else
  some ((-1 : Int32), σ)
set_option maxHeartbeats 4000000 in
set_option maxRecDepth 100000 in
theorem c_X6_cover (l : Launch) (D : va_G) (w : Wv) (σ : Sg) (a1 : Int32) (r : Int32) (σ' : Sg)  (hJ : Inj w) (hf : f_X6_cover σ a1 = some (r, σ')) : Met l yX6_cover (.code yX6_cover cX6_cover 6 (some .int) :: TB) (rmW 6 145) (pcW D w [.ref (w.1 (0)), .int a1] σ) (qiW D w r σ') 0 0 (AL w) := by
  refine q_open (by decide +kernel) (Nat.le_of_ble_eq_true rfl) ?_
  intro p e s m args below meth c ls hx hb hml hr hlk hown hts hK hP hS hl
  have hown : s.vm.findClass RX6 = some m.cls := hown
  have hl : lv_has ls 6 [(0, .ref (w.1 (0))), (1, .int a1)] := hl
  unfold f_X6_cover at hf
  refine lv_iload_n hx hb dX6_cover_0 rfl (lv_at hl 1 rfl) ?_
  refine lv_if_lt (tgt := 9) hx hb dX6_cover_1 (by decide) (fun hc => ?_) (fun hc => ?_)
  · have hf := ifp hc hf
    refine lv_iconst (v := (-1 : Int32)) hx hb dX6_cover_9 (by decide) ?_
    have hq := Option.some.inj hf
    exact q_iret hx hb hr hlk hP hS (congrArg Prod.fst hq) (congrArg Prod.snd hq) dX6_cover_10
  · have hf := ifn hc hf
    refine lv_iload_n hx hb dX6_cover_4 rfl (lv_at hl 1 rfl) ?_
    refine lv_iconst (v := (1 : Int32)) hx hb dX6_cover_5 (by decide) ?_
    refine lv_icmp_le (tgt := 11) hx hb dX6_cover_6 (by decide) (fun hc => ?_) (fun hc => ?_)
    · have hf := ifp hc hf
      refine lv_bipush (v := (-4 : Int32)) hx hb dX6_cover_11 (by decide) ?_
      refine lv_istore_n (lv' := [(2, .int (-4 : Int32)), (0, .ref (w.1 (0))), (1, .int a1)]) hx hb dX6_cover_13 rfl hl (by decide) rfl (fun ls hl => ?_)
      refine lv_iconst (v := (1 : Int32)) hx hb dX6_cover_14 (by decide) ?_
      refine lv_aload_n hx hb dX6_cover_15 rfl (lv_at hl 1 rfl) ?_
      refine gt_X6_19 hx hb hts hown hK hP dX6_cover_16 ?_
      obtain ⟨v19, h19, hf⟩ := bnd hf
      refine q_cVi (As := []) hx hb hts hml hown hK hP hS (c_X5_towns l D w σ (6) v19 isY6 h19) hw_X6_174 hd_X5_towns ⟨rfl, rfl, rfl⟩ isY6.o (ce5 isY6.k) rfl ⟨Nat.le_of_ble_eq_true rfl, Nat.le_of_ble_eq_true rfl⟩ ⟨Nat.le_of_ble_eq_true rfl, Nat.le_of_ble_eq_true rfl⟩ hl.1 rfl (Nat.le_of_ble_eq_true rfl) dX6_cover_19 (fun H locs hP hS => ?_)
      refine lv_ishl hx hb dX6_cover_22 ?_
      refine lv_istore_n (lv' := [(3, .int ((1 : Int32) <<< (v19 &&& 31))), (2, .int (-4 : Int32)), (0, .ref (w.1 (0))), (1, .int a1)]) hx hb dX6_cover_23 rfl hl (by decide) rfl (fun ls hl => ?_)
      refine lv_iconst (v := (0 : Int32)) hx hb dX6_cover_24 (by decide) ?_
      refine lv_istore (lv' := [(4, .int (0 : Int32)), (3, .int ((1 : Int32) <<< (v19 &&& 31))), (2, .int (-4 : Int32)), (0, .ref (w.1 (0))), (1, .int a1)]) hx hb dX6_cover_25 hl (by decide) rfl (fun ls hl => ?_)
      obtain ⟨rr, hlp, hf⟩ := bnd hf
      have hE27_81 : ∀ (y2_81 : Int32) (σ_81 : Sg) (H : Heap) (locs : List Loc) (ls : Array Slot), f_X6_cover_k1 a1 y2_81 σ_81 = some (r, σ') → va_P D vwCl (WL w σ_81) H → va_S (AL w) s.heap H locs → lv_has ls 6 [(1, .int a1), (2, .int y2_81)] → W p l e (rmW 6 145) s m args below meth c H locs 0 0 (MQ below (qiW D w r σ') args s 0 0 (AL w)) (F0 m 81 ls []) := by
        intro y2_81 σ_81 H locs ls hf hP hS hl
        unfold f_X6_cover_k1 at hf
        refine lv_iload_n hx hb dX6_cover_81 rfl (lv_at hl 1 rfl) ?_
        refine lv_bipush (v := (-4 : Int32)) hx hb dX6_cover_82 (by decide) ?_
        refine lv_icmp_ne (tgt := 90) hx hb dX6_cover_84 (by decide) (fun hc => ?_) (fun hc => ?_)
        · have hf := ifp hc hf
          refine lv_iload_n hx hb dX6_cover_90 rfl (lv_at hl 0 rfl) ?_
          refine lv_if_ne (tgt := 101) hx hb dX6_cover_91 (by decide) (fun hc => ?_) (fun hc => ?_)
          · have hf := ifp hc hf
            refine lv_iload_n hx hb dX6_cover_101 rfl (lv_at hl 1 rfl) ?_
            have hq := Option.some.inj hf
            exact q_iret hx hb hr hlk hP hS (congrArg Prod.fst hq) (congrArg Prod.snd hq) dX6_cover_102
          · have hf := ifn (fun h => h hc) hf
            refine lv_iload_n hx hb dX6_cover_94 rfl (lv_at hl 1 rfl) ?_
            obtain ⟨v95, h95, hf⟩ := bnd hf
            refine q_cSi (As := [.int y2_81]) hx hb hts hml hown hK hP hS (c_J6_bitCount_0f7a4 l D w σ_81 y2_81 v95 h95) hw_X6_195 hd_J6_bitCount_0f7a4 ⟨rfl, rfl, rfl⟩ ⟨Nat.le_of_ble_eq_true rfl, Nat.le_of_ble_eq_true rfl⟩ ⟨Nat.le_of_ble_eq_true rfl, Nat.le_of_ble_eq_true rfl⟩ hl.1 rfl (Nat.le_of_ble_eq_true rfl) dX6_cover_95 (fun H locs hP hS => ?_)
            refine lv_goto (tgt := 102) hx hb dX6_cover_98 (by decide) ?_
            have hq := Option.some.inj hf
            exact q_iret hx hb hr hlk hP hS (congrArg Prod.fst hq) (congrArg Prod.snd hq) dX6_cover_102
        · have hf := ifn (fun h => h hc) hf
          refine lv_bipush (v := (-4 : Int32)) hx hb dX6_cover_87 (by decide) ?_
          have hq := Option.some.inj hf
          exact q_iret hx hb hr hlk hP hS (congrArg Prod.fst hq) (congrArg Prod.snd hq) dX6_cover_89
      refine useP (lp_ind (S := (Int32 × Int32 × Sg)) (R := (Int32 × Sg)) (b := fun st => f_X6_cover_b1 v19 st.1 st.2.1 st.2.2) (G := fun (st : (Int32 × Int32 × Sg)) => ∀ (H : Heap) (locs : List Loc) (ls : Array Slot), va_P D vwCl (WL w st.2.2) H → va_S (AL w) s.heap H locs → lv_has ls 6 [(0, .ref (w.1 (0))), (1, .int a1), (2, .int st.1), (3, .int ((1 : Int32) <<< (v19 &&& 31))), (4, .int st.2.1)] → W p l e (rmW 6 145) s m args below meth c H locs 0 0 (MQ below (qiW D w r σ') args s 0 0 (AL w)) (F0 m 27 ls [])) (X := fun rr => f_X6_cover_k1 a1 rr.1 rr.2 = some (r, σ')) ?_ FU ((-4 : Int32), (0 : Int32), σ) rr hlp hf) (fun hGo => hGo _ _ _ hP hS (lv_sub hl [3, 4, 2, 1, 0] rfl))
      rintro ⟨x2_27, x4_27, σ_27⟩ oo27 hb9 hG27 hX27 H locs ls hP hS hl
      have hP : va_P D vwCl (WL w σ_27) H := hP
      have hl : lv_has ls 6 [(0, .ref (w.1 (0))), (1, .int a1), (2, .int x2_27), (3, .int ((1 : Int32) <<< (v19 &&& 31))), (4, .int x4_27)] := hl
      have hf : f_X6_cover_b1 v19 x2_27 x4_27 σ_27 = some oo27 := hb9
      unfold f_X6_cover_b1 at hf
      refine lv_iload hx hb dX6_cover_27 (lv_at hl 4 rfl) ?_
      refine lv_iload_n hx hb dX6_cover_29 rfl (lv_at hl 3 rfl) ?_
      refine lv_icmp_ge (tgt := 81) hx hb dX6_cover_30 (by decide) (fun hc => ?_) (fun hc => ?_)
      · have hf := ifp hc hf
        obtain rfl := Option.some.inj hf
        exact hE27_81 x2_27 σ_27 _ _ _ (hX27 _ rfl) hP hS (lv_sub hl [1, 2] rfl)
      · have hf := ifn hc hf
        refine lv_iload_n hx hb dX6_cover_33 rfl (lv_at hl 2 rfl) ?_
        refine lv_bipush (v := (-4 : Int32)) hx hb dX6_cover_34 (by decide) ?_
        refine lv_icmp_eq (tgt := 51) hx hb dX6_cover_36 (by decide) (fun hc => ?_) (fun hc => ?_)
        · have hf := ifp hc hf
          refine lv_iconst (v := (1 : Int32)) hx hb dX6_cover_51 (by decide) ?_
          refine lv_goto (tgt := 56) hx hb dX6_cover_52 (by decide) ?_
          refine lv_istore (lv' := [(5, .int (1 : Int32)), (0, .ref (w.1 (0))), (1, .int a1), (2, .int x2_27), (3, .int ((1 : Int32) <<< (v19 &&& 31))), (4, .int x4_27)]) hx hb dX6_cover_56 hl (by decide) rfl (fun ls hl => ?_)
          refine lv_iload hx hb dX6_cover_58 (lv_at hl 0 rfl) ?_
          refine lv_if_eq (tgt := 75) hx hb dX6_cover_60 (by decide) (fun hc => absurd hc (by decide)) (fun _ => ?_)
          refine lv_aload_n hx hb dX6_cover_63 rfl (lv_at hl 1 rfl) ?_
          refine lv_iload hx hb dX6_cover_64 (lv_at hl 5 rfl) ?_
          obtain ⟨⟨v66, σ66⟩, h66, hf⟩ := bnd hf
          dsimp only at hf
          refine q_cVz (As := [.int x4_27]) hx hb hts hml hown hK hP hS (c_X6_isCover l D w σ_27 x4_27 v66 σ66 hJ h66) hw_X6_203 hd_X6_isCover ⟨rfl, rfl, rfl⟩ o0 (ce6 kd0) rfl ⟨Nat.le_of_ble_eq_true rfl, Nat.le_of_ble_eq_true rfl⟩ ⟨Nat.le_of_ble_eq_true rfl, Nat.le_of_ble_eq_true rfl⟩ hl.1 rfl (Nat.le_of_ble_eq_true rfl) dX6_cover_66 (fun hz66 H locs hP hS => ?_)
          refine lv_if_eq (tgt := 75) hx hb dX6_cover_69 (by decide) (fun hc => ?_) (fun hc => ?_)
          · have hf := ifp hc hf
            refine lv_iinc (v := (x4_27 + (1 : Int32))) (lv' := [(4, .int (x4_27 + (1 : Int32))), (5, .int (1 : Int32)), (0, .ref (w.1 (0))), (1, .int a1), (2, .int x2_27), (3, .int ((1 : Int32) <<< (v19 &&& 31)))]) hx hb dX6_cover_75 hl (k := 5) rfl ii_1 (by decide) rfl (fun ls hl => ?_)
            refine lv_goto (tgt := 27) hx hb dX6_cover_78 (by decide) ?_
            obtain rfl := Option.some.inj hf
            exact hG27 _ rfl _ _ _ hP hS (lv_sub hl [2, 3, 4, 5, 0] rfl)
          · have hf := ifn hc hf
            refine lv_iload hx hb dX6_cover_72 (lv_at hl 5 rfl) ?_
            refine lv_istore_n (lv' := [(2, .int x4_27), (5, .int (1 : Int32)), (0, .ref (w.1 (0))), (1, .int a1), (3, .int ((1 : Int32) <<< (v19 &&& 31))), (4, .int x4_27)]) hx hb dX6_cover_74 rfl hl (by decide) rfl (fun ls hl => ?_)
            refine lv_iinc (v := (x4_27 + (1 : Int32))) (lv' := [(4, .int (x4_27 + (1 : Int32))), (2, .int x4_27), (5, .int (1 : Int32)), (0, .ref (w.1 (0))), (1, .int a1), (3, .int ((1 : Int32) <<< (v19 &&& 31)))]) hx hb dX6_cover_75 hl (k := 5) rfl ii_1 (by decide) rfl (fun ls hl => ?_)
            refine lv_goto (tgt := 27) hx hb dX6_cover_78 (by decide) ?_
            obtain rfl := Option.some.inj hf
            exact hG27 _ rfl _ _ _ hP hS (lv_sub hl [3, 4, 1, 5, 0] rfl)
        · have hf := ifn hc hf
          refine lv_iload hx hb dX6_cover_39 (lv_at hl 4 rfl) ?_
          obtain ⟨v41, h41, hf⟩ := bnd hf
          refine q_cSi (As := [.int x4_27]) hx hb hts hml hown hK hP hS (c_J6_bitCount_0f7a4 l D w σ_27 x4_27 v41 h41) hw_X6_195 hd_J6_bitCount_0f7a4 ⟨rfl, rfl, rfl⟩ ⟨Nat.le_of_ble_eq_true rfl, Nat.le_of_ble_eq_true rfl⟩ ⟨Nat.le_of_ble_eq_true rfl, Nat.le_of_ble_eq_true rfl⟩ hl.1 rfl (Nat.le_of_ble_eq_true rfl) dX6_cover_41 (fun H locs hP hS => ?_)
          refine lv_iload_n hx hb dX6_cover_44 rfl (lv_at hl 2 rfl) ?_
          obtain ⟨v45, h45, hf⟩ := bnd hf
          refine q_cSi (As := [.int x2_27]) hx hb hts hml hown hK hP hS (c_J6_bitCount_0f7a4 l D w σ_27 x2_27 v45 h45) hw_X6_195 hd_J6_bitCount_0f7a4 ⟨rfl, rfl, rfl⟩ ⟨Nat.le_of_ble_eq_true rfl, Nat.le_of_ble_eq_true rfl⟩ ⟨Nat.le_of_ble_eq_true rfl, Nat.le_of_ble_eq_true rfl⟩ hl.1 rfl (Nat.le_of_ble_eq_true rfl) dX6_cover_45 (fun H locs hP hS => ?_)
          refine lv_icmp_ge (tgt := 55) hx hb dX6_cover_48 (by decide) (fun hc => ?_) (fun hc => ?_)
          · have hf := ifp hc hf
            refine lv_iconst (v := (0 : Int32)) hx hb dX6_cover_55 (by decide) ?_
            refine lv_istore (lv' := [(5, .int (0 : Int32)), (0, .ref (w.1 (0))), (1, .int a1), (2, .int x2_27), (3, .int ((1 : Int32) <<< (v19 &&& 31))), (4, .int x4_27)]) hx hb dX6_cover_56 hl (by decide) rfl (fun ls hl => ?_)
            refine lv_iload hx hb dX6_cover_58 (lv_at hl 0 rfl) ?_
            refine lv_if_eq (tgt := 75) hx hb dX6_cover_60 (by decide) (fun _ => ?_) (fun hc => absurd (by decide) hc)
            refine lv_iinc (v := (x4_27 + (1 : Int32))) (lv' := [(4, .int (x4_27 + (1 : Int32))), (5, .int (0 : Int32)), (0, .ref (w.1 (0))), (1, .int a1), (2, .int x2_27), (3, .int ((1 : Int32) <<< (v19 &&& 31)))]) hx hb dX6_cover_75 hl (k := 5) rfl ii_1 (by decide) rfl (fun ls hl => ?_)
            refine lv_goto (tgt := 27) hx hb dX6_cover_78 (by decide) ?_
            obtain rfl := Option.some.inj hf
            exact hG27 _ rfl _ _ _ hP hS (lv_sub hl [2, 3, 4, 5, 0] rfl)
          · have hf := ifn hc hf
            refine lv_iconst (v := (1 : Int32)) hx hb dX6_cover_51 (by decide) ?_
            refine lv_goto (tgt := 56) hx hb dX6_cover_52 (by decide) ?_
            refine lv_istore (lv' := [(5, .int (1 : Int32)), (0, .ref (w.1 (0))), (1, .int a1), (2, .int x2_27), (3, .int ((1 : Int32) <<< (v19 &&& 31))), (4, .int x4_27)]) hx hb dX6_cover_56 hl (by decide) rfl (fun ls hl => ?_)
            refine lv_iload hx hb dX6_cover_58 (lv_at hl 0 rfl) ?_
            refine lv_if_eq (tgt := 75) hx hb dX6_cover_60 (by decide) (fun hc => absurd hc (by decide)) (fun _ => ?_)
            refine lv_aload_n hx hb dX6_cover_63 rfl (lv_at hl 1 rfl) ?_
            refine lv_iload hx hb dX6_cover_64 (lv_at hl 5 rfl) ?_
            obtain ⟨⟨v66, σ66⟩, h66, hf⟩ := bnd hf
            dsimp only at hf
            refine q_cVz (As := [.int x4_27]) hx hb hts hml hown hK hP hS (c_X6_isCover l D w σ_27 x4_27 v66 σ66 hJ h66) hw_X6_203 hd_X6_isCover ⟨rfl, rfl, rfl⟩ o0 (ce6 kd0) rfl ⟨Nat.le_of_ble_eq_true rfl, Nat.le_of_ble_eq_true rfl⟩ ⟨Nat.le_of_ble_eq_true rfl, Nat.le_of_ble_eq_true rfl⟩ hl.1 rfl (Nat.le_of_ble_eq_true rfl) dX6_cover_66 (fun hz66 H locs hP hS => ?_)
            refine lv_if_eq (tgt := 75) hx hb dX6_cover_69 (by decide) (fun hc => ?_) (fun hc => ?_)
            · have hf := ifp hc hf
              refine lv_iinc (v := (x4_27 + (1 : Int32))) (lv' := [(4, .int (x4_27 + (1 : Int32))), (5, .int (1 : Int32)), (0, .ref (w.1 (0))), (1, .int a1), (2, .int x2_27), (3, .int ((1 : Int32) <<< (v19 &&& 31)))]) hx hb dX6_cover_75 hl (k := 5) rfl ii_1 (by decide) rfl (fun ls hl => ?_)
              refine lv_goto (tgt := 27) hx hb dX6_cover_78 (by decide) ?_
              obtain rfl := Option.some.inj hf
              exact hG27 _ rfl _ _ _ hP hS (lv_sub hl [2, 3, 4, 5, 0] rfl)
            · have hf := ifn hc hf
              refine lv_iload hx hb dX6_cover_72 (lv_at hl 5 rfl) ?_
              refine lv_istore_n (lv' := [(2, .int x4_27), (5, .int (1 : Int32)), (0, .ref (w.1 (0))), (1, .int a1), (3, .int ((1 : Int32) <<< (v19 &&& 31))), (4, .int x4_27)]) hx hb dX6_cover_74 rfl hl (by decide) rfl (fun ls hl => ?_)
              refine lv_iinc (v := (x4_27 + (1 : Int32))) (lv' := [(4, .int (x4_27 + (1 : Int32))), (2, .int x4_27), (5, .int (1 : Int32)), (0, .ref (w.1 (0))), (1, .int a1), (3, .int ((1 : Int32) <<< (v19 &&& 31)))]) hx hb dX6_cover_75 hl (k := 5) rfl ii_1 (by decide) rfl (fun ls hl => ?_)
              refine lv_goto (tgt := 27) hx hb dX6_cover_78 (by decide) ?_
              obtain rfl := Option.some.inj hf
              exact hG27 _ rfl _ _ _ hP hS (lv_sub hl [3, 4, 1, 5, 0] rfl)
    · have hf := ifn hc hf
      refine lv_iconst (v := (-1 : Int32)) hx hb dX6_cover_9 (by decide) ?_
      have hq := Option.some.inj hf
      exact q_iret hx hb hr hlk hP hS (congrArg Prod.fst hq) (congrArg Prod.snd hq) dX6_cover_10
def f_X6_far (σ : Sg) (a1 : Int32) (a2 : Int32) : Option Int32 :=
  (f_X5_isTown σ (6) a1).bind fun v5 =>
  if v5 = 0 then
  some (-1 : Int32)
  else
  (f_X5_isTown σ (6) a2).bind fun v16 =>
  if ¬ v16 = 0 then
  (f_X3_pathMiles σ (6 + 1) a1 a2).bind fun v33 =>
  some v33
  else
  some (-1 : Int32)
set_option maxHeartbeats 4000000 in
set_option maxRecDepth 100000 in
theorem c_X6_far (l : Launch) (D : va_G) (w : Wv) (σ : Sg) (a1 : Int32) (a2 : Int32) (r : Int32)  (hf : f_X6_far σ a1 a2 = some r) : Met l yX6_far (.code yX6_far cX6_far 3 (some .int) :: TB) (rmW 2 46) (pcW D w [.ref (w.1 (0)), .int a1, .int a2] σ) (qiW D w r σ) 0 0 (AL w) := by
  refine q_open (by decide +kernel) (Nat.le_of_ble_eq_true rfl) ?_
  intro p e s m args below meth c ls hx hb hml hr hlk hown hts hK hP hS hl
  have hown : s.vm.findClass RX6 = some m.cls := hown
  have hl : lv_has ls 3 [(0, .ref (w.1 (0))), (1, .int a1), (2, .int a2)] := hl
  unfold f_X6_far at hf
  refine lv_aload_n hx hb dX6_far_0 rfl (lv_at hl 0 rfl) ?_
  refine gt_X6_19 hx hb hts hown hK hP dX6_far_1 ?_
  refine lv_iload_n hx hb dX6_far_4 rfl (lv_at hl 1 rfl) ?_
  obtain ⟨v5, h5, hf⟩ := bnd hf
  refine q_cVz (As := [.int a1]) hx hb hts hml hown hK hP hS (c_X5_isTown l D w σ (6) a1 v5 isY6 h5) hw_X6_114 hd_X5_isTown ⟨rfl, rfl, rfl⟩ isY6.o (ce5 isY6.k) rfl ⟨Nat.le_of_ble_eq_true rfl, Nat.le_of_ble_eq_true rfl⟩ ⟨Nat.le_of_ble_eq_true rfl, Nat.le_of_ble_eq_true rfl⟩ hl.1 rfl (Nat.le_of_ble_eq_true rfl) dX6_far_5 (fun hz5 H locs hP hS => ?_)
  refine lv_if_eq (tgt := 22) hx hb dX6_far_8 (by decide) (fun hc => ?_) (fun hc => ?_)
  · have hf := ifp hc hf
    refine lv_iconst (v := (-1 : Int32)) hx hb dX6_far_22 (by decide) ?_
    have hq := Option.some.inj hf
    exact q_iret hx hb hr hlk hP hS hq rfl dX6_far_23
  · have hf := ifn hc hf
    refine lv_aload_n hx hb dX6_far_11 rfl (lv_at hl 0 rfl) ?_
    refine gt_X6_19 hx hb hts hown hK hP dX6_far_12 ?_
    refine lv_iload_n hx hb dX6_far_15 rfl (lv_at hl 2 rfl) ?_
    obtain ⟨v16, h16, hf⟩ := bnd hf
    refine q_cVz (As := [.int a2]) hx hb hts hml hown hK hP hS (c_X5_isTown l D w σ (6) a2 v16 isY6 h16) hw_X6_114 hd_X5_isTown ⟨rfl, rfl, rfl⟩ isY6.o (ce5 isY6.k) rfl ⟨Nat.le_of_ble_eq_true rfl, Nat.le_of_ble_eq_true rfl⟩ ⟨Nat.le_of_ble_eq_true rfl, Nat.le_of_ble_eq_true rfl⟩ hl.1 rfl (Nat.le_of_ble_eq_true rfl) dX6_far_16 (fun hz16 H locs hP hS => ?_)
    refine lv_if_ne (tgt := 24) hx hb dX6_far_19 (by decide) (fun hc => ?_) (fun hc => ?_)
    · have hf := ifp hc hf
      refine lv_aload_n hx hb dX6_far_24 rfl (lv_at hl 0 rfl) ?_
      refine gt_X6_19 hx hb hts hown hK hP dX6_far_25 ?_
      refine q_cVr (As := []) hx hb hts hml hown hK hP hS (c_X5_roads l D w σ (6) isY6) hw_X6_91 hd_X5_roads ⟨rfl, rfl, rfl⟩ isY6.o (ce5 isY6.k) rfl ⟨Nat.le_of_ble_eq_true rfl, Nat.le_of_ble_eq_true rfl⟩ ⟨Nat.le_of_ble_eq_true rfl, Nat.le_of_ble_eq_true rfl⟩ hl.1 rfl (Nat.le_of_ble_eq_true rfl) dX6_far_28 (fun H locs hP hS => ?_)
      refine lv_iload_n hx hb dX6_far_31 rfl (lv_at hl 1 rfl) ?_
      refine lv_iload_n hx hb dX6_far_32 rfl (lv_at hl 2 rfl) ?_
      obtain ⟨v33, h33, hf⟩ := bnd hf
      refine q_cVi (As := [.int a1, .int a2]) hx hb hts hml hown hK hP hS (c_X3_pathMiles l D w σ (6 + 1) a1 a2 v33 isY6.f0 h33) hw_X6_209 hd_X3_pathMiles ⟨rfl, rfl, rfl⟩ isY6.f0.o (ce3 isY6.f0.k) rfl ⟨Nat.le_of_ble_eq_true rfl, Nat.le_of_ble_eq_true rfl⟩ ⟨Nat.le_of_ble_eq_true rfl, Nat.le_of_ble_eq_true rfl⟩ hl.1 rfl (Nat.le_of_ble_eq_true rfl) dX6_far_33 (fun H locs hP hS => ?_)
      have hq := Option.some.inj hf
      exact q_iret hx hb hr hlk hP hS hq rfl dX6_far_36
    · have hf := ifn (fun h => h hc) hf
      refine lv_iconst (v := (-1 : Int32)) hx hb dX6_far_22 (by decide) ?_
      have hq := Option.some.inj hf
      exact q_iret hx hb hr hlk hP hS hq rfl dX6_far_23
def f_X6_told (σ : Sg) (a1 : Int32) (a2 : Int32) (a3 : Int32) : Option (Int32 × Sg) :=
  (f_X5_isTown σ (6) a1).bind fun v5 =>
  if v5 = 0 then
  some ((-1 : Int32), σ)
  else
  (f_X5_isTown σ (6) a2).bind fun v16 =>
  if v16 = 0 then
  some ((-1 : Int32), σ)
  else
  if a3 < 0 then
  some ((-1 : Int32), σ)
  else
  if a3 ≤ (72 : Int32) then
  (f_X2_add σ (178) a1 a2 a3).bind fun q41 =>
  some (q41.1, q41.2)
  else
  some ((-1 : Int32), σ)
set_option maxHeartbeats 4000000 in
set_option maxRecDepth 100000 in
theorem c_X6_told (l : Launch) (D : va_G) (w : Wv) (σ : Sg) (a1 : Int32) (a2 : Int32) (a3 : Int32) (r : Int32) (σ' : Sg)  (hJ : Inj w) (hf : f_X6_told σ a1 a2 a3 = some (r, σ')) : Met l yX6_told (.code yX6_told cX6_told 4 (some .int) :: TB) (rmW 2 47) (pcW D w [.ref (w.1 (0)), .int a1, .int a2, .int a3] σ) (qiW D w r σ') 0 0 (AL w) := by
  refine q_open (by decide +kernel) (Nat.le_of_ble_eq_true rfl) ?_
  intro p e s m args below meth c ls hx hb hml hr hlk hown hts hK hP hS hl
  have hown : s.vm.findClass RX6 = some m.cls := hown
  have hl : lv_has ls 4 [(0, .ref (w.1 (0))), (1, .int a1), (2, .int a2), (3, .int a3)] := hl
  unfold f_X6_told at hf
  refine lv_aload_n hx hb dX6_told_0 rfl (lv_at hl 0 rfl) ?_
  refine gt_X6_19 hx hb hts hown hK hP dX6_told_1 ?_
  refine lv_iload_n hx hb dX6_told_4 rfl (lv_at hl 1 rfl) ?_
  obtain ⟨v5, h5, hf⟩ := bnd hf
  refine q_cVz (As := [.int a1]) hx hb hts hml hown hK hP hS (c_X5_isTown l D w σ (6) a1 v5 isY6 h5) hw_X6_114 hd_X5_isTown ⟨rfl, rfl, rfl⟩ isY6.o (ce5 isY6.k) rfl ⟨Nat.le_of_ble_eq_true rfl, Nat.le_of_ble_eq_true rfl⟩ ⟨Nat.le_of_ble_eq_true rfl, Nat.le_of_ble_eq_true rfl⟩ hl.1 rfl (Nat.le_of_ble_eq_true rfl) dX6_told_5 (fun hz5 H locs hP hS => ?_)
  refine lv_if_eq (tgt := 32) hx hb dX6_told_8 (by decide) (fun hc => ?_) (fun hc => ?_)
  · have hf := ifp hc hf
    refine lv_iconst (v := (-1 : Int32)) hx hb dX6_told_32 (by decide) ?_
    have hq := Option.some.inj hf
    exact q_iret hx hb hr hlk hP hS (congrArg Prod.fst hq) (congrArg Prod.snd hq) dX6_told_33
  · have hf := ifn hc hf
    refine lv_aload_n hx hb dX6_told_11 rfl (lv_at hl 0 rfl) ?_
    refine gt_X6_19 hx hb hts hown hK hP dX6_told_12 ?_
    refine lv_iload_n hx hb dX6_told_15 rfl (lv_at hl 2 rfl) ?_
    obtain ⟨v16, h16, hf⟩ := bnd hf
    refine q_cVz (As := [.int a2]) hx hb hts hml hown hK hP hS (c_X5_isTown l D w σ (6) a2 v16 isY6 h16) hw_X6_114 hd_X5_isTown ⟨rfl, rfl, rfl⟩ isY6.o (ce5 isY6.k) rfl ⟨Nat.le_of_ble_eq_true rfl, Nat.le_of_ble_eq_true rfl⟩ ⟨Nat.le_of_ble_eq_true rfl, Nat.le_of_ble_eq_true rfl⟩ hl.1 rfl (Nat.le_of_ble_eq_true rfl) dX6_told_16 (fun hz16 H locs hP hS => ?_)
    refine lv_if_eq (tgt := 32) hx hb dX6_told_19 (by decide) (fun hc => ?_) (fun hc => ?_)
    · have hf := ifp hc hf
      refine lv_iconst (v := (-1 : Int32)) hx hb dX6_told_32 (by decide) ?_
      have hq := Option.some.inj hf
      exact q_iret hx hb hr hlk hP hS (congrArg Prod.fst hq) (congrArg Prod.snd hq) dX6_told_33
    · have hf := ifn hc hf
      refine lv_iload_n hx hb dX6_told_22 rfl (lv_at hl 3 rfl) ?_
      refine lv_if_lt (tgt := 32) hx hb dX6_told_23 (by decide) (fun hc => ?_) (fun hc => ?_)
      · have hf := ifp hc hf
        refine lv_iconst (v := (-1 : Int32)) hx hb dX6_told_32 (by decide) ?_
        have hq := Option.some.inj hf
        exact q_iret hx hb hr hlk hP hS (congrArg Prod.fst hq) (congrArg Prod.snd hq) dX6_told_33
      · have hf := ifn hc hf
        refine lv_iload_n hx hb dX6_told_26 rfl (lv_at hl 3 rfl) ?_
        refine lv_bipush (v := (72 : Int32)) hx hb dX6_told_27 (by decide) ?_
        refine lv_icmp_le (tgt := 34) hx hb dX6_told_29 (by decide) (fun hc => ?_) (fun hc => ?_)
        · have hf := ifp hc hf
          refine lv_aload_n hx hb dX6_told_34 rfl (lv_at hl 0 rfl) ?_
          refine gt_X6_41 hx hb hts hown hK hP dX6_told_35 ?_
          refine lv_iload_n hx hb dX6_told_38 rfl (lv_at hl 1 rfl) ?_
          refine lv_iload_n hx hb dX6_told_39 rfl (lv_at hl 2 rfl) ?_
          refine lv_iload_n hx hb dX6_told_40 rfl (lv_at hl 3 rfl) ?_
          obtain ⟨⟨v41, σ41⟩, h41, hf⟩ := bnd hf
          dsimp only at hf
          refine q_cVi (As := [.int a1, .int a2, .int a3]) hx hb hts hml hown hK hP hS (c_X2_add l D w σ (178) a1 a2 a3 v41 σ41 isN178 hJ h41) hw_X6_212 hd_X2_add ⟨rfl, rfl, rfl⟩ isN178.o (ce2 isN178.k) rfl ⟨Nat.le_of_ble_eq_true rfl, Nat.le_of_ble_eq_true rfl⟩ ⟨Nat.le_of_ble_eq_true rfl, Nat.le_of_ble_eq_true rfl⟩ hl.1 rfl (Nat.le_of_ble_eq_true rfl) dX6_told_41 (fun H locs hP hS => ?_)
          have hq := Option.some.inj hf
          exact q_iret hx hb hr hlk hP hS (congrArg Prod.fst hq) (congrArg Prod.snd hq) dX6_told_44
        · have hf := ifn hc hf
          refine lv_iconst (v := (-1 : Int32)) hx hb dX6_told_32 (by decide) ?_
          have hq := Option.some.inj hf
          exact q_iret hx hb hr hlk hP hS (congrArg Prod.fst hq) (congrArg Prod.snd hq) dX6_told_33
def f_X6_tellsAll_b1 (σ : Sg) (a1 : Int32) (x3_10 : Int32) : Option (Int32 ⊕ (Unit ⊕ Unit)) :=
  (f_X2_held σ (178)).bind fun v15 =>
  if v15 ≤ x3_10 then
  some (.inr (.inr ()))
  else
  (f_X2_number σ (178) x3_10 (0 : Int32)).bind fun v27 =>
  (f_X3_firstStep σ (6 + 1) a1 v27).bind fun v36 =>
  (f_X2_number σ (178) x3_10 (1 : Int32)).bind fun v45 =>
  if ¬ v36 = v45 then
  some (.inr (.inl ()))
  else
  (f_X3_pathMiles σ (6 + 1) a1 v27).bind fun v67 =>
  (f_X2_number σ (178) x3_10 (2 : Int32)).bind fun v76 =>
  if v67 = v76 then
  some (.inl (x3_10 + (1 : Int32)))
  else
  some (.inr (.inl ()))
def f_X6_tellsAll_k1 (_u : Unit) : Option Int32 :=
  some (0 : Int32)
def f_X6_tellsAll_k2 (_u : Unit) : Option Int32 :=
  some (1 : Int32)
def f_X6_tellsAll (σ : Sg) (a1 : Int32) : Option Int32 :=
  (lp (fun st => f_X6_tellsAll_b1 σ a1 st) FU (0 : Int32)).bind fun rr => Sum.elim (fun q => f_X6_tellsAll_k1 ()) (fun q => f_X6_tellsAll_k2 ()) rr
set_option maxHeartbeats 4000000 in
set_option maxRecDepth 100000 in
theorem c_X6_tellsAll (l : Launch) (D : va_G) (w : Wv) (σ : Sg) (a1 : Int32) (r : Int32)  (hf : f_X6_tellsAll σ a1 = some r) : Met l yX6_tellsAll (.code yX6_tellsAll cX6_tellsAll 6 (some .boolean) :: TB) (rmW 2 50) (pcW D w [.ref (w.1 (0)), .int a1] σ) (qzW D w r σ) 0 0 (AL w) := by
  refine q_open (by decide +kernel) (Nat.le_of_ble_eq_true rfl) ?_
  intro p e s m args below meth c ls hx hb hml hr hlk hown hts hK hP hS hl
  have hown : s.vm.findClass RX6 = some m.cls := hown
  have hl : lv_has ls 6 [(0, .ref (w.1 (0))), (1, .int a1)] := hl
  unfold f_X6_tellsAll at hf
  refine lv_aload_n hx hb dX6_tellsAll_0 rfl (lv_at hl 0 rfl) ?_
  refine gt_X6_19 hx hb hts hown hK hP dX6_tellsAll_1 ?_
  refine q_cVr (As := []) hx hb hts hml hown hK hP hS (c_X5_roads l D w σ (6) isY6) hw_X6_91 hd_X5_roads ⟨rfl, rfl, rfl⟩ isY6.o (ce5 isY6.k) rfl ⟨Nat.le_of_ble_eq_true rfl, Nat.le_of_ble_eq_true rfl⟩ ⟨Nat.le_of_ble_eq_true rfl, Nat.le_of_ble_eq_true rfl⟩ hl.1 rfl (Nat.le_of_ble_eq_true rfl) dX6_tellsAll_4 (fun H locs hP hS => ?_)
  refine lv_astore_n (lv' := [(2, .ref (w.1 (6 + 1))), (0, .ref (w.1 (0))), (1, .int a1)]) hx hb dX6_tellsAll_7 rfl hl (by decide) rfl (fun ls hl => ?_)
  refine lv_iconst (v := (0 : Int32)) hx hb dX6_tellsAll_8 (by decide) ?_
  refine lv_istore_n (lv' := [(3, .int (0 : Int32)), (2, .ref (w.1 (6 + 1))), (0, .ref (w.1 (0))), (1, .int a1)]) hx hb dX6_tellsAll_9 rfl hl (by decide) rfl (fun ls hl => ?_)
  obtain ⟨rr, hlp, hf⟩ := bnd hf
  have hE10_82 : ∀  (H : Heap) (locs : List Loc) (ls : Array Slot), f_X6_tellsAll_k1 () = some r → va_P D vwCl (WL w σ) H → va_S (AL w) s.heap H locs → lv_has ls 6 [] → W p l e (rmW 2 50) s m args below meth c H locs 0 0 (MQ below (qzW D w r σ) args s 0 0 (AL w)) (F0 m 82 ls []) := by
    intro  H locs ls hf hP hS hl
    unfold f_X6_tellsAll_k1 at hf
    refine lv_iconst (v := (0 : Int32)) hx hb dX6_tellsAll_82 (by decide) ?_
    have hq := Option.some.inj hf
    exact q_zret hx hb hr hlk hP hS rfl hq rfl dX6_tellsAll_83
  have hE10_90 : ∀  (H : Heap) (locs : List Loc) (ls : Array Slot), f_X6_tellsAll_k2 () = some r → va_P D vwCl (WL w σ) H → va_S (AL w) s.heap H locs → lv_has ls 6 [] → W p l e (rmW 2 50) s m args below meth c H locs 0 0 (MQ below (qzW D w r σ) args s 0 0 (AL w)) (F0 m 90 ls []) := by
    intro  H locs ls hf hP hS hl
    unfold f_X6_tellsAll_k2 at hf
    refine lv_iconst (v := (1 : Int32)) hx hb dX6_tellsAll_90 (by decide) ?_
    have hq := Option.some.inj hf
    exact q_zret hx hb hr hlk hP hS rfl hq rfl dX6_tellsAll_91
  refine useP (lp_ind (S := Int32) (R := (Unit ⊕ Unit)) (b := fun st => f_X6_tellsAll_b1 σ a1 st) (G := fun (st : Int32) => ∀ (H : Heap) (locs : List Loc) (ls : Array Slot), va_P D vwCl (WL w σ) H → va_S (AL w) s.heap H locs → lv_has ls 6 [(0, .ref (w.1 (0))), (1, .int a1), (2, .ref (w.1 (6 + 1))), (3, .int st)] → W p l e (rmW 2 50) s m args below meth c H locs 0 0 (MQ below (qzW D w r σ) args s 0 0 (AL w)) (F0 m 10 ls [])) (X := fun rr => Sum.elim (fun q => f_X6_tellsAll_k1 ()) (fun q => f_X6_tellsAll_k2 ()) rr = some r) ?_ FU (0 : Int32) rr hlp hf) (fun hGo => hGo _ _ _ hP hS (lv_sub hl [2, 3, 1, 0] rfl))
  intro x3_10 oo10 hb9 hG10 hX10 H locs ls hP hS hl
  have hP : va_P D vwCl (WL w σ) H := hP
  have hl : lv_has ls 6 [(0, .ref (w.1 (0))), (1, .int a1), (2, .ref (w.1 (6 + 1))), (3, .int x3_10)] := hl
  have hf : f_X6_tellsAll_b1 σ a1 x3_10 = some oo10 := hb9
  unfold f_X6_tellsAll_b1 at hf
  refine lv_iload_n hx hb dX6_tellsAll_10 rfl (lv_at hl 3 rfl) ?_
  refine lv_aload_n hx hb dX6_tellsAll_11 rfl (lv_at hl 0 rfl) ?_
  refine gt_X6_41 hx hb hts hown hK hP dX6_tellsAll_12 ?_
  obtain ⟨v15, h15, hf⟩ := bnd hf
  refine q_cVi (As := []) hx hb hts hml hown hK hP hS (c_X2_held l D w σ (178) v15 isN178 h15) hw_X6_219 hd_X2_held ⟨rfl, rfl, rfl⟩ isN178.o (ce2 isN178.k) rfl ⟨Nat.le_of_ble_eq_true rfl, Nat.le_of_ble_eq_true rfl⟩ ⟨Nat.le_of_ble_eq_true rfl, Nat.le_of_ble_eq_true rfl⟩ hl.1 rfl (Nat.le_of_ble_eq_true rfl) dX6_tellsAll_15 (fun H locs hP hS => ?_)
  refine lv_icmp_ge (tgt := 90) hx hb dX6_tellsAll_18 (by decide) (fun hc => ?_) (fun hc => ?_)
  · have hf := ifp hc hf
    obtain rfl := Option.some.inj hf
    exact hE10_90  _ _ _ (hX10 _ rfl) hP hS (lv_sub hl [] rfl)
  · have hf := ifn hc hf
    refine lv_aload_n hx hb dX6_tellsAll_21 rfl (lv_at hl 0 rfl) ?_
    refine gt_X6_41 hx hb hts hown hK hP dX6_tellsAll_22 ?_
    refine lv_iload_n hx hb dX6_tellsAll_25 rfl (lv_at hl 3 rfl) ?_
    refine lv_iconst (v := (0 : Int32)) hx hb dX6_tellsAll_26 (by decide) ?_
    obtain ⟨v27, h27, hf⟩ := bnd hf
    refine q_cVi (As := [.int x3_10, .int (0 : Int32)]) hx hb hts hml hown hK hP hS (c_X2_number l D w σ (178) x3_10 (0 : Int32) v27 isN178 h27) hw_X6_220 hd_X2_number ⟨rfl, rfl, rfl⟩ isN178.o (ce2 isN178.k) rfl ⟨Nat.le_of_ble_eq_true rfl, Nat.le_of_ble_eq_true rfl⟩ ⟨Nat.le_of_ble_eq_true rfl, Nat.le_of_ble_eq_true rfl⟩ hl.1 rfl (Nat.le_of_ble_eq_true rfl) dX6_tellsAll_27 (fun H locs hP hS => ?_)
    refine lv_istore (lv' := [(4, .int v27), (0, .ref (w.1 (0))), (1, .int a1), (2, .ref (w.1 (6 + 1))), (3, .int x3_10)]) hx hb dX6_tellsAll_30 hl (by decide) rfl (fun ls hl => ?_)
    refine lv_aload_n hx hb dX6_tellsAll_32 rfl (lv_at hl 3 rfl) ?_
    refine lv_iload_n hx hb dX6_tellsAll_33 rfl (lv_at hl 2 rfl) ?_
    refine lv_iload hx hb dX6_tellsAll_34 (lv_at hl 0 rfl) ?_
    obtain ⟨v36, h36, hf⟩ := bnd hf
    refine q_cVi (As := [.int a1, .int v27]) hx hb hts hml hown hK hP hS (c_X3_firstStep l D w σ (6 + 1) a1 v27 v36 isY6.f0 h36) hw_X6_223 hd_X3_firstStep ⟨rfl, rfl, rfl⟩ isY6.f0.o (ce3 isY6.f0.k) rfl ⟨Nat.le_of_ble_eq_true rfl, Nat.le_of_ble_eq_true rfl⟩ ⟨Nat.le_of_ble_eq_true rfl, Nat.le_of_ble_eq_true rfl⟩ hl.1 rfl (Nat.le_of_ble_eq_true rfl) dX6_tellsAll_36 (fun H locs hP hS => ?_)
    refine lv_aload_n hx hb dX6_tellsAll_39 rfl (lv_at hl 1 rfl) ?_
    refine gt_X6_41 hx hb hts hown hK hP dX6_tellsAll_40 ?_
    refine lv_iload_n hx hb dX6_tellsAll_43 rfl (lv_at hl 4 rfl) ?_
    refine lv_iconst (v := (1 : Int32)) hx hb dX6_tellsAll_44 (by decide) ?_
    obtain ⟨v45, h45, hf⟩ := bnd hf
    refine q_cVi (As := [.int x3_10, .int (1 : Int32)]) hx hb hts hml hown hK hP hS (c_X2_number l D w σ (178) x3_10 (1 : Int32) v45 isN178 h45) hw_X6_220 hd_X2_number ⟨rfl, rfl, rfl⟩ isN178.o (ce2 isN178.k) rfl ⟨Nat.le_of_ble_eq_true rfl, Nat.le_of_ble_eq_true rfl⟩ ⟨Nat.le_of_ble_eq_true rfl, Nat.le_of_ble_eq_true rfl⟩ hl.1 rfl (Nat.le_of_ble_eq_true rfl) dX6_tellsAll_45 (fun H locs hP hS => ?_)
    refine lv_icmp_ne (tgt := 55) hx hb dX6_tellsAll_48 (by decide) (fun hc => ?_) (fun hc => ?_)
    · have hf := ifp hc hf
      refine lv_iconst (v := (0 : Int32)) hx hb dX6_tellsAll_55 (by decide) ?_
      refine lv_istore (lv' := [(5, .int (0 : Int32)), (4, .int v27), (0, .ref (w.1 (0))), (1, .int a1), (2, .ref (w.1 (6 + 1))), (3, .int x3_10)]) hx hb dX6_tellsAll_56 hl (by decide) rfl (fun ls hl => ?_)
      refine lv_iload hx hb dX6_tellsAll_58 (lv_at hl 0 rfl) ?_
      refine lv_if_eq (tgt := 82) hx hb dX6_tellsAll_60 (by decide) (fun _ => ?_) (fun hc => absurd (by decide) hc)
      obtain rfl := Option.some.inj hf
      exact hE10_82  _ _ _ (hX10 _ rfl) hP hS (lv_sub hl [] rfl)
    · have hf := ifn (fun h => h hc) hf
      refine lv_iconst (v := (1 : Int32)) hx hb dX6_tellsAll_51 (by decide) ?_
      refine lv_goto (tgt := 56) hx hb dX6_tellsAll_52 (by decide) ?_
      refine lv_istore (lv' := [(5, .int (1 : Int32)), (4, .int v27), (0, .ref (w.1 (0))), (1, .int a1), (2, .ref (w.1 (6 + 1))), (3, .int x3_10)]) hx hb dX6_tellsAll_56 hl (by decide) rfl (fun ls hl => ?_)
      refine lv_iload hx hb dX6_tellsAll_58 (lv_at hl 0 rfl) ?_
      refine lv_if_eq (tgt := 82) hx hb dX6_tellsAll_60 (by decide) (fun hc => absurd hc (by decide)) (fun _ => ?_)
      refine lv_aload_n hx hb dX6_tellsAll_63 rfl (lv_at hl 4 rfl) ?_
      refine lv_iload_n hx hb dX6_tellsAll_64 rfl (lv_at hl 3 rfl) ?_
      refine lv_iload hx hb dX6_tellsAll_65 (lv_at hl 1 rfl) ?_
      obtain ⟨v67, h67, hf⟩ := bnd hf
      refine q_cVi (As := [.int a1, .int v27]) hx hb hts hml hown hK hP hS (c_X3_pathMiles l D w σ (6 + 1) a1 v27 v67 isY6.f0 h67) hw_X6_209 hd_X3_pathMiles ⟨rfl, rfl, rfl⟩ isY6.f0.o (ce3 isY6.f0.k) rfl ⟨Nat.le_of_ble_eq_true rfl, Nat.le_of_ble_eq_true rfl⟩ ⟨Nat.le_of_ble_eq_true rfl, Nat.le_of_ble_eq_true rfl⟩ hl.1 rfl (Nat.le_of_ble_eq_true rfl) dX6_tellsAll_67 (fun H locs hP hS => ?_)
      refine lv_aload_n hx hb dX6_tellsAll_70 rfl (lv_at hl 2 rfl) ?_
      refine gt_X6_41 hx hb hts hown hK hP dX6_tellsAll_71 ?_
      refine lv_iload_n hx hb dX6_tellsAll_74 rfl (lv_at hl 5 rfl) ?_
      refine lv_iconst (v := (2 : Int32)) hx hb dX6_tellsAll_75 (by decide) ?_
      obtain ⟨v76, h76, hf⟩ := bnd hf
      refine q_cVi (As := [.int x3_10, .int (2 : Int32)]) hx hb hts hml hown hK hP hS (c_X2_number l D w σ (178) x3_10 (2 : Int32) v76 isN178 h76) hw_X6_220 hd_X2_number ⟨rfl, rfl, rfl⟩ isN178.o (ce2 isN178.k) rfl ⟨Nat.le_of_ble_eq_true rfl, Nat.le_of_ble_eq_true rfl⟩ ⟨Nat.le_of_ble_eq_true rfl, Nat.le_of_ble_eq_true rfl⟩ hl.1 rfl (Nat.le_of_ble_eq_true rfl) dX6_tellsAll_76 (fun H locs hP hS => ?_)
      refine lv_icmp_eq (tgt := 84) hx hb dX6_tellsAll_79 (by decide) (fun hc => ?_) (fun hc => ?_)
      · have hf := ifp hc hf
        refine lv_iinc (v := (x3_10 + (1 : Int32))) (lv' := [(3, .int (x3_10 + (1 : Int32))), (5, .int (1 : Int32)), (4, .int v27), (0, .ref (w.1 (0))), (1, .int a1), (2, .ref (w.1 (6 + 1)))]) hx hb dX6_tellsAll_84 hl (k := 5) rfl ii_1 (by decide) rfl (fun ls hl => ?_)
        refine lv_goto (tgt := 10) hx hb dX6_tellsAll_87 (by decide) ?_
        obtain rfl := Option.some.inj hf
        exact hG10 _ rfl _ _ _ hP hS (lv_sub hl [3, 4, 5, 0] rfl)
      · have hf := ifn hc hf
        obtain rfl := Option.some.inj hf
        exact hE10_82  _ _ _ (hX10 _ rfl) hP hS (lv_sub hl [] rfl)
def f_X6_stood_b1 (σ : Sg) (x1_4 : Int32) (x2_4 : Int32) : Option ((Int32 × Int32) ⊕ Int32) :=
  (f_X5_towns σ (6)).bind fun v9 =>
  if v9 ≤ x2_4 then
  some (.inr x1_4)
  else
  (f_X6_tellsAll σ x2_4).bind fun v17 =>
  if v17 = 0 then
  some (.inl (x1_4, (x2_4 + (1 : Int32))))
  else
  some (.inl ((x1_4 ||| ((1 : Int32) <<< (x2_4 &&& 31))), (x2_4 + (1 : Int32))))
def f_X6_stood_k1 (y1_35 : Int32) : Option Int32 :=
  some y1_35
def f_X6_stood (σ : Sg)  : Option Int32 :=
  (lp (fun st => f_X6_stood_b1 σ st.1 st.2) FU ((0 : Int32), (0 : Int32))).bind fun rr => f_X6_stood_k1 rr
set_option maxHeartbeats 4000000 in
set_option maxRecDepth 100000 in
theorem c_X6_stood (l : Launch) (D : va_G) (w : Wv) (σ : Sg)  (r : Int32)  (hf : f_X6_stood σ = some r) : Met l yX6_stood (.code yX6_stood cX6_stood 3 (some .int) :: TB) (rmW 3 75) (pcW D w [.ref (w.1 (0))] σ) (qiW D w r σ) 0 0 (AL w) := by
  refine q_open (by decide +kernel) (Nat.le_of_ble_eq_true rfl) ?_
  intro p e s m args below meth c ls hx hb hml hr hlk hown hts hK hP hS hl
  have hown : s.vm.findClass RX6 = some m.cls := hown
  have hl : lv_has ls 3 [(0, .ref (w.1 (0)))] := hl
  unfold f_X6_stood at hf
  refine lv_iconst (v := (0 : Int32)) hx hb dX6_stood_0 (by decide) ?_
  refine lv_istore_n (lv' := [(1, .int (0 : Int32)), (0, .ref (w.1 (0)))]) hx hb dX6_stood_1 rfl hl (by decide) rfl (fun ls hl => ?_)
  refine lv_iconst (v := (0 : Int32)) hx hb dX6_stood_2 (by decide) ?_
  refine lv_istore_n (lv' := [(2, .int (0 : Int32)), (1, .int (0 : Int32)), (0, .ref (w.1 (0)))]) hx hb dX6_stood_3 rfl hl (by decide) rfl (fun ls hl => ?_)
  obtain ⟨rr, hlp, hf⟩ := bnd hf
  have hE4_35 : ∀ (y1_35 : Int32) (H : Heap) (locs : List Loc) (ls : Array Slot), f_X6_stood_k1 y1_35 = some r → va_P D vwCl (WL w σ) H → va_S (AL w) s.heap H locs → lv_has ls 3 [(1, .int y1_35)] → W p l e (rmW 3 75) s m args below meth c H locs 0 0 (MQ below (qiW D w r σ) args s 0 0 (AL w)) (F0 m 35 ls []) := by
    intro y1_35 H locs ls hf hP hS hl
    unfold f_X6_stood_k1 at hf
    refine lv_iload_n hx hb dX6_stood_35 rfl (lv_at hl 0 rfl) ?_
    have hq := Option.some.inj hf
    exact q_iret hx hb hr hlk hP hS hq rfl dX6_stood_36
  refine useP (lp_ind (S := (Int32 × Int32)) (R := Int32) (b := fun st => f_X6_stood_b1 σ st.1 st.2) (G := fun (st : (Int32 × Int32)) => ∀ (H : Heap) (locs : List Loc) (ls : Array Slot), va_P D vwCl (WL w σ) H → va_S (AL w) s.heap H locs → lv_has ls 3 [(0, .ref (w.1 (0))), (1, .int st.1), (2, .int st.2)] → W p l e (rmW 3 75) s m args below meth c H locs 0 0 (MQ below (qiW D w r σ) args s 0 0 (AL w)) (F0 m 4 ls [])) (X := fun rr => f_X6_stood_k1 rr = some r) ?_ FU ((0 : Int32), (0 : Int32)) rr hlp hf) (fun hGo => hGo _ _ _ hP hS (lv_sub hl [2, 1, 0] rfl))
  rintro ⟨x1_4, x2_4⟩ oo4 hb9 hG4 hX4 H locs ls hP hS hl
  have hP : va_P D vwCl (WL w σ) H := hP
  have hl : lv_has ls 3 [(0, .ref (w.1 (0))), (1, .int x1_4), (2, .int x2_4)] := hl
  have hf : f_X6_stood_b1 σ x1_4 x2_4 = some oo4 := hb9
  unfold f_X6_stood_b1 at hf
  refine lv_iload_n hx hb dX6_stood_4 rfl (lv_at hl 2 rfl) ?_
  refine lv_aload_n hx hb dX6_stood_5 rfl (lv_at hl 0 rfl) ?_
  refine gt_X6_19 hx hb hts hown hK hP dX6_stood_6 ?_
  obtain ⟨v9, h9, hf⟩ := bnd hf
  refine q_cVi (As := []) hx hb hts hml hown hK hP hS (c_X5_towns l D w σ (6) v9 isY6 h9) hw_X6_174 hd_X5_towns ⟨rfl, rfl, rfl⟩ isY6.o (ce5 isY6.k) rfl ⟨Nat.le_of_ble_eq_true rfl, Nat.le_of_ble_eq_true rfl⟩ ⟨Nat.le_of_ble_eq_true rfl, Nat.le_of_ble_eq_true rfl⟩ hl.1 rfl (Nat.le_of_ble_eq_true rfl) dX6_stood_9 (fun H locs hP hS => ?_)
  refine lv_icmp_ge (tgt := 35) hx hb dX6_stood_12 (by decide) (fun hc => ?_) (fun hc => ?_)
  · have hf := ifp hc hf
    obtain rfl := Option.some.inj hf
    exact hE4_35 x1_4 _ _ _ (hX4 _ rfl) hP hS (lv_sub hl [1] rfl)
  · have hf := ifn hc hf
    refine lv_aload_n hx hb dX6_stood_15 rfl (lv_at hl 0 rfl) ?_
    refine lv_iload_n hx hb dX6_stood_16 rfl (lv_at hl 2 rfl) ?_
    obtain ⟨v17, h17, hf⟩ := bnd hf
    refine q_cVz (As := [.int x2_4]) hx hb hts hml hown hK hP hS (c_X6_tellsAll l D w σ x2_4 v17 h17) hw_X6_216 hd_X6_tellsAll ⟨rfl, rfl, rfl⟩ o0 (ce6 kd0) rfl ⟨Nat.le_of_ble_eq_true rfl, Nat.le_of_ble_eq_true rfl⟩ ⟨Nat.le_of_ble_eq_true rfl, Nat.le_of_ble_eq_true rfl⟩ hl.1 rfl (Nat.le_of_ble_eq_true rfl) dX6_stood_17 (fun hz17 H locs hP hS => ?_)
    refine lv_if_eq (tgt := 29) hx hb dX6_stood_20 (by decide) (fun hc => ?_) (fun hc => ?_)
    · have hf := ifp hc hf
      refine lv_iinc (v := (x2_4 + (1 : Int32))) (lv' := [(2, .int (x2_4 + (1 : Int32))), (0, .ref (w.1 (0))), (1, .int x1_4)]) hx hb dX6_stood_29 hl (k := 2) rfl ii_1 (by decide) rfl (fun ls hl => ?_)
      refine lv_goto (tgt := 4) hx hb dX6_stood_32 (by decide) ?_
      obtain rfl := Option.some.inj hf
      exact hG4 _ rfl _ _ _ hP hS (lv_sub hl [1, 2, 0] rfl)
    · have hf := ifn hc hf
      refine lv_iload_n hx hb dX6_stood_23 rfl (lv_at hl 1 rfl) ?_
      refine lv_iconst (v := (1 : Int32)) hx hb dX6_stood_24 (by decide) ?_
      refine lv_iload_n hx hb dX6_stood_25 rfl (lv_at hl 2 rfl) ?_
      refine lv_ishl hx hb dX6_stood_26 ?_
      refine lv_ior hx hb dX6_stood_27 ?_
      refine lv_istore_n (lv' := [(1, .int (x1_4 ||| ((1 : Int32) <<< (x2_4 &&& 31)))), (0, .ref (w.1 (0))), (2, .int x2_4)]) hx hb dX6_stood_28 rfl hl (by decide) rfl (fun ls hl => ?_)
      refine lv_iinc (v := (x2_4 + (1 : Int32))) (lv' := [(2, .int (x2_4 + (1 : Int32))), (1, .int (x1_4 ||| ((1 : Int32) <<< (x2_4 &&& 31)))), (0, .ref (w.1 (0)))]) hx hb dX6_stood_29 hl (k := 2) rfl ii_1 (by decide) rfl (fun ls hl => ?_)
      refine lv_goto (tgt := 4) hx hb dX6_stood_32 (by decide) ?_
      obtain rfl := Option.some.inj hf
      exact hG4 _ rfl _ _ _ hP hS (lv_sub hl [2, 1, 0] rfl)
def f_X6_tellAlike (σ : Sg) (a1 : Int32) (a2 : Int32) (a3 : Int32) : Option Int32 :=
  (f_X3_firstStep σ (6 + 1) a1 a3).bind fun v13 =>
  (f_X3_firstStep σ (6 + 1) a2 a3).bind fun v24 =>
  if v13 = v24 then
  if v13 = (-4 : Int32) then
  some (1 : Int32)
  else
  (f_X3_pathMiles σ (6 + 1) a1 a3).bind fun v43 =>
  (f_X3_pathMiles σ (6 + 1) a2 a3).bind fun v50 =>
  if ¬ v43 = v50 then
  some (0 : Int32)
  else
  some (1 : Int32)
  else
  some (0 : Int32)
set_option maxHeartbeats 4000000 in
set_option maxRecDepth 100000 in
theorem c_X6_tellAlike (l : Launch) (D : va_G) (w : Wv) (σ : Sg) (a1 : Int32) (a2 : Int32) (a3 : Int32) (r : Int32)  (hf : f_X6_tellAlike σ a1 a2 a3 = some r) : Met l yX6_tellAlike (.code yX6_tellAlike cX6_tellAlike 6 (some .boolean) :: TB) (rmW 2 50) (pcW D w [.ref (w.1 (0)), .int a1, .int a2, .int a3] σ) (qzW D w r σ) 0 0 (AL w) := by
  refine q_open (by decide +kernel) (Nat.le_of_ble_eq_true rfl) ?_
  intro p e s m args below meth c ls hx hb hml hr hlk hown hts hK hP hS hl
  have hown : s.vm.findClass RX6 = some m.cls := hown
  have hl : lv_has ls 6 [(0, .ref (w.1 (0))), (1, .int a1), (2, .int a2), (3, .int a3)] := hl
  unfold f_X6_tellAlike at hf
  refine lv_aload_n hx hb dX6_tellAlike_0 rfl (lv_at hl 0 rfl) ?_
  refine gt_X6_19 hx hb hts hown hK hP dX6_tellAlike_1 ?_
  refine q_cVr (As := []) hx hb hts hml hown hK hP hS (c_X5_roads l D w σ (6) isY6) hw_X6_91 hd_X5_roads ⟨rfl, rfl, rfl⟩ isY6.o (ce5 isY6.k) rfl ⟨Nat.le_of_ble_eq_true rfl, Nat.le_of_ble_eq_true rfl⟩ ⟨Nat.le_of_ble_eq_true rfl, Nat.le_of_ble_eq_true rfl⟩ hl.1 rfl (Nat.le_of_ble_eq_true rfl) dX6_tellAlike_4 (fun H locs hP hS => ?_)
  refine lv_astore (lv' := [(4, .ref (w.1 (6 + 1))), (0, .ref (w.1 (0))), (1, .int a1), (2, .int a2), (3, .int a3)]) hx hb dX6_tellAlike_7 hl (by decide) rfl (fun ls hl => ?_)
  refine lv_aload hx hb dX6_tellAlike_9 (lv_at hl 0 rfl) ?_
  refine lv_iload_n hx hb dX6_tellAlike_11 rfl (lv_at hl 2 rfl) ?_
  refine lv_iload_n hx hb dX6_tellAlike_12 rfl (lv_at hl 4 rfl) ?_
  obtain ⟨v13, h13, hf⟩ := bnd hf
  refine q_cVi (As := [.int a1, .int a3]) hx hb hts hml hown hK hP hS (c_X3_firstStep l D w σ (6 + 1) a1 a3 v13 isY6.f0 h13) hw_X6_223 hd_X3_firstStep ⟨rfl, rfl, rfl⟩ isY6.f0.o (ce3 isY6.f0.k) rfl ⟨Nat.le_of_ble_eq_true rfl, Nat.le_of_ble_eq_true rfl⟩ ⟨Nat.le_of_ble_eq_true rfl, Nat.le_of_ble_eq_true rfl⟩ hl.1 rfl (Nat.le_of_ble_eq_true rfl) dX6_tellAlike_13 (fun H locs hP hS => ?_)
  refine lv_istore (lv' := [(5, .int v13), (4, .ref (w.1 (6 + 1))), (0, .ref (w.1 (0))), (1, .int a1), (2, .int a2), (3, .int a3)]) hx hb dX6_tellAlike_16 hl (by decide) rfl (fun ls hl => ?_)
  refine lv_iload hx hb dX6_tellAlike_18 (lv_at hl 0 rfl) ?_
  refine lv_aload hx hb dX6_tellAlike_20 (lv_at hl 1 rfl) ?_
  refine lv_iload_n hx hb dX6_tellAlike_22 rfl (lv_at hl 4 rfl) ?_
  refine lv_iload_n hx hb dX6_tellAlike_23 rfl (lv_at hl 5 rfl) ?_
  obtain ⟨v24, h24, hf⟩ := bnd hf
  refine q_cVi (As := [.int a2, .int a3]) hx hb hts hml hown hK hP hS (c_X3_firstStep l D w σ (6 + 1) a2 a3 v24 isY6.f0 h24) hw_X6_223 hd_X3_firstStep ⟨rfl, rfl, rfl⟩ isY6.f0.o (ce3 isY6.f0.k) rfl ⟨Nat.le_of_ble_eq_true rfl, Nat.le_of_ble_eq_true rfl⟩ ⟨Nat.le_of_ble_eq_true rfl, Nat.le_of_ble_eq_true rfl⟩ hl.1 rfl (Nat.le_of_ble_eq_true rfl) dX6_tellAlike_24 (fun H locs hP hS => ?_)
  refine lv_icmp_eq (tgt := 32) hx hb dX6_tellAlike_27 (by decide) (fun hc => ?_) (fun hc => ?_)
  · have hf := ifp hc hf
    refine lv_iload hx hb dX6_tellAlike_32 (lv_at hl 0 rfl) ?_
    refine lv_bipush (v := (-4 : Int32)) hx hb dX6_tellAlike_34 (by decide) ?_
    refine lv_icmp_eq (tgt := 56) hx hb dX6_tellAlike_36 (by decide) (fun hc => ?_) (fun hc => ?_)
    · have hf := ifp hc hf
      refine lv_iconst (v := (1 : Int32)) hx hb dX6_tellAlike_56 (by decide) ?_
      refine lv_goto (tgt := 61) hx hb dX6_tellAlike_57 (by decide) ?_
      have hq := Option.some.inj hf
      exact q_zret hx hb hr hlk hP hS rfl hq rfl dX6_tellAlike_61
    · have hf := ifn hc hf
      refine lv_aload hx hb dX6_tellAlike_39 (lv_at hl 1 rfl) ?_
      refine lv_iload_n hx hb dX6_tellAlike_41 rfl (lv_at hl 3 rfl) ?_
      refine lv_iload_n hx hb dX6_tellAlike_42 rfl (lv_at hl 5 rfl) ?_
      obtain ⟨v43, h43, hf⟩ := bnd hf
      refine q_cVi (As := [.int a1, .int a3]) hx hb hts hml hown hK hP hS (c_X3_pathMiles l D w σ (6 + 1) a1 a3 v43 isY6.f0 h43) hw_X6_209 hd_X3_pathMiles ⟨rfl, rfl, rfl⟩ isY6.f0.o (ce3 isY6.f0.k) rfl ⟨Nat.le_of_ble_eq_true rfl, Nat.le_of_ble_eq_true rfl⟩ ⟨Nat.le_of_ble_eq_true rfl, Nat.le_of_ble_eq_true rfl⟩ hl.1 rfl (Nat.le_of_ble_eq_true rfl) dX6_tellAlike_43 (fun H locs hP hS => ?_)
      refine lv_aload hx hb dX6_tellAlike_46 (lv_at hl 1 rfl) ?_
      refine lv_iload_n hx hb dX6_tellAlike_48 rfl (lv_at hl 4 rfl) ?_
      refine lv_iload_n hx hb dX6_tellAlike_49 rfl (lv_at hl 5 rfl) ?_
      obtain ⟨v50, h50, hf⟩ := bnd hf
      refine q_cVi (As := [.int a2, .int a3]) hx hb hts hml hown hK hP hS (c_X3_pathMiles l D w σ (6 + 1) a2 a3 v50 isY6.f0 h50) hw_X6_209 hd_X3_pathMiles ⟨rfl, rfl, rfl⟩ isY6.f0.o (ce3 isY6.f0.k) rfl ⟨Nat.le_of_ble_eq_true rfl, Nat.le_of_ble_eq_true rfl⟩ ⟨Nat.le_of_ble_eq_true rfl, Nat.le_of_ble_eq_true rfl⟩ hl.1 rfl (Nat.le_of_ble_eq_true rfl) dX6_tellAlike_50 (fun H locs hP hS => ?_)
      refine lv_icmp_ne (tgt := 60) hx hb dX6_tellAlike_53 (by decide) (fun hc => ?_) (fun hc => ?_)
      · have hf := ifp hc hf
        refine lv_iconst (v := (0 : Int32)) hx hb dX6_tellAlike_60 (by decide) ?_
        have hq := Option.some.inj hf
        exact q_zret hx hb hr hlk hP hS rfl hq rfl dX6_tellAlike_61
      · have hf := ifn (fun h => h hc) hf
        refine lv_iconst (v := (1 : Int32)) hx hb dX6_tellAlike_56 (by decide) ?_
        refine lv_goto (tgt := 61) hx hb dX6_tellAlike_57 (by decide) ?_
        have hq := Option.some.inj hf
        exact q_zret hx hb hr hlk hP hS rfl hq rfl dX6_tellAlike_61
  · have hf := ifn hc hf
    refine lv_iconst (v := (0 : Int32)) hx hb dX6_tellAlike_30 (by decide) ?_
    have hq := Option.some.inj hf
    exact q_zret hx hb hr hlk hP hS rfl hq rfl dX6_tellAlike_31
def f_X6_alikeWith_b1 (σ : Sg) (a1 : Int32) (a2 : Int32) (a3 : Int32) (x4_6 : Int32) (x5_6 : Int32) : Option ((Int32 × Int32) ⊕ Int32) :=
  (f_X5_towns σ (6)).bind fun v12 =>
  if v12 ≤ x5_6 then
  some (.inr x4_6)
  else
  (f_X6_hasBit σ a1 x5_6).bind fun v21 =>
  if v21 = 0 then
  some (.inl (x4_6, (x5_6 + (1 : Int32))))
  else
  (f_X6_tellAlike σ a2 x5_6 a3).bind fun v32 =>
  if v32 = 0 then
  some (.inl (x4_6, (x5_6 + (1 : Int32))))
  else
  some (.inl ((x4_6 + (1 : Int32)), (x5_6 + (1 : Int32))))
def f_X6_alikeWith_k1 (y4_47 : Int32) : Option Int32 :=
  some y4_47
def f_X6_alikeWith (σ : Sg) (a1 : Int32) (a2 : Int32) (a3 : Int32) : Option Int32 :=
  (lp (fun st => f_X6_alikeWith_b1 σ a1 a2 a3 st.1 st.2) FU ((0 : Int32), (0 : Int32))).bind fun rr => f_X6_alikeWith_k1 rr
set_option maxHeartbeats 4000000 in
set_option maxRecDepth 100000 in
theorem c_X6_alikeWith (l : Launch) (D : va_G) (w : Wv) (σ : Sg) (a1 : Int32) (a2 : Int32) (a3 : Int32) (r : Int32)  (hf : f_X6_alikeWith σ a1 a2 a3 = some r) : Met l yX6_alikeWith (.code yX6_alikeWith cX6_alikeWith 6 (some .int) :: TB) (rmW 3 75) (pcW D w [.ref (w.1 (0)), .int a1, .int a2, .int a3] σ) (qiW D w r σ) 0 0 (AL w) := by
  refine q_open (by decide +kernel) (Nat.le_of_ble_eq_true rfl) ?_
  intro p e s m args below meth c ls hx hb hml hr hlk hown hts hK hP hS hl
  have hown : s.vm.findClass RX6 = some m.cls := hown
  have hl : lv_has ls 6 [(0, .ref (w.1 (0))), (1, .int a1), (2, .int a2), (3, .int a3)] := hl
  unfold f_X6_alikeWith at hf
  refine lv_iconst (v := (0 : Int32)) hx hb dX6_alikeWith_0 (by decide) ?_
  refine lv_istore (lv' := [(4, .int (0 : Int32)), (0, .ref (w.1 (0))), (1, .int a1), (2, .int a2), (3, .int a3)]) hx hb dX6_alikeWith_1 hl (by decide) rfl (fun ls hl => ?_)
  refine lv_iconst (v := (0 : Int32)) hx hb dX6_alikeWith_3 (by decide) ?_
  refine lv_istore (lv' := [(5, .int (0 : Int32)), (4, .int (0 : Int32)), (0, .ref (w.1 (0))), (1, .int a1), (2, .int a2), (3, .int a3)]) hx hb dX6_alikeWith_4 hl (by decide) rfl (fun ls hl => ?_)
  obtain ⟨rr, hlp, hf⟩ := bnd hf
  have hE6_47 : ∀ (y4_47 : Int32) (H : Heap) (locs : List Loc) (ls : Array Slot), f_X6_alikeWith_k1 y4_47 = some r → va_P D vwCl (WL w σ) H → va_S (AL w) s.heap H locs → lv_has ls 6 [(4, .int y4_47)] → W p l e (rmW 3 75) s m args below meth c H locs 0 0 (MQ below (qiW D w r σ) args s 0 0 (AL w)) (F0 m 47 ls []) := by
    intro y4_47 H locs ls hf hP hS hl
    unfold f_X6_alikeWith_k1 at hf
    refine lv_iload hx hb dX6_alikeWith_47 (lv_at hl 0 rfl) ?_
    have hq := Option.some.inj hf
    exact q_iret hx hb hr hlk hP hS hq rfl dX6_alikeWith_49
  refine useP (lp_ind (S := (Int32 × Int32)) (R := Int32) (b := fun st => f_X6_alikeWith_b1 σ a1 a2 a3 st.1 st.2) (G := fun (st : (Int32 × Int32)) => ∀ (H : Heap) (locs : List Loc) (ls : Array Slot), va_P D vwCl (WL w σ) H → va_S (AL w) s.heap H locs → lv_has ls 6 [(0, .ref (w.1 (0))), (1, .int a1), (2, .int a2), (3, .int a3), (4, .int st.1), (5, .int st.2)] → W p l e (rmW 3 75) s m args below meth c H locs 0 0 (MQ below (qiW D w r σ) args s 0 0 (AL w)) (F0 m 6 ls [])) (X := fun rr => f_X6_alikeWith_k1 rr = some r) ?_ FU ((0 : Int32), (0 : Int32)) rr hlp hf) (fun hGo => hGo _ _ _ hP hS (lv_sub hl [2, 3, 4, 5, 1, 0] rfl))
  rintro ⟨x4_6, x5_6⟩ oo6 hb9 hG6 hX6 H locs ls hP hS hl
  have hP : va_P D vwCl (WL w σ) H := hP
  have hl : lv_has ls 6 [(0, .ref (w.1 (0))), (1, .int a1), (2, .int a2), (3, .int a3), (4, .int x4_6), (5, .int x5_6)] := hl
  have hf : f_X6_alikeWith_b1 σ a1 a2 a3 x4_6 x5_6 = some oo6 := hb9
  unfold f_X6_alikeWith_b1 at hf
  refine lv_iload hx hb dX6_alikeWith_6 (lv_at hl 5 rfl) ?_
  refine lv_aload_n hx hb dX6_alikeWith_8 rfl (lv_at hl 0 rfl) ?_
  refine gt_X6_19 hx hb hts hown hK hP dX6_alikeWith_9 ?_
  obtain ⟨v12, h12, hf⟩ := bnd hf
  refine q_cVi (As := []) hx hb hts hml hown hK hP hS (c_X5_towns l D w σ (6) v12 isY6 h12) hw_X6_174 hd_X5_towns ⟨rfl, rfl, rfl⟩ isY6.o (ce5 isY6.k) rfl ⟨Nat.le_of_ble_eq_true rfl, Nat.le_of_ble_eq_true rfl⟩ ⟨Nat.le_of_ble_eq_true rfl, Nat.le_of_ble_eq_true rfl⟩ hl.1 rfl (Nat.le_of_ble_eq_true rfl) dX6_alikeWith_12 (fun H locs hP hS => ?_)
  refine lv_icmp_ge (tgt := 47) hx hb dX6_alikeWith_15 (by decide) (fun hc => ?_) (fun hc => ?_)
  · have hf := ifp hc hf
    obtain rfl := Option.some.inj hf
    exact hE6_47 x4_6 _ _ _ (hX6 _ rfl) hP hS (lv_sub hl [4] rfl)
  · have hf := ifn hc hf
    refine lv_iload_n hx hb dX6_alikeWith_18 rfl (lv_at hl 1 rfl) ?_
    refine lv_iload hx hb dX6_alikeWith_19 (lv_at hl 5 rfl) ?_
    obtain ⟨v21, h21, hf⟩ := bnd hf
    refine q_cSz (As := [.int a1, .int x5_6]) hx hb hts hml hown hK hP hS (c_X6_hasBit l D w σ a1 x5_6 v21 h21) hw_X6_200 hd_X6_hasBit ⟨rfl, rfl, rfl⟩ ⟨Nat.le_of_ble_eq_true rfl, Nat.le_of_ble_eq_true rfl⟩ ⟨Nat.le_of_ble_eq_true rfl, Nat.le_of_ble_eq_true rfl⟩ hl.1 rfl (Nat.le_of_ble_eq_true rfl) dX6_alikeWith_21 (fun hz21 H locs hP hS => ?_)
    refine lv_if_eq (tgt := 41) hx hb dX6_alikeWith_24 (by decide) (fun hc => ?_) (fun hc => ?_)
    · have hf := ifp hc hf
      refine lv_iinc (v := (x5_6 + (1 : Int32))) (lv' := [(5, .int (x5_6 + (1 : Int32))), (0, .ref (w.1 (0))), (1, .int a1), (2, .int a2), (3, .int a3), (4, .int x4_6)]) hx hb dX6_alikeWith_41 hl (k := 5) rfl ii_1 (by decide) rfl (fun ls hl => ?_)
      refine lv_goto (tgt := 6) hx hb dX6_alikeWith_44 (by decide) ?_
      obtain rfl := Option.some.inj hf
      exact hG6 _ rfl _ _ _ hP hS (lv_sub hl [1, 2, 3, 4, 5, 0] rfl)
    · have hf := ifn hc hf
      refine lv_aload_n hx hb dX6_alikeWith_27 rfl (lv_at hl 0 rfl) ?_
      refine lv_iload_n hx hb dX6_alikeWith_28 rfl (lv_at hl 2 rfl) ?_
      refine lv_iload hx hb dX6_alikeWith_29 (lv_at hl 5 rfl) ?_
      refine lv_iload_n hx hb dX6_alikeWith_31 rfl (lv_at hl 3 rfl) ?_
      obtain ⟨v32, h32, hf⟩ := bnd hf
      refine q_cVz (As := [.int a2, .int x5_6, .int a3]) hx hb hts hml hown hK hP hS (c_X6_tellAlike l D w σ a2 x5_6 a3 v32 h32) hw_X6_240 hd_X6_tellAlike ⟨rfl, rfl, rfl⟩ o0 (ce6 kd0) rfl ⟨Nat.le_of_ble_eq_true rfl, Nat.le_of_ble_eq_true rfl⟩ ⟨Nat.le_of_ble_eq_true rfl, Nat.le_of_ble_eq_true rfl⟩ hl.1 rfl (Nat.le_of_ble_eq_true rfl) dX6_alikeWith_32 (fun hz32 H locs hP hS => ?_)
      refine lv_if_eq (tgt := 41) hx hb dX6_alikeWith_35 (by decide) (fun hc => ?_) (fun hc => ?_)
      · have hf := ifp hc hf
        refine lv_iinc (v := (x5_6 + (1 : Int32))) (lv' := [(5, .int (x5_6 + (1 : Int32))), (0, .ref (w.1 (0))), (1, .int a1), (2, .int a2), (3, .int a3), (4, .int x4_6)]) hx hb dX6_alikeWith_41 hl (k := 5) rfl ii_1 (by decide) rfl (fun ls hl => ?_)
        refine lv_goto (tgt := 6) hx hb dX6_alikeWith_44 (by decide) ?_
        obtain rfl := Option.some.inj hf
        exact hG6 _ rfl _ _ _ hP hS (lv_sub hl [1, 2, 3, 4, 5, 0] rfl)
      · have hf := ifn hc hf
        refine lv_iinc (v := (x4_6 + (1 : Int32))) (lv' := [(4, .int (x4_6 + (1 : Int32))), (0, .ref (w.1 (0))), (1, .int a1), (2, .int a2), (3, .int a3), (5, .int x5_6)]) hx hb dX6_alikeWith_38 hl (k := 4) rfl ii_1 (by decide) rfl (fun ls hl => ?_)
        refine lv_iinc (v := (x5_6 + (1 : Int32))) (lv' := [(5, .int (x5_6 + (1 : Int32))), (4, .int (x4_6 + (1 : Int32))), (0, .ref (w.1 (0))), (1, .int a1), (2, .int a2), (3, .int a3)]) hx hb dX6_alikeWith_41 hl (k := 5) rfl ii_1 (by decide) rfl (fun ls hl => ?_)
        refine lv_goto (tgt := 6) hx hb dX6_alikeWith_44 (by decide) ?_
        obtain rfl := Option.some.inj hf
        exact hG6 _ rfl _ _ _ hP hS (lv_sub hl [2, 3, 4, 5, 1, 0] rfl)
def f_X6_mostAlike_b1 (σ : Sg) (a1 : Int32) (a2 : Int32) (x3_5 : Int32) (x4_5 : Int32) : Option ((Int32 × Int32) ⊕ Int32) :=
  (f_X5_towns σ (6)).bind fun v11 =>
  if v11 ≤ x4_5 then
  some (.inr x3_5)
  else
  (f_X6_hasBit σ a1 x4_5).bind fun v20 =>
  if v20 = 0 then
  some (.inl (x3_5, (x4_5 + (1 : Int32))))
  else
  (f_X6_alikeWith σ a1 x4_5 a2).bind fun v32 =>
  some (.inl ((if x3_5 < v32 then v32 else x3_5), (x4_5 + (1 : Int32))))
def f_X6_mostAlike_k1 (y3_45 : Int32) : Option Int32 :=
  some y3_45
def f_X6_mostAlike (σ : Sg) (a1 : Int32) (a2 : Int32) : Option Int32 :=
  (lp (fun st => f_X6_mostAlike_b1 σ a1 a2 st.1 st.2) FU ((0 : Int32), (0 : Int32))).bind fun rr => f_X6_mostAlike_k1 rr
set_option maxHeartbeats 4000000 in
set_option maxRecDepth 100000 in
theorem c_X6_mostAlike (l : Launch) (D : va_G) (w : Wv) (σ : Sg) (a1 : Int32) (a2 : Int32) (r : Int32)  (hf : f_X6_mostAlike σ a1 a2 = some r) : Met l yX6_mostAlike (.code yX6_mostAlike cX6_mostAlike 5 (some .int) :: TB) (rmW 4 100) (pcW D w [.ref (w.1 (0)), .int a1, .int a2] σ) (qiW D w r σ) 0 0 (AL w) := by
  refine q_open (by decide +kernel) (Nat.le_of_ble_eq_true rfl) ?_
  intro p e s m args below meth c ls hx hb hml hr hlk hown hts hK hP hS hl
  have hown : s.vm.findClass RX6 = some m.cls := hown
  have hl : lv_has ls 5 [(0, .ref (w.1 (0))), (1, .int a1), (2, .int a2)] := hl
  unfold f_X6_mostAlike at hf
  refine lv_iconst (v := (0 : Int32)) hx hb dX6_mostAlike_0 (by decide) ?_
  refine lv_istore_n (lv' := [(3, .int (0 : Int32)), (0, .ref (w.1 (0))), (1, .int a1), (2, .int a2)]) hx hb dX6_mostAlike_1 rfl hl (by decide) rfl (fun ls hl => ?_)
  refine lv_iconst (v := (0 : Int32)) hx hb dX6_mostAlike_2 (by decide) ?_
  refine lv_istore (lv' := [(4, .int (0 : Int32)), (3, .int (0 : Int32)), (0, .ref (w.1 (0))), (1, .int a1), (2, .int a2)]) hx hb dX6_mostAlike_3 hl (by decide) rfl (fun ls hl => ?_)
  obtain ⟨rr, hlp, hf⟩ := bnd hf
  have hE5_45 : ∀ (y3_45 : Int32) (H : Heap) (locs : List Loc) (ls : Array Slot), f_X6_mostAlike_k1 y3_45 = some r → va_P D vwCl (WL w σ) H → va_S (AL w) s.heap H locs → lv_has ls 5 [(3, .int y3_45)] → W p l e (rmW 4 100) s m args below meth c H locs 0 0 (MQ below (qiW D w r σ) args s 0 0 (AL w)) (F0 m 45 ls []) := by
    intro y3_45 H locs ls hf hP hS hl
    unfold f_X6_mostAlike_k1 at hf
    refine lv_iload_n hx hb dX6_mostAlike_45 rfl (lv_at hl 0 rfl) ?_
    have hq := Option.some.inj hf
    exact q_iret hx hb hr hlk hP hS hq rfl dX6_mostAlike_46
  refine useP (lp_ind (S := (Int32 × Int32)) (R := Int32) (b := fun st => f_X6_mostAlike_b1 σ a1 a2 st.1 st.2) (G := fun (st : (Int32 × Int32)) => ∀ (H : Heap) (locs : List Loc) (ls : Array Slot), va_P D vwCl (WL w σ) H → va_S (AL w) s.heap H locs → lv_has ls 5 [(0, .ref (w.1 (0))), (1, .int a1), (2, .int a2), (3, .int st.1), (4, .int st.2)] → W p l e (rmW 4 100) s m args below meth c H locs 0 0 (MQ below (qiW D w r σ) args s 0 0 (AL w)) (F0 m 5 ls [])) (X := fun rr => f_X6_mostAlike_k1 rr = some r) ?_ FU ((0 : Int32), (0 : Int32)) rr hlp hf) (fun hGo => hGo _ _ _ hP hS (lv_sub hl [2, 3, 4, 1, 0] rfl))
  rintro ⟨x3_5, x4_5⟩ oo5 hb9 hG5 hX5 H locs ls hP hS hl
  have hP : va_P D vwCl (WL w σ) H := hP
  have hl : lv_has ls 5 [(0, .ref (w.1 (0))), (1, .int a1), (2, .int a2), (3, .int x3_5), (4, .int x4_5)] := hl
  have hf : f_X6_mostAlike_b1 σ a1 a2 x3_5 x4_5 = some oo5 := hb9
  unfold f_X6_mostAlike_b1 at hf
  refine lv_iload hx hb dX6_mostAlike_5 (lv_at hl 4 rfl) ?_
  refine lv_aload_n hx hb dX6_mostAlike_7 rfl (lv_at hl 0 rfl) ?_
  refine gt_X6_19 hx hb hts hown hK hP dX6_mostAlike_8 ?_
  obtain ⟨v11, h11, hf⟩ := bnd hf
  refine q_cVi (As := []) hx hb hts hml hown hK hP hS (c_X5_towns l D w σ (6) v11 isY6 h11) hw_X6_174 hd_X5_towns ⟨rfl, rfl, rfl⟩ isY6.o (ce5 isY6.k) rfl ⟨Nat.le_of_ble_eq_true rfl, Nat.le_of_ble_eq_true rfl⟩ ⟨Nat.le_of_ble_eq_true rfl, Nat.le_of_ble_eq_true rfl⟩ hl.1 rfl (Nat.le_of_ble_eq_true rfl) dX6_mostAlike_11 (fun H locs hP hS => ?_)
  refine lv_icmp_ge (tgt := 45) hx hb dX6_mostAlike_14 (by decide) (fun hc => ?_) (fun hc => ?_)
  · have hf := ifp hc hf
    obtain rfl := Option.some.inj hf
    exact hE5_45 x3_5 _ _ _ (hX5 _ rfl) hP hS (lv_sub hl [3] rfl)
  · have hf := ifn hc hf
    refine lv_iload_n hx hb dX6_mostAlike_17 rfl (lv_at hl 1 rfl) ?_
    refine lv_iload hx hb dX6_mostAlike_18 (lv_at hl 4 rfl) ?_
    obtain ⟨v20, h20, hf⟩ := bnd hf
    refine q_cSz (As := [.int a1, .int x4_5]) hx hb hts hml hown hK hP hS (c_X6_hasBit l D w σ a1 x4_5 v20 h20) hw_X6_200 hd_X6_hasBit ⟨rfl, rfl, rfl⟩ ⟨Nat.le_of_ble_eq_true rfl, Nat.le_of_ble_eq_true rfl⟩ ⟨Nat.le_of_ble_eq_true rfl, Nat.le_of_ble_eq_true rfl⟩ hl.1 rfl (Nat.le_of_ble_eq_true rfl) dX6_mostAlike_20 (fun hz20 H locs hP hS => ?_)
    refine lv_if_eq (tgt := 39) hx hb dX6_mostAlike_23 (by decide) (fun hc => ?_) (fun hc => ?_)
    · have hf := ifp hc hf
      refine lv_iinc (v := (x4_5 + (1 : Int32))) (lv' := [(4, .int (x4_5 + (1 : Int32))), (0, .ref (w.1 (0))), (1, .int a1), (2, .int a2), (3, .int x3_5)]) hx hb dX6_mostAlike_39 hl (k := 4) rfl ii_1 (by decide) rfl (fun ls hl => ?_)
      refine lv_goto (tgt := 5) hx hb dX6_mostAlike_42 (by decide) ?_
      obtain rfl := Option.some.inj hf
      exact hG5 _ rfl _ _ _ hP hS (lv_sub hl [1, 2, 3, 4, 0] rfl)
    · have hf := ifn hc hf
      refine lv_iload_n hx hb dX6_mostAlike_26 rfl (lv_at hl 3 rfl) ?_
      refine lv_aload_n hx hb dX6_mostAlike_27 rfl (lv_at hl 0 rfl) ?_
      refine lv_iload_n hx hb dX6_mostAlike_28 rfl (lv_at hl 1 rfl) ?_
      refine lv_iload hx hb dX6_mostAlike_29 (lv_at hl 4 rfl) ?_
      refine lv_iload_n hx hb dX6_mostAlike_31 rfl (lv_at hl 2 rfl) ?_
      obtain ⟨v32, h32, hf⟩ := bnd hf
      refine q_cVi (As := [.int a1, .int x4_5, .int a2]) hx hb hts hml hown hK hP hS (c_X6_alikeWith l D w σ a1 x4_5 a2 v32 h32) hw_X6_232 hd_X6_alikeWith ⟨rfl, rfl, rfl⟩ o0 (ce6 kd0) rfl ⟨Nat.le_of_ble_eq_true rfl, Nat.le_of_ble_eq_true rfl⟩ ⟨Nat.le_of_ble_eq_true rfl, Nat.le_of_ble_eq_true rfl⟩ hl.1 rfl (Nat.le_of_ble_eq_true rfl) dX6_mostAlike_32 (fun H locs hP hS => ?_)
      refine va_mmax hx hb (hml.trans hl.1.symm) hown (hts _ tw_786) (hts _ tw_58) (hts _ tw_23) (hts _ tw_59) (Nat.le_of_ble_eq_true rfl) (Nat.le_of_ble_eq_true rfl) (Nat.zero_le _) (Nat.zero_le _) dX6_mostAlike_35 ?_
      refine lv_istore_n (lv' := [(3, .int (if x3_5 < v32 then v32 else x3_5)), (0, .ref (w.1 (0))), (1, .int a1), (2, .int a2), (4, .int x4_5)]) hx hb dX6_mostAlike_38 rfl hl (by decide) rfl (fun ls hl => ?_)
      refine lv_iinc (v := (x4_5 + (1 : Int32))) (lv' := [(4, .int (x4_5 + (1 : Int32))), (3, .int (if x3_5 < v32 then v32 else x3_5)), (0, .ref (w.1 (0))), (1, .int a1), (2, .int a2)]) hx hb dX6_mostAlike_39 hl (k := 4) rfl ii_1 (by decide) rfl (fun ls hl => ?_)
      refine lv_goto (tgt := 5) hx hb dX6_mostAlike_42 (by decide) ?_
      obtain rfl := Option.some.inj hf
      exact hG5 _ rfl _ _ _ hP hS (lv_sub hl [2, 3, 4, 1, 0] rfl)
def f_X6_next_b1 (σ : Sg) (v1 : Int32) (x2_20 : Int32) (x3_20 : Int32) (x4_20 : Int32) : Option ((Int32 × Int32 × Int32) ⊕ Int32) :=
  (f_X5_towns σ (6)).bind fun v26 =>
  if v26 ≤ x4_20 then
  some (.inr x2_20)
  else
  (f_X6_mostAlike σ v1 x4_20).bind fun v36 =>
  if x2_20 = (-4 : Int32) then
  some (.inl (x4_20, v36, (x4_20 + (1 : Int32))))
  else
  if x3_20 ≤ v36 then
  some (.inl (x2_20, x3_20, (x4_20 + (1 : Int32))))
  else
  some (.inl (x4_20, v36, (x4_20 + (1 : Int32))))
def f_X6_next_k1 (y2_65 : Int32) : Option Int32 :=
  some y2_65
def f_X6_next (σ : Sg)  : Option Int32 :=
  (f_X6_stood σ).bind fun v1 =>
  if ¬ v1 = 0 then
  (lp (fun st => f_X6_next_b1 σ v1 st.1 st.2.1 st.2.2) FU ((-4 : Int32), (0 : Int32), (0 : Int32))).bind fun rr => f_X6_next_k1 rr
  else
  some (-4 : Int32)
set_option maxHeartbeats 4000000 in
set_option maxRecDepth 100000 in
theorem c_X6_next (l : Launch) (D : va_G) (w : Wv) (σ : Sg)  (r : Int32)  (hf : f_X6_next σ = some r) : Met l yX6_next (.code yX6_next cX6_next 6 (some .int) :: TB) (rmW 5 124) (pcW D w [.ref (w.1 (0))] σ) (qiW D w r σ) 0 0 (AL w) := by
  refine q_open (by decide +kernel) (Nat.le_of_ble_eq_true rfl) ?_
  intro p e s m args below meth c ls hx hb hml hr hlk hown hts hK hP hS hl
  have hown : s.vm.findClass RX6 = some m.cls := hown
  have hl : lv_has ls 6 [(0, .ref (w.1 (0)))] := hl
  unfold f_X6_next at hf
  refine lv_aload_n hx hb dX6_next_0 rfl (lv_at hl 0 rfl) ?_
  obtain ⟨v1, h1, hf⟩ := bnd hf
  refine q_cVi (As := []) hx hb hts hml hown hK hP hS (c_X6_stood l D w σ v1 h1) hw_X6_226 hd_X6_stood ⟨rfl, rfl, rfl⟩ o0 (ce6 kd0) rfl ⟨Nat.le_of_ble_eq_true rfl, Nat.le_of_ble_eq_true rfl⟩ ⟨Nat.le_of_ble_eq_true rfl, Nat.le_of_ble_eq_true rfl⟩ hl.1 rfl (Nat.le_of_ble_eq_true rfl) dX6_next_1 (fun H locs hP hS => ?_)
  refine lv_istore_n (lv' := [(1, .int v1), (0, .ref (w.1 (0)))]) hx hb dX6_next_4 rfl hl (by decide) rfl (fun ls hl => ?_)
  refine lv_iload_n hx hb dX6_next_5 rfl (lv_at hl 0 rfl) ?_
  refine lv_if_ne (tgt := 12) hx hb dX6_next_6 (by decide) (fun hc => ?_) (fun hc => ?_)
  · have hf := ifp hc hf
    refine lv_bipush (v := (-4 : Int32)) hx hb dX6_next_12 (by decide) ?_
    refine lv_istore_n (lv' := [(2, .int (-4 : Int32)), (1, .int v1), (0, .ref (w.1 (0)))]) hx hb dX6_next_14 rfl hl (by decide) rfl (fun ls hl => ?_)
    refine lv_iconst (v := (0 : Int32)) hx hb dX6_next_15 (by decide) ?_
    refine lv_istore_n (lv' := [(3, .int (0 : Int32)), (2, .int (-4 : Int32)), (1, .int v1), (0, .ref (w.1 (0)))]) hx hb dX6_next_16 rfl hl (by decide) rfl (fun ls hl => ?_)
    refine lv_iconst (v := (0 : Int32)) hx hb dX6_next_17 (by decide) ?_
    refine lv_istore (lv' := [(4, .int (0 : Int32)), (3, .int (0 : Int32)), (2, .int (-4 : Int32)), (1, .int v1), (0, .ref (w.1 (0)))]) hx hb dX6_next_18 hl (by decide) rfl (fun ls hl => ?_)
    obtain ⟨rr, hlp, hf⟩ := bnd hf
    have hE20_65 : ∀ (y2_65 : Int32) (H : Heap) (locs : List Loc) (ls : Array Slot), f_X6_next_k1 y2_65 = some r → va_P D vwCl (WL w σ) H → va_S (AL w) s.heap H locs → lv_has ls 6 [(2, .int y2_65)] → W p l e (rmW 5 124) s m args below meth c H locs 0 0 (MQ below (qiW D w r σ) args s 0 0 (AL w)) (F0 m 65 ls []) := by
      intro y2_65 H locs ls hf hP hS hl
      unfold f_X6_next_k1 at hf
      refine lv_iload_n hx hb dX6_next_65 rfl (lv_at hl 0 rfl) ?_
      have hq := Option.some.inj hf
      exact q_iret hx hb hr hlk hP hS hq rfl dX6_next_66
    refine useP (lp_ind (S := (Int32 × Int32 × Int32)) (R := Int32) (b := fun st => f_X6_next_b1 σ v1 st.1 st.2.1 st.2.2) (G := fun (st : (Int32 × Int32 × Int32)) => ∀ (H : Heap) (locs : List Loc) (ls : Array Slot), va_P D vwCl (WL w σ) H → va_S (AL w) s.heap H locs → lv_has ls 6 [(0, .ref (w.1 (0))), (1, .int v1), (2, .int st.1), (3, .int st.2.1), (4, .int st.2.2)] → W p l e (rmW 5 124) s m args below meth c H locs 0 0 (MQ below (qiW D w r σ) args s 0 0 (AL w)) (F0 m 20 ls [])) (X := fun rr => f_X6_next_k1 rr = some r) ?_ FU ((-4 : Int32), (0 : Int32), (0 : Int32)) rr hlp hf) (fun hGo => hGo _ _ _ hP hS (lv_sub hl [4, 3, 2, 1, 0] rfl))
    rintro ⟨x2_20, x3_20, x4_20⟩ oo20 hb9 hG20 hX20 H locs ls hP hS hl
    have hP : va_P D vwCl (WL w σ) H := hP
    have hl : lv_has ls 6 [(0, .ref (w.1 (0))), (1, .int v1), (2, .int x2_20), (3, .int x3_20), (4, .int x4_20)] := hl
    have hf : f_X6_next_b1 σ v1 x2_20 x3_20 x4_20 = some oo20 := hb9
    unfold f_X6_next_b1 at hf
    refine lv_iload hx hb dX6_next_20 (lv_at hl 4 rfl) ?_
    refine lv_aload_n hx hb dX6_next_22 rfl (lv_at hl 0 rfl) ?_
    refine gt_X6_19 hx hb hts hown hK hP dX6_next_23 ?_
    obtain ⟨v26, h26, hf⟩ := bnd hf
    refine q_cVi (As := []) hx hb hts hml hown hK hP hS (c_X5_towns l D w σ (6) v26 isY6 h26) hw_X6_174 hd_X5_towns ⟨rfl, rfl, rfl⟩ isY6.o (ce5 isY6.k) rfl ⟨Nat.le_of_ble_eq_true rfl, Nat.le_of_ble_eq_true rfl⟩ ⟨Nat.le_of_ble_eq_true rfl, Nat.le_of_ble_eq_true rfl⟩ hl.1 rfl (Nat.le_of_ble_eq_true rfl) dX6_next_26 (fun H locs hP hS => ?_)
    refine lv_icmp_ge (tgt := 65) hx hb dX6_next_29 (by decide) (fun hc => ?_) (fun hc => ?_)
    · have hf := ifp hc hf
      obtain rfl := Option.some.inj hf
      exact hE20_65 x2_20 _ _ _ (hX20 _ rfl) hP hS (lv_sub hl [2] rfl)
    · have hf := ifn hc hf
      refine lv_aload_n hx hb dX6_next_32 rfl (lv_at hl 0 rfl) ?_
      refine lv_iload_n hx hb dX6_next_33 rfl (lv_at hl 1 rfl) ?_
      refine lv_iload hx hb dX6_next_34 (lv_at hl 4 rfl) ?_
      obtain ⟨v36, h36, hf⟩ := bnd hf
      refine q_cVi (As := [.int v1, .int x4_20]) hx hb hts hml hown hK hP hS (c_X6_mostAlike l D w σ v1 x4_20 v36 h36) hw_X6_229 hd_X6_mostAlike ⟨rfl, rfl, rfl⟩ o0 (ce6 kd0) rfl ⟨Nat.le_of_ble_eq_true rfl, Nat.le_of_ble_eq_true rfl⟩ ⟨Nat.le_of_ble_eq_true rfl, Nat.le_of_ble_eq_true rfl⟩ hl.1 rfl (Nat.le_of_ble_eq_true rfl) dX6_next_36 (fun H locs hP hS => ?_)
      refine lv_istore (lv' := [(5, .int v36), (0, .ref (w.1 (0))), (1, .int v1), (2, .int x2_20), (3, .int x3_20), (4, .int x4_20)]) hx hb dX6_next_39 hl (by decide) rfl (fun ls hl => ?_)
      refine lv_iload_n hx hb dX6_next_41 rfl (lv_at hl 3 rfl) ?_
      refine lv_bipush (v := (-4 : Int32)) hx hb dX6_next_42 (by decide) ?_
      refine lv_icmp_eq (tgt := 53) hx hb dX6_next_44 (by decide) (fun hc => ?_) (fun hc => ?_)
      · have hf := ifp hc hf
        refine lv_iload hx hb dX6_next_53 (lv_at hl 5 rfl) ?_
        refine lv_istore_n (lv' := [(2, .int x4_20), (5, .int v36), (0, .ref (w.1 (0))), (1, .int v1), (3, .int x3_20), (4, .int x4_20)]) hx hb dX6_next_55 rfl hl (by decide) rfl (fun ls hl => ?_)
        refine lv_iload hx hb dX6_next_56 (lv_at hl 1 rfl) ?_
        refine lv_istore_n (lv' := [(3, .int v36), (2, .int x4_20), (5, .int v36), (0, .ref (w.1 (0))), (1, .int v1), (4, .int x4_20)]) hx hb dX6_next_58 rfl hl (by decide) rfl (fun ls hl => ?_)
        refine lv_iinc (v := (x4_20 + (1 : Int32))) (lv' := [(4, .int (x4_20 + (1 : Int32))), (3, .int v36), (2, .int x4_20), (5, .int v36), (0, .ref (w.1 (0))), (1, .int v1)]) hx hb dX6_next_59 hl (k := 5) rfl ii_1 (by decide) rfl (fun ls hl => ?_)
        refine lv_goto (tgt := 20) hx hb dX6_next_62 (by decide) ?_
        obtain rfl := Option.some.inj hf
        exact hG20 _ rfl _ _ _ hP hS (lv_sub hl [4, 5, 2, 1, 0] rfl)
      · have hf := ifn hc hf
        refine lv_iload hx hb dX6_next_47 (lv_at hl 0 rfl) ?_
        refine lv_iload_n hx hb dX6_next_49 rfl (lv_at hl 4 rfl) ?_
        refine lv_icmp_ge (tgt := 59) hx hb dX6_next_50 (by decide) (fun hc => ?_) (fun hc => ?_)
        · have hf := ifp hc hf
          refine lv_iinc (v := (x4_20 + (1 : Int32))) (lv' := [(4, .int (x4_20 + (1 : Int32))), (5, .int v36), (0, .ref (w.1 (0))), (1, .int v1), (2, .int x2_20), (3, .int x3_20)]) hx hb dX6_next_59 hl (k := 5) rfl ii_1 (by decide) rfl (fun ls hl => ?_)
          refine lv_goto (tgt := 20) hx hb dX6_next_62 (by decide) ?_
          obtain rfl := Option.some.inj hf
          exact hG20 _ rfl _ _ _ hP hS (lv_sub hl [2, 3, 4, 5, 0] rfl)
        · have hf := ifn hc hf
          refine lv_iload hx hb dX6_next_53 (lv_at hl 5 rfl) ?_
          refine lv_istore_n (lv' := [(2, .int x4_20), (5, .int v36), (0, .ref (w.1 (0))), (1, .int v1), (3, .int x3_20), (4, .int x4_20)]) hx hb dX6_next_55 rfl hl (by decide) rfl (fun ls hl => ?_)
          refine lv_iload hx hb dX6_next_56 (lv_at hl 1 rfl) ?_
          refine lv_istore_n (lv' := [(3, .int v36), (2, .int x4_20), (5, .int v36), (0, .ref (w.1 (0))), (1, .int v1), (4, .int x4_20)]) hx hb dX6_next_58 rfl hl (by decide) rfl (fun ls hl => ?_)
          refine lv_iinc (v := (x4_20 + (1 : Int32))) (lv' := [(4, .int (x4_20 + (1 : Int32))), (3, .int v36), (2, .int x4_20), (5, .int v36), (0, .ref (w.1 (0))), (1, .int v1)]) hx hb dX6_next_59 hl (k := 5) rfl ii_1 (by decide) rfl (fun ls hl => ?_)
          refine lv_goto (tgt := 20) hx hb dX6_next_62 (by decide) ?_
          obtain rfl := Option.some.inj hf
          exact hG20 _ rfl _ _ _ hP hS (lv_sub hl [4, 5, 2, 1, 0] rfl)
  · have hf := ifn (fun h => h hc) hf
    refine lv_bipush (v := (-4 : Int32)) hx hb dX6_next_9 (by decide) ?_
    have hq := Option.some.inj hf
    exact q_iret hx hb hr hlk hP hS hq rfl dX6_next_11
def f_X6_seen (σ : Sg) (a1 : Int32) (a2 : Int32) (a3 : Int32) : Option (Int32 × Sg) :=
  (f_X5_isPost σ (6) a1).bind fun v5 =>
  if v5 = 0 then
  some ((-1 : Int32), σ)
  else
  (f_X5_isTown σ (6) a2).bind fun v16 =>
  if v16 = 0 then
  some ((-1 : Int32), σ)
  else
  (f_X5_isTown σ (6) a3).bind fun v27 =>
  if ¬ v27 = 0 then
  (f_X2_add σ (181) a1 a2 a3).bind fun q42 =>
  some (q42.1, q42.2)
  else
  some ((-1 : Int32), σ)
set_option maxHeartbeats 4000000 in
set_option maxRecDepth 100000 in
theorem c_X6_seen (l : Launch) (D : va_G) (w : Wv) (σ : Sg) (a1 : Int32) (a2 : Int32) (a3 : Int32) (r : Int32) (σ' : Sg)  (hJ : Inj w) (hf : f_X6_seen σ a1 a2 a3 = some (r, σ')) : Met l yX6_seen (.code yX6_seen cX6_seen 4 (some .int) :: TB) (rmW 2 47) (pcW D w [.ref (w.1 (0)), .int a1, .int a2, .int a3] σ) (qiW D w r σ') 0 0 (AL w) := by
  refine q_open (by decide +kernel) (Nat.le_of_ble_eq_true rfl) ?_
  intro p e s m args below meth c ls hx hb hml hr hlk hown hts hK hP hS hl
  have hown : s.vm.findClass RX6 = some m.cls := hown
  have hl : lv_has ls 4 [(0, .ref (w.1 (0))), (1, .int a1), (2, .int a2), (3, .int a3)] := hl
  unfold f_X6_seen at hf
  refine lv_aload_n hx hb dX6_seen_0 rfl (lv_at hl 0 rfl) ?_
  refine gt_X6_19 hx hb hts hown hK hP dX6_seen_1 ?_
  refine lv_iload_n hx hb dX6_seen_4 rfl (lv_at hl 1 rfl) ?_
  obtain ⟨v5, h5, hf⟩ := bnd hf
  refine q_cVz (As := [.int a1]) hx hb hts hml hown hK hP hS (c_X5_isPost l D w σ (6) a1 v5 isY6 h5) hw_X6_101 hd_X5_isPost ⟨rfl, rfl, rfl⟩ isY6.o (ce5 isY6.k) rfl ⟨Nat.le_of_ble_eq_true rfl, Nat.le_of_ble_eq_true rfl⟩ ⟨Nat.le_of_ble_eq_true rfl, Nat.le_of_ble_eq_true rfl⟩ hl.1 rfl (Nat.le_of_ble_eq_true rfl) dX6_seen_5 (fun hz5 H locs hP hS => ?_)
  refine lv_if_eq (tgt := 33) hx hb dX6_seen_8 (by decide) (fun hc => ?_) (fun hc => ?_)
  · have hf := ifp hc hf
    refine lv_iconst (v := (-1 : Int32)) hx hb dX6_seen_33 (by decide) ?_
    have hq := Option.some.inj hf
    exact q_iret hx hb hr hlk hP hS (congrArg Prod.fst hq) (congrArg Prod.snd hq) dX6_seen_34
  · have hf := ifn hc hf
    refine lv_aload_n hx hb dX6_seen_11 rfl (lv_at hl 0 rfl) ?_
    refine gt_X6_19 hx hb hts hown hK hP dX6_seen_12 ?_
    refine lv_iload_n hx hb dX6_seen_15 rfl (lv_at hl 2 rfl) ?_
    obtain ⟨v16, h16, hf⟩ := bnd hf
    refine q_cVz (As := [.int a2]) hx hb hts hml hown hK hP hS (c_X5_isTown l D w σ (6) a2 v16 isY6 h16) hw_X6_114 hd_X5_isTown ⟨rfl, rfl, rfl⟩ isY6.o (ce5 isY6.k) rfl ⟨Nat.le_of_ble_eq_true rfl, Nat.le_of_ble_eq_true rfl⟩ ⟨Nat.le_of_ble_eq_true rfl, Nat.le_of_ble_eq_true rfl⟩ hl.1 rfl (Nat.le_of_ble_eq_true rfl) dX6_seen_16 (fun hz16 H locs hP hS => ?_)
    refine lv_if_eq (tgt := 33) hx hb dX6_seen_19 (by decide) (fun hc => ?_) (fun hc => ?_)
    · have hf := ifp hc hf
      refine lv_iconst (v := (-1 : Int32)) hx hb dX6_seen_33 (by decide) ?_
      have hq := Option.some.inj hf
      exact q_iret hx hb hr hlk hP hS (congrArg Prod.fst hq) (congrArg Prod.snd hq) dX6_seen_34
    · have hf := ifn hc hf
      refine lv_aload_n hx hb dX6_seen_22 rfl (lv_at hl 0 rfl) ?_
      refine gt_X6_19 hx hb hts hown hK hP dX6_seen_23 ?_
      refine lv_iload_n hx hb dX6_seen_26 rfl (lv_at hl 3 rfl) ?_
      obtain ⟨v27, h27, hf⟩ := bnd hf
      refine q_cVz (As := [.int a3]) hx hb hts hml hown hK hP hS (c_X5_isTown l D w σ (6) a3 v27 isY6 h27) hw_X6_114 hd_X5_isTown ⟨rfl, rfl, rfl⟩ isY6.o (ce5 isY6.k) rfl ⟨Nat.le_of_ble_eq_true rfl, Nat.le_of_ble_eq_true rfl⟩ ⟨Nat.le_of_ble_eq_true rfl, Nat.le_of_ble_eq_true rfl⟩ hl.1 rfl (Nat.le_of_ble_eq_true rfl) dX6_seen_27 (fun hz27 H locs hP hS => ?_)
      refine lv_if_ne (tgt := 35) hx hb dX6_seen_30 (by decide) (fun hc => ?_) (fun hc => ?_)
      · have hf := ifp hc hf
        refine lv_aload_n hx hb dX6_seen_35 rfl (lv_at hl 0 rfl) ?_
        refine gt_X6_45 hx hb hts hown hK hP dX6_seen_36 ?_
        refine lv_iload_n hx hb dX6_seen_39 rfl (lv_at hl 1 rfl) ?_
        refine lv_iload_n hx hb dX6_seen_40 rfl (lv_at hl 2 rfl) ?_
        refine lv_iload_n hx hb dX6_seen_41 rfl (lv_at hl 3 rfl) ?_
        obtain ⟨⟨v42, σ42⟩, h42, hf⟩ := bnd hf
        dsimp only at hf
        refine q_cVi (As := [.int a1, .int a2, .int a3]) hx hb hts hml hown hK hP hS (c_X2_add l D w σ (181) a1 a2 a3 v42 σ42 isN181 hJ h42) hw_X6_212 hd_X2_add ⟨rfl, rfl, rfl⟩ isN181.o (ce2 isN181.k) rfl ⟨Nat.le_of_ble_eq_true rfl, Nat.le_of_ble_eq_true rfl⟩ ⟨Nat.le_of_ble_eq_true rfl, Nat.le_of_ble_eq_true rfl⟩ hl.1 rfl (Nat.le_of_ble_eq_true rfl) dX6_seen_42 (fun H locs hP hS => ?_)
        have hq := Option.some.inj hf
        exact q_iret hx hb hr hlk hP hS (congrArg Prod.fst hq) (congrArg Prod.snd hq) dX6_seen_45
      · have hf := ifn (fun h => h hc) hf
        refine lv_iconst (v := (-1 : Int32)) hx hb dX6_seen_33 (by decide) ?_
        have hq := Option.some.inj hf
        exact q_iret hx hb hr hlk hP hS (congrArg Prod.fst hq) (congrArg Prod.snd hq) dX6_seen_34
def f_X6_fitsSightings_b1 (σ : Sg) (a1 : Int32) (x2_2 : Int32) : Option (Int32 ⊕ (Unit ⊕ Unit)) :=
  (f_X2_held σ (181)).bind fun v7 =>
  if v7 ≤ x2_2 then
  some (.inr (.inr ()))
  else
  (f_X2_number σ (181) x2_2 (0 : Int32)).bind fun v19 =>
  if ¬ v19 = a1 then
  some (.inl (x2_2 + (1 : Int32)))
  else
  (f_X2_number σ (181) x2_2 (1 : Int32)).bind fun v47 =>
  (f_X5_pointing σ (20) a1 v47).bind fun v50 =>
  (f_X2_number σ (181) x2_2 (2 : Int32)).bind fun v59 =>
  if v50 = v59 then
  some (.inl (x2_2 + (1 : Int32)))
  else
  some (.inr (.inl ()))
def f_X6_fitsSightings_k1 (_u : Unit) : Option Int32 :=
  some (0 : Int32)
def f_X6_fitsSightings_k2 (_u : Unit) : Option Int32 :=
  some (1 : Int32)
def f_X6_fitsSightings (σ : Sg) (a1 : Int32) : Option Int32 :=
  (lp (fun st => f_X6_fitsSightings_b1 σ a1 st) FU (0 : Int32)).bind fun rr => Sum.elim (fun q => f_X6_fitsSightings_k1 ()) (fun q => f_X6_fitsSightings_k2 ()) rr
set_option maxHeartbeats 4000000 in
set_option maxRecDepth 100000 in
theorem c_X6_fitsSightings (l : Launch) (D : va_G) (w : Wv) (σ : Sg) (a1 : Int32) (r : Int32)  (hf : f_X6_fitsSightings σ a1 = some r) : Met l yX6_fitsSightings (.code yX6_fitsSightings cX6_fitsSightings 4 (some .boolean) :: TB) (rmW 3 74) (pcW D w [.ref (w.1 (0)), .int a1] σ) (qzW D w r σ) 0 0 (AL w) := by
  refine q_open (by decide +kernel) (Nat.le_of_ble_eq_true rfl) ?_
  intro p e s m args below meth c ls hx hb hml hr hlk hown hts hK hP hS hl
  have hown : s.vm.findClass RX6 = some m.cls := hown
  have hl : lv_has ls 4 [(0, .ref (w.1 (0))), (1, .int a1)] := hl
  unfold f_X6_fitsSightings at hf
  refine lv_iconst (v := (0 : Int32)) hx hb dX6_fitsSightings_0 (by decide) ?_
  refine lv_istore_n (lv' := [(2, .int (0 : Int32)), (0, .ref (w.1 (0))), (1, .int a1)]) hx hb dX6_fitsSightings_1 rfl hl (by decide) rfl (fun ls hl => ?_)
  obtain ⟨rr, hlp, hf⟩ := bnd hf
  have hE2_65 : ∀  (H : Heap) (locs : List Loc) (ls : Array Slot), f_X6_fitsSightings_k1 () = some r → va_P D vwCl (WL w σ) H → va_S (AL w) s.heap H locs → lv_has ls 4 [] → W p l e (rmW 3 74) s m args below meth c H locs 0 0 (MQ below (qzW D w r σ) args s 0 0 (AL w)) (F0 m 65 ls []) := by
    intro  H locs ls hf hP hS hl
    unfold f_X6_fitsSightings_k1 at hf
    refine lv_iconst (v := (0 : Int32)) hx hb dX6_fitsSightings_65 (by decide) ?_
    have hq := Option.some.inj hf
    exact q_zret hx hb hr hlk hP hS rfl hq rfl dX6_fitsSightings_66
  have hE2_73 : ∀  (H : Heap) (locs : List Loc) (ls : Array Slot), f_X6_fitsSightings_k2 () = some r → va_P D vwCl (WL w σ) H → va_S (AL w) s.heap H locs → lv_has ls 4 [] → W p l e (rmW 3 74) s m args below meth c H locs 0 0 (MQ below (qzW D w r σ) args s 0 0 (AL w)) (F0 m 73 ls []) := by
    intro  H locs ls hf hP hS hl
    unfold f_X6_fitsSightings_k2 at hf
    refine lv_iconst (v := (1 : Int32)) hx hb dX6_fitsSightings_73 (by decide) ?_
    have hq := Option.some.inj hf
    exact q_zret hx hb hr hlk hP hS rfl hq rfl dX6_fitsSightings_74
  refine useP (lp_ind (S := Int32) (R := (Unit ⊕ Unit)) (b := fun st => f_X6_fitsSightings_b1 σ a1 st) (G := fun (st : Int32) => ∀ (H : Heap) (locs : List Loc) (ls : Array Slot), va_P D vwCl (WL w σ) H → va_S (AL w) s.heap H locs → lv_has ls 4 [(0, .ref (w.1 (0))), (1, .int a1), (2, .int st)] → W p l e (rmW 3 74) s m args below meth c H locs 0 0 (MQ below (qzW D w r σ) args s 0 0 (AL w)) (F0 m 2 ls [])) (X := fun rr => Sum.elim (fun q => f_X6_fitsSightings_k1 ()) (fun q => f_X6_fitsSightings_k2 ()) rr = some r) ?_ FU (0 : Int32) rr hlp hf) (fun hGo => hGo _ _ _ hP hS (lv_sub hl [1, 2, 0] rfl))
  intro x2_2 oo2 hb9 hG2 hX2 H locs ls hP hS hl
  have hP : va_P D vwCl (WL w σ) H := hP
  have hl : lv_has ls 4 [(0, .ref (w.1 (0))), (1, .int a1), (2, .int x2_2)] := hl
  have hf : f_X6_fitsSightings_b1 σ a1 x2_2 = some oo2 := hb9
  unfold f_X6_fitsSightings_b1 at hf
  refine lv_iload_n hx hb dX6_fitsSightings_2 rfl (lv_at hl 2 rfl) ?_
  refine lv_aload_n hx hb dX6_fitsSightings_3 rfl (lv_at hl 0 rfl) ?_
  refine gt_X6_45 hx hb hts hown hK hP dX6_fitsSightings_4 ?_
  obtain ⟨v7, h7, hf⟩ := bnd hf
  refine q_cVi (As := []) hx hb hts hml hown hK hP hS (c_X2_held l D w σ (181) v7 isN181 h7) hw_X6_219 hd_X2_held ⟨rfl, rfl, rfl⟩ isN181.o (ce2 isN181.k) rfl ⟨Nat.le_of_ble_eq_true rfl, Nat.le_of_ble_eq_true rfl⟩ ⟨Nat.le_of_ble_eq_true rfl, Nat.le_of_ble_eq_true rfl⟩ hl.1 rfl (Nat.le_of_ble_eq_true rfl) dX6_fitsSightings_7 (fun H locs hP hS => ?_)
  refine lv_icmp_ge (tgt := 73) hx hb dX6_fitsSightings_10 (by decide) (fun hc => ?_) (fun hc => ?_)
  · have hf := ifp hc hf
    obtain rfl := Option.some.inj hf
    exact hE2_73  _ _ _ (hX2 _ rfl) hP hS (lv_sub hl [] rfl)
  · have hf := ifn hc hf
    refine lv_aload_n hx hb dX6_fitsSightings_13 rfl (lv_at hl 0 rfl) ?_
    refine gt_X6_45 hx hb hts hown hK hP dX6_fitsSightings_14 ?_
    refine lv_iload_n hx hb dX6_fitsSightings_17 rfl (lv_at hl 2 rfl) ?_
    refine lv_iconst (v := (0 : Int32)) hx hb dX6_fitsSightings_18 (by decide) ?_
    obtain ⟨v19, h19, hf⟩ := bnd hf
    refine q_cVi (As := [.int x2_2, .int (0 : Int32)]) hx hb hts hml hown hK hP hS (c_X2_number l D w σ (181) x2_2 (0 : Int32) v19 isN181 h19) hw_X6_220 hd_X2_number ⟨rfl, rfl, rfl⟩ isN181.o (ce2 isN181.k) rfl ⟨Nat.le_of_ble_eq_true rfl, Nat.le_of_ble_eq_true rfl⟩ ⟨Nat.le_of_ble_eq_true rfl, Nat.le_of_ble_eq_true rfl⟩ hl.1 rfl (Nat.le_of_ble_eq_true rfl) dX6_fitsSightings_19 (fun H locs hP hS => ?_)
    refine lv_iload_n hx hb dX6_fitsSightings_22 rfl (lv_at hl 1 rfl) ?_
    refine lv_icmp_ne (tgt := 30) hx hb dX6_fitsSightings_23 (by decide) (fun hc => ?_) (fun hc => ?_)
    · have hf := ifp hc hf
      refine lv_iconst (v := (0 : Int32)) hx hb dX6_fitsSightings_30 (by decide) ?_
      refine lv_istore_n (lv' := [(3, .int (0 : Int32)), (0, .ref (w.1 (0))), (1, .int a1), (2, .int x2_2)]) hx hb dX6_fitsSightings_31 rfl hl (by decide) rfl (fun ls hl => ?_)
      refine lv_iload_n hx hb dX6_fitsSightings_32 rfl (lv_at hl 0 rfl) ?_
      refine lv_if_eq (tgt := 67) hx hb dX6_fitsSightings_33 (by decide) (fun _ => ?_) (fun hc => absurd (by decide) hc)
      refine lv_iinc (v := (x2_2 + (1 : Int32))) (lv' := [(2, .int (x2_2 + (1 : Int32))), (3, .int (0 : Int32)), (0, .ref (w.1 (0))), (1, .int a1)]) hx hb dX6_fitsSightings_67 hl (k := 3) rfl ii_1 (by decide) rfl (fun ls hl => ?_)
      refine lv_goto (tgt := 2) hx hb dX6_fitsSightings_70 (by decide) ?_
      obtain rfl := Option.some.inj hf
      exact hG2 _ rfl _ _ _ hP hS (lv_sub hl [2, 3, 0] rfl)
    · have hf := ifn (fun h => h hc) hf
      refine lv_iconst (v := (1 : Int32)) hx hb dX6_fitsSightings_26 (by decide) ?_
      refine lv_goto (tgt := 31) hx hb dX6_fitsSightings_27 (by decide) ?_
      refine lv_istore_n (lv' := [(3, .int (1 : Int32)), (0, .ref (w.1 (0))), (1, .int a1), (2, .int x2_2)]) hx hb dX6_fitsSightings_31 rfl hl (by decide) rfl (fun ls hl => ?_)
      refine lv_iload_n hx hb dX6_fitsSightings_32 rfl (lv_at hl 0 rfl) ?_
      refine lv_if_eq (tgt := 67) hx hb dX6_fitsSightings_33 (by decide) (fun hc => absurd hc (by decide)) (fun _ => ?_)
      refine lv_aload_n hx hb dX6_fitsSightings_36 rfl (lv_at hl 1 rfl) ?_
      refine gt_X6_23 hx hb hts hown hK hP dX6_fitsSightings_37 ?_
      refine lv_iload_n hx hb dX6_fitsSightings_40 rfl (lv_at hl 2 rfl) ?_
      refine lv_aload_n hx hb dX6_fitsSightings_41 rfl (lv_at hl 1 rfl) ?_
      refine gt_X6_45 hx hb hts hown hK hP dX6_fitsSightings_42 ?_
      refine lv_iload_n hx hb dX6_fitsSightings_45 rfl (lv_at hl 3 rfl) ?_
      refine lv_iconst (v := (1 : Int32)) hx hb dX6_fitsSightings_46 (by decide) ?_
      obtain ⟨v47, h47, hf⟩ := bnd hf
      refine q_cVi (As := [.int x2_2, .int (1 : Int32)]) hx hb hts hml hown hK hP hS (c_X2_number l D w σ (181) x2_2 (1 : Int32) v47 isN181 h47) hw_X6_220 hd_X2_number ⟨rfl, rfl, rfl⟩ isN181.o (ce2 isN181.k) rfl ⟨Nat.le_of_ble_eq_true rfl, Nat.le_of_ble_eq_true rfl⟩ ⟨Nat.le_of_ble_eq_true rfl, Nat.le_of_ble_eq_true rfl⟩ hl.1 rfl (Nat.le_of_ble_eq_true rfl) dX6_fitsSightings_47 (fun H locs hP hS => ?_)
      obtain ⟨v50, h50, hf⟩ := bnd hf
      refine q_cVi (As := [.int a1, .int v47]) hx hb hts hml hown hK hP hS (c_X5_pointing l D w σ (20) a1 v47 v50 isY20 h50) hw_X6_123 hd_X5_pointing ⟨rfl, rfl, rfl⟩ isY20.o (ce5 isY20.k) rfl ⟨Nat.le_of_ble_eq_true rfl, Nat.le_of_ble_eq_true rfl⟩ ⟨Nat.le_of_ble_eq_true rfl, Nat.le_of_ble_eq_true rfl⟩ hl.1 rfl (Nat.le_of_ble_eq_true rfl) dX6_fitsSightings_50 (fun H locs hP hS => ?_)
      refine lv_aload_n hx hb dX6_fitsSightings_53 rfl (lv_at hl 1 rfl) ?_
      refine gt_X6_45 hx hb hts hown hK hP dX6_fitsSightings_54 ?_
      refine lv_iload_n hx hb dX6_fitsSightings_57 rfl (lv_at hl 3 rfl) ?_
      refine lv_iconst (v := (2 : Int32)) hx hb dX6_fitsSightings_58 (by decide) ?_
      obtain ⟨v59, h59, hf⟩ := bnd hf
      refine q_cVi (As := [.int x2_2, .int (2 : Int32)]) hx hb hts hml hown hK hP hS (c_X2_number l D w σ (181) x2_2 (2 : Int32) v59 isN181 h59) hw_X6_220 hd_X2_number ⟨rfl, rfl, rfl⟩ isN181.o (ce2 isN181.k) rfl ⟨Nat.le_of_ble_eq_true rfl, Nat.le_of_ble_eq_true rfl⟩ ⟨Nat.le_of_ble_eq_true rfl, Nat.le_of_ble_eq_true rfl⟩ hl.1 rfl (Nat.le_of_ble_eq_true rfl) dX6_fitsSightings_59 (fun H locs hP hS => ?_)
      refine lv_icmp_eq (tgt := 67) hx hb dX6_fitsSightings_62 (by decide) (fun hc => ?_) (fun hc => ?_)
      · have hf := ifp hc hf
        refine lv_iinc (v := (x2_2 + (1 : Int32))) (lv' := [(2, .int (x2_2 + (1 : Int32))), (3, .int (1 : Int32)), (0, .ref (w.1 (0))), (1, .int a1)]) hx hb dX6_fitsSightings_67 hl (k := 3) rfl ii_1 (by decide) rfl (fun ls hl => ?_)
        refine lv_goto (tgt := 2) hx hb dX6_fitsSightings_70 (by decide) ?_
        obtain rfl := Option.some.inj hf
        exact hG2 _ rfl _ _ _ hP hS (lv_sub hl [2, 3, 0] rfl)
      · have hf := ifn hc hf
        obtain rfl := Option.some.inj hf
        exact hE2_65  _ _ _ (hX2 _ rfl) hP hS (lv_sub hl [] rfl)
def f_X6_kinds_b1 (a1 : Int32) (x2_28 : Int32) (x3_28 : Int32) (σ_28 : Sg) : Option ((Int32 × Int32 × Sg) ⊕ (Int32 × Sg)) :=
  if (4 : Int32) ≤ x3_28 then
  some (.inr (x2_28, σ_28))
  else
  (f_X5_turnInto σ_28 (20) a1 x3_28).bind fun σ39 =>
  (f_X6_fitsSightings σ39 a1).bind fun v44 =>
  if v44 = 0 then
  some (.inl (x2_28, (x3_28 + (1 : Int32)), σ39))
  else
  some (.inl ((x2_28 ||| ((1 : Int32) <<< (x3_28 &&& 31))), (x3_28 + (1 : Int32)), σ39))
def f_X6_kinds_k1 (y2_62 : Int32) (σ_62 : Sg) : Option (Int32 × Sg) :=
  some (y2_62, σ_62)
def f_X6_kinds (σ : Sg) (a1 : Int32) : Option (Int32 × Sg) :=
  (f_X5_isPost σ (6) a1).bind fun v5 =>
  if ¬ v5 = 0 then
  (f_X5_become σ (20) (6)).bind fun σ21 =>
  (lp (fun st => f_X6_kinds_b1 a1 st.1 st.2.1 st.2.2) FU ((0 : Int32), (0 : Int32), σ21)).bind fun rr => f_X6_kinds_k1 rr.1 rr.2
  else
  some ((-1 : Int32), σ)
set_option maxHeartbeats 4000000 in
set_option maxRecDepth 100000 in
theorem c_X6_kinds (l : Launch) (D : va_G) (w : Wv) (σ : Sg) (a1 : Int32) (r : Int32) (σ' : Sg)  (hJ : Inj w) (hf : f_X6_kinds σ a1 = some (r, σ')) : Met l yX6_kinds (.code yX6_kinds cX6_kinds 4 (some .int) :: TB) (rmW 4 97) (pcW D w [.ref (w.1 (0)), .int a1] σ) (qiW D w r σ') 0 0 (AL w) := by
  refine q_open (by decide +kernel) (Nat.le_of_ble_eq_true rfl) ?_
  intro p e s m args below meth c ls hx hb hml hr hlk hown hts hK hP hS hl
  have hown : s.vm.findClass RX6 = some m.cls := hown
  have hl : lv_has ls 4 [(0, .ref (w.1 (0))), (1, .int a1)] := hl
  unfold f_X6_kinds at hf
  refine lv_aload_n hx hb dX6_kinds_0 rfl (lv_at hl 0 rfl) ?_
  refine gt_X6_19 hx hb hts hown hK hP dX6_kinds_1 ?_
  refine lv_iload_n hx hb dX6_kinds_4 rfl (lv_at hl 1 rfl) ?_
  obtain ⟨v5, h5, hf⟩ := bnd hf
  refine q_cVz (As := [.int a1]) hx hb hts hml hown hK hP hS (c_X5_isPost l D w σ (6) a1 v5 isY6 h5) hw_X6_101 hd_X5_isPost ⟨rfl, rfl, rfl⟩ isY6.o (ce5 isY6.k) rfl ⟨Nat.le_of_ble_eq_true rfl, Nat.le_of_ble_eq_true rfl⟩ ⟨Nat.le_of_ble_eq_true rfl, Nat.le_of_ble_eq_true rfl⟩ hl.1 rfl (Nat.le_of_ble_eq_true rfl) dX6_kinds_5 (fun hz5 H locs hP hS => ?_)
  refine lv_if_ne (tgt := 13) hx hb dX6_kinds_8 (by decide) (fun hc => ?_) (fun hc => ?_)
  · have hf := ifp hc hf
    refine lv_aload_n hx hb dX6_kinds_13 rfl (lv_at hl 0 rfl) ?_
    refine gt_X6_23 hx hb hts hown hK hP dX6_kinds_14 ?_
    refine lv_aload_n hx hb dX6_kinds_17 rfl (lv_at hl 0 rfl) ?_
    refine gt_X6_19 hx hb hts hown hK hP dX6_kinds_18 ?_
    obtain ⟨σ21, h21, hf⟩ := bnd hf
    refine q_cVv (As := [.ref (w.1 (6))]) hx hb hts hml hown hK hP hS (c_X5_become l D w σ (20) (6) σ21 isY20 isY6 hJ h21) hw_X6_80 hd_X5_become ⟨rfl, rfl, rfl⟩ isY20.o (ce5 isY20.k) rfl ⟨Nat.le_of_ble_eq_true rfl, Nat.le_of_ble_eq_true rfl⟩ ⟨Nat.le_of_ble_eq_true rfl, Nat.le_of_ble_eq_true rfl⟩ hl.1 rfl (Nat.le_of_ble_eq_true rfl) dX6_kinds_21 (fun H locs hP hS => ?_)
    refine lv_iconst (v := (0 : Int32)) hx hb dX6_kinds_24 (by decide) ?_
    refine lv_istore_n (lv' := [(2, .int (0 : Int32)), (0, .ref (w.1 (0))), (1, .int a1)]) hx hb dX6_kinds_25 rfl hl (by decide) rfl (fun ls hl => ?_)
    refine lv_iconst (v := (0 : Int32)) hx hb dX6_kinds_26 (by decide) ?_
    refine lv_istore_n (lv' := [(3, .int (0 : Int32)), (2, .int (0 : Int32)), (0, .ref (w.1 (0))), (1, .int a1)]) hx hb dX6_kinds_27 rfl hl (by decide) rfl (fun ls hl => ?_)
    obtain ⟨rr, hlp, hf⟩ := bnd hf
    have hE28_62 : ∀ (y2_62 : Int32) (σ_62 : Sg) (H : Heap) (locs : List Loc) (ls : Array Slot), f_X6_kinds_k1 y2_62 σ_62 = some (r, σ') → va_P D vwCl (WL w σ_62) H → va_S (AL w) s.heap H locs → lv_has ls 4 [(2, .int y2_62)] → W p l e (rmW 4 97) s m args below meth c H locs 0 0 (MQ below (qiW D w r σ') args s 0 0 (AL w)) (F0 m 62 ls []) := by
      intro y2_62 σ_62 H locs ls hf hP hS hl
      unfold f_X6_kinds_k1 at hf
      refine lv_iload_n hx hb dX6_kinds_62 rfl (lv_at hl 0 rfl) ?_
      have hq := Option.some.inj hf
      exact q_iret hx hb hr hlk hP hS (congrArg Prod.fst hq) (congrArg Prod.snd hq) dX6_kinds_63
    refine useP (lp_ind (S := (Int32 × Int32 × Sg)) (R := (Int32 × Sg)) (b := fun st => f_X6_kinds_b1 a1 st.1 st.2.1 st.2.2) (G := fun (st : (Int32 × Int32 × Sg)) => ∀ (H : Heap) (locs : List Loc) (ls : Array Slot), va_P D vwCl (WL w st.2.2) H → va_S (AL w) s.heap H locs → lv_has ls 4 [(0, .ref (w.1 (0))), (1, .int a1), (2, .int st.1), (3, .int st.2.1)] → W p l e (rmW 4 97) s m args below meth c H locs 0 0 (MQ below (qiW D w r σ') args s 0 0 (AL w)) (F0 m 28 ls [])) (X := fun rr => f_X6_kinds_k1 rr.1 rr.2 = some (r, σ')) ?_ FU ((0 : Int32), (0 : Int32), σ21) rr hlp hf) (fun hGo => hGo _ _ _ hP hS (lv_sub hl [2, 3, 1, 0] rfl))
    rintro ⟨x2_28, x3_28, σ_28⟩ oo28 hb9 hG28 hX28 H locs ls hP hS hl
    have hP : va_P D vwCl (WL w σ_28) H := hP
    have hl : lv_has ls 4 [(0, .ref (w.1 (0))), (1, .int a1), (2, .int x2_28), (3, .int x3_28)] := hl
    have hf : f_X6_kinds_b1 a1 x2_28 x3_28 σ_28 = some oo28 := hb9
    unfold f_X6_kinds_b1 at hf
    refine lv_iload_n hx hb dX6_kinds_28 rfl (lv_at hl 3 rfl) ?_
    refine lv_iconst (v := (4 : Int32)) hx hb dX6_kinds_29 (by decide) ?_
    refine lv_icmp_ge (tgt := 62) hx hb dX6_kinds_30 (by decide) (fun hc => ?_) (fun hc => ?_)
    · have hf := ifp hc hf
      obtain rfl := Option.some.inj hf
      exact hE28_62 x2_28 σ_28 _ _ _ (hX28 _ rfl) hP hS (lv_sub hl [2] rfl)
    · have hf := ifn hc hf
      refine lv_aload_n hx hb dX6_kinds_33 rfl (lv_at hl 0 rfl) ?_
      refine gt_X6_23 hx hb hts hown hK hP dX6_kinds_34 ?_
      refine lv_iload_n hx hb dX6_kinds_37 rfl (lv_at hl 1 rfl) ?_
      refine lv_iload_n hx hb dX6_kinds_38 rfl (lv_at hl 3 rfl) ?_
      obtain ⟨σ39, h39, hf⟩ := bnd hf
      refine q_cVv (As := [.int a1, .int x3_28]) hx hb hts hml hown hK hP hS (c_X5_turnInto l D w σ_28 (20) a1 x3_28 σ39 isY20 hJ h39) hw_X6_244 hd_X5_turnInto ⟨rfl, rfl, rfl⟩ isY20.o (ce5 isY20.k) rfl ⟨Nat.le_of_ble_eq_true rfl, Nat.le_of_ble_eq_true rfl⟩ ⟨Nat.le_of_ble_eq_true rfl, Nat.le_of_ble_eq_true rfl⟩ hl.1 rfl (Nat.le_of_ble_eq_true rfl) dX6_kinds_39 (fun H locs hP hS => ?_)
      refine lv_aload_n hx hb dX6_kinds_42 rfl (lv_at hl 0 rfl) ?_
      refine lv_iload_n hx hb dX6_kinds_43 rfl (lv_at hl 1 rfl) ?_
      obtain ⟨v44, h44, hf⟩ := bnd hf
      refine q_cVz (As := [.int a1]) hx hb hts hml hown hK hP hS (c_X6_fitsSightings l D w σ39 a1 v44 h44) hw_X6_247 hd_X6_fitsSightings ⟨rfl, rfl, rfl⟩ o0 (ce6 kd0) rfl ⟨Nat.le_of_ble_eq_true rfl, Nat.le_of_ble_eq_true rfl⟩ ⟨Nat.le_of_ble_eq_true rfl, Nat.le_of_ble_eq_true rfl⟩ hl.1 rfl (Nat.le_of_ble_eq_true rfl) dX6_kinds_44 (fun hz44 H locs hP hS => ?_)
      refine lv_if_eq (tgt := 56) hx hb dX6_kinds_47 (by decide) (fun hc => ?_) (fun hc => ?_)
      · have hf := ifp hc hf
        refine lv_iinc (v := (x3_28 + (1 : Int32))) (lv' := [(3, .int (x3_28 + (1 : Int32))), (0, .ref (w.1 (0))), (1, .int a1), (2, .int x2_28)]) hx hb dX6_kinds_56 hl (k := 3) rfl ii_1 (by decide) rfl (fun ls hl => ?_)
        refine lv_goto (tgt := 28) hx hb dX6_kinds_59 (by decide) ?_
        obtain rfl := Option.some.inj hf
        exact hG28 _ rfl _ _ _ hP hS (lv_sub hl [1, 2, 3, 0] rfl)
      · have hf := ifn hc hf
        refine lv_iload_n hx hb dX6_kinds_50 rfl (lv_at hl 2 rfl) ?_
        refine lv_iconst (v := (1 : Int32)) hx hb dX6_kinds_51 (by decide) ?_
        refine lv_iload_n hx hb dX6_kinds_52 rfl (lv_at hl 3 rfl) ?_
        refine lv_ishl hx hb dX6_kinds_53 ?_
        refine lv_ior hx hb dX6_kinds_54 ?_
        refine lv_istore_n (lv' := [(2, .int (x2_28 ||| ((1 : Int32) <<< (x3_28 &&& 31)))), (0, .ref (w.1 (0))), (1, .int a1), (3, .int x3_28)]) hx hb dX6_kinds_55 rfl hl (by decide) rfl (fun ls hl => ?_)
        refine lv_iinc (v := (x3_28 + (1 : Int32))) (lv' := [(3, .int (x3_28 + (1 : Int32))), (2, .int (x2_28 ||| ((1 : Int32) <<< (x3_28 &&& 31)))), (0, .ref (w.1 (0))), (1, .int a1)]) hx hb dX6_kinds_56 hl (k := 3) rfl ii_1 (by decide) rfl (fun ls hl => ?_)
        refine lv_goto (tgt := 28) hx hb dX6_kinds_59 (by decide) ?_
        obtain rfl := Option.some.inj hf
        exact hG28 _ rfl _ _ _ hP hS (lv_sub hl [2, 3, 1, 0] rfl)
  · have hf := ifn (fun h => h hc) hf
    refine lv_iconst (v := (-1 : Int32)) hx hb dX6_kinds_11 (by decide) ?_
    have hq := Option.some.inj hf
    exact q_iret hx hb hr hlk hP hS (congrArg Prod.fst hq) (congrArg Prod.snd hq) dX6_kinds_12
def f_X6_forget (σ : Sg)  : Option (Int32 × Sg) :=
  (f_X2_empty σ (178)).bind fun q4 =>
  (f_X2_empty q4.2 (181)).bind fun q11 =>
  some ((q4.1 + q11.1), q11.2)
set_option maxHeartbeats 4000000 in
set_option maxRecDepth 100000 in
theorem c_X6_forget (l : Launch) (D : va_G) (w : Wv) (σ : Sg)  (r : Int32) (σ' : Sg)  (hJ : Inj w) (hf : f_X6_forget σ = some (r, σ')) : Met l yX6_forget (.code yX6_forget cX6_forget 1 (some .int) :: TB) (rmW 1 21) (pcW D w [.ref (w.1 (0))] σ) (qiW D w r σ') 0 0 (AL w) := by
  refine q_open (by decide +kernel) (Nat.le_of_ble_eq_true rfl) ?_
  intro p e s m args below meth c ls hx hb hml hr hlk hown hts hK hP hS hl
  have hown : s.vm.findClass RX6 = some m.cls := hown
  have hl : lv_has ls 1 [(0, .ref (w.1 (0)))] := hl
  unfold f_X6_forget at hf
  refine lv_aload_n hx hb dX6_forget_0 rfl (lv_at hl 0 rfl) ?_
  refine gt_X6_41 hx hb hts hown hK hP dX6_forget_1 ?_
  obtain ⟨⟨v4, σ4⟩, h4, hf⟩ := bnd hf
  dsimp only at hf
  refine q_cVi (As := []) hx hb hts hml hown hK hP hS (c_X2_empty l D w σ (178) v4 σ4 isN178 hJ h4) hw_X6_86 hd_X2_empty ⟨rfl, rfl, rfl⟩ isN178.o (ce2 isN178.k) rfl ⟨Nat.le_of_ble_eq_true rfl, Nat.le_of_ble_eq_true rfl⟩ ⟨Nat.le_of_ble_eq_true rfl, Nat.le_of_ble_eq_true rfl⟩ hl.1 rfl (Nat.le_of_ble_eq_true rfl) dX6_forget_4 (fun H locs hP hS => ?_)
  refine lv_aload_n hx hb dX6_forget_7 rfl (lv_at hl 0 rfl) ?_
  refine gt_X6_45 hx hb hts hown hK hP dX6_forget_8 ?_
  obtain ⟨⟨v11, σ11⟩, h11, hf⟩ := bnd hf
  dsimp only at hf
  refine q_cVi (As := []) hx hb hts hml hown hK hP hS (c_X2_empty l D w σ4 (181) v11 σ11 isN181 hJ h11) hw_X6_86 hd_X2_empty ⟨rfl, rfl, rfl⟩ isN181.o (ce2 isN181.k) rfl ⟨Nat.le_of_ble_eq_true rfl, Nat.le_of_ble_eq_true rfl⟩ ⟨Nat.le_of_ble_eq_true rfl, Nat.le_of_ble_eq_true rfl⟩ hl.1 rfl (Nat.le_of_ble_eq_true rfl) dX6_forget_11 (fun H locs hP hS => ?_)
  refine lv_iadd hx hb dX6_forget_14 ?_
  have hq := Option.some.inj hf
  exact q_iret hx hb hr hlk hP hS (congrArg Prod.fst hq) (congrArg Prod.snd hq) dX6_forget_15
def f_X6_weightOf_b1 (σ : Sg) (a1 : Int32) (a2 : Int32) (x3_5 : Int32) (x4_5 : Int32) : Option ((Int32 × Int32) ⊕ Int32) :=
  (f_X5_posts σ (6)).bind fun v11 =>
  if v11 ≤ x4_5 then
  some (.inr x3_5)
  else
  (f_X5_isRetired σ (6) x4_5).bind fun v23 =>
  if ¬ v23 = 0 then
  some (.inl (x3_5, (x4_5 + (1 : Int32))))
  else
  (f_X6_hasBit σ a1 x4_5).bind fun v33 =>
  if v33 = 0 then
  some (.inl ((x3_5 * ((10 : Int32) - a2)), (x4_5 + (1 : Int32))))
  else
  some (.inl ((x3_5 * a2), (x4_5 + (1 : Int32))))
def f_X6_weightOf_k1 (y3_55 : Int32) : Option Int32 :=
  some y3_55
def f_X6_weightOf (σ : Sg) (a1 : Int32) (a2 : Int32) : Option Int32 :=
  (lp (fun st => f_X6_weightOf_b1 σ a1 a2 st.1 st.2) FU ((1 : Int32), (0 : Int32))).bind fun rr => f_X6_weightOf_k1 rr
set_option maxHeartbeats 4000000 in
set_option maxRecDepth 100000 in
theorem c_X6_weightOf (l : Launch) (D : va_G) (w : Wv) (σ : Sg) (a1 : Int32) (a2 : Int32) (r : Int32)  (hf : f_X6_weightOf σ a1 a2 = some r) : Met l yX6_weightOf (.code yX6_weightOf cX6_weightOf 5 (some .int) :: TB) (rmW 2 45) (pcW D w [.ref (w.1 (0)), .int a1, .int a2] σ) (qiW D w r σ) 0 0 (AL w) := by
  refine q_open (by decide +kernel) (Nat.le_of_ble_eq_true rfl) ?_
  intro p e s m args below meth c ls hx hb hml hr hlk hown hts hK hP hS hl
  have hown : s.vm.findClass RX6 = some m.cls := hown
  have hl : lv_has ls 5 [(0, .ref (w.1 (0))), (1, .int a1), (2, .int a2)] := hl
  unfold f_X6_weightOf at hf
  refine lv_iconst (v := (1 : Int32)) hx hb dX6_weightOf_0 (by decide) ?_
  refine lv_istore_n (lv' := [(3, .int (1 : Int32)), (0, .ref (w.1 (0))), (1, .int a1), (2, .int a2)]) hx hb dX6_weightOf_1 rfl hl (by decide) rfl (fun ls hl => ?_)
  refine lv_iconst (v := (0 : Int32)) hx hb dX6_weightOf_2 (by decide) ?_
  refine lv_istore (lv' := [(4, .int (0 : Int32)), (3, .int (1 : Int32)), (0, .ref (w.1 (0))), (1, .int a1), (2, .int a2)]) hx hb dX6_weightOf_3 hl (by decide) rfl (fun ls hl => ?_)
  obtain ⟨rr, hlp, hf⟩ := bnd hf
  have hE5_55 : ∀ (y3_55 : Int32) (H : Heap) (locs : List Loc) (ls : Array Slot), f_X6_weightOf_k1 y3_55 = some r → va_P D vwCl (WL w σ) H → va_S (AL w) s.heap H locs → lv_has ls 5 [(3, .int y3_55)] → W p l e (rmW 2 45) s m args below meth c H locs 0 0 (MQ below (qiW D w r σ) args s 0 0 (AL w)) (F0 m 55 ls []) := by
    intro y3_55 H locs ls hf hP hS hl
    unfold f_X6_weightOf_k1 at hf
    refine lv_iload_n hx hb dX6_weightOf_55 rfl (lv_at hl 0 rfl) ?_
    have hq := Option.some.inj hf
    exact q_iret hx hb hr hlk hP hS hq rfl dX6_weightOf_56
  refine useP (lp_ind (S := (Int32 × Int32)) (R := Int32) (b := fun st => f_X6_weightOf_b1 σ a1 a2 st.1 st.2) (G := fun (st : (Int32 × Int32)) => ∀ (H : Heap) (locs : List Loc) (ls : Array Slot), va_P D vwCl (WL w σ) H → va_S (AL w) s.heap H locs → lv_has ls 5 [(0, .ref (w.1 (0))), (1, .int a1), (2, .int a2), (3, .int st.1), (4, .int st.2)] → W p l e (rmW 2 45) s m args below meth c H locs 0 0 (MQ below (qiW D w r σ) args s 0 0 (AL w)) (F0 m 5 ls [])) (X := fun rr => f_X6_weightOf_k1 rr = some r) ?_ FU ((1 : Int32), (0 : Int32)) rr hlp hf) (fun hGo => hGo _ _ _ hP hS (lv_sub hl [2, 3, 4, 1, 0] rfl))
  rintro ⟨x3_5, x4_5⟩ oo5 hb9 hG5 hX5 H locs ls hP hS hl
  have hP : va_P D vwCl (WL w σ) H := hP
  have hl : lv_has ls 5 [(0, .ref (w.1 (0))), (1, .int a1), (2, .int a2), (3, .int x3_5), (4, .int x4_5)] := hl
  have hf : f_X6_weightOf_b1 σ a1 a2 x3_5 x4_5 = some oo5 := hb9
  unfold f_X6_weightOf_b1 at hf
  refine lv_iload hx hb dX6_weightOf_5 (lv_at hl 4 rfl) ?_
  refine lv_aload_n hx hb dX6_weightOf_7 rfl (lv_at hl 0 rfl) ?_
  refine gt_X6_19 hx hb hts hown hK hP dX6_weightOf_8 ?_
  obtain ⟨v11, h11, hf⟩ := bnd hf
  refine q_cVi (As := []) hx hb hts hml hown hK hP hS (c_X5_posts l D w σ (6) v11 isY6 h11) hw_X6_74 hd_X5_posts ⟨rfl, rfl, rfl⟩ isY6.o (ce5 isY6.k) rfl ⟨Nat.le_of_ble_eq_true rfl, Nat.le_of_ble_eq_true rfl⟩ ⟨Nat.le_of_ble_eq_true rfl, Nat.le_of_ble_eq_true rfl⟩ hl.1 rfl (Nat.le_of_ble_eq_true rfl) dX6_weightOf_11 (fun H locs hP hS => ?_)
  refine lv_icmp_ge (tgt := 55) hx hb dX6_weightOf_14 (by decide) (fun hc => ?_) (fun hc => ?_)
  · have hf := ifp hc hf
    obtain rfl := Option.some.inj hf
    exact hE5_55 x3_5 _ _ _ (hX5 _ rfl) hP hS (lv_sub hl [3] rfl)
  · have hf := ifn hc hf
    refine lv_aload_n hx hb dX6_weightOf_17 rfl (lv_at hl 0 rfl) ?_
    refine gt_X6_19 hx hb hts hown hK hP dX6_weightOf_18 ?_
    refine lv_iload hx hb dX6_weightOf_21 (lv_at hl 4 rfl) ?_
    obtain ⟨v23, h23, hf⟩ := bnd hf
    refine q_cVz (As := [.int x4_5]) hx hb hts hml hown hK hP hS (c_X5_isRetired l D w σ (6) x4_5 v23 isY6 h23) hw_X6_154 hd_X5_isRetired ⟨rfl, rfl, rfl⟩ isY6.o (ce5 isY6.k) rfl ⟨Nat.le_of_ble_eq_true rfl, Nat.le_of_ble_eq_true rfl⟩ ⟨Nat.le_of_ble_eq_true rfl, Nat.le_of_ble_eq_true rfl⟩ hl.1 rfl (Nat.le_of_ble_eq_true rfl) dX6_weightOf_23 (fun hz23 H locs hP hS => ?_)
    refine lv_if_ne (tgt := 49) hx hb dX6_weightOf_26 (by decide) (fun hc => ?_) (fun hc => ?_)
    · have hf := ifp hc hf
      refine lv_iinc (v := (x4_5 + (1 : Int32))) (lv' := [(4, .int (x4_5 + (1 : Int32))), (0, .ref (w.1 (0))), (1, .int a1), (2, .int a2), (3, .int x3_5)]) hx hb dX6_weightOf_49 hl (k := 4) rfl ii_1 (by decide) rfl (fun ls hl => ?_)
      refine lv_goto (tgt := 5) hx hb dX6_weightOf_52 (by decide) ?_
      obtain rfl := Option.some.inj hf
      exact hG5 _ rfl _ _ _ hP hS (lv_sub hl [1, 2, 3, 4, 0] rfl)
    · have hf := ifn (fun h => h hc) hf
      refine lv_iload_n hx hb dX6_weightOf_29 rfl (lv_at hl 3 rfl) ?_
      refine lv_iload_n hx hb dX6_weightOf_30 rfl (lv_at hl 1 rfl) ?_
      refine lv_iload hx hb dX6_weightOf_31 (lv_at hl 4 rfl) ?_
      obtain ⟨v33, h33, hf⟩ := bnd hf
      refine q_cSz (As := [.int a1, .int x4_5]) hx hb hts hml hown hK hP hS (c_X6_hasBit l D w σ a1 x4_5 v33 h33) hw_X6_200 hd_X6_hasBit ⟨rfl, rfl, rfl⟩ ⟨Nat.le_of_ble_eq_true rfl, Nat.le_of_ble_eq_true rfl⟩ ⟨Nat.le_of_ble_eq_true rfl, Nat.le_of_ble_eq_true rfl⟩ hl.1 rfl (Nat.le_of_ble_eq_true rfl) dX6_weightOf_33 (fun hz33 H locs hP hS => ?_)
      refine lv_if_eq (tgt := 43) hx hb dX6_weightOf_36 (by decide) (fun hc => ?_) (fun hc => ?_)
      · have hf := ifp hc hf
        refine lv_bipush (v := (10 : Int32)) hx hb dX6_weightOf_43 (by decide) ?_
        refine lv_iload_n hx hb dX6_weightOf_45 rfl (lv_at hl 2 rfl) ?_
        refine lv_isub hx hb dX6_weightOf_46 ?_
        refine lv_imul hx hb dX6_weightOf_47 ?_
        refine lv_istore_n (lv' := [(3, .int (x3_5 * ((10 : Int32) - a2))), (0, .ref (w.1 (0))), (1, .int a1), (2, .int a2), (4, .int x4_5)]) hx hb dX6_weightOf_48 rfl hl (by decide) rfl (fun ls hl => ?_)
        refine lv_iinc (v := (x4_5 + (1 : Int32))) (lv' := [(4, .int (x4_5 + (1 : Int32))), (3, .int (x3_5 * ((10 : Int32) - a2))), (0, .ref (w.1 (0))), (1, .int a1), (2, .int a2)]) hx hb dX6_weightOf_49 hl (k := 4) rfl ii_1 (by decide) rfl (fun ls hl => ?_)
        refine lv_goto (tgt := 5) hx hb dX6_weightOf_52 (by decide) ?_
        obtain rfl := Option.some.inj hf
        exact hG5 _ rfl _ _ _ hP hS (lv_sub hl [2, 3, 4, 1, 0] rfl)
      · have hf := ifn hc hf
        refine lv_iload_n hx hb dX6_weightOf_39 rfl (lv_at hl 2 rfl) ?_
        refine lv_goto (tgt := 47) hx hb dX6_weightOf_40 (by decide) ?_
        refine lv_imul hx hb dX6_weightOf_47 ?_
        refine lv_istore_n (lv' := [(3, .int (x3_5 * a2)), (0, .ref (w.1 (0))), (1, .int a1), (2, .int a2), (4, .int x4_5)]) hx hb dX6_weightOf_48 rfl hl (by decide) rfl (fun ls hl => ?_)
        refine lv_iinc (v := (x4_5 + (1 : Int32))) (lv' := [(4, .int (x4_5 + (1 : Int32))), (3, .int (x3_5 * a2)), (0, .ref (w.1 (0))), (1, .int a1), (2, .int a2)]) hx hb dX6_weightOf_49 hl (k := 4) rfl ii_1 (by decide) rfl (fun ls hl => ?_)
        refine lv_goto (tgt := 5) hx hb dX6_weightOf_52 (by decide) ?_
        obtain rfl := Option.some.inj hf
        exact hG5 _ rfl _ _ _ hP hS (lv_sub hl [2, 3, 4, 1, 0] rfl)
def f_X6_comesTwisted (σ : Sg) (a1 : Int32) (a2 : Int32) : Option (Int32 × Sg) :=
  (f_X5_become σ (20) (6)).bind fun σ8 =>
  (f_X5_twist σ8 (20) a2).bind fun σ16 =>
  (f_X5_passHours σ16 (20) (40 : Int32)).bind fun σ25 =>
  (f_X5_hasCome σ25 (20) a1).bind fun v33 =>
  some (v33, σ25)
set_option maxHeartbeats 4000000 in
set_option maxRecDepth 100000 in
theorem c_X6_comesTwisted (l : Launch) (D : va_G) (w : Wv) (σ : Sg) (a1 : Int32) (a2 : Int32) (r : Int32) (σ' : Sg)  (hJ : Inj w) (hf : f_X6_comesTwisted σ a1 a2 = some (r, σ')) : Met l yX6_comesTwisted (.code yX6_comesTwisted cX6_comesTwisted 3 (some .boolean) :: TB) (rmW 5 123) (pcW D w [.ref (w.1 (0)), .int a1, .int a2] σ) (qzW D w r σ') 0 0 (AL w) := by
  refine q_open (by decide +kernel) (Nat.le_of_ble_eq_true rfl) ?_
  intro p e s m args below meth c ls hx hb hml hr hlk hown hts hK hP hS hl
  have hown : s.vm.findClass RX6 = some m.cls := hown
  have hl : lv_has ls 3 [(0, .ref (w.1 (0))), (1, .int a1), (2, .int a2)] := hl
  unfold f_X6_comesTwisted at hf
  refine lv_aload_n hx hb dX6_comesTwisted_0 rfl (lv_at hl 0 rfl) ?_
  refine gt_X6_23 hx hb hts hown hK hP dX6_comesTwisted_1 ?_
  refine lv_aload_n hx hb dX6_comesTwisted_4 rfl (lv_at hl 0 rfl) ?_
  refine gt_X6_19 hx hb hts hown hK hP dX6_comesTwisted_5 ?_
  obtain ⟨σ8, h8, hf⟩ := bnd hf
  refine q_cVv (As := [.ref (w.1 (6))]) hx hb hts hml hown hK hP hS (c_X5_become l D w σ (20) (6) σ8 isY20 isY6 hJ h8) hw_X6_80 hd_X5_become ⟨rfl, rfl, rfl⟩ isY20.o (ce5 isY20.k) rfl ⟨Nat.le_of_ble_eq_true rfl, Nat.le_of_ble_eq_true rfl⟩ ⟨Nat.le_of_ble_eq_true rfl, Nat.le_of_ble_eq_true rfl⟩ hl.1 rfl (Nat.le_of_ble_eq_true rfl) dX6_comesTwisted_8 (fun H locs hP hS => ?_)
  refine lv_aload_n hx hb dX6_comesTwisted_11 rfl (lv_at hl 0 rfl) ?_
  refine gt_X6_23 hx hb hts hown hK hP dX6_comesTwisted_12 ?_
  refine lv_iload_n hx hb dX6_comesTwisted_15 rfl (lv_at hl 2 rfl) ?_
  obtain ⟨σ16, h16, hf⟩ := bnd hf
  refine q_cVv (As := [.int a2]) hx hb hts hml hown hK hP hS (c_X5_twist l D w σ8 (20) a2 σ16 isY20 hJ h16) hw_X6_259 hd_X5_twist ⟨rfl, rfl, rfl⟩ isY20.o (ce5 isY20.k) rfl ⟨Nat.le_of_ble_eq_true rfl, Nat.le_of_ble_eq_true rfl⟩ ⟨Nat.le_of_ble_eq_true rfl, Nat.le_of_ble_eq_true rfl⟩ hl.1 rfl (Nat.le_of_ble_eq_true rfl) dX6_comesTwisted_16 (fun H locs hP hS => ?_)
  refine lv_aload_n hx hb dX6_comesTwisted_19 rfl (lv_at hl 0 rfl) ?_
  refine gt_X6_23 hx hb hts hown hK hP dX6_comesTwisted_20 ?_
  refine lv_bipush (v := (40 : Int32)) hx hb dX6_comesTwisted_23 (by decide) ?_
  obtain ⟨σ25, h25, hf⟩ := bnd hf
  refine q_cVv (As := [.int (40 : Int32)]) hx hb hts hml hown hK hP hS (c_X5_passHours l D w σ16 (20) (40 : Int32) σ25 isY20 hJ h25) hw_X6_144 hd_X5_passHours ⟨rfl, rfl, rfl⟩ isY20.o (ce5 isY20.k) rfl ⟨Nat.le_of_ble_eq_true rfl, Nat.le_of_ble_eq_true rfl⟩ ⟨Nat.le_of_ble_eq_true rfl, Nat.le_of_ble_eq_true rfl⟩ hl.1 rfl (Nat.le_of_ble_eq_true rfl) dX6_comesTwisted_25 (fun H locs hP hS => ?_)
  refine lv_aload_n hx hb dX6_comesTwisted_28 rfl (lv_at hl 0 rfl) ?_
  refine gt_X6_23 hx hb hts hown hK hP dX6_comesTwisted_29 ?_
  refine lv_iload_n hx hb dX6_comesTwisted_32 rfl (lv_at hl 1 rfl) ?_
  obtain ⟨v33, h33, hf⟩ := bnd hf
  refine q_cVz (As := [.int a1]) hx hb hts hml hown hK hP hS (c_X5_hasCome l D w σ25 (20) a1 v33 isY20 h33) hw_X6_135 hd_X5_hasCome ⟨rfl, rfl, rfl⟩ isY20.o (ce5 isY20.k) rfl ⟨Nat.le_of_ble_eq_true rfl, Nat.le_of_ble_eq_true rfl⟩ ⟨Nat.le_of_ble_eq_true rfl, Nat.le_of_ble_eq_true rfl⟩ hl.1 rfl (Nat.le_of_ble_eq_true rfl) dX6_comesTwisted_33 (fun hz33 H locs hP hS => ?_)
  have hq := Option.some.inj hf
  exact q_zret hx hb hr hlk hP hS hz33 (congrArg Prod.fst hq) (congrArg Prod.snd hq) dX6_comesTwisted_36
def f_X6_commonPart_b1 (x2_7 : Int32) (x3_7 : Int32) (x4_7 : Int32) : Option ((Int32 × Int32 × Int32) ⊕ Int32) :=
  if (64 : Int32) ≤ x4_7 then
  some (.inr x2_7)
  else
  if x3_7 ≤ 0 then
  some (.inr x2_7)
  else
  (re x2_7 x3_7).bind fun v20 =>
  some (.inl (x3_7, v20, (x4_7 + (1 : Int32))))
def f_X6_commonPart_k1 (y2_34 : Int32) : Option Int32 :=
  some y2_34
def f_X6_commonPart (σ : Sg) (a1 : Int32) (a2 : Int32) : Option Int32 :=
  (lp (fun st => f_X6_commonPart_b1  st.1 st.2.1 st.2.2) FU (a2, a1, (0 : Int32))).bind fun rr => f_X6_commonPart_k1 rr
set_option maxHeartbeats 4000000 in
set_option maxRecDepth 100000 in
theorem c_X6_commonPart (l : Launch) (D : va_G) (w : Wv) (σ : Sg) (a1 : Int32) (a2 : Int32) (r : Int32)  (hf : f_X6_commonPart σ a1 a2 = some r) : Met l yX6_commonPart (.code yX6_commonPart cX6_commonPart 6 (some .int) :: TB) (rmW 0 0) (pcW D w [.int a1, .int a2] σ) (qiW D w r σ) 0 0 (AL w) := by
  refine q_open (by decide +kernel) (Nat.le_of_ble_eq_true rfl) ?_
  intro p e s m args below meth c ls hx hb hml hr hlk hown hts hK hP hS hl
  have hown : s.vm.findClass RX6 = some m.cls := hown
  have hl : lv_has ls 6 [(0, .int a1), (1, .int a2)] := hl
  unfold f_X6_commonPart at hf
  refine lv_iload_n hx hb dX6_commonPart_0 rfl (lv_at hl 1 rfl) ?_
  refine lv_istore_n (lv' := [(2, .int a2), (0, .int a1), (1, .int a2)]) hx hb dX6_commonPart_1 rfl hl (by decide) rfl (fun ls hl => ?_)
  refine lv_iload_n hx hb dX6_commonPart_2 rfl (lv_at hl 1 rfl) ?_
  refine lv_istore_n (lv' := [(3, .int a1), (2, .int a2), (0, .int a1), (1, .int a2)]) hx hb dX6_commonPart_3 rfl hl (by decide) rfl (fun ls hl => ?_)
  refine lv_iconst (v := (0 : Int32)) hx hb dX6_commonPart_4 (by decide) ?_
  refine lv_istore (lv' := [(4, .int (0 : Int32)), (3, .int a1), (2, .int a2), (0, .int a1), (1, .int a2)]) hx hb dX6_commonPart_5 hl (by decide) rfl (fun ls hl => ?_)
  obtain ⟨rr, hlp, hf⟩ := bnd hf
  have hE7_34 : ∀ (y2_34 : Int32) (H : Heap) (locs : List Loc) (ls : Array Slot), f_X6_commonPart_k1 y2_34 = some r → va_P D vwCl (WL w σ) H → va_S (AL w) s.heap H locs → lv_has ls 6 [(2, .int y2_34)] → W p l e (rmW 0 0) s m args below meth c H locs 0 0 (MQ below (qiW D w r σ) args s 0 0 (AL w)) (F0 m 34 ls []) := by
    intro y2_34 H locs ls hf hP hS hl
    unfold f_X6_commonPart_k1 at hf
    refine lv_iload_n hx hb dX6_commonPart_34 rfl (lv_at hl 0 rfl) ?_
    have hq := Option.some.inj hf
    exact q_iret hx hb hr hlk hP hS hq rfl dX6_commonPart_35
  refine useP (lp_ind (S := (Int32 × Int32 × Int32)) (R := Int32) (b := fun st => f_X6_commonPart_b1  st.1 st.2.1 st.2.2) (G := fun (st : (Int32 × Int32 × Int32)) => ∀ (H : Heap) (locs : List Loc) (ls : Array Slot), va_P D vwCl (WL w σ) H → va_S (AL w) s.heap H locs → lv_has ls 6 [(2, .int st.1), (3, .int st.2.1), (4, .int st.2.2)] → W p l e (rmW 0 0) s m args below meth c H locs 0 0 (MQ below (qiW D w r σ) args s 0 0 (AL w)) (F0 m 7 ls [])) (X := fun rr => f_X6_commonPart_k1 rr = some r) ?_ FU (a2, a1, (0 : Int32)) rr hlp hf) (fun hGo => hGo _ _ _ hP hS (lv_sub hl [2, 1, 0] rfl))
  rintro ⟨x2_7, x3_7, x4_7⟩ oo7 hb9 hG7 hX7 H locs ls hP hS hl
  have hP : va_P D vwCl (WL w σ) H := hP
  have hl : lv_has ls 6 [(2, .int x2_7), (3, .int x3_7), (4, .int x4_7)] := hl
  have hf : f_X6_commonPart_b1  x2_7 x3_7 x4_7 = some oo7 := hb9
  unfold f_X6_commonPart_b1 at hf
  refine lv_iload hx hb dX6_commonPart_7 (lv_at hl 2 rfl) ?_
  refine lv_bipush (v := (64 : Int32)) hx hb dX6_commonPart_9 (by decide) ?_
  refine lv_icmp_ge (tgt := 34) hx hb dX6_commonPart_11 (by decide) (fun hc => ?_) (fun hc => ?_)
  · have hf := ifp hc hf
    obtain rfl := Option.some.inj hf
    exact hE7_34 x2_7 _ _ _ (hX7 _ rfl) hP hS (lv_sub hl [0] rfl)
  · have hf := ifn hc hf
    refine lv_iload_n hx hb dX6_commonPart_14 rfl (lv_at hl 1 rfl) ?_
    refine lv_if_le (tgt := 34) hx hb dX6_commonPart_15 (by decide) (fun hc => ?_) (fun hc => ?_)
    · have hf := ifp hc hf
      obtain rfl := Option.some.inj hf
      exact hE7_34 x2_7 _ _ _ (hX7 _ rfl) hP hS (lv_sub hl [0] rfl)
    · have hf := ifn hc hf
      refine lv_iload_n hx hb dX6_commonPart_18 rfl (lv_at hl 0 rfl) ?_
      refine lv_iload_n hx hb dX6_commonPart_19 rfl (lv_at hl 1 rfl) ?_
      obtain ⟨v20, h20, hf⟩ := bnd hf
      refine q_irem hx hb h20 dX6_commonPart_20 ?_
      refine lv_istore (lv' := [(5, .int v20), (2, .int x2_7), (3, .int x3_7), (4, .int x4_7)]) hx hb dX6_commonPart_21 hl (by decide) rfl (fun ls hl => ?_)
      refine lv_iload_n hx hb dX6_commonPart_23 rfl (lv_at hl 2 rfl) ?_
      refine lv_istore_n (lv' := [(2, .int x3_7), (5, .int v20), (3, .int x3_7), (4, .int x4_7)]) hx hb dX6_commonPart_24 rfl hl (by decide) rfl (fun ls hl => ?_)
      refine lv_iload hx hb dX6_commonPart_25 (lv_at hl 1 rfl) ?_
      refine lv_istore_n (lv' := [(3, .int v20), (2, .int x3_7), (5, .int v20), (4, .int x4_7)]) hx hb dX6_commonPart_27 rfl hl (by decide) rfl (fun ls hl => ?_)
      refine lv_iinc (v := (x4_7 + (1 : Int32))) (lv' := [(4, .int (x4_7 + (1 : Int32))), (3, .int v20), (2, .int x3_7), (5, .int v20)]) hx hb dX6_commonPart_28 hl (k := 3) rfl ii_1 (by decide) rfl (fun ls hl => ?_)
      refine lv_goto (tgt := 7) hx hb dX6_commonPart_31 (by decide) ?_
      obtain rfl := Option.some.inj hf
      exact hG7 _ rfl _ _ _ hP hS (lv_sub hl [2, 1, 0] rfl)
def f_X6_likely_b1 (a1 : Int32) (a2 : Int32) (v43 : Int32) (x4_52 : Int32) (x5_52 : Int32) (x7_52 : Int32) (σ_52 : Sg) : Option ((Int32 × Int32 × Int32 × Sg) ⊕ (Int32 × Int32 × Sg)) :=
  if ((1 : Int32) <<< (v43 &&& 31)) ≤ x7_52 then
  some (.inr (x4_52, x5_52, σ_52))
  else
  (f_X5_noneRetired σ_52 (6) x7_52).bind fun v65 =>
  if v65 = 0 then
  some (.inl (x4_52, x5_52, (x7_52 + (1 : Int32)), σ_52))
  else
  (f_X6_weightOf σ_52 x7_52 a2).bind fun v75 =>
  if v75 ≤ 0 then
  some (.inl (x4_52, (x5_52 + v75), (x7_52 + (1 : Int32)), σ_52))
  else
  (f_X6_comesTwisted σ_52 a1 x7_52).bind fun q96 =>
  if q96.1 = 0 then
  some (.inl (x4_52, (x5_52 + v75), (x7_52 + (1 : Int32)), q96.2))
  else
  some (.inl ((x4_52 + v75), (x5_52 + v75), (x7_52 + (1 : Int32)), q96.2))
def f_X6_likely_k1 (a3 : Int32) (y4_115 : Int32) (y5_115 : Int32) (σ_115 : Sg) : Option (Int32 × Sg) :=
  (f_X6_commonPart σ_115 y4_115 y5_115).bind fun v119 =>
  if (1 : Int32) ≤ v119 then
  if ¬ a3 = 0 then
  (di y5_115 v119).bind fun v148 =>
  some (v148, σ_115)
  else
  (di y4_115 v119).bind fun v140 =>
  some (v140, σ_115)
  else
  some ((-1 : Int32), σ_115)
def f_X6_likely (σ : Sg) (a1 : Int32) (a2 : Int32) (a3 : Int32) : Option (Int32 × Sg) :=
  (f_X5_isWalker σ (6) a1).bind fun v5 =>
  if v5 = 0 then
  some ((-1 : Int32), σ)
  else
  if a2 < 0 then
  some ((-1 : Int32), σ)
  else
  if (10 : Int32) < a2 then
  some ((-1 : Int32), σ)
  else
  if a3 < 0 then
  some ((-1 : Int32), σ)
  else
  if a3 ≤ (1 : Int32) then
  (f_X5_posts σ (6)).bind fun v43 =>
  (lp (fun st => f_X6_likely_b1 a1 a2 v43 st.1 st.2.1 st.2.2.1 st.2.2.2) FU ((0 : Int32), (0 : Int32), (0 : Int32), σ)).bind fun rr => f_X6_likely_k1 a3 rr.1 rr.2.1 rr.2.2
  else
  some ((-1 : Int32), σ)
set_option maxHeartbeats 4000000 in
set_option maxRecDepth 100000 in
theorem c_X6_likely (l : Launch) (D : va_G) (w : Wv) (σ : Sg) (a1 : Int32) (a2 : Int32) (a3 : Int32) (r : Int32) (σ' : Sg)  (hJ : Inj w) (hf : f_X6_likely σ a1 a2 a3 = some (r, σ')) : Met l yX6_likely (.code yX6_likely cX6_likely 9 (some .int) :: TB) (rmW 6 145) (pcW D w [.ref (w.1 (0)), .int a1, .int a2, .int a3] σ) (qiW D w r σ') 0 0 (AL w) := by
  refine q_open (by decide +kernel) (Nat.le_of_ble_eq_true rfl) ?_
  intro p e s m args below meth c ls hx hb hml hr hlk hown hts hK hP hS hl
  have hown : s.vm.findClass RX6 = some m.cls := hown
  have hl : lv_has ls 9 [(0, .ref (w.1 (0))), (1, .int a1), (2, .int a2), (3, .int a3)] := hl
  unfold f_X6_likely at hf
  refine lv_aload_n hx hb dX6_likely_0 rfl (lv_at hl 0 rfl) ?_
  refine gt_X6_19 hx hb hts hown hK hP dX6_likely_1 ?_
  refine lv_iload_n hx hb dX6_likely_4 rfl (lv_at hl 1 rfl) ?_
  obtain ⟨v5, h5, hf⟩ := bnd hf
  refine q_cVz (As := [.int a1]) hx hb hts hml hown hK hP hS (c_X5_isWalker l D w σ (6) a1 v5 isY6 h5) hw_X6_126 hd_X5_isWalker ⟨rfl, rfl, rfl⟩ isY6.o (ce5 isY6.k) rfl ⟨Nat.le_of_ble_eq_true rfl, Nat.le_of_ble_eq_true rfl⟩ ⟨Nat.le_of_ble_eq_true rfl, Nat.le_of_ble_eq_true rfl⟩ hl.1 rfl (Nat.le_of_ble_eq_true rfl) dX6_likely_5 (fun hz5 H locs hP hS => ?_)
  refine lv_if_eq (tgt := 30) hx hb dX6_likely_8 (by decide) (fun hc => ?_) (fun hc => ?_)
  · have hf := ifp hc hf
    refine lv_iconst (v := (-1 : Int32)) hx hb dX6_likely_30 (by decide) ?_
    have hq := Option.some.inj hf
    exact q_iret hx hb hr hlk hP hS (congrArg Prod.fst hq) (congrArg Prod.snd hq) dX6_likely_31
  · have hf := ifn hc hf
    refine lv_iload_n hx hb dX6_likely_11 rfl (lv_at hl 2 rfl) ?_
    refine lv_if_lt (tgt := 30) hx hb dX6_likely_12 (by decide) (fun hc => ?_) (fun hc => ?_)
    · have hf := ifp hc hf
      refine lv_iconst (v := (-1 : Int32)) hx hb dX6_likely_30 (by decide) ?_
      have hq := Option.some.inj hf
      exact q_iret hx hb hr hlk hP hS (congrArg Prod.fst hq) (congrArg Prod.snd hq) dX6_likely_31
    · have hf := ifn hc hf
      refine lv_iload_n hx hb dX6_likely_15 rfl (lv_at hl 2 rfl) ?_
      refine lv_bipush (v := (10 : Int32)) hx hb dX6_likely_16 (by decide) ?_
      refine lv_icmp_gt (tgt := 30) hx hb dX6_likely_18 (by decide) (fun hc => ?_) (fun hc => ?_)
      · have hf := ifp hc hf
        refine lv_iconst (v := (-1 : Int32)) hx hb dX6_likely_30 (by decide) ?_
        have hq := Option.some.inj hf
        exact q_iret hx hb hr hlk hP hS (congrArg Prod.fst hq) (congrArg Prod.snd hq) dX6_likely_31
      · have hf := ifn hc hf
        refine lv_iload_n hx hb dX6_likely_21 rfl (lv_at hl 3 rfl) ?_
        refine lv_if_lt (tgt := 30) hx hb dX6_likely_22 (by decide) (fun hc => ?_) (fun hc => ?_)
        · have hf := ifp hc hf
          refine lv_iconst (v := (-1 : Int32)) hx hb dX6_likely_30 (by decide) ?_
          have hq := Option.some.inj hf
          exact q_iret hx hb hr hlk hP hS (congrArg Prod.fst hq) (congrArg Prod.snd hq) dX6_likely_31
        · have hf := ifn hc hf
          refine lv_iload_n hx hb dX6_likely_25 rfl (lv_at hl 3 rfl) ?_
          refine lv_iconst (v := (1 : Int32)) hx hb dX6_likely_26 (by decide) ?_
          refine lv_icmp_le (tgt := 32) hx hb dX6_likely_27 (by decide) (fun hc => ?_) (fun hc => ?_)
          · have hf := ifp hc hf
            refine lv_iconst (v := (0 : Int32)) hx hb dX6_likely_32 (by decide) ?_
            refine lv_istore (lv' := [(4, .int (0 : Int32)), (0, .ref (w.1 (0))), (1, .int a1), (2, .int a2), (3, .int a3)]) hx hb dX6_likely_33 hl (by decide) rfl (fun ls hl => ?_)
            refine lv_iconst (v := (0 : Int32)) hx hb dX6_likely_35 (by decide) ?_
            refine lv_istore (lv' := [(5, .int (0 : Int32)), (4, .int (0 : Int32)), (0, .ref (w.1 (0))), (1, .int a1), (2, .int a2), (3, .int a3)]) hx hb dX6_likely_36 hl (by decide) rfl (fun ls hl => ?_)
            refine lv_iconst (v := (1 : Int32)) hx hb dX6_likely_38 (by decide) ?_
            refine lv_aload_n hx hb dX6_likely_39 rfl (lv_at hl 2 rfl) ?_
            refine gt_X6_19 hx hb hts hown hK hP dX6_likely_40 ?_
            obtain ⟨v43, h43, hf⟩ := bnd hf
            refine q_cVi (As := []) hx hb hts hml hown hK hP hS (c_X5_posts l D w σ (6) v43 isY6 h43) hw_X6_74 hd_X5_posts ⟨rfl, rfl, rfl⟩ isY6.o (ce5 isY6.k) rfl ⟨Nat.le_of_ble_eq_true rfl, Nat.le_of_ble_eq_true rfl⟩ ⟨Nat.le_of_ble_eq_true rfl, Nat.le_of_ble_eq_true rfl⟩ hl.1 rfl (Nat.le_of_ble_eq_true rfl) dX6_likely_43 (fun H locs hP hS => ?_)
            refine lv_ishl hx hb dX6_likely_46 ?_
            refine lv_istore (lv' := [(6, .int ((1 : Int32) <<< (v43 &&& 31))), (5, .int (0 : Int32)), (4, .int (0 : Int32)), (0, .ref (w.1 (0))), (1, .int a1), (2, .int a2), (3, .int a3)]) hx hb dX6_likely_47 hl (by decide) rfl (fun ls hl => ?_)
            refine lv_iconst (v := (0 : Int32)) hx hb dX6_likely_49 (by decide) ?_
            refine lv_istore (lv' := [(7, .int (0 : Int32)), (6, .int ((1 : Int32) <<< (v43 &&& 31))), (5, .int (0 : Int32)), (4, .int (0 : Int32)), (0, .ref (w.1 (0))), (1, .int a1), (2, .int a2), (3, .int a3)]) hx hb dX6_likely_50 hl (by decide) rfl (fun ls hl => ?_)
            obtain ⟨rr, hlp, hf⟩ := bnd hf
            have hE52_115 : ∀ (y4_115 : Int32) (y5_115 : Int32) (σ_115 : Sg) (H : Heap) (locs : List Loc) (ls : Array Slot), f_X6_likely_k1 a3 y4_115 y5_115 σ_115 = some (r, σ') → va_P D vwCl (WL w σ_115) H → va_S (AL w) s.heap H locs → lv_has ls 9 [(3, .int a3), (4, .int y4_115), (5, .int y5_115)] → W p l e (rmW 6 145) s m args below meth c H locs 0 0 (MQ below (qiW D w r σ') args s 0 0 (AL w)) (F0 m 115 ls []) := by
              intro y4_115 y5_115 σ_115 H locs ls hf hP hS hl
              unfold f_X6_likely_k1 at hf
              refine lv_iload hx hb dX6_likely_115 (lv_at hl 1 rfl) ?_
              refine lv_iload hx hb dX6_likely_117 (lv_at hl 2 rfl) ?_
              obtain ⟨v119, h119, hf⟩ := bnd hf
              refine q_cSi (As := [.int y4_115, .int y5_115]) hx hb hts hml hown hK hP hS (c_X6_commonPart l D w σ_115 y4_115 y5_115 v119 h119) hw_X6_256 hd_X6_commonPart ⟨rfl, rfl, rfl⟩ ⟨Nat.le_of_ble_eq_true rfl, Nat.le_of_ble_eq_true rfl⟩ ⟨Nat.le_of_ble_eq_true rfl, Nat.le_of_ble_eq_true rfl⟩ hl.1 rfl (Nat.le_of_ble_eq_true rfl) dX6_likely_119 (fun H locs hP hS => ?_)
              refine lv_istore (lv' := [(7, .int v119), (3, .int a3), (4, .int y4_115), (5, .int y5_115)]) hx hb dX6_likely_122 hl (by decide) rfl (fun ls hl => ?_)
              refine lv_iload hx hb dX6_likely_124 (lv_at hl 0 rfl) ?_
              refine lv_iconst (v := (1 : Int32)) hx hb dX6_likely_126 (by decide) ?_
              refine lv_icmp_ge (tgt := 132) hx hb dX6_likely_127 (by decide) (fun hc => ?_) (fun hc => ?_)
              · have hf := ifp hc hf
                refine lv_iload_n hx hb dX6_likely_132 rfl (lv_at hl 1 rfl) ?_
                refine lv_if_ne (tgt := 144) hx hb dX6_likely_133 (by decide) (fun hc => ?_) (fun hc => ?_)
                · have hf := ifp hc hf
                  refine lv_iload hx hb dX6_likely_144 (lv_at hl 3 rfl) ?_
                  refine lv_iload hx hb dX6_likely_146 (lv_at hl 0 rfl) ?_
                  obtain ⟨v148, h148, hf⟩ := bnd hf
                  refine q_idiv hx hb h148 dX6_likely_148 ?_
                  have hq := Option.some.inj hf
                  exact q_iret hx hb hr hlk hP hS (congrArg Prod.fst hq) (congrArg Prod.snd hq) dX6_likely_149
                · have hf := ifn (fun h => h hc) hf
                  refine lv_iload hx hb dX6_likely_136 (lv_at hl 2 rfl) ?_
                  refine lv_iload hx hb dX6_likely_138 (lv_at hl 0 rfl) ?_
                  obtain ⟨v140, h140, hf⟩ := bnd hf
                  refine q_idiv hx hb h140 dX6_likely_140 ?_
                  refine lv_goto (tgt := 149) hx hb dX6_likely_141 (by decide) ?_
                  have hq := Option.some.inj hf
                  exact q_iret hx hb hr hlk hP hS (congrArg Prod.fst hq) (congrArg Prod.snd hq) dX6_likely_149
              · have hf := ifn hc hf
                refine lv_iconst (v := (-1 : Int32)) hx hb dX6_likely_130 (by decide) ?_
                have hq := Option.some.inj hf
                exact q_iret hx hb hr hlk hP hS (congrArg Prod.fst hq) (congrArg Prod.snd hq) dX6_likely_131
            refine useP (lp_ind (S := (Int32 × Int32 × Int32 × Sg)) (R := (Int32 × Int32 × Sg)) (b := fun st => f_X6_likely_b1 a1 a2 v43 st.1 st.2.1 st.2.2.1 st.2.2.2) (G := fun (st : (Int32 × Int32 × Int32 × Sg)) => ∀ (H : Heap) (locs : List Loc) (ls : Array Slot), va_P D vwCl (WL w st.2.2.2) H → va_S (AL w) s.heap H locs → lv_has ls 9 [(0, .ref (w.1 (0))), (1, .int a1), (2, .int a2), (3, .int a3), (4, .int st.1), (5, .int st.2.1), (6, .int ((1 : Int32) <<< (v43 &&& 31))), (7, .int st.2.2.1)] → W p l e (rmW 6 145) s m args below meth c H locs 0 0 (MQ below (qiW D w r σ') args s 0 0 (AL w)) (F0 m 52 ls [])) (X := fun rr => f_X6_likely_k1 a3 rr.1 rr.2.1 rr.2.2 = some (r, σ')) ?_ FU ((0 : Int32), (0 : Int32), (0 : Int32), σ) rr hlp hf) (fun hGo => hGo _ _ _ hP hS (lv_sub hl [4, 5, 6, 7, 3, 2, 1, 0] rfl))
            rintro ⟨x4_52, x5_52, x7_52, σ_52⟩ oo52 hb9 hG52 hX52 H locs ls hP hS hl
            have hP : va_P D vwCl (WL w σ_52) H := hP
            have hl : lv_has ls 9 [(0, .ref (w.1 (0))), (1, .int a1), (2, .int a2), (3, .int a3), (4, .int x4_52), (5, .int x5_52), (6, .int ((1 : Int32) <<< (v43 &&& 31))), (7, .int x7_52)] := hl
            have hf : f_X6_likely_b1 a1 a2 v43 x4_52 x5_52 x7_52 σ_52 = some oo52 := hb9
            unfold f_X6_likely_b1 at hf
            refine lv_iload hx hb dX6_likely_52 (lv_at hl 7 rfl) ?_
            refine lv_iload hx hb dX6_likely_54 (lv_at hl 6 rfl) ?_
            refine lv_icmp_ge (tgt := 115) hx hb dX6_likely_56 (by decide) (fun hc => ?_) (fun hc => ?_)
            · have hf := ifp hc hf
              obtain rfl := Option.some.inj hf
              exact hE52_115 x4_52 x5_52 σ_52 _ _ _ (hX52 _ rfl) hP hS (lv_sub hl [3, 4, 5] rfl)
            · have hf := ifn hc hf
              refine lv_aload_n hx hb dX6_likely_59 rfl (lv_at hl 0 rfl) ?_
              refine gt_X6_19 hx hb hts hown hK hP dX6_likely_60 ?_
              refine lv_iload hx hb dX6_likely_63 (lv_at hl 7 rfl) ?_
              obtain ⟨v65, h65, hf⟩ := bnd hf
              refine q_cVz (As := [.int x7_52]) hx hb hts hml hown hK hP hS (c_X5_noneRetired l D w σ_52 (6) x7_52 v65 isY6 h65) hw_X6_192 hd_X5_noneRetired ⟨rfl, rfl, rfl⟩ isY6.o (ce5 isY6.k) rfl ⟨Nat.le_of_ble_eq_true rfl, Nat.le_of_ble_eq_true rfl⟩ ⟨Nat.le_of_ble_eq_true rfl, Nat.le_of_ble_eq_true rfl⟩ hl.1 rfl (Nat.le_of_ble_eq_true rfl) dX6_likely_65 (fun hz65 H locs hP hS => ?_)
              refine lv_if_eq (tgt := 109) hx hb dX6_likely_68 (by decide) (fun hc => ?_) (fun hc => ?_)
              · have hf := ifp hc hf
                refine lv_iinc (v := (x7_52 + (1 : Int32))) (lv' := [(7, .int (x7_52 + (1 : Int32))), (0, .ref (w.1 (0))), (1, .int a1), (2, .int a2), (3, .int a3), (4, .int x4_52), (5, .int x5_52), (6, .int ((1 : Int32) <<< (v43 &&& 31)))]) hx hb dX6_likely_109 hl (k := 7) rfl ii_1 (by decide) rfl (fun ls hl => ?_)
                refine lv_goto (tgt := 52) hx hb dX6_likely_112 (by decide) ?_
                obtain rfl := Option.some.inj hf
                exact hG52 _ rfl _ _ _ hP hS (lv_sub hl [1, 2, 3, 4, 5, 6, 7, 0] rfl)
              · have hf := ifn hc hf
                refine lv_aload_n hx hb dX6_likely_71 rfl (lv_at hl 0 rfl) ?_
                refine lv_iload hx hb dX6_likely_72 (lv_at hl 7 rfl) ?_
                refine lv_iload_n hx hb dX6_likely_74 rfl (lv_at hl 2 rfl) ?_
                obtain ⟨v75, h75, hf⟩ := bnd hf
                refine q_cVi (As := [.int x7_52, .int a2]) hx hb hts hml hown hK hP hS (c_X6_weightOf l D w σ_52 x7_52 a2 v75 h75) hw_X6_250 hd_X6_weightOf ⟨rfl, rfl, rfl⟩ o0 (ce6 kd0) rfl ⟨Nat.le_of_ble_eq_true rfl, Nat.le_of_ble_eq_true rfl⟩ ⟨Nat.le_of_ble_eq_true rfl, Nat.le_of_ble_eq_true rfl⟩ hl.1 rfl (Nat.le_of_ble_eq_true rfl) dX6_likely_75 (fun H locs hP hS => ?_)
                refine lv_istore (lv' := [(8, .int v75), (0, .ref (w.1 (0))), (1, .int a1), (2, .int a2), (3, .int a3), (4, .int x4_52), (5, .int x5_52), (6, .int ((1 : Int32) <<< (v43 &&& 31))), (7, .int x7_52)]) hx hb dX6_likely_78 hl (by decide) rfl (fun ls hl => ?_)
                refine lv_iload hx hb dX6_likely_80 (lv_at hl 6 rfl) ?_
                refine lv_iload hx hb dX6_likely_82 (lv_at hl 0 rfl) ?_
                refine lv_iadd hx hb dX6_likely_84 ?_
                refine lv_istore (lv' := [(5, .int (x5_52 + v75)), (8, .int v75), (0, .ref (w.1 (0))), (1, .int a1), (2, .int a2), (3, .int a3), (4, .int x4_52), (6, .int ((1 : Int32) <<< (v43 &&& 31))), (7, .int x7_52)]) hx hb dX6_likely_85 hl (by decide) rfl (fun ls hl => ?_)
                refine lv_iload hx hb dX6_likely_87 (lv_at hl 1 rfl) ?_
                refine lv_if_le (tgt := 109) hx hb dX6_likely_89 (by decide) (fun hc => ?_) (fun hc => ?_)
                · have hf := ifp hc hf
                  refine lv_iinc (v := (x7_52 + (1 : Int32))) (lv' := [(7, .int (x7_52 + (1 : Int32))), (5, .int (x5_52 + v75)), (8, .int v75), (0, .ref (w.1 (0))), (1, .int a1), (2, .int a2), (3, .int a3), (4, .int x4_52), (6, .int ((1 : Int32) <<< (v43 &&& 31)))]) hx hb dX6_likely_109 hl (k := 8) rfl ii_1 (by decide) rfl (fun ls hl => ?_)
                  refine lv_goto (tgt := 52) hx hb dX6_likely_112 (by decide) ?_
                  obtain rfl := Option.some.inj hf
                  exact hG52 _ rfl _ _ _ hP hS (lv_sub hl [3, 4, 5, 6, 7, 1, 8, 0] rfl)
                · have hf := ifn hc hf
                  refine lv_aload_n hx hb dX6_likely_92 rfl (lv_at hl 2 rfl) ?_
                  refine lv_iload_n hx hb dX6_likely_93 rfl (lv_at hl 3 rfl) ?_
                  refine lv_iload hx hb dX6_likely_94 (lv_at hl 8 rfl) ?_
                  obtain ⟨⟨v96, σ96⟩, h96, hf⟩ := bnd hf
                  dsimp only at hf
                  refine q_cVz (As := [.int a1, .int x7_52]) hx hb hts hml hown hK hP hS (c_X6_comesTwisted l D w σ_52 a1 x7_52 v96 σ96 hJ h96) hw_X6_253 hd_X6_comesTwisted ⟨rfl, rfl, rfl⟩ o0 (ce6 kd0) rfl ⟨Nat.le_of_ble_eq_true rfl, Nat.le_of_ble_eq_true rfl⟩ ⟨Nat.le_of_ble_eq_true rfl, Nat.le_of_ble_eq_true rfl⟩ hl.1 rfl (Nat.le_of_ble_eq_true rfl) dX6_likely_96 (fun hz96 H locs hP hS => ?_)
                  refine lv_if_eq (tgt := 109) hx hb dX6_likely_99 (by decide) (fun hc => ?_) (fun hc => ?_)
                  · have hf := ifp hc hf
                    refine lv_iinc (v := (x7_52 + (1 : Int32))) (lv' := [(7, .int (x7_52 + (1 : Int32))), (5, .int (x5_52 + v75)), (8, .int v75), (0, .ref (w.1 (0))), (1, .int a1), (2, .int a2), (3, .int a3), (4, .int x4_52), (6, .int ((1 : Int32) <<< (v43 &&& 31)))]) hx hb dX6_likely_109 hl (k := 8) rfl ii_1 (by decide) rfl (fun ls hl => ?_)
                    refine lv_goto (tgt := 52) hx hb dX6_likely_112 (by decide) ?_
                    obtain rfl := Option.some.inj hf
                    exact hG52 _ rfl _ _ _ hP hS (lv_sub hl [3, 4, 5, 6, 7, 1, 8, 0] rfl)
                  · have hf := ifn hc hf
                    refine lv_iload hx hb dX6_likely_102 (lv_at hl 6 rfl) ?_
                    refine lv_iload hx hb dX6_likely_104 (lv_at hl 1 rfl) ?_
                    refine lv_iadd hx hb dX6_likely_106 ?_
                    refine lv_istore (lv' := [(4, .int (x4_52 + v75)), (5, .int (x5_52 + v75)), (8, .int v75), (0, .ref (w.1 (0))), (1, .int a1), (2, .int a2), (3, .int a3), (6, .int ((1 : Int32) <<< (v43 &&& 31))), (7, .int x7_52)]) hx hb dX6_likely_107 hl (by decide) rfl (fun ls hl => ?_)
                    refine lv_iinc (v := (x7_52 + (1 : Int32))) (lv' := [(7, .int (x7_52 + (1 : Int32))), (4, .int (x4_52 + v75)), (5, .int (x5_52 + v75)), (8, .int v75), (0, .ref (w.1 (0))), (1, .int a1), (2, .int a2), (3, .int a3), (6, .int ((1 : Int32) <<< (v43 &&& 31)))]) hx hb dX6_likely_109 hl (k := 8) rfl ii_1 (by decide) rfl (fun ls hl => ?_)
                    refine lv_goto (tgt := 52) hx hb dX6_likely_112 (by decide) ?_
                    obtain rfl := Option.some.inj hf
                    exact hG52 _ rfl _ _ _ hP hS (lv_sub hl [4, 5, 6, 7, 1, 2, 8, 0] rfl)
          · have hf := ifn hc hf
            refine lv_iconst (v := (-1 : Int32)) hx hb dX6_likely_30 (by decide) ?_
            have hq := Option.some.inj hf
            exact q_iret hx hb hr hlk hP hS (congrArg Prod.fst hq) (congrArg Prod.snd hq) dX6_likely_31
def f_X6_drawn (σ : Sg) (a1 : Int32) (a2 : Int32) : Option Int32 :=
  some (((jreml (((((7919 : Int64) * (a1).toInt64) + ((6151 : Int64) * (a2).toInt64)) + (1 : Int64)) * ((((7919 : Int64) * (a1).toInt64) + ((6151 : Int64) * (a2).toInt64)) + (1 : Int64))) (65521 : Int64)) / (2 : Int64))).toInt32
set_option maxHeartbeats 4000000 in
set_option maxRecDepth 100000 in
theorem c_X6_drawn (l : Launch) (D : va_G) (w : Wv) (σ : Sg) (a1 : Int32) (a2 : Int32) (r : Int32)  (hf : f_X6_drawn σ a1 a2 = some r) : Met l yX6_drawn (.code yX6_drawn cX6_drawn 4 (some .int) :: TB) (rmW 0 0) (pcW D w [.int a1, .int a2] σ) (qiW D w r σ) 0 0 (AL w) := by
  refine q_open (by decide +kernel) (Nat.le_of_ble_eq_true rfl) ?_
  intro p e s m args below meth c ls hx hb hml hr hlk hown hts hK hP hS hl
  have hown : s.vm.findClass RX6 = some m.cls := hown
  have hl : lv_has ls 4 [(0, .int a1), (1, .int a2)] := hl
  unfold f_X6_drawn at hf
  refine lv_ldc2 (v := (7919 : Int64)) hx hb hown (hts _ tw_717) dX6_drawn_0 ?_
  refine lv_iload_n hx hb dX6_drawn_3 rfl (lv_at hl 0 rfl) ?_
  refine lv_i2l hx hb dX6_drawn_4 rfl ?_
  refine lv_lmul hx hb dX6_drawn_5 ?_
  refine lv_ldc2 (v := (6151 : Int64)) hx hb hown (hts _ tw_718) dX6_drawn_6 ?_
  refine lv_iload_n hx hb dX6_drawn_9 rfl (lv_at hl 1 rfl) ?_
  refine lv_i2l hx hb dX6_drawn_10 rfl ?_
  refine lv_lmul hx hb dX6_drawn_11 ?_
  refine lv_ladd hx hb dX6_drawn_12 ?_
  refine lv_lconst (v := (1 : Int64)) hx hb dX6_drawn_13 (by decide) ?_
  refine lv_ladd hx hb dX6_drawn_14 ?_
  refine lv_lstore_n (lv' := [(2, .long ((((7919 : Int64) * (a1).toInt64) + ((6151 : Int64) * (a2).toInt64)) + (1 : Int64))), (0, .int a1), (1, .int a2)]) hx hb dX6_drawn_15 rfl hl (by decide) rfl (fun ls hl => ?_)
  refine lv_lload_n hx hb dX6_drawn_16 rfl (lv_at hl 0 rfl) ?_
  refine lv_lload_n hx hb dX6_drawn_17 rfl (lv_at hl 0 rfl) ?_
  refine lv_lmul hx hb dX6_drawn_18 ?_
  refine lv_ldc2 (v := (65521 : Int64)) hx hb hown (hts _ tw_719) dX6_drawn_19 ?_
  refine q_lremL hx hb (by decide) dX6_drawn_22 ?_
  refine lv_ldc2 (v := (2 : Int64)) hx hb hown (hts _ tw_720) dX6_drawn_23 ?_
  refine lv_ldiv hx hb dX6_drawn_26 (by decide) ?_
  refine lv_l2i hx hb dX6_drawn_27 rfl ?_
  have hq := Option.some.inj hf
  exact q_iret hx hb hr hlk hP hS hq rfl dX6_drawn_28
def f_X6_layOrClose (σ : Sg) (a1 : Int32) (a2 : Int32) : Option Sg :=
  (f_X3_townBehind σ (20 + 1) a1).bind fun v10 =>
  (f_X3_between σ (20 + 1) a1 v10).bind fun v23 =>
  if v23 ≤ 0 then
  (f_X3_change σ (20 + 1) a1 v10 a2).bind fun σ34 =>
  some σ34
  else
  (f_X3_change σ (20 + 1) a1 v10 (0 : Int32)).bind fun σ34 =>
  some σ34
set_option maxHeartbeats 4000000 in
set_option maxRecDepth 100000 in
theorem c_X6_layOrClose (l : Launch) (D : va_G) (w : Wv) (σ : Sg) (a1 : Int32) (a2 : Int32) (σ' : Sg)  (hJ : Inj w) (hf : f_X6_layOrClose σ a1 a2 = some σ') : Met l yX6_layOrClose (.code yX6_layOrClose cX6_layOrClose 5 none :: TB) (rmW 4 96) (pcW D w [.ref (w.1 (0)), .int a1, .int a2] σ) (qvW D w σ') 0 0 (AL w) := by
  refine q_open (by decide +kernel) (Nat.le_of_ble_eq_true rfl) ?_
  intro p e s m args below meth c ls hx hb hml hr hlk hown hts hK hP hS hl
  have hown : s.vm.findClass RX6 = some m.cls := hown
  have hl : lv_has ls 5 [(0, .ref (w.1 (0))), (1, .int a1), (2, .int a2)] := hl
  unfold f_X6_layOrClose at hf
  refine lv_aload_n hx hb dX6_layOrClose_0 rfl (lv_at hl 0 rfl) ?_
  refine gt_X6_23 hx hb hts hown hK hP dX6_layOrClose_1 ?_
  refine q_cVr (As := []) hx hb hts hml hown hK hP hS (c_X5_roads l D w σ (20) isY20) hw_X6_91 hd_X5_roads ⟨rfl, rfl, rfl⟩ isY20.o (ce5 isY20.k) rfl ⟨Nat.le_of_ble_eq_true rfl, Nat.le_of_ble_eq_true rfl⟩ ⟨Nat.le_of_ble_eq_true rfl, Nat.le_of_ble_eq_true rfl⟩ hl.1 rfl (Nat.le_of_ble_eq_true rfl) dX6_layOrClose_4 (fun H locs hP hS => ?_)
  refine lv_astore_n (lv' := [(3, .ref (w.1 (20 + 1))), (0, .ref (w.1 (0))), (1, .int a1), (2, .int a2)]) hx hb dX6_layOrClose_7 rfl hl (by decide) rfl (fun ls hl => ?_)
  refine lv_aload_n hx hb dX6_layOrClose_8 rfl (lv_at hl 0 rfl) ?_
  refine lv_iload_n hx hb dX6_layOrClose_9 rfl (lv_at hl 2 rfl) ?_
  obtain ⟨v10, h10, hf⟩ := bnd hf
  refine q_cVi (As := [.int a1]) hx hb hts hml hown hK hP hS (c_X3_townBehind l D w σ (20 + 1) a1 v10 isY20.f0 h10) hw_X6_285 hd_X3_townBehind ⟨rfl, rfl, rfl⟩ isY20.f0.o (ce3 isY20.f0.k) rfl ⟨Nat.le_of_ble_eq_true rfl, Nat.le_of_ble_eq_true rfl⟩ ⟨Nat.le_of_ble_eq_true rfl, Nat.le_of_ble_eq_true rfl⟩ hl.1 rfl (Nat.le_of_ble_eq_true rfl) dX6_layOrClose_10 (fun H locs hP hS => ?_)
  refine lv_istore (lv' := [(4, .int v10), (3, .ref (w.1 (20 + 1))), (0, .ref (w.1 (0))), (1, .int a1), (2, .int a2)]) hx hb dX6_layOrClose_13 hl (by decide) rfl (fun ls hl => ?_)
  refine lv_aload_n hx hb dX6_layOrClose_15 rfl (lv_at hl 1 rfl) ?_
  refine lv_iload_n hx hb dX6_layOrClose_16 rfl (lv_at hl 3 rfl) ?_
  refine lv_iload hx hb dX6_layOrClose_17 (lv_at hl 0 rfl) ?_
  refine lv_aload_n hx hb dX6_layOrClose_19 rfl (lv_at hl 1 rfl) ?_
  refine lv_iload_n hx hb dX6_layOrClose_20 rfl (lv_at hl 3 rfl) ?_
  refine lv_iload hx hb dX6_layOrClose_21 (lv_at hl 0 rfl) ?_
  obtain ⟨v23, h23, hf⟩ := bnd hf
  refine q_cVi (As := [.int a1, .int v10]) hx hb hts hml hown hK hP hS (c_X3_between l D w σ (20 + 1) a1 v10 v23 isY20.f0 h23) hw_X6_95 hd_X3_between ⟨rfl, rfl, rfl⟩ isY20.f0.o (ce3 isY20.f0.k) rfl ⟨Nat.le_of_ble_eq_true rfl, Nat.le_of_ble_eq_true rfl⟩ ⟨Nat.le_of_ble_eq_true rfl, Nat.le_of_ble_eq_true rfl⟩ hl.1 rfl (Nat.le_of_ble_eq_true rfl) dX6_layOrClose_23 (fun H locs hP hS => ?_)
  refine lv_if_le (tgt := 33) hx hb dX6_layOrClose_26 (by decide) (fun hc => ?_) (fun hc => ?_)
  · have hf := ifp hc hf
    refine lv_iload_n hx hb dX6_layOrClose_33 rfl (lv_at hl 4 rfl) ?_
    obtain ⟨σ34, h34, hf⟩ := bnd hf
    refine q_cVv (As := [.int a1, .int v10, .int a2]) hx hb hts hml hown hK hP hS (c_X3_change l D w σ (20 + 1) a1 v10 a2 σ34 isY20.f0 hJ h34) hw_X6_150 hd_X3_change ⟨rfl, rfl, rfl⟩ isY20.f0.o (ce3 isY20.f0.k) rfl ⟨Nat.le_of_ble_eq_true rfl, Nat.le_of_ble_eq_true rfl⟩ ⟨Nat.le_of_ble_eq_true rfl, Nat.le_of_ble_eq_true rfl⟩ hl.1 rfl (Nat.le_of_ble_eq_true rfl) dX6_layOrClose_34 (fun H locs hP hS => ?_)
    have hq := Option.some.inj hf
    exact q_vret hx hb hr hlk hP hS hq dX6_layOrClose_37
  · have hf := ifn hc hf
    refine lv_iconst (v := (0 : Int32)) hx hb dX6_layOrClose_29 (by decide) ?_
    refine lv_goto (tgt := 34) hx hb dX6_layOrClose_30 (by decide) ?_
    obtain ⟨σ34, h34, hf⟩ := bnd hf
    refine q_cVv (As := [.int a1, .int v10, .int (0 : Int32)]) hx hb hts hml hown hK hP hS (c_X3_change l D w σ (20 + 1) a1 v10 (0 : Int32) σ34 isY20.f0 hJ h34) hw_X6_150 hd_X3_change ⟨rfl, rfl, rfl⟩ isY20.f0.o (ce3 isY20.f0.k) rfl ⟨Nat.le_of_ble_eq_true rfl, Nat.le_of_ble_eq_true rfl⟩ ⟨Nat.le_of_ble_eq_true rfl, Nat.le_of_ble_eq_true rfl⟩ hl.1 rfl (Nat.le_of_ble_eq_true rfl) dX6_layOrClose_34 (fun H locs hP hS => ?_)
    have hq := Option.some.inj hf
    exact q_vret hx hb hr hlk hP hS hq dX6_layOrClose_37
def f_X6_actByDraw (σ : Sg) (a1 : Int32) : Option Sg :=
  (f_X5_posts σ (20)).bind fun v4 =>
  (f_X5_towns σ (20)).bind fun v12 =>
  if v4 < (1 : Int32) then
  some σ
  else
  if (1 : Int32) ≤ v12 then
  (re a1 v4).bind fun v29 =>
  (re (a1 / (8 : Int32)) v12).bind fun v37 =>
  if (jrem (a1 / (64 : Int32)) (6 : Int32)) = (0 : Int32) then
  (f_X5_isRetired σ (20) v29).bind fun v82 =>
  if ¬ v82 = 0 then
  some σ
  else
  (f_X5_paintPost σ (20) v29).bind fun q94 =>
  some q94.2
  else if (jrem (a1 / (64 : Int32)) (6 : Int32)) = (1 : Int32) then
  (f_X5_isRetired σ (20) v29).bind fun v107 =>
  if ¬ v107 = 0 then
  some σ
  else
  (f_X5_movePost σ (20) v29 v37).bind fun σ121 =>
  some σ121
  else if (jrem (a1 / (64 : Int32)) (6 : Int32)) = (2 : Int32) then
  (f_X5_passYear σ (20)).bind fun q131 =>
  some q131.2
  else if (jrem (a1 / (64 : Int32)) (6 : Int32)) = (3 : Int32) then
  (f_X6_layOrClose σ v37 ((jrem (a1 / (512 : Int32)) (9 : Int32)) + (1 : Int32))).bind fun σ151 =>
  some σ151
  else some σ
  else
  some σ
set_option maxHeartbeats 4000000 in
set_option maxRecDepth 100000 in
theorem c_X6_actByDraw (l : Launch) (D : va_G) (w : Wv) (σ : Sg) (a1 : Int32) (σ' : Sg)  (hJ : Inj w) (hf : f_X6_actByDraw σ a1 = some σ') : Met l yX6_actByDraw (.code yX6_actByDraw cX6_actByDraw 6 none :: TB) (rmW 5 120) (pcW D w [.ref (w.1 (0)), .int a1] σ) (qvW D w σ') 0 0 (AL w) := by
  refine q_open (by decide +kernel) (Nat.le_of_ble_eq_true rfl) ?_
  intro p e s m args below meth c ls hx hb hml hr hlk hown hts hK hP hS hl
  have hown : s.vm.findClass RX6 = some m.cls := hown
  have hl : lv_has ls 6 [(0, .ref (w.1 (0))), (1, .int a1)] := hl
  unfold f_X6_actByDraw at hf
  refine lv_aload_n hx hb dX6_actByDraw_0 rfl (lv_at hl 0 rfl) ?_
  refine gt_X6_23 hx hb hts hown hK hP dX6_actByDraw_1 ?_
  obtain ⟨v4, h4, hf⟩ := bnd hf
  refine q_cVi (As := []) hx hb hts hml hown hK hP hS (c_X5_posts l D w σ (20) v4 isY20 h4) hw_X6_74 hd_X5_posts ⟨rfl, rfl, rfl⟩ isY20.o (ce5 isY20.k) rfl ⟨Nat.le_of_ble_eq_true rfl, Nat.le_of_ble_eq_true rfl⟩ ⟨Nat.le_of_ble_eq_true rfl, Nat.le_of_ble_eq_true rfl⟩ hl.1 rfl (Nat.le_of_ble_eq_true rfl) dX6_actByDraw_4 (fun H locs hP hS => ?_)
  refine lv_istore_n (lv' := [(2, .int v4), (0, .ref (w.1 (0))), (1, .int a1)]) hx hb dX6_actByDraw_7 rfl hl (by decide) rfl (fun ls hl => ?_)
  refine lv_aload_n hx hb dX6_actByDraw_8 rfl (lv_at hl 1 rfl) ?_
  refine gt_X6_23 hx hb hts hown hK hP dX6_actByDraw_9 ?_
  obtain ⟨v12, h12, hf⟩ := bnd hf
  refine q_cVi (As := []) hx hb hts hml hown hK hP hS (c_X5_towns l D w σ (20) v12 isY20 h12) hw_X6_174 hd_X5_towns ⟨rfl, rfl, rfl⟩ isY20.o (ce5 isY20.k) rfl ⟨Nat.le_of_ble_eq_true rfl, Nat.le_of_ble_eq_true rfl⟩ ⟨Nat.le_of_ble_eq_true rfl, Nat.le_of_ble_eq_true rfl⟩ hl.1 rfl (Nat.le_of_ble_eq_true rfl) dX6_actByDraw_12 (fun H locs hP hS => ?_)
  refine lv_istore_n (lv' := [(3, .int v12), (2, .int v4), (0, .ref (w.1 (0))), (1, .int a1)]) hx hb dX6_actByDraw_15 rfl hl (by decide) rfl (fun ls hl => ?_)
  refine lv_iload_n hx hb dX6_actByDraw_16 rfl (lv_at hl 1 rfl) ?_
  refine lv_iconst (v := (1 : Int32)) hx hb dX6_actByDraw_17 (by decide) ?_
  refine lv_icmp_lt (tgt := 26) hx hb dX6_actByDraw_18 (by decide) (fun hc => ?_) (fun hc => ?_)
  · have hf := ifp hc hf
    have hq := Option.some.inj hf
    exact q_vret hx hb hr hlk hP hS hq dX6_actByDraw_26
  · have hf := ifn hc hf
    refine lv_iload_n hx hb dX6_actByDraw_21 rfl (lv_at hl 0 rfl) ?_
    refine lv_iconst (v := (1 : Int32)) hx hb dX6_actByDraw_22 (by decide) ?_
    refine lv_icmp_ge (tgt := 27) hx hb dX6_actByDraw_23 (by decide) (fun hc => ?_) (fun hc => ?_)
    · have hf := ifp hc hf
      refine lv_iload_n hx hb dX6_actByDraw_27 rfl (lv_at hl 3 rfl) ?_
      refine lv_iload_n hx hb dX6_actByDraw_28 rfl (lv_at hl 1 rfl) ?_
      obtain ⟨v29, h29, hf⟩ := bnd hf
      refine q_irem hx hb h29 dX6_actByDraw_29 ?_
      refine lv_istore (lv' := [(4, .int v29), (3, .int v12), (2, .int v4), (0, .ref (w.1 (0))), (1, .int a1)]) hx hb dX6_actByDraw_30 hl (by decide) rfl (fun ls hl => ?_)
      refine lv_iload_n hx hb dX6_actByDraw_32 rfl (lv_at hl 4 rfl) ?_
      refine lv_bipush (v := (8 : Int32)) hx hb dX6_actByDraw_33 (by decide) ?_
      refine lv_idiv hx hb dX6_actByDraw_35 (by decide) ?_
      refine lv_iload_n hx hb dX6_actByDraw_36 rfl (lv_at hl 1 rfl) ?_
      obtain ⟨v37, h37, hf⟩ := bnd hf
      refine q_irem hx hb h37 dX6_actByDraw_37 ?_
      refine lv_istore (lv' := [(5, .int v37), (4, .int v29), (3, .int v12), (2, .int v4), (0, .ref (w.1 (0))), (1, .int a1)]) hx hb dX6_actByDraw_38 hl (by decide) rfl (fun ls hl => ?_)
      refine lv_iload_n hx hb dX6_actByDraw_40 rfl (lv_at hl 5 rfl) ?_
      refine lv_bipush (v := (64 : Int32)) hx hb dX6_actByDraw_41 (by decide) ?_
      refine lv_idiv hx hb dX6_actByDraw_43 (by decide) ?_
      refine lv_bipush (v := (6 : Int32)) hx hb dX6_actByDraw_44 (by decide) ?_
      refine q_iremL hx hb (by decide) dX6_actByDraw_46 ?_
      rcases Decidable.em ((jrem (a1 / (64 : Int32)) (6 : Int32)) = (0 : Int32)) with hc | hc0
      · have hf := ifp hc hf
        refine lv_tableIn (off := 29) (tgt := 76) hx hb dX6_actByDraw_47 (by rw [hc]; decide) (by rw [hc]; decide) (by rw [hc]; rfl) (by decide) ?_
        refine lv_aload_n hx hb dX6_actByDraw_76 rfl (lv_at hl 4 rfl) ?_
        refine gt_X6_23 hx hb hts hown hK hP dX6_actByDraw_77 ?_
        refine lv_iload hx hb dX6_actByDraw_80 (lv_at hl 1 rfl) ?_
        obtain ⟨v82, h82, hf⟩ := bnd hf
        refine q_cVz (As := [.int v29]) hx hb hts hml hown hK hP hS (c_X5_isRetired l D w σ (20) v29 v82 isY20 h82) hw_X6_154 hd_X5_isRetired ⟨rfl, rfl, rfl⟩ isY20.o (ce5 isY20.k) rfl ⟨Nat.le_of_ble_eq_true rfl, Nat.le_of_ble_eq_true rfl⟩ ⟨Nat.le_of_ble_eq_true rfl, Nat.le_of_ble_eq_true rfl⟩ hl.1 rfl (Nat.le_of_ble_eq_true rfl) dX6_actByDraw_82 (fun hz82 H locs hP hS => ?_)
        refine lv_if_ne (tgt := 157) hx hb dX6_actByDraw_85 (by decide) (fun hc => ?_) (fun hc => ?_)
        · have hf := ifp hc hf
          have hq := Option.some.inj hf
          exact q_vret hx hb hr hlk hP hS hq dX6_actByDraw_157
        · have hf := ifn (fun h => h hc) hf
          refine lv_aload_n hx hb dX6_actByDraw_88 rfl (lv_at hl 4 rfl) ?_
          refine gt_X6_23 hx hb hts hown hK hP dX6_actByDraw_89 ?_
          refine lv_iload hx hb dX6_actByDraw_92 (lv_at hl 1 rfl) ?_
          obtain ⟨⟨v94, σ94⟩, h94, hf⟩ := bnd hf
          dsimp only at hf
          refine q_cVi (As := [.int v29]) hx hb hts hml hown hK hP hS (c_X5_paintPost l D w σ (20) v29 v94 σ94 isY20 hJ h94) hw_X6_157 hd_X5_paintPost ⟨rfl, rfl, rfl⟩ isY20.o (ce5 isY20.k) rfl ⟨Nat.le_of_ble_eq_true rfl, Nat.le_of_ble_eq_true rfl⟩ ⟨Nat.le_of_ble_eq_true rfl, Nat.le_of_ble_eq_true rfl⟩ hl.1 rfl (Nat.le_of_ble_eq_true rfl) dX6_actByDraw_94 (fun H locs hP hS => ?_)
          refine lv_pop hx hb dX6_actByDraw_97 rfl ?_
          refine lv_goto (tgt := 157) hx hb dX6_actByDraw_98 (by decide) ?_
          have hq := Option.some.inj hf
          exact q_vret hx hb hr hlk hP hS hq dX6_actByDraw_157
      have hf := ifn hc0 hf
      rcases Decidable.em ((jrem (a1 / (64 : Int32)) (6 : Int32)) = (1 : Int32)) with hc | hc1
      · have hf := ifp hc hf
        refine lv_tableIn (off := 54) (tgt := 101) hx hb dX6_actByDraw_47 (by rw [hc]; decide) (by rw [hc]; decide) (by rw [hc]; rfl) (by decide) ?_
        refine lv_aload_n hx hb dX6_actByDraw_101 rfl (lv_at hl 4 rfl) ?_
        refine gt_X6_23 hx hb hts hown hK hP dX6_actByDraw_102 ?_
        refine lv_iload hx hb dX6_actByDraw_105 (lv_at hl 1 rfl) ?_
        obtain ⟨v107, h107, hf⟩ := bnd hf
        refine q_cVz (As := [.int v29]) hx hb hts hml hown hK hP hS (c_X5_isRetired l D w σ (20) v29 v107 isY20 h107) hw_X6_154 hd_X5_isRetired ⟨rfl, rfl, rfl⟩ isY20.o (ce5 isY20.k) rfl ⟨Nat.le_of_ble_eq_true rfl, Nat.le_of_ble_eq_true rfl⟩ ⟨Nat.le_of_ble_eq_true rfl, Nat.le_of_ble_eq_true rfl⟩ hl.1 rfl (Nat.le_of_ble_eq_true rfl) dX6_actByDraw_107 (fun hz107 H locs hP hS => ?_)
        refine lv_if_ne (tgt := 157) hx hb dX6_actByDraw_110 (by decide) (fun hc => ?_) (fun hc => ?_)
        · have hf := ifp hc hf
          have hq := Option.some.inj hf
          exact q_vret hx hb hr hlk hP hS hq dX6_actByDraw_157
        · have hf := ifn (fun h => h hc) hf
          refine lv_aload_n hx hb dX6_actByDraw_113 rfl (lv_at hl 4 rfl) ?_
          refine gt_X6_23 hx hb hts hown hK hP dX6_actByDraw_114 ?_
          refine lv_iload hx hb dX6_actByDraw_117 (lv_at hl 1 rfl) ?_
          refine lv_iload hx hb dX6_actByDraw_119 (lv_at hl 0 rfl) ?_
          obtain ⟨σ121, h121, hf⟩ := bnd hf
          refine q_cVv (As := [.int v29, .int v37]) hx hb hts hml hown hK hP hS (c_X5_movePost l D w σ (20) v29 v37 σ121 isY20 hJ h121) hw_X6_160 hd_X5_movePost ⟨rfl, rfl, rfl⟩ isY20.o (ce5 isY20.k) rfl ⟨Nat.le_of_ble_eq_true rfl, Nat.le_of_ble_eq_true rfl⟩ ⟨Nat.le_of_ble_eq_true rfl, Nat.le_of_ble_eq_true rfl⟩ hl.1 rfl (Nat.le_of_ble_eq_true rfl) dX6_actByDraw_121 (fun H locs hP hS => ?_)
          refine lv_goto (tgt := 157) hx hb dX6_actByDraw_124 (by decide) ?_
          have hq := Option.some.inj hf
          exact q_vret hx hb hr hlk hP hS hq dX6_actByDraw_157
      have hf := ifn hc1 hf
      rcases Decidable.em ((jrem (a1 / (64 : Int32)) (6 : Int32)) = (2 : Int32)) with hc | hc2
      · have hf := ifp hc hf
        refine lv_tableIn (off := 80) (tgt := 127) hx hb dX6_actByDraw_47 (by rw [hc]; decide) (by rw [hc]; decide) (by rw [hc]; rfl) (by decide) ?_
        refine lv_aload_n hx hb dX6_actByDraw_127 rfl (lv_at hl 4 rfl) ?_
        refine gt_X6_23 hx hb hts hown hK hP dX6_actByDraw_128 ?_
        obtain ⟨⟨v131, σ131⟩, h131, hf⟩ := bnd hf
        dsimp only at hf
        refine q_cVi (As := []) hx hb hts hml hown hK hP hS (c_X5_passYear l D w σ (20) v131 σ131 isY20 hJ h131) hw_X6_147 hd_X5_passYear ⟨rfl, rfl, rfl⟩ isY20.o (ce5 isY20.k) rfl ⟨Nat.le_of_ble_eq_true rfl, Nat.le_of_ble_eq_true rfl⟩ ⟨Nat.le_of_ble_eq_true rfl, Nat.le_of_ble_eq_true rfl⟩ hl.1 rfl (Nat.le_of_ble_eq_true rfl) dX6_actByDraw_131 (fun H locs hP hS => ?_)
        refine lv_pop hx hb dX6_actByDraw_134 rfl ?_
        refine lv_goto (tgt := 157) hx hb dX6_actByDraw_135 (by decide) ?_
        have hq := Option.some.inj hf
        exact q_vret hx hb hr hlk hP hS hq dX6_actByDraw_157
      have hf := ifn hc2 hf
      rcases Decidable.em ((jrem (a1 / (64 : Int32)) (6 : Int32)) = (3 : Int32)) with hc | hc3
      · have hf := ifp hc hf
        refine lv_tableIn (off := 91) (tgt := 138) hx hb dX6_actByDraw_47 (by rw [hc]; decide) (by rw [hc]; decide) (by rw [hc]; rfl) (by decide) ?_
        refine lv_aload_n hx hb dX6_actByDraw_138 rfl (lv_at hl 4 rfl) ?_
        refine lv_iload hx hb dX6_actByDraw_139 (lv_at hl 0 rfl) ?_
        refine lv_iload_n hx hb dX6_actByDraw_141 rfl (lv_at hl 5 rfl) ?_
        refine lv_sipush (v := (512 : Int32)) hx hb dX6_actByDraw_142 (by decide) ?_
        refine lv_idiv hx hb dX6_actByDraw_145 (by decide) ?_
        refine lv_bipush (v := (9 : Int32)) hx hb dX6_actByDraw_146 (by decide) ?_
        refine q_iremL hx hb (by decide) dX6_actByDraw_148 ?_
        refine lv_iconst (v := (1 : Int32)) hx hb dX6_actByDraw_149 (by decide) ?_
        refine lv_iadd hx hb dX6_actByDraw_150 ?_
        obtain ⟨σ151, h151, hf⟩ := bnd hf
        refine q_cVv (As := [.int v37, .int ((jrem (a1 / (512 : Int32)) (9 : Int32)) + (1 : Int32))]) hx hb hts hml hown hK hP hS (c_X6_layOrClose l D w σ v37 ((jrem (a1 / (512 : Int32)) (9 : Int32)) + (1 : Int32)) σ151 hJ h151) hw_X6_282 hd_X6_layOrClose ⟨rfl, rfl, rfl⟩ o0 (ce6 kd0) rfl ⟨Nat.le_of_ble_eq_true rfl, Nat.le_of_ble_eq_true rfl⟩ ⟨Nat.le_of_ble_eq_true rfl, Nat.le_of_ble_eq_true rfl⟩ hl.1 rfl (Nat.le_of_ble_eq_true rfl) dX6_actByDraw_151 (fun H locs hP hS => ?_)
        refine lv_goto (tgt := 157) hx hb dX6_actByDraw_154 (by decide) ?_
        have hq := Option.some.inj hf
        exact q_vret hx hb hr hlk hP hS hq dX6_actByDraw_157
      have hf := ifn hc3 hf
      refine lv_tableOut (tgt := 157) hx hb dX6_actByDraw_47 (tb_out_0_3 hc0 hc1 hc2 hc3) (by decide) ?_
      have hq := Option.some.inj hf
      exact q_vret hx hb hr hlk hP hS hq dX6_actByDraw_157
    · have hf := ifn hc hf
      have hq := Option.some.inj hf
      exact q_vret hx hb hr hlk hP hS hq dX6_actByDraw_26
def f_X6_century_b1 (a1 : Int32) (a2 : Int32) (x4_47 : Int32) (σ_47 : Sg) : Option ((Int32 × Sg) ⊕ Sg) :=
  if a2 ≤ x4_47 then
  some (.inr σ_47)
  else
  (f_X6_drawn σ_47 a1 x4_47).bind fun v57 =>
  (f_X6_actByDraw σ_47 v57).bind fun σ60 =>
  (f_X5_passHours σ60 (20) (1 : Int32)).bind fun σ68 =>
  some (.inl ((x4_47 + (1 : Int32)), σ68))
def f_X6_century_k1 (a3 : Int32) (σ_77 : Sg) : Option (Int32 × Sg) :=
  if a3 = (0 : Int32) then
  (f_X5_comeCount σ_77 (20)).bind fun v108 =>
  some (v108, σ_77)
  else if a3 = (1 : Int32) then
  (f_X5_retiredCount σ_77 (20)).bind fun v116 =>
  some (v116, σ_77)
  else (f_X3_milesOfAll σ_77 (20 + 1)).bind fun v127 =>
  some (v127, σ_77)
def f_X6_century (σ : Sg) (a1 : Int32) (a2 : Int32) (a3 : Int32) : Option (Int32 × Sg) :=
  if a1 < 0 then
  some ((-1 : Int32), σ)
  else
  if (9999 : Int32) < a1 then
  some ((-1 : Int32), σ)
  else
  if a2 < (1 : Int32) then
  some ((-1 : Int32), σ)
  else
  if (60 : Int32) < a2 then
  some ((-1 : Int32), σ)
  else
  if a3 < 0 then
  some ((-1 : Int32), σ)
  else
  if a3 ≤ (2 : Int32) then
  (f_X5_become σ (20) (6)).bind fun σ41 =>
  (lp (fun st => f_X6_century_b1 a1 a2 st.1 st.2) FU ((0 : Int32), σ41)).bind fun rr => f_X6_century_k1 a3 rr
  else
  some ((-1 : Int32), σ)
set_option maxHeartbeats 4000000 in
set_option maxRecDepth 100000 in
theorem c_X6_century (l : Launch) (D : va_G) (w : Wv) (σ : Sg) (a1 : Int32) (a2 : Int32) (a3 : Int32) (r : Int32) (σ' : Sg)  (hJ : Inj w) (hf : f_X6_century σ a1 a2 a3 = some (r, σ')) : Met l yX6_century (.code yX6_century cX6_century 5 (some .int) :: TB) (rmW 6 145) (pcW D w [.ref (w.1 (0)), .int a1, .int a2, .int a3] σ) (qiW D w r σ') 0 0 (AL w) := by
  refine q_open (by decide +kernel) (Nat.le_of_ble_eq_true rfl) ?_
  intro p e s m args below meth c ls hx hb hml hr hlk hown hts hK hP hS hl
  have hown : s.vm.findClass RX6 = some m.cls := hown
  have hl : lv_has ls 5 [(0, .ref (w.1 (0))), (1, .int a1), (2, .int a2), (3, .int a3)] := hl
  unfold f_X6_century at hf
  refine lv_iload_n hx hb dX6_century_0 rfl (lv_at hl 1 rfl) ?_
  refine lv_if_lt (tgt := 31) hx hb dX6_century_1 (by decide) (fun hc => ?_) (fun hc => ?_)
  · have hf := ifp hc hf
    refine lv_iconst (v := (-1 : Int32)) hx hb dX6_century_31 (by decide) ?_
    have hq := Option.some.inj hf
    exact q_iret hx hb hr hlk hP hS (congrArg Prod.fst hq) (congrArg Prod.snd hq) dX6_century_32
  · have hf := ifn hc hf
    refine lv_iload_n hx hb dX6_century_4 rfl (lv_at hl 1 rfl) ?_
    refine lv_sipush (v := (9999 : Int32)) hx hb dX6_century_5 (by decide) ?_
    refine lv_icmp_gt (tgt := 31) hx hb dX6_century_8 (by decide) (fun hc => ?_) (fun hc => ?_)
    · have hf := ifp hc hf
      refine lv_iconst (v := (-1 : Int32)) hx hb dX6_century_31 (by decide) ?_
      have hq := Option.some.inj hf
      exact q_iret hx hb hr hlk hP hS (congrArg Prod.fst hq) (congrArg Prod.snd hq) dX6_century_32
    · have hf := ifn hc hf
      refine lv_iload_n hx hb dX6_century_11 rfl (lv_at hl 2 rfl) ?_
      refine lv_iconst (v := (1 : Int32)) hx hb dX6_century_12 (by decide) ?_
      refine lv_icmp_lt (tgt := 31) hx hb dX6_century_13 (by decide) (fun hc => ?_) (fun hc => ?_)
      · have hf := ifp hc hf
        refine lv_iconst (v := (-1 : Int32)) hx hb dX6_century_31 (by decide) ?_
        have hq := Option.some.inj hf
        exact q_iret hx hb hr hlk hP hS (congrArg Prod.fst hq) (congrArg Prod.snd hq) dX6_century_32
      · have hf := ifn hc hf
        refine lv_iload_n hx hb dX6_century_16 rfl (lv_at hl 2 rfl) ?_
        refine lv_bipush (v := (60 : Int32)) hx hb dX6_century_17 (by decide) ?_
        refine lv_icmp_gt (tgt := 31) hx hb dX6_century_19 (by decide) (fun hc => ?_) (fun hc => ?_)
        · have hf := ifp hc hf
          refine lv_iconst (v := (-1 : Int32)) hx hb dX6_century_31 (by decide) ?_
          have hq := Option.some.inj hf
          exact q_iret hx hb hr hlk hP hS (congrArg Prod.fst hq) (congrArg Prod.snd hq) dX6_century_32
        · have hf := ifn hc hf
          refine lv_iload_n hx hb dX6_century_22 rfl (lv_at hl 3 rfl) ?_
          refine lv_if_lt (tgt := 31) hx hb dX6_century_23 (by decide) (fun hc => ?_) (fun hc => ?_)
          · have hf := ifp hc hf
            refine lv_iconst (v := (-1 : Int32)) hx hb dX6_century_31 (by decide) ?_
            have hq := Option.some.inj hf
            exact q_iret hx hb hr hlk hP hS (congrArg Prod.fst hq) (congrArg Prod.snd hq) dX6_century_32
          · have hf := ifn hc hf
            refine lv_iload_n hx hb dX6_century_26 rfl (lv_at hl 3 rfl) ?_
            refine lv_iconst (v := (2 : Int32)) hx hb dX6_century_27 (by decide) ?_
            refine lv_icmp_le (tgt := 33) hx hb dX6_century_28 (by decide) (fun hc => ?_) (fun hc => ?_)
            · have hf := ifp hc hf
              refine lv_aload_n hx hb dX6_century_33 rfl (lv_at hl 0 rfl) ?_
              refine gt_X6_23 hx hb hts hown hK hP dX6_century_34 ?_
              refine lv_aload_n hx hb dX6_century_37 rfl (lv_at hl 0 rfl) ?_
              refine gt_X6_19 hx hb hts hown hK hP dX6_century_38 ?_
              obtain ⟨σ41, h41, hf⟩ := bnd hf
              refine q_cVv (As := [.ref (w.1 (6))]) hx hb hts hml hown hK hP hS (c_X5_become l D w σ (20) (6) σ41 isY20 isY6 hJ h41) hw_X6_80 hd_X5_become ⟨rfl, rfl, rfl⟩ isY20.o (ce5 isY20.k) rfl ⟨Nat.le_of_ble_eq_true rfl, Nat.le_of_ble_eq_true rfl⟩ ⟨Nat.le_of_ble_eq_true rfl, Nat.le_of_ble_eq_true rfl⟩ hl.1 rfl (Nat.le_of_ble_eq_true rfl) dX6_century_41 (fun H locs hP hS => ?_)
              refine lv_iconst (v := (0 : Int32)) hx hb dX6_century_44 (by decide) ?_
              refine lv_istore (lv' := [(4, .int (0 : Int32)), (0, .ref (w.1 (0))), (1, .int a1), (2, .int a2), (3, .int a3)]) hx hb dX6_century_45 hl (by decide) rfl (fun ls hl => ?_)
              obtain ⟨rr, hlp, hf⟩ := bnd hf
              have hE47_77 : ∀ (σ_77 : Sg) (H : Heap) (locs : List Loc) (ls : Array Slot), f_X6_century_k1 a3 σ_77 = some (r, σ') → va_P D vwCl (WL w σ_77) H → va_S (AL w) s.heap H locs → lv_has ls 5 [(0, .ref (w.1 (0))), (3, .int a3)] → W p l e (rmW 6 145) s m args below meth c H locs 0 0 (MQ below (qiW D w r σ') args s 0 0 (AL w)) (F0 m 77 ls []) := by
                intro σ_77 H locs ls hf hP hS hl
                unfold f_X6_century_k1 at hf
                refine lv_iload_n hx hb dX6_century_77 rfl (lv_at hl 1 rfl) ?_
                rcases Decidable.em (a3 = (0 : Int32)) with hc | hc0
                · have hf := ifp hc hf
                  refine lv_lookup (off := 26) (tgt := 104) hx hb dX6_century_78 (by decide) (by rw [hc]; decide) (by decide) ?_
                  refine lv_aload_n hx hb dX6_century_104 rfl (lv_at hl 0 rfl) ?_
                  refine gt_X6_23 hx hb hts hown hK hP dX6_century_105 ?_
                  obtain ⟨v108, h108, hf⟩ := bnd hf
                  refine q_cVi (As := []) hx hb hts hml hown hK hP hS (c_X5_comeCount l D w σ_77 (20) v108 isY20 h108) hw_X6_186 hd_X5_comeCount ⟨rfl, rfl, rfl⟩ isY20.o (ce5 isY20.k) rfl ⟨Nat.le_of_ble_eq_true rfl, Nat.le_of_ble_eq_true rfl⟩ ⟨Nat.le_of_ble_eq_true rfl, Nat.le_of_ble_eq_true rfl⟩ hl.1 rfl (Nat.le_of_ble_eq_true rfl) dX6_century_108 (fun H locs hP hS => ?_)
                  have hq := Option.some.inj hf
                  exact q_iret hx hb hr hlk hP hS (congrArg Prod.fst hq) (congrArg Prod.snd hq) dX6_century_111
                have hf := ifn hc0 hf
                rcases Decidable.em (a3 = (1 : Int32)) with hc | hc1
                · have hf := ifp hc hf
                  refine lv_lookup (off := 34) (tgt := 112) hx hb dX6_century_78 (by decide) (by rw [hc]; decide) (by decide) ?_
                  refine lv_aload_n hx hb dX6_century_112 rfl (lv_at hl 0 rfl) ?_
                  refine gt_X6_23 hx hb hts hown hK hP dX6_century_113 ?_
                  obtain ⟨v116, h116, hf⟩ := bnd hf
                  refine q_cVi (As := []) hx hb hts hml hown hK hP hS (c_X5_retiredCount l D w σ_77 (20) v116 isY20 h116) hw_X6_268 hd_X5_retiredCount ⟨rfl, rfl, rfl⟩ isY20.o (ce5 isY20.k) rfl ⟨Nat.le_of_ble_eq_true rfl, Nat.le_of_ble_eq_true rfl⟩ ⟨Nat.le_of_ble_eq_true rfl, Nat.le_of_ble_eq_true rfl⟩ hl.1 rfl (Nat.le_of_ble_eq_true rfl) dX6_century_116 (fun H locs hP hS => ?_)
                  have hq := Option.some.inj hf
                  exact q_iret hx hb hr hlk hP hS (congrArg Prod.fst hq) (congrArg Prod.snd hq) dX6_century_119
                have hf := ifn hc1 hf
                refine lv_lookup (off := 42) (tgt := 120) hx hb dX6_century_78 (by decide) (by simp [Op.lookupswitch.offset, ti_nf (n := 0) (by decide) hc0, ti_nf (n := 1) (by decide) hc1]) (by decide) ?_
                refine lv_aload_n hx hb dX6_century_120 rfl (lv_at hl 0 rfl) ?_
                refine gt_X6_23 hx hb hts hown hK hP dX6_century_121 ?_
                refine q_cVr (As := []) hx hb hts hml hown hK hP hS (c_X5_roads l D w σ_77 (20) isY20) hw_X6_91 hd_X5_roads ⟨rfl, rfl, rfl⟩ isY20.o (ce5 isY20.k) rfl ⟨Nat.le_of_ble_eq_true rfl, Nat.le_of_ble_eq_true rfl⟩ ⟨Nat.le_of_ble_eq_true rfl, Nat.le_of_ble_eq_true rfl⟩ hl.1 rfl (Nat.le_of_ble_eq_true rfl) dX6_century_124 (fun H locs hP hS => ?_)
                obtain ⟨v127, h127, hf⟩ := bnd hf
                refine q_cVi (As := []) hx hb hts hml hown hK hP hS (c_X3_milesOfAll l D w σ_77 (20 + 1) v127 isY20.f0 h127) hw_X6_271 hd_X3_milesOfAll ⟨rfl, rfl, rfl⟩ isY20.f0.o (ce3 isY20.f0.k) rfl ⟨Nat.le_of_ble_eq_true rfl, Nat.le_of_ble_eq_true rfl⟩ ⟨Nat.le_of_ble_eq_true rfl, Nat.le_of_ble_eq_true rfl⟩ hl.1 rfl (Nat.le_of_ble_eq_true rfl) dX6_century_127 (fun H locs hP hS => ?_)
                have hq := Option.some.inj hf
                exact q_iret hx hb hr hlk hP hS (congrArg Prod.fst hq) (congrArg Prod.snd hq) dX6_century_130
              refine useP (lp_ind (S := (Int32 × Sg)) (R := Sg) (b := fun st => f_X6_century_b1 a1 a2 st.1 st.2) (G := fun (st : (Int32 × Sg)) => ∀ (H : Heap) (locs : List Loc) (ls : Array Slot), va_P D vwCl (WL w st.2) H → va_S (AL w) s.heap H locs → lv_has ls 5 [(0, .ref (w.1 (0))), (1, .int a1), (2, .int a2), (3, .int a3), (4, .int st.1)] → W p l e (rmW 6 145) s m args below meth c H locs 0 0 (MQ below (qiW D w r σ') args s 0 0 (AL w)) (F0 m 47 ls [])) (X := fun rr => f_X6_century_k1 a3 rr = some (r, σ')) ?_ FU ((0 : Int32), σ41) rr hlp hf) (fun hGo => hGo _ _ _ hP hS (lv_sub hl [1, 2, 3, 4, 0] rfl))
              rintro ⟨x4_47, σ_47⟩ oo47 hb9 hG47 hX47 H locs ls hP hS hl
              have hP : va_P D vwCl (WL w σ_47) H := hP
              have hl : lv_has ls 5 [(0, .ref (w.1 (0))), (1, .int a1), (2, .int a2), (3, .int a3), (4, .int x4_47)] := hl
              have hf : f_X6_century_b1 a1 a2 x4_47 σ_47 = some oo47 := hb9
              unfold f_X6_century_b1 at hf
              refine lv_iload hx hb dX6_century_47 (lv_at hl 4 rfl) ?_
              refine lv_iload_n hx hb dX6_century_49 rfl (lv_at hl 2 rfl) ?_
              refine lv_icmp_ge (tgt := 77) hx hb dX6_century_50 (by decide) (fun hc => ?_) (fun hc => ?_)
              · have hf := ifp hc hf
                obtain rfl := Option.some.inj hf
                exact hE47_77 σ_47 _ _ _ (hX47 _ rfl) hP hS (lv_sub hl [0, 3] rfl)
              · have hf := ifn hc hf
                refine lv_aload_n hx hb dX6_century_53 rfl (lv_at hl 0 rfl) ?_
                refine lv_iload_n hx hb dX6_century_54 rfl (lv_at hl 1 rfl) ?_
                refine lv_iload hx hb dX6_century_55 (lv_at hl 4 rfl) ?_
                obtain ⟨v57, h57, hf⟩ := bnd hf
                refine q_cSi (As := [.int a1, .int x4_47]) hx hb hts hml hown hK hP hS (c_X6_drawn l D w σ_47 a1 x4_47 v57 h57) hw_X6_262 hd_X6_drawn ⟨rfl, rfl, rfl⟩ ⟨Nat.le_of_ble_eq_true rfl, Nat.le_of_ble_eq_true rfl⟩ ⟨Nat.le_of_ble_eq_true rfl, Nat.le_of_ble_eq_true rfl⟩ hl.1 rfl (Nat.le_of_ble_eq_true rfl) dX6_century_57 (fun H locs hP hS => ?_)
                obtain ⟨σ60, h60, hf⟩ := bnd hf
                refine q_cVv (As := [.int v57]) hx hb hts hml hown hK hP hS (c_X6_actByDraw l D w σ_47 v57 σ60 hJ h60) hw_X6_265 hd_X6_actByDraw ⟨rfl, rfl, rfl⟩ o0 (ce6 kd0) rfl ⟨Nat.le_of_ble_eq_true rfl, Nat.le_of_ble_eq_true rfl⟩ ⟨Nat.le_of_ble_eq_true rfl, Nat.le_of_ble_eq_true rfl⟩ hl.1 rfl (Nat.le_of_ble_eq_true rfl) dX6_century_60 (fun H locs hP hS => ?_)
                refine lv_aload_n hx hb dX6_century_63 rfl (lv_at hl 0 rfl) ?_
                refine gt_X6_23 hx hb hts hown hK hP dX6_century_64 ?_
                refine lv_iconst (v := (1 : Int32)) hx hb dX6_century_67 (by decide) ?_
                obtain ⟨σ68, h68, hf⟩ := bnd hf
                refine q_cVv (As := [.int (1 : Int32)]) hx hb hts hml hown hK hP hS (c_X5_passHours l D w σ60 (20) (1 : Int32) σ68 isY20 hJ h68) hw_X6_144 hd_X5_passHours ⟨rfl, rfl, rfl⟩ isY20.o (ce5 isY20.k) rfl ⟨Nat.le_of_ble_eq_true rfl, Nat.le_of_ble_eq_true rfl⟩ ⟨Nat.le_of_ble_eq_true rfl, Nat.le_of_ble_eq_true rfl⟩ hl.1 rfl (Nat.le_of_ble_eq_true rfl) dX6_century_68 (fun H locs hP hS => ?_)
                refine lv_iinc (v := (x4_47 + (1 : Int32))) (lv' := [(4, .int (x4_47 + (1 : Int32))), (0, .ref (w.1 (0))), (1, .int a1), (2, .int a2), (3, .int a3)]) hx hb dX6_century_71 hl (k := 4) rfl ii_1 (by decide) rfl (fun ls hl => ?_)
                refine lv_goto (tgt := 47) hx hb dX6_century_74 (by decide) ?_
                obtain rfl := Option.some.inj hf
                exact hG47 _ rfl _ _ _ hP hS (lv_sub hl [1, 2, 3, 4, 0] rfl)
            · have hf := ifn hc hf
              refine lv_iconst (v := (-1 : Int32)) hx hb dX6_century_31 (by decide) ?_
              have hq := Option.some.inj hf
              exact q_iret hx hb hr hlk hP hS (congrArg Prod.fst hq) (congrArg Prod.snd hq) dX6_century_32
def f_X6_keep (σ : Sg)  : Option (Int32 × Sg) :=
  (f_X4_held σ (148)).bind fun v4 =>
  if v4 < (2 : Int32) then
  (f_X4_setAside σ (148) (6)).bind fun σ22 =>
  (f_X4_held σ22 (148)).bind fun v29 =>
  some (v29, σ22)
  else
  some ((-3 : Int32), σ)
set_option maxHeartbeats 4000000 in
set_option maxRecDepth 100000 in
theorem c_X6_keep (l : Launch) (D : va_G) (w : Wv) (σ : Sg)  (r : Int32) (σ' : Sg)  (hJ : Inj w) (hf : f_X6_keep σ = some (r, σ')) : Met l yX6_keep (.code yX6_keep cX6_keep 1 (some .int) :: TB) (rmW 5 107) (pcW D w [.ref (w.1 (0))] σ) (qiW D w r σ') 0 0 (AL w) := by
  refine q_open (by decide +kernel) (Nat.le_of_ble_eq_true rfl) ?_
  intro p e s m args below meth c ls hx hb hml hr hlk hown hts hK hP hS hl
  have hown : s.vm.findClass RX6 = some m.cls := hown
  have hl : lv_has ls 1 [(0, .ref (w.1 (0)))] := hl
  unfold f_X6_keep at hf
  refine lv_aload_n hx hb dX6_keep_0 rfl (lv_at hl 0 rfl) ?_
  refine gt_X6_35 hx hb hts hown hK hP dX6_keep_1 ?_
  obtain ⟨v4, h4, hf⟩ := bnd hf
  refine q_cVi (As := []) hx hb hts hml hown hK hP hS (c_X4_held l D w σ (148) v4 isS148 h4) hw_X6_171 hd_X4_held ⟨rfl, rfl, rfl⟩ isS148.o (ce4 isS148.k) rfl ⟨Nat.le_of_ble_eq_true rfl, Nat.le_of_ble_eq_true rfl⟩ ⟨Nat.le_of_ble_eq_true rfl, Nat.le_of_ble_eq_true rfl⟩ hl.1 rfl (Nat.le_of_ble_eq_true rfl) dX6_keep_4 (fun H locs hP hS => ?_)
  refine lv_iconst (v := (2 : Int32)) hx hb dX6_keep_7 (by decide) ?_
  refine lv_icmp_lt (tgt := 14) hx hb dX6_keep_8 (by decide) (fun hc => ?_) (fun hc => ?_)
  · have hf := ifp hc hf
    refine lv_aload_n hx hb dX6_keep_14 rfl (lv_at hl 0 rfl) ?_
    refine gt_X6_35 hx hb hts hown hK hP dX6_keep_15 ?_
    refine lv_aload_n hx hb dX6_keep_18 rfl (lv_at hl 0 rfl) ?_
    refine gt_X6_19 hx hb hts hown hK hP dX6_keep_19 ?_
    obtain ⟨σ22, h22, hf⟩ := bnd hf
    refine q_cVv (As := [.ref (w.1 (6))]) hx hb hts hml hown hK hP hS (c_X4_setAside l D w σ (148) (6) σ22 isS148 isY6 hJ h22) hw_X6_141 hd_X4_setAside ⟨rfl, rfl, rfl⟩ isS148.o (ce4 isS148.k) rfl ⟨Nat.le_of_ble_eq_true rfl, Nat.le_of_ble_eq_true rfl⟩ ⟨Nat.le_of_ble_eq_true rfl, Nat.le_of_ble_eq_true rfl⟩ hl.1 rfl (Nat.le_of_ble_eq_true rfl) dX6_keep_22 (fun H locs hP hS => ?_)
    refine lv_aload_n hx hb dX6_keep_25 rfl (lv_at hl 0 rfl) ?_
    refine gt_X6_35 hx hb hts hown hK hP dX6_keep_26 ?_
    obtain ⟨v29, h29, hf⟩ := bnd hf
    refine q_cVi (As := []) hx hb hts hml hown hK hP hS (c_X4_held l D w σ22 (148) v29 isS148 h29) hw_X6_171 hd_X4_held ⟨rfl, rfl, rfl⟩ isS148.o (ce4 isS148.k) rfl ⟨Nat.le_of_ble_eq_true rfl, Nat.le_of_ble_eq_true rfl⟩ ⟨Nat.le_of_ble_eq_true rfl, Nat.le_of_ble_eq_true rfl⟩ hl.1 rfl (Nat.le_of_ble_eq_true rfl) dX6_keep_29 (fun H locs hP hS => ?_)
    have hq := Option.some.inj hf
    exact q_iret hx hb hr hlk hP hS (congrArg Prod.fst hq) (congrArg Prod.snd hq) dX6_keep_32
  · have hf := ifn hc hf
    refine lv_bipush (v := (-3 : Int32)) hx hb dX6_keep_11 (by decide) ?_
    have hq := Option.some.inj hf
    exact q_iret hx hb hr hlk hP hS (congrArg Prod.fst hq) (congrArg Prod.snd hq) dX6_keep_13
def f_X6_back (σ : Sg)  : Option (Int32 × Sg) :=
  (f_X4_giveBack σ (148) (6)).bind fun q8 =>
  if ¬ q8.1 = 0 then
  (f_X4_empty q8.2 (34)).bind fun σ21 =>
  (f_X4_held σ21 (148)).bind fun v28 =>
  some (v28, σ21)
  else
  some ((-2 : Int32), q8.2)
set_option maxHeartbeats 4000000 in
set_option maxRecDepth 100000 in
theorem c_X6_back (l : Launch) (D : va_G) (w : Wv) (σ : Sg)  (r : Int32) (σ' : Sg)  (hJ : Inj w) (hf : f_X6_back σ = some (r, σ')) : Met l yX6_back (.code yX6_back cX6_back 1 (some .int) :: TB) (rmW 5 108) (pcW D w [.ref (w.1 (0))] σ) (qiW D w r σ') 0 0 (AL w) := by
  refine q_open (by decide +kernel) (Nat.le_of_ble_eq_true rfl) ?_
  intro p e s m args below meth c ls hx hb hml hr hlk hown hts hK hP hS hl
  have hown : s.vm.findClass RX6 = some m.cls := hown
  have hl : lv_has ls 1 [(0, .ref (w.1 (0)))] := hl
  unfold f_X6_back at hf
  refine lv_aload_n hx hb dX6_back_0 rfl (lv_at hl 0 rfl) ?_
  refine gt_X6_35 hx hb hts hown hK hP dX6_back_1 ?_
  refine lv_aload_n hx hb dX6_back_4 rfl (lv_at hl 0 rfl) ?_
  refine gt_X6_19 hx hb hts hown hK hP dX6_back_5 ?_
  obtain ⟨⟨v8, σ8⟩, h8, hf⟩ := bnd hf
  dsimp only at hf
  refine q_cVz (As := [.ref (w.1 (6))]) hx hb hts hml hown hK hP hS (c_X4_giveBack l D w σ (148) (6) v8 σ8 isS148 isY6 hJ h8) hw_X6_167 hd_X4_giveBack ⟨rfl, rfl, rfl⟩ isS148.o (ce4 isS148.k) rfl ⟨Nat.le_of_ble_eq_true rfl, Nat.le_of_ble_eq_true rfl⟩ ⟨Nat.le_of_ble_eq_true rfl, Nat.le_of_ble_eq_true rfl⟩ hl.1 rfl (Nat.le_of_ble_eq_true rfl) dX6_back_8 (fun hz8 H locs hP hS => ?_)
  refine lv_if_ne (tgt := 17) hx hb dX6_back_11 (by decide) (fun hc => ?_) (fun hc => ?_)
  · have hf := ifp hc hf
    refine lv_aload_n hx hb dX6_back_17 rfl (lv_at hl 0 rfl) ?_
    refine gt_X6_31 hx hb hts hown hK hP dX6_back_18 ?_
    obtain ⟨σ21, h21, hf⟩ := bnd hf
    refine q_cVv (As := []) hx hb hts hml hown hK hP hS (c_X4_empty l D w σ8 (34) σ21 isS34 hJ h21) hw_X6_84 hd_X4_empty ⟨rfl, rfl, rfl⟩ isS34.o (ce4 isS34.k) rfl ⟨Nat.le_of_ble_eq_true rfl, Nat.le_of_ble_eq_true rfl⟩ ⟨Nat.le_of_ble_eq_true rfl, Nat.le_of_ble_eq_true rfl⟩ hl.1 rfl (Nat.le_of_ble_eq_true rfl) dX6_back_21 (fun H locs hP hS => ?_)
    refine lv_aload_n hx hb dX6_back_24 rfl (lv_at hl 0 rfl) ?_
    refine gt_X6_35 hx hb hts hown hK hP dX6_back_25 ?_
    obtain ⟨v28, h28, hf⟩ := bnd hf
    refine q_cVi (As := []) hx hb hts hml hown hK hP hS (c_X4_held l D w σ21 (148) v28 isS148 h28) hw_X6_171 hd_X4_held ⟨rfl, rfl, rfl⟩ isS148.o (ce4 isS148.k) rfl ⟨Nat.le_of_ble_eq_true rfl, Nat.le_of_ble_eq_true rfl⟩ ⟨Nat.le_of_ble_eq_true rfl, Nat.le_of_ble_eq_true rfl⟩ hl.1 rfl (Nat.le_of_ble_eq_true rfl) dX6_back_28 (fun H locs hP hS => ?_)
    have hq := Option.some.inj hf
    exact q_iret hx hb hr hlk hP hS (congrArg Prod.fst hq) (congrArg Prod.snd hq) dX6_back_31
  · have hf := ifn (fun h => h hc) hf
    refine lv_bipush (v := (-2 : Int32)) hx hb dX6_back_14 (by decide) ?_
    have hq := Option.some.inj hf
    exact q_iret hx hb hr hlk hP hS (congrArg Prod.fst hq) (congrArg Prod.snd hq) dX6_back_16
def f_X6_count (σ : Sg) (a1 : Int32) : Option Int32 :=
  if a1 = (0 : Int32) then
  (f_X5_towns σ (6)).bind fun v72 =>
  some v72
  else if a1 = (1 : Int32) then
  (f_X5_posts σ (6)).bind fun v80 =>
  some v80
  else if a1 = (2 : Int32) then
  (f_X5_walkers σ (6)).bind fun v88 =>
  some v88
  else if a1 = (3 : Int32) then
  (f_X5_hour σ (6)).bind fun v96 =>
  some v96
  else if a1 = (4 : Int32) then
  (f_X5_years σ (6)).bind fun v104 =>
  some v104
  else if a1 = (5 : Int32) then
  (f_X3_howMany σ (6 + 1)).bind fun v115 =>
  some v115
  else if a1 = (6 : Int32) then
  (f_X5_retiredCount σ (6)).bind fun v123 =>
  some v123
  else if a1 = (7 : Int32) then
  (f_X5_comeCount σ (6)).bind fun v131 =>
  some v131
  else if a1 = (8 : Int32) then
  (f_X2_held σ (178)).bind fun v139 =>
  some v139
  else if a1 = (9 : Int32) then
  (f_X2_held σ (181)).bind fun v147 =>
  some v147
  else if a1 = (10 : Int32) then
  (f_X4_held σ (34)).bind fun v155 =>
  some v155
  else if a1 = (11 : Int32) then
  (f_X4_held σ (148)).bind fun v163 =>
  some v163
  else if a1 = (12 : Int32) then
  (f_X1_length σ (1)).bind fun v171 =>
  some v171
  else some (-1 : Int32)
set_option maxHeartbeats 4000000 in
set_option maxRecDepth 100000 in
theorem c_X6_count (l : Launch) (D : va_G) (w : Wv) (σ : Sg) (a1 : Int32) (r : Int32)  (hf : f_X6_count σ a1 = some r) : Met l yX6_count (.code yX6_count cX6_count 2 (some .int) :: TB) (rmW 3 67) (pcW D w [.ref (w.1 (0)), .int a1] σ) (qiW D w r σ) 0 0 (AL w) := by
  refine q_open (by decide +kernel) (Nat.le_of_ble_eq_true rfl) ?_
  intro p e s m args below meth c ls hx hb hml hr hlk hown hts hK hP hS hl
  have hown : s.vm.findClass RX6 = some m.cls := hown
  have hl : lv_has ls 2 [(0, .ref (w.1 (0))), (1, .int a1)] := hl
  unfold f_X6_count at hf
  refine lv_iload_n hx hb dX6_count_0 rfl (lv_at hl 1 rfl) ?_
  rcases Decidable.em (a1 = (0 : Int32)) with hc | hc0
  · have hf := ifp hc hf
    refine lv_tableIn (off := 67) (tgt := 68) hx hb dX6_count_1 (by rw [hc]; decide) (by rw [hc]; decide) (by rw [hc]; rfl) (by decide) ?_
    refine lv_aload_n hx hb dX6_count_68 rfl (lv_at hl 0 rfl) ?_
    refine gt_X6_19 hx hb hts hown hK hP dX6_count_69 ?_
    obtain ⟨v72, h72, hf⟩ := bnd hf
    refine q_cVi (As := []) hx hb hts hml hown hK hP hS (c_X5_towns l D w σ (6) v72 isY6 h72) hw_X6_174 hd_X5_towns ⟨rfl, rfl, rfl⟩ isY6.o (ce5 isY6.k) rfl ⟨Nat.le_of_ble_eq_true rfl, Nat.le_of_ble_eq_true rfl⟩ ⟨Nat.le_of_ble_eq_true rfl, Nat.le_of_ble_eq_true rfl⟩ hl.1 rfl (Nat.le_of_ble_eq_true rfl) dX6_count_72 (fun H locs hP hS => ?_)
    have hq := Option.some.inj hf
    exact q_iret hx hb hr hlk hP hS hq rfl dX6_count_75
  have hf := ifn hc0 hf
  rcases Decidable.em (a1 = (1 : Int32)) with hc | hc1
  · have hf := ifp hc hf
    refine lv_tableIn (off := 75) (tgt := 76) hx hb dX6_count_1 (by rw [hc]; decide) (by rw [hc]; decide) (by rw [hc]; rfl) (by decide) ?_
    refine lv_aload_n hx hb dX6_count_76 rfl (lv_at hl 0 rfl) ?_
    refine gt_X6_19 hx hb hts hown hK hP dX6_count_77 ?_
    obtain ⟨v80, h80, hf⟩ := bnd hf
    refine q_cVi (As := []) hx hb hts hml hown hK hP hS (c_X5_posts l D w σ (6) v80 isY6 h80) hw_X6_74 hd_X5_posts ⟨rfl, rfl, rfl⟩ isY6.o (ce5 isY6.k) rfl ⟨Nat.le_of_ble_eq_true rfl, Nat.le_of_ble_eq_true rfl⟩ ⟨Nat.le_of_ble_eq_true rfl, Nat.le_of_ble_eq_true rfl⟩ hl.1 rfl (Nat.le_of_ble_eq_true rfl) dX6_count_80 (fun H locs hP hS => ?_)
    have hq := Option.some.inj hf
    exact q_iret hx hb hr hlk hP hS hq rfl dX6_count_83
  have hf := ifn hc1 hf
  rcases Decidable.em (a1 = (2 : Int32)) with hc | hc2
  · have hf := ifp hc hf
    refine lv_tableIn (off := 83) (tgt := 84) hx hb dX6_count_1 (by rw [hc]; decide) (by rw [hc]; decide) (by rw [hc]; rfl) (by decide) ?_
    refine lv_aload_n hx hb dX6_count_84 rfl (lv_at hl 0 rfl) ?_
    refine gt_X6_19 hx hb hts hown hK hP dX6_count_85 ?_
    obtain ⟨v88, h88, hf⟩ := bnd hf
    refine q_cVi (As := []) hx hb hts hml hown hK hP hS (c_X5_walkers l D w σ (6) v88 isY6 h88) hw_X6_77 hd_X5_walkers ⟨rfl, rfl, rfl⟩ isY6.o (ce5 isY6.k) rfl ⟨Nat.le_of_ble_eq_true rfl, Nat.le_of_ble_eq_true rfl⟩ ⟨Nat.le_of_ble_eq_true rfl, Nat.le_of_ble_eq_true rfl⟩ hl.1 rfl (Nat.le_of_ble_eq_true rfl) dX6_count_88 (fun H locs hP hS => ?_)
    have hq := Option.some.inj hf
    exact q_iret hx hb hr hlk hP hS hq rfl dX6_count_91
  have hf := ifn hc2 hf
  rcases Decidable.em (a1 = (3 : Int32)) with hc | hc3
  · have hf := ifp hc hf
    refine lv_tableIn (off := 91) (tgt := 92) hx hb dX6_count_1 (by rw [hc]; decide) (by rw [hc]; decide) (by rw [hc]; rfl) (by decide) ?_
    refine lv_aload_n hx hb dX6_count_92 rfl (lv_at hl 0 rfl) ?_
    refine gt_X6_19 hx hb hts hown hK hP dX6_count_93 ?_
    obtain ⟨v96, h96, hf⟩ := bnd hf
    refine q_cVi (As := []) hx hb hts hml hown hK hP hS (c_X5_hour l D w σ (6) v96 isY6 h96) hw_X6_138 hd_X5_hour ⟨rfl, rfl, rfl⟩ isY6.o (ce5 isY6.k) rfl ⟨Nat.le_of_ble_eq_true rfl, Nat.le_of_ble_eq_true rfl⟩ ⟨Nat.le_of_ble_eq_true rfl, Nat.le_of_ble_eq_true rfl⟩ hl.1 rfl (Nat.le_of_ble_eq_true rfl) dX6_count_96 (fun H locs hP hS => ?_)
    have hq := Option.some.inj hf
    exact q_iret hx hb hr hlk hP hS hq rfl dX6_count_99
  have hf := ifn hc3 hf
  rcases Decidable.em (a1 = (4 : Int32)) with hc | hc4
  · have hf := ifp hc hf
    refine lv_tableIn (off := 99) (tgt := 100) hx hb dX6_count_1 (by rw [hc]; decide) (by rw [hc]; decide) (by rw [hc]; rfl) (by decide) ?_
    refine lv_aload_n hx hb dX6_count_100 rfl (lv_at hl 0 rfl) ?_
    refine gt_X6_19 hx hb hts hown hK hP dX6_count_101 ?_
    obtain ⟨v104, h104, hf⟩ := bnd hf
    refine q_cVi (As := []) hx hb hts hml hown hK hP hS (c_X5_years l D w σ (6) v104 isY6 h104) hw_X6_288 hd_X5_years ⟨rfl, rfl, rfl⟩ isY6.o (ce5 isY6.k) rfl ⟨Nat.le_of_ble_eq_true rfl, Nat.le_of_ble_eq_true rfl⟩ ⟨Nat.le_of_ble_eq_true rfl, Nat.le_of_ble_eq_true rfl⟩ hl.1 rfl (Nat.le_of_ble_eq_true rfl) dX6_count_104 (fun H locs hP hS => ?_)
    have hq := Option.some.inj hf
    exact q_iret hx hb hr hlk hP hS hq rfl dX6_count_107
  have hf := ifn hc4 hf
  rcases Decidable.em (a1 = (5 : Int32)) with hc | hc5
  · have hf := ifp hc hf
    refine lv_tableIn (off := 107) (tgt := 108) hx hb dX6_count_1 (by rw [hc]; decide) (by rw [hc]; decide) (by rw [hc]; rfl) (by decide) ?_
    refine lv_aload_n hx hb dX6_count_108 rfl (lv_at hl 0 rfl) ?_
    refine gt_X6_19 hx hb hts hown hK hP dX6_count_109 ?_
    refine q_cVr (As := []) hx hb hts hml hown hK hP hS (c_X5_roads l D w σ (6) isY6) hw_X6_91 hd_X5_roads ⟨rfl, rfl, rfl⟩ isY6.o (ce5 isY6.k) rfl ⟨Nat.le_of_ble_eq_true rfl, Nat.le_of_ble_eq_true rfl⟩ ⟨Nat.le_of_ble_eq_true rfl, Nat.le_of_ble_eq_true rfl⟩ hl.1 rfl (Nat.le_of_ble_eq_true rfl) dX6_count_112 (fun H locs hP hS => ?_)
    obtain ⟨v115, h115, hf⟩ := bnd hf
    refine q_cVi (As := []) hx hb hts hml hown hK hP hS (c_X3_howMany l D w σ (6 + 1) v115 isY6.f0 h115) hw_X6_291 hd_X3_howMany ⟨rfl, rfl, rfl⟩ isY6.f0.o (ce3 isY6.f0.k) rfl ⟨Nat.le_of_ble_eq_true rfl, Nat.le_of_ble_eq_true rfl⟩ ⟨Nat.le_of_ble_eq_true rfl, Nat.le_of_ble_eq_true rfl⟩ hl.1 rfl (Nat.le_of_ble_eq_true rfl) dX6_count_115 (fun H locs hP hS => ?_)
    have hq := Option.some.inj hf
    exact q_iret hx hb hr hlk hP hS hq rfl dX6_count_118
  have hf := ifn hc5 hf
  rcases Decidable.em (a1 = (6 : Int32)) with hc | hc6
  · have hf := ifp hc hf
    refine lv_tableIn (off := 118) (tgt := 119) hx hb dX6_count_1 (by rw [hc]; decide) (by rw [hc]; decide) (by rw [hc]; rfl) (by decide) ?_
    refine lv_aload_n hx hb dX6_count_119 rfl (lv_at hl 0 rfl) ?_
    refine gt_X6_19 hx hb hts hown hK hP dX6_count_120 ?_
    obtain ⟨v123, h123, hf⟩ := bnd hf
    refine q_cVi (As := []) hx hb hts hml hown hK hP hS (c_X5_retiredCount l D w σ (6) v123 isY6 h123) hw_X6_268 hd_X5_retiredCount ⟨rfl, rfl, rfl⟩ isY6.o (ce5 isY6.k) rfl ⟨Nat.le_of_ble_eq_true rfl, Nat.le_of_ble_eq_true rfl⟩ ⟨Nat.le_of_ble_eq_true rfl, Nat.le_of_ble_eq_true rfl⟩ hl.1 rfl (Nat.le_of_ble_eq_true rfl) dX6_count_123 (fun H locs hP hS => ?_)
    have hq := Option.some.inj hf
    exact q_iret hx hb hr hlk hP hS hq rfl dX6_count_126
  have hf := ifn hc6 hf
  rcases Decidable.em (a1 = (7 : Int32)) with hc | hc7
  · have hf := ifp hc hf
    refine lv_tableIn (off := 126) (tgt := 127) hx hb dX6_count_1 (by rw [hc]; decide) (by rw [hc]; decide) (by rw [hc]; rfl) (by decide) ?_
    refine lv_aload_n hx hb dX6_count_127 rfl (lv_at hl 0 rfl) ?_
    refine gt_X6_19 hx hb hts hown hK hP dX6_count_128 ?_
    obtain ⟨v131, h131, hf⟩ := bnd hf
    refine q_cVi (As := []) hx hb hts hml hown hK hP hS (c_X5_comeCount l D w σ (6) v131 isY6 h131) hw_X6_186 hd_X5_comeCount ⟨rfl, rfl, rfl⟩ isY6.o (ce5 isY6.k) rfl ⟨Nat.le_of_ble_eq_true rfl, Nat.le_of_ble_eq_true rfl⟩ ⟨Nat.le_of_ble_eq_true rfl, Nat.le_of_ble_eq_true rfl⟩ hl.1 rfl (Nat.le_of_ble_eq_true rfl) dX6_count_131 (fun H locs hP hS => ?_)
    have hq := Option.some.inj hf
    exact q_iret hx hb hr hlk hP hS hq rfl dX6_count_134
  have hf := ifn hc7 hf
  rcases Decidable.em (a1 = (8 : Int32)) with hc | hc8
  · have hf := ifp hc hf
    refine lv_tableIn (off := 134) (tgt := 135) hx hb dX6_count_1 (by rw [hc]; decide) (by rw [hc]; decide) (by rw [hc]; rfl) (by decide) ?_
    refine lv_aload_n hx hb dX6_count_135 rfl (lv_at hl 0 rfl) ?_
    refine gt_X6_41 hx hb hts hown hK hP dX6_count_136 ?_
    obtain ⟨v139, h139, hf⟩ := bnd hf
    refine q_cVi (As := []) hx hb hts hml hown hK hP hS (c_X2_held l D w σ (178) v139 isN178 h139) hw_X6_219 hd_X2_held ⟨rfl, rfl, rfl⟩ isN178.o (ce2 isN178.k) rfl ⟨Nat.le_of_ble_eq_true rfl, Nat.le_of_ble_eq_true rfl⟩ ⟨Nat.le_of_ble_eq_true rfl, Nat.le_of_ble_eq_true rfl⟩ hl.1 rfl (Nat.le_of_ble_eq_true rfl) dX6_count_139 (fun H locs hP hS => ?_)
    have hq := Option.some.inj hf
    exact q_iret hx hb hr hlk hP hS hq rfl dX6_count_142
  have hf := ifn hc8 hf
  rcases Decidable.em (a1 = (9 : Int32)) with hc | hc9
  · have hf := ifp hc hf
    refine lv_tableIn (off := 142) (tgt := 143) hx hb dX6_count_1 (by rw [hc]; decide) (by rw [hc]; decide) (by rw [hc]; rfl) (by decide) ?_
    refine lv_aload_n hx hb dX6_count_143 rfl (lv_at hl 0 rfl) ?_
    refine gt_X6_45 hx hb hts hown hK hP dX6_count_144 ?_
    obtain ⟨v147, h147, hf⟩ := bnd hf
    refine q_cVi (As := []) hx hb hts hml hown hK hP hS (c_X2_held l D w σ (181) v147 isN181 h147) hw_X6_219 hd_X2_held ⟨rfl, rfl, rfl⟩ isN181.o (ce2 isN181.k) rfl ⟨Nat.le_of_ble_eq_true rfl, Nat.le_of_ble_eq_true rfl⟩ ⟨Nat.le_of_ble_eq_true rfl, Nat.le_of_ble_eq_true rfl⟩ hl.1 rfl (Nat.le_of_ble_eq_true rfl) dX6_count_147 (fun H locs hP hS => ?_)
    have hq := Option.some.inj hf
    exact q_iret hx hb hr hlk hP hS hq rfl dX6_count_150
  have hf := ifn hc9 hf
  rcases Decidable.em (a1 = (10 : Int32)) with hc | hc10
  · have hf := ifp hc hf
    refine lv_tableIn (off := 150) (tgt := 151) hx hb dX6_count_1 (by rw [hc]; decide) (by rw [hc]; decide) (by rw [hc]; rfl) (by decide) ?_
    refine lv_aload_n hx hb dX6_count_151 rfl (lv_at hl 0 rfl) ?_
    refine gt_X6_31 hx hb hts hown hK hP dX6_count_152 ?_
    obtain ⟨v155, h155, hf⟩ := bnd hf
    refine q_cVi (As := []) hx hb hts hml hown hK hP hS (c_X4_held l D w σ (34) v155 isS34 h155) hw_X6_171 hd_X4_held ⟨rfl, rfl, rfl⟩ isS34.o (ce4 isS34.k) rfl ⟨Nat.le_of_ble_eq_true rfl, Nat.le_of_ble_eq_true rfl⟩ ⟨Nat.le_of_ble_eq_true rfl, Nat.le_of_ble_eq_true rfl⟩ hl.1 rfl (Nat.le_of_ble_eq_true rfl) dX6_count_155 (fun H locs hP hS => ?_)
    have hq := Option.some.inj hf
    exact q_iret hx hb hr hlk hP hS hq rfl dX6_count_158
  have hf := ifn hc10 hf
  rcases Decidable.em (a1 = (11 : Int32)) with hc | hc11
  · have hf := ifp hc hf
    refine lv_tableIn (off := 158) (tgt := 159) hx hb dX6_count_1 (by rw [hc]; decide) (by rw [hc]; decide) (by rw [hc]; rfl) (by decide) ?_
    refine lv_aload_n hx hb dX6_count_159 rfl (lv_at hl 0 rfl) ?_
    refine gt_X6_35 hx hb hts hown hK hP dX6_count_160 ?_
    obtain ⟨v163, h163, hf⟩ := bnd hf
    refine q_cVi (As := []) hx hb hts hml hown hK hP hS (c_X4_held l D w σ (148) v163 isS148 h163) hw_X6_171 hd_X4_held ⟨rfl, rfl, rfl⟩ isS148.o (ce4 isS148.k) rfl ⟨Nat.le_of_ble_eq_true rfl, Nat.le_of_ble_eq_true rfl⟩ ⟨Nat.le_of_ble_eq_true rfl, Nat.le_of_ble_eq_true rfl⟩ hl.1 rfl (Nat.le_of_ble_eq_true rfl) dX6_count_163 (fun H locs hP hS => ?_)
    have hq := Option.some.inj hf
    exact q_iret hx hb hr hlk hP hS hq rfl dX6_count_166
  have hf := ifn hc11 hf
  rcases Decidable.em (a1 = (12 : Int32)) with hc | hc12
  · have hf := ifp hc hf
    refine lv_tableIn (off := 166) (tgt := 167) hx hb dX6_count_1 (by rw [hc]; decide) (by rw [hc]; decide) (by rw [hc]; rfl) (by decide) ?_
    refine lv_aload_n hx hb dX6_count_167 rfl (lv_at hl 0 rfl) ?_
    refine gt_X6_10 hx hb hts hown hK hP dX6_count_168 ?_
    obtain ⟨v171, h171, hf⟩ := bnd hf
    refine q_cVi (As := []) hx hb hts hml hown hK hP hS (c_X1_length l D w σ (1) v171 isL1 h171) hw_X6_294 hd_X1_length ⟨rfl, rfl, rfl⟩ isL1.o (ce1 isL1.k) rfl ⟨Nat.le_of_ble_eq_true rfl, Nat.le_of_ble_eq_true rfl⟩ ⟨Nat.le_of_ble_eq_true rfl, Nat.le_of_ble_eq_true rfl⟩ hl.1 rfl (Nat.le_of_ble_eq_true rfl) dX6_count_171 (fun H locs hP hS => ?_)
    have hq := Option.some.inj hf
    exact q_iret hx hb hr hlk hP hS hq rfl dX6_count_174
  have hf := ifn hc12 hf
  refine lv_tableOut (tgt := 175) hx hb dX6_count_1 (tb_out_0_12 hc0 hc1 hc2 hc3 hc4 hc5 hc6 hc7 hc8 hc9 hc10 hc11 hc12) (by decide) ?_
  refine lv_iconst (v := (-1 : Int32)) hx hb dX6_count_175 (by decide) ?_
  have hq := Option.some.inj hf
  exact q_iret hx hb hr hlk hP hS hq rfl dX6_count_176
