def f_X5_clear (σ : Sg) (o : Nat) : Option Sg :=
  (f_X3_clear σ (o + 1) (6 : Int32)).bind fun σ6 =>
  (some (sf σ6 (o) 5 (0 : Int32))).bind fun σ11 =>
  (some (sf σ11 (o) 6 (0 : Int32))).bind fun σ16 =>
  (some (sf σ16 (o) 7 (0 : Int32))).bind fun σ21 =>
  (some (sf σ21 (o) 8 (0 : Int32))).bind fun σ26 =>
  (some (sf σ26 (o) 9 (0 : Int32))).bind fun σ31 =>
  some σ31
set_option maxHeartbeats 4000000 in
set_option maxRecDepth 100000 in
theorem c_X5_clear (l : Launch) (D : va_G) (w : Wv) (σ : Sg) (o : Nat) (σ' : Sg) (ho : isY o) (hJ : Inj w) (hf : f_X5_clear σ o = some σ') : Met l yX5_clear (.code yX5_clear cX5_clear 1 none :: TB) (rmW 2 43) (pcW D w [.ref (w.1 (o))] σ) (qvW D w σ') 0 0 (AL w) := by
  refine q_open (by decide +kernel) (Nat.le_of_ble_eq_true rfl) ?_
  intro p e s m args below meth c ls hx hb hml hr hlk hown hts hK hP hS hl
  have hown : s.vm.findClass RX5 = some m.cls := hown
  have hl : lv_has ls 1 [(0, .ref (w.1 (o)))] := hl
  unfold f_X5_clear at hf
  refine lv_aload_n hx hb dX5_clear_0 rfl (lv_at hl 0 rfl) ?_
  refine gt_X5_12 hx hb hts hown hK hP ho.o ho.k dX5_clear_1 ?_
  refine lv_bipush (v := (6 : Int32)) hx hb dX5_clear_4 (by decide) ?_
  obtain ⟨σ6, h6, hf⟩ := bnd hf
  refine q_cVv (As := [.int (6 : Int32)]) hx hb hts hml hown hK hP hS (c_X3_clear l D w σ (o + 1) (6 : Int32) σ6 ho.f0 hJ h6) hw_X5_59 hd_X3_clear ⟨rfl, rfl, rfl⟩ ho.f0.o (ce3 ho.f0.k) rfl ⟨Nat.le_of_ble_eq_true rfl, Nat.le_of_ble_eq_true rfl⟩ ⟨Nat.le_of_ble_eq_true rfl, Nat.le_of_ble_eq_true rfl⟩ hl.1 rfl (Nat.le_of_ble_eq_true rfl) dX5_clear_6 (fun H locs hP hS => ?_)
  refine lv_aload_n hx hb dX5_clear_9 rfl (lv_at hl 0 rfl) ?_
  refine lv_iconst (v := (0 : Int32)) hx hb dX5_clear_10 (by decide) ?_
  obtain ⟨σ11, h11, hf⟩ := bnd hf
  refine pt_X5_43 hx hb hts hown hK hP hJ hS ho.o ho.k h11 dX5_clear_11 (fun H locs hP hS => ?_)
  refine lv_aload_n hx hb dX5_clear_14 rfl (lv_at hl 0 rfl) ?_
  refine lv_iconst (v := (0 : Int32)) hx hb dX5_clear_15 (by decide) ?_
  obtain ⟨σ16, h16, hf⟩ := bnd hf
  refine pt_X5_47 hx hb hts hown hK hP hJ hS ho.o ho.k h16 dX5_clear_16 (fun H locs hP hS => ?_)
  refine lv_aload_n hx hb dX5_clear_19 rfl (lv_at hl 0 rfl) ?_
  refine lv_iconst (v := (0 : Int32)) hx hb dX5_clear_20 (by decide) ?_
  obtain ⟨σ21, h21, hf⟩ := bnd hf
  refine pt_X5_50 hx hb hts hown hK hP hJ hS ho.o ho.k h21 dX5_clear_21 (fun H locs hP hS => ?_)
  refine lv_aload_n hx hb dX5_clear_24 rfl (lv_at hl 0 rfl) ?_
  refine lv_iconst (v := (0 : Int32)) hx hb dX5_clear_25 (by decide) ?_
  obtain ⟨σ26, h26, hf⟩ := bnd hf
  refine pt_X5_53 hx hb hts hown hK hP hJ hS ho.o ho.k h26 dX5_clear_26 (fun H locs hP hS => ?_)
  refine lv_aload_n hx hb dX5_clear_29 rfl (lv_at hl 0 rfl) ?_
  refine lv_iconst (v := (0 : Int32)) hx hb dX5_clear_30 (by decide) ?_
  obtain ⟨σ31, h31, hf⟩ := bnd hf
  refine pt_X5_56 hx hb hts hown hK hP hJ hS ho.o ho.k h31 dX5_clear_31 (fun H locs hP hS => ?_)
  have hq := Option.some.inj hf
  exact q_vret hx hb hr hlk hP hS hq dX5_clear_34
def f_X5_tellTowns (σ : Sg) (o : Nat) (a1 : Int32) : Option (Int32 × Sg) :=
  if a1 < (2 : Int32) then
  some ((0 : Int32), σ)
  else
  if a1 ≤ (8 : Int32) then
  (f_X3_clear σ (o + 1) a1).bind fun σ18 =>
  some ((1 : Int32), σ18)
  else
  some ((0 : Int32), σ)
set_option maxHeartbeats 4000000 in
set_option maxRecDepth 100000 in
theorem c_X5_tellTowns (l : Launch) (D : va_G) (w : Wv) (σ : Sg) (o : Nat) (a1 : Int32) (r : Int32) (σ' : Sg) (ho : isY o) (hJ : Inj w) (hf : f_X5_tellTowns σ o a1 = some (r, σ')) : Met l yX5_tellTowns (.code yX5_tellTowns cX5_tellTowns 2 (some .boolean) :: TB) (rmW 2 43) (pcW D w [.ref (w.1 (o)), .int a1] σ) (qzW D w r σ') 0 0 (AL w) := by
  refine q_open (by decide +kernel) (Nat.le_of_ble_eq_true rfl) ?_
  intro p e s m args below meth c ls hx hb hml hr hlk hown hts hK hP hS hl
  have hown : s.vm.findClass RX5 = some m.cls := hown
  have hl : lv_has ls 2 [(0, .ref (w.1 (o))), (1, .int a1)] := hl
  unfold f_X5_tellTowns at hf
  refine lv_iload_n hx hb dX5_tellTowns_0 rfl (lv_at hl 1 rfl) ?_
  refine lv_iconst (v := (2 : Int32)) hx hb dX5_tellTowns_1 (by decide) ?_
  refine lv_icmp_lt (tgt := 11) hx hb dX5_tellTowns_2 (by decide) (fun hc => ?_) (fun hc => ?_)
  · have hf := ifp hc hf
    refine lv_iconst (v := (0 : Int32)) hx hb dX5_tellTowns_11 (by decide) ?_
    have hq := Option.some.inj hf
    exact q_zret hx hb hr hlk hP hS rfl (congrArg Prod.fst hq) (congrArg Prod.snd hq) dX5_tellTowns_12
  · have hf := ifn hc hf
    refine lv_iload_n hx hb dX5_tellTowns_5 rfl (lv_at hl 1 rfl) ?_
    refine lv_bipush (v := (8 : Int32)) hx hb dX5_tellTowns_6 (by decide) ?_
    refine lv_icmp_le (tgt := 13) hx hb dX5_tellTowns_8 (by decide) (fun hc => ?_) (fun hc => ?_)
    · have hf := ifp hc hf
      refine lv_aload_n hx hb dX5_tellTowns_13 rfl (lv_at hl 0 rfl) ?_
      refine gt_X5_12 hx hb hts hown hK hP ho.o ho.k dX5_tellTowns_14 ?_
      refine lv_iload_n hx hb dX5_tellTowns_17 rfl (lv_at hl 1 rfl) ?_
      obtain ⟨σ18, h18, hf⟩ := bnd hf
      refine q_cVv (As := [.int a1]) hx hb hts hml hown hK hP hS (c_X3_clear l D w σ (o + 1) a1 σ18 ho.f0 hJ h18) hw_X5_59 hd_X3_clear ⟨rfl, rfl, rfl⟩ ho.f0.o (ce3 ho.f0.k) rfl ⟨Nat.le_of_ble_eq_true rfl, Nat.le_of_ble_eq_true rfl⟩ ⟨Nat.le_of_ble_eq_true rfl, Nat.le_of_ble_eq_true rfl⟩ hl.1 rfl (Nat.le_of_ble_eq_true rfl) dX5_tellTowns_18 (fun H locs hP hS => ?_)
      refine lv_iconst (v := (1 : Int32)) hx hb dX5_tellTowns_21 (by decide) ?_
      have hq := Option.some.inj hf
      exact q_zret hx hb hr hlk hP hS rfl (congrArg Prod.fst hq) (congrArg Prod.snd hq) dX5_tellTowns_22
    · have hf := ifn hc hf
      refine lv_iconst (v := (0 : Int32)) hx hb dX5_tellTowns_11 (by decide) ?_
      have hq := Option.some.inj hf
      exact q_zret hx hb hr hlk hP hS rfl (congrArg Prod.fst hq) (congrArg Prod.snd hq) dX5_tellTowns_12
def f_X5_isTown (σ : Sg) (o : Nat) (a1 : Int32) : Option Int32 :=
  if a1 < 0 then
  some (0 : Int32)
  else
  (f_X3_towns σ (o + 1)).bind fun v9 =>
  if v9 ≤ a1 then
  some (0 : Int32)
  else
  some (1 : Int32)
set_option maxHeartbeats 4000000 in
set_option maxRecDepth 100000 in
theorem c_X5_isTown (l : Launch) (D : va_G) (w : Wv) (σ : Sg) (o : Nat) (a1 : Int32) (r : Int32) (ho : isY o) (hf : f_X5_isTown σ o a1 = some r) : Met l yX5_isTown (.code yX5_isTown cX5_isTown 2 (some .boolean) :: TB) (rmW 1 20) (pcW D w [.ref (w.1 (o)), .int a1] σ) (qzW D w r σ) 0 0 (AL w) := by
  refine q_open (by decide +kernel) (Nat.le_of_ble_eq_true rfl) ?_
  intro p e s m args below meth c ls hx hb hml hr hlk hown hts hK hP hS hl
  have hown : s.vm.findClass RX5 = some m.cls := hown
  have hl : lv_has ls 2 [(0, .ref (w.1 (o))), (1, .int a1)] := hl
  unfold f_X5_isTown at hf
  refine lv_iload_n hx hb dX5_isTown_0 rfl (lv_at hl 1 rfl) ?_
  refine lv_if_lt (tgt := 19) hx hb dX5_isTown_1 (by decide) (fun hc => ?_) (fun hc => ?_)
  · have hf := ifp hc hf
    refine lv_iconst (v := (0 : Int32)) hx hb dX5_isTown_19 (by decide) ?_
    have hq := Option.some.inj hf
    exact q_zret hx hb hr hlk hP hS rfl hq rfl dX5_isTown_20
  · have hf := ifn hc hf
    refine lv_iload_n hx hb dX5_isTown_4 rfl (lv_at hl 1 rfl) ?_
    refine lv_aload_n hx hb dX5_isTown_5 rfl (lv_at hl 0 rfl) ?_
    refine gt_X5_12 hx hb hts hown hK hP ho.o ho.k dX5_isTown_6 ?_
    obtain ⟨v9, h9, hf⟩ := bnd hf
    refine q_cVi (As := []) hx hb hts hml hown hK hP hS (c_X3_towns l D w σ (o + 1) v9 ho.f0 h9) hw_X5_85 hd_X3_towns ⟨rfl, rfl, rfl⟩ ho.f0.o (ce3 ho.f0.k) rfl ⟨Nat.le_of_ble_eq_true rfl, Nat.le_of_ble_eq_true rfl⟩ ⟨Nat.le_of_ble_eq_true rfl, Nat.le_of_ble_eq_true rfl⟩ hl.1 rfl (Nat.le_of_ble_eq_true rfl) dX5_isTown_9 (fun H locs hP hS => ?_)
    refine lv_icmp_ge (tgt := 19) hx hb dX5_isTown_12 (by decide) (fun hc => ?_) (fun hc => ?_)
    · have hf := ifp hc hf
      refine lv_iconst (v := (0 : Int32)) hx hb dX5_isTown_19 (by decide) ?_
      have hq := Option.some.inj hf
      exact q_zret hx hb hr hlk hP hS rfl hq rfl dX5_isTown_20
    · have hf := ifn hc hf
      refine lv_iconst (v := (1 : Int32)) hx hb dX5_isTown_15 (by decide) ?_
      refine lv_goto (tgt := 20) hx hb dX5_isTown_16 (by decide) ?_
      have hq := Option.some.inj hf
      exact q_zret hx hb hr hlk hP hS rfl hq rfl dX5_isTown_20
def f_X5_areTwoTowns (σ : Sg) (o : Nat) (a1 : Int32) (a2 : Int32) : Option Int32 :=
  (f_X5_isTown σ (o) a1).bind fun v2 =>
  if v2 = 0 then
  some (0 : Int32)
  else
  (f_X5_isTown σ (o) a2).bind fun v10 =>
  if v10 = 0 then
  some (0 : Int32)
  else
  if a1 = a2 then
  some (0 : Int32)
  else
  some (1 : Int32)
set_option maxHeartbeats 4000000 in
set_option maxRecDepth 100000 in
theorem c_X5_areTwoTowns (l : Launch) (D : va_G) (w : Wv) (σ : Sg) (o : Nat) (a1 : Int32) (a2 : Int32) (r : Int32) (ho : isY o) (hf : f_X5_areTwoTowns σ o a1 a2 = some r) : Met l yX5_areTwoTowns (.code yX5_areTwoTowns cX5_areTwoTowns 3 (some .boolean) :: TB) (rmW 2 41) (pcW D w [.ref (w.1 (o)), .int a1, .int a2] σ) (qzW D w r σ) 0 0 (AL w) := by
  refine q_open (by decide +kernel) (Nat.le_of_ble_eq_true rfl) ?_
  intro p e s m args below meth c ls hx hb hml hr hlk hown hts hK hP hS hl
  have hown : s.vm.findClass RX5 = some m.cls := hown
  have hl : lv_has ls 3 [(0, .ref (w.1 (o))), (1, .int a1), (2, .int a2)] := hl
  unfold f_X5_areTwoTowns at hf
  refine lv_aload_n hx hb dX5_areTwoTowns_0 rfl (lv_at hl 0 rfl) ?_
  refine lv_iload_n hx hb dX5_areTwoTowns_1 rfl (lv_at hl 1 rfl) ?_
  obtain ⟨v2, h2, hf⟩ := bnd hf
  refine q_cVz (As := [.int a1]) hx hb hts hml hown hK hP hS (c_X5_isTown l D w σ (o) a1 v2 ho h2) hw_X5_71 hd_X5_isTown ⟨rfl, rfl, rfl⟩ ho.o (ce5 ho.k) rfl ⟨Nat.le_of_ble_eq_true rfl, Nat.le_of_ble_eq_true rfl⟩ ⟨Nat.le_of_ble_eq_true rfl, Nat.le_of_ble_eq_true rfl⟩ hl.1 rfl (Nat.le_of_ble_eq_true rfl) dX5_areTwoTowns_2 (fun hz2 H locs hP hS => ?_)
  refine lv_if_eq (tgt := 25) hx hb dX5_areTwoTowns_5 (by decide) (fun hc => ?_) (fun hc => ?_)
  · have hf := ifp hc hf
    refine lv_iconst (v := (0 : Int32)) hx hb dX5_areTwoTowns_25 (by decide) ?_
    have hq := Option.some.inj hf
    exact q_zret hx hb hr hlk hP hS rfl hq rfl dX5_areTwoTowns_26
  · have hf := ifn hc hf
    refine lv_aload_n hx hb dX5_areTwoTowns_8 rfl (lv_at hl 0 rfl) ?_
    refine lv_iload_n hx hb dX5_areTwoTowns_9 rfl (lv_at hl 2 rfl) ?_
    obtain ⟨v10, h10, hf⟩ := bnd hf
    refine q_cVz (As := [.int a2]) hx hb hts hml hown hK hP hS (c_X5_isTown l D w σ (o) a2 v10 ho h10) hw_X5_71 hd_X5_isTown ⟨rfl, rfl, rfl⟩ ho.o (ce5 ho.k) rfl ⟨Nat.le_of_ble_eq_true rfl, Nat.le_of_ble_eq_true rfl⟩ ⟨Nat.le_of_ble_eq_true rfl, Nat.le_of_ble_eq_true rfl⟩ hl.1 rfl (Nat.le_of_ble_eq_true rfl) dX5_areTwoTowns_10 (fun hz10 H locs hP hS => ?_)
    refine lv_if_eq (tgt := 25) hx hb dX5_areTwoTowns_13 (by decide) (fun hc => ?_) (fun hc => ?_)
    · have hf := ifp hc hf
      refine lv_iconst (v := (0 : Int32)) hx hb dX5_areTwoTowns_25 (by decide) ?_
      have hq := Option.some.inj hf
      exact q_zret hx hb hr hlk hP hS rfl hq rfl dX5_areTwoTowns_26
    · have hf := ifn hc hf
      refine lv_iload_n hx hb dX5_areTwoTowns_16 rfl (lv_at hl 1 rfl) ?_
      refine lv_iload_n hx hb dX5_areTwoTowns_17 rfl (lv_at hl 2 rfl) ?_
      refine lv_icmp_eq (tgt := 25) hx hb dX5_areTwoTowns_18 (by decide) (fun hc => ?_) (fun hc => ?_)
      · have hf := ifp hc hf
        refine lv_iconst (v := (0 : Int32)) hx hb dX5_areTwoTowns_25 (by decide) ?_
        have hq := Option.some.inj hf
        exact q_zret hx hb hr hlk hP hS rfl hq rfl dX5_areTwoTowns_26
      · have hf := ifn hc hf
        refine lv_iconst (v := (1 : Int32)) hx hb dX5_areTwoTowns_21 (by decide) ?_
        refine lv_goto (tgt := 26) hx hb dX5_areTwoTowns_22 (by decide) ?_
        have hq := Option.some.inj hf
        exact q_zret hx hb hr hlk hP hS rfl hq rfl dX5_areTwoTowns_26
def f_X5_tellRoad (σ : Sg) (o : Nat) (a1 : Int32) (a2 : Int32) (a3 : Int32) : Option (Int32 × Sg) :=
  (f_X5_areTwoTowns σ (o) a1 a2).bind fun v3 =>
  if v3 = 0 then
  some ((0 : Int32), σ)
  else
  if a3 < (1 : Int32) then
  some ((0 : Int32), σ)
  else
  if a3 ≤ (9 : Int32) then
  (f_X3_set σ (o + 1) a1 a2 a3).bind fun σ29 =>
  some ((1 : Int32), σ29)
  else
  some ((0 : Int32), σ)
set_option maxHeartbeats 4000000 in
set_option maxRecDepth 100000 in
theorem c_X5_tellRoad (l : Launch) (D : va_G) (w : Wv) (σ : Sg) (o : Nat) (a1 : Int32) (a2 : Int32) (a3 : Int32) (r : Int32) (σ' : Sg) (ho : isY o) (hJ : Inj w) (hf : f_X5_tellRoad σ o a1 a2 a3 = some (r, σ')) : Met l yX5_tellRoad (.code yX5_tellRoad cX5_tellRoad 4 (some .boolean) :: TB) (rmW 3 63) (pcW D w [.ref (w.1 (o)), .int a1, .int a2, .int a3] σ) (qzW D w r σ') 0 0 (AL w) := by
  refine q_open (by decide +kernel) (Nat.le_of_ble_eq_true rfl) ?_
  intro p e s m args below meth c ls hx hb hml hr hlk hown hts hK hP hS hl
  have hown : s.vm.findClass RX5 = some m.cls := hown
  have hl : lv_has ls 4 [(0, .ref (w.1 (o))), (1, .int a1), (2, .int a2), (3, .int a3)] := hl
  unfold f_X5_tellRoad at hf
  refine lv_aload_n hx hb dX5_tellRoad_0 rfl (lv_at hl 0 rfl) ?_
  refine lv_iload_n hx hb dX5_tellRoad_1 rfl (lv_at hl 1 rfl) ?_
  refine lv_iload_n hx hb dX5_tellRoad_2 rfl (lv_at hl 2 rfl) ?_
  obtain ⟨v3, h3, hf⟩ := bnd hf
  refine q_cVz (As := [.int a1, .int a2]) hx hb hts hml hown hK hP hS (c_X5_areTwoTowns l D w σ (o) a1 a2 v3 ho h3) hw_X5_63 hd_X5_areTwoTowns ⟨rfl, rfl, rfl⟩ ho.o (ce5 ho.k) rfl ⟨Nat.le_of_ble_eq_true rfl, Nat.le_of_ble_eq_true rfl⟩ ⟨Nat.le_of_ble_eq_true rfl, Nat.le_of_ble_eq_true rfl⟩ hl.1 rfl (Nat.le_of_ble_eq_true rfl) dX5_tellRoad_3 (fun hz3 H locs hP hS => ?_)
  refine lv_if_eq (tgt := 20) hx hb dX5_tellRoad_6 (by decide) (fun hc => ?_) (fun hc => ?_)
  · have hf := ifp hc hf
    refine lv_iconst (v := (0 : Int32)) hx hb dX5_tellRoad_20 (by decide) ?_
    have hq := Option.some.inj hf
    exact q_zret hx hb hr hlk hP hS rfl (congrArg Prod.fst hq) (congrArg Prod.snd hq) dX5_tellRoad_21
  · have hf := ifn hc hf
    refine lv_iload_n hx hb dX5_tellRoad_9 rfl (lv_at hl 3 rfl) ?_
    refine lv_iconst (v := (1 : Int32)) hx hb dX5_tellRoad_10 (by decide) ?_
    refine lv_icmp_lt (tgt := 20) hx hb dX5_tellRoad_11 (by decide) (fun hc => ?_) (fun hc => ?_)
    · have hf := ifp hc hf
      refine lv_iconst (v := (0 : Int32)) hx hb dX5_tellRoad_20 (by decide) ?_
      have hq := Option.some.inj hf
      exact q_zret hx hb hr hlk hP hS rfl (congrArg Prod.fst hq) (congrArg Prod.snd hq) dX5_tellRoad_21
    · have hf := ifn hc hf
      refine lv_iload_n hx hb dX5_tellRoad_14 rfl (lv_at hl 3 rfl) ?_
      refine lv_bipush (v := (9 : Int32)) hx hb dX5_tellRoad_15 (by decide) ?_
      refine lv_icmp_le (tgt := 22) hx hb dX5_tellRoad_17 (by decide) (fun hc => ?_) (fun hc => ?_)
      · have hf := ifp hc hf
        refine lv_aload_n hx hb dX5_tellRoad_22 rfl (lv_at hl 0 rfl) ?_
        refine gt_X5_12 hx hb hts hown hK hP ho.o ho.k dX5_tellRoad_23 ?_
        refine lv_iload_n hx hb dX5_tellRoad_26 rfl (lv_at hl 1 rfl) ?_
        refine lv_iload_n hx hb dX5_tellRoad_27 rfl (lv_at hl 2 rfl) ?_
        refine lv_iload_n hx hb dX5_tellRoad_28 rfl (lv_at hl 3 rfl) ?_
        obtain ⟨σ29, h29, hf⟩ := bnd hf
        refine q_cVv (As := [.int a1, .int a2, .int a3]) hx hb hts hml hown hK hP hS (c_X3_set l D w σ (o + 1) a1 a2 a3 σ29 ho.f0 hJ h29) hw_X5_67 hd_X3_set ⟨rfl, rfl, rfl⟩ ho.f0.o (ce3 ho.f0.k) rfl ⟨Nat.le_of_ble_eq_true rfl, Nat.le_of_ble_eq_true rfl⟩ ⟨Nat.le_of_ble_eq_true rfl, Nat.le_of_ble_eq_true rfl⟩ hl.1 rfl (Nat.le_of_ble_eq_true rfl) dX5_tellRoad_29 (fun H locs hP hS => ?_)
        refine lv_iconst (v := (1 : Int32)) hx hb dX5_tellRoad_32 (by decide) ?_
        have hq := Option.some.inj hf
        exact q_zret hx hb hr hlk hP hS rfl (congrArg Prod.fst hq) (congrArg Prod.snd hq) dX5_tellRoad_33
      · have hf := ifn hc hf
        refine lv_iconst (v := (0 : Int32)) hx hb dX5_tellRoad_20 (by decide) ?_
        have hq := Option.some.inj hf
        exact q_zret hx hb hr hlk hP hS rfl (congrArg Prod.fst hq) (congrArg Prod.snd hq) dX5_tellRoad_21
def f_X5_tellPost (σ : Sg) (o : Nat) (a1 : Int32) (a2 : Int32) (a3 : Int32) : Option (Int32 × Sg) :=
  if a1 < 0 then
  some ((0 : Int32), σ)
  else
  if (4 : Int32) ≤ a1 then
  some ((0 : Int32), σ)
  else
  (f_X5_isTown σ (o) a2).bind fun v11 =>
  if v11 = 0 then
  some ((0 : Int32), σ)
  else
  if a3 < 0 then
  some ((0 : Int32), σ)
  else
  if (59 : Int32) < a3 then
  some ((0 : Int32), σ)
  else
  if (σ (o) 5) < (6 : Int32) then
  (f_X0_put σ (o + 6) (σ (o) 5) (0 : Int32) a1).bind fun σ60 =>
  (f_X0_put σ60 (o + 6) (σ60 (o) 5) (1 : Int32) a2).bind fun σ73 =>
  (f_X0_put σ73 (o + 6) (σ73 (o) 5) (2 : Int32) a3).bind fun σ86 =>
  (some (sf σ86 (o) 5 ((σ86 (o) 5) + (1 : Int32)))).bind fun σ96 =>
  some ((1 : Int32), σ96)
  else
  some ((0 : Int32), σ)
set_option maxHeartbeats 4000000 in
set_option maxRecDepth 100000 in
theorem c_X5_tellPost (l : Launch) (D : va_G) (w : Wv) (σ : Sg) (o : Nat) (a1 : Int32) (a2 : Int32) (a3 : Int32) (r : Int32) (σ' : Sg) (ho : isY o) (hJ : Inj w) (hf : f_X5_tellPost σ o a1 a2 a3 = some (r, σ')) : Met l yX5_tellPost (.code yX5_tellPost cX5_tellPost 5 (some .boolean) :: TB) (rmW 2 41) (pcW D w [.ref (w.1 (o)), .int a1, .int a2, .int a3] σ) (qzW D w r σ') 0 0 (AL w) := by
  refine q_open (by decide +kernel) (Nat.le_of_ble_eq_true rfl) ?_
  intro p e s m args below meth c ls hx hb hml hr hlk hown hts hK hP hS hl
  have hown : s.vm.findClass RX5 = some m.cls := hown
  have hl : lv_has ls 5 [(0, .ref (w.1 (o))), (1, .int a1), (2, .int a2), (3, .int a3)] := hl
  unfold f_X5_tellPost at hf
  refine lv_iload_n hx hb dX5_tellPost_0 rfl (lv_at hl 1 rfl) ?_
  refine lv_if_lt (tgt := 31) hx hb dX5_tellPost_1 (by decide) (fun hc => ?_) (fun hc => ?_)
  · have hf := ifp hc hf
    refine lv_iconst (v := (0 : Int32)) hx hb dX5_tellPost_31 (by decide) ?_
    refine lv_istore (lv' := [(4, .int (0 : Int32)), (0, .ref (w.1 (o))), (1, .int a1), (2, .int a2), (3, .int a3)]) hx hb dX5_tellPost_32 hl (by decide) rfl (fun ls hl => ?_)
    refine lv_iload hx hb dX5_tellPost_34 (lv_at hl 0 rfl) ?_
    refine lv_if_eq (tgt := 48) hx hb dX5_tellPost_36 (by decide) (fun _ => ?_) (fun hc => absurd (by decide) hc)
    refine lv_iconst (v := (0 : Int32)) hx hb dX5_tellPost_48 (by decide) ?_
    have hq := Option.some.inj hf
    exact q_zret hx hb hr hlk hP hS rfl (congrArg Prod.fst hq) (congrArg Prod.snd hq) dX5_tellPost_49
  · have hf := ifn hc hf
    refine lv_iload_n hx hb dX5_tellPost_4 rfl (lv_at hl 1 rfl) ?_
    refine lv_iconst (v := (4 : Int32)) hx hb dX5_tellPost_5 (by decide) ?_
    refine lv_icmp_ge (tgt := 31) hx hb dX5_tellPost_6 (by decide) (fun hc => ?_) (fun hc => ?_)
    · have hf := ifp hc hf
      refine lv_iconst (v := (0 : Int32)) hx hb dX5_tellPost_31 (by decide) ?_
      refine lv_istore (lv' := [(4, .int (0 : Int32)), (0, .ref (w.1 (o))), (1, .int a1), (2, .int a2), (3, .int a3)]) hx hb dX5_tellPost_32 hl (by decide) rfl (fun ls hl => ?_)
      refine lv_iload hx hb dX5_tellPost_34 (lv_at hl 0 rfl) ?_
      refine lv_if_eq (tgt := 48) hx hb dX5_tellPost_36 (by decide) (fun _ => ?_) (fun hc => absurd (by decide) hc)
      refine lv_iconst (v := (0 : Int32)) hx hb dX5_tellPost_48 (by decide) ?_
      have hq := Option.some.inj hf
      exact q_zret hx hb hr hlk hP hS rfl (congrArg Prod.fst hq) (congrArg Prod.snd hq) dX5_tellPost_49
    · have hf := ifn hc hf
      refine lv_aload_n hx hb dX5_tellPost_9 rfl (lv_at hl 0 rfl) ?_
      refine lv_iload_n hx hb dX5_tellPost_10 rfl (lv_at hl 2 rfl) ?_
      obtain ⟨v11, h11, hf⟩ := bnd hf
      refine q_cVz (As := [.int a2]) hx hb hts hml hown hK hP hS (c_X5_isTown l D w σ (o) a2 v11 ho h11) hw_X5_71 hd_X5_isTown ⟨rfl, rfl, rfl⟩ ho.o (ce5 ho.k) rfl ⟨Nat.le_of_ble_eq_true rfl, Nat.le_of_ble_eq_true rfl⟩ ⟨Nat.le_of_ble_eq_true rfl, Nat.le_of_ble_eq_true rfl⟩ hl.1 rfl (Nat.le_of_ble_eq_true rfl) dX5_tellPost_11 (fun hz11 H locs hP hS => ?_)
      refine lv_if_eq (tgt := 31) hx hb dX5_tellPost_14 (by decide) (fun hc => ?_) (fun hc => ?_)
      · have hf := ifp hc hf
        refine lv_iconst (v := (0 : Int32)) hx hb dX5_tellPost_31 (by decide) ?_
        refine lv_istore (lv' := [(4, .int (0 : Int32)), (0, .ref (w.1 (o))), (1, .int a1), (2, .int a2), (3, .int a3)]) hx hb dX5_tellPost_32 hl (by decide) rfl (fun ls hl => ?_)
        refine lv_iload hx hb dX5_tellPost_34 (lv_at hl 0 rfl) ?_
        refine lv_if_eq (tgt := 48) hx hb dX5_tellPost_36 (by decide) (fun _ => ?_) (fun hc => absurd (by decide) hc)
        refine lv_iconst (v := (0 : Int32)) hx hb dX5_tellPost_48 (by decide) ?_
        have hq := Option.some.inj hf
        exact q_zret hx hb hr hlk hP hS rfl (congrArg Prod.fst hq) (congrArg Prod.snd hq) dX5_tellPost_49
      · have hf := ifn hc hf
        refine lv_iload_n hx hb dX5_tellPost_17 rfl (lv_at hl 3 rfl) ?_
        refine lv_if_lt (tgt := 31) hx hb dX5_tellPost_18 (by decide) (fun hc => ?_) (fun hc => ?_)
        · have hf := ifp hc hf
          refine lv_iconst (v := (0 : Int32)) hx hb dX5_tellPost_31 (by decide) ?_
          refine lv_istore (lv' := [(4, .int (0 : Int32)), (0, .ref (w.1 (o))), (1, .int a1), (2, .int a2), (3, .int a3)]) hx hb dX5_tellPost_32 hl (by decide) rfl (fun ls hl => ?_)
          refine lv_iload hx hb dX5_tellPost_34 (lv_at hl 0 rfl) ?_
          refine lv_if_eq (tgt := 48) hx hb dX5_tellPost_36 (by decide) (fun _ => ?_) (fun hc => absurd (by decide) hc)
          refine lv_iconst (v := (0 : Int32)) hx hb dX5_tellPost_48 (by decide) ?_
          have hq := Option.some.inj hf
          exact q_zret hx hb hr hlk hP hS rfl (congrArg Prod.fst hq) (congrArg Prod.snd hq) dX5_tellPost_49
        · have hf := ifn hc hf
          refine lv_iload_n hx hb dX5_tellPost_21 rfl (lv_at hl 3 rfl) ?_
          refine lv_bipush (v := (59 : Int32)) hx hb dX5_tellPost_22 (by decide) ?_
          refine lv_icmp_gt (tgt := 31) hx hb dX5_tellPost_24 (by decide) (fun hc => ?_) (fun hc => ?_)
          · have hf := ifp hc hf
            refine lv_iconst (v := (0 : Int32)) hx hb dX5_tellPost_31 (by decide) ?_
            refine lv_istore (lv' := [(4, .int (0 : Int32)), (0, .ref (w.1 (o))), (1, .int a1), (2, .int a2), (3, .int a3)]) hx hb dX5_tellPost_32 hl (by decide) rfl (fun ls hl => ?_)
            refine lv_iload hx hb dX5_tellPost_34 (lv_at hl 0 rfl) ?_
            refine lv_if_eq (tgt := 48) hx hb dX5_tellPost_36 (by decide) (fun _ => ?_) (fun hc => absurd (by decide) hc)
            refine lv_iconst (v := (0 : Int32)) hx hb dX5_tellPost_48 (by decide) ?_
            have hq := Option.some.inj hf
            exact q_zret hx hb hr hlk hP hS rfl (congrArg Prod.fst hq) (congrArg Prod.snd hq) dX5_tellPost_49
          · have hf := ifn hc hf
            refine lv_iconst (v := (1 : Int32)) hx hb dX5_tellPost_27 (by decide) ?_
            refine lv_goto (tgt := 32) hx hb dX5_tellPost_28 (by decide) ?_
            refine lv_istore (lv' := [(4, .int (1 : Int32)), (0, .ref (w.1 (o))), (1, .int a1), (2, .int a2), (3, .int a3)]) hx hb dX5_tellPost_32 hl (by decide) rfl (fun ls hl => ?_)
            refine lv_iload hx hb dX5_tellPost_34 (lv_at hl 0 rfl) ?_
            refine lv_if_eq (tgt := 48) hx hb dX5_tellPost_36 (by decide) (fun hc => absurd hc (by decide)) (fun _ => ?_)
            refine lv_aload_n hx hb dX5_tellPost_39 rfl (lv_at hl 1 rfl) ?_
            refine gt_X5_43 hx hb hts hown hK hP ho.o ho.k dX5_tellPost_40 ?_
            refine lv_bipush (v := (6 : Int32)) hx hb dX5_tellPost_43 (by decide) ?_
            refine lv_icmp_lt (tgt := 50) hx hb dX5_tellPost_45 (by decide) (fun hc => ?_) (fun hc => ?_)
            · have hf := ifp hc hf
              refine lv_aload_n hx hb dX5_tellPost_50 rfl (lv_at hl 1 rfl) ?_
              refine gt_X5_23 hx hb hts hown hK hP ho.o ho.k dX5_tellPost_51 ?_
              refine lv_aload_n hx hb dX5_tellPost_54 rfl (lv_at hl 1 rfl) ?_
              refine gt_X5_43 hx hb hts hown hK hP ho.o ho.k dX5_tellPost_55 ?_
              refine lv_iconst (v := (0 : Int32)) hx hb dX5_tellPost_58 (by decide) ?_
              refine lv_iload_n hx hb dX5_tellPost_59 rfl (lv_at hl 2 rfl) ?_
              obtain ⟨σ60, h60, hf⟩ := bnd hf
              refine q_cVv (As := [.int (σ (o) 5), .int (0 : Int32), .int a1]) hx hb hts hml hown hK hP hS (c_X0_put l D w σ (o + 6) (σ (o) 5) (0 : Int32) a1 σ60 ho.f1 hJ h60) hw_X5_75 hd_X0_put ⟨rfl, rfl, rfl⟩ ho.f1.o (ce0 ho.f1.k) rfl ⟨Nat.le_of_ble_eq_true rfl, Nat.le_of_ble_eq_true rfl⟩ ⟨Nat.le_of_ble_eq_true rfl, Nat.le_of_ble_eq_true rfl⟩ hl.1 rfl (Nat.le_of_ble_eq_true rfl) dX5_tellPost_60 (fun H locs hP hS => ?_)
              refine lv_aload_n hx hb dX5_tellPost_63 rfl (lv_at hl 1 rfl) ?_
              refine gt_X5_23 hx hb hts hown hK hP ho.o ho.k dX5_tellPost_64 ?_
              refine lv_aload_n hx hb dX5_tellPost_67 rfl (lv_at hl 1 rfl) ?_
              refine gt_X5_43 hx hb hts hown hK hP ho.o ho.k dX5_tellPost_68 ?_
              refine lv_iconst (v := (1 : Int32)) hx hb dX5_tellPost_71 (by decide) ?_
              refine lv_iload_n hx hb dX5_tellPost_72 rfl (lv_at hl 3 rfl) ?_
              obtain ⟨σ73, h73, hf⟩ := bnd hf
              refine q_cVv (As := [.int (σ60 (o) 5), .int (1 : Int32), .int a2]) hx hb hts hml hown hK hP hS (c_X0_put l D w σ60 (o + 6) (σ60 (o) 5) (1 : Int32) a2 σ73 ho.f1 hJ h73) hw_X5_75 hd_X0_put ⟨rfl, rfl, rfl⟩ ho.f1.o (ce0 ho.f1.k) rfl ⟨Nat.le_of_ble_eq_true rfl, Nat.le_of_ble_eq_true rfl⟩ ⟨Nat.le_of_ble_eq_true rfl, Nat.le_of_ble_eq_true rfl⟩ hl.1 rfl (Nat.le_of_ble_eq_true rfl) dX5_tellPost_73 (fun H locs hP hS => ?_)
              refine lv_aload_n hx hb dX5_tellPost_76 rfl (lv_at hl 1 rfl) ?_
              refine gt_X5_23 hx hb hts hown hK hP ho.o ho.k dX5_tellPost_77 ?_
              refine lv_aload_n hx hb dX5_tellPost_80 rfl (lv_at hl 1 rfl) ?_
              refine gt_X5_43 hx hb hts hown hK hP ho.o ho.k dX5_tellPost_81 ?_
              refine lv_iconst (v := (2 : Int32)) hx hb dX5_tellPost_84 (by decide) ?_
              refine lv_iload_n hx hb dX5_tellPost_85 rfl (lv_at hl 4 rfl) ?_
              obtain ⟨σ86, h86, hf⟩ := bnd hf
              refine q_cVv (As := [.int (σ73 (o) 5), .int (2 : Int32), .int a3]) hx hb hts hml hown hK hP hS (c_X0_put l D w σ73 (o + 6) (σ73 (o) 5) (2 : Int32) a3 σ86 ho.f1 hJ h86) hw_X5_75 hd_X0_put ⟨rfl, rfl, rfl⟩ ho.f1.o (ce0 ho.f1.k) rfl ⟨Nat.le_of_ble_eq_true rfl, Nat.le_of_ble_eq_true rfl⟩ ⟨Nat.le_of_ble_eq_true rfl, Nat.le_of_ble_eq_true rfl⟩ hl.1 rfl (Nat.le_of_ble_eq_true rfl) dX5_tellPost_86 (fun H locs hP hS => ?_)
              refine lv_aload_n hx hb dX5_tellPost_89 rfl (lv_at hl 1 rfl) ?_
              refine lv_dup hx hb dX5_tellPost_90 rfl ?_
              refine gt_X5_43 hx hb hts hown hK hP ho.o ho.k dX5_tellPost_91 ?_
              refine lv_iconst (v := (1 : Int32)) hx hb dX5_tellPost_94 (by decide) ?_
              refine lv_iadd hx hb dX5_tellPost_95 ?_
              obtain ⟨σ96, h96, hf⟩ := bnd hf
              refine pt_X5_43 hx hb hts hown hK hP hJ hS ho.o ho.k h96 dX5_tellPost_96 (fun H locs hP hS => ?_)
              refine lv_iconst (v := (1 : Int32)) hx hb dX5_tellPost_99 (by decide) ?_
              have hq := Option.some.inj hf
              exact q_zret hx hb hr hlk hP hS rfl (congrArg Prod.fst hq) (congrArg Prod.snd hq) dX5_tellPost_100
            · have hf := ifn hc hf
              refine lv_iconst (v := (0 : Int32)) hx hb dX5_tellPost_48 (by decide) ?_
              have hq := Option.some.inj hf
              exact q_zret hx hb hr hlk hP hS rfl (congrArg Prod.fst hq) (congrArg Prod.snd hq) dX5_tellPost_49
def f_X5_tellWalker (σ : Sg) (o : Nat) (a1 : Int32) (a2 : Int32) : Option (Int32 × Sg) :=
  (f_X5_areTwoTowns σ (o) a1 a2).bind fun v3 =>
  if v3 = 0 then
  some ((0 : Int32), σ)
  else
  if (σ (o) 6) < (5 : Int32) then
  (f_X0_put σ (o + 12) (σ (o) 6) (0 : Int32) a1).bind fun σ29 =>
  (f_X0_put σ29 (o + 12) (σ29 (o) 6) (1 : Int32) a2).bind fun σ42 =>
  (some (sf σ42 (o) 6 ((σ42 (o) 6) + (1 : Int32)))).bind fun σ52 =>
  some ((1 : Int32), σ52)
  else
  some ((0 : Int32), σ)
set_option maxHeartbeats 4000000 in
set_option maxRecDepth 100000 in
theorem c_X5_tellWalker (l : Launch) (D : va_G) (w : Wv) (σ : Sg) (o : Nat) (a1 : Int32) (a2 : Int32) (r : Int32) (σ' : Sg) (ho : isY o) (hJ : Inj w) (hf : f_X5_tellWalker σ o a1 a2 = some (r, σ')) : Met l yX5_tellWalker (.code yX5_tellWalker cX5_tellWalker 3 (some .boolean) :: TB) (rmW 3 63) (pcW D w [.ref (w.1 (o)), .int a1, .int a2] σ) (qzW D w r σ') 0 0 (AL w) := by
  refine q_open (by decide +kernel) (Nat.le_of_ble_eq_true rfl) ?_
  intro p e s m args below meth c ls hx hb hml hr hlk hown hts hK hP hS hl
  have hown : s.vm.findClass RX5 = some m.cls := hown
  have hl : lv_has ls 3 [(0, .ref (w.1 (o))), (1, .int a1), (2, .int a2)] := hl
  unfold f_X5_tellWalker at hf
  refine lv_aload_n hx hb dX5_tellWalker_0 rfl (lv_at hl 0 rfl) ?_
  refine lv_iload_n hx hb dX5_tellWalker_1 rfl (lv_at hl 1 rfl) ?_
  refine lv_iload_n hx hb dX5_tellWalker_2 rfl (lv_at hl 2 rfl) ?_
  obtain ⟨v3, h3, hf⟩ := bnd hf
  refine q_cVz (As := [.int a1, .int a2]) hx hb hts hml hown hK hP hS (c_X5_areTwoTowns l D w σ (o) a1 a2 v3 ho h3) hw_X5_63 hd_X5_areTwoTowns ⟨rfl, rfl, rfl⟩ ho.o (ce5 ho.k) rfl ⟨Nat.le_of_ble_eq_true rfl, Nat.le_of_ble_eq_true rfl⟩ ⟨Nat.le_of_ble_eq_true rfl, Nat.le_of_ble_eq_true rfl⟩ hl.1 rfl (Nat.le_of_ble_eq_true rfl) dX5_tellWalker_3 (fun hz3 H locs hP hS => ?_)
  refine lv_if_eq (tgt := 17) hx hb dX5_tellWalker_6 (by decide) (fun hc => ?_) (fun hc => ?_)
  · have hf := ifp hc hf
    refine lv_iconst (v := (0 : Int32)) hx hb dX5_tellWalker_17 (by decide) ?_
    have hq := Option.some.inj hf
    exact q_zret hx hb hr hlk hP hS rfl (congrArg Prod.fst hq) (congrArg Prod.snd hq) dX5_tellWalker_18
  · have hf := ifn hc hf
    refine lv_aload_n hx hb dX5_tellWalker_9 rfl (lv_at hl 0 rfl) ?_
    refine gt_X5_47 hx hb hts hown hK hP ho.o ho.k dX5_tellWalker_10 ?_
    refine lv_iconst (v := (5 : Int32)) hx hb dX5_tellWalker_13 (by decide) ?_
    refine lv_icmp_lt (tgt := 19) hx hb dX5_tellWalker_14 (by decide) (fun hc => ?_) (fun hc => ?_)
    · have hf := ifp hc hf
      refine lv_aload_n hx hb dX5_tellWalker_19 rfl (lv_at hl 0 rfl) ?_
      refine gt_X5_33 hx hb hts hown hK hP ho.o ho.k dX5_tellWalker_20 ?_
      refine lv_aload_n hx hb dX5_tellWalker_23 rfl (lv_at hl 0 rfl) ?_
      refine gt_X5_47 hx hb hts hown hK hP ho.o ho.k dX5_tellWalker_24 ?_
      refine lv_iconst (v := (0 : Int32)) hx hb dX5_tellWalker_27 (by decide) ?_
      refine lv_iload_n hx hb dX5_tellWalker_28 rfl (lv_at hl 1 rfl) ?_
      obtain ⟨σ29, h29, hf⟩ := bnd hf
      refine q_cVv (As := [.int (σ (o) 6), .int (0 : Int32), .int a1]) hx hb hts hml hown hK hP hS (c_X0_put l D w σ (o + 12) (σ (o) 6) (0 : Int32) a1 σ29 ho.f4 hJ h29) hw_X5_75 hd_X0_put ⟨rfl, rfl, rfl⟩ ho.f4.o (ce0 ho.f4.k) rfl ⟨Nat.le_of_ble_eq_true rfl, Nat.le_of_ble_eq_true rfl⟩ ⟨Nat.le_of_ble_eq_true rfl, Nat.le_of_ble_eq_true rfl⟩ hl.1 rfl (Nat.le_of_ble_eq_true rfl) dX5_tellWalker_29 (fun H locs hP hS => ?_)
      refine lv_aload_n hx hb dX5_tellWalker_32 rfl (lv_at hl 0 rfl) ?_
      refine gt_X5_33 hx hb hts hown hK hP ho.o ho.k dX5_tellWalker_33 ?_
      refine lv_aload_n hx hb dX5_tellWalker_36 rfl (lv_at hl 0 rfl) ?_
      refine gt_X5_47 hx hb hts hown hK hP ho.o ho.k dX5_tellWalker_37 ?_
      refine lv_iconst (v := (1 : Int32)) hx hb dX5_tellWalker_40 (by decide) ?_
      refine lv_iload_n hx hb dX5_tellWalker_41 rfl (lv_at hl 2 rfl) ?_
      obtain ⟨σ42, h42, hf⟩ := bnd hf
      refine q_cVv (As := [.int (σ29 (o) 6), .int (1 : Int32), .int a2]) hx hb hts hml hown hK hP hS (c_X0_put l D w σ29 (o + 12) (σ29 (o) 6) (1 : Int32) a2 σ42 ho.f4 hJ h42) hw_X5_75 hd_X0_put ⟨rfl, rfl, rfl⟩ ho.f4.o (ce0 ho.f4.k) rfl ⟨Nat.le_of_ble_eq_true rfl, Nat.le_of_ble_eq_true rfl⟩ ⟨Nat.le_of_ble_eq_true rfl, Nat.le_of_ble_eq_true rfl⟩ hl.1 rfl (Nat.le_of_ble_eq_true rfl) dX5_tellWalker_42 (fun H locs hP hS => ?_)
      refine lv_aload_n hx hb dX5_tellWalker_45 rfl (lv_at hl 0 rfl) ?_
      refine lv_dup hx hb dX5_tellWalker_46 rfl ?_
      refine gt_X5_47 hx hb hts hown hK hP ho.o ho.k dX5_tellWalker_47 ?_
      refine lv_iconst (v := (1 : Int32)) hx hb dX5_tellWalker_50 (by decide) ?_
      refine lv_iadd hx hb dX5_tellWalker_51 ?_
      obtain ⟨σ52, h52, hf⟩ := bnd hf
      refine pt_X5_47 hx hb hts hown hK hP hJ hS ho.o ho.k h52 dX5_tellWalker_52 (fun H locs hP hS => ?_)
      refine lv_iconst (v := (1 : Int32)) hx hb dX5_tellWalker_55 (by decide) ?_
      have hq := Option.some.inj hf
      exact q_zret hx hb hr hlk hP hS rfl (congrArg Prod.fst hq) (congrArg Prod.snd hq) dX5_tellWalker_56
    · have hf := ifn hc hf
      refine lv_iconst (v := (0 : Int32)) hx hb dX5_tellWalker_17 (by decide) ?_
      have hq := Option.some.inj hf
      exact q_zret hx hb hr hlk hP hS rfl (congrArg Prod.fst hq) (congrArg Prod.snd hq) dX5_tellWalker_18
def f_X4_held (σ : Sg) (o : Nat) : Option Int32 :=
  some (σ (o) 1)
set_option maxHeartbeats 4000000 in
set_option maxRecDepth 100000 in
theorem c_X4_held (l : Launch) (D : va_G) (w : Wv) (σ : Sg) (o : Nat) (r : Int32) (ho : isS o) (hf : f_X4_held σ o = some r) : Met l yX4_held (.code yX4_held cX4_held 1 (some .int) :: TB) (rmW 0 0) (pcW D w [.ref (w.1 (o))] σ) (qiW D w r σ) 0 0 (AL w) := by
  refine q_open (by decide +kernel) (Nat.le_of_ble_eq_true rfl) ?_
  intro p e s m args below meth c ls hx hb hml hr hlk hown hts hK hP hS hl
  have hown : s.vm.findClass RX4 = some m.cls := hown
  have hl : lv_has ls 1 [(0, .ref (w.1 (o)))] := hl
  unfold f_X4_held at hf
  refine lv_aload_n hx hb dX4_held_0 rfl (lv_at hl 0 rfl) ?_
  refine gt_X4_27 hx hb hts hown hK hP ho.o ho.k dX4_held_1 ?_
  have hq := Option.some.inj hf
  exact q_iret hx hb hr hlk hP hS hq rfl dX4_held_4
def f_X4_empty (σ : Sg) (o : Nat) : Option Sg :=
  (some (sf σ (o) 1 (0 : Int32))).bind fun σ2 =>
  some σ2
set_option maxHeartbeats 4000000 in
set_option maxRecDepth 100000 in
theorem c_X4_empty (l : Launch) (D : va_G) (w : Wv) (σ : Sg) (o : Nat) (σ' : Sg) (ho : isS o) (hJ : Inj w) (hf : f_X4_empty σ o = some σ') : Met l yX4_empty (.code yX4_empty cX4_empty 1 none :: TB) (rmW 0 0) (pcW D w [.ref (w.1 (o))] σ) (qvW D w σ') 0 0 (AL w) := by
  refine q_open (by decide +kernel) (Nat.le_of_ble_eq_true rfl) ?_
  intro p e s m args below meth c ls hx hb hml hr hlk hown hts hK hP hS hl
  have hown : s.vm.findClass RX4 = some m.cls := hown
  have hl : lv_has ls 1 [(0, .ref (w.1 (o)))] := hl
  unfold f_X4_empty at hf
  refine lv_aload_n hx hb dX4_empty_0 rfl (lv_at hl 0 rfl) ?_
  refine lv_iconst (v := (0 : Int32)) hx hb dX4_empty_1 (by decide) ?_
  obtain ⟨σ2, h2, hf⟩ := bnd hf
  refine pt_X4_27 hx hb hts hown hK hP hJ hS ho.o ho.k h2 dX4_empty_2 (fun H locs hP hS => ?_)
  have hq := Option.some.inj hf
  exact q_vret hx hb hr hlk hP hS hq dX4_empty_5
def f_X5_become (σ : Sg) (o : Nat) (a1 : Nat) : Option Sg :=
  (f_X3_become σ (o + 1) (a1 + 1)).bind fun σ8 =>
  (f_X0_become σ8 (o + 6) (a1 + 6)).bind fun σ19 =>
  (f_X0_become σ19 (o + 8) (a1 + 8)).bind fun σ30 =>
  (f_X0_become σ30 (o + 10) (a1 + 10)).bind fun σ41 =>
  (f_X0_become σ41 (o + 12) (a1 + 12)).bind fun σ52 =>
  (some (sf σ52 (o) 5 (σ52 (a1) 5))).bind fun σ60 =>
  (some (sf σ60 (o) 6 (σ60 (a1) 6))).bind fun σ68 =>
  (some (sf σ68 (o) 7 (σ68 (a1) 7))).bind fun σ76 =>
  (some (sf σ76 (o) 8 (σ76 (a1) 8))).bind fun σ84 =>
  (some (sf σ84 (o) 9 (σ84 (a1) 9))).bind fun σ92 =>
  some σ92
set_option maxHeartbeats 4000000 in
set_option maxRecDepth 100000 in
theorem c_X5_become (l : Launch) (D : va_G) (w : Wv) (σ : Sg) (o : Nat) (a1 : Nat) (σ' : Sg) (ho : isY o) (ha1 : isY a1) (hJ : Inj w) (hf : f_X5_become σ o a1 = some σ') : Met l yX5_become (.code yX5_become cX5_become 2 none :: TB) (rmW 3 64) (pcW D w [.ref (w.1 (o)), .ref (w.1 (a1))] σ) (qvW D w σ') 0 0 (AL w) := by
  refine q_open (by decide +kernel) (Nat.le_of_ble_eq_true rfl) ?_
  intro p e s m args below meth c ls hx hb hml hr hlk hown hts hK hP hS hl
  have hown : s.vm.findClass RX5 = some m.cls := hown
  have hl : lv_has ls 2 [(0, .ref (w.1 (o))), (1, .ref (w.1 (a1)))] := hl
  unfold f_X5_become at hf
  refine lv_aload_n hx hb dX5_become_0 rfl (lv_at hl 0 rfl) ?_
  refine gt_X5_12 hx hb hts hown hK hP ho.o ho.k dX5_become_1 ?_
  refine lv_aload_n hx hb dX5_become_4 rfl (lv_at hl 1 rfl) ?_
  refine gt_X5_12 hx hb hts hown hK hP ha1.o ha1.k dX5_become_5 ?_
  obtain ⟨σ8, h8, hf⟩ := bnd hf
  refine q_cVv (As := [.ref (w.1 (a1 + 1))]) hx hb hts hml hown hK hP hS (c_X3_become l D w σ (o + 1) (a1 + 1) σ8 ho.f0 ha1.f0 hJ h8) hw_X5_36 hd_X3_become ⟨rfl, rfl, rfl⟩ ho.f0.o (ce3 ho.f0.k) rfl ⟨Nat.le_of_ble_eq_true rfl, Nat.le_of_ble_eq_true rfl⟩ ⟨Nat.le_of_ble_eq_true rfl, Nat.le_of_ble_eq_true rfl⟩ hl.1 rfl (Nat.le_of_ble_eq_true rfl) dX5_become_8 (fun H locs hP hS => ?_)
  refine lv_aload_n hx hb dX5_become_11 rfl (lv_at hl 0 rfl) ?_
  refine gt_X5_23 hx hb hts hown hK hP ho.o ho.k dX5_become_12 ?_
  refine lv_aload_n hx hb dX5_become_15 rfl (lv_at hl 1 rfl) ?_
  refine gt_X5_23 hx hb hts hown hK hP ha1.o ha1.k dX5_become_16 ?_
  obtain ⟨σ19, h19, hf⟩ := bnd hf
  refine q_cVv (As := [.ref (w.1 (a1 + 6))]) hx hb hts hml hown hK hP hS (c_X0_become l D w σ8 (o + 6) (a1 + 6) σ19 ho.f1 ha1.f1 hJ h19) hw_X5_40 hd_X0_become ⟨rfl, rfl, rfl⟩ ho.f1.o (ce0 ho.f1.k) rfl ⟨Nat.le_of_ble_eq_true rfl, Nat.le_of_ble_eq_true rfl⟩ ⟨Nat.le_of_ble_eq_true rfl, Nat.le_of_ble_eq_true rfl⟩ hl.1 rfl (Nat.le_of_ble_eq_true rfl) dX5_become_19 (fun H locs hP hS => ?_)
  refine lv_aload_n hx hb dX5_become_22 rfl (lv_at hl 0 rfl) ?_
  refine gt_X5_27 hx hb hts hown hK hP ho.o ho.k dX5_become_23 ?_
  refine lv_aload_n hx hb dX5_become_26 rfl (lv_at hl 1 rfl) ?_
  refine gt_X5_27 hx hb hts hown hK hP ha1.o ha1.k dX5_become_27 ?_
  obtain ⟨σ30, h30, hf⟩ := bnd hf
  refine q_cVv (As := [.ref (w.1 (a1 + 8))]) hx hb hts hml hown hK hP hS (c_X0_become l D w σ19 (o + 8) (a1 + 8) σ30 ho.f2 ha1.f2 hJ h30) hw_X5_40 hd_X0_become ⟨rfl, rfl, rfl⟩ ho.f2.o (ce0 ho.f2.k) rfl ⟨Nat.le_of_ble_eq_true rfl, Nat.le_of_ble_eq_true rfl⟩ ⟨Nat.le_of_ble_eq_true rfl, Nat.le_of_ble_eq_true rfl⟩ hl.1 rfl (Nat.le_of_ble_eq_true rfl) dX5_become_30 (fun H locs hP hS => ?_)
  refine lv_aload_n hx hb dX5_become_33 rfl (lv_at hl 0 rfl) ?_
  refine gt_X5_30 hx hb hts hown hK hP ho.o ho.k dX5_become_34 ?_
  refine lv_aload_n hx hb dX5_become_37 rfl (lv_at hl 1 rfl) ?_
  refine gt_X5_30 hx hb hts hown hK hP ha1.o ha1.k dX5_become_38 ?_
  obtain ⟨σ41, h41, hf⟩ := bnd hf
  refine q_cVv (As := [.ref (w.1 (a1 + 10))]) hx hb hts hml hown hK hP hS (c_X0_become l D w σ30 (o + 10) (a1 + 10) σ41 ho.f3 ha1.f3 hJ h41) hw_X5_40 hd_X0_become ⟨rfl, rfl, rfl⟩ ho.f3.o (ce0 ho.f3.k) rfl ⟨Nat.le_of_ble_eq_true rfl, Nat.le_of_ble_eq_true rfl⟩ ⟨Nat.le_of_ble_eq_true rfl, Nat.le_of_ble_eq_true rfl⟩ hl.1 rfl (Nat.le_of_ble_eq_true rfl) dX5_become_41 (fun H locs hP hS => ?_)
  refine lv_aload_n hx hb dX5_become_44 rfl (lv_at hl 0 rfl) ?_
  refine gt_X5_33 hx hb hts hown hK hP ho.o ho.k dX5_become_45 ?_
  refine lv_aload_n hx hb dX5_become_48 rfl (lv_at hl 1 rfl) ?_
  refine gt_X5_33 hx hb hts hown hK hP ha1.o ha1.k dX5_become_49 ?_
  obtain ⟨σ52, h52, hf⟩ := bnd hf
  refine q_cVv (As := [.ref (w.1 (a1 + 12))]) hx hb hts hml hown hK hP hS (c_X0_become l D w σ41 (o + 12) (a1 + 12) σ52 ho.f4 ha1.f4 hJ h52) hw_X5_40 hd_X0_become ⟨rfl, rfl, rfl⟩ ho.f4.o (ce0 ho.f4.k) rfl ⟨Nat.le_of_ble_eq_true rfl, Nat.le_of_ble_eq_true rfl⟩ ⟨Nat.le_of_ble_eq_true rfl, Nat.le_of_ble_eq_true rfl⟩ hl.1 rfl (Nat.le_of_ble_eq_true rfl) dX5_become_52 (fun H locs hP hS => ?_)
  refine lv_aload_n hx hb dX5_become_55 rfl (lv_at hl 0 rfl) ?_
  refine lv_aload_n hx hb dX5_become_56 rfl (lv_at hl 1 rfl) ?_
  refine gt_X5_43 hx hb hts hown hK hP ha1.o ha1.k dX5_become_57 ?_
  obtain ⟨σ60, h60, hf⟩ := bnd hf
  refine pt_X5_43 hx hb hts hown hK hP hJ hS ho.o ho.k h60 dX5_become_60 (fun H locs hP hS => ?_)
  refine lv_aload_n hx hb dX5_become_63 rfl (lv_at hl 0 rfl) ?_
  refine lv_aload_n hx hb dX5_become_64 rfl (lv_at hl 1 rfl) ?_
  refine gt_X5_47 hx hb hts hown hK hP ha1.o ha1.k dX5_become_65 ?_
  obtain ⟨σ68, h68, hf⟩ := bnd hf
  refine pt_X5_47 hx hb hts hown hK hP hJ hS ho.o ho.k h68 dX5_become_68 (fun H locs hP hS => ?_)
  refine lv_aload_n hx hb dX5_become_71 rfl (lv_at hl 0 rfl) ?_
  refine lv_aload_n hx hb dX5_become_72 rfl (lv_at hl 1 rfl) ?_
  refine gt_X5_50 hx hb hts hown hK hP ha1.o ha1.k dX5_become_73 ?_
  obtain ⟨σ76, h76, hf⟩ := bnd hf
  refine pt_X5_50 hx hb hts hown hK hP hJ hS ho.o ho.k h76 dX5_become_76 (fun H locs hP hS => ?_)
  refine lv_aload_n hx hb dX5_become_79 rfl (lv_at hl 0 rfl) ?_
  refine lv_aload_n hx hb dX5_become_80 rfl (lv_at hl 1 rfl) ?_
  refine gt_X5_53 hx hb hts hown hK hP ha1.o ha1.k dX5_become_81 ?_
  obtain ⟨σ84, h84, hf⟩ := bnd hf
  refine pt_X5_53 hx hb hts hown hK hP hJ hS ho.o ho.k h84 dX5_become_84 (fun H locs hP hS => ?_)
  refine lv_aload_n hx hb dX5_become_87 rfl (lv_at hl 0 rfl) ?_
  refine lv_aload_n hx hb dX5_become_88 rfl (lv_at hl 1 rfl) ?_
  refine gt_X5_56 hx hb hts hown hK hP ha1.o ha1.k dX5_become_89 ?_
  obtain ⟨σ92, h92, hf⟩ := bnd hf
  refine pt_X5_56 hx hb hts hown hK hP hJ hS ho.o ho.k h92 dX5_become_92 (fun H locs hP hS => ?_)
  have hq := Option.some.inj hf
  exact q_vret hx hb hr hlk hP hS hq dX5_become_95
def f_X4_setAside (σ : Sg) (o : Nat) (a1 : Nat) : Option Sg :=
  if (σ (o) 2) < 0 then
  some σ
  else
  if (Int32.ofNat (ln (o + 1))) ≤ (σ (o) 2) then
  some σ
  else
  (gb (ln (o + 1)) (σ (o) 2)).bind fun v27 =>
  (f_X5_become σ (o + 1 + 1 + 14 * v27) (a1)).bind fun σ39 =>
  if (Int32.ofNat (ln (o + 1))) ≤ ((σ39 (o) 2) + (1 : Int32)) then
  (some (sf σ39 (o) 2 (0 : Int32))).bind fun σ67 =>
  (some (sf σ67 (o) 1 (if (Int32.ofNat (ln (o + 1))) < ((σ67 (o) 1) + (1 : Int32)) then (Int32.ofNat (ln (o + 1))) else ((σ67 (o) 1) + (1 : Int32))))).bind fun σ85 =>
  some σ85
  else
  (some (sf σ39 (o) 2 ((σ39 (o) 2) + (1 : Int32)))).bind fun σ67 =>
  (some (sf σ67 (o) 1 (if (Int32.ofNat (ln (o + 1))) < ((σ67 (o) 1) + (1 : Int32)) then (Int32.ofNat (ln (o + 1))) else ((σ67 (o) 1) + (1 : Int32))))).bind fun σ85 =>
  some σ85
set_option maxHeartbeats 4000000 in
set_option maxRecDepth 100000 in
theorem c_X4_setAside (l : Launch) (D : va_G) (w : Wv) (σ : Sg) (o : Nat) (a1 : Nat) (σ' : Sg) (ho : isS o) (ha1 : isY a1) (hJ : Inj w) (hf : f_X4_setAside σ o a1 = some σ') : Met l yX4_setAside (.code yX4_setAside cX4_setAside 3 none :: TB) (rmW 4 85) (pcW D w [.ref (w.1 (o)), .ref (w.1 (a1))] σ) (qvW D w σ') 0 0 (AL w) := by
  refine q_open (by decide +kernel) (Nat.le_of_ble_eq_true rfl) ?_
  intro p e s m args below meth c ls hx hb hml hr hlk hown hts hK hP hS hl
  have hown : s.vm.findClass RX4 = some m.cls := hown
  have hl : lv_has ls 3 [(0, .ref (w.1 (o))), (1, .ref (w.1 (a1)))] := hl
  unfold f_X4_setAside at hf
  refine lv_aload_n hx hb dX4_setAside_0 rfl (lv_at hl 0 rfl) ?_
  refine gt_X4_31 hx hb hts hown hK hP ho.o ho.k dX4_setAside_1 ?_
  refine lv_if_lt (tgt := 31) hx hb dX4_setAside_4 (by decide) (fun hc => ?_) (fun hc => ?_)
  · have hf := ifp hc hf
    refine lv_null hx hb dX4_setAside_31 ?_
    refine lv_astore_nN (lv' := [(2, .null), (0, .ref (w.1 (o))), (1, .ref (w.1 (a1)))]) hx hb dX4_setAside_32 rfl hl (by decide) rfl (fun ls hl => ?_)
    refine lv_aload_nN hx hb dX4_setAside_33 rfl (lv_at hl 0 rfl) ?_
    refine lv_ifnullN (tgt := 88) hx hb dX4_setAside_34 (by decide) ?_
    have hq := Option.some.inj hf
    exact q_vret hx hb hr hlk hP hS hq dX4_setAside_88
  · have hf := ifn hc hf
    refine lv_aload_n hx hb dX4_setAside_7 rfl (lv_at hl 0 rfl) ?_
    refine gt_X4_31 hx hb hts hown hK hP ho.o ho.k dX4_setAside_8 ?_
    refine lv_aload_n hx hb dX4_setAside_11 rfl (lv_at hl 0 rfl) ?_
    refine gt_X4_20 hx hb hts hown hK hP ho.o ho.k dX4_setAside_12 ?_
    refine q_alen10 hx hb hK hP ho.ao ho.ak dX4_setAside_15 ?_
    refine lv_icmp_ge (tgt := 31) hx hb dX4_setAside_16 (by decide) (fun hc => ?_) (fun hc => ?_)
    · have hf := ifp hc hf
      refine lv_null hx hb dX4_setAside_31 ?_
      refine lv_astore_nN (lv' := [(2, .null), (0, .ref (w.1 (o))), (1, .ref (w.1 (a1)))]) hx hb dX4_setAside_32 rfl hl (by decide) rfl (fun ls hl => ?_)
      refine lv_aload_nN hx hb dX4_setAside_33 rfl (lv_at hl 0 rfl) ?_
      refine lv_ifnullN (tgt := 88) hx hb dX4_setAside_34 (by decide) ?_
      have hq := Option.some.inj hf
      exact q_vret hx hb hr hlk hP hS hq dX4_setAside_88
    · have hf := ifn hc hf
      refine lv_aload_n hx hb dX4_setAside_19 rfl (lv_at hl 0 rfl) ?_
      refine gt_X4_20 hx hb hts hown hK hP ho.o ho.k dX4_setAside_20 ?_
      refine lv_aload_n hx hb dX4_setAside_23 rfl (lv_at hl 0 rfl) ?_
      refine gt_X4_31 hx hb hts hown hK hP ho.o ho.k dX4_setAside_24 ?_
      obtain ⟨v27, h27, hf⟩ := bnd hf
      refine q_aald hx hb hK hP ho.ao ho.ak h27 dX4_setAside_27 ?_
      refine lv_goto (tgt := 32) hx hb dX4_setAside_28 (by decide) ?_
      refine lv_astore_n (lv' := [(2, .ref (w.1 (o + 1 + 1 + 14 * v27))), (0, .ref (w.1 (o))), (1, .ref (w.1 (a1)))]) hx hb dX4_setAside_32 rfl hl (by decide) rfl (fun ls hl => ?_)
      refine lv_aload_n hx hb dX4_setAside_33 rfl (lv_at hl 0 rfl) ?_
      refine lv_ifnull hx hb dX4_setAside_34 ?_
      refine lv_aload_n hx hb dX4_setAside_37 rfl (lv_at hl 0 rfl) ?_
      refine lv_aload_n hx hb dX4_setAside_38 rfl (lv_at hl 2 rfl) ?_
      obtain ⟨σ39, h39, hf⟩ := bnd hf
      refine q_cVv (As := [.ref (w.1 (a1))]) hx hb hts hml hown hK hP hS (c_X5_become l D w σ (o + 1 + 1 + 14 * v27) (a1) σ39 (ho.y (gb_lt h27)) ha1 hJ h39) hw_X4_34 hd_X5_become ⟨rfl, rfl, rfl⟩ (ho.y (gb_lt h27)).o (ce5 (ho.y (gb_lt h27)).k) rfl ⟨Nat.le_of_ble_eq_true rfl, Nat.le_of_ble_eq_true rfl⟩ ⟨Nat.le_of_ble_eq_true rfl, Nat.le_of_ble_eq_true rfl⟩ hl.1 rfl (Nat.le_of_ble_eq_true rfl) dX4_setAside_39 (fun H locs hP hS => ?_)
      refine lv_aload_n hx hb dX4_setAside_42 rfl (lv_at hl 1 rfl) ?_
      refine lv_aload_n hx hb dX4_setAside_43 rfl (lv_at hl 1 rfl) ?_
      refine gt_X4_31 hx hb hts hown hK hP ho.o ho.k dX4_setAside_44 ?_
      refine lv_iconst (v := (1 : Int32)) hx hb dX4_setAside_47 (by decide) ?_
      refine lv_iadd hx hb dX4_setAside_48 ?_
      refine lv_aload_n hx hb dX4_setAside_49 rfl (lv_at hl 1 rfl) ?_
      refine gt_X4_20 hx hb hts hown hK hP ho.o ho.k dX4_setAside_50 ?_
      refine q_alen10 hx hb hK hP ho.ao ho.ak dX4_setAside_53 ?_
      refine lv_icmp_ge (tgt := 66) hx hb dX4_setAside_54 (by decide) (fun hc => ?_) (fun hc => ?_)
      · have hf := ifp hc hf
        refine lv_iconst (v := (0 : Int32)) hx hb dX4_setAside_66 (by decide) ?_
        obtain ⟨σ67, h67, hf⟩ := bnd hf
        refine pt_X4_31 hx hb hts hown hK hP hJ hS ho.o ho.k h67 dX4_setAside_67 (fun H locs hP hS => ?_)
        refine lv_aload_n hx hb dX4_setAside_70 rfl (lv_at hl 1 rfl) ?_
        refine lv_aload_n hx hb dX4_setAside_71 rfl (lv_at hl 1 rfl) ?_
        refine gt_X4_27 hx hb hts hown hK hP ho.o ho.k dX4_setAside_72 ?_
        refine lv_iconst (v := (1 : Int32)) hx hb dX4_setAside_75 (by decide) ?_
        refine lv_iadd hx hb dX4_setAside_76 ?_
        refine lv_aload_n hx hb dX4_setAside_77 rfl (lv_at hl 1 rfl) ?_
        refine gt_X4_20 hx hb hts hown hK hP ho.o ho.k dX4_setAside_78 ?_
        refine q_alen10 hx hb hK hP ho.ao ho.ak dX4_setAside_81 ?_
        refine va_mmin hx hb (hml.trans hl.1.symm) hown (hts _ tw_144) (hts _ tw_55) (hts _ tw_23) (hts _ tw_56) (Nat.le_of_ble_eq_true rfl) (Nat.le_of_ble_eq_true rfl) (Nat.zero_le _) (Nat.zero_le _) dX4_setAside_82 ?_
        obtain ⟨σ85, h85, hf⟩ := bnd hf
        refine pt_X4_27 hx hb hts hown hK hP hJ hS ho.o ho.k h85 dX4_setAside_85 (fun H locs hP hS => ?_)
        have hq := Option.some.inj hf
        exact q_vret hx hb hr hlk hP hS hq dX4_setAside_88
      · have hf := ifn hc hf
        refine lv_aload_n hx hb dX4_setAside_57 rfl (lv_at hl 1 rfl) ?_
        refine gt_X4_31 hx hb hts hown hK hP ho.o ho.k dX4_setAside_58 ?_
        refine lv_iconst (v := (1 : Int32)) hx hb dX4_setAside_61 (by decide) ?_
        refine lv_iadd hx hb dX4_setAside_62 ?_
        refine lv_goto (tgt := 67) hx hb dX4_setAside_63 (by decide) ?_
        obtain ⟨σ67, h67, hf⟩ := bnd hf
        refine pt_X4_31 hx hb hts hown hK hP hJ hS ho.o ho.k h67 dX4_setAside_67 (fun H locs hP hS => ?_)
        refine lv_aload_n hx hb dX4_setAside_70 rfl (lv_at hl 1 rfl) ?_
        refine lv_aload_n hx hb dX4_setAside_71 rfl (lv_at hl 1 rfl) ?_
        refine gt_X4_27 hx hb hts hown hK hP ho.o ho.k dX4_setAside_72 ?_
        refine lv_iconst (v := (1 : Int32)) hx hb dX4_setAside_75 (by decide) ?_
        refine lv_iadd hx hb dX4_setAside_76 ?_
        refine lv_aload_n hx hb dX4_setAside_77 rfl (lv_at hl 1 rfl) ?_
        refine gt_X4_20 hx hb hts hown hK hP ho.o ho.k dX4_setAside_78 ?_
        refine q_alen10 hx hb hK hP ho.ao ho.ak dX4_setAside_81 ?_
        refine va_mmin hx hb (hml.trans hl.1.symm) hown (hts _ tw_144) (hts _ tw_55) (hts _ tw_23) (hts _ tw_56) (Nat.le_of_ble_eq_true rfl) (Nat.le_of_ble_eq_true rfl) (Nat.zero_le _) (Nat.zero_le _) dX4_setAside_82 ?_
        obtain ⟨σ85, h85, hf⟩ := bnd hf
        refine pt_X4_27 hx hb hts hown hK hP hJ hS ho.o ho.k h85 dX4_setAside_85 (fun H locs hP hS => ?_)
        have hq := Option.some.inj hf
        exact q_vret hx hb hr hlk hP hS hq dX4_setAside_88
def f_X4_giveBack (σ : Sg) (o : Nat) (a1 : Nat) : Option (Int32 × Sg) :=
  if (σ (o) 2) ≤ 0 then
  if (σ (o) 1) ≤ 0 then
  some ((0 : Int32), σ)
  else
  if ((Int32.ofNat (ln (o + 1))) - (1 : Int32)) < 0 then
  some ((0 : Int32), σ)
  else
  if (Int32.ofNat (ln (o + 1))) ≤ ((Int32.ofNat (ln (o + 1))) - (1 : Int32)) then
  some ((0 : Int32), σ)
  else
  (gb (ln (o + 1)) ((Int32.ofNat (ln (o + 1))) - (1 : Int32))).bind fun v49 =>
  (f_X5_become σ (a1) (o + 1 + 1 + 14 * v49)).bind fun σ63 =>
  (some (sf σ63 (o) 2 ((Int32.ofNat (ln (o + 1))) - (1 : Int32)))).bind fun σ68 =>
  (some (sf σ68 (o) 1 ((σ68 (o) 1) - (1 : Int32)))).bind fun σ78 =>
  some ((1 : Int32), σ78)
  else
  if (σ (o) 1) ≤ 0 then
  some ((0 : Int32), σ)
  else
  if ((σ (o) 2) - (1 : Int32)) < 0 then
  some ((0 : Int32), σ)
  else
  if (Int32.ofNat (ln (o + 1))) ≤ ((σ (o) 2) - (1 : Int32)) then
  some ((0 : Int32), σ)
  else
  (gb (ln (o + 1)) ((σ (o) 2) - (1 : Int32))).bind fun v49 =>
  (f_X5_become σ (a1) (o + 1 + 1 + 14 * v49)).bind fun σ63 =>
  (some (sf σ63 (o) 2 ((σ (o) 2) - (1 : Int32)))).bind fun σ68 =>
  (some (sf σ68 (o) 1 ((σ68 (o) 1) - (1 : Int32)))).bind fun σ78 =>
  some ((1 : Int32), σ78)
set_option maxHeartbeats 4000000 in
set_option maxRecDepth 100000 in
theorem c_X4_giveBack (l : Launch) (D : va_G) (w : Wv) (σ : Sg) (o : Nat) (a1 : Nat) (r : Int32) (σ' : Sg) (ho : isS o) (ha1 : isY a1) (hJ : Inj w) (hf : f_X4_giveBack σ o a1 = some (r, σ')) : Met l yX4_giveBack (.code yX4_giveBack cX4_giveBack 4 (some .boolean) :: TB) (rmW 4 85) (pcW D w [.ref (w.1 (o)), .ref (w.1 (a1))] σ) (qzW D w r σ') 0 0 (AL w) := by
  refine q_open (by decide +kernel) (Nat.le_of_ble_eq_true rfl) ?_
  intro p e s m args below meth c ls hx hb hml hr hlk hown hts hK hP hS hl
  have hown : s.vm.findClass RX4 = some m.cls := hown
  have hl : lv_has ls 4 [(0, .ref (w.1 (o))), (1, .ref (w.1 (a1)))] := hl
  unfold f_X4_giveBack at hf
  refine lv_aload_n hx hb dX4_giveBack_0 rfl (lv_at hl 0 rfl) ?_
  refine gt_X4_31 hx hb hts hown hK hP ho.o ho.k dX4_giveBack_1 ?_
  refine lv_if_le (tgt := 16) hx hb dX4_giveBack_4 (by decide) (fun hc => ?_) (fun hc => ?_)
  · have hf := ifp hc hf
    refine lv_aload_n hx hb dX4_giveBack_16 rfl (lv_at hl 0 rfl) ?_
    refine gt_X4_20 hx hb hts hown hK hP ho.o ho.k dX4_giveBack_17 ?_
    refine q_alen10 hx hb hK hP ho.ao ho.ak dX4_giveBack_20 ?_
    refine lv_iconst (v := (1 : Int32)) hx hb dX4_giveBack_21 (by decide) ?_
    refine lv_isub hx hb dX4_giveBack_22 ?_
    refine lv_istore_n (lv' := [(2, .int ((Int32.ofNat (ln (o + 1))) - (1 : Int32))), (0, .ref (w.1 (o))), (1, .ref (w.1 (a1)))]) hx hb dX4_giveBack_23 rfl hl (by decide) rfl (fun ls hl => ?_)
    refine lv_aload_n hx hb dX4_giveBack_24 rfl (lv_at hl 1 rfl) ?_
    refine gt_X4_27 hx hb hts hown hK hP ho.o ho.k dX4_giveBack_25 ?_
    refine lv_if_le (tgt := 53) hx hb dX4_giveBack_28 (by decide) (fun hc => ?_) (fun hc => ?_)
    · have hf := ifp hc hf
      refine lv_null hx hb dX4_giveBack_53 ?_
      refine lv_astore_nN (lv' := [(3, .null), (2, .int ((Int32.ofNat (ln (o + 1))) - (1 : Int32))), (0, .ref (w.1 (o))), (1, .ref (w.1 (a1)))]) hx hb dX4_giveBack_54 rfl hl (by decide) rfl (fun ls hl => ?_)
      refine lv_aload_nN hx hb dX4_giveBack_55 rfl (lv_at hl 0 rfl) ?_
      refine lv_ifnonnullN hx hb dX4_giveBack_56 ?_
      refine lv_iconst (v := (0 : Int32)) hx hb dX4_giveBack_59 (by decide) ?_
      have hq := Option.some.inj hf
      exact q_zret hx hb hr hlk hP hS rfl (congrArg Prod.fst hq) (congrArg Prod.snd hq) dX4_giveBack_60
    · have hf := ifn hc hf
      refine lv_iload_n hx hb dX4_giveBack_31 rfl (lv_at hl 0 rfl) ?_
      refine lv_if_lt (tgt := 53) hx hb dX4_giveBack_32 (by decide) (fun hc => ?_) (fun hc => ?_)
      · have hf := ifp hc hf
        refine lv_null hx hb dX4_giveBack_53 ?_
        refine lv_astore_nN (lv' := [(3, .null), (2, .int ((Int32.ofNat (ln (o + 1))) - (1 : Int32))), (0, .ref (w.1 (o))), (1, .ref (w.1 (a1)))]) hx hb dX4_giveBack_54 rfl hl (by decide) rfl (fun ls hl => ?_)
        refine lv_aload_nN hx hb dX4_giveBack_55 rfl (lv_at hl 0 rfl) ?_
        refine lv_ifnonnullN hx hb dX4_giveBack_56 ?_
        refine lv_iconst (v := (0 : Int32)) hx hb dX4_giveBack_59 (by decide) ?_
        have hq := Option.some.inj hf
        exact q_zret hx hb hr hlk hP hS rfl (congrArg Prod.fst hq) (congrArg Prod.snd hq) dX4_giveBack_60
      · have hf := ifn hc hf
        refine lv_iload_n hx hb dX4_giveBack_35 rfl (lv_at hl 0 rfl) ?_
        refine lv_aload_n hx hb dX4_giveBack_36 rfl (lv_at hl 1 rfl) ?_
        refine gt_X4_20 hx hb hts hown hK hP ho.o ho.k dX4_giveBack_37 ?_
        refine q_alen10 hx hb hK hP ho.ao ho.ak dX4_giveBack_40 ?_
        refine lv_icmp_ge (tgt := 53) hx hb dX4_giveBack_41 (by decide) (fun hc => ?_) (fun hc => ?_)
        · have hf := ifp hc hf
          refine lv_null hx hb dX4_giveBack_53 ?_
          refine lv_astore_nN (lv' := [(3, .null), (2, .int ((Int32.ofNat (ln (o + 1))) - (1 : Int32))), (0, .ref (w.1 (o))), (1, .ref (w.1 (a1)))]) hx hb dX4_giveBack_54 rfl hl (by decide) rfl (fun ls hl => ?_)
          refine lv_aload_nN hx hb dX4_giveBack_55 rfl (lv_at hl 0 rfl) ?_
          refine lv_ifnonnullN hx hb dX4_giveBack_56 ?_
          refine lv_iconst (v := (0 : Int32)) hx hb dX4_giveBack_59 (by decide) ?_
          have hq := Option.some.inj hf
          exact q_zret hx hb hr hlk hP hS rfl (congrArg Prod.fst hq) (congrArg Prod.snd hq) dX4_giveBack_60
        · have hf := ifn hc hf
          refine lv_aload_n hx hb dX4_giveBack_44 rfl (lv_at hl 1 rfl) ?_
          refine gt_X4_20 hx hb hts hown hK hP ho.o ho.k dX4_giveBack_45 ?_
          refine lv_iload_n hx hb dX4_giveBack_48 rfl (lv_at hl 0 rfl) ?_
          obtain ⟨v49, h49, hf⟩ := bnd hf
          refine q_aald hx hb hK hP ho.ao ho.ak h49 dX4_giveBack_49 ?_
          refine lv_goto (tgt := 54) hx hb dX4_giveBack_50 (by decide) ?_
          refine lv_astore_n (lv' := [(3, .ref (w.1 (o + 1 + 1 + 14 * v49))), (2, .int ((Int32.ofNat (ln (o + 1))) - (1 : Int32))), (0, .ref (w.1 (o))), (1, .ref (w.1 (a1)))]) hx hb dX4_giveBack_54 rfl hl (by decide) rfl (fun ls hl => ?_)
          refine lv_aload_n hx hb dX4_giveBack_55 rfl (lv_at hl 0 rfl) ?_
          refine lv_ifnonnull (tgt := 61) hx hb dX4_giveBack_56 (by decide) ?_
          refine lv_aload_n hx hb dX4_giveBack_61 rfl (lv_at hl 3 rfl) ?_
          refine lv_aload_n hx hb dX4_giveBack_62 rfl (lv_at hl 0 rfl) ?_
          obtain ⟨σ63, h63, hf⟩ := bnd hf
          refine q_cVv (As := [.ref (w.1 (o + 1 + 1 + 14 * v49))]) hx hb hts hml hown hK hP hS (c_X5_become l D w σ (a1) (o + 1 + 1 + 14 * v49) σ63 ha1 (ho.y (gb_lt h49)) hJ h63) hw_X4_34 hd_X5_become ⟨rfl, rfl, rfl⟩ ha1.o (ce5 ha1.k) rfl ⟨Nat.le_of_ble_eq_true rfl, Nat.le_of_ble_eq_true rfl⟩ ⟨Nat.le_of_ble_eq_true rfl, Nat.le_of_ble_eq_true rfl⟩ hl.1 rfl (Nat.le_of_ble_eq_true rfl) dX4_giveBack_63 (fun H locs hP hS => ?_)
          refine lv_aload_n hx hb dX4_giveBack_66 rfl (lv_at hl 2 rfl) ?_
          refine lv_iload_n hx hb dX4_giveBack_67 rfl (lv_at hl 1 rfl) ?_
          obtain ⟨σ68, h68, hf⟩ := bnd hf
          refine pt_X4_31 hx hb hts hown hK hP hJ hS ho.o ho.k h68 dX4_giveBack_68 (fun H locs hP hS => ?_)
          refine lv_aload_n hx hb dX4_giveBack_71 rfl (lv_at hl 2 rfl) ?_
          refine lv_dup hx hb dX4_giveBack_72 rfl ?_
          refine gt_X4_27 hx hb hts hown hK hP ho.o ho.k dX4_giveBack_73 ?_
          refine lv_iconst (v := (1 : Int32)) hx hb dX4_giveBack_76 (by decide) ?_
          refine lv_isub hx hb dX4_giveBack_77 ?_
          obtain ⟨σ78, h78, hf⟩ := bnd hf
          refine pt_X4_27 hx hb hts hown hK hP hJ hS ho.o ho.k h78 dX4_giveBack_78 (fun H locs hP hS => ?_)
          refine lv_iconst (v := (1 : Int32)) hx hb dX4_giveBack_81 (by decide) ?_
          have hq := Option.some.inj hf
          exact q_zret hx hb hr hlk hP hS rfl (congrArg Prod.fst hq) (congrArg Prod.snd hq) dX4_giveBack_82
  · have hf := ifn hc hf
    refine lv_aload_n hx hb dX4_giveBack_7 rfl (lv_at hl 0 rfl) ?_
    refine gt_X4_31 hx hb hts hown hK hP ho.o ho.k dX4_giveBack_8 ?_
    refine lv_iconst (v := (1 : Int32)) hx hb dX4_giveBack_11 (by decide) ?_
    refine lv_isub hx hb dX4_giveBack_12 ?_
    refine lv_goto (tgt := 23) hx hb dX4_giveBack_13 (by decide) ?_
    refine lv_istore_n (lv' := [(2, .int ((σ (o) 2) - (1 : Int32))), (0, .ref (w.1 (o))), (1, .ref (w.1 (a1)))]) hx hb dX4_giveBack_23 rfl hl (by decide) rfl (fun ls hl => ?_)
    refine lv_aload_n hx hb dX4_giveBack_24 rfl (lv_at hl 1 rfl) ?_
    refine gt_X4_27 hx hb hts hown hK hP ho.o ho.k dX4_giveBack_25 ?_
    refine lv_if_le (tgt := 53) hx hb dX4_giveBack_28 (by decide) (fun hc => ?_) (fun hc => ?_)
    · have hf := ifp hc hf
      refine lv_null hx hb dX4_giveBack_53 ?_
      refine lv_astore_nN (lv' := [(3, .null), (2, .int ((σ (o) 2) - (1 : Int32))), (0, .ref (w.1 (o))), (1, .ref (w.1 (a1)))]) hx hb dX4_giveBack_54 rfl hl (by decide) rfl (fun ls hl => ?_)
      refine lv_aload_nN hx hb dX4_giveBack_55 rfl (lv_at hl 0 rfl) ?_
      refine lv_ifnonnullN hx hb dX4_giveBack_56 ?_
      refine lv_iconst (v := (0 : Int32)) hx hb dX4_giveBack_59 (by decide) ?_
      have hq := Option.some.inj hf
      exact q_zret hx hb hr hlk hP hS rfl (congrArg Prod.fst hq) (congrArg Prod.snd hq) dX4_giveBack_60
    · have hf := ifn hc hf
      refine lv_iload_n hx hb dX4_giveBack_31 rfl (lv_at hl 0 rfl) ?_
      refine lv_if_lt (tgt := 53) hx hb dX4_giveBack_32 (by decide) (fun hc => ?_) (fun hc => ?_)
      · have hf := ifp hc hf
        refine lv_null hx hb dX4_giveBack_53 ?_
        refine lv_astore_nN (lv' := [(3, .null), (2, .int ((σ (o) 2) - (1 : Int32))), (0, .ref (w.1 (o))), (1, .ref (w.1 (a1)))]) hx hb dX4_giveBack_54 rfl hl (by decide) rfl (fun ls hl => ?_)
        refine lv_aload_nN hx hb dX4_giveBack_55 rfl (lv_at hl 0 rfl) ?_
        refine lv_ifnonnullN hx hb dX4_giveBack_56 ?_
        refine lv_iconst (v := (0 : Int32)) hx hb dX4_giveBack_59 (by decide) ?_
        have hq := Option.some.inj hf
        exact q_zret hx hb hr hlk hP hS rfl (congrArg Prod.fst hq) (congrArg Prod.snd hq) dX4_giveBack_60
      · have hf := ifn hc hf
        refine lv_iload_n hx hb dX4_giveBack_35 rfl (lv_at hl 0 rfl) ?_
        refine lv_aload_n hx hb dX4_giveBack_36 rfl (lv_at hl 1 rfl) ?_
        refine gt_X4_20 hx hb hts hown hK hP ho.o ho.k dX4_giveBack_37 ?_
        refine q_alen10 hx hb hK hP ho.ao ho.ak dX4_giveBack_40 ?_
        refine lv_icmp_ge (tgt := 53) hx hb dX4_giveBack_41 (by decide) (fun hc => ?_) (fun hc => ?_)
        · have hf := ifp hc hf
          refine lv_null hx hb dX4_giveBack_53 ?_
          refine lv_astore_nN (lv' := [(3, .null), (2, .int ((σ (o) 2) - (1 : Int32))), (0, .ref (w.1 (o))), (1, .ref (w.1 (a1)))]) hx hb dX4_giveBack_54 rfl hl (by decide) rfl (fun ls hl => ?_)
          refine lv_aload_nN hx hb dX4_giveBack_55 rfl (lv_at hl 0 rfl) ?_
          refine lv_ifnonnullN hx hb dX4_giveBack_56 ?_
          refine lv_iconst (v := (0 : Int32)) hx hb dX4_giveBack_59 (by decide) ?_
          have hq := Option.some.inj hf
          exact q_zret hx hb hr hlk hP hS rfl (congrArg Prod.fst hq) (congrArg Prod.snd hq) dX4_giveBack_60
        · have hf := ifn hc hf
          refine lv_aload_n hx hb dX4_giveBack_44 rfl (lv_at hl 1 rfl) ?_
          refine gt_X4_20 hx hb hts hown hK hP ho.o ho.k dX4_giveBack_45 ?_
          refine lv_iload_n hx hb dX4_giveBack_48 rfl (lv_at hl 0 rfl) ?_
          obtain ⟨v49, h49, hf⟩ := bnd hf
          refine q_aald hx hb hK hP ho.ao ho.ak h49 dX4_giveBack_49 ?_
          refine lv_goto (tgt := 54) hx hb dX4_giveBack_50 (by decide) ?_
          refine lv_astore_n (lv' := [(3, .ref (w.1 (o + 1 + 1 + 14 * v49))), (2, .int ((σ (o) 2) - (1 : Int32))), (0, .ref (w.1 (o))), (1, .ref (w.1 (a1)))]) hx hb dX4_giveBack_54 rfl hl (by decide) rfl (fun ls hl => ?_)
          refine lv_aload_n hx hb dX4_giveBack_55 rfl (lv_at hl 0 rfl) ?_
          refine lv_ifnonnull (tgt := 61) hx hb dX4_giveBack_56 (by decide) ?_
          refine lv_aload_n hx hb dX4_giveBack_61 rfl (lv_at hl 3 rfl) ?_
          refine lv_aload_n hx hb dX4_giveBack_62 rfl (lv_at hl 0 rfl) ?_
          obtain ⟨σ63, h63, hf⟩ := bnd hf
          refine q_cVv (As := [.ref (w.1 (o + 1 + 1 + 14 * v49))]) hx hb hts hml hown hK hP hS (c_X5_become l D w σ (a1) (o + 1 + 1 + 14 * v49) σ63 ha1 (ho.y (gb_lt h49)) hJ h63) hw_X4_34 hd_X5_become ⟨rfl, rfl, rfl⟩ ha1.o (ce5 ha1.k) rfl ⟨Nat.le_of_ble_eq_true rfl, Nat.le_of_ble_eq_true rfl⟩ ⟨Nat.le_of_ble_eq_true rfl, Nat.le_of_ble_eq_true rfl⟩ hl.1 rfl (Nat.le_of_ble_eq_true rfl) dX4_giveBack_63 (fun H locs hP hS => ?_)
          refine lv_aload_n hx hb dX4_giveBack_66 rfl (lv_at hl 2 rfl) ?_
          refine lv_iload_n hx hb dX4_giveBack_67 rfl (lv_at hl 1 rfl) ?_
          obtain ⟨σ68, h68, hf⟩ := bnd hf
          refine pt_X4_31 hx hb hts hown hK hP hJ hS ho.o ho.k h68 dX4_giveBack_68 (fun H locs hP hS => ?_)
          refine lv_aload_n hx hb dX4_giveBack_71 rfl (lv_at hl 2 rfl) ?_
          refine lv_dup hx hb dX4_giveBack_72 rfl ?_
          refine gt_X4_27 hx hb hts hown hK hP ho.o ho.k dX4_giveBack_73 ?_
          refine lv_iconst (v := (1 : Int32)) hx hb dX4_giveBack_76 (by decide) ?_
          refine lv_isub hx hb dX4_giveBack_77 ?_
          obtain ⟨σ78, h78, hf⟩ := bnd hf
          refine pt_X4_27 hx hb hts hown hK hP hJ hS ho.o ho.k h78 dX4_giveBack_78 (fun H locs hP hS => ?_)
          refine lv_iconst (v := (1 : Int32)) hx hb dX4_giveBack_81 (by decide) ?_
          have hq := Option.some.inj hf
          exact q_zret hx hb hr hlk hP hS rfl (congrArg Prod.fst hq) (congrArg Prod.snd hq) dX4_giveBack_82
def f_X5_paintPost_b1 (o : Nat) (a1 : Int32) (v6 : Int32) (x3_15 : Int32) (x4_15 : Int32) (σ_15 : Sg) : Option ((Int32 × Int32 × Sg) ⊕ (Int32 × Sg)) :=
  if (8 : Int32) ≤ x4_15 then
  some (.inr (x3_15, σ_15))
  else
  (f_X5_isTown σ_15 (o) x4_15).bind fun v25 =>
  if v25 = 0 then
  (f_X0_put σ_15 (o + 8) a1 x4_15 (-4 : Int32)).bind fun σ57 =>
  (f_X0_put σ57 (o + 10) a1 x4_15 (-4 : Int32)).bind fun σ89 =>
  some (.inl (x3_15, (x4_15 + (1 : Int32)), σ89))
  else
  (f_X3_firstStep σ_15 (o + 1) v6 x4_15).bind fun v38 =>
  (f_X0_put σ_15 (o + 8) a1 x4_15 v38).bind fun σ57 =>
  if ¬ v38 = (-4 : Int32) then
  (f_X3_pathMiles σ57 (o + 1) v6 x4_15).bind fun v86 =>
  (f_X0_put σ57 (o + 10) a1 x4_15 v86).bind fun σ89 =>
  if v38 = (-4 : Int32) then
  some (.inl (x3_15, (x4_15 + (1 : Int32)), σ89))
  else
  some (.inl ((x3_15 + (1 : Int32)), (x4_15 + (1 : Int32)), σ89))
  else
  (f_X0_put σ57 (o + 10) a1 x4_15 (-4 : Int32)).bind fun σ89 =>
  if v38 = (-4 : Int32) then
  some (.inl (x3_15, (x4_15 + (1 : Int32)), σ89))
  else
  some (.inl ((x3_15 + (1 : Int32)), (x4_15 + (1 : Int32)), σ89))
def f_X5_paintPost_k1 (y3_108 : Int32) (σ_108 : Sg) : Option (Int32 × Sg) :=
  some (y3_108, σ_108)
def f_X5_paintPost (σ : Sg) (o : Nat) (a1 : Int32) : Option (Int32 × Sg) :=
  (f_X0_at σ (o + 6) a1 (1 : Int32)).bind fun v6 =>
  (lp (fun st => f_X5_paintPost_b1 o a1 v6 st.1 st.2.1 st.2.2) FU ((0 : Int32), (0 : Int32), σ)).bind fun rr => f_X5_paintPost_k1 rr.1 rr.2
set_option maxHeartbeats 4000000 in
set_option maxRecDepth 100000 in
theorem c_X5_paintPost (l : Launch) (D : va_G) (w : Wv) (σ : Sg) (o : Nat) (a1 : Int32) (r : Int32) (σ' : Sg) (ho : isY o) (hJ : Inj w) (hf : f_X5_paintPost σ o a1 = some (r, σ')) : Met l yX5_paintPost (.code yX5_paintPost cX5_paintPost 6 (some .int) :: TB) (rmW 2 50) (pcW D w [.ref (w.1 (o)), .int a1] σ) (qiW D w r σ') 0 0 (AL w) := by
  refine q_open (by decide +kernel) (Nat.le_of_ble_eq_true rfl) ?_
  intro p e s m args below meth c ls hx hb hml hr hlk hown hts hK hP hS hl
  have hown : s.vm.findClass RX5 = some m.cls := hown
  have hl : lv_has ls 6 [(0, .ref (w.1 (o))), (1, .int a1)] := hl
  unfold f_X5_paintPost at hf
  refine lv_aload_n hx hb dX5_paintPost_0 rfl (lv_at hl 0 rfl) ?_
  refine gt_X5_23 hx hb hts hown hK hP ho.o ho.k dX5_paintPost_1 ?_
  refine lv_iload_n hx hb dX5_paintPost_4 rfl (lv_at hl 1 rfl) ?_
  refine lv_iconst (v := (1 : Int32)) hx hb dX5_paintPost_5 (by decide) ?_
  obtain ⟨v6, h6, hf⟩ := bnd hf
  refine q_cVi (As := [.int a1, .int (1 : Int32)]) hx hb hts hml hown hK hP hS (c_X0_at l D w σ (o + 6) a1 (1 : Int32) v6 ho.f1 h6) hw_X5_89 hd_X0_at ⟨rfl, rfl, rfl⟩ ho.f1.o (ce0 ho.f1.k) rfl ⟨Nat.le_of_ble_eq_true rfl, Nat.le_of_ble_eq_true rfl⟩ ⟨Nat.le_of_ble_eq_true rfl, Nat.le_of_ble_eq_true rfl⟩ hl.1 rfl (Nat.le_of_ble_eq_true rfl) dX5_paintPost_6 (fun H locs hP hS => ?_)
  refine lv_istore_n (lv' := [(2, .int v6), (0, .ref (w.1 (o))), (1, .int a1)]) hx hb dX5_paintPost_9 rfl hl (by decide) rfl (fun ls hl => ?_)
  refine lv_iconst (v := (0 : Int32)) hx hb dX5_paintPost_10 (by decide) ?_
  refine lv_istore_n (lv' := [(3, .int (0 : Int32)), (2, .int v6), (0, .ref (w.1 (o))), (1, .int a1)]) hx hb dX5_paintPost_11 rfl hl (by decide) rfl (fun ls hl => ?_)
  refine lv_iconst (v := (0 : Int32)) hx hb dX5_paintPost_12 (by decide) ?_
  refine lv_istore (lv' := [(4, .int (0 : Int32)), (3, .int (0 : Int32)), (2, .int v6), (0, .ref (w.1 (o))), (1, .int a1)]) hx hb dX5_paintPost_13 hl (by decide) rfl (fun ls hl => ?_)
  obtain ⟨rr, hlp, hf⟩ := bnd hf
  have hE15_108 : ∀ (y3_108 : Int32) (σ_108 : Sg) (H : Heap) (locs : List Loc) (ls : Array Slot), f_X5_paintPost_k1 y3_108 σ_108 = some (r, σ') → va_P D vwCl (WL w σ_108) H → va_S (AL w) s.heap H locs → lv_has ls 6 [(3, .int y3_108)] → W p l e (rmW 2 50) s m args below meth c H locs 0 0 (MQ below (qiW D w r σ') args s 0 0 (AL w)) (F0 m 108 ls []) := by
    intro y3_108 σ_108 H locs ls hf hP hS hl
    unfold f_X5_paintPost_k1 at hf
    refine lv_iload_n hx hb dX5_paintPost_108 rfl (lv_at hl 0 rfl) ?_
    have hq := Option.some.inj hf
    exact q_iret hx hb hr hlk hP hS (congrArg Prod.fst hq) (congrArg Prod.snd hq) dX5_paintPost_109
  refine lp_ind (G := fun (st : (Int32 × Int32 × Sg)) => ∀ (H : Heap) (locs : List Loc) (ls : Array Slot), va_P D vwCl (WL w st.2.2) H → va_S (AL w) s.heap H locs → lv_has ls 6 [(0, .ref (w.1 (o))), (1, .int a1), (2, .int v6), (3, .int st.1), (4, .int st.2.1)] → W p l e (rmW 2 50) s m args below meth c H locs 0 0 (MQ below (qiW D w r σ') args s 0 0 (AL w)) (F0 m 15 ls [])) (X := fun rr => f_X5_paintPost_k1 rr.1 rr.2 = some (r, σ')) ?_ _ _ rr hlp hf _ _ _ hP hS (lv_sub hl [3, 4, 2, 1, 0] rfl)
  rintro ⟨x3_15, x4_15, σ_15⟩ oo15 hb9 hG15 hX15 H locs ls hP hS hl
  have hP : va_P D vwCl (WL w σ_15) H := hP
  have hl : lv_has ls 6 [(0, .ref (w.1 (o))), (1, .int a1), (2, .int v6), (3, .int x3_15), (4, .int x4_15)] := hl
  have hf : f_X5_paintPost_b1 o a1 v6 x3_15 x4_15 σ_15 = some oo15 := hb9
  unfold f_X5_paintPost_b1 at hf
  refine lv_iload hx hb dX5_paintPost_15 (lv_at hl 4 rfl) ?_
  refine lv_bipush (v := (8 : Int32)) hx hb dX5_paintPost_17 (by decide) ?_
  refine lv_icmp_ge (tgt := 108) hx hb dX5_paintPost_19 (by decide) (fun hc => ?_) (fun hc => ?_)
  · have hf := ifp hc hf
    obtain rfl := Option.some.inj hf
    exact hE15_108 x3_15 σ_15 _ _ _ (hX15 _ rfl) hP hS (lv_sub hl [3] rfl)
  · have hf := ifn hc hf
    refine lv_aload_n hx hb dX5_paintPost_22 rfl (lv_at hl 0 rfl) ?_
    refine lv_iload hx hb dX5_paintPost_23 (lv_at hl 4 rfl) ?_
    obtain ⟨v25, h25, hf⟩ := bnd hf
    refine q_cVz (As := [.int x4_15]) hx hb hts hml hown hK hP hS (c_X5_isTown l D w σ_15 (o) x4_15 v25 ho h25) hw_X5_71 hd_X5_isTown ⟨rfl, rfl, rfl⟩ ho.o (ce5 ho.k) rfl ⟨Nat.le_of_ble_eq_true rfl, Nat.le_of_ble_eq_true rfl⟩ ⟨Nat.le_of_ble_eq_true rfl, Nat.le_of_ble_eq_true rfl⟩ hl.1 rfl (Nat.le_of_ble_eq_true rfl) dX5_paintPost_25 (fun hz25 H locs hP hS => ?_)
    refine lv_if_eq (tgt := 44) hx hb dX5_paintPost_28 (by decide) (fun hc => ?_) (fun hc => ?_)
    · have hf := ifp hc hf
      refine lv_bipush (v := (-4 : Int32)) hx hb dX5_paintPost_44 (by decide) ?_
      refine lv_istore (lv' := [(5, .int (-4 : Int32)), (0, .ref (w.1 (o))), (1, .int a1), (2, .int v6), (3, .int x3_15), (4, .int x4_15)]) hx hb dX5_paintPost_46 hl (by decide) rfl (fun ls hl => ?_)
      refine lv_aload_n hx hb dX5_paintPost_48 rfl (lv_at hl 1 rfl) ?_
      refine gt_X5_27 hx hb hts hown hK hP ho.o ho.k dX5_paintPost_49 ?_
      refine lv_iload_n hx hb dX5_paintPost_52 rfl (lv_at hl 2 rfl) ?_
      refine lv_iload hx hb dX5_paintPost_53 (lv_at hl 5 rfl) ?_
      refine lv_iload hx hb dX5_paintPost_55 (lv_at hl 0 rfl) ?_
      obtain ⟨σ57, h57, hf⟩ := bnd hf
      refine q_cVv (As := [.int a1, .int x4_15, .int (-4 : Int32)]) hx hb hts hml hown hK hP hS (c_X0_put l D w σ_15 (o + 8) a1 x4_15 (-4 : Int32) σ57 ho.f2 hJ h57) hw_X5_75 hd_X0_put ⟨rfl, rfl, rfl⟩ ho.f2.o (ce0 ho.f2.k) rfl ⟨Nat.le_of_ble_eq_true rfl, Nat.le_of_ble_eq_true rfl⟩ ⟨Nat.le_of_ble_eq_true rfl, Nat.le_of_ble_eq_true rfl⟩ hl.1 rfl (Nat.le_of_ble_eq_true rfl) dX5_paintPost_57 (fun H locs hP hS => ?_)
      refine lv_aload_n hx hb dX5_paintPost_60 rfl (lv_at hl 1 rfl) ?_
      refine gt_X5_30 hx hb hts hown hK hP ho.o ho.k dX5_paintPost_61 ?_
      refine lv_iload_n hx hb dX5_paintPost_64 rfl (lv_at hl 2 rfl) ?_
      refine lv_iload hx hb dX5_paintPost_65 (lv_at hl 5 rfl) ?_
      refine lv_iload hx hb dX5_paintPost_67 (lv_at hl 0 rfl) ?_
      refine lv_bipush (v := (-4 : Int32)) hx hb dX5_paintPost_69 (by decide) ?_
      refine lv_icmp_ne (tgt := 79) hx hb dX5_paintPost_71 (by decide) (fun hc => absurd hc (by decide)) (fun _ => ?_)
      refine lv_bipush (v := (-4 : Int32)) hx hb dX5_paintPost_74 (by decide) ?_
      refine lv_goto (tgt := 89) hx hb dX5_paintPost_76 (by decide) ?_
      obtain ⟨σ89, h89, hf⟩ := bnd hf
      refine q_cVv (As := [.int a1, .int x4_15, .int (-4 : Int32)]) hx hb hts hml hown hK hP hS (c_X0_put l D w σ57 (o + 10) a1 x4_15 (-4 : Int32) σ89 ho.f3 hJ h89) hw_X5_75 hd_X0_put ⟨rfl, rfl, rfl⟩ ho.f3.o (ce0 ho.f3.k) rfl ⟨Nat.le_of_ble_eq_true rfl, Nat.le_of_ble_eq_true rfl⟩ ⟨Nat.le_of_ble_eq_true rfl, Nat.le_of_ble_eq_true rfl⟩ hl.1 rfl (Nat.le_of_ble_eq_true rfl) dX5_paintPost_89 (fun H locs hP hS => ?_)
      refine lv_iload hx hb dX5_paintPost_92 (lv_at hl 0 rfl) ?_
      refine lv_bipush (v := (-4 : Int32)) hx hb dX5_paintPost_94 (by decide) ?_
      refine lv_icmp_eq (tgt := 102) hx hb dX5_paintPost_96 (by decide) (fun _ => ?_) (fun hc => absurd (by decide) hc)
      refine lv_iinc (v := (x4_15 + (1 : Int32))) (lv' := [(4, .int (x4_15 + (1 : Int32))), (5, .int (-4 : Int32)), (0, .ref (w.1 (o))), (1, .int a1), (2, .int v6), (3, .int x3_15)]) hx hb dX5_paintPost_102 hl (k := 5) rfl ii_1 (by decide) rfl (fun ls hl => ?_)
      refine lv_goto (tgt := 15) hx hb dX5_paintPost_105 (by decide) ?_
      obtain rfl := Option.some.inj hf
      exact hG15 _ rfl _ _ _ hP hS (lv_sub hl [2, 3, 4, 5, 0] rfl)
    · have hf := ifn hc hf
      refine lv_aload_n hx hb dX5_paintPost_31 rfl (lv_at hl 0 rfl) ?_
      refine gt_X5_12 hx hb hts hown hK hP ho.o ho.k dX5_paintPost_32 ?_
      refine lv_iload_n hx hb dX5_paintPost_35 rfl (lv_at hl 2 rfl) ?_
      refine lv_iload hx hb dX5_paintPost_36 (lv_at hl 4 rfl) ?_
      obtain ⟨v38, h38, hf⟩ := bnd hf
      refine q_cVi (As := [.int v6, .int x4_15]) hx hb hts hml hown hK hP hS (c_X3_firstStep l D w σ_15 (o + 1) v6 x4_15 v38 ho.f0 h38) hw_X5_126 hd_X3_firstStep ⟨rfl, rfl, rfl⟩ ho.f0.o (ce3 ho.f0.k) rfl ⟨Nat.le_of_ble_eq_true rfl, Nat.le_of_ble_eq_true rfl⟩ ⟨Nat.le_of_ble_eq_true rfl, Nat.le_of_ble_eq_true rfl⟩ hl.1 rfl (Nat.le_of_ble_eq_true rfl) dX5_paintPost_38 (fun H locs hP hS => ?_)
      refine lv_goto (tgt := 46) hx hb dX5_paintPost_41 (by decide) ?_
      refine lv_istore (lv' := [(5, .int v38), (0, .ref (w.1 (o))), (1, .int a1), (2, .int v6), (3, .int x3_15), (4, .int x4_15)]) hx hb dX5_paintPost_46 hl (by decide) rfl (fun ls hl => ?_)
      refine lv_aload_n hx hb dX5_paintPost_48 rfl (lv_at hl 1 rfl) ?_
      refine gt_X5_27 hx hb hts hown hK hP ho.o ho.k dX5_paintPost_49 ?_
      refine lv_iload_n hx hb dX5_paintPost_52 rfl (lv_at hl 2 rfl) ?_
      refine lv_iload hx hb dX5_paintPost_53 (lv_at hl 5 rfl) ?_
      refine lv_iload hx hb dX5_paintPost_55 (lv_at hl 0 rfl) ?_
      obtain ⟨σ57, h57, hf⟩ := bnd hf
      refine q_cVv (As := [.int a1, .int x4_15, .int v38]) hx hb hts hml hown hK hP hS (c_X0_put l D w σ_15 (o + 8) a1 x4_15 v38 σ57 ho.f2 hJ h57) hw_X5_75 hd_X0_put ⟨rfl, rfl, rfl⟩ ho.f2.o (ce0 ho.f2.k) rfl ⟨Nat.le_of_ble_eq_true rfl, Nat.le_of_ble_eq_true rfl⟩ ⟨Nat.le_of_ble_eq_true rfl, Nat.le_of_ble_eq_true rfl⟩ hl.1 rfl (Nat.le_of_ble_eq_true rfl) dX5_paintPost_57 (fun H locs hP hS => ?_)
      refine lv_aload_n hx hb dX5_paintPost_60 rfl (lv_at hl 1 rfl) ?_
      refine gt_X5_30 hx hb hts hown hK hP ho.o ho.k dX5_paintPost_61 ?_
      refine lv_iload_n hx hb dX5_paintPost_64 rfl (lv_at hl 2 rfl) ?_
      refine lv_iload hx hb dX5_paintPost_65 (lv_at hl 5 rfl) ?_
      refine lv_iload hx hb dX5_paintPost_67 (lv_at hl 0 rfl) ?_
      refine lv_bipush (v := (-4 : Int32)) hx hb dX5_paintPost_69 (by decide) ?_
      refine lv_icmp_ne (tgt := 79) hx hb dX5_paintPost_71 (by decide) (fun hc => ?_) (fun hc => ?_)
      · have hf := ifp hc hf
        refine lv_aload_n hx hb dX5_paintPost_79 rfl (lv_at hl 1 rfl) ?_
        refine gt_X5_12 hx hb hts hown hK hP ho.o ho.k dX5_paintPost_80 ?_
        refine lv_iload_n hx hb dX5_paintPost_83 rfl (lv_at hl 3 rfl) ?_
        refine lv_iload hx hb dX5_paintPost_84 (lv_at hl 5 rfl) ?_
        obtain ⟨v86, h86, hf⟩ := bnd hf
        refine q_cVi (As := [.int v6, .int x4_15]) hx hb hts hml hown hK hP hS (c_X3_pathMiles l D w σ57 (o + 1) v6 x4_15 v86 ho.f0 h86) hw_X5_129 hd_X3_pathMiles ⟨rfl, rfl, rfl⟩ ho.f0.o (ce3 ho.f0.k) rfl ⟨Nat.le_of_ble_eq_true rfl, Nat.le_of_ble_eq_true rfl⟩ ⟨Nat.le_of_ble_eq_true rfl, Nat.le_of_ble_eq_true rfl⟩ hl.1 rfl (Nat.le_of_ble_eq_true rfl) dX5_paintPost_86 (fun H locs hP hS => ?_)
        obtain ⟨σ89, h89, hf⟩ := bnd hf
        refine q_cVv (As := [.int a1, .int x4_15, .int v86]) hx hb hts hml hown hK hP hS (c_X0_put l D w σ57 (o + 10) a1 x4_15 v86 σ89 ho.f3 hJ h89) hw_X5_75 hd_X0_put ⟨rfl, rfl, rfl⟩ ho.f3.o (ce0 ho.f3.k) rfl ⟨Nat.le_of_ble_eq_true rfl, Nat.le_of_ble_eq_true rfl⟩ ⟨Nat.le_of_ble_eq_true rfl, Nat.le_of_ble_eq_true rfl⟩ hl.1 rfl (Nat.le_of_ble_eq_true rfl) dX5_paintPost_89 (fun H locs hP hS => ?_)
        refine lv_iload hx hb dX5_paintPost_92 (lv_at hl 0 rfl) ?_
        refine lv_bipush (v := (-4 : Int32)) hx hb dX5_paintPost_94 (by decide) ?_
        refine lv_icmp_eq (tgt := 102) hx hb dX5_paintPost_96 (by decide) (fun hc => ?_) (fun hc => ?_)
        · have hf := ifp hc hf
          refine lv_iinc (v := (x4_15 + (1 : Int32))) (lv' := [(4, .int (x4_15 + (1 : Int32))), (5, .int v38), (0, .ref (w.1 (o))), (1, .int a1), (2, .int v6), (3, .int x3_15)]) hx hb dX5_paintPost_102 hl (k := 5) rfl ii_1 (by decide) rfl (fun ls hl => ?_)
          refine lv_goto (tgt := 15) hx hb dX5_paintPost_105 (by decide) ?_
          obtain rfl := Option.some.inj hf
          exact hG15 _ rfl _ _ _ hP hS (lv_sub hl [2, 3, 4, 5, 0] rfl)
        · have hf := ifn hc hf
          refine lv_iinc (v := (x3_15 + (1 : Int32))) (lv' := [(3, .int (x3_15 + (1 : Int32))), (5, .int v38), (0, .ref (w.1 (o))), (1, .int a1), (2, .int v6), (4, .int x4_15)]) hx hb dX5_paintPost_99 hl (k := 4) rfl ii_1 (by decide) rfl (fun ls hl => ?_)
          refine lv_iinc (v := (x4_15 + (1 : Int32))) (lv' := [(4, .int (x4_15 + (1 : Int32))), (3, .int (x3_15 + (1 : Int32))), (5, .int v38), (0, .ref (w.1 (o))), (1, .int a1), (2, .int v6)]) hx hb dX5_paintPost_102 hl (k := 5) rfl ii_1 (by decide) rfl (fun ls hl => ?_)
          refine lv_goto (tgt := 15) hx hb dX5_paintPost_105 (by decide) ?_
          obtain rfl := Option.some.inj hf
          exact hG15 _ rfl _ _ _ hP hS (lv_sub hl [3, 4, 5, 1, 0] rfl)
      · have hf := ifn (fun h => h hc) hf
        refine lv_bipush (v := (-4 : Int32)) hx hb dX5_paintPost_74 (by decide) ?_
        refine lv_goto (tgt := 89) hx hb dX5_paintPost_76 (by decide) ?_
        obtain ⟨σ89, h89, hf⟩ := bnd hf
        refine q_cVv (As := [.int a1, .int x4_15, .int (-4 : Int32)]) hx hb hts hml hown hK hP hS (c_X0_put l D w σ57 (o + 10) a1 x4_15 (-4 : Int32) σ89 ho.f3 hJ h89) hw_X5_75 hd_X0_put ⟨rfl, rfl, rfl⟩ ho.f3.o (ce0 ho.f3.k) rfl ⟨Nat.le_of_ble_eq_true rfl, Nat.le_of_ble_eq_true rfl⟩ ⟨Nat.le_of_ble_eq_true rfl, Nat.le_of_ble_eq_true rfl⟩ hl.1 rfl (Nat.le_of_ble_eq_true rfl) dX5_paintPost_89 (fun H locs hP hS => ?_)
        refine lv_iload hx hb dX5_paintPost_92 (lv_at hl 0 rfl) ?_
        refine lv_bipush (v := (-4 : Int32)) hx hb dX5_paintPost_94 (by decide) ?_
        refine lv_icmp_eq (tgt := 102) hx hb dX5_paintPost_96 (by decide) (fun hc => ?_) (fun hc => ?_)
        · have hf := ifp hc hf
          refine lv_iinc (v := (x4_15 + (1 : Int32))) (lv' := [(4, .int (x4_15 + (1 : Int32))), (5, .int v38), (0, .ref (w.1 (o))), (1, .int a1), (2, .int v6), (3, .int x3_15)]) hx hb dX5_paintPost_102 hl (k := 5) rfl ii_1 (by decide) rfl (fun ls hl => ?_)
          refine lv_goto (tgt := 15) hx hb dX5_paintPost_105 (by decide) ?_
          obtain rfl := Option.some.inj hf
          exact hG15 _ rfl _ _ _ hP hS (lv_sub hl [2, 3, 4, 5, 0] rfl)
        · have hf := ifn hc hf
          refine lv_iinc (v := (x3_15 + (1 : Int32))) (lv' := [(3, .int (x3_15 + (1 : Int32))), (5, .int v38), (0, .ref (w.1 (o))), (1, .int a1), (2, .int v6), (4, .int x4_15)]) hx hb dX5_paintPost_99 hl (k := 4) rfl ii_1 (by decide) rfl (fun ls hl => ?_)
          refine lv_iinc (v := (x4_15 + (1 : Int32))) (lv' := [(4, .int (x4_15 + (1 : Int32))), (3, .int (x3_15 + (1 : Int32))), (5, .int v38), (0, .ref (w.1 (o))), (1, .int a1), (2, .int v6)]) hx hb dX5_paintPost_102 hl (k := 5) rfl ii_1 (by decide) rfl (fun ls hl => ?_)
          refine lv_goto (tgt := 15) hx hb dX5_paintPost_105 (by decide) ?_
          obtain rfl := Option.some.inj hf
          exact hG15 _ rfl _ _ _ hP hS (lv_sub hl [3, 4, 5, 1, 0] rfl)
def f_X5_paintAll_b1 (o : Nat) (x1_9 : Int32) (σ_9 : Sg) : Option ((Int32 × Sg) ⊕ Sg) :=
  if (σ_9 (o) 5) ≤ x1_9 then
  some (.inr σ_9)
  else
  (f_X5_paintPost σ_9 (o) x1_9).bind fun q19 =>
  some (.inl ((x1_9 + (1 : Int32)), q19.2))
def f_X5_paintAll_k1 (σ_29 : Sg) : Option Sg :=
  some σ_29
def f_X5_paintAll (σ : Sg) (o : Nat) : Option Sg :=
  (f_X3_survey σ (o + 1)).bind fun σ4 =>
  (lp (fun st => f_X5_paintAll_b1 o st.1 st.2) FU ((0 : Int32), σ4)).bind fun rr => f_X5_paintAll_k1 rr
set_option maxHeartbeats 4000000 in
set_option maxRecDepth 100000 in
theorem c_X5_paintAll (l : Launch) (D : va_G) (w : Wv) (σ : Sg) (o : Nat) (σ' : Sg) (ho : isY o) (hJ : Inj w) (hf : f_X5_paintAll σ o = some σ') : Met l yX5_paintAll (.code yX5_paintAll cX5_paintAll 2 none :: TB) (rmW 3 75) (pcW D w [.ref (w.1 (o))] σ) (qvW D w σ') 0 0 (AL w) := by
  refine q_open (by decide +kernel) (Nat.le_of_ble_eq_true rfl) ?_
  intro p e s m args below meth c ls hx hb hml hr hlk hown hts hK hP hS hl
  have hown : s.vm.findClass RX5 = some m.cls := hown
  have hl : lv_has ls 2 [(0, .ref (w.1 (o)))] := hl
  unfold f_X5_paintAll at hf
  refine lv_aload_n hx hb dX5_paintAll_0 rfl (lv_at hl 0 rfl) ?_
  refine gt_X5_12 hx hb hts hown hK hP ho.o ho.k dX5_paintAll_1 ?_
  obtain ⟨σ4, h4, hf⟩ := bnd hf
  refine q_cVv (As := []) hx hb hts hml hown hK hP hS (c_X3_survey l D w σ (o + 1) σ4 ho.f0 hJ h4) hw_X5_78 hd_X3_survey ⟨rfl, rfl, rfl⟩ ho.f0.o (ce3 ho.f0.k) rfl ⟨Nat.le_of_ble_eq_true rfl, Nat.le_of_ble_eq_true rfl⟩ ⟨Nat.le_of_ble_eq_true rfl, Nat.le_of_ble_eq_true rfl⟩ hl.1 rfl (Nat.le_of_ble_eq_true rfl) dX5_paintAll_4 (fun H locs hP hS => ?_)
  refine lv_iconst (v := (0 : Int32)) hx hb dX5_paintAll_7 (by decide) ?_
  refine lv_istore_n (lv' := [(1, .int (0 : Int32)), (0, .ref (w.1 (o)))]) hx hb dX5_paintAll_8 rfl hl (by decide) rfl (fun ls hl => ?_)
  obtain ⟨rr, hlp, hf⟩ := bnd hf
  have hE9_29 : ∀ (σ_29 : Sg) (H : Heap) (locs : List Loc) (ls : Array Slot), f_X5_paintAll_k1 σ_29 = some σ' → va_P D vwCl (WL w σ_29) H → va_S (AL w) s.heap H locs → lv_has ls 2 [] → W p l e (rmW 3 75) s m args below meth c H locs 0 0 (MQ below (qvW D w σ') args s 0 0 (AL w)) (F0 m 29 ls []) := by
    intro σ_29 H locs ls hf hP hS hl
    unfold f_X5_paintAll_k1 at hf
    have hq := Option.some.inj hf
    exact q_vret hx hb hr hlk hP hS hq dX5_paintAll_29
  refine lp_ind (G := fun (st : (Int32 × Sg)) => ∀ (H : Heap) (locs : List Loc) (ls : Array Slot), va_P D vwCl (WL w st.2) H → va_S (AL w) s.heap H locs → lv_has ls 2 [(0, .ref (w.1 (o))), (1, .int st.1)] → W p l e (rmW 3 75) s m args below meth c H locs 0 0 (MQ below (qvW D w σ') args s 0 0 (AL w)) (F0 m 9 ls [])) (X := fun rr => f_X5_paintAll_k1 rr = some σ') ?_ _ _ rr hlp hf _ _ _ hP hS (lv_sub hl [1, 0] rfl)
  rintro ⟨x1_9, σ_9⟩ oo9 hb9 hG9 hX9 H locs ls hP hS hl
  have hP : va_P D vwCl (WL w σ_9) H := hP
  have hl : lv_has ls 2 [(0, .ref (w.1 (o))), (1, .int x1_9)] := hl
  have hf : f_X5_paintAll_b1 o x1_9 σ_9 = some oo9 := hb9
  unfold f_X5_paintAll_b1 at hf
  refine lv_iload_n hx hb dX5_paintAll_9 rfl (lv_at hl 1 rfl) ?_
  refine lv_aload_n hx hb dX5_paintAll_10 rfl (lv_at hl 0 rfl) ?_
  refine gt_X5_43 hx hb hts hown hK hP ho.o ho.k dX5_paintAll_11 ?_
  refine lv_icmp_ge (tgt := 29) hx hb dX5_paintAll_14 (by decide) (fun hc => ?_) (fun hc => ?_)
  · have hf := ifp hc hf
    obtain rfl := Option.some.inj hf
    exact hE9_29 σ_9 _ _ _ (hX9 _ rfl) hP hS (lv_sub hl [] rfl)
  · have hf := ifn hc hf
    refine lv_aload_n hx hb dX5_paintAll_17 rfl (lv_at hl 0 rfl) ?_
    refine lv_iload_n hx hb dX5_paintAll_18 rfl (lv_at hl 1 rfl) ?_
    obtain ⟨⟨v19, σ19⟩, h19, hf⟩ := bnd hf
    dsimp only at hf
    refine q_cVi (As := [.int x1_9]) hx hb hts hml hown hK hP hS (c_X5_paintPost l D w σ_9 (o) x1_9 v19 σ19 ho hJ h19) hw_X5_81 hd_X5_paintPost ⟨rfl, rfl, rfl⟩ ho.o (ce5 ho.k) rfl ⟨Nat.le_of_ble_eq_true rfl, Nat.le_of_ble_eq_true rfl⟩ ⟨Nat.le_of_ble_eq_true rfl, Nat.le_of_ble_eq_true rfl⟩ hl.1 rfl (Nat.le_of_ble_eq_true rfl) dX5_paintAll_19 (fun H locs hP hS => ?_)
    refine lv_pop hx hb dX5_paintAll_22 rfl ?_
    refine lv_iinc (v := (x1_9 + (1 : Int32))) (lv' := [(1, .int (x1_9 + (1 : Int32))), (0, .ref (w.1 (o)))]) hx hb dX5_paintAll_23 hl (k := 1) rfl ii_1 (by decide) rfl (fun ls hl => ?_)
    refine lv_goto (tgt := 9) hx hb dX5_paintAll_26 (by decide) ?_
    obtain rfl := Option.some.inj hf
    exact hG9 _ rfl _ _ _ hP hS (lv_sub hl [1, 0] rfl)
def f_X5_towns (σ : Sg) (o : Nat) : Option Int32 :=
  (f_X3_towns σ (o + 1)).bind fun v4 =>
  some v4
set_option maxHeartbeats 4000000 in
set_option maxRecDepth 100000 in
theorem c_X5_towns (l : Launch) (D : va_G) (w : Wv) (σ : Sg) (o : Nat) (r : Int32) (ho : isY o) (hf : f_X5_towns σ o = some r) : Met l yX5_towns (.code yX5_towns cX5_towns 1 (some .int) :: TB) (rmW 1 20) (pcW D w [.ref (w.1 (o))] σ) (qiW D w r σ) 0 0 (AL w) := by
  refine q_open (by decide +kernel) (Nat.le_of_ble_eq_true rfl) ?_
  intro p e s m args below meth c ls hx hb hml hr hlk hown hts hK hP hS hl
  have hown : s.vm.findClass RX5 = some m.cls := hown
  have hl : lv_has ls 1 [(0, .ref (w.1 (o)))] := hl
  unfold f_X5_towns at hf
  refine lv_aload_n hx hb dX5_towns_0 rfl (lv_at hl 0 rfl) ?_
  refine gt_X5_12 hx hb hts hown hK hP ho.o ho.k dX5_towns_1 ?_
  obtain ⟨v4, h4, hf⟩ := bnd hf
  refine q_cVi (As := []) hx hb hts hml hown hK hP hS (c_X3_towns l D w σ (o + 1) v4 ho.f0 h4) hw_X5_85 hd_X3_towns ⟨rfl, rfl, rfl⟩ ho.f0.o (ce3 ho.f0.k) rfl ⟨Nat.le_of_ble_eq_true rfl, Nat.le_of_ble_eq_true rfl⟩ ⟨Nat.le_of_ble_eq_true rfl, Nat.le_of_ble_eq_true rfl⟩ hl.1 rfl (Nat.le_of_ble_eq_true rfl) dX5_towns_4 (fun H locs hP hS => ?_)
  have hq := Option.some.inj hf
  exact q_iret hx hb hr hlk hP hS hq rfl dX5_towns_7
def f_X5_posts (σ : Sg) (o : Nat) : Option Int32 :=
  some (σ (o) 5)
set_option maxHeartbeats 4000000 in
set_option maxRecDepth 100000 in
theorem c_X5_posts (l : Launch) (D : va_G) (w : Wv) (σ : Sg) (o : Nat) (r : Int32) (ho : isY o) (hf : f_X5_posts σ o = some r) : Met l yX5_posts (.code yX5_posts cX5_posts 1 (some .int) :: TB) (rmW 0 0) (pcW D w [.ref (w.1 (o))] σ) (qiW D w r σ) 0 0 (AL w) := by
  refine q_open (by decide +kernel) (Nat.le_of_ble_eq_true rfl) ?_
  intro p e s m args below meth c ls hx hb hml hr hlk hown hts hK hP hS hl
  have hown : s.vm.findClass RX5 = some m.cls := hown
  have hl : lv_has ls 1 [(0, .ref (w.1 (o)))] := hl
  unfold f_X5_posts at hf
  refine lv_aload_n hx hb dX5_posts_0 rfl (lv_at hl 0 rfl) ?_
  refine gt_X5_43 hx hb hts hown hK hP ho.o ho.k dX5_posts_1 ?_
  have hq := Option.some.inj hf
  exact q_iret hx hb hr hlk hP hS hq rfl dX5_posts_4
def f_X5_walkers (σ : Sg) (o : Nat) : Option Int32 :=
  some (σ (o) 6)
set_option maxHeartbeats 4000000 in
set_option maxRecDepth 100000 in
theorem c_X5_walkers (l : Launch) (D : va_G) (w : Wv) (σ : Sg) (o : Nat) (r : Int32) (ho : isY o) (hf : f_X5_walkers σ o = some r) : Met l yX5_walkers (.code yX5_walkers cX5_walkers 1 (some .int) :: TB) (rmW 0 0) (pcW D w [.ref (w.1 (o))] σ) (qiW D w r σ) 0 0 (AL w) := by
  refine q_open (by decide +kernel) (Nat.le_of_ble_eq_true rfl) ?_
  intro p e s m args below meth c ls hx hb hml hr hlk hown hts hK hP hS hl
  have hown : s.vm.findClass RX5 = some m.cls := hown
  have hl : lv_has ls 1 [(0, .ref (w.1 (o)))] := hl
  unfold f_X5_walkers at hf
  refine lv_aload_n hx hb dX5_walkers_0 rfl (lv_at hl 0 rfl) ?_
  refine gt_X5_47 hx hb hts hown hK hP ho.o ho.k dX5_walkers_1 ?_
  have hq := Option.some.inj hf
  exact q_iret hx hb hr hlk hP hS hq rfl dX5_walkers_4
def f_X5_hour (σ : Sg) (o : Nat) : Option Int32 :=
  some (σ (o) 7)
set_option maxHeartbeats 4000000 in
set_option maxRecDepth 100000 in
theorem c_X5_hour (l : Launch) (D : va_G) (w : Wv) (σ : Sg) (o : Nat) (r : Int32) (ho : isY o) (hf : f_X5_hour σ o = some r) : Met l yX5_hour (.code yX5_hour cX5_hour 1 (some .int) :: TB) (rmW 0 0) (pcW D w [.ref (w.1 (o))] σ) (qiW D w r σ) 0 0 (AL w) := by
  refine q_open (by decide +kernel) (Nat.le_of_ble_eq_true rfl) ?_
  intro p e s m args below meth c ls hx hb hml hr hlk hown hts hK hP hS hl
  have hown : s.vm.findClass RX5 = some m.cls := hown
  have hl : lv_has ls 1 [(0, .ref (w.1 (o)))] := hl
  unfold f_X5_hour at hf
  refine lv_aload_n hx hb dX5_hour_0 rfl (lv_at hl 0 rfl) ?_
  refine gt_X5_50 hx hb hts hown hK hP ho.o ho.k dX5_hour_1 ?_
  have hq := Option.some.inj hf
  exact q_iret hx hb hr hlk hP hS hq rfl dX5_hour_4
def f_X5_years (σ : Sg) (o : Nat) : Option Int32 :=
  some (σ (o) 8)
set_option maxHeartbeats 4000000 in
set_option maxRecDepth 100000 in
theorem c_X5_years (l : Launch) (D : va_G) (w : Wv) (σ : Sg) (o : Nat) (r : Int32) (ho : isY o) (hf : f_X5_years σ o = some r) : Met l yX5_years (.code yX5_years cX5_years 1 (some .int) :: TB) (rmW 0 0) (pcW D w [.ref (w.1 (o))] σ) (qiW D w r σ) 0 0 (AL w) := by
  refine q_open (by decide +kernel) (Nat.le_of_ble_eq_true rfl) ?_
  intro p e s m args below meth c ls hx hb hml hr hlk hown hts hK hP hS hl
  have hown : s.vm.findClass RX5 = some m.cls := hown
  have hl : lv_has ls 1 [(0, .ref (w.1 (o)))] := hl
  unfold f_X5_years at hf
  refine lv_aload_n hx hb dX5_years_0 rfl (lv_at hl 0 rfl) ?_
  refine gt_X5_53 hx hb hts hown hK hP ho.o ho.k dX5_years_1 ?_
  have hq := Option.some.inj hf
  exact q_iret hx hb hr hlk hP hS hq rfl dX5_years_4
def f_X5_isPost (σ : Sg) (o : Nat) (a1 : Int32) : Option Int32 :=
  if a1 < 0 then
  some (0 : Int32)
  else
  if (σ (o) 5) ≤ a1 then
  some (0 : Int32)
  else
  some (1 : Int32)
set_option maxHeartbeats 4000000 in
set_option maxRecDepth 100000 in
theorem c_X5_isPost (l : Launch) (D : va_G) (w : Wv) (σ : Sg) (o : Nat) (a1 : Int32) (r : Int32) (ho : isY o) (hf : f_X5_isPost σ o a1 = some r) : Met l yX5_isPost (.code yX5_isPost cX5_isPost 2 (some .boolean) :: TB) (rmW 0 0) (pcW D w [.ref (w.1 (o)), .int a1] σ) (qzW D w r σ) 0 0 (AL w) := by
  refine q_open (by decide +kernel) (Nat.le_of_ble_eq_true rfl) ?_
  intro p e s m args below meth c ls hx hb hml hr hlk hown hts hK hP hS hl
  have hown : s.vm.findClass RX5 = some m.cls := hown
  have hl : lv_has ls 2 [(0, .ref (w.1 (o))), (1, .int a1)] := hl
  unfold f_X5_isPost at hf
  refine lv_iload_n hx hb dX5_isPost_0 rfl (lv_at hl 1 rfl) ?_
  refine lv_if_lt (tgt := 16) hx hb dX5_isPost_1 (by decide) (fun hc => ?_) (fun hc => ?_)
  · have hf := ifp hc hf
    refine lv_iconst (v := (0 : Int32)) hx hb dX5_isPost_16 (by decide) ?_
    have hq := Option.some.inj hf
    exact q_zret hx hb hr hlk hP hS rfl hq rfl dX5_isPost_17
  · have hf := ifn hc hf
    refine lv_iload_n hx hb dX5_isPost_4 rfl (lv_at hl 1 rfl) ?_
    refine lv_aload_n hx hb dX5_isPost_5 rfl (lv_at hl 0 rfl) ?_
    refine gt_X5_43 hx hb hts hown hK hP ho.o ho.k dX5_isPost_6 ?_
    refine lv_icmp_ge (tgt := 16) hx hb dX5_isPost_9 (by decide) (fun hc => ?_) (fun hc => ?_)
    · have hf := ifp hc hf
      refine lv_iconst (v := (0 : Int32)) hx hb dX5_isPost_16 (by decide) ?_
      have hq := Option.some.inj hf
      exact q_zret hx hb hr hlk hP hS rfl hq rfl dX5_isPost_17
    · have hf := ifn hc hf
      refine lv_iconst (v := (1 : Int32)) hx hb dX5_isPost_12 (by decide) ?_
      refine lv_goto (tgt := 17) hx hb dX5_isPost_13 (by decide) ?_
      have hq := Option.some.inj hf
      exact q_zret hx hb hr hlk hP hS rfl hq rfl dX5_isPost_17
def f_X5_isWalker (σ : Sg) (o : Nat) (a1 : Int32) : Option Int32 :=
  if a1 < 0 then
  some (0 : Int32)
  else
  if (σ (o) 6) ≤ a1 then
  some (0 : Int32)
  else
  some (1 : Int32)
set_option maxHeartbeats 4000000 in
set_option maxRecDepth 100000 in
theorem c_X5_isWalker (l : Launch) (D : va_G) (w : Wv) (σ : Sg) (o : Nat) (a1 : Int32) (r : Int32) (ho : isY o) (hf : f_X5_isWalker σ o a1 = some r) : Met l yX5_isWalker (.code yX5_isWalker cX5_isWalker 2 (some .boolean) :: TB) (rmW 0 0) (pcW D w [.ref (w.1 (o)), .int a1] σ) (qzW D w r σ) 0 0 (AL w) := by
  refine q_open (by decide +kernel) (Nat.le_of_ble_eq_true rfl) ?_
  intro p e s m args below meth c ls hx hb hml hr hlk hown hts hK hP hS hl
  have hown : s.vm.findClass RX5 = some m.cls := hown
  have hl : lv_has ls 2 [(0, .ref (w.1 (o))), (1, .int a1)] := hl
  unfold f_X5_isWalker at hf
  refine lv_iload_n hx hb dX5_isWalker_0 rfl (lv_at hl 1 rfl) ?_
  refine lv_if_lt (tgt := 16) hx hb dX5_isWalker_1 (by decide) (fun hc => ?_) (fun hc => ?_)
  · have hf := ifp hc hf
    refine lv_iconst (v := (0 : Int32)) hx hb dX5_isWalker_16 (by decide) ?_
    have hq := Option.some.inj hf
    exact q_zret hx hb hr hlk hP hS rfl hq rfl dX5_isWalker_17
  · have hf := ifn hc hf
    refine lv_iload_n hx hb dX5_isWalker_4 rfl (lv_at hl 1 rfl) ?_
    refine lv_aload_n hx hb dX5_isWalker_5 rfl (lv_at hl 0 rfl) ?_
    refine gt_X5_47 hx hb hts hown hK hP ho.o ho.k dX5_isWalker_6 ?_
    refine lv_icmp_ge (tgt := 16) hx hb dX5_isWalker_9 (by decide) (fun hc => ?_) (fun hc => ?_)
    · have hf := ifp hc hf
      refine lv_iconst (v := (0 : Int32)) hx hb dX5_isWalker_16 (by decide) ?_
      have hq := Option.some.inj hf
      exact q_zret hx hb hr hlk hP hS rfl hq rfl dX5_isWalker_17
    · have hf := ifn hc hf
      refine lv_iconst (v := (1 : Int32)) hx hb dX5_isWalker_12 (by decide) ?_
      refine lv_goto (tgt := 17) hx hb dX5_isWalker_13 (by decide) ?_
      have hq := Option.some.inj hf
      exact q_zret hx hb hr hlk hP hS rfl hq rfl dX5_isWalker_17
def f_X5_kindOf (σ : Sg) (o : Nat) (a1 : Int32) : Option Int32 :=
  (f_X0_at σ (o + 6) a1 (0 : Int32)).bind fun v6 =>
  some v6
set_option maxHeartbeats 4000000 in
set_option maxRecDepth 100000 in
theorem c_X5_kindOf (l : Launch) (D : va_G) (w : Wv) (σ : Sg) (o : Nat) (a1 : Int32) (r : Int32) (ho : isY o) (hf : f_X5_kindOf σ o a1 = some r) : Met l yX5_kindOf (.code yX5_kindOf cX5_kindOf 2 (some .int) :: TB) (rmW 1 24) (pcW D w [.ref (w.1 (o)), .int a1] σ) (qiW D w r σ) 0 0 (AL w) := by
  refine q_open (by decide +kernel) (Nat.le_of_ble_eq_true rfl) ?_
  intro p e s m args below meth c ls hx hb hml hr hlk hown hts hK hP hS hl
  have hown : s.vm.findClass RX5 = some m.cls := hown
  have hl : lv_has ls 2 [(0, .ref (w.1 (o))), (1, .int a1)] := hl
  unfold f_X5_kindOf at hf
  refine lv_aload_n hx hb dX5_kindOf_0 rfl (lv_at hl 0 rfl) ?_
  refine gt_X5_23 hx hb hts hown hK hP ho.o ho.k dX5_kindOf_1 ?_
  refine lv_iload_n hx hb dX5_kindOf_4 rfl (lv_at hl 1 rfl) ?_
  refine lv_iconst (v := (0 : Int32)) hx hb dX5_kindOf_5 (by decide) ?_
  obtain ⟨v6, h6, hf⟩ := bnd hf
  refine q_cVi (As := [.int a1, .int (0 : Int32)]) hx hb hts hml hown hK hP hS (c_X0_at l D w σ (o + 6) a1 (0 : Int32) v6 ho.f1 h6) hw_X5_89 hd_X0_at ⟨rfl, rfl, rfl⟩ ho.f1.o (ce0 ho.f1.k) rfl ⟨Nat.le_of_ble_eq_true rfl, Nat.le_of_ble_eq_true rfl⟩ ⟨Nat.le_of_ble_eq_true rfl, Nat.le_of_ble_eq_true rfl⟩ hl.1 rfl (Nat.le_of_ble_eq_true rfl) dX5_kindOf_6 (fun H locs hP hS => ?_)
  have hq := Option.some.inj hf
  exact q_iret hx hb hr hlk hP hS hq rfl dX5_kindOf_9
def f_X5_townOf (σ : Sg) (o : Nat) (a1 : Int32) : Option Int32 :=
  (f_X0_at σ (o + 6) a1 (1 : Int32)).bind fun v6 =>
  some v6
set_option maxHeartbeats 4000000 in
set_option maxRecDepth 100000 in
theorem c_X5_townOf (l : Launch) (D : va_G) (w : Wv) (σ : Sg) (o : Nat) (a1 : Int32) (r : Int32) (ho : isY o) (hf : f_X5_townOf σ o a1 = some r) : Met l yX5_townOf (.code yX5_townOf cX5_townOf 2 (some .int) :: TB) (rmW 1 24) (pcW D w [.ref (w.1 (o)), .int a1] σ) (qiW D w r σ) 0 0 (AL w) := by
  refine q_open (by decide +kernel) (Nat.le_of_ble_eq_true rfl) ?_
  intro p e s m args below meth c ls hx hb hml hr hlk hown hts hK hP hS hl
  have hown : s.vm.findClass RX5 = some m.cls := hown
  have hl : lv_has ls 2 [(0, .ref (w.1 (o))), (1, .int a1)] := hl
  unfold f_X5_townOf at hf
  refine lv_aload_n hx hb dX5_townOf_0 rfl (lv_at hl 0 rfl) ?_
  refine gt_X5_23 hx hb hts hown hK hP ho.o ho.k dX5_townOf_1 ?_
  refine lv_iload_n hx hb dX5_townOf_4 rfl (lv_at hl 1 rfl) ?_
  refine lv_iconst (v := (1 : Int32)) hx hb dX5_townOf_5 (by decide) ?_
  obtain ⟨v6, h6, hf⟩ := bnd hf
  refine q_cVi (As := [.int a1, .int (1 : Int32)]) hx hb hts hml hown hK hP hS (c_X0_at l D w σ (o + 6) a1 (1 : Int32) v6 ho.f1 h6) hw_X5_89 hd_X0_at ⟨rfl, rfl, rfl⟩ ho.f1.o (ce0 ho.f1.k) rfl ⟨Nat.le_of_ble_eq_true rfl, Nat.le_of_ble_eq_true rfl⟩ ⟨Nat.le_of_ble_eq_true rfl, Nat.le_of_ble_eq_true rfl⟩ hl.1 rfl (Nat.le_of_ble_eq_true rfl) dX5_townOf_6 (fun H locs hP hS => ?_)
  have hq := Option.some.inj hf
  exact q_iret hx hb hr hlk hP hS hq rfl dX5_townOf_9
def f_X5_ageOf (σ : Sg) (o : Nat) (a1 : Int32) : Option Int32 :=
  (f_X0_at σ (o + 6) a1 (2 : Int32)).bind fun v6 =>
  some v6
set_option maxHeartbeats 4000000 in
set_option maxRecDepth 100000 in
theorem c_X5_ageOf (l : Launch) (D : va_G) (w : Wv) (σ : Sg) (o : Nat) (a1 : Int32) (r : Int32) (ho : isY o) (hf : f_X5_ageOf σ o a1 = some r) : Met l yX5_ageOf (.code yX5_ageOf cX5_ageOf 2 (some .int) :: TB) (rmW 1 24) (pcW D w [.ref (w.1 (o)), .int a1] σ) (qiW D w r σ) 0 0 (AL w) := by
  refine q_open (by decide +kernel) (Nat.le_of_ble_eq_true rfl) ?_
  intro p e s m args below meth c ls hx hb hml hr hlk hown hts hK hP hS hl
  have hown : s.vm.findClass RX5 = some m.cls := hown
  have hl : lv_has ls 2 [(0, .ref (w.1 (o))), (1, .int a1)] := hl
  unfold f_X5_ageOf at hf
  refine lv_aload_n hx hb dX5_ageOf_0 rfl (lv_at hl 0 rfl) ?_
  refine gt_X5_23 hx hb hts hown hK hP ho.o ho.k dX5_ageOf_1 ?_
  refine lv_iload_n hx hb dX5_ageOf_4 rfl (lv_at hl 1 rfl) ?_
  refine lv_iconst (v := (2 : Int32)) hx hb dX5_ageOf_5 (by decide) ?_
  obtain ⟨v6, h6, hf⟩ := bnd hf
  refine q_cVi (As := [.int a1, .int (2 : Int32)]) hx hb hts hml hown hK hP hS (c_X0_at l D w σ (o + 6) a1 (2 : Int32) v6 ho.f1 h6) hw_X5_89 hd_X0_at ⟨rfl, rfl, rfl⟩ ho.f1.o (ce0 ho.f1.k) rfl ⟨Nat.le_of_ble_eq_true rfl, Nat.le_of_ble_eq_true rfl⟩ ⟨Nat.le_of_ble_eq_true rfl, Nat.le_of_ble_eq_true rfl⟩ hl.1 rfl (Nat.le_of_ble_eq_true rfl) dX5_ageOf_6 (fun H locs hP hS => ?_)
  have hq := Option.some.inj hf
  exact q_iret hx hb hr hlk hP hS hq rfl dX5_ageOf_9
def f_X5_armOf (σ : Sg) (o : Nat) (a1 : Int32) (a2 : Int32) : Option Int32 :=
  (f_X0_at σ (o + 8) a1 a2).bind fun v6 =>
  some v6
set_option maxHeartbeats 4000000 in
set_option maxRecDepth 100000 in
theorem c_X5_armOf (l : Launch) (D : va_G) (w : Wv) (σ : Sg) (o : Nat) (a1 : Int32) (a2 : Int32) (r : Int32) (ho : isY o) (hf : f_X5_armOf σ o a1 a2 = some r) : Met l yX5_armOf (.code yX5_armOf cX5_armOf 3 (some .int) :: TB) (rmW 1 24) (pcW D w [.ref (w.1 (o)), .int a1, .int a2] σ) (qiW D w r σ) 0 0 (AL w) := by
  refine q_open (by decide +kernel) (Nat.le_of_ble_eq_true rfl) ?_
  intro p e s m args below meth c ls hx hb hml hr hlk hown hts hK hP hS hl
  have hown : s.vm.findClass RX5 = some m.cls := hown
  have hl : lv_has ls 3 [(0, .ref (w.1 (o))), (1, .int a1), (2, .int a2)] := hl
  unfold f_X5_armOf at hf
  refine lv_aload_n hx hb dX5_armOf_0 rfl (lv_at hl 0 rfl) ?_
  refine gt_X5_27 hx hb hts hown hK hP ho.o ho.k dX5_armOf_1 ?_
  refine lv_iload_n hx hb dX5_armOf_4 rfl (lv_at hl 1 rfl) ?_
  refine lv_iload_n hx hb dX5_armOf_5 rfl (lv_at hl 2 rfl) ?_
  obtain ⟨v6, h6, hf⟩ := bnd hf
  refine q_cVi (As := [.int a1, .int a2]) hx hb hts hml hown hK hP hS (c_X0_at l D w σ (o + 8) a1 a2 v6 ho.f2 h6) hw_X5_89 hd_X0_at ⟨rfl, rfl, rfl⟩ ho.f2.o (ce0 ho.f2.k) rfl ⟨Nat.le_of_ble_eq_true rfl, Nat.le_of_ble_eq_true rfl⟩ ⟨Nat.le_of_ble_eq_true rfl, Nat.le_of_ble_eq_true rfl⟩ hl.1 rfl (Nat.le_of_ble_eq_true rfl) dX5_armOf_6 (fun H locs hP hS => ?_)
  have hq := Option.some.inj hf
  exact q_iret hx hb hr hlk hP hS hq rfl dX5_armOf_9
def f_X5_milesOf (σ : Sg) (o : Nat) (a1 : Int32) (a2 : Int32) : Option Int32 :=
  (f_X0_at σ (o + 10) a1 a2).bind fun v6 =>
  some v6
set_option maxHeartbeats 4000000 in
set_option maxRecDepth 100000 in
theorem c_X5_milesOf (l : Launch) (D : va_G) (w : Wv) (σ : Sg) (o : Nat) (a1 : Int32) (a2 : Int32) (r : Int32) (ho : isY o) (hf : f_X5_milesOf σ o a1 a2 = some r) : Met l yX5_milesOf (.code yX5_milesOf cX5_milesOf 3 (some .int) :: TB) (rmW 1 24) (pcW D w [.ref (w.1 (o)), .int a1, .int a2] σ) (qiW D w r σ) 0 0 (AL w) := by
  refine q_open (by decide +kernel) (Nat.le_of_ble_eq_true rfl) ?_
  intro p e s m args below meth c ls hx hb hml hr hlk hown hts hK hP hS hl
  have hown : s.vm.findClass RX5 = some m.cls := hown
  have hl : lv_has ls 3 [(0, .ref (w.1 (o))), (1, .int a1), (2, .int a2)] := hl
  unfold f_X5_milesOf at hf
  refine lv_aload_n hx hb dX5_milesOf_0 rfl (lv_at hl 0 rfl) ?_
  refine gt_X5_30 hx hb hts hown hK hP ho.o ho.k dX5_milesOf_1 ?_
  refine lv_iload_n hx hb dX5_milesOf_4 rfl (lv_at hl 1 rfl) ?_
  refine lv_iload_n hx hb dX5_milesOf_5 rfl (lv_at hl 2 rfl) ?_
  obtain ⟨v6, h6, hf⟩ := bnd hf
  refine q_cVi (As := [.int a1, .int a2]) hx hb hts hml hown hK hP hS (c_X0_at l D w σ (o + 10) a1 a2 v6 ho.f3 h6) hw_X5_89 hd_X0_at ⟨rfl, rfl, rfl⟩ ho.f3.o (ce0 ho.f3.k) rfl ⟨Nat.le_of_ble_eq_true rfl, Nat.le_of_ble_eq_true rfl⟩ ⟨Nat.le_of_ble_eq_true rfl, Nat.le_of_ble_eq_true rfl⟩ hl.1 rfl (Nat.le_of_ble_eq_true rfl) dX5_milesOf_6 (fun H locs hP hS => ?_)
  have hq := Option.some.inj hf
  exact q_iret hx hb hr hlk hP hS hq rfl dX5_milesOf_9
def f_X5_placeOf (σ : Sg) (o : Nat) (a1 : Int32) : Option Int32 :=
  (f_X0_at σ (o + 12) a1 (0 : Int32)).bind fun v6 =>
  some v6
set_option maxHeartbeats 4000000 in
set_option maxRecDepth 100000 in
theorem c_X5_placeOf (l : Launch) (D : va_G) (w : Wv) (σ : Sg) (o : Nat) (a1 : Int32) (r : Int32) (ho : isY o) (hf : f_X5_placeOf σ o a1 = some r) : Met l yX5_placeOf (.code yX5_placeOf cX5_placeOf 2 (some .int) :: TB) (rmW 1 24) (pcW D w [.ref (w.1 (o)), .int a1] σ) (qiW D w r σ) 0 0 (AL w) := by
  refine q_open (by decide +kernel) (Nat.le_of_ble_eq_true rfl) ?_
  intro p e s m args below meth c ls hx hb hml hr hlk hown hts hK hP hS hl
  have hown : s.vm.findClass RX5 = some m.cls := hown
  have hl : lv_has ls 2 [(0, .ref (w.1 (o))), (1, .int a1)] := hl
  unfold f_X5_placeOf at hf
  refine lv_aload_n hx hb dX5_placeOf_0 rfl (lv_at hl 0 rfl) ?_
  refine gt_X5_33 hx hb hts hown hK hP ho.o ho.k dX5_placeOf_1 ?_
  refine lv_iload_n hx hb dX5_placeOf_4 rfl (lv_at hl 1 rfl) ?_
  refine lv_iconst (v := (0 : Int32)) hx hb dX5_placeOf_5 (by decide) ?_
  obtain ⟨v6, h6, hf⟩ := bnd hf
  refine q_cVi (As := [.int a1, .int (0 : Int32)]) hx hb hts hml hown hK hP hS (c_X0_at l D w σ (o + 12) a1 (0 : Int32) v6 ho.f4 h6) hw_X5_89 hd_X0_at ⟨rfl, rfl, rfl⟩ ho.f4.o (ce0 ho.f4.k) rfl ⟨Nat.le_of_ble_eq_true rfl, Nat.le_of_ble_eq_true rfl⟩ ⟨Nat.le_of_ble_eq_true rfl, Nat.le_of_ble_eq_true rfl⟩ hl.1 rfl (Nat.le_of_ble_eq_true rfl) dX5_placeOf_6 (fun H locs hP hS => ?_)
  have hq := Option.some.inj hf
  exact q_iret hx hb hr hlk hP hS hq rfl dX5_placeOf_9
def f_X5_goalOf (σ : Sg) (o : Nat) (a1 : Int32) : Option Int32 :=
  (f_X0_at σ (o + 12) a1 (1 : Int32)).bind fun v6 =>
  some v6
set_option maxHeartbeats 4000000 in
set_option maxRecDepth 100000 in
theorem c_X5_goalOf (l : Launch) (D : va_G) (w : Wv) (σ : Sg) (o : Nat) (a1 : Int32) (r : Int32) (ho : isY o) (hf : f_X5_goalOf σ o a1 = some r) : Met l yX5_goalOf (.code yX5_goalOf cX5_goalOf 2 (some .int) :: TB) (rmW 1 24) (pcW D w [.ref (w.1 (o)), .int a1] σ) (qiW D w r σ) 0 0 (AL w) := by
  refine q_open (by decide +kernel) (Nat.le_of_ble_eq_true rfl) ?_
  intro p e s m args below meth c ls hx hb hml hr hlk hown hts hK hP hS hl
  have hown : s.vm.findClass RX5 = some m.cls := hown
  have hl : lv_has ls 2 [(0, .ref (w.1 (o))), (1, .int a1)] := hl
  unfold f_X5_goalOf at hf
  refine lv_aload_n hx hb dX5_goalOf_0 rfl (lv_at hl 0 rfl) ?_
  refine gt_X5_33 hx hb hts hown hK hP ho.o ho.k dX5_goalOf_1 ?_
  refine lv_iload_n hx hb dX5_goalOf_4 rfl (lv_at hl 1 rfl) ?_
  refine lv_iconst (v := (1 : Int32)) hx hb dX5_goalOf_5 (by decide) ?_
  obtain ⟨v6, h6, hf⟩ := bnd hf
  refine q_cVi (As := [.int a1, .int (1 : Int32)]) hx hb hts hml hown hK hP hS (c_X0_at l D w σ (o + 12) a1 (1 : Int32) v6 ho.f4 h6) hw_X5_89 hd_X0_at ⟨rfl, rfl, rfl⟩ ho.f4.o (ce0 ho.f4.k) rfl ⟨Nat.le_of_ble_eq_true rfl, Nat.le_of_ble_eq_true rfl⟩ ⟨Nat.le_of_ble_eq_true rfl, Nat.le_of_ble_eq_true rfl⟩ hl.1 rfl (Nat.le_of_ble_eq_true rfl) dX5_goalOf_6 (fun H locs hP hS => ?_)
  have hq := Option.some.inj hf
  exact q_iret hx hb hr hlk hP hS hq rfl dX5_goalOf_9
def f_X5_hasCome (σ : Sg) (o : Nat) (a1 : Int32) : Option Int32 :=
  (f_X0_at σ (o + 12) a1 (0 : Int32)).bind fun v6 =>
  (f_X0_at σ (o + 12) a1 (1 : Int32)).bind fun v15 =>
  if ¬ v6 = v15 then
  some (0 : Int32)
  else
  some (1 : Int32)
set_option maxHeartbeats 4000000 in
set_option maxRecDepth 100000 in
theorem c_X5_hasCome (l : Launch) (D : va_G) (w : Wv) (σ : Sg) (o : Nat) (a1 : Int32) (r : Int32) (ho : isY o) (hf : f_X5_hasCome σ o a1 = some r) : Met l yX5_hasCome (.code yX5_hasCome cX5_hasCome 2 (some .boolean) :: TB) (rmW 1 24) (pcW D w [.ref (w.1 (o)), .int a1] σ) (qzW D w r σ) 0 0 (AL w) := by
  refine q_open (by decide +kernel) (Nat.le_of_ble_eq_true rfl) ?_
  intro p e s m args below meth c ls hx hb hml hr hlk hown hts hK hP hS hl
  have hown : s.vm.findClass RX5 = some m.cls := hown
  have hl : lv_has ls 2 [(0, .ref (w.1 (o))), (1, .int a1)] := hl
  unfold f_X5_hasCome at hf
  refine lv_aload_n hx hb dX5_hasCome_0 rfl (lv_at hl 0 rfl) ?_
  refine gt_X5_33 hx hb hts hown hK hP ho.o ho.k dX5_hasCome_1 ?_
  refine lv_iload_n hx hb dX5_hasCome_4 rfl (lv_at hl 1 rfl) ?_
  refine lv_iconst (v := (0 : Int32)) hx hb dX5_hasCome_5 (by decide) ?_
  obtain ⟨v6, h6, hf⟩ := bnd hf
  refine q_cVi (As := [.int a1, .int (0 : Int32)]) hx hb hts hml hown hK hP hS (c_X0_at l D w σ (o + 12) a1 (0 : Int32) v6 ho.f4 h6) hw_X5_89 hd_X0_at ⟨rfl, rfl, rfl⟩ ho.f4.o (ce0 ho.f4.k) rfl ⟨Nat.le_of_ble_eq_true rfl, Nat.le_of_ble_eq_true rfl⟩ ⟨Nat.le_of_ble_eq_true rfl, Nat.le_of_ble_eq_true rfl⟩ hl.1 rfl (Nat.le_of_ble_eq_true rfl) dX5_hasCome_6 (fun H locs hP hS => ?_)
  refine lv_aload_n hx hb dX5_hasCome_9 rfl (lv_at hl 0 rfl) ?_
  refine gt_X5_33 hx hb hts hown hK hP ho.o ho.k dX5_hasCome_10 ?_
  refine lv_iload_n hx hb dX5_hasCome_13 rfl (lv_at hl 1 rfl) ?_
  refine lv_iconst (v := (1 : Int32)) hx hb dX5_hasCome_14 (by decide) ?_
  obtain ⟨v15, h15, hf⟩ := bnd hf
  refine q_cVi (As := [.int a1, .int (1 : Int32)]) hx hb hts hml hown hK hP hS (c_X0_at l D w σ (o + 12) a1 (1 : Int32) v15 ho.f4 h15) hw_X5_89 hd_X0_at ⟨rfl, rfl, rfl⟩ ho.f4.o (ce0 ho.f4.k) rfl ⟨Nat.le_of_ble_eq_true rfl, Nat.le_of_ble_eq_true rfl⟩ ⟨Nat.le_of_ble_eq_true rfl, Nat.le_of_ble_eq_true rfl⟩ hl.1 rfl (Nat.le_of_ble_eq_true rfl) dX5_hasCome_15 (fun H locs hP hS => ?_)
  refine lv_icmp_ne (tgt := 25) hx hb dX5_hasCome_18 (by decide) (fun hc => ?_) (fun hc => ?_)
  · have hf := ifp hc hf
    refine lv_iconst (v := (0 : Int32)) hx hb dX5_hasCome_25 (by decide) ?_
    have hq := Option.some.inj hf
    exact q_zret hx hb hr hlk hP hS rfl hq rfl dX5_hasCome_26
  · have hf := ifn (fun h => h hc) hf
    refine lv_iconst (v := (1 : Int32)) hx hb dX5_hasCome_21 (by decide) ?_
    refine lv_goto (tgt := 26) hx hb dX5_hasCome_22 (by decide) ?_
    have hq := Option.some.inj hf
    exact q_zret hx hb hr hlk hP hS rfl hq rfl dX5_hasCome_26
def f_X5_isRetired (σ : Sg) (o : Nat) (a1 : Int32) : Option Int32 :=
  (f_X0_at σ (o + 6) a1 (1 : Int32)).bind fun v6 =>
  if ¬ v6 = (-4 : Int32) then
  some (0 : Int32)
  else
  some (1 : Int32)
set_option maxHeartbeats 4000000 in
set_option maxRecDepth 100000 in
theorem c_X5_isRetired (l : Launch) (D : va_G) (w : Wv) (σ : Sg) (o : Nat) (a1 : Int32) (r : Int32) (ho : isY o) (hf : f_X5_isRetired σ o a1 = some r) : Met l yX5_isRetired (.code yX5_isRetired cX5_isRetired 2 (some .boolean) :: TB) (rmW 1 24) (pcW D w [.ref (w.1 (o)), .int a1] σ) (qzW D w r σ) 0 0 (AL w) := by
  refine q_open (by decide +kernel) (Nat.le_of_ble_eq_true rfl) ?_
  intro p e s m args below meth c ls hx hb hml hr hlk hown hts hK hP hS hl
  have hown : s.vm.findClass RX5 = some m.cls := hown
  have hl : lv_has ls 2 [(0, .ref (w.1 (o))), (1, .int a1)] := hl
  unfold f_X5_isRetired at hf
  refine lv_aload_n hx hb dX5_isRetired_0 rfl (lv_at hl 0 rfl) ?_
  refine gt_X5_23 hx hb hts hown hK hP ho.o ho.k dX5_isRetired_1 ?_
  refine lv_iload_n hx hb dX5_isRetired_4 rfl (lv_at hl 1 rfl) ?_
  refine lv_iconst (v := (1 : Int32)) hx hb dX5_isRetired_5 (by decide) ?_
  obtain ⟨v6, h6, hf⟩ := bnd hf
  refine q_cVi (As := [.int a1, .int (1 : Int32)]) hx hb hts hml hown hK hP hS (c_X0_at l D w σ (o + 6) a1 (1 : Int32) v6 ho.f1 h6) hw_X5_89 hd_X0_at ⟨rfl, rfl, rfl⟩ ho.f1.o (ce0 ho.f1.k) rfl ⟨Nat.le_of_ble_eq_true rfl, Nat.le_of_ble_eq_true rfl⟩ ⟨Nat.le_of_ble_eq_true rfl, Nat.le_of_ble_eq_true rfl⟩ hl.1 rfl (Nat.le_of_ble_eq_true rfl) dX5_isRetired_6 (fun H locs hP hS => ?_)
  refine lv_bipush (v := (-4 : Int32)) hx hb dX5_isRetired_9 (by decide) ?_
  refine lv_icmp_ne (tgt := 18) hx hb dX5_isRetired_11 (by decide) (fun hc => ?_) (fun hc => ?_)
  · have hf := ifp hc hf
    refine lv_iconst (v := (0 : Int32)) hx hb dX5_isRetired_18 (by decide) ?_
    have hq := Option.some.inj hf
    exact q_zret hx hb hr hlk hP hS rfl hq rfl dX5_isRetired_19
  · have hf := ifn (fun h => h hc) hf
    refine lv_iconst (v := (1 : Int32)) hx hb dX5_isRetired_14 (by decide) ?_
    refine lv_goto (tgt := 19) hx hb dX5_isRetired_15 (by decide) ?_
    have hq := Option.some.inj hf
    exact q_zret hx hb hr hlk hP hS rfl hq rfl dX5_isRetired_19
def f_X5_noneRetired_b1 (σ : Sg) (o : Nat) (a1 : Int32) (x2_2 : Int32) : Option (Int32 ⊕ (Unit ⊕ Unit)) :=
  if (σ (o) 5) ≤ x2_2 then
  some (.inr (.inr ()))
  else
  (f_X6_hasBit σ a1 x2_2).bind fun v12 =>
  if v12 = 0 then
  some (.inl (x2_2 + (1 : Int32)))
  else
  (f_X5_isRetired σ (o) x2_2).bind fun v20 =>
  if v20 = 0 then
  some (.inl (x2_2 + (1 : Int32)))
  else
  some (.inr (.inl ()))
def f_X5_noneRetired_k1 (_u : Unit) : Option Int32 :=
  some (0 : Int32)
def f_X5_noneRetired_k2 (_u : Unit) : Option Int32 :=
  some (1 : Int32)
def f_X5_noneRetired (σ : Sg) (o : Nat) (a1 : Int32) : Option Int32 :=
  (lp (fun st => f_X5_noneRetired_b1 σ o a1 st) FU (0 : Int32)).bind fun rr => Sum.elim (fun q => f_X5_noneRetired_k1 ()) (fun q => f_X5_noneRetired_k2 ()) rr
set_option maxHeartbeats 4000000 in
set_option maxRecDepth 100000 in
theorem c_X5_noneRetired (l : Launch) (D : va_G) (w : Wv) (σ : Sg) (o : Nat) (a1 : Int32) (r : Int32) (ho : isY o) (hf : f_X5_noneRetired σ o a1 = some r) : Met l yX5_noneRetired (.code yX5_noneRetired cX5_noneRetired 3 (some .boolean) :: TB) (rmW 2 45) (pcW D w [.ref (w.1 (o)), .int a1] σ) (qzW D w r σ) 0 0 (AL w) := by
  refine q_open (by decide +kernel) (Nat.le_of_ble_eq_true rfl) ?_
  intro p e s m args below meth c ls hx hb hml hr hlk hown hts hK hP hS hl
  have hown : s.vm.findClass RX5 = some m.cls := hown
  have hl : lv_has ls 3 [(0, .ref (w.1 (o))), (1, .int a1)] := hl
  unfold f_X5_noneRetired at hf
  refine lv_iconst (v := (0 : Int32)) hx hb dX5_noneRetired_0 (by decide) ?_
  refine lv_istore_n (lv' := [(2, .int (0 : Int32)), (0, .ref (w.1 (o))), (1, .int a1)]) hx hb dX5_noneRetired_1 rfl hl (by decide) rfl (fun ls hl => ?_)
  obtain ⟨rr, hlp, hf⟩ := bnd hf
  have hE2_26 : ∀  (H : Heap) (locs : List Loc) (ls : Array Slot), f_X5_noneRetired_k1 () = some r → va_P D vwCl (WL w σ) H → va_S (AL w) s.heap H locs → lv_has ls 3 [] → W p l e (rmW 2 45) s m args below meth c H locs 0 0 (MQ below (qzW D w r σ) args s 0 0 (AL w)) (F0 m 26 ls []) := by
    intro  H locs ls hf hP hS hl
    unfold f_X5_noneRetired_k1 at hf
    refine lv_iconst (v := (0 : Int32)) hx hb dX5_noneRetired_26 (by decide) ?_
    have hq := Option.some.inj hf
    exact q_zret hx hb hr hlk hP hS rfl hq rfl dX5_noneRetired_27
  have hE2_34 : ∀  (H : Heap) (locs : List Loc) (ls : Array Slot), f_X5_noneRetired_k2 () = some r → va_P D vwCl (WL w σ) H → va_S (AL w) s.heap H locs → lv_has ls 3 [] → W p l e (rmW 2 45) s m args below meth c H locs 0 0 (MQ below (qzW D w r σ) args s 0 0 (AL w)) (F0 m 34 ls []) := by
    intro  H locs ls hf hP hS hl
    unfold f_X5_noneRetired_k2 at hf
    refine lv_iconst (v := (1 : Int32)) hx hb dX5_noneRetired_34 (by decide) ?_
    have hq := Option.some.inj hf
    exact q_zret hx hb hr hlk hP hS rfl hq rfl dX5_noneRetired_35
  refine lp_ind (G := fun (st : Int32) => ∀ (H : Heap) (locs : List Loc) (ls : Array Slot), va_P D vwCl (WL w σ) H → va_S (AL w) s.heap H locs → lv_has ls 3 [(0, .ref (w.1 (o))), (1, .int a1), (2, .int st)] → W p l e (rmW 2 45) s m args below meth c H locs 0 0 (MQ below (qzW D w r σ) args s 0 0 (AL w)) (F0 m 2 ls [])) (X := fun rr => Sum.elim (fun q => f_X5_noneRetired_k1 ()) (fun q => f_X5_noneRetired_k2 ()) rr = some r) ?_ _ _ rr hlp hf _ _ _ hP hS (lv_sub hl [1, 2, 0] rfl)
  intro x2_2 oo2 hb9 hG2 hX2 H locs ls hP hS hl
  have hP : va_P D vwCl (WL w σ) H := hP
  have hl : lv_has ls 3 [(0, .ref (w.1 (o))), (1, .int a1), (2, .int x2_2)] := hl
  have hf : f_X5_noneRetired_b1 σ o a1 x2_2 = some oo2 := hb9
  unfold f_X5_noneRetired_b1 at hf
  refine lv_iload_n hx hb dX5_noneRetired_2 rfl (lv_at hl 2 rfl) ?_
  refine lv_aload_n hx hb dX5_noneRetired_3 rfl (lv_at hl 0 rfl) ?_
  refine gt_X5_43 hx hb hts hown hK hP ho.o ho.k dX5_noneRetired_4 ?_
  refine lv_icmp_ge (tgt := 34) hx hb dX5_noneRetired_7 (by decide) (fun hc => ?_) (fun hc => ?_)
  · have hf := ifp hc hf
    obtain rfl := Option.some.inj hf
    exact hE2_34  _ _ _ (hX2 _ rfl) hP hS (lv_sub hl [] rfl)
  · have hf := ifn hc hf
    refine lv_iload_n hx hb dX5_noneRetired_10 rfl (lv_at hl 1 rfl) ?_
    refine lv_iload_n hx hb dX5_noneRetired_11 rfl (lv_at hl 2 rfl) ?_
    obtain ⟨v12, h12, hf⟩ := bnd hf
    refine q_cNz (hnw := hK.2) (As := [.int a1, .int x2_2]) hx hb hts hml hown hK hP hS (c_X6_hasBit l D w σ a1 x2_2 v12 h12) hw_X5_93 hd_X6_hasBit ⟨rfl, rfl, rfl⟩ ⟨Nat.le_of_ble_eq_true rfl, Nat.le_of_ble_eq_true rfl⟩ ⟨Nat.le_of_ble_eq_true rfl, Nat.le_of_ble_eq_true rfl⟩ hl.1 rfl (Nat.le_of_ble_eq_true rfl) dX5_noneRetired_12 (fun hz12 H locs hP hS => ?_)
    refine lv_if_eq (tgt := 28) hx hb dX5_noneRetired_15 (by decide) (fun hc => ?_) (fun hc => ?_)
    · have hf := ifp hc hf
      refine lv_iinc (v := (x2_2 + (1 : Int32))) (lv' := [(2, .int (x2_2 + (1 : Int32))), (0, .ref (w.1 (o))), (1, .int a1)]) hx hb dX5_noneRetired_28 hl (k := 2) rfl ii_1 (by decide) rfl (fun ls hl => ?_)
      refine lv_goto (tgt := 2) hx hb dX5_noneRetired_31 (by decide) ?_
      obtain rfl := Option.some.inj hf
      exact hG2 _ rfl _ _ _ hP hS (lv_sub hl [1, 2, 0] rfl)
    · have hf := ifn hc hf
      refine lv_aload_n hx hb dX5_noneRetired_18 rfl (lv_at hl 0 rfl) ?_
      refine lv_iload_n hx hb dX5_noneRetired_19 rfl (lv_at hl 2 rfl) ?_
      obtain ⟨v20, h20, hf⟩ := bnd hf
      refine q_cVz (As := [.int x2_2]) hx hb hts hml hown hK hP hS (c_X5_isRetired l D w σ (o) x2_2 v20 ho h20) hw_X5_96 hd_X5_isRetired ⟨rfl, rfl, rfl⟩ ho.o (ce5 ho.k) rfl ⟨Nat.le_of_ble_eq_true rfl, Nat.le_of_ble_eq_true rfl⟩ ⟨Nat.le_of_ble_eq_true rfl, Nat.le_of_ble_eq_true rfl⟩ hl.1 rfl (Nat.le_of_ble_eq_true rfl) dX5_noneRetired_20 (fun hz20 H locs hP hS => ?_)
      refine lv_if_eq (tgt := 28) hx hb dX5_noneRetired_23 (by decide) (fun hc => ?_) (fun hc => ?_)
      · have hf := ifp hc hf
        refine lv_iinc (v := (x2_2 + (1 : Int32))) (lv' := [(2, .int (x2_2 + (1 : Int32))), (0, .ref (w.1 (o))), (1, .int a1)]) hx hb dX5_noneRetired_28 hl (k := 2) rfl ii_1 (by decide) rfl (fun ls hl => ?_)
        refine lv_goto (tgt := 2) hx hb dX5_noneRetired_31 (by decide) ?_
        obtain rfl := Option.some.inj hf
        exact hG2 _ rfl _ _ _ hP hS (lv_sub hl [1, 2, 0] rfl)
      · have hf := ifn hc hf
        obtain rfl := Option.some.inj hf
        exact hE2_26  _ _ _ (hX2 _ rfl) hP hS (lv_sub hl [] rfl)
def f_X5_comeCount_b1 (σ : Sg) (o : Nat) (x1_4 : Int32) (x2_4 : Int32) : Option ((Int32 × Int32) ⊕ Int32) :=
  if (σ (o) 6) ≤ x2_4 then
  some (.inr x1_4)
  else
  (f_X5_hasCome σ (o) x2_4).bind fun v14 =>
  if v14 = 0 then
  some (.inl (x1_4, (x2_4 + (1 : Int32))))
  else
  some (.inl ((x1_4 + (1 : Int32)), (x2_4 + (1 : Int32))))
def f_X5_comeCount_k1 (y1_29 : Int32) : Option Int32 :=
  some y1_29
def f_X5_comeCount (σ : Sg) (o : Nat) : Option Int32 :=
  (lp (fun st => f_X5_comeCount_b1 σ o st.1 st.2) FU ((0 : Int32), (0 : Int32))).bind fun rr => f_X5_comeCount_k1 rr
set_option maxHeartbeats 4000000 in
set_option maxRecDepth 100000 in
theorem c_X5_comeCount (l : Launch) (D : va_G) (w : Wv) (σ : Sg) (o : Nat) (r : Int32) (ho : isY o) (hf : f_X5_comeCount σ o = some r) : Met l yX5_comeCount (.code yX5_comeCount cX5_comeCount 3 (some .int) :: TB) (rmW 2 45) (pcW D w [.ref (w.1 (o))] σ) (qiW D w r σ) 0 0 (AL w) := by
  refine q_open (by decide +kernel) (Nat.le_of_ble_eq_true rfl) ?_
  intro p e s m args below meth c ls hx hb hml hr hlk hown hts hK hP hS hl
  have hown : s.vm.findClass RX5 = some m.cls := hown
  have hl : lv_has ls 3 [(0, .ref (w.1 (o)))] := hl
  unfold f_X5_comeCount at hf
  refine lv_iconst (v := (0 : Int32)) hx hb dX5_comeCount_0 (by decide) ?_
  refine lv_istore_n (lv' := [(1, .int (0 : Int32)), (0, .ref (w.1 (o)))]) hx hb dX5_comeCount_1 rfl hl (by decide) rfl (fun ls hl => ?_)
  refine lv_iconst (v := (0 : Int32)) hx hb dX5_comeCount_2 (by decide) ?_
  refine lv_istore_n (lv' := [(2, .int (0 : Int32)), (1, .int (0 : Int32)), (0, .ref (w.1 (o)))]) hx hb dX5_comeCount_3 rfl hl (by decide) rfl (fun ls hl => ?_)
  obtain ⟨rr, hlp, hf⟩ := bnd hf
  have hE4_29 : ∀ (y1_29 : Int32) (H : Heap) (locs : List Loc) (ls : Array Slot), f_X5_comeCount_k1 y1_29 = some r → va_P D vwCl (WL w σ) H → va_S (AL w) s.heap H locs → lv_has ls 3 [(1, .int y1_29)] → W p l e (rmW 2 45) s m args below meth c H locs 0 0 (MQ below (qiW D w r σ) args s 0 0 (AL w)) (F0 m 29 ls []) := by
    intro y1_29 H locs ls hf hP hS hl
    unfold f_X5_comeCount_k1 at hf
    refine lv_iload_n hx hb dX5_comeCount_29 rfl (lv_at hl 0 rfl) ?_
    have hq := Option.some.inj hf
    exact q_iret hx hb hr hlk hP hS hq rfl dX5_comeCount_30
  refine lp_ind (G := fun (st : (Int32 × Int32)) => ∀ (H : Heap) (locs : List Loc) (ls : Array Slot), va_P D vwCl (WL w σ) H → va_S (AL w) s.heap H locs → lv_has ls 3 [(0, .ref (w.1 (o))), (1, .int st.1), (2, .int st.2)] → W p l e (rmW 2 45) s m args below meth c H locs 0 0 (MQ below (qiW D w r σ) args s 0 0 (AL w)) (F0 m 4 ls [])) (X := fun rr => f_X5_comeCount_k1 rr = some r) ?_ _ _ rr hlp hf _ _ _ hP hS (lv_sub hl [2, 1, 0] rfl)
  rintro ⟨x1_4, x2_4⟩ oo4 hb9 hG4 hX4 H locs ls hP hS hl
  have hP : va_P D vwCl (WL w σ) H := hP
  have hl : lv_has ls 3 [(0, .ref (w.1 (o))), (1, .int x1_4), (2, .int x2_4)] := hl
  have hf : f_X5_comeCount_b1 σ o x1_4 x2_4 = some oo4 := hb9
  unfold f_X5_comeCount_b1 at hf
  refine lv_iload_n hx hb dX5_comeCount_4 rfl (lv_at hl 2 rfl) ?_
  refine lv_aload_n hx hb dX5_comeCount_5 rfl (lv_at hl 0 rfl) ?_
  refine gt_X5_47 hx hb hts hown hK hP ho.o ho.k dX5_comeCount_6 ?_
  refine lv_icmp_ge (tgt := 29) hx hb dX5_comeCount_9 (by decide) (fun hc => ?_) (fun hc => ?_)
  · have hf := ifp hc hf
    obtain rfl := Option.some.inj hf
    exact hE4_29 x1_4 _ _ _ (hX4 _ rfl) hP hS (lv_sub hl [1] rfl)
  · have hf := ifn hc hf
    refine lv_aload_n hx hb dX5_comeCount_12 rfl (lv_at hl 0 rfl) ?_
    refine lv_iload_n hx hb dX5_comeCount_13 rfl (lv_at hl 2 rfl) ?_
    obtain ⟨v14, h14, hf⟩ := bnd hf
    refine q_cVz (As := [.int x2_4]) hx hb hts hml hown hK hP hS (c_X5_hasCome l D w σ (o) x2_4 v14 ho h14) hw_X5_99 hd_X5_hasCome ⟨rfl, rfl, rfl⟩ ho.o (ce5 ho.k) rfl ⟨Nat.le_of_ble_eq_true rfl, Nat.le_of_ble_eq_true rfl⟩ ⟨Nat.le_of_ble_eq_true rfl, Nat.le_of_ble_eq_true rfl⟩ hl.1 rfl (Nat.le_of_ble_eq_true rfl) dX5_comeCount_14 (fun hz14 H locs hP hS => ?_)
    refine lv_if_eq (tgt := 23) hx hb dX5_comeCount_17 (by decide) (fun hc => ?_) (fun hc => ?_)
    · have hf := ifp hc hf
      refine lv_iinc (v := (x2_4 + (1 : Int32))) (lv' := [(2, .int (x2_4 + (1 : Int32))), (0, .ref (w.1 (o))), (1, .int x1_4)]) hx hb dX5_comeCount_23 hl (k := 2) rfl ii_1 (by decide) rfl (fun ls hl => ?_)
      refine lv_goto (tgt := 4) hx hb dX5_comeCount_26 (by decide) ?_
      obtain rfl := Option.some.inj hf
      exact hG4 _ rfl _ _ _ hP hS (lv_sub hl [1, 2, 0] rfl)
    · have hf := ifn hc hf
      refine lv_iinc (v := (x1_4 + (1 : Int32))) (lv' := [(1, .int (x1_4 + (1 : Int32))), (0, .ref (w.1 (o))), (2, .int x2_4)]) hx hb dX5_comeCount_20 hl (k := 1) rfl ii_1 (by decide) rfl (fun ls hl => ?_)
      refine lv_iinc (v := (x2_4 + (1 : Int32))) (lv' := [(2, .int (x2_4 + (1 : Int32))), (1, .int (x1_4 + (1 : Int32))), (0, .ref (w.1 (o)))]) hx hb dX5_comeCount_23 hl (k := 2) rfl ii_1 (by decide) rfl (fun ls hl => ?_)
      refine lv_goto (tgt := 4) hx hb dX5_comeCount_26 (by decide) ?_
      obtain rfl := Option.some.inj hf
      exact hG4 _ rfl _ _ _ hP hS (lv_sub hl [2, 1, 0] rfl)
def f_X5_retiredCount_b1 (σ : Sg) (o : Nat) (x1_4 : Int32) (x2_4 : Int32) : Option ((Int32 × Int32) ⊕ Int32) :=
  if (σ (o) 5) ≤ x2_4 then
  some (.inr x1_4)
  else
  (f_X5_isRetired σ (o) x2_4).bind fun v14 =>
  if v14 = 0 then
  some (.inl (x1_4, (x2_4 + (1 : Int32))))
  else
  some (.inl ((x1_4 + (1 : Int32)), (x2_4 + (1 : Int32))))
def f_X5_retiredCount_k1 (y1_29 : Int32) : Option Int32 :=
  some y1_29
def f_X5_retiredCount (σ : Sg) (o : Nat) : Option Int32 :=
  (lp (fun st => f_X5_retiredCount_b1 σ o st.1 st.2) FU ((0 : Int32), (0 : Int32))).bind fun rr => f_X5_retiredCount_k1 rr
set_option maxHeartbeats 4000000 in
set_option maxRecDepth 100000 in
theorem c_X5_retiredCount (l : Launch) (D : va_G) (w : Wv) (σ : Sg) (o : Nat) (r : Int32) (ho : isY o) (hf : f_X5_retiredCount σ o = some r) : Met l yX5_retiredCount (.code yX5_retiredCount cX5_retiredCount 3 (some .int) :: TB) (rmW 2 45) (pcW D w [.ref (w.1 (o))] σ) (qiW D w r σ) 0 0 (AL w) := by
  refine q_open (by decide +kernel) (Nat.le_of_ble_eq_true rfl) ?_
  intro p e s m args below meth c ls hx hb hml hr hlk hown hts hK hP hS hl
  have hown : s.vm.findClass RX5 = some m.cls := hown
  have hl : lv_has ls 3 [(0, .ref (w.1 (o)))] := hl
  unfold f_X5_retiredCount at hf
  refine lv_iconst (v := (0 : Int32)) hx hb dX5_retiredCount_0 (by decide) ?_
  refine lv_istore_n (lv' := [(1, .int (0 : Int32)), (0, .ref (w.1 (o)))]) hx hb dX5_retiredCount_1 rfl hl (by decide) rfl (fun ls hl => ?_)
  refine lv_iconst (v := (0 : Int32)) hx hb dX5_retiredCount_2 (by decide) ?_
  refine lv_istore_n (lv' := [(2, .int (0 : Int32)), (1, .int (0 : Int32)), (0, .ref (w.1 (o)))]) hx hb dX5_retiredCount_3 rfl hl (by decide) rfl (fun ls hl => ?_)
  obtain ⟨rr, hlp, hf⟩ := bnd hf
  have hE4_29 : ∀ (y1_29 : Int32) (H : Heap) (locs : List Loc) (ls : Array Slot), f_X5_retiredCount_k1 y1_29 = some r → va_P D vwCl (WL w σ) H → va_S (AL w) s.heap H locs → lv_has ls 3 [(1, .int y1_29)] → W p l e (rmW 2 45) s m args below meth c H locs 0 0 (MQ below (qiW D w r σ) args s 0 0 (AL w)) (F0 m 29 ls []) := by
    intro y1_29 H locs ls hf hP hS hl
    unfold f_X5_retiredCount_k1 at hf
    refine lv_iload_n hx hb dX5_retiredCount_29 rfl (lv_at hl 0 rfl) ?_
    have hq := Option.some.inj hf
    exact q_iret hx hb hr hlk hP hS hq rfl dX5_retiredCount_30
  refine lp_ind (G := fun (st : (Int32 × Int32)) => ∀ (H : Heap) (locs : List Loc) (ls : Array Slot), va_P D vwCl (WL w σ) H → va_S (AL w) s.heap H locs → lv_has ls 3 [(0, .ref (w.1 (o))), (1, .int st.1), (2, .int st.2)] → W p l e (rmW 2 45) s m args below meth c H locs 0 0 (MQ below (qiW D w r σ) args s 0 0 (AL w)) (F0 m 4 ls [])) (X := fun rr => f_X5_retiredCount_k1 rr = some r) ?_ _ _ rr hlp hf _ _ _ hP hS (lv_sub hl [2, 1, 0] rfl)
  rintro ⟨x1_4, x2_4⟩ oo4 hb9 hG4 hX4 H locs ls hP hS hl
  have hP : va_P D vwCl (WL w σ) H := hP
  have hl : lv_has ls 3 [(0, .ref (w.1 (o))), (1, .int x1_4), (2, .int x2_4)] := hl
  have hf : f_X5_retiredCount_b1 σ o x1_4 x2_4 = some oo4 := hb9
  unfold f_X5_retiredCount_b1 at hf
  refine lv_iload_n hx hb dX5_retiredCount_4 rfl (lv_at hl 2 rfl) ?_
  refine lv_aload_n hx hb dX5_retiredCount_5 rfl (lv_at hl 0 rfl) ?_
  refine gt_X5_43 hx hb hts hown hK hP ho.o ho.k dX5_retiredCount_6 ?_
  refine lv_icmp_ge (tgt := 29) hx hb dX5_retiredCount_9 (by decide) (fun hc => ?_) (fun hc => ?_)
  · have hf := ifp hc hf
    obtain rfl := Option.some.inj hf
    exact hE4_29 x1_4 _ _ _ (hX4 _ rfl) hP hS (lv_sub hl [1] rfl)
  · have hf := ifn hc hf
    refine lv_aload_n hx hb dX5_retiredCount_12 rfl (lv_at hl 0 rfl) ?_
    refine lv_iload_n hx hb dX5_retiredCount_13 rfl (lv_at hl 2 rfl) ?_
    obtain ⟨v14, h14, hf⟩ := bnd hf
    refine q_cVz (As := [.int x2_4]) hx hb hts hml hown hK hP hS (c_X5_isRetired l D w σ (o) x2_4 v14 ho h14) hw_X5_96 hd_X5_isRetired ⟨rfl, rfl, rfl⟩ ho.o (ce5 ho.k) rfl ⟨Nat.le_of_ble_eq_true rfl, Nat.le_of_ble_eq_true rfl⟩ ⟨Nat.le_of_ble_eq_true rfl, Nat.le_of_ble_eq_true rfl⟩ hl.1 rfl (Nat.le_of_ble_eq_true rfl) dX5_retiredCount_14 (fun hz14 H locs hP hS => ?_)
    refine lv_if_eq (tgt := 23) hx hb dX5_retiredCount_17 (by decide) (fun hc => ?_) (fun hc => ?_)
    · have hf := ifp hc hf
      refine lv_iinc (v := (x2_4 + (1 : Int32))) (lv' := [(2, .int (x2_4 + (1 : Int32))), (0, .ref (w.1 (o))), (1, .int x1_4)]) hx hb dX5_retiredCount_23 hl (k := 2) rfl ii_1 (by decide) rfl (fun ls hl => ?_)
      refine lv_goto (tgt := 4) hx hb dX5_retiredCount_26 (by decide) ?_
      obtain rfl := Option.some.inj hf
      exact hG4 _ rfl _ _ _ hP hS (lv_sub hl [1, 2, 0] rfl)
    · have hf := ifn hc hf
      refine lv_iinc (v := (x1_4 + (1 : Int32))) (lv' := [(1, .int (x1_4 + (1 : Int32))), (0, .ref (w.1 (o))), (2, .int x2_4)]) hx hb dX5_retiredCount_20 hl (k := 1) rfl ii_1 (by decide) rfl (fun ls hl => ?_)
      refine lv_iinc (v := (x2_4 + (1 : Int32))) (lv' := [(2, .int (x2_4 + (1 : Int32))), (1, .int (x1_4 + (1 : Int32))), (0, .ref (w.1 (o)))]) hx hb dX5_retiredCount_23 hl (k := 2) rfl ii_1 (by decide) rfl (fun ls hl => ?_)
      refine lv_goto (tgt := 4) hx hb dX5_retiredCount_26 (by decide) ?_
      obtain rfl := Option.some.inj hf
      exact hG4 _ rfl _ _ _ hP hS (lv_sub hl [2, 1, 0] rfl)
def f_X5_lowestPostIn_b1 (σ : Sg) (o : Nat) (a1 : Int32) (x2_2 : Int32) : Option (Int32 ⊕ (Int32 ⊕ Unit)) :=
  if (σ (o) 5) ≤ x2_2 then
  some (.inr (.inr ()))
  else
  (f_X0_at σ (o + 6) x2_2 (1 : Int32)).bind fun v16 =>
  if ¬ v16 = a1 then
  some (.inl (x2_2 + (1 : Int32)))
  else
  some (.inr (.inl x2_2))
def f_X5_lowestPostIn_k1 (y2_23 : Int32) : Option Int32 :=
  some y2_23
def f_X5_lowestPostIn_k2 (_u : Unit) : Option Int32 :=
  some (-4 : Int32)
def f_X5_lowestPostIn (σ : Sg) (o : Nat) (a1 : Int32) : Option Int32 :=
  (lp (fun st => f_X5_lowestPostIn_b1 σ o a1 st) FU (0 : Int32)).bind fun rr => Sum.elim (fun q => f_X5_lowestPostIn_k1 q) (fun q => f_X5_lowestPostIn_k2 ()) rr
set_option maxHeartbeats 4000000 in
set_option maxRecDepth 100000 in
theorem c_X5_lowestPostIn (l : Launch) (D : va_G) (w : Wv) (σ : Sg) (o : Nat) (a1 : Int32) (r : Int32) (ho : isY o) (hf : f_X5_lowestPostIn σ o a1 = some r) : Met l yX5_lowestPostIn (.code yX5_lowestPostIn cX5_lowestPostIn 3 (some .int) :: TB) (rmW 1 24) (pcW D w [.ref (w.1 (o)), .int a1] σ) (qiW D w r σ) 0 0 (AL w) := by
  refine q_open (by decide +kernel) (Nat.le_of_ble_eq_true rfl) ?_
  intro p e s m args below meth c ls hx hb hml hr hlk hown hts hK hP hS hl
  have hown : s.vm.findClass RX5 = some m.cls := hown
  have hl : lv_has ls 3 [(0, .ref (w.1 (o))), (1, .int a1)] := hl
  unfold f_X5_lowestPostIn at hf
  refine lv_iconst (v := (0 : Int32)) hx hb dX5_lowestPostIn_0 (by decide) ?_
  refine lv_istore_n (lv' := [(2, .int (0 : Int32)), (0, .ref (w.1 (o))), (1, .int a1)]) hx hb dX5_lowestPostIn_1 rfl hl (by decide) rfl (fun ls hl => ?_)
  obtain ⟨rr, hlp, hf⟩ := bnd hf
  have hE2_23 : ∀ (y2_23 : Int32) (H : Heap) (locs : List Loc) (ls : Array Slot), f_X5_lowestPostIn_k1 y2_23 = some r → va_P D vwCl (WL w σ) H → va_S (AL w) s.heap H locs → lv_has ls 3 [(2, .int y2_23)] → W p l e (rmW 1 24) s m args below meth c H locs 0 0 (MQ below (qiW D w r σ) args s 0 0 (AL w)) (F0 m 23 ls []) := by
    intro y2_23 H locs ls hf hP hS hl
    unfold f_X5_lowestPostIn_k1 at hf
    refine lv_iload_n hx hb dX5_lowestPostIn_23 rfl (lv_at hl 0 rfl) ?_
    have hq := Option.some.inj hf
    exact q_iret hx hb hr hlk hP hS hq rfl dX5_lowestPostIn_24
  have hE2_31 : ∀  (H : Heap) (locs : List Loc) (ls : Array Slot), f_X5_lowestPostIn_k2 () = some r → va_P D vwCl (WL w σ) H → va_S (AL w) s.heap H locs → lv_has ls 3 [] → W p l e (rmW 1 24) s m args below meth c H locs 0 0 (MQ below (qiW D w r σ) args s 0 0 (AL w)) (F0 m 31 ls []) := by
    intro  H locs ls hf hP hS hl
    unfold f_X5_lowestPostIn_k2 at hf
    refine lv_bipush (v := (-4 : Int32)) hx hb dX5_lowestPostIn_31 (by decide) ?_
    have hq := Option.some.inj hf
    exact q_iret hx hb hr hlk hP hS hq rfl dX5_lowestPostIn_33
  refine lp_ind (G := fun (st : Int32) => ∀ (H : Heap) (locs : List Loc) (ls : Array Slot), va_P D vwCl (WL w σ) H → va_S (AL w) s.heap H locs → lv_has ls 3 [(0, .ref (w.1 (o))), (1, .int a1), (2, .int st)] → W p l e (rmW 1 24) s m args below meth c H locs 0 0 (MQ below (qiW D w r σ) args s 0 0 (AL w)) (F0 m 2 ls [])) (X := fun rr => Sum.elim (fun q => f_X5_lowestPostIn_k1 q) (fun q => f_X5_lowestPostIn_k2 ()) rr = some r) ?_ _ _ rr hlp hf _ _ _ hP hS (lv_sub hl [1, 2, 0] rfl)
  intro x2_2 oo2 hb9 hG2 hX2 H locs ls hP hS hl
  have hP : va_P D vwCl (WL w σ) H := hP
  have hl : lv_has ls 3 [(0, .ref (w.1 (o))), (1, .int a1), (2, .int x2_2)] := hl
  have hf : f_X5_lowestPostIn_b1 σ o a1 x2_2 = some oo2 := hb9
  unfold f_X5_lowestPostIn_b1 at hf
  refine lv_iload_n hx hb dX5_lowestPostIn_2 rfl (lv_at hl 2 rfl) ?_
  refine lv_aload_n hx hb dX5_lowestPostIn_3 rfl (lv_at hl 0 rfl) ?_
  refine gt_X5_43 hx hb hts hown hK hP ho.o ho.k dX5_lowestPostIn_4 ?_
  refine lv_icmp_ge (tgt := 31) hx hb dX5_lowestPostIn_7 (by decide) (fun hc => ?_) (fun hc => ?_)
  · have hf := ifp hc hf
    obtain rfl := Option.some.inj hf
    exact hE2_31  _ _ _ (hX2 _ rfl) hP hS (lv_sub hl [] rfl)
  · have hf := ifn hc hf
    refine lv_aload_n hx hb dX5_lowestPostIn_10 rfl (lv_at hl 0 rfl) ?_
    refine gt_X5_23 hx hb hts hown hK hP ho.o ho.k dX5_lowestPostIn_11 ?_
    refine lv_iload_n hx hb dX5_lowestPostIn_14 rfl (lv_at hl 2 rfl) ?_
    refine lv_iconst (v := (1 : Int32)) hx hb dX5_lowestPostIn_15 (by decide) ?_
    obtain ⟨v16, h16, hf⟩ := bnd hf
    refine q_cVi (As := [.int x2_2, .int (1 : Int32)]) hx hb hts hml hown hK hP hS (c_X0_at l D w σ (o + 6) x2_2 (1 : Int32) v16 ho.f1 h16) hw_X5_89 hd_X0_at ⟨rfl, rfl, rfl⟩ ho.f1.o (ce0 ho.f1.k) rfl ⟨Nat.le_of_ble_eq_true rfl, Nat.le_of_ble_eq_true rfl⟩ ⟨Nat.le_of_ble_eq_true rfl, Nat.le_of_ble_eq_true rfl⟩ hl.1 rfl (Nat.le_of_ble_eq_true rfl) dX5_lowestPostIn_16 (fun H locs hP hS => ?_)
    refine lv_iload_n hx hb dX5_lowestPostIn_19 rfl (lv_at hl 1 rfl) ?_
    refine lv_icmp_ne (tgt := 25) hx hb dX5_lowestPostIn_20 (by decide) (fun hc => ?_) (fun hc => ?_)
    · have hf := ifp hc hf
      refine lv_iinc (v := (x2_2 + (1 : Int32))) (lv' := [(2, .int (x2_2 + (1 : Int32))), (0, .ref (w.1 (o))), (1, .int a1)]) hx hb dX5_lowestPostIn_25 hl (k := 2) rfl ii_1 (by decide) rfl (fun ls hl => ?_)
      refine lv_goto (tgt := 2) hx hb dX5_lowestPostIn_28 (by decide) ?_
      obtain rfl := Option.some.inj hf
      exact hG2 _ rfl _ _ _ hP hS (lv_sub hl [1, 2, 0] rfl)
    · have hf := ifn (fun h => h hc) hf
      obtain rfl := Option.some.inj hf
      exact hE2_23 x2_2 _ _ _ (hX2 _ rfl) hP hS (lv_sub hl [2] rfl)
def f_X5_turnsOf (σ : Sg) (o : Nat) (a1 : Int32) : Option Int32 :=
  (f_X6_hasBit σ (σ (o) 9) a1).bind fun v5 =>
  if v5 = 0 then
  (f_X0_at σ (o + 6) a1 (0 : Int32)).bind fun v23 =>
  if v23 = (1 : Int32) then
  (f_X0_at σ (o + 6) a1 (2 : Int32)).bind fun v59 =>
  if v59 < (40 : Int32) then
  some ((0 : Int32) + (0 : Int32))
  else
  some ((0 : Int32) + (1 : Int32))
  else if v23 = (2 : Int32) then
  some ((0 : Int32) + (1 : Int32))
  else if v23 = (3 : Int32) then
  if ¬ (jrem (σ (o) 7) (2 : Int32)) = (1 : Int32) then
  some ((0 : Int32) + (0 : Int32))
  else
  some ((0 : Int32) + (2 : Int32))
  else some (0 : Int32)
  else
  (f_X0_at σ (o + 6) a1 (0 : Int32)).bind fun v23 =>
  if v23 = (1 : Int32) then
  (f_X0_at σ (o + 6) a1 (2 : Int32)).bind fun v59 =>
  if v59 < (40 : Int32) then
  some ((1 : Int32) + (0 : Int32))
  else
  some ((1 : Int32) + (1 : Int32))
  else if v23 = (2 : Int32) then
  some ((1 : Int32) + (1 : Int32))
  else if v23 = (3 : Int32) then
  if ¬ (jrem (σ (o) 7) (2 : Int32)) = (1 : Int32) then
  some ((1 : Int32) + (0 : Int32))
  else
  some ((1 : Int32) + (2 : Int32))
  else some (1 : Int32)
set_option maxHeartbeats 4000000 in
set_option maxRecDepth 100000 in
theorem c_X5_turnsOf (l : Launch) (D : va_G) (w : Wv) (σ : Sg) (o : Nat) (a1 : Int32) (r : Int32) (ho : isY o) (hf : f_X5_turnsOf σ o a1 = some r) : Met l yX5_turnsOf (.code yX5_turnsOf cX5_turnsOf 3 (some .int) :: TB) (rmW 1 24) (pcW D w [.ref (w.1 (o)), .int a1] σ) (qiW D w r σ) 0 0 (AL w) := by
  refine q_open (by decide +kernel) (Nat.le_of_ble_eq_true rfl) ?_
  intro p e s m args below meth c ls hx hb hml hr hlk hown hts hK hP hS hl
  have hown : s.vm.findClass RX5 = some m.cls := hown
  have hl : lv_has ls 3 [(0, .ref (w.1 (o))), (1, .int a1)] := hl
  unfold f_X5_turnsOf at hf
  refine lv_aload_n hx hb dX5_turnsOf_0 rfl (lv_at hl 0 rfl) ?_
  refine gt_X5_56 hx hb hts hown hK hP ho.o ho.k dX5_turnsOf_1 ?_
  refine lv_iload_n hx hb dX5_turnsOf_4 rfl (lv_at hl 1 rfl) ?_
  obtain ⟨v5, h5, hf⟩ := bnd hf
  refine q_cNz (hnw := hK.2) (As := [.int (σ (o) 9), .int a1]) hx hb hts hml hown hK hP hS (c_X6_hasBit l D w σ (σ (o) 9) a1 v5 h5) hw_X5_93 hd_X6_hasBit ⟨rfl, rfl, rfl⟩ ⟨Nat.le_of_ble_eq_true rfl, Nat.le_of_ble_eq_true rfl⟩ ⟨Nat.le_of_ble_eq_true rfl, Nat.le_of_ble_eq_true rfl⟩ hl.1 rfl (Nat.le_of_ble_eq_true rfl) dX5_turnsOf_5 (fun hz5 H locs hP hS => ?_)
  refine lv_if_eq (tgt := 15) hx hb dX5_turnsOf_8 (by decide) (fun hc => ?_) (fun hc => ?_)
  · have hf := ifp hc hf
    refine lv_iconst (v := (0 : Int32)) hx hb dX5_turnsOf_15 (by decide) ?_
    refine lv_istore_n (lv' := [(2, .int (0 : Int32)), (0, .ref (w.1 (o))), (1, .int a1)]) hx hb dX5_turnsOf_16 rfl hl (by decide) rfl (fun ls hl => ?_)
    refine lv_aload_n hx hb dX5_turnsOf_17 rfl (lv_at hl 1 rfl) ?_
    refine gt_X5_23 hx hb hts hown hK hP ho.o ho.k dX5_turnsOf_18 ?_
    refine lv_iload_n hx hb dX5_turnsOf_21 rfl (lv_at hl 2 rfl) ?_
    refine lv_iconst (v := (0 : Int32)) hx hb dX5_turnsOf_22 (by decide) ?_
    obtain ⟨v23, h23, hf⟩ := bnd hf
    refine q_cVi (As := [.int a1, .int (0 : Int32)]) hx hb hts hml hown hK hP hS (c_X0_at l D w σ (o + 6) a1 (0 : Int32) v23 ho.f1 h23) hw_X5_89 hd_X0_at ⟨rfl, rfl, rfl⟩ ho.f1.o (ce0 ho.f1.k) rfl ⟨Nat.le_of_ble_eq_true rfl, Nat.le_of_ble_eq_true rfl⟩ ⟨Nat.le_of_ble_eq_true rfl, Nat.le_of_ble_eq_true rfl⟩ hl.1 rfl (Nat.le_of_ble_eq_true rfl) dX5_turnsOf_23 (fun H locs hP hS => ?_)
    rcases Decidable.em (v23 = (1 : Int32)) with hc | hc1
    · have hf := ifp hc hf
      refine lv_tableIn (off := 26) (tgt := 52) hx hb dX5_turnsOf_26 (by rw [hc]; decide) (by rw [hc]; decide) (by rw [hc]; rfl) (by decide) ?_
      refine lv_iload_n hx hb dX5_turnsOf_52 rfl (lv_at hl 0 rfl) ?_
      refine lv_aload_n hx hb dX5_turnsOf_53 rfl (lv_at hl 1 rfl) ?_
      refine gt_X5_23 hx hb hts hown hK hP ho.o ho.k dX5_turnsOf_54 ?_
      refine lv_iload_n hx hb dX5_turnsOf_57 rfl (lv_at hl 2 rfl) ?_
      refine lv_iconst (v := (2 : Int32)) hx hb dX5_turnsOf_58 (by decide) ?_
      obtain ⟨v59, h59, hf⟩ := bnd hf
      refine q_cVi (As := [.int a1, .int (2 : Int32)]) hx hb hts hml hown hK hP hS (c_X0_at l D w σ (o + 6) a1 (2 : Int32) v59 ho.f1 h59) hw_X5_89 hd_X0_at ⟨rfl, rfl, rfl⟩ ho.f1.o (ce0 ho.f1.k) rfl ⟨Nat.le_of_ble_eq_true rfl, Nat.le_of_ble_eq_true rfl⟩ ⟨Nat.le_of_ble_eq_true rfl, Nat.le_of_ble_eq_true rfl⟩ hl.1 rfl (Nat.le_of_ble_eq_true rfl) dX5_turnsOf_59 (fun H locs hP hS => ?_)
      refine lv_bipush (v := (40 : Int32)) hx hb dX5_turnsOf_62 (by decide) ?_
      refine lv_icmp_lt (tgt := 71) hx hb dX5_turnsOf_64 (by decide) (fun hc => ?_) (fun hc => ?_)
      · have hf := ifp hc hf
        refine lv_iconst (v := (0 : Int32)) hx hb dX5_turnsOf_71 (by decide) ?_
        refine lv_iadd hx hb dX5_turnsOf_72 ?_
        have hq := Option.some.inj hf
        exact q_iret hx hb hr hlk hP hS hq rfl dX5_turnsOf_73
      · have hf := ifn hc hf
        refine lv_iconst (v := (1 : Int32)) hx hb dX5_turnsOf_67 (by decide) ?_
        refine lv_goto (tgt := 72) hx hb dX5_turnsOf_68 (by decide) ?_
        refine lv_iadd hx hb dX5_turnsOf_72 ?_
        have hq := Option.some.inj hf
        exact q_iret hx hb hr hlk hP hS hq rfl dX5_turnsOf_73
    have hf := ifn hc1 hf
    rcases Decidable.em (v23 = (2 : Int32)) with hc | hc2
    · have hf := ifp hc hf
      refine lv_tableIn (off := 48) (tgt := 74) hx hb dX5_turnsOf_26 (by rw [hc]; decide) (by rw [hc]; decide) (by rw [hc]; rfl) (by decide) ?_
      refine lv_iload_n hx hb dX5_turnsOf_74 rfl (lv_at hl 0 rfl) ?_
      refine lv_iconst (v := (1 : Int32)) hx hb dX5_turnsOf_75 (by decide) ?_
      refine lv_iadd hx hb dX5_turnsOf_76 ?_
      have hq := Option.some.inj hf
      exact q_iret hx hb hr hlk hP hS hq rfl dX5_turnsOf_77
    have hf := ifn hc2 hf
    rcases Decidable.em (v23 = (3 : Int32)) with hc | hc3
    · have hf := ifp hc hf
      refine lv_tableIn (off := 52) (tgt := 78) hx hb dX5_turnsOf_26 (by rw [hc]; decide) (by rw [hc]; decide) (by rw [hc]; rfl) (by decide) ?_
      refine lv_iload_n hx hb dX5_turnsOf_78 rfl (lv_at hl 0 rfl) ?_
      refine lv_aload_n hx hb dX5_turnsOf_79 rfl (lv_at hl 1 rfl) ?_
      refine gt_X5_50 hx hb hts hown hK hP ho.o ho.k dX5_turnsOf_80 ?_
      refine lv_iconst (v := (2 : Int32)) hx hb dX5_turnsOf_83 (by decide) ?_
      refine q_iremL hx hb (by decide) dX5_turnsOf_84 ?_
      refine lv_iconst (v := (1 : Int32)) hx hb dX5_turnsOf_85 (by decide) ?_
      refine lv_icmp_ne (tgt := 93) hx hb dX5_turnsOf_86 (by decide) (fun hc => ?_) (fun hc => ?_)
      · have hf := ifp hc hf
        refine lv_iconst (v := (0 : Int32)) hx hb dX5_turnsOf_93 (by decide) ?_
        refine lv_iadd hx hb dX5_turnsOf_94 ?_
        have hq := Option.some.inj hf
        exact q_iret hx hb hr hlk hP hS hq rfl dX5_turnsOf_95
      · have hf := ifn (fun h => h hc) hf
        refine lv_iconst (v := (2 : Int32)) hx hb dX5_turnsOf_89 (by decide) ?_
        refine lv_goto (tgt := 94) hx hb dX5_turnsOf_90 (by decide) ?_
        refine lv_iadd hx hb dX5_turnsOf_94 ?_
        have hq := Option.some.inj hf
        exact q_iret hx hb hr hlk hP hS hq rfl dX5_turnsOf_95
    have hf := ifn hc3 hf
    refine lv_tableOut (tgt := 96) hx hb dX5_turnsOf_26 (tb_out_1_3 hc1 hc2 hc3) (by decide) ?_
    refine lv_iload_n hx hb dX5_turnsOf_96 rfl (lv_at hl 0 rfl) ?_
    have hq := Option.some.inj hf
    exact q_iret hx hb hr hlk hP hS hq rfl dX5_turnsOf_97
  · have hf := ifn hc hf
    refine lv_iconst (v := (1 : Int32)) hx hb dX5_turnsOf_11 (by decide) ?_
    refine lv_goto (tgt := 16) hx hb dX5_turnsOf_12 (by decide) ?_
    refine lv_istore_n (lv' := [(2, .int (1 : Int32)), (0, .ref (w.1 (o))), (1, .int a1)]) hx hb dX5_turnsOf_16 rfl hl (by decide) rfl (fun ls hl => ?_)
    refine lv_aload_n hx hb dX5_turnsOf_17 rfl (lv_at hl 1 rfl) ?_
    refine gt_X5_23 hx hb hts hown hK hP ho.o ho.k dX5_turnsOf_18 ?_
    refine lv_iload_n hx hb dX5_turnsOf_21 rfl (lv_at hl 2 rfl) ?_
    refine lv_iconst (v := (0 : Int32)) hx hb dX5_turnsOf_22 (by decide) ?_
    obtain ⟨v23, h23, hf⟩ := bnd hf
    refine q_cVi (As := [.int a1, .int (0 : Int32)]) hx hb hts hml hown hK hP hS (c_X0_at l D w σ (o + 6) a1 (0 : Int32) v23 ho.f1 h23) hw_X5_89 hd_X0_at ⟨rfl, rfl, rfl⟩ ho.f1.o (ce0 ho.f1.k) rfl ⟨Nat.le_of_ble_eq_true rfl, Nat.le_of_ble_eq_true rfl⟩ ⟨Nat.le_of_ble_eq_true rfl, Nat.le_of_ble_eq_true rfl⟩ hl.1 rfl (Nat.le_of_ble_eq_true rfl) dX5_turnsOf_23 (fun H locs hP hS => ?_)
    rcases Decidable.em (v23 = (1 : Int32)) with hc | hc1
    · have hf := ifp hc hf
      refine lv_tableIn (off := 26) (tgt := 52) hx hb dX5_turnsOf_26 (by rw [hc]; decide) (by rw [hc]; decide) (by rw [hc]; rfl) (by decide) ?_
      refine lv_iload_n hx hb dX5_turnsOf_52 rfl (lv_at hl 0 rfl) ?_
      refine lv_aload_n hx hb dX5_turnsOf_53 rfl (lv_at hl 1 rfl) ?_
      refine gt_X5_23 hx hb hts hown hK hP ho.o ho.k dX5_turnsOf_54 ?_
      refine lv_iload_n hx hb dX5_turnsOf_57 rfl (lv_at hl 2 rfl) ?_
      refine lv_iconst (v := (2 : Int32)) hx hb dX5_turnsOf_58 (by decide) ?_
      obtain ⟨v59, h59, hf⟩ := bnd hf
      refine q_cVi (As := [.int a1, .int (2 : Int32)]) hx hb hts hml hown hK hP hS (c_X0_at l D w σ (o + 6) a1 (2 : Int32) v59 ho.f1 h59) hw_X5_89 hd_X0_at ⟨rfl, rfl, rfl⟩ ho.f1.o (ce0 ho.f1.k) rfl ⟨Nat.le_of_ble_eq_true rfl, Nat.le_of_ble_eq_true rfl⟩ ⟨Nat.le_of_ble_eq_true rfl, Nat.le_of_ble_eq_true rfl⟩ hl.1 rfl (Nat.le_of_ble_eq_true rfl) dX5_turnsOf_59 (fun H locs hP hS => ?_)
      refine lv_bipush (v := (40 : Int32)) hx hb dX5_turnsOf_62 (by decide) ?_
      refine lv_icmp_lt (tgt := 71) hx hb dX5_turnsOf_64 (by decide) (fun hc => ?_) (fun hc => ?_)
      · have hf := ifp hc hf
        refine lv_iconst (v := (0 : Int32)) hx hb dX5_turnsOf_71 (by decide) ?_
        refine lv_iadd hx hb dX5_turnsOf_72 ?_
        have hq := Option.some.inj hf
        exact q_iret hx hb hr hlk hP hS hq rfl dX5_turnsOf_73
      · have hf := ifn hc hf
        refine lv_iconst (v := (1 : Int32)) hx hb dX5_turnsOf_67 (by decide) ?_
        refine lv_goto (tgt := 72) hx hb dX5_turnsOf_68 (by decide) ?_
        refine lv_iadd hx hb dX5_turnsOf_72 ?_
        have hq := Option.some.inj hf
        exact q_iret hx hb hr hlk hP hS hq rfl dX5_turnsOf_73
    have hf := ifn hc1 hf
    rcases Decidable.em (v23 = (2 : Int32)) with hc | hc2
    · have hf := ifp hc hf
      refine lv_tableIn (off := 48) (tgt := 74) hx hb dX5_turnsOf_26 (by rw [hc]; decide) (by rw [hc]; decide) (by rw [hc]; rfl) (by decide) ?_
      refine lv_iload_n hx hb dX5_turnsOf_74 rfl (lv_at hl 0 rfl) ?_
      refine lv_iconst (v := (1 : Int32)) hx hb dX5_turnsOf_75 (by decide) ?_
      refine lv_iadd hx hb dX5_turnsOf_76 ?_
      have hq := Option.some.inj hf
      exact q_iret hx hb hr hlk hP hS hq rfl dX5_turnsOf_77
    have hf := ifn hc2 hf
    rcases Decidable.em (v23 = (3 : Int32)) with hc | hc3
    · have hf := ifp hc hf
      refine lv_tableIn (off := 52) (tgt := 78) hx hb dX5_turnsOf_26 (by rw [hc]; decide) (by rw [hc]; decide) (by rw [hc]; rfl) (by decide) ?_
      refine lv_iload_n hx hb dX5_turnsOf_78 rfl (lv_at hl 0 rfl) ?_
      refine lv_aload_n hx hb dX5_turnsOf_79 rfl (lv_at hl 1 rfl) ?_
      refine gt_X5_50 hx hb hts hown hK hP ho.o ho.k dX5_turnsOf_80 ?_
      refine lv_iconst (v := (2 : Int32)) hx hb dX5_turnsOf_83 (by decide) ?_
      refine q_iremL hx hb (by decide) dX5_turnsOf_84 ?_
      refine lv_iconst (v := (1 : Int32)) hx hb dX5_turnsOf_85 (by decide) ?_
      refine lv_icmp_ne (tgt := 93) hx hb dX5_turnsOf_86 (by decide) (fun hc => ?_) (fun hc => ?_)
      · have hf := ifp hc hf
        refine lv_iconst (v := (0 : Int32)) hx hb dX5_turnsOf_93 (by decide) ?_
        refine lv_iadd hx hb dX5_turnsOf_94 ?_
        have hq := Option.some.inj hf
        exact q_iret hx hb hr hlk hP hS hq rfl dX5_turnsOf_95
      · have hf := ifn (fun h => h hc) hf
        refine lv_iconst (v := (2 : Int32)) hx hb dX5_turnsOf_89 (by decide) ?_
        refine lv_goto (tgt := 94) hx hb dX5_turnsOf_90 (by decide) ?_
        refine lv_iadd hx hb dX5_turnsOf_94 ?_
        have hq := Option.some.inj hf
        exact q_iret hx hb hr hlk hP hS hq rfl dX5_turnsOf_95
    have hf := ifn hc3 hf
    refine lv_tableOut (tgt := 96) hx hb dX5_turnsOf_26 (tb_out_1_3 hc1 hc2 hc3) (by decide) ?_
    refine lv_iload_n hx hb dX5_turnsOf_96 rfl (lv_at hl 0 rfl) ?_
    have hq := Option.some.inj hf
    exact q_iret hx hb hr hlk hP hS hq rfl dX5_turnsOf_97
def f_X5_pointing_b1 (σ : Sg) (o : Nat) (v6 : Int32) (v23 : Int32) (x4_31 : Int32) (x6_31 : Int32) : Option ((Int32 × Int32) ⊕ Int32) :=
  if v23 ≤ x6_31 then
  some (.inr x4_31)
  else
  if x4_31 = (-4 : Int32) then
  some (.inr x4_31)
  else
  (f_X3_turned σ (o + 1) v6 x4_31).bind fun v52 =>
  some (.inl (v52, (x6_31 + (1 : Int32))))
def f_X5_pointing_k1 (y4_63 : Int32) : Option Int32 :=
  some y4_63
def f_X5_pointing (σ : Sg) (o : Nat) (a1 : Int32) (a2 : Int32) : Option Int32 :=
  (f_X0_at σ (o + 6) a1 (1 : Int32)).bind fun v6 =>
  (f_X0_at σ (o + 8) a1 a2).bind fun v16 =>
  (f_X5_turnsOf σ (o) a1).bind fun v23 =>
  (lp (fun st => f_X5_pointing_b1 σ o v6 v23 st.1 st.2) FU (v16, (0 : Int32))).bind fun rr => f_X5_pointing_k1 rr
set_option maxHeartbeats 4000000 in
set_option maxRecDepth 100000 in
theorem c_X5_pointing (l : Launch) (D : va_G) (w : Wv) (σ : Sg) (o : Nat) (a1 : Int32) (a2 : Int32) (r : Int32) (ho : isY o) (hf : f_X5_pointing σ o a1 a2 = some r) : Met l yX5_pointing (.code yX5_pointing cX5_pointing 7 (some .int) :: TB) (rmW 2 48) (pcW D w [.ref (w.1 (o)), .int a1, .int a2] σ) (qiW D w r σ) 0 0 (AL w) := by
  refine q_open (by decide +kernel) (Nat.le_of_ble_eq_true rfl) ?_
  intro p e s m args below meth c ls hx hb hml hr hlk hown hts hK hP hS hl
  have hown : s.vm.findClass RX5 = some m.cls := hown
  have hl : lv_has ls 7 [(0, .ref (w.1 (o))), (1, .int a1), (2, .int a2)] := hl
  unfold f_X5_pointing at hf
  refine lv_aload_n hx hb dX5_pointing_0 rfl (lv_at hl 0 rfl) ?_
  refine gt_X5_23 hx hb hts hown hK hP ho.o ho.k dX5_pointing_1 ?_
  refine lv_iload_n hx hb dX5_pointing_4 rfl (lv_at hl 1 rfl) ?_
  refine lv_iconst (v := (1 : Int32)) hx hb dX5_pointing_5 (by decide) ?_
  obtain ⟨v6, h6, hf⟩ := bnd hf
  refine q_cVi (As := [.int a1, .int (1 : Int32)]) hx hb hts hml hown hK hP hS (c_X0_at l D w σ (o + 6) a1 (1 : Int32) v6 ho.f1 h6) hw_X5_89 hd_X0_at ⟨rfl, rfl, rfl⟩ ho.f1.o (ce0 ho.f1.k) rfl ⟨Nat.le_of_ble_eq_true rfl, Nat.le_of_ble_eq_true rfl⟩ ⟨Nat.le_of_ble_eq_true rfl, Nat.le_of_ble_eq_true rfl⟩ hl.1 rfl (Nat.le_of_ble_eq_true rfl) dX5_pointing_6 (fun H locs hP hS => ?_)
  refine lv_istore_n (lv' := [(3, .int v6), (0, .ref (w.1 (o))), (1, .int a1), (2, .int a2)]) hx hb dX5_pointing_9 rfl hl (by decide) rfl (fun ls hl => ?_)
  refine lv_aload_n hx hb dX5_pointing_10 rfl (lv_at hl 1 rfl) ?_
  refine gt_X5_27 hx hb hts hown hK hP ho.o ho.k dX5_pointing_11 ?_
  refine lv_iload_n hx hb dX5_pointing_14 rfl (lv_at hl 2 rfl) ?_
  refine lv_iload_n hx hb dX5_pointing_15 rfl (lv_at hl 3 rfl) ?_
  obtain ⟨v16, h16, hf⟩ := bnd hf
  refine q_cVi (As := [.int a1, .int a2]) hx hb hts hml hown hK hP hS (c_X0_at l D w σ (o + 8) a1 a2 v16 ho.f2 h16) hw_X5_89 hd_X0_at ⟨rfl, rfl, rfl⟩ ho.f2.o (ce0 ho.f2.k) rfl ⟨Nat.le_of_ble_eq_true rfl, Nat.le_of_ble_eq_true rfl⟩ ⟨Nat.le_of_ble_eq_true rfl, Nat.le_of_ble_eq_true rfl⟩ hl.1 rfl (Nat.le_of_ble_eq_true rfl) dX5_pointing_16 (fun H locs hP hS => ?_)
  refine lv_istore (lv' := [(4, .int v16), (3, .int v6), (0, .ref (w.1 (o))), (1, .int a1), (2, .int a2)]) hx hb dX5_pointing_19 hl (by decide) rfl (fun ls hl => ?_)
  refine lv_aload_n hx hb dX5_pointing_21 rfl (lv_at hl 2 rfl) ?_
  refine lv_iload_n hx hb dX5_pointing_22 rfl (lv_at hl 3 rfl) ?_
  obtain ⟨v23, h23, hf⟩ := bnd hf
  refine q_cVi (As := [.int a1]) hx hb hts hml hown hK hP hS (c_X5_turnsOf l D w σ (o) a1 v23 ho h23) hw_X5_102 hd_X5_turnsOf ⟨rfl, rfl, rfl⟩ ho.o (ce5 ho.k) rfl ⟨Nat.le_of_ble_eq_true rfl, Nat.le_of_ble_eq_true rfl⟩ ⟨Nat.le_of_ble_eq_true rfl, Nat.le_of_ble_eq_true rfl⟩ hl.1 rfl (Nat.le_of_ble_eq_true rfl) dX5_pointing_23 (fun H locs hP hS => ?_)
  refine lv_istore (lv' := [(5, .int v23), (4, .int v16), (3, .int v6), (0, .ref (w.1 (o))), (1, .int a1), (2, .int a2)]) hx hb dX5_pointing_26 hl (by decide) rfl (fun ls hl => ?_)
  refine lv_iconst (v := (0 : Int32)) hx hb dX5_pointing_28 (by decide) ?_
  refine lv_istore (lv' := [(6, .int (0 : Int32)), (5, .int v23), (4, .int v16), (3, .int v6), (0, .ref (w.1 (o))), (1, .int a1), (2, .int a2)]) hx hb dX5_pointing_29 hl (by decide) rfl (fun ls hl => ?_)
  obtain ⟨rr, hlp, hf⟩ := bnd hf
  have hE31_63 : ∀ (y4_63 : Int32) (H : Heap) (locs : List Loc) (ls : Array Slot), f_X5_pointing_k1 y4_63 = some r → va_P D vwCl (WL w σ) H → va_S (AL w) s.heap H locs → lv_has ls 7 [(4, .int y4_63)] → W p l e (rmW 2 48) s m args below meth c H locs 0 0 (MQ below (qiW D w r σ) args s 0 0 (AL w)) (F0 m 63 ls []) := by
    intro y4_63 H locs ls hf hP hS hl
    unfold f_X5_pointing_k1 at hf
    refine lv_iload hx hb dX5_pointing_63 (lv_at hl 0 rfl) ?_
    have hq := Option.some.inj hf
    exact q_iret hx hb hr hlk hP hS hq rfl dX5_pointing_65
  refine lp_ind (G := fun (st : (Int32 × Int32)) => ∀ (H : Heap) (locs : List Loc) (ls : Array Slot), va_P D vwCl (WL w σ) H → va_S (AL w) s.heap H locs → lv_has ls 7 [(0, .ref (w.1 (o))), (3, .int v6), (4, .int st.1), (5, .int v23), (6, .int st.2)] → W p l e (rmW 2 48) s m args below meth c H locs 0 0 (MQ below (qiW D w r σ) args s 0 0 (AL w)) (F0 m 31 ls [])) (X := fun rr => f_X5_pointing_k1 rr = some r) ?_ _ _ rr hlp hf _ _ _ hP hS (lv_sub hl [4, 3, 2, 1, 0] rfl)
  rintro ⟨x4_31, x6_31⟩ oo31 hb9 hG31 hX31 H locs ls hP hS hl
  have hP : va_P D vwCl (WL w σ) H := hP
  have hl : lv_has ls 7 [(0, .ref (w.1 (o))), (3, .int v6), (4, .int x4_31), (5, .int v23), (6, .int x6_31)] := hl
  have hf : f_X5_pointing_b1 σ o v6 v23 x4_31 x6_31 = some oo31 := hb9
  unfold f_X5_pointing_b1 at hf
  refine lv_iload hx hb dX5_pointing_31 (lv_at hl 4 rfl) ?_
  refine lv_iload hx hb dX5_pointing_33 (lv_at hl 3 rfl) ?_
  refine lv_icmp_ge (tgt := 63) hx hb dX5_pointing_35 (by decide) (fun hc => ?_) (fun hc => ?_)
  · have hf := ifp hc hf
    obtain rfl := Option.some.inj hf
    exact hE31_63 x4_31 _ _ _ (hX31 _ rfl) hP hS (lv_sub hl [2] rfl)
  · have hf := ifn hc hf
    refine lv_iload hx hb dX5_pointing_38 (lv_at hl 2 rfl) ?_
    refine lv_bipush (v := (-4 : Int32)) hx hb dX5_pointing_40 (by decide) ?_
    refine lv_icmp_eq (tgt := 63) hx hb dX5_pointing_42 (by decide) (fun hc => ?_) (fun hc => ?_)
    · have hf := ifp hc hf
      obtain rfl := Option.some.inj hf
      exact hE31_63 x4_31 _ _ _ (hX31 _ rfl) hP hS (lv_sub hl [2] rfl)
    · have hf := ifn hc hf
      refine lv_aload_n hx hb dX5_pointing_45 rfl (lv_at hl 0 rfl) ?_
      refine gt_X5_12 hx hb hts hown hK hP ho.o ho.k dX5_pointing_46 ?_
      refine lv_iload_n hx hb dX5_pointing_49 rfl (lv_at hl 1 rfl) ?_
      refine lv_iload hx hb dX5_pointing_50 (lv_at hl 2 rfl) ?_
      obtain ⟨v52, h52, hf⟩ := bnd hf
      refine q_cVi (As := [.int v6, .int x4_31]) hx hb hts hml hown hK hP hS (c_X3_turned l D w σ (o + 1) v6 x4_31 v52 ho.f0 h52) hw_X5_105 hd_X3_turned ⟨rfl, rfl, rfl⟩ ho.f0.o (ce3 ho.f0.k) rfl ⟨Nat.le_of_ble_eq_true rfl, Nat.le_of_ble_eq_true rfl⟩ ⟨Nat.le_of_ble_eq_true rfl, Nat.le_of_ble_eq_true rfl⟩ hl.1 rfl (Nat.le_of_ble_eq_true rfl) dX5_pointing_52 (fun H locs hP hS => ?_)
      refine lv_istore (lv' := [(4, .int v52), (0, .ref (w.1 (o))), (3, .int v6), (5, .int v23), (6, .int x6_31)]) hx hb dX5_pointing_55 hl (by decide) rfl (fun ls hl => ?_)
      refine lv_iinc (v := (x6_31 + (1 : Int32))) (lv' := [(6, .int (x6_31 + (1 : Int32))), (4, .int v52), (0, .ref (w.1 (o))), (3, .int v6), (5, .int v23)]) hx hb dX5_pointing_57 hl (k := 4) rfl ii_1 (by decide) rfl (fun ls hl => ?_)
      refine lv_goto (tgt := 31) hx hb dX5_pointing_60 (by decide) ?_
      obtain rfl := Option.some.inj hf
      exact hG31 _ rfl _ _ _ hP hS (lv_sub hl [2, 3, 1, 4, 0] rfl)
def f_X5_stepFrom (σ : Sg) (o : Nat) (a1 : Int32) (a2 : Int32) : Option Int32 :=
  (f_X5_lowestPostIn σ (o) a1).bind fun v2 =>
  if ¬ v2 = (-4 : Int32) then
  (f_X5_pointing σ (o) v2 a2).bind fun v26 =>
  if v26 = (-4 : Int32) then
  some a1
  else
  (f_X3_between σ (o + 1) a1 v26).bind fun v45 =>
  if v45 ≤ 0 then
  some a1
  else
  some v26
  else
  (f_X3_nearest σ (o + 1) a1).bind fun v17 =>
  if v17 = (-4 : Int32) then
  some a1
  else
  (f_X3_between σ (o + 1) a1 v17).bind fun v45 =>
  if v45 ≤ 0 then
  some a1
  else
  some v17
set_option maxHeartbeats 4000000 in
set_option maxRecDepth 100000 in
theorem c_X5_stepFrom (l : Launch) (D : va_G) (w : Wv) (σ : Sg) (o : Nat) (a1 : Int32) (a2 : Int32) (r : Int32) (ho : isY o) (hf : f_X5_stepFrom σ o a1 a2 = some r) : Met l yX5_stepFrom (.code yX5_stepFrom cX5_stepFrom 5 (some .int) :: TB) (rmW 3 74) (pcW D w [.ref (w.1 (o)), .int a1, .int a2] σ) (qiW D w r σ) 0 0 (AL w) := by
  refine q_open (by decide +kernel) (Nat.le_of_ble_eq_true rfl) ?_
  intro p e s m args below meth c ls hx hb hml hr hlk hown hts hK hP hS hl
  have hown : s.vm.findClass RX5 = some m.cls := hown
  have hl : lv_has ls 5 [(0, .ref (w.1 (o))), (1, .int a1), (2, .int a2)] := hl
  unfold f_X5_stepFrom at hf
  refine lv_aload_n hx hb dX5_stepFrom_0 rfl (lv_at hl 0 rfl) ?_
  refine lv_iload_n hx hb dX5_stepFrom_1 rfl (lv_at hl 1 rfl) ?_
  obtain ⟨v2, h2, hf⟩ := bnd hf
  refine q_cVi (As := [.int a1]) hx hb hts hml hown hK hP hS (c_X5_lowestPostIn l D w σ (o) a1 v2 ho h2) hw_X5_111 hd_X5_lowestPostIn ⟨rfl, rfl, rfl⟩ ho.o (ce5 ho.k) rfl ⟨Nat.le_of_ble_eq_true rfl, Nat.le_of_ble_eq_true rfl⟩ ⟨Nat.le_of_ble_eq_true rfl, Nat.le_of_ble_eq_true rfl⟩ hl.1 rfl (Nat.le_of_ble_eq_true rfl) dX5_stepFrom_2 (fun H locs hP hS => ?_)
  refine lv_istore_n (lv' := [(3, .int v2), (0, .ref (w.1 (o))), (1, .int a1), (2, .int a2)]) hx hb dX5_stepFrom_5 rfl hl (by decide) rfl (fun ls hl => ?_)
  refine lv_iload_n hx hb dX5_stepFrom_6 rfl (lv_at hl 0 rfl) ?_
  refine lv_bipush (v := (-4 : Int32)) hx hb dX5_stepFrom_7 (by decide) ?_
  refine lv_icmp_ne (tgt := 23) hx hb dX5_stepFrom_9 (by decide) (fun hc => ?_) (fun hc => ?_)
  · have hf := ifp hc hf
    refine lv_aload_n hx hb dX5_stepFrom_23 rfl (lv_at hl 1 rfl) ?_
    refine lv_iload_n hx hb dX5_stepFrom_24 rfl (lv_at hl 0 rfl) ?_
    refine lv_iload_n hx hb dX5_stepFrom_25 rfl (lv_at hl 3 rfl) ?_
    obtain ⟨v26, h26, hf⟩ := bnd hf
    refine q_cVi (As := [.int v2, .int a2]) hx hb hts hml hown hK hP hS (c_X5_pointing l D w σ (o) v2 a2 v26 ho h26) hw_X5_117 hd_X5_pointing ⟨rfl, rfl, rfl⟩ ho.o (ce5 ho.k) rfl ⟨Nat.le_of_ble_eq_true rfl, Nat.le_of_ble_eq_true rfl⟩ ⟨Nat.le_of_ble_eq_true rfl, Nat.le_of_ble_eq_true rfl⟩ hl.1 rfl (Nat.le_of_ble_eq_true rfl) dX5_stepFrom_26 (fun H locs hP hS => ?_)
    refine lv_istore (lv' := [(4, .int v26), (3, .int v2), (0, .ref (w.1 (o))), (1, .int a1), (2, .int a2)]) hx hb dX5_stepFrom_29 hl (by decide) rfl (fun ls hl => ?_)
    refine lv_iload hx hb dX5_stepFrom_31 (lv_at hl 0 rfl) ?_
    refine lv_bipush (v := (-4 : Int32)) hx hb dX5_stepFrom_33 (by decide) ?_
    refine lv_icmp_eq (tgt := 56) hx hb dX5_stepFrom_35 (by decide) (fun hc => ?_) (fun hc => ?_)
    · have hf := ifp hc hf
      refine lv_iload_n hx hb dX5_stepFrom_56 rfl (lv_at hl 3 rfl) ?_
      have hq := Option.some.inj hf
      exact q_iret hx hb hr hlk hP hS hq rfl dX5_stepFrom_57
    · have hf := ifn hc hf
      refine lv_aload_n hx hb dX5_stepFrom_38 rfl (lv_at hl 2 rfl) ?_
      refine gt_X5_12 hx hb hts hown hK hP ho.o ho.k dX5_stepFrom_39 ?_
      refine lv_iload_n hx hb dX5_stepFrom_42 rfl (lv_at hl 3 rfl) ?_
      refine lv_iload hx hb dX5_stepFrom_43 (lv_at hl 0 rfl) ?_
      obtain ⟨v45, h45, hf⟩ := bnd hf
      refine q_cVi (As := [.int a1, .int v26]) hx hb hts hml hown hK hP hS (c_X3_between l D w σ (o + 1) a1 v26 v45 ho.f0 h45) hw_X5_120 hd_X3_between ⟨rfl, rfl, rfl⟩ ho.f0.o (ce3 ho.f0.k) rfl ⟨Nat.le_of_ble_eq_true rfl, Nat.le_of_ble_eq_true rfl⟩ ⟨Nat.le_of_ble_eq_true rfl, Nat.le_of_ble_eq_true rfl⟩ hl.1 rfl (Nat.le_of_ble_eq_true rfl) dX5_stepFrom_45 (fun H locs hP hS => ?_)
      refine lv_if_le (tgt := 56) hx hb dX5_stepFrom_48 (by decide) (fun hc => ?_) (fun hc => ?_)
      · have hf := ifp hc hf
        refine lv_iload_n hx hb dX5_stepFrom_56 rfl (lv_at hl 3 rfl) ?_
        have hq := Option.some.inj hf
        exact q_iret hx hb hr hlk hP hS hq rfl dX5_stepFrom_57
      · have hf := ifn hc hf
        refine lv_iload hx hb dX5_stepFrom_51 (lv_at hl 0 rfl) ?_
        refine lv_goto (tgt := 57) hx hb dX5_stepFrom_53 (by decide) ?_
        have hq := Option.some.inj hf
        exact q_iret hx hb hr hlk hP hS hq rfl dX5_stepFrom_57
  · have hf := ifn (fun h => h hc) hf
    refine lv_aload_n hx hb dX5_stepFrom_12 rfl (lv_at hl 1 rfl) ?_
    refine gt_X5_12 hx hb hts hown hK hP ho.o ho.k dX5_stepFrom_13 ?_
    refine lv_iload_n hx hb dX5_stepFrom_16 rfl (lv_at hl 2 rfl) ?_
    obtain ⟨v17, h17, hf⟩ := bnd hf
    refine q_cVi (As := [.int a1]) hx hb hts hml hown hK hP hS (c_X3_nearest l D w σ (o + 1) a1 v17 ho.f0 h17) hw_X5_114 hd_X3_nearest ⟨rfl, rfl, rfl⟩ ho.f0.o (ce3 ho.f0.k) rfl ⟨Nat.le_of_ble_eq_true rfl, Nat.le_of_ble_eq_true rfl⟩ ⟨Nat.le_of_ble_eq_true rfl, Nat.le_of_ble_eq_true rfl⟩ hl.1 rfl (Nat.le_of_ble_eq_true rfl) dX5_stepFrom_17 (fun H locs hP hS => ?_)
    refine lv_goto (tgt := 29) hx hb dX5_stepFrom_20 (by decide) ?_
    refine lv_istore (lv' := [(4, .int v17), (3, .int v2), (0, .ref (w.1 (o))), (1, .int a1), (2, .int a2)]) hx hb dX5_stepFrom_29 hl (by decide) rfl (fun ls hl => ?_)
    refine lv_iload hx hb dX5_stepFrom_31 (lv_at hl 0 rfl) ?_
    refine lv_bipush (v := (-4 : Int32)) hx hb dX5_stepFrom_33 (by decide) ?_
    refine lv_icmp_eq (tgt := 56) hx hb dX5_stepFrom_35 (by decide) (fun hc => ?_) (fun hc => ?_)
    · have hf := ifp hc hf
      refine lv_iload_n hx hb dX5_stepFrom_56 rfl (lv_at hl 3 rfl) ?_
      have hq := Option.some.inj hf
      exact q_iret hx hb hr hlk hP hS hq rfl dX5_stepFrom_57
    · have hf := ifn hc hf
      refine lv_aload_n hx hb dX5_stepFrom_38 rfl (lv_at hl 2 rfl) ?_
      refine gt_X5_12 hx hb hts hown hK hP ho.o ho.k dX5_stepFrom_39 ?_
      refine lv_iload_n hx hb dX5_stepFrom_42 rfl (lv_at hl 3 rfl) ?_
      refine lv_iload hx hb dX5_stepFrom_43 (lv_at hl 0 rfl) ?_
      obtain ⟨v45, h45, hf⟩ := bnd hf
      refine q_cVi (As := [.int a1, .int v17]) hx hb hts hml hown hK hP hS (c_X3_between l D w σ (o + 1) a1 v17 v45 ho.f0 h45) hw_X5_120 hd_X3_between ⟨rfl, rfl, rfl⟩ ho.f0.o (ce3 ho.f0.k) rfl ⟨Nat.le_of_ble_eq_true rfl, Nat.le_of_ble_eq_true rfl⟩ ⟨Nat.le_of_ble_eq_true rfl, Nat.le_of_ble_eq_true rfl⟩ hl.1 rfl (Nat.le_of_ble_eq_true rfl) dX5_stepFrom_45 (fun H locs hP hS => ?_)
      refine lv_if_le (tgt := 56) hx hb dX5_stepFrom_48 (by decide) (fun hc => ?_) (fun hc => ?_)
      · have hf := ifp hc hf
        refine lv_iload_n hx hb dX5_stepFrom_56 rfl (lv_at hl 3 rfl) ?_
        have hq := Option.some.inj hf
        exact q_iret hx hb hr hlk hP hS hq rfl dX5_stepFrom_57
      · have hf := ifn hc hf
        refine lv_iload hx hb dX5_stepFrom_51 (lv_at hl 0 rfl) ?_
        refine lv_goto (tgt := 57) hx hb dX5_stepFrom_53 (by decide) ?_
        have hq := Option.some.inj hf
        exact q_iret hx hb hr hlk hP hS hq rfl dX5_stepFrom_57
def f_X5_passHours_b1 (o : Nat) (x3_9 : Int32) (σ_9 : Sg) : Option ((Int32 × Sg) ⊕ Sg) :=
  if (σ_9 (o) 6) ≤ x3_9 then
  some (.inr σ_9)
  else
  (f_X0_at σ_9 (o + 12) x3_9 (0 : Int32)).bind fun v23 =>
  (f_X0_at σ_9 (o + 12) x3_9 (1 : Int32)).bind fun v34 =>
  if v23 = v34 then
  some (.inl ((x3_9 + (1 : Int32)), σ_9))
  else
  (f_X5_stepFrom σ_9 (o) v23 v34).bind fun v57 =>
  (f_X0_put σ_9 (o + 12) x3_9 (0 : Int32) v57).bind fun σ60 =>
  some (.inl ((x3_9 + (1 : Int32)), σ60))
def f_X5_passHours_k1 (o : Nat) (x2_2 : Int32) (σ_69 : Sg) : Option ((Int32 × Sg) ⊕ Sg) :=
  (some (sf σ_69 (o) 7 ((σ_69 (o) 7) + (1 : Int32)))).bind fun σ76 =>
  some (.inl ((x2_2 + (1 : Int32)), σ76))
def f_X5_passHours_b2 (o : Nat) (a1 : Int32) (x2_2 : Int32) (σ_2 : Sg) : Option ((Int32 × Sg) ⊕ Sg) :=
  if a1 ≤ x2_2 then
  some (.inr σ_2)
  else
  (lp (fun st => f_X5_passHours_b1 o st.1 st.2) FU ((0 : Int32), σ_2)).bind fun rr => f_X5_passHours_k1 o x2_2 rr
def f_X5_passHours_k2 (σ_85 : Sg) : Option Sg :=
  some σ_85
def f_X5_passHours (σ : Sg) (o : Nat) (a1 : Int32) : Option Sg :=
  (lp (fun st => f_X5_passHours_b2 o a1 st.1 st.2) FU ((0 : Int32), σ)).bind fun rr => f_X5_passHours_k2 rr
set_option maxHeartbeats 4000000 in
set_option maxRecDepth 100000 in
theorem c_X5_passHours (l : Launch) (D : va_G) (w : Wv) (σ : Sg) (o : Nat) (a1 : Int32) (σ' : Sg) (ho : isY o) (hJ : Inj w) (hf : f_X5_passHours σ o a1 = some σ') : Met l yX5_passHours (.code yX5_passHours cX5_passHours 6 none :: TB) (rmW 4 98) (pcW D w [.ref (w.1 (o)), .int a1] σ) (qvW D w σ') 0 0 (AL w) := by
  refine q_open (by decide +kernel) (Nat.le_of_ble_eq_true rfl) ?_
  intro p e s m args below meth c ls hx hb hml hr hlk hown hts hK hP hS hl
  have hown : s.vm.findClass RX5 = some m.cls := hown
  have hl : lv_has ls 6 [(0, .ref (w.1 (o))), (1, .int a1)] := hl
  unfold f_X5_passHours at hf
  refine lv_iconst (v := (0 : Int32)) hx hb dX5_passHours_0 (by decide) ?_
  refine lv_istore_n (lv' := [(2, .int (0 : Int32)), (0, .ref (w.1 (o))), (1, .int a1)]) hx hb dX5_passHours_1 rfl hl (by decide) rfl (fun ls hl => ?_)
  obtain ⟨rr, hlp, hf⟩ := bnd hf
  have hE2_85 : ∀ (σ_85 : Sg) (H : Heap) (locs : List Loc) (ls : Array Slot), f_X5_passHours_k2 σ_85 = some σ' → va_P D vwCl (WL w σ_85) H → va_S (AL w) s.heap H locs → lv_has ls 6 [] → W p l e (rmW 4 98) s m args below meth c H locs 0 0 (MQ below (qvW D w σ') args s 0 0 (AL w)) (F0 m 85 ls []) := by
    intro σ_85 H locs ls hf hP hS hl
    unfold f_X5_passHours_k2 at hf
    have hq := Option.some.inj hf
    exact q_vret hx hb hr hlk hP hS hq dX5_passHours_85
  refine lp_ind (G := fun (st : (Int32 × Sg)) => ∀ (H : Heap) (locs : List Loc) (ls : Array Slot), va_P D vwCl (WL w st.2) H → va_S (AL w) s.heap H locs → lv_has ls 6 [(0, .ref (w.1 (o))), (1, .int a1), (2, .int st.1)] → W p l e (rmW 4 98) s m args below meth c H locs 0 0 (MQ below (qvW D w σ') args s 0 0 (AL w)) (F0 m 2 ls [])) (X := fun rr => f_X5_passHours_k2 rr = some σ') ?_ _ _ rr hlp hf _ _ _ hP hS (lv_sub hl [1, 2, 0] rfl)
  rintro ⟨x2_2, σ_2⟩ oo2 hb9 hG2 hX2 H locs ls hP hS hl
  have hP : va_P D vwCl (WL w σ_2) H := hP
  have hl : lv_has ls 6 [(0, .ref (w.1 (o))), (1, .int a1), (2, .int x2_2)] := hl
  have hf : f_X5_passHours_b2 o a1 x2_2 σ_2 = some oo2 := hb9
  unfold f_X5_passHours_b2 at hf
  refine lv_iload_n hx hb dX5_passHours_2 rfl (lv_at hl 2 rfl) ?_
  refine lv_iload_n hx hb dX5_passHours_3 rfl (lv_at hl 1 rfl) ?_
  refine lv_icmp_ge (tgt := 85) hx hb dX5_passHours_4 (by decide) (fun hc => ?_) (fun hc => ?_)
  · have hf := ifp hc hf
    obtain rfl := Option.some.inj hf
    exact hE2_85 σ_2 _ _ _ (hX2 _ rfl) hP hS (lv_sub hl [] rfl)
  · have hf := ifn hc hf
    refine lv_iconst (v := (0 : Int32)) hx hb dX5_passHours_7 (by decide) ?_
    refine lv_istore_n (lv' := [(3, .int (0 : Int32)), (0, .ref (w.1 (o))), (1, .int a1), (2, .int x2_2)]) hx hb dX5_passHours_8 rfl hl (by decide) rfl (fun ls hl => ?_)
    obtain ⟨rr, hlp, hf⟩ := bnd hf
    have hE9_69 : ∀ (σ_69 : Sg) (H : Heap) (locs : List Loc) (ls : Array Slot), f_X5_passHours_k1 o x2_2 σ_69 = some oo2 → va_P D vwCl (WL w σ_69) H → va_S (AL w) s.heap H locs → lv_has ls 6 [(0, .ref (w.1 (o))), (1, .int a1), (2, .int x2_2)] → W p l e (rmW 4 98) s m args below meth c H locs 0 0 (MQ below (qvW D w σ') args s 0 0 (AL w)) (F0 m 69 ls []) := by
      intro σ_69 H locs ls hf hP hS hl
      unfold f_X5_passHours_k1 at hf
      refine lv_aload_n hx hb dX5_passHours_69 rfl (lv_at hl 0 rfl) ?_
      refine lv_dup hx hb dX5_passHours_70 rfl ?_
      refine gt_X5_50 hx hb hts hown hK hP ho.o ho.k dX5_passHours_71 ?_
      refine lv_iconst (v := (1 : Int32)) hx hb dX5_passHours_74 (by decide) ?_
      refine lv_iadd hx hb dX5_passHours_75 ?_
      obtain ⟨σ76, h76, hf⟩ := bnd hf
      refine pt_X5_50 hx hb hts hown hK hP hJ hS ho.o ho.k h76 dX5_passHours_76 (fun H locs hP hS => ?_)
      refine lv_iinc (v := (x2_2 + (1 : Int32))) (lv' := [(2, .int (x2_2 + (1 : Int32))), (0, .ref (w.1 (o))), (1, .int a1)]) hx hb dX5_passHours_79 hl (k := 2) rfl ii_1 (by decide) rfl (fun ls hl => ?_)
      refine lv_goto (tgt := 2) hx hb dX5_passHours_82 (by decide) ?_
      obtain rfl := Option.some.inj hf
      exact hG2 _ rfl _ _ _ hP hS (lv_sub hl [1, 2, 0] rfl)
    refine lp_ind (G := fun (st : (Int32 × Sg)) => ∀ (H : Heap) (locs : List Loc) (ls : Array Slot), va_P D vwCl (WL w st.2) H → va_S (AL w) s.heap H locs → lv_has ls 6 [(0, .ref (w.1 (o))), (1, .int a1), (2, .int x2_2), (3, .int st.1)] → W p l e (rmW 4 98) s m args below meth c H locs 0 0 (MQ below (qvW D w σ') args s 0 0 (AL w)) (F0 m 9 ls [])) (X := fun rr => f_X5_passHours_k1 o x2_2 rr = some oo2) ?_ _ _ rr hlp hf _ _ _ hP hS (lv_sub hl [1, 2, 3, 0] rfl)
    rintro ⟨x3_9, σ_9⟩ oo9 hb9 hG9 hX9 H locs ls hP hS hl
    have hP : va_P D vwCl (WL w σ_9) H := hP
    have hl : lv_has ls 6 [(0, .ref (w.1 (o))), (1, .int a1), (2, .int x2_2), (3, .int x3_9)] := hl
    have hf : f_X5_passHours_b1 o x3_9 σ_9 = some oo9 := hb9
    unfold f_X5_passHours_b1 at hf
    refine lv_iload_n hx hb dX5_passHours_9 rfl (lv_at hl 3 rfl) ?_
    refine lv_aload_n hx hb dX5_passHours_10 rfl (lv_at hl 0 rfl) ?_
    refine gt_X5_47 hx hb hts hown hK hP ho.o ho.k dX5_passHours_11 ?_
    refine lv_icmp_ge (tgt := 69) hx hb dX5_passHours_14 (by decide) (fun hc => ?_) (fun hc => ?_)
    · have hf := ifp hc hf
      obtain rfl := Option.some.inj hf
      exact hE9_69 σ_9 _ _ _ (hX9 _ rfl) hP hS (lv_sub hl [0, 1, 2] rfl)
    · have hf := ifn hc hf
      refine lv_aload_n hx hb dX5_passHours_17 rfl (lv_at hl 0 rfl) ?_
      refine gt_X5_33 hx hb hts hown hK hP ho.o ho.k dX5_passHours_18 ?_
      refine lv_iload_n hx hb dX5_passHours_21 rfl (lv_at hl 3 rfl) ?_
      refine lv_iconst (v := (0 : Int32)) hx hb dX5_passHours_22 (by decide) ?_
      obtain ⟨v23, h23, hf⟩ := bnd hf
      refine q_cVi (As := [.int x3_9, .int (0 : Int32)]) hx hb hts hml hown hK hP hS (c_X0_at l D w σ_9 (o + 12) x3_9 (0 : Int32) v23 ho.f4 h23) hw_X5_89 hd_X0_at ⟨rfl, rfl, rfl⟩ ho.f4.o (ce0 ho.f4.k) rfl ⟨Nat.le_of_ble_eq_true rfl, Nat.le_of_ble_eq_true rfl⟩ ⟨Nat.le_of_ble_eq_true rfl, Nat.le_of_ble_eq_true rfl⟩ hl.1 rfl (Nat.le_of_ble_eq_true rfl) dX5_passHours_23 (fun H locs hP hS => ?_)
      refine lv_istore (lv' := [(4, .int v23), (0, .ref (w.1 (o))), (1, .int a1), (2, .int x2_2), (3, .int x3_9)]) hx hb dX5_passHours_26 hl (by decide) rfl (fun ls hl => ?_)
      refine lv_aload_n hx hb dX5_passHours_28 rfl (lv_at hl 1 rfl) ?_
      refine gt_X5_33 hx hb hts hown hK hP ho.o ho.k dX5_passHours_29 ?_
      refine lv_iload_n hx hb dX5_passHours_32 rfl (lv_at hl 4 rfl) ?_
      refine lv_iconst (v := (1 : Int32)) hx hb dX5_passHours_33 (by decide) ?_
      obtain ⟨v34, h34, hf⟩ := bnd hf
      refine q_cVi (As := [.int x3_9, .int (1 : Int32)]) hx hb hts hml hown hK hP hS (c_X0_at l D w σ_9 (o + 12) x3_9 (1 : Int32) v34 ho.f4 h34) hw_X5_89 hd_X0_at ⟨rfl, rfl, rfl⟩ ho.f4.o (ce0 ho.f4.k) rfl ⟨Nat.le_of_ble_eq_true rfl, Nat.le_of_ble_eq_true rfl⟩ ⟨Nat.le_of_ble_eq_true rfl, Nat.le_of_ble_eq_true rfl⟩ hl.1 rfl (Nat.le_of_ble_eq_true rfl) dX5_passHours_34 (fun H locs hP hS => ?_)
      refine lv_istore (lv' := [(5, .int v34), (4, .int v23), (0, .ref (w.1 (o))), (1, .int a1), (2, .int x2_2), (3, .int x3_9)]) hx hb dX5_passHours_37 hl (by decide) rfl (fun ls hl => ?_)
      refine lv_iload hx hb dX5_passHours_39 (lv_at hl 1 rfl) ?_
      refine lv_iload hx hb dX5_passHours_41 (lv_at hl 0 rfl) ?_
      refine lv_icmp_eq (tgt := 63) hx hb dX5_passHours_43 (by decide) (fun hc => ?_) (fun hc => ?_)
      · have hf := ifp hc hf
        refine lv_iinc (v := (x3_9 + (1 : Int32))) (lv' := [(3, .int (x3_9 + (1 : Int32))), (5, .int v34), (4, .int v23), (0, .ref (w.1 (o))), (1, .int a1), (2, .int x2_2)]) hx hb dX5_passHours_63 hl (k := 5) rfl ii_1 (by decide) rfl (fun ls hl => ?_)
        refine lv_goto (tgt := 9) hx hb dX5_passHours_66 (by decide) ?_
        obtain rfl := Option.some.inj hf
        exact hG9 _ rfl _ _ _ hP hS (lv_sub hl [3, 4, 5, 0] rfl)
      · have hf := ifn hc hf
        refine lv_aload_n hx hb dX5_passHours_46 rfl (lv_at hl 2 rfl) ?_
        refine gt_X5_33 hx hb hts hown hK hP ho.o ho.k dX5_passHours_47 ?_
        refine lv_iload_n hx hb dX5_passHours_50 rfl (lv_at hl 5 rfl) ?_
        refine lv_iconst (v := (0 : Int32)) hx hb dX5_passHours_51 (by decide) ?_
        refine lv_aload_n hx hb dX5_passHours_52 rfl (lv_at hl 2 rfl) ?_
        refine lv_iload hx hb dX5_passHours_53 (lv_at hl 1 rfl) ?_
        refine lv_iload hx hb dX5_passHours_55 (lv_at hl 0 rfl) ?_
        obtain ⟨v57, h57, hf⟩ := bnd hf
        refine q_cVi (As := [.int v23, .int v34]) hx hb hts hml hown hK hP hS (c_X5_stepFrom l D w σ_9 (o) v23 v34 v57 ho h57) hw_X5_108 hd_X5_stepFrom ⟨rfl, rfl, rfl⟩ ho.o (ce5 ho.k) rfl ⟨Nat.le_of_ble_eq_true rfl, Nat.le_of_ble_eq_true rfl⟩ ⟨Nat.le_of_ble_eq_true rfl, Nat.le_of_ble_eq_true rfl⟩ hl.1 rfl (Nat.le_of_ble_eq_true rfl) dX5_passHours_57 (fun H locs hP hS => ?_)
        obtain ⟨σ60, h60, hf⟩ := bnd hf
        refine q_cVv (As := [.int x3_9, .int (0 : Int32), .int v57]) hx hb hts hml hown hK hP hS (c_X0_put l D w σ_9 (o + 12) x3_9 (0 : Int32) v57 σ60 ho.f4 hJ h60) hw_X5_75 hd_X0_put ⟨rfl, rfl, rfl⟩ ho.f4.o (ce0 ho.f4.k) rfl ⟨Nat.le_of_ble_eq_true rfl, Nat.le_of_ble_eq_true rfl⟩ ⟨Nat.le_of_ble_eq_true rfl, Nat.le_of_ble_eq_true rfl⟩ hl.1 rfl (Nat.le_of_ble_eq_true rfl) dX5_passHours_60 (fun H locs hP hS => ?_)
        refine lv_iinc (v := (x3_9 + (1 : Int32))) (lv' := [(3, .int (x3_9 + (1 : Int32))), (5, .int v34), (4, .int v23), (0, .ref (w.1 (o))), (1, .int a1), (2, .int x2_2)]) hx hb dX5_passHours_63 hl (k := 5) rfl ii_1 (by decide) rfl (fun ls hl => ?_)
        refine lv_goto (tgt := 9) hx hb dX5_passHours_66 (by decide) ?_
        obtain rfl := Option.some.inj hf
        exact hG9 _ rfl _ _ _ hP hS (lv_sub hl [3, 4, 5, 0] rfl)
def f_X5_retirePost_b1 (o : Nat) (a1 : Int32) (x2_13 : Int32) (σ_13 : Sg) : Option ((Int32 × Sg) ⊕ Sg) :=
  if (8 : Int32) ≤ x2_13 then
  some (.inr σ_13)
  else
  (f_X0_put σ_13 (o + 8) a1 x2_13 (-4 : Int32)).bind fun σ27 =>
  (f_X0_put σ27 (o + 10) a1 x2_13 (-4 : Int32)).bind fun σ38 =>
  some (.inl ((x2_13 + (1 : Int32)), σ38))
def f_X5_retirePost_k1 (σ_47 : Sg) : Option Sg :=
  some σ_47
def f_X5_retirePost (σ : Sg) (o : Nat) (a1 : Int32) : Option Sg :=
  (f_X0_put σ (o + 6) a1 (1 : Int32) (-4 : Int32)).bind fun σ8 =>
  (lp (fun st => f_X5_retirePost_b1 o a1 st.1 st.2) FU ((0 : Int32), σ8)).bind fun rr => f_X5_retirePost_k1 rr
set_option maxHeartbeats 4000000 in
set_option maxRecDepth 100000 in
theorem c_X5_retirePost (l : Launch) (D : va_G) (w : Wv) (σ : Sg) (o : Nat) (a1 : Int32) (σ' : Sg) (ho : isY o) (hJ : Inj w) (hf : f_X5_retirePost σ o a1 = some σ') : Met l yX5_retirePost (.code yX5_retirePost cX5_retirePost 3 none :: TB) (rmW 1 24) (pcW D w [.ref (w.1 (o)), .int a1] σ) (qvW D w σ') 0 0 (AL w) := by
  refine q_open (by decide +kernel) (Nat.le_of_ble_eq_true rfl) ?_
  intro p e s m args below meth c ls hx hb hml hr hlk hown hts hK hP hS hl
  have hown : s.vm.findClass RX5 = some m.cls := hown
  have hl : lv_has ls 3 [(0, .ref (w.1 (o))), (1, .int a1)] := hl
  unfold f_X5_retirePost at hf
  refine lv_aload_n hx hb dX5_retirePost_0 rfl (lv_at hl 0 rfl) ?_
  refine gt_X5_23 hx hb hts hown hK hP ho.o ho.k dX5_retirePost_1 ?_
  refine lv_iload_n hx hb dX5_retirePost_4 rfl (lv_at hl 1 rfl) ?_
  refine lv_iconst (v := (1 : Int32)) hx hb dX5_retirePost_5 (by decide) ?_
  refine lv_bipush (v := (-4 : Int32)) hx hb dX5_retirePost_6 (by decide) ?_
  obtain ⟨σ8, h8, hf⟩ := bnd hf
  refine q_cVv (As := [.int a1, .int (1 : Int32), .int (-4 : Int32)]) hx hb hts hml hown hK hP hS (c_X0_put l D w σ (o + 6) a1 (1 : Int32) (-4 : Int32) σ8 ho.f1 hJ h8) hw_X5_75 hd_X0_put ⟨rfl, rfl, rfl⟩ ho.f1.o (ce0 ho.f1.k) rfl ⟨Nat.le_of_ble_eq_true rfl, Nat.le_of_ble_eq_true rfl⟩ ⟨Nat.le_of_ble_eq_true rfl, Nat.le_of_ble_eq_true rfl⟩ hl.1 rfl (Nat.le_of_ble_eq_true rfl) dX5_retirePost_8 (fun H locs hP hS => ?_)
  refine lv_iconst (v := (0 : Int32)) hx hb dX5_retirePost_11 (by decide) ?_
  refine lv_istore_n (lv' := [(2, .int (0 : Int32)), (0, .ref (w.1 (o))), (1, .int a1)]) hx hb dX5_retirePost_12 rfl hl (by decide) rfl (fun ls hl => ?_)
  obtain ⟨rr, hlp, hf⟩ := bnd hf
  have hE13_47 : ∀ (σ_47 : Sg) (H : Heap) (locs : List Loc) (ls : Array Slot), f_X5_retirePost_k1 σ_47 = some σ' → va_P D vwCl (WL w σ_47) H → va_S (AL w) s.heap H locs → lv_has ls 3 [] → W p l e (rmW 1 24) s m args below meth c H locs 0 0 (MQ below (qvW D w σ') args s 0 0 (AL w)) (F0 m 47 ls []) := by
    intro σ_47 H locs ls hf hP hS hl
    unfold f_X5_retirePost_k1 at hf
    have hq := Option.some.inj hf
    exact q_vret hx hb hr hlk hP hS hq dX5_retirePost_47
  refine lp_ind (G := fun (st : (Int32 × Sg)) => ∀ (H : Heap) (locs : List Loc) (ls : Array Slot), va_P D vwCl (WL w st.2) H → va_S (AL w) s.heap H locs → lv_has ls 3 [(0, .ref (w.1 (o))), (1, .int a1), (2, .int st.1)] → W p l e (rmW 1 24) s m args below meth c H locs 0 0 (MQ below (qvW D w σ') args s 0 0 (AL w)) (F0 m 13 ls [])) (X := fun rr => f_X5_retirePost_k1 rr = some σ') ?_ _ _ rr hlp hf _ _ _ hP hS (lv_sub hl [1, 2, 0] rfl)
  rintro ⟨x2_13, σ_13⟩ oo13 hb9 hG13 hX13 H locs ls hP hS hl
  have hP : va_P D vwCl (WL w σ_13) H := hP
  have hl : lv_has ls 3 [(0, .ref (w.1 (o))), (1, .int a1), (2, .int x2_13)] := hl
  have hf : f_X5_retirePost_b1 o a1 x2_13 σ_13 = some oo13 := hb9
  unfold f_X5_retirePost_b1 at hf
  refine lv_iload_n hx hb dX5_retirePost_13 rfl (lv_at hl 2 rfl) ?_
  refine lv_bipush (v := (8 : Int32)) hx hb dX5_retirePost_14 (by decide) ?_
  refine lv_icmp_ge (tgt := 47) hx hb dX5_retirePost_16 (by decide) (fun hc => ?_) (fun hc => ?_)
  · have hf := ifp hc hf
    obtain rfl := Option.some.inj hf
    exact hE13_47 σ_13 _ _ _ (hX13 _ rfl) hP hS (lv_sub hl [] rfl)
  · have hf := ifn hc hf
    refine lv_aload_n hx hb dX5_retirePost_19 rfl (lv_at hl 0 rfl) ?_
    refine gt_X5_27 hx hb hts hown hK hP ho.o ho.k dX5_retirePost_20 ?_
    refine lv_iload_n hx hb dX5_retirePost_23 rfl (lv_at hl 1 rfl) ?_
    refine lv_iload_n hx hb dX5_retirePost_24 rfl (lv_at hl 2 rfl) ?_
    refine lv_bipush (v := (-4 : Int32)) hx hb dX5_retirePost_25 (by decide) ?_
    obtain ⟨σ27, h27, hf⟩ := bnd hf
    refine q_cVv (As := [.int a1, .int x2_13, .int (-4 : Int32)]) hx hb hts hml hown hK hP hS (c_X0_put l D w σ_13 (o + 8) a1 x2_13 (-4 : Int32) σ27 ho.f2 hJ h27) hw_X5_75 hd_X0_put ⟨rfl, rfl, rfl⟩ ho.f2.o (ce0 ho.f2.k) rfl ⟨Nat.le_of_ble_eq_true rfl, Nat.le_of_ble_eq_true rfl⟩ ⟨Nat.le_of_ble_eq_true rfl, Nat.le_of_ble_eq_true rfl⟩ hl.1 rfl (Nat.le_of_ble_eq_true rfl) dX5_retirePost_27 (fun H locs hP hS => ?_)
    refine lv_aload_n hx hb dX5_retirePost_30 rfl (lv_at hl 0 rfl) ?_
    refine gt_X5_30 hx hb hts hown hK hP ho.o ho.k dX5_retirePost_31 ?_
    refine lv_iload_n hx hb dX5_retirePost_34 rfl (lv_at hl 1 rfl) ?_
    refine lv_iload_n hx hb dX5_retirePost_35 rfl (lv_at hl 2 rfl) ?_
    refine lv_bipush (v := (-4 : Int32)) hx hb dX5_retirePost_36 (by decide) ?_
    obtain ⟨σ38, h38, hf⟩ := bnd hf
    refine q_cVv (As := [.int a1, .int x2_13, .int (-4 : Int32)]) hx hb hts hml hown hK hP hS (c_X0_put l D w σ27 (o + 10) a1 x2_13 (-4 : Int32) σ38 ho.f3 hJ h38) hw_X5_75 hd_X0_put ⟨rfl, rfl, rfl⟩ ho.f3.o (ce0 ho.f3.k) rfl ⟨Nat.le_of_ble_eq_true rfl, Nat.le_of_ble_eq_true rfl⟩ ⟨Nat.le_of_ble_eq_true rfl, Nat.le_of_ble_eq_true rfl⟩ hl.1 rfl (Nat.le_of_ble_eq_true rfl) dX5_retirePost_38 (fun H locs hP hS => ?_)
    refine lv_iinc (v := (x2_13 + (1 : Int32))) (lv' := [(2, .int (x2_13 + (1 : Int32))), (0, .ref (w.1 (o))), (1, .int a1)]) hx hb dX5_retirePost_41 hl (k := 2) rfl ii_1 (by decide) rfl (fun ls hl => ?_)
    refine lv_goto (tgt := 13) hx hb dX5_retirePost_44 (by decide) ?_
    obtain rfl := Option.some.inj hf
    exact hG13 _ rfl _ _ _ hP hS (lv_sub hl [1, 2, 0] rfl)
def f_X5_passYear_b1 (o : Nat) (x1_14 : Int32) (x2_14 : Int32) (σ_14 : Sg) : Option ((Int32 × Int32 × Sg) ⊕ (Int32 × Sg)) :=
  if (σ_14 (o) 5) ≤ x2_14 then
  some (.inr (x1_14, σ_14))
  else
  (f_X5_isRetired σ_14 (o) x2_14).bind fun v24 =>
  if ¬ v24 = 0 then
  some (.inl (x1_14, (x2_14 + (1 : Int32)), σ_14))
  else
  (f_X0_at σ_14 (o + 6) x2_14 (2 : Int32)).bind fun v36 =>
  (f_X0_put σ_14 (o + 6) x2_14 (2 : Int32) (v36 + (1 : Int32))).bind fun σ49 =>
  if (v36 + (1 : Int32)) < (60 : Int32) then
  some (.inl (x1_14, (x2_14 + (1 : Int32)), σ49))
  else
  (f_X5_retirePost σ49 (o) x2_14).bind fun σ60 =>
  some (.inl ((x1_14 + (1 : Int32)), (x2_14 + (1 : Int32)), σ60))
def f_X5_passYear_k1 (y1_72 : Int32) (σ_72 : Sg) : Option (Int32 × Sg) :=
  some (y1_72, σ_72)
def f_X5_passYear (σ : Sg) (o : Nat) : Option (Int32 × Sg) :=
  (some (sf σ (o) 8 ((σ (o) 8) + (1 : Int32)))).bind fun σ7 =>
  (lp (fun st => f_X5_passYear_b1 o st.1 st.2.1 st.2.2) FU ((0 : Int32), (0 : Int32), σ7)).bind fun rr => f_X5_passYear_k1 rr.1 rr.2
set_option maxHeartbeats 4000000 in
set_option maxRecDepth 100000 in
theorem c_X5_passYear (l : Launch) (D : va_G) (w : Wv) (σ : Sg) (o : Nat) (r : Int32) (σ' : Sg) (ho : isY o) (hJ : Inj w) (hf : f_X5_passYear σ o = some (r, σ')) : Met l yX5_passYear (.code yX5_passYear cX5_passYear 4 (some .int) :: TB) (rmW 2 46) (pcW D w [.ref (w.1 (o))] σ) (qiW D w r σ') 0 0 (AL w) := by
  refine q_open (by decide +kernel) (Nat.le_of_ble_eq_true rfl) ?_
  intro p e s m args below meth c ls hx hb hml hr hlk hown hts hK hP hS hl
  have hown : s.vm.findClass RX5 = some m.cls := hown
  have hl : lv_has ls 4 [(0, .ref (w.1 (o)))] := hl
  unfold f_X5_passYear at hf
  refine lv_aload_n hx hb dX5_passYear_0 rfl (lv_at hl 0 rfl) ?_
  refine lv_dup hx hb dX5_passYear_1 rfl ?_
  refine gt_X5_53 hx hb hts hown hK hP ho.o ho.k dX5_passYear_2 ?_
  refine lv_iconst (v := (1 : Int32)) hx hb dX5_passYear_5 (by decide) ?_
  refine lv_iadd hx hb dX5_passYear_6 ?_
  obtain ⟨σ7, h7, hf⟩ := bnd hf
  refine pt_X5_53 hx hb hts hown hK hP hJ hS ho.o ho.k h7 dX5_passYear_7 (fun H locs hP hS => ?_)
  refine lv_iconst (v := (0 : Int32)) hx hb dX5_passYear_10 (by decide) ?_
  refine lv_istore_n (lv' := [(1, .int (0 : Int32)), (0, .ref (w.1 (o)))]) hx hb dX5_passYear_11 rfl hl (by decide) rfl (fun ls hl => ?_)
  refine lv_iconst (v := (0 : Int32)) hx hb dX5_passYear_12 (by decide) ?_
  refine lv_istore_n (lv' := [(2, .int (0 : Int32)), (1, .int (0 : Int32)), (0, .ref (w.1 (o)))]) hx hb dX5_passYear_13 rfl hl (by decide) rfl (fun ls hl => ?_)
  obtain ⟨rr, hlp, hf⟩ := bnd hf
  have hE14_72 : ∀ (y1_72 : Int32) (σ_72 : Sg) (H : Heap) (locs : List Loc) (ls : Array Slot), f_X5_passYear_k1 y1_72 σ_72 = some (r, σ') → va_P D vwCl (WL w σ_72) H → va_S (AL w) s.heap H locs → lv_has ls 4 [(1, .int y1_72)] → W p l e (rmW 2 46) s m args below meth c H locs 0 0 (MQ below (qiW D w r σ') args s 0 0 (AL w)) (F0 m 72 ls []) := by
    intro y1_72 σ_72 H locs ls hf hP hS hl
    unfold f_X5_passYear_k1 at hf
    refine lv_iload_n hx hb dX5_passYear_72 rfl (lv_at hl 0 rfl) ?_
    have hq := Option.some.inj hf
    exact q_iret hx hb hr hlk hP hS (congrArg Prod.fst hq) (congrArg Prod.snd hq) dX5_passYear_73
  refine lp_ind (G := fun (st : (Int32 × Int32 × Sg)) => ∀ (H : Heap) (locs : List Loc) (ls : Array Slot), va_P D vwCl (WL w st.2.2) H → va_S (AL w) s.heap H locs → lv_has ls 4 [(0, .ref (w.1 (o))), (1, .int st.1), (2, .int st.2.1)] → W p l e (rmW 2 46) s m args below meth c H locs 0 0 (MQ below (qiW D w r σ') args s 0 0 (AL w)) (F0 m 14 ls [])) (X := fun rr => f_X5_passYear_k1 rr.1 rr.2 = some (r, σ')) ?_ _ _ rr hlp hf _ _ _ hP hS (lv_sub hl [2, 1, 0] rfl)
  rintro ⟨x1_14, x2_14, σ_14⟩ oo14 hb9 hG14 hX14 H locs ls hP hS hl
  have hP : va_P D vwCl (WL w σ_14) H := hP
  have hl : lv_has ls 4 [(0, .ref (w.1 (o))), (1, .int x1_14), (2, .int x2_14)] := hl
  have hf : f_X5_passYear_b1 o x1_14 x2_14 σ_14 = some oo14 := hb9
  unfold f_X5_passYear_b1 at hf
  refine lv_iload_n hx hb dX5_passYear_14 rfl (lv_at hl 2 rfl) ?_
  refine lv_aload_n hx hb dX5_passYear_15 rfl (lv_at hl 0 rfl) ?_
  refine gt_X5_43 hx hb hts hown hK hP ho.o ho.k dX5_passYear_16 ?_
  refine lv_icmp_ge (tgt := 72) hx hb dX5_passYear_19 (by decide) (fun hc => ?_) (fun hc => ?_)
  · have hf := ifp hc hf
    obtain rfl := Option.some.inj hf
    exact hE14_72 x1_14 σ_14 _ _ _ (hX14 _ rfl) hP hS (lv_sub hl [1] rfl)
  · have hf := ifn hc hf
    refine lv_aload_n hx hb dX5_passYear_22 rfl (lv_at hl 0 rfl) ?_
    refine lv_iload_n hx hb dX5_passYear_23 rfl (lv_at hl 2 rfl) ?_
    obtain ⟨v24, h24, hf⟩ := bnd hf
    refine q_cVz (As := [.int x2_14]) hx hb hts hml hown hK hP hS (c_X5_isRetired l D w σ_14 (o) x2_14 v24 ho h24) hw_X5_96 hd_X5_isRetired ⟨rfl, rfl, rfl⟩ ho.o (ce5 ho.k) rfl ⟨Nat.le_of_ble_eq_true rfl, Nat.le_of_ble_eq_true rfl⟩ ⟨Nat.le_of_ble_eq_true rfl, Nat.le_of_ble_eq_true rfl⟩ hl.1 rfl (Nat.le_of_ble_eq_true rfl) dX5_passYear_24 (fun hz24 H locs hP hS => ?_)
    refine lv_if_ne (tgt := 66) hx hb dX5_passYear_27 (by decide) (fun hc => ?_) (fun hc => ?_)
    · have hf := ifp hc hf
      refine lv_iinc (v := (x2_14 + (1 : Int32))) (lv' := [(2, .int (x2_14 + (1 : Int32))), (0, .ref (w.1 (o))), (1, .int x1_14)]) hx hb dX5_passYear_66 hl (k := 2) rfl ii_1 (by decide) rfl (fun ls hl => ?_)
      refine lv_goto (tgt := 14) hx hb dX5_passYear_69 (by decide) ?_
      obtain rfl := Option.some.inj hf
      exact hG14 _ rfl _ _ _ hP hS (lv_sub hl [1, 2, 0] rfl)
    · have hf := ifn (fun h => h hc) hf
      refine lv_aload_n hx hb dX5_passYear_30 rfl (lv_at hl 0 rfl) ?_
      refine gt_X5_23 hx hb hts hown hK hP ho.o ho.k dX5_passYear_31 ?_
      refine lv_iload_n hx hb dX5_passYear_34 rfl (lv_at hl 2 rfl) ?_
      refine lv_iconst (v := (2 : Int32)) hx hb dX5_passYear_35 (by decide) ?_
      obtain ⟨v36, h36, hf⟩ := bnd hf
      refine q_cVi (As := [.int x2_14, .int (2 : Int32)]) hx hb hts hml hown hK hP hS (c_X0_at l D w σ_14 (o + 6) x2_14 (2 : Int32) v36 ho.f1 h36) hw_X5_89 hd_X0_at ⟨rfl, rfl, rfl⟩ ho.f1.o (ce0 ho.f1.k) rfl ⟨Nat.le_of_ble_eq_true rfl, Nat.le_of_ble_eq_true rfl⟩ ⟨Nat.le_of_ble_eq_true rfl, Nat.le_of_ble_eq_true rfl⟩ hl.1 rfl (Nat.le_of_ble_eq_true rfl) dX5_passYear_36 (fun H locs hP hS => ?_)
      refine lv_iconst (v := (1 : Int32)) hx hb dX5_passYear_39 (by decide) ?_
      refine lv_iadd hx hb dX5_passYear_40 ?_
      refine lv_istore_n (lv' := [(3, .int (v36 + (1 : Int32))), (0, .ref (w.1 (o))), (1, .int x1_14), (2, .int x2_14)]) hx hb dX5_passYear_41 rfl hl (by decide) rfl (fun ls hl => ?_)
      refine lv_aload_n hx hb dX5_passYear_42 rfl (lv_at hl 1 rfl) ?_
      refine gt_X5_23 hx hb hts hown hK hP ho.o ho.k dX5_passYear_43 ?_
      refine lv_iload_n hx hb dX5_passYear_46 rfl (lv_at hl 3 rfl) ?_
      refine lv_iconst (v := (2 : Int32)) hx hb dX5_passYear_47 (by decide) ?_
      refine lv_iload_n hx hb dX5_passYear_48 rfl (lv_at hl 0 rfl) ?_
      obtain ⟨σ49, h49, hf⟩ := bnd hf
      refine q_cVv (As := [.int x2_14, .int (2 : Int32), .int (v36 + (1 : Int32))]) hx hb hts hml hown hK hP hS (c_X0_put l D w σ_14 (o + 6) x2_14 (2 : Int32) (v36 + (1 : Int32)) σ49 ho.f1 hJ h49) hw_X5_75 hd_X0_put ⟨rfl, rfl, rfl⟩ ho.f1.o (ce0 ho.f1.k) rfl ⟨Nat.le_of_ble_eq_true rfl, Nat.le_of_ble_eq_true rfl⟩ ⟨Nat.le_of_ble_eq_true rfl, Nat.le_of_ble_eq_true rfl⟩ hl.1 rfl (Nat.le_of_ble_eq_true rfl) dX5_passYear_49 (fun H locs hP hS => ?_)
      refine lv_iload_n hx hb dX5_passYear_52 rfl (lv_at hl 0 rfl) ?_
      refine lv_bipush (v := (60 : Int32)) hx hb dX5_passYear_53 (by decide) ?_
      refine lv_icmp_lt (tgt := 66) hx hb dX5_passYear_55 (by decide) (fun hc => ?_) (fun hc => ?_)
      · have hf := ifp hc hf
        refine lv_iinc (v := (x2_14 + (1 : Int32))) (lv' := [(2, .int (x2_14 + (1 : Int32))), (3, .int (v36 + (1 : Int32))), (0, .ref (w.1 (o))), (1, .int x1_14)]) hx hb dX5_passYear_66 hl (k := 3) rfl ii_1 (by decide) rfl (fun ls hl => ?_)
        refine lv_goto (tgt := 14) hx hb dX5_passYear_69 (by decide) ?_
        obtain rfl := Option.some.inj hf
        exact hG14 _ rfl _ _ _ hP hS (lv_sub hl [2, 3, 0] rfl)
      · have hf := ifn hc hf
        refine lv_aload_n hx hb dX5_passYear_58 rfl (lv_at hl 1 rfl) ?_
        refine lv_iload_n hx hb dX5_passYear_59 rfl (lv_at hl 3 rfl) ?_
        obtain ⟨σ60, h60, hf⟩ := bnd hf
        refine q_cVv (As := [.int x2_14]) hx hb hts hml hown hK hP hS (c_X5_retirePost l D w σ49 (o) x2_14 σ60 ho hJ h60) hw_X5_123 hd_X5_retirePost ⟨rfl, rfl, rfl⟩ ho.o (ce5 ho.k) rfl ⟨Nat.le_of_ble_eq_true rfl, Nat.le_of_ble_eq_true rfl⟩ ⟨Nat.le_of_ble_eq_true rfl, Nat.le_of_ble_eq_true rfl⟩ hl.1 rfl (Nat.le_of_ble_eq_true rfl) dX5_passYear_60 (fun H locs hP hS => ?_)
        refine lv_iinc (v := (x1_14 + (1 : Int32))) (lv' := [(1, .int (x1_14 + (1 : Int32))), (3, .int (v36 + (1 : Int32))), (0, .ref (w.1 (o))), (2, .int x2_14)]) hx hb dX5_passYear_63 hl (k := 2) rfl ii_1 (by decide) rfl (fun ls hl => ?_)
        refine lv_iinc (v := (x2_14 + (1 : Int32))) (lv' := [(2, .int (x2_14 + (1 : Int32))), (1, .int (x1_14 + (1 : Int32))), (3, .int (v36 + (1 : Int32))), (0, .ref (w.1 (o)))]) hx hb dX5_passYear_66 hl (k := 3) rfl ii_1 (by decide) rfl (fun ls hl => ?_)
        refine lv_goto (tgt := 14) hx hb dX5_passYear_69 (by decide) ?_
        obtain rfl := Option.some.inj hf
        exact hG14 _ rfl _ _ _ hP hS (lv_sub hl [3, 1, 0] rfl)
def f_X5_movePost (σ : Sg) (o : Nat) (a1 : Int32) (a2 : Int32) : Option Sg :=
  (f_X0_put σ (o + 6) a1 (1 : Int32) a2).bind fun σ7 =>
  some σ7
set_option maxHeartbeats 4000000 in
set_option maxRecDepth 100000 in
theorem c_X5_movePost (l : Launch) (D : va_G) (w : Wv) (σ : Sg) (o : Nat) (a1 : Int32) (a2 : Int32) (σ' : Sg) (ho : isY o) (hJ : Inj w) (hf : f_X5_movePost σ o a1 a2 = some σ') : Met l yX5_movePost (.code yX5_movePost cX5_movePost 3 none :: TB) (rmW 1 24) (pcW D w [.ref (w.1 (o)), .int a1, .int a2] σ) (qvW D w σ') 0 0 (AL w) := by
  refine q_open (by decide +kernel) (Nat.le_of_ble_eq_true rfl) ?_
  intro p e s m args below meth c ls hx hb hml hr hlk hown hts hK hP hS hl
  have hown : s.vm.findClass RX5 = some m.cls := hown
  have hl : lv_has ls 3 [(0, .ref (w.1 (o))), (1, .int a1), (2, .int a2)] := hl
  unfold f_X5_movePost at hf
  refine lv_aload_n hx hb dX5_movePost_0 rfl (lv_at hl 0 rfl) ?_
  refine gt_X5_23 hx hb hts hown hK hP ho.o ho.k dX5_movePost_1 ?_
  refine lv_iload_n hx hb dX5_movePost_4 rfl (lv_at hl 1 rfl) ?_
  refine lv_iconst (v := (1 : Int32)) hx hb dX5_movePost_5 (by decide) ?_
  refine lv_iload_n hx hb dX5_movePost_6 rfl (lv_at hl 2 rfl) ?_
  obtain ⟨σ7, h7, hf⟩ := bnd hf
  refine q_cVv (As := [.int a1, .int (1 : Int32), .int a2]) hx hb hts hml hown hK hP hS (c_X0_put l D w σ (o + 6) a1 (1 : Int32) a2 σ7 ho.f1 hJ h7) hw_X5_75 hd_X0_put ⟨rfl, rfl, rfl⟩ ho.f1.o (ce0 ho.f1.k) rfl ⟨Nat.le_of_ble_eq_true rfl, Nat.le_of_ble_eq_true rfl⟩ ⟨Nat.le_of_ble_eq_true rfl, Nat.le_of_ble_eq_true rfl⟩ hl.1 rfl (Nat.le_of_ble_eq_true rfl) dX5_movePost_7 (fun H locs hP hS => ?_)
  have hq := Option.some.inj hf
  exact q_vret hx hb hr hlk hP hS hq dX5_movePost_10
def f_X5_turnInto (σ : Sg) (o : Nat) (a1 : Int32) (a2 : Int32) : Option Sg :=
  (f_X0_put σ (o + 6) a1 (0 : Int32) a2).bind fun σ7 =>
  some σ7
set_option maxHeartbeats 4000000 in
set_option maxRecDepth 100000 in
theorem c_X5_turnInto (l : Launch) (D : va_G) (w : Wv) (σ : Sg) (o : Nat) (a1 : Int32) (a2 : Int32) (σ' : Sg) (ho : isY o) (hJ : Inj w) (hf : f_X5_turnInto σ o a1 a2 = some σ') : Met l yX5_turnInto (.code yX5_turnInto cX5_turnInto 3 none :: TB) (rmW 1 24) (pcW D w [.ref (w.1 (o)), .int a1, .int a2] σ) (qvW D w σ') 0 0 (AL w) := by
  refine q_open (by decide +kernel) (Nat.le_of_ble_eq_true rfl) ?_
  intro p e s m args below meth c ls hx hb hml hr hlk hown hts hK hP hS hl
  have hown : s.vm.findClass RX5 = some m.cls := hown
  have hl : lv_has ls 3 [(0, .ref (w.1 (o))), (1, .int a1), (2, .int a2)] := hl
  unfold f_X5_turnInto at hf
  refine lv_aload_n hx hb dX5_turnInto_0 rfl (lv_at hl 0 rfl) ?_
  refine gt_X5_23 hx hb hts hown hK hP ho.o ho.k dX5_turnInto_1 ?_
  refine lv_iload_n hx hb dX5_turnInto_4 rfl (lv_at hl 1 rfl) ?_
  refine lv_iconst (v := (0 : Int32)) hx hb dX5_turnInto_5 (by decide) ?_
  refine lv_iload_n hx hb dX5_turnInto_6 rfl (lv_at hl 2 rfl) ?_
  obtain ⟨σ7, h7, hf⟩ := bnd hf
  refine q_cVv (As := [.int a1, .int (0 : Int32), .int a2]) hx hb hts hml hown hK hP hS (c_X0_put l D w σ (o + 6) a1 (0 : Int32) a2 σ7 ho.f1 hJ h7) hw_X5_75 hd_X0_put ⟨rfl, rfl, rfl⟩ ho.f1.o (ce0 ho.f1.k) rfl ⟨Nat.le_of_ble_eq_true rfl, Nat.le_of_ble_eq_true rfl⟩ ⟨Nat.le_of_ble_eq_true rfl, Nat.le_of_ble_eq_true rfl⟩ hl.1 rfl (Nat.le_of_ble_eq_true rfl) dX5_turnInto_7 (fun H locs hP hS => ?_)
  have hq := Option.some.inj hf
  exact q_vret hx hb hr hlk hP hS hq dX5_turnInto_10
def f_X5_twist (σ : Sg) (o : Nat) (a1 : Int32) : Option Sg :=
  (some (sf σ (o) 9 a1)).bind fun σ2 =>
  some σ2
set_option maxHeartbeats 4000000 in
set_option maxRecDepth 100000 in
theorem c_X5_twist (l : Launch) (D : va_G) (w : Wv) (σ : Sg) (o : Nat) (a1 : Int32) (σ' : Sg) (ho : isY o) (hJ : Inj w) (hf : f_X5_twist σ o a1 = some σ') : Met l yX5_twist (.code yX5_twist cX5_twist 2 none :: TB) (rmW 0 0) (pcW D w [.ref (w.1 (o)), .int a1] σ) (qvW D w σ') 0 0 (AL w) := by
  refine q_open (by decide +kernel) (Nat.le_of_ble_eq_true rfl) ?_
  intro p e s m args below meth c ls hx hb hml hr hlk hown hts hK hP hS hl
  have hown : s.vm.findClass RX5 = some m.cls := hown
  have hl : lv_has ls 2 [(0, .ref (w.1 (o))), (1, .int a1)] := hl
  unfold f_X5_twist at hf
  refine lv_aload_n hx hb dX5_twist_0 rfl (lv_at hl 0 rfl) ?_
  refine lv_iload_n hx hb dX5_twist_1 rfl (lv_at hl 1 rfl) ?_
  obtain ⟨σ2, h2, hf⟩ := bnd hf
  refine pt_X5_56 hx hb hts hown hK hP hJ hS ho.o ho.k h2 dX5_twist_2 (fun H locs hP hS => ?_)
  have hq := Option.some.inj hf
  exact q_vret hx hb hr hlk hP hS hq dX5_twist_5
def f_X5_dropPosts (σ : Sg) (o : Nat) : Option Sg :=
  (some (sf σ (o) 5 (0 : Int32))).bind fun σ2 =>
  some σ2
set_option maxHeartbeats 4000000 in
set_option maxRecDepth 100000 in
theorem c_X5_dropPosts (l : Launch) (D : va_G) (w : Wv) (σ : Sg) (o : Nat) (σ' : Sg) (ho : isY o) (hJ : Inj w) (hf : f_X5_dropPosts σ o = some σ') : Met l yX5_dropPosts (.code yX5_dropPosts cX5_dropPosts 1 none :: TB) (rmW 0 0) (pcW D w [.ref (w.1 (o))] σ) (qvW D w σ') 0 0 (AL w) := by
  refine q_open (by decide +kernel) (Nat.le_of_ble_eq_true rfl) ?_
  intro p e s m args below meth c ls hx hb hml hr hlk hown hts hK hP hS hl
  have hown : s.vm.findClass RX5 = some m.cls := hown
  have hl : lv_has ls 1 [(0, .ref (w.1 (o)))] := hl
  unfold f_X5_dropPosts at hf
  refine lv_aload_n hx hb dX5_dropPosts_0 rfl (lv_at hl 0 rfl) ?_
  refine lv_iconst (v := (0 : Int32)) hx hb dX5_dropPosts_1 (by decide) ?_
  obtain ⟨σ2, h2, hf⟩ := bnd hf
  refine pt_X5_43 hx hb hts hown hK hP hJ hS ho.o ho.k h2 dX5_dropPosts_2 (fun H locs hP hS => ?_)
  have hq := Option.some.inj hf
  exact q_vret hx hb hr hlk hP hS hq dX5_dropPosts_5
def f_X5_standPlain (σ : Sg) (o : Nat) (a1 : Int32) : Option Sg :=
  if (8 : Int32) ≤ (σ (o) 5) then
  some σ
  else
  (f_X0_put σ (o + 6) (σ (o) 5) (0 : Int32) (0 : Int32)).bind fun σ19 =>
  (f_X0_put σ19 (o + 6) (σ19 (o) 5) (1 : Int32) a1).bind fun σ32 =>
  (f_X0_put σ32 (o + 6) (σ32 (o) 5) (2 : Int32) (0 : Int32)).bind fun σ45 =>
  (f_X5_paintPost σ45 (o) (σ45 (o) 5)).bind fun q53 =>
  (some (sf q53.2 (o) 5 ((q53.2 (o) 5) + (1 : Int32)))).bind fun σ64 =>
  some σ64
set_option maxHeartbeats 4000000 in
set_option maxRecDepth 100000 in
theorem c_X5_standPlain (l : Launch) (D : va_G) (w : Wv) (σ : Sg) (o : Nat) (a1 : Int32) (σ' : Sg) (ho : isY o) (hJ : Inj w) (hf : f_X5_standPlain σ o a1 = some σ') : Met l yX5_standPlain (.code yX5_standPlain cX5_standPlain 2 none :: TB) (rmW 3 75) (pcW D w [.ref (w.1 (o)), .int a1] σ) (qvW D w σ') 0 0 (AL w) := by
  refine q_open (by decide +kernel) (Nat.le_of_ble_eq_true rfl) ?_
  intro p e s m args below meth c ls hx hb hml hr hlk hown hts hK hP hS hl
  have hown : s.vm.findClass RX5 = some m.cls := hown
  have hl : lv_has ls 2 [(0, .ref (w.1 (o))), (1, .int a1)] := hl
  unfold f_X5_standPlain at hf
  refine lv_aload_n hx hb dX5_standPlain_0 rfl (lv_at hl 0 rfl) ?_
  refine gt_X5_43 hx hb hts hown hK hP ho.o ho.k dX5_standPlain_1 ?_
  refine lv_bipush (v := (8 : Int32)) hx hb dX5_standPlain_4 (by decide) ?_
  refine lv_icmp_ge (tgt := 67) hx hb dX5_standPlain_6 (by decide) (fun hc => ?_) (fun hc => ?_)
  · have hf := ifp hc hf
    have hq := Option.some.inj hf
    exact q_vret hx hb hr hlk hP hS hq dX5_standPlain_67
  · have hf := ifn hc hf
    refine lv_aload_n hx hb dX5_standPlain_9 rfl (lv_at hl 0 rfl) ?_
    refine gt_X5_23 hx hb hts hown hK hP ho.o ho.k dX5_standPlain_10 ?_
    refine lv_aload_n hx hb dX5_standPlain_13 rfl (lv_at hl 0 rfl) ?_
    refine gt_X5_43 hx hb hts hown hK hP ho.o ho.k dX5_standPlain_14 ?_
    refine lv_iconst (v := (0 : Int32)) hx hb dX5_standPlain_17 (by decide) ?_
    refine lv_iconst (v := (0 : Int32)) hx hb dX5_standPlain_18 (by decide) ?_
    obtain ⟨σ19, h19, hf⟩ := bnd hf
    refine q_cVv (As := [.int (σ (o) 5), .int (0 : Int32), .int (0 : Int32)]) hx hb hts hml hown hK hP hS (c_X0_put l D w σ (o + 6) (σ (o) 5) (0 : Int32) (0 : Int32) σ19 ho.f1 hJ h19) hw_X5_75 hd_X0_put ⟨rfl, rfl, rfl⟩ ho.f1.o (ce0 ho.f1.k) rfl ⟨Nat.le_of_ble_eq_true rfl, Nat.le_of_ble_eq_true rfl⟩ ⟨Nat.le_of_ble_eq_true rfl, Nat.le_of_ble_eq_true rfl⟩ hl.1 rfl (Nat.le_of_ble_eq_true rfl) dX5_standPlain_19 (fun H locs hP hS => ?_)
    refine lv_aload_n hx hb dX5_standPlain_22 rfl (lv_at hl 0 rfl) ?_
    refine gt_X5_23 hx hb hts hown hK hP ho.o ho.k dX5_standPlain_23 ?_
    refine lv_aload_n hx hb dX5_standPlain_26 rfl (lv_at hl 0 rfl) ?_
    refine gt_X5_43 hx hb hts hown hK hP ho.o ho.k dX5_standPlain_27 ?_
    refine lv_iconst (v := (1 : Int32)) hx hb dX5_standPlain_30 (by decide) ?_
    refine lv_iload_n hx hb dX5_standPlain_31 rfl (lv_at hl 1 rfl) ?_
    obtain ⟨σ32, h32, hf⟩ := bnd hf
    refine q_cVv (As := [.int (σ19 (o) 5), .int (1 : Int32), .int a1]) hx hb hts hml hown hK hP hS (c_X0_put l D w σ19 (o + 6) (σ19 (o) 5) (1 : Int32) a1 σ32 ho.f1 hJ h32) hw_X5_75 hd_X0_put ⟨rfl, rfl, rfl⟩ ho.f1.o (ce0 ho.f1.k) rfl ⟨Nat.le_of_ble_eq_true rfl, Nat.le_of_ble_eq_true rfl⟩ ⟨Nat.le_of_ble_eq_true rfl, Nat.le_of_ble_eq_true rfl⟩ hl.1 rfl (Nat.le_of_ble_eq_true rfl) dX5_standPlain_32 (fun H locs hP hS => ?_)
    refine lv_aload_n hx hb dX5_standPlain_35 rfl (lv_at hl 0 rfl) ?_
    refine gt_X5_23 hx hb hts hown hK hP ho.o ho.k dX5_standPlain_36 ?_
    refine lv_aload_n hx hb dX5_standPlain_39 rfl (lv_at hl 0 rfl) ?_
    refine gt_X5_43 hx hb hts hown hK hP ho.o ho.k dX5_standPlain_40 ?_
    refine lv_iconst (v := (2 : Int32)) hx hb dX5_standPlain_43 (by decide) ?_
    refine lv_iconst (v := (0 : Int32)) hx hb dX5_standPlain_44 (by decide) ?_
    obtain ⟨σ45, h45, hf⟩ := bnd hf
    refine q_cVv (As := [.int (σ32 (o) 5), .int (2 : Int32), .int (0 : Int32)]) hx hb hts hml hown hK hP hS (c_X0_put l D w σ32 (o + 6) (σ32 (o) 5) (2 : Int32) (0 : Int32) σ45 ho.f1 hJ h45) hw_X5_75 hd_X0_put ⟨rfl, rfl, rfl⟩ ho.f1.o (ce0 ho.f1.k) rfl ⟨Nat.le_of_ble_eq_true rfl, Nat.le_of_ble_eq_true rfl⟩ ⟨Nat.le_of_ble_eq_true rfl, Nat.le_of_ble_eq_true rfl⟩ hl.1 rfl (Nat.le_of_ble_eq_true rfl) dX5_standPlain_45 (fun H locs hP hS => ?_)
    refine lv_aload_n hx hb dX5_standPlain_48 rfl (lv_at hl 0 rfl) ?_
    refine lv_aload_n hx hb dX5_standPlain_49 rfl (lv_at hl 0 rfl) ?_
    refine gt_X5_43 hx hb hts hown hK hP ho.o ho.k dX5_standPlain_50 ?_
    obtain ⟨⟨v53, σ53⟩, h53, hf⟩ := bnd hf
    dsimp only at hf
    refine q_cVi (As := [.int (σ45 (o) 5)]) hx hb hts hml hown hK hP hS (c_X5_paintPost l D w σ45 (o) (σ45 (o) 5) v53 σ53 ho hJ h53) hw_X5_81 hd_X5_paintPost ⟨rfl, rfl, rfl⟩ ho.o (ce5 ho.k) rfl ⟨Nat.le_of_ble_eq_true rfl, Nat.le_of_ble_eq_true rfl⟩ ⟨Nat.le_of_ble_eq_true rfl, Nat.le_of_ble_eq_true rfl⟩ hl.1 rfl (Nat.le_of_ble_eq_true rfl) dX5_standPlain_53 (fun H locs hP hS => ?_)
    refine lv_pop hx hb dX5_standPlain_56 rfl ?_
    refine lv_aload_n hx hb dX5_standPlain_57 rfl (lv_at hl 0 rfl) ?_
    refine lv_dup hx hb dX5_standPlain_58 rfl ?_
    refine gt_X5_43 hx hb hts hown hK hP ho.o ho.k dX5_standPlain_59 ?_
    refine lv_iconst (v := (1 : Int32)) hx hb dX5_standPlain_62 (by decide) ?_
    refine lv_iadd hx hb dX5_standPlain_63 ?_
    obtain ⟨σ64, h64, hf⟩ := bnd hf
    refine pt_X5_43 hx hb hts hown hK hP hJ hS ho.o ho.k h64 dX5_standPlain_64 (fun H locs hP hS => ?_)
    have hq := Option.some.inj hf
    exact q_vret hx hb hr hlk hP hS hq dX5_standPlain_67
