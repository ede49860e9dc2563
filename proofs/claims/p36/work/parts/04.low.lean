def f_X0_at (σ : Sg) (o : Nat) (a1 : Int32) (a2 : Int32) : Option Int32 :=
  if a2 < 0 then
  some (-4 : Int32)
  else
  if (σ (o) 0) ≤ a2 then
  some (-4 : Int32)
  else
  if ((a1 * (σ (o) 0)) + a2) < 0 then
  some (-4 : Int32)
  else
  if (Int32.ofNat (ln (o + 1))) ≤ ((a1 * (σ (o) 0)) + a2) then
  some (-4 : Int32)
  else
  (ga (σ (o + 1)) (ln (o + 1)) ((a1 * (σ (o) 0)) + a2)).bind fun v51 =>
  some v51
set_option maxHeartbeats 4000000 in
set_option maxRecDepth 100000 in
theorem c_X0_at (l : Launch) (D : va_G) (w : Wv) (σ : Sg) (o : Nat) (a1 : Int32) (a2 : Int32) (r : Int32) (ho : isG o) (hf : f_X0_at σ o a1 a2 = some r) : Met l yX0_at (.code yX0_at cX0_at 5 (some .int) :: TB) (rmW 0 0) (pcW D w [.ref (w.1 (o)), .int a1, .int a2] σ) (qiW D w r σ) 0 0 (AL w) := by
  refine q_open (by decide +kernel) (Nat.le_of_ble_eq_true rfl) ?_
  intro p e s m args below meth c ls hx hb hml hr hlk hown hts hK hP hS hl
  have hown : s.vm.findClass RX0 = some m.cls := hown
  have hl : lv_has ls 5 [(0, .ref (w.1 (o))), (1, .int a1), (2, .int a2)] := hl
  unfold f_X0_at at hf
  refine lv_iload_n hx hb dX0_at_0 rfl (lv_at hl 1 rfl) ?_
  refine lv_aload_n hx hb dX0_at_1 rfl (lv_at hl 0 rfl) ?_
  refine gt_X0_9 hx hb hts hown hK hP ho.o ho.k dX0_at_2 ?_
  refine lv_imul hx hb dX0_at_5 ?_
  refine lv_iload_n hx hb dX0_at_6 rfl (lv_at hl 2 rfl) ?_
  refine lv_iadd hx hb dX0_at_7 ?_
  refine lv_istore_n (lv' := [(3, .int ((a1 * (σ (o) 0)) + a2)), (0, .ref (w.1 (o))), (1, .int a1), (2, .int a2)]) hx hb dX0_at_8 rfl hl (by decide) rfl (fun ls hl => ?_)
  refine lv_iload_n hx hb dX0_at_9 rfl (lv_at hl 3 rfl) ?_
  refine lv_if_lt (tgt := 38) hx hb dX0_at_10 (by decide) (fun hc => ?_) (fun hc => ?_)
  · have hf := ifp hc hf
    refine lv_iconst (v := (0 : Int32)) hx hb dX0_at_38 (by decide) ?_
    refine lv_istore (lv' := [(4, .int (0 : Int32)), (3, .int ((a1 * (σ (o) 0)) + a2)), (0, .ref (w.1 (o))), (1, .int a1), (2, .int a2)]) hx hb dX0_at_39 hl (by decide) rfl (fun ls hl => ?_)
    refine lv_iload hx hb dX0_at_41 (lv_at hl 0 rfl) ?_
    refine lv_if_eq (tgt := 55) hx hb dX0_at_43 (by decide) (fun _ => ?_) (fun hc => absurd (by decide) hc)
    refine lv_bipush (v := (-4 : Int32)) hx hb dX0_at_55 (by decide) ?_
    have hq := Option.some.inj hf
    exact q_iret hx hb hr hlk hP hS hq rfl dX0_at_57
  · have hf := ifn hc hf
    refine lv_iload_n hx hb dX0_at_13 rfl (lv_at hl 3 rfl) ?_
    refine lv_aload_n hx hb dX0_at_14 rfl (lv_at hl 1 rfl) ?_
    refine gt_X0_9 hx hb hts hown hK hP ho.o ho.k dX0_at_15 ?_
    refine lv_icmp_ge (tgt := 38) hx hb dX0_at_18 (by decide) (fun hc => ?_) (fun hc => ?_)
    · have hf := ifp hc hf
      refine lv_iconst (v := (0 : Int32)) hx hb dX0_at_38 (by decide) ?_
      refine lv_istore (lv' := [(4, .int (0 : Int32)), (3, .int ((a1 * (σ (o) 0)) + a2)), (0, .ref (w.1 (o))), (1, .int a1), (2, .int a2)]) hx hb dX0_at_39 hl (by decide) rfl (fun ls hl => ?_)
      refine lv_iload hx hb dX0_at_41 (lv_at hl 0 rfl) ?_
      refine lv_if_eq (tgt := 55) hx hb dX0_at_43 (by decide) (fun _ => ?_) (fun hc => absurd (by decide) hc)
      refine lv_bipush (v := (-4 : Int32)) hx hb dX0_at_55 (by decide) ?_
      have hq := Option.some.inj hf
      exact q_iret hx hb hr hlk hP hS hq rfl dX0_at_57
    · have hf := ifn hc hf
      refine lv_iload_n hx hb dX0_at_21 rfl (lv_at hl 0 rfl) ?_
      refine lv_if_lt (tgt := 38) hx hb dX0_at_22 (by decide) (fun hc => ?_) (fun hc => ?_)
      · have hf := ifp hc hf
        refine lv_iconst (v := (0 : Int32)) hx hb dX0_at_38 (by decide) ?_
        refine lv_istore (lv' := [(4, .int (0 : Int32)), (3, .int ((a1 * (σ (o) 0)) + a2)), (0, .ref (w.1 (o))), (1, .int a1), (2, .int a2)]) hx hb dX0_at_39 hl (by decide) rfl (fun ls hl => ?_)
        refine lv_iload hx hb dX0_at_41 (lv_at hl 0 rfl) ?_
        refine lv_if_eq (tgt := 55) hx hb dX0_at_43 (by decide) (fun _ => ?_) (fun hc => absurd (by decide) hc)
        refine lv_bipush (v := (-4 : Int32)) hx hb dX0_at_55 (by decide) ?_
        have hq := Option.some.inj hf
        exact q_iret hx hb hr hlk hP hS hq rfl dX0_at_57
      · have hf := ifn hc hf
        refine lv_iload_n hx hb dX0_at_25 rfl (lv_at hl 0 rfl) ?_
        refine lv_aload_n hx hb dX0_at_26 rfl (lv_at hl 1 rfl) ?_
        refine gt_X0_24 hx hb hts hown hK hP ho.o ho.k dX0_at_27 ?_
        refine q_alen9 hx hb hK hP ho.ao ho.ak dX0_at_30 ?_
        refine lv_icmp_ge (tgt := 38) hx hb dX0_at_31 (by decide) (fun hc => ?_) (fun hc => ?_)
        · have hf := ifp hc hf
          refine lv_iconst (v := (0 : Int32)) hx hb dX0_at_38 (by decide) ?_
          refine lv_istore (lv' := [(4, .int (0 : Int32)), (3, .int ((a1 * (σ (o) 0)) + a2)), (0, .ref (w.1 (o))), (1, .int a1), (2, .int a2)]) hx hb dX0_at_39 hl (by decide) rfl (fun ls hl => ?_)
          refine lv_iload hx hb dX0_at_41 (lv_at hl 0 rfl) ?_
          refine lv_if_eq (tgt := 55) hx hb dX0_at_43 (by decide) (fun _ => ?_) (fun hc => absurd (by decide) hc)
          refine lv_bipush (v := (-4 : Int32)) hx hb dX0_at_55 (by decide) ?_
          have hq := Option.some.inj hf
          exact q_iret hx hb hr hlk hP hS hq rfl dX0_at_57
        · have hf := ifn hc hf
          refine lv_iconst (v := (1 : Int32)) hx hb dX0_at_34 (by decide) ?_
          refine lv_goto (tgt := 39) hx hb dX0_at_35 (by decide) ?_
          refine lv_istore (lv' := [(4, .int (1 : Int32)), (3, .int ((a1 * (σ (o) 0)) + a2)), (0, .ref (w.1 (o))), (1, .int a1), (2, .int a2)]) hx hb dX0_at_39 hl (by decide) rfl (fun ls hl => ?_)
          refine lv_iload hx hb dX0_at_41 (lv_at hl 0 rfl) ?_
          refine lv_if_eq (tgt := 55) hx hb dX0_at_43 (by decide) (fun hc => absurd hc (by decide)) (fun _ => ?_)
          refine lv_aload_n hx hb dX0_at_46 rfl (lv_at hl 2 rfl) ?_
          refine gt_X0_24 hx hb hts hown hK hP ho.o ho.k dX0_at_47 ?_
          refine lv_iload_n hx hb dX0_at_50 rfl (lv_at hl 1 rfl) ?_
          obtain ⟨v51, h51, hf⟩ := bnd hf
          refine q_iald hx hb hK hP ho.ao ho.ak h51 dX0_at_51 ?_
          refine lv_goto (tgt := 57) hx hb dX0_at_52 (by decide) ?_
          have hq := Option.some.inj hf
          exact q_iret hx hb hr hlk hP hS hq rfl dX0_at_57
def f_X0_put (σ : Sg) (o : Nat) (a1 : Int32) (a2 : Int32) (a3 : Int32) : Option Sg :=
  if a2 < 0 then
  some σ
  else
  if (σ (o) 0) ≤ a2 then
  some σ
  else
  if ((a1 * (σ (o) 0)) + a2) < 0 then
  some σ
  else
  if (Int32.ofNat (ln (o + 1))) ≤ ((a1 * (σ (o) 0)) + a2) then
  some σ
  else
  (sa σ (o + 1) (ln (o + 1)) ((a1 * (σ (o) 0)) + a2) a3).bind fun σ44 =>
  some σ44
set_option maxHeartbeats 4000000 in
set_option maxRecDepth 100000 in
theorem c_X0_put (l : Launch) (D : va_G) (w : Wv) (σ : Sg) (o : Nat) (a1 : Int32) (a2 : Int32) (a3 : Int32) (σ' : Sg) (ho : isG o) (hJ : Inj w) (hf : f_X0_put σ o a1 a2 a3 = some σ') : Met l yX0_put (.code yX0_put cX0_put 5 none :: TB) (rmW 0 0) (pcW D w [.ref (w.1 (o)), .int a1, .int a2, .int a3] σ) (qvW D w σ') 0 0 (AL w) := by
  refine q_open (by decide +kernel) (Nat.le_of_ble_eq_true rfl) ?_
  intro p e s m args below meth c ls hx hb hml hr hlk hown hts hK hP hS hl
  have hown : s.vm.findClass RX0 = some m.cls := hown
  have hl : lv_has ls 5 [(0, .ref (w.1 (o))), (1, .int a1), (2, .int a2), (3, .int a3)] := hl
  unfold f_X0_put at hf
  refine lv_iload_n hx hb dX0_put_0 rfl (lv_at hl 1 rfl) ?_
  refine lv_aload_n hx hb dX0_put_1 rfl (lv_at hl 0 rfl) ?_
  refine gt_X0_9 hx hb hts hown hK hP ho.o ho.k dX0_put_2 ?_
  refine lv_imul hx hb dX0_put_5 ?_
  refine lv_iload_n hx hb dX0_put_6 rfl (lv_at hl 2 rfl) ?_
  refine lv_iadd hx hb dX0_put_7 ?_
  refine lv_istore (lv' := [(4, .int ((a1 * (σ (o) 0)) + a2)), (0, .ref (w.1 (o))), (1, .int a1), (2, .int a2), (3, .int a3)]) hx hb dX0_put_8 hl (by decide) rfl (fun ls hl => ?_)
  refine lv_iload_n hx hb dX0_put_10 rfl (lv_at hl 3 rfl) ?_
  refine lv_if_lt (tgt := 45) hx hb dX0_put_11 (by decide) (fun hc => ?_) (fun hc => ?_)
  · have hf := ifp hc hf
    have hq := Option.some.inj hf
    exact q_vret hx hb hr hlk hP hS hq dX0_put_45
  · have hf := ifn hc hf
    refine lv_iload_n hx hb dX0_put_14 rfl (lv_at hl 3 rfl) ?_
    refine lv_aload_n hx hb dX0_put_15 rfl (lv_at hl 1 rfl) ?_
    refine gt_X0_9 hx hb hts hown hK hP ho.o ho.k dX0_put_16 ?_
    refine lv_icmp_ge (tgt := 45) hx hb dX0_put_19 (by decide) (fun hc => ?_) (fun hc => ?_)
    · have hf := ifp hc hf
      have hq := Option.some.inj hf
      exact q_vret hx hb hr hlk hP hS hq dX0_put_45
    · have hf := ifn hc hf
      refine lv_iload hx hb dX0_put_22 (lv_at hl 0 rfl) ?_
      refine lv_if_lt (tgt := 45) hx hb dX0_put_24 (by decide) (fun hc => ?_) (fun hc => ?_)
      · have hf := ifp hc hf
        have hq := Option.some.inj hf
        exact q_vret hx hb hr hlk hP hS hq dX0_put_45
      · have hf := ifn hc hf
        refine lv_iload hx hb dX0_put_27 (lv_at hl 0 rfl) ?_
        refine lv_aload_n hx hb dX0_put_29 rfl (lv_at hl 1 rfl) ?_
        refine gt_X0_24 hx hb hts hown hK hP ho.o ho.k dX0_put_30 ?_
        refine q_alen9 hx hb hK hP ho.ao ho.ak dX0_put_33 ?_
        refine lv_icmp_ge (tgt := 45) hx hb dX0_put_34 (by decide) (fun hc => ?_) (fun hc => ?_)
        · have hf := ifp hc hf
          have hq := Option.some.inj hf
          exact q_vret hx hb hr hlk hP hS hq dX0_put_45
        · have hf := ifn hc hf
          refine lv_aload_n hx hb dX0_put_37 rfl (lv_at hl 1 rfl) ?_
          refine gt_X0_24 hx hb hts hown hK hP ho.o ho.k dX0_put_38 ?_
          refine lv_iload hx hb dX0_put_41 (lv_at hl 0 rfl) ?_
          refine lv_iload_n hx hb dX0_put_43 rfl (lv_at hl 4 rfl) ?_
          obtain ⟨σ44, h44, hf⟩ := bnd hf
          refine q_iast hx hb hK hP hJ hS ho.ao ho.ak h44 dX0_put_44 (fun H locs hP hS => ?_)
          have hq := Option.some.inj hf
          exact q_vret hx hb hr hlk hP hS hq dX0_put_45
def f_X0_fill_b1 (o : Nat) (a1 : Int32) (x2_2 : Int32) (σ_2 : Sg) : Option ((Int32 × Sg) ⊕ Sg) :=
  if (Int32.ofNat (ln (o + 1))) ≤ x2_2 then
  some (.inr σ_2)
  else
  (sa σ_2 (o + 1) (ln (o + 1)) x2_2 a1).bind fun σ17 =>
  some (.inl ((x2_2 + (1 : Int32)), σ17))
def f_X0_fill_k1 (σ_24 : Sg) : Option Sg :=
  some σ_24
def f_X0_fill (σ : Sg) (o : Nat) (a1 : Int32) : Option Sg :=
  (lp (fun st => f_X0_fill_b1 o a1 st.1 st.2) FU ((0 : Int32), σ)).bind fun rr => f_X0_fill_k1 rr
set_option maxHeartbeats 4000000 in
set_option maxRecDepth 100000 in
theorem c_X0_fill (l : Launch) (D : va_G) (w : Wv) (σ : Sg) (o : Nat) (a1 : Int32) (σ' : Sg) (ho : isG o) (hJ : Inj w) (hf : f_X0_fill σ o a1 = some σ') : Met l yX0_fill (.code yX0_fill cX0_fill 3 none :: TB) (rmW 0 0) (pcW D w [.ref (w.1 (o)), .int a1] σ) (qvW D w σ') 0 0 (AL w) := by
  refine q_open (by decide +kernel) (Nat.le_of_ble_eq_true rfl) ?_
  intro p e s m args below meth c ls hx hb hml hr hlk hown hts hK hP hS hl
  have hown : s.vm.findClass RX0 = some m.cls := hown
  have hl : lv_has ls 3 [(0, .ref (w.1 (o))), (1, .int a1)] := hl
  unfold f_X0_fill at hf
  refine lv_iconst (v := (0 : Int32)) hx hb dX0_fill_0 (by decide) ?_
  refine lv_istore_n (lv' := [(2, .int (0 : Int32)), (0, .ref (w.1 (o))), (1, .int a1)]) hx hb dX0_fill_1 rfl hl (by decide) rfl (fun ls hl => ?_)
  obtain ⟨rr, hlp, hf⟩ := bnd hf
  have hE2_24 : ∀ (σ_24 : Sg) (H : Heap) (locs : List Loc) (ls : Array Slot), f_X0_fill_k1 σ_24 = some σ' → va_P D vwCl (WL w σ_24) H → va_S (AL w) s.heap H locs → lv_has ls 3 [] → W p l e (rmW 0 0) s m args below meth c H locs 0 0 (MQ below (qvW D w σ') args s 0 0 (AL w)) (F0 m 24 ls []) := by
    intro σ_24 H locs ls hf hP hS hl
    unfold f_X0_fill_k1 at hf
    have hq := Option.some.inj hf
    exact q_vret hx hb hr hlk hP hS hq dX0_fill_24
  refine lp_ind (G := fun (st : (Int32 × Sg)) => ∀ (H : Heap) (locs : List Loc) (ls : Array Slot), va_P D vwCl (WL w st.2) H → va_S (AL w) s.heap H locs → lv_has ls 3 [(0, .ref (w.1 (o))), (1, .int a1), (2, .int st.1)] → W p l e (rmW 0 0) s m args below meth c H locs 0 0 (MQ below (qvW D w σ') args s 0 0 (AL w)) (F0 m 2 ls [])) (X := fun rr => f_X0_fill_k1 rr = some σ') ?_ _ _ rr hlp hf _ _ _ hP hS (lv_sub hl [1, 2, 0] rfl)
  rintro ⟨x2_2, σ_2⟩ oo2 hb9 hG2 hX2 H locs ls hP hS hl
  have hP : va_P D vwCl (WL w σ_2) H := hP
  have hl : lv_has ls 3 [(0, .ref (w.1 (o))), (1, .int a1), (2, .int x2_2)] := hl
  have hf : f_X0_fill_b1 o a1 x2_2 σ_2 = some oo2 := hb9
  unfold f_X0_fill_b1 at hf
  refine lv_iload_n hx hb dX0_fill_2 rfl (lv_at hl 2 rfl) ?_
  refine lv_aload_n hx hb dX0_fill_3 rfl (lv_at hl 0 rfl) ?_
  refine gt_X0_24 hx hb hts hown hK hP ho.o ho.k dX0_fill_4 ?_
  refine q_alen9 hx hb hK hP ho.ao ho.ak dX0_fill_7 ?_
  refine lv_icmp_ge (tgt := 24) hx hb dX0_fill_8 (by decide) (fun hc => ?_) (fun hc => ?_)
  · have hf := ifp hc hf
    obtain rfl := Option.some.inj hf
    exact hE2_24 σ_2 _ _ _ (hX2 _ rfl) hP hS (lv_sub hl [] rfl)
  · have hf := ifn hc hf
    refine lv_aload_n hx hb dX0_fill_11 rfl (lv_at hl 0 rfl) ?_
    refine gt_X0_24 hx hb hts hown hK hP ho.o ho.k dX0_fill_12 ?_
    refine lv_iload_n hx hb dX0_fill_15 rfl (lv_at hl 2 rfl) ?_
    refine lv_iload_n hx hb dX0_fill_16 rfl (lv_at hl 1 rfl) ?_
    obtain ⟨σ17, h17, hf⟩ := bnd hf
    refine q_iast hx hb hK hP hJ hS ho.ao ho.ak h17 dX0_fill_17 (fun H locs hP hS => ?_)
    refine lv_iinc (v := (x2_2 + (1 : Int32))) (lv' := [(2, .int (x2_2 + (1 : Int32))), (0, .ref (w.1 (o))), (1, .int a1)]) hx hb dX0_fill_18 hl (k := 2) rfl ii_1 (by decide) rfl (fun ls hl => ?_)
    refine lv_goto (tgt := 2) hx hb dX0_fill_21 (by decide) ?_
    obtain rfl := Option.some.inj hf
    exact hG2 _ rfl _ _ _ hP hS (lv_sub hl [1, 2, 0] rfl)
def f_X0_become (σ : Sg) (o : Nat) (a1 : Nat) : Option Sg :=
  (cp σ (a1 + 1) (o + 1) (0 : Int32) (0 : Int32) (if (Int32.ofNat (ln (a1 + 1))) < (Int32.ofNat (ln (o + 1))) then (Int32.ofNat (ln (a1 + 1))) else (Int32.ofNat (ln (o + 1))))).bind fun σ23 =>
  some σ23
set_option maxHeartbeats 4000000 in
set_option maxRecDepth 100000 in
theorem c_X0_become (l : Launch) (D : va_G) (w : Wv) (σ : Sg) (o : Nat) (a1 : Nat) (σ' : Sg) (ho : isG o) (ha1 : isG a1) (hJ : Inj w) (hf : f_X0_become σ o a1 = some σ') : Met l yX0_become (.code yX0_become cX0_become 2 none :: TB) (rmW 1 22) (pcW D w [.ref (w.1 (o)), .ref (w.1 (a1))] σ) (qvW D w σ') 0 0 (AL w) := by
  refine q_open (by decide +kernel) (Nat.le_of_ble_eq_true rfl) ?_
  intro p e s m args below meth c ls hx hb hml hr hlk hown hts hK hP hS hl
  have hown : s.vm.findClass RX0 = some m.cls := hown
  have hl : lv_has ls 2 [(0, .ref (w.1 (o))), (1, .ref (w.1 (a1)))] := hl
  unfold f_X0_become at hf
  refine lv_aload_n hx hb dX0_become_0 rfl (lv_at hl 1 rfl) ?_
  refine gt_X0_24 hx hb hts hown hK hP ha1.o ha1.k dX0_become_1 ?_
  refine lv_iconst (v := (0 : Int32)) hx hb dX0_become_4 (by decide) ?_
  refine lv_aload_n hx hb dX0_become_5 rfl (lv_at hl 0 rfl) ?_
  refine gt_X0_24 hx hb hts hown hK hP ho.o ho.k dX0_become_6 ?_
  refine lv_iconst (v := (0 : Int32)) hx hb dX0_become_9 (by decide) ?_
  refine lv_aload_n hx hb dX0_become_10 rfl (lv_at hl 0 rfl) ?_
  refine gt_X0_24 hx hb hts hown hK hP ho.o ho.k dX0_become_11 ?_
  refine q_alen9 hx hb hK hP ho.ao ho.ak dX0_become_14 ?_
  refine lv_aload_n hx hb dX0_become_15 rfl (lv_at hl 1 rfl) ?_
  refine gt_X0_24 hx hb hts hown hK hP ha1.o ha1.k dX0_become_16 ?_
  refine q_alen9 hx hb hK hP ha1.ao ha1.ak dX0_become_19 ?_
  refine va_mmin hx hb (hml.trans hl.1.symm) hown (hts _ tw_54) (hts _ tw_55) (hts _ tw_23) (hts _ tw_56) (Nat.le_of_ble_eq_true rfl) (Nat.le_of_ble_eq_true rfl) (Nat.zero_le _) (Nat.zero_le _) dX0_become_20 ?_
  obtain ⟨σ23, h23, hf⟩ := bnd hf
  refine q_copy hx hb (hml.trans hl.1.symm) hts hown ⟨tw_383, tw_385, tw_384, tw_32⟩ hK hP hJ hS ha1.ao ha1.ak ho.ao ho.ak h23 (Nat.le_of_ble_eq_true rfl) (Nat.le_of_ble_eq_true rfl) dX0_become_23 (fun H locs hP hS => ?_)
  have hq := Option.some.inj hf
  exact q_vret hx hb hr hlk hP hS hq dX0_become_26
def f_X1_length (σ : Sg) (o : Nat) : Option Int32 :=
  some (σ (o) 2)
set_option maxHeartbeats 4000000 in
set_option maxRecDepth 100000 in
theorem c_X1_length (l : Launch) (D : va_G) (w : Wv) (σ : Sg) (o : Nat) (r : Int32) (ho : isL o) (hf : f_X1_length σ o = some r) : Met l yX1_length (.code yX1_length cX1_length 1 (some .int) :: TB) (rmW 0 0) (pcW D w [.ref (w.1 (o))] σ) (qiW D w r σ) 0 0 (AL w) := by
  refine q_open (by decide +kernel) (Nat.le_of_ble_eq_true rfl) ?_
  intro p e s m args below meth c ls hx hb hml hr hlk hown hts hK hP hS hl
  have hown : s.vm.findClass RX1 = some m.cls := hown
  have hl : lv_has ls 1 [(0, .ref (w.1 (o)))] := hl
  unfold f_X1_length at hf
  refine lv_aload_n hx hb dX1_length_0 rfl (lv_at hl 0 rfl) ?_
  refine gt_X1_23 hx hb hts hown hK hP ho.o ho.k dX1_length_1 ?_
  have hq := Option.some.inj hf
  exact q_iret hx hb hr hlk hP hS hq rfl dX1_length_4
def f_X1_append (σ : Sg) (o : Nat) (a1 : Int32) : Option (Int32 × Sg) :=
  if (σ (o) 2) < (200 : Int32) then
  (f_X0_put σ (o + 1) (0 : Int32) (σ (o) 2) a1).bind fun σ23 =>
  (some (sf σ23 (o) 2 ((σ23 (o) 2) + (1 : Int32)))).bind fun σ33 =>
  some ((σ33 (o) 2), σ33)
  else
  some ((-3 : Int32), σ)
set_option maxHeartbeats 4000000 in
set_option maxRecDepth 100000 in
theorem c_X1_append (l : Launch) (D : va_G) (w : Wv) (σ : Sg) (o : Nat) (a1 : Int32) (r : Int32) (σ' : Sg) (ho : isL o) (hJ : Inj w) (hf : f_X1_append σ o a1 = some (r, σ')) : Met l yX1_append (.code yX1_append cX1_append 2 (some .int) :: TB) (rmW 1 24) (pcW D w [.ref (w.1 (o)), .int a1] σ) (qiW D w r σ') 0 0 (AL w) := by
  refine q_open (by decide +kernel) (Nat.le_of_ble_eq_true rfl) ?_
  intro p e s m args below meth c ls hx hb hml hr hlk hown hts hK hP hS hl
  have hown : s.vm.findClass RX1 = some m.cls := hown
  have hl : lv_has ls 2 [(0, .ref (w.1 (o))), (1, .int a1)] := hl
  unfold f_X1_append at hf
  refine lv_aload_n hx hb dX1_append_0 rfl (lv_at hl 0 rfl) ?_
  refine gt_X1_23 hx hb hts hown hK hP ho.o ho.k dX1_append_1 ?_
  refine lv_sipush (v := (200 : Int32)) hx hb dX1_append_4 (by decide) ?_
  refine lv_icmp_lt (tgt := 13) hx hb dX1_append_7 (by decide) (fun hc => ?_) (fun hc => ?_)
  · have hf := ifp hc hf
    refine lv_aload_n hx hb dX1_append_13 rfl (lv_at hl 0 rfl) ?_
    refine gt_X1_14 hx hb hts hown hK hP ho.o ho.k dX1_append_14 ?_
    refine lv_iconst (v := (0 : Int32)) hx hb dX1_append_17 (by decide) ?_
    refine lv_aload_n hx hb dX1_append_18 rfl (lv_at hl 0 rfl) ?_
    refine gt_X1_23 hx hb hts hown hK hP ho.o ho.k dX1_append_19 ?_
    refine lv_iload_n hx hb dX1_append_22 rfl (lv_at hl 1 rfl) ?_
    obtain ⟨σ23, h23, hf⟩ := bnd hf
    refine q_cVv (As := [.int (0 : Int32), .int (σ (o) 2), .int a1]) hx hb hts hml hown hK hP hS (c_X0_put l D w σ (o + 1) (0 : Int32) (σ (o) 2) a1 σ23 ho.f0 hJ h23) hw_X1_27 hd_X0_put ⟨rfl, rfl, rfl⟩ ho.f0.o (ce0 ho.f0.k) rfl ⟨Nat.le_of_ble_eq_true rfl, Nat.le_of_ble_eq_true rfl⟩ ⟨Nat.le_of_ble_eq_true rfl, Nat.le_of_ble_eq_true rfl⟩ hl.1 rfl (Nat.le_of_ble_eq_true rfl) dX1_append_23 (fun H locs hP hS => ?_)
    refine lv_aload_n hx hb dX1_append_26 rfl (lv_at hl 0 rfl) ?_
    refine lv_dup hx hb dX1_append_27 rfl ?_
    refine gt_X1_23 hx hb hts hown hK hP ho.o ho.k dX1_append_28 ?_
    refine lv_iconst (v := (1 : Int32)) hx hb dX1_append_31 (by decide) ?_
    refine lv_iadd hx hb dX1_append_32 ?_
    obtain ⟨σ33, h33, hf⟩ := bnd hf
    refine pt_X1_23 hx hb hts hown hK hP hJ hS ho.o ho.k h33 dX1_append_33 (fun H locs hP hS => ?_)
    refine lv_aload_n hx hb dX1_append_36 rfl (lv_at hl 0 rfl) ?_
    refine gt_X1_23 hx hb hts hown hK hP ho.o ho.k dX1_append_37 ?_
    have hq := Option.some.inj hf
    exact q_iret hx hb hr hlk hP hS (congrArg Prod.fst hq) (congrArg Prod.snd hq) dX1_append_40
  · have hf := ifn hc hf
    refine lv_bipush (v := (-3 : Int32)) hx hb dX1_append_10 (by decide) ?_
    have hq := Option.some.inj hf
    exact q_iret hx hb hr hlk hP hS (congrArg Prod.fst hq) (congrArg Prod.snd hq) dX1_append_12
def f_X1_empty (σ : Sg) (o : Nat) : Option (Int32 × Sg) :=
  (some (sf σ (o) 2 (0 : Int32))).bind fun σ7 =>
  some ((σ (o) 2), σ7)
set_option maxHeartbeats 4000000 in
set_option maxRecDepth 100000 in
theorem c_X1_empty (l : Launch) (D : va_G) (w : Wv) (σ : Sg) (o : Nat) (r : Int32) (σ' : Sg) (ho : isL o) (hJ : Inj w) (hf : f_X1_empty σ o = some (r, σ')) : Met l yX1_empty (.code yX1_empty cX1_empty 2 (some .int) :: TB) (rmW 0 0) (pcW D w [.ref (w.1 (o))] σ) (qiW D w r σ') 0 0 (AL w) := by
  refine q_open (by decide +kernel) (Nat.le_of_ble_eq_true rfl) ?_
  intro p e s m args below meth c ls hx hb hml hr hlk hown hts hK hP hS hl
  have hown : s.vm.findClass RX1 = some m.cls := hown
  have hl : lv_has ls 2 [(0, .ref (w.1 (o)))] := hl
  unfold f_X1_empty at hf
  refine lv_aload_n hx hb dX1_empty_0 rfl (lv_at hl 0 rfl) ?_
  refine gt_X1_23 hx hb hts hown hK hP ho.o ho.k dX1_empty_1 ?_
  refine lv_istore_n (lv' := [(1, .int (σ (o) 2)), (0, .ref (w.1 (o)))]) hx hb dX1_empty_4 rfl hl (by decide) rfl (fun ls hl => ?_)
  refine lv_aload_n hx hb dX1_empty_5 rfl (lv_at hl 1 rfl) ?_
  refine lv_iconst (v := (0 : Int32)) hx hb dX1_empty_6 (by decide) ?_
  obtain ⟨σ7, h7, hf⟩ := bnd hf
  refine pt_X1_23 hx hb hts hown hK hP hJ hS ho.o ho.k h7 dX1_empty_7 (fun H locs hP hS => ?_)
  refine lv_iload_n hx hb dX1_empty_10 rfl (lv_at hl 0 rfl) ?_
  have hq := Option.some.inj hf
  exact q_iret hx hb hr hlk hP hS (congrArg Prod.fst hq) (congrArg Prod.snd hq) dX1_empty_11
def f_X3_clear (σ : Sg) (o : Nat) (a1 : Int32) : Option Sg :=
  (some (sf σ (o) 0 (if (0 : Int32) < (if (8 : Int32) < a1 then (8 : Int32) else a1) then (if (8 : Int32) < a1 then (8 : Int32) else a1) else (0 : Int32)))).bind fun σ11 =>
  (f_X0_fill σ11 (o + 1) (0 : Int32)).bind fun σ19 =>
  some σ19
set_option maxHeartbeats 4000000 in
set_option maxRecDepth 100000 in
theorem c_X3_clear (l : Launch) (D : va_G) (w : Wv) (σ : Sg) (o : Nat) (a1 : Int32) (σ' : Sg) (ho : isR o) (hJ : Inj w) (hf : f_X3_clear σ o a1 = some σ') : Met l yX3_clear (.code yX3_clear cX3_clear 2 none :: TB) (rmW 1 22) (pcW D w [.ref (w.1 (o)), .int a1] σ) (qvW D w σ') 0 0 (AL w) := by
  refine q_open (by decide +kernel) (Nat.le_of_ble_eq_true rfl) ?_
  intro p e s m args below meth c ls hx hb hml hr hlk hown hts hK hP hS hl
  have hown : s.vm.findClass RX3 = some m.cls := hown
  have hl : lv_has ls 2 [(0, .ref (w.1 (o))), (1, .int a1)] := hl
  unfold f_X3_clear at hf
  refine lv_aload_n hx hb dX3_clear_0 rfl (lv_at hl 0 rfl) ?_
  refine lv_iconst (v := (0 : Int32)) hx hb dX3_clear_1 (by decide) ?_
  refine lv_iload_n hx hb dX3_clear_2 rfl (lv_at hl 1 rfl) ?_
  refine lv_bipush (v := (8 : Int32)) hx hb dX3_clear_3 (by decide) ?_
  refine va_mmin hx hb (hml.trans hl.1.symm) hown (hts _ tw_243) (hts _ tw_55) (hts _ tw_23) (hts _ tw_56) (Nat.le_of_ble_eq_true rfl) (Nat.le_of_ble_eq_true rfl) (Nat.zero_le _) (Nat.zero_le _) dX3_clear_5 ?_
  refine va_mmax hx hb (hml.trans hl.1.symm) hown (hts _ tw_244) (hts _ tw_58) (hts _ tw_23) (hts _ tw_59) (Nat.le_of_ble_eq_true rfl) (Nat.le_of_ble_eq_true rfl) (Nat.zero_le _) (Nat.zero_le _) dX3_clear_8 ?_
  obtain ⟨σ11, h11, hf⟩ := bnd hf
  refine pt_X3_9 hx hb hts hown hK hP hJ hS ho.o ho.k h11 dX3_clear_11 (fun H locs hP hS => ?_)
  refine lv_aload_n hx hb dX3_clear_14 rfl (lv_at hl 0 rfl) ?_
  refine gt_X3_20 hx hb hts hown hK hP ho.o ho.k dX3_clear_15 ?_
  refine lv_iconst (v := (0 : Int32)) hx hb dX3_clear_18 (by decide) ?_
  obtain ⟨σ19, h19, hf⟩ := bnd hf
  refine q_cVv (As := [.int (0 : Int32)]) hx hb hts hml hown hK hP hS (c_X0_fill l D w σ11 (o + 1) (0 : Int32) σ19 ho.f1 hJ h19) hw_X3_40 hd_X0_fill ⟨rfl, rfl, rfl⟩ ho.f1.o (ce0 ho.f1.k) rfl ⟨Nat.le_of_ble_eq_true rfl, Nat.le_of_ble_eq_true rfl⟩ ⟨Nat.le_of_ble_eq_true rfl, Nat.le_of_ble_eq_true rfl⟩ hl.1 rfl (Nat.le_of_ble_eq_true rfl) dX3_clear_19 (fun H locs hP hS => ?_)
  have hq := Option.some.inj hf
  exact q_vret hx hb hr hlk hP hS hq dX3_clear_22
def f_X1_letterHere (σ : Sg) (o : Nat) : Option Int32 :=
  if (σ (o) 2) ≤ (σ (o) 3) then
  some (-4 : Int32)
  else
  (f_X0_at σ (o + 1) (0 : Int32) (σ (o) 3)).bind fun v20 =>
  some v20
set_option maxHeartbeats 4000000 in
set_option maxRecDepth 100000 in
theorem c_X1_letterHere (l : Launch) (D : va_G) (w : Wv) (σ : Sg) (o : Nat) (r : Int32) (ho : isL o) (hf : f_X1_letterHere σ o = some r) : Met l yX1_letterHere (.code yX1_letterHere cX1_letterHere 1 (some .int) :: TB) (rmW 1 24) (pcW D w [.ref (w.1 (o))] σ) (qiW D w r σ) 0 0 (AL w) := by
  refine q_open (by decide +kernel) (Nat.le_of_ble_eq_true rfl) ?_
  intro p e s m args below meth c ls hx hb hml hr hlk hown hts hK hP hS hl
  have hown : s.vm.findClass RX1 = some m.cls := hown
  have hl : lv_has ls 1 [(0, .ref (w.1 (o)))] := hl
  unfold f_X1_letterHere at hf
  refine lv_aload_n hx hb dX1_letterHere_0 rfl (lv_at hl 0 rfl) ?_
  refine gt_X1_36 hx hb hts hown hK hP ho.o ho.k dX1_letterHere_1 ?_
  refine lv_aload_n hx hb dX1_letterHere_4 rfl (lv_at hl 0 rfl) ?_
  refine gt_X1_23 hx hb hts hown hK hP ho.o ho.k dX1_letterHere_5 ?_
  refine lv_icmp_ge (tgt := 26) hx hb dX1_letterHere_8 (by decide) (fun hc => ?_) (fun hc => ?_)
  · have hf := ifp hc hf
    refine lv_bipush (v := (-4 : Int32)) hx hb dX1_letterHere_26 (by decide) ?_
    have hq := Option.some.inj hf
    exact q_iret hx hb hr hlk hP hS hq rfl dX1_letterHere_28
  · have hf := ifn hc hf
    refine lv_aload_n hx hb dX1_letterHere_11 rfl (lv_at hl 0 rfl) ?_
    refine gt_X1_14 hx hb hts hown hK hP ho.o ho.k dX1_letterHere_12 ?_
    refine lv_iconst (v := (0 : Int32)) hx hb dX1_letterHere_15 (by decide) ?_
    refine lv_aload_n hx hb dX1_letterHere_16 rfl (lv_at hl 0 rfl) ?_
    refine gt_X1_36 hx hb hts hown hK hP ho.o ho.k dX1_letterHere_17 ?_
    obtain ⟨v20, h20, hf⟩ := bnd hf
    refine q_cVi (As := [.int (0 : Int32), .int (σ (o) 3)]) hx hb hts hml hown hK hP hS (c_X0_at l D w σ (o + 1) (0 : Int32) (σ (o) 3) v20 ho.f0 h20) hw_X1_55 hd_X0_at ⟨rfl, rfl, rfl⟩ ho.f0.o (ce0 ho.f0.k) rfl ⟨Nat.le_of_ble_eq_true rfl, Nat.le_of_ble_eq_true rfl⟩ ⟨Nat.le_of_ble_eq_true rfl, Nat.le_of_ble_eq_true rfl⟩ hl.1 rfl (Nat.le_of_ble_eq_true rfl) dX1_letterHere_20 (fun H locs hP hS => ?_)
    refine lv_goto (tgt := 28) hx hb dX1_letterHere_23 (by decide) ?_
    have hq := Option.some.inj hf
    exact q_iret hx hb hr hlk hP hS hq rfl dX1_letterHere_28
def f_X1_numbersBehind (σ : Sg) (a1 : Int32) : Option Int32 :=
  if a1 = (110 : Int32) then
  some (1 : Int32)
  else if a1 = (111 : Int32) then
  some (0 : Int32)
  else if a1 = (112 : Int32) then
  some (3 : Int32)
  else if a1 = (113 : Int32) then
  some (0 : Int32)
  else if a1 = (114 : Int32) then
  some (3 : Int32)
  else if a1 = (115 : Int32) then
  some (0 : Int32)
  else if a1 = (116 : Int32) then
  some (0 : Int32)
  else if a1 = (117 : Int32) then
  some (0 : Int32)
  else if a1 = (118 : Int32) then
  some (0 : Int32)
  else if a1 = (119 : Int32) then
  some (2 : Int32)
  else some (0 : Int32)
set_option maxHeartbeats 4000000 in
set_option maxRecDepth 100000 in
theorem c_X1_numbersBehind (l : Launch) (D : va_G) (w : Wv) (σ : Sg) (a1 : Int32) (r : Int32)  (hf : f_X1_numbersBehind σ a1 = some r) : Met l yX1_numbersBehind (.code yX1_numbersBehind cX1_numbersBehind 1 (some .int) :: TB) (rmW 0 0) (pcW D w [.int a1] σ) (qiW D w r σ) 0 0 (AL w) := by
  refine q_open (by decide +kernel) (Nat.le_of_ble_eq_true rfl) ?_
  intro p e s m args below meth c ls hx hb hml hr hlk hown hts hK hP hS hl
  have hown : s.vm.findClass RX1 = some m.cls := hown
  have hl : lv_has ls 1 [(0, .int a1)] := hl
  unfold f_X1_numbersBehind at hf
  refine lv_iload_n hx hb dX1_numbersBehind_0 rfl (lv_at hl 0 rfl) ?_
  rcases Decidable.em (a1 = (110 : Int32)) with hc | hc110
  · have hf := ifp hc hf
    refine lv_tableIn (off := 55) (tgt := 56) hx hb dX1_numbersBehind_1 (by rw [hc]; decide) (by rw [hc]; decide) (by rw [hc]; rfl) (by decide) ?_
    refine lv_iconst (v := (1 : Int32)) hx hb dX1_numbersBehind_56 (by decide) ?_
    have hq := Option.some.inj hf
    exact q_iret hx hb hr hlk hP hS hq rfl dX1_numbersBehind_57
  have hf := ifn hc110 hf
  rcases Decidable.em (a1 = (111 : Int32)) with hc | hc111
  · have hf := ifp hc hf
    refine lv_tableIn (off := 63) (tgt := 64) hx hb dX1_numbersBehind_1 (by rw [hc]; decide) (by rw [hc]; decide) (by rw [hc]; rfl) (by decide) ?_
    refine lv_iconst (v := (0 : Int32)) hx hb dX1_numbersBehind_64 (by decide) ?_
    have hq := Option.some.inj hf
    exact q_iret hx hb hr hlk hP hS hq rfl dX1_numbersBehind_65
  have hf := ifn hc111 hf
  rcases Decidable.em (a1 = (112 : Int32)) with hc | hc112
  · have hf := ifp hc hf
    refine lv_tableIn (off := 59) (tgt := 60) hx hb dX1_numbersBehind_1 (by rw [hc]; decide) (by rw [hc]; decide) (by rw [hc]; rfl) (by decide) ?_
    refine lv_iconst (v := (3 : Int32)) hx hb dX1_numbersBehind_60 (by decide) ?_
    have hq := Option.some.inj hf
    exact q_iret hx hb hr hlk hP hS hq rfl dX1_numbersBehind_61
  have hf := ifn hc112 hf
  rcases Decidable.em (a1 = (113 : Int32)) with hc | hc113
  · have hf := ifp hc hf
    refine lv_tableIn (off := 63) (tgt := 64) hx hb dX1_numbersBehind_1 (by rw [hc]; decide) (by rw [hc]; decide) (by rw [hc]; rfl) (by decide) ?_
    refine lv_iconst (v := (0 : Int32)) hx hb dX1_numbersBehind_64 (by decide) ?_
    have hq := Option.some.inj hf
    exact q_iret hx hb hr hlk hP hS hq rfl dX1_numbersBehind_65
  have hf := ifn hc113 hf
  rcases Decidable.em (a1 = (114 : Int32)) with hc | hc114
  · have hf := ifp hc hf
    refine lv_tableIn (off := 57) (tgt := 58) hx hb dX1_numbersBehind_1 (by rw [hc]; decide) (by rw [hc]; decide) (by rw [hc]; rfl) (by decide) ?_
    refine lv_iconst (v := (3 : Int32)) hx hb dX1_numbersBehind_58 (by decide) ?_
    have hq := Option.some.inj hf
    exact q_iret hx hb hr hlk hP hS hq rfl dX1_numbersBehind_59
  have hf := ifn hc114 hf
  rcases Decidable.em (a1 = (115 : Int32)) with hc | hc115
  · have hf := ifp hc hf
    refine lv_tableIn (off := 63) (tgt := 64) hx hb dX1_numbersBehind_1 (by rw [hc]; decide) (by rw [hc]; decide) (by rw [hc]; rfl) (by decide) ?_
    refine lv_iconst (v := (0 : Int32)) hx hb dX1_numbersBehind_64 (by decide) ?_
    have hq := Option.some.inj hf
    exact q_iret hx hb hr hlk hP hS hq rfl dX1_numbersBehind_65
  have hf := ifn hc115 hf
  rcases Decidable.em (a1 = (116 : Int32)) with hc | hc116
  · have hf := ifp hc hf
    refine lv_tableIn (off := 63) (tgt := 64) hx hb dX1_numbersBehind_1 (by rw [hc]; decide) (by rw [hc]; decide) (by rw [hc]; rfl) (by decide) ?_
    refine lv_iconst (v := (0 : Int32)) hx hb dX1_numbersBehind_64 (by decide) ?_
    have hq := Option.some.inj hf
    exact q_iret hx hb hr hlk hP hS hq rfl dX1_numbersBehind_65
  have hf := ifn hc116 hf
  rcases Decidable.em (a1 = (117 : Int32)) with hc | hc117
  · have hf := ifp hc hf
    refine lv_tableIn (off := 63) (tgt := 64) hx hb dX1_numbersBehind_1 (by rw [hc]; decide) (by rw [hc]; decide) (by rw [hc]; rfl) (by decide) ?_
    refine lv_iconst (v := (0 : Int32)) hx hb dX1_numbersBehind_64 (by decide) ?_
    have hq := Option.some.inj hf
    exact q_iret hx hb hr hlk hP hS hq rfl dX1_numbersBehind_65
  have hf := ifn hc117 hf
  rcases Decidable.em (a1 = (118 : Int32)) with hc | hc118
  · have hf := ifp hc hf
    refine lv_tableIn (off := 63) (tgt := 64) hx hb dX1_numbersBehind_1 (by rw [hc]; decide) (by rw [hc]; decide) (by rw [hc]; rfl) (by decide) ?_
    refine lv_iconst (v := (0 : Int32)) hx hb dX1_numbersBehind_64 (by decide) ?_
    have hq := Option.some.inj hf
    exact q_iret hx hb hr hlk hP hS hq rfl dX1_numbersBehind_65
  have hf := ifn hc118 hf
  rcases Decidable.em (a1 = (119 : Int32)) with hc | hc119
  · have hf := ifp hc hf
    refine lv_tableIn (off := 61) (tgt := 62) hx hb dX1_numbersBehind_1 (by rw [hc]; decide) (by rw [hc]; decide) (by rw [hc]; rfl) (by decide) ?_
    refine lv_iconst (v := (2 : Int32)) hx hb dX1_numbersBehind_62 (by decide) ?_
    have hq := Option.some.inj hf
    exact q_iret hx hb hr hlk hP hS hq rfl dX1_numbersBehind_63
  have hf := ifn hc119 hf
  refine lv_tableOut (tgt := 64) hx hb dX1_numbersBehind_1 (tb_out_110_119 hc110 hc111 hc112 hc113 hc114 hc115 hc116 hc117 hc118 hc119) (by decide) ?_
  refine lv_iconst (v := (0 : Int32)) hx hb dX1_numbersBehind_64 (by decide) ?_
  have hq := Option.some.inj hf
  exact q_iret hx hb hr hlk hP hS hq rfl dX1_numbersBehind_65
def f_X1_readFigure (σ : Sg) (o : Nat) : Option (Int32 × Sg) :=
  (f_X1_letterHere σ (o)).bind fun v1 =>
  if v1 < (48 : Int32) then
  some ((-4 : Int32), σ)
  else
  if v1 ≤ (57 : Int32) then
  (some (sf σ (o) 3 ((σ (o) 3) + (1 : Int32)))).bind fun σ27 =>
  some ((v1 - (48 : Int32)), σ27)
  else
  some ((-4 : Int32), σ)
set_option maxHeartbeats 4000000 in
set_option maxRecDepth 100000 in
theorem c_X1_readFigure (l : Launch) (D : va_G) (w : Wv) (σ : Sg) (o : Nat) (r : Int32) (σ' : Sg) (ho : isL o) (hJ : Inj w) (hf : f_X1_readFigure σ o = some (r, σ')) : Met l yX1_readFigure (.code yX1_readFigure cX1_readFigure 2 (some .int) :: TB) (rmW 2 44) (pcW D w [.ref (w.1 (o))] σ) (qiW D w r σ') 0 0 (AL w) := by
  refine q_open (by decide +kernel) (Nat.le_of_ble_eq_true rfl) ?_
  intro p e s m args below meth c ls hx hb hml hr hlk hown hts hK hP hS hl
  have hown : s.vm.findClass RX1 = some m.cls := hown
  have hl : lv_has ls 2 [(0, .ref (w.1 (o)))] := hl
  unfold f_X1_readFigure at hf
  refine lv_aload_n hx hb dX1_readFigure_0 rfl (lv_at hl 0 rfl) ?_
  obtain ⟨v1, h1, hf⟩ := bnd hf
  refine q_cVi (As := []) hx hb hts hml hown hK hP hS (c_X1_letterHere l D w σ (o) v1 ho h1) hw_X1_43 hd_X1_letterHere ⟨rfl, rfl, rfl⟩ ho.o (ce1 ho.k) rfl ⟨Nat.le_of_ble_eq_true rfl, Nat.le_of_ble_eq_true rfl⟩ ⟨Nat.le_of_ble_eq_true rfl, Nat.le_of_ble_eq_true rfl⟩ hl.1 rfl (Nat.le_of_ble_eq_true rfl) dX1_readFigure_1 (fun H locs hP hS => ?_)
  refine lv_istore_n (lv' := [(1, .int v1), (0, .ref (w.1 (o)))]) hx hb dX1_readFigure_4 rfl hl (by decide) rfl (fun ls hl => ?_)
  refine lv_iload_n hx hb dX1_readFigure_5 rfl (lv_at hl 0 rfl) ?_
  refine lv_bipush (v := (48 : Int32)) hx hb dX1_readFigure_6 (by decide) ?_
  refine lv_icmp_lt (tgt := 17) hx hb dX1_readFigure_8 (by decide) (fun hc => ?_) (fun hc => ?_)
  · have hf := ifp hc hf
    refine lv_bipush (v := (-4 : Int32)) hx hb dX1_readFigure_17 (by decide) ?_
    have hq := Option.some.inj hf
    exact q_iret hx hb hr hlk hP hS (congrArg Prod.fst hq) (congrArg Prod.snd hq) dX1_readFigure_19
  · have hf := ifn hc hf
    refine lv_iload_n hx hb dX1_readFigure_11 rfl (lv_at hl 0 rfl) ?_
    refine lv_bipush (v := (57 : Int32)) hx hb dX1_readFigure_12 (by decide) ?_
    refine lv_icmp_le (tgt := 20) hx hb dX1_readFigure_14 (by decide) (fun hc => ?_) (fun hc => ?_)
    · have hf := ifp hc hf
      refine lv_aload_n hx hb dX1_readFigure_20 rfl (lv_at hl 1 rfl) ?_
      refine lv_dup hx hb dX1_readFigure_21 rfl ?_
      refine gt_X1_36 hx hb hts hown hK hP ho.o ho.k dX1_readFigure_22 ?_
      refine lv_iconst (v := (1 : Int32)) hx hb dX1_readFigure_25 (by decide) ?_
      refine lv_iadd hx hb dX1_readFigure_26 ?_
      obtain ⟨σ27, h27, hf⟩ := bnd hf
      refine pt_X1_36 hx hb hts hown hK hP hJ hS ho.o ho.k h27 dX1_readFigure_27 (fun H locs hP hS => ?_)
      refine lv_iload_n hx hb dX1_readFigure_30 rfl (lv_at hl 0 rfl) ?_
      refine lv_bipush (v := (48 : Int32)) hx hb dX1_readFigure_31 (by decide) ?_
      refine lv_isub hx hb dX1_readFigure_33 ?_
      have hq := Option.some.inj hf
      exact q_iret hx hb hr hlk hP hS (congrArg Prod.fst hq) (congrArg Prod.snd hq) dX1_readFigure_34
    · have hf := ifn hc hf
      refine lv_bipush (v := (-4 : Int32)) hx hb dX1_readFigure_17 (by decide) ?_
      have hq := Option.some.inj hf
      exact q_iret hx hb hr hlk hP hS (congrArg Prod.fst hq) (congrArg Prod.snd hq) dX1_readFigure_19
def f_X1_readNumbers_b1 (o : Nat) (a1 : Int32) (x2_2 : Int32) (σ_2 : Sg) : Option ((Int32 × Sg) ⊕ (Sg ⊕ (Sg ⊕ Sg))) :=
  if a1 ≤ x2_2 then
  some (.inr (.inr (.inr σ_2)))
  else
  (f_X1_readFigure σ_2 (o)).bind fun q8 =>
  if ¬ q8.1 = (-4 : Int32) then
  (f_X1_readFigure q8.2 (o)).bind fun q21 =>
  if ¬ q21.1 = (-4 : Int32) then
  (f_X0_put q21.2 (o + 3) (0 : Int32) x2_2 ((q8.1 * (10 : Int32)) + q21.1)).bind fun σ50 =>
  (f_X1_letterHere σ50 (o)).bind fun v54 =>
  if a1 ≤ (x2_2 + (1 : Int32)) then
  if v54 = (59 : Int32) then
  (some (sf σ50 (o) 3 ((σ50 (o) 3) + (1 : Int32)))).bind fun σ83 =>
  some (.inl ((x2_2 + (1 : Int32)), σ83))
  else
  some (.inr (.inr (.inl σ50)))
  else
  if v54 = (44 : Int32) then
  (some (sf σ50 (o) 3 ((σ50 (o) 3) + (1 : Int32)))).bind fun σ83 =>
  some (.inl ((x2_2 + (1 : Int32)), σ83))
  else
  some (.inr (.inr (.inl σ50)))
  else
  (f_X0_put q21.2 (o + 3) (0 : Int32) x2_2 q8.1).bind fun σ50 =>
  (f_X1_letterHere σ50 (o)).bind fun v54 =>
  if a1 ≤ (x2_2 + (1 : Int32)) then
  if v54 = (59 : Int32) then
  (some (sf σ50 (o) 3 ((σ50 (o) 3) + (1 : Int32)))).bind fun σ83 =>
  some (.inl ((x2_2 + (1 : Int32)), σ83))
  else
  some (.inr (.inr (.inl σ50)))
  else
  if v54 = (44 : Int32) then
  (some (sf σ50 (o) 3 ((σ50 (o) 3) + (1 : Int32)))).bind fun σ83 =>
  some (.inl ((x2_2 + (1 : Int32)), σ83))
  else
  some (.inr (.inr (.inl σ50)))
  else
  some (.inr (.inl q8.2))
def f_X1_readNumbers_k1 (σ_18 : Sg) : Option (Int32 × Sg) :=
  some ((0 : Int32), σ_18)
def f_X1_readNumbers_k2 (σ_74 : Sg) : Option (Int32 × Sg) :=
  some ((0 : Int32), σ_74)
def f_X1_readNumbers_k3 (σ_92 : Sg) : Option (Int32 × Sg) :=
  some ((1 : Int32), σ_92)
def f_X1_readNumbers (σ : Sg) (o : Nat) (a1 : Int32) : Option (Int32 × Sg) :=
  (lp (fun st => f_X1_readNumbers_b1 o a1 st.1 st.2) FU ((0 : Int32), σ)).bind fun rr => Sum.elim (fun q => f_X1_readNumbers_k1 q) (fun q => Sum.elim (fun q => f_X1_readNumbers_k2 q) (fun q => f_X1_readNumbers_k3 q) q) rr
set_option maxHeartbeats 4000000 in
set_option maxRecDepth 100000 in
theorem c_X1_readNumbers (l : Launch) (D : va_G) (w : Wv) (σ : Sg) (o : Nat) (a1 : Int32) (r : Int32) (σ' : Sg) (ho : isL o) (hJ : Inj w) (hf : f_X1_readNumbers σ o a1 = some (r, σ')) : Met l yX1_readNumbers (.code yX1_readNumbers cX1_readNumbers 5 (some .boolean) :: TB) (rmW 3 65) (pcW D w [.ref (w.1 (o)), .int a1] σ) (qzW D w r σ') 0 0 (AL w) := by
  refine q_open (by decide +kernel) (Nat.le_of_ble_eq_true rfl) ?_
  intro p e s m args below meth c ls hx hb hml hr hlk hown hts hK hP hS hl
  have hown : s.vm.findClass RX1 = some m.cls := hown
  have hl : lv_has ls 5 [(0, .ref (w.1 (o))), (1, .int a1)] := hl
  unfold f_X1_readNumbers at hf
  refine lv_iconst (v := (0 : Int32)) hx hb dX1_readNumbers_0 (by decide) ?_
  refine lv_istore_n (lv' := [(2, .int (0 : Int32)), (0, .ref (w.1 (o))), (1, .int a1)]) hx hb dX1_readNumbers_1 rfl hl (by decide) rfl (fun ls hl => ?_)
  obtain ⟨rr, hlp, hf⟩ := bnd hf
  have hE2_18 : ∀ (σ_18 : Sg) (H : Heap) (locs : List Loc) (ls : Array Slot), f_X1_readNumbers_k1 σ_18 = some (r, σ') → va_P D vwCl (WL w σ_18) H → va_S (AL w) s.heap H locs → lv_has ls 5 [] → W p l e (rmW 3 65) s m args below meth c H locs 0 0 (MQ below (qzW D w r σ') args s 0 0 (AL w)) (F0 m 18 ls []) := by
    intro σ_18 H locs ls hf hP hS hl
    unfold f_X1_readNumbers_k1 at hf
    refine lv_iconst (v := (0 : Int32)) hx hb dX1_readNumbers_18 (by decide) ?_
    have hq := Option.some.inj hf
    exact q_zret hx hb hr hlk hP hS rfl (congrArg Prod.fst hq) (congrArg Prod.snd hq) dX1_readNumbers_19
  have hE2_74 : ∀ (σ_74 : Sg) (H : Heap) (locs : List Loc) (ls : Array Slot), f_X1_readNumbers_k2 σ_74 = some (r, σ') → va_P D vwCl (WL w σ_74) H → va_S (AL w) s.heap H locs → lv_has ls 5 [] → W p l e (rmW 3 65) s m args below meth c H locs 0 0 (MQ below (qzW D w r σ') args s 0 0 (AL w)) (F0 m 74 ls []) := by
    intro σ_74 H locs ls hf hP hS hl
    unfold f_X1_readNumbers_k2 at hf
    refine lv_iconst (v := (0 : Int32)) hx hb dX1_readNumbers_74 (by decide) ?_
    have hq := Option.some.inj hf
    exact q_zret hx hb hr hlk hP hS rfl (congrArg Prod.fst hq) (congrArg Prod.snd hq) dX1_readNumbers_75
  have hE2_92 : ∀ (σ_92 : Sg) (H : Heap) (locs : List Loc) (ls : Array Slot), f_X1_readNumbers_k3 σ_92 = some (r, σ') → va_P D vwCl (WL w σ_92) H → va_S (AL w) s.heap H locs → lv_has ls 5 [] → W p l e (rmW 3 65) s m args below meth c H locs 0 0 (MQ below (qzW D w r σ') args s 0 0 (AL w)) (F0 m 92 ls []) := by
    intro σ_92 H locs ls hf hP hS hl
    unfold f_X1_readNumbers_k3 at hf
    refine lv_iconst (v := (1 : Int32)) hx hb dX1_readNumbers_92 (by decide) ?_
    have hq := Option.some.inj hf
    exact q_zret hx hb hr hlk hP hS rfl (congrArg Prod.fst hq) (congrArg Prod.snd hq) dX1_readNumbers_93
  refine lp_ind (G := fun (st : (Int32 × Sg)) => ∀ (H : Heap) (locs : List Loc) (ls : Array Slot), va_P D vwCl (WL w st.2) H → va_S (AL w) s.heap H locs → lv_has ls 5 [(0, .ref (w.1 (o))), (1, .int a1), (2, .int st.1)] → W p l e (rmW 3 65) s m args below meth c H locs 0 0 (MQ below (qzW D w r σ') args s 0 0 (AL w)) (F0 m 2 ls [])) (X := fun rr => Sum.elim (fun q => f_X1_readNumbers_k1 q) (fun q => Sum.elim (fun q => f_X1_readNumbers_k2 q) (fun q => f_X1_readNumbers_k3 q) q) rr = some (r, σ')) ?_ _ _ rr hlp hf _ _ _ hP hS (lv_sub hl [1, 2, 0] rfl)
  rintro ⟨x2_2, σ_2⟩ oo2 hb9 hG2 hX2 H locs ls hP hS hl
  have hP : va_P D vwCl (WL w σ_2) H := hP
  have hl : lv_has ls 5 [(0, .ref (w.1 (o))), (1, .int a1), (2, .int x2_2)] := hl
  have hf : f_X1_readNumbers_b1 o a1 x2_2 σ_2 = some oo2 := hb9
  unfold f_X1_readNumbers_b1 at hf
  refine lv_iload_n hx hb dX1_readNumbers_2 rfl (lv_at hl 2 rfl) ?_
  refine lv_iload_n hx hb dX1_readNumbers_3 rfl (lv_at hl 1 rfl) ?_
  refine lv_icmp_ge (tgt := 92) hx hb dX1_readNumbers_4 (by decide) (fun hc => ?_) (fun hc => ?_)
  · have hf := ifp hc hf
    obtain rfl := Option.some.inj hf
    exact hE2_92 σ_2 _ _ _ (hX2 _ rfl) hP hS (lv_sub hl [] rfl)
  · have hf := ifn hc hf
    refine lv_aload_n hx hb dX1_readNumbers_7 rfl (lv_at hl 0 rfl) ?_
    obtain ⟨⟨v8, σ8⟩, h8, hf⟩ := bnd hf
    dsimp only at hf
    refine q_cVi (As := []) hx hb hts hml hown hK hP hS (c_X1_readFigure l D w σ_2 (o) v8 σ8 ho hJ h8) hw_X1_73 hd_X1_readFigure ⟨rfl, rfl, rfl⟩ ho.o (ce1 ho.k) rfl ⟨Nat.le_of_ble_eq_true rfl, Nat.le_of_ble_eq_true rfl⟩ ⟨Nat.le_of_ble_eq_true rfl, Nat.le_of_ble_eq_true rfl⟩ hl.1 rfl (Nat.le_of_ble_eq_true rfl) dX1_readNumbers_8 (fun H locs hP hS => ?_)
    refine lv_istore_n (lv' := [(3, .int v8), (0, .ref (w.1 (o))), (1, .int a1), (2, .int x2_2)]) hx hb dX1_readNumbers_11 rfl hl (by decide) rfl (fun ls hl => ?_)
    refine lv_iload_n hx hb dX1_readNumbers_12 rfl (lv_at hl 0 rfl) ?_
    refine lv_bipush (v := (-4 : Int32)) hx hb dX1_readNumbers_13 (by decide) ?_
    refine lv_icmp_ne (tgt := 20) hx hb dX1_readNumbers_15 (by decide) (fun hc => ?_) (fun hc => ?_)
    · have hf := ifp hc hf
      refine lv_aload_n hx hb dX1_readNumbers_20 rfl (lv_at hl 1 rfl) ?_
      obtain ⟨⟨v21, σ21⟩, h21, hf⟩ := bnd hf
      dsimp only at hf
      refine q_cVi (As := []) hx hb hts hml hown hK hP hS (c_X1_readFigure l D w σ8 (o) v21 σ21 ho hJ h21) hw_X1_73 hd_X1_readFigure ⟨rfl, rfl, rfl⟩ ho.o (ce1 ho.k) rfl ⟨Nat.le_of_ble_eq_true rfl, Nat.le_of_ble_eq_true rfl⟩ ⟨Nat.le_of_ble_eq_true rfl, Nat.le_of_ble_eq_true rfl⟩ hl.1 rfl (Nat.le_of_ble_eq_true rfl) dX1_readNumbers_21 (fun H locs hP hS => ?_)
      refine lv_istore (lv' := [(4, .int v21), (3, .int v8), (0, .ref (w.1 (o))), (1, .int a1), (2, .int x2_2)]) hx hb dX1_readNumbers_24 hl (by decide) rfl (fun ls hl => ?_)
      refine lv_aload_n hx hb dX1_readNumbers_26 rfl (lv_at hl 2 rfl) ?_
      refine gt_X1_20 hx hb hts hown hK hP ho.o ho.k dX1_readNumbers_27 ?_
      refine lv_iconst (v := (0 : Int32)) hx hb dX1_readNumbers_30 (by decide) ?_
      refine lv_iload_n hx hb dX1_readNumbers_31 rfl (lv_at hl 4 rfl) ?_
      refine lv_iload hx hb dX1_readNumbers_32 (lv_at hl 0 rfl) ?_
      refine lv_bipush (v := (-4 : Int32)) hx hb dX1_readNumbers_34 (by decide) ?_
      refine lv_icmp_ne (tgt := 43) hx hb dX1_readNumbers_36 (by decide) (fun hc => ?_) (fun hc => ?_)
      · have hf := ifp hc hf
        refine lv_iload_n hx hb dX1_readNumbers_43 rfl (lv_at hl 1 rfl) ?_
        refine lv_bipush (v := (10 : Int32)) hx hb dX1_readNumbers_44 (by decide) ?_
        refine lv_imul hx hb dX1_readNumbers_46 ?_
        refine lv_iload hx hb dX1_readNumbers_47 (lv_at hl 0 rfl) ?_
        refine lv_iadd hx hb dX1_readNumbers_49 ?_
        obtain ⟨σ50, h50, hf⟩ := bnd hf
        refine q_cVv (As := [.int (0 : Int32), .int x2_2, .int ((v8 * (10 : Int32)) + v21)]) hx hb hts hml hown hK hP hS (c_X0_put l D w σ21 (o + 3) (0 : Int32) x2_2 ((v8 * (10 : Int32)) + v21) σ50 ho.f1 hJ h50) hw_X1_27 hd_X0_put ⟨rfl, rfl, rfl⟩ ho.f1.o (ce0 ho.f1.k) rfl ⟨Nat.le_of_ble_eq_true rfl, Nat.le_of_ble_eq_true rfl⟩ ⟨Nat.le_of_ble_eq_true rfl, Nat.le_of_ble_eq_true rfl⟩ hl.1 rfl (Nat.le_of_ble_eq_true rfl) dX1_readNumbers_50 (fun H locs hP hS => ?_)
        refine lv_aload_n hx hb dX1_readNumbers_53 rfl (lv_at hl 2 rfl) ?_
        obtain ⟨v54, h54, hf⟩ := bnd hf
        refine q_cVi (As := []) hx hb hts hml hown hK hP hS (c_X1_letterHere l D w σ50 (o) v54 ho h54) hw_X1_43 hd_X1_letterHere ⟨rfl, rfl, rfl⟩ ho.o (ce1 ho.k) rfl ⟨Nat.le_of_ble_eq_true rfl, Nat.le_of_ble_eq_true rfl⟩ ⟨Nat.le_of_ble_eq_true rfl, Nat.le_of_ble_eq_true rfl⟩ hl.1 rfl (Nat.le_of_ble_eq_true rfl) dX1_readNumbers_54 (fun H locs hP hS => ?_)
        refine lv_iload_n hx hb dX1_readNumbers_57 rfl (lv_at hl 4 rfl) ?_
        refine lv_iconst (v := (1 : Int32)) hx hb dX1_readNumbers_58 (by decide) ?_
        refine lv_iadd hx hb dX1_readNumbers_59 ?_
        refine lv_iload_n hx hb dX1_readNumbers_60 rfl (lv_at hl 3 rfl) ?_
        refine lv_icmp_ge (tgt := 69) hx hb dX1_readNumbers_61 (by decide) (fun hc => ?_) (fun hc => ?_)
        · have hf := ifp hc hf
          refine lv_bipush (v := (59 : Int32)) hx hb dX1_readNumbers_69 (by decide) ?_
          refine lv_icmp_eq (tgt := 76) hx hb dX1_readNumbers_71 (by decide) (fun hc => ?_) (fun hc => ?_)
          · have hf := ifp hc hf
            refine lv_aload_n hx hb dX1_readNumbers_76 rfl (lv_at hl 2 rfl) ?_
            refine lv_dup hx hb dX1_readNumbers_77 rfl ?_
            refine gt_X1_36 hx hb hts hown hK hP ho.o ho.k dX1_readNumbers_78 ?_
            refine lv_iconst (v := (1 : Int32)) hx hb dX1_readNumbers_81 (by decide) ?_
            refine lv_iadd hx hb dX1_readNumbers_82 ?_
            obtain ⟨σ83, h83, hf⟩ := bnd hf
            refine pt_X1_36 hx hb hts hown hK hP hJ hS ho.o ho.k h83 dX1_readNumbers_83 (fun H locs hP hS => ?_)
            refine lv_iinc (v := (x2_2 + (1 : Int32))) (lv' := [(2, .int (x2_2 + (1 : Int32))), (4, .int v21), (3, .int v8), (0, .ref (w.1 (o))), (1, .int a1)]) hx hb dX1_readNumbers_86 hl (k := 4) rfl ii_1 (by decide) rfl (fun ls hl => ?_)
            refine lv_goto (tgt := 2) hx hb dX1_readNumbers_89 (by decide) ?_
            obtain rfl := Option.some.inj hf
            exact hG2 _ rfl _ _ _ hP hS (lv_sub hl [3, 4, 0] rfl)
          · have hf := ifn hc hf
            obtain rfl := Option.some.inj hf
            exact hE2_74 σ50 _ _ _ (hX2 _ rfl) hP hS (lv_sub hl [] rfl)
        · have hf := ifn hc hf
          refine lv_bipush (v := (44 : Int32)) hx hb dX1_readNumbers_64 (by decide) ?_
          refine lv_goto (tgt := 71) hx hb dX1_readNumbers_66 (by decide) ?_
          refine lv_icmp_eq (tgt := 76) hx hb dX1_readNumbers_71 (by decide) (fun hc => ?_) (fun hc => ?_)
          · have hf := ifp hc hf
            refine lv_aload_n hx hb dX1_readNumbers_76 rfl (lv_at hl 2 rfl) ?_
            refine lv_dup hx hb dX1_readNumbers_77 rfl ?_
            refine gt_X1_36 hx hb hts hown hK hP ho.o ho.k dX1_readNumbers_78 ?_
            refine lv_iconst (v := (1 : Int32)) hx hb dX1_readNumbers_81 (by decide) ?_
            refine lv_iadd hx hb dX1_readNumbers_82 ?_
            obtain ⟨σ83, h83, hf⟩ := bnd hf
            refine pt_X1_36 hx hb hts hown hK hP hJ hS ho.o ho.k h83 dX1_readNumbers_83 (fun H locs hP hS => ?_)
            refine lv_iinc (v := (x2_2 + (1 : Int32))) (lv' := [(2, .int (x2_2 + (1 : Int32))), (4, .int v21), (3, .int v8), (0, .ref (w.1 (o))), (1, .int a1)]) hx hb dX1_readNumbers_86 hl (k := 4) rfl ii_1 (by decide) rfl (fun ls hl => ?_)
            refine lv_goto (tgt := 2) hx hb dX1_readNumbers_89 (by decide) ?_
            obtain rfl := Option.some.inj hf
            exact hG2 _ rfl _ _ _ hP hS (lv_sub hl [3, 4, 0] rfl)
          · have hf := ifn hc hf
            obtain rfl := Option.some.inj hf
            exact hE2_74 σ50 _ _ _ (hX2 _ rfl) hP hS (lv_sub hl [] rfl)
      · have hf := ifn (fun h => h hc) hf
        refine lv_iload_n hx hb dX1_readNumbers_39 rfl (lv_at hl 1 rfl) ?_
        refine lv_goto (tgt := 50) hx hb dX1_readNumbers_40 (by decide) ?_
        obtain ⟨σ50, h50, hf⟩ := bnd hf
        refine q_cVv (As := [.int (0 : Int32), .int x2_2, .int v8]) hx hb hts hml hown hK hP hS (c_X0_put l D w σ21 (o + 3) (0 : Int32) x2_2 v8 σ50 ho.f1 hJ h50) hw_X1_27 hd_X0_put ⟨rfl, rfl, rfl⟩ ho.f1.o (ce0 ho.f1.k) rfl ⟨Nat.le_of_ble_eq_true rfl, Nat.le_of_ble_eq_true rfl⟩ ⟨Nat.le_of_ble_eq_true rfl, Nat.le_of_ble_eq_true rfl⟩ hl.1 rfl (Nat.le_of_ble_eq_true rfl) dX1_readNumbers_50 (fun H locs hP hS => ?_)
        refine lv_aload_n hx hb dX1_readNumbers_53 rfl (lv_at hl 2 rfl) ?_
        obtain ⟨v54, h54, hf⟩ := bnd hf
        refine q_cVi (As := []) hx hb hts hml hown hK hP hS (c_X1_letterHere l D w σ50 (o) v54 ho h54) hw_X1_43 hd_X1_letterHere ⟨rfl, rfl, rfl⟩ ho.o (ce1 ho.k) rfl ⟨Nat.le_of_ble_eq_true rfl, Nat.le_of_ble_eq_true rfl⟩ ⟨Nat.le_of_ble_eq_true rfl, Nat.le_of_ble_eq_true rfl⟩ hl.1 rfl (Nat.le_of_ble_eq_true rfl) dX1_readNumbers_54 (fun H locs hP hS => ?_)
        refine lv_iload_n hx hb dX1_readNumbers_57 rfl (lv_at hl 4 rfl) ?_
        refine lv_iconst (v := (1 : Int32)) hx hb dX1_readNumbers_58 (by decide) ?_
        refine lv_iadd hx hb dX1_readNumbers_59 ?_
        refine lv_iload_n hx hb dX1_readNumbers_60 rfl (lv_at hl 3 rfl) ?_
        refine lv_icmp_ge (tgt := 69) hx hb dX1_readNumbers_61 (by decide) (fun hc => ?_) (fun hc => ?_)
        · have hf := ifp hc hf
          refine lv_bipush (v := (59 : Int32)) hx hb dX1_readNumbers_69 (by decide) ?_
          refine lv_icmp_eq (tgt := 76) hx hb dX1_readNumbers_71 (by decide) (fun hc => ?_) (fun hc => ?_)
          · have hf := ifp hc hf
            refine lv_aload_n hx hb dX1_readNumbers_76 rfl (lv_at hl 2 rfl) ?_
            refine lv_dup hx hb dX1_readNumbers_77 rfl ?_
            refine gt_X1_36 hx hb hts hown hK hP ho.o ho.k dX1_readNumbers_78 ?_
            refine lv_iconst (v := (1 : Int32)) hx hb dX1_readNumbers_81 (by decide) ?_
            refine lv_iadd hx hb dX1_readNumbers_82 ?_
            obtain ⟨σ83, h83, hf⟩ := bnd hf
            refine pt_X1_36 hx hb hts hown hK hP hJ hS ho.o ho.k h83 dX1_readNumbers_83 (fun H locs hP hS => ?_)
            refine lv_iinc (v := (x2_2 + (1 : Int32))) (lv' := [(2, .int (x2_2 + (1 : Int32))), (4, .int v21), (3, .int v8), (0, .ref (w.1 (o))), (1, .int a1)]) hx hb dX1_readNumbers_86 hl (k := 4) rfl ii_1 (by decide) rfl (fun ls hl => ?_)
            refine lv_goto (tgt := 2) hx hb dX1_readNumbers_89 (by decide) ?_
            obtain rfl := Option.some.inj hf
            exact hG2 _ rfl _ _ _ hP hS (lv_sub hl [3, 4, 0] rfl)
          · have hf := ifn hc hf
            obtain rfl := Option.some.inj hf
            exact hE2_74 σ50 _ _ _ (hX2 _ rfl) hP hS (lv_sub hl [] rfl)
        · have hf := ifn hc hf
          refine lv_bipush (v := (44 : Int32)) hx hb dX1_readNumbers_64 (by decide) ?_
          refine lv_goto (tgt := 71) hx hb dX1_readNumbers_66 (by decide) ?_
          refine lv_icmp_eq (tgt := 76) hx hb dX1_readNumbers_71 (by decide) (fun hc => ?_) (fun hc => ?_)
          · have hf := ifp hc hf
            refine lv_aload_n hx hb dX1_readNumbers_76 rfl (lv_at hl 2 rfl) ?_
            refine lv_dup hx hb dX1_readNumbers_77 rfl ?_
            refine gt_X1_36 hx hb hts hown hK hP ho.o ho.k dX1_readNumbers_78 ?_
            refine lv_iconst (v := (1 : Int32)) hx hb dX1_readNumbers_81 (by decide) ?_
            refine lv_iadd hx hb dX1_readNumbers_82 ?_
            obtain ⟨σ83, h83, hf⟩ := bnd hf
            refine pt_X1_36 hx hb hts hown hK hP hJ hS ho.o ho.k h83 dX1_readNumbers_83 (fun H locs hP hS => ?_)
            refine lv_iinc (v := (x2_2 + (1 : Int32))) (lv' := [(2, .int (x2_2 + (1 : Int32))), (4, .int v21), (3, .int v8), (0, .ref (w.1 (o))), (1, .int a1)]) hx hb dX1_readNumbers_86 hl (k := 4) rfl ii_1 (by decide) rfl (fun ls hl => ?_)
            refine lv_goto (tgt := 2) hx hb dX1_readNumbers_89 (by decide) ?_
            obtain rfl := Option.some.inj hf
            exact hG2 _ rfl _ _ _ hP hS (lv_sub hl [3, 4, 0] rfl)
          · have hf := ifn hc hf
            obtain rfl := Option.some.inj hf
            exact hE2_74 σ50 _ _ _ (hX2 _ rfl) hP hS (lv_sub hl [] rfl)
    · have hf := ifn (fun h => h hc) hf
      obtain rfl := Option.some.inj hf
      exact hE2_18 σ8 _ _ _ (hX2 _ rfl) hP hS (lv_sub hl [] rfl)
def f_X3_towns (σ : Sg) (o : Nat) : Option Int32 :=
  some (σ (o) 0)
set_option maxHeartbeats 4000000 in
set_option maxRecDepth 100000 in
theorem c_X3_towns (l : Launch) (D : va_G) (w : Wv) (σ : Sg) (o : Nat) (r : Int32) (ho : isR o) (hf : f_X3_towns σ o = some r) : Met l yX3_towns (.code yX3_towns cX3_towns 1 (some .int) :: TB) (rmW 0 0) (pcW D w [.ref (w.1 (o))] σ) (qiW D w r σ) 0 0 (AL w) := by
  refine q_open (by decide +kernel) (Nat.le_of_ble_eq_true rfl) ?_
  intro p e s m args below meth c ls hx hb hml hr hlk hown hts hK hP hS hl
  have hown : s.vm.findClass RX3 = some m.cls := hown
  have hl : lv_has ls 1 [(0, .ref (w.1 (o)))] := hl
  unfold f_X3_towns at hf
  refine lv_aload_n hx hb dX3_towns_0 rfl (lv_at hl 0 rfl) ?_
  refine gt_X3_9 hx hb hts hown hK hP ho.o ho.k dX3_towns_1 ?_
  have hq := Option.some.inj hf
  exact q_iret hx hb hr hlk hP hS hq rfl dX3_towns_4
def f_X3_set (σ : Sg) (o : Nat) (a1 : Int32) (a2 : Int32) (a3 : Int32) : Option Sg :=
  (f_X0_put σ (o + 1) a1 a2 a3).bind fun σ7 =>
  (f_X0_put σ7 (o + 1) a2 a1 a3).bind fun σ17 =>
  some σ17
set_option maxHeartbeats 4000000 in
set_option maxRecDepth 100000 in
theorem c_X3_set (l : Launch) (D : va_G) (w : Wv) (σ : Sg) (o : Nat) (a1 : Int32) (a2 : Int32) (a3 : Int32) (σ' : Sg) (ho : isR o) (hJ : Inj w) (hf : f_X3_set σ o a1 a2 a3 = some σ') : Met l yX3_set (.code yX3_set cX3_set 4 none :: TB) (rmW 1 24) (pcW D w [.ref (w.1 (o)), .int a1, .int a2, .int a3] σ) (qvW D w σ') 0 0 (AL w) := by
  refine q_open (by decide +kernel) (Nat.le_of_ble_eq_true rfl) ?_
  intro p e s m args below meth c ls hx hb hml hr hlk hown hts hK hP hS hl
  have hown : s.vm.findClass RX3 = some m.cls := hown
  have hl : lv_has ls 4 [(0, .ref (w.1 (o))), (1, .int a1), (2, .int a2), (3, .int a3)] := hl
  unfold f_X3_set at hf
  refine lv_aload_n hx hb dX3_set_0 rfl (lv_at hl 0 rfl) ?_
  refine gt_X3_20 hx hb hts hown hK hP ho.o ho.k dX3_set_1 ?_
  refine lv_iload_n hx hb dX3_set_4 rfl (lv_at hl 1 rfl) ?_
  refine lv_iload_n hx hb dX3_set_5 rfl (lv_at hl 2 rfl) ?_
  refine lv_iload_n hx hb dX3_set_6 rfl (lv_at hl 3 rfl) ?_
  obtain ⟨σ7, h7, hf⟩ := bnd hf
  refine q_cVv (As := [.int a1, .int a2, .int a3]) hx hb hts hml hown hK hP hS (c_X0_put l D w σ (o + 1) a1 a2 a3 σ7 ho.f1 hJ h7) hw_X3_51 hd_X0_put ⟨rfl, rfl, rfl⟩ ho.f1.o (ce0 ho.f1.k) rfl ⟨Nat.le_of_ble_eq_true rfl, Nat.le_of_ble_eq_true rfl⟩ ⟨Nat.le_of_ble_eq_true rfl, Nat.le_of_ble_eq_true rfl⟩ hl.1 rfl (Nat.le_of_ble_eq_true rfl) dX3_set_7 (fun H locs hP hS => ?_)
  refine lv_aload_n hx hb dX3_set_10 rfl (lv_at hl 0 rfl) ?_
  refine gt_X3_20 hx hb hts hown hK hP ho.o ho.k dX3_set_11 ?_
  refine lv_iload_n hx hb dX3_set_14 rfl (lv_at hl 2 rfl) ?_
  refine lv_iload_n hx hb dX3_set_15 rfl (lv_at hl 1 rfl) ?_
  refine lv_iload_n hx hb dX3_set_16 rfl (lv_at hl 3 rfl) ?_
  obtain ⟨σ17, h17, hf⟩ := bnd hf
  refine q_cVv (As := [.int a2, .int a1, .int a3]) hx hb hts hml hown hK hP hS (c_X0_put l D w σ7 (o + 1) a2 a1 a3 σ17 ho.f1 hJ h17) hw_X3_51 hd_X0_put ⟨rfl, rfl, rfl⟩ ho.f1.o (ce0 ho.f1.k) rfl ⟨Nat.le_of_ble_eq_true rfl, Nat.le_of_ble_eq_true rfl⟩ ⟨Nat.le_of_ble_eq_true rfl, Nat.le_of_ble_eq_true rfl⟩ hl.1 rfl (Nat.le_of_ble_eq_true rfl) dX3_set_17 (fun H locs hP hS => ?_)
  have hq := Option.some.inj hf
  exact q_vret hx hb hr hlk hP hS hq dX3_set_20
def f_X2_held (σ : Sg) (o : Nat) : Option Int32 :=
  some (σ (o) 1)
set_option maxHeartbeats 4000000 in
set_option maxRecDepth 100000 in
theorem c_X2_held (l : Launch) (D : va_G) (w : Wv) (σ : Sg) (o : Nat) (r : Int32) (ho : isN o) (hf : f_X2_held σ o = some r) : Met l yX2_held (.code yX2_held cX2_held 1 (some .int) :: TB) (rmW 0 0) (pcW D w [.ref (w.1 (o))] σ) (qiW D w r σ) 0 0 (AL w) := by
  refine q_open (by decide +kernel) (Nat.le_of_ble_eq_true rfl) ?_
  intro p e s m args below meth c ls hx hb hml hr hlk hown hts hK hP hS hl
  have hown : s.vm.findClass RX2 = some m.cls := hown
  have hl : lv_has ls 1 [(0, .ref (w.1 (o)))] := hl
  unfold f_X2_held at hf
  refine lv_aload_n hx hb dX2_held_0 rfl (lv_at hl 0 rfl) ?_
  refine gt_X2_20 hx hb hts hown hK hP ho.o ho.k dX2_held_1 ?_
  have hq := Option.some.inj hf
  exact q_iret hx hb hr hlk hP hS hq rfl dX2_held_4
def f_X2_number (σ : Sg) (o : Nat) (a1 : Int32) (a2 : Int32) : Option Int32 :=
  (f_X0_at σ (o + 1) a1 a2).bind fun v6 =>
  some v6
set_option maxHeartbeats 4000000 in
set_option maxRecDepth 100000 in
theorem c_X2_number (l : Launch) (D : va_G) (w : Wv) (σ : Sg) (o : Nat) (a1 : Int32) (a2 : Int32) (r : Int32) (ho : isN o) (hf : f_X2_number σ o a1 a2 = some r) : Met l yX2_number (.code yX2_number cX2_number 3 (some .int) :: TB) (rmW 1 24) (pcW D w [.ref (w.1 (o)), .int a1, .int a2] σ) (qiW D w r σ) 0 0 (AL w) := by
  refine q_open (by decide +kernel) (Nat.le_of_ble_eq_true rfl) ?_
  intro p e s m args below meth c ls hx hb hml hr hlk hown hts hK hP hS hl
  have hown : s.vm.findClass RX2 = some m.cls := hown
  have hl : lv_has ls 3 [(0, .ref (w.1 (o))), (1, .int a1), (2, .int a2)] := hl
  unfold f_X2_number at hf
  refine lv_aload_n hx hb dX2_number_0 rfl (lv_at hl 0 rfl) ?_
  refine gt_X2_14 hx hb hts hown hK hP ho.o ho.k dX2_number_1 ?_
  refine lv_iload_n hx hb dX2_number_4 rfl (lv_at hl 1 rfl) ?_
  refine lv_iload_n hx hb dX2_number_5 rfl (lv_at hl 2 rfl) ?_
  obtain ⟨v6, h6, hf⟩ := bnd hf
  refine q_cVi (As := [.int a1, .int a2]) hx hb hts hml hown hK hP hS (c_X0_at l D w σ (o + 1) a1 a2 v6 ho.f0 h6) hw_X2_24 hd_X0_at ⟨rfl, rfl, rfl⟩ ho.f0.o (ce0 ho.f0.k) rfl ⟨Nat.le_of_ble_eq_true rfl, Nat.le_of_ble_eq_true rfl⟩ ⟨Nat.le_of_ble_eq_true rfl, Nat.le_of_ble_eq_true rfl⟩ hl.1 rfl (Nat.le_of_ble_eq_true rfl) dX2_number_6 (fun H locs hP hS => ?_)
  have hq := Option.some.inj hf
  exact q_iret hx hb hr hlk hP hS hq rfl dX2_number_9
def f_X2_add (σ : Sg) (o : Nat) (a1 : Int32) (a2 : Int32) (a3 : Int32) : Option (Int32 × Sg) :=
  if (σ (o) 1) < (6 : Int32) then
  (f_X0_put σ (o + 1) (σ (o) 1) (0 : Int32) a1).bind fun σ22 =>
  (f_X0_put σ22 (o + 1) (σ22 (o) 1) (1 : Int32) a2).bind fun σ35 =>
  (f_X0_put σ35 (o + 1) (σ35 (o) 1) (2 : Int32) a3).bind fun σ48 =>
  (some (sf σ48 (o) 1 ((σ48 (o) 1) + (1 : Int32)))).bind fun σ58 =>
  some ((σ58 (o) 1), σ58)
  else
  some ((-3 : Int32), σ)
set_option maxHeartbeats 4000000 in
set_option maxRecDepth 100000 in
theorem c_X2_add (l : Launch) (D : va_G) (w : Wv) (σ : Sg) (o : Nat) (a1 : Int32) (a2 : Int32) (a3 : Int32) (r : Int32) (σ' : Sg) (ho : isN o) (hJ : Inj w) (hf : f_X2_add σ o a1 a2 a3 = some (r, σ')) : Met l yX2_add (.code yX2_add cX2_add 4 (some .int) :: TB) (rmW 1 24) (pcW D w [.ref (w.1 (o)), .int a1, .int a2, .int a3] σ) (qiW D w r σ') 0 0 (AL w) := by
  refine q_open (by decide +kernel) (Nat.le_of_ble_eq_true rfl) ?_
  intro p e s m args below meth c ls hx hb hml hr hlk hown hts hK hP hS hl
  have hown : s.vm.findClass RX2 = some m.cls := hown
  have hl : lv_has ls 4 [(0, .ref (w.1 (o))), (1, .int a1), (2, .int a2), (3, .int a3)] := hl
  unfold f_X2_add at hf
  refine lv_aload_n hx hb dX2_add_0 rfl (lv_at hl 0 rfl) ?_
  refine gt_X2_20 hx hb hts hown hK hP ho.o ho.k dX2_add_1 ?_
  refine lv_bipush (v := (6 : Int32)) hx hb dX2_add_4 (by decide) ?_
  refine lv_icmp_lt (tgt := 12) hx hb dX2_add_6 (by decide) (fun hc => ?_) (fun hc => ?_)
  · have hf := ifp hc hf
    refine lv_aload_n hx hb dX2_add_12 rfl (lv_at hl 0 rfl) ?_
    refine gt_X2_14 hx hb hts hown hK hP ho.o ho.k dX2_add_13 ?_
    refine lv_aload_n hx hb dX2_add_16 rfl (lv_at hl 0 rfl) ?_
    refine gt_X2_20 hx hb hts hown hK hP ho.o ho.k dX2_add_17 ?_
    refine lv_iconst (v := (0 : Int32)) hx hb dX2_add_20 (by decide) ?_
    refine lv_iload_n hx hb dX2_add_21 rfl (lv_at hl 1 rfl) ?_
    obtain ⟨σ22, h22, hf⟩ := bnd hf
    refine q_cVv (As := [.int (σ (o) 1), .int (0 : Int32), .int a1]) hx hb hts hml hown hK hP hS (c_X0_put l D w σ (o + 1) (σ (o) 1) (0 : Int32) a1 σ22 ho.f0 hJ h22) hw_X2_28 hd_X0_put ⟨rfl, rfl, rfl⟩ ho.f0.o (ce0 ho.f0.k) rfl ⟨Nat.le_of_ble_eq_true rfl, Nat.le_of_ble_eq_true rfl⟩ ⟨Nat.le_of_ble_eq_true rfl, Nat.le_of_ble_eq_true rfl⟩ hl.1 rfl (Nat.le_of_ble_eq_true rfl) dX2_add_22 (fun H locs hP hS => ?_)
    refine lv_aload_n hx hb dX2_add_25 rfl (lv_at hl 0 rfl) ?_
    refine gt_X2_14 hx hb hts hown hK hP ho.o ho.k dX2_add_26 ?_
    refine lv_aload_n hx hb dX2_add_29 rfl (lv_at hl 0 rfl) ?_
    refine gt_X2_20 hx hb hts hown hK hP ho.o ho.k dX2_add_30 ?_
    refine lv_iconst (v := (1 : Int32)) hx hb dX2_add_33 (by decide) ?_
    refine lv_iload_n hx hb dX2_add_34 rfl (lv_at hl 2 rfl) ?_
    obtain ⟨σ35, h35, hf⟩ := bnd hf
    refine q_cVv (As := [.int (σ22 (o) 1), .int (1 : Int32), .int a2]) hx hb hts hml hown hK hP hS (c_X0_put l D w σ22 (o + 1) (σ22 (o) 1) (1 : Int32) a2 σ35 ho.f0 hJ h35) hw_X2_28 hd_X0_put ⟨rfl, rfl, rfl⟩ ho.f0.o (ce0 ho.f0.k) rfl ⟨Nat.le_of_ble_eq_true rfl, Nat.le_of_ble_eq_true rfl⟩ ⟨Nat.le_of_ble_eq_true rfl, Nat.le_of_ble_eq_true rfl⟩ hl.1 rfl (Nat.le_of_ble_eq_true rfl) dX2_add_35 (fun H locs hP hS => ?_)
    refine lv_aload_n hx hb dX2_add_38 rfl (lv_at hl 0 rfl) ?_
    refine gt_X2_14 hx hb hts hown hK hP ho.o ho.k dX2_add_39 ?_
    refine lv_aload_n hx hb dX2_add_42 rfl (lv_at hl 0 rfl) ?_
    refine gt_X2_20 hx hb hts hown hK hP ho.o ho.k dX2_add_43 ?_
    refine lv_iconst (v := (2 : Int32)) hx hb dX2_add_46 (by decide) ?_
    refine lv_iload_n hx hb dX2_add_47 rfl (lv_at hl 3 rfl) ?_
    obtain ⟨σ48, h48, hf⟩ := bnd hf
    refine q_cVv (As := [.int (σ35 (o) 1), .int (2 : Int32), .int a3]) hx hb hts hml hown hK hP hS (c_X0_put l D w σ35 (o + 1) (σ35 (o) 1) (2 : Int32) a3 σ48 ho.f0 hJ h48) hw_X2_28 hd_X0_put ⟨rfl, rfl, rfl⟩ ho.f0.o (ce0 ho.f0.k) rfl ⟨Nat.le_of_ble_eq_true rfl, Nat.le_of_ble_eq_true rfl⟩ ⟨Nat.le_of_ble_eq_true rfl, Nat.le_of_ble_eq_true rfl⟩ hl.1 rfl (Nat.le_of_ble_eq_true rfl) dX2_add_48 (fun H locs hP hS => ?_)
    refine lv_aload_n hx hb dX2_add_51 rfl (lv_at hl 0 rfl) ?_
    refine lv_dup hx hb dX2_add_52 rfl ?_
    refine gt_X2_20 hx hb hts hown hK hP ho.o ho.k dX2_add_53 ?_
    refine lv_iconst (v := (1 : Int32)) hx hb dX2_add_56 (by decide) ?_
    refine lv_iadd hx hb dX2_add_57 ?_
    obtain ⟨σ58, h58, hf⟩ := bnd hf
    refine pt_X2_20 hx hb hts hown hK hP hJ hS ho.o ho.k h58 dX2_add_58 (fun H locs hP hS => ?_)
    refine lv_aload_n hx hb dX2_add_61 rfl (lv_at hl 0 rfl) ?_
    refine gt_X2_20 hx hb hts hown hK hP ho.o ho.k dX2_add_62 ?_
    have hq := Option.some.inj hf
    exact q_iret hx hb hr hlk hP hS (congrArg Prod.fst hq) (congrArg Prod.snd hq) dX2_add_65
  · have hf := ifn hc hf
    refine lv_bipush (v := (-3 : Int32)) hx hb dX2_add_9 (by decide) ?_
    have hq := Option.some.inj hf
    exact q_iret hx hb hr hlk hP hS (congrArg Prod.fst hq) (congrArg Prod.snd hq) dX2_add_11
def f_X2_empty (σ : Sg) (o : Nat) : Option (Int32 × Sg) :=
  (some (sf σ (o) 1 (0 : Int32))).bind fun σ7 =>
  some ((σ (o) 1), σ7)
set_option maxHeartbeats 4000000 in
set_option maxRecDepth 100000 in
theorem c_X2_empty (l : Launch) (D : va_G) (w : Wv) (σ : Sg) (o : Nat) (r : Int32) (σ' : Sg) (ho : isN o) (hJ : Inj w) (hf : f_X2_empty σ o = some (r, σ')) : Met l yX2_empty (.code yX2_empty cX2_empty 2 (some .int) :: TB) (rmW 0 0) (pcW D w [.ref (w.1 (o))] σ) (qiW D w r σ') 0 0 (AL w) := by
  refine q_open (by decide +kernel) (Nat.le_of_ble_eq_true rfl) ?_
  intro p e s m args below meth c ls hx hb hml hr hlk hown hts hK hP hS hl
  have hown : s.vm.findClass RX2 = some m.cls := hown
  have hl : lv_has ls 2 [(0, .ref (w.1 (o)))] := hl
  unfold f_X2_empty at hf
  refine lv_aload_n hx hb dX2_empty_0 rfl (lv_at hl 0 rfl) ?_
  refine gt_X2_20 hx hb hts hown hK hP ho.o ho.k dX2_empty_1 ?_
  refine lv_istore_n (lv' := [(1, .int (σ (o) 1)), (0, .ref (w.1 (o)))]) hx hb dX2_empty_4 rfl hl (by decide) rfl (fun ls hl => ?_)
  refine lv_aload_n hx hb dX2_empty_5 rfl (lv_at hl 1 rfl) ?_
  refine lv_iconst (v := (0 : Int32)) hx hb dX2_empty_6 (by decide) ?_
  obtain ⟨σ7, h7, hf⟩ := bnd hf
  refine pt_X2_20 hx hb hts hown hK hP hJ hS ho.o ho.k h7 dX2_empty_7 (fun H locs hP hS => ?_)
  refine lv_iload_n hx hb dX2_empty_10 rfl (lv_at hl 0 rfl) ?_
  have hq := Option.some.inj hf
  exact q_iret hx hb hr hlk hP hS (congrArg Prod.fst hq) (congrArg Prod.snd hq) dX2_empty_11
def f_X3_become (σ : Sg) (o : Nat) (a1 : Nat) : Option Sg :=
  (some (sf σ (o) 0 (σ (a1) 0))).bind fun σ5 =>
  (f_X0_become σ5 (o + 1) (a1 + 1)).bind fun σ16 =>
  (f_X0_become σ16 (o + 3) (a1 + 3)).bind fun σ27 =>
  some σ27
set_option maxHeartbeats 4000000 in
set_option maxRecDepth 100000 in
theorem c_X3_become (l : Launch) (D : va_G) (w : Wv) (σ : Sg) (o : Nat) (a1 : Nat) (σ' : Sg) (ho : isR o) (ha1 : isR a1) (hJ : Inj w) (hf : f_X3_become σ o a1 = some σ') : Met l yX3_become (.code yX3_become cX3_become 2 none :: TB) (rmW 2 43) (pcW D w [.ref (w.1 (o)), .ref (w.1 (a1))] σ) (qvW D w σ') 0 0 (AL w) := by
  refine q_open (by decide +kernel) (Nat.le_of_ble_eq_true rfl) ?_
  intro p e s m args below meth c ls hx hb hml hr hlk hown hts hK hP hS hl
  have hown : s.vm.findClass RX3 = some m.cls := hown
  have hl : lv_has ls 2 [(0, .ref (w.1 (o))), (1, .ref (w.1 (a1)))] := hl
  unfold f_X3_become at hf
  refine lv_aload_n hx hb dX3_become_0 rfl (lv_at hl 0 rfl) ?_
  refine lv_aload_n hx hb dX3_become_1 rfl (lv_at hl 1 rfl) ?_
  refine gt_X3_9 hx hb hts hown hK hP ha1.o ha1.k dX3_become_2 ?_
  obtain ⟨σ5, h5, hf⟩ := bnd hf
  refine pt_X3_9 hx hb hts hown hK hP hJ hS ho.o ho.k h5 dX3_become_5 (fun H locs hP hS => ?_)
  refine lv_aload_n hx hb dX3_become_8 rfl (lv_at hl 0 rfl) ?_
  refine gt_X3_20 hx hb hts hown hK hP ho.o ho.k dX3_become_9 ?_
  refine lv_aload_n hx hb dX3_become_12 rfl (lv_at hl 1 rfl) ?_
  refine gt_X3_20 hx hb hts hown hK hP ha1.o ha1.k dX3_become_13 ?_
  obtain ⟨σ16, h16, hf⟩ := bnd hf
  refine q_cVv (As := [.ref (w.1 (a1 + 1))]) hx hb hts hml hown hK hP hS (c_X0_become l D w σ5 (o + 1) (a1 + 1) σ16 ho.f1 ha1.f1 hJ h16) hw_X3_27 hd_X0_become ⟨rfl, rfl, rfl⟩ ho.f1.o (ce0 ho.f1.k) rfl ⟨Nat.le_of_ble_eq_true rfl, Nat.le_of_ble_eq_true rfl⟩ ⟨Nat.le_of_ble_eq_true rfl, Nat.le_of_ble_eq_true rfl⟩ hl.1 rfl (Nat.le_of_ble_eq_true rfl) dX3_become_16 (fun H locs hP hS => ?_)
  refine lv_aload_n hx hb dX3_become_19 rfl (lv_at hl 0 rfl) ?_
  refine gt_X3_24 hx hb hts hown hK hP ho.o ho.k dX3_become_20 ?_
  refine lv_aload_n hx hb dX3_become_23 rfl (lv_at hl 1 rfl) ?_
  refine gt_X3_24 hx hb hts hown hK hP ha1.o ha1.k dX3_become_24 ?_
  obtain ⟨σ27, h27, hf⟩ := bnd hf
  refine q_cVv (As := [.ref (w.1 (a1 + 3))]) hx hb hts hml hown hK hP hS (c_X0_become l D w σ16 (o + 3) (a1 + 3) σ27 ho.f2 ha1.f2 hJ h27) hw_X3_27 hd_X0_become ⟨rfl, rfl, rfl⟩ ho.f2.o (ce0 ho.f2.k) rfl ⟨Nat.le_of_ble_eq_true rfl, Nat.le_of_ble_eq_true rfl⟩ ⟨Nat.le_of_ble_eq_true rfl, Nat.le_of_ble_eq_true rfl⟩ hl.1 rfl (Nat.le_of_ble_eq_true rfl) dX3_become_27 (fun H locs hP hS => ?_)
  have hq := Option.some.inj hf
  exact q_vret hx hb hr hlk hP hS hq dX3_become_30
def f_X3_shorten (σ : Sg) (o : Nat) (a1 : Int32) (a2 : Int32) (a3 : Int32) : Option Sg :=
  (f_X0_at σ (o + 3) a1 a2).bind fun v6 =>
  (f_X0_at σ (o + 3) a2 a3).bind fun v17 =>
  (f_X0_at σ (o + 3) a1 a3).bind fun v28 =>
  if v6 = (-4 : Int32) then
  some σ
  else
  if v17 = (-4 : Int32) then
  some σ
  else
  if v28 = (-4 : Int32) then
  (f_X0_put σ (o + 3) a1 a3 (v6 + v17)).bind fun σ75 =>
  some σ75
  else
  if v28 ≤ (v6 + v17) then
  some σ
  else
  (f_X0_put σ (o + 3) a1 a3 (v6 + v17)).bind fun σ75 =>
  some σ75
set_option maxHeartbeats 4000000 in
set_option maxRecDepth 100000 in
theorem c_X3_shorten (l : Launch) (D : va_G) (w : Wv) (σ : Sg) (o : Nat) (a1 : Int32) (a2 : Int32) (a3 : Int32) (σ' : Sg) (ho : isR o) (hJ : Inj w) (hf : f_X3_shorten σ o a1 a2 a3 = some σ') : Met l yX3_shorten (.code yX3_shorten cX3_shorten 7 none :: TB) (rmW 1 24) (pcW D w [.ref (w.1 (o)), .int a1, .int a2, .int a3] σ) (qvW D w σ') 0 0 (AL w) := by
  refine q_open (by decide +kernel) (Nat.le_of_ble_eq_true rfl) ?_
  intro p e s m args below meth c ls hx hb hml hr hlk hown hts hK hP hS hl
  have hown : s.vm.findClass RX3 = some m.cls := hown
  have hl : lv_has ls 7 [(0, .ref (w.1 (o))), (1, .int a1), (2, .int a2), (3, .int a3)] := hl
  unfold f_X3_shorten at hf
  refine lv_aload_n hx hb dX3_shorten_0 rfl (lv_at hl 0 rfl) ?_
  refine gt_X3_24 hx hb hts hown hK hP ho.o ho.k dX3_shorten_1 ?_
  refine lv_iload_n hx hb dX3_shorten_4 rfl (lv_at hl 1 rfl) ?_
  refine lv_iload_n hx hb dX3_shorten_5 rfl (lv_at hl 2 rfl) ?_
  obtain ⟨v6, h6, hf⟩ := bnd hf
  refine q_cVi (As := [.int a1, .int a2]) hx hb hts hml hown hK hP hS (c_X0_at l D w σ (o + 3) a1 a2 v6 ho.f2 h6) hw_X3_54 hd_X0_at ⟨rfl, rfl, rfl⟩ ho.f2.o (ce0 ho.f2.k) rfl ⟨Nat.le_of_ble_eq_true rfl, Nat.le_of_ble_eq_true rfl⟩ ⟨Nat.le_of_ble_eq_true rfl, Nat.le_of_ble_eq_true rfl⟩ hl.1 rfl (Nat.le_of_ble_eq_true rfl) dX3_shorten_6 (fun H locs hP hS => ?_)
  refine lv_istore (lv' := [(4, .int v6), (0, .ref (w.1 (o))), (1, .int a1), (2, .int a2), (3, .int a3)]) hx hb dX3_shorten_9 hl (by decide) rfl (fun ls hl => ?_)
  refine lv_aload_n hx hb dX3_shorten_11 rfl (lv_at hl 1 rfl) ?_
  refine gt_X3_24 hx hb hts hown hK hP ho.o ho.k dX3_shorten_12 ?_
  refine lv_iload_n hx hb dX3_shorten_15 rfl (lv_at hl 3 rfl) ?_
  refine lv_iload_n hx hb dX3_shorten_16 rfl (lv_at hl 4 rfl) ?_
  obtain ⟨v17, h17, hf⟩ := bnd hf
  refine q_cVi (As := [.int a2, .int a3]) hx hb hts hml hown hK hP hS (c_X0_at l D w σ (o + 3) a2 a3 v17 ho.f2 h17) hw_X3_54 hd_X0_at ⟨rfl, rfl, rfl⟩ ho.f2.o (ce0 ho.f2.k) rfl ⟨Nat.le_of_ble_eq_true rfl, Nat.le_of_ble_eq_true rfl⟩ ⟨Nat.le_of_ble_eq_true rfl, Nat.le_of_ble_eq_true rfl⟩ hl.1 rfl (Nat.le_of_ble_eq_true rfl) dX3_shorten_17 (fun H locs hP hS => ?_)
  refine lv_istore (lv' := [(5, .int v17), (4, .int v6), (0, .ref (w.1 (o))), (1, .int a1), (2, .int a2), (3, .int a3)]) hx hb dX3_shorten_20 hl (by decide) rfl (fun ls hl => ?_)
  refine lv_aload_n hx hb dX3_shorten_22 rfl (lv_at hl 2 rfl) ?_
  refine gt_X3_24 hx hb hts hown hK hP ho.o ho.k dX3_shorten_23 ?_
  refine lv_iload_n hx hb dX3_shorten_26 rfl (lv_at hl 3 rfl) ?_
  refine lv_iload_n hx hb dX3_shorten_27 rfl (lv_at hl 5 rfl) ?_
  obtain ⟨v28, h28, hf⟩ := bnd hf
  refine q_cVi (As := [.int a1, .int a3]) hx hb hts hml hown hK hP hS (c_X0_at l D w σ (o + 3) a1 a3 v28 ho.f2 h28) hw_X3_54 hd_X0_at ⟨rfl, rfl, rfl⟩ ho.f2.o (ce0 ho.f2.k) rfl ⟨Nat.le_of_ble_eq_true rfl, Nat.le_of_ble_eq_true rfl⟩ ⟨Nat.le_of_ble_eq_true rfl, Nat.le_of_ble_eq_true rfl⟩ hl.1 rfl (Nat.le_of_ble_eq_true rfl) dX3_shorten_28 (fun H locs hP hS => ?_)
  refine lv_istore (lv' := [(6, .int v28), (5, .int v17), (4, .int v6), (0, .ref (w.1 (o))), (1, .int a1), (2, .int a2), (3, .int a3)]) hx hb dX3_shorten_31 hl (by decide) rfl (fun ls hl => ?_)
  refine lv_iload hx hb dX3_shorten_33 (lv_at hl 2 rfl) ?_
  refine lv_bipush (v := (-4 : Int32)) hx hb dX3_shorten_35 (by decide) ?_
  refine lv_icmp_eq (tgt := 78) hx hb dX3_shorten_37 (by decide) (fun hc => ?_) (fun hc => ?_)
  · have hf := ifp hc hf
    have hq := Option.some.inj hf
    exact q_vret hx hb hr hlk hP hS hq dX3_shorten_78
  · have hf := ifn hc hf
    refine lv_iload hx hb dX3_shorten_40 (lv_at hl 1 rfl) ?_
    refine lv_bipush (v := (-4 : Int32)) hx hb dX3_shorten_42 (by decide) ?_
    refine lv_icmp_eq (tgt := 78) hx hb dX3_shorten_44 (by decide) (fun hc => ?_) (fun hc => ?_)
    · have hf := ifp hc hf
      have hq := Option.some.inj hf
      exact q_vret hx hb hr hlk hP hS hq dX3_shorten_78
    · have hf := ifn hc hf
      refine lv_iload hx hb dX3_shorten_47 (lv_at hl 0 rfl) ?_
      refine lv_bipush (v := (-4 : Int32)) hx hb dX3_shorten_49 (by decide) ?_
      refine lv_icmp_eq (tgt := 64) hx hb dX3_shorten_51 (by decide) (fun hc => ?_) (fun hc => ?_)
      · have hf := ifp hc hf
        refine lv_aload_n hx hb dX3_shorten_64 rfl (lv_at hl 3 rfl) ?_
        refine gt_X3_24 hx hb hts hown hK hP ho.o ho.k dX3_shorten_65 ?_
        refine lv_iload_n hx hb dX3_shorten_68 rfl (lv_at hl 4 rfl) ?_
        refine lv_iload_n hx hb dX3_shorten_69 rfl (lv_at hl 6 rfl) ?_
        refine lv_iload hx hb dX3_shorten_70 (lv_at hl 2 rfl) ?_
        refine lv_iload hx hb dX3_shorten_72 (lv_at hl 1 rfl) ?_
        refine lv_iadd hx hb dX3_shorten_74 ?_
        obtain ⟨σ75, h75, hf⟩ := bnd hf
        refine q_cVv (As := [.int a1, .int a3, .int (v6 + v17)]) hx hb hts hml hown hK hP hS (c_X0_put l D w σ (o + 3) a1 a3 (v6 + v17) σ75 ho.f2 hJ h75) hw_X3_51 hd_X0_put ⟨rfl, rfl, rfl⟩ ho.f2.o (ce0 ho.f2.k) rfl ⟨Nat.le_of_ble_eq_true rfl, Nat.le_of_ble_eq_true rfl⟩ ⟨Nat.le_of_ble_eq_true rfl, Nat.le_of_ble_eq_true rfl⟩ hl.1 rfl (Nat.le_of_ble_eq_true rfl) dX3_shorten_75 (fun H locs hP hS => ?_)
        have hq := Option.some.inj hf
        exact q_vret hx hb hr hlk hP hS hq dX3_shorten_78
      · have hf := ifn hc hf
        refine lv_iload hx hb dX3_shorten_54 (lv_at hl 2 rfl) ?_
        refine lv_iload hx hb dX3_shorten_56 (lv_at hl 1 rfl) ?_
        refine lv_iadd hx hb dX3_shorten_58 ?_
        refine lv_iload hx hb dX3_shorten_59 (lv_at hl 0 rfl) ?_
        refine lv_icmp_ge (tgt := 78) hx hb dX3_shorten_61 (by decide) (fun hc => ?_) (fun hc => ?_)
        · have hf := ifp hc hf
          have hq := Option.some.inj hf
          exact q_vret hx hb hr hlk hP hS hq dX3_shorten_78
        · have hf := ifn hc hf
          refine lv_aload_n hx hb dX3_shorten_64 rfl (lv_at hl 3 rfl) ?_
          refine gt_X3_24 hx hb hts hown hK hP ho.o ho.k dX3_shorten_65 ?_
          refine lv_iload_n hx hb dX3_shorten_68 rfl (lv_at hl 4 rfl) ?_
          refine lv_iload_n hx hb dX3_shorten_69 rfl (lv_at hl 6 rfl) ?_
          refine lv_iload hx hb dX3_shorten_70 (lv_at hl 2 rfl) ?_
          refine lv_iload hx hb dX3_shorten_72 (lv_at hl 1 rfl) ?_
          refine lv_iadd hx hb dX3_shorten_74 ?_
          obtain ⟨σ75, h75, hf⟩ := bnd hf
          refine q_cVv (As := [.int a1, .int a3, .int (v6 + v17)]) hx hb hts hml hown hK hP hS (c_X0_put l D w σ (o + 3) a1 a3 (v6 + v17) σ75 ho.f2 hJ h75) hw_X3_51 hd_X0_put ⟨rfl, rfl, rfl⟩ ho.f2.o (ce0 ho.f2.k) rfl ⟨Nat.le_of_ble_eq_true rfl, Nat.le_of_ble_eq_true rfl⟩ ⟨Nat.le_of_ble_eq_true rfl, Nat.le_of_ble_eq_true rfl⟩ hl.1 rfl (Nat.le_of_ble_eq_true rfl) dX3_shorten_75 (fun H locs hP hS => ?_)
          have hq := Option.some.inj hf
          exact q_vret hx hb hr hlk hP hS hq dX3_shorten_78
def f_X3_survey_b1 (o : Nat) (x1_2 : Int32) (x2_12 : Int32) (σ_12 : Sg) : Option ((Int32 × Sg) ⊕ Sg) :=
  if (σ_12 (o) 0) ≤ x2_12 then
  some (.inr σ_12)
  else
  (f_X0_at σ_12 (o + 1) x1_2 x2_12).bind fun v26 =>
  if ¬ x1_2 = x2_12 then
  if v26 ≤ 0 then
  (f_X0_put σ_12 (o + 3) x1_2 x2_12 (-4 : Int32)).bind fun σ55 =>
  some (.inl ((x2_12 + (1 : Int32)), σ55))
  else
  (f_X0_put σ_12 (o + 3) x1_2 x2_12 v26).bind fun σ55 =>
  some (.inl ((x2_12 + (1 : Int32)), σ55))
  else
  (f_X0_put σ_12 (o + 3) x1_2 x2_12 (0 : Int32)).bind fun σ55 =>
  some (.inl ((x2_12 + (1 : Int32)), σ55))
def f_X3_survey_k1 (x1_2 : Int32) (σ_64 : Sg) : Option ((Int32 × Sg) ⊕ Sg) :=
  some (.inl ((x1_2 + (1 : Int32)), σ_64))
def f_X3_survey_b2 (o : Nat) (x1_2 : Int32) (σ_2 : Sg) : Option ((Int32 × Sg) ⊕ Sg) :=
  if (σ_2 (o) 0) ≤ x1_2 then
  some (.inr σ_2)
  else
  (lp (fun st => f_X3_survey_b1 o x1_2 st.1 st.2) FU ((0 : Int32), σ_2)).bind fun rr => f_X3_survey_k1 x1_2 rr
def f_X3_survey_b3 (o : Nat) (x1_72 : Int32) (x2_82 : Int32) (x3_92 : Int32) (σ_92 : Sg) : Option ((Int32 × Sg) ⊕ Sg) :=
  if (σ_92 (o) 0) ≤ x3_92 then
  some (.inr σ_92)
  else
  (f_X3_shorten σ_92 (o) x2_82 x1_72 x3_92).bind fun σ104 =>
  some (.inl ((x3_92 + (1 : Int32)), σ104))
def f_X3_survey_k2 (x2_82 : Int32) (σ_113 : Sg) : Option ((Int32 × Sg) ⊕ Sg) :=
  some (.inl ((x2_82 + (1 : Int32)), σ_113))
def f_X3_survey_b4 (o : Nat) (x1_72 : Int32) (x2_82 : Int32) (σ_82 : Sg) : Option ((Int32 × Sg) ⊕ Sg) :=
  if (σ_82 (o) 0) ≤ x2_82 then
  some (.inr σ_82)
  else
  (lp (fun st => f_X3_survey_b3 o x1_72 x2_82 st.1 st.2) FU ((0 : Int32), σ_82)).bind fun rr => f_X3_survey_k2 x2_82 rr
def f_X3_survey_k3 (x1_72 : Int32) (σ_119 : Sg) : Option ((Int32 × Sg) ⊕ Sg) :=
  some (.inl ((x1_72 + (1 : Int32)), σ_119))
def f_X3_survey_b5 (o : Nat) (x1_72 : Int32) (σ_72 : Sg) : Option ((Int32 × Sg) ⊕ Sg) :=
  if (σ_72 (o) 0) ≤ x1_72 then
  some (.inr σ_72)
  else
  (lp (fun st => f_X3_survey_b4 o x1_72 st.1 st.2) FU ((0 : Int32), σ_72)).bind fun rr => f_X3_survey_k3 x1_72 rr
def f_X3_survey_k4 (σ_125 : Sg) : Option Sg :=
  some σ_125
def f_X3_survey_k5 (o : Nat) (σ_70 : Sg) : Option Sg :=
  (lp (fun st => f_X3_survey_b5 o st.1 st.2) FU ((0 : Int32), σ_70)).bind fun rr => f_X3_survey_k4 rr
def f_X3_survey (σ : Sg) (o : Nat) : Option Sg :=
  (lp (fun st => f_X3_survey_b2 o st.1 st.2) FU ((0 : Int32), σ)).bind fun rr => f_X3_survey_k5 o rr
set_option maxHeartbeats 4000000 in
set_option maxRecDepth 100000 in
theorem c_X3_survey (l : Launch) (D : va_G) (w : Wv) (σ : Sg) (o : Nat) (σ' : Sg) (ho : isR o) (hJ : Inj w) (hf : f_X3_survey σ o = some σ') : Met l yX3_survey (.code yX3_survey cX3_survey 4 none :: TB) (rmW 2 50) (pcW D w [.ref (w.1 (o))] σ) (qvW D w σ') 0 0 (AL w) := by
  refine q_open (by decide +kernel) (Nat.le_of_ble_eq_true rfl) ?_
  intro p e s m args below meth c ls hx hb hml hr hlk hown hts hK hP hS hl
  have hown : s.vm.findClass RX3 = some m.cls := hown
  have hl : lv_has ls 4 [(0, .ref (w.1 (o)))] := hl
  unfold f_X3_survey at hf
  refine lv_iconst (v := (0 : Int32)) hx hb dX3_survey_0 (by decide) ?_
  refine lv_istore_n (lv' := [(1, .int (0 : Int32)), (0, .ref (w.1 (o)))]) hx hb dX3_survey_1 rfl hl (by decide) rfl (fun ls hl => ?_)
  obtain ⟨rr, hlp, hf⟩ := bnd hf
  have hE2_70 : ∀ (σ_70 : Sg) (H : Heap) (locs : List Loc) (ls : Array Slot), f_X3_survey_k5 o σ_70 = some σ' → va_P D vwCl (WL w σ_70) H → va_S (AL w) s.heap H locs → lv_has ls 4 [(0, .ref (w.1 (o)))] → W p l e (rmW 2 50) s m args below meth c H locs 0 0 (MQ below (qvW D w σ') args s 0 0 (AL w)) (F0 m 70 ls []) := by
    intro σ_70 H locs ls hf hP hS hl
    unfold f_X3_survey_k5 at hf
    refine lv_iconst (v := (0 : Int32)) hx hb dX3_survey_70 (by decide) ?_
    refine lv_istore_n (lv' := [(1, .int (0 : Int32)), (0, .ref (w.1 (o)))]) hx hb dX3_survey_71 rfl hl (by decide) rfl (fun ls hl => ?_)
    obtain ⟨rr, hlp, hf⟩ := bnd hf
    have hE72_125 : ∀ (σ_125 : Sg) (H : Heap) (locs : List Loc) (ls : Array Slot), f_X3_survey_k4 σ_125 = some σ' → va_P D vwCl (WL w σ_125) H → va_S (AL w) s.heap H locs → lv_has ls 4 [] → W p l e (rmW 2 50) s m args below meth c H locs 0 0 (MQ below (qvW D w σ') args s 0 0 (AL w)) (F0 m 125 ls []) := by
      intro σ_125 H locs ls hf hP hS hl
      unfold f_X3_survey_k4 at hf
      have hq := Option.some.inj hf
      exact q_vret hx hb hr hlk hP hS hq dX3_survey_125
    refine lp_ind (G := fun (st : (Int32 × Sg)) => ∀ (H : Heap) (locs : List Loc) (ls : Array Slot), va_P D vwCl (WL w st.2) H → va_S (AL w) s.heap H locs → lv_has ls 4 [(0, .ref (w.1 (o))), (1, .int st.1)] → W p l e (rmW 2 50) s m args below meth c H locs 0 0 (MQ below (qvW D w σ') args s 0 0 (AL w)) (F0 m 72 ls [])) (X := fun rr => f_X3_survey_k4 rr = some σ') ?_ _ _ rr hlp hf _ _ _ hP hS (lv_sub hl [1, 0] rfl)
    rintro ⟨x1_72, σ_72⟩ oo72 hb9 hG72 hX72 H locs ls hP hS hl
    have hP : va_P D vwCl (WL w σ_72) H := hP
    have hl : lv_has ls 4 [(0, .ref (w.1 (o))), (1, .int x1_72)] := hl
    have hf : f_X3_survey_b5 o x1_72 σ_72 = some oo72 := hb9
    unfold f_X3_survey_b5 at hf
    refine lv_iload_n hx hb dX3_survey_72 rfl (lv_at hl 1 rfl) ?_
    refine lv_aload_n hx hb dX3_survey_73 rfl (lv_at hl 0 rfl) ?_
    refine gt_X3_9 hx hb hts hown hK hP ho.o ho.k dX3_survey_74 ?_
    refine lv_icmp_ge (tgt := 125) hx hb dX3_survey_77 (by decide) (fun hc => ?_) (fun hc => ?_)
    · have hf := ifp hc hf
      obtain rfl := Option.some.inj hf
      exact hE72_125 σ_72 _ _ _ (hX72 _ rfl) hP hS (lv_sub hl [] rfl)
    · have hf := ifn hc hf
      refine lv_iconst (v := (0 : Int32)) hx hb dX3_survey_80 (by decide) ?_
      refine lv_istore_n (lv' := [(2, .int (0 : Int32)), (0, .ref (w.1 (o))), (1, .int x1_72)]) hx hb dX3_survey_81 rfl hl (by decide) rfl (fun ls hl => ?_)
      obtain ⟨rr, hlp, hf⟩ := bnd hf
      have hE82_119 : ∀ (σ_119 : Sg) (H : Heap) (locs : List Loc) (ls : Array Slot), f_X3_survey_k3 x1_72 σ_119 = some oo72 → va_P D vwCl (WL w σ_119) H → va_S (AL w) s.heap H locs → lv_has ls 4 [(0, .ref (w.1 (o))), (1, .int x1_72)] → W p l e (rmW 2 50) s m args below meth c H locs 0 0 (MQ below (qvW D w σ') args s 0 0 (AL w)) (F0 m 119 ls []) := by
        intro σ_119 H locs ls hf hP hS hl
        unfold f_X3_survey_k3 at hf
        refine lv_iinc (v := (x1_72 + (1 : Int32))) (lv' := [(1, .int (x1_72 + (1 : Int32))), (0, .ref (w.1 (o)))]) hx hb dX3_survey_119 hl (k := 1) rfl ii_1 (by decide) rfl (fun ls hl => ?_)
        refine lv_goto (tgt := 72) hx hb dX3_survey_122 (by decide) ?_
        obtain rfl := Option.some.inj hf
        exact hG72 _ rfl _ _ _ hP hS (lv_sub hl [1, 0] rfl)
      refine lp_ind (G := fun (st : (Int32 × Sg)) => ∀ (H : Heap) (locs : List Loc) (ls : Array Slot), va_P D vwCl (WL w st.2) H → va_S (AL w) s.heap H locs → lv_has ls 4 [(0, .ref (w.1 (o))), (1, .int x1_72), (2, .int st.1)] → W p l e (rmW 2 50) s m args below meth c H locs 0 0 (MQ below (qvW D w σ') args s 0 0 (AL w)) (F0 m 82 ls [])) (X := fun rr => f_X3_survey_k3 x1_72 rr = some oo72) ?_ _ _ rr hlp hf _ _ _ hP hS (lv_sub hl [1, 2, 0] rfl)
      rintro ⟨x2_82, σ_82⟩ oo82 hb9 hG82 hX82 H locs ls hP hS hl
      have hP : va_P D vwCl (WL w σ_82) H := hP
      have hl : lv_has ls 4 [(0, .ref (w.1 (o))), (1, .int x1_72), (2, .int x2_82)] := hl
      have hf : f_X3_survey_b4 o x1_72 x2_82 σ_82 = some oo82 := hb9
      unfold f_X3_survey_b4 at hf
      refine lv_iload_n hx hb dX3_survey_82 rfl (lv_at hl 2 rfl) ?_
      refine lv_aload_n hx hb dX3_survey_83 rfl (lv_at hl 0 rfl) ?_
      refine gt_X3_9 hx hb hts hown hK hP ho.o ho.k dX3_survey_84 ?_
      refine lv_icmp_ge (tgt := 119) hx hb dX3_survey_87 (by decide) (fun hc => ?_) (fun hc => ?_)
      · have hf := ifp hc hf
        obtain rfl := Option.some.inj hf
        exact hE82_119 σ_82 _ _ _ (hX82 _ rfl) hP hS (lv_sub hl [0, 1] rfl)
      · have hf := ifn hc hf
        refine lv_iconst (v := (0 : Int32)) hx hb dX3_survey_90 (by decide) ?_
        refine lv_istore_n (lv' := [(3, .int (0 : Int32)), (0, .ref (w.1 (o))), (1, .int x1_72), (2, .int x2_82)]) hx hb dX3_survey_91 rfl hl (by decide) rfl (fun ls hl => ?_)
        obtain ⟨rr, hlp, hf⟩ := bnd hf
        have hE92_113 : ∀ (σ_113 : Sg) (H : Heap) (locs : List Loc) (ls : Array Slot), f_X3_survey_k2 x2_82 σ_113 = some oo82 → va_P D vwCl (WL w σ_113) H → va_S (AL w) s.heap H locs → lv_has ls 4 [(0, .ref (w.1 (o))), (1, .int x1_72), (2, .int x2_82)] → W p l e (rmW 2 50) s m args below meth c H locs 0 0 (MQ below (qvW D w σ') args s 0 0 (AL w)) (F0 m 113 ls []) := by
          intro σ_113 H locs ls hf hP hS hl
          unfold f_X3_survey_k2 at hf
          refine lv_iinc (v := (x2_82 + (1 : Int32))) (lv' := [(2, .int (x2_82 + (1 : Int32))), (0, .ref (w.1 (o))), (1, .int x1_72)]) hx hb dX3_survey_113 hl (k := 2) rfl ii_1 (by decide) rfl (fun ls hl => ?_)
          refine lv_goto (tgt := 82) hx hb dX3_survey_116 (by decide) ?_
          obtain rfl := Option.some.inj hf
          exact hG82 _ rfl _ _ _ hP hS (lv_sub hl [1, 2, 0] rfl)
        refine lp_ind (G := fun (st : (Int32 × Sg)) => ∀ (H : Heap) (locs : List Loc) (ls : Array Slot), va_P D vwCl (WL w st.2) H → va_S (AL w) s.heap H locs → lv_has ls 4 [(0, .ref (w.1 (o))), (1, .int x1_72), (2, .int x2_82), (3, .int st.1)] → W p l e (rmW 2 50) s m args below meth c H locs 0 0 (MQ below (qvW D w σ') args s 0 0 (AL w)) (F0 m 92 ls [])) (X := fun rr => f_X3_survey_k2 x2_82 rr = some oo82) ?_ _ _ rr hlp hf _ _ _ hP hS (lv_sub hl [1, 2, 3, 0] rfl)
        rintro ⟨x3_92, σ_92⟩ oo92 hb9 hG92 hX92 H locs ls hP hS hl
        have hP : va_P D vwCl (WL w σ_92) H := hP
        have hl : lv_has ls 4 [(0, .ref (w.1 (o))), (1, .int x1_72), (2, .int x2_82), (3, .int x3_92)] := hl
        have hf : f_X3_survey_b3 o x1_72 x2_82 x3_92 σ_92 = some oo92 := hb9
        unfold f_X3_survey_b3 at hf
        refine lv_iload_n hx hb dX3_survey_92 rfl (lv_at hl 3 rfl) ?_
        refine lv_aload_n hx hb dX3_survey_93 rfl (lv_at hl 0 rfl) ?_
        refine gt_X3_9 hx hb hts hown hK hP ho.o ho.k dX3_survey_94 ?_
        refine lv_icmp_ge (tgt := 113) hx hb dX3_survey_97 (by decide) (fun hc => ?_) (fun hc => ?_)
        · have hf := ifp hc hf
          obtain rfl := Option.some.inj hf
          exact hE92_113 σ_92 _ _ _ (hX92 _ rfl) hP hS (lv_sub hl [0, 1, 2] rfl)
        · have hf := ifn hc hf
          refine lv_aload_n hx hb dX3_survey_100 rfl (lv_at hl 0 rfl) ?_
          refine lv_iload_n hx hb dX3_survey_101 rfl (lv_at hl 2 rfl) ?_
          refine lv_iload_n hx hb dX3_survey_102 rfl (lv_at hl 1 rfl) ?_
          refine lv_iload_n hx hb dX3_survey_103 rfl (lv_at hl 3 rfl) ?_
          obtain ⟨σ104, h104, hf⟩ := bnd hf
          refine q_cVv (As := [.int x2_82, .int x1_72, .int x3_92]) hx hb hts hml hown hK hP hS (c_X3_shorten l D w σ_92 (o) x2_82 x1_72 x3_92 σ104 ho hJ h104) hw_X3_57 hd_X3_shorten ⟨rfl, rfl, rfl⟩ ho.o (ce3 ho.k) rfl ⟨Nat.le_of_ble_eq_true rfl, Nat.le_of_ble_eq_true rfl⟩ ⟨Nat.le_of_ble_eq_true rfl, Nat.le_of_ble_eq_true rfl⟩ hl.1 rfl (Nat.le_of_ble_eq_true rfl) dX3_survey_104 (fun H locs hP hS => ?_)
          refine lv_iinc (v := (x3_92 + (1 : Int32))) (lv' := [(3, .int (x3_92 + (1 : Int32))), (0, .ref (w.1 (o))), (1, .int x1_72), (2, .int x2_82)]) hx hb dX3_survey_107 hl (k := 3) rfl ii_1 (by decide) rfl (fun ls hl => ?_)
          refine lv_goto (tgt := 92) hx hb dX3_survey_110 (by decide) ?_
          obtain rfl := Option.some.inj hf
          exact hG92 _ rfl _ _ _ hP hS (lv_sub hl [1, 2, 3, 0] rfl)
  refine lp_ind (G := fun (st : (Int32 × Sg)) => ∀ (H : Heap) (locs : List Loc) (ls : Array Slot), va_P D vwCl (WL w st.2) H → va_S (AL w) s.heap H locs → lv_has ls 4 [(0, .ref (w.1 (o))), (1, .int st.1)] → W p l e (rmW 2 50) s m args below meth c H locs 0 0 (MQ below (qvW D w σ') args s 0 0 (AL w)) (F0 m 2 ls [])) (X := fun rr => f_X3_survey_k5 o rr = some σ') ?_ _ _ rr hlp hf _ _ _ hP hS (lv_sub hl [1, 0] rfl)
  rintro ⟨x1_2, σ_2⟩ oo2 hb9 hG2 hX2 H locs ls hP hS hl
  have hP : va_P D vwCl (WL w σ_2) H := hP
  have hl : lv_has ls 4 [(0, .ref (w.1 (o))), (1, .int x1_2)] := hl
  have hf : f_X3_survey_b2 o x1_2 σ_2 = some oo2 := hb9
  unfold f_X3_survey_b2 at hf
  refine lv_iload_n hx hb dX3_survey_2 rfl (lv_at hl 1 rfl) ?_
  refine lv_aload_n hx hb dX3_survey_3 rfl (lv_at hl 0 rfl) ?_
  refine gt_X3_9 hx hb hts hown hK hP ho.o ho.k dX3_survey_4 ?_
  refine lv_icmp_ge (tgt := 70) hx hb dX3_survey_7 (by decide) (fun hc => ?_) (fun hc => ?_)
  · have hf := ifp hc hf
    obtain rfl := Option.some.inj hf
    exact hE2_70 σ_2 _ _ _ (hX2 _ rfl) hP hS (lv_sub hl [0] rfl)
  · have hf := ifn hc hf
    refine lv_iconst (v := (0 : Int32)) hx hb dX3_survey_10 (by decide) ?_
    refine lv_istore_n (lv' := [(2, .int (0 : Int32)), (0, .ref (w.1 (o))), (1, .int x1_2)]) hx hb dX3_survey_11 rfl hl (by decide) rfl (fun ls hl => ?_)
    obtain ⟨rr, hlp, hf⟩ := bnd hf
    have hE12_64 : ∀ (σ_64 : Sg) (H : Heap) (locs : List Loc) (ls : Array Slot), f_X3_survey_k1 x1_2 σ_64 = some oo2 → va_P D vwCl (WL w σ_64) H → va_S (AL w) s.heap H locs → lv_has ls 4 [(0, .ref (w.1 (o))), (1, .int x1_2)] → W p l e (rmW 2 50) s m args below meth c H locs 0 0 (MQ below (qvW D w σ') args s 0 0 (AL w)) (F0 m 64 ls []) := by
      intro σ_64 H locs ls hf hP hS hl
      unfold f_X3_survey_k1 at hf
      refine lv_iinc (v := (x1_2 + (1 : Int32))) (lv' := [(1, .int (x1_2 + (1 : Int32))), (0, .ref (w.1 (o)))]) hx hb dX3_survey_64 hl (k := 1) rfl ii_1 (by decide) rfl (fun ls hl => ?_)
      refine lv_goto (tgt := 2) hx hb dX3_survey_67 (by decide) ?_
      obtain rfl := Option.some.inj hf
      exact hG2 _ rfl _ _ _ hP hS (lv_sub hl [1, 0] rfl)
    refine lp_ind (G := fun (st : (Int32 × Sg)) => ∀ (H : Heap) (locs : List Loc) (ls : Array Slot), va_P D vwCl (WL w st.2) H → va_S (AL w) s.heap H locs → lv_has ls 4 [(0, .ref (w.1 (o))), (1, .int x1_2), (2, .int st.1)] → W p l e (rmW 2 50) s m args below meth c H locs 0 0 (MQ below (qvW D w σ') args s 0 0 (AL w)) (F0 m 12 ls [])) (X := fun rr => f_X3_survey_k1 x1_2 rr = some oo2) ?_ _ _ rr hlp hf _ _ _ hP hS (lv_sub hl [1, 2, 0] rfl)
    rintro ⟨x2_12, σ_12⟩ oo12 hb9 hG12 hX12 H locs ls hP hS hl
    have hP : va_P D vwCl (WL w σ_12) H := hP
    have hl : lv_has ls 4 [(0, .ref (w.1 (o))), (1, .int x1_2), (2, .int x2_12)] := hl
    have hf : f_X3_survey_b1 o x1_2 x2_12 σ_12 = some oo12 := hb9
    unfold f_X3_survey_b1 at hf
    refine lv_iload_n hx hb dX3_survey_12 rfl (lv_at hl 2 rfl) ?_
    refine lv_aload_n hx hb dX3_survey_13 rfl (lv_at hl 0 rfl) ?_
    refine gt_X3_9 hx hb hts hown hK hP ho.o ho.k dX3_survey_14 ?_
    refine lv_icmp_ge (tgt := 64) hx hb dX3_survey_17 (by decide) (fun hc => ?_) (fun hc => ?_)
    · have hf := ifp hc hf
      obtain rfl := Option.some.inj hf
      exact hE12_64 σ_12 _ _ _ (hX12 _ rfl) hP hS (lv_sub hl [0, 1] rfl)
    · have hf := ifn hc hf
      refine lv_aload_n hx hb dX3_survey_20 rfl (lv_at hl 0 rfl) ?_
      refine gt_X3_20 hx hb hts hown hK hP ho.o ho.k dX3_survey_21 ?_
      refine lv_iload_n hx hb dX3_survey_24 rfl (lv_at hl 1 rfl) ?_
      refine lv_iload_n hx hb dX3_survey_25 rfl (lv_at hl 2 rfl) ?_
      obtain ⟨v26, h26, hf⟩ := bnd hf
      refine q_cVi (As := [.int x1_2, .int x2_12]) hx hb hts hml hown hK hP hS (c_X0_at l D w σ_12 (o + 1) x1_2 x2_12 v26 ho.f1 h26) hw_X3_54 hd_X0_at ⟨rfl, rfl, rfl⟩ ho.f1.o (ce0 ho.f1.k) rfl ⟨Nat.le_of_ble_eq_true rfl, Nat.le_of_ble_eq_true rfl⟩ ⟨Nat.le_of_ble_eq_true rfl, Nat.le_of_ble_eq_true rfl⟩ hl.1 rfl (Nat.le_of_ble_eq_true rfl) dX3_survey_26 (fun H locs hP hS => ?_)
      refine lv_istore_n (lv' := [(3, .int v26), (0, .ref (w.1 (o))), (1, .int x1_2), (2, .int x2_12)]) hx hb dX3_survey_29 rfl hl (by decide) rfl (fun ls hl => ?_)
      refine lv_aload_n hx hb dX3_survey_30 rfl (lv_at hl 1 rfl) ?_
      refine gt_X3_24 hx hb hts hown hK hP ho.o ho.k dX3_survey_31 ?_
      refine lv_iload_n hx hb dX3_survey_34 rfl (lv_at hl 2 rfl) ?_
      refine lv_iload_n hx hb dX3_survey_35 rfl (lv_at hl 3 rfl) ?_
      refine lv_iload_n hx hb dX3_survey_36 rfl (lv_at hl 2 rfl) ?_
      refine lv_iload_n hx hb dX3_survey_37 rfl (lv_at hl 3 rfl) ?_
      refine lv_icmp_ne (tgt := 45) hx hb dX3_survey_38 (by decide) (fun hc => ?_) (fun hc => ?_)
      · have hf := ifp hc hf
        refine lv_iload_n hx hb dX3_survey_45 rfl (lv_at hl 0 rfl) ?_
        refine lv_if_le (tgt := 53) hx hb dX3_survey_46 (by decide) (fun hc => ?_) (fun hc => ?_)
        · have hf := ifp hc hf
          refine lv_bipush (v := (-4 : Int32)) hx hb dX3_survey_53 (by decide) ?_
          obtain ⟨σ55, h55, hf⟩ := bnd hf
          refine q_cVv (As := [.int x1_2, .int x2_12, .int (-4 : Int32)]) hx hb hts hml hown hK hP hS (c_X0_put l D w σ_12 (o + 3) x1_2 x2_12 (-4 : Int32) σ55 ho.f2 hJ h55) hw_X3_51 hd_X0_put ⟨rfl, rfl, rfl⟩ ho.f2.o (ce0 ho.f2.k) rfl ⟨Nat.le_of_ble_eq_true rfl, Nat.le_of_ble_eq_true rfl⟩ ⟨Nat.le_of_ble_eq_true rfl, Nat.le_of_ble_eq_true rfl⟩ hl.1 rfl (Nat.le_of_ble_eq_true rfl) dX3_survey_55 (fun H locs hP hS => ?_)
          refine lv_iinc (v := (x2_12 + (1 : Int32))) (lv' := [(2, .int (x2_12 + (1 : Int32))), (3, .int v26), (0, .ref (w.1 (o))), (1, .int x1_2)]) hx hb dX3_survey_58 hl (k := 3) rfl ii_1 (by decide) rfl (fun ls hl => ?_)
          refine lv_goto (tgt := 12) hx hb dX3_survey_61 (by decide) ?_
          obtain rfl := Option.some.inj hf
          exact hG12 _ rfl _ _ _ hP hS (lv_sub hl [2, 3, 0] rfl)
        · have hf := ifn hc hf
          refine lv_iload_n hx hb dX3_survey_49 rfl (lv_at hl 0 rfl) ?_
          refine lv_goto (tgt := 55) hx hb dX3_survey_50 (by decide) ?_
          obtain ⟨σ55, h55, hf⟩ := bnd hf
          refine q_cVv (As := [.int x1_2, .int x2_12, .int v26]) hx hb hts hml hown hK hP hS (c_X0_put l D w σ_12 (o + 3) x1_2 x2_12 v26 σ55 ho.f2 hJ h55) hw_X3_51 hd_X0_put ⟨rfl, rfl, rfl⟩ ho.f2.o (ce0 ho.f2.k) rfl ⟨Nat.le_of_ble_eq_true rfl, Nat.le_of_ble_eq_true rfl⟩ ⟨Nat.le_of_ble_eq_true rfl, Nat.le_of_ble_eq_true rfl⟩ hl.1 rfl (Nat.le_of_ble_eq_true rfl) dX3_survey_55 (fun H locs hP hS => ?_)
          refine lv_iinc (v := (x2_12 + (1 : Int32))) (lv' := [(2, .int (x2_12 + (1 : Int32))), (3, .int v26), (0, .ref (w.1 (o))), (1, .int x1_2)]) hx hb dX3_survey_58 hl (k := 3) rfl ii_1 (by decide) rfl (fun ls hl => ?_)
          refine lv_goto (tgt := 12) hx hb dX3_survey_61 (by decide) ?_
          obtain rfl := Option.some.inj hf
          exact hG12 _ rfl _ _ _ hP hS (lv_sub hl [2, 3, 0] rfl)
      · have hf := ifn (fun h => h hc) hf
        refine lv_iconst (v := (0 : Int32)) hx hb dX3_survey_41 (by decide) ?_
        refine lv_goto (tgt := 55) hx hb dX3_survey_42 (by decide) ?_
        obtain ⟨σ55, h55, hf⟩ := bnd hf
        refine q_cVv (As := [.int x1_2, .int x2_12, .int (0 : Int32)]) hx hb hts hml hown hK hP hS (c_X0_put l D w σ_12 (o + 3) x1_2 x2_12 (0 : Int32) σ55 ho.f2 hJ h55) hw_X3_51 hd_X0_put ⟨rfl, rfl, rfl⟩ ho.f2.o (ce0 ho.f2.k) rfl ⟨Nat.le_of_ble_eq_true rfl, Nat.le_of_ble_eq_true rfl⟩ ⟨Nat.le_of_ble_eq_true rfl, Nat.le_of_ble_eq_true rfl⟩ hl.1 rfl (Nat.le_of_ble_eq_true rfl) dX3_survey_55 (fun H locs hP hS => ?_)
        refine lv_iinc (v := (x2_12 + (1 : Int32))) (lv' := [(2, .int (x2_12 + (1 : Int32))), (3, .int v26), (0, .ref (w.1 (o))), (1, .int x1_2)]) hx hb dX3_survey_58 hl (k := 3) rfl ii_1 (by decide) rfl (fun ls hl => ?_)
        refine lv_goto (tgt := 12) hx hb dX3_survey_61 (by decide) ?_
        obtain rfl := Option.some.inj hf
        exact hG12 _ rfl _ _ _ hP hS (lv_sub hl [2, 3, 0] rfl)
def f_X3_change (σ : Sg) (o : Nat) (a1 : Int32) (a2 : Int32) (a3 : Int32) : Option Sg :=
  (f_X3_set σ (o) a1 a2 a3).bind fun σ4 =>
  (f_X3_survey σ4 (o)).bind fun σ8 =>
  some σ8
set_option maxHeartbeats 4000000 in
set_option maxRecDepth 100000 in
theorem c_X3_change (l : Launch) (D : va_G) (w : Wv) (σ : Sg) (o : Nat) (a1 : Int32) (a2 : Int32) (a3 : Int32) (σ' : Sg) (ho : isR o) (hJ : Inj w) (hf : f_X3_change σ o a1 a2 a3 = some σ') : Met l yX3_change (.code yX3_change cX3_change 4 none :: TB) (rmW 3 73) (pcW D w [.ref (w.1 (o)), .int a1, .int a2, .int a3] σ) (qvW D w σ') 0 0 (AL w) := by
  refine q_open (by decide +kernel) (Nat.le_of_ble_eq_true rfl) ?_
  intro p e s m args below meth c ls hx hb hml hr hlk hown hts hK hP hS hl
  have hown : s.vm.findClass RX3 = some m.cls := hown
  have hl : lv_has ls 4 [(0, .ref (w.1 (o))), (1, .int a1), (2, .int a2), (3, .int a3)] := hl
  unfold f_X3_change at hf
  refine lv_aload_n hx hb dX3_change_0 rfl (lv_at hl 0 rfl) ?_
  refine lv_iload_n hx hb dX3_change_1 rfl (lv_at hl 1 rfl) ?_
  refine lv_iload_n hx hb dX3_change_2 rfl (lv_at hl 2 rfl) ?_
  refine lv_iload_n hx hb dX3_change_3 rfl (lv_at hl 3 rfl) ?_
  obtain ⟨σ4, h4, hf⟩ := bnd hf
  refine q_cVv (As := [.int a1, .int a2, .int a3]) hx hb hts hml hown hK hP hS (c_X3_set l D w σ (o) a1 a2 a3 σ4 ho hJ h4) hw_X3_44 hd_X3_set ⟨rfl, rfl, rfl⟩ ho.o (ce3 ho.k) rfl ⟨Nat.le_of_ble_eq_true rfl, Nat.le_of_ble_eq_true rfl⟩ ⟨Nat.le_of_ble_eq_true rfl, Nat.le_of_ble_eq_true rfl⟩ hl.1 rfl (Nat.le_of_ble_eq_true rfl) dX3_change_4 (fun H locs hP hS => ?_)
  refine lv_aload_n hx hb dX3_change_7 rfl (lv_at hl 0 rfl) ?_
  obtain ⟨σ8, h8, hf⟩ := bnd hf
  refine q_cVv (As := []) hx hb hts hml hown hK hP hS (c_X3_survey l D w σ4 (o) σ8 ho hJ h8) hw_X3_48 hd_X3_survey ⟨rfl, rfl, rfl⟩ ho.o (ce3 ho.k) rfl ⟨Nat.le_of_ble_eq_true rfl, Nat.le_of_ble_eq_true rfl⟩ ⟨Nat.le_of_ble_eq_true rfl, Nat.le_of_ble_eq_true rfl⟩ hl.1 rfl (Nat.le_of_ble_eq_true rfl) dX3_change_8 (fun H locs hP hS => ?_)
  have hq := Option.some.inj hf
  exact q_vret hx hb hr hlk hP hS hq dX3_change_11
def f_X3_between (σ : Sg) (o : Nat) (a1 : Int32) (a2 : Int32) : Option Int32 :=
  (f_X0_at σ (o + 1) a1 a2).bind fun v6 =>
  some v6
set_option maxHeartbeats 4000000 in
set_option maxRecDepth 100000 in
theorem c_X3_between (l : Launch) (D : va_G) (w : Wv) (σ : Sg) (o : Nat) (a1 : Int32) (a2 : Int32) (r : Int32) (ho : isR o) (hf : f_X3_between σ o a1 a2 = some r) : Met l yX3_between (.code yX3_between cX3_between 3 (some .int) :: TB) (rmW 1 24) (pcW D w [.ref (w.1 (o)), .int a1, .int a2] σ) (qiW D w r σ) 0 0 (AL w) := by
  refine q_open (by decide +kernel) (Nat.le_of_ble_eq_true rfl) ?_
  intro p e s m args below meth c ls hx hb hml hr hlk hown hts hK hP hS hl
  have hown : s.vm.findClass RX3 = some m.cls := hown
  have hl : lv_has ls 3 [(0, .ref (w.1 (o))), (1, .int a1), (2, .int a2)] := hl
  unfold f_X3_between at hf
  refine lv_aload_n hx hb dX3_between_0 rfl (lv_at hl 0 rfl) ?_
  refine gt_X3_20 hx hb hts hown hK hP ho.o ho.k dX3_between_1 ?_
  refine lv_iload_n hx hb dX3_between_4 rfl (lv_at hl 1 rfl) ?_
  refine lv_iload_n hx hb dX3_between_5 rfl (lv_at hl 2 rfl) ?_
  obtain ⟨v6, h6, hf⟩ := bnd hf
  refine q_cVi (As := [.int a1, .int a2]) hx hb hts hml hown hK hP hS (c_X0_at l D w σ (o + 1) a1 a2 v6 ho.f1 h6) hw_X3_54 hd_X0_at ⟨rfl, rfl, rfl⟩ ho.f1.o (ce0 ho.f1.k) rfl ⟨Nat.le_of_ble_eq_true rfl, Nat.le_of_ble_eq_true rfl⟩ ⟨Nat.le_of_ble_eq_true rfl, Nat.le_of_ble_eq_true rfl⟩ hl.1 rfl (Nat.le_of_ble_eq_true rfl) dX3_between_6 (fun H locs hP hS => ?_)
  have hq := Option.some.inj hf
  exact q_iret hx hb hr hlk hP hS hq rfl dX3_between_9
def f_X3_pathMiles (σ : Sg) (o : Nat) (a1 : Int32) (a2 : Int32) : Option Int32 :=
  (f_X0_at σ (o + 3) a1 a2).bind fun v6 =>
  some v6
set_option maxHeartbeats 4000000 in
set_option maxRecDepth 100000 in
theorem c_X3_pathMiles (l : Launch) (D : va_G) (w : Wv) (σ : Sg) (o : Nat) (a1 : Int32) (a2 : Int32) (r : Int32) (ho : isR o) (hf : f_X3_pathMiles σ o a1 a2 = some r) : Met l yX3_pathMiles (.code yX3_pathMiles cX3_pathMiles 3 (some .int) :: TB) (rmW 1 24) (pcW D w [.ref (w.1 (o)), .int a1, .int a2] σ) (qiW D w r σ) 0 0 (AL w) := by
  refine q_open (by decide +kernel) (Nat.le_of_ble_eq_true rfl) ?_
  intro p e s m args below meth c ls hx hb hml hr hlk hown hts hK hP hS hl
  have hown : s.vm.findClass RX3 = some m.cls := hown
  have hl : lv_has ls 3 [(0, .ref (w.1 (o))), (1, .int a1), (2, .int a2)] := hl
  unfold f_X3_pathMiles at hf
  refine lv_aload_n hx hb dX3_pathMiles_0 rfl (lv_at hl 0 rfl) ?_
  refine gt_X3_24 hx hb hts hown hK hP ho.o ho.k dX3_pathMiles_1 ?_
  refine lv_iload_n hx hb dX3_pathMiles_4 rfl (lv_at hl 1 rfl) ?_
  refine lv_iload_n hx hb dX3_pathMiles_5 rfl (lv_at hl 2 rfl) ?_
  obtain ⟨v6, h6, hf⟩ := bnd hf
  refine q_cVi (As := [.int a1, .int a2]) hx hb hts hml hown hK hP hS (c_X0_at l D w σ (o + 3) a1 a2 v6 ho.f2 h6) hw_X3_54 hd_X0_at ⟨rfl, rfl, rfl⟩ ho.f2.o (ce0 ho.f2.k) rfl ⟨Nat.le_of_ble_eq_true rfl, Nat.le_of_ble_eq_true rfl⟩ ⟨Nat.le_of_ble_eq_true rfl, Nat.le_of_ble_eq_true rfl⟩ hl.1 rfl (Nat.le_of_ble_eq_true rfl) dX3_pathMiles_6 (fun H locs hP hS => ?_)
  have hq := Option.some.inj hf
  exact q_iret hx hb hr hlk hP hS hq rfl dX3_pathMiles_9
def f_X3_firstStep_b1 (σ : Sg) (o : Nat) (a1 : Int32) (a2 : Int32) (v6 : Int32) (x4_27 : Int32) : Option (Int32 ⊕ (Int32 ⊕ Unit)) :=
  if (σ (o) 0) ≤ x4_27 then
  some (.inr (.inr ()))
  else
  (f_X0_at σ (o + 1) a1 x4_27).bind fun v43 =>
  (f_X0_at σ (o + 3) x4_27 a2).bind fun v55 =>
  if v43 ≤ 0 then
  some (.inl (x4_27 + (1 : Int32)))
  else
  if v55 = (-4 : Int32) then
  some (.inl (x4_27 + (1 : Int32)))
  else
  if ¬ (v43 + v55) = v6 then
  some (.inl (x4_27 + (1 : Int32)))
  else
  some (.inr (.inl x4_27))
def f_X3_firstStep_k1 (y4_81 : Int32) : Option Int32 :=
  some y4_81
def f_X3_firstStep_k2 (_u : Unit) : Option Int32 :=
  some (-4 : Int32)
def f_X3_firstStep (σ : Sg) (o : Nat) (a1 : Int32) (a2 : Int32) : Option Int32 :=
  (f_X0_at σ (o + 3) a1 a2).bind fun v6 =>
  if a1 = a2 then
  some (-4 : Int32)
  else
  if ¬ v6 = (-4 : Int32) then
  (lp (fun st => f_X3_firstStep_b1 σ o a1 a2 v6 st) FU (0 : Int32)).bind fun rr => Sum.elim (fun q => f_X3_firstStep_k1 q) (fun q => f_X3_firstStep_k2 ()) rr
  else
  some (-4 : Int32)
set_option maxHeartbeats 4000000 in
set_option maxRecDepth 100000 in
theorem c_X3_firstStep (l : Launch) (D : va_G) (w : Wv) (σ : Sg) (o : Nat) (a1 : Int32) (a2 : Int32) (r : Int32) (ho : isR o) (hf : f_X3_firstStep σ o a1 a2 = some r) : Met l yX3_firstStep (.code yX3_firstStep cX3_firstStep 7 (some .int) :: TB) (rmW 1 24) (pcW D w [.ref (w.1 (o)), .int a1, .int a2] σ) (qiW D w r σ) 0 0 (AL w) := by
  refine q_open (by decide +kernel) (Nat.le_of_ble_eq_true rfl) ?_
  intro p e s m args below meth c ls hx hb hml hr hlk hown hts hK hP hS hl
  have hown : s.vm.findClass RX3 = some m.cls := hown
  have hl : lv_has ls 7 [(0, .ref (w.1 (o))), (1, .int a1), (2, .int a2)] := hl
  unfold f_X3_firstStep at hf
  refine lv_aload_n hx hb dX3_firstStep_0 rfl (lv_at hl 0 rfl) ?_
  refine gt_X3_24 hx hb hts hown hK hP ho.o ho.k dX3_firstStep_1 ?_
  refine lv_iload_n hx hb dX3_firstStep_4 rfl (lv_at hl 1 rfl) ?_
  refine lv_iload_n hx hb dX3_firstStep_5 rfl (lv_at hl 2 rfl) ?_
  obtain ⟨v6, h6, hf⟩ := bnd hf
  refine q_cVi (As := [.int a1, .int a2]) hx hb hts hml hown hK hP hS (c_X0_at l D w σ (o + 3) a1 a2 v6 ho.f2 h6) hw_X3_54 hd_X0_at ⟨rfl, rfl, rfl⟩ ho.f2.o (ce0 ho.f2.k) rfl ⟨Nat.le_of_ble_eq_true rfl, Nat.le_of_ble_eq_true rfl⟩ ⟨Nat.le_of_ble_eq_true rfl, Nat.le_of_ble_eq_true rfl⟩ hl.1 rfl (Nat.le_of_ble_eq_true rfl) dX3_firstStep_6 (fun H locs hP hS => ?_)
  refine lv_istore_n (lv' := [(3, .int v6), (0, .ref (w.1 (o))), (1, .int a1), (2, .int a2)]) hx hb dX3_firstStep_9 rfl hl (by decide) rfl (fun ls hl => ?_)
  refine lv_iload_n hx hb dX3_firstStep_10 rfl (lv_at hl 2 rfl) ?_
  refine lv_iload_n hx hb dX3_firstStep_11 rfl (lv_at hl 3 rfl) ?_
  refine lv_icmp_eq (tgt := 21) hx hb dX3_firstStep_12 (by decide) (fun hc => ?_) (fun hc => ?_)
  · have hf := ifp hc hf
    refine lv_bipush (v := (-4 : Int32)) hx hb dX3_firstStep_21 (by decide) ?_
    have hq := Option.some.inj hf
    exact q_iret hx hb hr hlk hP hS hq rfl dX3_firstStep_23
  · have hf := ifn hc hf
    refine lv_iload_n hx hb dX3_firstStep_15 rfl (lv_at hl 0 rfl) ?_
    refine lv_bipush (v := (-4 : Int32)) hx hb dX3_firstStep_16 (by decide) ?_
    refine lv_icmp_ne (tgt := 24) hx hb dX3_firstStep_18 (by decide) (fun hc => ?_) (fun hc => ?_)
    · have hf := ifp hc hf
      refine lv_iconst (v := (0 : Int32)) hx hb dX3_firstStep_24 (by decide) ?_
      refine lv_istore (lv' := [(4, .int (0 : Int32)), (3, .int v6), (0, .ref (w.1 (o))), (1, .int a1), (2, .int a2)]) hx hb dX3_firstStep_25 hl (by decide) rfl (fun ls hl => ?_)
      obtain ⟨rr, hlp, hf⟩ := bnd hf
      have hE27_81 : ∀ (y4_81 : Int32) (H : Heap) (locs : List Loc) (ls : Array Slot), f_X3_firstStep_k1 y4_81 = some r → va_P D vwCl (WL w σ) H → va_S (AL w) s.heap H locs → lv_has ls 7 [(4, .int y4_81)] → W p l e (rmW 1 24) s m args below meth c H locs 0 0 (MQ below (qiW D w r σ) args s 0 0 (AL w)) (F0 m 81 ls []) := by
        intro y4_81 H locs ls hf hP hS hl
        unfold f_X3_firstStep_k1 at hf
        refine lv_iload hx hb dX3_firstStep_81 (lv_at hl 0 rfl) ?_
        have hq := Option.some.inj hf
        exact q_iret hx hb hr hlk hP hS hq rfl dX3_firstStep_83
      have hE27_90 : ∀  (H : Heap) (locs : List Loc) (ls : Array Slot), f_X3_firstStep_k2 () = some r → va_P D vwCl (WL w σ) H → va_S (AL w) s.heap H locs → lv_has ls 7 [] → W p l e (rmW 1 24) s m args below meth c H locs 0 0 (MQ below (qiW D w r σ) args s 0 0 (AL w)) (F0 m 90 ls []) := by
        intro  H locs ls hf hP hS hl
        unfold f_X3_firstStep_k2 at hf
        refine lv_bipush (v := (-4 : Int32)) hx hb dX3_firstStep_90 (by decide) ?_
        have hq := Option.some.inj hf
        exact q_iret hx hb hr hlk hP hS hq rfl dX3_firstStep_92
      refine lp_ind (G := fun (st : Int32) => ∀ (H : Heap) (locs : List Loc) (ls : Array Slot), va_P D vwCl (WL w σ) H → va_S (AL w) s.heap H locs → lv_has ls 7 [(0, .ref (w.1 (o))), (1, .int a1), (2, .int a2), (3, .int v6), (4, .int st)] → W p l e (rmW 1 24) s m args below meth c H locs 0 0 (MQ below (qiW D w r σ) args s 0 0 (AL w)) (F0 m 27 ls [])) (X := fun rr => Sum.elim (fun q => f_X3_firstStep_k1 q) (fun q => f_X3_firstStep_k2 ()) rr = some r) ?_ _ _ rr hlp hf _ _ _ hP hS (lv_sub hl [2, 3, 4, 1, 0] rfl)
      intro x4_27 oo27 hb9 hG27 hX27 H locs ls hP hS hl
      have hP : va_P D vwCl (WL w σ) H := hP
      have hl : lv_has ls 7 [(0, .ref (w.1 (o))), (1, .int a1), (2, .int a2), (3, .int v6), (4, .int x4_27)] := hl
      have hf : f_X3_firstStep_b1 σ o a1 a2 v6 x4_27 = some oo27 := hb9
      unfold f_X3_firstStep_b1 at hf
      refine lv_iload hx hb dX3_firstStep_27 (lv_at hl 4 rfl) ?_
      refine lv_aload_n hx hb dX3_firstStep_29 rfl (lv_at hl 0 rfl) ?_
      refine gt_X3_9 hx hb hts hown hK hP ho.o ho.k dX3_firstStep_30 ?_
      refine lv_icmp_ge (tgt := 90) hx hb dX3_firstStep_33 (by decide) (fun hc => ?_) (fun hc => ?_)
      · have hf := ifp hc hf
        obtain rfl := Option.some.inj hf
        exact hE27_90  _ _ _ (hX27 _ rfl) hP hS (lv_sub hl [] rfl)
      · have hf := ifn hc hf
        refine lv_aload_n hx hb dX3_firstStep_36 rfl (lv_at hl 0 rfl) ?_
        refine gt_X3_20 hx hb hts hown hK hP ho.o ho.k dX3_firstStep_37 ?_
        refine lv_iload_n hx hb dX3_firstStep_40 rfl (lv_at hl 1 rfl) ?_
        refine lv_iload hx hb dX3_firstStep_41 (lv_at hl 4 rfl) ?_
        obtain ⟨v43, h43, hf⟩ := bnd hf
        refine q_cVi (As := [.int a1, .int x4_27]) hx hb hts hml hown hK hP hS (c_X0_at l D w σ (o + 1) a1 x4_27 v43 ho.f1 h43) hw_X3_54 hd_X0_at ⟨rfl, rfl, rfl⟩ ho.f1.o (ce0 ho.f1.k) rfl ⟨Nat.le_of_ble_eq_true rfl, Nat.le_of_ble_eq_true rfl⟩ ⟨Nat.le_of_ble_eq_true rfl, Nat.le_of_ble_eq_true rfl⟩ hl.1 rfl (Nat.le_of_ble_eq_true rfl) dX3_firstStep_43 (fun H locs hP hS => ?_)
        refine lv_istore (lv' := [(5, .int v43), (0, .ref (w.1 (o))), (1, .int a1), (2, .int a2), (3, .int v6), (4, .int x4_27)]) hx hb dX3_firstStep_46 hl (by decide) rfl (fun ls hl => ?_)
        refine lv_aload_n hx hb dX3_firstStep_48 rfl (lv_at hl 1 rfl) ?_
        refine gt_X3_24 hx hb hts hown hK hP ho.o ho.k dX3_firstStep_49 ?_
        refine lv_iload hx hb dX3_firstStep_52 (lv_at hl 5 rfl) ?_
        refine lv_iload_n hx hb dX3_firstStep_54 rfl (lv_at hl 3 rfl) ?_
        obtain ⟨v55, h55, hf⟩ := bnd hf
        refine q_cVi (As := [.int x4_27, .int a2]) hx hb hts hml hown hK hP hS (c_X0_at l D w σ (o + 3) x4_27 a2 v55 ho.f2 h55) hw_X3_54 hd_X0_at ⟨rfl, rfl, rfl⟩ ho.f2.o (ce0 ho.f2.k) rfl ⟨Nat.le_of_ble_eq_true rfl, Nat.le_of_ble_eq_true rfl⟩ ⟨Nat.le_of_ble_eq_true rfl, Nat.le_of_ble_eq_true rfl⟩ hl.1 rfl (Nat.le_of_ble_eq_true rfl) dX3_firstStep_55 (fun H locs hP hS => ?_)
        refine lv_istore (lv' := [(6, .int v55), (5, .int v43), (0, .ref (w.1 (o))), (1, .int a1), (2, .int a2), (3, .int v6), (4, .int x4_27)]) hx hb dX3_firstStep_58 hl (by decide) rfl (fun ls hl => ?_)
        refine lv_iload hx hb dX3_firstStep_60 (lv_at hl 1 rfl) ?_
        refine lv_if_le (tgt := 84) hx hb dX3_firstStep_62 (by decide) (fun hc => ?_) (fun hc => ?_)
        · have hf := ifp hc hf
          refine lv_iinc (v := (x4_27 + (1 : Int32))) (lv' := [(4, .int (x4_27 + (1 : Int32))), (6, .int v55), (5, .int v43), (0, .ref (w.1 (o))), (1, .int a1), (2, .int a2), (3, .int v6)]) hx hb dX3_firstStep_84 hl (k := 6) rfl ii_1 (by decide) rfl (fun ls hl => ?_)
          refine lv_goto (tgt := 27) hx hb dX3_firstStep_87 (by decide) ?_
          obtain rfl := Option.some.inj hf
          exact hG27 _ rfl _ _ _ hP hS (lv_sub hl [3, 4, 5, 6, 0] rfl)
        · have hf := ifn hc hf
          refine lv_iload hx hb dX3_firstStep_65 (lv_at hl 0 rfl) ?_
          refine lv_bipush (v := (-4 : Int32)) hx hb dX3_firstStep_67 (by decide) ?_
          refine lv_icmp_eq (tgt := 84) hx hb dX3_firstStep_69 (by decide) (fun hc => ?_) (fun hc => ?_)
          · have hf := ifp hc hf
            refine lv_iinc (v := (x4_27 + (1 : Int32))) (lv' := [(4, .int (x4_27 + (1 : Int32))), (6, .int v55), (5, .int v43), (0, .ref (w.1 (o))), (1, .int a1), (2, .int a2), (3, .int v6)]) hx hb dX3_firstStep_84 hl (k := 6) rfl ii_1 (by decide) rfl (fun ls hl => ?_)
            refine lv_goto (tgt := 27) hx hb dX3_firstStep_87 (by decide) ?_
            obtain rfl := Option.some.inj hf
            exact hG27 _ rfl _ _ _ hP hS (lv_sub hl [3, 4, 5, 6, 0] rfl)
          · have hf := ifn hc hf
            refine lv_iload hx hb dX3_firstStep_72 (lv_at hl 1 rfl) ?_
            refine lv_iload hx hb dX3_firstStep_74 (lv_at hl 0 rfl) ?_
            refine lv_iadd hx hb dX3_firstStep_76 ?_
            refine lv_iload_n hx hb dX3_firstStep_77 rfl (lv_at hl 5 rfl) ?_
            refine lv_icmp_ne (tgt := 84) hx hb dX3_firstStep_78 (by decide) (fun hc => ?_) (fun hc => ?_)
            · have hf := ifp hc hf
              refine lv_iinc (v := (x4_27 + (1 : Int32))) (lv' := [(4, .int (x4_27 + (1 : Int32))), (6, .int v55), (5, .int v43), (0, .ref (w.1 (o))), (1, .int a1), (2, .int a2), (3, .int v6)]) hx hb dX3_firstStep_84 hl (k := 6) rfl ii_1 (by decide) rfl (fun ls hl => ?_)
              refine lv_goto (tgt := 27) hx hb dX3_firstStep_87 (by decide) ?_
              obtain rfl := Option.some.inj hf
              exact hG27 _ rfl _ _ _ hP hS (lv_sub hl [3, 4, 5, 6, 0] rfl)
            · have hf := ifn (fun h => h hc) hf
              obtain rfl := Option.some.inj hf
              exact hE27_81 x4_27 _ _ _ (hX27 _ rfl) hP hS (lv_sub hl [6] rfl)
    · have hf := ifn (fun h => h hc) hf
      refine lv_bipush (v := (-4 : Int32)) hx hb dX3_firstStep_21 (by decide) ?_
      have hq := Option.some.inj hf
      exact q_iret hx hb hr hlk hP hS hq rfl dX3_firstStep_23
def f_X3_townBehind (σ : Sg) (o : Nat) (a1 : Int32) : Option Int32 :=
  if (σ (o) 0) ≤ (a1 + (1 : Int32)) then
  some (0 : Int32)
  else
  some (a1 + (1 : Int32))
set_option maxHeartbeats 4000000 in
set_option maxRecDepth 100000 in
theorem c_X3_townBehind (l : Launch) (D : va_G) (w : Wv) (σ : Sg) (o : Nat) (a1 : Int32) (r : Int32) (ho : isR o) (hf : f_X3_townBehind σ o a1 = some r) : Met l yX3_townBehind (.code yX3_townBehind cX3_townBehind 2 (some .int) :: TB) (rmW 0 0) (pcW D w [.ref (w.1 (o)), .int a1] σ) (qiW D w r σ) 0 0 (AL w) := by
  refine q_open (by decide +kernel) (Nat.le_of_ble_eq_true rfl) ?_
  intro p e s m args below meth c ls hx hb hml hr hlk hown hts hK hP hS hl
  have hown : s.vm.findClass RX3 = some m.cls := hown
  have hl : lv_has ls 2 [(0, .ref (w.1 (o))), (1, .int a1)] := hl
  unfold f_X3_townBehind at hf
  refine lv_iload_n hx hb dX3_townBehind_0 rfl (lv_at hl 1 rfl) ?_
  refine lv_iconst (v := (1 : Int32)) hx hb dX3_townBehind_1 (by decide) ?_
  refine lv_iadd hx hb dX3_townBehind_2 ?_
  refine lv_aload_n hx hb dX3_townBehind_3 rfl (lv_at hl 0 rfl) ?_
  refine gt_X3_9 hx hb hts hown hK hP ho.o ho.k dX3_townBehind_4 ?_
  refine lv_icmp_ge (tgt := 16) hx hb dX3_townBehind_7 (by decide) (fun hc => ?_) (fun hc => ?_)
  · have hf := ifp hc hf
    refine lv_iconst (v := (0 : Int32)) hx hb dX3_townBehind_16 (by decide) ?_
    have hq := Option.some.inj hf
    exact q_iret hx hb hr hlk hP hS hq rfl dX3_townBehind_17
  · have hf := ifn hc hf
    refine lv_iload_n hx hb dX3_townBehind_10 rfl (lv_at hl 1 rfl) ?_
    refine lv_iconst (v := (1 : Int32)) hx hb dX3_townBehind_11 (by decide) ?_
    refine lv_iadd hx hb dX3_townBehind_12 ?_
    refine lv_goto (tgt := 17) hx hb dX3_townBehind_13 (by decide) ?_
    have hq := Option.some.inj hf
    exact q_iret hx hb hr hlk hP hS hq rfl dX3_townBehind_17
def f_X3_turned_b1 (σ : Sg) (o : Nat) (a1 : Int32) (x3_5 : Int32) (x4_5 : Int32) : Option ((Int32 × Int32) ⊕ (Int32 ⊕ Unit)) :=
  if (σ (o) 0) ≤ x4_5 then
  some (.inr (.inr ()))
  else
  if (σ (o) 0) ≤ (x3_5 + (1 : Int32)) then
  (f_X0_at σ (o + 1) a1 (0 : Int32)).bind fun v38 =>
  if v38 ≤ 0 then
  some (.inl ((0 : Int32), (x4_5 + (1 : Int32))))
  else
  some (.inr (.inl (0 : Int32)))
  else
  (f_X0_at σ (o + 1) a1 (x3_5 + (1 : Int32))).bind fun v38 =>
  if v38 ≤ 0 then
  some (.inl ((x3_5 + (1 : Int32)), (x4_5 + (1 : Int32))))
  else
  some (.inr (.inl (x3_5 + (1 : Int32))))
def f_X3_turned_k1 (y3_44 : Int32) : Option Int32 :=
  some y3_44
def f_X3_turned_k2 (_u : Unit) : Option Int32 :=
  some (-4 : Int32)
def f_X3_turned (σ : Sg) (o : Nat) (a1 : Int32) (a2 : Int32) : Option Int32 :=
  (lp (fun st => f_X3_turned_b1 σ o a1 st.1 st.2) FU (a2, (0 : Int32))).bind fun rr => Sum.elim (fun q => f_X3_turned_k1 q) (fun q => f_X3_turned_k2 ()) rr
set_option maxHeartbeats 4000000 in
set_option maxRecDepth 100000 in
theorem c_X3_turned (l : Launch) (D : va_G) (w : Wv) (σ : Sg) (o : Nat) (a1 : Int32) (a2 : Int32) (r : Int32) (ho : isR o) (hf : f_X3_turned σ o a1 a2 = some r) : Met l yX3_turned (.code yX3_turned cX3_turned 5 (some .int) :: TB) (rmW 1 24) (pcW D w [.ref (w.1 (o)), .int a1, .int a2] σ) (qiW D w r σ) 0 0 (AL w) := by
  refine q_open (by decide +kernel) (Nat.le_of_ble_eq_true rfl) ?_
  intro p e s m args below meth c ls hx hb hml hr hlk hown hts hK hP hS hl
  have hown : s.vm.findClass RX3 = some m.cls := hown
  have hl : lv_has ls 5 [(0, .ref (w.1 (o))), (1, .int a1), (2, .int a2)] := hl
  unfold f_X3_turned at hf
  refine lv_iload_n hx hb dX3_turned_0 rfl (lv_at hl 2 rfl) ?_
  refine lv_istore_n (lv' := [(3, .int a2), (0, .ref (w.1 (o))), (1, .int a1), (2, .int a2)]) hx hb dX3_turned_1 rfl hl (by decide) rfl (fun ls hl => ?_)
  refine lv_iconst (v := (0 : Int32)) hx hb dX3_turned_2 (by decide) ?_
  refine lv_istore (lv' := [(4, .int (0 : Int32)), (3, .int a2), (0, .ref (w.1 (o))), (1, .int a1), (2, .int a2)]) hx hb dX3_turned_3 hl (by decide) rfl (fun ls hl => ?_)
  obtain ⟨rr, hlp, hf⟩ := bnd hf
  have hE5_44 : ∀ (y3_44 : Int32) (H : Heap) (locs : List Loc) (ls : Array Slot), f_X3_turned_k1 y3_44 = some r → va_P D vwCl (WL w σ) H → va_S (AL w) s.heap H locs → lv_has ls 5 [(3, .int y3_44)] → W p l e (rmW 1 24) s m args below meth c H locs 0 0 (MQ below (qiW D w r σ) args s 0 0 (AL w)) (F0 m 44 ls []) := by
    intro y3_44 H locs ls hf hP hS hl
    unfold f_X3_turned_k1 at hf
    refine lv_iload_n hx hb dX3_turned_44 rfl (lv_at hl 0 rfl) ?_
    have hq := Option.some.inj hf
    exact q_iret hx hb hr hlk hP hS hq rfl dX3_turned_45
  have hE5_52 : ∀  (H : Heap) (locs : List Loc) (ls : Array Slot), f_X3_turned_k2 () = some r → va_P D vwCl (WL w σ) H → va_S (AL w) s.heap H locs → lv_has ls 5 [] → W p l e (rmW 1 24) s m args below meth c H locs 0 0 (MQ below (qiW D w r σ) args s 0 0 (AL w)) (F0 m 52 ls []) := by
    intro  H locs ls hf hP hS hl
    unfold f_X3_turned_k2 at hf
    refine lv_bipush (v := (-4 : Int32)) hx hb dX3_turned_52 (by decide) ?_
    have hq := Option.some.inj hf
    exact q_iret hx hb hr hlk hP hS hq rfl dX3_turned_54
  refine lp_ind (G := fun (st : (Int32 × Int32)) => ∀ (H : Heap) (locs : List Loc) (ls : Array Slot), va_P D vwCl (WL w σ) H → va_S (AL w) s.heap H locs → lv_has ls 5 [(0, .ref (w.1 (o))), (1, .int a1), (3, .int st.1), (4, .int st.2)] → W p l e (rmW 1 24) s m args below meth c H locs 0 0 (MQ below (qiW D w r σ) args s 0 0 (AL w)) (F0 m 5 ls [])) (X := fun rr => Sum.elim (fun q => f_X3_turned_k1 q) (fun q => f_X3_turned_k2 ()) rr = some r) ?_ _ _ rr hlp hf _ _ _ hP hS (lv_sub hl [2, 3, 1, 0] rfl)
  rintro ⟨x3_5, x4_5⟩ oo5 hb9 hG5 hX5 H locs ls hP hS hl
  have hP : va_P D vwCl (WL w σ) H := hP
  have hl : lv_has ls 5 [(0, .ref (w.1 (o))), (1, .int a1), (3, .int x3_5), (4, .int x4_5)] := hl
  have hf : f_X3_turned_b1 σ o a1 x3_5 x4_5 = some oo5 := hb9
  unfold f_X3_turned_b1 at hf
  refine lv_iload hx hb dX3_turned_5 (lv_at hl 3 rfl) ?_
  refine lv_aload_n hx hb dX3_turned_7 rfl (lv_at hl 0 rfl) ?_
  refine gt_X3_9 hx hb hts hown hK hP ho.o ho.k dX3_turned_8 ?_
  refine lv_icmp_ge (tgt := 52) hx hb dX3_turned_11 (by decide) (fun hc => ?_) (fun hc => ?_)
  · have hf := ifp hc hf
    obtain rfl := Option.some.inj hf
    exact hE5_52  _ _ _ (hX5 _ rfl) hP hS (lv_sub hl [] rfl)
  · have hf := ifn hc hf
    refine lv_iload_n hx hb dX3_turned_14 rfl (lv_at hl 2 rfl) ?_
    refine lv_iconst (v := (1 : Int32)) hx hb dX3_turned_15 (by decide) ?_
    refine lv_iadd hx hb dX3_turned_16 ?_
    refine lv_aload_n hx hb dX3_turned_17 rfl (lv_at hl 0 rfl) ?_
    refine gt_X3_9 hx hb hts hown hK hP ho.o ho.k dX3_turned_18 ?_
    refine lv_icmp_ge (tgt := 30) hx hb dX3_turned_21 (by decide) (fun hc => ?_) (fun hc => ?_)
    · have hf := ifp hc hf
      refine lv_iconst (v := (0 : Int32)) hx hb dX3_turned_30 (by decide) ?_
      refine lv_istore_n (lv' := [(3, .int (0 : Int32)), (0, .ref (w.1 (o))), (1, .int a1), (4, .int x4_5)]) hx hb dX3_turned_31 rfl hl (by decide) rfl (fun ls hl => ?_)
      refine lv_aload_n hx hb dX3_turned_32 rfl (lv_at hl 1 rfl) ?_
      refine gt_X3_20 hx hb hts hown hK hP ho.o ho.k dX3_turned_33 ?_
      refine lv_iload_n hx hb dX3_turned_36 rfl (lv_at hl 2 rfl) ?_
      refine lv_iload_n hx hb dX3_turned_37 rfl (lv_at hl 0 rfl) ?_
      obtain ⟨v38, h38, hf⟩ := bnd hf
      refine q_cVi (As := [.int a1, .int (0 : Int32)]) hx hb hts hml hown hK hP hS (c_X0_at l D w σ (o + 1) a1 (0 : Int32) v38 ho.f1 h38) hw_X3_54 hd_X0_at ⟨rfl, rfl, rfl⟩ ho.f1.o (ce0 ho.f1.k) rfl ⟨Nat.le_of_ble_eq_true rfl, Nat.le_of_ble_eq_true rfl⟩ ⟨Nat.le_of_ble_eq_true rfl, Nat.le_of_ble_eq_true rfl⟩ hl.1 rfl (Nat.le_of_ble_eq_true rfl) dX3_turned_38 (fun H locs hP hS => ?_)
      refine lv_if_le (tgt := 46) hx hb dX3_turned_41 (by decide) (fun hc => ?_) (fun hc => ?_)
      · have hf := ifp hc hf
        refine lv_iinc (v := (x4_5 + (1 : Int32))) (lv' := [(4, .int (x4_5 + (1 : Int32))), (3, .int (0 : Int32)), (0, .ref (w.1 (o))), (1, .int a1)]) hx hb dX3_turned_46 hl (k := 3) rfl ii_1 (by decide) rfl (fun ls hl => ?_)
        refine lv_goto (tgt := 5) hx hb dX3_turned_49 (by decide) ?_
        obtain rfl := Option.some.inj hf
        exact hG5 _ rfl _ _ _ hP hS (lv_sub hl [2, 3, 1, 0] rfl)
      · have hf := ifn hc hf
        obtain rfl := Option.some.inj hf
        exact hE5_44 (0 : Int32) _ _ _ (hX5 _ rfl) hP hS (lv_sub hl [0] rfl)
    · have hf := ifn hc hf
      refine lv_iload_n hx hb dX3_turned_24 rfl (lv_at hl 2 rfl) ?_
      refine lv_iconst (v := (1 : Int32)) hx hb dX3_turned_25 (by decide) ?_
      refine lv_iadd hx hb dX3_turned_26 ?_
      refine lv_goto (tgt := 31) hx hb dX3_turned_27 (by decide) ?_
      refine lv_istore_n (lv' := [(3, .int (x3_5 + (1 : Int32))), (0, .ref (w.1 (o))), (1, .int a1), (4, .int x4_5)]) hx hb dX3_turned_31 rfl hl (by decide) rfl (fun ls hl => ?_)
      refine lv_aload_n hx hb dX3_turned_32 rfl (lv_at hl 1 rfl) ?_
      refine gt_X3_20 hx hb hts hown hK hP ho.o ho.k dX3_turned_33 ?_
      refine lv_iload_n hx hb dX3_turned_36 rfl (lv_at hl 2 rfl) ?_
      refine lv_iload_n hx hb dX3_turned_37 rfl (lv_at hl 0 rfl) ?_
      obtain ⟨v38, h38, hf⟩ := bnd hf
      refine q_cVi (As := [.int a1, .int (x3_5 + (1 : Int32))]) hx hb hts hml hown hK hP hS (c_X0_at l D w σ (o + 1) a1 (x3_5 + (1 : Int32)) v38 ho.f1 h38) hw_X3_54 hd_X0_at ⟨rfl, rfl, rfl⟩ ho.f1.o (ce0 ho.f1.k) rfl ⟨Nat.le_of_ble_eq_true rfl, Nat.le_of_ble_eq_true rfl⟩ ⟨Nat.le_of_ble_eq_true rfl, Nat.le_of_ble_eq_true rfl⟩ hl.1 rfl (Nat.le_of_ble_eq_true rfl) dX3_turned_38 (fun H locs hP hS => ?_)
      refine lv_if_le (tgt := 46) hx hb dX3_turned_41 (by decide) (fun hc => ?_) (fun hc => ?_)
      · have hf := ifp hc hf
        refine lv_iinc (v := (x4_5 + (1 : Int32))) (lv' := [(4, .int (x4_5 + (1 : Int32))), (3, .int (x3_5 + (1 : Int32))), (0, .ref (w.1 (o))), (1, .int a1)]) hx hb dX3_turned_46 hl (k := 3) rfl ii_1 (by decide) rfl (fun ls hl => ?_)
        refine lv_goto (tgt := 5) hx hb dX3_turned_49 (by decide) ?_
        obtain rfl := Option.some.inj hf
        exact hG5 _ rfl _ _ _ hP hS (lv_sub hl [2, 3, 1, 0] rfl)
      · have hf := ifn hc hf
        obtain rfl := Option.some.inj hf
        exact hE5_44 (x3_5 + (1 : Int32)) _ _ _ (hX5 _ rfl) hP hS (lv_sub hl [0] rfl)
def f_X3_nearest_b1 (σ : Sg) (o : Nat) (a1 : Int32) (x2_8 : Int32) (x3_8 : Int32) (x4_8 : Int32) : Option ((Int32 × Int32 × Int32) ⊕ Int32) :=
  if (σ (o) 0) ≤ x4_8 then
  some (.inr x2_8)
  else
  (f_X0_at σ (o + 1) a1 x4_8).bind fun v24 =>
  if v24 ≤ 0 then
  some (.inl (x2_8, x3_8, (x4_8 + (1 : Int32))))
  else
  if x2_8 = (-4 : Int32) then
  some (.inl (x4_8, v24, (x4_8 + (1 : Int32))))
  else
  if x3_8 ≤ v24 then
  some (.inl (x2_8, x3_8, (x4_8 + (1 : Int32))))
  else
  some (.inl (x4_8, v24, (x4_8 + (1 : Int32))))
def f_X3_nearest_k1 (y2_58 : Int32) : Option Int32 :=
  some y2_58
def f_X3_nearest (σ : Sg) (o : Nat) (a1 : Int32) : Option Int32 :=
  (lp (fun st => f_X3_nearest_b1 σ o a1 st.1 st.2.1 st.2.2) FU ((-4 : Int32), (0 : Int32), (0 : Int32))).bind fun rr => f_X3_nearest_k1 rr
set_option maxHeartbeats 4000000 in
set_option maxRecDepth 100000 in
theorem c_X3_nearest (l : Launch) (D : va_G) (w : Wv) (σ : Sg) (o : Nat) (a1 : Int32) (r : Int32) (ho : isR o) (hf : f_X3_nearest σ o a1 = some r) : Met l yX3_nearest (.code yX3_nearest cX3_nearest 6 (some .int) :: TB) (rmW 1 24) (pcW D w [.ref (w.1 (o)), .int a1] σ) (qiW D w r σ) 0 0 (AL w) := by
  refine q_open (by decide +kernel) (Nat.le_of_ble_eq_true rfl) ?_
  intro p e s m args below meth c ls hx hb hml hr hlk hown hts hK hP hS hl
  have hown : s.vm.findClass RX3 = some m.cls := hown
  have hl : lv_has ls 6 [(0, .ref (w.1 (o))), (1, .int a1)] := hl
  unfold f_X3_nearest at hf
  refine lv_bipush (v := (-4 : Int32)) hx hb dX3_nearest_0 (by decide) ?_
  refine lv_istore_n (lv' := [(2, .int (-4 : Int32)), (0, .ref (w.1 (o))), (1, .int a1)]) hx hb dX3_nearest_2 rfl hl (by decide) rfl (fun ls hl => ?_)
  refine lv_iconst (v := (0 : Int32)) hx hb dX3_nearest_3 (by decide) ?_
  refine lv_istore_n (lv' := [(3, .int (0 : Int32)), (2, .int (-4 : Int32)), (0, .ref (w.1 (o))), (1, .int a1)]) hx hb dX3_nearest_4 rfl hl (by decide) rfl (fun ls hl => ?_)
  refine lv_iconst (v := (0 : Int32)) hx hb dX3_nearest_5 (by decide) ?_
  refine lv_istore (lv' := [(4, .int (0 : Int32)), (3, .int (0 : Int32)), (2, .int (-4 : Int32)), (0, .ref (w.1 (o))), (1, .int a1)]) hx hb dX3_nearest_6 hl (by decide) rfl (fun ls hl => ?_)
  obtain ⟨rr, hlp, hf⟩ := bnd hf
  have hE8_58 : ∀ (y2_58 : Int32) (H : Heap) (locs : List Loc) (ls : Array Slot), f_X3_nearest_k1 y2_58 = some r → va_P D vwCl (WL w σ) H → va_S (AL w) s.heap H locs → lv_has ls 6 [(2, .int y2_58)] → W p l e (rmW 1 24) s m args below meth c H locs 0 0 (MQ below (qiW D w r σ) args s 0 0 (AL w)) (F0 m 58 ls []) := by
    intro y2_58 H locs ls hf hP hS hl
    unfold f_X3_nearest_k1 at hf
    refine lv_iload_n hx hb dX3_nearest_58 rfl (lv_at hl 0 rfl) ?_
    have hq := Option.some.inj hf
    exact q_iret hx hb hr hlk hP hS hq rfl dX3_nearest_59
  refine lp_ind (G := fun (st : (Int32 × Int32 × Int32)) => ∀ (H : Heap) (locs : List Loc) (ls : Array Slot), va_P D vwCl (WL w σ) H → va_S (AL w) s.heap H locs → lv_has ls 6 [(0, .ref (w.1 (o))), (1, .int a1), (2, .int st.1), (3, .int st.2.1), (4, .int st.2.2)] → W p l e (rmW 1 24) s m args below meth c H locs 0 0 (MQ below (qiW D w r σ) args s 0 0 (AL w)) (F0 m 8 ls [])) (X := fun rr => f_X3_nearest_k1 rr = some r) ?_ _ _ rr hlp hf _ _ _ hP hS (lv_sub hl [3, 4, 2, 1, 0] rfl)
  rintro ⟨x2_8, x3_8, x4_8⟩ oo8 hb9 hG8 hX8 H locs ls hP hS hl
  have hP : va_P D vwCl (WL w σ) H := hP
  have hl : lv_has ls 6 [(0, .ref (w.1 (o))), (1, .int a1), (2, .int x2_8), (3, .int x3_8), (4, .int x4_8)] := hl
  have hf : f_X3_nearest_b1 σ o a1 x2_8 x3_8 x4_8 = some oo8 := hb9
  unfold f_X3_nearest_b1 at hf
  refine lv_iload hx hb dX3_nearest_8 (lv_at hl 4 rfl) ?_
  refine lv_aload_n hx hb dX3_nearest_10 rfl (lv_at hl 0 rfl) ?_
  refine gt_X3_9 hx hb hts hown hK hP ho.o ho.k dX3_nearest_11 ?_
  refine lv_icmp_ge (tgt := 58) hx hb dX3_nearest_14 (by decide) (fun hc => ?_) (fun hc => ?_)
  · have hf := ifp hc hf
    obtain rfl := Option.some.inj hf
    exact hE8_58 x2_8 _ _ _ (hX8 _ rfl) hP hS (lv_sub hl [2] rfl)
  · have hf := ifn hc hf
    refine lv_aload_n hx hb dX3_nearest_17 rfl (lv_at hl 0 rfl) ?_
    refine gt_X3_20 hx hb hts hown hK hP ho.o ho.k dX3_nearest_18 ?_
    refine lv_iload_n hx hb dX3_nearest_21 rfl (lv_at hl 1 rfl) ?_
    refine lv_iload hx hb dX3_nearest_22 (lv_at hl 4 rfl) ?_
    obtain ⟨v24, h24, hf⟩ := bnd hf
    refine q_cVi (As := [.int a1, .int x4_8]) hx hb hts hml hown hK hP hS (c_X0_at l D w σ (o + 1) a1 x4_8 v24 ho.f1 h24) hw_X3_54 hd_X0_at ⟨rfl, rfl, rfl⟩ ho.f1.o (ce0 ho.f1.k) rfl ⟨Nat.le_of_ble_eq_true rfl, Nat.le_of_ble_eq_true rfl⟩ ⟨Nat.le_of_ble_eq_true rfl, Nat.le_of_ble_eq_true rfl⟩ hl.1 rfl (Nat.le_of_ble_eq_true rfl) dX3_nearest_24 (fun H locs hP hS => ?_)
    refine lv_istore (lv' := [(5, .int v24), (0, .ref (w.1 (o))), (1, .int a1), (2, .int x2_8), (3, .int x3_8), (4, .int x4_8)]) hx hb dX3_nearest_27 hl (by decide) rfl (fun ls hl => ?_)
    refine lv_iload hx hb dX3_nearest_29 (lv_at hl 0 rfl) ?_
    refine lv_if_le (tgt := 52) hx hb dX3_nearest_31 (by decide) (fun hc => ?_) (fun hc => ?_)
    · have hf := ifp hc hf
      refine lv_iinc (v := (x4_8 + (1 : Int32))) (lv' := [(4, .int (x4_8 + (1 : Int32))), (5, .int v24), (0, .ref (w.1 (o))), (1, .int a1), (2, .int x2_8), (3, .int x3_8)]) hx hb dX3_nearest_52 hl (k := 5) rfl ii_1 (by decide) rfl (fun ls hl => ?_)
      refine lv_goto (tgt := 8) hx hb dX3_nearest_55 (by decide) ?_
      obtain rfl := Option.some.inj hf
      exact hG8 _ rfl _ _ _ hP hS (lv_sub hl [2, 3, 4, 5, 0] rfl)
    · have hf := ifn hc hf
      refine lv_iload_n hx hb dX3_nearest_34 rfl (lv_at hl 3 rfl) ?_
      refine lv_bipush (v := (-4 : Int32)) hx hb dX3_nearest_35 (by decide) ?_
      refine lv_icmp_eq (tgt := 46) hx hb dX3_nearest_37 (by decide) (fun hc => ?_) (fun hc => ?_)
      · have hf := ifp hc hf
        refine lv_iload hx hb dX3_nearest_46 (lv_at hl 5 rfl) ?_
        refine lv_istore_n (lv' := [(2, .int x4_8), (5, .int v24), (0, .ref (w.1 (o))), (1, .int a1), (3, .int x3_8), (4, .int x4_8)]) hx hb dX3_nearest_48 rfl hl (by decide) rfl (fun ls hl => ?_)
        refine lv_iload hx hb dX3_nearest_49 (lv_at hl 1 rfl) ?_
        refine lv_istore_n (lv' := [(3, .int v24), (2, .int x4_8), (5, .int v24), (0, .ref (w.1 (o))), (1, .int a1), (4, .int x4_8)]) hx hb dX3_nearest_51 rfl hl (by decide) rfl (fun ls hl => ?_)
        refine lv_iinc (v := (x4_8 + (1 : Int32))) (lv' := [(4, .int (x4_8 + (1 : Int32))), (3, .int v24), (2, .int x4_8), (5, .int v24), (0, .ref (w.1 (o))), (1, .int a1)]) hx hb dX3_nearest_52 hl (k := 5) rfl ii_1 (by decide) rfl (fun ls hl => ?_)
        refine lv_goto (tgt := 8) hx hb dX3_nearest_55 (by decide) ?_
        obtain rfl := Option.some.inj hf
        exact hG8 _ rfl _ _ _ hP hS (lv_sub hl [4, 5, 2, 1, 0] rfl)
      · have hf := ifn hc hf
        refine lv_iload hx hb dX3_nearest_40 (lv_at hl 0 rfl) ?_
        refine lv_iload_n hx hb dX3_nearest_42 rfl (lv_at hl 4 rfl) ?_
        refine lv_icmp_ge (tgt := 52) hx hb dX3_nearest_43 (by decide) (fun hc => ?_) (fun hc => ?_)
        · have hf := ifp hc hf
          refine lv_iinc (v := (x4_8 + (1 : Int32))) (lv' := [(4, .int (x4_8 + (1 : Int32))), (5, .int v24), (0, .ref (w.1 (o))), (1, .int a1), (2, .int x2_8), (3, .int x3_8)]) hx hb dX3_nearest_52 hl (k := 5) rfl ii_1 (by decide) rfl (fun ls hl => ?_)
          refine lv_goto (tgt := 8) hx hb dX3_nearest_55 (by decide) ?_
          obtain rfl := Option.some.inj hf
          exact hG8 _ rfl _ _ _ hP hS (lv_sub hl [2, 3, 4, 5, 0] rfl)
        · have hf := ifn hc hf
          refine lv_iload hx hb dX3_nearest_46 (lv_at hl 5 rfl) ?_
          refine lv_istore_n (lv' := [(2, .int x4_8), (5, .int v24), (0, .ref (w.1 (o))), (1, .int a1), (3, .int x3_8), (4, .int x4_8)]) hx hb dX3_nearest_48 rfl hl (by decide) rfl (fun ls hl => ?_)
          refine lv_iload hx hb dX3_nearest_49 (lv_at hl 1 rfl) ?_
          refine lv_istore_n (lv' := [(3, .int v24), (2, .int x4_8), (5, .int v24), (0, .ref (w.1 (o))), (1, .int a1), (4, .int x4_8)]) hx hb dX3_nearest_51 rfl hl (by decide) rfl (fun ls hl => ?_)
          refine lv_iinc (v := (x4_8 + (1 : Int32))) (lv' := [(4, .int (x4_8 + (1 : Int32))), (3, .int v24), (2, .int x4_8), (5, .int v24), (0, .ref (w.1 (o))), (1, .int a1)]) hx hb dX3_nearest_52 hl (k := 5) rfl ii_1 (by decide) rfl (fun ls hl => ?_)
          refine lv_goto (tgt := 8) hx hb dX3_nearest_55 (by decide) ?_
          obtain rfl := Option.some.inj hf
          exact hG8 _ rfl _ _ _ hP hS (lv_sub hl [4, 5, 2, 1, 0] rfl)
def f_X3_howMany_b1 (σ : Sg) (o : Nat) (x2_4 : Int32) (x1_16 : Int32) (x3_16 : Int32) : Option ((Int32 × Int32) ⊕ Int32) :=
  if (σ (o) 0) ≤ x3_16 then
  some (.inr x1_16)
  else
  (f_X0_at σ (o + 1) x2_4 x3_16).bind fun v30 =>
  if v30 ≤ 0 then
  some (.inl (x1_16, (x3_16 + (1 : Int32))))
  else
  some (.inl ((x1_16 + (1 : Int32)), (x3_16 + (1 : Int32))))
def f_X3_howMany_k1 (x2_4 : Int32) (y1_45 : Int32) : Option ((Int32 × Int32) ⊕ Int32) :=
  some (.inl (y1_45, (x2_4 + (1 : Int32))))
def f_X3_howMany_b2 (σ : Sg) (o : Nat) (x1_4 : Int32) (x2_4 : Int32) : Option ((Int32 × Int32) ⊕ Int32) :=
  if (σ (o) 0) ≤ x2_4 then
  some (.inr x1_4)
  else
  (lp (fun st => f_X3_howMany_b1 σ o x2_4 st.1 st.2) FU (x1_4, (x2_4 + (1 : Int32)))).bind fun rr => f_X3_howMany_k1 x2_4 rr
def f_X3_howMany_k2 (y1_51 : Int32) : Option Int32 :=
  some y1_51
def f_X3_howMany (σ : Sg) (o : Nat) : Option Int32 :=
  (lp (fun st => f_X3_howMany_b2 σ o st.1 st.2) FU ((0 : Int32), (0 : Int32))).bind fun rr => f_X3_howMany_k2 rr
set_option maxHeartbeats 4000000 in
set_option maxRecDepth 100000 in
theorem c_X3_howMany (l : Launch) (D : va_G) (w : Wv) (σ : Sg) (o : Nat) (r : Int32) (ho : isR o) (hf : f_X3_howMany σ o = some r) : Met l yX3_howMany (.code yX3_howMany cX3_howMany 4 (some .int) :: TB) (rmW 1 24) (pcW D w [.ref (w.1 (o))] σ) (qiW D w r σ) 0 0 (AL w) := by
  refine q_open (by decide +kernel) (Nat.le_of_ble_eq_true rfl) ?_
  intro p e s m args below meth c ls hx hb hml hr hlk hown hts hK hP hS hl
  have hown : s.vm.findClass RX3 = some m.cls := hown
  have hl : lv_has ls 4 [(0, .ref (w.1 (o)))] := hl
  unfold f_X3_howMany at hf
  refine lv_iconst (v := (0 : Int32)) hx hb dX3_howMany_0 (by decide) ?_
  refine lv_istore_n (lv' := [(1, .int (0 : Int32)), (0, .ref (w.1 (o)))]) hx hb dX3_howMany_1 rfl hl (by decide) rfl (fun ls hl => ?_)
  refine lv_iconst (v := (0 : Int32)) hx hb dX3_howMany_2 (by decide) ?_
  refine lv_istore_n (lv' := [(2, .int (0 : Int32)), (1, .int (0 : Int32)), (0, .ref (w.1 (o)))]) hx hb dX3_howMany_3 rfl hl (by decide) rfl (fun ls hl => ?_)
  obtain ⟨rr, hlp, hf⟩ := bnd hf
  have hE4_51 : ∀ (y1_51 : Int32) (H : Heap) (locs : List Loc) (ls : Array Slot), f_X3_howMany_k2 y1_51 = some r → va_P D vwCl (WL w σ) H → va_S (AL w) s.heap H locs → lv_has ls 4 [(1, .int y1_51)] → W p l e (rmW 1 24) s m args below meth c H locs 0 0 (MQ below (qiW D w r σ) args s 0 0 (AL w)) (F0 m 51 ls []) := by
    intro y1_51 H locs ls hf hP hS hl
    unfold f_X3_howMany_k2 at hf
    refine lv_iload_n hx hb dX3_howMany_51 rfl (lv_at hl 0 rfl) ?_
    have hq := Option.some.inj hf
    exact q_iret hx hb hr hlk hP hS hq rfl dX3_howMany_52
  refine lp_ind (G := fun (st : (Int32 × Int32)) => ∀ (H : Heap) (locs : List Loc) (ls : Array Slot), va_P D vwCl (WL w σ) H → va_S (AL w) s.heap H locs → lv_has ls 4 [(0, .ref (w.1 (o))), (1, .int st.1), (2, .int st.2)] → W p l e (rmW 1 24) s m args below meth c H locs 0 0 (MQ below (qiW D w r σ) args s 0 0 (AL w)) (F0 m 4 ls [])) (X := fun rr => f_X3_howMany_k2 rr = some r) ?_ _ _ rr hlp hf _ _ _ hP hS (lv_sub hl [2, 1, 0] rfl)
  rintro ⟨x1_4, x2_4⟩ oo4 hb9 hG4 hX4 H locs ls hP hS hl
  have hP : va_P D vwCl (WL w σ) H := hP
  have hl : lv_has ls 4 [(0, .ref (w.1 (o))), (1, .int x1_4), (2, .int x2_4)] := hl
  have hf : f_X3_howMany_b2 σ o x1_4 x2_4 = some oo4 := hb9
  unfold f_X3_howMany_b2 at hf
  refine lv_iload_n hx hb dX3_howMany_4 rfl (lv_at hl 2 rfl) ?_
  refine lv_aload_n hx hb dX3_howMany_5 rfl (lv_at hl 0 rfl) ?_
  refine gt_X3_9 hx hb hts hown hK hP ho.o ho.k dX3_howMany_6 ?_
  refine lv_icmp_ge (tgt := 51) hx hb dX3_howMany_9 (by decide) (fun hc => ?_) (fun hc => ?_)
  · have hf := ifp hc hf
    obtain rfl := Option.some.inj hf
    exact hE4_51 x1_4 _ _ _ (hX4 _ rfl) hP hS (lv_sub hl [1] rfl)
  · have hf := ifn hc hf
    refine lv_iload_n hx hb dX3_howMany_12 rfl (lv_at hl 2 rfl) ?_
    refine lv_iconst (v := (1 : Int32)) hx hb dX3_howMany_13 (by decide) ?_
    refine lv_iadd hx hb dX3_howMany_14 ?_
    refine lv_istore_n (lv' := [(3, .int (x2_4 + (1 : Int32))), (0, .ref (w.1 (o))), (1, .int x1_4), (2, .int x2_4)]) hx hb dX3_howMany_15 rfl hl (by decide) rfl (fun ls hl => ?_)
    obtain ⟨rr, hlp, hf⟩ := bnd hf
    have hE16_45 : ∀ (y1_45 : Int32) (H : Heap) (locs : List Loc) (ls : Array Slot), f_X3_howMany_k1 x2_4 y1_45 = some oo4 → va_P D vwCl (WL w σ) H → va_S (AL w) s.heap H locs → lv_has ls 4 [(0, .ref (w.1 (o))), (1, .int y1_45), (2, .int x2_4)] → W p l e (rmW 1 24) s m args below meth c H locs 0 0 (MQ below (qiW D w r σ) args s 0 0 (AL w)) (F0 m 45 ls []) := by
      intro y1_45 H locs ls hf hP hS hl
      unfold f_X3_howMany_k1 at hf
      refine lv_iinc (v := (x2_4 + (1 : Int32))) (lv' := [(2, .int (x2_4 + (1 : Int32))), (0, .ref (w.1 (o))), (1, .int y1_45)]) hx hb dX3_howMany_45 hl (k := 2) rfl ii_1 (by decide) rfl (fun ls hl => ?_)
      refine lv_goto (tgt := 4) hx hb dX3_howMany_48 (by decide) ?_
      obtain rfl := Option.some.inj hf
      exact hG4 _ rfl _ _ _ hP hS (lv_sub hl [1, 2, 0] rfl)
    refine lp_ind (G := fun (st : (Int32 × Int32)) => ∀ (H : Heap) (locs : List Loc) (ls : Array Slot), va_P D vwCl (WL w σ) H → va_S (AL w) s.heap H locs → lv_has ls 4 [(0, .ref (w.1 (o))), (1, .int st.1), (2, .int x2_4), (3, .int st.2)] → W p l e (rmW 1 24) s m args below meth c H locs 0 0 (MQ below (qiW D w r σ) args s 0 0 (AL w)) (F0 m 16 ls [])) (X := fun rr => f_X3_howMany_k1 x2_4 rr = some oo4) ?_ _ _ rr hlp hf _ _ _ hP hS (lv_sub hl [1, 2, 3, 0] rfl)
    rintro ⟨x1_16, x3_16⟩ oo16 hb9 hG16 hX16 H locs ls hP hS hl
    have hP : va_P D vwCl (WL w σ) H := hP
    have hl : lv_has ls 4 [(0, .ref (w.1 (o))), (1, .int x1_16), (2, .int x2_4), (3, .int x3_16)] := hl
    have hf : f_X3_howMany_b1 σ o x2_4 x1_16 x3_16 = some oo16 := hb9
    unfold f_X3_howMany_b1 at hf
    refine lv_iload_n hx hb dX3_howMany_16 rfl (lv_at hl 3 rfl) ?_
    refine lv_aload_n hx hb dX3_howMany_17 rfl (lv_at hl 0 rfl) ?_
    refine gt_X3_9 hx hb hts hown hK hP ho.o ho.k dX3_howMany_18 ?_
    refine lv_icmp_ge (tgt := 45) hx hb dX3_howMany_21 (by decide) (fun hc => ?_) (fun hc => ?_)
    · have hf := ifp hc hf
      obtain rfl := Option.some.inj hf
      exact hE16_45 x1_16 _ _ _ (hX16 _ rfl) hP hS (lv_sub hl [0, 1, 2] rfl)
    · have hf := ifn hc hf
      refine lv_aload_n hx hb dX3_howMany_24 rfl (lv_at hl 0 rfl) ?_
      refine gt_X3_20 hx hb hts hown hK hP ho.o ho.k dX3_howMany_25 ?_
      refine lv_iload_n hx hb dX3_howMany_28 rfl (lv_at hl 2 rfl) ?_
      refine lv_iload_n hx hb dX3_howMany_29 rfl (lv_at hl 3 rfl) ?_
      obtain ⟨v30, h30, hf⟩ := bnd hf
      refine q_cVi (As := [.int x2_4, .int x3_16]) hx hb hts hml hown hK hP hS (c_X0_at l D w σ (o + 1) x2_4 x3_16 v30 ho.f1 h30) hw_X3_54 hd_X0_at ⟨rfl, rfl, rfl⟩ ho.f1.o (ce0 ho.f1.k) rfl ⟨Nat.le_of_ble_eq_true rfl, Nat.le_of_ble_eq_true rfl⟩ ⟨Nat.le_of_ble_eq_true rfl, Nat.le_of_ble_eq_true rfl⟩ hl.1 rfl (Nat.le_of_ble_eq_true rfl) dX3_howMany_30 (fun H locs hP hS => ?_)
      refine lv_if_le (tgt := 39) hx hb dX3_howMany_33 (by decide) (fun hc => ?_) (fun hc => ?_)
      · have hf := ifp hc hf
        refine lv_iinc (v := (x3_16 + (1 : Int32))) (lv' := [(3, .int (x3_16 + (1 : Int32))), (0, .ref (w.1 (o))), (1, .int x1_16), (2, .int x2_4)]) hx hb dX3_howMany_39 hl (k := 3) rfl ii_1 (by decide) rfl (fun ls hl => ?_)
        refine lv_goto (tgt := 16) hx hb dX3_howMany_42 (by decide) ?_
        obtain rfl := Option.some.inj hf
        exact hG16 _ rfl _ _ _ hP hS (lv_sub hl [1, 2, 3, 0] rfl)
      · have hf := ifn hc hf
        refine lv_iinc (v := (x1_16 + (1 : Int32))) (lv' := [(1, .int (x1_16 + (1 : Int32))), (0, .ref (w.1 (o))), (2, .int x2_4), (3, .int x3_16)]) hx hb dX3_howMany_36 hl (k := 1) rfl ii_1 (by decide) rfl (fun ls hl => ?_)
        refine lv_iinc (v := (x3_16 + (1 : Int32))) (lv' := [(3, .int (x3_16 + (1 : Int32))), (1, .int (x1_16 + (1 : Int32))), (0, .ref (w.1 (o))), (2, .int x2_4)]) hx hb dX3_howMany_39 hl (k := 3) rfl ii_1 (by decide) rfl (fun ls hl => ?_)
        refine lv_goto (tgt := 16) hx hb dX3_howMany_42 (by decide) ?_
        obtain rfl := Option.some.inj hf
        exact hG16 _ rfl _ _ _ hP hS (lv_sub hl [2, 1, 3, 0] rfl)
def f_X3_milesOfAll_b1 (σ : Sg) (o : Nat) (x2_4 : Int32) (x1_16 : Int32) (x3_16 : Int32) : Option ((Int32 × Int32) ⊕ Int32) :=
  if (σ (o) 0) ≤ x3_16 then
  some (.inr x1_16)
  else
  (f_X0_at σ (o + 1) x2_4 x3_16).bind fun v31 =>
  some (.inl ((x1_16 + v31), (x3_16 + (1 : Int32))))
def f_X3_milesOfAll_k1 (x2_4 : Int32) (y1_42 : Int32) : Option ((Int32 × Int32) ⊕ Int32) :=
  some (.inl (y1_42, (x2_4 + (1 : Int32))))
def f_X3_milesOfAll_b2 (σ : Sg) (o : Nat) (x1_4 : Int32) (x2_4 : Int32) : Option ((Int32 × Int32) ⊕ Int32) :=
  if (σ (o) 0) ≤ x2_4 then
  some (.inr x1_4)
  else
  (lp (fun st => f_X3_milesOfAll_b1 σ o x2_4 st.1 st.2) FU (x1_4, (x2_4 + (1 : Int32)))).bind fun rr => f_X3_milesOfAll_k1 x2_4 rr
def f_X3_milesOfAll_k2 (y1_48 : Int32) : Option Int32 :=
  some y1_48
def f_X3_milesOfAll (σ : Sg) (o : Nat) : Option Int32 :=
  (lp (fun st => f_X3_milesOfAll_b2 σ o st.1 st.2) FU ((0 : Int32), (0 : Int32))).bind fun rr => f_X3_milesOfAll_k2 rr
set_option maxHeartbeats 4000000 in
set_option maxRecDepth 100000 in
theorem c_X3_milesOfAll (l : Launch) (D : va_G) (w : Wv) (σ : Sg) (o : Nat) (r : Int32) (ho : isR o) (hf : f_X3_milesOfAll σ o = some r) : Met l yX3_milesOfAll (.code yX3_milesOfAll cX3_milesOfAll 4 (some .int) :: TB) (rmW 1 24) (pcW D w [.ref (w.1 (o))] σ) (qiW D w r σ) 0 0 (AL w) := by
  refine q_open (by decide +kernel) (Nat.le_of_ble_eq_true rfl) ?_
  intro p e s m args below meth c ls hx hb hml hr hlk hown hts hK hP hS hl
  have hown : s.vm.findClass RX3 = some m.cls := hown
  have hl : lv_has ls 4 [(0, .ref (w.1 (o)))] := hl
  unfold f_X3_milesOfAll at hf
  refine lv_iconst (v := (0 : Int32)) hx hb dX3_milesOfAll_0 (by decide) ?_
  refine lv_istore_n (lv' := [(1, .int (0 : Int32)), (0, .ref (w.1 (o)))]) hx hb dX3_milesOfAll_1 rfl hl (by decide) rfl (fun ls hl => ?_)
  refine lv_iconst (v := (0 : Int32)) hx hb dX3_milesOfAll_2 (by decide) ?_
  refine lv_istore_n (lv' := [(2, .int (0 : Int32)), (1, .int (0 : Int32)), (0, .ref (w.1 (o)))]) hx hb dX3_milesOfAll_3 rfl hl (by decide) rfl (fun ls hl => ?_)
  obtain ⟨rr, hlp, hf⟩ := bnd hf
  have hE4_48 : ∀ (y1_48 : Int32) (H : Heap) (locs : List Loc) (ls : Array Slot), f_X3_milesOfAll_k2 y1_48 = some r → va_P D vwCl (WL w σ) H → va_S (AL w) s.heap H locs → lv_has ls 4 [(1, .int y1_48)] → W p l e (rmW 1 24) s m args below meth c H locs 0 0 (MQ below (qiW D w r σ) args s 0 0 (AL w)) (F0 m 48 ls []) := by
    intro y1_48 H locs ls hf hP hS hl
    unfold f_X3_milesOfAll_k2 at hf
    refine lv_iload_n hx hb dX3_milesOfAll_48 rfl (lv_at hl 0 rfl) ?_
    have hq := Option.some.inj hf
    exact q_iret hx hb hr hlk hP hS hq rfl dX3_milesOfAll_49
  refine lp_ind (G := fun (st : (Int32 × Int32)) => ∀ (H : Heap) (locs : List Loc) (ls : Array Slot), va_P D vwCl (WL w σ) H → va_S (AL w) s.heap H locs → lv_has ls 4 [(0, .ref (w.1 (o))), (1, .int st.1), (2, .int st.2)] → W p l e (rmW 1 24) s m args below meth c H locs 0 0 (MQ below (qiW D w r σ) args s 0 0 (AL w)) (F0 m 4 ls [])) (X := fun rr => f_X3_milesOfAll_k2 rr = some r) ?_ _ _ rr hlp hf _ _ _ hP hS (lv_sub hl [2, 1, 0] rfl)
  rintro ⟨x1_4, x2_4⟩ oo4 hb9 hG4 hX4 H locs ls hP hS hl
  have hP : va_P D vwCl (WL w σ) H := hP
  have hl : lv_has ls 4 [(0, .ref (w.1 (o))), (1, .int x1_4), (2, .int x2_4)] := hl
  have hf : f_X3_milesOfAll_b2 σ o x1_4 x2_4 = some oo4 := hb9
  unfold f_X3_milesOfAll_b2 at hf
  refine lv_iload_n hx hb dX3_milesOfAll_4 rfl (lv_at hl 2 rfl) ?_
  refine lv_aload_n hx hb dX3_milesOfAll_5 rfl (lv_at hl 0 rfl) ?_
  refine gt_X3_9 hx hb hts hown hK hP ho.o ho.k dX3_milesOfAll_6 ?_
  refine lv_icmp_ge (tgt := 48) hx hb dX3_milesOfAll_9 (by decide) (fun hc => ?_) (fun hc => ?_)
  · have hf := ifp hc hf
    obtain rfl := Option.some.inj hf
    exact hE4_48 x1_4 _ _ _ (hX4 _ rfl) hP hS (lv_sub hl [1] rfl)
  · have hf := ifn hc hf
    refine lv_iload_n hx hb dX3_milesOfAll_12 rfl (lv_at hl 2 rfl) ?_
    refine lv_iconst (v := (1 : Int32)) hx hb dX3_milesOfAll_13 (by decide) ?_
    refine lv_iadd hx hb dX3_milesOfAll_14 ?_
    refine lv_istore_n (lv' := [(3, .int (x2_4 + (1 : Int32))), (0, .ref (w.1 (o))), (1, .int x1_4), (2, .int x2_4)]) hx hb dX3_milesOfAll_15 rfl hl (by decide) rfl (fun ls hl => ?_)
    obtain ⟨rr, hlp, hf⟩ := bnd hf
    have hE16_42 : ∀ (y1_42 : Int32) (H : Heap) (locs : List Loc) (ls : Array Slot), f_X3_milesOfAll_k1 x2_4 y1_42 = some oo4 → va_P D vwCl (WL w σ) H → va_S (AL w) s.heap H locs → lv_has ls 4 [(0, .ref (w.1 (o))), (1, .int y1_42), (2, .int x2_4)] → W p l e (rmW 1 24) s m args below meth c H locs 0 0 (MQ below (qiW D w r σ) args s 0 0 (AL w)) (F0 m 42 ls []) := by
      intro y1_42 H locs ls hf hP hS hl
      unfold f_X3_milesOfAll_k1 at hf
      refine lv_iinc (v := (x2_4 + (1 : Int32))) (lv' := [(2, .int (x2_4 + (1 : Int32))), (0, .ref (w.1 (o))), (1, .int y1_42)]) hx hb dX3_milesOfAll_42 hl (k := 2) rfl ii_1 (by decide) rfl (fun ls hl => ?_)
      refine lv_goto (tgt := 4) hx hb dX3_milesOfAll_45 (by decide) ?_
      obtain rfl := Option.some.inj hf
      exact hG4 _ rfl _ _ _ hP hS (lv_sub hl [1, 2, 0] rfl)
    refine lp_ind (G := fun (st : (Int32 × Int32)) => ∀ (H : Heap) (locs : List Loc) (ls : Array Slot), va_P D vwCl (WL w σ) H → va_S (AL w) s.heap H locs → lv_has ls 4 [(0, .ref (w.1 (o))), (1, .int st.1), (2, .int x2_4), (3, .int st.2)] → W p l e (rmW 1 24) s m args below meth c H locs 0 0 (MQ below (qiW D w r σ) args s 0 0 (AL w)) (F0 m 16 ls [])) (X := fun rr => f_X3_milesOfAll_k1 x2_4 rr = some oo4) ?_ _ _ rr hlp hf _ _ _ hP hS (lv_sub hl [1, 2, 3, 0] rfl)
    rintro ⟨x1_16, x3_16⟩ oo16 hb9 hG16 hX16 H locs ls hP hS hl
    have hP : va_P D vwCl (WL w σ) H := hP
    have hl : lv_has ls 4 [(0, .ref (w.1 (o))), (1, .int x1_16), (2, .int x2_4), (3, .int x3_16)] := hl
    have hf : f_X3_milesOfAll_b1 σ o x2_4 x1_16 x3_16 = some oo16 := hb9
    unfold f_X3_milesOfAll_b1 at hf
    refine lv_iload_n hx hb dX3_milesOfAll_16 rfl (lv_at hl 3 rfl) ?_
    refine lv_aload_n hx hb dX3_milesOfAll_17 rfl (lv_at hl 0 rfl) ?_
    refine gt_X3_9 hx hb hts hown hK hP ho.o ho.k dX3_milesOfAll_18 ?_
    refine lv_icmp_ge (tgt := 42) hx hb dX3_milesOfAll_21 (by decide) (fun hc => ?_) (fun hc => ?_)
    · have hf := ifp hc hf
      obtain rfl := Option.some.inj hf
      exact hE16_42 x1_16 _ _ _ (hX16 _ rfl) hP hS (lv_sub hl [0, 1, 2] rfl)
    · have hf := ifn hc hf
      refine lv_iload_n hx hb dX3_milesOfAll_24 rfl (lv_at hl 1 rfl) ?_
      refine lv_aload_n hx hb dX3_milesOfAll_25 rfl (lv_at hl 0 rfl) ?_
      refine gt_X3_20 hx hb hts hown hK hP ho.o ho.k dX3_milesOfAll_26 ?_
      refine lv_iload_n hx hb dX3_milesOfAll_29 rfl (lv_at hl 2 rfl) ?_
      refine lv_iload_n hx hb dX3_milesOfAll_30 rfl (lv_at hl 3 rfl) ?_
      obtain ⟨v31, h31, hf⟩ := bnd hf
      refine q_cVi (As := [.int x2_4, .int x3_16]) hx hb hts hml hown hK hP hS (c_X0_at l D w σ (o + 1) x2_4 x3_16 v31 ho.f1 h31) hw_X3_54 hd_X0_at ⟨rfl, rfl, rfl⟩ ho.f1.o (ce0 ho.f1.k) rfl ⟨Nat.le_of_ble_eq_true rfl, Nat.le_of_ble_eq_true rfl⟩ ⟨Nat.le_of_ble_eq_true rfl, Nat.le_of_ble_eq_true rfl⟩ hl.1 rfl (Nat.le_of_ble_eq_true rfl) dX3_milesOfAll_31 (fun H locs hP hS => ?_)
      refine lv_iadd hx hb dX3_milesOfAll_34 ?_
      refine lv_istore_n (lv' := [(1, .int (x1_16 + v31)), (0, .ref (w.1 (o))), (2, .int x2_4), (3, .int x3_16)]) hx hb dX3_milesOfAll_35 rfl hl (by decide) rfl (fun ls hl => ?_)
      refine lv_iinc (v := (x3_16 + (1 : Int32))) (lv' := [(3, .int (x3_16 + (1 : Int32))), (1, .int (x1_16 + v31)), (0, .ref (w.1 (o))), (2, .int x2_4)]) hx hb dX3_milesOfAll_36 hl (k := 3) rfl ii_1 (by decide) rfl (fun ls hl => ?_)
      refine lv_goto (tgt := 16) hx hb dX3_milesOfAll_39 (by decide) ?_
      obtain rfl := Option.some.inj hf
      exact hG16 _ rfl _ _ _ hP hS (lv_sub hl [2, 1, 3, 0] rfl)
def f_X6_hasBit (σ : Sg) (a1 : Int32) (a2 : Int32) : Option Int32 :=
  if ¬ ((a1 >>> (a2 &&& 31)) &&& (1 : Int32)) = (1 : Int32) then
  some (0 : Int32)
  else
  some (1 : Int32)
set_option maxHeartbeats 4000000 in
set_option maxRecDepth 100000 in
theorem c_X6_hasBit (l : Launch) (D : va_G) (w : Wv) (σ : Sg) (a1 : Int32) (a2 : Int32) (r : Int32)  (hf : f_X6_hasBit σ a1 a2 = some r) : Met l yX6_hasBit (.code yX6_hasBit cX6_hasBit 2 (some .boolean) :: TB) (rmW 0 0) (pcW D w [.int a1, .int a2] σ) (qzW D w r σ) 0 0 (AL w) := by
  refine q_open (by decide +kernel) (Nat.le_of_ble_eq_true rfl) ?_
  intro p e s m args below meth c ls hx hb hml hr hlk hown hts hK hP hS hl
  have hown : s.vm.findClass RX6 = some m.cls := hown
  have hl : lv_has ls 2 [(0, .int a1), (1, .int a2)] := hl
  unfold f_X6_hasBit at hf
  refine lv_iload_n hx hb dX6_hasBit_0 rfl (lv_at hl 0 rfl) ?_
  refine lv_iload_n hx hb dX6_hasBit_1 rfl (lv_at hl 1 rfl) ?_
  refine lv_ishr hx hb dX6_hasBit_2 ?_
  refine lv_iconst (v := (1 : Int32)) hx hb dX6_hasBit_3 (by decide) ?_
  refine lv_iand hx hb dX6_hasBit_4 ?_
  refine lv_iconst (v := (1 : Int32)) hx hb dX6_hasBit_5 (by decide) ?_
  refine lv_icmp_ne (tgt := 13) hx hb dX6_hasBit_6 (by decide) (fun hc => ?_) (fun hc => ?_)
  · have hf := ifp hc hf
    refine lv_iconst (v := (0 : Int32)) hx hb dX6_hasBit_13 (by decide) ?_
    have hq := Option.some.inj hf
    exact q_zret hx hb hr hlk hP hS rfl hq rfl dX6_hasBit_14
  · have hf := ifn (fun h => h hc) hf
    refine lv_iconst (v := (1 : Int32)) hx hb dX6_hasBit_9 (by decide) ?_
    refine lv_goto (tgt := 14) hx hb dX6_hasBit_10 (by decide) ?_
    have hq := Option.some.inj hf
    exact q_zret hx hb hr hlk hP hS rfl hq rfl dX6_hasBit_14
def f_J6_bitCount_0f7a4 (σ : Sg) (a1 : Int32) : Option Int32 :=
  some ((((((((a1 - ((((a1).toUInt32 >>> (((1 : Int32)).toUInt32 &&& Int32.toUInt32 31)).toInt32) &&& (1431655765 : Int32))) &&& (858993459 : Int32)) + (((((a1 - ((((a1).toUInt32 >>> (((1 : Int32)).toUInt32 &&& Int32.toUInt32 31)).toInt32) &&& (1431655765 : Int32)))).toUInt32 >>> (((2 : Int32)).toUInt32 &&& Int32.toUInt32 31)).toInt32) &&& (858993459 : Int32))) + ((((((a1 - ((((a1).toUInt32 >>> (((1 : Int32)).toUInt32 &&& Int32.toUInt32 31)).toInt32) &&& (1431655765 : Int32))) &&& (858993459 : Int32)) + (((((a1 - ((((a1).toUInt32 >>> (((1 : Int32)).toUInt32 &&& Int32.toUInt32 31)).toInt32) &&& (1431655765 : Int32)))).toUInt32 >>> (((2 : Int32)).toUInt32 &&& Int32.toUInt32 31)).toInt32) &&& (858993459 : Int32)))).toUInt32 >>> (((4 : Int32)).toUInt32 &&& Int32.toUInt32 31)).toInt32)) &&& (252645135 : Int32)) + ((((((((a1 - ((((a1).toUInt32 >>> (((1 : Int32)).toUInt32 &&& Int32.toUInt32 31)).toInt32) &&& (1431655765 : Int32))) &&& (858993459 : Int32)) + (((((a1 - ((((a1).toUInt32 >>> (((1 : Int32)).toUInt32 &&& Int32.toUInt32 31)).toInt32) &&& (1431655765 : Int32)))).toUInt32 >>> (((2 : Int32)).toUInt32 &&& Int32.toUInt32 31)).toInt32) &&& (858993459 : Int32))) + ((((((a1 - ((((a1).toUInt32 >>> (((1 : Int32)).toUInt32 &&& Int32.toUInt32 31)).toInt32) &&& (1431655765 : Int32))) &&& (858993459 : Int32)) + (((((a1 - ((((a1).toUInt32 >>> (((1 : Int32)).toUInt32 &&& Int32.toUInt32 31)).toInt32) &&& (1431655765 : Int32)))).toUInt32 >>> (((2 : Int32)).toUInt32 &&& Int32.toUInt32 31)).toInt32) &&& (858993459 : Int32)))).toUInt32 >>> (((4 : Int32)).toUInt32 &&& Int32.toUInt32 31)).toInt32)) &&& (252645135 : Int32))).toUInt32 >>> (((8 : Int32)).toUInt32 &&& Int32.toUInt32 31)).toInt32)) + (((((((((a1 - ((((a1).toUInt32 >>> (((1 : Int32)).toUInt32 &&& Int32.toUInt32 31)).toInt32) &&& (1431655765 : Int32))) &&& (858993459 : Int32)) + (((((a1 - ((((a1).toUInt32 >>> (((1 : Int32)).toUInt32 &&& Int32.toUInt32 31)).toInt32) &&& (1431655765 : Int32)))).toUInt32 >>> (((2 : Int32)).toUInt32 &&& Int32.toUInt32 31)).toInt32) &&& (858993459 : Int32))) + ((((((a1 - ((((a1).toUInt32 >>> (((1 : Int32)).toUInt32 &&& Int32.toUInt32 31)).toInt32) &&& (1431655765 : Int32))) &&& (858993459 : Int32)) + (((((a1 - ((((a1).toUInt32 >>> (((1 : Int32)).toUInt32 &&& Int32.toUInt32 31)).toInt32) &&& (1431655765 : Int32)))).toUInt32 >>> (((2 : Int32)).toUInt32 &&& Int32.toUInt32 31)).toInt32) &&& (858993459 : Int32)))).toUInt32 >>> (((4 : Int32)).toUInt32 &&& Int32.toUInt32 31)).toInt32)) &&& (252645135 : Int32)) + ((((((((a1 - ((((a1).toUInt32 >>> (((1 : Int32)).toUInt32 &&& Int32.toUInt32 31)).toInt32) &&& (1431655765 : Int32))) &&& (858993459 : Int32)) + (((((a1 - ((((a1).toUInt32 >>> (((1 : Int32)).toUInt32 &&& Int32.toUInt32 31)).toInt32) &&& (1431655765 : Int32)))).toUInt32 >>> (((2 : Int32)).toUInt32 &&& Int32.toUInt32 31)).toInt32) &&& (858993459 : Int32))) + ((((((a1 - ((((a1).toUInt32 >>> (((1 : Int32)).toUInt32 &&& Int32.toUInt32 31)).toInt32) &&& (1431655765 : Int32))) &&& (858993459 : Int32)) + (((((a1 - ((((a1).toUInt32 >>> (((1 : Int32)).toUInt32 &&& Int32.toUInt32 31)).toInt32) &&& (1431655765 : Int32)))).toUInt32 >>> (((2 : Int32)).toUInt32 &&& Int32.toUInt32 31)).toInt32) &&& (858993459 : Int32)))).toUInt32 >>> (((4 : Int32)).toUInt32 &&& Int32.toUInt32 31)).toInt32)) &&& (252645135 : Int32))).toUInt32 >>> (((8 : Int32)).toUInt32 &&& Int32.toUInt32 31)).toInt32))).toUInt32 >>> (((16 : Int32)).toUInt32 &&& Int32.toUInt32 31)).toInt32)) &&& (63 : Int32))
set_option maxHeartbeats 4000000 in
set_option maxRecDepth 100000 in
theorem c_J6_bitCount_0f7a4 (l : Launch) (D : va_G) (w : Wv) (σ : Sg) (a1 : Int32) (r : Int32)  (hf : f_J6_bitCount_0f7a4 σ a1 = some r) : Met l yJ6_bitCount_0f7a4 (.code yJ6_bitCount_0f7a4 cJ6_bitCount_0f7a4 1 (some .int) :: TB) (rmW 0 0) (pcW D w [.int a1] σ) (qiW D w r σ) 0 0 (AL w) := by
  refine q_open (by decide +kernel) (Nat.le_of_ble_eq_true rfl) ?_
  intro p e s m args below meth c ls hx hb hml hr hlk hown hts hK hP hS hl
  have hown : s.vm.findClass RJ6 = some m.cls := hown
  have hl : lv_has ls 1 [(0, .int a1)] := hl
  unfold f_J6_bitCount_0f7a4 at hf
  refine lv_iload_n hx hb dJ6_bitCount_0f7a4_0 rfl (lv_at hl 0 rfl) ?_
  refine lv_iload_n hx hb dJ6_bitCount_0f7a4_1 rfl (lv_at hl 0 rfl) ?_
  refine lv_iconst (v := (1 : Int32)) hx hb dJ6_bitCount_0f7a4_2 (by decide) ?_
  refine lv_iushr (v := ((a1).toUInt32 >>> (((1 : Int32)).toUInt32 &&& Int32.toUInt32 31)).toInt32) hx hb dJ6_bitCount_0f7a4_3 rfl ?_
  refine lv_ldcw (v := (1431655765 : Int32)) hx hb hown (hts _ tw_641) dJ6_bitCount_0f7a4_4 ?_
  refine lv_iand hx hb dJ6_bitCount_0f7a4_7 ?_
  refine lv_isub hx hb dJ6_bitCount_0f7a4_8 ?_
  refine lv_istore_n (lv' := [(0, .int (a1 - ((((a1).toUInt32 >>> (((1 : Int32)).toUInt32 &&& Int32.toUInt32 31)).toInt32) &&& (1431655765 : Int32))))]) hx hb dJ6_bitCount_0f7a4_9 rfl hl (by decide) rfl (fun ls hl => ?_)
  refine lv_iload_n hx hb dJ6_bitCount_0f7a4_10 rfl (lv_at hl 0 rfl) ?_
  refine lv_ldcw (v := (858993459 : Int32)) hx hb hown (hts _ tw_642) dJ6_bitCount_0f7a4_11 ?_
  refine lv_iand hx hb dJ6_bitCount_0f7a4_14 ?_
  refine lv_iload_n hx hb dJ6_bitCount_0f7a4_15 rfl (lv_at hl 0 rfl) ?_
  refine lv_iconst (v := (2 : Int32)) hx hb dJ6_bitCount_0f7a4_16 (by decide) ?_
  refine lv_iushr (v := (((a1 - ((((a1).toUInt32 >>> (((1 : Int32)).toUInt32 &&& Int32.toUInt32 31)).toInt32) &&& (1431655765 : Int32)))).toUInt32 >>> (((2 : Int32)).toUInt32 &&& Int32.toUInt32 31)).toInt32) hx hb dJ6_bitCount_0f7a4_17 rfl ?_
  refine lv_ldcw (v := (858993459 : Int32)) hx hb hown (hts _ tw_642) dJ6_bitCount_0f7a4_18 ?_
  refine lv_iand hx hb dJ6_bitCount_0f7a4_21 ?_
  refine lv_iadd hx hb dJ6_bitCount_0f7a4_22 ?_
  refine lv_istore_n (lv' := [(0, .int (((a1 - ((((a1).toUInt32 >>> (((1 : Int32)).toUInt32 &&& Int32.toUInt32 31)).toInt32) &&& (1431655765 : Int32))) &&& (858993459 : Int32)) + (((((a1 - ((((a1).toUInt32 >>> (((1 : Int32)).toUInt32 &&& Int32.toUInt32 31)).toInt32) &&& (1431655765 : Int32)))).toUInt32 >>> (((2 : Int32)).toUInt32 &&& Int32.toUInt32 31)).toInt32) &&& (858993459 : Int32))))]) hx hb dJ6_bitCount_0f7a4_23 rfl hl (by decide) rfl (fun ls hl => ?_)
  refine lv_iload_n hx hb dJ6_bitCount_0f7a4_24 rfl (lv_at hl 0 rfl) ?_
  refine lv_iload_n hx hb dJ6_bitCount_0f7a4_25 rfl (lv_at hl 0 rfl) ?_
  refine lv_iconst (v := (4 : Int32)) hx hb dJ6_bitCount_0f7a4_26 (by decide) ?_
  refine lv_iushr (v := (((((a1 - ((((a1).toUInt32 >>> (((1 : Int32)).toUInt32 &&& Int32.toUInt32 31)).toInt32) &&& (1431655765 : Int32))) &&& (858993459 : Int32)) + (((((a1 - ((((a1).toUInt32 >>> (((1 : Int32)).toUInt32 &&& Int32.toUInt32 31)).toInt32) &&& (1431655765 : Int32)))).toUInt32 >>> (((2 : Int32)).toUInt32 &&& Int32.toUInt32 31)).toInt32) &&& (858993459 : Int32)))).toUInt32 >>> (((4 : Int32)).toUInt32 &&& Int32.toUInt32 31)).toInt32) hx hb dJ6_bitCount_0f7a4_27 rfl ?_
  refine lv_iadd hx hb dJ6_bitCount_0f7a4_28 ?_
  refine lv_ldcw (v := (252645135 : Int32)) hx hb hown (hts _ tw_643) dJ6_bitCount_0f7a4_29 ?_
  refine lv_iand hx hb dJ6_bitCount_0f7a4_32 ?_
  refine lv_istore_n (lv' := [(0, .int (((((a1 - ((((a1).toUInt32 >>> (((1 : Int32)).toUInt32 &&& Int32.toUInt32 31)).toInt32) &&& (1431655765 : Int32))) &&& (858993459 : Int32)) + (((((a1 - ((((a1).toUInt32 >>> (((1 : Int32)).toUInt32 &&& Int32.toUInt32 31)).toInt32) &&& (1431655765 : Int32)))).toUInt32 >>> (((2 : Int32)).toUInt32 &&& Int32.toUInt32 31)).toInt32) &&& (858993459 : Int32))) + ((((((a1 - ((((a1).toUInt32 >>> (((1 : Int32)).toUInt32 &&& Int32.toUInt32 31)).toInt32) &&& (1431655765 : Int32))) &&& (858993459 : Int32)) + (((((a1 - ((((a1).toUInt32 >>> (((1 : Int32)).toUInt32 &&& Int32.toUInt32 31)).toInt32) &&& (1431655765 : Int32)))).toUInt32 >>> (((2 : Int32)).toUInt32 &&& Int32.toUInt32 31)).toInt32) &&& (858993459 : Int32)))).toUInt32 >>> (((4 : Int32)).toUInt32 &&& Int32.toUInt32 31)).toInt32)) &&& (252645135 : Int32)))]) hx hb dJ6_bitCount_0f7a4_33 rfl hl (by decide) rfl (fun ls hl => ?_)
  refine lv_iload_n hx hb dJ6_bitCount_0f7a4_34 rfl (lv_at hl 0 rfl) ?_
  refine lv_iload_n hx hb dJ6_bitCount_0f7a4_35 rfl (lv_at hl 0 rfl) ?_
  refine lv_bipush (v := (8 : Int32)) hx hb dJ6_bitCount_0f7a4_36 (by decide) ?_
  refine lv_iushr (v := (((((((a1 - ((((a1).toUInt32 >>> (((1 : Int32)).toUInt32 &&& Int32.toUInt32 31)).toInt32) &&& (1431655765 : Int32))) &&& (858993459 : Int32)) + (((((a1 - ((((a1).toUInt32 >>> (((1 : Int32)).toUInt32 &&& Int32.toUInt32 31)).toInt32) &&& (1431655765 : Int32)))).toUInt32 >>> (((2 : Int32)).toUInt32 &&& Int32.toUInt32 31)).toInt32) &&& (858993459 : Int32))) + ((((((a1 - ((((a1).toUInt32 >>> (((1 : Int32)).toUInt32 &&& Int32.toUInt32 31)).toInt32) &&& (1431655765 : Int32))) &&& (858993459 : Int32)) + (((((a1 - ((((a1).toUInt32 >>> (((1 : Int32)).toUInt32 &&& Int32.toUInt32 31)).toInt32) &&& (1431655765 : Int32)))).toUInt32 >>> (((2 : Int32)).toUInt32 &&& Int32.toUInt32 31)).toInt32) &&& (858993459 : Int32)))).toUInt32 >>> (((4 : Int32)).toUInt32 &&& Int32.toUInt32 31)).toInt32)) &&& (252645135 : Int32))).toUInt32 >>> (((8 : Int32)).toUInt32 &&& Int32.toUInt32 31)).toInt32) hx hb dJ6_bitCount_0f7a4_38 rfl ?_
  refine lv_iadd hx hb dJ6_bitCount_0f7a4_39 ?_
  refine lv_istore_n (lv' := [(0, .int ((((((a1 - ((((a1).toUInt32 >>> (((1 : Int32)).toUInt32 &&& Int32.toUInt32 31)).toInt32) &&& (1431655765 : Int32))) &&& (858993459 : Int32)) + (((((a1 - ((((a1).toUInt32 >>> (((1 : Int32)).toUInt32 &&& Int32.toUInt32 31)).toInt32) &&& (1431655765 : Int32)))).toUInt32 >>> (((2 : Int32)).toUInt32 &&& Int32.toUInt32 31)).toInt32) &&& (858993459 : Int32))) + ((((((a1 - ((((a1).toUInt32 >>> (((1 : Int32)).toUInt32 &&& Int32.toUInt32 31)).toInt32) &&& (1431655765 : Int32))) &&& (858993459 : Int32)) + (((((a1 - ((((a1).toUInt32 >>> (((1 : Int32)).toUInt32 &&& Int32.toUInt32 31)).toInt32) &&& (1431655765 : Int32)))).toUInt32 >>> (((2 : Int32)).toUInt32 &&& Int32.toUInt32 31)).toInt32) &&& (858993459 : Int32)))).toUInt32 >>> (((4 : Int32)).toUInt32 &&& Int32.toUInt32 31)).toInt32)) &&& (252645135 : Int32)) + ((((((((a1 - ((((a1).toUInt32 >>> (((1 : Int32)).toUInt32 &&& Int32.toUInt32 31)).toInt32) &&& (1431655765 : Int32))) &&& (858993459 : Int32)) + (((((a1 - ((((a1).toUInt32 >>> (((1 : Int32)).toUInt32 &&& Int32.toUInt32 31)).toInt32) &&& (1431655765 : Int32)))).toUInt32 >>> (((2 : Int32)).toUInt32 &&& Int32.toUInt32 31)).toInt32) &&& (858993459 : Int32))) + ((((((a1 - ((((a1).toUInt32 >>> (((1 : Int32)).toUInt32 &&& Int32.toUInt32 31)).toInt32) &&& (1431655765 : Int32))) &&& (858993459 : Int32)) + (((((a1 - ((((a1).toUInt32 >>> (((1 : Int32)).toUInt32 &&& Int32.toUInt32 31)).toInt32) &&& (1431655765 : Int32)))).toUInt32 >>> (((2 : Int32)).toUInt32 &&& Int32.toUInt32 31)).toInt32) &&& (858993459 : Int32)))).toUInt32 >>> (((4 : Int32)).toUInt32 &&& Int32.toUInt32 31)).toInt32)) &&& (252645135 : Int32))).toUInt32 >>> (((8 : Int32)).toUInt32 &&& Int32.toUInt32 31)).toInt32)))]) hx hb dJ6_bitCount_0f7a4_40 rfl hl (by decide) rfl (fun ls hl => ?_)
  refine lv_iload_n hx hb dJ6_bitCount_0f7a4_41 rfl (lv_at hl 0 rfl) ?_
  refine lv_iload_n hx hb dJ6_bitCount_0f7a4_42 rfl (lv_at hl 0 rfl) ?_
  refine lv_bipush (v := (16 : Int32)) hx hb dJ6_bitCount_0f7a4_43 (by decide) ?_
  refine lv_iushr (v := ((((((((a1 - ((((a1).toUInt32 >>> (((1 : Int32)).toUInt32 &&& Int32.toUInt32 31)).toInt32) &&& (1431655765 : Int32))) &&& (858993459 : Int32)) + (((((a1 - ((((a1).toUInt32 >>> (((1 : Int32)).toUInt32 &&& Int32.toUInt32 31)).toInt32) &&& (1431655765 : Int32)))).toUInt32 >>> (((2 : Int32)).toUInt32 &&& Int32.toUInt32 31)).toInt32) &&& (858993459 : Int32))) + ((((((a1 - ((((a1).toUInt32 >>> (((1 : Int32)).toUInt32 &&& Int32.toUInt32 31)).toInt32) &&& (1431655765 : Int32))) &&& (858993459 : Int32)) + (((((a1 - ((((a1).toUInt32 >>> (((1 : Int32)).toUInt32 &&& Int32.toUInt32 31)).toInt32) &&& (1431655765 : Int32)))).toUInt32 >>> (((2 : Int32)).toUInt32 &&& Int32.toUInt32 31)).toInt32) &&& (858993459 : Int32)))).toUInt32 >>> (((4 : Int32)).toUInt32 &&& Int32.toUInt32 31)).toInt32)) &&& (252645135 : Int32)) + ((((((((a1 - ((((a1).toUInt32 >>> (((1 : Int32)).toUInt32 &&& Int32.toUInt32 31)).toInt32) &&& (1431655765 : Int32))) &&& (858993459 : Int32)) + (((((a1 - ((((a1).toUInt32 >>> (((1 : Int32)).toUInt32 &&& Int32.toUInt32 31)).toInt32) &&& (1431655765 : Int32)))).toUInt32 >>> (((2 : Int32)).toUInt32 &&& Int32.toUInt32 31)).toInt32) &&& (858993459 : Int32))) + ((((((a1 - ((((a1).toUInt32 >>> (((1 : Int32)).toUInt32 &&& Int32.toUInt32 31)).toInt32) &&& (1431655765 : Int32))) &&& (858993459 : Int32)) + (((((a1 - ((((a1).toUInt32 >>> (((1 : Int32)).toUInt32 &&& Int32.toUInt32 31)).toInt32) &&& (1431655765 : Int32)))).toUInt32 >>> (((2 : Int32)).toUInt32 &&& Int32.toUInt32 31)).toInt32) &&& (858993459 : Int32)))).toUInt32 >>> (((4 : Int32)).toUInt32 &&& Int32.toUInt32 31)).toInt32)) &&& (252645135 : Int32))).toUInt32 >>> (((8 : Int32)).toUInt32 &&& Int32.toUInt32 31)).toInt32))).toUInt32 >>> (((16 : Int32)).toUInt32 &&& Int32.toUInt32 31)).toInt32) hx hb dJ6_bitCount_0f7a4_45 rfl ?_
  refine lv_iadd hx hb dJ6_bitCount_0f7a4_46 ?_
  refine lv_istore_n (lv' := [(0, .int (((((((a1 - ((((a1).toUInt32 >>> (((1 : Int32)).toUInt32 &&& Int32.toUInt32 31)).toInt32) &&& (1431655765 : Int32))) &&& (858993459 : Int32)) + (((((a1 - ((((a1).toUInt32 >>> (((1 : Int32)).toUInt32 &&& Int32.toUInt32 31)).toInt32) &&& (1431655765 : Int32)))).toUInt32 >>> (((2 : Int32)).toUInt32 &&& Int32.toUInt32 31)).toInt32) &&& (858993459 : Int32))) + ((((((a1 - ((((a1).toUInt32 >>> (((1 : Int32)).toUInt32 &&& Int32.toUInt32 31)).toInt32) &&& (1431655765 : Int32))) &&& (858993459 : Int32)) + (((((a1 - ((((a1).toUInt32 >>> (((1 : Int32)).toUInt32 &&& Int32.toUInt32 31)).toInt32) &&& (1431655765 : Int32)))).toUInt32 >>> (((2 : Int32)).toUInt32 &&& Int32.toUInt32 31)).toInt32) &&& (858993459 : Int32)))).toUInt32 >>> (((4 : Int32)).toUInt32 &&& Int32.toUInt32 31)).toInt32)) &&& (252645135 : Int32)) + ((((((((a1 - ((((a1).toUInt32 >>> (((1 : Int32)).toUInt32 &&& Int32.toUInt32 31)).toInt32) &&& (1431655765 : Int32))) &&& (858993459 : Int32)) + (((((a1 - ((((a1).toUInt32 >>> (((1 : Int32)).toUInt32 &&& Int32.toUInt32 31)).toInt32) &&& (1431655765 : Int32)))).toUInt32 >>> (((2 : Int32)).toUInt32 &&& Int32.toUInt32 31)).toInt32) &&& (858993459 : Int32))) + ((((((a1 - ((((a1).toUInt32 >>> (((1 : Int32)).toUInt32 &&& Int32.toUInt32 31)).toInt32) &&& (1431655765 : Int32))) &&& (858993459 : Int32)) + (((((a1 - ((((a1).toUInt32 >>> (((1 : Int32)).toUInt32 &&& Int32.toUInt32 31)).toInt32) &&& (1431655765 : Int32)))).toUInt32 >>> (((2 : Int32)).toUInt32 &&& Int32.toUInt32 31)).toInt32) &&& (858993459 : Int32)))).toUInt32 >>> (((4 : Int32)).toUInt32 &&& Int32.toUInt32 31)).toInt32)) &&& (252645135 : Int32))).toUInt32 >>> (((8 : Int32)).toUInt32 &&& Int32.toUInt32 31)).toInt32)) + (((((((((a1 - ((((a1).toUInt32 >>> (((1 : Int32)).toUInt32 &&& Int32.toUInt32 31)).toInt32) &&& (1431655765 : Int32))) &&& (858993459 : Int32)) + (((((a1 - ((((a1).toUInt32 >>> (((1 : Int32)).toUInt32 &&& Int32.toUInt32 31)).toInt32) &&& (1431655765 : Int32)))).toUInt32 >>> (((2 : Int32)).toUInt32 &&& Int32.toUInt32 31)).toInt32) &&& (858993459 : Int32))) + ((((((a1 - ((((a1).toUInt32 >>> (((1 : Int32)).toUInt32 &&& Int32.toUInt32 31)).toInt32) &&& (1431655765 : Int32))) &&& (858993459 : Int32)) + (((((a1 - ((((a1).toUInt32 >>> (((1 : Int32)).toUInt32 &&& Int32.toUInt32 31)).toInt32) &&& (1431655765 : Int32)))).toUInt32 >>> (((2 : Int32)).toUInt32 &&& Int32.toUInt32 31)).toInt32) &&& (858993459 : Int32)))).toUInt32 >>> (((4 : Int32)).toUInt32 &&& Int32.toUInt32 31)).toInt32)) &&& (252645135 : Int32)) + ((((((((a1 - ((((a1).toUInt32 >>> (((1 : Int32)).toUInt32 &&& Int32.toUInt32 31)).toInt32) &&& (1431655765 : Int32))) &&& (858993459 : Int32)) + (((((a1 - ((((a1).toUInt32 >>> (((1 : Int32)).toUInt32 &&& Int32.toUInt32 31)).toInt32) &&& (1431655765 : Int32)))).toUInt32 >>> (((2 : Int32)).toUInt32 &&& Int32.toUInt32 31)).toInt32) &&& (858993459 : Int32))) + ((((((a1 - ((((a1).toUInt32 >>> (((1 : Int32)).toUInt32 &&& Int32.toUInt32 31)).toInt32) &&& (1431655765 : Int32))) &&& (858993459 : Int32)) + (((((a1 - ((((a1).toUInt32 >>> (((1 : Int32)).toUInt32 &&& Int32.toUInt32 31)).toInt32) &&& (1431655765 : Int32)))).toUInt32 >>> (((2 : Int32)).toUInt32 &&& Int32.toUInt32 31)).toInt32) &&& (858993459 : Int32)))).toUInt32 >>> (((4 : Int32)).toUInt32 &&& Int32.toUInt32 31)).toInt32)) &&& (252645135 : Int32))).toUInt32 >>> (((8 : Int32)).toUInt32 &&& Int32.toUInt32 31)).toInt32))).toUInt32 >>> (((16 : Int32)).toUInt32 &&& Int32.toUInt32 31)).toInt32)))]) hx hb dJ6_bitCount_0f7a4_47 rfl hl (by decide) rfl (fun ls hl => ?_)
  refine lv_iload_n hx hb dJ6_bitCount_0f7a4_48 rfl (lv_at hl 0 rfl) ?_
  refine lv_bipush (v := (63 : Int32)) hx hb dJ6_bitCount_0f7a4_49 (by decide) ?_
  refine lv_iand hx hb dJ6_bitCount_0f7a4_51 ?_
  have hq := Option.some.inj hf
  exact q_iret hx hb hr hlk hP hS hq rfl dJ6_bitCount_0f7a4_52
