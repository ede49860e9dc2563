/-! Part 18: the model's rows: hours, counts, years, painting. -/
section MF
variable {σ σ' : Sg} {c n : Nat} {mi : Mi} {np nw ho ye q ex al : Nat} {ki : Nat → Nat} {to : Nat → Option Nat} {ag : Nat → Nat} {ar am : Nat → Nat → Option Nat} {wa go : Nat → Nat}
theorem ST_fr (h : ST σ n np nw ki go) (hf : ∀ i, 186 ≤ i → i ≤ 190 → σ' i = σ i) : ST σ' n np nw ki go := by
  obtain ⟨a1, a2, a3, a4, a5⟩ := h
  refine ⟨?_, ?_, ?_, fun p hp => ?_, fun v hv => ?_⟩
  · rw [hf _ (by omega) (by omega)]; exact a1
  · rw [hf _ (by omega) (by omega)]; exact a2
  · rw [hf _ (by omega) (by omega)]; exact a3
  · rw [hf _ (by omega) (by omega)]; exact a4 p hp
  · rw [hf _ (by omega) (by omega)]; exact a5 v hv
theorem FL_fr (h : FL σ q ex al) (hf : σ' 184 = σ 184) : FL σ' q ex al := by
  obtain ⟨a1, a2, a3⟩ := h
  exact ⟨by rw [hf]; exact a1, by rw [hf]; exact a2, by rw [hf]; exact a3⟩
theorem PF_fr {P : Nat → Nat → Option Nat} (h : PF σ P) (hf : σ' 199 = σ 199) : PF σ' P := fun a b ha hb => by rw [hf]; exact h a b ha hb
theorem MC_fr (h : MC σ c mi np nw ho ye to ag ar am wa) (hf : σ' c = σ c) : MC σ' c mi np nw ho ye to ag ar am wa := by
  obtain ⟨m1, m2, m3, m4, m5, m6, m7⟩ := h
  refine ⟨fun a b ha hb => ?_, fun p hp => ?_, fun p hp => ?_, fun p hp ht t h8 => ?_, fun v hv => ?_, ?_, ?_⟩
  · rw [hf]; exact m1 a b ha hb
  · rw [hf]; exact m2 p hp
  · rw [hf]; exact m3 p hp
  · rw [hf]; exact m4 p hp ht t h8
  · rw [hf]; exact m5 v hv
  · rw [hf]; exact m6
  · rw [hf]; exact m7
theorem VY_hX (hV : VY n mi np nw ho ye q ki to ag ar am wa go) (v : Nat) : hsX mi n np q ex al ki to ag ar go ho wa v < n := by
  show (if wa v = go v then wa v else _) < n
  by_cases c : wa v = go v
  · rw [if_pos c]; exact hV.waL v
  · rw [if_neg c]; exact stX_lt hV (hV.waL v)
theorem mh_ok (hc : rC c) (hV : VY n mi np nw ho ye q ki to ag ar am wa go) (hnp : np ≤ 6) (hS : ST σ n np nw ki go) (hFl : FL σ q ex al) (hex : ex < 256) (hal : al ≤ 1) (hF : ex ≠ 0 → PF σ (dist mi)) (h : MC σ c mi np nw ho ye to ag ar am wa) : ∃ σ', f_X7_passHour σ c = some σ' ∧ (∀ i, i ≠ c → i ≠ 200 → σ' i = σ i) ∧ MC σ' c mi np nw (ho + 1) ye to ag ar am (hsX mi n np q ex al ki to ag ar go ho wa) := by
  have h5 := hV.nw5
  have hcb := hc.b
  unfold f_X7_passHour
  obtain ⟨τ, e, h1, h2⟩ := lp_inv (b := fun st => f_X7_passHour_b1 c st.1 st.2) (s0 := ((0 : Int32), σ)) (Post := fun (τ : Sg) => (∀ i, i ≠ 200 → τ i = σ i) ∧ ∀ v, v < nw → τ 200 v = nI (hsX mi n np q ex al ki to ag ar go ho wa v)) (fun j (s : Int32 × Sg) => s.1 = nI j ∧ (∀ i, i ≠ 200 → s.2 i = σ i) ∧ ∀ v, v < j → s.2 200 v = nI (hsX mi n np q ex al ki to ag ar go ho wa v)) nw (by omega) ⟨rfl, fun _ _ => rfl, fun v hv => absurd hv (by omega)⟩ (by
    rintro j ⟨x, τ⟩ hj ⟨rfl, hf, hp⟩
    have hf : ∀ i, i ≠ 200 → τ i = σ i := hf
    have hp : ∀ v, v < j → τ 200 v = nI (hsX mi n np q ex al ki to ag ar go ho wa v) := hp
    have hS' : ST τ n np nw ki go := ST_fr hS (fun i a b => hf i (by omega))
    show ∃ s', f_X7_passHour_b1 c (nI j) τ = _ ∧ _
    unfold f_X7_passHour_b1
    rw [L_0, l188, ga_n (by omega) (by omega), hS'.2.2.1]
    simp only [sb]
    rw [if_neg (nI_ge hj (by omega)), gs_ok hc hV hnp hS' (FL_fr hFl (hf _ (by omega))) hex hal (fun z => PF_fr (hF z) (hf _ (by omega))) (MC_fr h (hf _ (by omega))) hj, nI_1]
    simp only [sb]
    rw [l200, sa_n (by omega) (by omega)]
    refine ⟨_, rfl, rfl, fun i hi => (sf_ne hi).trans (hf i hi), fun v hv => ?_⟩
    dsimp only
    rw [sf_row]
    by_cases d : v = j
    · subst d; exact upd_self
    · rw [upd_ne d]; exact hp v (by omega)) (by
    rintro ⟨x, τ⟩ ⟨rfl, hf, hp⟩
    have hf : ∀ i, i ≠ 200 → τ i = σ i := hf
    show ∃ s', f_X7_passHour_b1 c (nI nw) τ = _ ∧ _
    unfold f_X7_passHour_b1
    rw [L_0, l188, ga_n (by omega) (by omega), hf _ (by omega), hS.2.2.1]
    simp only [sb]
    rw [if_pos (nI_le (Nat.le_refl _) (by omega))]
    exact ⟨_, rfl, hf, hp⟩)
  rw [e]
  show ∃ σ', f_X7_passHour_k2 c τ = some σ' ∧ _
  unfold f_X7_passHour_k2
  have hM := MC_fr h (h1 c (by omega))
  obtain ⟨τ2, e2, g1, g2, g3⟩ := lp_inv (b := fun st => f_X7_passHour_b2 c st.1 st.2) (s0 := ((0 : Int32), τ)) (Post := fun (u : Sg) => (∀ i, i ≠ c → u i = τ i) ∧ (∀ k, 5 ≤ k → u c k = τ c k) ∧ ∀ v, v < nw → u c (0 + v) = nI (hsX mi n np q ex al ki to ag ar go ho wa v)) (fun j (s : Int32 × Sg) => s.1 = nI j ∧ (∀ i, i ≠ c → s.2 i = τ i) ∧ (∀ k, 5 ≤ k → s.2 c k = τ c k) ∧ ∀ v, v < j → s.2 c (0 + v) = nI (hsX mi n np q ex al ki to ag ar go ho wa v)) nw (by omega) ⟨rfl, fun _ _ => rfl, fun _ _ => rfl, fun v hv => absurd hv (by omega)⟩ (by
    rintro j ⟨x, u⟩ hj ⟨rfl, hf, hk, hp⟩
    have hf : ∀ i, i ≠ c → u i = τ i := hf
    have hk : ∀ k, 5 ≤ k → u c k = τ c k := hk
    have hp : ∀ v, v < j → u c (0 + v) = nI (hsX mi n np q ex al ki to ag ar go ho wa v) := hp
    show ∃ s', f_X7_passHour_b2 c (nI j) u = _ ∧ _
    unfold f_X7_passHour_b2
    rw [L_0, l188, ga_n (by omega) (by omega), hf _ (by omega), h1 _ (by omega), hS.2.2.1]
    simp only [sb]
    rw [if_neg (nI_ge hj (by omega)), l200, ga_n (by omega) (by omega), hf 200 (by omega), h2 j hj]
    simp only [sb]
    rw [nI_add, hc.l, sa_n (by omega) (by omega), nI_1]
    refine ⟨_, rfl, rfl, fun i hi => (sf_ne hi).trans (hf i hi), fun k h5k => ?_, fun v hv => ?_⟩
    · dsimp only
      rw [sf_row, upd_ne (by omega)]; exact hk k h5k
    · dsimp only
      rw [sf_row]
      by_cases d : v = j
      · subst d; exact upd_self
      · rw [upd_ne (by omega)]; exact hp v (by omega)) (by
    rintro ⟨x, u⟩ ⟨rfl, hf, hk, hp⟩
    have hf : ∀ i, i ≠ c → u i = τ i := hf
    show ∃ s', f_X7_passHour_b2 c (nI nw) u = _ ∧ _
    unfold f_X7_passHour_b2
    rw [L_0, l188, ga_n (by omega) (by omega), hf _ (by omega), h1 _ (by omega), hS.2.2.1]
    simp only [sb]
    rw [if_pos (nI_le (Nat.le_refl _) (by omega))]
    exact ⟨_, rfl, hf, hk, hp⟩)
  rw [e2]
  show ∃ σ', f_X7_passHour_k1 c τ2 = some σ' ∧ _
  unfold f_X7_passHour_k1
  obtain ⟨m1, m2, m3, m4, m5, m6, m7⟩ := hM
  rw [L_5, hc.l, ga_n (by omega) (by omega), g2 5 (by omega), m6]
  simp only [sb]
  rw [nI_1, sa_n (by omega) (by omega)]
  refine ⟨_, rfl, fun i a b => ((sf_ne a).trans (g1 i a)).trans (h1 i b), fun a b ha hb => ?_, fun p hp => ?_, fun p hp => ?_, fun p hp ht t h8 => ?_, fun v hv => ?_, ?_, ?_⟩
  · rw [sf_row, upd_ne (by omega), g2 _ (by omega)]; exact m1 a b ha hb
  · rw [sf_row, upd_ne (by omega), g2 _ (by omega)]; exact m2 p hp
  · rw [sf_row, upd_ne (by omega), g2 _ (by omega)]; exact m3 p hp
  · rw [sf_row, upd_ne (by omega), g2 _ (by omega), upd_ne (by omega), g2 _ (by omega)]; exact m4 p hp ht t h8
  · rw [sf_row, upd_ne (by omega)]; exact g3 v hv
  · rw [sf_row]; exact upd_self
  · rw [sf_row, upd_ne (by omega), g2 _ (by omega)]; exact m7
/-- many hours -/
def hsXK (mi : Mi) (n np q ex al : Nat) (ki : Nat → Nat) (to : Nat → Option Nat) (ag : Nat → Nat) (ar : Nat → Nat → Option Nat) (go : Nat → Nat) (ho : Nat) (wa : Nat → Nat) : Nat → (Nat → Nat)
  | 0 => wa
  | k + 1 => hsX mi n np q ex al ki to ag ar go (ho + k) (hsXK mi n np q ex al ki to ag ar go ho wa k)
theorem hsXK_0 : ∀ k, hsXK mi n np q 0 0 ki to ag ar go ho wa k = hsK mi n np q ki to ag ar go ho wa k
  | 0 => rfl
  | k + 1 => by
    show hsX mi n np q 0 0 ki to ag ar go (ho + k) _ = hs mi n np q ki to ag ar go (ho + k) _
    rw [hsXK_0 k, hsX_0]
theorem hsXK_V (hV : VY n mi np nw ho ye q ki to ag ar am wa go) : ∀ k, ho + k ≤ 3000 → VY n mi np nw (ho + k) ye q ki to ag ar am (hsXK mi n np q ex al ki to ag ar go ho wa k) go
  | 0, _ => hV
  | k + 1, h => by
    have i := hsXK_V hV k (by omega)
    exact ⟨i.1, ⟨i.np8, i.nw5, h, i.yeL, i.qL⟩, i.2.2.1, i.2.2.2.1, i.2.2.2.2.1, i.2.2.2.2.2.1, i.2.2.2.2.2.2.1, fun v => VY_hX i v, i.2.2.2.2.2.2.2.2.1, i.2.2.2.2.2.2.2.2.2⟩
theorem take_ok (h : MC σ 195 mi np nw ho ye to ag ar am wa) (h6 : np ≤ 6) (h5 : nw ≤ 5) : ∃ σ', f_X7_take σ = some σ' ∧ (∀ i, i ≠ 198 → σ' i = σ i) ∧ MC σ' 198 mi np nw ho ye to ag ar am wa := by
  unfold f_X7_take
  obtain ⟨τ, e, h1, h2⟩ := lp_inv (b := fun st => f_X7_take_b1 st.1 st.2) (s0 := ((0 : Int32), σ)) (Post := fun (τ : Sg) => (∀ i, i ≠ 198 → τ i = σ i) ∧ ∀ k, k < 179 → τ 198 k = σ 195 k) (fun j (s : Int32 × Sg) => s.1 = nI j ∧ (∀ i, i ≠ 198 → s.2 i = σ i) ∧ ∀ k, k < j → s.2 198 k = σ 195 k) 179 (by omega) ⟨rfl, fun _ _ => rfl, fun v hv => absurd hv (by omega)⟩ (by
    rintro j ⟨x, τ⟩ hj ⟨rfl, hf, hp⟩
    have hf : ∀ i, i ≠ 198 → τ i = σ i := hf
    have hp : ∀ k, k < j → τ 198 k = σ 195 k := hp
    show ∃ s', f_X7_take_b1 (nI j) τ = _ ∧ _
    unfold f_X7_take_b1
    rw [L_179, if_neg (nI_ge hj (by omega)), l195, ga_n hj (by omega), hf _ (by omega), l198, nI_1]
    simp only [sb]
    rw [sa_n hj (by omega)]
    refine ⟨_, rfl, rfl, fun i hi => (sf_ne hi).trans (hf i hi), fun k hk => ?_⟩
    dsimp only
    rw [sf_row]
    by_cases d : k = j
    · subst d; exact upd_self
    · rw [upd_ne d]; exact hp k (by omega)) (by
    rintro ⟨x, τ⟩ ⟨rfl, hf, hp⟩
    show ∃ s', f_X7_take_b1 (nI 179) τ = _ ∧ _
    unfold f_X7_take_b1
    rw [L_179, if_pos (nI_le (Nat.le_refl _) (by omega))]
    exact ⟨_, rfl, hf, hp⟩)
  rw [e]
  obtain ⟨m1, m2, m3, m4, m5, m6, m7⟩ := h
  refine ⟨τ, rfl, h1, fun a b ha hb => ?_, fun p hp => ?_, fun p hp => ?_, fun p hp ht t h8 => ?_, fun v hv => ?_, ?_, ?_⟩
  · rw [h2 _ (by omega)]; exact m1 a b ha hb
  · rw [h2 _ (by omega)]; exact m2 p hp
  · rw [h2 _ (by omega)]; exact m3 p hp
  · rw [h2 _ (by omega), h2 _ (by omega)]; exact m4 p hp ht t h8
  · rw [h2 _ (by omega)]; exact m5 v hv
  · rw [h2 _ (by omega)]; exact m6
  · rw [h2 _ (by omega)]; exact m7
theorem ct_ok (hc : rC c) (hV : VY n mi np nw ho ye q ki to ag ar am wa go) (hS : ST σ n np nw ki go) (h : MC σ c mi np nw ho ye to ag ar am wa) : f_X7_comeTo σ c = some (nI (cn (fun v => decide (wa v = go v)) nw)) := by
  have h5 := hV.nw5
  have h8 := hV.n8
  unfold f_X7_comeTo
  rw [lp_for0 (b := fun st => f_X7_comeTo_b1 σ c st.1 st.2) (s0 := ((0 : Int32), (0 : Int32))) (r := nI (cn (fun v => decide (wa v = go v)) nw)) (fun j => (nI (cn (fun v => decide (wa v = go v)) j), nI j)) nw (by omega) ?_ ?_ rfl]
  · rfl
  · intro j hj
    have a1 := hV.waL j
    have a2 := hV.goL j
    show f_X7_comeTo_b1 σ c (nI _) (nI j) = _
    unfold f_X7_comeTo_b1
    rw [L_0, l188, ga_n (by omega) (by omega), hS.2.2.1]
    simp only [sb]
    rw [if_neg (nI_ge hj (by omega)), nI_add, hc.l, ga_n (by omega) (by omega), h.2.2.2.2.1 j hj, l190, ga_n (by omega) (by omega), hS.2.2.2.2 j hj, nI_1, nI_1]
    simp only [sb]
    show _ = some (Sum.inl (nI (cn _ j + (if decide (wa j = go j) = true then 1 else 0)), _))
    by_cases c : wa j = go j
    · rw [if_neg (fun z => z (congrArg nI c)), if_pos (decide_eq_true c)]
    · rw [if_pos (fun z => c ((nI_eq (by omega) (by omega)).mp z)), if_neg (by simp [c]), nI_add]
  · show f_X7_comeTo_b1 σ c (nI _) (nI nw) = _
    unfold f_X7_comeTo_b1
    rw [L_0, l188, ga_n (by omega) (by omega), hS.2.2.1]
    simp only [sb]
    rw [if_pos (nI_le (Nat.le_refl _) (by omega))]
theorem ro_ok (hc : rC c) (hV : VY n mi np nw ho ye q ki to ag ar am wa go) (hnp : np ≤ 6) (hS : ST σ n np nw ki go) (h : MC σ c mi np nw ho ye to ag ar am wa) : f_X7_retiredOf σ c = some (nI (cn (fun p => decide (to p = none)) np)) := by
  have h8 := hV.n8
  unfold f_X7_retiredOf
  rw [lp_for0 (b := fun st => f_X7_retiredOf_b1 σ c st.1 st.2) (s0 := ((0 : Int32), (0 : Int32))) (r := nI (cn (fun p => decide (to p = none)) np)) (fun j => (nI (cn (fun p => decide (to p = none)) j), nI j)) np (by omega) ?_ ?_ rfl]
  · rfl
  · intro j hj
    show f_X7_retiredOf_b1 σ c (nI _) (nI j) = _
    unfold f_X7_retiredOf_b1
    rw [L_0, l187, ga_n (by omega) (by omega), hS.2.1]
    simp only [sb]
    rw [if_neg (nI_ge hj (by omega)), L_71, nI_add, hc.l, ga_n (by omega) (by omega), h.2.1 j hj, nI_1, nI_1]
    simp only [sb]
    show _ = some (Sum.inl (nI (cn _ j + (if decide (to j = none) = true then 1 else 0)), _))
    cases e : to j with
    | none => rw [if_neg (fun z => z oI_n), if_pos (by decide)]
    | some x => rw [if_pos (oI_ne (by have := hV.toL e; omega)), if_neg (by simp), nI_add]
  · show f_X7_retiredOf_b1 σ c (nI _) (nI np) = _
    unfold f_X7_retiredOf_b1
    rw [L_0, l187, ga_n (by omega) (by omega), hS.2.1]
    simp only [sb]
    rw [if_pos (nI_le (Nat.le_refl _) (by omega))]
/-- hours of what is tried, one after another -/
theorem cb_loop (hV : VY n mi np nw ho ye q ki to ag ar am wa go) (hnp : np ≤ 6) (hS : ST σ n np nw ki go) (hFl : FL σ q ex al) (hex : ex < 256) (hal : al ≤ 1) (hF : PF σ (dist mi)) (h : MC σ 198 mi np nw ho ye to ag ar am wa) (hh : ho + 40 ≤ 3000) : ∃ σ', lp (fun st => f_X7_comeBy_b1 st.1 st.2) FU ((0 : Int32), σ) = some σ' ∧ (∀ i, i ≠ 198 → i ≠ 200 → σ' i = σ i) ∧ MC σ' 198 mi np nw (ho + 40) ye to ag ar am (hsXK mi n np q ex al ki to ag ar go ho wa 40) := by
  refine lp_inv (fun j (s : Int32 × Sg) => s.1 = nI j ∧ (∀ i, i ≠ 198 → i ≠ 200 → s.2 i = σ i) ∧ MC s.2 198 mi np nw (ho + j) ye to ag ar am (hsXK mi n np q ex al ki to ag ar go ho wa j)) 40 (by omega) ⟨rfl, fun _ _ _ => rfl, h⟩ ?_ ?_
  · rintro j ⟨x, τ⟩ hj ⟨rfl, hf, hp⟩
    have hf : ∀ i, i ≠ 198 → i ≠ 200 → τ i = σ i := hf
    show ∃ s', f_X7_comeBy_b1 (nI j) τ = _ ∧ _
    unfold f_X7_comeBy_b1
    rw [L_40, if_neg (nI_ge hj (by omega)), nI_1]
    obtain ⟨τ', e, hf', hp'⟩ := mh_ok (Or.inr rfl) (hsXK_V (ex := ex) (al := al) hV j (by omega)) hnp (ST_fr hS (fun i a b => hf i (by omega) (by omega))) (FL_fr hFl (hf _ (by omega) (by omega))) hex hal (fun _ => PF_fr hF (hf _ (by omega) (by omega))) hp
    rw [e]
    exact ⟨_, rfl, rfl, fun i a b => (hf' i a b).trans (hf i a b), hp'⟩
  · rintro ⟨x, τ⟩ ⟨rfl, hf, hp⟩
    show ∃ s', f_X7_comeBy_b1 (nI 40) τ = _ ∧ _
    unfold f_X7_comeBy_b1
    rw [L_40, if_pos (nI_le (Nat.le_refl _) (by omega))]
    exact ⟨_, rfl, hf, hp⟩
theorem cb_ok (hV : VY n mi np nw ho ye q ki to ag ar am wa go) (hnp : np ≤ 6) (hS : ST σ n np nw ki go) (hFl : FL σ q ex al) (hex : ex < 256) (hal : al ≤ 1) (h : MC σ 198 mi np nw ho ye to ag ar am wa) (hh : ho + 40 ≤ 3000) : ∃ σ', f_X7_comeBy σ = some (nI (cn (fun v => decide (hsXK mi n np q ex al ki to ag ar go ho wa 40 v = go v)) nw), σ') ∧ (∀ i, i ≠ 198 → i ≠ 199 → i ≠ 200 → σ' i = σ i) ∧ MC σ' 198 mi np nw (ho + 40) ye to ag ar am (hsXK mi n np q ex al ki to ag ar go ho wa 40) := by
  unfold f_X7_comeBy
  obtain ⟨σ1, e1, f1, P1⟩ := me_ok (Or.inr rfl) hV.1.2.2.1 h.1
  rw [e1]
  simp only [sb]
  obtain ⟨σ2, e2, f2, M2⟩ := cb_loop hV hnp (ST_fr hS (fun i a b => f1 i (by omega))) (FL_fr hFl (f1 _ (by omega))) hex hal P1 (MC_fr h (f1 _ (by omega))) hh
  rw [e2]
  show ∃ σ', f_X7_comeBy_k1 σ2 = _ ∧ _
  unfold f_X7_comeBy_k1
  rw [ct_ok (Or.inr rfl) (hsXK_V (ex := ex) (al := al) hV 40 hh) (ST_fr (ST_fr hS (fun i a b => f1 i (by omega))) (fun i a b => f2 i (by omega) (by omega))) M2]
  exact ⟨_, rfl, fun i a b c => (f2 i a c).trans (f1 i b), M2⟩
theorem in_ok {σ : Sg} {a : Int32} {n : Nat} (hn : n < 2 ^ 31) : (∃ t, t < n ∧ a = nI t ∧ f_X7_in σ a (0 : Int32) (nI n - 1) = some 1) ∨ ((a < 0 ∨ nI n ≤ a) ∧ f_X7_in σ a (0 : Int32) (nI n - 1) = some 0) := by
  rcases rng a hn with h | ⟨t, ht, rfl⟩
  · right
    refine ⟨h, ?_⟩
    unfold f_X7_in
    by_cases c : a < 0
    · rw [if_pos c]
    · rw [if_neg c]
      obtain ⟨j, hj, rfl⟩ := nI_of c
      have h2 := h.resolve_left c
      have h3 : n ≤ j := by rwa [nI_leI hn hj] at h2
      cases n with
      | zero => rw [sub1, if_pos]; exact Int32.lt_of_lt_of_le dI_neg (nI_pos' hj)
      | succ n => rw [nI_pred, if_pos (nI_lt (by omega) hj)]
  · left
    refine ⟨t, ht, rfl, ?_⟩
    unfold f_X7_in
    rw [if_neg (nI_pos (by omega))]
    cases n with
    | zero => omega
    | succ n => rw [nI_pred, if_neg (nI_nlt (by omega) (by omega))]
theorem mt_ok (hS : ST σ n np nw ki go) (hn : n ≤ 8) (a : Int32) : (∃ t, t < n ∧ a = nI t ∧ f_X7_isTown σ a = some 1) ∨ ((a < 0 ∨ nI n ≤ a) ∧ f_X7_isTown σ a = some 0) := by
  unfold f_X7_isTown
  rw [L_0, l186, ga_n (by omega) (by omega), hS.1]
  simp only [sb]
  rcases in_ok (σ := σ) (a := a) (n := n) (by omega) with ⟨t, a1, a2, a3⟩ | ⟨a1, a2⟩
  · left; exact ⟨t, a1, a2, by rw [← L_0, a3]; rfl⟩
  · right; exact ⟨a1, by rw [← L_0, a2]; rfl⟩
theorem mp_in (hS : ST σ n np nw ki go) (hn : np ≤ 8) (a : Int32) : (∃ t, t < np ∧ a = nI t ∧ f_X7_isPost σ a = some 1) ∨ ((a < 0 ∨ nI np ≤ a) ∧ f_X7_isPost σ a = some 0) := by
  unfold f_X7_isPost
  rw [L_0, l187, ga_n (by omega) (by omega), hS.2.1]
  simp only [sb]
  rcases in_ok (σ := σ) (a := a) (n := np) (by omega) with ⟨t, a1, a2, a3⟩ | ⟨a1, a2⟩
  · left; exact ⟨t, a1, a2, by rw [← L_0, a3]; rfl⟩
  · right; exact ⟨a1, by rw [← L_0, a2]; rfl⟩
theorem mw_in (hS : ST σ n np nw ki go) (hn : nw ≤ 8) (a : Int32) : (∃ t, t < nw ∧ a = nI t ∧ f_X7_isWalker σ a = some 1) ∨ ((a < 0 ∨ nI nw ≤ a) ∧ f_X7_isWalker σ a = some 0) := by
  unfold f_X7_isWalker
  rw [L_0, l188, ga_n (by omega) (by omega), hS.2.2.1]
  simp only [sb]
  rcases in_ok (σ := σ) (a := a) (n := nw) (by omega) with ⟨t, a1, a2, a3⟩ | ⟨a1, a2⟩
  · left; exact ⟨t, a1, a2, by rw [← L_0, a3]; rfl⟩
  · right; exact ⟨a1, by rw [← L_0, a2]; rfl⟩
end MF
