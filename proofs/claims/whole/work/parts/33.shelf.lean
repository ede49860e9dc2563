/-! Part 33: shelves. -/
theorem gb_n {n k : Nat} (h : k < n) (hn : n < 2 ^ 31) : gb n (nI k) = some k := by
  unfold gb
  rw [if_neg (nI_in h hn), nI_clamp (by omega)]
def pushS (A : Sn) (S : Nat → Sn) : Nat → Sn
  | 0 => A
  | i + 1 => S i
theorem sl8u : ∀ f : Fin 8, (if f.val + 1 < 8 then f.val + 1 else 0) < 8 ∧ ((if f.val + 1 < 8 then f.val + 1 else 0) + 8 - 1 - 0) % 8 = f.val ∧ ∀ i : Fin 8, i.val + 1 < 8 → ((if f.val + 1 < 8 then f.val + 1 else 0) + 8 - 1 - (i.val + 1)) % 8 = (f.val + 8 - 1 - i.val) % 8 ∧ (f.val + 8 - 1 - i.val) % 8 ≠ f.val := by decide +kernel
theorem sl2u : ∀ f : Fin 2, (if f.val + 1 < 2 then f.val + 1 else 0) < 2 ∧ ((if f.val + 1 < 2 then f.val + 1 else 0) + 2 - 1 - 0) % 2 = f.val ∧ ∀ i : Fin 2, i.val + 1 < 2 → ((if f.val + 1 < 2 then f.val + 1 else 0) + 2 - 1 - (i.val + 1)) % 2 = (f.val + 2 - 1 - i.val) % 2 ∧ (f.val + 2 - 1 - i.val) % 2 ≠ f.val := by decide +kernel
theorem sl8d : ∀ f : Fin 8, (if f.val = 0 then 8 - 1 else f.val - 1) < 8 ∧ (f.val + 8 - 1 - 0) % 8 = (if f.val = 0 then 8 - 1 else f.val - 1) ∧ ∀ i : Fin 8, i.val + 1 < 8 → ((if f.val = 0 then 8 - 1 else f.val - 1) + 8 - 1 - i.val) % 8 = (f.val + 8 - 1 - (i.val + 1)) % 8 := by decide +kernel
theorem sl2d : ∀ f : Fin 2, (if f.val = 0 then 2 - 1 else f.val - 1) < 2 ∧ (f.val + 2 - 1 - 0) % 2 = (if f.val = 0 then 2 - 1 else f.val - 1) ∧ ∀ i : Fin 2, i.val + 1 < 2 → ((if f.val = 0 then 2 - 1 else f.val - 1) + 2 - 1 - i.val) % 2 = (f.val + 2 - 1 - (i.val + 1)) % 2 := by decide +kernel
theorem sl_u {cap f : Nat} (hc : cap = 8 ∨ cap = 2) (h3 : f < cap) : ∃ f', f' < cap ∧ (f' + cap - 1 - 0) % cap = f ∧ (∀ i, i + 1 < cap → (f' + cap - 1 - (i + 1)) % cap = (f + cap - 1 - i) % cap ∧ (f + cap - 1 - i) % cap ≠ f) ∧ f' = if f + 1 < cap then f + 1 else 0 := by
  rcases hc with rfl | rfl
  · exact ⟨_, (sl8u ⟨f, h3⟩).1, (sl8u ⟨f, h3⟩).2.1, fun i hi => (sl8u ⟨f, h3⟩).2.2 ⟨i, by omega⟩ hi, rfl⟩
  · exact ⟨_, (sl2u ⟨f, h3⟩).1, (sl2u ⟨f, h3⟩).2.1, fun i hi => (sl2u ⟨f, h3⟩).2.2 ⟨i, by omega⟩ hi, rfl⟩
theorem sl_d {cap f : Nat} (hc : cap = 8 ∨ cap = 2) (h3 : f < cap) : ∃ g, g < cap ∧ (f + cap - 1 - 0) % cap = g ∧ (∀ i, i + 1 < cap → (g + cap - 1 - i) % cap = (f + cap - 1 - (i + 1)) % cap) ∧ g = if f = 0 then cap - 1 else f - 1 := by
  rcases hc with rfl | rfl
  · exact ⟨_, (sl8d ⟨f, h3⟩).1, (sl8d ⟨f, h3⟩).2.1, fun i hi => (sl8d ⟨f, h3⟩).2.2 ⟨i, by omega⟩ hi, rfl⟩
  · exact ⟨_, (sl2d ⟨f, h3⟩).1, (sl2d ⟨f, h3⟩).2.1, fun i hi => (sl2d ⟨f, h3⟩).2.2 ⟨i, by omega⟩ hi, rfl⟩
section SE
variable {σ : Sg} {n np nw : Nat} {ki go : Nat → Nat} {A : Sn} {m : Nat} {S : Nat → Sn} {s cap : Nat}
theorem sa_ok (hK : KC σ) (hc : cap = 8 ∨ cap = 2) (hl : ln (s + 1) = cap) (hs : 20 < s) (hk : kd s ≠ 0) (hg : ∀ j, j < cap → gY (s + 1 + 1 + 14 * j)) (hV : VA n np nw ki go A) (h : CY σ 6 n np nw ki go A) (hS : SH σ s cap n np nw ki go m S) : ∃ σ', f_X4_setAside σ s 6 = some σ' ∧ KC σ' ∧ (∀ i, (i < s ∨ s + 2 + 14 * cap ≤ i) → σ' i = σ i) ∧ SH σ' s cap n np nw ki go (if m < cap then m + 1 else m) (pushS A S) := by
  obtain ⟨h1, h2, f, h3, h4, h5⟩ := hS
  obtain ⟨σ1, e1, K1, f1, Y1⟩ := yb_ok hK (hg f h3) gY6 (by omega) h hV.1.np8 hV.1.nw5 hV.1.n8
  have q1 : σ1 s = σ s := f1 s (by omega)
  obtain ⟨f', hf1, hf2, hf3, hf4⟩ := sl_u hc h3
  have e2 : f_X4_setAside σ s 6 = some (sf (sf σ1 s 2 (nI f')) s 1 (nI (if m < cap then m + 1 else m))) := by
    unfold f_X4_setAside
    rw [h4, if_neg (nI_pos (by omega)), hl, ofN, if_neg (nI_ge h3 (by omega)), gb_n h3 (by omega), sb, e1, sb, q1, h4, nI_1]
    have q2 : ∀ v, (sf σ1 s 2 v) s 1 = nI m := fun v => by rw [sf_row, upd_ne (by omega), q1, h1]
    by_cases c : f + 1 < cap
    · rw [if_neg (nI_ge c (by omega)), sb, q2, nI_1, sb, hf4, if_pos c]
      by_cases d : m < cap
      · rw [if_neg (nI_nlt (by omega) (by omega)), if_pos d]
      · rw [if_pos (nI_lt (by omega) (by omega)), if_neg d, show cap = m by omega]
    · rw [if_pos (nI_le (by omega) (by omega)), sb, q2, nI_1, sb, hf4, if_neg c]
      by_cases d : m < cap
      · rw [if_neg (nI_nlt (by omega) (by omega)), if_pos d]; rfl
      · rw [if_pos (nI_lt (by omega) (by omega)), if_neg d, show cap = m by omega]; rfl
  have F : ∀ i, i ≠ s → (i < s + 1 + 1 + 14 * f ∨ s + 1 + 1 + 14 * f + 13 < i) → sf (sf σ1 s 2 (nI f')) s 1 (nI (if m < cap then m + 1 else m)) i = σ i := fun i a b => by rw [sf_ne a, sf_ne a]; exact f1 i b
  refine ⟨_, e2, KC_sf (KC_sf K1 hk) hk, fun i hi => F i (by omega) (by omega), ?_, ?_, f', hf1, ?_, fun i hi => ?_⟩
  · rw [sf_row, upd_self]
  · split <;> omega
  · rw [sf_row, upd_ne (by omega), sf_row, upd_self]
  · cases i with
    | zero =>
      rw [hf2]
      exact CY_fr (σ := σ1) Y1 (fun j a b => by rw [sf_ne (by omega), sf_ne (by omega)])
    | succ i =>
      have hi' : i + 1 < cap ∧ i < m := by split at hi <;> omega
      obtain ⟨g1, g2⟩ := hf3 i hi'.1
      rw [g1]
      exact CY_fr (h5 i hi'.2) (fun j a b => F j (by omega) (by omega))
theorem gv_ok (hK : KC σ) (hc : cap = 8 ∨ cap = 2) (hl : ln (s + 1) = cap) (hs : 20 < s) (hk : kd s ≠ 0) (hg : ∀ j, j < cap → gY (s + 1 + 1 + 14 * j)) (hV : ∀ i, i < m → VA n np nw ki go (S i)) (hm : 0 < m) (hS : SH σ s cap n np nw ki go m S) : ∃ σ', f_X4_giveBack σ s 6 = some (1, σ') ∧ KC σ' ∧ (∀ i, (i < 6 ∨ 19 < i) → i ≠ s → σ' i = σ i) ∧ CY σ' 6 n np nw ki go (S 0) ∧ SH σ' s cap n np nw ki go (m - 1) (fun i => S (i + 1)) := by
  obtain ⟨h1, h2, f, h3, h4, h5⟩ := hS
  obtain ⟨g, hg1, hg2, hg3, hg4⟩ := sl_d hc h3
  have V0 := hV 0 hm
  have C0 := h5 0 hm
  rw [hg2] at C0
  obtain ⟨σ1, e1, K1, f1, Y1⟩ := yb_ok hK gY6 (hg g hg1) (by omega) C0 V0.1.np8 V0.1.nw5 V0.1.n8
  have q1 : σ1 s = σ s := f1 s (by omega)
  have e2 : f_X4_giveBack σ s 6 = some (1, sf (sf σ1 s 2 (nI g)) s 1 (nI (m - 1))) := by
    have q2 : (sf σ1 s 2 (nI g)) s 1 - 1 = nI (m - 1) := by
      rw [sf_row, upd_ne (by omega), q1, h1]
      obtain ⟨w, rfl⟩ : ∃ w, m = w + 1 := ⟨m - 1, by omega⟩
      exact nI_pred _
    unfold f_X4_giveBack
    rw [h4, h1, hl, ofN]
    by_cases c : f = 0
    · subst c
      obtain ⟨w, hw⟩ : ∃ w, cap = w + 1 := ⟨cap - 1, by omega⟩
      have hgw : g = w := by rw [hg4, if_pos rfl]; omega
      rw [if_pos (by rw [L_0]; exact nI_le (Nat.le_refl _) (by omega)), if_neg (by rw [L_0]; exact nI_ge hm (by omega)), hw, nI_pred, if_neg (nI_pos (by omega)), if_neg (nI_ge (by omega) (by omega)), gb_n (by omega) (by omega), sb, ← hgw, e1, sb, sb, q2, sb]
    · obtain ⟨w, hw⟩ : ∃ w, f = w + 1 := ⟨f - 1, by omega⟩
      have hgw : g = w := by rw [hg4, if_neg c]; omega
      rw [if_neg (by rw [L_0]; exact nI_ge (by omega) (by omega)), if_neg (by rw [L_0]; exact nI_ge hm (by omega)), hw, nI_pred, if_neg (nI_pos (by omega)), if_neg (nI_ge (by omega) (by omega)), gb_n (by omega) (by omega), sb, ← hgw, e1, sb, sb, q2, sb]
  have F : ∀ i, i ≠ s → (i < 6 ∨ 19 < i) → sf (sf σ1 s 2 (nI g)) s 1 (nI (m - 1)) i = σ i := fun i a b => by rw [sf_ne a, sf_ne a]; exact f1 i (by omega)
  refine ⟨_, e2, KC_sf (KC_sf K1 hk) hk, fun i a b => F i b a, CY_fr (σ := σ1) Y1 (fun j a b => by rw [sf_ne (by omega), sf_ne (by omega)]), ?_, by omega, g, hg1, ?_, fun i hi => ?_⟩
  · rw [sf_row, upd_self]
  · rw [sf_row, upd_ne (by omega), sf_row, upd_self]
  · rw [hg3 i (by omega)]
    have := Nat.mod_lt (f + cap - 1 - (i + 1)) (show 0 < cap by omega)
    exact CY_fr (h5 (i + 1) (by omega)) (fun j a b => F j (by omega) (by omega))
theorem gv_no (hS : SH σ s cap n np nw ki go 0 S) : f_X4_giveBack σ s 6 = some (0, σ) := by
  unfold f_X4_giveBack
  rw [hS.1, if_pos (show nI 0 ≤ 0 from Int32.le_refl _), if_pos (show nI 0 ≤ 0 from Int32.le_refl _), ite_self]
theorem SH_0 (hS : SH σ s cap n np nw ki go m S) {S' : Nat → Sn} : SH (sf σ s 1 0) s cap n np nw ki go 0 S' := by
  obtain ⟨h1, h2, f, h3, h4, h5⟩ := hS
  exact ⟨by rw [sf_row, upd_self]; rfl, Nat.zero_le _, f, h3, by rw [sf_row, upd_ne (by omega)]; exact h4, fun i hi => absurd hi (by omega)⟩
/-- rows of the model -/
theorem MY_cg {f g : Nat → Int32} (hnp : np ≤ 6) (h5 : nw ≤ 5) (h : MY g np nw A) (e : ∀ k, k < 179 → f k = g k) : MY f np nw A := by
  obtain ⟨m1, m2, m3, m4, m5, m6, m7⟩ := h
  refine ⟨fun a b ha hb => ?_, fun p hp => ?_, fun p hp => ?_, fun p hp q t ht => ?_, fun v hv => ?_, ?_, ?_⟩
  · exact (e _ (by omega)).trans (m1 a b ha hb)
  · exact (e _ (by omega)).trans (m2 p hp)
  · exact (e _ (by omega)).trans (m3 p hp)
  · exact ⟨(e _ (by omega)).trans (m4 p hp q t ht).1, (e _ (by omega)).trans (m4 p hp q t ht).2⟩
  · exact (e _ (by omega)).trans (m5 v hv)
  · exact (e _ (by omega)).trans m6
  · exact (e _ (by omega)).trans m7
theorem kn_b1 {τ0 : Sg} {j0 : Nat} (hj0 : j0 < 8) (h16 : τ0 184 16 = nI j0) : ∃ τ, lp (fun st => f_X7_know_b1 st.1 st.2) FU ((0 : Int32), τ0) = some τ ∧ ((∀ i, i ≠ 196 → τ i = τ0 i) ∧ (∀ k, (k < 179 * j0 ∨ 179 * j0 + 179 ≤ k) → τ 196 k = τ0 196 k) ∧ ∀ k, k < 179 → τ 196 (179 * j0 + k) = τ0 195 k) := by
  refine lp_inv (fun j (s : Int32 × Sg) => s.1 = nI j ∧ (∀ i, i ≠ 196 → s.2 i = τ0 i) ∧ (∀ k, (k < 179 * j0 ∨ 179 * j0 + j ≤ k) → s.2 196 k = τ0 196 k) ∧ ∀ k, k < j → s.2 196 (179 * j0 + k) = τ0 195 k) 179 (by omega) ⟨rfl, fun _ _ => rfl, fun _ _ => rfl, fun k hk => absurd hk (by omega)⟩ ?_ ?_
  · rintro j ⟨x, τ⟩ hj ⟨e, f1, f2, f3⟩
    dsimp only at e f1 f2 f3
    subst e
    show ∃ s', f_X7_know_b1 (nI j) τ = _ ∧ _
    unfold f_X7_know_b1
    rw [L_179, if_neg (nI_ge hj (by omega)), l195, ga_n (by omega) (by omega), sb, f1 184 (by omega), h16, nI_mul, nI_add, l196, sa_n (by omega) (by omega), sb, nI_1]
    refine ⟨_, rfl, rfl, fun i hi => (sf_ne hi).trans (f1 i hi), fun k hk => ?_, fun k hk => ?_⟩
    · show sf τ 196 _ _ 196 k = _
      rw [sf_row, upd_ne (by omega)]; exact f2 k (by omega)
    · show sf τ 196 _ _ 196 _ = _
      rw [sf_row]
      by_cases c : k = j
      · subst c; rw [upd_self, f1 195 (by omega)]
      · rw [upd_ne (by omega)]; exact f3 k (by omega)
  · rintro ⟨x, τ⟩ ⟨e, f1, f2, f3⟩
    dsimp only at e f1 f2 f3
    subst e
    show ∃ s', f_X7_know_b1 (nI 179) τ = _ ∧ _
    unfold f_X7_know_b1
    rw [L_179, if_pos (nI_le (Nat.le_refl _) (by omega))]
    exact ⟨_, rfl, f1, f2, f3⟩
theorem kn_b2 : ∃ τ, lp (fun st => f_X7_know_b2 st.1 st.2) FU ((0 : Int32), σ) = some τ ∧ ((∀ i, i ≠ 196 → τ i = σ i) ∧ ∀ k, k < 1253 → τ 196 k = σ 196 (179 + k)) := by
  obtain ⟨τ, a, b, c, d⟩ := lp_inv (b := fun st => f_X7_know_b2 st.1 st.2) (s0 := ((0 : Int32), σ)) (Post := fun (τ : Sg) => (∀ i, i ≠ 196 → τ i = σ i) ∧ (∀ k, 1253 ≤ k → τ 196 k = σ 196 k) ∧ ∀ k, k < 1253 → τ 196 k = σ 196 (179 + k)) (fun j (s : Int32 × Sg) => s.1 = nI j ∧ (∀ i, i ≠ 196 → s.2 i = σ i) ∧ (∀ k, j ≤ k → s.2 196 k = σ 196 k) ∧ ∀ k, k < j → s.2 196 k = σ 196 (179 + k)) 1253 (by omega) ⟨rfl, fun _ _ => rfl, fun _ _ => rfl, fun k hk => absurd hk (by omega)⟩ (by
    rintro j ⟨x, τ⟩ hj ⟨e, f1, f2, f3⟩
    dsimp only at e f1 f2 f3
    subst e
    show ∃ s', f_X7_know_b2 (nI j) τ = _ ∧ _
    unfold f_X7_know_b2
    rw [L_1253, if_neg (nI_ge hj (by omega)), L_179, nI_add, l196, ga_n (by omega) (by omega), sb, sa_n (by omega) (by omega), sb, nI_1]
    refine ⟨_, rfl, rfl, fun i hi => (sf_ne hi).trans (f1 i hi), fun k hk => ?_, fun k hk => ?_⟩
    · show sf τ 196 _ _ 196 k = _
      rw [sf_row, upd_ne (by omega)]; exact f2 k (by omega)
    · show sf τ 196 _ _ 196 _ = _
      rw [sf_row]
      by_cases c : k = j
      · subst c; rw [upd_self]; exact f2 _ (by omega)
      · rw [upd_ne c]; exact f3 k (by omega)) (by
    rintro ⟨x, τ⟩ ⟨e, f1, f2, f3⟩
    dsimp only at e f1 f2 f3
    subst e
    show ∃ s', f_X7_know_b2 (nI 1253) τ = _ ∧ _
    unfold f_X7_know_b2
    rw [L_1253, if_pos (nI_le (Nat.le_refl _) (by omega))]
    exact ⟨_, rfl, f1, f2, f3⟩)
  exact ⟨τ, a, b, d⟩
theorem kn_ok (hnp : np ≤ 6) (h5 : nw ≤ 5) (hm : m ≤ 8) (h : MY (σ 195) np nw A) (h16 : σ 184 16 = nI m) (hH : MH σ 196 np nw m S) : ∃ σ', f_X7_know σ = some σ' ∧ (∀ i, i ≠ 184 → i ≠ 196 → σ' i = σ i) ∧ σ' 184 = upd (σ 184) 16 (nI (if m < 8 then m + 1 else m)) ∧ MH σ' 196 np nw (if m < 8 then m + 1 else m) (pushS A S) := by
  unfold f_X7_know
  by_cases c : m < 8
  · obtain ⟨τ, e, f1, f2, f3⟩ := kn_b1 c h16
    rw [if_pos (show ¬ σ 184 16 = 8 by rw [h16, L_8]; exact fun z => by have := (nI_eq (by omega) (by omega)).mp z; omega), e, sb]
    unfold f_X7_know_k1
    rw [sb, f1 184 (by omega), h16, nI_1]
    simp only [if_pos c]
    refine ⟨_, rfl, fun i a b => (sf_ne a).trans (f1 i b), by rw [sf_row, f1 184 (by omega)], fun i hi => ?_⟩
    rw [sf_ne (by omega)]
    cases i with
    | zero => exact MY_cg hnp h5 h (fun k hk => by rw [show m + 1 - 1 - 0 = m by omega]; exact f3 k hk)
    | succ i => exact MY_cg hnp h5 (hH i (by omega)) (fun k hk => by rw [show m + 1 - 1 - (i + 1) = m - 1 - i by omega]; exact f2 _ (Or.inl (by omega)))
  · have hm8 : m = 8 := by omega
    subst hm8
    obtain ⟨τ, e, f1, f2⟩ := kn_b2 (σ := σ)
    have j16 : (sf τ 184 16 ((τ 184 16) - (1 : Int32))) 184 16 = nI 7 := by
      rw [sf_row, upd_self, f1 184 (by omega), h16]; exact nI_pred _
    obtain ⟨τ2, e2, g1, g2, g3⟩ := kn_b1 (by omega) j16
    have t16 : τ2 184 16 = nI 7 := by rw [g1 184 (by omega)]; exact j16
    rw [if_neg (show ¬ ¬ σ 184 16 = 8 by rw [h16]; exact fun z => z rfl), e, sb]
    unfold f_X7_know_k2
    rw [sb, e2, sb]
    unfold f_X7_know_k1
    rw [sb, t16, nI_1]
    refine ⟨_, rfl, fun i a b => by rw [sf_ne a, g1 i b, sf_ne a, f1 i b], ?_, fun i hi => ?_⟩
    · rw [sf_row, g1 184 (by omega), sf_row, f1 184 (by omega)]
      funext k
      by_cases d : k = 16
      · subst d; rw [upd_self, upd_self]; rfl
      · rw [upd_ne d, upd_ne d, upd_ne d]
    · have hi : i < 8 := hi
      rw [sf_ne (by omega)]
      cases i with
      | zero => exact MY_cg hnp h5 h (fun k hk => by
          show τ2 196 (179 * 7 + k) = _
          rw [g3 k hk, sf_ne (by omega), f1 195 (by omega)])
      | succ i => exact MY_cg hnp h5 (hH i (by omega)) (fun k hk => by
          show τ2 196 (179 * (8 - 1 - (i + 1)) + k) = _
          rw [g2 _ (Or.inl (by omega)), sf_ne (by omega), f2 _ (by omega), show 179 + (179 * (8 - 1 - (i + 1)) + k) = 179 * (8 - 1 - i) + k by omega])
end SE
