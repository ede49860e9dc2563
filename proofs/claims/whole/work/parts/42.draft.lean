/-! Part 42: a draft laid, on both sides. -/
def dS1 (d : Dr) : Sn := (Dr.mi d, 0, 0, fun p => some (Dr.to d p), Dr.ag d, fun p => pr (Dr.mi d) (Dr.n d) (Dr.to d p), fun p => pm (Dr.mi d) (Dr.n d) (Dr.to d p), Dr.wa d)
section LY
variable {σ σ' : Sg} {y n : Nat} {d : Dr}
theorem VY_d (dv : DV d) {ar am : Nat → Nat → Option Nat} (h1 : ∀ p t u, ar p t = some u → u < Dr.n d) (h2 : ∀ p t u, am p t = some u → u ≤ 2304) : VY (Dr.n d) (Dr.mi d) (Dr.np d) (Dr.nw d) 0 0 0 (Dr.ki d) (fun p => some (Dr.to d p)) (Dr.ag d) ar am (Dr.wa d) (Dr.go d) := by
  obtain ⟨v1, ⟨v2, v3⟩, v4, v5, v6, v7, v8⟩ := dv
  exact ⟨v1, ⟨by omega, v3, by omega, by omega, by omega⟩, v4, fun p x e => by cases e; exact v5 p, fun p => Nat.le_trans (v6 p) (by omega), h1, h2, v7, v8, fun p t e => by cases e⟩
theorem OK_d (dv : DV d) {N : Nat} : OK N (Dr.n d) (Dr.np d) (Dr.nw d) (Dr.ki d) (Dr.go d) (dS1 d) := ⟨VY_d dv (fun p t u e => pr_lt dv.1 e) (fun p t u e => pm_le dv.1 e), fun p _ => dv.2.2.2.2.1 p, Nat.zero_le _, Nat.zero_le _⟩
theorem pal_ok (hK : KC σ) (hg : gY y) (hD : DC σ y d) (dv : DV d) : ∃ σ', f_X5_paintAll σ y = some σ' ∧ KC σ' ∧ (∀ i, (i < y ∨ y + 13 < i) → σ' i = σ i) ∧ CY σ' y (Dr.n d) (Dr.np d) (Dr.nw d) (Dr.ki d) (Dr.go d) (dS1 d) := by
  obtain ⟨h1, h2, h3, h4⟩ := hD
  have v6 := dv.2.1.1
  obtain ⟨σ1, e1, f1, P1⟩ := sur_ok hK hg.2.2.1 dv.1 h2
  have K1 : KC σ1 := KC_fr hK (by rw [hg.2.2.1.2.1]; decide) f1
  have R1 : RC σ1 (y + 1) (Dr.n d) (Dr.mi d) := RC_fr h2 (f1 _ (by omega)) (f1 _ (by omega))
  obtain ⟨r, e, i1, i2, i3⟩ := lp_inv (b := fun st => f_X5_paintAll_b1 y st.1 st.2) (Post := fun σ' => KC σ' ∧ (∀ i, i ≠ y + 8 + 1 → i ≠ y + 10 + 1 → σ' i = σ1 i) ∧ ∀ p, p < Dr.np d → ∀ t, t < 8 → σ' (y + 8 + 1) (p * 8 + t) = oI (pr (Dr.mi d) (Dr.n d) (Dr.to d p) t) ∧ σ' (y + 10 + 1) (p * 8 + t) = oI (pm (Dr.mi d) (Dr.n d) (Dr.to d p) t)) (fun j s => s.1 = nI j ∧ KC s.2 ∧ (∀ i, i ≠ y + 8 + 1 → i ≠ y + 10 + 1 → s.2 i = σ1 i) ∧ ∀ p, p < j → ∀ t, t < 8 → s.2 (y + 8 + 1) (p * 8 + t) = oI (pr (Dr.mi d) (Dr.n d) (Dr.to d p) t) ∧ s.2 (y + 10 + 1) (p * 8 + t) = oI (pm (Dr.mi d) (Dr.n d) (Dr.to d p) t)) (Dr.np d) (by omega) (s0 := (0, σ1)) ⟨rfl, K1, fun _ _ _ => rfl, fun k hk => absurd hk (by omega)⟩ (fun j s hj q => by
    obtain ⟨x, s⟩ := s
    obtain ⟨q1, q2, q3, q4⟩ := q
    dsimp only at q1 q2 q3 q4
    subst q1
    have Rs : RC s (y + 1) (Dr.n d) (Dr.mi d) := RC_fr R1 (q3 _ (by omega) (by omega)) (q3 _ (by omega) (by omega))
    have Ps : PC s (y + 1) (Dr.n d) (Dr.mi d) := PC_fr P1 (q3 _ (by omega) (by omega))
    have at1 : f_X0_at s (y + 6) (nI j) (1 : Int32) = some (nI (Dr.to d j)) := by
      rw [at_lit 1 q2 hg.2.2.2.1.1 (by omega) (by omega) L_1, q3 _ (by omega) (by omega), f1 _ (by omega)]
      exact congrArg some (h3 j hj).2.1
    obtain ⟨τ, eτ, t1, t2, t3, t4⟩ := pp_core q2 hg dv.1 Rs Ps (dv.2.2.2.1 j) (by omega) at1
    refine ⟨(nI (j + 1), τ), ?_, rfl, t1, fun i a b => (t2 i a b).trans (q3 i a b), fun p hp t ht => ?_⟩
    · show f_X5_paintAll_b1 y (nI j) s = _
      unfold f_X5_paintAll_b1
      rw [q3 y (by omega) (by omega), f1 y (by omega), h1.1, if_neg (nI_ge hj (by omega)), eτ, sb, nI_1]
    · by_cases c : p = j
      · subst c; exact t3 t ht
      · obtain ⟨w1, w2⟩ := t4 (p * 8 + t) (by omega)
        dsimp only
        rw [w1, w2]
        exact q4 p (by omega) t ht) (fun s q => by
    obtain ⟨x, s⟩ := s
    obtain ⟨q1, q2, q3, q4⟩ := q
    dsimp only at q1 q2 q3 q4
    subst q1
    refine ⟨s, ?_, q2, q3, q4⟩
    show f_X5_paintAll_b1 y (nI (Dr.np d)) s = _
    unfold f_X5_paintAll_b1
    rw [q3 y (by omega) (by omega), f1 y (by omega), h1.1, if_pos (nI_le (Nat.le_refl _) (by omega))])
  have G : ∀ i, i ≠ y + 8 + 1 → i ≠ y + 10 + 1 → i ≠ y + 1 + 3 + 1 → r i = σ i := fun i a b c => (i2 i a b).trans (f1 i c)
  refine ⟨r, ?_, i1, fun i hi => G i (by omega) (by omega) (by omega), ?_, RC_fr R1 (i2 _ (by omega) (by omega)) (i2 _ (by omega) (by omega)), PC_fr P1 (i2 _ (by omega) (by omega)), ?_, fun p hp t ht => (i3 p hp t ht).1, fun p hp t ht => (i3 p hp t ht).2, ?_⟩
  · unfold f_X5_paintAll
    rw [e1, sb, e, sb]
    rfl
  · rw [G y (by omega) (by omega) (by omega)]; exact h1
  · rw [G (y + 6 + 1) (by omega) (by omega) (by omega)]; exact h3
  · rw [G (y + 12 + 1) (by omega) (by omega) (by omega)]; exact h4
theorem s186z {v : Int32} : sa σ 186 (ln 186) 0 v = some (sf σ 186 0 v) := by rw [l186]; exact sa_n (k := 0) (by omega) (by omega)
theorem s187z {v : Int32} : sa σ 187 (ln 187) 0 v = some (sf σ 187 0 v) := by rw [l187]; exact sa_n (k := 0) (by omega) (by omega)
theorem s188z {v : Int32} : sa σ 188 (ln 188) 0 v = some (sf σ 188 0 v) := by rw [l188]; exact sa_n (k := 0) (by omega) (by omega)
theorem g187z {f : Nat → Int32} : ga f (ln 187) 0 = some (f 0) := by rw [l187]; exact ga_n (k := 0) (by omega) (by omega)
theorem g188z {f : Nat → Int32} : ga f (ln 188) 0 = some (f 0) := by rw [l188]; exact ga_n (k := 0) (by omega) (by omega)
theorem td_b1 : ∃ σ', lp (fun st => f_X7_takeDraft_b1 st.1 st.2) FU ((0 : Int32), σ) = some σ' ∧ (∀ i, i ≠ 195 → σ' i = σ i) ∧ ∀ k, k < 179 → σ' 195 k = 0 := by
  obtain ⟨r, e, i2, i3⟩ := lp_inv (b := fun st => f_X7_takeDraft_b1 st.1 st.2) (Post := fun σ' => (∀ i, i ≠ 195 → σ' i = σ i) ∧ ∀ k, k < 179 → σ' 195 k = 0) (fun j s => s.1 = nI j ∧ (∀ i, i ≠ 195 → s.2 i = σ i) ∧ ∀ k, k < j → s.2 195 k = 0) 179 (by omega) (s0 := (0, σ)) ⟨rfl, fun _ _ => rfl, fun k hk => absurd hk (by omega)⟩ (fun j s hj q => by
    obtain ⟨x, s⟩ := s
    obtain ⟨q1, q3, q4⟩ := q
    dsimp only at q1 q3 q4
    subst q1
    refine ⟨(nI (j + 1), sf s 195 j 0), ?_, rfl, fun i hi => (sf_ne hi).trans (q3 i hi), fun k hk => ?_⟩
    · show f_X7_takeDraft_b1 (nI j) s = _
      unfold f_X7_takeDraft_b1
      rw [L_179, if_neg (nI_ge hj (by omega)), l195, sa_n hj (by omega), sb, nI_1]
    · dsimp only
      rw [sf_row]
      by_cases c : k = j
      · subst c; exact upd_self
      · rw [upd_ne c]; exact q4 k (by omega)) (fun s q => by
    obtain ⟨x, s⟩ := s
    obtain ⟨q1, q3, q4⟩ := q
    dsimp only at q1 q3 q4
    subst q1
    refine ⟨s, ?_, q3, q4⟩
    show f_X7_takeDraft_b1 (nI 179) s = _
    unfold f_X7_takeDraft_b1
    rw [L_179, if_pos (nI_le (by omega) (by omega))])
  exact ⟨r, e, i2, i3⟩
theorem td_b2 : ∃ σ', lp (fun st => f_X7_takeDraft_b2 st.1 st.2) FU ((0 : Int32), σ) = some σ' ∧ (∀ i, i ≠ 195 → σ' i = σ i) ∧ (∀ k, k < 64 → σ' 195 (7 + k) = σ 191 k) ∧ ∀ k, (k < 7 ∨ 71 ≤ k) → σ' 195 k = σ 195 k := by
  obtain ⟨r, e, i2, i3, i4⟩ := lp_inv (b := fun st => f_X7_takeDraft_b2 st.1 st.2) (Post := fun σ' => (∀ i, i ≠ 195 → σ' i = σ i) ∧ (∀ k, k < 64 → σ' 195 (7 + k) = σ 191 k) ∧ ∀ k, (k < 7 ∨ 71 ≤ k) → σ' 195 k = σ 195 k) (fun j s => s.1 = nI j ∧ (∀ i, i ≠ 195 → s.2 i = σ i) ∧ (∀ k, k < j → s.2 195 (7 + k) = σ 191 k) ∧ ∀ k, (k < 7 ∨ 71 ≤ k) → s.2 195 k = σ 195 k) 64 (by omega) (s0 := (0, σ)) ⟨rfl, fun _ _ => rfl, fun k hk => absurd hk (by omega), fun _ _ => rfl⟩ (fun j s hj q => by
    obtain ⟨x, s⟩ := s
    obtain ⟨q1, q3, q4, q5⟩ := q
    dsimp only at q1 q3 q4 q5
    subst q1
    refine ⟨(nI (j + 1), sf s 195 (7 + j) (σ 191 j)), ?_, rfl, fun i hi => (sf_ne hi).trans (q3 i hi), fun k hk => ?_, fun k hk => ?_⟩
    · show f_X7_takeDraft_b2 (nI j) s = _
      unfold f_X7_takeDraft_b2
      rw [L_64, if_neg (nI_ge hj (by omega)), q3 191 (by omega), l191, ga_n hj (by omega), sb, L_7, nI_add, l195, sa_n (by omega) (by omega), sb, nI_1]
    · dsimp only
      rw [sf_row]
      by_cases c : k = j
      · subst c; exact upd_self
      · rw [upd_ne (by omega)]; exact q4 k (by omega)
    · dsimp only
      rw [sf_row, upd_ne (by omega)]; exact q5 k hk) (fun s q => by
    obtain ⟨x, s⟩ := s
    obtain ⟨q1, q3, q4, q5⟩ := q
    dsimp only at q1 q3 q4 q5
    subst q1
    refine ⟨s, ?_, q3, q4, q5⟩
    show f_X7_takeDraft_b2 (nI 64) s = _
    unfold f_X7_takeDraft_b2
    rw [L_64, if_pos (nI_le (by omega) (by omega))])
  exact ⟨r, e, i2, i3, i4⟩
theorem td_b3 {nw : Nat} (hnw : nw ≤ 5) (h188 : σ 188 0 = nI nw) : ∃ σ', lp (fun st => f_X7_takeDraft_b3 st.1 st.2) FU ((0 : Int32), σ) = some σ' ∧ (∀ i, i ≠ 195 → i ≠ 190 → σ' i = σ i) ∧ (∀ k, k < 5 → σ' 190 k = σ 190 (5 + k) ∧ σ' 195 (0 + k) = if k < nw then σ 194 k else 0) ∧ ∀ k, 5 ≤ k → σ' 195 k = σ 195 k := by
  obtain ⟨r, e, i2, i3, i4⟩ := lp_inv (b := fun st => f_X7_takeDraft_b3 st.1 st.2) (Post := fun σ' => (∀ i, i ≠ 195 → i ≠ 190 → σ' i = σ i) ∧ (∀ k, k < 5 → σ' 190 k = σ 190 (5 + k) ∧ σ' 195 (0 + k) = if k < nw then σ 194 k else 0) ∧ ∀ k, 5 ≤ k → σ' 195 k = σ 195 k) (fun j s => s.1 = nI j ∧ (∀ i, i ≠ 195 → i ≠ 190 → s.2 i = σ i) ∧ (∀ k, k < j → s.2 190 k = σ 190 (5 + k) ∧ s.2 195 (0 + k) = if k < nw then σ 194 k else 0) ∧ (∀ k, 5 ≤ k → s.2 195 k = σ 195 k) ∧ ∀ k, 5 ≤ k → s.2 190 k = σ 190 k) 5 (by omega) (s0 := (0, σ)) ⟨rfl, fun _ _ _ => rfl, fun k hk => absurd hk (by omega), fun _ _ => rfl, fun _ _ => rfl⟩ (fun j s hj q => by
    obtain ⟨x, s⟩ := s
    obtain ⟨q1, q3, q4, q5, q6⟩ := q
    dsimp only at q1 q3 q4 q5 q6
    subst q1
    refine ⟨(nI (j + 1), sf (sf s 190 j (σ 190 (5 + j))) 195 (0 + j) (if j < nw then σ 194 j else 0)), ?_, rfl, fun i hi h2 => ?_, fun k hk => ?_, fun k hk => ?_, fun k hk => ?_⟩
    · show f_X7_takeDraft_b3 (nI j) s = _
      unfold f_X7_takeDraft_b3
      rw [L_5, if_neg (nI_ge hj (by omega)), nI_add, l190, ga_n (by omega) (by omega), sb, q6 _ (by omega), sa_n (by omega) (by omega), sb, g188z, sb, sf_ne (i := 190) (j := 188) (by omega), q3 188 (by omega) (by omega), h188]
      by_cases c : j < nw
      · rw [if_neg (nI_ge c (by omega)), sf_ne (i := 190) (j := 194) (by omega), q3 194 (by omega) (by omega), l194, ga_n hj (by omega), sb, L_0, nI_add, l195, sa_n (by omega) (by omega), sb, nI_1, if_pos c]
      · rw [if_pos (nI_le (by omega) (by omega)), L_0, nI_add, l195, sa_n (by omega) (by omega), sb, nI_1, if_neg c]
    · dsimp only
      rw [sf_ne hi, sf_ne h2]; exact q3 i hi h2
    · dsimp only
      rw [sf_ne (i := 195) (j := 190) (by omega), sf_row, sf_row, sf_ne (i := 190) (j := 195) (by omega)]
      by_cases c : k = j
      · subst c; rw [upd_self, upd_self]; exact ⟨rfl, rfl⟩
      · rw [upd_ne (by omega), upd_ne (by omega)]; exact q4 k (by omega)
    · dsimp only
      rw [sf_row, upd_ne (by omega), sf_ne (by omega)]; exact q5 k hk
    · dsimp only
      rw [sf_ne (by omega), sf_row, upd_ne (by omega)]; exact q6 k hk) (fun s q => by
    obtain ⟨x, s⟩ := s
    obtain ⟨q1, q3, q4, q5, q6⟩ := q
    dsimp only at q1 q3 q4 q5 q6
    subst q1
    refine ⟨s, ?_, q3, q4, q5⟩
    show f_X7_takeDraft_b3 (nI 5) s = _
    unfold f_X7_takeDraft_b3
    rw [L_5, if_pos (nI_le (by omega) (by omega))])
  exact ⟨r, e, i2, i3, i4⟩
theorem td_b4 {np : Nat} (hnp : np ≤ 6) (h187 : σ 187 0 = nI np) : ∃ σ', lp (fun st => f_X7_takeDraft_b4 st.1 st.2) FU ((0 : Int32), σ) = some σ' ∧ (∀ i, i ≠ 195 → i ≠ 189 → σ' i = σ i) ∧ (∀ k, k < 6 → σ' 189 k = σ 189 (6 + k) ∧ σ' 195 (71 + k) = (if k < np then σ 192 k else -4) ∧ σ' 195 (77 + k) = if k < np then σ 193 k else 0) ∧ ∀ k, (k < 71 ∨ 83 ≤ k) → σ' 195 k = σ 195 k := by
  obtain ⟨r, e, i2, i3, i4⟩ := lp_inv (b := fun st => f_X7_takeDraft_b4 st.1 st.2) (Post := fun σ' => (∀ i, i ≠ 195 → i ≠ 189 → σ' i = σ i) ∧ (∀ k, k < 6 → σ' 189 k = σ 189 (6 + k) ∧ σ' 195 (71 + k) = (if k < np then σ 192 k else -4) ∧ σ' 195 (77 + k) = if k < np then σ 193 k else 0) ∧ ∀ k, (k < 71 ∨ 83 ≤ k) → σ' 195 k = σ 195 k) (fun j s => s.1 = nI j ∧ (∀ i, i ≠ 195 → i ≠ 189 → s.2 i = σ i) ∧ (∀ k, k < j → s.2 189 k = σ 189 (6 + k) ∧ s.2 195 (71 + k) = (if k < np then σ 192 k else -4) ∧ s.2 195 (77 + k) = if k < np then σ 193 k else 0) ∧ (∀ k, (k < 71 ∨ 83 ≤ k) → s.2 195 k = σ 195 k) ∧ ∀ k, 6 ≤ k → s.2 189 k = σ 189 k) 6 (by omega) (s0 := (0, σ)) ⟨rfl, fun _ _ _ => rfl, fun k hk => absurd hk (by omega), fun _ _ => rfl, fun _ _ => rfl⟩ (fun j s hj q => by
    obtain ⟨x, s⟩ := s
    obtain ⟨q1, q3, q4, q5, q6⟩ := q
    dsimp only at q1 q3 q4 q5 q6
    subst q1
    refine ⟨(nI (j + 1), sf (sf (sf s 189 j (σ 189 (6 + j))) 195 (71 + j) (if j < np then σ 192 j else -4)) 195 (77 + j) (if j < np then σ 193 j else 0)), ?_, rfl, fun i hi h2 => ?_, fun k hk => ?_, fun k hk => ?_, fun k hk => ?_⟩
    · show f_X7_takeDraft_b4 (nI j) s = _
      unfold f_X7_takeDraft_b4
      rw [L_6, if_neg (nI_ge hj (by omega)), nI_add, l189, ga_n (by omega) (by omega), sb, q6 _ (by omega), sa_n (by omega) (by omega), sb, g187z, sb, sf_ne (i := 189) (j := 187) (by omega), q3 187 (by omega) (by omega), h187]
      by_cases c : j < np
      · rw [if_neg (nI_ge c (by omega)), sf_ne (i := 189) (j := 192) (by omega), q3 192 (by omega) (by omega), l192, ga_n hj (by omega), sb, L_71, nI_add, l195, sa_n (by omega) (by omega), sb, g187z, sb, sf_ne (i := 195) (j := 187) (by omega), sf_ne (i := 189) (j := 187) (by omega), q3 187 (by omega) (by omega), h187, if_neg (nI_ge c (by omega)), sf_ne (i := 195) (j := 193) (by omega), sf_ne (i := 189) (j := 193) (by omega), q3 193 (by omega) (by omega), l193, ga_n hj (by omega), sb, L_77, nI_add, sa_n (by omega) (by omega), sb, nI_1, if_pos c, if_pos c]
      · rw [if_pos (nI_le (by omega) (by omega)), L_71, nI_add, l195, sa_n (by omega) (by omega), sb, g187z, sb, sf_ne (i := 195) (j := 187) (by omega), sf_ne (i := 189) (j := 187) (by omega), q3 187 (by omega) (by omega), h187, if_pos (nI_le (by omega) (by omega)), L_77, nI_add, sa_n (by omega) (by omega), sb, nI_1, if_neg c, if_neg c]
    · dsimp only
      rw [sf_ne hi, sf_ne hi, sf_ne h2]; exact q3 i hi h2
    · dsimp only
      rw [sf_ne (i := 195) (j := 189) (by omega), sf_ne (i := 195) (j := 189) (by omega), sf_row, sf_row, sf_row, sf_ne (i := 189) (j := 195) (by omega)]
      by_cases c : k = j
      · subst c; rw [upd_self, upd_ne (by omega), upd_self, upd_self]; exact ⟨rfl, rfl, rfl⟩
      · rw [upd_ne (by omega), upd_ne (by omega), upd_ne (by omega), upd_ne (by omega), upd_ne (by omega)]; exact q4 k (by omega)
    · dsimp only
      rw [sf_row, upd_ne (by omega), sf_row, upd_ne (by omega), sf_ne (by omega)]; exact q5 k hk
    · dsimp only
      rw [sf_ne (by omega), sf_ne (by omega), sf_row, upd_ne (by omega)]; exact q6 k hk) (fun s q => by
    obtain ⟨x, s⟩ := s
    obtain ⟨q1, q3, q4, q5, q6⟩ := q
    dsimp only at q1 q3 q4 q5 q6
    subst q1
    refine ⟨s, ?_, q3, q4, q5⟩
    show f_X7_takeDraft_b4 (nI 6) s = _
    unfold f_X7_takeDraft_b4
    rw [L_6, if_pos (nI_le (by omega) (by omega))])
  exact ⟨r, e, i2, i3, i4⟩
def arJ (d : Dr) (j : Nat) : Nat → Nat → Option Nat := fun p => if p < j then pr (Dr.mi d) (Dr.n d) (Dr.to d p) else fun _ => some 0
def amJ (d : Dr) (j : Nat) : Nat → Nat → Option Nat := fun p => if p < j then pm (Dr.mi d) (Dr.n d) (Dr.to d p) else fun _ => some 0
theorem arJ_s {j : Nat} : up1 (arJ d j) j (pr (Dr.mi d) (Dr.n d) (Dr.to d j)) = arJ d (j + 1) := by
  funext p
  unfold up1 arJ
  by_cases c : p = j
  · subst c; rw [if_pos rfl, if_pos (by omega)]
  · rw [if_neg c]
    by_cases e : p < j
    · rw [if_pos e, if_pos (by omega)]
    · rw [if_neg e, if_neg (by omega)]
theorem amJ_s {j : Nat} : up1 (amJ d j) j (pm (Dr.mi d) (Dr.n d) (Dr.to d j)) = amJ d (j + 1) := by
  funext p
  unfold up1 amJ
  by_cases c : p = j
  · subst c; rw [if_pos rfl, if_pos (by omega)]
  · rw [if_neg c]
    by_cases e : p < j
    · rw [if_pos e, if_pos (by omega)]
    · rw [if_neg e, if_neg (by omega)]
theorem VY_J (dv : DV d) (j : Nat) : VY (Dr.n d) (Dr.mi d) (Dr.np d) (Dr.nw d) 0 0 0 (Dr.ki d) (fun p => some (Dr.to d p)) (Dr.ag d) (arJ d j) (amJ d j) (Dr.wa d) (Dr.go d) := by
  have n2 := dv.1.1
  refine VY_d dv (fun p t u e => ?_) (fun p t u e => ?_)
  · unfold arJ at e
    by_cases c : p < j
    · rw [if_pos c] at e; exact pr_lt dv.1 e
    · rw [if_neg c] at e; cases e; omega
  · unfold amJ at e
    by_cases c : p < j
    · rw [if_pos c] at e; exact pm_le dv.1 e
    · rw [if_neg c] at e; cases e; omega
theorem td_b5 (dv : DV d) (hS : ST σ (Dr.n d) (Dr.np d) (Dr.nw d) (Dr.ki d) (Dr.go d)) (hF : PF σ (dist (Dr.mi d))) (h : MC σ 195 (Dr.mi d) (Dr.np d) (Dr.nw d) 0 0 (fun p => some (Dr.to d p)) (Dr.ag d) (arJ d 0) (amJ d 0) (Dr.wa d)) : ∃ σ', lp (fun st => f_X7_takeDraft_b5 st.1 st.2) FU ((0 : Int32), σ) = some σ' ∧ (∀ i, i ≠ 195 → σ' i = σ i) ∧ MC σ' 195 (Dr.mi d) (Dr.np d) (Dr.nw d) 0 0 (fun p => some (Dr.to d p)) (Dr.ag d) (arJ d (Dr.np d)) (amJ d (Dr.np d)) (Dr.wa d) := by
  have v6 := dv.2.1.1
  obtain ⟨r, e, i2, i3⟩ := lp_inv (b := fun st => f_X7_takeDraft_b5 st.1 st.2) (Post := fun σ' => (∀ i, i ≠ 195 → σ' i = σ i) ∧ MC σ' 195 (Dr.mi d) (Dr.np d) (Dr.nw d) 0 0 (fun p => some (Dr.to d p)) (Dr.ag d) (arJ d (Dr.np d)) (amJ d (Dr.np d)) (Dr.wa d)) (fun j s => s.1 = nI j ∧ (∀ i, i ≠ 195 → s.2 i = σ i) ∧ MC s.2 195 (Dr.mi d) (Dr.np d) (Dr.nw d) 0 0 (fun p => some (Dr.to d p)) (Dr.ag d) (arJ d j) (amJ d j) (Dr.wa d)) (Dr.np d) (by omega) (s0 := (0, σ)) ⟨rfl, fun _ _ => rfl, h⟩ (fun j s hj q => by
    obtain ⟨x, s⟩ := s
    obtain ⟨q1, q3, q4⟩ := q
    dsimp only at q1 q3 q4
    subst q1
    obtain ⟨τ, eτ, t1, t2⟩ := po_ok (c := 195) (Or.inl rfl) (VY_J dv j) v6 (ST_fr hS (fun i _ _ => q3 i (by omega))) (PF_fr hF (q3 199 (by omega))) q4 hj rfl
    rw [arJ_s, amJ_s] at t2
    refine ⟨(nI (j + 1), τ), ?_, rfl, fun i hi => (t1 i hi).trans (q3 i hi), t2⟩
    show f_X7_takeDraft_b5 (nI j) s = _
    unfold f_X7_takeDraft_b5
    rw [g187z, sb, q3 187 (by omega), hS.2.1, if_neg (nI_ge hj (by omega)), eτ, sb, nI_1]) (fun s q => by
    obtain ⟨x, s⟩ := s
    obtain ⟨q1, q3, q4⟩ := q
    dsimp only at q1 q3 q4
    subst q1
    refine ⟨s, ?_, q3, q4⟩
    show f_X7_takeDraft_b5 (nI (Dr.np d)) s = _
    unfold f_X7_takeDraft_b5
    rw [g187z, sb, q3 187 (by omega), hS.2.1, if_pos (nI_le (Nat.le_refl _) (by omega))])
  exact ⟨r, e, i2, i3⟩
/-- the draft taken by the model -/
theorem tdr_ok (hD : DM σ d) (dv : DV d) : ∃ σ', f_X7_takeDraft σ = some σ' ∧ (∀ i, (i < 184 ∨ i = 185 ∨ (190 < i ∧ i < 195) ∨ (195 < i ∧ i ≠ 199)) → σ' i = σ i) ∧ (∀ k, k ≠ 16 → k ≠ 18 → k ≠ 28 → k ≠ 32 → σ' 184 k = σ 184 k) ∧ (σ' 184 16 = nI 0 ∧ σ' 184 18 = nI 0 ∧ σ' 184 28 = nI 0 ∧ σ' 184 32 = nI 0) ∧ ST σ' (Dr.n d) (Dr.np d) (Dr.nw d) (Dr.ki d) (Dr.go d) ∧ MY (σ' 195) (Dr.np d) (Dr.nw d) (dS1 d) := by
  obtain ⟨⟨d1, d2, d3⟩, d4, d5, d6⟩ := hD
  have v6 := dv.2.1.1
  have v5 := dv.2.1.2
  obtain ⟨τ0, hτ0⟩ : ∃ τ0, τ0 = sf (sf (sf σ 186 0 (nI (Dr.n d))) 187 0 (nI (Dr.np d))) 188 0 (nI (Dr.nw d)) := ⟨_, rfl⟩
  have z0 : ∀ i, i ≠ 186 → i ≠ 187 → i ≠ 188 → τ0 i = σ i := fun i a b c => by rw [hτ0, sf_ne c, sf_ne b, sf_ne a]
  have z6 : τ0 186 0 = nI (Dr.n d) := by rw [hτ0, sf_ne (by omega), sf_ne (by omega), sf_row, upd_self]
  have z7 : τ0 187 0 = nI (Dr.np d) := by rw [hτ0, sf_ne (by omega), sf_row, upd_self]
  have z8 : τ0 188 0 = nI (Dr.nw d) := by rw [hτ0, sf_row, upd_self]
  obtain ⟨τ1, e1, f1, g1⟩ := @td_b1 τ0
  obtain ⟨τ2, e2, f2, g2, h2⟩ := @td_b2 τ1
  obtain ⟨τ3, e3, f3, g3, h3⟩ := td_b3 (σ := τ2) v5 (by rw [f2 188 (by omega), f1 188 (by omega)]; exact z8)
  obtain ⟨τ4, e4, f4, g4, h4⟩ := td_b4 (σ := τ3) v6 (by rw [f3 187 (by omega) (by omega), f2 187 (by omega), f1 187 (by omega)]; exact z7)
  have F4 : ∀ i, i ≠ 195 → i ≠ 189 → i ≠ 190 → τ4 i = τ0 i := fun i a b c => (f4 i a b).trans ((f3 i a c).trans ((f2 i a).trans (f1 i a)))
  have M4 : MC τ4 195 (Dr.mi d) (Dr.np d) (Dr.nw d) 0 0 (fun p => some (Dr.to d p)) (Dr.ag d) (arJ d 0) (amJ d 0) (Dr.wa d) := by
    refine ⟨fun a b ha hb => ?_, fun p hp => ?_, fun p hp => ?_, fun p hp _ t ht => ⟨?_, ?_⟩, fun v hv => ?_, ?_, ?_⟩
    · rw [h4 _ (by omega), h3 _ (by omega), show 7 + 8 * a + b = 7 + (8 * a + b) by omega, g2 _ (by omega), f1 _ (by omega), z0 _ (by omega) (by omega) (by omega)]
      exact d4 a b ha hb
    · rw [(g4 p (by omega)).2.1, if_pos hp, f3 192 (by omega) (by omega), f2 192 (by omega), f1 192 (by omega), z0 192 (by omega) (by omega) (by omega)]
      exact (d5 p hp).2.1
    · rw [(g4 p (by omega)).2.2, if_pos hp, f3 193 (by omega) (by omega), f2 193 (by omega), f1 193 (by omega), z0 193 (by omega) (by omega) (by omega)]
      exact (d5 p hp).2.2
    · rw [h4 _ (by omega), h3 _ (by omega), h2 _ (by omega), g1 _ (by omega)]
      rfl
    · rw [h4 _ (by omega), h3 _ (by omega), h2 _ (by omega), g1 _ (by omega)]
      rfl
    · rw [h4 _ (by omega), (g3 v (by omega)).2, if_pos hv, f2 194 (by omega), f1 194 (by omega), z0 194 (by omega) (by omega) (by omega)]
      exact (d6 v hv).1
    · rw [h4 _ (by omega), h3 _ (by omega), h2 _ (by omega), g1 _ (by omega)]
      rfl
    · rw [h4 _ (by omega), h3 _ (by omega), h2 _ (by omega), g1 _ (by omega)]
      rfl
  have S4 : ST τ4 (Dr.n d) (Dr.np d) (Dr.nw d) (Dr.ki d) (Dr.go d) := by
    refine ⟨?_, ?_, ?_, fun p hp => ?_, fun v hv => ?_⟩
    · rw [F4 186 (by omega) (by omega) (by omega)]; exact z6
    · rw [F4 187 (by omega) (by omega) (by omega)]; exact z7
    · rw [F4 188 (by omega) (by omega) (by omega)]; exact z8
    · rw [(g4 p (by omega)).1, f3 189 (by omega) (by omega), f2 189 (by omega), f1 189 (by omega), z0 189 (by omega) (by omega) (by omega)]
      exact (d5 p hp).1
    · rw [f4 190 (by omega) (by omega), (g3 v (by omega)).1, f2 190 (by omega), f1 190 (by omega), z0 190 (by omega) (by omega) (by omega)]
      exact (d6 v hv).2
  obtain ⟨τ5, e5, f5, P5⟩ := me_ok (c := 195) (Or.inl rfl) dv.1.2.2.1 M4.1
  obtain ⟨τ6, e6, f6, M6⟩ := td_b5 dv (ST_fr S4 (fun i _ _ => f5 i (by omega))) P5 (MC_fr M4 (f5 195 (by omega)))
  obtain ⟨τ7, hτ7⟩ : ∃ τ7, τ7 = sf (sf (sf (sf τ6 184 16 0) 184 18 0) 184 28 0) 184 32 0 := ⟨_, rfl⟩
  have F7 : ∀ i, i ≠ 184 → τ7 i = τ6 i := fun i a => by rw [hτ7, sf_ne a, sf_ne a, sf_ne a, sf_ne a]
  have F6 : ∀ i, i ≠ 195 → i ≠ 199 → i ≠ 189 → i ≠ 190 → i ≠ 186 → i ≠ 187 → i ≠ 188 → τ6 i = σ i := fun i a b c e u v w => (f6 i a).trans ((f5 i b).trans ((F4 i a c e).trans (z0 i u v w)))
  refine ⟨τ7, ?_, fun i hi => (F7 i (by omega)).trans (F6 i (by omega) (by omega) (by omega) (by omega) (by omega) (by omega) (by omega)), fun k a b c e => ?_, ⟨?_, ?_, ?_, ?_⟩, ST_fr (ST_fr S4 (fun i _ _ => f5 i (by omega))) (fun i _ _ => (F7 i (by omega)).trans (f6 i (by omega))), ?_⟩
  · unfold f_X7_takeDraft
    rw [g186, sb, d1, s186z, sb, sf_ne (i := 186) (j := 187) (by omega), g187, sb, d2, s187z, sb, sf_ne (i := 187) (j := 188) (by omega), sf_ne (i := 186) (j := 188) (by omega), g188, sb, d3, s188z, sb, ← hτ0, e1, sb]
    unfold f_X7_takeDraft_k5
    rw [e2, sb]
    unfold f_X7_takeDraft_k4
    rw [e3, sb]
    unfold f_X7_takeDraft_k3
    rw [e4, sb]
    unfold f_X7_takeDraft_k2
    rw [e5, sb, e6, sb]
    unfold f_X7_takeDraft_k1
    rw [sb, sb, sb, sb, ← hτ7]
  · rw [hτ7, sf_row, upd_ne e, sf_row, upd_ne c, sf_row, upd_ne b, sf_row, upd_ne a, F6 184 (by omega) (by omega) (by omega) (by omega) (by omega) (by omega) (by omega)]
  · rw [hτ7, sf_row, upd_ne (by omega), sf_row, upd_ne (by omega), sf_row, upd_ne (by omega), sf_row, upd_self]; rfl
  · rw [hτ7, sf_row, upd_ne (by omega), sf_row, upd_ne (by omega), sf_row, upd_self]; rfl
  · rw [hτ7, sf_row, upd_ne (by omega), sf_row, upd_self]; rfl
  · rw [hτ7, sf_row, upd_self]; rfl
  · rw [F7 195 (by omega)]
    obtain ⟨m1, m2, m3, m4, m5, m6, m7⟩ := M6
    refine c_MY (σ := τ6) (c := 195) ⟨m1, m2, m3, fun p hp hn t ht => ?_, m5, m6, m7⟩
    obtain ⟨w1, w2⟩ := m4 p hp hn t ht
    unfold arJ at w1
    unfold amJ at w2
    rw [if_pos hp] at w1 w2
    exact ⟨w1, w2⟩
end LY
