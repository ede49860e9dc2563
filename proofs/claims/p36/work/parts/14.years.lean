/-! Part 14: a yard of the class: retired, years, one more post, becoming another; roads laid, summed. -/
section YG
variable {σ σ' : Sg} {y z n : Nat} {mi : Mi} {np nw ho ye q : Nat} {ki : Nat → Nat} {to : Nat → Option Nat} {ag : Nat → Nat} {ar am : Nat → Nat → Option Nat} {wa go : Nat → Nat}
theorem upd_none {f : Nat → Int32} {k j : Nat} : True := trivial
/-- rows of arms cleared up to t -/
def RI (σ τ : Sg) (y p j : Nat) : Prop := KC τ ∧ (∀ i, i ≠ y + 8 + 1 → i ≠ y + 10 + 1 → τ i = σ i) ∧ (∀ t, t < j → τ (y + 8 + 1) (p * 8 + t) = -4 ∧ τ (y + 10 + 1) (p * 8 + t) = -4) ∧ ∀ k, (k < p * 8 ∨ p * 8 + j ≤ k) → τ (y + 8 + 1) k = σ (y + 8 + 1) k ∧ τ (y + 10 + 1) k = σ (y + 10 + 1) k
theorem RI_put {τ : Sg} {p j : Nat} (hg : gY y) (h : RI σ τ y p j) : RI σ (sf (sf τ (y + 8 + 1) (p * 8 + j) (-4)) (y + 10 + 1) (p * 8 + j) (-4)) y p (j + 1) := by
  obtain ⟨h1, h2, h3, h4⟩ := h
  refine ⟨KC_sf (KC_sf h1 (by rw [hg.2.2.2.2.1.2]; decide)) (by rw [hg.2.2.2.2.2.1.2]; decide), fun i a b => by rw [sf_ne b, sf_ne a]; exact h2 i a b, fun t ht => ?_, fun k hk => ?_⟩
  · rw [sf_row, sf_ne (show y + 8 + 1 ≠ y + 10 + 1 by omega), sf_ne (show y + 10 + 1 ≠ y + 8 + 1 by omega), sf_row]
    by_cases c : t = j
    · subst c; rw [upd_self, upd_self]; exact ⟨rfl, rfl⟩
    · rw [upd_ne (by omega), upd_ne (by omega)]; exact h3 t (by omega)
  · rw [sf_row, sf_ne (show y + 8 + 1 ≠ y + 10 + 1 by omega), sf_ne (show y + 10 + 1 ≠ y + 8 + 1 by omega), sf_row, upd_ne (by omega), upd_ne (by omega)]
    exact h4 k (by omega)
theorem rp_ok (hK : KC σ) (hg : gY y) (h : YC σ y n mi np nw ho ye q ki to ag ar am wa go) (h8 : np ≤ 8) {p : Nat} (hp : p < np) : ∃ σ', f_X5_retirePost σ y (nI p) = some σ' ∧ KC σ' ∧ (∀ i, (i < y ∨ y + 13 < i) → σ' i = σ i) ∧ YC σ' y n mi np nw ho ye q ki (upN to p none) ag (up1 ar p (fun _ => none)) (up1 am p (fun _ => none)) wa go := by
  unfold f_X5_retirePost
  rw [L_1, put_in hK hg.2.2.2.1.1 (c := 1) (by omega) (by omega)]
  simp only [sb]
  have hK1 : KC (sf σ (y + 6 + 1) (p * 3 + 1) (-4)) := KC_sf hK (by rw [hg.2.2.2.1.2]; decide)
  generalize e0 : sf σ (y + 6 + 1) (p * 3 + 1) (-4) = σ1 at hK1
  have hf1 : ∀ i, i ≠ y + 6 + 1 → σ1 i = σ i := fun i hi => by rw [← e0]; exact sf_ne hi
  obtain ⟨τ, e, h1, h2, h3, h4⟩ := lp_inv (b := fun st => f_X5_retirePost_b1 y (nI p) st.1 st.2) (s0 := ((0 : Int32), σ1)) (Post := fun (τ : Sg) => RI σ1 τ y p 8) (fun j (s : Int32 × Sg) => s.1 = nI j ∧ RI σ1 s.2 y p j) 8 (by omega) ⟨rfl, hK1, fun _ _ _ => rfl, fun t ht => absurd ht (by omega), fun _ _ => ⟨rfl, rfl⟩⟩ (by
    rintro j ⟨u, τ⟩ hj ⟨rfl, hI⟩
    have hI : RI σ1 τ y p j := hI
    show ∃ s', f_X5_retirePost_b1 y (nI p) (nI j) τ = _ ∧ _
    unfold f_X5_retirePost_b1
    rw [L_8, if_neg (nI_ge hj (by omega)), nI_1, put_in hI.1 hg.2.2.2.2.1.1 hj (by omega)]
    simp only [sb]
    rw [put_in (KC_sf hI.1 (by rw [hg.2.2.2.2.1.2]; decide)) hg.2.2.2.2.2.1.1 hj (by omega)]
    exact ⟨_, rfl, rfl, RI_put hg hI⟩) (by
    rintro ⟨u, τ⟩ ⟨rfl, hI⟩
    show ∃ s', f_X5_retirePost_b1 y (nI p) (nI 8) τ = _ ∧ _
    unfold f_X5_retirePost_b1
    rw [L_8, if_pos (nI_le (Nat.le_refl _) (by omega))]
    exact ⟨_, rfl, hI⟩)
  rw [e]
  have hf : ∀ i, i ≠ y + 6 + 1 → i ≠ y + 8 + 1 → i ≠ y + 10 + 1 → τ i = σ i := fun i a b c => (h2 i b c).trans (hf1 i a)
  obtain ⟨c1, c2, c3, c4, c5, c6, c7⟩ := h
  refine ⟨τ, rfl, h1, fun i hi => hf i (by omega) (by omega) (by omega), ?_, RC_fr c2 (hf _ (by omega) (by omega) (by omega)) (hf _ (by omega) (by omega) (by omega)), PC_fr c3 (hf _ (by omega) (by omega) (by omega)), ?_, ?_, ?_, ?_⟩
  · rw [hf y (by omega) (by omega) (by omega)]; exact c1
  · intro p' hp'
    obtain ⟨a1, a2, a3⟩ := c4 p' hp'
    rw [h2 (y + 6 + 1) (by omega) (by omega), ← e0, sf_row, upd_ne (by omega), upd_ne (k := p * 3 + 1) (j := p' * 3 + 2) (by omega)]
    refine ⟨a1, ?_, a3⟩
    unfold upN
    by_cases c : p' = p
    · subst c; rw [upd_self, if_pos rfl]; rfl
    · rw [upd_ne (by omega), if_neg c]; exact a2
  · intro p' hp' t ht
    unfold up1
    by_cases c : p' = p
    · subst c; rw [if_pos rfl]; exact (h3 t ht).1
    · rw [if_neg c, (h4 _ (by omega)).1, hf1 _ (by omega)]; exact c5 p' hp' t ht
  · intro p' hp' t ht
    unfold up1
    by_cases c : p' = p
    · subst c; rw [if_pos rfl]; exact (h3 t ht).2
    · rw [if_neg c, (h4 _ (by omega)).2, hf1 _ (by omega)]; exact c6 p' hp' t ht
  · rw [hf (y + 12 + 1) (by omega) (by omega) (by omega)]; exact c7
/-- who is retired by a year -/
def yP (to : Nat → Option Nat) (ag : Nat → Nat) (p : Nat) : Bool := (to p).isSome && decide (60 ≤ ag p + 1)
def yTo (to : Nat → Option Nat) (ag : Nat → Nat) (j : Nat) : Nat → Option Nat := fun p => if p < j ∧ yP to ag p = true then none else to p
def yAg (to : Nat → Option Nat) (ag : Nat → Nat) (j : Nat) : Nat → Nat := fun p => if p < j ∧ (to p).isSome = true then ag p + 1 else ag p
def yAr (to : Nat → Option Nat) (ag : Nat → Nat) (ar : Nat → Nat → Option Nat) (j : Nat) : Nat → Nat → Option Nat := fun p => if p < j ∧ yP to ag p = true then (fun _ => none) else ar p
theorem py_ok (hK : KC σ) (hg : gY y) (hV : VY n mi np nw ho ye q ki to ag ar am wa go) (h : YC σ y n mi np nw ho ye q ki to ag ar am wa go) : ∃ σ', f_X5_passYear σ y = some (nI (cn (yP to ag) np), σ') ∧ KC σ' ∧ (∀ i, (i < y ∨ y + 13 < i) → σ' i = σ i) ∧ YC σ' y n mi np nw ho (ye + 1) q ki (yTo to ag np) (yAg to ag np) (yAr to ag ar np) (yAr to ag am np) wa go := by
  have h8 := hV.np8
  unfold f_X5_passYear
  simp only [sb]
  rw [h.1.2.2.2.1, nI_1]
  have hK1 : KC (sf σ y 8 (nI (ye + 1))) := KC_sf hK (by rw [hg.2.1]; decide)
  have hY1 : YC (sf σ y 8 (nI (ye + 1))) y n mi np nw ho (ye + 1) q ki to ag ar am wa go := by
    refine YC_own h (fun i hi => sf_ne hi) ?_ (Nat.le_refl _) (Nat.le_refl _)
    obtain ⟨⟨a1, a2, a3, a4, a5⟩, -⟩ := h
    rw [sf_row, upd_ne (by decide), upd_ne (by decide), upd_ne (by decide), upd_self, upd_ne (by decide)]
    exact ⟨a1, a2, a3, rfl, a5⟩
  have hf1 : ∀ i, (i < y ∨ y + 13 < i) → (sf σ y 8 (nI (ye + 1))) i = σ i := fun i hi => sf_ne (by omega)
  generalize sf σ y 8 (nI (ye + 1)) = σ1 at hK1 hY1 hf1
  obtain ⟨r, e, h1, h2, h3, h4⟩ := lp_inv (b := fun st => f_X5_passYear_b1 y st.1 st.2.1 st.2.2) (s0 := ((0 : Int32), (0 : Int32), σ1)) (Post := fun (r : Int32 × Sg) => r.1 = nI (cn (yP to ag) np) ∧ KC r.2 ∧ (∀ i, (i < y ∨ y + 13 < i) → r.2 i = σ i) ∧ YC r.2 y n mi np nw ho (ye + 1) q ki (yTo to ag np) (yAg to ag np) (yAr to ag ar np) (yAr to ag am np) wa go) (fun j (s : Int32 × Int32 × Sg) => s.1 = nI (cn (yP to ag) j) ∧ s.2.1 = nI j ∧ KC s.2.2 ∧ (∀ i, (i < y ∨ y + 13 < i) → s.2.2 i = σ i) ∧ YC s.2.2 y n mi np nw ho (ye + 1) q ki (yTo to ag j) (yAg to ag j) (yAr to ag ar j) (yAr to ag am j) wa go) np (by omega) ⟨rfl, rfl, hK1, hf1, by
      have e1 : yTo to ag 0 = to := by funext p; unfold yTo; rw [if_neg (fun z => by omega)]
      have e2 : yAg to ag 0 = ag := by funext p; unfold yAg; rw [if_neg (fun z => by omega)]
      have e3 : ∀ a, yAr to ag a 0 = a := fun a => by funext p; unfold yAr; rw [if_neg (fun z => by omega)]
      rw [e1, e2, e3, e3]; exact hY1⟩ (by
    rintro j ⟨c, u, τ⟩ hj ⟨rfl, rfl, hK', hf, hp⟩
    have hf : ∀ i, (i < y ∨ y + 13 < i) → τ i = σ i := hf
    have hp : YC τ y n mi np nw ho (ye + 1) q ki (yTo to ag j) (yAg to ag j) (yAr to ag ar j) (yAr to ag am j) wa go := hp
    have hK' : KC τ := hK'
    have hag := hV.agL j
    have t0 : yTo to ag j j = to j := by unfold yTo; rw [if_neg (fun z => by omega)]
    have a0 : yAg to ag j j = ag j := by unfold yAg; rw [if_neg (fun z => by omega)]
    have hir : f_X5_isRetired τ y (nI j) = some (b32 (to j = none)) := by
      unfold f_X5_isRetired
      rw [po1 hK' hg hp h8 hj, t0]
      show (if ¬ oI (to j) = -4 then _ else _) = _
      cases c : to j with
      | none => rw [if_neg (fun z => z oI_n), b32_t rfl]
      | some x => rw [if_pos (oI_ne (by have := hV.toL c; have := hV.n8; omega)), b32_f (fun z => by cases z)]
    show ∃ s', f_X5_passYear_b1 y (nI (cn _ j)) (nI j) τ = _ ∧ _
    unfold f_X5_passYear_b1
    rw [hp.1.1, if_neg (nI_ge hj (by omega)), hir, nI_1, nI_1]
    simp only [sb]
    cases c : to j with
    | none =>
      have yn : yP to ag j = false := by unfold yP; rw [c]; rfl
      rw [b32_t rfl, if_pos one0]
      refine ⟨_, rfl, ?_, rfl, hK', hf, ?_⟩
      · show _ = nI (cn _ j + (if yP to ag j = true then 1 else 0))
        rw [yn]; rfl
      · have e1 : yTo to ag (j + 1) = yTo to ag j := by
          funext p; unfold yTo
          by_cases d : p = j
          · subst d; rw [if_neg (fun z => by rw [yn] at z; cases z.2), if_neg (fun z => by omega)]
          · by_cases d2 : p < j ∧ yP to ag p = true
            · rw [if_pos d2, if_pos ⟨by omega, d2.2⟩]
            · rw [if_neg d2, if_neg (fun z => d2 ⟨by omega, z.2⟩)]
        have e2 : yAg to ag (j + 1) = yAg to ag j := by
          funext p; unfold yAg
          by_cases d : p = j
          · subst d; rw [if_neg (fun z => by rw [c] at z; cases z.2), if_neg (fun z => by omega)]
          · by_cases d2 : p < j ∧ (to p).isSome = true
            · rw [if_pos d2, if_pos ⟨by omega, d2.2⟩]
            · rw [if_neg d2, if_neg (fun z => d2 ⟨by omega, z.2⟩)]
        have e3 : ∀ a, yAr to ag a (j + 1) = yAr to ag a j := fun a => by
          funext p; unfold yAr
          by_cases d : p = j
          · subst d; rw [if_neg (fun z => by rw [yn] at z; cases z.2), if_neg (fun z => by omega)]
          · by_cases d2 : p < j ∧ yP to ag p = true
            · rw [if_pos d2, if_pos ⟨by omega, d2.2⟩]
            · rw [if_neg d2, if_neg (fun z => d2 ⟨by omega, z.2⟩)]
        show YC τ y n mi np nw ho (ye + 1) q ki (yTo to ag (j + 1)) (yAg to ag (j + 1)) (yAr to ag ar (j + 1)) (yAr to ag am (j + 1)) wa go
        rw [e1, e2, e3, e3]; exact hp
    | some x =>
      rw [b32_f (fun z => by cases z), if_neg (fun z => z rfl), po2 hK' hg hp h8 hj, a0]
      simp only [sb]
      rw [nI_1, L_2, put_in hK' hg.2.2.2.1.1 (c := 2) (by omega) (by omega)]
      simp only [sb]
      have hK2 : KC (sf τ (y + 6 + 1) (j * 3 + 2) (nI (ag j + 1))) := KC_sf hK' (by rw [hg.2.2.2.1.2]; decide)
      have hf2 : ∀ i, (i < y ∨ y + 13 < i) → (sf τ (y + 6 + 1) (j * 3 + 2) (nI (ag j + 1))) i = σ i := fun i hi => (sf_ne (by omega)).trans (hf i hi)
      have e2 : yAg to ag (j + 1) = upN (yAg to ag j) j (ag j + 1) := by
        funext p; unfold upN yAg
        by_cases d : p = j
        · subst d; rw [if_pos ⟨by omega, by rw [c]; rfl⟩, if_pos rfl]
        · rw [if_neg d]
          by_cases d2 : p < j ∧ (to p).isSome = true
          · rw [if_pos d2, if_pos ⟨by omega, d2.2⟩]
          · rw [if_neg d2, if_neg (fun z => d2 ⟨by omega, z.2⟩)]
      have hY2 : YC (sf τ (y + 6 + 1) (j * 3 + 2) (nI (ag j + 1))) y n mi np nw ho (ye + 1) q ki (yTo to ag j) (yAg to ag (j + 1)) (yAr to ag ar j) (yAr to ag am j) wa go := by
        rw [e2]
        refine YC_po hp (fun i hi => sf_ne hi) (fun p' hp' => ?_)
        obtain ⟨a1, a2, a3⟩ := hp.2.2.2.1 p' hp'
        rw [sf_row, upd_ne (by omega), upd_ne (k := j * 3 + 2) (j := p' * 3 + 1) (by omega)]
        refine ⟨a1, a2, ?_⟩
        unfold upN
        by_cases d : p' = j
        · subst d; rw [upd_self, if_pos rfl]
        · rw [upd_ne (by omega), if_neg d]; exact a3
      generalize sf τ (y + 6 + 1) (j * 3 + 2) (nI (ag j + 1)) = τ2 at hK2 hf2 hY2
      by_cases d : 60 ≤ ag j + 1
      · have yt : yP to ag j = true := by unfold yP; rw [c]; simp [d]
        rw [L_60, if_neg (nI_nlt d (by omega))]
        obtain ⟨τ3, e3, hK3, hf3, hY3⟩ := rp_ok hK2 hg hY2 h8 hj
        rw [e3]
        simp only [sb]
        refine ⟨_, rfl, ?_, rfl, hK3, fun i hi => (hf3 i hi).trans (hf2 i hi), ?_⟩
        · show _ = nI (cn _ j + (if yP to ag j = true then 1 else 0))
          rw [yt]; rfl
        · have e1 : yTo to ag (j + 1) = upN (yTo to ag j) j none := by
            funext p; unfold upN yTo
            by_cases d : p = j
            · subst d; rw [if_pos ⟨by omega, yt⟩, if_pos rfl]
            · rw [if_neg d]
              by_cases d2 : p < j ∧ yP to ag p = true
              · rw [if_pos d2, if_pos ⟨by omega, d2.2⟩]
              · rw [if_neg d2, if_neg (fun z => d2 ⟨by omega, z.2⟩)]
          have e4 : ∀ a, yAr to ag a (j + 1) = up1 (yAr to ag a j) j (fun _ => none) := fun a => by
            funext p; unfold up1 yAr
            by_cases d : p = j
            · subst d; rw [if_pos ⟨by omega, yt⟩, if_pos rfl]
            · rw [if_neg d]
              by_cases d2 : p < j ∧ yP to ag p = true
              · rw [if_pos d2, if_pos ⟨by omega, d2.2⟩]
              · rw [if_neg d2, if_neg (fun z => d2 ⟨by omega, z.2⟩)]
          show YC τ3 y n mi np nw ho (ye + 1) q ki (yTo to ag (j + 1)) (yAg to ag (j + 1)) (yAr to ag ar (j + 1)) (yAr to ag am (j + 1)) wa go
          rw [e1, e4, e4]; exact hY3
      · have yn : yP to ag j = false := by unfold yP; rw [c]; simp [d]
        rw [L_60, if_pos (nI_lt (by omega) (by omega))]
        refine ⟨_, rfl, ?_, rfl, hK2, hf2, ?_⟩
        · show _ = nI (cn _ j + (if yP to ag j = true then 1 else 0))
          rw [yn]; rfl
        · have e1 : yTo to ag (j + 1) = yTo to ag j := by
            funext p; unfold yTo
            by_cases d : p = j
            · subst d; rw [if_neg (fun z => by rw [yn] at z; cases z.2), if_neg (fun z => by omega)]
            · by_cases d2 : p < j ∧ yP to ag p = true
              · rw [if_pos d2, if_pos ⟨by omega, d2.2⟩]
              · rw [if_neg d2, if_neg (fun z => d2 ⟨by omega, z.2⟩)]
          have e3 : ∀ a, yAr to ag a (j + 1) = yAr to ag a j := fun a => by
            funext p; unfold yAr
            by_cases d : p = j
            · subst d; rw [if_neg (fun z => by rw [yn] at z; cases z.2), if_neg (fun z => by omega)]
            · by_cases d2 : p < j ∧ yP to ag p = true
              · rw [if_pos d2, if_pos ⟨by omega, d2.2⟩]
              · rw [if_neg d2, if_neg (fun z => d2 ⟨by omega, z.2⟩)]
          show YC τ2 y n mi np nw ho (ye + 1) q ki (yTo to ag (j + 1)) (yAg to ag (j + 1)) (yAr to ag ar (j + 1)) (yAr to ag am (j + 1)) wa go
          rw [e1, e3, e3]; exact hY2) (by
    rintro ⟨c, u, τ⟩ ⟨rfl, rfl, hK', hf, hp⟩
    have hp : YC τ y n mi np nw ho (ye + 1) q ki (yTo to ag np) (yAg to ag np) (yAr to ag ar np) (yAr to ag am np) wa go := hp
    show ∃ s', f_X5_passYear_b1 y (nI (cn _ np)) (nI np) τ = _ ∧ _
    unfold f_X5_passYear_b1
    rw [hp.1.1, if_pos (nI_le (Nat.le_refl _) (by omega))]
    exact ⟨_, rfl, rfl, hK', hf, hp⟩)
  obtain ⟨c, τ⟩ := r
  have h1 : c = _ := h1
  rw [e]
  exact ⟨τ, by rw [h1]; rfl, h2, h3, h4⟩
theorem VY_y (hV : VY n mi np nw ho ye q ki to ag ar am wa go) (hA : ∀ p, to p ≠ none → ag p ≤ 59) (hy : ye + 1 ≤ 100000) {N : Nat} : VY n mi np nw ho (ye + 1) q ki (yTo to ag N) (yAg to ag N) (yAr to ag ar N) (yAr to ag am N) wa go ∧ ∀ p, p < N → yTo to ag N p ≠ none → yAg to ag N p ≤ 59 := by
  obtain ⟨v1, v2, v3, v4, v5, v6, v7, v8, v9, v10⟩ := hV
  refine ⟨⟨v1, ⟨v2.1, v2.2.1, v2.2.2.1, hy, v2.2.2.2.2⟩, v3, ?_, ?_, ?_, ?_, v8, v9, ?_⟩, ?_⟩
  · intro p x h
    unfold yTo at h
    by_cases c : p < N ∧ yP to ag p = true
    · rw [if_pos c] at h; cases h
    · rw [if_neg c] at h; exact v4 p x h
  · intro p
    unfold yAg
    by_cases c : p < N ∧ (to p).isSome = true
    · rw [if_pos c]
      have := hA p (fun z => by rw [z] at c; cases c.2)
      omega
    · rw [if_neg c]; exact v5 p
  · intro p t u h
    unfold yAr at h
    by_cases c : p < N ∧ yP to ag p = true
    · rw [if_pos c] at h; cases h
    · rw [if_neg c] at h; exact v6 p t u h
  · intro p t u h
    unfold yAr at h
    by_cases c : p < N ∧ yP to ag p = true
    · rw [if_pos c] at h; cases h
    · rw [if_neg c] at h; exact v7 p t u h
  · intro p t h
    unfold yTo at h
    unfold yAr
    by_cases c : p < N ∧ yP to ag p = true
    · rw [if_pos c, if_pos c]; exact ⟨rfl, rfl⟩
    · rw [if_neg c] at h; rw [if_neg c, if_neg c]; exact v10 p t h
  · intro p hp h
    unfold yTo at h
    unfold yAg
    by_cases c : (to p).isSome = true
    · rw [if_pos ⟨hp, c⟩]
      by_cases d : yP to ag p = true
      · rw [if_pos ⟨hp, d⟩] at h; exact absurd rfl h
      · unfold yP at d
        rw [c] at d
        simp at d
        omega
    · exfalso
      rw [Option.not_isSome_iff_eq_none] at c
      by_cases d : p < N ∧ yP to ag p = true
      · rw [if_pos d] at h; exact h rfl
      · rw [if_neg d] at h; exact h c
end YG
