/-! Part 15: a yard of the class: one more post, becoming another, roads. -/
section YH
variable {σ σ' : Sg} {y z n : Nat} {mi : Mi} {np nw ho ye q : Nat} {ki : Nat → Nat} {to : Nat → Option Nat} {ag : Nat → Nat} {ar am : Nat → Nat → Option Nat} {wa go : Nat → Nat}
theorem sp_ok (hK : KC σ) (hg : gY y) (hV : VM n mi) (h : YC σ y n mi np nw ho ye q ki to ag ar am wa go) (h8 : np < 8) {x : Nat} (hx : x < n) : ∃ σ', f_X5_standPlain σ y (nI x) = some σ' ∧ KC σ' ∧ (∀ i, (i < y ∨ y + 13 < i) → σ' i = σ i) ∧ YC σ' y n mi (np + 1) nw ho ye q (upN ki np 0) (upN to np (some x)) (upN ag np 0) (up1 ar np (pr mi n x)) (up1 am np (pm mi n x)) wa go := by
  have k6 : kd (y + 6 + 1) ≠ 0 := by rw [hg.2.2.2.1.2]; decide
  unfold f_X5_standPlain
  rw [h.1.1, L_8, if_neg (nI_ge h8 (by omega)), L_0, put_in hK hg.2.2.2.1.1 (c := 0) (by omega) (by omega)]
  simp only [sb]
  have ey : ∀ (τ : Sg) (k : Nat) (v : Int32), sf τ (y + 6 + 1) k v y = τ y := fun τ k v => sf_ne (by omega)
  rw [ey, h.1.1, L_1, put_in (KC_sf hK k6) hg.2.2.2.1.1 (c := 1) (by omega) (by omega)]
  simp only [sb]
  rw [ey, ey, h.1.1, L_2, put_in (KC_sf (KC_sf hK k6) k6) hg.2.2.2.1.1 (c := 2) (by omega) (by omega)]
  simp only [sb]
  rw [ey, ey, ey, h.1.1]
  have hK1 : KC (sf (sf (sf σ (y + 6 + 1) (np * 3 + 0) (nI 0)) (y + 6 + 1) (np * 3 + 1) (nI x)) (y + 6 + 1) (np * 3 + 2) (nI 0)) := KC_sf (KC_sf (KC_sf hK k6) k6) k6
  have hf1 : ∀ i, i ≠ y + 6 + 1 → (sf (sf (sf σ (y + 6 + 1) (np * 3 + 0) (nI 0)) (y + 6 + 1) (np * 3 + 1) (nI x)) (y + 6 + 1) (np * 3 + 2) (nI 0)) i = σ i := fun i hi => by rw [sf_ne hi, sf_ne hi, sf_ne hi]
  have hr1 : ∀ k, (sf (sf (sf σ (y + 6 + 1) (np * 3 + 0) (nI 0)) (y + 6 + 1) (np * 3 + 1) (nI x)) (y + 6 + 1) (np * 3 + 2) (nI 0)) (y + 6 + 1) k = if k = np * 3 + 2 then nI 0 else if k = np * 3 + 1 then nI x else if k = np * 3 then nI 0 else σ (y + 6 + 1) k := fun k => by
    rw [sf_row]
    by_cases c : k = np * 3 + 2
    · rw [if_pos c]; subst c; exact upd_self
    · rw [if_neg c, upd_ne c, sf_row]
      by_cases c : k = np * 3 + 1
      · rw [if_pos c]; subst c; exact upd_self
      · rw [if_neg c, upd_ne c, sf_row]
        by_cases c : k = np * 3
        · rw [if_pos c]; subst c; exact upd_self
        · rw [if_neg c]; exact upd_ne c
  generalize (sf (sf (sf σ (y + 6 + 1) (np * 3 + 0) (nI 0)) (y + 6 + 1) (np * 3 + 1) (nI x)) (y + 6 + 1) (np * 3 + 2) (nI 0)) = σ1 at hK1 hf1 hr1
  obtain ⟨c1, c2, c3, c4, c5, c6, c7⟩ := h
  have hR1 : RC σ1 (y + 1) n mi := RC_fr c2 (hf1 _ (by omega)) (hf1 _ (by omega))
  have hP1 : PC σ1 (y + 1) n mi := PC_fr c3 (hf1 _ (by omega))
  have ht1 : f_X0_at σ1 (y + 6) (nI np) (1 : Int32) = some (nI x) := by
    rw [L_1, at_in hK1 hg.2.2.2.1.1 (c := 1) (by omega) (by omega), hr1, if_neg (by omega), if_pos rfl]
  obtain ⟨τ, e, hK2, hf2, hn2, ho2⟩ := pp_core hK1 hg hV hR1 hP1 hx h8 ht1
  rw [e]
  simp only [sb]
  have hf : ∀ i, i ≠ y + 6 + 1 → i ≠ y + 8 + 1 → i ≠ y + 10 + 1 → τ i = σ i := fun i a b c => (hf2 i b c).trans (hf1 i a)
  rw [hf y (by omega) (by omega) (by omega), c1.1, nI_add]
  have es : ∀ i, i ≠ y → (sf τ y 5 (nI (np + 1))) i = τ i := fun i hi => sf_ne hi
  refine ⟨_, rfl, KC_sf hK2 (by rw [hg.2.1]; decide), fun i hi => (sf_ne (by omega)).trans (hf i (by omega) (by omega) (by omega)), ?_, RC_fr c2 ((es _ (by omega)).trans (hf _ (by omega) (by omega) (by omega))) ((es _ (by omega)).trans (hf _ (by omega) (by omega) (by omega))), PC_fr c3 ((es _ (by omega)).trans (hf _ (by omega) (by omega) (by omega))), ?_, ?_, ?_, ?_⟩
  · rw [sf_row, upd_self, upd_ne (by decide), upd_ne (by decide), upd_ne (by decide), upd_ne (by decide), hf y (by omega) (by omega) (by omega)]
    exact ⟨rfl, c1.2⟩
  · intro p hp
    rw [es _ (by omega), hf2 _ (by omega) (by omega), hr1, hr1, hr1]
    unfold upN
    by_cases c : p = np
    · subst c
      rw [if_neg (by omega), if_neg (by omega), if_pos rfl, if_pos rfl, if_neg (by omega), if_pos rfl, if_pos rfl, if_pos rfl, if_pos rfl]
      exact ⟨rfl, rfl, rfl⟩
    · rw [if_neg (by omega), if_neg (by omega), if_neg (by omega), if_neg c, if_neg (by omega), if_neg (by omega), if_neg (by omega), if_neg c, if_neg (by omega), if_neg (by omega), if_neg (by omega), if_neg c]
      exact c4 p (by omega)
  · intro p hp t ht
    rw [es _ (by omega)]
    unfold up1
    by_cases c : p = np
    · subst c; rw [if_pos rfl]; exact (hn2 t ht).1
    · rw [if_neg c, (ho2 _ (by omega)).1, hf1 _ (by omega)]; exact c5 p (by omega) t ht
  · intro p hp t ht
    rw [es _ (by omega)]
    unfold up1
    by_cases c : p = np
    · subst c; rw [if_pos rfl]; exact (hn2 t ht).2
    · rw [if_neg c, (ho2 _ (by omega)).2, hf1 _ (by omega)]; exact c6 p (by omega) t ht
  · rw [es _ (by omega), hf _ (by omega) (by omega) (by omega)]; exact c7
theorem VY_sp (hV : VY n mi np nw ho ye q ki to ag ar am wa go) (h8 : np < 8) {x : Nat} (hx : x < n) : VY n mi (np + 1) nw ho ye q (upN ki np 0) (upN to np (some x)) (upN ag np 0) (up1 ar np (pr mi n x)) (up1 am np (pm mi n x)) wa go := by
  obtain ⟨v1, v2, v3, v4, v5, v6, v7, v8, v9, v10⟩ := hV
  refine ⟨v1, ⟨h8, v2.2⟩, ?_, ?_, ?_, ?_, ?_, v8, v9, ?_⟩
  · intro p; unfold upN
    by_cases c : p = np
    · rw [if_pos c]; omega
    · rw [if_neg c]; exact v3 p
  · intro p u h; unfold upN at h
    by_cases c : p = np
    · rw [if_pos c] at h; cases h; exact hx
    · rw [if_neg c] at h; exact v4 p u h
  · intro p; unfold upN
    by_cases c : p = np
    · rw [if_pos c]; omega
    · rw [if_neg c]; exact v5 p
  · intro p t u h; unfold up1 at h
    by_cases c : p = np
    · rw [if_pos c] at h; exact pr_lt v1 h
    · rw [if_neg c] at h; exact v6 p t u h
  · intro p t u h; unfold up1 at h
    by_cases c : p = np
    · rw [if_pos c] at h; exact pm_le v1 h
    · rw [if_neg c] at h; exact v7 p t u h
  · intro p t h; unfold upN at h; unfold up1
    by_cases c : p = np
    · rw [if_pos c] at h; cases h
    · rw [if_neg c] at h; rw [if_neg c, if_neg c]; exact v10 p t h
theorem gb_ok {C N g a : Nat} (hg : gd g C N) (ha : gd a C N) (k1 : kd (g + 1) = 9) : ∃ σ', f_X0_become σ g a = some σ' ∧ (∀ i, i ≠ g + 1 → σ' i = σ i) ∧ ∀ k, k < N → σ' (g + 1) k = σ (a + 1) k := by
  obtain ⟨-, -, -, h4, -, h6⟩ := hg
  obtain ⟨-, -, -, a4, -, -⟩ := ha
  unfold f_X0_become
  rw [h4, a4, ofN, show (if nI N < nI N then nI N else nI N) = nI N by split <;> rfl, L_0]
  unfold cp
  rw [nI_clamp (by omega), nI_clamp (by omega), h4, a4, if_neg (by
    intro z
    rcases z with z | z | z | z | z
    · exact nI_pos (by omega) z
    · exact nI_pos (by omega) z
    · exact nI_pos (by omega) z
    · omega
    · omega)]
  refine ⟨_, rfl, fun i hi => va_up_ne _ _ hi, fun k hk => ?_⟩
  rw [va_up_self]
  show (if 0 ≤ k ∧ k < 0 + N then σ (a + 1) (0 + (k - 0)) else _) = _
  rw [if_pos ⟨by omega, by omega⟩, show 0 + (k - 0) = k by omega]
theorem yb_ok (hK : KC σ) (hg : gY y) (hz : gY z) (hd : y + 13 < z ∨ z + 13 < y) (h : YC σ z n mi np nw ho ye q ki to ag ar am wa go) (h8 : np ≤ 8) (h5 : nw ≤ 5) (hn : n ≤ 8) : ∃ σ', f_X5_become σ y z = some σ' ∧ KC σ' ∧ (∀ i, (i < y ∨ y + 13 < i) → σ' i = σ i) ∧ YC σ' y n mi np nw ho ye q ki to ag ar am wa go := by
  obtain ⟨c1, c2, c3, c4, c5, c6, c7⟩ := h
  unfold f_X5_become f_X3_become
  simp only [sb]
  have k3 : kd (y + 1) ≠ 0 := by rw [hg.2.2.1.1.2.1]; decide
  have e0 : ∀ i, i ≠ y + 1 → (sf σ (y + 1) 0 (σ (z + 1) 0)) i = σ i := fun i hi => sf_ne hi
  have r0 : (sf σ (y + 1) 0 (σ (z + 1) 0)) (y + 1) 0 = nI n := by rw [sf_row, upd_self]; exact c2.1
  have K0 : KC (sf σ (y + 1) 0 (σ (z + 1) 0)) := KC_sf hK k3
  generalize sf σ (y + 1) 0 (σ (z + 1) 0) = σ0 at e0 r0 K0
  obtain ⟨σ1, h1, e1, r1⟩ := gb_ok (σ := σ0) hg.2.2.1.1.m hz.2.2.1.1.m hg.2.2.1.2.2
  rw [h1]; simp only [sb]
  obtain ⟨σ2, h2, e2, r2⟩ := gb_ok (σ := σ1) hg.2.2.1.1.p hz.2.2.1.1.p hg.2.2.1.2.1
  rw [h2]; simp only [sb]
  obtain ⟨σ3, h3, e3, r3⟩ := gb_ok (σ := σ2) hg.2.2.2.1.1 hz.2.2.2.1.1 hg.2.2.2.1.2
  rw [h3]; simp only [sb]
  obtain ⟨σ4, h4, e4, r4⟩ := gb_ok (σ := σ3) hg.2.2.2.2.1.1 hz.2.2.2.2.1.1 hg.2.2.2.2.1.2
  rw [h4]; simp only [sb]
  obtain ⟨σ5, h5', e5, r5⟩ := gb_ok (σ := σ4) hg.2.2.2.2.2.1.1 hz.2.2.2.2.2.1.1 hg.2.2.2.2.2.1.2
  rw [h5']; simp only [sb]
  obtain ⟨σ6, h6, e6, r6⟩ := gb_ok (σ := σ5) hg.2.2.2.2.2.2.1 hz.2.2.2.2.2.2.1 hg.2.2.2.2.2.2.2
  rw [h6]; simp only [sb]
  have F : ∀ i, i ≠ y + 1 → i ≠ y + 1 + 1 + 1 → i ≠ y + 1 + 3 + 1 → i ≠ y + 6 + 1 → i ≠ y + 8 + 1 → i ≠ y + 10 + 1 → i ≠ y + 12 + 1 → σ6 i = σ i := fun i a1 a2 a3 a4 a5 a6 a7 => by
    rw [e6 i a7, e5 i a6, e4 i a5, e3 i a4, e2 i a3, e1 i a2, e0 i a1]
  have ez : σ6 z = σ z := F z (by omega) (by omega) (by omega) (by omega) (by omega) (by omega) (by omega)
  have u1 : ∀ (τ : Sg) k v, sf τ y k v z = τ z := fun τ k v => sf_ne (by omega)
  simp only [u1, ez, c1.1, c1.2.1, c1.2.2.1, c1.2.2.2.1, c1.2.2.2.2]
  have ky : kd y ≠ 0 := by rw [hg.2.1]; decide
  have K6 : KC σ6 := KC_fr (KC_fr (KC_fr (KC_fr (KC_fr (KC_fr K0 (by rw [hg.2.2.1.2.2]; decide) e1) (by rw [hg.2.2.1.2.1]; decide) e2) (by rw [hg.2.2.2.1.2]; decide) e3) (by rw [hg.2.2.2.2.1.2]; decide) e4) (by rw [hg.2.2.2.2.2.1.2]; decide) e5) (by rw [hg.2.2.2.2.2.2.2]; decide) e6
  have es : ∀ i, i ≠ y → (sf (sf (sf (sf (sf σ6 y 5 (nI np)) y 6 (nI nw)) y 7 (nI ho)) y 8 (nI ye)) y 9 (nI q)) i = σ6 i := fun i hi => by rw [sf_ne hi, sf_ne hi, sf_ne hi, sf_ne hi, sf_ne hi]
  refine ⟨_, rfl, KC_sf (KC_sf (KC_sf (KC_sf (KC_sf K6 ky) ky) ky) ky) ky, fun i hi => ?_, ?_, ⟨?_, ?_⟩, ?_, ?_, ?_, ?_, ?_⟩
  · rw [es i (by omega)]; exact F i (by omega) (by omega) (by omega) (by omega) (by omega) (by omega) (by omega)
  · simp only [sf_row]
    simp [upd]
  · rw [es _ (by omega), e6 _ (by omega), e5 _ (by omega), e4 _ (by omega), e3 _ (by omega), e2 _ (by omega), e1 _ (by omega)]; exact r0
  · intro a b ha hb
    rw [es _ (by omega), e6 _ (by omega), e5 _ (by omega), e4 _ (by omega), e3 _ (by omega), e2 _ (by omega), r1 _ (by omega), e0 _ (by omega)]; exact c2.2 a b ha hb
  · intro a b ha hb
    rw [es _ (by omega), e6 _ (by omega), e5 _ (by omega), e4 _ (by omega), e3 _ (by omega), r2 _ (by omega), e1 _ (by omega), e0 _ (by omega)]; exact c3 a b ha hb
  · intro p hp
    have g : ∀ k, k < 24 → (sf (sf (sf (sf (sf σ6 y 5 (nI np)) y 6 (nI nw)) y 7 (nI ho)) y 8 (nI ye)) y 9 (nI q)) (y + 6 + 1) k = σ (z + 6 + 1) k := fun k hk => by
      rw [es _ (by omega), e6 _ (by omega), e5 _ (by omega), e4 _ (by omega), r3 _ hk, e2 _ (by omega), e1 _ (by omega), e0 _ (by omega)]
    rw [g _ (by omega), g _ (by omega), g _ (by omega)]; exact c4 p hp
  · intro p hp t ht
    rw [es _ (by omega), e6 _ (by omega), e5 _ (by omega), r4 _ (by omega), e3 _ (by omega), e2 _ (by omega), e1 _ (by omega), e0 _ (by omega)]; exact c5 p hp t ht
  · intro p hp t ht
    rw [es _ (by omega), e6 _ (by omega), r5 _ (by omega), e4 _ (by omega), e3 _ (by omega), e2 _ (by omega), e1 _ (by omega), e0 _ (by omega)]; exact c6 p hp t ht
  · intro v hv
    have g : ∀ k, k < 10 → (sf (sf (sf (sf (sf σ6 y 5 (nI np)) y 6 (nI nw)) y 7 (nI ho)) y 8 (nI ye)) y 9 (nI q)) (y + 12 + 1) k = σ (z + 12 + 1) k := fun k hk => by
      rw [es _ (by omega), r6 _ hk, e5 _ (by omega), e4 _ (by omega), e3 _ (by omega), e2 _ (by omega), e1 _ (by omega), e0 _ (by omega)]
    rw [g _ (by omega), g _ (by omega)]; exact c7 v hv
/-- a road laid -/
def sM (mi : Mi) (a b l : Nat) : Mi := fun a' b' => if (a' = a ∧ b' = b) ∨ (a' = b ∧ b' = a) then l else mi a' b'
theorem VM_s (hV : VM n mi) {a b l : Nat} (ha : a < n) (hb : b < n) (hl : l ≤ 9) : VM n (sM mi a b l) := by
  refine ⟨hV.1, hV.2.1, fun a' b' => ?_, fun a' b' h => ?_⟩
  · unfold sM; split
    · exact hl
    · exact hV.2.2.1 a' b'
  · unfold sM; rw [if_neg (by omega)]; exact hV.2.2.2 a' b' h
theorem se_ok {r : Nat} (hK : KC σ) (hg : gRk r) (h : RC σ r n mi) (hn : n ≤ 8) {a b l : Nat} (ha : a < n) (hb : b < n) : ∃ σ', f_X3_set σ r (nI a) (nI b) (nI l) = some σ' ∧ KC σ' ∧ (∀ i, i ≠ r + 1 + 1 → σ' i = σ i) ∧ RC σ' r n (sM mi a b l) := by
  have k9 : kd (r + 1 + 1) ≠ 0 := by rw [hg.2.2]; decide
  unfold f_X3_set
  rw [put_in hK hg.1.m (c := b) (by omega) (by omega)]
  simp only [sb]
  rw [put_in (KC_sf hK k9) hg.1.m (c := a) (by omega) (by omega)]
  refine ⟨_, rfl, KC_sf (KC_sf hK k9) k9, fun i hi => by rw [sf_ne hi, sf_ne hi], ?_, fun a' b' ha' hb' => ?_⟩
  · rw [sf_ne (by omega), sf_ne (by omega)]; exact h.1
  · unfold sM
    rw [sf_row]
    by_cases c : a' = b ∧ b' = a
    · rw [if_pos (Or.inr c)]; obtain ⟨rfl, rfl⟩ := c; exact upd_self
    · rw [upd_ne (by omega), sf_row]
      by_cases c2 : a' = a ∧ b' = b
      · rw [if_pos (Or.inl c2)]; obtain ⟨rfl, rfl⟩ := c2; exact upd_self
      · rw [upd_ne (by omega), if_neg (fun q => q.elim c2 c)]; exact h.2 a' b' ha' hb'
theorem ch_ok {r : Nat} (hK : KC σ) (hg : gRk r) (hV : VM n mi) (h : RC σ r n mi) {a b l : Nat} (ha : a < n) (hb : b < n) (hl : l ≤ 9) : ∃ σ', f_X3_change σ r (nI a) (nI b) (nI l) = some σ' ∧ KC σ' ∧ (∀ i, i ≠ r + 1 + 1 → i ≠ r + 3 + 1 → σ' i = σ i) ∧ RC σ' r n (sM mi a b l) ∧ PC σ' r n (sM mi a b l) := by
  unfold f_X3_change
  obtain ⟨σ1, e1, K1, f1, R1⟩ := se_ok hK hg h hV.2.1 (l := l) ha hb
  rw [e1]; simp only [sb]
  obtain ⟨σ2, e2, f2, P2⟩ := sur_ok K1 hg (VM_s hV ha hb hl) R1
  rw [e2]
  exact ⟨σ2, rfl, KC_fr K1 (by rw [hg.2.1]; decide) f2, fun i a b => (f2 i b).trans (f1 i a), RC_fr R1 (f2 _ (by omega)) (f2 _ (by omega)), P2⟩
theorem yc_ok (hK : KC σ) (hg : gY y) (hV : VM n mi) (h : YC σ y n mi np nw ho ye q ki to ag ar am wa go) {a b l : Nat} (ha : a < n) (hb : b < n) (hl : l ≤ 9) : ∃ σ', f_X3_change σ (y + 1) (nI a) (nI b) (nI l) = some σ' ∧ KC σ' ∧ (∀ i, (i < y ∨ y + 13 < i) → σ' i = σ i) ∧ YC σ' y n (sM mi a b l) np nw ho ye q ki to ag ar am wa go := by
  obtain ⟨c1, c2, c3, c4, c5, c6, c7⟩ := h
  obtain ⟨σ1, e1, K1, f1, R1, P1⟩ := ch_ok hK hg.2.2.1 hV c2 ha hb hl
  refine ⟨σ1, e1, K1, fun i hi => f1 i (by omega) (by omega), ?_, R1, P1, ?_, ?_, ?_, ?_⟩
  · rw [f1 _ (by omega) (by omega)]; exact c1
  · rw [f1 _ (by omega) (by omega)]; exact c4
  · rw [f1 _ (by omega) (by omega)]; exact c5
  · rw [f1 _ (by omega) (by omega)]; exact c6
  · rw [f1 _ (by omega) (by omega)]; exact c7
theorem VY_m {mi' : Mi} (hV : VY n mi np nw ho ye q ki to ag ar am wa go) (h : VM n mi') : VY n mi' np nw ho ye q ki to ag ar am wa go := ⟨h, hV.2⟩
/-- sums -/
def sm (f : Nat → Nat) : Nat → Nat
  | 0 => 0
  | k + 1 => sm f k + f k
theorem sm_0 {f : Nat → Nat} : ∀ {k : Nat}, (∀ t, t < k → f t = 0) → sm f k = 0
  | 0, _ => rfl
  | k + 1, h => by show sm f k + f k = 0; rw [sm_0 (fun t ht => h t (by omega)), h k (by omega)]
theorem sm_ext {f : Nat → Nat} {n : Nat} : ∀ e, (∀ t, n ≤ t → t < n + e → f t = 0) → sm f (n + e) = sm f n
  | 0, _ => rfl
  | e + 1, h => by show sm f (n + e) + f (n + e) = _; rw [sm_ext e (fun t a b => h t a (by omega)), h _ (by omega) (by omega)]; rfl
theorem sm_congr {f g : Nat → Nat} : ∀ {k : Nat}, (∀ t, t < k → f t = g t) → sm f k = sm g k
  | 0, _ => rfl
  | k + 1, h => by show sm f k + f k = sm g k + g k; rw [sm_congr (fun t ht => h t (by omega)), h k (by omega)]
/-- over pairs a < b < N -/
def s2 (f : Mi) (N : Nat) : Nat := sm (fun a => sm (fun b => if a < b then f a b else 0) N) N
theorem s2_n {f : Mi} (hn : n ≤ 8) (hz : ∀ a b, n ≤ b → f a b = 0) : s2 f 8 = s2 f n := by
  unfold s2
  have e1 : ∀ a, sm (fun b => if a < b then f a b else 0) 8 = sm (fun b => if a < b then f a b else 0) n := fun a => by
    have := sm_ext (f := fun b => if a < b then f a b else 0) (n := n) (8 - n) (fun t h1 h2 => by
      show (if a < t then f a t else 0) = 0
      split
      · exact hz a t h1
      · rfl)
    rwa [show n + (8 - n) = 8 by omega] at this
  rw [sm_congr (fun a _ => e1 a)]
  have := sm_ext (f := fun a => sm (fun b => if a < b then f a b else 0) n) (n := n) (8 - n) (fun t h1 h2 => sm_0 (fun b hb => if_neg (by omega)))
  rwa [show n + (8 - n) = 8 by omega] at this
def one (x : Nat) : Nat := if 0 < x then 1 else 0
theorem hm_ok {r : Nat} (hK : KC σ) (hg : gR r) (hV : VM n mi) (h : RC σ r n mi) : f_X3_howMany σ r = some (nI (s2 (fun a b => one (mi a b)) n)) := by
  have h8 := hV.2.1
  unfold f_X3_howMany
  rw [lp_for0 (b := fun st => f_X3_howMany_b2 σ r st.1 st.2) (s0 := ((0 : Int32), (0 : Int32))) (r := nI (s2 (fun a b => one (mi a b)) n)) (fun j => (nI (sm (fun a => sm (fun b => if a < b then one (mi a b) else 0) n) j), nI j)) n (by omega) ?_ ?_ rfl]
  · rfl
  · intro a ha
    show f_X3_howMany_b2 σ r (nI (sm _ a)) (nI a) = _
    unfold f_X3_howMany_b2
    rw [h.1, if_neg (nI_ge ha (by omega)), nI_1]
    have e : lp (fun st => f_X3_howMany_b1 σ r (nI a) st.1 st.2) FU (nI (sm (fun a => sm (fun b => if a < b then one (mi a b) else 0) n) a), nI (a + 1)) = some (nI (sm (fun a => sm (fun b => if a < b then one (mi a b) else 0) n) a + sm (fun b => if a < b then one (mi a b) else 0) n)) := by
      have := lp_for (b := fun st => f_X3_howMany_b1 σ r (nI a) st.1 st.2) (r := nI (sm (fun a => sm (fun b => if a < b then one (mi a b) else 0) n) a + sm (fun b => if a < b then one (mi a b) else 0) n)) (fun b => (nI (sm (fun a => sm (fun b => if a < b then one (mi a b) else 0) n) a + sm (fun b => if a < b then one (mi a b) else 0) b), nI b)) n (a + 1) FU (by omega) (by unfold FU; omega) (fun b hb1 hb2 => by
        show f_X3_howMany_b1 σ r (nI a) (nI _) (nI b) = some (Sum.inl (nI (_ + (sm _ b + (if a < b then one (mi a b) else 0))), nI (b + 1)))
        unfold f_X3_howMany_b1
        rw [h.1, if_neg (nI_ge hb2 (by omega)), at_in hK hg.m (c := b) (by omega) (by omega), h.2 a b (by omega) (by omega), nI_1, nI_1, if_pos (show a < b by omega)]
        simp only [sb]
        have hmi := hV.2.2.1 a b
        unfold one
        by_cases c : 0 < mi a b
        · rw [if_neg (nI_nle c (by omega)), if_pos c, Nat.add_assoc]
        · rw [if_pos (by rw [show mi a b = 0 by omega]; decide), if_neg c]; rfl) (by
        show f_X3_howMany_b1 σ r (nI a) (nI _) (nI n) = _
        unfold f_X3_howMany_b1
        rw [h.1, if_pos (nI_le (Nat.le_refl _) (by omega))])
      rw [sm_0 (k := a + 1) (fun t ht => if_neg (by omega))] at this
      exact this
    rw [e]
    simp only [sb]
    unfold f_X3_howMany_k1
    rw [nI_1]
    rfl
  · show f_X3_howMany_b2 σ r (nI _) (nI n) = _
    unfold f_X3_howMany_b2
    rw [h.1, if_pos (nI_le (Nat.le_refl _) (by omega))]
    rfl
theorem ma_ok {r : Nat} (hK : KC σ) (hg : gR r) (hV : VM n mi) (h : RC σ r n mi) : f_X3_milesOfAll σ r = some (nI (s2 mi n)) := by
  have h8 := hV.2.1
  unfold f_X3_milesOfAll
  rw [lp_for0 (b := fun st => f_X3_milesOfAll_b2 σ r st.1 st.2) (s0 := ((0 : Int32), (0 : Int32))) (r := nI (s2 mi n)) (fun j => (nI (sm (fun a => sm (fun b => if a < b then mi a b else 0) n) j), nI j)) n (by omega) ?_ ?_ rfl]
  · rfl
  · intro a ha
    show f_X3_milesOfAll_b2 σ r (nI (sm _ a)) (nI a) = _
    unfold f_X3_milesOfAll_b2
    rw [h.1, if_neg (nI_ge ha (by omega)), nI_1]
    have e : lp (fun st => f_X3_milesOfAll_b1 σ r (nI a) st.1 st.2) FU (nI (sm (fun a => sm (fun b => if a < b then mi a b else 0) n) a), nI (a + 1)) = some (nI (sm (fun a => sm (fun b => if a < b then mi a b else 0) n) a + sm (fun b => if a < b then mi a b else 0) n)) := by
      have := lp_for (b := fun st => f_X3_milesOfAll_b1 σ r (nI a) st.1 st.2) (r := nI (sm (fun a => sm (fun b => if a < b then mi a b else 0) n) a + sm (fun b => if a < b then mi a b else 0) n)) (fun b => (nI (sm (fun a => sm (fun b => if a < b then mi a b else 0) n) a + sm (fun b => if a < b then mi a b else 0) b), nI b)) n (a + 1) FU (by omega) (by unfold FU; omega) (fun b hb1 hb2 => by
        show f_X3_milesOfAll_b1 σ r (nI a) (nI _) (nI b) = some (Sum.inl (nI (_ + (sm _ b + (if a < b then mi a b else 0))), nI (b + 1)))
        unfold f_X3_milesOfAll_b1
        rw [h.1, if_neg (nI_ge hb2 (by omega)), at_in hK hg.m (c := b) (by omega) (by omega), h.2 a b (by omega) (by omega), nI_1, if_pos (show a < b by omega)]
        simp only [sb]
        rw [nI_add, Nat.add_assoc]) (by
        show f_X3_milesOfAll_b1 σ r (nI a) (nI _) (nI n) = _
        unfold f_X3_milesOfAll_b1
        rw [h.1, if_pos (nI_le (Nat.le_refl _) (by omega))])
      rw [sm_0 (k := a + 1) (fun t ht => if_neg (by omega))] at this
      exact this
    rw [e]
    simp only [sb]
    unfold f_X3_milesOfAll_k1
    rw [nI_1]
    rfl
  · show f_X3_milesOfAll_b2 σ r (nI _) (nI n) = _
    unfold f_X3_milesOfAll_b2
    rw [h.1, if_pos (nI_le (Nat.le_refl _) (by omega))]
    rfl
end YH
