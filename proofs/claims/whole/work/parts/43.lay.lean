/-! Part 43: fault and lay, alike. -/
section FA
variable {σ σ1 σ2 : Sg} {N : Nat}
theorem rd_rel (h : Rel N σ) (hN : N < 512) (F1 : YF 20 σ σ1) (K1 : KC σ1) (F2 : MF σ1 σ2) : Rel (N + 1) σ2 := by
  obtain ⟨hK, ⟨len, tx, a1, a2, a3, a4⟩, n, np, nw, ki, go, A, m, S, k, K, tl, tf, sl, sg, hR⟩ := h
  have R : ∀ i, i ≠ 1 → i ≠ 5 → (i < 20 ∨ 33 < i) → (i < 184 ∨ i = 185 ∨ 194 < i) → σ2 i = σ i := fun i a b c e => (F2.row e).trans (F1.1 i a b (by omega))
  have R1 : ∀ k, k ≠ 3 → σ2 1 k = σ 1 k := fun k a => by rw [F2.row (i := 1) (by omega)]; exact F1.2 k a
  have R4 : ∀ k, k ≠ 11 → k ≠ 12 → k ≠ 13 → σ2 184 k = σ 184 k := fun k a b c => (F2.at_ a b c).trans (by rw [F1.1 184 (by omega) (by omega) (by omega)])
  have P : ∀ i k, 184 < i → ¬ wr i k → σ2 i k = σ i k := fun i k a w => (F2 i k w).trans (by rw [F1.1 i (by omega) (by omega) (by omega)])
  have h6 := hR.1.2.1
  have h5 := hR.2.1.1.nw5
  obtain ⟨s1, s2, s3, s4, s5⟩ := hR.2.2.2.2.2.1.1
  refine ⟨KC_m K1 (fun i hi => F2.row (by omega)), ⟨len, tx, by rw [R1 2 (by omega)]; exact a1, by rw [R4 1 (by omega) (by omega) (by omega)]; exact a2, a3, fun i hi => by rw [R 3 (by omega) (by omega) (by omega) (by omega), R 185 (by omega) (by omega) (by omega) (by omega)]; exact a4 i hi⟩, n, np, nw, ki, go, A, m, S, k, K, tl, tf, sl, sg, RX_fr2 hR (by omega) hN (fun i a b c => R i (by omega) (by omega) c (by omega)) (R4 16 (by omega) (by omega) (by omega)) (R4 18 (by omega) (by omega) (by omega)) (R4 21 (by omega) (by omega) (by omega)) (R4 22 (by omega) (by omega) (by omega)) (R4 23 (by omega) (by omega) (by omega)) (R4 28 (by omega) (by omega) (by omega)) (R4 32 (by omega) (by omega) (by omega)) ⟨?_, ?_, ?_, fun p hp => ?_, fun v hv => ?_⟩ (fun i a b c e => R i (by omega) (by omega) (by omega) (by omega))⟩
  · rw [P 186 0 (by omega) (fun w => by unfold wr at w; omega)]; exact s1
  · rw [P 187 0 (by omega) (fun w => by unfold wr at w; omega)]; exact s2
  · rw [P 188 0 (by omega) (fun w => by unfold wr at w; omega)]; exact s3
  · rw [P 189 p (by omega) (fun w => by unfold wr at w; omega)]; exact s4 p hp
  · rw [P 190 v (by omega) (fun w => by unfold wr at w; omega)]; exact s5 v hv
theorem TX_C {len : Nat} {tx : Nat → Nat} (h : TX σ len tx) : TC σ len tx := ⟨h.1, ⟨h.2.2.1, fun i hi => (h.2.2.2 i hi).2.2⟩, fun i hi => (h.2.2.2 i hi).1⟩
theorem TX_M {len : Nat} {tx : Nat → Nat} (h : TX σ len tx) (f1 : σ1 184 = σ 184) (f2 : σ1 185 = σ 185) : TM σ1 len tx := ⟨by rw [f1]; exact h.2.1, ⟨h.2.2.1, fun i hi => (h.2.2.2 i hi).2.2⟩, fun i hi => by rw [f2]; exact (h.2.2.2 i hi).2.1⟩
theorem eq_fault (h : Rel N σ) (hN : N < 512) : ∃ r σ1 σ2, f_X6_fault σ = some (r, σ1) ∧ f_X7_fault σ1 = some (r, σ2) ∧ Rel (N + 1) σ2 := by
  have h0 := h
  obtain ⟨hK, ⟨len, tx, hT⟩, -⟩ := h
  obtain ⟨τ1, e1, F1, K1, -⟩ := tr_into hK (TX_C hT) gY20 (by omega)
  obtain ⟨τ2, e2, F2, -⟩ := tm_read (TX_M (σ1 := τ1) hT (F1.1 184 (by omega) (by omega) (by omega)) (F1.1 185 (by omega) (by omega) (by omega)))
  refine ⟨oI (tr_R len tx).2, τ1, τ2, ?_, ?_, rd_rel h0 hN F1 K1 F2⟩
  · unfold f_X6_fault
    rw [e1, sb]
  · unfold f_X7_fault
    rw [e2, sb]
theorem eq_lay (h : Rel N σ) (hN : N < 512) : ∃ r σ1 σ2, f_X6_lay σ = some (r, σ1) ∧ f_X7_lay σ1 = some (r, σ2) ∧ Rel (N + 1) σ2 := by
  have h0 := h
  obtain ⟨hK, ⟨len, tx, hT⟩, n, np, nw, ki, go, A, m, S, k, K, tl, tf, sl, sg, hR⟩ := h
  obtain ⟨τ1, e1, F1, K1, D1⟩ := tr_into hK (TX_C hT) gY20 (by omega)
  have l200 := hT.2.2.1
  have dv : DV (tr_R len tx).1 := tr_rdV (DV_0 (n := 6) (by omega) (by omega))
  have v6 := dv.2.1.1
  have v5 := dv.2.1.2
  have no : f_X6_lay σ = some (-2, τ1) → (∀ τ2, f_X7_read τ1 = some (oI (tr_R len tx).2, τ2) → ((tr_R len tx).2 = none → DM τ2 (tr_R len tx).1) → f_X7_lay τ1 = some (-2, τ2)) → ∃ r σ1 σ2, f_X6_lay σ = some (r, σ1) ∧ f_X7_lay σ1 = some (r, σ2) ∧ Rel (N + 1) σ2 := fun q1 q2 => by
    obtain ⟨τ2, e2, F2, D2⟩ := tm_read (TX_M (σ1 := τ1) hT (F1.1 184 (by omega) (by omega) (by omega)) (F1.1 185 (by omega) (by omega) (by omega)))
    exact ⟨-2, τ1, τ2, q1, q2 τ2 e2 D2, rd_rel h0 hN F1 K1 F2⟩
  cases u : (tr_R len tx).2 with
  | some e =>
    have e3 : e < 300 := tr_rdE (DV_0 (n := 6) (by omega) (by omega)) (by omega) l200 u
    rw [u] at e1
    refine no ?_ (fun τ2 e2 _ => ?_)
    · unfold f_X6_lay
      rw [e1, sb]
      dsimp only
      rw [if_pos (oI_ne (by omega))]
    · rw [u] at e2
      unfold f_X7_lay
      rw [e2, sb]
      dsimp only
      rw [if_pos (oI_ne (by omega))]
  | none =>
    have D1 := D1 u
    rw [u, oI_n] at e1
    have p5 := D1.1.1
    have p6 := D1.1.2.1
    by_cases c1 : Dr.np (tr_R len tx).1 = 0
    · refine no ?_ (fun τ2 e2 D2 => ?_)
      · unfold f_X6_lay f_X5_posts
        rw [e1, sb]
        dsimp only
        rw [if_neg (fun z => z rfl), sb, p5, c1, if_pos (by decide)]
      · have D2 := D2 u
        rw [u, oI_n] at e2
        unfold f_X7_lay
        rw [e2, sb]
        dsimp only
        rw [if_neg (fun z => z rfl), g187, sb, D2.1.2.1, c1, if_pos (show nI 0 = 0 from rfl)]
    by_cases c2 : Dr.nw (tr_R len tx).1 = 0
    · refine no ?_ (fun τ2 e2 D2 => ?_)
      · unfold f_X6_lay f_X5_posts f_X5_walkers
        rw [e1, sb]
        dsimp only
        rw [if_neg (fun z => z rfl), sb, p5, L_1, if_neg (nI_nlt (by omega) (by omega)), sb, p6, c2, if_neg (by decide)]
      · have D2 := D2 u
        rw [u, oI_n] at e2
        unfold f_X7_lay
        rw [e2, sb]
        dsimp only
        rw [if_neg (fun z => z rfl), g187, sb, D2.1.2.1, if_neg (fun z => c1 ((nI_0e (by omega)).mp z)), g188, sb, D2.1.2.2, c2, if_neg (fun z => z rfl)]
    obtain ⟨τa, ea, Ka, fa, Ca⟩ := pal_ok K1 gY20 D1 dv
    obtain ⟨τb, eb, Kb, fb, Cb⟩ := yb_ok (y := 6) (z := 20) Ka gY6 gY20 (by omega) Ca (by omega) v5 dv.1.2.1
    have Cb : CY τb 6 (Dr.n (tr_R len tx).1) (Dr.np (tr_R len tx).1) (Dr.nw (tr_R len tx).1) (Dr.ki (tr_R len tx).1) (Dr.go (tr_R len tx).1) (dS1 (tr_R len tx).1) := Cb
    obtain ⟨τ, hτ⟩ : ∃ τ, τ = sf (sf (sf (sf τb 34 1 0) 148 1 0) 178 1 0) 181 1 0 := ⟨_, rfl⟩
    have fτ : ∀ i, i ≠ 34 → i ≠ 148 → i ≠ 178 → i ≠ 181 → τ i = τb i := fun i a b c e => by rw [hτ, sf_ne e, sf_ne c, sf_ne b, sf_ne a]
    have Kτ : KC τ := by rw [hτ]; exact KC_sf (KC_sf (KC_sf (KC_sf Kb (by decide)) (by decide)) (by decide)) (by decide)
    have R : ∀ i, i ≠ 1 → i ≠ 5 → (33 < i ∨ i < 6) → τb i = σ i := fun i a b c => (fb i (by omega)).trans ((fa i (by omega)).trans (F1.1 i a b (by omega)))
    have Rτ : ∀ i, 181 < i → τ i = σ i := fun i a => (fτ i (by omega) (by omega) (by omega) (by omega)).trans (R i (by omega) (by omega) (by omega))
    obtain ⟨τ2, e2, F2, D2⟩ := tm_read (TX_M (σ1 := τ) hT (Rτ 184 (by omega)) (Rτ 185 (by omega)))
    have D2 := D2 u
    rw [u, oI_n] at e2
    obtain ⟨τ3, e3, f3, g3, ⟨x16, x18, x28, x32⟩, S3, Y3⟩ := tdr_ok D2 dv
    have G : ∀ i, i < 184 → τ3 i = τ i := fun i a => (f3 i (by omega)).trans (F2.row (by omega))
    have G4 : ∀ k, k ≠ 11 → k ≠ 12 → k ≠ 13 → k ≠ 16 → k ≠ 18 → k ≠ 28 → k ≠ 32 → τ3 184 k = σ 184 k := fun k a b c e f g h => (g3 k e f g h).trans ((F2.at_ a b c).trans (by rw [Rτ 184 (by omega)]))
    have fl := hR.2.2.2.2.2.1.2.1
    obtain ⟨-, s2, s3⟩ := hR.2.2.2.2.1
    refine ⟨nI (Dr.np (tr_R len tx).1), τ, τ3, ?_, ?_, KC_m Kτ G, ⟨len, tx, ?_, ?_, l200, fun i hi => ?_⟩, Dr.n (tr_R len tx).1, Dr.np (tr_R len tx).1, Dr.nw (tr_R len tx).1, Dr.ki (tr_R len tx).1, Dr.go (tr_R len tx).1, dS1 (tr_R len tx).1, 0, S, 0, K, 0, tf, 0, sg, ⟨by omega, v6, by omega, hN⟩, OK_d dv, fun i hi => absurd hi (by omega), fun i hi => absurd hi (by omega), ⟨CY_fr Cb (fun i a b => (G i (by omega)).trans (fτ i (by omega) (by omega) (by omega) (by omega))), ?_, ?_⟩, ⟨S3, ⟨?_, ?_, ?_⟩, Y3, x16, fun i hi => absurd hi (by omega), x18, fun i hi => absurd hi (by omega)⟩, ⟨⟨?_, fun i hi => absurd hi (by omega)⟩, x28, by omega, fun i hi => absurd hi (by omega)⟩, ⟨?_, fun i hi => absurd hi (by omega)⟩, x32, by omega, fun i hi => absurd hi (by omega)⟩
    · unfold f_X6_lay f_X5_posts f_X5_walkers f_X4_empty f_X2_empty
      rw [e1, sb]
      dsimp only
      rw [if_neg (fun z => z rfl), sb, p5, L_1, if_neg (nI_nlt (by omega) (by omega)), sb, p6, if_pos (nI_le (by omega) (by omega)), ea, sb, eb]
      simp only [sb]
      rw [← hτ, fτ 6 (by omega) (by omega) (by omega) (by omega), Cb.1.1]
    · unfold f_X7_lay
      rw [e2, sb]
      dsimp only
      rw [if_neg (fun z => z rfl), g187, sb, D2.1.2.1, if_neg (fun z => c1 ((nI_0e (by omega)).mp z)), g188, sb, D2.1.2.2, if_pos (fun z => c2 ((nI_0e (by omega)).mp z)), e3, sb, g187z, sb, S3.2.1]
    · rw [G 1 (by omega), fτ 1 (by omega) (by omega) (by omega) (by omega), fb 1 (by omega), fa 1 (by omega), F1.2 2 (by omega)]; exact hT.1
    · rw [G4 1 (by omega) (by omega) (by omega) (by omega) (by omega) (by omega) (by omega)]; exact hT.2.1
    · rw [G 3 (by omega), fτ 3 (by omega) (by omega) (by omega) (by omega), R 3 (by omega) (by omega) (by omega), f3 185 (by omega), F2.row (i := 185) (by omega), Rτ 185 (by omega)]
      exact hT.2.2.2 i hi
    · obtain ⟨-, -, f, hf, hf2, -⟩ := s2
      refine ⟨?_, by omega, f, hf, ?_, fun i hi => absurd hi (by omega)⟩
      · rw [G 34 (by omega), hτ, sf_ne (by omega), sf_ne (by omega), sf_ne (by omega), sf_row, upd_self]; rfl
      · rw [G 34 (by omega), hτ, sf_ne (by omega), sf_ne (by omega), sf_ne (by omega), sf_row, upd_ne (by omega), R 34 (by omega) (by omega) (by omega)]; exact hf2
    · obtain ⟨-, -, f, hf, hf2, -⟩ := s3
      refine ⟨?_, by omega, f, hf, ?_, fun i hi => absurd hi (by omega)⟩
      · rw [G 148 (by omega), hτ, sf_ne (by omega), sf_ne (by omega), sf_row, upd_self]; rfl
      · rw [G 148 (by omega), hτ, sf_ne (by omega), sf_ne (by omega), sf_row, upd_ne (by omega), sf_ne (by omega), R 148 (by omega) (by omega) (by omega)]; exact hf2
    · rw [G4 21 (by omega) (by omega) (by omega) (by omega) (by omega) (by omega) (by omega)]; exact fl.1
    · rw [G4 22 (by omega) (by omega) (by omega) (by omega) (by omega) (by omega) (by omega)]; exact fl.2.1
    · rw [G4 23 (by omega) (by omega) (by omega) (by omega) (by omega) (by omega) (by omega)]; exact fl.2.2
    · rw [G 178 (by omega), hτ, sf_ne (by omega), sf_row, upd_self]; rfl
    · rw [G 181 (by omega), hτ, sf_row, upd_self]; rfl
end FA
