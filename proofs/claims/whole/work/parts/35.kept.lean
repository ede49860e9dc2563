/-! Part 35: kept yards, letters, notes. -/
section KB
variable {σ σ' : Sg} {N n np nw : Nat} {ki go : Nat → Nat} {A A' : Sn} {m : Nat} {S : Nat → Sn} {k : Nat} {K : Nat → Sn} {tl : Nat} {tf : Nat → Nat × Nat × Nat} {sl : Nat} {sg : Nat → Nat × Nat × Nat}
/-- other than what the yards are -/
theorem RX_fr2 {M : Nat} (h : RX N σ n np nw ki go A m S k K tl tf sl sg) (hM : N ≤ M) (hM2 : M ≤ 512) (hc : ∀ i, 6 ≤ i → i < 184 → (i < 20 ∨ 33 < i) → σ' i = σ i) (h16 : σ' 184 16 = σ 184 16) (h18 : σ' 184 18 = σ 184 18) (h21 : σ' 184 21 = σ 184 21) (h22 : σ' 184 22 = σ 184 22) (h23 : σ' 184 23 = σ 184 23) (h28 : σ' 184 28 = σ 184 28) (h32 : σ' 184 32 = σ 184 32) (hS : ST σ' n np nw ki go) (hm : ∀ i, 195 ≤ i → i ≠ 198 → i ≠ 199 → i ≠ 200 → σ' i = σ i) : RX M σ' n np nw ki go A m S k K tl tf sl sg := by
  obtain ⟨⟨n1, n2, n3, n4⟩, v1, v2, v3, ⟨c1, c2, c3⟩, ⟨m1, m2, m3, m4, m5, m6, m7⟩, ⟨t1, t2, t3, t4⟩, u1, u2, u3, u4⟩ := h
  refine ⟨⟨n1, n2, n3, hM2⟩, OK_mono v1 hM, fun i hi => OK_mono (v2 i hi) hM, fun i hi => OK_mono (v3 i hi) hM, ⟨CY_fr c1 (fun i a b => hc i (by omega) (by omega) (by omega)), SH_fr (by omega) c2 (fun i a b => hc i (by omega) (by omega) (by omega)), SH_fr (by omega) c3 (fun i a b => hc i (by omega) (by omega) (by omega))⟩, ⟨hS, ?_, ?_, ?_, MH_fr m5 (hm _ (by omega) (by omega) (by omega) (by omega)), ?_, MH_fr m7 (hm _ (by omega) (by omega) (by omega) (by omega))⟩, ⟨NT_fr t1 (hc _ (by omega) (by omega) (by omega)) (hc _ (by omega) (by omega) (by omega)) (hm _ (by omega) (by omega) (by omega) (by omega)) (hm _ (by omega) (by omega) (by omega) (by omega)) (hm _ (by omega) (by omega) (by omega) (by omega)), ?_, t3, t4⟩, NT_fr u1 (hc _ (by omega) (by omega) (by omega)) (hc _ (by omega) (by omega) (by omega)) (hm _ (by omega) (by omega) (by omega) (by omega)) (hm _ (by omega) (by omega) (by omega) (by omega)) (hm _ (by omega) (by omega) (by omega) (by omega)), ?_, u3, u4⟩
  · exact ⟨h21.trans m2.1, h22.trans m2.2.1, h23.trans m2.2.2⟩
  · rw [hm 195 (by omega) (by omega) (by omega) (by omega)]; exact m3
  · rw [h16]; exact m4
  · rw [h18]; exact m6
  · rw [h28]; exact t2
  · rw [h32]; exact u2
theorem eq_keep (h : Rel N σ) (hN : N < 512) : ∃ r σ1 σ2, f_X6_keep σ = some (r, σ1) ∧ f_X7_keep σ1 = some (r, σ2) ∧ Rel (N + 1) σ2 := by
  have h0 := h
  obtain ⟨hK, hT, n, np, nw, ki, go, A, m, S, k, K, tl, tf, sl, sg, hR⟩ := h
  have same : Rel (N + 1) σ := Rel_fr h0 (by omega) hN hK (fun _ _ _ _ _ => rfl)
  obtain ⟨⟨n1, n2, n3, n4⟩, v1, v2, v3, ⟨c1, c2, c3⟩, ⟨m1, m2, m3, m4, m5, m6, m7⟩, ⟨t1, t2, t3, t4⟩, u1, u2, u3, u4⟩ := hR
  have k2 := c3.2.1
  by_cases c : k < 2
  · obtain ⟨σ1, e1, K1, f1, S1⟩ := sa_ok hK (Or.inr rfl) ln149 (by omega) kd148 (fun j hj => gYk hj) (OK_VA v1) c1 c3
    rw [if_pos c] at S1
    have F : ∀ i, (i < 148 ∨ 178 ≤ i) → σ1 i = σ i := fun i hi => f1 i (by omega)
    obtain ⟨σ2, e2, f2, g2, M2⟩ := kp_lp (τ0 := σ1) c (by rw [F 184 (by omega)]; exact m6)
    have e184 : (sf σ2 184 18 (nI (k + 1))) 184 = upd (σ 184) 18 (nI (k + 1)) := by rw [sf_row, f2 184 (by omega), F 184 (by omega)]
    have F1 : ∀ i, i ≠ 184 → i ≠ 197 → (sf σ2 184 18 (nI (k + 1))) i = σ1 i := fun i a b => (sf_ne a).trans (f2 i b)
    have F2 : ∀ i, (i < 148 ∨ 178 ≤ i) → i ≠ 184 → i ≠ 197 → (sf σ2 184 18 (nI (k + 1))) i = σ i := fun i a b c => (F1 i b c).trans (F i a)
    refine ⟨nI (k + 1), σ1, sf σ2 184 18 (nI (k + 1)), ?_, ?_, KC_m K1 (fun i hi => F1 i (by omega) (by omega)), RT_fr hT (F2 _ (by omega) (by omega) (by omega)) (F2 _ (by omega) (by omega) (by omega)) (by rw [e184, upd_ne (by omega)]) (F2 _ (by omega) (by omega) (by omega)), n, np, nw, ki, go, A, m, S, k + 1, pushS A K, tl, tf, sl, sg, ⟨n1, n2, n3, hN⟩, OK_mono v1 (by omega), fun i hi => OK_mono (v2 i hi) (by omega), ?_, ⟨CY_fr c1 (fun i a b => F2 i (by omega) (by omega) (by omega)), SH_fr (by omega) c2 (fun i a b => F2 i (by omega) (by omega) (by omega)), SH_fr (by omega) S1 (fun i a b => F1 i (by omega) (by omega))⟩, ⟨ST_fr m1 (fun i a b => F2 i (by omega) (by omega) (by omega)), ?_, by rw [F2 195 (by omega) (by omega) (by omega)]; exact m3, by rw [e184, upd_ne (by omega)]; exact m4, MH_fr m5 (F2 _ (by omega) (by omega) (by omega)), by rw [e184, upd_self], ?_⟩, ⟨NT_fr t1 (F2 _ (by omega) (by omega) (by omega)) (F2 _ (by omega) (by omega) (by omega)) (F2 _ (by omega) (by omega) (by omega)) (F2 _ (by omega) (by omega) (by omega)) (F2 _ (by omega) (by omega) (by omega)), by rw [e184, upd_ne (by omega)]; exact t2, t3, t4⟩, NT_fr u1 (F2 _ (by omega) (by omega) (by omega)) (F2 _ (by omega) (by omega) (by omega)) (F2 _ (by omega) (by omega) (by omega)) (F2 _ (by omega) (by omega) (by omega)) (F2 _ (by omega) (by omega) (by omega)), by rw [e184, upd_ne (by omega)]; exact u2, u3, u4⟩
    · unfold f_X6_keep f_X4_held
      rw [c3.1, sb, L_2, if_pos (nI_lt c (by omega)), e1, sb, S1.1, sb]
    · unfold f_X7_keep
      rw [if_pos (show ¬ σ1 184 18 = 2 by rw [F 184 (by omega), m6, L_2]; exact fun z => by have := (nI_eq (by omega) (by omega)).mp z; omega), e2, sb]
      unfold f_X7_keep_k1
      rw [sb, f2 184 (by omega), F 184 (by omega), m6, nI_1, sf_row, upd_self]
    · intro i hi
      cases i with
      | zero => exact OK_mono v1 (by omega)
      | succ i => exact OK_mono (v3 i (by omega)) (by omega)
    · unfold FL
      rw [e184, upd_ne (by omega), upd_ne (by omega), upd_ne (by omega)]
      exact m2
    · intro i hi
      rw [sf_ne (by omega)]
      cases i with
      | zero => exact MY_cg n2 v1.1.nw5 m3 (fun j hj => by
          rw [show k + 1 - 1 - 0 = k by omega, M2 j hj, F 195 (by omega)])
      | succ i => exact MY_cg n2 v1.1.nw5 (m7 i (by omega)) (fun j hj => by
          rw [show k + 1 - 1 - (i + 1) = k - 1 - i by omega, g2 _ (Or.inl (by omega)), F 197 (by omega)])
  · refine ⟨-3, σ, σ, ?_, ?_, same⟩
    · unfold f_X6_keep f_X4_held
      rw [c3.1, sb, L_2, if_neg (nI_nlt (by omega) (by omega))]
    · unfold f_X7_keep
      rw [if_neg (show ¬ ¬ σ 184 18 = 2 by rw [m6, show k = 2 by omega]; exact fun z => z rfl)]
theorem eq_back (h : Rel N σ) (hN : N < 512) : ∃ r σ1 σ2, f_X6_back σ = some (r, σ1) ∧ f_X7_back σ1 = some (r, σ2) ∧ Rel (N + 1) σ2 := by
  have h0 := h
  obtain ⟨hK, hT, n, np, nw, ki, go, A, m, S, k, K, tl, tf, sl, sg, hR⟩ := h
  have same : Rel (N + 1) σ := Rel_fr h0 (by omega) hN hK (fun _ _ _ _ _ => rfl)
  obtain ⟨⟨n1, n2, n3, n4⟩, v1, v2, v3, ⟨c1, c2, c3⟩, ⟨m1, m2, m3, m4, m5, m6, m7⟩, ⟨t1, t2, t3, t4⟩, u1, u2, u3, u4⟩ := hR
  have k2 := c3.2.1
  cases k with
  | zero =>
    refine ⟨-2, σ, σ, ?_, ?_, same⟩
    · unfold f_X6_back
      rw [gv_no c3, sb, if_neg (fun z => z rfl)]
    · unfold f_X7_back
      rw [m6, if_neg (fun z => z rfl)]
  | succ k =>
    obtain ⟨σ1, e1, K1, f1, Y1, H1⟩ := gv_ok hK (Or.inr rfl) ln149 (by omega) kd148 (fun j hj => gYk hj) (fun i hi => OK_VA (v3 i hi)) (by omega) c3
    have F0 : ∀ i, i ≠ 34 → (sf σ1 34 1 0) i = σ1 i := fun i a => sf_ne a
    have p18 : (sf (sf σ1 34 1 0) 184 18 (((sf σ1 34 1 0) 184 18) - (1 : Int32))) 184 18 = nI k := by
      rw [sf_row, upd_self, F0 184 (by omega), f1 184 (by omega) (by omega), m6]; exact nI_pred _
    obtain ⟨σ2, e2, f2, M2⟩ := bk_lp (by omega) p18
    have F1 : ∀ i, i ≠ 184 → i ≠ 195 → (sf σ2 184 16 0) i = (sf σ1 34 1 0) i := fun i a b => (sf_ne a).trans ((f2 i b).trans (sf_ne a))
    have F2 : ∀ i, (i < 6 ∨ 19 < i) → i ≠ 34 → i ≠ 148 → i ≠ 184 → i ≠ 195 → (sf σ2 184 16 0) i = σ i := fun i a b c d e => (F1 i d e).trans ((F0 i b).trans (f1 i a c))
    have e184 : (sf σ2 184 16 0) 184 = upd (upd (σ 184) 18 (nI k)) 16 0 := by
      rw [sf_row, f2 _ (by omega), sf_row, F0 184 (by omega), f1 184 (by omega) (by omega), m6]
      rw [show nI (k + 1) - 1 = nI k from nI_pred _]
    have MA : MY ((sf σ2 184 16 0) 195) np nw (K 0) := MY_cg n2 v1.1.nw5 (m7 0 (by omega)) (fun j hj => by
      rw [sf_ne (by omega), M2 j hj, sf_ne (by omega), F0 197 (by omega), f1 197 (by omega) (by omega)]
      show _ = σ 197 (179 * (k + 1 - 1 - 0) + j)
      rw [show k + 1 - 1 - 0 = k by omega])
    refine ⟨nI k, sf σ1 34 1 0, sf σ2 184 16 0, ?_, ?_, KC_m (KC_sf K1 kd34) (fun i hi => F1 i (by omega) (by omega)), RT_fr hT (F2 _ (by omega) (by omega) (by omega) (by omega) (by omega)) (F2 _ (by omega) (by omega) (by omega) (by omega) (by omega)) (by rw [e184, upd_ne (by omega), upd_ne (by omega)]) (F2 _ (by omega) (by omega) (by omega) (by omega) (by omega)), n, np, nw, ki, go, K 0, 0, S, k, (fun i => K (i + 1)), tl, tf, sl, sg, ⟨n1, n2, n3, hN⟩, OK_mono (v3 0 (by omega)) (by omega), fun i hi => absurd hi (by omega), fun i hi => OK_mono (v3 (i + 1) (by omega)) (by omega), ⟨CY_fr Y1 (fun i a b => (F1 i (by omega) (by omega)).trans (F0 i (by omega))), ?_, SH_fr (by omega) H1 (fun i a b => (F1 i (by omega) (by omega)).trans (F0 i (by omega)))⟩, ⟨ST_fr m1 (fun i a b => F2 i (by omega) (by omega) (by omega) (by omega) (by omega)), ?_, MA, by rw [e184, upd_self]; rfl, fun i hi => absurd hi (by omega), by rw [e184, upd_ne (by omega), upd_self], ?_⟩, ⟨NT_fr t1 (F2 _ (by omega) (by omega) (by omega) (by omega) (by omega)) (F2 _ (by omega) (by omega) (by omega) (by omega) (by omega)) (F2 _ (by omega) (by omega) (by omega) (by omega) (by omega)) (F2 _ (by omega) (by omega) (by omega) (by omega) (by omega)) (F2 _ (by omega) (by omega) (by omega) (by omega) (by omega)), by rw [e184, upd_ne (by omega), upd_ne (by omega)]; exact t2, t3, t4⟩, NT_fr u1 (F2 _ (by omega) (by omega) (by omega) (by omega) (by omega)) (F2 _ (by omega) (by omega) (by omega) (by omega) (by omega)) (F2 _ (by omega) (by omega) (by omega) (by omega) (by omega)) (F2 _ (by omega) (by omega) (by omega) (by omega) (by omega)) (F2 _ (by omega) (by omega) (by omega) (by omega) (by omega)), by rw [e184, upd_ne (by omega), upd_ne (by omega)]; exact u2, u3, u4⟩
    · unfold f_X6_back f_X4_empty f_X4_held
      rw [e1, sb]
      dsimp only
      rw [if_pos one0, sb, sb, F0 148 (by omega), H1.1, sb]
      rfl
    · unfold f_X7_back
      rw [if_pos (show ¬ (sf σ1 34 1 0) 184 18 = 0 by rw [F0 184 (by omega), f1 184 (by omega) (by omega), m6]; exact fun z => by have := (nI_0e (by omega)).mp z; omega), sb, e2, sb]
      unfold f_X7_back_k1
      rw [sb, e184, upd_ne (by omega), upd_self]
    · have c2' : SH σ1 34 8 n np nw ki go m S := SH_fr (by omega) c2 (fun i a b => f1 i (by omega) (by omega))
      exact SH_fr (by omega) (SH_0 c2') (fun i a b => F1 i (by omega) (by omega))
    · unfold FL
      rw [e184, upd_ne (by omega), upd_ne (by omega), upd_ne (by omega), upd_ne (by omega), upd_ne (by omega), upd_ne (by omega)]
      exact m2
    · intro i hi
      rw [F2 197 (by omega) (by omega) (by omega) (by omega) (by omega), show k - 1 - i = k + 1 - 1 - (i + 1) by omega]
      exact m7 (i + 1) (by omega)
theorem nar_ok {t : Nat} (h : t < 127) : vp_nar .byte (nI t).toInt8.toInt32 = nI t := by
  have : ∀ t : Fin 127, vp_nar .byte (nI t.val).toInt8.toInt32 = nI t.val := by decide +kernel
  exact this ⟨t, h⟩
theorem g2g : gd (1 + 1) 200 200 := gd_of (by decide +kernel)
theorem in_2 {σ : Sg} {a L H : Int32} {l n : Nat} (hn : n < 2 ^ 30) (hl : l ≤ n) (hL : L = nI l) (hH : H = nI n) : (∃ t, l ≤ t ∧ t ≤ n ∧ a = nI t ∧ f_X7_in σ a L H = some 1) ∨ ((a < L ∨ H < a) ∧ f_X7_in σ a L H = some 0) := by
  subst hL hH
  unfold f_X7_in
  by_cases c : a < nI l
  · right; exact ⟨Or.inl c, by rw [if_pos c]⟩
  · by_cases d : nI n < a
    · right; exact ⟨Or.inr d, by rw [if_neg c, if_pos d]⟩
    · have c0 : ¬ a < 0 := fun z => c (Int32.lt_of_lt_of_le z (by rw [L_0]; exact nI_le (Nat.zero_le _) (by omega)))
      obtain ⟨j, hj, rfl⟩ := nI_of c0
      left
      refine ⟨j, ?_, ?_, rfl, by rw [if_neg c, if_neg d]⟩
      · have : ¬ j < l := fun z => c (nI_lt z (by omega))
        omega
      · have : ¬ n < j := fun z => d (nI_lt z hj)
        omega
theorem eq_write (h : Rel N σ) (hN : N < 512) (a1 : Int32) : ∃ r σ1 σ2, f_X6_write σ a1 = some (r, σ1) ∧ f_X7_write σ1 a1 = some (r, σ2) ∧ Rel (N + 1) σ2 := by
  have h0 := h
  obtain ⟨hK, hT, n, np, nw, ki, go, A, m, S, k, K, tl, tf, sl, sg, hR⟩ := h
  have same : Rel (N + 1) σ := Rel_fr h0 (by omega) hN hK (fun _ _ _ _ _ => rfl)
  obtain ⟨len, tx, x1, x2, x3, x4⟩ := hT
  have m1 := hR.2.2.2.2.2.1.1
  rcases in_2 (σ := σ) (a := a1) (L := 32) (H := 126) (l := 32) (n := 126) (by omega) (by omega) rfl rfl with ⟨t, ht1, ht2, rfl, e1⟩ | ⟨o, e1⟩
  · have c1 : ¬ nI t < 32 := nI_nlt (b := 32) ht1 (by omega)
    have c2 : nI t ≤ 126 := nI_le (b := 126) ht2 (by omega)
    by_cases c : len < 200
    · have F : ∀ i, i ≠ 1 → i ≠ 3 → i ≠ 184 → i ≠ 185 → sf (sf (sf (sf σ 3 (0 * 200 + len) (nI t)) 1 2 (nI (len + 1))) 185 len (nI t)) 184 1 (nI (len + 1)) i = σ i := fun i a b c d => by rw [sf_ne c, sf_ne d, sf_ne a, sf_ne b]
      have e184 : sf (sf (sf (sf σ 3 (0 * 200 + len) (nI t)) 1 2 (nI (len + 1))) 185 len (nI t)) 184 1 (nI (len + 1)) 184 = upd (σ 184) 1 (nI (len + 1)) := by rw [sf_row, sf_ne (by omega), sf_ne (by omega), sf_ne (by omega)]
      refine ⟨nI (len + 1), sf (sf σ 3 (0 * 200 + len) (nI t)) 1 2 (nI (len + 1)), sf (sf (sf (sf σ 3 (0 * 200 + len) (nI t)) 1 2 (nI (len + 1))) 185 len (nI t)) 184 1 (nI (len + 1)), ?_, ?_, KC_sf (KC_sf (KC_sf (KC_sf hK (by decide)) (by decide)) (by decide)) (by decide), ⟨len + 1, upN tx len t, ?_, ?_, by omega, ?_⟩, n, np, nw, ki, go, A, m, S, k, K, tl, tf, sl, sg, RX_fr2 hR (by omega) hN (fun i a b c => F i (by omega) (by omega) (by omega) (by omega)) ?_ ?_ ?_ ?_ ?_ ?_ ?_ (ST_fr m1 (fun i a b => F i (by omega) (by omega) (by omega) (by omega))) (fun i a b c d => F i (by omega) (by omega) (by omega) (by omega))⟩
      · unfold f_X6_write f_X1_append
        rw [if_neg c1, if_pos c2, x1, L_200, if_pos (nI_lt c (by omega)), L_0, put_in hK g2g c (by omega), sb, sf_ne (by omega), x1, nI_1, sb, sf_row, upd_self, sb]
      · unfold f_X7_write
        rw [show f_X7_in (sf (sf σ 3 (0 * 200 + len) (nI t)) 1 2 (nI (len + 1))) (nI t) 32 126 = some 1 from e1, sb, if_pos one0, sf_ne (by omega), sf_ne (by omega), x2, L_200, if_pos (fun z => by have := (nI_eq (by omega) (by omega)).mp z; omega), l185, sa_n c (by omega), sb, nar_ok (by omega), sf_ne (by omega), sf_ne (by omega), sf_ne (by omega), x2, nI_1, sb, sf_row, upd_self]
      · rw [sf_ne (by omega), sf_ne (by omega), sf_row, upd_self]
      · rw [e184, upd_self]
      · intro i hi
        have e3 : sf (sf (sf (sf σ 3 (0 * 200 + len) (nI t)) 1 2 (nI (len + 1))) 185 len (nI t)) 184 1 (nI (len + 1)) 3 i = upd (σ 3) (0 * 200 + len) (nI t) i := by rw [sf_ne (by omega), sf_ne (by omega), sf_ne (by omega), sf_row]
        have e5 : sf (sf (sf (sf σ 3 (0 * 200 + len) (nI t)) 1 2 (nI (len + 1))) 185 len (nI t)) 184 1 (nI (len + 1)) 185 i = upd (σ 185) len (nI t) i := by rw [sf_ne (by omega), sf_row, sf_ne (by omega), sf_ne (by omega)]
        rw [e3, e5]
        by_cases d : i = len
        · subst d
          rw [show 0 * 200 + i = i by omega, upd_self, upd_self, upN_at]
          exact ⟨rfl, rfl, by omega, by omega⟩
        · rw [upd_ne (by omega), upd_ne d, upN_ne d]
          exact x4 i (by omega)
      · rw [e184, upd_ne (by omega)]
      · rw [e184, upd_ne (by omega)]
      · rw [e184, upd_ne (by omega)]
      · rw [e184, upd_ne (by omega)]
      · rw [e184, upd_ne (by omega)]
      · rw [e184, upd_ne (by omega)]
      · rw [e184, upd_ne (by omega)]
    · refine ⟨-3, σ, σ, ?_, ?_, same⟩
      · unfold f_X6_write f_X1_append
        rw [if_neg c1, if_pos c2, x1, L_200, if_neg (nI_nlt (by omega) (by omega)), sb]
      · unfold f_X7_write
        rw [e1, sb, if_pos one0, x2, show len = 200 by omega, if_neg (fun z => z rfl)]
  · refine ⟨-1, σ, σ, ?_, ?_, same⟩
    · unfold f_X6_write
      rcases o with z | z
      · rw [if_pos z]
      · by_cases c : a1 < 32
        · rw [if_pos c]
        · rw [if_neg c, if_neg (fun q => Int32.lt_irrefl (Int32.lt_of_lt_of_le z q))]
    · unfold f_X7_write
      rw [e1, sb, if_neg (fun z => z rfl)]
theorem eq_wipe (h : Rel N σ) (hN : N < 512) : ∃ r σ1 σ2, f_X6_wipe σ = some (r, σ1) ∧ f_X7_wipe σ1 = some (r, σ2) ∧ Rel (N + 1) σ2 := by
  obtain ⟨hK, hT, n, np, nw, ki, go, A, m, S, k, K, tl, tf, sl, sg, hR⟩ := h
  obtain ⟨len, tx, x1, x2, x3, x4⟩ := hT
  have m1 := hR.2.2.2.2.2.1.1
  have F : ∀ i, i ≠ 1 → i ≠ 184 → sf (sf σ 1 2 0) 184 1 0 i = σ i := fun i a b => by rw [sf_ne b, sf_ne a]
  have e184 : sf (sf σ 1 2 0) 184 1 0 184 = upd (σ 184) 1 0 := by rw [sf_row, sf_ne (by omega)]
  refine ⟨nI len, sf σ 1 2 0, sf (sf σ 1 2 0) 184 1 0, ?_, ?_, KC_sf (KC_sf hK (by decide)) (by decide), ⟨0, tx, ?_, ?_, by omega, fun i hi => absurd hi (by omega)⟩, n, np, nw, ki, go, A, m, S, k, K, tl, tf, sl, sg, RX_fr2 hR (by omega) hN (fun i a b c => F i (by omega) (by omega)) ?_ ?_ ?_ ?_ ?_ ?_ ?_ (ST_fr m1 (fun i a b => F i (by omega) (by omega))) (fun i a b c d => F i (by omega) (by omega))⟩
  · unfold f_X6_wipe f_X1_empty
    rw [sb, sb, x1]
  · unfold f_X7_wipe
    rw [sb, sf_ne (by omega), x2]
  · rw [sf_ne (by omega), sf_row, upd_self]; rfl
  · rw [e184, upd_self]; rfl
  · rw [e184, upd_ne (by omega)]
  · rw [e184, upd_ne (by omega)]
  · rw [e184, upd_ne (by omega)]
  · rw [e184, upd_ne (by omega)]
  · rw [e184, upd_ne (by omega)]
  · rw [e184, upd_ne (by omega)]
  · rw [e184, upd_ne (by omega)]
/-- other notes -/
theorem RX_nt {M tl' sl' : Nat} {tf' sg' : Nat → Nat × Nat × Nat} (h : RX N σ n np nw ki go A m S k K tl tf sl sg) (hM : N ≤ M) (hM2 : M ≤ 512) (hc : ∀ i, 6 ≤ i → i < 178 → σ' i = σ i) (h16 : σ' 184 16 = σ 184 16) (h18 : σ' 184 18 = σ 184 18) (h21 : σ' 184 21 = σ 184 21) (h22 : σ' 184 22 = σ 184 22) (h23 : σ' 184 23 = σ 184 23) (hm : ∀ i, 185 ≤ i → i ≤ 200 → σ' i = σ i) (q1 : NT σ' 178 201 202 203 tl' tf') (q2 : σ' 184 28 = nI tl') (q3 : tl' ≤ 6) (q4 : ∀ i, i < tl' → (tf' i).1 < n ∧ (tf' i).2.1 < n ∧ (tf' i).2.2 ≤ 72) (w1 : NT σ' 181 204 205 206 sl' sg') (w2 : σ' 184 32 = nI sl') (w3 : sl' ≤ 6) (w4 : ∀ i, i < sl' → (sg' i).1 < np ∧ (sg' i).2.1 < n ∧ (sg' i).2.2 < n) : RX M σ' n np nw ki go A m S k K tl' tf' sl' sg' := by
  obtain ⟨⟨n1, n2, n3, n4⟩, v1, v2, v3, ⟨c1, c2, c3⟩, ⟨m1, m2, m3, m4, m5, m6, m7⟩, -, -⟩ := h
  refine ⟨⟨n1, n2, n3, hM2⟩, OK_mono v1 hM, fun i hi => OK_mono (v2 i hi) hM, fun i hi => OK_mono (v3 i hi) hM, ⟨CY_fr c1 (fun i a b => hc i (by omega) (by omega)), SH_fr (by omega) c2 (fun i a b => hc i (by omega) (by omega)), SH_fr (by omega) c3 (fun i a b => hc i (by omega) (by omega))⟩, ⟨ST_fr m1 (fun i a b => hm i (by omega) (by omega)), ?_, ?_, ?_, MH_fr m5 (hm _ (by omega) (by omega)), ?_, MH_fr m7 (hm _ (by omega) (by omega))⟩, ⟨q1, q2, q3, q4⟩, w1, w2, w3, w4⟩
  · exact ⟨h21.trans m2.1, h22.trans m2.2.1, h23.trans m2.2.2⟩
  · rw [hm 195 (by omega) (by omega)]; exact m3
  · rw [h16]; exact m4
  · rw [h18]; exact m6
theorem ad_ok {s : Nat} {a b c : Int32} (hK : KC σ) (hg : gd (s + 1) 3 18) (hk : kd (s + 1 + 1) ≠ 0) (hk2 : kd s ≠ 0) (hm : σ s 1 = nI m) (h6 : m < 6) : f_X2_add σ s a b c = some (nI (m + 1), sf (sf (sf (sf σ (s + 1 + 1) (m * 3 + 0) a) (s + 1 + 1) (m * 3 + 1) b) (s + 1 + 1) (m * 3 + 2) c) s 1 (nI (m + 1))) := by
  unfold f_X2_add
  rw [hm, L_6, if_pos (nI_lt h6 (by omega)), L_0, L_1, L_2, put_in hK hg (by omega) (by omega), sb, sf_ne (by omega), hm, put_in (KC_sf hK hk) hg (by omega) (by omega), sb, sf_ne (by omega), sf_ne (by omega), hm, put_in (KC_sf (KC_sf hK hk) hk) hg (by omega) (by omega), sb, sf_ne (by omega), sf_ne (by omega), sf_ne (by omega), hm, nI_add, sb, sf_row, upd_self]
theorem NT_add {s r1 r2 r3 a b c : Nat} (h : NT σ s r1 r2 r3 m tf) (d1 : r1 ≠ r2 ∧ r1 ≠ r3 ∧ r2 ≠ r3) (h1 : σ' s 1 = nI (m + 1)) (h2 : σ' (s + 1 + 1) = upd (upd (upd (σ (s + 1 + 1)) (m * 3 + 0) (nI a)) (m * 3 + 1) (nI b)) (m * 3 + 2) (nI c)) (h3 : σ' r1 = upd (σ r1) m (nI a)) (h4 : σ' r2 = upd (σ r2) m (nI b)) (h5 : σ' r3 = upd (σ r3) m (nI c)) : NT σ' s r1 r2 r3 (m + 1) (upN tf m (a, b, c)) := by
  refine ⟨h1, fun i hi => ?_⟩
  rw [h2, h3, h4, h5]
  by_cases e : i = m
  · subst e
    rw [upN_at, upd_ne (by omega), upd_ne (by omega), upd_self, upd_ne (by omega), upd_self, upd_self, upd_self, upd_self, upd_self]
    exact ⟨⟨rfl, rfl, rfl⟩, rfl, rfl, rfl⟩
  · rw [upN_ne e, upd_ne (by omega), upd_ne (by omega), upd_ne (by omega), upd_ne (by omega), upd_ne (by omega), upd_ne (by omega), upd_ne (by omega), upd_ne (by omega), upd_ne (by omega), upd_ne e, upd_ne e, upd_ne e]
    exact h.2 i (by omega)
theorem eq_forget (h : Rel N σ) (hN : N < 512) : ∃ r σ1 σ2, f_X6_forget σ = some (r, σ1) ∧ f_X7_forget σ1 = some (r, σ2) ∧ Rel (N + 1) σ2 := by
  obtain ⟨hK, hT, n, np, nw, ki, go, A, m, S, k, K, tl, tf, sl, sg, hR⟩ := h
  obtain ⟨⟨t1, t2, t3, t4⟩, u1, u2, u3, u4⟩ := hR.2.2.2.2.2.2
  have F : ∀ i, i ≠ 178 → i ≠ 181 → i ≠ 184 → sf (sf (sf (sf σ 178 1 0) 181 1 0) 184 28 0) 184 32 0 i = σ i := fun i a b c => by rw [sf_ne c, sf_ne c, sf_ne b, sf_ne a]
  have e184 : sf (sf (sf (sf σ 178 1 0) 181 1 0) 184 28 0) 184 32 0 184 = upd (upd (σ 184) 28 0) 32 0 := by rw [sf_row, sf_row, sf_ne (by omega), sf_ne (by omega)]
  refine ⟨nI tl + nI sl, sf (sf σ 178 1 0) 181 1 0, sf (sf (sf (sf σ 178 1 0) 181 1 0) 184 28 0) 184 32 0, ?_, ?_, KC_sf (KC_sf (KC_sf (KC_sf hK (by decide)) (by decide)) (by decide)) (by decide), RT_fr hT (F _ (by omega) (by omega) (by omega)) (F _ (by omega) (by omega) (by omega)) (by rw [e184, upd_ne (by omega), upd_ne (by omega)]) (F _ (by omega) (by omega) (by omega)), n, np, nw, ki, go, A, m, S, k, K, 0, tf, 0, sg, RX_nt hR (by omega) hN (fun i a b => F i (by omega) (by omega) (by omega)) ?_ ?_ ?_ ?_ ?_ (fun i a b => F i (by omega) (by omega) (by omega)) ⟨?_, fun i hi => absurd hi (by omega)⟩ ?_ (by omega) (fun i hi => absurd hi (by omega)) ⟨?_, fun i hi => absurd hi (by omega)⟩ ?_ (by omega) (fun i hi => absurd hi (by omega))⟩
  · unfold f_X6_forget f_X2_empty
    rw [sb, sb, sb, sb, t1.1]
    dsimp only
    rw [sf_ne (by omega), u1.1]
  · unfold f_X7_forget
    rw [sb, sb, sf_ne (by omega), sf_ne (by omega), t2, u2]
  · rw [e184, upd_ne (by omega), upd_ne (by omega)]
  · rw [e184, upd_ne (by omega), upd_ne (by omega)]
  · rw [e184, upd_ne (by omega), upd_ne (by omega)]
  · rw [e184, upd_ne (by omega), upd_ne (by omega)]
  · rw [e184, upd_ne (by omega), upd_ne (by omega)]
  · rw [sf_ne (by omega), sf_ne (by omega), sf_ne (by omega), sf_row, upd_self]; rfl
  · rw [e184, upd_ne (by omega), upd_self]; rfl
  · rw [sf_ne (by omega), sf_ne (by omega), sf_row, upd_self]; rfl
  · rw [e184, upd_self]; rfl
theorem sa6 {i k : Nat} {v : Int32} (hl : ln i = 6) (hk : k < 6) : sa σ i (ln i) (nI k) v = some (sf σ i k v) := by rw [hl]; exact sa_n hk (by omega)
theorem eq_told (h : Rel N σ) (hN : N < 512) (a1 a2 a3 : Int32) : ∃ r σ1 σ2, f_X6_told σ a1 a2 a3 = some (r, σ1) ∧ f_X7_told σ1 a1 a2 a3 = some (r, σ2) ∧ Rel (N + 1) σ2 := by
  have h0 := h
  obtain ⟨hK, hT, n, np, nw, ki, go, A, m, S, k, K, tl, tf, sl, sg, hR⟩ := h
  have same : Rel (N + 1) σ := Rel_fr h0 (by omega) hN hK (fun _ _ _ _ _ => rfl)
  obtain ⟨⟨t1, t2, t3, t4⟩, u1, u2, u3, u4⟩ := hR.2.2.2.2.2.2
  have m1 := hR.2.2.2.2.2.1.1
  have hY := hR.2.2.2.2.1.1
  have n8 := hR.2.1.1.n8
  rcases mt_ok m1 n8 a1 with ⟨x, hx, rfl, e1⟩ | ⟨o1, e1⟩
  · rcases mt_ok m1 n8 a2 with ⟨y, hy, rfl, e2⟩ | ⟨o2, e2⟩
    · rcases in_lit (σ := σ) (a := a3) 73 (by omega) (L := 72) (by decide) with ⟨z, hz, rfl, e3⟩ | ⟨o3, e3⟩
      · by_cases c : tl < 6
        · have ad := ad_ok (a := nI x) (b := nI y) (c := nI z) hK g179 (by decide) (by decide) t1.1 c
          generalize hs1 : sf (sf (sf (sf σ (178 + 1 + 1) (tl * 3 + 0) (nI x)) (178 + 1 + 1) (tl * 3 + 1) (nI y)) (178 + 1 + 1) (tl * 3 + 2) (nI z)) 178 1 (nI (tl + 1)) = σ1 at ad
          have f1 : ∀ i, i ≠ 178 → i ≠ 180 → σ1 i = σ i := fun i a b => by rw [← hs1, sf_ne a, sf_ne b, sf_ne b, sf_ne b]
          have g1 : σ1 178 1 = nI (tl + 1) := by rw [← hs1, sf_row, upd_self]
          have g2 : σ1 (178 + 1 + 1) = upd (upd (upd (σ (178 + 1 + 1)) (tl * 3 + 0) (nI x)) (tl * 3 + 1) (nI y)) (tl * 3 + 2) (nI z) := by rw [← hs1, sf_ne (by omega), sf_row, sf_row, sf_row]
          have K1 : KC σ1 := by rw [← hs1]; exact KC_sf (KC_sf (KC_sf (KC_sf hK (by decide)) (by decide)) (by decide)) (by decide)
          have F : ∀ i, i ≠ 178 → i ≠ 180 → i ≠ 184 → i ≠ 201 → i ≠ 202 → i ≠ 203 → sf (sf (sf (sf σ1 201 tl (nI x)) 202 tl (nI y)) 203 tl (nI z)) 184 28 (nI (tl + 1)) i = σ i := fun i a b c d e f => by rw [sf_ne c, sf_ne f, sf_ne e, sf_ne d]; exact f1 i a b
          have e184 : sf (sf (sf (sf σ1 201 tl (nI x)) 202 tl (nI y)) 203 tl (nI z)) 184 28 (nI (tl + 1)) 184 = upd (σ 184) 28 (nI (tl + 1)) := by rw [sf_row, sf_ne (by omega), sf_ne (by omega), sf_ne (by omega), f1 184 (by omega) (by omega)]
          refine ⟨nI (tl + 1), σ1, sf (sf (sf (sf σ1 201 tl (nI x)) 202 tl (nI y)) 203 tl (nI z)) 184 28 (nI (tl + 1)), ?_, ?_, KC_sf (KC_sf (KC_sf (KC_sf K1 (by decide)) (by decide)) (by decide)) (by decide), RT_fr hT (F _ (by omega) (by omega) (by omega) (by omega) (by omega) (by omega)) (F _ (by omega) (by omega) (by omega) (by omega) (by omega) (by omega)) (by rw [e184, upd_ne (by omega)]) (F _ (by omega) (by omega) (by omega) (by omega) (by omega) (by omega)), n, np, nw, ki, go, A, m, S, k, K, tl + 1, upN tf tl (x, y, z), sl, sg, RX_nt hR (by omega) hN (fun i a b => F i (by omega) (by omega) (by omega) (by omega) (by omega) (by omega)) ?_ ?_ ?_ ?_ ?_ (fun i a b => F i (by omega) (by omega) (by omega) (by omega) (by omega) (by omega)) (NT_add t1 ⟨by omega, by omega, by omega⟩ ?_ ?_ ?_ ?_ ?_) ?_ (by omega) (fun i hi => ?_) (NT_fr u1 (F _ (by omega) (by omega) (by omega) (by omega) (by omega) (by omega)) (F _ (by omega) (by omega) (by omega) (by omega) (by omega) (by omega)) (F _ (by omega) (by omega) (by omega) (by omega) (by omega) (by omega)) (F _ (by omega) (by omega) (by omega) (by omega) (by omega) (by omega)) (F _ (by omega) (by omega) (by omega) (by omega) (by omega) (by omega))) ?_ u3 u4⟩
          · unfold f_X6_told
            rw [it_in hY n8 hx, sb, if_neg one0, it_in hY n8 hy, sb, if_neg one0, if_neg (nI_pos (by omega)), L_72, if_pos (nI_le (by omega) (by omega)), ad, sb]
          · have S2 := ST_fr m1 (fun i a b => f1 i (by omega) (by omega))
            have q28 : σ1 184 28 = nI tl := by rw [f1 184 (by omega) (by omega)]; exact t2
            unfold f_X7_told
            rcases mt_ok S2 n8 (nI x) with ⟨_, _, _, q1⟩ | ⟨o, _⟩
            · rcases mt_ok S2 n8 (nI y) with ⟨_, _, _, q2⟩ | ⟨o, _⟩
              · rw [q1, sb, if_neg one0, q2, sb, if_neg one0, show f_X7_in σ1 (nI z) 0 72 = some 1 from e3, sb, if_pos one0, q28, L_6, if_pos (fun z => by have := (nI_eq (by omega) (by omega)).mp z; omega), sa6 l201 c, sb, sf_ne (by omega), q28, sa6 l202 c, sb, sf_ne (by omega), sf_ne (by omega), q28, sa6 l203 c, sb, sf_ne (by omega), sf_ne (by omega), sf_ne (by omega), q28, nI_1, sb, sf_row, upd_self]
              · exfalso; rcases o with z | z
                · exact nI_pos (by omega) z
                · exact nI_ge hy (by omega) z
            · exfalso; rcases o with z | z
              · exact nI_pos (by omega) z
              · exact nI_ge hx (by omega) z
          · rw [e184, upd_ne (by omega)]
          · rw [e184, upd_ne (by omega)]
          · rw [e184, upd_ne (by omega)]
          · rw [e184, upd_ne (by omega)]
          · rw [e184, upd_ne (by omega)]
          · rw [sf_ne (by omega), sf_ne (by omega), sf_ne (by omega), sf_ne (by omega)]; exact g1
          · rw [sf_ne (by omega), sf_ne (by omega), sf_ne (by omega), sf_ne (by omega)]; exact g2
          · rw [sf_ne (by omega), sf_ne (by omega), sf_ne (by omega), sf_row, f1 201 (by omega) (by omega)]
          · rw [sf_ne (by omega), sf_ne (by omega), sf_row, sf_ne (by omega), f1 202 (by omega) (by omega)]
          · rw [sf_ne (by omega), sf_row, sf_ne (by omega), sf_ne (by omega), f1 203 (by omega) (by omega)]
          · rw [e184, upd_self]
          · by_cases d : i = tl
            · subst d; rw [upN_at]; exact ⟨hx, hy, by show z ≤ 72; omega⟩
            · rw [upN_ne d]; exact t4 i (by omega)
          · rw [e184, upd_ne (by omega)]; exact u2
        · have c6 : tl = 6 := by omega
          refine ⟨-3, σ, σ, ?_, ?_, same⟩
          · unfold f_X6_told f_X2_add
            rw [it_in hY n8 hx, sb, if_neg one0, it_in hY n8 hy, sb, if_neg one0, if_neg (nI_pos (by omega)), L_72, if_pos (nI_le (by omega) (by omega)), t1.1, L_6, if_neg (nI_nlt (by omega) (by omega)), sb]
          · unfold f_X7_told
            rw [e1, sb, if_neg one0, e2, sb, if_neg one0, e3, sb, if_pos one0, t2, c6, if_neg (fun z => z rfl)]
      · refine ⟨-1, σ, σ, ?_, ?_, same⟩
        · unfold f_X6_told
          rw [it_in hY n8 hx, sb, if_neg one0, it_in hY n8 hy, sb, if_neg one0]
          by_cases c : a3 < 0
          · rw [if_pos c]
          · rw [if_neg c, if_neg]
            intro z
            exact absurd (Int32.le_trans (o3.resolve_left c) z) (by decide)
        · unfold f_X7_told
          rw [e1, sb, if_neg one0, e2, sb, if_neg one0, e3, sb, if_neg (fun z => z rfl)]
    · refine ⟨-1, σ, σ, ?_, ?_, same⟩
      · unfold f_X6_told
        rw [it_in hY n8 hx, sb, if_neg one0, it_out hY o2, sb, if_pos rfl]
      · unfold f_X7_told
        rw [e1, sb, if_neg one0, e2, sb, if_pos rfl]
  · refine ⟨-1, σ, σ, ?_, ?_, same⟩
    · unfold f_X6_told
      rw [it_out hY o1, sb, if_pos rfl]
    · unfold f_X7_told
      rw [e1, sb, if_pos rfl]
theorem eq_seen (h : Rel N σ) (hN : N < 512) (a1 a2 a3 : Int32) : ∃ r σ1 σ2, f_X6_seen σ a1 a2 a3 = some (r, σ1) ∧ f_X7_seen σ1 a1 a2 a3 = some (r, σ2) ∧ Rel (N + 1) σ2 := by
  have h0 := h
  obtain ⟨hK, hT, n, np, nw, ki, go, A, m, S, k, K, tl, tf, sl, sg, hR⟩ := h
  have same : Rel (N + 1) σ := Rel_fr h0 (by omega) hN hK (fun _ _ _ _ _ => rfl)
  obtain ⟨⟨t1, t2, t3, t4⟩, u1, u2, u3, u4⟩ := hR.2.2.2.2.2.2
  have m1 := hR.2.2.2.2.2.1.1
  have hY := hR.2.2.2.2.1.1
  have n8 := hR.2.1.1.n8
  have p8 := hR.2.1.1.np8
  rcases mp_in m1 p8 a1 with ⟨x, hx, rfl, e1⟩ | ⟨o1, e1⟩
  · rcases mt_ok m1 n8 a2 with ⟨y, hy, rfl, e2⟩ | ⟨o2, e2⟩
    · rcases mt_ok m1 n8 a3 with ⟨z, hz, rfl, e3⟩ | ⟨o3, e3⟩
      · by_cases c : sl < 6
        · have ad := ad_ok (a := nI x) (b := nI y) (c := nI z) hK g182 (by decide) (by decide) u1.1 c
          generalize hs1 : sf (sf (sf (sf σ (181 + 1 + 1) (sl * 3 + 0) (nI x)) (181 + 1 + 1) (sl * 3 + 1) (nI y)) (181 + 1 + 1) (sl * 3 + 2) (nI z)) 181 1 (nI (sl + 1)) = σ1 at ad
          have f1 : ∀ i, i ≠ 181 → i ≠ 183 → σ1 i = σ i := fun i a b => by rw [← hs1, sf_ne a, sf_ne b, sf_ne b, sf_ne b]
          have g1 : σ1 181 1 = nI (sl + 1) := by rw [← hs1, sf_row, upd_self]
          have g2 : σ1 (181 + 1 + 1) = upd (upd (upd (σ (181 + 1 + 1)) (sl * 3 + 0) (nI x)) (sl * 3 + 1) (nI y)) (sl * 3 + 2) (nI z) := by rw [← hs1, sf_ne (by omega), sf_row, sf_row, sf_row]
          have K1 : KC σ1 := by rw [← hs1]; exact KC_sf (KC_sf (KC_sf (KC_sf hK (by decide)) (by decide)) (by decide)) (by decide)
          have F : ∀ i, i ≠ 181 → i ≠ 183 → i ≠ 184 → i ≠ 204 → i ≠ 205 → i ≠ 206 → sf (sf (sf (sf σ1 204 sl (nI x)) 205 sl (nI y)) 206 sl (nI z)) 184 32 (nI (sl + 1)) i = σ i := fun i a b c d e f => by rw [sf_ne c, sf_ne f, sf_ne e, sf_ne d]; exact f1 i a b
          have e184 : sf (sf (sf (sf σ1 204 sl (nI x)) 205 sl (nI y)) 206 sl (nI z)) 184 32 (nI (sl + 1)) 184 = upd (σ 184) 32 (nI (sl + 1)) := by rw [sf_row, sf_ne (by omega), sf_ne (by omega), sf_ne (by omega), f1 184 (by omega) (by omega)]
          refine ⟨nI (sl + 1), σ1, sf (sf (sf (sf σ1 204 sl (nI x)) 205 sl (nI y)) 206 sl (nI z)) 184 32 (nI (sl + 1)), ?_, ?_, KC_sf (KC_sf (KC_sf (KC_sf K1 (by decide)) (by decide)) (by decide)) (by decide), RT_fr hT (F _ (by omega) (by omega) (by omega) (by omega) (by omega) (by omega)) (F _ (by omega) (by omega) (by omega) (by omega) (by omega) (by omega)) (by rw [e184, upd_ne (by omega)]) (F _ (by omega) (by omega) (by omega) (by omega) (by omega) (by omega)), n, np, nw, ki, go, A, m, S, k, K, tl, tf, sl + 1, upN sg sl (x, y, z), RX_nt hR (by omega) hN (fun i a b => F i (by omega) (by omega) (by omega) (by omega) (by omega) (by omega)) ?_ ?_ ?_ ?_ ?_ (fun i a b => F i (by omega) (by omega) (by omega) (by omega) (by omega) (by omega)) (NT_fr t1 (F _ (by omega) (by omega) (by omega) (by omega) (by omega) (by omega)) (F _ (by omega) (by omega) (by omega) (by omega) (by omega) (by omega)) (F _ (by omega) (by omega) (by omega) (by omega) (by omega) (by omega)) (F _ (by omega) (by omega) (by omega) (by omega) (by omega) (by omega)) (F _ (by omega) (by omega) (by omega) (by omega) (by omega) (by omega))) ?_ t3 t4 (NT_add u1 ⟨by omega, by omega, by omega⟩ ?_ ?_ ?_ ?_ ?_) ?_ (by omega) (fun i hi => ?_)⟩
          · unfold f_X6_seen
            rw [ip_in hY p8 hx, sb, if_neg one0, it_in hY n8 hy, sb, if_neg one0, it_in hY n8 hz, sb, if_pos one0, ad, sb]
          · have S2 := ST_fr m1 (fun i a b => f1 i (by omega) (by omega))
            have q28 : σ1 184 32 = nI sl := by rw [f1 184 (by omega) (by omega)]; exact u2
            unfold f_X7_seen
            rcases mp_in S2 p8 (nI x) with ⟨_, _, _, q1⟩ | ⟨o, _⟩
            · rcases mt_ok S2 n8 (nI y) with ⟨_, _, _, q2⟩ | ⟨o, _⟩
              · rcases mt_ok S2 n8 (nI z) with ⟨_, _, _, q3⟩ | ⟨o, _⟩
                · rw [q1, sb, if_neg one0, q2, sb, if_neg one0, q3, sb, if_pos one0, q28, L_6, if_pos (fun z => by have := (nI_eq (by omega) (by omega)).mp z; omega), sa6 l204 c, sb, sf_ne (by omega), q28, sa6 l205 c, sb, sf_ne (by omega), sf_ne (by omega), q28, sa6 l206 c, sb, sf_ne (by omega), sf_ne (by omega), sf_ne (by omega), q28, nI_1, sb, sf_row, upd_self]
                · exfalso; rcases o with w | w
                  · exact nI_pos (by omega) w
                  · exact nI_ge hz (by omega) w
              · exfalso; rcases o with z | z
                · exact nI_pos (by omega) z
                · exact nI_ge hy (by omega) z
            · exfalso; rcases o with z | z
              · exact nI_pos (by omega) z
              · exact nI_ge hx (by omega) z
          · rw [e184, upd_ne (by omega)]
          · rw [e184, upd_ne (by omega)]
          · rw [e184, upd_ne (by omega)]
          · rw [e184, upd_ne (by omega)]
          · rw [e184, upd_ne (by omega)]
          · rw [e184, upd_ne (by omega)]; exact t2
          · rw [sf_ne (by omega), sf_ne (by omega), sf_ne (by omega), sf_ne (by omega)]; exact g1
          · rw [sf_ne (by omega), sf_ne (by omega), sf_ne (by omega), sf_ne (by omega)]; exact g2
          · rw [sf_ne (by omega), sf_ne (by omega), sf_ne (by omega), sf_row, f1 204 (by omega) (by omega)]
          · rw [sf_ne (by omega), sf_ne (by omega), sf_row, sf_ne (by omega), f1 205 (by omega) (by omega)]
          · rw [sf_ne (by omega), sf_row, sf_ne (by omega), sf_ne (by omega), f1 206 (by omega) (by omega)]
          · rw [e184, upd_self]
          · by_cases d : i = sl
            · subst d; rw [upN_at]; exact ⟨hx, hy, hz⟩
            · rw [upN_ne d]; exact u4 i (by omega)
        · have c6 : sl = 6 := by omega
          refine ⟨-3, σ, σ, ?_, ?_, same⟩
          · unfold f_X6_seen f_X2_add
            rw [ip_in hY p8 hx, sb, if_neg one0, it_in hY n8 hy, sb, if_neg one0, it_in hY n8 hz, sb, if_pos one0, u1.1, L_6, if_neg (nI_nlt (by omega) (by omega)), sb]
          · unfold f_X7_seen
            rw [e1, sb, if_neg one0, e2, sb, if_neg one0, e3, sb, if_pos one0, u2, c6, if_neg (fun z => z rfl)]
      · refine ⟨-1, σ, σ, ?_, ?_, same⟩
        · unfold f_X6_seen
          rw [ip_in hY p8 hx, sb, if_neg one0, it_in hY n8 hy, sb, if_neg one0, it_out hY o3, sb, if_neg (fun z => z rfl)]
        · unfold f_X7_seen
          rw [e1, sb, if_neg one0, e2, sb, if_neg one0, e3, sb, if_neg (fun z => z rfl)]
    · refine ⟨-1, σ, σ, ?_, ?_, same⟩
      · unfold f_X6_seen
        rw [ip_in hY p8 hx, sb, if_neg one0, it_out hY o2, sb, if_pos rfl]
      · unfold f_X7_seen
        rw [e1, sb, if_neg one0, e2, sb, if_pos rfl]
  · refine ⟨-1, σ, σ, ?_, ?_, same⟩
    · unfold f_X6_seen
      rw [ip_out hY o1, sb, if_pos rfl]
    · unfold f_X7_seen
      rw [e1, sb, if_pos rfl]
end KB
