/-! Part 34: acts answer alike. -/
section AT
variable {σ : Sg} {N n np nw : Nat} {ki go : Nat → Nat} {A A' : Sn} {m : Nat} {S : Nat → Sn} {k : Nat} {K : Nat → Sn} {tl : Nat} {tf : Nat → Nat × Nat × Nat} {sl : Nat} {sg : Nat → Nat × Nat × Nat}
theorem ln35 : ln (34 + 1) = 8 := by decide
theorem ln149 : ln (148 + 1) = 2 := by decide
theorem kd34 : kd 34 ≠ 0 := by decide
theorem kd148 : kd 148 ≠ 0 := by decide
theorem OK_push {M : Nat} (h : OK N n np nw ki go A) (hS : ∀ i, i < m → OK N n np nw ki go (S i)) (hM : N ≤ M) : ∀ i, i < (if m < 8 then m + 1 else m) → OK M n np nw ki go (pushS A S i)
  | 0, _ => OK_mono h hM
  | i + 1, hi => OK_mono (hS i (by split at hi <;> omega)) hM
/-- an act on both sides, behind what was set aside -/
theorem act_fin (hT : RT σ) (hR : RX N σ n np nw ki go A m S k K tl tf sl sg) (hN : N < 512) (hV : OK (N + 1) n np nw ki go A') {σ1 σ2 σ3 σ4 : Sg} (s1 : ∀ i, (i < 34 ∨ 34 + 2 + 14 * 8 ≤ i) → σ1 i = σ i) (s2 : SH σ1 34 8 n np nw ki go (if m < 8 then m + 1 else m) (pushS A S)) (a1 : KC σ2) (a2 : ∀ i, (i < 6 ∨ 6 + 13 < i) → σ2 i = σ1 i) (a3 : CY σ2 6 n np nw ki go A') (k1 : ∀ i, i ≠ 184 → i ≠ 196 → σ3 i = σ2 i) (k2 : σ3 184 = upd (σ2 184) 16 (nI (if m < 8 then m + 1 else m))) (k3 : MH σ3 196 np nw (if m < 8 then m + 1 else m) (pushS A S)) (b1 : ∀ i, i ≠ 195 → i ≠ 199 → i ≠ 200 → σ4 i = σ3 i) (b2 : MY (σ4 195) np nw A') : Rel (N + 1) σ4 := by
  obtain ⟨⟨n1, n2, n3, n4⟩, v1, v2, v3, ⟨c1, c2, c3⟩, ⟨m1, m2, m3, m4, m5, m6, m7⟩, ⟨t1, t2, t3, t4⟩, u1, u2, u3, u4⟩ := hR
  have F1 : ∀ i, i ≠ 184 → i ≠ 195 → i ≠ 196 → i ≠ 199 → i ≠ 200 → σ4 i = σ2 i := fun i a b c d e => (b1 i b d e).trans (k1 i a c)
  have F2 : ∀ i, (i < 6 ∨ 148 ≤ i) → i ≠ 184 → i ≠ 195 → i ≠ 196 → i ≠ 199 → i ≠ 200 → σ4 i = σ i := fun i h a b c d e => (F1 i a b c d e).trans ((a2 i (by omega)).trans (s1 i (by omega)))
  have e184 : σ4 184 = upd (σ 184) 16 (nI (if m < 8 then m + 1 else m)) := by rw [b1 _ (by omega) (by omega) (by omega), k2, a2 _ (by omega), s1 _ (by omega)]
  refine ⟨KC_m a1 (fun i hi => F1 i (by omega) (by omega) (by omega) (by omega) (by omega)), RT_fr hT (F2 _ (by omega) (by omega) (by omega) (by omega) (by omega) (by omega)) (F2 _ (by omega) (by omega) (by omega) (by omega) (by omega) (by omega)) (by rw [e184, upd_ne (by omega)]) (F2 _ (by omega) (by omega) (by omega) (by omega) (by omega) (by omega)), n, np, nw, ki, go, A', (if m < 8 then m + 1 else m), pushS A S, k, K, tl, tf, sl, sg, ⟨n1, n2, n3, hN⟩, hV, OK_push v1 v2 (by omega), fun i hi => OK_mono (v3 i hi) (by omega), ⟨CY_fr a3 (fun i a b => F1 i (by omega) (by omega) (by omega) (by omega) (by omega)), SH_fr (by omega) s2 (fun i a b => (F1 i (by omega) (by omega) (by omega) (by omega) (by omega)).trans (a2 i (by omega))), SH_fr (by omega) c3 (fun i a b => F2 i (by omega) (by omega) (by omega) (by omega) (by omega) (by omega))⟩, ⟨ST_fr m1 (fun i a b => F2 i (by omega) (by omega) (by omega) (by omega) (by omega) (by omega)), ?_, b2, by rw [e184, upd_self], MH_fr k3 (b1 _ (by omega) (by omega) (by omega)), by rw [e184, upd_ne (by omega)]; exact m6, MH_fr m7 (F2 _ (by omega) (by omega) (by omega) (by omega) (by omega) (by omega))⟩, ⟨NT_fr t1 (F2 _ (by omega) (by omega) (by omega) (by omega) (by omega) (by omega)) (F2 _ (by omega) (by omega) (by omega) (by omega) (by omega) (by omega)) (F2 _ (by omega) (by omega) (by omega) (by omega) (by omega) (by omega)) (F2 _ (by omega) (by omega) (by omega) (by omega) (by omega) (by omega)) (F2 _ (by omega) (by omega) (by omega) (by omega) (by omega) (by omega)), by rw [e184, upd_ne (by omega)]; exact t2, t3, t4⟩, NT_fr u1 (F2 _ (by omega) (by omega) (by omega) (by omega) (by omega) (by omega)) (F2 _ (by omega) (by omega) (by omega) (by omega) (by omega) (by omega)) (F2 _ (by omega) (by omega) (by omega) (by omega) (by omega) (by omega)) (F2 _ (by omega) (by omega) (by omega) (by omega) (by omega) (by omega)) (F2 _ (by omega) (by omega) (by omega) (by omega) (by omega) (by omega)), by rw [e184, upd_ne (by omega)]; exact u2, u3, u4⟩
  unfold FL
  rw [e184, upd_ne (by omega), upd_ne (by omega), upd_ne (by omega)]
  exact m2
/-- what is set aside, on both sides -/
theorem act_in (hK : KC σ) (hR : RX N σ n np nw ki go A m S k K tl tf sl sg) : ∃ σ1, f_X4_setAside σ 34 6 = some σ1 ∧ KC σ1 ∧ (∀ i, (i < 34 ∨ 34 + 2 + 14 * 8 ≤ i) → σ1 i = σ i) ∧ SH σ1 34 8 n np nw ki go (if m < 8 then m + 1 else m) (pushS A S) ∧ CY σ1 6 n np nw ki go A ∧ ∀ σ2 : Sg, (∀ i, (i < 6 ∨ 6 + 13 < i) → σ2 i = σ1 i) → ST σ2 n np nw ki go ∧ ∃ σ3, f_X7_know σ2 = some σ3 ∧ (∀ i, i ≠ 184 → i ≠ 196 → σ3 i = σ2 i) ∧ σ3 184 = upd (σ2 184) 16 (nI (if m < 8 then m + 1 else m)) ∧ MH σ3 196 np nw (if m < 8 then m + 1 else m) (pushS A S) ∧ ST σ3 n np nw ki go ∧ FL σ3 0 0 0 ∧ MY (σ3 195) np nw A := by
  obtain ⟨⟨n1, n2, n3, n4⟩, v1, v2, v3, ⟨c1, c2, c3⟩, ⟨m1, m2, m3, m4, m5, m6, m7⟩, ⟨t1, t2, t3, t4⟩, u1, u2, u3, u4⟩ := hR
  obtain ⟨σ1, e1, K1, f1, S1⟩ := sa_ok hK (Or.inl rfl) ln35 (by omega) kd34 (fun j hj => gYu hj) (OK_VA v1) c1 c2
  refine ⟨σ1, e1, K1, f1, S1, CY_fr c1 (fun i a b => f1 i (by omega)), fun σ2 g => ?_⟩
  have F : ∀ i, 148 ≤ i → σ2 i = σ i := fun i hi => (g i (by omega)).trans (f1 i (by omega))
  have S2 := ST_fr m1 (fun i a b => F i (by omega))
  obtain ⟨σ3, e3, f3, q3, H3⟩ := kn_ok (S := S) n2 v1.1.nw5 c2.2.1 (by rw [F 195 (by omega)]; exact m3) (by rw [F 184 (by omega)]; exact m4) (MH_fr m5 (F 196 (by omega)))
  refine ⟨S2, σ3, e3, f3, q3, H3, ST_fr S2 (fun i a b => f3 i (by omega) (by omega)), ?_, by rw [f3 195 (by omega) (by omega), F 195 (by omega)]; exact m3⟩
  unfold FL
  rw [q3, upd_ne (by omega), upd_ne (by omega), upd_ne (by omega), F 184 (by omega)]
  exact m2
theorem eq_year (h : Rel N σ) (hN : N < 512) : ∃ r σ1 σ2, f_X6_year σ = some (r, σ1) ∧ f_X7_year σ1 = some (r, σ2) ∧ Rel (N + 1) σ2 := by
  obtain ⟨hK, hT, n, np, nw, ki, go, A, m, S, k, K, tl, tf, sl, sg, hR⟩ := h
  have hV := OK_VA hR.2.1
  have hye := hR.2.1.2.2.2
  have hho := hR.2.1.2.2.1
  obtain ⟨σ1, e1, K1, f1, S1, Y1, H⟩ := act_in hK hR
  obtain ⟨σ2, e2, K2, f2, Y2⟩ := cy_yr K1 gY6 hV Y1
  obtain ⟨-, σ3, e3, f3, q3, H3, S3, L3, M3⟩ := H σ2 f2
  obtain ⟨σ4, e4, f4, M4⟩ := my_yr (Or.inl rfl) hV hR.1.2.1 S3 M3
  have V2 := VA_yr hV (by omega)
  refine ⟨nI (cn (yP (Sn.to A) (Sn.ag A)) np), σ2, σ4, ?_, ?_, act_fin (A' := yrA np A) hT hR hN ⟨V2.1, V2.2, hho, Nat.succ_le_succ hye⟩ f1 S1 K2 f2 Y2 f3 q3 H3 (fun i a b c => f4 i a) M4⟩
  · unfold f_X6_year
    rw [e1, sb, e2, sb]
  · unfold f_X7_year
    rw [e3, sb, e4, sb]
theorem eq_pass (h : Rel N σ) (hN : N < 512) (a1 : Int32) : ∃ r σ1 σ2, f_X6_pass σ a1 = some (r, σ1) ∧ f_X7_pass σ1 a1 = some (r, σ2) ∧ Rel (N + 1) σ2 := by
  have h0 := h
  obtain ⟨hK, hT, n, np, nw, ki, go, A, m, S, k, K, tl, tf, sl, sg, hR⟩ := h
  have same : Rel (N + 1) σ := Rel_fr h0 (by omega) hN hK (fun _ _ _ _ _ => rfl)
  have hV := OK_VA hR.2.1
  have hye := hR.2.1.2.2.2
  have hho := hR.2.1.2.2.1
  have hY := hR.2.2.2.2.1.1
  have hM := MY_c hR.2.2.2.2.2.1.2.2.1
  have hin : f_X7_in σ a1 1 20 = _ := rfl
  rcases in_1 (σ := σ) (a := a1) (L := 20) (n := 20) (by omega) rfl with ⟨t, ht1, ht2, rfl, e2⟩ | ⟨o2, e2⟩
  · by_cases c : Sn.ho A + t ≤ 999
    · obtain ⟨σ1, e1, K1, f1, S1, Y1, H⟩ := act_in hK hR
      obtain ⟨σ2, g2, K2, f2, Y2⟩ := cy_hr K1 gY6 hV Y1 (k := t) (by omega) (by omega)
      obtain ⟨-, σ3, e3, f3, q3, H3, S3, L3, M3⟩ := H σ2 f2
      obtain ⟨σ4, e4, f4, M4⟩ := lp_inv (b := fun st => f_X7_pass_b1 (nI t) st.1 st.2) (s0 := ((0 : Int32), σ3)) (Post := fun (τ : Sg) => (∀ i, i ≠ 195 → i ≠ 200 → τ i = σ3 i) ∧ MY (τ 195) np nw (hrA n np ki go t A)) (fun j (s : Int32 × Sg) => s.1 = nI j ∧ (∀ i, i ≠ 195 → i ≠ 200 → s.2 i = σ3 i) ∧ MY (s.2 195) np nw (hrA n np ki go j A)) t (by omega) ⟨rfl, fun _ _ _ => rfl, by rw [hrA_0]; exact M3⟩ (by
        rintro j ⟨x, τ⟩ hj ⟨e, ft, Mt⟩
        dsimp only at e ft Mt
        subst e
        obtain ⟨τ', g1, g3, g4⟩ := my_hr (Or.inl rfl) (VA_hr hV (k := j) (by omega)) hR.1.2.1 (ST_fr S3 (fun i a b => ft i (by omega) (by omega))) (FL_fr L3 (ft _ (by omega) (by omega))) Mt
        show ∃ s', f_X7_pass_b1 (nI t) (nI j) τ = _ ∧ _
        unfold f_X7_pass_b1
        rw [if_neg (nI_ge hj (by omega)), g1, sb, nI_1]
        exact ⟨_, rfl, rfl, fun i a b => (g3 i a b).trans (ft i a b), by rw [← hrA_s]; exact g4⟩) (by
        rintro ⟨x, τ⟩ ⟨e, ft, Mt⟩
        dsimp only at e ft Mt
        subst e
        show ∃ s', f_X7_pass_b1 (nI t) (nI t) τ = _ ∧ _
        unfold f_X7_pass_b1
        rw [if_pos (nI_le (Nat.le_refl _) (by omega))]
        exact ⟨_, rfl, ft, Mt⟩)
      have V2 := VA_hr hV (k := t) (by omega)
      refine ⟨nI (Sn.ho A + t), σ2, σ4, ?_, ?_, act_fin (A' := hrA n np ki go t A) hT hR hN ⟨V2.1, V2.2, c, Nat.le_succ_of_le hye⟩ f1 S1 K2 f2 Y2 f3 q3 H3 (fun i a b c => f4 i a c) M4⟩
      · unfold f_X6_pass f_X5_hour
        rw [L_1, if_neg (nI_nlt (by omega) (by omega)), L_20, if_pos (nI_le (by omega) (by omega)), hY.1.2.2.1, sb, nI_add, L_999, if_pos (nI_le (by omega) (by omega)), e1, sb, g2, sb, Y2.1.2.2.1, sb]
        rfl
      · unfold f_X7_pass
        have q5 : σ2 195 5 = nI (Sn.ho A) := by rw [f2 _ (by omega), f1 _ (by omega)]; exact hM.2.2.2.2.2.1
        rw [show f_X7_in σ2 (nI t) 1 20 = some 1 from e2, sb, if_pos one0, L_5, l195, ga_n (by omega) (by omega), q5, sb, nI_add, L_999, if_pos (nI_le (by omega) (by omega)), e3, sb, e4, sb]
        unfold f_X7_pass_k1
        rw [L_5, l195, ga_n (by omega) (by omega), show σ4 195 5 = nI (Sn.ho A + t) from (MY_c M4).2.2.2.2.2.1, sb]
    · refine ⟨-2, σ, σ, ?_, ?_, same⟩
      · unfold f_X6_pass f_X5_hour
        rw [L_1, if_neg (nI_nlt (by omega) (by omega)), L_20, if_pos (nI_le (by omega) (by omega)), hY.1.2.2.1, sb, nI_add, L_999, if_neg (nI_ge (by omega) (by omega))]
      · unfold f_X7_pass
        rw [e2, sb, if_pos one0, L_5, l195, ga_n (by omega) (by omega), hM.2.2.2.2.2.1, sb, nI_add, L_999, if_neg (nI_ge (by omega) (by omega))]
  · refine ⟨-1, σ, σ, ?_, ?_, same⟩
    · unfold f_X6_pass
      rcases o2 with z | z
      · rw [if_pos z]
      · by_cases c : a1 < 1
        · rw [if_pos c]
        · rw [if_neg c, if_neg]
          rw [L_20]
          intro q
          exact Int32.lt_irrefl (Int32.lt_of_lt_of_le z q)
    · unfold f_X7_pass
      rw [e2, sb, if_neg (fun z => z rfl)]
theorem eq_lays (h : Rel N σ) (hN : N < 512) (a1 a2 a3 : Int32) : ∃ r σ1 σ2, f_X6_lays σ a1 a2 a3 = some (r, σ1) ∧ f_X7_lays σ1 a1 a2 a3 = some (r, σ2) ∧ Rel (N + 1) σ2 := by
  have h0 := h
  obtain ⟨hK, hT, n, np, nw, ki, go, A, m, S, k, K, tl, tf, sl, sg, hR⟩ := h
  have same : Rel (N + 1) σ := Rel_fr h0 (by omega) hN hK (fun _ _ _ _ _ => rfl)
  have hV := OK_VA hR.2.1
  have hye := hR.2.1.2.2.2
  have hho := hR.2.1.2.2.1
  have hY := hR.2.2.2.2.1.1
  have m1 := hR.2.2.2.2.2.1.1
  have h8 := hV.1.n8
  rcases mt_ok m1 h8 a1 with ⟨x, hx, rfl, e1⟩ | ⟨o1, e1⟩
  · rcases mt_ok m1 h8 a2 with ⟨y, hy, rfl, e2⟩ | ⟨o2, e2⟩
    · by_cases e : x = y
      · subst e
        refine ⟨-1, σ, σ, ?_, ?_, same⟩
        · unfold f_X6_lays f_X5_areTwoTowns
          rw [it_in hY h8 hx, sb, if_neg one0, sb, if_neg one0, if_pos rfl, sb, if_pos rfl]
        · unfold f_X7_lays
          rw [e1, sb, if_neg one0, sb, if_neg one0, if_pos rfl]
      · have e' : ¬ nI x = nI y := fun z => e ((nI_eq (by omega) (by omega)).mp z)
        rcases in_lit (σ := σ) (a := a3) 10 (by omega) (L := 9) (by decide) with ⟨l, hl, rfl, e3⟩ | ⟨o3, e3⟩
        · obtain ⟨σ1, g1, K1, f1, S1, Y1, H⟩ := act_in hK hR
          obtain ⟨σ2, g2, K2, f2, Y2⟩ := cy_ly K1 gY6 hV Y1 hx hy (l := l) (by omega)
          obtain ⟨S2, σ3, g3, f3, q3, H3, S3, L3, M3⟩ := H σ2 f2
          obtain ⟨σ4, g4, f4, M4⟩ := my_ly (l := l) (Or.inl rfl) hV hR.1.2.1 M3 (a := x) (b := y) (by omega) (by omega)
          have V2 := VA_ly hV hx hy (l := l) (by omega)
          refine ⟨nI (Sn.mi A x y), σ2, σ4, ?_, ?_, act_fin (A' := lyA x y l A) hT hR hN ⟨V2.1, V2.2, hho, Nat.le_succ_of_le hye⟩ f1 S1 K2 f2 Y2 f3 q3 H3 (fun i a b c => f4 i a) M4⟩
          · unfold f_X6_lays f_X5_areTwoTowns
            rw [it_in hY h8 hx, sb, if_neg one0, it_in hY h8 hy, sb, if_neg one0, if_neg e', sb, if_neg one0, if_neg (nI_pos (by omega)), L_9, if_pos (nI_le (by omega) (by omega)), g1, sb, btw_ok K1 gY6.2.2.1.1 Y1.2.1 (by omega) (by omega), sb, g2, sb]
          · unfold f_X7_lays
            rcases mt_ok S2 h8 (nI x) with ⟨_, _, _, q1⟩ | ⟨o, _⟩
            · rcases mt_ok S2 h8 (nI y) with ⟨_, _, _, q2⟩ | ⟨o, _⟩
              · rw [q1, sb, if_neg one0, q2, sb, if_neg one0, if_neg e', show f_X7_in σ2 (nI l) 0 9 = some 1 from e3, sb, if_pos one0, g3, sb, L_7, L_8, nI_mul, nI_add, nI_add, l195, ga_n (by omega) (by omega), (MY_c M3).1 x y (by omega) (by omega), sb, g4, sb]
              · exfalso; rcases o with z | z
                · exact nI_pos (by omega) z
                · exact nI_ge hy (by omega) z
            · exfalso; rcases o with z | z
              · exact nI_pos (by omega) z
              · exact nI_ge hx (by omega) z
        · refine ⟨-1, σ, σ, ?_, ?_, same⟩
          · unfold f_X6_lays f_X5_areTwoTowns
            rw [it_in hY h8 hx, sb, if_neg one0, it_in hY h8 hy, sb, if_neg one0, if_neg e', sb, if_neg one0]
            by_cases c : a3 < 0
            · rw [if_pos c]
            · rw [if_neg c, if_neg]
              intro z
              exact absurd (Int32.le_trans (o3.resolve_left c) z) (by decide)
          · unfold f_X7_lays
            rw [e1, sb, if_neg one0, e2, sb, if_neg one0, if_neg e', e3, sb, if_neg (fun z => z rfl)]
    · refine ⟨-1, σ, σ, ?_, ?_, same⟩
      · unfold f_X6_lays f_X5_areTwoTowns
        rw [it_in hY h8 hx, sb, if_neg one0, it_out hY o2, sb, if_pos rfl, sb, if_pos rfl]
      · unfold f_X7_lays
        rw [e1, sb, if_neg one0, e2, sb, if_pos rfl]
  · refine ⟨-1, σ, σ, ?_, ?_, same⟩
    · unfold f_X6_lays f_X5_areTwoTowns
      rw [it_out hY o1, sb, if_pos rfl, sb, if_pos rfl]
    · unfold f_X7_lays
      rw [e1, sb, if_pos rfl]
theorem pa_lp (hnp : np ≤ 6) (h : MY (σ 195) np nw A) {p : Nat} (hp : p < np) (e : Sn.to A p ≠ none) (hu : ∀ t u, Sn.ar A p t = some u → u < 8) : lp (fun st => f_X7_paint_b1 (nI p) σ st.1 st.2) FU ((0 : Int32), (0 : Int32)) = some (nI (cn (fun t => (Sn.ar A p t).isSome) 8)) := by
  refine lp_for0 (fun j => (nI (cn (fun t => (Sn.ar A p t).isSome) j), nI j)) 8 (by omega) ?_ ?_ rfl
  · intro j hj
    show f_X7_paint_b1 (nI p) σ (nI _) (nI j) = _
    unfold f_X7_paint_b1
    rw [L_8, if_neg (nI_ge hj (by omega)), L_83, nI_mul, nI_add, nI_add, l195, ga_n (by omega) (by omega), ((MY_c h).2.2.2.1 p hp e j hj).1, sb, nI_1, nI_1, L_0, nI_add]
    dsimp only [cn]
    by_cases o : Sn.ar A p j = none
    · rw [if_neg (fun z => z (by rw [o]; exact oI_n)), if_neg (by rw [o]; decide)]
    · obtain ⟨u, hu'⟩ := Option.ne_none_iff_exists'.mp o
      have := hu j u hu'
      rw [if_pos (by rw [hu']; exact oI_ne (by omega)), if_pos (by rw [hu']; rfl)]
  · show f_X7_paint_b1 (nI p) σ (nI _) (nI 8) = _
    unfold f_X7_paint_b1
    rw [L_8, if_pos (nI_le (Nat.le_refl _) (by omega))]
theorem eq_paint (h : Rel N σ) (hN : N < 512) (a1 : Int32) : ∃ r σ1 σ2, f_X6_paint σ a1 = some (r, σ1) ∧ f_X7_paint σ1 a1 = some (r, σ2) ∧ Rel (N + 1) σ2 := by
  have h0 := h
  obtain ⟨hK, hT, n, np, nw, ki, go, A, m, S, k, K, tl, tf, sl, sg, hR⟩ := h
  have same : Rel (N + 1) σ := Rel_fr h0 (by omega) hN hK (fun _ _ _ _ _ => rfl)
  have hV := OK_VA hR.2.1
  have hye := hR.2.1.2.2.2
  have hho := hR.2.1.2.2.1
  have hY := hR.2.2.2.2.1.1
  have m1 := hR.2.2.2.2.2.1.1
  have hM := MY_c hR.2.2.2.2.2.1.2.2.1
  have h8 := hV.1.np8
  have n8 := hV.1.n8
  have n6 := hR.1.2.1
  rcases mp_in m1 h8 a1 with ⟨p, hp, rfl, e1⟩ | ⟨o1, e1⟩
  · cases e : Sn.to A p with
    | none =>
      refine ⟨-2, σ, σ, ?_, ?_, same⟩
      · unfold f_X6_paint
        rw [ip_in hY h8 hp, sb, if_pos one0, ir_ok hK gY6 hV.1 hY hp, sb, b32_t e, if_neg one0]
      · unfold f_X7_paint
        rw [e1, sb, if_pos one0, L_71, nI_add, l195, ga_n (by omega) (by omega), hM.2.1 p hp, sb, e, if_neg (fun z => z oI_n)]
    | some x =>
      have xl := hV.1.toL e
      obtain ⟨σ1, g1, K1, f1, S1, Y1, H⟩ := act_in hK hR
      obtain ⟨σ2, g2, K2, f2, Y2⟩ := cy_pa K1 gY6 hV Y1 hp e
      obtain ⟨S2, σ3, g3, f3, q3, H3, S3, L3, M3⟩ := H σ2 f2
      obtain ⟨σm, σ4, gm, g4, f4, M4⟩ := my_pa (Or.inl rfl) hV n6 S3 M3 hp e
      have V2 := VA_pa hV e
      have up : Sn.ar (paA n p x A) p = pr (Sn.mi A) n x := if_pos rfl
      refine ⟨nI (cn (fun t => (pr (Sn.mi A) n x t).isSome) 8), σ2, σ4, ?_, ?_, act_fin (A' := paA n p x A) hT hR hN ⟨V2.1, V2.2, hho, Nat.le_succ_of_le hye⟩ f1 S1 K2 f2 Y2 f3 q3 H3 (fun i a b c => f4 i a b) M4⟩
      · unfold f_X6_paint
        rw [ip_in hY h8 hp, sb, if_pos one0, ir_ok hK gY6 hV.1 hY hp, sb, b32_f (by rw [e]; exact fun z => by cases z), if_pos rfl, g1, sb, g2, sb]
      · unfold f_X7_paint
        rcases mp_in S2 h8 (nI p) with ⟨_, _, _, q1⟩ | ⟨o, _⟩
        · have q5 : σ2 195 (71 + p) = oI (Sn.to A p) := by rw [f2 _ (by omega), f1 _ (by omega)]; exact hM.2.1 p hp
          have lp := pa_lp n6 M4 hp (show Sn.to A p ≠ none by rw [e]; exact fun z => by cases z) (fun t u hu => by have := V2.1.arL hu; omega)
          rw [up] at lp
          rw [q1, sb, if_pos one0, L_71, nI_add, l195, ga_n (by omega) (by omega), q5, sb, e, if_pos (oI_ne (by omega)), g3, sb, gm, sb, g4, sb, lp, sb]
          rfl
        · exfalso; rcases o with z | z
          · exact nI_pos (by omega) z
          · exact nI_ge hp (by omega) z
  · refine ⟨-1, σ, σ, ?_, ?_, same⟩
    · unfold f_X6_paint
      rw [ip_out hY o1, sb, if_neg (fun z => z rfl)]
    · unfold f_X7_paint
      rw [e1, sb, if_neg (fun z => z rfl)]
theorem eq_retire (h : Rel N σ) (hN : N < 512) (a1 : Int32) : ∃ r σ1 σ2, f_X6_retire σ a1 = some (r, σ1) ∧ f_X7_retire σ1 a1 = some (r, σ2) ∧ Rel (N + 1) σ2 := by
  have h0 := h
  obtain ⟨hK, hT, n, np, nw, ki, go, A, m, S, k, K, tl, tf, sl, sg, hR⟩ := h
  have same : Rel (N + 1) σ := Rel_fr h0 (by omega) hN hK (fun _ _ _ _ _ => rfl)
  have hV := OK_VA hR.2.1
  have hye := hR.2.1.2.2.2
  have hho := hR.2.1.2.2.1
  have hY := hR.2.2.2.2.1.1
  have m1 := hR.2.2.2.2.2.1.1
  have hM := MY_c hR.2.2.2.2.2.1.2.2.1
  have h8 := hV.1.np8
  have n8 := hV.1.n8
  have n6 := hR.1.2.1
  rcases mp_in m1 h8 a1 with ⟨p, hp, rfl, e1⟩ | ⟨o1, e1⟩
  · cases e : Sn.to A p with
    | none =>
      refine ⟨-2, σ, σ, ?_, ?_, same⟩
      · unfold f_X6_retire
        rw [ip_in hY h8 hp, sb, if_pos one0, ir_ok hK gY6 hV.1 hY hp, sb, b32_t e, if_neg one0]
      · unfold f_X7_retire
        rw [e1, sb, if_pos one0, L_71, nI_add, l195, ga_n (by omega) (by omega), hM.2.1 p hp, sb, e, if_neg (fun z => z oI_n)]
    | some x =>
      have xl := hV.1.toL e
      obtain ⟨σ1, g1, K1, f1, S1, Y1, H⟩ := act_in hK hR
      obtain ⟨σ2, g2, K2, f2, Y2⟩ := cy_rt K1 gY6 hV Y1 hp
      obtain ⟨S2, σ3, g3, f3, q3, H3, S3, L3, M3⟩ := H σ2 f2
      have M4 := my_rt (Or.inl rfl) hV n6 M3 hp
      have V2 := VA_rt hV (p := p)
      refine ⟨nI x, σ2, sf σ3 195 (71 + p) (-4), ?_, ?_, act_fin (A' := rtA p A) hT hR hN ⟨V2.1, V2.2, hho, Nat.le_succ_of_le hye⟩ f1 S1 K2 f2 Y2 f3 q3 H3 (fun i a b c => sf_ne a) M4⟩
      · unfold f_X6_retire f_X5_townOf
        rw [ip_in hY h8 hp, sb, if_pos one0, ir_ok hK gY6 hV.1 hY hp, sb, b32_f (by rw [e]; exact fun z => by cases z), if_pos rfl, po1 hK gY6 hY h8 hp, sb, sb, g1, sb, g2, sb, e]
        rfl
      · unfold f_X7_retire
        rcases mp_in S2 h8 (nI p) with ⟨_, _, _, q1⟩ | ⟨o, _⟩
        · have q5 : σ2 195 (71 + p) = oI (Sn.to A p) := by rw [f2 _ (by omega), f1 _ (by omega)]; exact hM.2.1 p hp
          rw [q1, sb, if_pos one0, L_71, nI_add, l195, ga_n (by omega) (by omega), q5, sb, e, if_pos (oI_ne (by omega)), g3, sb, sa_n (by omega) (by omega), sb]
          rfl
        · exfalso; rcases o with z | z
          · exact nI_pos (by omega) z
          · exact nI_ge hp (by omega) z
  · refine ⟨-1, σ, σ, ?_, ?_, same⟩
    · unfold f_X6_retire
      rw [ip_out hY o1, sb, if_neg (fun z => z rfl)]
    · unfold f_X7_retire
      rw [e1, sb, if_neg (fun z => z rfl)]
theorem eq_move (h : Rel N σ) (hN : N < 512) (a1 a2 : Int32) : ∃ r σ1 σ2, f_X6_move σ a1 a2 = some (r, σ1) ∧ f_X7_move σ1 a1 a2 = some (r, σ2) ∧ Rel (N + 1) σ2 := by
  have h0 := h
  obtain ⟨hK, hT, n, np, nw, ki, go, A, m, S, k, K, tl, tf, sl, sg, hR⟩ := h
  have same : Rel (N + 1) σ := Rel_fr h0 (by omega) hN hK (fun _ _ _ _ _ => rfl)
  have hV := OK_VA hR.2.1
  have hye := hR.2.1.2.2.2
  have hho := hR.2.1.2.2.1
  have hY := hR.2.2.2.2.1.1
  have m1 := hR.2.2.2.2.2.1.1
  have hM := MY_c hR.2.2.2.2.2.1.2.2.1
  have h8 := hV.1.np8
  have n8 := hV.1.n8
  have n6 := hR.1.2.1
  rcases mp_in m1 h8 a1 with ⟨p, hp, rfl, e1⟩ | ⟨o1, e1⟩
  · rcases mt_ok m1 n8 a2 with ⟨y, hy, rfl, e2⟩ | ⟨o2, e2⟩
    · cases e : Sn.to A p with
      | none =>
        refine ⟨-2, σ, σ, ?_, ?_, same⟩
        · unfold f_X6_move f_X5_townOf
          rw [ip_in hY h8 hp, sb, if_neg one0, it_in hY n8 hy, sb, if_pos one0, po1 hK gY6 hY h8 hp, sb, sb, ir_ok hK gY6 hV.1 hY hp, sb, b32_t e, if_pos one0]
        · unfold f_X7_move
          rw [e1, sb, if_neg one0, e2, sb, if_pos one0, L_71, nI_add, l195, ga_n (by omega) (by omega), hM.2.1 p hp, sb, e, if_pos oI_n]
      | some x =>
        have xl := hV.1.toL e
        have bf : b32 (Sn.to A p = none) = 0 := b32_f (by rw [e]; exact fun z => by cases z)
        by_cases d : x = y
        · subst d
          refine ⟨-2, σ, σ, ?_, ?_, same⟩
          · unfold f_X6_move f_X5_townOf
            rw [ip_in hY h8 hp, sb, if_neg one0, it_in hY n8 hy, sb, if_pos one0, po1 hK gY6 hY h8 hp, sb, sb, ir_ok hK gY6 hV.1 hY hp, sb, bf, if_neg (fun z => z rfl), e, if_neg (fun z => z rfl)]
          · unfold f_X7_move
            rw [e1, sb, if_neg one0, e2, sb, if_pos one0, L_71, nI_add, l195, ga_n (by omega) (by omega), hM.2.1 p hp, sb, e, if_neg (oI_ne (by omega)), if_neg (fun z => z rfl)]
        · have d' : ¬ oI (some x) = nI y := fun z => d ((nI_eq (by omega) (by omega)).mp z)
          obtain ⟨σ1, g1, K1, f1, S1, Y1, H⟩ := act_in hK hR
          obtain ⟨σ2, g2, K2, f2, Y2⟩ := cy_mv (x := y) K1 gY6 hV Y1 hp
          obtain ⟨S2, σ3, g3, f3, q3, H3, S3, L3, M3⟩ := H σ2 f2
          have ne : Sn.to A p ≠ none := by rw [e]; exact fun z => by cases z
          have M4 := my_mv (x := y) (Or.inl rfl) hV n6 M3 hp ne
          have V2 := VA_mv hV hy ne
          refine ⟨oI (some x), σ2, sf σ3 195 (71 + p) (nI y), ?_, ?_, act_fin (A' := mvA p y A) hT hR hN ⟨V2.1, V2.2, hho, Nat.le_succ_of_le hye⟩ f1 S1 K2 f2 Y2 f3 q3 H3 (fun i a b c => sf_ne a) M4⟩
          · unfold f_X6_move f_X5_townOf
            rw [ip_in hY h8 hp, sb, if_neg one0, it_in hY n8 hy, sb, if_pos one0, po1 hK gY6 hY h8 hp, sb, sb, ir_ok hK gY6 hV.1 hY hp, sb, bf, if_neg (fun z => z rfl), e, if_pos d', g1, sb, g2, sb]
          · unfold f_X7_move
            rcases mp_in S2 h8 (nI p) with ⟨_, _, _, q1⟩ | ⟨o, _⟩
            · rcases mt_ok S2 n8 (nI y) with ⟨_, _, _, q2⟩ | ⟨o, _⟩
              · have q5 : σ2 195 (71 + p) = oI (Sn.to A p) := by rw [f2 _ (by omega), f1 _ (by omega)]; exact hM.2.1 p hp
                rw [q1, sb, if_neg one0, q2, sb, if_pos one0, L_71, nI_add, l195, ga_n (by omega) (by omega), q5, sb, e, if_neg (oI_ne (by omega)), if_pos d', g3, sb, sa_n (by omega) (by omega), sb]
              · exfalso; rcases o with z | z
                · exact nI_pos (by omega) z
                · exact nI_ge hy (by omega) z
            · exfalso; rcases o with z | z
              · exact nI_pos (by omega) z
              · exact nI_ge hp (by omega) z
    · refine ⟨-1, σ, σ, ?_, ?_, same⟩
      · unfold f_X6_move
        rw [ip_in hY h8 hp, sb, if_neg one0, it_out hY o2, sb, if_neg (fun z => z rfl)]
      · unfold f_X7_move
        rw [e1, sb, if_neg one0, e2, sb, if_neg (fun z => z rfl)]
  · refine ⟨-1, σ, σ, ?_, ?_, same⟩
    · unfold f_X6_move
      rw [ip_out hY o1, sb, if_pos rfl]
    · unfold f_X7_move
      rw [e1, sb, if_pos rfl]
theorem un_lp {τ0 : Sg} {j0 : Nat} (hj0 : j0 < 8) (h16 : τ0 184 16 = nI j0) : ∃ τ, lp (fun st => f_X7_undo_b1 st.1 st.2) FU ((0 : Int32), τ0) = some τ ∧ ((∀ i, i ≠ 195 → τ i = τ0 i) ∧ ∀ k, k < 179 → τ 195 k = τ0 196 (179 * j0 + k)) := by
  refine lp_inv (fun j (s : Int32 × Sg) => s.1 = nI j ∧ (∀ i, i ≠ 195 → s.2 i = τ0 i) ∧ ∀ k, k < j → s.2 195 k = τ0 196 (179 * j0 + k)) 179 (by omega) ⟨rfl, fun _ _ => rfl, fun k hk => absurd hk (by omega)⟩ ?_ ?_
  · rintro j ⟨x, τ⟩ hj ⟨e, f1, f3⟩
    dsimp only at e f1 f3
    subst e
    show ∃ s', f_X7_undo_b1 (nI j) τ = _ ∧ _
    unfold f_X7_undo_b1
    rw [L_179, if_neg (nI_ge hj (by omega)), f1 184 (by omega), h16, nI_mul, nI_add, l196, ga_n (by omega) (by omega), sb, l195, sa_n (by omega) (by omega), sb, nI_1]
    refine ⟨_, rfl, rfl, fun i hi => (sf_ne hi).trans (f1 i hi), fun k hk => ?_⟩
    show sf τ 195 _ _ 195 _ = _
    rw [sf_row]
    by_cases c : k = j
    · subst c; rw [upd_self, f1 196 (by omega)]
    · rw [upd_ne c]; exact f3 k (by omega)
  · rintro ⟨x, τ⟩ ⟨e, f1, f3⟩
    dsimp only at e f1 f3
    subst e
    show ∃ s', f_X7_undo_b1 (nI 179) τ = _ ∧ _
    unfold f_X7_undo_b1
    rw [L_179, if_pos (nI_le (Nat.le_refl _) (by omega))]
    exact ⟨_, rfl, f1, f3⟩
theorem bk_lp {τ0 : Sg} {j0 : Nat} (hj0 : j0 < 2) (h18 : τ0 184 18 = nI j0) : ∃ τ, lp (fun st => f_X7_back_b1 st.1 st.2) FU ((0 : Int32), τ0) = some τ ∧ ((∀ i, i ≠ 195 → τ i = τ0 i) ∧ ∀ k, k < 179 → τ 195 k = τ0 197 (179 * j0 + k)) := by
  refine lp_inv (fun j (s : Int32 × Sg) => s.1 = nI j ∧ (∀ i, i ≠ 195 → s.2 i = τ0 i) ∧ ∀ k, k < j → s.2 195 k = τ0 197 (179 * j0 + k)) 179 (by omega) ⟨rfl, fun _ _ => rfl, fun k hk => absurd hk (by omega)⟩ ?_ ?_
  · rintro j ⟨x, τ⟩ hj ⟨e, f1, f3⟩
    dsimp only at e f1 f3
    subst e
    show ∃ s', f_X7_back_b1 (nI j) τ = _ ∧ _
    unfold f_X7_back_b1
    rw [L_179, if_neg (nI_ge hj (by omega)), f1 184 (by omega), h18, nI_mul, nI_add, show ln 197 = 358 by decide, ga_n (by omega) (by omega), sb, l195, sa_n (by omega) (by omega), sb, nI_1]
    refine ⟨_, rfl, rfl, fun i hi => (sf_ne hi).trans (f1 i hi), fun k hk => ?_⟩
    show sf τ 195 _ _ 195 _ = _
    rw [sf_row]
    by_cases c : k = j
    · subst c; rw [upd_self, f1 197 (by omega)]
    · rw [upd_ne c]; exact f3 k (by omega)
  · rintro ⟨x, τ⟩ ⟨e, f1, f3⟩
    dsimp only at e f1 f3
    subst e
    show ∃ s', f_X7_back_b1 (nI 179) τ = _ ∧ _
    unfold f_X7_back_b1
    rw [L_179, if_pos (nI_le (Nat.le_refl _) (by omega))]
    exact ⟨_, rfl, f1, f3⟩
theorem kp_lp {τ0 : Sg} {j0 : Nat} (hj0 : j0 < 2) (h18 : τ0 184 18 = nI j0) : ∃ τ, lp (fun st => f_X7_keep_b1 st.1 st.2) FU ((0 : Int32), τ0) = some τ ∧ ((∀ i, i ≠ 197 → τ i = τ0 i) ∧ (∀ k, (k < 179 * j0 ∨ 179 * j0 + 179 ≤ k) → τ 197 k = τ0 197 k) ∧ ∀ k, k < 179 → τ 197 (179 * j0 + k) = τ0 195 k) := by
  refine lp_inv (fun j (s : Int32 × Sg) => s.1 = nI j ∧ (∀ i, i ≠ 197 → s.2 i = τ0 i) ∧ (∀ k, (k < 179 * j0 ∨ 179 * j0 + j ≤ k) → s.2 197 k = τ0 197 k) ∧ ∀ k, k < j → s.2 197 (179 * j0 + k) = τ0 195 k) 179 (by omega) ⟨rfl, fun _ _ => rfl, fun _ _ => rfl, fun k hk => absurd hk (by omega)⟩ ?_ ?_
  · rintro j ⟨x, τ⟩ hj ⟨e, f1, f2, f3⟩
    dsimp only at e f1 f2 f3
    subst e
    show ∃ s', f_X7_keep_b1 (nI j) τ = _ ∧ _
    unfold f_X7_keep_b1
    rw [L_179, if_neg (nI_ge hj (by omega)), l195, ga_n (by omega) (by omega), sb, f1 184 (by omega), h18, nI_mul, nI_add, show ln 197 = 358 by decide, sa_n (by omega) (by omega), sb, nI_1]
    refine ⟨_, rfl, rfl, fun i hi => (sf_ne hi).trans (f1 i hi), fun k hk => ?_, fun k hk => ?_⟩
    · show sf τ 197 _ _ 197 k = _
      rw [sf_row, upd_ne (by omega)]; exact f2 k (by omega)
    · show sf τ 197 _ _ 197 _ = _
      rw [sf_row]
      by_cases c : k = j
      · subst c; rw [upd_self, f1 195 (by omega)]
      · rw [upd_ne (by omega)]; exact f3 k (by omega)
  · rintro ⟨x, τ⟩ ⟨e, f1, f2, f3⟩
    dsimp only at e f1 f2 f3
    subst e
    show ∃ s', f_X7_keep_b1 (nI 179) τ = _ ∧ _
    unfold f_X7_keep_b1
    rw [L_179, if_pos (nI_le (Nat.le_refl _) (by omega))]
    exact ⟨_, rfl, f1, f2, f3⟩
theorem eq_undo (h : Rel N σ) (hN : N < 512) : ∃ r σ1 σ2, f_X6_undo σ = some (r, σ1) ∧ f_X7_undo σ1 = some (r, σ2) ∧ Rel (N + 1) σ2 := by
  have h0 := h
  obtain ⟨hK, hT, n, np, nw, ki, go, A, m, S, k, K, tl, tf, sl, sg, hR⟩ := h
  have same : Rel (N + 1) σ := Rel_fr h0 (by omega) hN hK (fun _ _ _ _ _ => rfl)
  obtain ⟨⟨n1, n2, n3, n4⟩, v1, v2, v3, ⟨c1, c2, c3⟩, ⟨m1, m2, m3, m4, m5, m6, m7⟩, ⟨t1, t2, t3, t4⟩, u1, u2, u3, u4⟩ := hR
  have m8 := c2.2.1
  cases m with
  | zero =>
    refine ⟨-2, σ, σ, ?_, ?_, same⟩
    · unfold f_X6_undo
      rw [gv_no c2, sb, if_pos rfl]
    · unfold f_X7_undo
      rw [m4, if_neg (fun z => z rfl)]
  | succ m =>
    obtain ⟨σ1, e1, K1, f1, Y1, H1⟩ := gv_ok hK (Or.inl rfl) ln35 (by omega) kd34 (fun j hj => gYu hj) (fun i hi => OK_VA (v2 i hi)) (by omega) c2
    have p16 : (sf σ1 184 16 ((σ1 184 16) - (1 : Int32))) 184 16 = nI m := by
      rw [sf_row, upd_self, f1 184 (by omega) (by omega), m4]; exact nI_pred _
    obtain ⟨σ2, e2, f2, M2⟩ := un_lp (by omega) p16
    have F1 : ∀ i, i ≠ 184 → i ≠ 195 → σ2 i = σ1 i := fun i a b => (f2 i b).trans (sf_ne a)
    have F2 : ∀ i, (i < 6 ∨ 19 < i) → i ≠ 34 → i ≠ 184 → i ≠ 195 → σ2 i = σ i := fun i a b c d => (F1 i c d).trans (f1 i a b)
    have e184 : σ2 184 = upd (σ 184) 16 (nI m) := by
      rw [f2 _ (by omega), sf_row, f1 184 (by omega) (by omega), m4]
      rw [show nI (m + 1) - 1 = nI m from nI_pred _]
    have MA : MY (σ2 195) np nw (S 0) := MY_cg n2 v1.1.nw5 (m5 0 (by omega)) (fun k hk => by
      rw [M2 k hk, sf_ne (by omega), f1 196 (by omega) (by omega)]
      show _ = σ 196 (179 * (m + 1 - 1 - 0) + k)
      rw [show m + 1 - 1 - 0 = m by omega])
    refine ⟨nI m, σ1, σ2, ?_, ?_, KC_m K1 (fun i hi => F1 i (by omega) (by omega)), RT_fr hT (F2 _ (by omega) (by omega) (by omega) (by omega)) (F2 _ (by omega) (by omega) (by omega) (by omega)) (by rw [e184, upd_ne (by omega)]) (F2 _ (by omega) (by omega) (by omega) (by omega)), n, np, nw, ki, go, S 0, m, (fun i => S (i + 1)), k, K, tl, tf, sl, sg, ⟨n1, n2, n3, hN⟩, OK_mono (v2 0 (by omega)) (by omega), fun i hi => OK_mono (v2 (i + 1) (by omega)) (by omega), fun i hi => OK_mono (v3 i hi) (by omega), ⟨CY_fr Y1 (fun i a b => F1 i (by omega) (by omega)), SH_fr (by omega) H1 (fun i a b => F1 i (by omega) (by omega)), SH_fr (by omega) c3 (fun i a b => F2 i (by omega) (by omega) (by omega) (by omega))⟩, ⟨ST_fr m1 (fun i a b => F2 i (by omega) (by omega) (by omega) (by omega)), ?_, MA, by rw [e184, upd_self], ?_, by rw [e184, upd_ne (by omega)]; exact m6, MH_fr m7 (F2 _ (by omega) (by omega) (by omega) (by omega))⟩, ⟨NT_fr t1 (F2 _ (by omega) (by omega) (by omega) (by omega)) (F2 _ (by omega) (by omega) (by omega) (by omega)) (F2 _ (by omega) (by omega) (by omega) (by omega)) (F2 _ (by omega) (by omega) (by omega) (by omega)) (F2 _ (by omega) (by omega) (by omega) (by omega)), by rw [e184, upd_ne (by omega)]; exact t2, t3, t4⟩, NT_fr u1 (F2 _ (by omega) (by omega) (by omega) (by omega)) (F2 _ (by omega) (by omega) (by omega) (by omega)) (F2 _ (by omega) (by omega) (by omega) (by omega)) (F2 _ (by omega) (by omega) (by omega) (by omega)) (F2 _ (by omega) (by omega) (by omega) (by omega)), by rw [e184, upd_ne (by omega)]; exact u2, u3, u4⟩
    · unfold f_X6_undo f_X4_held
      rw [e1, sb]
      dsimp only
      rw [if_neg one0, H1.1, sb]
      rfl
    · unfold f_X7_undo
      rw [if_pos (show ¬ σ1 184 16 = 0 by rw [f1 184 (by omega) (by omega), m4]; exact fun z => by have := (nI_0e (by omega)).mp z; omega), sb, e2, sb]
      unfold f_X7_undo_k1
      rw [e184, upd_self]
    · unfold FL
      rw [e184, upd_ne (by omega), upd_ne (by omega), upd_ne (by omega)]
      exact m2
    · intro i hi
      rw [F2 196 (by omega) (by omega) (by omega) (by omega), show m - 1 - i = m + 1 - 1 - (i + 1) by omega]
      exact m5 (i + 1) (by omega)
end AT
