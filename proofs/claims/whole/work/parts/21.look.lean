/-! Part 21: calls that only look. -/
theorem ite_some {c : Prop} [Decidable c] {α : Type} {a b : α} : (if c then some a else some b) = some (if c then a else b) := by split <;> rfl
theorem m10 : ¬ (-1 : Int32) = 0 := by decide
theorem nn0 {p q : Option Int32} : (if ¬ (0 : Int32) = 0 then p else q) = q := if_neg (fun z => z rfl)
theorem nn1 {p q : Option Int32} : (if ¬ (1 : Int32) = 0 then p else q) = p := if_pos one0
theorem nI_0e {a : Nat} (h : a < 2 ^ 31) : nI a = 0 ↔ a = 0 := by rw [L_0, nI_eq h (by omega)]
section LK
variable {σ : Sg} {N : Nat}
theorem eq_road (h : Rel N σ) (a1 a2 : Int32) : ∃ r, f_X6_road σ a1 a2 = some r ∧ f_X7_road σ a1 a2 = some r := by
  obtain ⟨hK, hT, n, np, nw, ki, go, A, m, S, k, K, tl, tf, sl, sg, hR⟩ := h
  obtain ⟨⟨n1, n2, n3, n4⟩, v1, v2, v3, ⟨c1, c2, c3⟩, ⟨m1, m2, m3, m4, m5, m6, m7⟩, ⟨t1, t2, t3, t4⟩, s1, s2, s3, s4⟩ := hR
  have hV := v1.1
  have h8 := hV.n8
  unfold f_X6_road f_X7_road f_X5_areTwoTowns
  rcases mt_ok m1 h8 a1 with ⟨x, hx, rfl, e1⟩ | ⟨o1, e1⟩
  · rw [it_in c1 h8 hx, e1]
    dsimp only [sb]
    rw [if_neg one0, if_neg one0]
    rcases mt_ok m1 h8 a2 with ⟨y, hy, rfl, e2⟩ | ⟨o2, e2⟩
    · rw [it_in c1 h8 hy, e2]
      dsimp only [sb]
      rw [if_neg one0, if_neg one0]
      by_cases e : x = y
      · subst e
        rw [if_pos rfl]
        dsimp only [sb]
        rw [nn0, if_neg (fun z => z rfl)]
        exact ⟨_, rfl, rfl⟩
      · have e' : ¬ nI x = nI y := fun z => e ((nI_eq (by omega) (by omega)).mp z)
        rw [if_neg e', if_pos e']
        dsimp only [sb]
        rw [nn1, btw_ok hK gY6.2.2.1.1 c1.2.1 (by omega) (by omega), L_7, L_8, nI_mul, nI_add, nI_add, l195, ga_n (by omega) (by omega), show σ 195 (7 + 8 * x + y) = nI (Sn.mi A x y) from m3.1 x y (by omega) (by omega)]
        dsimp only [sb]
        have hm := hV.1.2.2.1 x y
        by_cases q : 0 < Sn.mi A x y
        · rw [if_neg (nI_nle q (by omega)), if_pos (nI_ne0 q (by omega))]
          exact ⟨_, rfl, rfl⟩
        · rw [show Sn.mi A x y = 0 by omega, if_pos (by decide), if_neg (by decide)]
          exact ⟨_, rfl, rfl⟩
    · rw [it_out c1 o2, e2]
      exact ⟨_, rfl, rfl⟩
  · rw [it_out c1 o1, e1]
    exact ⟨_, rfl, rfl⟩
theorem eq_post (h : Rel N σ) (a1 a2 : Int32) : ∃ r, f_X6_post σ a1 a2 = some r ∧ f_X7_post σ a1 a2 = some r := by
  obtain ⟨hK, hT, n, np, nw, ki, go, A, m, S, k, K, tl, tf, sl, sg, hR⟩ := h
  obtain ⟨⟨n1, n2, n3, n4⟩, v1, v2, v3, ⟨c1, c2, c3⟩, ⟨m1, m2, m3, m4, m5, m6, m7⟩, ⟨t1, t2, t3, t4⟩, s1, s2, s3, s4⟩ := hR
  have hV := v1.1
  have h8 := hV.np8
  unfold f_X6_post f_X7_post f_X5_kindOf f_X5_townOf f_X5_ageOf
  rcases mp_in m1 h8 a1 with ⟨p, hp, rfl, e1⟩ | ⟨o1, e1⟩
  · rw [ip_in c1 h8 hp, e1, po0 hK gY6 c1 h8 hp, po1 hK gY6 c1 h8 hp, po2 hK gY6 c1 h8 hp, l189, ga_n (by omega) (by omega), m1.2.2.2.1 p hp, L_71, L_77, nI_add, nI_add, l195, ga_n (by omega) (by omega), ga_n (by omega) (by omega), show σ 195 (71 + p) = oI (Sn.to A p) from m3.2.1 p hp, show σ 195 (77 + p) = nI (Sn.ag A p) from m3.2.2.1 p hp]
    dsimp only [sb]
    rw [nn1]
    simp only [ite_some]
    exact ⟨_, rfl, rfl⟩
  · rw [ip_out c1 o1, e1]
    exact ⟨_, rfl, rfl⟩
theorem in_lit {a : Int32} (n : Nat) (hn : n < 2 ^ 31) {L : Int32} (hL : L = nI n - 1) : (∃ t, t < n ∧ a = nI t ∧ f_X7_in σ a (0 : Int32) L = some 1) ∨ ((a < 0 ∨ nI n ≤ a) ∧ f_X7_in σ a (0 : Int32) L = some 0) := by
  subst hL; exact in_ok hn
theorem eq_arm (h : Rel N σ) (a1 a2 a3 : Int32) : ∃ r, f_X6_arm σ a1 a2 a3 = some r ∧ f_X7_arm σ a1 a2 a3 = some r := by
  obtain ⟨hK, hT, n, np, nw, ki, go, A, m, S, k, K, tl, tf, sl, sg, hR⟩ := h
  obtain ⟨⟨n1, n2, n3, n4⟩, v1, v2, v3, ⟨c1, c2, c3⟩, ⟨m1, m2, m3, m4, m5, m6, m7⟩, ⟨t1, t2, t3, t4⟩, s1, s2, s3, s4⟩ := hR
  have hV := v1.1
  have h8 := hV.np8
  have hn8 := hV.n8
  unfold f_X6_arm f_X7_arm f_X5_armOf f_X5_milesOf
  rcases mp_in m1 h8 a1 with ⟨p, hp, rfl, e1⟩ | ⟨o1, e1⟩
  · rw [ip_in c1 h8 hp, e1]
    dsimp only [sb]
    rw [if_neg one0, if_neg one0]
    rcases mt_ok m1 hn8 a2 with ⟨y, hy, rfl, e2⟩ | ⟨o2, e2⟩
    · have hk := hV.kiL p
      have m3' : MC σ 195 (Sn.mi A) np nw (Sn.ho A) (Sn.ye A) (Sn.to A) (Sn.ag A) (Sn.ar A) (Sn.am A) (Sn.wa A) := m3
      rw [it_in c1 hn8 hy, e2, ar_at hK gY6 c1 h8 hp (by omega), am_at hK gY6 c1 h8 hp (by omega), pt_ok hK gY6 hV c1 hp (by omega), l189, ga_n (by omega) (by omega), m1.2.2.2.1 p hp, l195, L_71, nI_add, ga_n (by omega) (by omega), m3'.2.1 p hp]
      dsimp only [sb]
      rw [if_neg one0, nn1, pn_ok (Or.inl rfl) hV n2 m1 m2.1 m3' hp hk (by omega)]
      dsimp only [sb]
      rcases in_lit (σ := σ) (a := a3) 3 (by omega) (L := 2) (by decide) with ⟨w, hw, rfl, e3⟩ | ⟨o3, e3⟩
      · rw [e3]
        dsimp only [sb]
        rw [nn1]
        cases hto : Sn.to A p with
        | none =>
          have r1 := (hV.2.2.2.2.2.2.2.2.2 p y hto).1
          have r2 := (hV.2.2.2.2.2.2.2.2.2 p y hto).2
          have r3 : pt (Sn.mi A) n (Sn.ho A) 0 ki (Sn.to A) (Sn.ag A) (Sn.ar A) p y = none := by unfold pt; rw [hto]
          rw [if_neg (show ¬ ¬ oI none = (-4 : Int32) from fun z => z oI_n), r1, r2, r3]
          refine ⟨-4, ?_, rfl⟩
          rcases (show w = 0 ∨ w = 1 ∨ w = 2 by omega) with rfl | rfl | rfl <;> rfl
        | some x =>
          have hx := hV.toL hto
          rw [if_pos (oI_ne (by omega)), L_83, L_131, L_8, nI_mul, nI_add, nI_add, nI_add, nI_add, ga_n (by omega) (by omega), ga_n (by omega) (by omega), (m3'.2.2.2.1 p hp (by rw [hto]; exact fun z => by cases z) y (by omega)).1, (m3'.2.2.2.1 p hp (by rw [hto]; exact fun z => by cases z) y (by omega)).2]
          dsimp only [sb]
          rcases (show w = 0 ∨ w = 1 ∨ w = 2 by omega) with rfl | rfl | rfl
          · rw [if_pos (by decide), if_neg (by decide)]; exact ⟨_, rfl, rfl⟩
          · rw [if_neg (by decide), if_pos (by decide), if_pos (by decide), if_neg (by decide)]; exact ⟨_, rfl, rfl⟩
          · rw [if_neg (by decide), if_neg (by decide), if_pos (by decide), if_pos (by decide), if_pos (by decide)]; exact ⟨_, rfl, rfl⟩
      · rw [e3]
        dsimp only [sb]
        have d0 : ¬ a3 = 0 := fun z => by subst z; rcases o3 with z | z <;> revert z <;> decide
        have d1 : ¬ a3 = 1 := fun z => by subst z; rcases o3 with z | z <;> revert z <;> decide
        have d2 : ¬ a3 = 2 := fun z => by subst z; rcases o3 with z | z <;> revert z <;> decide
        rw [nn0, if_neg d0, if_neg d1, if_neg d2]
        exact ⟨_, rfl, rfl⟩
    · rw [it_out c1 o2, e2]
      exact ⟨_, rfl, rfl⟩
  · rw [ip_out c1 o1, e1]
    exact ⟨_, rfl, rfl⟩
theorem eq_walker (h : Rel N σ) (a1 a2 : Int32) : ∃ r, f_X6_walker σ a1 a2 = some r ∧ f_X7_walker σ a1 a2 = some r := by
  obtain ⟨hK, hT, n, np, nw, ki, go, A, m, S, k, K, tl, tf, sl, sg, hR⟩ := h
  obtain ⟨⟨n1, n2, n3, n4⟩, v1, v2, v3, ⟨c1, c2, c3⟩, ⟨m1, m2, m3, m4, m5, m6, m7⟩, ⟨t1, t2, t3, t4⟩, s1, s2, s3, s4⟩ := hR
  have hV := v1.1
  have h5 := hV.nw5
  have h8 := hV.n8
  unfold f_X6_walker f_X7_walker f_X5_placeOf f_X5_goalOf
  rcases mw_in m1 (by omega) a1 with ⟨v, hv, rfl, e1⟩ | ⟨o1, e1⟩
  · have w1 := hV.waL v
    have w2 := hV.goL v
    rw [iw_in c1 h5 hv, e1, wa0 hK gY6 c1 h5 hv, wa1 hK gY6 c1 h5 hv, hc_ok hK gY6 hV c1 hv, L_0, nI_add, l195, ga_n (by omega) (by omega), l190, ga_n (by omega) (by omega), m1.2.2.2.2 v hv, show σ 195 (0 + v) = nI (Sn.wa A v) from m3.2.2.2.2.1 v hv]
    dsimp only [sb]
    by_cases e : Sn.wa A v = go v
    · rw [b32_t e, if_neg (show ¬ ¬ nI (Sn.wa A v) = nI (go v) from fun z => z (congrArg nI e)), ← L_0, if_neg one0, nn1]
      simp only [ite_some]
      exact ⟨_, rfl, rfl⟩
    · rw [b32_f e, if_pos (show ¬ nI (Sn.wa A v) = nI (go v) from fun z => e ((nI_eq (by omega) (by omega)).mp z)), ← L_0, if_pos rfl, nn1]
      simp only [ite_some]
      exact ⟨_, rfl, rfl⟩
  · rw [iw_out c1 o1, e1]
    exact ⟨_, rfl, rfl⟩
theorem eq_count (h : Rel N σ) (a1 : Int32) : ∃ r, f_X6_count σ a1 = some r ∧ f_X7_count σ a1 = some r := by
  obtain ⟨hK, hT, n, np, nw, ki, go, A, m, S, k, K, tl, tf, sl, sg, hR⟩ := h
  obtain ⟨⟨n1, n2, n3, n4⟩, v1, v2, v3, ⟨c1, c2, c3⟩, ⟨m1, m2, m3, m4, m5, m6, m7⟩, ⟨t1, t2, t3, t4⟩, u1, u2, u3, u4⟩ := hR
  obtain ⟨len, tx, x1, x2, x3, x4⟩ := hT
  have hV := v1.1
  have h8 := hV.n8
  have m3' : MC σ 195 (Sn.mi A) np nw (Sn.ho A) (Sn.ye A) (Sn.to A) (Sn.ag A) (Sn.ar A) (Sn.am A) (Sn.wa A) := m3
  have e5 : f_X7_roadsOf σ 195 (0 : Int32) = some (nI (s2 (fun a b => one (Sn.mi A a b)) n)) := by
    have := rs_ok (σ := σ) (c := 195) (Or.inl rfl) hV.1.2.2.1 m3'.1 false
    refine Eq.trans this ?_
    show some (nI (s2 (fun a b => one (Sn.mi A a b)) 8)) = _
    rw [s2_n h8 (fun a b hb => by show one (Sn.mi A a b) = 0; rw [hV.1.2.2.2 a b (Or.inr hb)]; rfl)]
  unfold f_X6_count f_X7_count f_X5_towns f_X3_towns f_X5_posts f_X5_walkers f_X5_hour f_X5_years f_X2_held f_X4_held f_X1_length
  rw [e5, hm_ok hK gY6.2.2.1.1 hV.1 c1.2.1, rc_ok hK gY6 hV c1, cc_ok hK gY6 hV c1, ro_ok (Or.inl rfl) hV n2 m1 m3', ct_ok (Or.inl rfl) hV m1 m3', c1.1.1, c1.1.2.1, c1.1.2.2.1, c1.1.2.2.2.1, t1.1, u1.1, c2.1, c3.1, x1, x2, t2, u2, m4, m6]
  rw [show σ (6 + 1) 0 = nI n from c1.2.1.1]
  rw [show ga (σ 186) (ln 186) (0 : Int32) = some (nI n) by rw [L_0, l186, ga_n (by omega) (by omega), m1.1], show ga (σ 187) (ln 187) (0 : Int32) = some (nI np) by rw [L_0, l187, ga_n (by omega) (by omega), m1.2.1], show ga (σ 188) (ln 188) (0 : Int32) = some (nI nw) by rw [L_0, l188, ga_n (by omega) (by omega), m1.2.2.1], show ga (σ 195) (ln 195) (5 : Int32) = some (nI (Sn.ho A)) by rw [L_5, l195, ga_n (by omega) (by omega), m3'.2.2.2.2.2.1], show ga (σ 195) (ln 195) (6 : Int32) = some (nI (Sn.ye A)) by rw [L_6, l195, ga_n (by omega) (by omega), m3'.2.2.2.2.2.2]]
  dsimp only [sb]
  simp only [ite_some]
  exact ⟨_, rfl, rfl⟩
theorem eq_far (h : Rel N σ) (hN : N < 512) (a1 a2 : Int32) : ∃ r σ2, f_X6_far σ a1 a2 = some r ∧ f_X7_far σ a1 a2 = some (r, σ2) ∧ Rel (N + 1) σ2 := by
  have h0 := h
  obtain ⟨hK, hT, n, np, nw, ki, go, A, m, S, k, K, tl, tf, sl, sg, hR⟩ := h
  obtain ⟨⟨n1, n2, n3, n4⟩, v1, v2, v3, ⟨c1, c2, c3⟩, ⟨m1, m2, m3, m4, m5, m6, m7⟩, ⟨t1, t2, t3, t4⟩, s1, s2, s3, s4⟩ := hR
  have hV := v1.1
  have h8 := hV.n8
  have same : Rel (N + 1) σ := Rel_fr h0 (by omega) hN hK (fun _ _ _ _ _ => rfl)
  unfold f_X6_far f_X7_far
  rcases mt_ok m1 h8 a1 with ⟨x, hx, rfl, e1⟩ | ⟨o1, e1⟩
  · rw [it_in c1 h8 hx, e1]
    dsimp only [sb]
    rw [if_neg one0, if_neg one0]
    rcases mt_ok m1 h8 a2 with ⟨y, hy, rfl, e2⟩ | ⟨o2, e2⟩
    · rw [it_in c1 h8 hy, e2]
      dsimp only [sb]
      rw [nn1, if_pos one0, pm_ok hK gY6.2.2.1.1 c1.2.2.1 hx hy h8]
      obtain ⟨σ1, g1, g2, g3⟩ := me_ok (Or.inl rfl) hV.1.2.2.1 m3.1
      rw [g1]
      dsimp only [sb]
      rw [L_8, nI_mul, nI_add, l199, ga_n (by omega) (by omega), g3 x y (by omega) (by omega)]
      dsimp only [sb]
      have r1 : Rel (N + 1) σ1 := Rel_fr h0 (by omega) hN (KC_m hK (fun i hi => g2 i (by omega))) (fun i a b c d => g2 i c)
      cases hd : dist (Sn.mi A) x y with
      | none => rw [if_pos (by decide)]; exact ⟨_, _, rfl, rfl, r1⟩
      | some d =>
        have hd2 := dN_2304 hV.1.2.2.1 (Nat.le_refl 8) hd
        rw [show fN (some d) = d from rfl, L_100000, if_neg (nI_ge (show d < 100000 by omega) (by omega))]
        exact ⟨_, _, rfl, rfl, r1⟩
    · rw [it_out c1 o2, e2]
      exact ⟨_, _, rfl, rfl, same⟩
  · rw [it_out c1 o1, e1]
    exact ⟨_, _, rfl, rfl, same⟩
end LK
