/-! Part 36: what a yard holds, apart from its cells; answers that it alone decides. (Printed by wip/p36/mk36.py.) -/
abbrev Tp : Type := (Nat × Nat × Nat × (Nat → Nat) × (Nat → Nat)) × (Sn × Nat × (Nat → Sn)) × (Nat × (Nat → Sn)) × (Nat × (Nat → Nat × Nat × Nat)) × (Nat × (Nat → Nat × Nat × Nat)) × Nat
def OX (N n np nw : Nat) (ki go : Nat → Nat) (A : Sn) (m : Nat) (S : Nat → Sn) (k : Nat) (K : Nat → Sn) (tl : Nat) (tf : Nat → Nat × Nat × Nat) (sl : Nat) (sg : Nat → Nat × Nat × Nat) (len : Nat) : Prop :=
  (1 ≤ np ∧ np ≤ 6 ∧ 1 ≤ nw ∧ N ≤ 512) ∧ OK N n np nw ki go A ∧ (∀ i, i < m → OK N n np nw ki go (S i)) ∧ (∀ i, i < k → OK N n np nw ki go (K i)) ∧ (m ≤ 8 ∧ k ≤ 2) ∧ (tl ≤ 6 ∧ ∀ i, i < tl → (tf i).1 < n ∧ (tf i).2.1 < n ∧ (tf i).2.2 ≤ 72) ∧ (sl ≤ 6 ∧ ∀ i, i < sl → (sg i).1 < np ∧ (sg i).2.1 < n ∧ (sg i).2.2 < n)
def CX (σ : Sg) (n np nw : Nat) (ki go : Nat → Nat) (A : Sn) (m : Nat) (S : Nat → Sn) (k : Nat) (K : Nat → Sn) (tl : Nat) (tf : Nat → Nat × Nat × Nat) (sl : Nat) (sg : Nat → Nat × Nat × Nat) (len : Nat) : Prop :=
  KC σ ∧ CY σ 6 n np nw ki go A ∧ SH σ 34 8 n np nw ki go m S ∧ SH σ 148 2 n np nw ki go k K ∧ NT σ 178 201 202 203 tl tf ∧ NT σ 181 204 205 206 sl sg ∧ σ 1 2 = nI len
def OT (N : Nat) (T : Tp) : Prop := OX N T.1.1 T.1.2.1 T.1.2.2.1 T.1.2.2.2.1 T.1.2.2.2.2 T.2.1.1 T.2.1.2.1 T.2.1.2.2 T.2.2.1.1 T.2.2.1.2 T.2.2.2.1.1 T.2.2.2.1.2 T.2.2.2.2.1.1 T.2.2.2.2.1.2 T.2.2.2.2.2
def CC (σ : Sg) (T : Tp) : Prop := CX σ T.1.1 T.1.2.1 T.1.2.2.1 T.1.2.2.2.1 T.1.2.2.2.2 T.2.1.1 T.2.1.2.1 T.2.1.2.2 T.2.2.1.1 T.2.2.1.2 T.2.2.2.1.1 T.2.2.2.1.2 T.2.2.2.2.1.1 T.2.2.2.2.1.2 T.2.2.2.2.2
/-- the answer and what is held behind it hang on what is held alone -/
def Det (N : Nat) (T : Tp) (f : Sg → Option (Int32 × Sg)) : Prop := ∃ r T', OT (N + 1) T' ∧ ∀ σ, CC σ T → ∃ σ', f σ = some (r, σ') ∧ CC σ' T'
def Dlk (T : Tp) (f : Sg → Option Int32) : Prop := ∃ r, ∀ σ, CC σ T → f σ = some r
theorem in_n {n : Nat} (hn : n < 2 ^ 31) (a : Int32) : (∃ t, t < n ∧ a = nI t) ∨ (a < 0 ∨ nI n ≤ a) := by
  rcases rng a hn with h | ⟨t, ht, rfl⟩
  · exact Or.inr h
  · exact Or.inl ⟨t, ht, rfl⟩
theorem in_p {n : Nat} (hn : n < 2 ^ 30) (a : Int32) : (∃ t, 1 ≤ t ∧ t ≤ n ∧ a = nI t) ∨ (a < 1 ∨ nI n < a) := by
  by_cases c : a < 1
  · exact Or.inr (Or.inl c)
  · by_cases d : nI n < a
    · exact Or.inr (Or.inr d)
    · have c0 : ¬ a < 0 := fun z => c (Int32.lt_of_lt_of_le z (by decide))
      obtain ⟨j, hj, rfl⟩ := nI_of c0
      left
      refine ⟨j, ?_, ?_, rfl⟩
      · have : ¬ j < 1 := fun z => c (by rw [L_1]; exact nI_lt z (by omega))
        omega
      · have : ¬ n < j := fun z => d (nI_lt z hj)
        omega
theorem OT_mono {N M : Nat} {T : Tp} (h : OT N T) (hM : N ≤ M) (hM2 : M ≤ 512) : OT M T := by
  obtain ⟨⟨n1, n2, n3, n4⟩, v1, v2, v3, r⟩ := h
  exact ⟨⟨n1, n2, n3, hM2⟩, OK_mono v1 hM, fun i hi => OK_mono (v2 i hi) hM, fun i hi => OK_mono (v3 i hi) hM, r⟩
theorem CC_fr {σ σ' : Sg} {T : Tp} (c : CC σ T) (hK : KC σ') (hf : ∀ i, (i < 20 ∨ 33 < i) → σ' i = σ i) : CC σ' T := by
  obtain ⟨-, c1, c2, c3, t, u, x⟩ := c
  exact ⟨hK, CY_fr c1 (fun i a b => hf i (by omega)), SH_fr (by omega) c2 (fun i a b => hf i (by omega)), SH_fr (by omega) c3 (fun i a b => hf i (by omega)), NT_fr t (hf _ (by omega)) (hf _ (by omega)) (hf _ (by omega)) (hf _ (by omega)) (hf _ (by omega)), NT_fr u (hf _ (by omega)) (hf _ (by omega)) (hf _ (by omega)) (hf _ (by omega)) (hf _ (by omega)), by rw [hf 1 (by omega)]; exact x⟩
theorem det_try {N : Nat} {T : Tp} {f : Sg → Option (Int32 × Sg)} {r : Int32} (h : OT N T) (hN : N < 512) (H : ∀ σ, CC σ T → ∃ σ', f σ = some (r, σ') ∧ KC σ' ∧ ∀ i, (i < 20 ∨ 33 < i) → σ' i = σ i) : Det N T f := ⟨r, T, OT_mono h (Nat.le_succ N) hN, fun σ c => by
  obtain ⟨σ', a, b, d⟩ := H σ c
  exact ⟨σ', a, CC_fr c b d⟩⟩
theorem det_no {N : Nat} {T : Tp} {f : Sg → Option (Int32 × Sg)} {r : Int32} (h : OT N T) (hN : N < 512) (H : ∀ σ, CC σ T → f σ = some (r, σ)) : Det N T f := ⟨r, T, OT_mono h (Nat.le_succ N) hN, fun σ c => ⟨σ, H σ c, c⟩⟩
theorem det_lk {N : Nat} {T : Tp} {f : Sg → Option Int32} (h : OT N T) (hN : N < 512) (H : Dlk T f) : Det N T (fun σ => (f σ).bind fun r => some (r, σ)) := by
  obtain ⟨r, H⟩ := H
  exact det_no h hN (fun σ c => by show (f σ).bind _ = _; rw [H σ c]; rfl)
section DT
variable {N : Nat} {T : Tp}
theorem d_road (h : OT N T) (a1 a2 : Int32) : Dlk T (fun σ => f_X6_road σ a1 a2) := by
  have h0 := h
  obtain ⟨⟨n, np, nw, ki, go⟩, ⟨A, m, S⟩, ⟨k, K⟩, ⟨tl, tf⟩, ⟨sl, sg⟩, len⟩ := T
  have h : OX N n np nw ki go A m S k K tl tf sl sg len := h
  obtain ⟨⟨n1, n2, n3, n4⟩, v1, v2, v3, ⟨m8, k2⟩, ⟨t3, t4⟩, u3, u4⟩ := h
  have hV := v1.1
  have n8 := hV.n8
  have p8 := hV.np8
  have h5 := hV.nw5
  have hho := v1.2.2.1
  have hye := v1.2.2.2
  rcases in_n (n := n) (by omega) a1 with ⟨x, hx, rfl⟩ | o1
  · rcases in_n (n := n) (by omega) a2 with ⟨y, hy, rfl⟩ | o2
    · by_cases e : x = y
      · subst e
        refine ⟨-1, fun σ c => ?_⟩
        have cq : CX σ n np nw ki go A m S k K tl tf sl sg len := c
        obtain ⟨hK, c1, c2, c3, t1, u1, x1⟩ := cq
        show f_X6_road σ _ _ = _
        unfold f_X6_road f_X5_areTwoTowns
        rw [it_in c1 n8 hx, sb, if_neg one0, sb, if_neg one0, if_pos rfl, sb, nn0]
      · have e' : ¬ nI x = nI y := fun z => e ((nI_eq (by omega) (by omega)).mp z)
        refine ⟨if nI (Sn.mi A x y) ≤ 0 then -4 else nI (Sn.mi A x y), fun σ c => ?_⟩
        have cq : CX σ n np nw ki go A m S k K tl tf sl sg len := c
        obtain ⟨hK, c1, c2, c3, t1, u1, x1⟩ := cq
        show f_X6_road σ _ _ = _
        unfold f_X6_road f_X5_areTwoTowns
        rw [it_in c1 n8 hx, sb, if_neg one0, it_in c1 n8 hy, sb, if_neg one0, if_neg e', sb, nn1, btw_ok hK gY6.2.2.1.1 c1.2.1 (by omega) (by omega), sb]
        simp only [ite_some]
    · refine ⟨-1, fun σ c => ?_⟩
      have cq : CX σ n np nw ki go A m S k K tl tf sl sg len := c
      obtain ⟨hK, c1, c2, c3, t1, u1, x1⟩ := cq
      show f_X6_road σ _ _ = _
      unfold f_X6_road f_X5_areTwoTowns
      rw [it_in c1 n8 hx, sb, if_neg one0, it_out c1 o2, sb, if_pos rfl, sb, nn0]
  · refine ⟨-1, fun σ c => ?_⟩
    have cq : CX σ n np nw ki go A m S k K tl tf sl sg len := c
    obtain ⟨hK, c1, c2, c3, t1, u1, x1⟩ := cq
    show f_X6_road σ _ _ = _
    unfold f_X6_road f_X5_areTwoTowns
    rw [it_out c1 o1, sb, if_pos rfl, sb, nn0]
theorem d_post (h : OT N T) (a1 a2 : Int32) : Dlk T (fun σ => f_X6_post σ a1 a2) := by
  have h0 := h
  obtain ⟨⟨n, np, nw, ki, go⟩, ⟨A, m, S⟩, ⟨k, K⟩, ⟨tl, tf⟩, ⟨sl, sg⟩, len⟩ := T
  have h : OX N n np nw ki go A m S k K tl tf sl sg len := h
  obtain ⟨⟨n1, n2, n3, n4⟩, v1, v2, v3, ⟨m8, k2⟩, ⟨t3, t4⟩, u3, u4⟩ := h
  have hV := v1.1
  have n8 := hV.n8
  have p8 := hV.np8
  have h5 := hV.nw5
  have hho := v1.2.2.1
  have hye := v1.2.2.2
  rcases in_n (n := np) (by omega) a1 with ⟨p, hp, rfl⟩ | o1
  · refine ⟨if a2 = (0 : Int32) then nI (ki p) else if a2 = (1 : Int32) then oI (Sn.to A p) else if a2 = (2 : Int32) then nI (Sn.ag A p) else (-1 : Int32), fun σ c => ?_⟩
    have cq : CX σ n np nw ki go A m S k K tl tf sl sg len := c
    obtain ⟨hK, c1, c2, c3, t1, u1, x1⟩ := cq
    show f_X6_post σ _ _ = _
    unfold f_X6_post f_X5_kindOf f_X5_townOf f_X5_ageOf
    rw [ip_in c1 p8 hp, po0 hK gY6 c1 p8 hp, po1 hK gY6 c1 p8 hp, po2 hK gY6 c1 p8 hp]
    dsimp only [sb]
    rw [nn1]
    simp only [ite_some]
  · refine ⟨-1, fun σ c => ?_⟩
    have cq : CX σ n np nw ki go A m S k K tl tf sl sg len := c
    obtain ⟨hK, c1, c2, c3, t1, u1, x1⟩ := cq
    show f_X6_post σ _ _ = _
    unfold f_X6_post
    rw [ip_out c1 o1]
    rfl
theorem d_arm (h : OT N T) (a1 a2 a3 : Int32) : Dlk T (fun σ => f_X6_arm σ a1 a2 a3) := by
  have h0 := h
  obtain ⟨⟨n, np, nw, ki, go⟩, ⟨A, m, S⟩, ⟨k, K⟩, ⟨tl, tf⟩, ⟨sl, sg⟩, len⟩ := T
  have h : OX N n np nw ki go A m S k K tl tf sl sg len := h
  obtain ⟨⟨n1, n2, n3, n4⟩, v1, v2, v3, ⟨m8, k2⟩, ⟨t3, t4⟩, u3, u4⟩ := h
  have hV := v1.1
  have n8 := hV.n8
  have p8 := hV.np8
  have h5 := hV.nw5
  have hho := v1.2.2.1
  have hye := v1.2.2.2
  rcases in_n (n := np) (by omega) a1 with ⟨p, hp, rfl⟩ | o1
  · rcases in_n (n := n) (by omega) a2 with ⟨y, hy, rfl⟩ | o2
    · refine ⟨if a3 = (0 : Int32) then oI (Sn.ar A p y) else if a3 = (1 : Int32) then oI (Sn.am A p y) else if a3 = (2 : Int32) then oI (pt (Sn.mi A) n (Sn.ho A) 0 ki (Sn.to A) (Sn.ag A) (Sn.ar A) p y) else (-1 : Int32), fun σ c => ?_⟩
      have cq : CX σ n np nw ki go A m S k K tl tf sl sg len := c
      obtain ⟨hK, c1, c2, c3, t1, u1, x1⟩ := cq
      show f_X6_arm σ _ _ _ = _
      unfold f_X6_arm f_X5_armOf f_X5_milesOf
      rw [ip_in c1 p8 hp]
      dsimp only [sb]
      rw [if_neg one0, it_in c1 n8 hy, ar_at hK gY6 c1 p8 hp (by omega), am_at hK gY6 c1 p8 hp (by omega), pt_ok hK gY6 hV c1 hp (by omega)]
      dsimp only [sb]
      rw [nn1]
      simp only [ite_some]
    · refine ⟨-1, fun σ c => ?_⟩
      have cq : CX σ n np nw ki go A m S k K tl tf sl sg len := c
      obtain ⟨hK, c1, c2, c3, t1, u1, x1⟩ := cq
      show f_X6_arm σ _ _ _ = _
      unfold f_X6_arm
      rw [ip_in c1 p8 hp]
      dsimp only [sb]
      rw [if_neg one0, it_out c1 o2]
      rfl
  · refine ⟨-1, fun σ c => ?_⟩
    have cq : CX σ n np nw ki go A m S k K tl tf sl sg len := c
    obtain ⟨hK, c1, c2, c3, t1, u1, x1⟩ := cq
    show f_X6_arm σ _ _ _ = _
    unfold f_X6_arm
    rw [ip_out c1 o1]
    rfl
theorem d_walker (h : OT N T) (a1 a2 : Int32) : Dlk T (fun σ => f_X6_walker σ a1 a2) := by
  have h0 := h
  obtain ⟨⟨n, np, nw, ki, go⟩, ⟨A, m, S⟩, ⟨k, K⟩, ⟨tl, tf⟩, ⟨sl, sg⟩, len⟩ := T
  have h : OX N n np nw ki go A m S k K tl tf sl sg len := h
  obtain ⟨⟨n1, n2, n3, n4⟩, v1, v2, v3, ⟨m8, k2⟩, ⟨t3, t4⟩, u3, u4⟩ := h
  have hV := v1.1
  have n8 := hV.n8
  have p8 := hV.np8
  have h5 := hV.nw5
  have hho := v1.2.2.1
  have hye := v1.2.2.2
  rcases in_n (n := nw) (by omega) a1 with ⟨v, hv, rfl⟩ | o1
  · refine ⟨if a2 = (0 : Int32) then nI (Sn.wa A v) else if a2 = (1 : Int32) then nI (go v) else if a2 = (2 : Int32) then (if b32 (Sn.wa A v = go v) = 0 then (0 : Int32) else (1 : Int32)) else (-1 : Int32), fun σ c => ?_⟩
    have cq : CX σ n np nw ki go A m S k K tl tf sl sg len := c
    obtain ⟨hK, c1, c2, c3, t1, u1, x1⟩ := cq
    show f_X6_walker σ _ _ = _
    unfold f_X6_walker f_X5_placeOf f_X5_goalOf
    rw [iw_in c1 h5 hv, wa0 hK gY6 c1 h5 hv, wa1 hK gY6 c1 h5 hv, hc_ok hK gY6 hV c1 hv]
    dsimp only [sb]
    rw [nn1]
    simp only [ite_some]
  · refine ⟨-1, fun σ c => ?_⟩
    have cq : CX σ n np nw ki go A m S k K tl tf sl sg len := c
    obtain ⟨hK, c1, c2, c3, t1, u1, x1⟩ := cq
    show f_X6_walker σ _ _ = _
    unfold f_X6_walker
    rw [iw_out c1 o1]
    rfl
theorem d_count (h : OT N T) (a1 : Int32) : Dlk T (fun σ => f_X6_count σ a1) := by
  have h0 := h
  obtain ⟨⟨n, np, nw, ki, go⟩, ⟨A, m, S⟩, ⟨k, K⟩, ⟨tl, tf⟩, ⟨sl, sg⟩, len⟩ := T
  have h : OX N n np nw ki go A m S k K tl tf sl sg len := h
  obtain ⟨⟨n1, n2, n3, n4⟩, v1, v2, v3, ⟨m8, k2⟩, ⟨t3, t4⟩, u3, u4⟩ := h
  have hV := v1.1
  have n8 := hV.n8
  have p8 := hV.np8
  have h5 := hV.nw5
  have hho := v1.2.2.1
  have hye := v1.2.2.2
  refine ⟨if a1 = (0 : Int32) then nI n else if a1 = (1 : Int32) then nI np else if a1 = (2 : Int32) then nI nw else if a1 = (3 : Int32) then nI (Sn.ho A) else if a1 = (4 : Int32) then nI (Sn.ye A) else if a1 = (5 : Int32) then nI (s2 (fun a b => one (Sn.mi A a b)) n) else if a1 = (6 : Int32) then nI (cn (fun p => decide (Sn.to A p = none)) np) else if a1 = (7 : Int32) then nI (cn (fun v => decide (Sn.wa A v = go v)) nw) else if a1 = (8 : Int32) then nI tl else if a1 = (9 : Int32) then nI sl else if a1 = (10 : Int32) then nI m else if a1 = (11 : Int32) then nI k else if a1 = (12 : Int32) then nI len else (-1 : Int32), fun σ c => ?_⟩
  have cq : CX σ n np nw ki go A m S k K tl tf sl sg len := c
  obtain ⟨hK, c1, c2, c3, t1, u1, x1⟩ := cq
  show f_X6_count σ _ = _
  unfold f_X6_count f_X5_towns f_X3_towns f_X5_posts f_X5_walkers f_X5_hour f_X5_years f_X2_held f_X4_held f_X1_length
  rw [hm_ok hK gY6.2.2.1.1 hV.1 c1.2.1, rc_ok hK gY6 hV c1, cc_ok hK gY6 hV c1, c1.1.1, c1.1.2.1, c1.1.2.2.1, c1.1.2.2.2.1, t1.1, u1.1, c2.1, c3.1, x1]
  rw [show σ (6 + 1) 0 = nI n from c1.2.1.1]
  dsimp only [sb]
  simp only [ite_some]
theorem cnt10 {σ : Sg} (c : CC σ T) : f_X6_count σ 10 = some (nI T.2.1.2.1) := by
  unfold f_X6_count f_X4_held
  rw [if_neg (by decide), if_neg (by decide), if_neg (by decide), if_neg (by decide), if_neg (by decide), if_neg (by decide), if_neg (by decide), if_neg (by decide), if_neg (by decide), if_neg (by decide), if_pos rfl]
  rw [sb, c.2.2.1.1]
theorem d_far (h : OT N T) (a1 a2 : Int32) : Dlk T (fun σ => f_X6_far σ a1 a2) := by
  have h0 := h
  obtain ⟨⟨n, np, nw, ki, go⟩, ⟨A, m, S⟩, ⟨k, K⟩, ⟨tl, tf⟩, ⟨sl, sg⟩, len⟩ := T
  have h : OX N n np nw ki go A m S k K tl tf sl sg len := h
  obtain ⟨⟨n1, n2, n3, n4⟩, v1, v2, v3, ⟨m8, k2⟩, ⟨t3, t4⟩, u3, u4⟩ := h
  have hV := v1.1
  have n8 := hV.n8
  have p8 := hV.np8
  have h5 := hV.nw5
  have hho := v1.2.2.1
  have hye := v1.2.2.2
  rcases in_n (n := n) (by omega) a1 with ⟨x, hx, rfl⟩ | o1
  · rcases in_n (n := n) (by omega) a2 with ⟨y, hy, rfl⟩ | o2
    · refine ⟨oI (dist (Sn.mi A) x y), fun σ c => ?_⟩
      have cq : CX σ n np nw ki go A m S k K tl tf sl sg len := c
      obtain ⟨hK, c1, c2, c3, t1, u1, x1⟩ := cq
      show f_X6_far σ _ _ = _
      unfold f_X6_far
      rw [it_in c1 n8 hx]
      dsimp only [sb]
      rw [if_neg one0, it_in c1 n8 hy]
      dsimp only [sb]
      rw [nn1, pm_ok hK gY6.2.2.1.1 c1.2.2.1 hx hy n8]
      rfl
    · refine ⟨-1, fun σ c => ?_⟩
      have cq : CX σ n np nw ki go A m S k K tl tf sl sg len := c
      obtain ⟨hK, c1, c2, c3, t1, u1, x1⟩ := cq
      show f_X6_far σ _ _ = _
      unfold f_X6_far
      rw [it_in c1 n8 hx]
      dsimp only [sb]
      rw [if_neg one0, it_out c1 o2]
      rfl
  · refine ⟨-1, fun σ c => ?_⟩
    have cq : CX σ n np nw ki go A m S k K tl tf sl sg len := c
    obtain ⟨hK, c1, c2, c3, t1, u1, x1⟩ := cq
    show f_X6_far σ _ _ = _
    unfold f_X6_far
    rw [it_out c1 o1]
    rfl
theorem d_stood (h : OT N T) : Dlk T (fun σ => f_X6_stood σ) := by
  have h0 := h
  obtain ⟨⟨n, np, nw, ki, go⟩, ⟨A, m, S⟩, ⟨k, K⟩, ⟨tl, tf⟩, ⟨sl, sg⟩, len⟩ := T
  have h : OX N n np nw ki go A m S k K tl tf sl sg len := h
  obtain ⟨⟨n1, n2, n3, n4⟩, v1, v2, v3, ⟨m8, k2⟩, ⟨t3, t4⟩, u3, u4⟩ := h
  have hV := v1.1
  have n8 := hV.n8
  have p8 := hV.np8
  have h5 := hV.nw5
  have hho := v1.2.2.1
  have hye := v1.2.2.2
  refine ⟨gb32 (fun x => decide (lw (tBad (Sn.mi A) tf x) 0 tl = none)) n, fun σ c => ?_⟩
  have cq : CX σ n np nw ki go A m S k K tl tf sl sg len := c
  obtain ⟨hK, c1, c2, c3, t1, u1, x1⟩ := cq
  exact c_stood hK hV c1 t1 t3 t4
theorem d_next (h : OT N T) : Dlk T (fun σ => f_X6_next σ) := by
  have h0 := h
  obtain ⟨⟨n, np, nw, ki, go⟩, ⟨A, m, S⟩, ⟨k, K⟩, ⟨tl, tf⟩, ⟨sl, sg⟩, len⟩ := T
  have h : OX N n np nw ki go A m S k K tl tf sl sg len := h
  obtain ⟨⟨n1, n2, n3, n4⟩, v1, v2, v3, ⟨m8, k2⟩, ⟨t3, t4⟩, u3, u4⟩ := h
  have hV := v1.1
  have n8 := hV.n8
  have p8 := hV.np8
  have h5 := hV.nw5
  have hho := v1.2.2.1
  have hye := v1.2.2.2
  have M8 : ∀ v y, mA v (Sn.mi A) n y n ≤ 8 := fun v y => Nat.le_trans (mA_le n) n8
  have g0 : ∀ σ, CX σ n np nw ki go A m S k K tl tf sl sg len → f_X6_stood σ = some (gb32 (fun x => decide (lw (tBad (Sn.mi A) tf x) 0 tl = none)) n) := fun σ c => by
    have cq : CX σ n np nw ki go A m S k K tl tf sl sg len := c
    obtain ⟨hK, c1, c2, c3, t1, u1, x1⟩ := cq
    exact c_stood hK hV c1 t1 t3 t4
  generalize gb32 (fun x => decide (lw (tBad (Sn.mi A) tf x) 0 tl = none)) n = v at g0
  by_cases c0 : v = 0
  · refine ⟨-4, fun σ c => ?_⟩
    show f_X6_next σ = _
    unfold f_X6_next
    rw [g0 σ c, sb, if_neg (fun z => z c0)]
  · refine ⟨o1 (nB (fun y => mA v (Sn.mi A) n y n) n), fun σ c => ?_⟩
    have e0 := g0 σ c
    have cq : CX σ n np nw ki go A m S k K tl tf sl sg len := c
    obtain ⟨hK, c1, c2, c3, t1, u1, x1⟩ := cq
    show f_X6_next σ = _
    unfold f_X6_next
    rw [e0, sb, if_pos c0]
    rw [lp_for0 (b := fun st => f_X6_next_b1 σ v st.1 st.2.1 st.2.2) (s0 := ((-4 : Int32), (0 : Int32), (0 : Int32))) (r := o1 (nB (fun y => mA v (Sn.mi A) n y n) n)) (fun j => (o1 (nB (fun y => mA v (Sn.mi A) n y n) j), o2 0 (nB (fun y => mA v (Sn.mi A) n y n) j), nI j)) n (by omega) ?_ ?_ rfl]
    · rfl
    · intro j hj
      show f_X6_next_b1 σ v (o1 _) (o2 0 _) (nI j) = _
      unfold f_X6_next_b1 f_X5_towns f_X3_towns
      rw [show σ (6 + 1) 0 = nI n from c1.2.1.1, sb, sb, if_neg (nI_ge hj (by omega)), c_mA hK hV.1 c1.2.1 c1.2.2.1 hj, sb, nI_1]
      exact nx_step (M8 v) (by omega)
    · show f_X6_next_b1 σ v (o1 _) (o2 0 _) (nI n) = _
      unfold f_X6_next_b1 f_X5_towns f_X3_towns
      rw [show σ (6 + 1) 0 = nI n from c1.2.1.1, sb, sb, if_pos (nI_le (Nat.le_refl _) (by omega))]
theorem d_comes (h : OT N T) (hN : N < 512) (a1 : Int32) : Det N T (fun σ => f_X6_comes σ a1) := by
  have h0 := h
  obtain ⟨⟨n, np, nw, ki, go⟩, ⟨A, m, S⟩, ⟨k, K⟩, ⟨tl, tf⟩, ⟨sl, sg⟩, len⟩ := T
  have h : OX N n np nw ki go A m S k K tl tf sl sg len := h
  obtain ⟨⟨n1, n2, n3, n4⟩, v1, v2, v3, ⟨m8, k2⟩, ⟨t3, t4⟩, u3, u4⟩ := h
  have hV := v1.1
  have n8 := hV.n8
  have p8 := hV.np8
  have h5 := hV.nw5
  have hho := v1.2.2.1
  have hye := v1.2.2.2
  rcases in_n (n := nw) (by omega) a1 with ⟨v, hv, rfl⟩ | o1
  · refine det_try (r := oI (lw (cmP (Sn.mi A) n np 0 ki (Sn.to A) (Sn.ag A) (Sn.ar A) go (Sn.ho A) (Sn.wa A) v) 0 41)) h0 hN (fun σ c => ?_)
    have cq : CX σ n np nw ki go A m S k K tl tf sl sg len := c
    obtain ⟨hK, c1, c2, c3, t1, u1, x1⟩ := cq
    obtain ⟨σ1, g1, K1, f1, Y1⟩ := yb_ok hK gY20 gY6 (by omega) c1 hV.np8 h5 hV.n8
    obtain ⟨σ2, g2, K2, f2⟩ := cm_cl hv hV (by omega) 41 0 FU σ1 (by omega) (by unfold FU; omega) K1 Y1
    refine ⟨σ2, ?_, K2, fun i hi => (f2 i hi).trans (f1 i hi)⟩
    show f_X6_comes σ _ = _
    unfold f_X6_comes
    rw [iw_in c1 h5 hv]
    dsimp only [sb]
    rw [if_pos one0, g1]
    dsimp only [sb]
    rw [L_0, g2]
    cases lw (cmP (Sn.mi A) n np 0 ki (Sn.to A) (Sn.ag A) (Sn.ar A) go (Sn.ho A) (Sn.wa A) v) 0 41 <;> rfl
  · refine det_no (r := -1) h0 hN (fun σ c => ?_)
    have cq : CX σ n np nw ki go A m S k K tl tf sl sg len := c
    obtain ⟨hK, c1, c2, c3, t1, u1, x1⟩ := cq
    show f_X6_comes σ _ = _
    unfold f_X6_comes; rw [iw_out c1 o1]; rfl
theorem d_trail (h : OT N T) (hN : N < 512) (a1 a2 : Int32) : Det N T (fun σ => f_X6_trail σ a1 a2) := by
  have h0 := h
  obtain ⟨⟨n, np, nw, ki, go⟩, ⟨A, m, S⟩, ⟨k, K⟩, ⟨tl, tf⟩, ⟨sl, sg⟩, len⟩ := T
  have h : OX N n np nw ki go A m S k K tl tf sl sg len := h
  obtain ⟨⟨n1, n2, n3, n4⟩, v1, v2, v3, ⟨m8, k2⟩, ⟨t3, t4⟩, u3, u4⟩ := h
  have hV := v1.1
  have n8 := hV.n8
  have p8 := hV.np8
  have h5 := hV.nw5
  have hho := v1.2.2.1
  have hye := v1.2.2.2
  rcases in_n (n := nw) (by omega) a1 with ⟨v, hv, rfl⟩ | o1
  · rcases in_n (n := 41) (by omega) a2 with ⟨j, hj, rfl⟩ | o2
    · refine det_try (r := nI (hsK (Sn.mi A) n np 0 ki (Sn.to A) (Sn.ag A) (Sn.ar A) go (Sn.ho A) (Sn.wa A) j v)) h0 hN (fun σ c => ?_)
      have cq : CX σ n np nw ki go A m S k K tl tf sl sg len := c
      obtain ⟨hK, c1, c2, c3, t1, u1, x1⟩ := cq
      obtain ⟨σ1, g1, K1, f1, Y1⟩ := yb_ok hK gY20 gY6 (by omega) c1 hV.np8 h5 hV.n8
      obtain ⟨σ2, g2, K2, f2, Y2⟩ := ph_ok K1 gY20 hV Y1 (k := j) (by omega) (by omega)
      refine ⟨σ2, ?_, K2, fun i hi => (f2 i hi).trans (f1 i hi)⟩
      show f_X6_trail σ _ _ = _
      unfold f_X6_trail f_X5_placeOf
      rw [iw_in c1 h5 hv]
      dsimp only [sb]
      rw [if_neg one0, if_neg (nI_pos (by omega)), L_40, if_pos (nI_le (by omega) (by omega)), g1]
      dsimp only [sb]
      rw [g2]
      dsimp only [sb]
      rw [wa0 K2 gY20 Y2 h5 hv]
      rfl
    · refine det_no (r := -1) h0 hN (fun σ c => ?_)
      have cq : CX σ n np nw ki go A m S k K tl tf sl sg len := c
      obtain ⟨hK, c1, c2, c3, t1, u1, x1⟩ := cq
      show f_X6_trail σ _ _ = _
      unfold f_X6_trail
      rw [iw_in c1 h5 hv]
      dsimp only [sb]
      rw [if_neg one0]
      by_cases c : a2 < 0
      · rw [if_pos c]
      · rw [if_neg c, if_neg]
        intro z
        have z2 := o2.resolve_left c
        exact absurd (Int32.le_trans z2 z) (by decide)
  · refine det_no (r := -1) h0 hN (fun σ c => ?_)
    have cq : CX σ n np nw ki go A m S k K tl tf sl sg len := c
    obtain ⟨hK, c1, c2, c3, t1, u1, x1⟩ := cq
    show f_X6_trail σ _ _ = _
    unfold f_X6_trail; rw [iw_out c1 o1]; rfl
theorem d_lost (h : OT N T) (hN : N < 512) : Det N T (fun σ => f_X6_lost σ) := by
  have h0 := h
  obtain ⟨⟨n, np, nw, ki, go⟩, ⟨A, m, S⟩, ⟨k, K⟩, ⟨tl, tf⟩, ⟨sl, sg⟩, len⟩ := T
  have h : OX N n np nw ki go A m S k K tl tf sl sg len := h
  obtain ⟨⟨n1, n2, n3, n4⟩, v1, v2, v3, ⟨m8, k2⟩, ⟨t3, t4⟩, u3, u4⟩ := h
  have hV := v1.1
  have n8 := hV.n8
  have p8 := hV.np8
  have h5 := hV.nw5
  have hho := v1.2.2.1
  have hye := v1.2.2.2
  refine det_try (r := gb32 (fun v => !decide (hsK (Sn.mi A) n np 0 ki (Sn.to A) (Sn.ag A) (Sn.ar A) go (Sn.ho A) (Sn.wa A) 40 v = go v)) nw) h0 hN (fun σ c => ?_)
  have cq : CX σ n np nw ki go A m S k K tl tf sl sg len := c
  obtain ⟨hK, c1, c2, c3, t1, u1, x1⟩ := cq
  obtain ⟨σ1, g1, K1, f1, Y1⟩ := yb_ok hK gY20 gY6 (by omega) c1 hV.np8 h5 n8
  obtain ⟨σ2, g2, K2, f2, Y2⟩ := ph_ok K1 gY20 hV Y1 (k := 40) (by omega) (by omega)
  have hV4 := hsK_lt hV 40 (by omega)
  refine ⟨σ2, ?_, K2, fun i hi => (f2 i hi).trans (f1 i hi)⟩
  show f_X6_lost σ = _
  unfold f_X6_lost
  rw [g1]
  dsimp only [sb]
  rw [L_40, g2]
  dsimp only [sb]
  rw [lp_for0 (b := fun st => f_X6_lost_b1 σ2 st.1 st.2) (s0 := ((0 : Int32), (0 : Int32))) (r := gb32 (fun v => !decide (hsK (Sn.mi A) n np 0 ki (Sn.to A) (Sn.ag A) (Sn.ar A) go (Sn.ho A) (Sn.wa A) 40 v = go v)) nw) (fun j => (gb32 (fun v => !decide (hsK (Sn.mi A) n np 0 ki (Sn.to A) (Sn.ag A) (Sn.ar A) go (Sn.ho A) (Sn.wa A) 40 v = go v)) j, nI j)) nw (by omega) ?_ ?_ rfl]
  · rfl
  · intro j hj
    show f_X6_lost_b1 σ2 (gb32 _ j) (nI j) = _
    unfold f_X6_lost_b1 f_X5_walkers
    rw [Y2.1.2.1]
    dsimp only [sb]
    rw [if_neg (nI_ge hj (by omega)), hc_ok K2 gY20 hV4 Y2 hj, nI_1]
    dsimp only [sb, gb32]
    by_cases e : hsK (Sn.mi A) n np 0 ki (Sn.to A) (Sn.ag A) (Sn.ar A) go (Sn.ho A) (Sn.wa A) 40 j = go j
    · rw [b32_t e, if_pos one0, if_neg (by simp [e])]
    · rw [b32_f e, if_neg (fun z => z rfl), if_pos (by simp [e])]
  · show f_X6_lost_b1 σ2 (gb32 _ nw) (nI nw) = _
    unfold f_X6_lost_b1 f_X5_walkers
    rw [Y2.1.2.1]
    dsimp only [sb]
    rw [if_pos (nI_le (Nat.le_refl _) (by omega))]
theorem d_helps (h : OT N T) (hN : N < 512) (a1 : Int32) : Det N T (fun σ => f_X6_helps σ a1) := by
  have h0 := h
  obtain ⟨⟨n, np, nw, ki, go⟩, ⟨A, m, S⟩, ⟨k, K⟩, ⟨tl, tf⟩, ⟨sl, sg⟩, len⟩ := T
  have h : OX N n np nw ki go A m S k K tl tf sl sg len := h
  obtain ⟨⟨n1, n2, n3, n4⟩, v1, v2, v3, ⟨m8, k2⟩, ⟨t3, t4⟩, u3, u4⟩ := h
  have hV := v1.1
  have n8 := hV.n8
  have p8 := hV.np8
  have h5 := hV.nw5
  have hho := v1.2.2.1
  have hye := v1.2.2.2
  rcases in_n (n := 2) (by omega) a1 with ⟨w, hw, rfl⟩ | o
  · have key : ∀ σ, CX σ n np nw ki go A m S k K tl tf sl sg len → ∃ σ1, f_X6_helps σ (nI w) = f_X6_helps_k1 (nI w) (o1 (hpB (Sn.to A) np (fun t => cX (Sn.mi A) n np nw (2 ^ t) 0 ki (Sn.to A) (Sn.ag A) (Sn.ar A) go (Sn.ho A) (Sn.wa A)) n)) (o2 (-4) (hpB (Sn.to A) np (fun t => cX (Sn.mi A) n np nw (2 ^ t) 0 ki (Sn.to A) (Sn.ag A) (Sn.ar A) go (Sn.ho A) (Sn.wa A)) n)) σ1 ∧ KC σ1 ∧ ∀ i, (i < 20 ∨ 33 < i) → σ1 i = σ i := fun σ c => by
      have cq : CX σ n np nw ki go A m S k K tl tf sl sg len := c
      obtain ⟨hK, c1, c2, c3, t1, u1, x1⟩ := cq
      obtain ⟨⟨r1, r2, σ1⟩, g1, g2, g3, K1, F1⟩ := c_helps hK hV n2 (by omega) c1
      dsimp only at g2 g3 K1 F1
      refine ⟨σ1, ?_, K1, F1⟩
      subst g2 g3
      unfold f_X6_helps
      rw [if_neg (nI_pos (by omega)), L_1, if_pos (nI_le (by omega) (by omega)), g1]
      rfl
    unfold f_X6_helps_k1 at key
    cases o : hpB (Sn.to A) np (fun t => cX (Sn.mi A) n np nw (2 ^ t) 0 ki (Sn.to A) (Sn.ag A) (Sn.ar A) go (Sn.ho A) (Sn.wa A)) n with
    | none =>
      rw [o] at key
      refine det_try (r := -4) h0 hN (fun σ c => ?_)
      obtain ⟨σ1, e, K1, F1⟩ := key σ c
      refine ⟨σ1, e.trans ?_, K1, F1⟩
      split <;> rfl
    | some r =>
      rw [o] at key
      by_cases c0 : nI w = 0
      · refine det_try (r := o1 (some r)) h0 hN (fun σ c => ?_)
        obtain ⟨σ1, e, K1, F1⟩ := key σ c
        refine ⟨σ1, e.trans ?_, K1, F1⟩
        rw [if_neg (fun z => z c0)]
      · refine det_try (r := o2 (-4) (some r)) h0 hN (fun σ c => ?_)
        obtain ⟨σ1, e, K1, F1⟩ := key σ c
        refine ⟨σ1, e.trans ?_, K1, F1⟩
        rw [if_pos c0]
  · refine det_no (r := -1) h0 hN (fun σ c => ?_)
    show f_X6_helps σ _ = _
    unfold f_X6_helps
    by_cases c : a1 < 0
    · rw [if_pos c]
    · rw [if_neg c, if_neg]
      intro z
      exact absurd (Int32.le_trans (o.resolve_left c) z) (by decide)
theorem d_kinds (h : OT N T) (hN : N < 512) (a1 : Int32) : Det N T (fun σ => f_X6_kinds σ a1) := by
  have h0 := h
  obtain ⟨⟨n, np, nw, ki, go⟩, ⟨A, m, S⟩, ⟨k, K⟩, ⟨tl, tf⟩, ⟨sl, sg⟩, len⟩ := T
  have h : OX N n np nw ki go A m S k K tl tf sl sg len := h
  obtain ⟨⟨n1, n2, n3, n4⟩, v1, v2, v3, ⟨m8, k2⟩, ⟨t3, t4⟩, u3, u4⟩ := h
  have hV := v1.1
  have n8 := hV.n8
  have p8 := hV.np8
  have h5 := hV.nw5
  have hho := v1.2.2.1
  have hye := v1.2.2.2
  rcases in_n (n := np) (by omega) a1 with ⟨p, hp, rfl⟩ | o1
  · refine det_try (r := gb32 (fun k => decide (lw (kBad (Sn.mi A) n (Sn.ho A) (Sn.to A) (Sn.ag A) (Sn.ar A) p sg k) 0 sl = none)) 4) h0 hN (fun σ c => ?_)
    have cq : CX σ n np nw ki go A m S k K tl tf sl sg len := c
    obtain ⟨hK, c1, c2, c3, t1, u1, x1⟩ := cq
    obtain ⟨σ1, g1, K1, f1, Y1⟩ := yb_ok hK gY20 gY6 (by omega) c1 hV.np8 hV.nw5 hV.n8
    obtain ⟨⟨r, σ2⟩, g2, g3, K2, F2⟩ := lp_inv (b := fun st => f_X6_kinds_b1 (nI p) st.1 st.2.1 st.2.2) (s0 := ((0 : Int32), (0 : Int32), σ1)) (Post := fun (q : Int32 × Sg) => q.1 = gb32 (fun k => decide (lw (kBad (Sn.mi A) n (Sn.ho A) (Sn.to A) (Sn.ag A) (Sn.ar A) p sg k) 0 sl = none)) 4 ∧ KC q.2 ∧ (∀ i, (i < 20 ∨ 33 < i) → q.2 i = σ i)) (fun j (s : Int32 × Int32 × Sg) => s.1 = gb32 (fun k => decide (lw (kBad (Sn.mi A) n (Sn.ho A) (Sn.to A) (Sn.ag A) (Sn.ar A) p sg k) 0 sl = none)) j ∧ s.2.1 = nI j ∧ KC s.2.2 ∧ (∀ i, (i < 20 ∨ 33 < i) → s.2.2 i = σ i) ∧ ∃ ki', (∀ p, ki' p ≤ 3) ∧ YC s.2.2 20 n (Sn.mi A) np nw (Sn.ho A) (Sn.ye A) 0 ki' (Sn.to A) (Sn.ag A) (Sn.ar A) (Sn.am A) (Sn.wa A) go) 4 (by omega) ⟨rfl, rfl, K1, fun i hi => f1 i (by omega), ki, hV.kiL, Y1⟩ (by
      rintro j ⟨y1, y2, τ⟩ hj ⟨e1, e2, Kt, ft, ki', hk, Yt⟩
      dsimp only at e1 e2 Kt ft Yt
      subst e1 e2
      obtain ⟨τ', q1, q2, q3, q4⟩ := ti_ok (k := j) Kt gY20 Yt p8 hp
      have F : ∀ i, (i < 20 ∨ 33 < i) → τ' i = σ i := fun i hi => (q3 i (by omega)).trans (ft i hi)
      have hk' : ∀ q, upN ki' p j q ≤ 3 := fun q => by
        unfold upN
        split
        · omega
        · exact hk q
      have fo := fi_ok q2 (VY_ki hV hk') q4 (NT_fr u1 (F _ (by omega)) (F _ (by omega)) (F _ (by omega)) (F _ (by omega)) (F _ (by omega))) u3 u4 hp
      rw [upN_at] at fo
      show ∃ s', f_X6_kinds_b1 (nI p) (gb32 _ j) (nI j) τ = _ ∧ _
      unfold f_X6_kinds_b1
      rw [L_4, if_neg (nI_ge hj (by omega)), q1, sb, fo, sb, nI_1]
      by_cases e : lw (kBad (Sn.mi A) n (Sn.ho A) (Sn.to A) (Sn.ag A) (Sn.ar A) p sg j) 0 sl = none
      · rw [b32_t e, if_neg one0]
        exact ⟨_, rfl, by dsimp only [gb32]; rw [if_pos (decide_eq_true e)], rfl, q2, F, _, hk', q4⟩
      · rw [b32_f e, if_pos rfl]
        exact ⟨_, rfl, by dsimp only [gb32]; rw [if_neg (by simp [e])], rfl, q2, F, _, hk', q4⟩) (by
      rintro ⟨y1, y2, τ⟩ ⟨e1, e2, Kt, ft, -⟩
      dsimp only at e1 e2 Kt ft
      subst e2
      show ∃ s', f_X6_kinds_b1 (nI p) y1 (nI 4) τ = _ ∧ _
      unfold f_X6_kinds_b1
      rw [L_4, if_pos (nI_le (Nat.le_refl _) (by omega))]
      exact ⟨_, rfl, e1, Kt, ft⟩)
    dsimp only at g3 K2 F2
    subst g3
    refine ⟨σ2, ?_, K2, F2⟩
    show f_X6_kinds σ _ = _
    unfold f_X6_kinds
    rw [ip_in c1 p8 hp, sb, if_pos one0, g1, sb, g2, sb]
    rfl
  · refine det_no (r := -1) h0 hN (fun σ c => ?_)
    have cq : CX σ n np nw ki go A m S k K tl tf sl sg len := c
    obtain ⟨hK, c1, c2, c3, t1, u1, x1⟩ := cq
    show f_X6_kinds σ _ = _
    unfold f_X6_kinds; rw [ip_out c1 o1]; rfl
theorem d_likely (h : OT N T) (hN : N < 512) (a1 a2 a3 : Int32) : Det N T (fun σ => f_X6_likely σ a1 a2 a3) := by
  have h0 := h
  obtain ⟨⟨n, np, nw, ki, go⟩, ⟨A, m, S⟩, ⟨k, K⟩, ⟨tl, tf⟩, ⟨sl, sg⟩, len⟩ := T
  have h : OX N n np nw ki go A m S k K tl tf sl sg len := h
  obtain ⟨⟨n1, n2, n3, n4⟩, v1, v2, v3, ⟨m8, k2⟩, ⟨t3, t4⟩, u3, u4⟩ := h
  have hV := v1.1
  have n8 := hV.n8
  have p8 := hV.np8
  have h5 := hV.nw5
  have hho := v1.2.2.1
  have hye := v1.2.2.2
  rcases in_n (n := nw) (by omega) a1 with ⟨v, hv, rfl⟩ | o1
  · rcases in_n (n := 11) (by omega) a2 with ⟨x, hx, rfl⟩ | o2
    · rcases in_n (n := 2) (by omega) a3 with ⟨w, hw, rfl⟩ | o3
      · have dn := wN_sum (to := Sn.to A) (x := x) (by omega) np
        have d1 := wD_le (to := Sn.to A) np
        have d2 := p10 n2
        have ub : sm (fun s => wC (Sn.mi A) n np ki (Sn.to A) (Sn.ag A) (Sn.ar A) go (Sn.ho A) (Sn.wa A) v x s) (2 ^ np) ≤ wD (Sn.to A) np := by
          rw [← dn]
          refine sm_le _ (fun s => ?_)
          show wC _ _ _ _ _ _ _ _ _ _ _ _ s ≤ _
          unfold wC
          split
          · exact Nat.le_refl _
          · exact Nat.zero_le _
        have key : ∀ σ, CX σ n np nw ki go A m S k K tl tf sl sg len → ∃ σ1, f_X6_likely σ (nI v) (nI x) (nI w) = f_X6_likely_k1 (nI w) (nI (sm (fun s => wC (Sn.mi A) n np ki (Sn.to A) (Sn.ag A) (Sn.ar A) go (Sn.ho A) (Sn.wa A) v x s) (2 ^ np))) (nI (wD (Sn.to A) np)) σ1 ∧ KC σ1 ∧ ∀ i, (i < 20 ∨ 33 < i) → σ1 i = σ i := fun σ c => by
          have cq : CX σ n np nw ki go A m S k K tl tf sl sg len := c
          obtain ⟨hK, c1, c2, c3, t1, u1, x1⟩ := cq
          obtain ⟨⟨r1, r2, σ1⟩, g1, g2, g3, K1, F1⟩ := c_likely hK hV n2 (by omega) c1 hv (x := x) (by omega) (fun _ => rfl) (fun _ => rfl)
          dsimp only at g2 g3 K1 F1
          rw [dn] at g3
          refine ⟨σ1, ?_, K1, F1⟩
          subst g2 g3
          unfold f_X6_likely f_X5_posts
          rw [iw_in c1 h5 hv, sb, if_neg one0, if_neg (nI_pos (by omega)), L_10, if_neg (nI_nlt (by omega) (by omega)), if_neg (nI_pos (by omega)), L_1, if_pos (nI_le (by omega) (by omega)), c1.1.1, sb, g1, sb]
        generalize sm (fun s => wC (Sn.mi A) n np ki (Sn.to A) (Sn.ag A) (Sn.ar A) go (Sn.ho A) (Sn.wa A) v x s) (2 ^ np) = up at key ub
        generalize wD (Sn.to A) np = dw at key d1 ub dn
        have gp : 0 < Nat.gcd up dw := Nat.gcd_pos_of_pos_right _ (by omega)
        have gl : Nat.gcd up dw ≤ dw := Nat.le_of_dvd (by omega) (Nat.gcd_dvd_right _ _)
        unfold f_X6_likely_k1 at key
        by_cases c0 : nI w = 0
        · refine det_try (r := nI (up / Nat.gcd up dw)) h0 hN (fun σ c => ?_)
          obtain ⟨σ1, e, K1, F1⟩ := key σ c
          rw [cmn_ok (by omega) (by omega), sb, L_1, if_pos (nI_le (by omega) (by omega)), di_n (by omega) (by omega) gp, sb, di_n (by omega) (by omega) gp, sb, if_neg (fun z => z c0)] at e
          exact ⟨σ1, e, K1, F1⟩
        · refine det_try (r := nI (dw / Nat.gcd up dw)) h0 hN (fun σ c => ?_)
          obtain ⟨σ1, e, K1, F1⟩ := key σ c
          rw [cmn_ok (by omega) (by omega), sb, L_1, if_pos (nI_le (by omega) (by omega)), di_n (by omega) (by omega) gp, sb, di_n (by omega) (by omega) gp, sb, if_pos c0] at e
          exact ⟨σ1, e, K1, F1⟩
      · refine det_no (r := -1) h0 hN (fun σ c => ?_)
        have cq : CX σ n np nw ki go A m S k K tl tf sl sg len := c
        obtain ⟨hK, c1, c2, c3, t1, u1, x1⟩ := cq
        show f_X6_likely σ _ _ _ = _
        unfold f_X6_likely
        rw [iw_in c1 h5 hv, sb, if_neg one0, if_neg (nI_pos (by omega)), L_10, if_neg (nI_nlt (by omega) (by omega))]
        exact what_out o3
    · refine det_no (r := -1) h0 hN (fun σ c => ?_)
      have cq : CX σ n np nw ki go A m S k K tl tf sl sg len := c
      obtain ⟨hK, c1, c2, c3, t1, u1, x1⟩ := cq
      show f_X6_likely σ _ _ _ = _
      unfold f_X6_likely
      rw [iw_in c1 h5 hv, sb, if_neg one0]
      rcases rng_no o2 (by omega) with z | z
      · rw [if_pos z]
      · rw [L_10, if_pos z, ite_self]
  · refine det_no (r := -1) h0 hN (fun σ c => ?_)
    have cq : CX σ n np nw ki go A m S k K tl tf sl sg len := c
    obtain ⟨hK, c1, c2, c3, t1, u1, x1⟩ := cq
    show f_X6_likely σ _ _ _ = _
    unfold f_X6_likely; rw [iw_out c1 o1]; rfl
theorem d_century (h : OT N T) (hN : N < 512) (a1 a2 a3 : Int32) : Det N T (fun σ => f_X6_century σ a1 a2 a3) := by
  have h0 := h
  obtain ⟨⟨n, np, nw, ki, go⟩, ⟨A, m, S⟩, ⟨k, K⟩, ⟨tl, tf⟩, ⟨sl, sg⟩, len⟩ := T
  have h : OX N n np nw ki go A m S k K tl tf sl sg len := h
  obtain ⟨⟨n1, n2, n3, n4⟩, v1, v2, v3, ⟨m8, k2⟩, ⟨t3, t4⟩, u3, u4⟩ := h
  have hV := v1.1
  have n8 := hV.n8
  have p8 := hV.np8
  have h5 := hV.nw5
  have hho := v1.2.2.1
  have hye := v1.2.2.2
  have hA := OK_VA v1
  rcases in_n (n := 10000) (by omega) a1 with ⟨z, hz, rfl⟩ | o1
  · rcases in_p (n := 60) (by omega) a2 with ⟨t, ht1, ht2, rfl⟩ | o2
    · rcases in_n (n := 3) (by omega) a3 with ⟨w, hw, rfl⟩ | o3
      · obtain ⟨V3, -, -⟩ := cA_ok hA (by omega) (by omega) (z := z) t ht2
        have key : ∀ σ, CX σ n np nw ki go A m S k K tl tf sl sg len → ∃ σ1, f_X6_century σ (nI z) (nI t) (nI w) = (if nI w = (0 : Int32) then some (nI (cn (fun v => decide (Sn.wa (cA n np z ki go A t) v = go v)) nw), σ1) else if nI w = (1 : Int32) then some (nI (cn (fun p => decide (Sn.to (cA n np z ki go A t) p = none)) np), σ1) else some (nI (s2 (Sn.mi (cA n np z ki go A t)) n), σ1)) ∧ KC σ1 ∧ ∀ i, (i < 20 ∨ 33 < i) → σ1 i = σ i := fun σ c => by
          have cq : CX σ n np nw ki go A m S k K tl tf sl sg len := c
          obtain ⟨hK, c1, c2, c3, t1, u1, x1⟩ := cq
          obtain ⟨σ0, g0, K0, F0, Y0⟩ := yb_ok hK gY20 gY6 (by omega) c1 p8 h5 n8
          obtain ⟨σ1, g1, K1, F1, Y1⟩ := c_cen K0 hA n1 (by omega) (by omega) Y0 (z := z) (N := t) (by omega) ht2
          refine ⟨σ1, ?_, K1, fun i hi => (F1 i hi).trans (F0 i (by omega))⟩
          unfold f_X6_century
          rw [if_neg (nI_pos (by omega)), L_9999, if_neg (nI_nlt (by omega) (by omega)), L_1, if_neg (nI_nlt (by omega) (by omega)), L_60, if_neg (nI_nlt (by omega) (by omega)), if_neg (nI_pos (by omega)), L_2, if_pos (nI_le (by omega) (by omega)), g0, sb, g1, sb]
          unfold f_X6_century_k1
          rw [cc_ok K1 gY20 V3.1 Y1, sb, rc_ok K1 gY20 V3.1 Y1, sb, ma_ok K1 gY20.2.2.1.1 V3.1.1 Y1.2.1, sb]
          rfl
        rcases (show w = 0 ∨ w = 1 ∨ w = 2 by omega) with rfl | rfl | rfl
        · refine det_try (r := nI (cn (fun v => decide (Sn.wa (cA n np z ki go A t) v = go v)) nw)) h0 hN (fun σ c => ?_)
          obtain ⟨σ1, e, K1, F1⟩ := key σ c
          rw [if_pos (by decide)] at e
          exact ⟨σ1, e, K1, F1⟩
        · refine det_try (r := nI (cn (fun p => decide (Sn.to (cA n np z ki go A t) p = none)) np)) h0 hN (fun σ c => ?_)
          obtain ⟨σ1, e, K1, F1⟩ := key σ c
          rw [if_neg (by decide), if_pos (by decide)] at e
          exact ⟨σ1, e, K1, F1⟩
        · refine det_try (r := nI (s2 (Sn.mi (cA n np z ki go A t)) n)) h0 hN (fun σ c => ?_)
          obtain ⟨σ1, e, K1, F1⟩ := key σ c
          rw [if_neg (by decide), if_neg (by decide)] at e
          exact ⟨σ1, e, K1, F1⟩
      · refine det_no (r := -1) h0 hN (fun σ c => ?_)
        show f_X6_century σ _ _ _ = _
        unfold f_X6_century
        rw [if_neg (nI_pos (by omega)), L_9999, if_neg (nI_nlt (by omega) (by omega)), L_1, if_neg (nI_nlt (by omega) (by omega)), L_60, if_neg (nI_nlt (by omega) (by omega))]
        exact what3_out o3
    · refine det_no (r := -1) h0 hN (fun σ c => ?_)
      show f_X6_century σ _ _ _ = _
      unfold f_X6_century
      rw [if_neg (nI_pos (by omega)), L_9999, if_neg (nI_nlt (by omega) (by omega))]
      rcases o2 with z | z
      · rw [if_pos z]
      · rw [L_60, if_pos z, ite_self]
  · refine det_no (r := -1) h0 hN (fun σ c => ?_)
    show f_X6_century σ _ _ _ = _
    unfold f_X6_century
    rcases rng_no o1 (by omega) with z | z
    · rw [if_pos z]
    · rw [L_9999, if_pos z, ite_self]
end DT
