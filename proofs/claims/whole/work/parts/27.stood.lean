/-! Part 27: where a post stood, what to ask next, of which kind. -/
theorem lp_lw {T R : Type} {b : T → Option (T ⊕ R)} {P : Nat → Bool} (I : Nat → T) (hit : Nat → R) (r0 : R) : ∀ (k j M : Nat), k < M → (∀ i, j ≤ i → i < j + k → b (I i) = some (if P i = true then .inr (hit i) else .inl (I (i + 1)))) → b (I (j + k)) = some (.inr r0) → lp b M (I j) = some (match lw P j k with
    | some u => hit u
    | none => r0)
  | 0, j, M + 1, _, _, h2 => lp_end h2
  | k + 1, j, M + 1, hm, h1, h2 => by
    have e := h1 j (Nat.le_refl _) (by omega)
    unfold lw
    by_cases c : P j = true
    · rw [if_pos c] at e ⊢
      exact lp_end e
    · rw [if_neg c] at e ⊢
      exact (lp_go e).trans (lp_lw I hit r0 k (j + 1) M (by omega) (fun i a d => h1 i (by omega) (by omega)) (by rw [show j + 1 + k = j + (k + 1) by omega]; exact h2))
theorem lp_is {b : Int32 × Int32 → Option ((Int32 × Int32) ⊕ Int32)} {P : Nat → Bool} {N : Nat} (hN : N < 4096) (h1 : ∀ i, i < N → b (0, nI i) = some (.inl (0, nI (i + 1)))) (h2 : ∀ i, i < N → b (1, nI i) = some (.inl (if P i = true then 0 else 1, nI (i + 1)))) (h3 : ∀ x, b (x, nI N) = some (.inr x)) : lp b FU ((1 : Int32), (0 : Int32)) = some (b32 (lw P 0 N = none)) := by
  refine lp_for0 (fun j => (b32 (lw P 0 j = none), nI j)) N hN (fun j hj => ?_) (h3 _) rfl
  have sn := lw_snoc (P := P) (k := j) (j := 0)
  rw [Nat.zero_add] at sn
  cases o : lw P 0 j with
  | some u =>
    rw [o] at sn
    dsimp only at sn ⊢
    rw [sn, b32_f (p := some u = none) (fun z => by cases z)]
    exact h1 j hj
  | none =>
    rw [o] at sn
    dsimp only at sn ⊢
    rw [b32_t rfl]
    rw [h2 j hj]
    by_cases c : P j = true
    · rw [if_pos c] at sn ⊢
      rw [sn, b32_f (p := some j = none) (fun z => by cases z)]
    · rw [if_neg c] at sn ⊢
      rw [sn, b32_t rfl]
theorem fN_eq {a b : Option Nat} (ha : ∀ x, a = some x → x ≤ 2304) (hb : ∀ x, b = some x → x ≤ 2304) : nI (fN a) = nI (fN b) ↔ a = b := by
  have la : fN a ≤ 100000 := by
    cases a with
    | none => exact Nat.le_refl _
    | some x => have := ha x rfl; show x ≤ 100000; omega
  have lb : fN b ≤ 100000 := by
    cases b with
    | none => exact Nat.le_refl _
    | some x => have := hb x rfl; show x ≤ 100000; omega
  rw [nI_eq (by omega) (by omega)]
  refine ⟨fun h => ?_, fun h => by rw [h]⟩
  cases a with
  | none =>
    cases b with
    | none => rfl
    | some y => have := hb y rfl; exact absurd (show 100000 = y from h) (by omega)
  | some x =>
    cases b with
    | none => have := ha x rfl; exact absurd (show x = 100000 from h) (by omega)
    | some y => exact congrArg some h
theorem g179 : gd (178 + 1) 3 18 := gd_of (by decide +kernel)
theorem g182 : gd (181 + 1) 3 18 := gd_of (by decide +kernel)
theorem l201 : ln 201 = 6 := by decide
theorem l202 : ln 202 = 6 := by decide
theorem l203 : ln 203 = 6 := by decide
theorem l204 : ln 204 = 6 := by decide
theorem l205 : ln 205 = 6 := by decide
theorem l206 : ln 206 = 6 := by decide
section NO
variable {σ : Sg} {n : Nat} {mi : Mi} {np nw ho ye : Nat} {ki : Nat → Nat} {to : Nat → Option Nat} {ag : Nat → Nat} {ar am : Nat → Nat → Option Nat} {wa go : Nat → Nat} {tl : Nat} {tf : Nat → Nat × Nat × Nat} {sl : Nat} {sg : Nat → Nat × Nat × Nat}
theorem nt0 {r1 r2 r3 : Nat} (hK : KC σ) (h : NT σ 178 r1 r2 r3 tl tf) (h6 : tl ≤ 6) {i : Nat} (hi : i < tl) : f_X2_number σ 178 (nI i) (0 : Int32) = some (nI (tf i).1) ∧ f_X2_number σ 178 (nI i) (1 : Int32) = some (nI (tf i).2.1) ∧ f_X2_number σ 178 (nI i) (2 : Int32) = some (nI (tf i).2.2) := by
  have q := (h.2 i hi).1
  unfold f_X2_number
  rw [at_lit 0 hK g179 (by omega) (by omega) (show (0 : Int32) = nI 0 from rfl), at_lit 1 hK g179 (by omega) (by omega) (show (1 : Int32) = nI 1 from rfl), at_lit 2 hK g179 (by omega) (by omega) (show (2 : Int32) = nI 2 from rfl), q.1, q.2.1, q.2.2]
  exact ⟨rfl, rfl, rfl⟩
theorem nt1 {r1 r2 r3 : Nat} (hK : KC σ) (h : NT σ 181 r1 r2 r3 tl tf) (h6 : tl ≤ 6) {i : Nat} (hi : i < tl) : f_X2_number σ 181 (nI i) (0 : Int32) = some (nI (tf i).1) ∧ f_X2_number σ 181 (nI i) (1 : Int32) = some (nI (tf i).2.1) ∧ f_X2_number σ 181 (nI i) (2 : Int32) = some (nI (tf i).2.2) := by
  have q := (h.2 i hi).1
  unfold f_X2_number
  rw [at_lit 0 hK g182 (by omega) (by omega) (show (0 : Int32) = nI 0 from rfl), at_lit 1 hK g182 (by omega) (by omega) (show (1 : Int32) = nI 1 from rfl), at_lit 2 hK g182 (by omega) (by omega) (show (2 : Int32) = nI 2 from rfl), q.1, q.2.1, q.2.2]
  exact ⟨rfl, rfl, rfl⟩
def tBad (mi : Mi) (tf : Nat → Nat × Nat × Nat) (x i : Nat) : Bool := !(decide (fs mi x (tf i).1 = some (tf i).2.1) && decide (dist mi x (tf i).1 = some (tf i).2.2))
theorem ta_ok (hK : KC σ) (hV : VM n mi) (hR : RC σ 7 n mi) (hP : PC σ 7 n mi) (hT : NT σ 178 201 202 203 tl tf) (h6 : tl ≤ 6) (hb : ∀ i, i < tl → (tf i).1 < n ∧ (tf i).2.1 < n ∧ (tf i).2.2 ≤ 72) {x : Nat} (hx : x < n) : f_X6_tellsAll σ (nI x) = some (b32 (lw (tBad mi tf x) 0 tl = none)) := by
  have h8 := hV.2.1
  unfold f_X6_tellsAll
  have e := lp_lw (b := fun st => f_X6_tellsAll_b1 σ (nI x) st) (P := tBad mi tf x) (fun i => nI i) (fun _ => Sum.inl ()) (Sum.inr ()) tl 0 FU (by unfold FU; omega) (fun i _ hi => by
    have hi : i < tl := by omega
    obtain ⟨q1, q2, q3⟩ := nt0 hK hT h6 hi
    obtain ⟨b1, b2, b3⟩ := hb i hi
    show f_X6_tellsAll_b1 σ (nI x) (nI i) = _
    unfold f_X6_tellsAll_b1 f_X2_held
    rw [hT.1, sb, if_neg (nI_ge hi (by omega)), q1, sb, fs_ok hK gY6.2.2.1.1 hV hR hP hx b1, sb, q2, sb, pm_ok hK gY6.2.2.1.1 hP hx b1 h8, sb, q3, sb, nI_1]
    unfold tBad
    by_cases c : fs mi x (tf i).1 = some (tf i).2.1
    · have c' : oI (fs mi x (tf i).1) = nI (tf i).2.1 := by rw [c]; rfl
      rw [if_neg (fun z => z c'), decide_eq_true c, Bool.true_and]
      by_cases d : dist mi x (tf i).1 = some (tf i).2.2
      · rw [if_pos (show oI (dist mi x (tf i).1) = nI (tf i).2.2 by rw [d]; rfl), decide_eq_true d]; rfl
      · rw [if_neg (fun z => d ((oI_eqs (fun w hw => by have := dN_2304 hV.2.2.1 (Nat.le_refl 8) hw; omega) (by omega)).mp z)), decide_eq_false d]; rfl
    · rw [if_pos (fun z => c ((oI_eqs (fun w hw => by have := (fs_lt hV hw).1; omega) (by omega)).mp z)), decide_eq_false c, Bool.false_and]; rfl) (by
    show f_X6_tellsAll_b1 σ (nI x) (nI (0 + tl)) = _
    unfold f_X6_tellsAll_b1 f_X2_held
    rw [hT.1, sb, Nat.zero_add, if_pos (nI_le (Nat.le_refl _) (by omega))])
  rw [show (0 : Int32) = nI 0 from rfl, e, sb]
  cases lw (tBad mi tf x) 0 tl <;> rfl
theorem c_stood (hK : KC σ) (hV : VY n mi np nw ho ye 0 ki to ag ar am wa go) (h : YC σ 6 n mi np nw ho ye 0 ki to ag ar am wa go) (hT : NT σ 178 201 202 203 tl tf) (h6 : tl ≤ 6) (hb : ∀ i, i < tl → (tf i).1 < n ∧ (tf i).2.1 < n ∧ (tf i).2.2 ≤ 72) : f_X6_stood σ = some (gb32 (fun x => decide (lw (tBad mi tf x) 0 tl = none)) n) := by
  have h8 := hV.n8
  unfold f_X6_stood
  rw [lp_for0 (b := fun st => f_X6_stood_b1 σ st.1 st.2) (s0 := ((0 : Int32), (0 : Int32))) (r := gb32 (fun x => decide (lw (tBad mi tf x) 0 tl = none)) n) (fun j => (gb32 (fun x => decide (lw (tBad mi tf x) 0 tl = none)) j, nI j)) n (by omega) ?_ ?_ rfl]
  · rfl
  · intro j hj
    show f_X6_stood_b1 σ (gb32 _ j) (nI j) = _
    unfold f_X6_stood_b1 f_X5_towns f_X3_towns
    rw [show σ (6 + 1) 0 = nI n from h.2.1.1, sb, sb, if_neg (nI_ge hj (by omega)), ta_ok hK hV.1 h.2.1 h.2.2.1 hT h6 hb hj, sb, nI_1]
    dsimp only [gb32]
    by_cases e : lw (tBad mi tf j) 0 tl = none
    · rw [b32_t e, if_neg one0, if_pos (decide_eq_true e)]
    · rw [b32_f e, if_pos rfl, if_neg (by simp [e])]
  · show f_X6_stood_b1 σ (gb32 _ n) (nI n) = _
    unfold f_X6_stood_b1 f_X5_towns f_X3_towns
    rw [show σ (6 + 1) 0 = nI n from h.2.1.1, sb, sb, if_pos (nI_le (Nat.le_refl _) (by omega))]
theorem ms_lp (hV : VY n mi np nw ho ye 0 ki to ag ar am wa go) (hP : PF σ (dist mi)) (h : MC σ 195 mi np nw ho ye to ag ar am wa) (hT : NT σ 178 201 202 203 tl tf) (hT2 : σ 184 28 = nI tl) (h6 : tl ≤ 6) (hb : ∀ i, i < tl → (tf i).1 < n ∧ (tf i).2.1 < n ∧ (tf i).2.2 ≤ 72) {x : Nat} (hx : x < n) : lp (fun st => f_X7_stood_b1 σ (nI x) st.1 st.2) FU ((1 : Int32), (0 : Int32)) = some (b32 (lw (tBad mi tf x) 0 tl = none)) := by
  have h8 := hV.n8
  refine lp_is (by omega) (fun i hi => ?_) (fun i hi => ?_) (fun y => ?_)
  · show f_X7_stood_b1 σ (nI x) 0 (nI i) = _
    unfold f_X7_stood_b1
    rw [hT2, if_neg (nI_ge hi (by omega)), if_pos rfl, nI_1]
  · obtain ⟨b1, b2, b3⟩ := hb i hi
    obtain ⟨-, q1, q2, q3⟩ := hT.2 i hi
    have dl : ∀ w, dist mi x (tf i).1 = some w → w ≤ 2304 := fun w hw => dN_2304 hV.1.2.2.1 (Nat.le_refl 8) hw
    show f_X7_stood_b1 σ (nI x) 1 (nI i) = _
    unfold f_X7_stood_b1
    rw [hT2, if_neg (nI_ge hi (by omega)), if_neg one0, l201, l202, l203, ga_n (by omega) (by omega), ga_n (by omega) (by omega), ga_n (by omega) (by omega), q1, q2, q3, sb, nx_ok (Or.inl rfl) hV.1.2.2.1 h.1 hP (by omega) (by omega), sb, sb, sb, L_8, nI_mul, nI_add, l199, ga_n (by omega) (by omega), hP x _ (by omega) (by omega), sb, sb, nI_1]
    unfold tBad
    by_cases c : fs mi x (tf i).1 = some (tf i).2.1
    · have c' : oI (fs mi x (tf i).1) = nI (tf i).2.1 := by rw [c]; rfl
      rw [if_neg (fun z => z c'), decide_eq_true c, Bool.true_and]
      by_cases d : dist mi x (tf i).1 = some (tf i).2.2
      · rw [if_neg (fun z => z (show nI (fN (dist mi x (tf i).1)) = nI (tf i).2.2 by rw [d]; rfl)), decide_eq_true d]; rfl
      · have d' : ¬ nI (fN (dist mi x (tf i).1)) = nI (tf i).2.2 := fun z => d ((fN_eq (b := some (tf i).2.2) dl (fun w hw => by cases hw; omega)).mp z)
        rw [if_pos d', decide_eq_false d]; rfl
    · rw [if_pos (fun z => c ((oI_eqs (fun w hw => by have := (fs_lt hV.1 hw).1; omega) (by omega)).mp z)), decide_eq_false c, Bool.false_and]; rfl
  · show f_X7_stood_b1 σ (nI x) y (nI tl) = _
    unfold f_X7_stood_b1
    rw [hT2, if_pos (nI_le (Nat.le_refl _) (by omega))]
theorem m_stood (hV : VY n mi np nw ho ye 0 ki to ag ar am wa go) (hS : ST σ n np nw ki go) (h : MC σ 195 mi np nw ho ye to ag ar am wa) (hT : NT σ 178 201 202 203 tl tf) (hT2 : σ 184 28 = nI tl) (h6 : tl ≤ 6) (hb : ∀ i, i < tl → (tf i).1 < n ∧ (tf i).2.1 < n ∧ (tf i).2.2 ≤ 72) : ∃ σ2, f_X7_stood σ = some (gb32 (fun x => decide (lw (tBad mi tf x) 0 tl = none)) n, σ2) ∧ (∀ i, i ≠ 199 → σ2 i = σ i) ∧ PF σ2 (dist mi) := by
  have h8 := hV.n8
  obtain ⟨σ2, g1, g2, g3⟩ := me_ok (Or.inl rfl) hV.1.2.2.1 h.1
  have T2 : NT σ2 178 201 202 203 tl tf := NT_fr hT (g2 _ (by omega)) (g2 _ (by omega)) (g2 _ (by omega)) (g2 _ (by omega)) (g2 _ (by omega))
  refine ⟨σ2, ?_, g2, g3⟩
  unfold f_X7_stood
  rw [g1, sb]
  rw [lp_for0 (b := fun st => f_X7_stood_b2 σ2 st.1 st.2) (s0 := ((0 : Int32), (0 : Int32))) (r := gb32 (fun x => decide (lw (tBad mi tf x) 0 tl = none)) n) (fun j => (gb32 (fun x => decide (lw (tBad mi tf x) 0 tl = none)) j, nI j)) n (by omega) ?_ ?_ rfl]
  · rfl
  · intro j hj
    show f_X7_stood_b2 σ2 (gb32 _ j) (nI j) = _
    unfold f_X7_stood_b2
    rw [show ga (σ2 186) (ln 186) (0 : Int32) = some (nI n) by rw [L_0, l186, ga_n (by omega) (by omega), g2 _ (by omega), hS.1], sb, if_neg (nI_ge hj (by omega)), ms_lp hV g3 (MC_fr h (g2 _ (by omega))) T2 (by rw [g2 _ (by omega)]; exact hT2) h6 hb hj, sb]
    unfold f_X7_stood_k1
    rw [nI_1]
    dsimp only [gb32]
    by_cases e : lw (tBad mi tf j) 0 tl = none
    · rw [b32_t e, if_neg one0, if_pos (decide_eq_true e)]
    · rw [b32_f e, if_pos rfl, if_neg (by simp [e]), Int32.or_zero]
  · show f_X7_stood_b2 σ2 (gb32 _ n) (nI n) = _
    unfold f_X7_stood_b2
    rw [show ga (σ2 186) (ln 186) (0 : Int32) = some (nI n) by rw [L_0, l186, ga_n (by omega) (by omega), g2 _ (by omega), hS.1], sb, if_pos (nI_le (Nat.le_refl _) (by omega))]
theorem eq_stood {N : Nat} (h : Rel N σ) (hN : N < 512) : ∃ r σ2, f_X6_stood σ = some r ∧ f_X7_stood σ = some (r, σ2) ∧ Rel (N + 1) σ2 := by
  have h0 := h
  obtain ⟨hK, hT, n, np, nw, ki, go, A, m, S, k, K, tl, tf, sl, sg, hR⟩ := h
  obtain ⟨⟨n1, n2, n3, n4⟩, v1, v2, v3, ⟨c1, c2, c3⟩, ⟨m1, m2, m3, m4, m5, m6, m7⟩, ⟨t1, t2, t3, t4⟩, u1, u2, u3, u4⟩ := hR
  obtain ⟨σ2, g1, g2, g3⟩ := m_stood v1.1 m1 (MY_c m3) t1 t2 t3 t4
  exact ⟨_, σ2, c_stood hK v1.1 c1 t1 t3 t4, g1, Rel_fr h0 (by omega) hN (KC_m hK (fun i hi => g2 i (by omega))) (fun i a b c d => g2 i c)⟩
end NO
