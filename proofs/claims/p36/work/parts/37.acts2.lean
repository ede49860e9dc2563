/-! Part 37: acts, and what else changes what a yard holds. (Printed by wip/p36/mk37.py.) -/
/-- what is held behind an act -/
def aT (A' : Sn) (T : Tp) : Tp := (T.1, (A', (if T.2.1.2.1 < 8 then T.2.1.2.1 + 1 else T.2.1.2.1), pushS T.2.1.1 T.2.1.2.2), T.2.2)
def oT (o : Option Sn) (T : Tp) : Tp := match o with
  | none => T
  | some A' => aT A' T
/-- an act that is done, or isn't, as its answer says -/
def Act (g : Int32 → Prop) (N : Nat) (T : Tp) (f : Sg → Option (Int32 × Sg)) : Prop := ∃ r o, ((¬ g r ∧ o = none) ∨ (g r ∧ o ≠ none)) ∧ OT (N + 1) (oT o T) ∧ ∀ σ, CC σ T → ∃ σ', f σ = some (r, σ') ∧ CC σ' (oT o T)
section AX
variable {σ σ1 σ2 : Sg} {N n np nw : Nat} {ki go : Nat → Nat} {A A' : Sn} {m : Nat} {S : Nat → Sn} {k : Nat} {K : Nat → Sn} {tl : Nat} {tf : Nat → Nat × Nat × Nat} {sl : Nat} {sg : Nat → Nat × Nat × Nat} {len : Nat}
theorem actC (hC : CX σ n np nw ki go A m S k K tl tf sl sg len) (s1 : ∀ i, (i < 34 ∨ 34 + 2 + 14 * 8 ≤ i) → σ1 i = σ i) (s2 : SH σ1 34 8 n np nw ki go (if m < 8 then m + 1 else m) (pushS A S)) (a1 : KC σ2) (a2 : ∀ i, (i < 6 ∨ 6 + 13 < i) → σ2 i = σ1 i) (a3 : CY σ2 6 n np nw ki go A') : CX σ2 n np nw ki go A' (if m < 8 then m + 1 else m) (pushS A S) k K tl tf sl sg len := by
  obtain ⟨hK, c1, c2, c3, t, u, x⟩ := hC
  have F : ∀ i, (i < 6 ∨ 148 ≤ i) → σ2 i = σ i := fun i h => (a2 i (by omega)).trans (s1 i (by omega))
  exact ⟨a1, a3, SH_fr (by omega) s2 (fun i a b => a2 i (by omega)), SH_fr (by omega) c3 (fun i a b => F i (by omega)), NT_fr t (F _ (by omega)) (F _ (by omega)) (F _ (by omega)) (F _ (by omega)) (F _ (by omega)), NT_fr u (F _ (by omega)) (F _ (by omega)) (F _ (by omega)) (F _ (by omega)) (F _ (by omega)), by rw [F 1 (by omega)]; exact x⟩
theorem actO (h : OX N n np nw ki go A m S k K tl tf sl sg len) (hN : N < 512) (hV : OK (N + 1) n np nw ki go A') : OX (N + 1) n np nw ki go A' (if m < 8 then m + 1 else m) (pushS A S) k K tl tf sl sg len := by
  obtain ⟨⟨n1, n2, n3, n4⟩, v1, v2, v3, ⟨m8, k2⟩, r⟩ := h
  exact ⟨⟨n1, n2, n3, hN⟩, hV, OK_push v1 v2 (by omega), fun i hi => OK_mono (v3 i hi) (by omega), ⟨by split <;> omega, k2⟩, r⟩
theorem act_in (hA : VA n np nw ki go A) (hC : CX σ n np nw ki go A m S k K tl tf sl sg len) : ∃ σ1, f_X4_setAside σ 34 6 = some σ1 ∧ KC σ1 ∧ (∀ i, (i < 34 ∨ 34 + 2 + 14 * 8 ≤ i) → σ1 i = σ i) ∧ SH σ1 34 8 n np nw ki go (if m < 8 then m + 1 else m) (pushS A S) ∧ CY σ1 6 n np nw ki go A := by
  obtain ⟨hK, c1, c2, c3, t, u, x⟩ := hC
  obtain ⟨σ1, e1, K1, f1, S1⟩ := sa_ok hK (Or.inl rfl) ln35 (by omega) kd34 (fun j hj => gYu hj) hA c1 c2
  exact ⟨σ1, e1, K1, f1, S1, CY_fr c1 (fun i a b => f1 i (by omega))⟩
end AX
section AT
variable {N : Nat} {T : Tp} {g : Int32 → Prop}
theorem act_no {f : Sg → Option (Int32 × Sg)} {r : Int32} (h : OT N T) (hN : N < 512) (hg : ¬ g r) (H : ∀ σ, CC σ T → f σ = some (r, σ)) : Act g N T f := ⟨r, none, Or.inl ⟨hg, rfl⟩, OT_mono h (Nat.le_succ N) hN, fun σ c => ⟨σ, H σ c, c⟩⟩
theorem act_yes {f : Sg → Option (Int32 × Sg)} {r : Int32} {A' : Sn} (hO : OT (N + 1) (aT A' T)) (hg : g r) (H : ∀ σ, CC σ T → ∃ σ', f σ = some (r, σ') ∧ CC σ' (aT A' T)) : Act g N T f := ⟨r, some A', Or.inr ⟨hg, fun z => by cases z⟩, hO, H⟩
theorem Act.det {f : Sg → Option (Int32 × Sg)} (h : Act g N T f) : Det N T f := by
  obtain ⟨r, o, -, a, b⟩ := h
  exact ⟨r, oT o T, a, b⟩
theorem nn_neg {a : Nat} (h : a < 2 ^ 31) : ¬ nI a < 0 := nI_pos h
theorem neg1 : ¬ ¬ (-1 : Int32) < 0 := by decide
theorem neg2 : ¬ ¬ (-2 : Int32) < 0 := by decide
theorem ngt1 : ¬ (0 : Int32) < -1 := by decide
theorem ngt2 : ¬ (0 : Int32) < -2 := by decide
theorem d_year (h : OT N T) (hN : N < 512) : Act (fun r => ¬ r < 0) N T (fun σ => f_X6_year σ) := by
  have h0 := h
  obtain ⟨⟨n, np, nw, ki, go⟩, ⟨A, m, S⟩, ⟨k, K⟩, ⟨tl, tf⟩, ⟨sl, sg⟩, len⟩ := T
  have h : OX N n np nw ki go A m S k K tl tf sl sg len := h
  obtain ⟨⟨n1, n2, n3, n4⟩, v1, v2, v3, ⟨m8, k2⟩, ⟨t3, t4⟩, u3, u4⟩ := h
  have hV := v1.1
  have n8 := hV.n8
  have p8 := hV.np8
  have h5 := hV.nw5
  have hho := v1.2.2.1
  have hye := v1.2.2.2
  have hA := OK_VA v1
  have V2 := VA_yr hA (by omega)
  have hcn := cn_le (P := yP (Sn.to A) (Sn.ag A)) np
  refine act_yes (r := nI (cn (yP (Sn.to A) (Sn.ag A)) np)) (A' := yrA np A) (actO (S := S) (K := K) h0 hN ⟨V2.1, V2.2, hho, Nat.succ_le_succ hye⟩) (nn_neg (by omega)) (fun σ c => ?_)
  have c0 : CX σ n np nw ki go A m S k K tl tf sl sg len := c
  obtain ⟨σ1, e1, K1, f1, S1, Y1⟩ := act_in hA c0
  obtain ⟨σ2, e2, K2, f2, Y2⟩ := cy_yr K1 gY6 hA Y1
  refine ⟨σ2, ?_, actC c0 f1 S1 K2 f2 Y2⟩
  show f_X6_year σ = _
  unfold f_X6_year
  rw [e1, sb, e2, sb]
theorem d_pass (h : OT N T) (hN : N < 512) (a1 : Int32) : Act (fun r => 0 < r) N T (fun σ => f_X6_pass σ a1) := by
  have h0 := h
  obtain ⟨⟨n, np, nw, ki, go⟩, ⟨A, m, S⟩, ⟨k, K⟩, ⟨tl, tf⟩, ⟨sl, sg⟩, len⟩ := T
  have h : OX N n np nw ki go A m S k K tl tf sl sg len := h
  obtain ⟨⟨n1, n2, n3, n4⟩, v1, v2, v3, ⟨m8, k2⟩, ⟨t3, t4⟩, u3, u4⟩ := h
  have hV := v1.1
  have n8 := hV.n8
  have p8 := hV.np8
  have h5 := hV.nw5
  have hho := v1.2.2.1
  have hye := v1.2.2.2
  have hA := OK_VA v1
  rcases in_p (n := 20) (by omega) a1 with ⟨t, ht1, ht2, rfl⟩ | o2
  · by_cases c9 : Sn.ho A + t ≤ 999
    · have V2 := VA_hr hA (k := t) (by omega)
      refine act_yes (r := nI (Sn.ho A + t)) (A' := hrA n np ki go t A) (actO (S := S) (K := K) h0 hN ⟨V2.1, V2.2, c9, Nat.le_succ_of_le hye⟩) (by rw [L_0]; exact nI_lt (by omega) (by omega)) (fun σ c => ?_)
      have c0 : CX σ n np nw ki go A m S k K tl tf sl sg len := c
      obtain ⟨σ1, e1, K1, f1, S1, Y1⟩ := act_in hA c0
      obtain ⟨σ2, g2, K2, f2, Y2⟩ := cy_hr K1 gY6 hA Y1 (k := t) (by omega) (by omega)
      refine ⟨σ2, ?_, actC c0 f1 S1 K2 f2 Y2⟩
      have cq : CX σ n np nw ki go A m S k K tl tf sl sg len := c
      obtain ⟨hK, c1, c2, c3, t1, u1, x1⟩ := cq
      show f_X6_pass σ _ = _
      unfold f_X6_pass f_X5_hour
      rw [L_1, if_neg (nI_nlt (by omega) (by omega)), L_20, if_pos (nI_le (by omega) (by omega)), c1.1.2.2.1, sb, nI_add, L_999, if_pos (nI_le (by omega) (by omega)), e1, sb, g2, sb, Y2.1.2.2.1, sb]
      rfl
    · refine act_no (r := -2) h0 hN ngt2 (fun σ c => ?_)
      have cq : CX σ n np nw ki go A m S k K tl tf sl sg len := c
      obtain ⟨hK, c1, c2, c3, t1, u1, x1⟩ := cq
      show f_X6_pass σ _ = _
      unfold f_X6_pass f_X5_hour
      rw [L_1, if_neg (nI_nlt (by omega) (by omega)), L_20, if_pos (nI_le (by omega) (by omega)), c1.1.2.2.1, sb, nI_add, L_999, if_neg (nI_ge (by omega) (by omega))]
  · refine act_no (r := -1) h0 hN ngt1 (fun σ c => ?_)
    show f_X6_pass σ _ = _
    unfold f_X6_pass
    rcases o2 with z | z
    · rw [if_pos z]
    · by_cases c : a1 < 1
      · rw [if_pos c]
      · rw [if_neg c, if_neg]
        rw [L_20]
        intro q
        exact Int32.lt_irrefl (Int32.lt_of_lt_of_le z q)
theorem d_lays (h : OT N T) (hN : N < 512) (a1 a2 a3 : Int32) : Act (fun r => ¬ r < 0) N T (fun σ => f_X6_lays σ a1 a2 a3) := by
  have h0 := h
  obtain ⟨⟨n, np, nw, ki, go⟩, ⟨A, m, S⟩, ⟨k, K⟩, ⟨tl, tf⟩, ⟨sl, sg⟩, len⟩ := T
  have h : OX N n np nw ki go A m S k K tl tf sl sg len := h
  obtain ⟨⟨n1, n2, n3, n4⟩, v1, v2, v3, ⟨m8, k2⟩, ⟨t3, t4⟩, u3, u4⟩ := h
  have hV := v1.1
  have n8 := hV.n8
  have p8 := hV.np8
  have h5 := hV.nw5
  have hho := v1.2.2.1
  have hye := v1.2.2.2
  have hA := OK_VA v1
  rcases in_n (n := n) (by omega) a1 with ⟨x, hx, rfl⟩ | o1
  · rcases in_n (n := n) (by omega) a2 with ⟨y, hy, rfl⟩ | o2
    · by_cases e : x = y
      · subst e
        refine act_no (r := -1) h0 hN neg1 (fun σ c => ?_)
        have cq : CX σ n np nw ki go A m S k K tl tf sl sg len := c
        obtain ⟨hK, c1, c2, c3, t1, u1, x1⟩ := cq
        show f_X6_lays σ _ _ _ = _
        unfold f_X6_lays f_X5_areTwoTowns
        rw [it_in c1 n8 hx, sb, if_neg one0, sb, if_neg one0, if_pos rfl, sb, if_pos rfl]
      · have e' : ¬ nI x = nI y := fun z => e ((nI_eq (by omega) (by omega)).mp z)
        rcases in_n (n := 10) (by omega) a3 with ⟨l, hl, rfl⟩ | o3
        · have V2 := VA_ly hA hx hy (l := l) (by omega)
          have hm := hV.1.2.2.1 x y
          refine act_yes (r := nI (Sn.mi A x y)) (A' := lyA x y l A) (actO (S := S) (K := K) h0 hN ⟨V2.1, V2.2, hho, Nat.le_succ_of_le hye⟩) (nn_neg (by omega)) (fun σ c => ?_)
          have c0 : CX σ n np nw ki go A m S k K tl tf sl sg len := c
          obtain ⟨σ1, g1, K1, f1, S1, Y1⟩ := act_in hA c0
          obtain ⟨σ2, g2, K2, f2, Y2⟩ := cy_ly K1 gY6 hA Y1 hx hy (l := l) (by omega)
          refine ⟨σ2, ?_, actC c0 f1 S1 K2 f2 Y2⟩
          have cq : CX σ n np nw ki go A m S k K tl tf sl sg len := c
          obtain ⟨hK, c1, c2, c3, t1, u1, x1⟩ := cq
          show f_X6_lays σ _ _ _ = _
          unfold f_X6_lays f_X5_areTwoTowns
          rw [it_in c1 n8 hx, sb, if_neg one0, it_in c1 n8 hy, sb, if_neg one0, if_neg e', sb, if_neg one0, if_neg (nI_pos (by omega)), L_9, if_pos (nI_le (by omega) (by omega)), g1, sb, btw_ok K1 gY6.2.2.1.1 Y1.2.1 (by omega) (by omega), sb, g2, sb]
        · refine act_no (r := -1) h0 hN neg1 (fun σ c => ?_)
          have cq : CX σ n np nw ki go A m S k K tl tf sl sg len := c
          obtain ⟨hK, c1, c2, c3, t1, u1, x1⟩ := cq
          show f_X6_lays σ _ _ _ = _
          unfold f_X6_lays f_X5_areTwoTowns
          rw [it_in c1 n8 hx, sb, if_neg one0, it_in c1 n8 hy, sb, if_neg one0, if_neg e', sb, if_neg one0]
          by_cases c : a3 < 0
          · rw [if_pos c]
          · rw [if_neg c, if_neg]
            intro z
            exact absurd (Int32.le_trans (o3.resolve_left c) z) (by decide)
    · refine act_no (r := -1) h0 hN neg1 (fun σ c => ?_)
      have cq : CX σ n np nw ki go A m S k K tl tf sl sg len := c
      obtain ⟨hK, c1, c2, c3, t1, u1, x1⟩ := cq
      show f_X6_lays σ _ _ _ = _
      unfold f_X6_lays f_X5_areTwoTowns
      rw [it_in c1 n8 hx, sb, if_neg one0, it_out c1 o2, sb, if_pos rfl, sb, if_pos rfl]
  · refine act_no (r := -1) h0 hN neg1 (fun σ c => ?_)
    have cq : CX σ n np nw ki go A m S k K tl tf sl sg len := c
    obtain ⟨hK, c1, c2, c3, t1, u1, x1⟩ := cq
    show f_X6_lays σ _ _ _ = _
    unfold f_X6_lays f_X5_areTwoTowns
    rw [it_out c1 o1, sb, if_pos rfl, sb, if_pos rfl]
theorem d_paint (h : OT N T) (hN : N < 512) (a1 : Int32) : Act (fun r => ¬ r < 0) N T (fun σ => f_X6_paint σ a1) := by
  have h0 := h
  obtain ⟨⟨n, np, nw, ki, go⟩, ⟨A, m, S⟩, ⟨k, K⟩, ⟨tl, tf⟩, ⟨sl, sg⟩, len⟩ := T
  have h : OX N n np nw ki go A m S k K tl tf sl sg len := h
  obtain ⟨⟨n1, n2, n3, n4⟩, v1, v2, v3, ⟨m8, k2⟩, ⟨t3, t4⟩, u3, u4⟩ := h
  have hV := v1.1
  have n8 := hV.n8
  have p8 := hV.np8
  have h5 := hV.nw5
  have hho := v1.2.2.1
  have hye := v1.2.2.2
  have hA := OK_VA v1
  rcases in_n (n := np) (by omega) a1 with ⟨p, hp, rfl⟩ | o1
  · cases e : Sn.to A p with
    | none =>
      refine act_no (r := -2) h0 hN neg2 (fun σ c => ?_)
      have cq : CX σ n np nw ki go A m S k K tl tf sl sg len := c
      obtain ⟨hK, c1, c2, c3, t1, u1, x1⟩ := cq
      show f_X6_paint σ _ = _
      unfold f_X6_paint
      rw [ip_in c1 p8 hp, sb, if_pos one0, ir_ok hK gY6 hV c1 hp, sb, b32_t e, if_neg one0]
    | some x =>
      have V2 := VA_pa hA e
      have hcn := cn_le (P := fun t => (pr (Sn.mi A) n x t).isSome) 8
      refine act_yes (r := nI (cn (fun t => (pr (Sn.mi A) n x t).isSome) 8)) (A' := paA n p x A) (actO (S := S) (K := K) h0 hN ⟨V2.1, V2.2, hho, Nat.le_succ_of_le hye⟩) (nn_neg (by omega)) (fun σ c => ?_)
      have c0 : CX σ n np nw ki go A m S k K tl tf sl sg len := c
      obtain ⟨σ1, g1, K1, f1, S1, Y1⟩ := act_in hA c0
      obtain ⟨σ2, g2, K2, f2, Y2⟩ := cy_pa K1 gY6 hA Y1 hp e
      refine ⟨σ2, ?_, actC c0 f1 S1 K2 f2 Y2⟩
      have cq : CX σ n np nw ki go A m S k K tl tf sl sg len := c
      obtain ⟨hK, c1, c2, c3, t1, u1, x1⟩ := cq
      show f_X6_paint σ _ = _
      unfold f_X6_paint
      rw [ip_in c1 p8 hp, sb, if_pos one0, ir_ok hK gY6 hV c1 hp, sb, b32_f (by rw [e]; exact fun z => by cases z), if_pos rfl, g1, sb, g2, sb]
  · refine act_no (r := -1) h0 hN neg1 (fun σ c => ?_)
    have cq : CX σ n np nw ki go A m S k K tl tf sl sg len := c
    obtain ⟨hK, c1, c2, c3, t1, u1, x1⟩ := cq
    show f_X6_paint σ _ = _
    unfold f_X6_paint
    rw [ip_out c1 o1, sb, if_neg (fun z => z rfl)]
theorem d_retire (h : OT N T) (hN : N < 512) (a1 : Int32) : Act (fun r => ¬ r < 0) N T (fun σ => f_X6_retire σ a1) := by
  have h0 := h
  obtain ⟨⟨n, np, nw, ki, go⟩, ⟨A, m, S⟩, ⟨k, K⟩, ⟨tl, tf⟩, ⟨sl, sg⟩, len⟩ := T
  have h : OX N n np nw ki go A m S k K tl tf sl sg len := h
  obtain ⟨⟨n1, n2, n3, n4⟩, v1, v2, v3, ⟨m8, k2⟩, ⟨t3, t4⟩, u3, u4⟩ := h
  have hV := v1.1
  have n8 := hV.n8
  have p8 := hV.np8
  have h5 := hV.nw5
  have hho := v1.2.2.1
  have hye := v1.2.2.2
  have hA := OK_VA v1
  rcases in_n (n := np) (by omega) a1 with ⟨p, hp, rfl⟩ | o1
  · cases e : Sn.to A p with
    | none =>
      refine act_no (r := -2) h0 hN neg2 (fun σ c => ?_)
      have cq : CX σ n np nw ki go A m S k K tl tf sl sg len := c
      obtain ⟨hK, c1, c2, c3, t1, u1, x1⟩ := cq
      show f_X6_retire σ _ = _
      unfold f_X6_retire
      rw [ip_in c1 p8 hp, sb, if_pos one0, ir_ok hK gY6 hV c1 hp, sb, b32_t e, if_neg one0]
    | some x =>
      have xl := hV.toL e
      have V2 := VA_rt hA (p := p)
      refine act_yes (r := nI x) (A' := rtA p A) (actO (S := S) (K := K) h0 hN ⟨V2.1, V2.2, hho, Nat.le_succ_of_le hye⟩) (nn_neg (by omega)) (fun σ c => ?_)
      have c0 : CX σ n np nw ki go A m S k K tl tf sl sg len := c
      obtain ⟨σ1, g1, K1, f1, S1, Y1⟩ := act_in hA c0
      obtain ⟨σ2, g2, K2, f2, Y2⟩ := cy_rt K1 gY6 hA Y1 hp
      refine ⟨σ2, ?_, actC c0 f1 S1 K2 f2 Y2⟩
      have cq : CX σ n np nw ki go A m S k K tl tf sl sg len := c
      obtain ⟨hK, c1, c2, c3, t1, u1, x1⟩ := cq
      show f_X6_retire σ _ = _
      unfold f_X6_retire f_X5_townOf
      rw [ip_in c1 p8 hp, sb, if_pos one0, ir_ok hK gY6 hV c1 hp, sb, b32_f (by rw [e]; exact fun z => by cases z), if_pos rfl, po1 hK gY6 c1 p8 hp, sb, sb, g1, sb, g2, sb, e]
      rfl
  · refine act_no (r := -1) h0 hN neg1 (fun σ c => ?_)
    have cq : CX σ n np nw ki go A m S k K tl tf sl sg len := c
    obtain ⟨hK, c1, c2, c3, t1, u1, x1⟩ := cq
    show f_X6_retire σ _ = _
    unfold f_X6_retire
    rw [ip_out c1 o1, sb, if_neg (fun z => z rfl)]
theorem d_move (h : OT N T) (hN : N < 512) (a1 a2 : Int32) : Act (fun r => ¬ r < 0) N T (fun σ => f_X6_move σ a1 a2) := by
  have h0 := h
  obtain ⟨⟨n, np, nw, ki, go⟩, ⟨A, m, S⟩, ⟨k, K⟩, ⟨tl, tf⟩, ⟨sl, sg⟩, len⟩ := T
  have h : OX N n np nw ki go A m S k K tl tf sl sg len := h
  obtain ⟨⟨n1, n2, n3, n4⟩, v1, v2, v3, ⟨m8, k2⟩, ⟨t3, t4⟩, u3, u4⟩ := h
  have hV := v1.1
  have n8 := hV.n8
  have p8 := hV.np8
  have h5 := hV.nw5
  have hho := v1.2.2.1
  have hye := v1.2.2.2
  have hA := OK_VA v1
  rcases in_n (n := np) (by omega) a1 with ⟨p, hp, rfl⟩ | o1
  · rcases in_n (n := n) (by omega) a2 with ⟨y, hy, rfl⟩ | o2
    · cases e : Sn.to A p with
      | none =>
        refine act_no (r := -2) h0 hN neg2 (fun σ c => ?_)
        have cq : CX σ n np nw ki go A m S k K tl tf sl sg len := c
        obtain ⟨hK, c1, c2, c3, t1, u1, x1⟩ := cq
        show f_X6_move σ _ _ = _
        unfold f_X6_move f_X5_townOf
        rw [ip_in c1 p8 hp, sb, if_neg one0, it_in c1 n8 hy, sb, if_pos one0, po1 hK gY6 c1 p8 hp, sb, sb, ir_ok hK gY6 hV c1 hp, sb, b32_t e, if_pos one0]
      | some x =>
        have xl := hV.toL e
        have bf : b32 (Sn.to A p = none) = 0 := b32_f (by rw [e]; exact fun z => by cases z)
        by_cases d : x = y
        · subst d
          refine act_no (r := -2) h0 hN neg2 (fun σ c => ?_)
          have cq : CX σ n np nw ki go A m S k K tl tf sl sg len := c
          obtain ⟨hK, c1, c2, c3, t1, u1, x1⟩ := cq
          show f_X6_move σ _ _ = _
          unfold f_X6_move f_X5_townOf
          rw [ip_in c1 p8 hp, sb, if_neg one0, it_in c1 n8 hy, sb, if_pos one0, po1 hK gY6 c1 p8 hp, sb, sb, ir_ok hK gY6 hV c1 hp, sb, bf, if_neg (fun z => z rfl), e, if_neg (fun z => z rfl)]
        · have d' : ¬ oI (some x) = nI y := fun z => d ((nI_eq (by omega) (by omega)).mp z)
          have ne : Sn.to A p ≠ none := by rw [e]; exact fun z => by cases z
          have V2 := VA_mv hA hy ne
          refine act_yes (r := oI (some x)) (A' := mvA p y A) (actO (S := S) (K := K) h0 hN ⟨V2.1, V2.2, hho, Nat.le_succ_of_le hye⟩) (nn_neg (by omega)) (fun σ c => ?_)
          have c0 : CX σ n np nw ki go A m S k K tl tf sl sg len := c
          obtain ⟨σ1, g1, K1, f1, S1, Y1⟩ := act_in hA c0
          obtain ⟨σ2, g2, K2, f2, Y2⟩ := cy_mv (x := y) K1 gY6 hA Y1 hp
          refine ⟨σ2, ?_, actC c0 f1 S1 K2 f2 Y2⟩
          have cq : CX σ n np nw ki go A m S k K tl tf sl sg len := c
          obtain ⟨hK, c1, c2, c3, t1, u1, x1⟩ := cq
          show f_X6_move σ _ _ = _
          unfold f_X6_move f_X5_townOf
          rw [ip_in c1 p8 hp, sb, if_neg one0, it_in c1 n8 hy, sb, if_pos one0, po1 hK gY6 c1 p8 hp, sb, sb, ir_ok hK gY6 hV c1 hp, sb, bf, if_neg (fun z => z rfl), e, if_pos d', g1, sb, g2, sb]
    · refine act_no (r := -1) h0 hN neg1 (fun σ c => ?_)
      have cq : CX σ n np nw ki go A m S k K tl tf sl sg len := c
      obtain ⟨hK, c1, c2, c3, t1, u1, x1⟩ := cq
      show f_X6_move σ _ _ = _
      unfold f_X6_move
      rw [ip_in c1 p8 hp, sb, if_neg one0, it_out c1 o2, sb, if_neg (fun z => z rfl)]
  · refine act_no (r := -1) h0 hN neg1 (fun σ c => ?_)
    have cq : CX σ n np nw ki go A m S k K tl tf sl sg len := c
    obtain ⟨hK, c1, c2, c3, t1, u1, x1⟩ := cq
    show f_X6_move σ _ _ = _
    unfold f_X6_move
    rw [ip_out c1 o1, sb, if_pos rfl]
theorem undo_1 {n np nw : Nat} {ki go : Nat → Nat} {A : Sn} {m : Nat} {S : Nat → Sn} {k : Nat} {K : Nat → Sn} {tl : Nat} {tf : Nat → Nat × Nat × Nat} {sl : Nat} {sg : Nat → Nat × Nat × Nat} {len : Nat} {σ : Sg} (h : OX N n np nw ki go A (m + 1) S k K tl tf sl sg len) (c : CX σ n np nw ki go A (m + 1) S k K tl tf sl sg len) : ∃ σ', f_X6_undo σ = some (nI m, σ') ∧ CX σ' n np nw ki go (S 0) m (fun i => S (i + 1)) k K tl tf sl sg len := by
  obtain ⟨⟨n1, n2, n3, n4⟩, v1, v2, v3, ⟨m8, k2⟩, ⟨t3, t4⟩, u3, u4⟩ := h
  obtain ⟨hK, c1, c2, c3, t1, u1, x1⟩ := c
  obtain ⟨σ1, e1, K1, f1, Y1, H1⟩ := gv_ok hK (Or.inl rfl) ln35 (by omega) kd34 (fun j hj => gYu hj) (fun i hi => OK_VA (v2 i hi)) (by omega) c2
  refine ⟨σ1, ?_, K1, Y1, H1, SH_fr (by omega) c3 (fun i a b => f1 i (by omega) (by omega)), NT_fr t1 (f1 _ (by omega) (by omega)) (f1 _ (by omega) (by omega)) (f1 _ (by omega) (by omega)) (f1 _ (by omega) (by omega)) (f1 _ (by omega) (by omega)), NT_fr u1 (f1 _ (by omega) (by omega)) (f1 _ (by omega) (by omega)) (f1 _ (by omega) (by omega)) (f1 _ (by omega) (by omega)) (f1 _ (by omega) (by omega)), by rw [f1 1 (by omega) (by omega)]; exact x1⟩
  unfold f_X6_undo f_X4_held
  rw [e1, sb]
  dsimp only
  rw [if_neg one0, H1.1, sb]
  rfl
theorem undo_O {n np nw : Nat} {ki go : Nat → Nat} {A : Sn} {m : Nat} {S : Nat → Sn} {k : Nat} {K : Nat → Sn} {tl : Nat} {tf : Nat → Nat × Nat × Nat} {sl : Nat} {sg : Nat → Nat × Nat × Nat} {len : Nat} (h : OX N n np nw ki go A (m + 1) S k K tl tf sl sg len) : OX N n np nw ki go (S 0) m (fun i => S (i + 1)) k K tl tf sl sg len := by
  obtain ⟨n1, v1, v2, v3, ⟨m8, k2⟩, r⟩ := h
  exact ⟨n1, v2 0 (by omega), fun i hi => v2 (i + 1) (by omega), v3, ⟨by omega, k2⟩, r⟩
theorem d_undo (h : OT N T) (hN : N < 512) : Det N T (fun σ => f_X6_undo σ) := by
  have h0 := h
  obtain ⟨⟨n, np, nw, ki, go⟩, ⟨A, m, S⟩, ⟨k, K⟩, ⟨tl, tf⟩, ⟨sl, sg⟩, len⟩ := T
  have h : OX N n np nw ki go A m S k K tl tf sl sg len := h
  obtain ⟨⟨n1, n2, n3, n4⟩, v1, v2, v3, ⟨m8, k2⟩, ⟨t3, t4⟩, u3, u4⟩ := h
  have hV := v1.1
  have n8 := hV.n8
  have p8 := hV.np8
  have h5 := hV.nw5
  have hho := v1.2.2.1
  have hye := v1.2.2.2
  cases m with
  | zero =>
    refine det_no (r := -2) h0 hN (fun σ c => ?_)
    obtain ⟨hK, c1, c2, c3, t1, u1, x1⟩ := (c : CX σ n np nw ki go A 0 S k K tl tf sl sg len)
    show f_X6_undo σ = _
    unfold f_X6_undo
    rw [gv_no c2, sb, if_pos rfl]
  | succ m =>
    refine ⟨nI m, ((n, np, nw, ki, go), (S 0, m, fun i => S (i + 1)), (k, K), (tl, tf), (sl, sg), len), undo_O (OT_mono h0 (Nat.le_succ N) hN), fun σ c => ?_⟩
    exact undo_1 h0 c
theorem d_keep (h : OT N T) (hN : N < 512) : Det N T (fun σ => f_X6_keep σ) := by
  have h0 := h
  obtain ⟨⟨n, np, nw, ki, go⟩, ⟨A, m, S⟩, ⟨k, K⟩, ⟨tl, tf⟩, ⟨sl, sg⟩, len⟩ := T
  have h : OX N n np nw ki go A m S k K tl tf sl sg len := h
  obtain ⟨⟨n1, n2, n3, n4⟩, v1, v2, v3, ⟨m8, k2⟩, ⟨t3, t4⟩, u3, u4⟩ := h
  have hV := v1.1
  have n8 := hV.n8
  have p8 := hV.np8
  have h5 := hV.nw5
  have hho := v1.2.2.1
  have hye := v1.2.2.2
  have hA := OK_VA v1
  by_cases c9 : k < 2
  · refine ⟨nI (k + 1), ((n, np, nw, ki, go), (A, m, S), (k + 1, pushS A K), (tl, tf), (sl, sg), len), ⟨⟨n1, n2, n3, hN⟩, OK_mono v1 (by omega), fun i hi => OK_mono (v2 i hi) (by omega), fun i hi => ?_, ⟨m8, by show k + 1 ≤ 2; omega⟩, ⟨t3, t4⟩, u3, u4⟩, fun σ c => ?_⟩
    · have hi : i < k + 1 := hi
      cases i with
      | zero => exact OK_mono v1 (by omega)
      | succ i => exact OK_mono (v3 i (by omega)) (by omega)
    · have cq : CX σ n np nw ki go A m S k K tl tf sl sg len := c
      obtain ⟨hK, c1, c2, c3, t1, u1, x1⟩ := cq
      obtain ⟨σ1, e1, K1, f1, S1⟩ := sa_ok hK (Or.inr rfl) ln149 (by omega) kd148 (fun j hj => gYk hj) hA c1 c3
      rw [if_pos c9] at S1
      have F : ∀ i, (i < 148 ∨ 178 ≤ i) → σ1 i = σ i := fun i hi => f1 i (by omega)
      refine ⟨σ1, ?_, K1, CY_fr c1 (fun i a b => F i (by omega)), SH_fr (by omega) c2 (fun i a b => F i (by omega)), S1, NT_fr t1 (F _ (by omega)) (F _ (by omega)) (F _ (by omega)) (F _ (by omega)) (F _ (by omega)), NT_fr u1 (F _ (by omega)) (F _ (by omega)) (F _ (by omega)) (F _ (by omega)) (F _ (by omega)), (congrFun (F 1 (by omega)) 2).trans x1⟩
      show f_X6_keep σ = _
      unfold f_X6_keep f_X4_held
      rw [c3.1, sb, L_2, if_pos (nI_lt c9 (by omega)), e1, sb, S1.1, sb]
  · refine det_no (r := -3) h0 hN (fun σ c => ?_)
    have cq : CX σ n np nw ki go A m S k K tl tf sl sg len := c
    obtain ⟨hK, c1, c2, c3, t1, u1, x1⟩ := cq
    show f_X6_keep σ = _
    unfold f_X6_keep f_X4_held
    rw [c3.1, sb, L_2, if_neg (nI_nlt (by omega) (by omega))]
theorem d_back (h : OT N T) (hN : N < 512) : Det N T (fun σ => f_X6_back σ) := by
  have h0 := h
  obtain ⟨⟨n, np, nw, ki, go⟩, ⟨A, m, S⟩, ⟨k, K⟩, ⟨tl, tf⟩, ⟨sl, sg⟩, len⟩ := T
  have h : OX N n np nw ki go A m S k K tl tf sl sg len := h
  obtain ⟨⟨n1, n2, n3, n4⟩, v1, v2, v3, ⟨m8, k2⟩, ⟨t3, t4⟩, u3, u4⟩ := h
  have hV := v1.1
  have n8 := hV.n8
  have p8 := hV.np8
  have h5 := hV.nw5
  have hho := v1.2.2.1
  have hye := v1.2.2.2
  cases k with
  | zero =>
    refine det_no (r := -2) h0 hN (fun σ c => ?_)
    obtain ⟨hK, c1, c2, c3, t1, u1, x1⟩ := (c : CX σ n np nw ki go A m S 0 K tl tf sl sg len)
    show f_X6_back σ = _
    unfold f_X6_back
    rw [gv_no c3, sb, if_neg (fun z => z rfl)]
  | succ k =>
    refine ⟨nI k, ((n, np, nw, ki, go), (K 0, 0, S), (k, fun i => K (i + 1)), (tl, tf), (sl, sg), len), ⟨⟨n1, n2, n3, hN⟩, OK_mono (v3 0 (by omega)) (by omega), fun i hi => absurd hi (Nat.not_lt_zero i), fun i hi => OK_mono (v3 (i + 1) (Nat.succ_lt_succ hi)) (by omega), ⟨Nat.zero_le _, by show k ≤ 2; omega⟩, ⟨t3, t4⟩, u3, u4⟩, fun σ c => ?_⟩
    obtain ⟨hK, c1, c2, c3, t1, u1, x1⟩ := (c : CX σ n np nw ki go A m S (k + 1) K tl tf sl sg len)
    obtain ⟨σ1, e1, K1, f1, Y1, H1⟩ := gv_ok hK (Or.inr rfl) ln149 (by omega) kd148 (fun j hj => gYk hj) (fun i hi => OK_VA (v3 i hi)) (by omega) c3
    have F0 : ∀ i, i ≠ 34 → (sf σ1 34 1 0) i = σ1 i := fun i a => sf_ne a
    have F2 : ∀ i, (i < 6 ∨ 19 < i) → i ≠ 34 → i ≠ 148 → (sf σ1 34 1 0) i = σ i := fun i a b c => (F0 i b).trans (f1 i a c)
    have S34 := SH_fr (σ' := σ1) (by omega) c2 (fun i a b => f1 i (by omega) (by omega))
    refine ⟨sf σ1 34 1 0, ?_, KC_sf K1 kd34, CY_fr Y1 (fun i a b => F0 i (by omega)), SH_0 S34, SH_fr (by omega) H1 (fun i a b => F0 i (by omega)), NT_fr t1 (F2 _ (by omega) (by omega) (by omega)) (F2 _ (by omega) (by omega) (by omega)) (F2 _ (by omega) (by omega) (by omega)) (F2 _ (by omega) (by omega) (by omega)) (F2 _ (by omega) (by omega) (by omega)), NT_fr u1 (F2 _ (by omega) (by omega) (by omega)) (F2 _ (by omega) (by omega) (by omega)) (F2 _ (by omega) (by omega) (by omega)) (F2 _ (by omega) (by omega) (by omega)) (F2 _ (by omega) (by omega) (by omega)), (congrFun (F2 1 (by omega) (by omega) (by omega)) 2).trans x1⟩
    show f_X6_back σ = _
    unfold f_X6_back f_X4_empty f_X4_held
    rw [e1, sb]
    dsimp only
    rw [if_pos one0, sb, sb, F0 148 (by omega), H1.1, sb]
    rfl
theorem d_forget (h : OT N T) (hN : N < 512) : Det N T (fun σ => f_X6_forget σ) := by
  have h0 := h
  obtain ⟨⟨n, np, nw, ki, go⟩, ⟨A, m, S⟩, ⟨k, K⟩, ⟨tl, tf⟩, ⟨sl, sg⟩, len⟩ := T
  have h : OX N n np nw ki go A m S k K tl tf sl sg len := h
  obtain ⟨⟨n1, n2, n3, n4⟩, v1, v2, v3, ⟨m8, k2⟩, ⟨t3, t4⟩, u3, u4⟩ := h
  have hV := v1.1
  have n8 := hV.n8
  have p8 := hV.np8
  have h5 := hV.nw5
  have hho := v1.2.2.1
  have hye := v1.2.2.2
  refine ⟨nI tl + nI sl, ((n, np, nw, ki, go), (A, m, S), (k, K), (0, tf), (0, sg), len), ⟨⟨n1, n2, n3, hN⟩, OK_mono v1 (by omega), fun i hi => OK_mono (v2 i hi) (by omega), fun i hi => OK_mono (v3 i hi) (by omega), ⟨m8, k2⟩, ⟨Nat.zero_le _, fun i hi => absurd hi (Nat.not_lt_zero i)⟩, Nat.zero_le _, fun i hi => absurd hi (Nat.not_lt_zero i)⟩, fun σ c => ?_⟩
  have cq : CX σ n np nw ki go A m S k K tl tf sl sg len := c
  obtain ⟨hK, c1, c2, c3, t1, u1, x1⟩ := cq
  have F : ∀ i, i ≠ 178 → i ≠ 181 → sf (sf σ 178 1 0) 181 1 0 i = σ i := fun i a b => by rw [sf_ne b, sf_ne a]
  refine ⟨sf (sf σ 178 1 0) 181 1 0, ?_, KC_sf (KC_sf hK (by decide)) (by decide), CY_fr c1 (fun i a b => F i (by omega) (by omega)), SH_fr (by omega) c2 (fun i a b => F i (by omega) (by omega)), SH_fr (by omega) c3 (fun i a b => F i (by omega) (by omega)), ⟨?_, fun i hi => absurd hi (Nat.not_lt_zero i)⟩, ⟨?_, fun i hi => absurd hi (Nat.not_lt_zero i)⟩, (congrFun (F 1 (by omega) (by omega)) 2).trans x1⟩
  · show f_X6_forget σ = _
    unfold f_X6_forget f_X2_empty
    rw [sb, sb, sb, sb, t1.1]
    dsimp only
    rw [sf_ne (by omega), u1.1]
  · rw [sf_ne (by omega), sf_row, upd_self]; rfl
  · rw [sf_row, upd_self]; rfl
theorem NT_add {σ σ' : Sg} {m : Nat} {tf : Nat → Nat × Nat × Nat} {s r1 r2 r3 a b c : Nat} (h : NT σ s r1 r2 r3 m tf) (h1 : σ' s 1 = nI (m + 1)) (h2 : σ' (s + 1 + 1) = upd (upd (upd (σ (s + 1 + 1)) (m * 3 + 0) (nI a)) (m * 3 + 1) (nI b)) (m * 3 + 2) (nI c)) : NT σ' s r1 r2 r3 (m + 1) (upN tf m (a, b, c)) := by
  refine ⟨h1, fun i hi => ?_⟩
  rw [h2]
  by_cases e : i = m
  · subst e
    rw [upN_at, upd_ne (by omega), upd_ne (by omega), upd_self, upd_ne (by omega), upd_self, upd_self]
    exact ⟨⟨rfl, rfl, rfl⟩, trivial⟩
  · rw [upN_ne e, upd_ne (by omega), upd_ne (by omega), upd_ne (by omega), upd_ne (by omega), upd_ne (by omega), upd_ne (by omega), upd_ne (by omega), upd_ne (by omega), upd_ne (by omega)]
    exact h.2 i (by omega)
theorem d_told (h : OT N T) (hN : N < 512) (a1 a2 a3 : Int32) : Det N T (fun σ => f_X6_told σ a1 a2 a3) := by
  have h0 := h
  obtain ⟨⟨n, np, nw, ki, go⟩, ⟨A, m, S⟩, ⟨k, K⟩, ⟨tl, tf⟩, ⟨sl, sg⟩, len⟩ := T
  have h : OX N n np nw ki go A m S k K tl tf sl sg len := h
  obtain ⟨⟨n1, n2, n3, n4⟩, v1, v2, v3, ⟨m8, k2⟩, ⟨t3, t4⟩, u3, u4⟩ := h
  have hV := v1.1
  have n8 := hV.n8
  have p8 := hV.np8
  have h5 := hV.nw5
  have hho := v1.2.2.1
  have hye := v1.2.2.2
  rcases in_n (n := n) (by omega) a1 with ⟨x, hx, rfl⟩ | o1
  · rcases in_n (n := n) (by omega) a2 with ⟨y, hy, rfl⟩ | o2
    · rcases in_n (n := 73) (by omega) a3 with ⟨z, hz, rfl⟩ | o3
      · by_cases c9 : tl < 6
        · refine ⟨nI (tl + 1), ((n, np, nw, ki, go), (A, m, S), (k, K), (tl + 1, upN tf tl (x, y, z)), (sl, sg), len), ⟨⟨n1, n2, n3, hN⟩, OK_mono v1 (by omega), fun i hi => OK_mono (v2 i hi) (by omega), fun i hi => OK_mono (v3 i hi) (by omega), ⟨m8, k2⟩, ⟨by show tl + 1 ≤ 6; omega, fun i hi => ?_⟩, u3, u4⟩, fun σ c => ?_⟩
          · have hi : i < tl + 1 := hi
            show (upN tf tl (x, y, z) i).1 < n ∧ (upN tf tl (x, y, z) i).2.1 < n ∧ (upN tf tl (x, y, z) i).2.2 ≤ 72
            by_cases d : i = tl
            · subst d; rw [upN_at]; exact ⟨hx, hy, by show z ≤ 72; omega⟩
            · rw [upN_ne d]; exact t4 i (by omega)
          · have cq : CX σ n np nw ki go A m S k K tl tf sl sg len := c
            obtain ⟨hK, c1, c2, c3, t1, u1, x1⟩ := cq
            have ad := ad_ok (a := nI x) (b := nI y) (c := nI z) hK g179 (by decide) (by decide) t1.1 c9
            generalize hs1 : sf (sf (sf (sf σ (178 + 1 + 1) (tl * 3 + 0) (nI x)) (178 + 1 + 1) (tl * 3 + 1) (nI y)) (178 + 1 + 1) (tl * 3 + 2) (nI z)) 178 1 (nI (tl + 1)) = σ1 at ad
            have f1 : ∀ i, i ≠ 178 → i ≠ 180 → σ1 i = σ i := fun i a b => by rw [← hs1, sf_ne a, sf_ne b, sf_ne b, sf_ne b]
            have g1 : σ1 178 1 = nI (tl + 1) := by rw [← hs1, sf_row, upd_self]
            have g2 : σ1 (178 + 1 + 1) = upd (upd (upd (σ (178 + 1 + 1)) (tl * 3 + 0) (nI x)) (tl * 3 + 1) (nI y)) (tl * 3 + 2) (nI z) := by rw [← hs1, sf_ne (by omega), sf_row, sf_row, sf_row]
            have K1 : KC σ1 := by rw [← hs1]; exact KC_sf (KC_sf (KC_sf (KC_sf hK (by decide)) (by decide)) (by decide)) (by decide)
            refine ⟨σ1, ?_, K1, CY_fr c1 (fun i a b => f1 i (by omega) (by omega)), SH_fr (by omega) c2 (fun i a b => f1 i (by omega) (by omega)), SH_fr (by omega) c3 (fun i a b => f1 i (by omega) (by omega)), NT_add t1 g1 g2, NT_fr u1 (f1 _ (by omega) (by omega)) (f1 _ (by omega) (by omega)) (f1 _ (by omega) (by omega)) (f1 _ (by omega) (by omega)) (f1 _ (by omega) (by omega)), (congrFun (f1 1 (by omega) (by omega)) 2).trans x1⟩
            show f_X6_told σ _ _ _ = _
            unfold f_X6_told
            rw [it_in c1 n8 hx, sb, if_neg one0, it_in c1 n8 hy, sb, if_neg one0, if_neg (nI_pos (by omega)), L_72, if_pos (nI_le (by omega) (by omega)), ad, sb]
        · refine det_no (r := -3) h0 hN (fun σ c => ?_)
          have cq : CX σ n np nw ki go A m S k K tl tf sl sg len := c
          obtain ⟨hK, c1, c2, c3, t1, u1, x1⟩ := cq
          show f_X6_told σ _ _ _ = _
          unfold f_X6_told f_X2_add
          rw [it_in c1 n8 hx, sb, if_neg one0, it_in c1 n8 hy, sb, if_neg one0, if_neg (nI_pos (by omega)), L_72, if_pos (nI_le (by omega) (by omega)), t1.1, L_6, if_neg (nI_nlt (by omega) (by omega)), sb]
      · refine det_no (r := -1) h0 hN (fun σ c => ?_)
        have cq : CX σ n np nw ki go A m S k K tl tf sl sg len := c
        obtain ⟨hK, c1, c2, c3, t1, u1, x1⟩ := cq
        show f_X6_told σ _ _ _ = _
        unfold f_X6_told
        rw [it_in c1 n8 hx, sb, if_neg one0, it_in c1 n8 hy, sb, if_neg one0]
        by_cases c : a3 < 0
        · rw [if_pos c]
        · rw [if_neg c, if_neg]
          intro z
          exact absurd (Int32.le_trans (o3.resolve_left c) z) (by decide)
    · refine det_no (r := -1) h0 hN (fun σ c => ?_)
      have cq : CX σ n np nw ki go A m S k K tl tf sl sg len := c
      obtain ⟨hK, c1, c2, c3, t1, u1, x1⟩ := cq
      show f_X6_told σ _ _ _ = _
      unfold f_X6_told
      rw [it_in c1 n8 hx, sb, if_neg one0, it_out c1 o2, sb, if_pos rfl]
  · refine det_no (r := -1) h0 hN (fun σ c => ?_)
    have cq : CX σ n np nw ki go A m S k K tl tf sl sg len := c
    obtain ⟨hK, c1, c2, c3, t1, u1, x1⟩ := cq
    show f_X6_told σ _ _ _ = _
    unfold f_X6_told
    rw [it_out c1 o1, sb, if_pos rfl]
theorem d_seen (h : OT N T) (hN : N < 512) (a1 a2 a3 : Int32) : Det N T (fun σ => f_X6_seen σ a1 a2 a3) := by
  have h0 := h
  obtain ⟨⟨n, np, nw, ki, go⟩, ⟨A, m, S⟩, ⟨k, K⟩, ⟨tl, tf⟩, ⟨sl, sg⟩, len⟩ := T
  have h : OX N n np nw ki go A m S k K tl tf sl sg len := h
  obtain ⟨⟨n1, n2, n3, n4⟩, v1, v2, v3, ⟨m8, k2⟩, ⟨t3, t4⟩, u3, u4⟩ := h
  have hV := v1.1
  have n8 := hV.n8
  have p8 := hV.np8
  have h5 := hV.nw5
  have hho := v1.2.2.1
  have hye := v1.2.2.2
  rcases in_n (n := np) (by omega) a1 with ⟨x, hx, rfl⟩ | o1
  · rcases in_n (n := n) (by omega) a2 with ⟨y, hy, rfl⟩ | o2
    · rcases in_n (n := n) (by omega) a3 with ⟨z, hz, rfl⟩ | o3
      · by_cases c9 : sl < 6
        · refine ⟨nI (sl + 1), ((n, np, nw, ki, go), (A, m, S), (k, K), (tl, tf), (sl + 1, upN sg sl (x, y, z)), len), ⟨⟨n1, n2, n3, hN⟩, OK_mono v1 (by omega), fun i hi => OK_mono (v2 i hi) (by omega), fun i hi => OK_mono (v3 i hi) (by omega), ⟨m8, k2⟩, ⟨t3, t4⟩, by show sl + 1 ≤ 6; omega, fun i hi => ?_⟩, fun σ c => ?_⟩
          · have hi : i < sl + 1 := hi
            show (upN sg sl (x, y, z) i).1 < np ∧ (upN sg sl (x, y, z) i).2.1 < n ∧ (upN sg sl (x, y, z) i).2.2 < n
            by_cases d : i = sl
            · subst d; rw [upN_at]; exact ⟨hx, hy, hz⟩
            · rw [upN_ne d]; exact u4 i (by omega)
          · have cq : CX σ n np nw ki go A m S k K tl tf sl sg len := c
            obtain ⟨hK, c1, c2, c3, t1, u1, x1⟩ := cq
            have ad := ad_ok (a := nI x) (b := nI y) (c := nI z) hK g182 (by decide) (by decide) u1.1 c9
            generalize hs1 : sf (sf (sf (sf σ (181 + 1 + 1) (sl * 3 + 0) (nI x)) (181 + 1 + 1) (sl * 3 + 1) (nI y)) (181 + 1 + 1) (sl * 3 + 2) (nI z)) 181 1 (nI (sl + 1)) = σ1 at ad
            have f1 : ∀ i, i ≠ 181 → i ≠ 183 → σ1 i = σ i := fun i a b => by rw [← hs1, sf_ne a, sf_ne b, sf_ne b, sf_ne b]
            have g1 : σ1 181 1 = nI (sl + 1) := by rw [← hs1, sf_row, upd_self]
            have g2 : σ1 (181 + 1 + 1) = upd (upd (upd (σ (181 + 1 + 1)) (sl * 3 + 0) (nI x)) (sl * 3 + 1) (nI y)) (sl * 3 + 2) (nI z) := by rw [← hs1, sf_ne (by omega), sf_row, sf_row, sf_row]
            have K1 : KC σ1 := by rw [← hs1]; exact KC_sf (KC_sf (KC_sf (KC_sf hK (by decide)) (by decide)) (by decide)) (by decide)
            refine ⟨σ1, ?_, K1, CY_fr c1 (fun i a b => f1 i (by omega) (by omega)), SH_fr (by omega) c2 (fun i a b => f1 i (by omega) (by omega)), SH_fr (by omega) c3 (fun i a b => f1 i (by omega) (by omega)), NT_fr t1 (f1 _ (by omega) (by omega)) (f1 _ (by omega) (by omega)) (f1 _ (by omega) (by omega)) (f1 _ (by omega) (by omega)) (f1 _ (by omega) (by omega)), NT_add u1 g1 g2, (congrFun (f1 1 (by omega) (by omega)) 2).trans x1⟩
            show f_X6_seen σ _ _ _ = _
            unfold f_X6_seen
            rw [ip_in c1 p8 hx, sb, if_neg one0, it_in c1 n8 hy, sb, if_neg one0, it_in c1 n8 hz, sb, if_pos one0, ad, sb]
        · refine det_no (r := -3) h0 hN (fun σ c => ?_)
          have cq : CX σ n np nw ki go A m S k K tl tf sl sg len := c
          obtain ⟨hK, c1, c2, c3, t1, u1, x1⟩ := cq
          show f_X6_seen σ _ _ _ = _
          unfold f_X6_seen f_X2_add
          rw [ip_in c1 p8 hx, sb, if_neg one0, it_in c1 n8 hy, sb, if_neg one0, it_in c1 n8 hz, sb, if_pos one0, u1.1, L_6, if_neg (nI_nlt (by omega) (by omega)), sb]
      · refine det_no (r := -1) h0 hN (fun σ c => ?_)
        have cq : CX σ n np nw ki go A m S k K tl tf sl sg len := c
        obtain ⟨hK, c1, c2, c3, t1, u1, x1⟩ := cq
        show f_X6_seen σ _ _ _ = _
        unfold f_X6_seen
        rw [ip_in c1 p8 hx, sb, if_neg one0, it_in c1 n8 hy, sb, if_neg one0, it_out c1 o3, sb, if_neg (fun z => z rfl)]
    · refine det_no (r := -1) h0 hN (fun σ c => ?_)
      have cq : CX σ n np nw ki go A m S k K tl tf sl sg len := c
      obtain ⟨hK, c1, c2, c3, t1, u1, x1⟩ := cq
      show f_X6_seen σ _ _ _ = _
      unfold f_X6_seen
      rw [ip_in c1 p8 hx, sb, if_neg one0, it_out c1 o2, sb, if_pos rfl]
  · refine det_no (r := -1) h0 hN (fun σ c => ?_)
    have cq : CX σ n np nw ki go A m S k K tl tf sl sg len := c
    obtain ⟨hK, c1, c2, c3, t1, u1, x1⟩ := cq
    show f_X6_seen σ _ _ _ = _
    unfold f_X6_seen
    rw [ip_out c1 o1, sb, if_pos rfl]
end AT
