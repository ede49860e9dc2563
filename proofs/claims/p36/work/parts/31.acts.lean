/-! Part 31: acts, centuries, shelves of the class (out of whole's parts 31-35). -/
def VA (n np nw : Nat) (ki go : Nat → Nat) (A : Sn) : Prop := VY n (Sn.mi A) np nw (Sn.ho A) (Sn.ye A) 0 ki (Sn.to A) (Sn.ag A) (Sn.ar A) (Sn.am A) (Sn.wa A) go ∧ ∀ p, Sn.to A p ≠ none → Sn.ag A p ≤ 59
def paA (n p x : Nat) (A : Sn) : Sn := (Sn.mi A, Sn.ho A, Sn.ye A, Sn.to A, Sn.ag A, up1 (Sn.ar A) p (pr (Sn.mi A) n x), up1 (Sn.am A) p (pm (Sn.mi A) n x), Sn.wa A)
def mvA (p x : Nat) (A : Sn) : Sn := (Sn.mi A, Sn.ho A, Sn.ye A, upN (Sn.to A) p (some x), Sn.ag A, Sn.ar A, Sn.am A, Sn.wa A)
def rtA (p : Nat) (A : Sn) : Sn := (Sn.mi A, Sn.ho A, Sn.ye A, upN (Sn.to A) p none, Sn.ag A, up1 (Sn.ar A) p (fun _ => none), up1 (Sn.am A) p (fun _ => none), Sn.wa A)
def yrA (np : Nat) (A : Sn) : Sn := (Sn.mi A, Sn.ho A, Sn.ye A + 1, yTo (Sn.to A) (Sn.ag A) np, yAg (Sn.to A) (Sn.ag A) np, yAr (Sn.to A) (Sn.ag A) (Sn.ar A) np, yAr (Sn.to A) (Sn.ag A) (Sn.am A) np, Sn.wa A)
def lyA (a b l : Nat) (A : Sn) : Sn := (sM (Sn.mi A) a b l, Sn.ho A, Sn.ye A, Sn.to A, Sn.ag A, Sn.ar A, Sn.am A, Sn.wa A)
def hrA (n np : Nat) (ki go : Nat → Nat) (k : Nat) (A : Sn) : Sn := (Sn.mi A, Sn.ho A + k, Sn.ye A, Sn.to A, Sn.ag A, Sn.ar A, Sn.am A, hsK (Sn.mi A) n np 0 ki (Sn.to A) (Sn.ag A) (Sn.ar A) go (Sn.ho A) (Sn.wa A) k)
section AC
variable {σ : Sg} {n np nw : Nat} {ki go : Nat → Nat} {A : Sn} {y c : Nat}
theorem VA_pa (h : VA n np nw ki go A) {p x : Nat} (e : Sn.to A p = some x) : VA n np nw ki go (paA n p x A) := ⟨VY_p h.1 e, h.2⟩
theorem VA_hr (h : VA n np nw ki go A) {k : Nat} (e : Sn.ho A + k ≤ 3000) : VA n np nw ki go (hrA n np ki go k A) := ⟨hsK_lt h.1 k e, h.2⟩
theorem VA_ly (h : VA n np nw ki go A) {a b l : Nat} (ha : a < n) (hb : b < n) (hl : l ≤ 9) : VA n np nw ki go (lyA a b l A) := ⟨VY_m h.1 (VM_s h.1.1 ha hb hl), h.2⟩
theorem VA_mv (h : VA n np nw ki go A) {p x : Nat} (hx : x < n) (hp : Sn.to A p ≠ none) : VA n np nw ki go (mvA p x A) := by
  obtain ⟨⟨v1, v2, v3, v4, v5, v6, v7, v8, v9, v10⟩, hA⟩ := h
  refine ⟨⟨v1, v2, v3, ?_, v5, v6, v7, v8, v9, ?_⟩, ?_⟩
  · intro q u e
    by_cases c : q = p
    · subst c
      have e : some x = some u := (upN_at).symm.trans e
      cases e; exact hx
    · exact v4 q u ((upN_ne c).symm.trans e)
  · intro q t e
    by_cases c : q = p
    · subst c
      have e : some x = none := (upN_at).symm.trans e
      cases e
    · exact v10 q t ((upN_ne c).symm.trans e)
  · intro q e
    by_cases c : q = p
    · subst c; exact hA q hp
    · exact hA q (fun z => e ((upN_ne c).trans z))
theorem VA_rt (h : VA n np nw ki go A) {p : Nat} : VA n np nw ki go (rtA p A) := by
  obtain ⟨⟨v1, v2, v3, v4, v5, v6, v7, v8, v9, v10⟩, hA⟩ := h
  refine ⟨⟨v1, v2, v3, ?_, v5, ?_, ?_, v8, v9, ?_⟩, ?_⟩
  · intro q u e
    by_cases c : q = p
    · subst c
      have e : none = some u := (upN_at).symm.trans e
      cases e
    · exact v4 q u ((upN_ne c).symm.trans e)
  · intro q t u e
    have e : (if q = p then (fun _ => none) else Sn.ar A q) t = some u := e
    by_cases c : q = p
    · rw [if_pos c] at e; cases e
    · rw [if_neg c] at e; exact v6 q t u e
  · intro q t u e
    have e : (if q = p then (fun _ => none) else Sn.am A q) t = some u := e
    by_cases c : q = p
    · rw [if_pos c] at e; cases e
    · rw [if_neg c] at e; exact v7 q t u e
  · intro q t e
    show (if q = p then (fun _ => none) else Sn.ar A q) t = none ∧ (if q = p then (fun _ => none) else Sn.am A q) t = none
    by_cases c : q = p
    · rw [if_pos c, if_pos c]; exact ⟨rfl, rfl⟩
    · rw [if_neg c, if_neg c]; exact v10 q t ((upN_ne c).symm.trans e)
  · intro q e
    by_cases c : q = p
    · subst c; exact absurd (upN_at) e
    · exact hA q (fun z => e ((upN_ne c).trans z))
theorem VA_yr (h : VA n np nw ki go A) (hy : Sn.ye A + 1 ≤ 100000) : VA n np nw ki go (yrA np A) := by
  obtain ⟨a, b⟩ := VY_y h.1 h.2 hy (N := np)
  refine ⟨a, fun p e => ?_⟩
  by_cases c : p < np
  · exact b p c e
  · have e1 : yTo (Sn.to A) (Sn.ag A) np p = Sn.to A p := if_neg (fun z => c z.1)
    have e2 : yAg (Sn.to A) (Sn.ag A) np p = Sn.ag A p := if_neg (fun z => c z.1)
    show yAg (Sn.to A) (Sn.ag A) np p ≤ 59
    rw [e2]
    exact h.2 p (fun z => e (e1.trans z))
/-- the class' acts -/
theorem cy_pa (hK : KC σ) (hg : gY y) (hV : VA n np nw ki go A) (h : CY σ y n np nw ki go A) {p x : Nat} (hp : p < np) (e : Sn.to A p = some x) : ∃ σ', f_X5_paintPost σ y (nI p) = some (nI (cn (fun t => (pr (Sn.mi A) n x t).isSome) 8), σ') ∧ KC σ' ∧ (∀ i, (i < y ∨ y + 13 < i) → σ' i = σ i) ∧ CY σ' y n np nw ki go (paA n p x A) := pp_ok hK hg hV.1 h hp e
theorem cy_mv (hK : KC σ) (hg : gY y) (hV : VA n np nw ki go A) (h : CY σ y n np nw ki go A) {p x : Nat} (hp : p < np) : ∃ σ', f_X5_movePost σ y (nI p) (nI x) = some σ' ∧ KC σ' ∧ (∀ i, (i < y ∨ y + 13 < i) → σ' i = σ i) ∧ CY σ' y n np nw ki go (mvA p x A) := mp_ok hK hg h hV.1.np8 hp
theorem cy_rt (hK : KC σ) (hg : gY y) (hV : VA n np nw ki go A) (h : CY σ y n np nw ki go A) {p : Nat} (hp : p < np) : ∃ σ', f_X5_retirePost σ y (nI p) = some σ' ∧ KC σ' ∧ (∀ i, (i < y ∨ y + 13 < i) → σ' i = σ i) ∧ CY σ' y n np nw ki go (rtA p A) := rp_ok hK hg h hV.1.np8 hp
theorem cy_yr (hK : KC σ) (hg : gY y) (hV : VA n np nw ki go A) (h : CY σ y n np nw ki go A) : ∃ σ', f_X5_passYear σ y = some (nI (cn (yP (Sn.to A) (Sn.ag A)) np), σ') ∧ KC σ' ∧ (∀ i, (i < y ∨ y + 13 < i) → σ' i = σ i) ∧ CY σ' y n np nw ki go (yrA np A) := py_ok hK hg hV.1 h
theorem cy_ly (hK : KC σ) (hg : gY y) (hV : VA n np nw ki go A) (h : CY σ y n np nw ki go A) {a b l : Nat} (ha : a < n) (hb : b < n) (hl : l ≤ 9) : ∃ σ', f_X3_change σ (y + 1) (nI a) (nI b) (nI l) = some σ' ∧ KC σ' ∧ (∀ i, (i < y ∨ y + 13 < i) → σ' i = σ i) ∧ CY σ' y n np nw ki go (lyA a b l A) := yc_ok hK hg hV.1.1 h ha hb hl
theorem cy_hr (hK : KC σ) (hg : gY y) (hV : VA n np nw ki go A) (h : CY σ y n np nw ki go A) {k : Nat} (hk : k ≤ 60) (hh : Sn.ho A + k ≤ 3000) : ∃ σ', f_X5_passHours σ y (nI k) = some σ' ∧ KC σ' ∧ (∀ i, (i < y ∨ y + 13 < i) → σ' i = σ i) ∧ CY σ' y n np nw ki go (hrA n np ki go k A) := ph_ok hK hg hV.1 h hk hh
theorem hrA_s {k : Nat} : hrA n np ki go 1 (hrA n np ki go k A) = hrA n np ki go (k + 1) A := rfl
theorem hrA_0 : hrA n np ki go 0 A = A := rfl
end AC

def drX (z t : Nat) : Nat := 7919 * z + 6151 * t + 1
def drw (z t : Nat) : Nat := drX z t * drX z t % 65521 / 2
theorem drw_lt {z t : Nat} : drw z t < 65521 := Nat.lt_of_le_of_lt (Nat.div_le_self _ _) (Nat.mod_lt _ (by omega))
theorem dr_core {z t : Nat} (hz : z ≤ 9999) (ht : t ≤ 60) : (jreml (((((7919 : Int64) * (nI z).toInt64) + ((6151 : Int64) * (nI t).toInt64)) + (1 : Int64)) * ((((7919 : Int64) * (nI z).toInt64) + ((6151 : Int64) * (nI t).toInt64)) + (1 : Int64))) (65521 : Int64)).toInt = ((drX z t * drX z t % 65521 : Nat) : Int) := by
  have cz : (nI z).toInt64.toInt = (z : Int) := by rw [Kit.i64_of_i32, nI_toInt (by omega)]
  have ct : (nI t).toInt64.toInt = (t : Int) := by rw [Kit.i64_of_i32, nI_toInt (by omega)]
  have k1 : (7919 : Int64).toInt = 7919 := by decide
  have k2 : (6151 : Int64).toInt = 6151 := by decide
  have k3 : (1 : Int64).toInt = 1 := by decide
  have k4 : (65521 : Int64).toInt = 65521 := by decide
  have e1 : ((7919 : Int64) * (nI z).toInt64).toInt = 7919 * (z : Int) := by
    rw [Kit.i64_mul (by rw [cz, k1]; omega) (by rw [cz, k1]; omega), cz, k1]
  have e2 : ((6151 : Int64) * (nI t).toInt64).toInt = 6151 * (t : Int) := by
    rw [Kit.i64_mul (by rw [ct, k2]; omega) (by rw [ct, k2]; omega), ct, k2]
  have e3 : (((7919 : Int64) * (nI z).toInt64) + ((6151 : Int64) * (nI t).toInt64)).toInt = 7919 * (z : Int) + 6151 * (t : Int) := by
    rw [Kit.i64_add (by rw [e1, e2]; omega) (by rw [e1, e2]; omega), e1, e2]
  have e4 : ((((7919 : Int64) * (nI z).toInt64) + ((6151 : Int64) * (nI t).toInt64)) + (1 : Int64)).toInt = ((drX z t : Nat) : Int) := by
    rw [Kit.i64_add (by rw [e3, k3]; omega) (by rw [e3, k3]; omega), e3, k3]
    unfold drX
    omega
  have xb : drX z t ≤ 134217728 := by unfold drX; omega
  have xx : drX z t * drX z t ≤ 134217728 * 134217728 := Nat.mul_le_mul xb xb
  generalize hE : (((7919 : Int64) * (nI z).toInt64) + ((6151 : Int64) * (nI t).toInt64)) + (1 : Int64) = E at e4 ⊢
  generalize drX z t = X at e4 xb xx ⊢
  have e5 : (E * E).toInt = ((X * X : Nat) : Int) := by
    rw [Kit.i64_mul (by rw [e4, ← Int.natCast_mul]; omega) (by rw [e4, ← Int.natCast_mul]; omega), e4, ← Int.natCast_mul]
  unfold jreml
  rw [Kit.i64_rem_nonneg (by rw [e5]; omega), e5, k4]
  omega
theorem dr_c {σ : Sg} {z t : Nat} (hz : z ≤ 9999) (ht : t ≤ 60) : f_X6_drawn σ (nI z) (nI t) = some (nI (drw z t)) := by
  have e := dr_core hz ht
  have r := Nat.mod_lt (drX z t * drX z t) (show 0 < 65521 by omega)
  have k2 : (2 : Int64).toInt = 2 := by decide
  unfold f_X6_drawn
  congr 1
  have d : ((jreml (((((7919 : Int64) * (nI z).toInt64) + ((6151 : Int64) * (nI t).toInt64)) + (1 : Int64)) * ((((7919 : Int64) * (nI z).toInt64) + ((6151 : Int64) * (nI t).toInt64)) + (1 : Int64))) (65521 : Int64)) / (2 : Int64)).toInt = ((drw z t : Nat) : Int) := by
    rw [Kit.i64_div (fun q => by have := q.2; rw [k2] at this; omega), e, k2, Int.tdiv_eq_ediv_of_nonneg (by omega)]
    unfold drw
    omega
  have := drw_lt (z := z) (t := t)
  refine nI_lt_of ?_ (by omega)
  rw [Kit.i32_of_i64 (by rw [d]; omega) (by rw [d]; omega), d]
theorem dr_m {z t : Nat} (hz : z ≤ 9999) (ht : t ≤ 60) : ((jreml (((((7919 : Int64) * (nI z).toInt64) + ((6151 : Int64) * (nI t).toInt64)) + (1 : Int64)) * ((((7919 : Int64) * (nI z).toInt64) + ((6151 : Int64) * (nI t).toInt64)) + (1 : Int64))) (65521 : Int64))).toInt32 / (2 : Int32) = nI (drw z t) := by
  have e := dr_core hz ht
  have r := Nat.mod_lt (drX z t * drX z t) (show 0 < 65521 by omega)
  have d : ((jreml (((((7919 : Int64) * (nI z).toInt64) + ((6151 : Int64) * (nI t).toInt64)) + (1 : Int64)) * ((((7919 : Int64) * (nI z).toInt64) + ((6151 : Int64) * (nI t).toInt64)) + (1 : Int64))) (65521 : Int64))).toInt32 = nI (drX z t * drX z t % 65521) := by
    refine nI_lt_of ?_ (by omega)
    rw [Kit.i32_of_i64 (by rw [e]; omega) (by rw [e]; omega), e]
  rw [d, L_2, div_n (by omega) (by omega)]
  rfl
section CE
variable {σ : Sg} {n np nw : Nat} {ki go : Nat → Nat} {A : Sn}
/-- one draw's act -/
def ctA (n np d : Nat) (A : Sn) : Sn :=
  if d / 64 % 6 = 0 then (match Sn.to A (d % np) with
    | none => A
    | some x => paA n (d % np) x A)
  else if d / 64 % 6 = 1 then (match Sn.to A (d % np) with
    | none => A
    | some _ => mvA (d % np) (d / 8 % n) A)
  else if d / 64 % 6 = 2 then yrA np A
  else if d / 64 % 6 = 3 then lyA (d / 8 % n) (tnx n (d / 8 % n)) (if 0 < Sn.mi A (d / 8 % n) (tnx n (d / 8 % n)) then 0 else d / 512 % 9 + 1) A
  else A
theorem ctA_ho {d : Nat} : Sn.ho (ctA n np d A) = Sn.ho A := by
  unfold ctA
  split
  · split <;> rfl
  · split
    · split <;> rfl
    · split
      · rfl
      · split <;> rfl
theorem ctA_ye {d : Nat} : Sn.ye (ctA n np d A) ≤ Sn.ye A + 1 := by
  unfold ctA
  split
  · split <;> exact Nat.le_succ _
  · split
    · split <;> exact Nat.le_succ _
    · split
      · exact Nat.le_refl _
      · split <;> exact Nat.le_succ _
theorem VA_ct (h : VA n np nw ki go A) {d : Nat} (hy : Sn.ye A + 1 ≤ 100000) : VA n np nw ki go (ctA n np d A) := by
  have h2 := h.1.n2
  unfold ctA
  split
  · split
    · exact h
    · next e => exact VA_pa h e
  · split
    · split
      · exact h
      · next e => exact VA_mv h (Nat.mod_lt _ (by omega)) (by rw [e]; exact fun z => by cases z)
    · split
      · exact VA_yr h hy
      · split
        · exact VA_ly h (Nat.mod_lt _ (by omega)) (tnx_lt (by omega)) (by split <;> omega)
        · exact h
theorem cs0 {d : Nat} {c : Nat} (hc : c < 6) : (nI (d / 64 % 6) = nI c) ↔ d / 64 % 6 = c := nI_eq (by omega) (by omega)
theorem ab_ok (hK : KC σ) (hV : VA n np nw ki go A) (h1 : 1 ≤ np) (h : CY σ 20 n np nw ki go A) {d : Nat} (hd : d < 2 ^ 31) : ∃ σ', f_X6_actByDraw σ (nI d) = some σ' ∧ KC σ' ∧ (∀ i, (i < 20 ∨ 33 < i) → σ' i = σ i) ∧ CY σ' 20 n np nw ki go (ctA n np d A) := by
  have h2 := hV.1.n2
  have h8 := hV.1.n8
  have hp8 := hV.1.np8
  have p1 : d % np < np := Nat.mod_lt _ (by omega)
  have x1 : d / 8 % n < n := Nat.mod_lt _ (by omega)
  have y1 : tnx n (d / 8 % n) < n := tnx_lt (by omega)
  have d8 : d / 8 ≤ d := Nat.div_le_self _ _
  have d64 : d / 64 ≤ d := Nat.div_le_self _ _
  have d512 : d / 512 ≤ d := Nat.div_le_self _ _
  unfold f_X6_actByDraw f_X5_posts f_X5_towns f_X3_towns
  rw [h.1.1, show σ (20 + 1) 0 = nI n from h.2.1.1, sb, sb, sb, L_1, if_neg (nI_nlt h1 (by omega)), if_pos (nI_le (by omega) (by omega)), re_n hd (by omega) (by omega), sb, L_8, div_n hd (by omega), re_n (by omega) (by omega) (by omega), sb, L_64, div_n hd (by omega), L_6, rem_n (by omega) (by omega), L_0, L_2, L_3, L_512, div_n hd (by omega), L_9, rem_n (by omega) (by omega), nI_add]
  unfold ctA
  by_cases k0 : d / 64 % 6 = 0
  · rw [if_pos ((cs0 (by omega)).mpr k0), if_pos k0, ir_ok hK gY20 hV.1 h p1, sb]
    cases e : Sn.to A (d % np) with
    | none => rw [b32_t rfl, if_pos (show ¬ (1 : Int32) = nI 0 by decide)]; exact ⟨σ, rfl, hK, fun _ _ => rfl, h⟩
    | some x =>
      obtain ⟨σ', g1, g2, g3, g4⟩ := cy_pa hK gY20 hV h p1 e
      rw [b32_f (fun z => by cases z), if_neg (fun z => z rfl), g1, sb]
      exact ⟨σ', rfl, g2, fun i hi => g3 i (by omega), g4⟩
  · rw [if_neg (fun z => k0 ((cs0 (by omega)).mp z)), if_neg k0]
    by_cases k1 : d / 64 % 6 = 1
    · rw [if_pos ((cs0 (by omega)).mpr k1), if_pos k1, ir_ok hK gY20 hV.1 h p1, sb]
      cases e : Sn.to A (d % np) with
      | none => rw [b32_t rfl, if_pos (show ¬ (1 : Int32) = nI 0 by decide)]; exact ⟨σ, rfl, hK, fun _ _ => rfl, h⟩
      | some x =>
        obtain ⟨σ', g1, g2, g3, g4⟩ := cy_mv (x := d / 8 % n) hK gY20 hV h p1
        rw [b32_f (fun z => by cases z), if_neg (fun z => z rfl), g1, sb]
        exact ⟨σ', rfl, g2, fun i hi => g3 i (by omega), g4⟩
    · rw [if_neg (fun z => k1 ((cs0 (by omega)).mp z)), if_neg k1]
      by_cases k2 : d / 64 % 6 = 2
      · obtain ⟨σ', g1, g2, g3, g4⟩ := cy_yr hK gY20 hV h
        rw [if_pos ((cs0 (by omega)).mpr k2), if_pos k2, g1, sb]
        exact ⟨σ', rfl, g2, fun i hi => g3 i (by omega), g4⟩
      · rw [if_neg (fun z => k2 ((cs0 (by omega)).mp z)), if_neg k2]
        by_cases k3 : d / 64 % 6 = 3
        · have tb : f_X3_townBehind σ (20 + 1) (nI (d / 8 % n)) = some (nI (tnx n (d / 8 % n))) := by
            unfold f_X3_townBehind tnx
            rw [show σ (20 + 1) 0 = nI n from h.2.1.1, nI_1]
            by_cases c : d / 8 % n + 1 < n
            · rw [if_neg (nI_ge c (by omega)), if_pos c]
            · rw [if_pos (nI_le (by omega) (by omega)), if_neg c]; rfl
          rw [if_pos ((cs0 (by omega)).mpr k3), if_pos k3]
          unfold f_X6_layOrClose
          rw [tb, sb, btw_ok hK gY20.2.2.1.1 h.2.1 (by omega) (by omega), sb]
          have hm := hV.1.1.2.2.1 (d / 8 % n) (tnx n (d / 8 % n))
          by_cases c : 0 < Sn.mi A (d / 8 % n) (tnx n (d / 8 % n))
          · obtain ⟨σ', g1, g2, g3, g4⟩ := cy_ly (l := 0) hK gY20 hV h x1 y1 (by omega)
            rw [L_0, if_neg (nI_ge c (by omega)), if_pos c, g1, sb, sb]
            exact ⟨σ', rfl, g2, fun i hi => g3 i (by omega), g4⟩
          · obtain ⟨σ', g1, g2, g3, g4⟩ := cy_ly (l := d / 512 % 9 + 1) hK gY20 hV h x1 y1 (by omega)
            rw [L_0, if_pos (nI_le (by omega) (by omega)), if_neg c, g1, sb, sb]
            exact ⟨σ', rfl, g2, fun i hi => g3 i (by omega), g4⟩
        · rw [if_neg (fun z => k3 ((cs0 (by omega)).mp z)), if_neg k3]
          exact ⟨σ, rfl, hK, fun _ _ => rfl, h⟩
def cA (n np z : Nat) (ki go : Nat → Nat) (A : Sn) : Nat → Sn
  | 0 => A
  | k + 1 => hrA n np ki go 1 (ctA n np (drw z k) (cA n np z ki go A k))
theorem cA_ok (hV : VA n np nw ki go A) (hh : Sn.ho A ≤ 1000) (hy : Sn.ye A ≤ 1000) {z : Nat} : ∀ k, k ≤ 60 → VA n np nw ki go (cA n np z ki go A k) ∧ Sn.ho (cA n np z ki go A k) = Sn.ho A + k ∧ Sn.ye (cA n np z ki go A k) ≤ Sn.ye A + k
  | 0, _ => ⟨hV, rfl, Nat.le_refl _⟩
  | k + 1, hk => by
    obtain ⟨a, b, c⟩ := cA_ok hV hh hy (z := z) k (by omega)
    have a2 := VA_ct (d := drw z k) a (by omega)
    have b2 := ctA_ho (n := n) (np := np) (d := drw z k) (A := cA n np z ki go A k)
    have c2 := ctA_ye (n := n) (np := np) (d := drw z k) (A := cA n np z ki go A k)
    refine ⟨VA_hr a2 (by omega), ?_, ?_⟩
    · show Sn.ho (ctA n np (drw z k) (cA n np z ki go A k)) + 1 = _
      omega
    · show Sn.ye (ctA n np (drw z k) (cA n np z ki go A k)) ≤ _
      omega
theorem c_cen {τ1 : Sg} (K1 : KC τ1) (hV : VA n np nw ki go A) (h1 : 1 ≤ np) (hh : Sn.ho A ≤ 1000) (hy : Sn.ye A ≤ 1000) (h : CY τ1 20 n np nw ki go A) {z N : Nat} (hz : z ≤ 9999) (hN : N ≤ 60) : ∃ τ, lp (fun st => f_X6_century_b1 (nI z) (nI N) st.1 st.2) FU ((0 : Int32), τ1) = some τ ∧ (KC τ ∧ (∀ i, (i < 20 ∨ 33 < i) → τ i = τ1 i) ∧ CY τ 20 n np nw ki go (cA n np z ki go A N)) := by
  refine lp_inv (fun j (s : Int32 × Sg) => s.1 = nI j ∧ KC s.2 ∧ (∀ i, (i < 20 ∨ 33 < i) → s.2 i = τ1 i) ∧ CY s.2 20 n np nw ki go (cA n np z ki go A j)) N (by omega) ⟨rfl, K1, fun _ _ => rfl, h⟩ ?_ ?_
  · rintro j ⟨x, τ⟩ hj ⟨e, Kt, ft, Yt⟩
    dsimp only at e Kt ft Yt
    subst e
    obtain ⟨a, b, c⟩ := cA_ok hV hh hy (z := z) j (by omega)
    obtain ⟨τ2, g1, g2, g3, g4⟩ := ab_ok Kt a h1 Yt (d := drw z j) (by have := drw_lt (z := z) (t := j); omega)
    have a2 := VA_ct (d := drw z j) a (by omega)
    have b2 := ctA_ho (n := n) (np := np) (d := drw z j) (A := cA n np z ki go A j)
    obtain ⟨τ3, q1, q2, q3, q4⟩ := cy_hr g2 gY20 a2 g4 (k := 1) (by omega) (by omega)
    show ∃ s', f_X6_century_b1 (nI z) (nI N) (nI j) τ = _ ∧ _
    unfold f_X6_century_b1
    rw [if_neg (nI_ge hj (by omega)), dr_c hz (by omega), sb, g1, sb, L_1, q1, sb, nI_add]
    exact ⟨_, rfl, rfl, q2, fun i hi => (q3 i (by omega)).trans ((g3 i hi).trans (ft i hi)), q4⟩
  · rintro ⟨x, τ⟩ ⟨e, Kt, ft, Yt⟩
    dsimp only at e Kt ft Yt
    subst e
    show ∃ s', f_X6_century_b1 (nI z) (nI N) (nI N) τ = _ ∧ _
    unfold f_X6_century_b1
    rw [if_pos (nI_le (Nat.le_refl _) (by omega))]
    exact ⟨_, rfl, Kt, ft, Yt⟩
theorem OK_VA {N : Nat} (h : OK N n np nw ki go A) : VA n np nw ki go A := ⟨h.1, h.2.1⟩
theorem what3_out {a1 : Int32} (o : a1 < 0 ∨ nI 3 ≤ a1) {α : Type} {x y : α} : (if a1 < 0 then y else if a1 ≤ (2 : Int32) then x else y) = y := by
  by_cases c : a1 < 0
  · rw [if_pos c]
  · rw [if_neg c, if_neg]
    intro z
    exact absurd (Int32.le_trans (o.resolve_left c) z) (by decide)
end CE

theorem gb_n {n k : Nat} (h : k < n) (hn : n < 2 ^ 31) : gb n (nI k) = some k := by
  unfold gb
  rw [if_neg (nI_in h hn), nI_clamp (by omega)]
def pushS (A : Sn) (S : Nat → Sn) : Nat → Sn
  | 0 => A
  | i + 1 => S i
theorem sl8u : ∀ f : Fin 8, (if f.val + 1 < 8 then f.val + 1 else 0) < 8 ∧ ((if f.val + 1 < 8 then f.val + 1 else 0) + 8 - 1 - 0) % 8 = f.val ∧ ∀ i : Fin 8, i.val + 1 < 8 → ((if f.val + 1 < 8 then f.val + 1 else 0) + 8 - 1 - (i.val + 1)) % 8 = (f.val + 8 - 1 - i.val) % 8 ∧ (f.val + 8 - 1 - i.val) % 8 ≠ f.val := by decide +kernel
theorem sl2u : ∀ f : Fin 2, (if f.val + 1 < 2 then f.val + 1 else 0) < 2 ∧ ((if f.val + 1 < 2 then f.val + 1 else 0) + 2 - 1 - 0) % 2 = f.val ∧ ∀ i : Fin 2, i.val + 1 < 2 → ((if f.val + 1 < 2 then f.val + 1 else 0) + 2 - 1 - (i.val + 1)) % 2 = (f.val + 2 - 1 - i.val) % 2 ∧ (f.val + 2 - 1 - i.val) % 2 ≠ f.val := by decide +kernel
theorem sl8d : ∀ f : Fin 8, (if f.val = 0 then 8 - 1 else f.val - 1) < 8 ∧ (f.val + 8 - 1 - 0) % 8 = (if f.val = 0 then 8 - 1 else f.val - 1) ∧ ∀ i : Fin 8, i.val + 1 < 8 → ((if f.val = 0 then 8 - 1 else f.val - 1) + 8 - 1 - i.val) % 8 = (f.val + 8 - 1 - (i.val + 1)) % 8 := by decide +kernel
theorem sl2d : ∀ f : Fin 2, (if f.val = 0 then 2 - 1 else f.val - 1) < 2 ∧ (f.val + 2 - 1 - 0) % 2 = (if f.val = 0 then 2 - 1 else f.val - 1) ∧ ∀ i : Fin 2, i.val + 1 < 2 → ((if f.val = 0 then 2 - 1 else f.val - 1) + 2 - 1 - i.val) % 2 = (f.val + 2 - 1 - (i.val + 1)) % 2 := by decide +kernel
theorem sl_u {cap f : Nat} (hc : cap = 8 ∨ cap = 2) (h3 : f < cap) : ∃ f', f' < cap ∧ (f' + cap - 1 - 0) % cap = f ∧ (∀ i, i + 1 < cap → (f' + cap - 1 - (i + 1)) % cap = (f + cap - 1 - i) % cap ∧ (f + cap - 1 - i) % cap ≠ f) ∧ f' = if f + 1 < cap then f + 1 else 0 := by
  rcases hc with rfl | rfl
  · exact ⟨_, (sl8u ⟨f, h3⟩).1, (sl8u ⟨f, h3⟩).2.1, fun i hi => (sl8u ⟨f, h3⟩).2.2 ⟨i, by omega⟩ hi, rfl⟩
  · exact ⟨_, (sl2u ⟨f, h3⟩).1, (sl2u ⟨f, h3⟩).2.1, fun i hi => (sl2u ⟨f, h3⟩).2.2 ⟨i, by omega⟩ hi, rfl⟩
theorem sl_d {cap f : Nat} (hc : cap = 8 ∨ cap = 2) (h3 : f < cap) : ∃ g, g < cap ∧ (f + cap - 1 - 0) % cap = g ∧ (∀ i, i + 1 < cap → (g + cap - 1 - i) % cap = (f + cap - 1 - (i + 1)) % cap) ∧ g = if f = 0 then cap - 1 else f - 1 := by
  rcases hc with rfl | rfl
  · exact ⟨_, (sl8d ⟨f, h3⟩).1, (sl8d ⟨f, h3⟩).2.1, fun i hi => (sl8d ⟨f, h3⟩).2.2 ⟨i, by omega⟩ hi, rfl⟩
  · exact ⟨_, (sl2d ⟨f, h3⟩).1, (sl2d ⟨f, h3⟩).2.1, fun i hi => (sl2d ⟨f, h3⟩).2.2 ⟨i, by omega⟩ hi, rfl⟩
section SE
variable {σ : Sg} {n np nw : Nat} {ki go : Nat → Nat} {A : Sn} {m : Nat} {S : Nat → Sn} {s cap : Nat}
theorem sa_ok (hK : KC σ) (hc : cap = 8 ∨ cap = 2) (hl : ln (s + 1) = cap) (hs : 20 < s) (hk : kd s ≠ 0) (hg : ∀ j, j < cap → gY (s + 1 + 1 + 14 * j)) (hV : VA n np nw ki go A) (h : CY σ 6 n np nw ki go A) (hS : SH σ s cap n np nw ki go m S) : ∃ σ', f_X4_setAside σ s 6 = some σ' ∧ KC σ' ∧ (∀ i, (i < s ∨ s + 2 + 14 * cap ≤ i) → σ' i = σ i) ∧ SH σ' s cap n np nw ki go (if m < cap then m + 1 else m) (pushS A S) := by
  obtain ⟨h1, h2, f, h3, h4, h5⟩ := hS
  obtain ⟨σ1, e1, K1, f1, Y1⟩ := yb_ok hK (hg f h3) gY6 (by omega) h hV.1.np8 hV.1.nw5 hV.1.n8
  have q1 : σ1 s = σ s := f1 s (by omega)
  obtain ⟨f', hf1, hf2, hf3, hf4⟩ := sl_u hc h3
  have e2 : f_X4_setAside σ s 6 = some (sf (sf σ1 s 2 (nI f')) s 1 (nI (if m < cap then m + 1 else m))) := by
    unfold f_X4_setAside
    rw [h4, if_neg (nI_pos (by omega)), hl, ofN, if_neg (nI_ge h3 (by omega)), gb_n h3 (by omega), sb, e1, sb, q1, h4, nI_1]
    have q2 : ∀ v, (sf σ1 s 2 v) s 1 = nI m := fun v => by rw [sf_row, upd_ne (by omega), q1, h1]
    by_cases c : f + 1 < cap
    · rw [if_neg (nI_ge c (by omega)), sb, q2, nI_1, sb, hf4, if_pos c]
      by_cases d : m < cap
      · rw [if_neg (nI_nlt (by omega) (by omega)), if_pos d]
      · rw [if_pos (nI_lt (by omega) (by omega)), if_neg d, show cap = m by omega]
    · rw [if_pos (nI_le (by omega) (by omega)), sb, q2, nI_1, sb, hf4, if_neg c]
      by_cases d : m < cap
      · rw [if_neg (nI_nlt (by omega) (by omega)), if_pos d]; rfl
      · rw [if_pos (nI_lt (by omega) (by omega)), if_neg d, show cap = m by omega]; rfl
  have F : ∀ i, i ≠ s → (i < s + 1 + 1 + 14 * f ∨ s + 1 + 1 + 14 * f + 13 < i) → sf (sf σ1 s 2 (nI f')) s 1 (nI (if m < cap then m + 1 else m)) i = σ i := fun i a b => by rw [sf_ne a, sf_ne a]; exact f1 i b
  refine ⟨_, e2, KC_sf (KC_sf K1 hk) hk, fun i hi => F i (by omega) (by omega), ?_, ?_, f', hf1, ?_, fun i hi => ?_⟩
  · rw [sf_row, upd_self]
  · split <;> omega
  · rw [sf_row, upd_ne (by omega), sf_row, upd_self]
  · cases i with
    | zero =>
      rw [hf2]
      exact CY_fr (σ := σ1) Y1 (fun j a b => by rw [sf_ne (by omega), sf_ne (by omega)])
    | succ i =>
      have hi' : i + 1 < cap ∧ i < m := by split at hi <;> omega
      obtain ⟨g1, g2⟩ := hf3 i hi'.1
      rw [g1]
      exact CY_fr (h5 i hi'.2) (fun j a b => F j (by omega) (by omega))
theorem gv_ok (hK : KC σ) (hc : cap = 8 ∨ cap = 2) (hl : ln (s + 1) = cap) (hs : 20 < s) (hk : kd s ≠ 0) (hg : ∀ j, j < cap → gY (s + 1 + 1 + 14 * j)) (hV : ∀ i, i < m → VA n np nw ki go (S i)) (hm : 0 < m) (hS : SH σ s cap n np nw ki go m S) : ∃ σ', f_X4_giveBack σ s 6 = some (1, σ') ∧ KC σ' ∧ (∀ i, (i < 6 ∨ 19 < i) → i ≠ s → σ' i = σ i) ∧ CY σ' 6 n np nw ki go (S 0) ∧ SH σ' s cap n np nw ki go (m - 1) (fun i => S (i + 1)) := by
  obtain ⟨h1, h2, f, h3, h4, h5⟩ := hS
  obtain ⟨g, hg1, hg2, hg3, hg4⟩ := sl_d hc h3
  have V0 := hV 0 hm
  have C0 := h5 0 hm
  rw [hg2] at C0
  obtain ⟨σ1, e1, K1, f1, Y1⟩ := yb_ok hK gY6 (hg g hg1) (by omega) C0 V0.1.np8 V0.1.nw5 V0.1.n8
  have q1 : σ1 s = σ s := f1 s (by omega)
  have e2 : f_X4_giveBack σ s 6 = some (1, sf (sf σ1 s 2 (nI g)) s 1 (nI (m - 1))) := by
    have q2 : (sf σ1 s 2 (nI g)) s 1 - 1 = nI (m - 1) := by
      rw [sf_row, upd_ne (by omega), q1, h1]
      obtain ⟨w, rfl⟩ : ∃ w, m = w + 1 := ⟨m - 1, by omega⟩
      exact nI_pred _
    unfold f_X4_giveBack
    rw [h4, h1, hl, ofN]
    by_cases c : f = 0
    · subst c
      obtain ⟨w, hw⟩ : ∃ w, cap = w + 1 := ⟨cap - 1, by omega⟩
      have hgw : g = w := by rw [hg4, if_pos rfl]; omega
      rw [if_pos (by rw [L_0]; exact nI_le (Nat.le_refl _) (by omega)), if_neg (by rw [L_0]; exact nI_ge hm (by omega)), hw, nI_pred, if_neg (nI_pos (by omega)), if_neg (nI_ge (by omega) (by omega)), gb_n (by omega) (by omega), sb, ← hgw, e1, sb, sb, q2, sb]
    · obtain ⟨w, hw⟩ : ∃ w, f = w + 1 := ⟨f - 1, by omega⟩
      have hgw : g = w := by rw [hg4, if_neg c]; omega
      rw [if_neg (by rw [L_0]; exact nI_ge (by omega) (by omega)), if_neg (by rw [L_0]; exact nI_ge hm (by omega)), hw, nI_pred, if_neg (nI_pos (by omega)), if_neg (nI_ge (by omega) (by omega)), gb_n (by omega) (by omega), sb, ← hgw, e1, sb, sb, q2, sb]
  have F : ∀ i, i ≠ s → (i < 6 ∨ 19 < i) → sf (sf σ1 s 2 (nI g)) s 1 (nI (m - 1)) i = σ i := fun i a b => by rw [sf_ne a, sf_ne a]; exact f1 i (by omega)
  refine ⟨_, e2, KC_sf (KC_sf K1 hk) hk, fun i a b => F i b a, CY_fr (σ := σ1) Y1 (fun j a b => by rw [sf_ne (by omega), sf_ne (by omega)]), ?_, by omega, g, hg1, ?_, fun i hi => ?_⟩
  · rw [sf_row, upd_self]
  · rw [sf_row, upd_ne (by omega), sf_row, upd_self]
  · rw [hg3 i (by omega)]
    have := Nat.mod_lt (f + cap - 1 - (i + 1)) (show 0 < cap by omega)
    exact CY_fr (h5 (i + 1) (by omega)) (fun j a b => F j (by omega) (by omega))
theorem gv_no (hS : SH σ s cap n np nw ki go 0 S) : f_X4_giveBack σ s 6 = some (0, σ) := by
  unfold f_X4_giveBack
  rw [hS.1, if_pos (show nI 0 ≤ 0 from Int32.le_refl _), if_pos (show nI 0 ≤ 0 from Int32.le_refl _), ite_self]
theorem SH_0 (hS : SH σ s cap n np nw ki go m S) {S' : Nat → Sn} : SH (sf σ s 1 0) s cap n np nw ki go 0 S' := by
  obtain ⟨h1, h2, f, h3, h4, h5⟩ := hS
  exact ⟨by rw [sf_row, upd_self]; rfl, Nat.zero_le _, f, h3, by rw [sf_row, upd_ne (by omega)]; exact h4, fun i hi => absurd hi (by omega)⟩
end SE

section AT
variable {σ : Sg} {N n np nw : Nat} {ki go : Nat → Nat} {A A' : Sn} {m : Nat} {S : Nat → Sn} {k : Nat} {K : Nat → Sn} {tl : Nat} {tf : Nat → Nat × Nat × Nat} {sl : Nat} {sg : Nat → Nat × Nat × Nat}
theorem ln35 : ln (34 + 1) = 8 := by decide
theorem ln149 : ln (148 + 1) = 2 := by decide
theorem kd34 : kd 34 ≠ 0 := by decide
theorem kd148 : kd 148 ≠ 0 := by decide
theorem OK_push {M : Nat} (h : OK N n np nw ki go A) (hS : ∀ i, i < m → OK N n np nw ki go (S i)) (hM : N ≤ M) : ∀ i, i < (if m < 8 then m + 1 else m) → OK M n np nw ki go (pushS A S i)
  | 0, _ => OK_mono h hM
  | i + 1, hi => OK_mono (hS i (by split at hi <;> omega)) hM
end AT

section KB
variable {σ σ' : Sg} {N n np nw : Nat} {ki go : Nat → Nat} {A A' : Sn} {m : Nat} {S : Nat → Sn} {k : Nat} {K : Nat → Sn} {tl : Nat} {tf : Nat → Nat × Nat × Nat} {sl : Nat} {sg : Nat → Nat × Nat × Nat}
theorem nar_ok {t : Nat} (h : t < 127) : vp_nar .byte (nI t).toInt8.toInt32 = nI t := by
  have : ∀ t : Fin 127, vp_nar .byte (nI t.val).toInt8.toInt32 = nI t.val := by decide +kernel
  exact this ⟨t, h⟩
theorem g2g : gd (1 + 1) 200 200 := gd_of (by decide +kernel)
theorem ad_ok {s : Nat} {a b c : Int32} (hK : KC σ) (hg : gd (s + 1) 3 18) (hk : kd (s + 1 + 1) ≠ 0) (hk2 : kd s ≠ 0) (hm : σ s 1 = nI m) (h6 : m < 6) : f_X2_add σ s a b c = some (nI (m + 1), sf (sf (sf (sf σ (s + 1 + 1) (m * 3 + 0) a) (s + 1 + 1) (m * 3 + 1) b) (s + 1 + 1) (m * 3 + 2) c) s 1 (nI (m + 1))) := by
  unfold f_X2_add
  rw [hm, L_6, if_pos (nI_lt h6 (by omega)), L_0, L_1, L_2, put_in hK hg (by omega) (by omega), sb, sf_ne (by omega), hm, put_in (KC_sf hK hk) hg (by omega) (by omega), sb, sf_ne (by omega), sf_ne (by omega), hm, put_in (KC_sf (KC_sf hK hk) hk) hg (by omega) (by omega), sb, sf_ne (by omega), sf_ne (by omega), sf_ne (by omega), hm, nI_add, sb, sf_row, upd_self]
theorem sa6 {i k : Nat} {v : Int32} (hl : ln i = 6) (hk : k < 6) : sa σ i (ln i) (nI k) v = some (sf σ i k v) := by rw [hl]; exact sa_n hk (by omega)
end KB
