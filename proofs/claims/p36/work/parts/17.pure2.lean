/-! Part 17: more of the pure part (out of whole's parts 16-18, 21). -/
def fN : Option Nat → Nat
  | none => 100000
  | some d => d
def dI (k : Nat) : Int32 := nI k + (-1 : Int32)
theorem dI_s (k : Nat) : dI (k + 1) = nI k := by
  unfold dI
  rw [nI_succ, Int32.add_assoc, show (1 : Int32) + (-1) = 0 by decide, Int32.add_zero]
theorem dI_0 : dI 0 = -1 := by decide
theorem dI_neg : dI 0 < 0 := by decide
theorem sub1 (k : Nat) : nI k - 1 = dI k := by
  cases k with
  | zero => decide
  | succ k => rw [nI_pred, dI_s]
theorem lp_down {S R : Type} {b : S → Option (S ⊕ R)} {r : R} (I : Nat → S) : ∀ (N n : Nat), N < n → (∀ k, k < N → b (I (k + 1)) = some (.inl (I k))) → b (I 0) = some (.inr r) → lp b n (I N) = some r
  | N, 0, h, _, _ => absurd h (by omega)
  | 0, n + 1, _, _, he => lp_end he
  | N + 1, n + 1, h, hs, he => (lp_go (hs N (by omega))).trans (lp_down I N n (by omega) (fun k hk => hs k (by omega)) he)
def fsK (mi : Mi) (a b : Nat) (d : Option Nat) (k : Nat) : Option Nat := d.bind fun d => lw (fsP mi a b d) k (8 - k)
section MD
variable {σ σ' : Sg} {c n : Nat} {mi : Mi} {np nw ho ye q ex al : Nat} {ki : Nat → Nat} {to : Nat → Option Nat} {ag : Nat → Nat} {ar am : Nat → Nat → Option Nat} {wa go : Nat → Nat}
theorem fN_min {A U V : Option Nat} (hA : ∀ x, A = some x → x ≤ 2304) (hU : ∀ x, U = some x → x ≤ 2304) (hV : ∀ x, V = some x → x ≤ 2304) : fN (omin A (oadd U V)) = if fN A ≤ fN U + fN V then fN A else fN U + fN V := by
  cases A with
  | none =>
    cases U with
    | none => simp [omin, oadd, fN]
    | some u =>
      cases V with
      | none => simp [omin, oadd, fN]
      | some v =>
        have := hU u rfl
        have := hV v rfl
        show u + v = if 100000 ≤ u + v then _ else u + v
        rw [if_neg (by omega)]
  | some a =>
    have := hA a rfl
    cases U with
    | none => show a = if a ≤ 100000 + fN V then a else _; rw [if_pos (by omega)]
    | some u =>
      cases V with
      | none => show a = if a ≤ u + 100000 then a else _; rw [if_pos (by omega)]
      | some v =>
        show (if u + v < a then u + v else a) = if a ≤ u + v then a else u + v
        by_cases q : a ≤ u + v
        · rw [if_pos q, if_neg (by omega)]
        · rw [if_neg q, if_pos (by omega)]
theorem fs_K {a b : Nat} (e : ¬ a = b) : fs mi a b = fsK mi a b (dist mi a b) 0 := by
  unfold fs fsK
  rw [if_neg e]
  cases dist mi a b <;> rfl
theorem tnx_mod {u : Nat} (hn : 0 < n) : tnx n (u % n) = (u + 1) % n := by
  have h1 := Nat.mod_lt u hn
  have h2 : (u + 1) % n = (u % n + 1) % n := by rw [Nat.add_mod, Nat.add_mod (u % n) 1, Nat.mod_mod]
  unfold tnx
  rw [h2]
  by_cases q : u % n + 1 < n
  · rw [if_pos q, Nat.mod_eq_of_lt q]
  · rw [if_neg q, show u % n + 1 = n by omega, Nat.mod_self]
/-- where a post points, were it of a kind -/
def ptk (mi : Mi) (n ho q : Nat) (to : Nat → Option Nat) (ag : Nat → Nat) (ar : Nat → Nat → Option Nat) (k p t : Nat) : Option Nat := match to p with
  | none => none
  | some x => itO (tn mi n x) (tu k (ag p) ho (q.testBit p)) (ar p t)
theorem pt_k {p t : Nat} : pt mi n ho q ki to ag ar p t = ptk mi n ho q to ag ar (ki p) p t := rfl
end MD

section ME
variable {σ σ' : Sg} {c n : Nat} {mi : Mi} {np nw ho ye q ex al : Nat} {ki : Nat → Nat} {to : Nat → Option Nat} {ag : Nat → Nat} {ar am : Nat → Nat → Option Nat} {wa go : Nat → Nat}
/-- the shortest road, from the last town down -/
def nrC (mi : Mi) (x : Nat) : Nat → Nat → Option Nat
  | _, 0 => none
  | j, k + 1 => match nrC mi x (j + 1) k with
    | none => if 0 < mi x j then some j else none
    | some u => if 0 < mi x j ∧ mi x j ≤ mi x u then some j else some u
theorem nrC_s {x j k : Nat} : nrC mi x j (k + 1) = match nrC mi x (j + 1) k with
    | none => if 0 < mi x j then some j else none
    | some u => if 0 < mi x j ∧ mi x j ≤ mi x u then some j else some u := rfl
theorem nrC_p {x : Nat} : ∀ {k j : Nat}, (∀ u, nrC mi x j k = some u → j ≤ u ∧ u < j + k ∧ 0 < mi x u ∧ ∀ v, j ≤ v → v < j + k → 0 < mi x v → mi x u < mi x v ∨ (mi x u = mi x v ∧ u ≤ v)) ∧ (nrC mi x j k = none → ∀ v, j ≤ v → v < j + k → mi x v = 0)
  | 0, j => ⟨fun u h => (by cases h), fun _ v a b => absurd b (by omega)⟩
  | k + 1, j => by
    obtain ⟨i1, i2⟩ := nrC_p (x := x) (k := k) (j := j + 1)
    rw [nrC_s]
    cases e : nrC mi x (j + 1) k with
    | none =>
      have z := i2 e
      by_cases q : 0 < mi x j
      · simp only [if_pos q]
        refine ⟨fun u h => ?_, fun h => (by cases h)⟩
        cases h
        refine ⟨Nat.le_refl _, by omega, q, fun v a b c => ?_⟩
        by_cases d : v = j
        · subst d; exact Or.inr ⟨rfl, Nat.le_refl _⟩
        · rw [z v (by omega) (by omega)] at c; exact absurd c (by omega)
      · simp only [if_neg q]
        refine ⟨fun u h => (by cases h), fun _ v a b => ?_⟩
        by_cases d : v = j
        · subst d; omega
        · exact z v (by omega) (by omega)
    | some w =>
      obtain ⟨w1, w2, w3, w4⟩ := i1 w e
      by_cases q : 0 < mi x j ∧ mi x j ≤ mi x w
      · simp only [if_pos q]
        refine ⟨fun u h => ?_, fun h => (by cases h)⟩
        cases h
        refine ⟨Nat.le_refl _, by omega, q.1, fun v a b c => ?_⟩
        by_cases d : v = j
        · subst d; exact Or.inr ⟨rfl, Nat.le_refl _⟩
        · have := w4 v (by omega) (by omega) c; omega
      · simp only [if_neg q]
        refine ⟨fun u h => ?_, fun h => (by cases h)⟩
        cases h
        refine ⟨by omega, by omega, w3, fun v a b c => ?_⟩
        by_cases d : v = j
        · subst d; left; omega
        · exact w4 v (by omega) (by omega) c
theorem nrU_p {x : Nat} : ∀ {k : Nat}, (∀ u, nrU mi x k = some u → u < k ∧ 0 < mi x u ∧ ∀ v, v < k → 0 < mi x v → mi x u < mi x v ∨ (mi x u = mi x v ∧ u ≤ v)) ∧ (nrU mi x k = none → ∀ v, v < k → mi x v = 0)
  | 0 => ⟨fun u h => (by cases h), fun _ v a => absurd a (by omega)⟩
  | k + 1 => by
    obtain ⟨i1, i2⟩ := nrU_p (x := x) (k := k)
    rw [nrU_s]
    cases e : nrU mi x k with
    | none =>
      have z := i2 e
      by_cases q : 0 < mi x k
      · simp only [if_pos q]
        refine ⟨fun u h => ?_, fun h => (by cases h)⟩
        cases h
        refine ⟨by omega, q, fun v a c => ?_⟩
        by_cases d : v = k
        · subst d; exact Or.inr ⟨rfl, Nat.le_refl _⟩
        · rw [z v (by omega)] at c; exact absurd c (by omega)
      · simp only [if_neg q]
        refine ⟨fun u h => (by cases h), fun _ v a => ?_⟩
        by_cases d : v = k
        · subst d; omega
        · exact z v (by omega)
    | some w =>
      obtain ⟨w1, w3, w4⟩ := i1 w e
      by_cases q : 0 < mi x k ∧ mi x k < mi x w
      · simp only [if_pos q]
        refine ⟨fun u h => ?_, fun h => (by cases h)⟩
        cases h
        refine ⟨by omega, q.1, fun v a c => ?_⟩
        by_cases d : v = k
        · subst d; exact Or.inr ⟨rfl, Nat.le_refl _⟩
        · have := w4 v (by omega) c; omega
      · simp only [if_neg q]
        refine ⟨fun u h => ?_, fun h => (by cases h)⟩
        cases h
        refine ⟨by omega, w3, fun v a c => ?_⟩
        by_cases d : v = k
        · subst d; omega
        · exact w4 v (by omega) c
theorem nr_eq {x N : Nat} : nrC mi x 0 N = nrU mi x N := by
  obtain ⟨a1, a2⟩ := nrC_p (mi := mi) (x := x) (k := N) (j := 0)
  obtain ⟨b1, b2⟩ := nrU_p (mi := mi) (x := x) (k := N)
  cases e1 : nrC mi x 0 N with
  | none =>
    have z := a2 e1
    cases e2 : nrU mi x N with
    | none => rfl
    | some v =>
      obtain ⟨v1, v2, -⟩ := b1 v e2
      have := z v (by omega) (by omega)
      omega
  | some u =>
    obtain ⟨u1, u2, u3, u4⟩ := a1 u e1
    cases e2 : nrU mi x N with
    | none => have := b2 e2 u (by omega); omega
    | some v =>
      obtain ⟨v1, v2, v3⟩ := b1 v e2
      have x1 := u4 v (by omega) (by omega) v2
      have x2 := v3 u (by omega) u3
      congr 1
      omega
/-- where one goes, with posts put by and posts away -/
def stX (mi : Mi) (n np ho q ex al : Nat) (ki : Nat → Nat) (to : Nat → Option Nat) (ag : Nat → Nat) (ar : Nat → Nat → Option Nat) (x g : Nat) : Nat := gt mi x (match (if al = 0 then loP to x np else none) with
  | some p => pt mi n ho q ki to ag ar p g
  | none => if ex.testBit x = true then fs mi x g else nrU mi x n)
def hsX (mi : Mi) (n np q ex al : Nat) (ki : Nat → Nat) (to : Nat → Option Nat) (ag : Nat → Nat) (ar : Nat → Nat → Option Nat) (go : Nat → Nat) (ho : Nat) (wa : Nat → Nat) : Nat → Nat := fun v => if wa v = go v then wa v else stX mi n np ho q ex al ki to ag ar (wa v) (go v)
theorem stX_0 {x g : Nat} : stX mi n np ho q 0 0 ki to ag ar x g = st1 mi n np ho q ki to ag ar x g := by
  unfold stX st1
  rw [if_pos rfl]
  cases loP to x np with
  | none => simp
  | some p => rfl
theorem hsX_0 : hsX mi n np q 0 0 ki to ag ar go ho wa = hs mi n np q ki to ag ar go ho wa := by
  funext v
  unfold hsX hs
  rw [stX_0]
theorem stX_lt (hV : VY n mi np nw ho ye q ki to ag ar am wa go) {x g : Nat} (hx : x < n) : stX mi n np ho q ex al ki to ag ar x g < n := by
  unfold stX
  refine gt_lt hx (fun u hu => ?_)
  cases e : (if al = 0 then loP to x np else none) with
  | none =>
    rw [e] at hu
    have hu : (if ex.testBit x = true then fs mi x g else nrU mi x n) = some u := hu
    by_cases d : ex.testBit x = true
    · rw [if_pos d] at hu; exact (fs_lt hV.1 hu).1
    · rw [if_neg d] at hu; exact (nrU_lt hu).1
  | some p => rw [e] at hu; exact pt_lt hV hu
end ME

section MF
variable {σ σ' : Sg} {c n : Nat} {mi : Mi} {np nw ho ye q ex al : Nat} {ki : Nat → Nat} {to : Nat → Option Nat} {ag : Nat → Nat} {ar am : Nat → Nat → Option Nat} {wa go : Nat → Nat}
theorem VY_hX (hV : VY n mi np nw ho ye q ki to ag ar am wa go) (v : Nat) : hsX mi n np q ex al ki to ag ar go ho wa v < n := by
  show (if wa v = go v then wa v else _) < n
  by_cases c : wa v = go v
  · rw [if_pos c]; exact hV.waL v
  · rw [if_neg c]; exact stX_lt hV (hV.waL v)
/-- many hours -/
def hsXK (mi : Mi) (n np q ex al : Nat) (ki : Nat → Nat) (to : Nat → Option Nat) (ag : Nat → Nat) (ar : Nat → Nat → Option Nat) (go : Nat → Nat) (ho : Nat) (wa : Nat → Nat) : Nat → (Nat → Nat)
  | 0 => wa
  | k + 1 => hsX mi n np q ex al ki to ag ar go (ho + k) (hsXK mi n np q ex al ki to ag ar go ho wa k)
theorem hsXK_0 : ∀ k, hsXK mi n np q 0 0 ki to ag ar go ho wa k = hsK mi n np q ki to ag ar go ho wa k
  | 0 => rfl
  | k + 1 => by
    show hsX mi n np q 0 0 ki to ag ar go (ho + k) _ = hs mi n np q ki to ag ar go (ho + k) _
    rw [hsXK_0 k, hsX_0]
theorem hsXK_V (hV : VY n mi np nw ho ye q ki to ag ar am wa go) : ∀ k, ho + k ≤ 3000 → VY n mi np nw (ho + k) ye q ki to ag ar am (hsXK mi n np q ex al ki to ag ar go ho wa k) go
  | 0, _ => hV
  | k + 1, h => by
    have i := hsXK_V hV k (by omega)
    exact ⟨i.1, ⟨i.np8, i.nw5, h, i.yeL, i.qL⟩, i.2.2.1, i.2.2.2.1, i.2.2.2.2.1, i.2.2.2.2.2.1, i.2.2.2.2.2.2.1, fun v => VY_hX i v, i.2.2.2.2.2.2.2.2.1, i.2.2.2.2.2.2.2.2.2⟩
end MF
theorem ite_some {c : Prop} [Decidable c] {α : Type} {a b : α} : (if c then some a else some b) = some (if c then a else b) := by split <;> rfl
theorem m10 : ¬ (-1 : Int32) = 0 := by decide
theorem nn0 {p q : Option Int32} : (if ¬ (0 : Int32) = 0 then p else q) = q := if_neg (fun z => z rfl)
theorem nn1 {p q : Option Int32} : (if ¬ (1 : Int32) = 0 then p else q) = p := if_pos one0
theorem nI_0e {a : Nat} (h : a < 2 ^ 31) : nI a = 0 ↔ a = 0 := by rw [L_0, nI_eq h (by omega)]
