/-! Part 11: a yard of the class. -/
theorem nI_lt_of {k : Nat} {x : Int32} (h : x.toInt = (k : Int)) (hk : k < 2 ^ 31) : x = nI k := Int32.toInt_inj.mp (h.trans (nI_toInt hk).symm)
theorem shr_n {a b : Nat} (ha : a < 2 ^ 31) (hb : b < 32) : nI a >>> (nI b &&& 31) = nI (a / 2 ^ b) := by
  have e : (nI b &&& 31) = nI b := by
    have : ∀ i : Fin 32, (nI i.val &&& 31) = nI i.val := by decide +kernel
    exact this ⟨b, hb⟩
  have e2 : ((nI b).toBitVec.smod 32).toNat = b := by
    have : ∀ i : Fin 32, ((nI i.val).toBitVec.smod 32).toNat = i.val := by decide +kernel
    exact this ⟨b, hb⟩
  rw [e]
  refine nI_lt_of ?_ (Nat.lt_of_le_of_lt (Nat.div_le_self _ _) ha)
  rw [Kit.i32_shr _ _ e2, nI_toInt ha]
  simp
theorem and1_n {a : Nat} (ha : a < 2 ^ 31) : nI a &&& 1 = nI (a % 2) := by
  refine nI_lt_of ?_ (by omega)
  rw [Kit.i32_mask (nI a) 1 (k := 1) (by decide) (by decide), nI_toInt ha]
  simp
theorem hb_ok {σ : Sg} {a b : Nat} (ha : a < 2 ^ 31) (hb : b < 32) : f_X6_hasBit σ (nI a) (nI b) = some (if a.testBit b = true then 1 else 0) := by
  unfold f_X6_hasBit
  rw [shr_n ha hb, and1_n (Nat.lt_of_le_of_lt (Nat.div_le_self _ _) ha)]
  have e : (a.testBit b = true) ↔ a / 2 ^ b % 2 = 1 := by
    rw [Nat.testBit_eq_decide_div_mod_eq]; simp
  by_cases h : a.testBit b = true
  · rw [if_pos h, e.mp h, if_neg (fun z => z rfl)]
  · rw [if_neg h, if_pos]
    have : a / 2 ^ b % 2 = 0 := by
      have := mt e.mpr h
      omega
    rw [this]; decide
def gY (y : Nat) : Prop := y < 184 ∧ kd y = 5 ∧ gRk (y + 1) ∧ (gd (y + 6) 3 24 ∧ kd (y + 6 + 1) = 9) ∧ (gd (y + 8) 8 64 ∧ kd (y + 8 + 1) = 9) ∧ (gd (y + 10) 8 64 ∧ kd (y + 10 + 1) = 9) ∧ (gd (y + 12) 2 10 ∧ kd (y + 12 + 1) = 9)
def tu (k a h : Nat) (b : Bool) : Nat := (if b = true then 1 else 0) + (if k = 1 then (if 40 ≤ a then 1 else 0) else if k = 2 then 1 else if k = 3 then (if h % 2 = 1 then 2 else 0) else 0)
def itO (f : Nat → Option Nat) : Nat → Option Nat → Option Nat
  | 0, x => x
  | _ + 1, none => none
  | k + 1, some t => itO f k (f t)
section YD
variable {σ : Sg} {y n : Nat} {mi : Mi} {np nw ho ye q : Nat} {ki : Nat → Nat} {to : Nat → Option Nat} {ag : Nat → Nat} {ar am : Nat → Nat → Option Nat} {wa go : Nat → Nat}
def YC (σ : Sg) (y n : Nat) (mi : Mi) (np nw ho ye q : Nat) (ki : Nat → Nat) (to : Nat → Option Nat) (ag : Nat → Nat) (ar am : Nat → Nat → Option Nat) (wa go : Nat → Nat) : Prop :=
  (σ y 5 = nI np ∧ σ y 6 = nI nw ∧ σ y 7 = nI ho ∧ σ y 8 = nI ye ∧ σ y 9 = nI q) ∧ RC σ (y + 1) n mi ∧ PC σ (y + 1) n mi ∧ (∀ p, p < np → σ (y + 6 + 1) (p * 3) = nI (ki p) ∧ σ (y + 6 + 1) (p * 3 + 1) = oI (to p) ∧ σ (y + 6 + 1) (p * 3 + 2) = nI (ag p)) ∧ (∀ p, p < np → ∀ t, t < 8 → σ (y + 8 + 1) (p * 8 + t) = oI (ar p t)) ∧ (∀ p, p < np → ∀ t, t < 8 → σ (y + 10 + 1) (p * 8 + t) = oI (am p t)) ∧ (∀ v, v < nw → σ (y + 12 + 1) (v * 2) = nI (wa v) ∧ σ (y + 12 + 1) (v * 2 + 1) = nI (go v))
/-- what all yards keep to -/
def VY (n : Nat) (mi : Mi) (np nw ho ye q : Nat) (ki : Nat → Nat) (to : Nat → Option Nat) (ag : Nat → Nat) (ar am : Nat → Nat → Option Nat) (wa go : Nat → Nat) : Prop :=
  VM n mi ∧ (np ≤ 8 ∧ nw ≤ 5 ∧ ho ≤ 3000 ∧ ye ≤ 100000 ∧ q < 256) ∧ (∀ p, ki p ≤ 3) ∧ (∀ p x, to p = some x → x < n) ∧ (∀ p, ag p ≤ 60) ∧ (∀ p t u, ar p t = some u → u < n) ∧ (∀ p t d, am p t = some d → d ≤ 2304) ∧ (∀ v, wa v < n) ∧ (∀ v, go v < n) ∧ (∀ p t, to p = none → ar p t = none ∧ am p t = none)
theorem VY.n8 (h : VY n mi np nw ho ye q ki to ag ar am wa go) : n ≤ 8 := h.1.2.1
theorem VY.n2 (h : VY n mi np nw ho ye q ki to ag ar am wa go) : 2 ≤ n := h.1.1
theorem VY.np8 (h : VY n mi np nw ho ye q ki to ag ar am wa go) : np ≤ 8 := h.2.1.1
theorem VY.nw5 (h : VY n mi np nw ho ye q ki to ag ar am wa go) : nw ≤ 5 := h.2.1.2.1
theorem VY.hoL (h : VY n mi np nw ho ye q ki to ag ar am wa go) : ho ≤ 3000 := h.2.1.2.2.1
theorem VY.yeL (h : VY n mi np nw ho ye q ki to ag ar am wa go) : ye ≤ 100000 := h.2.1.2.2.2.1
theorem VY.qL (h : VY n mi np nw ho ye q ki to ag ar am wa go) : q < 256 := h.2.1.2.2.2.2
theorem VY.kiL (h : VY n mi np nw ho ye q ki to ag ar am wa go) (p : Nat) : ki p ≤ 3 := h.2.2.1 p
theorem VY.toL (h : VY n mi np nw ho ye q ki to ag ar am wa go) {p x : Nat} (e : to p = some x) : x < n := h.2.2.2.1 p x e
theorem VY.agL (h : VY n mi np nw ho ye q ki to ag ar am wa go) (p : Nat) : ag p ≤ 60 := h.2.2.2.2.1 p
theorem VY.arL (h : VY n mi np nw ho ye q ki to ag ar am wa go) {p t u : Nat} (e : ar p t = some u) : u < n := h.2.2.2.2.2.1 p t u e
theorem VY.waL (h : VY n mi np nw ho ye q ki to ag ar am wa go) (v : Nat) : wa v < n := h.2.2.2.2.2.2.2.1 v
theorem VY.goL (h : VY n mi np nw ho ye q ki to ag ar am wa go) (v : Nat) : go v < n := h.2.2.2.2.2.2.2.2.1 v
theorem VY.re (h : VY n mi np nw ho ye q ki to ag ar am wa go) {p : Nat} (t : Nat) (e : to p = none) : ar p t = none := (h.2.2.2.2.2.2.2.2.2 p t e).1
theorem po0 (hK : KC σ) (hg : gY y) (h : YC σ y n mi np nw ho ye q ki to ag ar am wa go) (hnp : np ≤ 8) {p : Nat} (hp : p < np) : f_X0_at σ (y + 6) (nI p) (0 : Int32) = some (nI (ki p)) := by
  rw [L_0, at_in hK hg.2.2.2.1.1 (c := 0) (by omega) (by omega)]; exact congrArg some (h.2.2.2.1 p hp).1
theorem po1 (hK : KC σ) (hg : gY y) (h : YC σ y n mi np nw ho ye q ki to ag ar am wa go) (hnp : np ≤ 8) {p : Nat} (hp : p < np) : f_X0_at σ (y + 6) (nI p) (1 : Int32) = some (oI (to p)) := by
  rw [L_1, at_in hK hg.2.2.2.1.1 (c := 1) (by omega) (by omega)]; exact congrArg some (h.2.2.2.1 p hp).2.1
theorem po2 (hK : KC σ) (hg : gY y) (h : YC σ y n mi np nw ho ye q ki to ag ar am wa go) (hnp : np ≤ 8) {p : Nat} (hp : p < np) : f_X0_at σ (y + 6) (nI p) (2 : Int32) = some (nI (ag p)) := by
  rw [L_2, at_in hK hg.2.2.2.1.1 (c := 2) (by omega) (by omega)]; exact congrArg some (h.2.2.2.1 p hp).2.2
theorem ar_at (hK : KC σ) (hg : gY y) (h : YC σ y n mi np nw ho ye q ki to ag ar am wa go) (hnp : np ≤ 8) {p t : Nat} (hp : p < np) (ht : t < 8) : f_X0_at σ (y + 8) (nI p) (nI t) = some (oI (ar p t)) := by
  rw [at_in hK hg.2.2.2.2.1.1 ht (by omega)]; exact congrArg some (h.2.2.2.2.1 p hp t ht)
theorem am_at (hK : KC σ) (hg : gY y) (h : YC σ y n mi np nw ho ye q ki to ag ar am wa go) (hnp : np ≤ 8) {p t : Nat} (hp : p < np) (ht : t < 8) : f_X0_at σ (y + 10) (nI p) (nI t) = some (oI (am p t)) := by
  rw [at_in hK hg.2.2.2.2.2.1.1 ht (by omega)]; exact congrArg some (h.2.2.2.2.2.1 p hp t ht)
theorem wa0 (hK : KC σ) (hg : gY y) (h : YC σ y n mi np nw ho ye q ki to ag ar am wa go) (hnw : nw ≤ 5) {v : Nat} (hv : v < nw) : f_X0_at σ (y + 12) (nI v) (0 : Int32) = some (nI (wa v)) := by
  rw [L_0, at_in hK hg.2.2.2.2.2.2.1 (c := 0) (by omega) (by omega)]; exact congrArg some (h.2.2.2.2.2.2 v hv).1
theorem wa1 (hK : KC σ) (hg : gY y) (h : YC σ y n mi np nw ho ye q ki to ag ar am wa go) (hnw : nw ≤ 5) {v : Nat} (hv : v < nw) : f_X0_at σ (y + 12) (nI v) (1 : Int32) = some (nI (go v)) := by
  rw [L_1, at_in hK hg.2.2.2.2.2.2.1 (c := 1) (by omega) (by omega)]; exact congrArg some (h.2.2.2.2.2.2 v hv).2
theorem oI_eq {a b : Option Nat} (ha : ∀ x, a = some x → x < 2 ^ 31) (hb : ∀ x, b = some x → x < 2 ^ 31) : oI a = oI b ↔ a = b := by
  cases a with
  | none =>
    cases b with
    | none => simp
    | some v => exact ⟨fun e => absurd e.symm (oI_ne (hb v rfl)), fun e => by cases e⟩
  | some u =>
    cases b with
    | none => exact ⟨fun e => absurd e (oI_ne (ha u rfl)), fun e => by cases e⟩
    | some v =>
      show nI u = nI v ↔ _
      rw [nI_eq (ha u rfl) (hb v rfl), Option.some.injEq]
theorem oI_eqs {a : Option Nat} {v : Nat} (ha : ∀ x, a = some x → x < 2 ^ 31) (hv : v < 2 ^ 31) : oI a = nI v ↔ a = some v := oI_eq (b := some v) ha (fun x e => by cases e; exact hv)
/-- the lowest post in a town -/
def loP (to : Nat → Option Nat) (x np : Nat) : Option Nat := lw (fun p => decide (to p = some x)) 0 np
theorem lop_loop (hK : KC σ) (hg : gY y) (hV : VY n mi np nw ho ye q ki to ag ar am wa go) (h : YC σ y n mi np nw ho ye q ki to ag ar am wa go) {x : Nat} (hx : x < 8) : ∀ (k p m : Nat), p + k = np → k < m → lp (fun st => f_X5_lowestPostIn_b1 σ y (nI x) st) m (nI p) = some (match lw (fun p => decide (to p = some x)) p k with
    | some u => .inl (nI u)
    | none => .inr ())
  | 0, p, m + 1, hk, _ => by
    refine lp_end ?_
    unfold f_X5_lowestPostIn_b1
    rw [h.1.1, if_pos (nI_le (by omega) (by have := hV.np8; omega))]
    rfl
  | k + 1, p, m + 1, hk, hm => by
    have h8 := hV.np8
    have hn8 := hV.n8
    have hb : f_X5_lowestPostIn_b1 σ y (nI x) (nI p) = some (if to p = some x then .inr (.inl (nI p)) else .inl (nI (p + 1))) := by
      unfold f_X5_lowestPostIn_b1
      rw [h.1.1, if_neg (nI_ge (by omega) (by omega)), po1 hK hg h h8 (by omega), nI_1]
      show (if ¬ oI (to p) = nI x then _ else _) = _
      have e := oI_eqs (a := to p) (v := x) (fun u hu => by have := hV.toL hu; omega) (by omega)
      by_cases c : to p = some x
      · rw [if_neg (fun z => z (e.mpr c)), if_pos c]
      · rw [if_pos (fun z => c (e.mp z)), if_neg c]
    unfold lw
    by_cases c : to p = some x
    · rw [if_pos c] at hb
      rw [if_pos (by simp [c])]
      exact lp_end hb
    · rw [if_neg c] at hb
      rw [if_neg (by simp [c])]
      exact (lp_go hb).trans (lop_loop hK hg hV h hx k (p + 1) m (by omega) (by omega))
theorem lop_ok (hK : KC σ) (hg : gY y) (hV : VY n mi np nw ho ye q ki to ag ar am wa go) (h : YC σ y n mi np nw ho ye q ki to ag ar am wa go) {x : Nat} (hx : x < 8) : f_X5_lowestPostIn σ y (nI x) = some (oI (loP to x np)) := by
  unfold f_X5_lowestPostIn
  rw [L_0, lop_loop hK hg hV h hx np 0 FU (by omega) (by have := hV.np8; unfold FU; omega)]
  unfold loP
  cases lw (fun p => decide (to p = some x)) 0 np <;> rfl
theorem loP_lt {x p : Nat} (e : loP to x np = some p) : p < np ∧ to p = some x := by
  obtain ⟨-, a, b⟩ := lw_some e
  exact ⟨by omega, by simpa using b⟩
theorem div_n {a b : Nat} (ha : a < 2 ^ 31) (hb : b < 2 ^ 31) : nI a / nI b = nI (a / b) := by
  refine nI_lt_of ?_ (Nat.lt_of_le_of_lt (Nat.div_le_self _ _) ha)
  rw [Kit.i32_div (fun z => by have := z.2; rw [nI_toInt hb] at this; omega), nI_toInt ha, nI_toInt hb, Int.tdiv_eq_ediv_of_nonneg (by omega)]
  rfl
theorem rem_n {a b : Nat} (ha : a < 2 ^ 31) (hb : b < 2 ^ 31) : jrem (nI a) (nI b) = nI (a % b) := by
  have h1 : a % b ≤ a := Nat.mod_le _ _
  have h2 : a / b * b + a % b = a := by rw [Nat.mul_comm]; exact Nat.div_add_mod a b
  refine nI_lt_of ?_ (by omega)
  unfold jrem
  rw [div_n ha hb, nI_mul, Kit.i32_sub, nI_toInt ha, nI_toInt (by omega)]
  · omega
  · rw [nI_toInt ha, nI_toInt (by omega)]; omega
  · rw [nI_toInt ha, nI_toInt (by omega)]; omega
theorem rem2 {a : Nat} (ha : a < 2 ^ 31) : jrem (nI a) (2 : Int32) = nI (a % 2) := rem_n (b := 2) ha (by omega)
theorem tu_ok (hK : KC σ) (hg : gY y) (hV : VY n mi np nw ho ye q ki to ag ar am wa go) (h : YC σ y n mi np nw ho ye q ki to ag ar am wa go) {p : Nat} (hp : p < np) : f_X5_turnsOf σ y (nI p) = some (nI (tu (ki p) (ag p) ho (q.testBit p))) := by
  have h8 := hV.np8
  have hq := hV.qL
  have hk := hV.kiL p
  have ha := hV.agL p
  have hh := hV.hoL
  unfold f_X5_turnsOf
  rw [h.1.2.2.2.2, hb_ok (by omega) (by omega), po0 hK hg h h8 hp, po2 hK hg h h8 hp, h.1.2.2.1]
  have core : ∀ (b : Bool), (if b = true then (1 : Int32) else 0) = nI (if b = true then 1 else 0) := fun b => by cases b <;> rfl
  show (if (if q.testBit p = true then (1 : Int32) else 0) = 0 then (if nI (ki p) = 1 then (if nI (ag p) < 40 then _ else _) else if nI (ki p) = 2 then _ else if nI (ki p) = 3 then (if ¬ jrem (nI ho) 2 = 1 then _ else _) else _) else (if nI (ki p) = 1 then (if nI (ag p) < 40 then _ else _) else if nI (ki p) = 2 then _ else if nI (ki p) = 3 then (if ¬ jrem (nI ho) 2 = 1 then _ else _) else _)) = _
  rw [rem2 (by omega)]
  have e40 : nI (ag p) < 40 ↔ ¬ 40 ≤ ag p := by rw [L_40, nI_ltI (by omega) (by omega)]; omega
  have e2 : nI (ho % 2) = 1 ↔ ho % 2 = 1 := by rw [L_1, nI_eq (by omega) (by omega)]
  generalize q.testBit p = b
  generalize hkp : ki p = k at hk
  unfold tu
  rcases (show k = 0 ∨ k = 1 ∨ k = 2 ∨ k = 3 by omega) with rfl | rfl | rfl | rfl
  · cases b <;> rfl
  · cases b
    · show (if nI (ag p) < 40 then some ((0 : Int32) + 0) else some (0 + 1)) = some (nI (0 + (if 40 ≤ ag p then 1 else 0)))
      by_cases c : 40 ≤ ag p
      · rw [if_neg (fun z => (e40.mp z) c), if_pos c]; rfl
      · rw [if_pos (e40.mpr c), if_neg c]; rfl
    · show (if nI (ag p) < 40 then some ((1 : Int32) + 0) else some (1 + 1)) = some (nI (1 + (if 40 ≤ ag p then 1 else 0)))
      by_cases c : 40 ≤ ag p
      · rw [if_neg (fun z => (e40.mp z) c), if_pos c]; rfl
      · rw [if_pos (e40.mpr c), if_neg c]; rfl
  · cases b <;> rfl
  · cases b
    · show (if ¬ nI (ho % 2) = 1 then some ((0 : Int32) + 0) else some (0 + 2)) = some (nI (0 + (if ho % 2 = 1 then 2 else 0)))
      by_cases c : ho % 2 = 1
      · rw [if_neg (fun z => z (e2.mpr c)), if_pos c]; rfl
      · rw [if_pos (fun z => c (e2.mp z)), if_neg c]; rfl
    · show (if ¬ nI (ho % 2) = 1 then some ((1 : Int32) + 0) else some (1 + 2)) = some (nI (1 + (if ho % 2 = 1 then 2 else 0)))
      by_cases c : ho % 2 = 1
      · rw [if_neg (fun z => z (e2.mpr c)), if_pos c]; rfl
      · rw [if_pos (fun z => c (e2.mp z)), if_neg c]; rfl
/-- where a post points -/
def pt (mi : Mi) (n ho q : Nat) (ki : Nat → Nat) (to : Nat → Option Nat) (ag : Nat → Nat) (ar : Nat → Nat → Option Nat) (p t : Nat) : Option Nat := match to p with
  | none => none
  | some x => itO (tn mi n x) (tu (ki p) (ag p) ho (q.testBit p)) (ar p t)
theorem itO_none {f : Nat → Option Nat} : ∀ k, itO f k none = none
  | 0 => rfl
  | _ + 1 => rfl
theorem tn_lt {mi : Mi} {n x t u : Nat} (h : 0 < n) (e : tn mi n x t = some u) : u < n ∧ 0 < mi x u := tnF_lt h e
theorem itO_lt {mi : Mi} {n x : Nat} (h : 0 < n) : ∀ {k : Nat} {a : Option Nat} {u : Nat}, (∀ v, a = some v → v < n) → itO (tn mi n x) k a = some u → u < n
  | 0, a, u, ha, e => ha u e
  | k + 1, none, u, ha, e => by cases e
  | k + 1, some t, u, ha, e => itO_lt h (fun v hv => (tn_lt h hv).1) e
theorem pt_loop (hK : KC σ) (hg : gY y) (hV : VM n mi) (h : RC σ (y + 1) n mi) {x T : Nat} (hx : x < n) (hT : T < 100) : ∀ (k i m : Nat) (a : Option Nat), (∀ v, a = some v → v < n) → i + k = T → k < m → lp (fun st => f_X5_pointing_b1 σ y (nI x) (nI T) st.1 st.2) m (oI a, nI i) = some (oI (itO (tn mi n x) k a))
  | 0, i, m + 1, a, ha, hk, _ => by
    refine lp_end ?_
    show f_X5_pointing_b1 σ y (nI x) (nI T) (oI a) (nI i) = _
    unfold f_X5_pointing_b1
    rw [if_pos (nI_le (by omega) (by omega))]
    rfl
  | k + 1, i, m + 1, none, ha, hk, hm => by
    refine lp_end ?_
    show f_X5_pointing_b1 σ y (nI x) (nI T) (oI none) (nI i) = _
    unfold f_X5_pointing_b1
    rw [if_neg (nI_ge (by omega) (by omega)), if_pos oI_n]
    rfl
  | k + 1, i, m + 1, some t, ha, hk, hm => by
    have h8 := hV.2.1
    have ht := ha t rfl
    have hb : f_X5_pointing_b1 σ y (nI x) (nI T) (oI (some t)) (nI i) = some (.inl (oI (tn mi n x t), nI (i + 1))) := by
      unfold f_X5_pointing_b1
      rw [if_neg (nI_ge (by omega) (by omega)), if_neg (oI_ne (by omega))]
      show (f_X3_turned σ (y + 1) (nI x) (nI t)).bind _ = _
      rw [tn_ok hK hg.2.2.1.1 hV h hx ht, nI_1]
      rfl
    exact (lp_go hb).trans (pt_loop hK hg hV h hx hT k (i + 1) m _ (fun v hv => (tn_lt (by omega) hv).1) (by omega) (by omega))
theorem tu_le {k a h : Nat} {b : Bool} : tu k a h b ≤ 3 := by
  unfold tu; split <;> split <;> (try split) <;> (try split) <;> (try split) <;> omega
theorem pt_ok (hK : KC σ) (hg : gY y) (hV : VY n mi np nw ho ye q ki to ag ar am wa go) (h : YC σ y n mi np nw ho ye q ki to ag ar am wa go) {p t : Nat} (hp : p < np) (ht : t < 8) : f_X5_pointing σ y (nI p) (nI t) = some (oI (pt mi n ho q ki to ag ar p t)) := by
  have h8 := hV.np8
  unfold f_X5_pointing
  rw [po1 hK hg h h8 hp, ar_at hK hg h h8 hp ht, tu_ok hK hg hV h hp]
  have hT := tu_le (k := ki p) (a := ag p) (h := ho) (b := q.testBit p)
  show (lp (fun st => f_X5_pointing_b1 σ y (oI (to p)) (nI (tu (ki p) (ag p) ho (q.testBit p))) st.1 st.2) FU (oI (ar p t), (0 : Int32))).bind _ = _
  unfold pt
  cases e : to p with
  | none =>
    rw [hV.re t e]
    generalize tu (ki p) (ag p) ho (q.testBit p) = T at hT
    have hb : f_X5_pointing_b1 σ y (oI none) (nI T) (oI none) (nI 0) = some (.inr (oI none)) := by
      unfold f_X5_pointing_b1
      by_cases c : T = 0
      · rw [if_pos (nI_le (by omega) (by omega))]
      · rw [if_neg (nI_ge (by omega) (by omega)), if_pos oI_n]
    rw [L_0, show FU = 4095 + 1 from rfl, lp_end (b := fun st => f_X5_pointing_b1 σ y (oI none) (nI T) st.1 st.2) hb]
    rfl
  | some x =>
    have hx := hV.toL e
    rw [L_0, show oI (some x) = nI x from rfl, pt_loop hK hg hV.1 h.2.1 hx (by omega) (tu (ki p) (ag p) ho (q.testBit p)) 0 FU (ar p t) (fun v hv => hV.arL hv) (by omega) (by unfold FU; omega)]
    rfl
theorem pt_lt (hV : VY n mi np nw ho ye q ki to ag ar am wa go) {p t u : Nat} (e : pt mi n ho q ki to ag ar p t = some u) : u < n := by
  unfold pt at e
  cases c : to p with
  | none => rw [c] at e; cases e
  | some x =>
    rw [c] at e
    exact itO_lt (by have := hV.n2; omega) (fun v hv => hV.arL hv) e
/-- where one goes from a place -/
def gt (mi : Mi) (x : Nat) : Option Nat → Nat
  | none => x
  | some u => if 0 < mi x u then u else x
def st1 (mi : Mi) (n np ho q : Nat) (ki : Nat → Nat) (to : Nat → Option Nat) (ag : Nat → Nat) (ar : Nat → Nat → Option Nat) (x g : Nat) : Nat := gt mi x (match loP to x np with
  | some p => pt mi n ho q ki to ag ar p g
  | none => nrU mi x n)
theorem gt_lt {x : Nat} {o : Option Nat} (hx : x < n) (ho : ∀ u, o = some u → u < n) : gt mi x o < n := by
  cases o with
  | none => exact hx
  | some u =>
    show (if 0 < mi x u then u else x) < n
    by_cases c : 0 < mi x u
    · rw [if_pos c]; exact ho u rfl
    · rw [if_neg c]; exact hx
theorem st_ok (hK : KC σ) (hg : gY y) (hV : VY n mi np nw ho ye q ki to ag ar am wa go) (h : YC σ y n mi np nw ho ye q ki to ag ar am wa go) {x g : Nat} (hx : x < n) (hgo : g < n) : f_X5_stepFrom σ y (nI x) (nI g) = some (nI (st1 mi n np ho q ki to ag ar x g)) := by
  have hn := hV.n8
  unfold f_X5_stepFrom
  rw [lop_ok hK hg hV h (by omega)]
  have tail : ∀ o : Option Nat, (∀ u, o = some u → u < n) → (if oI o = (-4 : Int32) then some (nI x) else (f_X3_between σ (y + 1) (nI x) (oI o)).bind fun v45 => if v45 ≤ 0 then some (nI x) else some (oI o)) = some (nI (gt mi x o)) := fun o ho => by
    cases o with
    | none => rw [if_pos oI_n]; rfl
    | some u =>
      have hu := ho u rfl
      have hm := hV.1.2.2.1 x u
      rw [if_neg (oI_ne (by omega)), show oI (some u) = nI u from rfl, btw_ok hK hg.2.2.1.1 h.2.1 (by omega) (by omega)]
      show (if nI (mi x u) ≤ 0 then _ else _) = some (nI (if 0 < mi x u then u else x))
      by_cases c : 0 < mi x u
      · rw [if_neg (nI_nle c (by omega)), if_pos c]
      · rw [if_pos (by rw [show mi x u = 0 by omega]; decide), if_neg c]
  unfold st1
  show (if ¬ oI (loP to x np) = -4 then _ else _) = _
  cases e : loP to x np with
  | none =>
    rw [if_neg (fun z => z oI_n), nr_ok hK hg.2.2.1.1 hV.1 h.2.1 hx]
    exact tail _ (fun u hu => (nrU_lt hu).1)
  | some p =>
    have hp := (loP_lt e).1
    have h8 := hV.np8
    rw [if_pos (oI_ne (by omega)), show oI (some p) = nI p from rfl, pt_ok hK hg hV h hp (by omega)]
    exact tail _ (fun u hu => pt_lt hV hu)
theorem st_lt (hV : VY n mi np nw ho ye q ki to ag ar am wa go) {x g : Nat} (hx : x < n) : st1 mi n np ho q ki to ag ar x g < n := by
  unfold st1
  refine gt_lt hx (fun u hu => ?_)
  cases e : loP to x np with
  | none => rw [e] at hu; exact (nrU_lt hu).1
  | some p => rw [e] at hu; exact pt_lt hV hu
end YD
