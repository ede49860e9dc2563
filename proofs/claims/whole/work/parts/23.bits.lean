/-! Part 23: bits counted, one more post. -/
theorem shl_n {k : Nat} (h : k < 31) : (1 : Int32) <<< (nI k &&& 31) = nI (2 ^ k) := by
  have : ∀ k : Fin 31, (1 : Int32) <<< (nI k.val &&& 31) = nI (2 ^ k.val) := by decide +kernel
  exact this ⟨k, h⟩
def pcN (k : Nat) : Nat → Nat
  | 0 => 0
  | j + 1 => pcN k j + k / 2 ^ j % 2
theorem pcN_le {k : Nat} : ∀ j, pcN k j ≤ j
  | 0 => Nat.le_refl 0
  | j + 1 => by have := pcN_le (k := k) j; show pcN k j + k / 2 ^ j % 2 ≤ j + 1; omega
def pc (k : Nat) : Nat := pcN k 8
theorem pc_le (k : Nat) : pc k ≤ 8 := pcN_le 8
theorem bc_ok {σ : Sg} {k : Nat} (h : k < 256) : f_J6_bitCount_0f7a4 σ (nI k) = some (nI (pc k)) := by
  have : ∀ k : Fin 256, f_J6_bitCount_0f7a4 (fun _ _ => 0) (nI k.val) = some (nI (pc k.val)) := by decide +kernel
  exact this ⟨k, h⟩
theorem bo_ok {σ : Sg} {k : Nat} (h : k < 2 ^ 31) : f_X7_bitsOf σ (nI k) = some (nI (pc k)) := by
  unfold f_X7_bitsOf
  rw [lp_for0 (b := fun st => f_X7_bitsOf_b1 (nI k) st.1 st.2) (s0 := ((0 : Int32), (0 : Int32))) (r := nI (pc k)) (fun j => (nI (pcN k j), nI j)) 8 (by omega) ?_ ?_ rfl]
  · rfl
  · intro j hj
    show f_X7_bitsOf_b1 (nI k) (nI (pcN k j)) (nI j) = _
    unfold f_X7_bitsOf_b1
    rw [L_8, if_neg (nI_ge hj (by omega)), shr_n h (by omega), and1_n (Nat.lt_of_le_of_lt (Nat.div_le_self _ _) h), nI_add, nI_1]
    rfl
  · show f_X7_bitsOf_b1 (nI k) (nI (pcN k 8)) (nI 8) = _
    unfold f_X7_bitsOf_b1
    rw [L_8, if_pos (nI_le (Nat.le_refl _) (by omega))]
    rfl
theorem lw_snoc {P : Nat → Bool} : ∀ {k j : Nat}, lw P j (k + 1) = match lw P j k with
    | some u => some u
    | none => if P (j + k) = true then some (j + k) else none
  | 0, j => by
    show (if P j = true then some j else none) = _
    rfl
  | k + 1, j => by
    have i := lw_snoc (P := P) (k := k) (j := j + 1)
    rw [show j + 1 + k = j + (k + 1) by omega] at i
    show (if P j = true then some j else lw P (j + 1) (k + 1)) = _
    rw [i]
    show _ = match (if P j = true then some j else lw P (j + 1) k) with
      | some u => some u
      | none => if P (j + (k + 1)) = true then some (j + (k + 1)) else none
    by_cases h : P j = true
    · rw [if_pos h, if_pos h]
    · rw [if_neg h, if_neg h]
section SP
variable {n : Nat} {mi : Mi} {np nw ho ye q ex al : Nat} {ki : Nat → Nat} {to : Nat → Option Nat} {ag : Nat → Nat} {ar am : Nat → Nat → Option Nat} {wa go : Nat → Nat}
theorem upN_ne {α : Type} {f : Nat → α} {p j : Nat} {v : α} (h : j ≠ p) : upN f p v j = f j := if_neg h
theorem upN_at {α : Type} {f : Nat → α} {p : Nat} {v : α} : upN f p v p = v := if_pos rfl
theorem loP_sp {t x : Nat} : loP (upN to np (some t)) x (np + 1) = match loP to x np with
    | some u => some u
    | none => if x = t then some np else none := by
  unfold loP
  rw [lw_snoc]
  rw [lw_congr (P' := fun p => decide (to p = some x)) (fun u _ hu => by rw [upN_ne (by omega)])]
  cases lw (fun p => decide (to p = some x)) 0 np with
  | some u => rfl
  | none =>
    show (if decide (upN to np (some t) (0 + np) = some x) = true then some (0 + np) else none) = if x = t then some np else none
    rw [Nat.zero_add, upN_at]
    by_cases e : x = t
    · subst e; rw [if_pos (decide_eq_true rfl), if_pos rfl]
    · rw [if_neg e, if_neg]
      intro z
      have := of_decide_eq_true z
      cases this; exact e rfl
theorem pt_sp {t p y : Nat} (hp : p ≠ np) : pt mi n ho q (upN ki np 0) (upN to np (some t)) (upN ag np 0) (up1 ar np (pr mi n t)) p y = pt mi n ho q ki to ag ar p y := by
  unfold pt up1
  rw [upN_ne hp, upN_ne hp, upN_ne hp]
  simp only [if_neg hp]
theorem pt_np {t y : Nat} (hq : q.testBit np = false) : pt mi n ho q (upN ki np 0) (upN to np (some t)) (upN ag np 0) (up1 ar np (pr mi n t)) np y = pr mi n t y := by
  unfold pt up1
  rw [upN_at, upN_at, upN_at, hq]
  simp only [if_true]
  show itO _ (tu 0 0 ho false) _ = _
  show itO _ 0 _ = _
  rfl
theorem st1_sp {t x y : Nat} (hq : q.testBit np = false) : st1 mi n (np + 1) ho q (upN ki np 0) (upN to np (some t)) (upN ag np 0) (up1 ar np (pr mi n t)) x y = gt mi x (match loP to x np with
    | some p => pt mi n ho q ki to ag ar p y
    | none => if x = t then pr mi n x y else nrU mi x n) := by
  unfold st1
  rw [loP_sp]
  cases e : loP to x np with
  | some p =>
    have := (loP_lt e).1
    show gt mi x (pt _ _ _ _ _ _ _ _ p y) = _
    rw [pt_sp (by omega)]
  | none =>
    by_cases h : x = t
    · subst h
      rw [if_pos rfl]
      show gt mi x (pt _ _ _ _ _ _ _ _ np y) = _
      rw [pt_np hq, if_pos rfl]
    · rw [if_neg h]
      show gt mi x (nrU mi x n) = gt mi x (if x = t then pr mi n x y else nrU mi x n)
      rw [if_neg h]
theorem pr_n {x y : Nat} (h : y < n) : pr mi n x y = fs mi x y := if_pos h
/-- hours alike where steps are alike -/
theorem hsK_X {np' q' : Nat} {ki' : Nat → Nat} {to' : Nat → Option Nat} {ag' : Nat → Nat} {ar' : Nat → Nat → Option Nat} (hV : VY n mi np nw ho ye q ki to ag ar am wa go) (H : ∀ h x g, x < n → g < n → st1 mi n np' h q' ki' to' ag' ar' x g = stX mi n np h q ex al ki to ag ar x g) : ∀ k, ho + k ≤ 3000 → hsK mi n np' q' ki' to' ag' ar' go ho wa k = hsXK mi n np q ex al ki to ag ar go ho wa k
  | 0, _ => rfl
  | k + 1, hk => by
    have i := hsK_X hV H k (by omega)
    have hVk := hsXK_V (ex := ex) (al := al) hV k (by omega)
    funext v
    show hs mi n np' q' ki' to' ag' ar' go (ho + k) (hsK mi n np' q' ki' to' ag' ar' go ho wa k) v = hsX mi n np q ex al ki to ag ar go (ho + k) (hsXK mi n np q ex al ki to ag ar go ho wa k) v
    rw [i]
    unfold hs hsX
    rw [H (ho + k) _ _ (hVk.waL v) (hVk.goL v)]
end SP
