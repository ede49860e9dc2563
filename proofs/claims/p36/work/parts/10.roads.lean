/-! Part 10: the mathematical state, and the roads of the class. -/
def oI : Option Nat → Int32
  | none => -4
  | some k => nI k
/-- lowest index of k from j on -/
def lw (P : Nat → Bool) : Nat → Nat → Option Nat
  | _, 0 => none
  | j, k + 1 => if P j = true then some j else lw P (j + 1) k
theorem lw_some {P : Nat → Bool} : ∀ {k j t : Nat}, lw P j k = some t → j ≤ t ∧ t < j + k ∧ P t = true
  | 0, j, t, h => by cases h
  | k + 1, j, t, h => by
    unfold lw at h
    by_cases hp : P j = true
    · rw [if_pos hp] at h; cases h; exact ⟨Nat.le_refl _, by omega, hp⟩
    · rw [if_neg hp] at h
      obtain ⟨a, b, c⟩ := lw_some h
      exact ⟨by omega, by omega, c⟩
theorem lw_congr {P P' : Nat → Bool} : ∀ {k j : Nat}, (∀ t, j ≤ t → t < j + k → P t = P' t) → lw P j k = lw P' j k
  | 0, j, h => rfl
  | k + 1, j, h => by
    unfold lw
    rw [h j (Nat.le_refl _) (by omega), lw_congr (fun t a b => h t (by omega) (by omega))]
theorem lw_ext {P : Nat → Bool} : ∀ {k j e : Nat}, (∀ t, j + k ≤ t → t < j + k + e → P t = false) → lw P j (k + e) = lw P j k
  | 0, j, 0, h => rfl
  | 0, j, e + 1, h => by
    have h0 := h j (by omega) (by omega)
    rw [Nat.zero_add]
    unfold lw
    rw [if_neg (by rw [h0]; decide)]
    have := lw_ext (P := P) (k := 0) (j := j + 1) (e := e) (fun t a b => h t (by omega) (by omega))
    rw [Nat.zero_add] at this
    rw [this]; rfl
  | k + 1, j, e, h => by
    rw [show k + 1 + e = (k + e) + 1 by omega]
    unfold lw
    rw [lw_ext (fun t a b => h t (by omega) (by omega))]
abbrev Mi : Type := Nat → Nat → Nat
def oadd : Option Nat → Option Nat → Option Nat
  | some a, some b => some (a + b)
  | _, _ => none
def omin : Option Nat → Option Nat → Option Nat
  | some a, some b => some (if b < a then b else a)
  | some a, none => some a
  | none, b => b
def d0 (mi : Mi) (a b : Nat) : Option Nat := if a = b then some 0 else if 0 < mi a b then some (mi a b) else none
def dS (m : Nat) (d : Nat → Nat → Option Nat) : Nat → Nat → Option Nat := fun a b => omin (d a b) (oadd (d a m) (d m b))
def dN (mi : Mi) : Nat → Nat → Nat → Option Nat
  | 0 => d0 mi
  | m + 1 => dS m (dN mi m)
def dist (mi : Mi) : Nat → Nat → Option Nat := dN mi 8
theorem dN_diag {mi : Mi} {a : Nat} : ∀ m, dN mi m a a = some 0
  | 0 => by simp [dN, d0]
  | m + 1 => by
    show omin (dN mi m a a) _ = _
    rw [dN_diag m]
    cases h : oadd (dN mi m a m) (dN mi m m a) with
    | none => rfl
    | some x => show some (if x < 0 then x else 0) = some 0; rw [if_neg (by omega)]
theorem omin_self (x : Option Nat) : omin x x = x := by cases x <;> simp [omin]
theorem oadd_0l (x : Option Nat) : oadd (some 0) x = x := by cases x <;> simp [oadd]
theorem oadd_0r (x : Option Nat) : oadd x (some 0) = x := by cases x <;> simp [oadd]
/-- row and column m stand still in step m -/
theorem dN_row {mi : Mi} {m b : Nat} : dN mi (m + 1) m b = dN mi m m b := by
  show omin _ (oadd (dN mi m m m) (dN mi m m b)) = _
  rw [dN_diag, oadd_0l, omin_self]
theorem dN_col {mi : Mi} {m a : Nat} : dN mi (m + 1) a m = dN mi m a m := by
  show omin _ (oadd (dN mi m a m) (dN mi m m m)) = _
  rw [dN_diag, oadd_0r, omin_self]
/-- where no roads lead from and to, nothing comes -/
theorem dN_out {mi : Mi} {n : Nat} (hz : ∀ a b, (n ≤ a ∨ n ≤ b) → mi a b = 0) : ∀ (m a b : Nat), (n ≤ a ∨ n ≤ b) → a ≠ b → dN mi m a b = none
  | 0, a, b, h, hab => by
    show d0 mi a b = none
    unfold d0
    rw [if_neg hab, hz a b h, if_neg (by omega)]
  | m + 1, a, b, h, hab => by
    show omin (dN mi m a b) (oadd (dN mi m a m) (dN mi m m b)) = none
    rw [dN_out hz m a b h hab]
    by_cases h1 : a = m
    · subst h1
      rw [dN_out hz a a b h hab, dN_diag]; rfl
    · by_cases h2 : m = b
      · subst h2
        rw [dN_out hz m a m h hab]; rfl
      · rcases h with h | h
        · rw [dN_out hz m a m (Or.inl h) h1]; rfl
        · rw [dN_out hz m m b (Or.inr h) h2]
          cases dN mi m a m <;> rfl
theorem dN_stay {mi : Mi} {n : Nat} (hz : ∀ a b, (n ≤ a ∨ n ≤ b) → mi a b = 0) (a b : Nat) : ∀ m, dN mi (n + m) a b = dN mi n a b
  | 0 => rfl
  | m + 1 => by
    show omin (dN mi (n + m) a b) (oadd (dN mi (n + m) a (n + m)) (dN mi (n + m) (n + m) b)) = _
    by_cases h1 : a = n + m
    · subst h1
      rw [dN_diag, oadd_0l, omin_self, dN_stay hz (n + m) b m]
    · rw [dN_out hz (n + m) a (n + m) (Or.inr (by omega)) h1]
      rw [show oadd none (dN mi (n + m) (n + m) b) = none from rfl]
      rw [show ∀ x, omin x none = x from fun x => by cases x <;> rfl]
      exact dN_stay hz a b m
theorem dist_n {mi : Mi} {n : Nat} (hn : n ≤ 8) (hz : ∀ a b, (n ≤ a ∨ n ≤ b) → mi a b = 0) (a b : Nat) : dist mi a b = dN mi n a b := by
  have := dN_stay hz a b (8 - n)
  rwa [show n + (8 - n) = 8 by omega] at this
theorem dN_le {mi : Mi} (hb : ∀ a b, mi a b ≤ 9) : ∀ (m a b d : Nat), dN mi m a b = some d → d ≤ 9 * 2 ^ m
  | 0, a, b, d, h => by
    unfold dN d0 at h
    by_cases h1 : a = b
    · rw [if_pos h1] at h; cases h; omega
    · rw [if_neg h1] at h
      by_cases h2 : 0 < mi a b
      · rw [if_pos h2] at h; cases h; have := hb a b; omega
      · rw [if_neg h2] at h; cases h
  | m + 1, a, b, d, h => by
    have ih := dN_le hb m
    have e : 9 * 2 ^ (m + 1) = 9 * 2 ^ m + 9 * 2 ^ m := by rw [Nat.pow_succ]; omega
    unfold dN dS at h
    cases h1 : dN mi m a b with
    | some x =>
      have i1 := ih a b x h1
      rw [h1] at h
      cases h2 : oadd (dN mi m a m) (dN mi m m b) with
      | none => rw [h2] at h; cases h; omega
      | some z =>
        rw [h2] at h
        simp only [omin, Option.some.injEq] at h
        by_cases hc : z < x
        · rw [if_pos hc] at h; omega
        · rw [if_neg hc] at h; omega
    | none =>
      rw [h1] at h
      cases h3 : dN mi m a m with
      | none => rw [h3] at h; simp [omin, oadd] at h
      | some u =>
        cases h4 : dN mi m m b with
        | none => rw [h3, h4] at h; simp [omin, oadd] at h
        | some v =>
          rw [h3, h4] at h
          simp only [omin, oadd, Option.some.injEq] at h
          have i1 := ih a m u h3
          have i2 := ih m b v h4
          omega
theorem dN_2304 {mi : Mi} (hb : ∀ a b, mi a b ≤ 9) {m a b d : Nat} (hm : m ≤ 8) (h : dN mi m a b = some d) : d ≤ 2304 := by
  have h1 := dN_le hb m a b d h
  have h2 : 2 ^ m ≤ 2 ^ 8 := Nat.pow_le_pow_right (by omega) hm
  have h3 : (2 : Nat) ^ 8 = 256 := by decide
  omega
/-- the first step of the path -/
def fsP (mi : Mi) (a b d t : Nat) : Bool := decide (0 < mi a t) && decide (oadd (some (mi a t)) (dist mi t b) = some d)
def fs (mi : Mi) (a b : Nat) : Option Nat := if a = b then none else match dist mi a b with
  | none => none
  | some d => lw (fsP mi a b d) 0 8
theorem oI_ne {x : Nat} (h : x < 2 ^ 31) : ¬ oI (some x) = (-4 : Int32) := nI_ne4 h
/-- the roads of a yard, as the class holds them, at Roads r -/
def RC (σ : Sg) (r n : Nat) (mi : Mi) : Prop := σ r 0 = nI n ∧ ∀ a b, a < 8 → b < 8 → σ (r + 1 + 1) (a * 8 + b) = nI (mi a b)
def PC (σ : Sg) (r n : Nat) (mi : Mi) : Prop := ∀ a b, a < n → b < n → σ (r + 3 + 1) (a * 8 + b) = oI (dist mi a b)
def VM (n : Nat) (mi : Mi) : Prop := 2 ≤ n ∧ n ≤ 8 ∧ (∀ a b, mi a b ≤ 9) ∧ ∀ a b, (n ≤ a ∨ n ≤ b) → mi a b = 0
def gR (r : Nat) : Prop := r < 184 ∧ kd r = 3 ∧ gd (r + 1) 8 64 ∧ gd (r + 3) 8 64
theorem btw_ok {σ : Sg} {r n : Nat} {mi : Mi} (hK : KC σ) (hg : gR r) (h : RC σ r n mi) {a b : Nat} (ha : a < 8) (hb : b < 8) : f_X3_between σ r (nI a) (nI b) = some (nI (mi a b)) := by
  unfold f_X3_between
  rw [at_in hK hg.2.2.1 hb (by omega)]
  exact congrArg some (h.2 a b ha hb)
theorem pm_ok {σ : Sg} {r n : Nat} {mi : Mi} (hK : KC σ) (hg : gR r) (h : PC σ r n mi) {a b : Nat} (ha : a < n) (hb : b < n) (hn : n ≤ 8) : f_X3_pathMiles σ r (nI a) (nI b) = some (oI (dist mi a b)) := by
  unfold f_X3_pathMiles
  rw [at_in hK hg.2.2.2 (by omega) (by omega)]
  exact congrArg some (h a b ha hb)
theorem fs_loop {σ : Sg} {r n : Nat} {mi : Mi} (hK : KC σ) (hg : gR r) (hV : VM n mi) (h : RC σ r n mi) (hp : PC σ r n mi) {a b d : Nat} (ha : a < n) (hb : b < n) (hd : d < 2 ^ 30) : ∀ (k t m : Nat), t + k = n → k < m → lp (fun st => f_X3_firstStep_b1 σ r (nI a) (nI b) (nI d) st) m (nI t) = some (match lw (fsP mi a b d) t k with
    | some x => .inl (nI x)
    | none => .inr ())
  | 0, t, m + 1, hk, _ => by
    unfold lp f_X3_firstStep_b1
    rw [h.1, if_pos (nI_le (by omega) (by have := hV.2.1; omega))]
    rfl
  | k + 1, t, m + 1, hk, hm => by
    have h8 := hV.2.1
    unfold lp
    have hb1 : f_X3_firstStep_b1 σ r (nI a) (nI b) (nI d) (nI t) = some (if fsP mi a b d t = true then .inr (.inl (nI t)) else .inl (nI (t + 1))) := by
      unfold f_X3_firstStep_b1
      rw [h.1, if_neg (nI_ge (by omega) (by omega)), at_in hK hg.2.2.1 (c := t) (by omega) (by omega), h.2 a t (by omega) (by omega)]
      show (f_X0_at σ (r + 3) (nI t) (nI b)).bind _ = _
      rw [at_in hK hg.2.2.2 (c := b) (by omega) (by omega), hp t b (by omega) hb, nI_1]
      show (if nI (mi a t) ≤ 0 then _ else _) = _
      have hmi := hV.2.2.1 a t
      by_cases h0 : 0 < mi a t
      · rw [if_neg (nI_nle h0 (by omega))]
        cases hdt : dist mi t b with
        | none =>
          rw [show oI none = (-4 : Int32) from rfl, if_pos rfl, if_neg]
          · unfold fsP; rw [hdt]; simp [oadd]
        | some x =>
          have hx := dN_2304 hV.2.2.1 (Nat.le_refl 8) hdt
          rw [if_neg (oI_ne (by omega)), show oI (some x) = nI x from rfl, nI_add]
          unfold fsP
          rw [hdt]
          by_cases e : mi a t + x = d
          · rw [if_neg (fun z => z (congrArg nI e)), if_pos (by simp [oadd, h0, e])]
          · rw [if_pos (fun z => e ((nI_eq (by omega) (by omega)).mp z)), if_neg (by simp [oadd, e])]
      · rw [if_pos (by rw [show mi a t = 0 by omega]; decide), if_neg]
        · unfold fsP; simp [show mi a t = 0 by omega]
    rw [hb1]
    unfold lw
    by_cases hP : fsP mi a b d t = true
    · rw [if_pos hP, if_pos hP]
    · rw [if_neg hP, if_neg hP]
      exact fs_loop hK hg hV h hp ha hb hd k (t + 1) m (by omega) (by omega)
theorem fs_n {n : Nat} {mi : Mi} (hV : VM n mi) {a b d : Nat} : lw (fsP mi a b d) 0 8 = lw (fsP mi a b d) 0 n := by
  have := lw_ext (P := fsP mi a b d) (k := n) (j := 0) (e := 8 - n) (fun t h1 h2 => by unfold fsP; rw [hV.2.2.2 a t (Or.inr (by omega))]; rfl)
  rwa [show n + (8 - n) = 8 by have := hV.2.1; omega] at this
theorem fs_ok {σ : Sg} {r n : Nat} {mi : Mi} (hK : KC σ) (hg : gR r) (hV : VM n mi) (h : RC σ r n mi) (hp : PC σ r n mi) {a b : Nat} (ha : a < n) (hb : b < n) : f_X3_firstStep σ r (nI a) (nI b) = some (oI (fs mi a b)) := by
  have h8 := hV.2.1
  unfold f_X3_firstStep
  rw [at_in hK hg.2.2.2 (c := b) (by omega) (by omega), hp a b ha hb]
  show (if nI a = nI b then _ else _) = _
  unfold fs
  by_cases e : a = b
  · rw [if_pos (by rw [e]), if_pos e]; rfl
  · rw [if_neg (by rw [nI_eq (by omega) (by omega)]; exact e), if_neg e]
    cases hd : dist mi a b with
    | none => rw [show oI none = (-4 : Int32) from rfl, if_neg (fun z => z rfl)]
    | some d =>
      have hx := dN_2304 hV.2.2.1 (Nat.le_refl 8) hd
      rw [if_pos (oI_ne (by omega)), show oI (some d) = nI d from rfl, L_0, fs_loop hK hg hV h hp ha hb (by omega) n 0 FU (by omega) (by unfold FU; omega)]
      show _ = some (oI (lw (fsP mi a b d) 0 8))
      rw [fs_n hV]
      show (match lw (fsP mi a b d) 0 n with | some x => Sum.inl (nI x) | none => Sum.inr ()).elim _ _ = _
      cases lw (fsP mi a b d) 0 n <;> rfl
theorem fs_lt {n : Nat} {mi : Mi} (hV : VM n mi) {a b t : Nat} (h : fs mi a b = some t) : t < n ∧ 0 < mi a t := by
  unfold fs at h
  by_cases e : a = b
  · rw [if_pos e] at h; cases h
  · rw [if_neg e] at h
    cases hd : dist mi a b with
    | none => rw [hd] at h; cases h
    | some d =>
      rw [hd] at h
      have h : lw (fsP mi a b d) 0 8 = some t := h
      rw [fs_n hV] at h
      obtain ⟨-, h2, h3⟩ := lw_some h
      unfold fsP at h3
      simp only [Bool.and_eq_true, decide_eq_true_eq] at h3
      exact ⟨by omega, h3.1⟩
theorem lp_go {S R : Type} {b : S → Option (S ⊕ R)} {n : Nat} {s s' : S} (h : b s = some (.inl s')) : lp b (n + 1) s = lp b n s' := by
  show (match b s with | none => none | some (.inl s') => lp b n s' | some (.inr r) => some r) = _
  rw [h]
theorem lp_end {S R : Type} {b : S → Option (S ⊕ R)} {n : Nat} {s : S} {r : R} (h : b s = some (.inr r)) : lp b (n + 1) s = some r := by
  show (match b s with | none => none | some (.inl s') => lp b n s' | some (.inr r) => some r) = _
  rw [h]
/-- a loop by an invariant -/
theorem lp_invA {S R : Type} {b : S → Option (S ⊕ R)} {Post : R → Prop} (Inv : Nat → S → Prop) (N : Nat) (hs : ∀ j s, j < N → Inv j s → ∃ s', b s = some (.inl s') ∧ Inv (j + 1) s') (he : ∀ s, Inv N s → ∃ r, b s = some (.inr r) ∧ Post r) : ∀ (n i : Nat) (s : S), i ≤ N → N < i + n → Inv i s → ∃ r, lp b n s = some r ∧ Post r
  | 0, i, s, h1, h2, _ => absurd h2 (by omega)
  | n + 1, i, s, h1, h2, h3 => by
    unfold lp
    by_cases h : i = N
    · subst h
      obtain ⟨r, e, hp⟩ := he s h3
      rw [e]; exact ⟨r, rfl, hp⟩
    · obtain ⟨s', e, h4⟩ := hs i s (by omega) h3
      rw [e]
      exact lp_invA Inv N hs he n (i + 1) s' (by omega) (by omega) h4
theorem lp_inv {S R : Type} {b : S → Option (S ⊕ R)} {Post : R → Prop} (Inv : Nat → S → Prop) (N : Nat) (hN : N < 4096) {s0 : S} (h0 : Inv 0 s0) (hs : ∀ j s, j < N → Inv j s → ∃ s', b s = some (.inl s') ∧ Inv (j + 1) s') (he : ∀ s, Inv N s → ∃ r, b s = some (.inr r) ∧ Post r) : ∃ r, lp b FU s0 = some r ∧ Post r :=
  lp_invA Inv N hs he FU 0 s0 (Nat.zero_le _) (by unfold FU; omega) h0
/-- what a grid of paths holds -/
def PG (σ : Sg) (r n : Nat) (P : Nat → Nat → Option Nat) : Prop := ∀ a b, a < n → b < n → σ (r + 3 + 1) (a * 8 + b) = oI (P a b)
theorem gR.p {r : Nat} (h : gR r) : gd (r + 3) 8 64 := h.2.2.2
theorem gR.m {r : Nat} (h : gR r) : gd (r + 1) 8 64 := h.2.2.1
theorem PG_put {σ : Sg} {r n a b : Nat} {P P' : Nat → Nat → Option Nat} {v : Option Nat} (h : PG σ r n P) (hn : n ≤ 8) (ha : a < n) (hb : b < n) (h1 : P' a b = v) (h2 : ∀ a' b', a' < n → b' < n → (a' ≠ a ∨ b' ≠ b) → P' a' b' = P a' b') : PG (sf σ (r + 3 + 1) (a * 8 + b) (oI v)) r n P' := fun a' b' ha' hb' => by
  rw [sf_row]
  by_cases e : a' = a ∧ b' = b
  · obtain ⟨rfl, rfl⟩ := e
    rw [upd_self, h1]
  · rw [upd_ne (by omega), h2 a' b' ha' hb' (by omega)]
    exact h a' b' ha' hb'
def sQ (mi : Mi) (m a b a' b' : Nat) : Option Nat := if a' < a ∨ (a' = a ∧ b' < b) then dN mi (m + 1) a' b' else dN mi m a' b'
theorem sQ_col {mi : Mi} {m a b a' : Nat} : sQ mi m a b a' m = dN mi m a' m := by
  unfold sQ
  by_cases h : a' < a ∨ (a' = a ∧ m < b)
  · rw [if_pos h, dN_col]
  · rw [if_neg h]
theorem sQ_row {mi : Mi} {m a b b' : Nat} : sQ mi m a b m b' = dN mi m m b' := by
  unfold sQ
  by_cases h : m < a ∨ (m = a ∧ b' < b)
  · rw [if_pos h, dN_row]
  · rw [if_neg h]
theorem sQ_at {mi : Mi} {m a b : Nat} : sQ mi m a b a b = dN mi m a b := by
  unfold sQ; rw [if_neg (by omega)]
theorem sQ_at1 {mi : Mi} {m a b : Nat} : sQ mi m a (b + 1) a b = omin (dN mi m a b) (oadd (dN mi m a m) (dN mi m m b)) := by
  unfold sQ; rw [if_pos (by omega)]; rfl
theorem sQ_ne {mi : Mi} {m a b a' b' : Nat} (h : a' ≠ a ∨ b' ≠ b) : sQ mi m a (b + 1) a' b' = sQ mi m a b a' b' := by
  unfold sQ
  by_cases h1 : a' < a ∨ (a' = a ∧ b' < b)
  · rw [if_pos h1, if_pos (by omega)]
  · rw [if_neg h1, if_neg (by omega)]
theorem oI_n : oI none = (-4 : Int32) := rfl
theorem sho_ok {σ : Sg} {r n : Nat} {mi : Mi} (hK : KC σ) (hg : gR r) (hV : VM n mi) {m a b : Nat} (hm : m < n) (ha : a < n) (hb : b < n) (h : PG σ r n (sQ mi m a b)) : ∃ σ', f_X3_shorten σ r (nI a) (nI m) (nI b) = some σ' ∧ (∀ i, i ≠ r + 3 + 1 → σ' i = σ i) ∧ PG σ' r n (sQ mi m a (b + 1)) := by
  have h8 := hV.2.1
  unfold f_X3_shorten
  rw [at_in hK hg.p (c := m) (by omega) (by omega), h a m ha hm, sQ_col]
  show ∃ σ', (f_X0_at σ (r + 3) (nI m) (nI b)).bind _ = _ ∧ _
  rw [at_in hK hg.p (c := b) (by omega) (by omega), h m b hm hb, sQ_row]
  show ∃ σ', (f_X0_at σ (r + 3) (nI a) (nI b)).bind _ = _ ∧ _
  rw [at_in hK hg.p (c := b) (by omega) (by omega), h a b ha hb, sQ_at]
  show ∃ σ', (if oI (dN mi m a m) = -4 then _ else _) = _ ∧ _
  have same : omin (dN mi m a b) (oadd (dN mi m a m) (dN mi m m b)) = dN mi m a b → PG σ r n (sQ mi m a (b + 1)) := fun e a' b' ha' hb' => by
    rw [h a' b' ha' hb']
    by_cases q : a' = a ∧ b' = b
    · obtain ⟨rfl, rfl⟩ := q
      rw [sQ_at, sQ_at1, e]
    · rw [sQ_ne (by omega)]
  have put : ∀ v, omin (dN mi m a b) (oadd (dN mi m a m) (dN mi m m b)) = some v → ∃ σ', (f_X0_put σ (r + 3) (nI a) (nI b) (nI v)).bind (fun σ75 => some σ75) = some σ' ∧ (∀ i, i ≠ r + 3 + 1 → σ' i = σ i) ∧ PG σ' r n (sQ mi m a (b + 1)) := fun v e => by
    rw [put_in hK hg.p (c := b) (by omega) (by omega)]
    exact ⟨_, rfl, fun i hi => sf_ne hi, PG_put (v := some v) h h8 ha hb (by rw [sQ_at1, e]) (fun a' b' _ _ q => sQ_ne q)⟩
  cases h1 : dN mi m a m with
  | none =>
    rw [if_pos oI_n]
    exact ⟨σ, rfl, fun _ _ => rfl, same (by rw [h1]; show omin _ none = _; cases dN mi m a b <;> rfl)⟩
  | some u =>
    have hu := dN_2304 hV.2.2.1 (by omega) h1
    rw [if_neg (oI_ne (by omega))]
    cases h2 : dN mi m m b with
    | none =>
      rw [if_pos oI_n]
      exact ⟨σ, rfl, fun _ _ => rfl, same (by rw [h1, h2]; show omin _ none = _; cases dN mi m a b <;> rfl)⟩
    | some v =>
      have hv := dN_2304 hV.2.2.1 (by omega) h2
      rw [if_neg (oI_ne (by omega)), show oI (some u) = nI u from rfl, show oI (some v) = nI v from rfl, nI_add]
      cases h3 : dN mi m a b with
      | none =>
        rw [if_pos oI_n]
        exact put (u + v) (by rw [h1, h2, h3]; rfl)
      | some x =>
        have hx := dN_2304 hV.2.2.1 (by omega) h3
        rw [if_neg (oI_ne (by omega)), show oI (some x) = nI x from rfl]
        by_cases q : x ≤ u + v
        · rw [if_pos (nI_le q (by omega))]
          exact ⟨σ, rfl, fun _ _ => rfl, same (by rw [h1, h2, h3]; show some (if u + v < x then u + v else x) = some x; rw [if_neg (by omega)])⟩
        · rw [if_neg (nI_ge (by omega) (by omega))]
          exact put (u + v) (by rw [h1, h2, h3]; show some (if u + v < x then u + v else x) = _; rw [if_pos (by omega)])
theorem KC_fr {σ σ' : Sg} {k : Nat} (h : KC σ) (hk : kd k ≠ 0) (hf : ∀ i, i ≠ k → σ' i = σ i) : KC σ' := fun g h1 h2 => by
  rw [hf g (fun e => hk (by rw [← e]; exact h2))]; exact h g h1 h2
def gRk (r : Nat) : Prop := gR r ∧ kd (r + 3 + 1) = 9 ∧ kd (r + 1 + 1) = 9
theorem sur_b5 {σ : Sg} {r n : Nat} {mi : Mi} (hK : KC σ) (hg : gRk r) (hV : VM n mi) (h : RC σ r n mi) {m a : Nat} (hm : m < n) (ha : a < n) (hP : PG σ r n (sQ mi m a 0)) : ∃ σ', lp (fun st => f_X3_survey_b3 r (nI m) (nI a) st.1 st.2) FU ((0 : Int32), σ) = some σ' ∧ (∀ i, i ≠ r + 3 + 1 → σ' i = σ i) ∧ PG σ' r n (sQ mi m a n) := by
  have h8 := hV.2.1
  refine lp_inv (fun j (s : Int32 × Sg) => s.1 = nI j ∧ (∀ i, i ≠ r + 3 + 1 → s.2 i = σ i) ∧ PG s.2 r n (sQ mi m a j)) n (by omega) ⟨rfl, fun _ _ => rfl, hP⟩ ?_ ?_
  · rintro j ⟨x, τ⟩ hj ⟨rfl, hf, hp⟩
    show ∃ s', f_X3_survey_b3 r (nI m) (nI a) (nI j) τ = _ ∧ _
    unfold f_X3_survey_b3
    have hf : ∀ i, i ≠ r + 3 + 1 → τ i = σ i := hf
    have hn : τ r 0 = nI n := by rw [hf r (by omega)]; exact h.1
    rw [hn, if_neg (nI_ge hj (by omega))]
    obtain ⟨τ', e, hf', hp'⟩ := sho_ok (KC_fr hK (by rw [hg.2.1]; decide) hf) hg.1 hV hm ha hj hp
    rw [e, nI_1]
    exact ⟨_, rfl, rfl, fun i hi => (hf' i hi).trans (hf i hi), hp'⟩
  · rintro ⟨x, τ⟩ ⟨rfl, hf, hp⟩
    show ∃ s', f_X3_survey_b3 r (nI m) (nI a) (nI n) τ = _ ∧ _
    unfold f_X3_survey_b3
    have hf : ∀ i, i ≠ r + 3 + 1 → τ i = σ i := hf
    have hn : τ r 0 = nI n := by rw [hf r (by omega)]; exact h.1
    rw [hn, if_pos (nI_le (Nat.le_refl _) (by omega))]
    exact ⟨_, rfl, hf, hp⟩
theorem sur_b6 {σ : Sg} {r n : Nat} {mi : Mi} (hK : KC σ) (hg : gRk r) (hV : VM n mi) (h : RC σ r n mi) {m : Nat} (hm : m < n) (hP : PG σ r n (dN mi m)) : ∃ σ', lp (fun st => f_X3_survey_b4 r (nI m) st.1 st.2) FU ((0 : Int32), σ) = some σ' ∧ (∀ i, i ≠ r + 3 + 1 → σ' i = σ i) ∧ PG σ' r n (dN mi (m + 1)) := by
  have h8 := hV.2.1
  refine lp_inv (fun j (s : Int32 × Sg) => s.1 = nI j ∧ (∀ i, i ≠ r + 3 + 1 → s.2 i = σ i) ∧ PG s.2 r n (sQ mi m j 0)) n (by omega) ⟨rfl, fun _ _ => rfl, fun a b ha hb => ?_⟩ ?_ ?_
  · rw [show ∀ x, ((0 : Int32), x).2 = x from fun _ => rfl, hP a b ha hb]; unfold sQ; rw [if_neg (by omega)]
  · rintro j ⟨x, τ⟩ hj ⟨rfl, hf, hp⟩
    have hf : ∀ i, i ≠ r + 3 + 1 → τ i = σ i := hf
    have hn : τ r 0 = nI n := by rw [hf r (by omega)]; exact h.1
    have hR : RC τ r n mi := ⟨hn, fun a b ha hb => by rw [hf _ (by omega)]; exact h.2 a b ha hb⟩
    show ∃ s', f_X3_survey_b4 r (nI m) (nI j) τ = _ ∧ _
    unfold f_X3_survey_b4
    rw [hn, if_neg (nI_ge hj (by omega))]
    obtain ⟨τ', e, hf', hp'⟩ := sur_b5 (KC_fr hK (by rw [hg.2.1]; decide) hf) hg hV hR hm hj hp
    rw [e]
    show ∃ s', f_X3_survey_k2 (nI j) τ' = _ ∧ _
    unfold f_X3_survey_k2
    rw [nI_1]
    refine ⟨_, rfl, rfl, fun i hi => (hf' i hi).trans (hf i hi), fun a b ha hb => ?_⟩
    show τ' _ _ = _
    rw [hp' a b ha hb]
    unfold sQ
    by_cases q : a < j ∨ (a = j ∧ b < n)
    · rw [if_pos q, if_pos (by omega)]
    · rw [if_neg q, if_neg (by omega)]
  · rintro ⟨x, τ⟩ ⟨rfl, hf, hp⟩
    have hf : ∀ i, i ≠ r + 3 + 1 → τ i = σ i := hf
    have hn : τ r 0 = nI n := by rw [hf r (by omega)]; exact h.1
    show ∃ s', f_X3_survey_b4 r (nI m) (nI n) τ = _ ∧ _
    unfold f_X3_survey_b4
    rw [hn, if_pos (nI_le (Nat.le_refl _) (by omega))]
    have hp : PG τ r n (sQ mi m n 0) := hp
    refine ⟨_, rfl, hf, fun a b ha hb => ?_⟩
    rw [hp a b ha hb]; unfold sQ; rw [if_pos (by omega)]
theorem sur_b7 {σ : Sg} {r n : Nat} {mi : Mi} (hK : KC σ) (hg : gRk r) (hV : VM n mi) (h : RC σ r n mi) (hP : PG σ r n (d0 mi)) : ∃ σ', f_X3_survey_k5 r σ = some σ' ∧ (∀ i, i ≠ r + 3 + 1 → σ' i = σ i) ∧ PC σ' r n mi := by
  have h8 := hV.2.1
  unfold f_X3_survey_k5
  obtain ⟨τ, e, h1, h2⟩ := lp_inv (b := fun st => f_X3_survey_b5 r st.1 st.2) (s0 := ((0 : Int32), σ)) (Post := fun (τ : Sg) => (∀ i, i ≠ r + 3 + 1 → τ i = σ i) ∧ PG τ r n (dN mi n)) (fun j (s : Int32 × Sg) => s.1 = nI j ∧ (∀ i, i ≠ r + 3 + 1 → s.2 i = σ i) ∧ PG s.2 r n (dN mi j)) n (by omega) ⟨rfl, fun _ _ => rfl, hP⟩ (by
    rintro j ⟨x, τ⟩ hj ⟨rfl, hf, hp⟩
    have hf : ∀ i, i ≠ r + 3 + 1 → τ i = σ i := hf
    have hn : τ r 0 = nI n := by rw [hf r (by omega)]; exact h.1
    have hR : RC τ r n mi := ⟨hn, fun a b ha hb => by rw [hf _ (by omega)]; exact h.2 a b ha hb⟩
    show ∃ s', f_X3_survey_b5 r (nI j) τ = _ ∧ _
    unfold f_X3_survey_b5
    rw [hn, if_neg (nI_ge hj (by omega))]
    obtain ⟨τ', e, hf', hp'⟩ := sur_b6 (KC_fr hK (by rw [hg.2.1]; decide) hf) hg hV hR hj hp
    rw [e]
    show ∃ s', f_X3_survey_k3 (nI j) τ' = _ ∧ _
    unfold f_X3_survey_k3
    rw [nI_1]
    exact ⟨_, rfl, rfl, fun i hi => (hf' i hi).trans (hf i hi), hp'⟩) (by
    rintro ⟨x, τ⟩ ⟨rfl, hf, hp⟩
    have hf : ∀ i, i ≠ r + 3 + 1 → τ i = σ i := hf
    have hn : τ r 0 = nI n := by rw [hf r (by omega)]; exact h.1
    show ∃ s', f_X3_survey_b5 r (nI n) τ = _ ∧ _
    unfold f_X3_survey_b5
    rw [hn, if_pos (nI_le (Nat.le_refl _) (by omega))]
    exact ⟨_, rfl, hf, hp⟩)
  rw [e]
  exact ⟨τ, rfl, h1, fun a b ha hb => by rw [dist_n h8 hV.2.2.2]; exact h2 a b ha hb⟩
def sZ (mi : Mi) (P : Nat → Nat → Option Nat) (a b a' b' : Nat) : Option Nat := if a' < a ∨ (a' = a ∧ b' < b) then d0 mi a' b' else P a' b'
theorem oI_d0 {n : Nat} {mi : Mi} (hV : VM n mi) {a b : Nat} (hab : a ≠ b) : oI (d0 mi a b) = if nI (mi a b) ≤ 0 then (-4 : Int32) else nI (mi a b) := by
  have := hV.2.2.1 a b
  unfold d0
  rw [if_neg hab]
  by_cases h : 0 < mi a b
  · rw [if_pos h, if_neg (nI_nle h (by omega))]; rfl
  · rw [if_neg h, if_pos (by rw [show mi a b = 0 by omega]; decide)]; rfl
/-- a grid of paths with any content is the content that it has -/
theorem PG_any (σ : Sg) (r n : Nat) (a b : Nat) (mi : Mi) (h : ∀ a' b', a' < n → b' < n → (a' < a ∨ (a' = a ∧ b' < b)) → σ (r + 3 + 1) (a' * 8 + b') = oI (d0 mi a' b')) : True := trivial
def ZG (σ : Sg) (r n : Nat) (mi : Mi) (a b : Nat) : Prop := ∀ a' b', a' < n → b' < n → (a' < a ∨ (a' = a ∧ b' < b)) → σ (r + 3 + 1) (a' * 8 + b') = oI (d0 mi a' b')
theorem ZG_put {σ : Sg} {r n a b : Nat} {mi : Mi} {v : Int32} (h : ZG σ r n mi a b) (hn : n ≤ 8) (hb : b < n) (hv : v = oI (d0 mi a b)) : ZG (sf σ (r + 3 + 1) (a * 8 + b) v) r n mi a (b + 1) := fun a' b' ha' hb' q => by
  rw [sf_row]
  by_cases e : a' = a ∧ b' = b
  · obtain ⟨rfl, rfl⟩ := e
    rw [upd_self, hv]
  · rw [upd_ne (by omega)]
    exact h a' b' ha' hb' (by omega)
theorem sur_b1 {σ : Sg} {r n : Nat} {mi : Mi} (hK : KC σ) (hg : gRk r) (hV : VM n mi) (h : RC σ r n mi) {a : Nat} (ha : a < n) (hP : ZG σ r n mi a 0) : ∃ σ', lp (fun st => f_X3_survey_b1 r (nI a) st.1 st.2) FU ((0 : Int32), σ) = some σ' ∧ (∀ i, i ≠ r + 3 + 1 → σ' i = σ i) ∧ ZG σ' r n mi a n := by
  have h8 := hV.2.1
  refine lp_inv (fun j (s : Int32 × Sg) => s.1 = nI j ∧ (∀ i, i ≠ r + 3 + 1 → s.2 i = σ i) ∧ ZG s.2 r n mi a j) n (by omega) ⟨rfl, fun _ _ => rfl, hP⟩ ?_ ?_
  · rintro j ⟨x, τ⟩ hj ⟨rfl, hf, hp⟩
    have hf : ∀ i, i ≠ r + 3 + 1 → τ i = σ i := hf
    have hp : ZG τ r n mi a j := hp
    have hK' : KC τ := KC_fr hK (by rw [hg.2.1]; decide) hf
    have hn : τ r 0 = nI n := by rw [hf r (by omega)]; exact h.1
    show ∃ s', f_X3_survey_b1 r (nI a) (nI j) τ = _ ∧ _
    unfold f_X3_survey_b1
    rw [hn, if_neg (nI_ge hj (by omega)), at_in hK' hg.1.m (c := j) (by omega) (by omega), hf _ (by omega), h.2 a j (by omega) (by omega)]
    show ∃ s', (if ¬ nI a = nI j then (if nI (mi a j) ≤ 0 then _ else _) else _) = _ ∧ _
    have put : ∀ v, v = oI (d0 mi a j) → ∃ s', (f_X0_put τ (r + 3) (nI a) (nI j) v).bind (fun σ55 => some (Sum.inl (nI j + 1, σ55))) = some (.inl s' : (Int32 × Sg) ⊕ Sg) ∧ s'.1 = nI (j + 1) ∧ (∀ i, i ≠ r + 3 + 1 → s'.2 i = σ i) ∧ ZG s'.2 r n mi a (j + 1) := fun v e => by
      rw [put_in hK' hg.1.p (c := j) (by omega) (by omega), nI_1]
      exact ⟨_, rfl, rfl, fun i hi => (sf_ne hi).trans (hf i hi), ZG_put hp h8 hj e⟩
    by_cases e : a = j
    · subst e
      rw [if_neg (fun z => z rfl)]
      exact put 0 (by unfold d0; rw [if_pos rfl]; rfl)
    · rw [if_pos (fun z => e ((nI_eq (by omega) (by omega)).mp z))]
      have e2 := oI_d0 hV e
      by_cases q : nI (mi a j) ≤ 0
      · rw [if_pos q] at e2 ⊢; exact put _ e2.symm
      · rw [if_neg q] at e2 ⊢; exact put _ e2.symm
  · rintro ⟨x, τ⟩ ⟨rfl, hf, hp⟩
    have hf : ∀ i, i ≠ r + 3 + 1 → τ i = σ i := hf
    have hn : τ r 0 = nI n := by rw [hf r (by omega)]; exact h.1
    show ∃ s', f_X3_survey_b1 r (nI a) (nI n) τ = _ ∧ _
    unfold f_X3_survey_b1
    rw [hn, if_pos (nI_le (Nat.le_refl _) (by omega))]
    exact ⟨_, rfl, hf, hp⟩
theorem sur_ok {σ : Sg} {r n : Nat} {mi : Mi} (hK : KC σ) (hg : gRk r) (hV : VM n mi) (h : RC σ r n mi) : ∃ σ', f_X3_survey σ r = some σ' ∧ (∀ i, i ≠ r + 3 + 1 → σ' i = σ i) ∧ PC σ' r n mi := by
  have h8 := hV.2.1
  unfold f_X3_survey
  obtain ⟨τ, e, h1, h2⟩ := lp_inv (b := fun st => f_X3_survey_b2 r st.1 st.2) (s0 := ((0 : Int32), σ)) (Post := fun (τ : Sg) => (∀ i, i ≠ r + 3 + 1 → τ i = σ i) ∧ ZG τ r n mi n 0) (fun j (s : Int32 × Sg) => s.1 = nI j ∧ (∀ i, i ≠ r + 3 + 1 → s.2 i = σ i) ∧ ZG s.2 r n mi j 0) n (by omega) ⟨rfl, fun _ _ => rfl, fun a b _ _ q => absurd q (by omega)⟩ (by
    rintro j ⟨x, τ⟩ hj ⟨rfl, hf, hp⟩
    have hf : ∀ i, i ≠ r + 3 + 1 → τ i = σ i := hf
    have hn : τ r 0 = nI n := by rw [hf r (by omega)]; exact h.1
    have hR : RC τ r n mi := ⟨hn, fun a b ha hb => by rw [hf _ (by omega)]; exact h.2 a b ha hb⟩
    show ∃ s', f_X3_survey_b2 r (nI j) τ = _ ∧ _
    unfold f_X3_survey_b2
    rw [hn, if_neg (nI_ge hj (by omega))]
    obtain ⟨τ', e, hf', hp'⟩ := sur_b1 (KC_fr hK (by rw [hg.2.1]; decide) hf) hg hV hR hj hp
    rw [e]
    show ∃ s', f_X3_survey_k1 (nI j) τ' = _ ∧ _
    unfold f_X3_survey_k1
    rw [nI_1]
    exact ⟨_, rfl, rfl, fun i hi => (hf' i hi).trans (hf i hi), fun a b ha hb q => hp' a b ha hb (by omega)⟩) (by
    rintro ⟨x, τ⟩ ⟨rfl, hf, hp⟩
    have hf : ∀ i, i ≠ r + 3 + 1 → τ i = σ i := hf
    have hn : τ r 0 = nI n := by rw [hf r (by omega)]; exact h.1
    show ∃ s', f_X3_survey_b2 r (nI n) τ = _ ∧ _
    unfold f_X3_survey_b2
    rw [hn, if_pos (nI_le (Nat.le_refl _) (by omega))]
    exact ⟨_, rfl, hf, hp⟩)
  rw [e]
  show ∃ σ', f_X3_survey_k5 r τ = some σ' ∧ _
  have hR : RC τ r n mi := ⟨by rw [h1 r (by omega)]; exact h.1, fun a b ha hb => by rw [h1 _ (by omega)]; exact h.2 a b ha hb⟩
  obtain ⟨τ', e', h3, h4⟩ := sur_b7 (KC_fr hK (by rw [hg.2.1]; decide) h1) hg hV hR (fun a b ha hb => h2 a b ha hb (by omega))
  exact ⟨τ', e', fun i hi => (h3 i hi).trans (h1 i hi), h4⟩
/-- what is behind a town -/
def tnx (n t : Nat) : Nat := if t + 1 < n then t + 1 else 0
def tnF (mi : Mi) (n x : Nat) : Nat → Nat → Option Nat
  | 0, _ => none
  | k + 1, t => if 0 < mi x (tnx n t) then some (tnx n t) else tnF mi n x k (tnx n t)
def tn (mi : Mi) (n x t : Nat) : Option Nat := tnF mi n x n t
theorem tnx_lt {n t : Nat} (h : 0 < n) : tnx n t < n := by
  unfold tnx; by_cases q : t + 1 < n
  · rw [if_pos q]; exact q
  · rw [if_neg q]; exact h
theorem tnF_lt {mi : Mi} {n x : Nat} (h : 0 < n) : ∀ {k t u : Nat}, tnF mi n x k t = some u → u < n ∧ 0 < mi x u
  | 0, t, u, e => by cases e
  | k + 1, t, u, e => by
    unfold tnF at e
    by_cases q : 0 < mi x (tnx n t)
    · rw [if_pos q] at e; cases e; exact ⟨tnx_lt h, q⟩
    · rw [if_neg q] at e; exact tnF_lt h e
theorem tn_loop {σ : Sg} {r n : Nat} {mi : Mi} (hK : KC σ) (hg : gR r) (hV : VM n mi) (h : RC σ r n mi) {x : Nat} (hx : x < n) : ∀ (k i t m : Nat), i + k = n → k < m → t < n → lp (fun st => f_X3_turned_b1 σ r (nI x) st.1 st.2) m (nI t, nI i) = some (match tnF mi n x k t with
    | some u => .inl (nI u)
    | none => .inr ())
  | 0, i, t, m + 1, hk, _, _ => by
    unfold lp f_X3_turned_b1
    rw [h.1, if_pos (nI_le (by omega) (by have := hV.2.1; omega))]
    rfl
  | k + 1, i, t, m + 1, hk, hm, ht => by
    have h8 := hV.2.1
    have h2 := hV.1
    have hl := tnx_lt (t := t) (show 0 < n by omega)
    have hb : f_X3_turned_b1 σ r (nI x) (nI t) (nI i) = some (if 0 < mi x (tnx n t) then .inr (.inl (nI (tnx n t))) else .inl (nI (tnx n t), nI (i + 1))) := by
      have hmi := hV.2.2.1 x (tnx n t)
      have core : ∀ u, tnx n t = u → ((f_X0_at σ (r + 1) (nI x) (nI u)).bind fun v38 => if v38 ≤ 0 then some (Sum.inl (nI u, nI i + 1)) else some (.inr (.inl (nI u)))) = some (if 0 < mi x (tnx n t) then .inr (.inl (nI (tnx n t))) else .inl (nI (tnx n t), nI (i + 1)) : (Int32 × Int32) ⊕ (Int32 ⊕ Unit)) := fun u hu => by
        subst hu
        rw [at_in hK hg.m (c := tnx n t) (by omega) (by omega), h.2 x (tnx n t) (by omega) (by omega), nI_1]
        show (if nI (mi x (tnx n t)) ≤ 0 then _ else _) = _
        by_cases q : 0 < mi x (tnx n t)
        · rw [if_neg (nI_nle q (by omega)), if_pos q]
        · rw [if_pos (by rw [show mi x (tnx n t) = 0 by omega]; decide), if_neg q]
      unfold f_X3_turned_b1
      rw [h.1, if_neg (nI_ge (by omega) (by omega)), nI_1 t]
      by_cases q : t + 1 < n
      · rw [if_neg (nI_ge q (by omega))]
        exact core (t + 1) (by unfold tnx; rw [if_pos q])
      · rw [if_pos (nI_le (by omega) (by omega))]
        exact core 0 (by unfold tnx; rw [if_neg q])
    unfold tnF
    by_cases q : 0 < mi x (tnx n t)
    · rw [if_pos q] at hb ⊢
      exact lp_end hb
    · rw [if_neg q] at hb ⊢
      refine (lp_go hb).trans ?_
      exact tn_loop hK hg hV h hx k (i + 1) (tnx n t) m (by omega) (by omega) hl
theorem tn_ok {σ : Sg} {r n : Nat} {mi : Mi} (hK : KC σ) (hg : gR r) (hV : VM n mi) (h : RC σ r n mi) {x t : Nat} (hx : x < n) (ht : t < n) : f_X3_turned σ r (nI x) (nI t) = some (oI (tn mi n x t)) := by
  unfold f_X3_turned
  have := tn_loop hK hg hV h hx n 0 t FU (by omega) (by have := hV.2.1; unfold FU; omega) ht
  rw [L_0, this]
  unfold tn
  cases tnF mi n x n t <;> rfl
/-- the shortest road -/
def nrU (mi : Mi) (x : Nat) : Nat → Option Nat
  | 0 => none
  | t + 1 => match nrU mi x t with
    | none => if 0 < mi x t then some t else none
    | some u => if 0 < mi x t ∧ mi x t < mi x u then some t else some u
theorem nrU_lt {mi : Mi} {x : Nat} : ∀ {t u : Nat}, nrU mi x t = some u → u < t ∧ 0 < mi x u
  | 0, u, e => by cases e
  | t + 1, u, e => by
    unfold nrU at e
    cases h : nrU mi x t with
    | none =>
      rw [h] at e
      by_cases q : 0 < mi x t
      · rw [show (match (none : Option Nat) with | none => if 0 < mi x t then some t else none | some u => if 0 < mi x t ∧ mi x t < mi x u then some t else some u) = if 0 < mi x t then some t else none from rfl, if_pos q] at e
        cases e; exact ⟨by omega, q⟩
      · rw [show (match (none : Option Nat) with | none => if 0 < mi x t then some t else none | some u => if 0 < mi x t ∧ mi x t < mi x u then some t else some u) = if 0 < mi x t then some t else none from rfl, if_neg q] at e
        cases e
    | some v =>
      obtain ⟨a, b⟩ := nrU_lt h
      rw [h] at e
      have e : (if 0 < mi x t ∧ mi x t < mi x v then some t else some v) = some u := e
      by_cases q : 0 < mi x t ∧ mi x t < mi x v
      · rw [if_pos q] at e; cases e; exact ⟨by omega, q.1⟩
      · rw [if_neg q] at e; cases e; exact ⟨by omega, b⟩
theorem nrU_s {mi : Mi} {x t : Nat} : nrU mi x (t + 1) = match nrU mi x t with
    | none => if 0 < mi x t then some t else none
    | some u => if 0 < mi x t ∧ mi x t < mi x u then some t else some u := rfl
theorem nr_ok {σ : Sg} {r n : Nat} {mi : Mi} (hK : KC σ) (hg : gR r) (hV : VM n mi) (h : RC σ r n mi) {x : Nat} (hx : x < n) : f_X3_nearest σ r (nI x) = some (oI (nrU mi x n)) := by
  have h8 := hV.2.1
  unfold f_X3_nearest
  rw [lp_for0 (b := fun st => f_X3_nearest_b1 σ r (nI x) st.1 st.2.1 st.2.2) (s0 := ((-4 : Int32), (0 : Int32), (0 : Int32))) (r := oI (nrU mi x n)) (fun t => (oI (nrU mi x t), (match nrU mi x t with | none => 0 | some u => nI (mi x u)), nI t)) n (by omega) ?_ ?_ rfl]
  · rfl
  · intro t ht
    have hmi := hV.2.2.1 x t
    show f_X3_nearest_b1 σ r (nI x) (oI (nrU mi x t)) (match nrU mi x t with | none => 0 | some u => nI (mi x u)) (nI t) = _
    unfold f_X3_nearest_b1
    rw [h.1, if_neg (nI_ge ht (by omega)), at_in hK hg.m (c := t) (by omega) (by omega), h.2 x t (by omega) (by omega), nI_1]
    show (if nI (mi x t) ≤ 0 then _ else _) = _
    rw [nrU_s]
    cases e : nrU mi x t with
    | none =>
      by_cases q : 0 < mi x t
      · rw [if_neg (nI_nle q (by omega)), if_pos oI_n]
        simp only [if_pos q]; rfl
      · rw [if_pos (by rw [show mi x t = 0 by omega]; decide)]
        simp only [if_neg q]
    | some u =>
      have hu := nrU_lt e
      have hmu := hV.2.2.1 x u
      by_cases q : 0 < mi x t
      · rw [if_neg (nI_nle q (by omega)), if_neg (oI_ne (x := u) (by omega))]
        by_cases q2 : mi x t < mi x u
        · rw [if_neg (nI_ge q2 (by omega))]
          simp only [if_pos (show 0 < mi x t ∧ mi x t < mi x u from ⟨q, q2⟩)]; rfl
        · rw [if_pos (nI_le (by omega) (by omega))]
          simp only [if_neg (show ¬ (0 < mi x t ∧ mi x t < mi x u) from fun z => q2 z.2)]
      · rw [if_pos (by rw [show mi x t = 0 by omega]; decide)]
        simp only [if_neg (show ¬ (0 < mi x t ∧ mi x t < mi x u) from fun z => q z.1)]
  · show f_X3_nearest_b1 σ r (nI x) _ _ (nI n) = _
    unfold f_X3_nearest_b1
    rw [h.1, if_pos (nI_le (Nat.le_refl _) (by omega))]
