/-! Part 12: a yard of the class: counts, hours. -/
def cn (P : Nat → Bool) : Nat → Nat
  | 0 => 0
  | k + 1 => cn P k + (if P k = true then 1 else 0)
theorem cn_le {P : Nat → Bool} : ∀ k, cn P k ≤ k
  | 0 => Nat.le_refl _
  | k + 1 => by
    show cn P k + (if P k = true then 1 else 0) ≤ k + 1
    have := cn_le (P := P) k
    split <;> omega
theorem cn_congr {P P' : Nat → Bool} : ∀ {k}, (∀ t, t < k → P t = P' t) → cn P k = cn P' k
  | 0, _ => rfl
  | k + 1, h => by
    show cn P k + _ = cn P' k + _
    rw [cn_congr (fun t ht => h t (by omega)), h k (by omega)]
theorem rng (a : Int32) {n : Nat} (hn : n < 2 ^ 31) : (a < 0 ∨ nI n ≤ a) ∨ ∃ t, t < n ∧ a = nI t := by
  by_cases h : a < 0
  · exact Or.inl (Or.inl h)
  · obtain ⟨j, hj, rfl⟩ := nI_of h
    by_cases q : j < n
    · exact Or.inr ⟨j, q, rfl⟩
    · exact Or.inl (Or.inr (nI_le (by omega) hj))
def b32 (p : Prop) [Decidable p] : Int32 := if p then 1 else 0
theorem b32_t {p : Prop} [Decidable p] (h : p) : b32 p = 1 := if_pos h
theorem b32_f {p : Prop} [Decidable p] (h : ¬ p) : b32 p = 0 := if_neg h
theorem one0 : ¬ (1 : Int32) = 0 := by decide
section YD
variable {σ σ' : Sg} {y n : Nat} {mi : Mi} {np nw ho ye q : Nat} {ki : Nat → Nat} {to : Nat → Option Nat} {ag : Nat → Nat} {ar am : Nat → Nat → Option Nat} {wa go : Nat → Nat}
theorem hc_ok (hK : KC σ) (hg : gY y) (hV : VY n mi np nw ho ye q ki to ag ar am wa go) (h : YC σ y n mi np nw ho ye q ki to ag ar am wa go) {v : Nat} (hv : v < nw) : f_X5_hasCome σ y (nI v) = some (b32 (wa v = go v)) := by
  have h5 := hV.nw5
  have h8 := hV.n8
  have a1 := hV.waL v
  have a2 := hV.goL v
  unfold f_X5_hasCome
  rw [wa0 hK hg h h5 hv, wa1 hK hg h h5 hv]
  show (if ¬ nI (wa v) = nI (go v) then _ else _) = _
  by_cases c : wa v = go v
  · rw [if_neg (fun z => z (congrArg nI c)), b32_t c]
  · rw [if_pos (fun z => c ((nI_eq (by omega) (by omega)).mp z)), b32_f c]
theorem ir_ok (hK : KC σ) (hg : gY y) (hV : VY n mi np nw ho ye q ki to ag ar am wa go) (h : YC σ y n mi np nw ho ye q ki to ag ar am wa go) {p : Nat} (hp : p < np) : f_X5_isRetired σ y (nI p) = some (b32 (to p = none)) := by
  have h8 := hV.n8
  unfold f_X5_isRetired
  rw [po1 hK hg h hV.np8 hp]
  show (if ¬ oI (to p) = -4 then _ else _) = _
  cases c : to p with
  | none => rw [if_neg (fun z => z oI_n), b32_t rfl]
  | some x => rw [if_pos (oI_ne (by have := hV.toL c; omega)), b32_f (fun z => by cases z)]
theorem cc_ok (hK : KC σ) (hg : gY y) (hV : VY n mi np nw ho ye q ki to ag ar am wa go) (h : YC σ y n mi np nw ho ye q ki to ag ar am wa go) : f_X5_comeCount σ y = some (nI (cn (fun v => decide (wa v = go v)) nw)) := by
  have h5 := hV.nw5
  unfold f_X5_comeCount
  rw [lp_for0 (b := fun st => f_X5_comeCount_b1 σ y st.1 st.2) (s0 := ((0 : Int32), (0 : Int32))) (r := nI (cn (fun v => decide (wa v = go v)) nw)) (fun j => (nI (cn (fun v => decide (wa v = go v)) j), nI j)) nw (by omega) ?_ ?_ rfl]
  · rfl
  · intro j hj
    show f_X5_comeCount_b1 σ y (nI _) (nI j) = _
    unfold f_X5_comeCount_b1
    rw [h.1.2.1, if_neg (nI_ge hj (by omega)), hc_ok hK hg hV h hj, nI_1, nI_1]
    show (if b32 (wa j = go j) = 0 then _ else _) = some (Sum.inl (nI (cn _ j + (if decide (wa j = go j) = true then 1 else 0)), _))
    by_cases c : wa j = go j
    · rw [b32_t c, if_neg one0, if_pos (decide_eq_true c)]
    · rw [b32_f c, if_pos rfl, if_neg (by simp [c])]; rfl
  · show f_X5_comeCount_b1 σ y (nI _) (nI nw) = _
    unfold f_X5_comeCount_b1
    rw [h.1.2.1, if_pos (nI_le (Nat.le_refl _) (by omega))]
theorem rc_ok (hK : KC σ) (hg : gY y) (hV : VY n mi np nw ho ye q ki to ag ar am wa go) (h : YC σ y n mi np nw ho ye q ki to ag ar am wa go) : f_X5_retiredCount σ y = some (nI (cn (fun p => decide (to p = none)) np)) := by
  have h5 := hV.np8
  unfold f_X5_retiredCount
  rw [lp_for0 (b := fun st => f_X5_retiredCount_b1 σ y st.1 st.2) (s0 := ((0 : Int32), (0 : Int32))) (r := nI (cn (fun p => decide (to p = none)) np)) (fun j => (nI (cn (fun p => decide (to p = none)) j), nI j)) np (by omega) ?_ ?_ rfl]
  · rfl
  · intro j hj
    show f_X5_retiredCount_b1 σ y (nI _) (nI j) = _
    unfold f_X5_retiredCount_b1
    rw [h.1.1, if_neg (nI_ge hj (by omega)), ir_ok hK hg hV h hj, nI_1, nI_1]
    show (if b32 (to j = none) = 0 then _ else _) = some (Sum.inl (nI (cn _ j + (if decide (to j = none) = true then 1 else 0)), _))
    by_cases c : to j = none
    · rw [b32_t c, if_neg one0, if_pos (decide_eq_true c)]
    · rw [b32_f c, if_pos rfl, if_neg (by simp [c])]; rfl
  · show f_X5_retiredCount_b1 σ y (nI _) (nI np) = _
    unfold f_X5_retiredCount_b1
    rw [h.1.1, if_pos (nI_le (Nat.le_refl _) (by omega))]
/-- a retired post among a set -/
def rIn (s : Nat) (to : Nat → Option Nat) (np : Nat) : Option Nat := lw (fun p => s.testBit p && decide (to p = none)) 0 np
theorem nr_loop (hK : KC σ) (hg : gY y) (hV : VY n mi np nw ho ye q ki to ag ar am wa go) (h : YC σ y n mi np nw ho ye q ki to ag ar am wa go) {s : Nat} (hs : s < 2 ^ 31) : ∀ (k p m : Nat), p + k = np → k < m → lp (fun st => f_X5_noneRetired_b1 σ y (nI s) st) m (nI p) = some (match lw (fun p => s.testBit p && decide (to p = none)) p k with
    | some _ => .inl ()
    | none => .inr ())
  | 0, p, m + 1, hk, _ => by
    refine lp_end ?_
    unfold f_X5_noneRetired_b1
    rw [h.1.1, if_pos (nI_le (by omega) (by have := hV.np8; omega))]
    rfl
  | k + 1, p, m + 1, hk, hm => by
    have h8 := hV.np8
    have hb : f_X5_noneRetired_b1 σ y (nI s) (nI p) = some (if (s.testBit p && decide (to p = none)) = true then .inr (.inl ()) else .inl (nI (p + 1))) := by
      unfold f_X5_noneRetired_b1
      rw [h.1.1, if_neg (nI_ge (by omega) (by omega)), hb_ok hs (by omega), ir_ok hK hg hV h (by omega), nI_1]
      show (if (if s.testBit p = true then (1 : Int32) else 0) = 0 then _ else (if b32 (to p = none) = 0 then _ else _)) = _
      by_cases c : s.testBit p = true
      · rw [if_pos c, if_neg one0, c]
        by_cases c2 : to p = none
        · rw [b32_t c2, if_neg one0, if_pos (by simp [c2])]
        · rw [b32_f c2, if_pos rfl, if_neg (by simp [c2])]
      · rw [if_neg c, if_pos rfl, if_neg (by simp [c])]
    unfold lw
    by_cases c : (s.testBit p && decide (to p = none)) = true
    · rw [if_pos c] at hb
      rw [if_pos c]
      exact lp_end hb
    · rw [if_neg c] at hb
      rw [if_neg c]
      exact (lp_go hb).trans (nr_loop hK hg hV h hs k (p + 1) m (by omega) (by omega))
theorem nr_ok2 (hK : KC σ) (hg : gY y) (hV : VY n mi np nw ho ye q ki to ag ar am wa go) (h : YC σ y n mi np nw ho ye q ki to ag ar am wa go) {s : Nat} (hs : s < 2 ^ 31) : f_X5_noneRetired σ y (nI s) = some (b32 (rIn s to np = none)) := by
  unfold f_X5_noneRetired
  rw [L_0, nr_loop hK hg hV h hs np 0 FU (by omega) (by have := hV.np8; unfold FU; omega)]
  unfold rIn
  cases lw (fun p => s.testBit p && decide (to p = none)) 0 np <;> rfl
theorem it_in (h : YC σ y n mi np nw ho ye q ki to ag ar am wa go) (hn : n ≤ 8) {t : Nat} (ht : t < n) : f_X5_isTown σ y (nI t) = some 1 := by
  unfold f_X5_isTown f_X3_towns
  rw [if_neg (nI_pos (by omega)), h.2.1.1]
  show (if nI n ≤ nI t then _ else _) = _
  rw [if_neg (nI_ge ht (by omega))]
theorem it_out (h : YC σ y n mi np nw ho ye q ki to ag ar am wa go) {a : Int32} (ha : a < 0 ∨ nI n ≤ a) : f_X5_isTown σ y a = some 0 := by
  unfold f_X5_isTown f_X3_towns
  by_cases c : a < 0
  · rw [if_pos c]
  · rw [if_neg c, h.2.1.1]
    show (if nI n ≤ a then _ else _) = _
    rw [if_pos (ha.resolve_left c)]
theorem ip_in (h : YC σ y n mi np nw ho ye q ki to ag ar am wa go) (hn : np ≤ 8) {t : Nat} (ht : t < np) : f_X5_isPost σ y (nI t) = some 1 := by
  unfold f_X5_isPost
  rw [if_neg (nI_pos (by omega)), h.1.1, if_neg (nI_ge ht (by omega))]
theorem ip_out (h : YC σ y n mi np nw ho ye q ki to ag ar am wa go) {a : Int32} (ha : a < 0 ∨ nI np ≤ a) : f_X5_isPost σ y a = some 0 := by
  unfold f_X5_isPost
  by_cases c : a < 0
  · rw [if_pos c]
  · rw [if_neg c, h.1.1, if_pos (ha.resolve_left c)]
theorem iw_in (h : YC σ y n mi np nw ho ye q ki to ag ar am wa go) (hn : nw ≤ 5) {t : Nat} (ht : t < nw) : f_X5_isWalker σ y (nI t) = some 1 := by
  unfold f_X5_isWalker
  rw [if_neg (nI_pos (by omega)), h.1.2.1, if_neg (nI_ge ht (by omega))]
theorem iw_out (h : YC σ y n mi np nw ho ye q ki to ag ar am wa go) {a : Int32} (ha : a < 0 ∨ nI nw ≤ a) : f_X5_isWalker σ y a = some 0 := by
  unfold f_X5_isWalker
  by_cases c : a < 0
  · rw [if_pos c]
  · rw [if_neg c, h.1.2.1, if_pos (ha.resolve_left c)]
theorem RC_fr {r : Nat} (h : RC σ r n mi) (h1 : σ' r = σ r) (h2 : σ' (r + 1 + 1) = σ (r + 1 + 1)) : RC σ' r n mi := ⟨by rw [h1]; exact h.1, fun a b ha hb => by rw [h2]; exact h.2 a b ha hb⟩
theorem PC_fr {r : Nat} (h : PC σ r n mi) (h1 : σ' (r + 3 + 1) = σ (r + 3 + 1)) : PC σ' r n mi := fun a b ha hb => by rw [h1]; exact h a b ha hb
/-- a yard whose cells stand -/
theorem YC_fr (h : YC σ y n mi np nw ho ye q ki to ag ar am wa go) (hf : ∀ i, y ≤ i → i ≤ y + 13 → σ' i = σ i) : YC σ' y n mi np nw ho ye q ki to ag ar am wa go := by
  obtain ⟨c1, c2, c3, c4, c5, c6, c7⟩ := h
  refine ⟨?_, RC_fr c2 (hf _ (by omega) (by omega)) (hf _ (by omega) (by omega)), PC_fr c3 (hf _ (by omega) (by omega)), ?_, ?_, ?_, ?_⟩
  · rw [hf y (by omega) (by omega)]; exact c1
  · rw [hf (y + 6 + 1) (by omega) (by omega)]; exact c4
  · rw [hf (y + 8 + 1) (by omega) (by omega)]; exact c5
  · rw [hf (y + 10 + 1) (by omega) (by omega)]; exact c6
  · rw [hf (y + 12 + 1) (by omega) (by omega)]; exact c7
/-- only the walkers' row changes -/
theorem YC_wk {wa' : Nat → Nat} (h : YC σ y n mi np nw ho ye q ki to ag ar am wa go) (hf : ∀ i, i ≠ y + 12 + 1 → σ' i = σ i) (h7 : ∀ v, v < nw → σ' (y + 12 + 1) (v * 2) = nI (wa' v) ∧ σ' (y + 12 + 1) (v * 2 + 1) = nI (go v)) : YC σ' y n mi np nw ho ye q ki to ag ar am wa' go := by
  obtain ⟨c1, c2, c3, c4, c5, c6, c7⟩ := h
  refine ⟨?_, RC_fr c2 (hf _ (by omega)) (hf _ (by omega)), PC_fr c3 (hf _ (by omega)), ?_, ?_, ?_, h7⟩
  · rw [hf y (by omega)]; exact c1
  · rw [hf (y + 6 + 1) (by omega)]; exact c4
  · rw [hf (y + 8 + 1) (by omega)]; exact c5
  · rw [hf (y + 10 + 1) (by omega)]; exact c6
/-- only the yard's own fields change -/
theorem YC_own {np' nw' ho' ye' q' : Nat} (h : YC σ y n mi np nw ho ye q ki to ag ar am wa go) (hf : ∀ i, i ≠ y → σ' i = σ i) (h1 : σ' y 5 = nI np' ∧ σ' y 6 = nI nw' ∧ σ' y 7 = nI ho' ∧ σ' y 8 = nI ye' ∧ σ' y 9 = nI q') (h4 : np' ≤ np) (h6 : nw' ≤ nw) : YC σ' y n mi np' nw' ho' ye' q' ki to ag ar am wa go := by
  obtain ⟨c1, c2, c3, c4, c5, c6, c7⟩ := h
  refine ⟨h1, RC_fr c2 (hf _ (by omega)) (hf _ (by omega)), PC_fr c3 (hf _ (by omega)), ?_, ?_, ?_, ?_⟩
  · rw [hf (y + 6 + 1) (by omega)]; exact fun p hp => c4 p (by omega)
  · rw [hf (y + 8 + 1) (by omega)]; exact fun p hp => c5 p (by omega)
  · rw [hf (y + 10 + 1) (by omega)]; exact fun p hp => c6 p (by omega)
  · rw [hf (y + 12 + 1) (by omega)]; exact fun v hv => c7 v (by omega)
/-- where walkers are behind an hour -/
def hs (mi : Mi) (n np q : Nat) (ki : Nat → Nat) (to : Nat → Option Nat) (ag : Nat → Nat) (ar : Nat → Nat → Option Nat) (go : Nat → Nat) (ho : Nat) (wa : Nat → Nat) : Nat → Nat := fun v => if wa v = go v then wa v else st1 mi n np ho q ki to ag ar (wa v) (go v)
def hsK (mi : Mi) (n np q : Nat) (ki : Nat → Nat) (to : Nat → Option Nat) (ag : Nat → Nat) (ar : Nat → Nat → Option Nat) (go : Nat → Nat) (ho : Nat) (wa : Nat → Nat) : Nat → (Nat → Nat)
  | 0 => wa
  | k + 1 => hs mi n np q ki to ag ar go (ho + k) (hsK mi n np q ki to ag ar go ho wa k)
theorem VY_hs (hV : VY n mi np nw ho ye q ki to ag ar am wa go) (v : Nat) : hs mi n np q ki to ag ar go ho wa v < n := by
  show (if wa v = go v then wa v else st1 mi n np ho q ki to ag ar (wa v) (go v)) < n
  by_cases c : wa v = go v
  · rw [if_pos c]; exact hV.waL v
  · rw [if_neg c]; exact st_lt hV (hV.waL v)
end YD
section YE
variable {σ σ' : Sg} {y n : Nat} {mi : Mi} {np nw ho ye q : Nat} {ki : Nat → Nat} {to : Nat → Option Nat} {ag : Nat → Nat} {ar am : Nat → Nat → Option Nat} {wa go : Nat → Nat}
theorem VY_h (hV : VY n mi np nw ho ye q ki to ag ar am wa go) (hh : ho + 1 ≤ 3000) : VY n mi np nw (ho + 1) ye q ki to ag ar am (hs mi n np q ki to ag ar go ho wa) go :=
  ⟨hV.1, ⟨hV.np8, hV.nw5, hh, hV.yeL, hV.qL⟩, hV.2.2.1, hV.2.2.2.1, hV.2.2.2.2.1, hV.2.2.2.2.2.1, hV.2.2.2.2.2.2.1, fun v => VY_hs hV v, hV.2.2.2.2.2.2.2.2.1, hV.2.2.2.2.2.2.2.2.2⟩
theorem VY_wa {wa' : Nat → Nat} (hV : VY n mi np nw ho ye q ki to ag ar am wa go) (h : ∀ v, wa' v < n) : VY n mi np nw ho ye q ki to ag ar am wa' go :=
  ⟨hV.1, hV.2.1, hV.2.2.1, hV.2.2.2.1, hV.2.2.2.2.1, hV.2.2.2.2.2.1, hV.2.2.2.2.2.2.1, h, hV.2.2.2.2.2.2.2.2.1, hV.2.2.2.2.2.2.2.2.2⟩
/-- one hour -/
theorem h1_ok (hK : KC σ) (hg : gY y) (hV : VY n mi np nw ho ye q ki to ag ar am wa go) (h : YC σ y n mi np nw ho ye q ki to ag ar am wa go) : ∃ σ', lp (fun st => f_X5_passHours_b1 y st.1 st.2) FU ((0 : Int32), σ) = some σ' ∧ (∀ i, i ≠ y + 12 + 1 → σ' i = σ i) ∧ YC σ' y n mi np nw ho ye q ki to ag ar am (hs mi n np q ki to ag ar go ho wa) go := by
  have h5 := hV.nw5
  have h8 := hV.n8
  refine lp_inv (fun j (s : Int32 × Sg) => s.1 = nI j ∧ (∀ i, i ≠ y + 12 + 1 → s.2 i = σ i) ∧ YC s.2 y n mi np nw ho ye q ki to ag ar am (fun v => if v < j then hs mi n np q ki to ag ar go ho wa v else wa v) go) nw (by omega) ⟨rfl, fun _ _ => rfl, ?_⟩ ?_ ?_
  · exact h
  · rintro j ⟨x, τ⟩ hj ⟨rfl, hf, hp⟩
    have hf : ∀ i, i ≠ y + 12 + 1 → τ i = σ i := hf
    have hp : YC τ y n mi np nw ho ye q ki to ag ar am (fun v => if v < j then hs mi n np q ki to ag ar go ho wa v else wa v) go := hp
    have hK' : KC τ := KC_fr hK (by rw [hg.2.2.2.2.2.2.2]; decide) hf
    have hV' : VY n mi np nw ho ye q ki to ag ar am (fun v => if v < j then hs mi n np q ki to ag ar go ho wa v else wa v) go := VY_wa hV (fun v => by
      show (if v < j then _ else _) < n
      by_cases c : v < j
      · rw [if_pos c]; exact VY_hs hV v
      · rw [if_neg c]; exact hV.waL v)
    show ∃ s', f_X5_passHours_b1 y (nI j) τ = _ ∧ _
    unfold f_X5_passHours_b1
    have e0 := wa0 hK' hg hp h5 hj
    simp only [Nat.lt_irrefl, if_false] at e0
    rw [hp.1.2.1, if_neg (nI_ge hj (by omega)), e0, wa1 hK' hg hp h5 hj]
    show ∃ s', (if nI (wa j) = nI (go j) then _ else _) = _ ∧ _
    have a1 := hV.waL j
    have a2 := hV.goL j
    rw [nI_1]
    by_cases c : wa j = go j
    · rw [if_pos (congrArg nI c)]
      refine ⟨_, rfl, rfl, hf, ?_⟩
      have e : (fun v => if v < j + 1 then hs mi n np q ki to ag ar go ho wa v else wa v) = (fun v => if v < j then hs mi n np q ki to ag ar go ho wa v else wa v) := by
        funext v
        by_cases d : v < j
        · rw [if_pos d, if_pos (by omega)]
        · rw [if_neg d]
          by_cases d2 : v = j
          · subst d2; rw [if_pos (by omega)]; exact if_pos c
          · rw [if_neg (by omega)]
      rw [e]; exact hp
    · rw [if_neg (fun z => c ((nI_eq (by omega) (by omega)).mp z))]
      rw [st_ok hK' hg hV' hp a1 a2]
      show ∃ s', (f_X0_put τ (y + 12) (nI j) 0 (nI (st1 mi n np ho q ki to ag ar (wa j) (go j)))).bind _ = _ ∧ _
      rw [L_0, put_in hK' hg.2.2.2.2.2.2.1 (c := 0) (by omega) (by omega)]
      refine ⟨_, rfl, rfl, fun i hi => (sf_ne hi).trans (hf i hi), ?_⟩
      refine YC_wk hp (fun i hi => sf_ne hi) (fun v hv => ?_)
      have hw := hp.2.2.2.2.2.2 v hv
      dsimp only at hw ⊢
      rw [sf_row]
      constructor
      · by_cases d : v = j
        · subst d
          rw [show v * 2 + 0 = v * 2 from rfl, upd_self, if_pos (by omega)]
          exact congrArg nI (if_neg c).symm
        · rw [upd_ne (by omega), hw.1]
          by_cases d2 : v < j
          · rw [if_pos d2, if_pos (by omega)]
          · rw [if_neg d2, if_neg (by omega)]
      · rw [upd_ne (by omega)]; exact hw.2
  · rintro ⟨x, τ⟩ ⟨rfl, hf, hp⟩
    have hp : YC τ y n mi np nw ho ye q ki to ag ar am (fun v => if v < nw then hs mi n np q ki to ag ar go ho wa v else wa v) go := hp
    show ∃ s', f_X5_passHours_b1 y (nI nw) τ = _ ∧ _
    unfold f_X5_passHours_b1
    rw [hp.1.2.1, if_pos (nI_le (Nat.le_refl _) (by omega))]
    refine ⟨_, rfl, hf, YC_wk hp (fun _ _ => rfl) (fun v hv => ?_)⟩
    have hw := hp.2.2.2.2.2.2 v hv
    dsimp only at hw
    rw [if_pos hv] at hw
    exact hw
theorem hsK_lt (hV : VY n mi np nw ho ye q ki to ag ar am wa go) : ∀ k, ho + k ≤ 3000 → VY n mi np nw (ho + k) ye q ki to ag ar am (hsK mi n np q ki to ag ar go ho wa k) go
  | 0, _ => hV
  | k + 1, h => VY_h (hsK_lt hV k (by omega)) (by omega)
/-- hours -/
theorem ph_ok (hK : KC σ) (hg : gY y) (hV : VY n mi np nw ho ye q ki to ag ar am wa go) (h : YC σ y n mi np nw ho ye q ki to ag ar am wa go) {k : Nat} (hk : k ≤ 60) (hh : ho + k ≤ 3000) : ∃ σ', f_X5_passHours σ y (nI k) = some σ' ∧ KC σ' ∧ (∀ i, (i < y ∨ y + 13 < i) → σ' i = σ i) ∧ YC σ' y n mi np nw (ho + k) ye q ki to ag ar am (hsK mi n np q ki to ag ar go ho wa k) go := by
  unfold f_X5_passHours
  obtain ⟨τ, e, h1, h2, h3⟩ := lp_inv (b := fun st => f_X5_passHours_b2 y (nI k) st.1 st.2) (s0 := ((0 : Int32), σ)) (Post := fun (τ : Sg) => KC τ ∧ (∀ i, (i < y ∨ y + 13 < i) → τ i = σ i) ∧ YC τ y n mi np nw (ho + k) ye q ki to ag ar am (hsK mi n np q ki to ag ar go ho wa k) go) (fun j (s : Int32 × Sg) => s.1 = nI j ∧ KC s.2 ∧ (∀ i, (i < y ∨ y + 13 < i) → s.2 i = σ i) ∧ YC s.2 y n mi np nw (ho + j) ye q ki to ag ar am (hsK mi n np q ki to ag ar go ho wa j) go) k (by omega) ⟨rfl, hK, fun _ _ => rfl, h⟩ (by
    rintro j ⟨x, τ⟩ hj ⟨rfl, hK', hf, hp⟩
    have hf : ∀ i, (i < y ∨ y + 13 < i) → τ i = σ i := hf
    show ∃ s', f_X5_passHours_b2 y (nI k) (nI j) τ = _ ∧ _
    unfold f_X5_passHours_b2
    rw [if_neg (nI_ge hj (by omega))]
    obtain ⟨τ', e, hf', hp'⟩ := h1_ok hK' hg (hsK_lt hV j (by omega)) hp
    rw [e]
    show ∃ s', f_X5_passHours_k1 y (nI j) τ' = _ ∧ _
    unfold f_X5_passHours_k1
    rw [hp'.1.2.2.1, nI_1, nI_1]
    refine ⟨_, rfl, rfl, KC_sf (KC_fr hK' (by rw [hg.2.2.2.2.2.2.2]; decide) hf') (by rw [hg.2.1]; decide), fun i hi => (sf_ne (by omega)).trans ((hf' i (by omega)).trans (hf i hi)), ?_⟩
    refine YC_own hp' (fun i hi => sf_ne hi) ?_ (Nat.le_refl _) (Nat.le_refl _)
    dsimp only
    rw [sf_row]
    refine ⟨?_, ?_, upd_self, ?_, ?_⟩
    · rw [upd_ne (by decide)]; exact hp'.1.1
    · rw [upd_ne (by decide)]; exact hp'.1.2.1
    · rw [upd_ne (by decide)]; exact hp'.1.2.2.2.1
    · rw [upd_ne (by decide)]; exact hp'.1.2.2.2.2) (by
    rintro ⟨x, τ⟩ ⟨rfl, hK', hf, hp⟩
    show ∃ s', f_X5_passHours_b2 y (nI k) (nI k) τ = _ ∧ _
    unfold f_X5_passHours_b2
    rw [if_pos (nI_le (Nat.le_refl _) (by omega))]
    exact ⟨_, rfl, hK', hf, hp⟩)
  rw [e]
  exact ⟨τ, rfl, h1, h2, h3⟩
end YE
