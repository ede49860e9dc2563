/-! Part 17: the model's rows: steps, hours, years, counts. -/
section ME
variable {σ σ' : Sg} {c n : Nat} {mi : Mi} {np nw ho ye q ex al : Nat} {ki : Nat → Nat} {to : Nat → Option Nat} {ag : Nat → Nat} {ar am : Nat → Nat → Option Nat} {wa go : Nat → Nat}
theorem pn_ok (hc : rC c) (hV : VY n mi np nw ho ye q ki to ag ar am wa go) (hnp : np ≤ 6) (hS : ST σ n np nw ki go) (hq : σ 184 21 = nI q) (h : MC σ c mi np nw ho ye to ag ar am wa) {p k t : Nat} (hp : p < np) (hk : k ≤ 3) (ht : t < 8) : f_X7_points σ c (nI p) (nI k) (nI t) = some (oI (ptk mi n ho q to ag ar k p t)) := by
  have h8 := hV.n8
  have hq2 := hV.qL
  have hag := hV.agL p
  have hho := hV.hoL
  obtain ⟨m1, m2, m3, m4, m5, m6, m7⟩ := h
  unfold f_X7_points
  rw [hc.l, L_71, nI_add, ga_n (by omega) (by omega), m2 p hp]
  simp only [sb]
  unfold ptk
  cases hto : to p with
  | none => rw [if_neg (fun z => z oI_n)]; rfl
  | some x =>
    have hx := hV.toL hto
    rw [if_pos (oI_ne (by omega)), L_8, nI_mul, L_83, nI_add, nI_add, ga_n (by omega) (by omega), (m4 p hp (by rw [hto]; exact fun z => by cases z) t ht).1]
    simp only [sb]
    cases har : ar p t with
    | none => rw [if_neg (fun z => z oI_n)]; show some (-4 : Int32) = some (oI (itO _ _ none)); rw [itO_none]; rfl
    | some u =>
      have hu := hV.arL har
      rw [if_pos (oI_ne (by omega)), hq, ha_ok (by omega) (by omega), L_77, nI_add, ga_n (by omega) (by omega), m3 p hp, show (5 : Int32) = nI 5 from rfl, ga_n (by omega) (by omega), m6]
      simp only [sb]
      rw [rem2 (by omega)]
      have LP : ∀ (T : Nat), T < 100 → ∀ (b : Int32 × Int32 → Option ((Int32 × Int32) ⊕ Int32)), (∀ u i, b (u, i) = if nI T ≤ i then some (.inr u) else (f_X7_turned σ c (nI x) u).bind fun v => some (.inl (v, i + 1))) → T = tu k (ag p) ho (q.testBit p) → (lp b FU (oI (some u), (0 : Int32))).bind (fun rr => f_X7_points_k1 rr) = some (oI (itO (tn mi n x) (tu k (ag p) ho (q.testBit p)) (some u))) := fun T hT b hb e => by
        rw [L_0, pl_ok hc hS.1 ⟨hV.n2, h8⟩ hV.1.2.2.1 m1 hx hT hb T 0 FU (some u) (fun v hv => by cases hv; exact hu) (by omega) (by unfold FU; omega), e]
        rfl
      have e40 : nI (ag p) < 40 ↔ ¬ 40 ≤ ag p := by rw [L_40, nI_ltI (by omega) (by omega)]; omega
      have e2 : nI (ho % 2) = 1 ↔ ho % 2 = 1 := by rw [L_1, nI_eq (by omega) (by omega)]
      show (if nI k = 2 then _ else _) = _
      generalize hbt : q.testBit p = bt at LP
      rcases (show k = 0 ∨ k = 1 ∨ k = 2 ∨ k = 3 by omega) with rfl | rfl | rfl | rfl
      · rw [if_neg (by decide), if_pos (by decide), if_pos (by decide)]
        by_cases hb1 : bt = true
        · rw [if_pos hb1, if_neg one0]
          refine LP 1 (by omega) _ ?_ (by unfold tu; simp [hb1])
          intro _ _; rfl
        · rw [if_neg hb1, if_pos rfl]
          refine LP 0 (by omega) _ ?_ (by unfold tu; simp [hb1])
          intro _ _; rfl
      · rw [if_neg (by decide), if_neg (by decide)]
        by_cases q4 : 40 ≤ ag p
        · rw [if_neg (fun z => (e40.mp z) q4)]
          by_cases hb1 : bt = true
          · rw [if_pos hb1, if_neg one0]
            refine LP 2 (by omega) _ ?_ (by unfold tu; simp [hb1, q4])
            intro _ _; rfl
          · rw [if_neg hb1, if_pos rfl]
            refine LP 1 (by omega) _ ?_ (by unfold tu; simp [hb1, q4])
            intro _ _; rfl
        · rw [if_pos (e40.mpr q4), if_pos (by decide)]
          by_cases hb1 : bt = true
          · rw [if_pos hb1, if_neg one0]
            refine LP 1 (by omega) _ ?_ (by unfold tu; simp [hb1, q4])
            intro _ _; rfl
          · rw [if_neg hb1, if_pos rfl]
            refine LP 0 (by omega) _ ?_ (by unfold tu; simp [hb1, q4])
            intro _ _; rfl
      · rw [if_pos (by decide)]
        by_cases hb1 : bt = true
        · rw [if_pos hb1, if_neg one0]
          refine LP 2 (by omega) _ ?_ (by unfold tu; simp [hb1])
          intro _ _; rfl
        · rw [if_neg hb1, if_pos rfl]
          refine LP 1 (by omega) _ ?_ (by unfold tu; simp [hb1])
          intro _ _; rfl
      · rw [if_neg (by decide), if_pos (by decide), if_neg (by decide)]
        by_cases q4 : ho % 2 = 1
        · rw [if_neg (fun z => z (e2.mpr q4))]
          by_cases hb1 : bt = true
          · rw [if_pos hb1, if_neg one0]
            refine LP 3 (by omega) _ ?_ (by unfold tu; simp [hb1, q4])
            intro _ _; rfl
          · rw [if_neg hb1, if_pos rfl]
            refine LP 2 (by omega) _ ?_ (by unfold tu; simp [hb1, q4])
            intro _ _; rfl
        · rw [if_pos (fun z => q4 (e2.mp z))]
          by_cases hb1 : bt = true
          · rw [if_pos hb1, if_neg one0]
            refine LP 1 (by omega) _ ?_ (by unfold tu; simp [hb1, q4])
            intro _ _; rfl
          · rw [if_neg hb1, if_pos rfl]
            refine LP 0 (by omega) _ ?_ (by unfold tu; simp [hb1, q4])
            intro _ _; rfl
/-- the shortest road, from the last town down -/
def nrC (mi : Mi) (x : Nat) : Nat → Nat → Option Nat
  | _, 0 => none
  | j, k + 1 => match nrC mi x (j + 1) k with
    | none => if 0 < mi x j then some j else none
    | some u => if 0 < mi x j ∧ mi x j ≤ mi x u then some j else some u
theorem nrC_s {x j k : Nat} : nrC mi x j (k + 1) = match nrC mi x (j + 1) k with
    | none => if 0 < mi x j then some j else none
    | some u => if 0 < mi x j ∧ mi x j ≤ mi x u then some j else some u := rfl
theorem nrC_p {x : Nat} : ∀ {k j : Nat}, (∀ u, nrC mi x j k = some u → j ≤ u ∧ u < j + k ∧ 0 < mi x u ∧ ∀ v, j ≤ v → v < j + k → 0 < mi x v → mi x u < mi x v ∨ (mi x u = mi x v ∧ u ≤ v)) ∧ (nrC mi x j k = none → ∀ v, j ≤ v → v < j + k → mi x v = 0)
  | 0, j => ⟨fun u h => (by cases h), fun _ v a b => absurd b (by omega)⟩
  | k + 1, j => by
    obtain ⟨i1, i2⟩ := nrC_p (x := x) (k := k) (j := j + 1)
    rw [nrC_s]
    cases e : nrC mi x (j + 1) k with
    | none =>
      have z := i2 e
      by_cases q : 0 < mi x j
      · simp only [if_pos q]
        refine ⟨fun u h => ?_, fun h => (by cases h)⟩
        cases h
        refine ⟨Nat.le_refl _, by omega, q, fun v a b c => ?_⟩
        by_cases d : v = j
        · subst d; exact Or.inr ⟨rfl, Nat.le_refl _⟩
        · rw [z v (by omega) (by omega)] at c; exact absurd c (by omega)
      · simp only [if_neg q]
        refine ⟨fun u h => (by cases h), fun _ v a b => ?_⟩
        by_cases d : v = j
        · subst d; omega
        · exact z v (by omega) (by omega)
    | some w =>
      obtain ⟨w1, w2, w3, w4⟩ := i1 w e
      by_cases q : 0 < mi x j ∧ mi x j ≤ mi x w
      · simp only [if_pos q]
        refine ⟨fun u h => ?_, fun h => (by cases h)⟩
        cases h
        refine ⟨Nat.le_refl _, by omega, q.1, fun v a b c => ?_⟩
        by_cases d : v = j
        · subst d; exact Or.inr ⟨rfl, Nat.le_refl _⟩
        · have := w4 v (by omega) (by omega) c; omega
      · simp only [if_neg q]
        refine ⟨fun u h => ?_, fun h => (by cases h)⟩
        cases h
        refine ⟨by omega, by omega, w3, fun v a b c => ?_⟩
        by_cases d : v = j
        · subst d; left; omega
        · exact w4 v (by omega) (by omega) c
theorem nrU_p {x : Nat} : ∀ {k : Nat}, (∀ u, nrU mi x k = some u → u < k ∧ 0 < mi x u ∧ ∀ v, v < k → 0 < mi x v → mi x u < mi x v ∨ (mi x u = mi x v ∧ u ≤ v)) ∧ (nrU mi x k = none → ∀ v, v < k → mi x v = 0)
  | 0 => ⟨fun u h => (by cases h), fun _ v a => absurd a (by omega)⟩
  | k + 1 => by
    obtain ⟨i1, i2⟩ := nrU_p (x := x) (k := k)
    rw [nrU_s]
    cases e : nrU mi x k with
    | none =>
      have z := i2 e
      by_cases q : 0 < mi x k
      · simp only [if_pos q]
        refine ⟨fun u h => ?_, fun h => (by cases h)⟩
        cases h
        refine ⟨by omega, q, fun v a c => ?_⟩
        by_cases d : v = k
        · subst d; exact Or.inr ⟨rfl, Nat.le_refl _⟩
        · rw [z v (by omega)] at c; exact absurd c (by omega)
      · simp only [if_neg q]
        refine ⟨fun u h => (by cases h), fun _ v a => ?_⟩
        by_cases d : v = k
        · subst d; omega
        · exact z v (by omega)
    | some w =>
      obtain ⟨w1, w3, w4⟩ := i1 w e
      by_cases q : 0 < mi x k ∧ mi x k < mi x w
      · simp only [if_pos q]
        refine ⟨fun u h => ?_, fun h => (by cases h)⟩
        cases h
        refine ⟨by omega, q.1, fun v a c => ?_⟩
        by_cases d : v = k
        · subst d; exact Or.inr ⟨rfl, Nat.le_refl _⟩
        · have := w4 v (by omega) c; omega
      · simp only [if_neg q]
        refine ⟨fun u h => ?_, fun h => (by cases h)⟩
        cases h
        refine ⟨by omega, w3, fun v a c => ?_⟩
        by_cases d : v = k
        · subst d; omega
        · exact w4 v (by omega) c
theorem nr_eq {x N : Nat} : nrC mi x 0 N = nrU mi x N := by
  obtain ⟨a1, a2⟩ := nrC_p (mi := mi) (x := x) (k := N) (j := 0)
  obtain ⟨b1, b2⟩ := nrU_p (mi := mi) (x := x) (k := N)
  cases e1 : nrC mi x 0 N with
  | none =>
    have z := a2 e1
    cases e2 : nrU mi x N with
    | none => rfl
    | some v =>
      obtain ⟨v1, v2, -⟩ := b1 v e2
      have := z v (by omega) (by omega)
      omega
  | some u =>
    obtain ⟨u1, u2, u3, u4⟩ := a1 u e1
    cases e2 : nrU mi x N with
    | none => have := b2 e2 u (by omega); omega
    | some v =>
      obtain ⟨v1, v2, v3⟩ := b1 v e2
      have x1 := u4 v (by omega) (by omega) v2
      have x2 := v3 u (by omega) u3
      congr 1
      omega
theorem gn_ok (hc : rC c) (hb : ∀ a b, mi a b ≤ 9) (h : MM σ c mi) {x N : Nat} (hN : N ≤ 8) (hx : x < 8) : lp (fun st => f_X7_goesTo_b1 σ c (nI x) st.1 st.2) FU ((-4 : Int32), dI N) = some (oI (nrU mi x N)) := by
  have := lp_down (b := fun st => f_X7_goesTo_b1 σ c (nI x) st.1 st.2) (r := oI (nrC mi x 0 N)) (fun k => (oI (nrC mi x k (N - k)), dI k)) N FU (by unfold FU; omega) (fun k hk => by
    show f_X7_goesTo_b1 σ c (nI x) (oI (nrC mi x (k + 1) (N - (k + 1)))) (dI (k + 1)) = _
    unfold f_X7_goesTo_b1
    rw [dI_s, if_neg (nI_pos (by omega)), L_7, L_8, nI_mul, nI_add, nI_add, hc.l, ga_n (by omega) (by omega), h x k hx (by omega), show nI k + (-1 : Int32) = dI k from rfl]
    simp only [sb]
    have hm := hb x k
    rw [show N - k = (N - (k + 1)) + 1 by omega, nrC_s]
    cases e : nrC mi x (k + 1) (N - (k + 1)) with
    | none =>
      by_cases q : 0 < mi x k
      · simp only [if_pos q]
        rw [if_neg (nI_nle q (by omega)), if_pos oI_n]; rfl
      · simp only [if_neg q]
        rw [if_pos (by rw [show mi x k = 0 by omega]; decide)]
    | some u =>
      have hu := (nrC_p (mi := mi) (x := x) (k := N - (k + 1)) (j := k + 1)).1 u e
      have hmu := hb x u
      by_cases q : 0 < mi x k
      · rw [if_neg (nI_nle q (by omega)), if_neg (oI_ne (x := u) (by omega)), show oI (some u) = nI u from rfl, nI_add, ga_n (by omega) (by omega), h x u hx (by omega)]
        simp only [sb]
        by_cases q2 : mi x k ≤ mi x u
        · simp only [if_pos (show 0 < mi x k ∧ mi x k ≤ mi x u from ⟨q, q2⟩)]
          rw [if_neg (nI_nlt q2 (by omega))]; rfl
        · simp only [if_neg (show ¬ (0 < mi x k ∧ mi x k ≤ mi x u) from fun z => q2 z.2)]
          rw [if_pos (nI_lt (by omega) (by omega))]; rfl
      · simp only [if_neg (show ¬ (0 < mi x k ∧ mi x k ≤ mi x u) from fun z => q z.1)]
        rw [if_pos (by rw [show mi x k = 0 by omega]; decide)]) (by
    show f_X7_goesTo_b1 σ c (nI x) _ (dI 0) = _
    unfold f_X7_goesTo_b1
    rw [if_pos dI_neg]; rfl)
  rw [← nr_eq]
  have e0 : nrC mi x N (N - N) = none := by rw [Nat.sub_self]; rfl
  rw [e0] at this
  rw [show (-4 : Int32) = oI none from rfl]
  exact this
/-- where one goes, with posts put by and posts away -/
def stX (mi : Mi) (n np ho q ex al : Nat) (ki : Nat → Nat) (to : Nat → Option Nat) (ag : Nat → Nat) (ar : Nat → Nat → Option Nat) (x g : Nat) : Nat := gt mi x (match (if al = 0 then loP to x np else none) with
  | some p => pt mi n ho q ki to ag ar p g
  | none => if ex.testBit x = true then fs mi x g else nrU mi x n)
def hsX (mi : Mi) (n np q ex al : Nat) (ki : Nat → Nat) (to : Nat → Option Nat) (ag : Nat → Nat) (ar : Nat → Nat → Option Nat) (go : Nat → Nat) (ho : Nat) (wa : Nat → Nat) : Nat → Nat := fun v => if wa v = go v then wa v else stX mi n np ho q ex al ki to ag ar (wa v) (go v)
theorem stX_0 {x g : Nat} : stX mi n np ho q 0 0 ki to ag ar x g = st1 mi n np ho q ki to ag ar x g := by
  unfold stX st1
  rw [if_pos rfl]
  cases loP to x np with
  | none => simp
  | some p => rfl
theorem hsX_0 : hsX mi n np q 0 0 ki to ag ar go ho wa = hs mi n np q ki to ag ar go ho wa := by
  funext v
  unfold hsX hs
  rw [stX_0]
theorem stX_lt (hV : VY n mi np nw ho ye q ki to ag ar am wa go) {x g : Nat} (hx : x < n) : stX mi n np ho q ex al ki to ag ar x g < n := by
  unfold stX
  refine gt_lt hx (fun u hu => ?_)
  cases e : (if al = 0 then loP to x np else none) with
  | none =>
    rw [e] at hu
    have hu : (if ex.testBit x = true then fs mi x g else nrU mi x n) = some u := hu
    by_cases d : ex.testBit x = true
    · rw [if_pos d] at hu; exact (fs_lt hV.1 hu).1
    · rw [if_neg d] at hu; exact (nrU_lt hu).1
  | some p => rw [e] at hu; exact pt_lt hV hu
theorem gk_ok (hc : rC c) (hb : ∀ a b, mi a b ≤ 9) (h : MM σ c mi) {x : Nat} (hx : x < 8) (o : Option Nat) (ho : ∀ u, o = some u → u < 8) : (if oI o = (-4 : Int32) then some (nI x) else (ga (σ c) (ln c) ((7 : Int32) + (8 : Int32) * nI x + oI o)).bind fun v189 => if v189 ≤ 0 then some (nI x) else some (oI o)) = some (nI (gt mi x o)) := by
  cases o with
  | none => rw [if_pos oI_n]; rfl
  | some u =>
    have hu := ho u rfl
    have hm := hb x u
    rw [if_neg (oI_ne (by omega)), show oI (some u) = nI u from rfl, L_7, L_8, nI_mul, nI_add, nI_add, hc.l, ga_n (by omega) (by omega), h x u hx hu]
    show (if nI (mi x u) ≤ 0 then _ else _) = some (nI (if 0 < mi x u then u else x))
    by_cases c : 0 < mi x u
    · rw [if_neg (nI_nle c (by omega)), if_pos c]
    · rw [if_pos (by rw [show mi x u = 0 by omega]; decide), if_neg c]
theorem gs_ok (hc : rC c) (hV : VY n mi np nw ho ye q ki to ag ar am wa go) (hnp : np ≤ 6) (hS : ST σ n np nw ki go) (hFl : FL σ q ex al) (hex : ex < 256) (hal : al ≤ 1) (hF : ex ≠ 0 → PF σ (dist mi)) (h : MC σ c mi np nw ho ye to ag ar am wa) {v : Nat} (hv : v < nw) : f_X7_goesTo σ c (nI v) = some (nI (hsX mi n np q ex al ki to ag ar go ho wa v)) := by
  have h8 := hV.n8
  have h5 := hV.nw5
  have a1 := hV.waL v
  have a2 := hV.goL v
  have hb := hV.1.2.2.1
  unfold f_X7_goesTo
  rw [hc.l, L_0, nI_add, ga_n (by omega) (by omega), h.2.2.2.2.1 v hv, l190, ga_n (by omega) (by omega), hS.2.2.2.2 v hv]
  simp only [sb]
  unfold hsX
  by_cases e : wa v = go v
  · rw [if_neg (fun z => z (congrArg nI e)), if_pos e]
  rw [if_pos (fun z => e ((nI_eq (by omega) (by omega)).mp z)), if_neg e, hFl.2.2, hFl.2.1, ha_ok (by omega) (by omega), l186, ga_n (by omega) (by omega), hS.1]
  simp only [sb]
  rw [sub1, ← L_0]
  have rest : ∀ x g, x < n → g < n → (if (if ex.testBit x = true then (1 : Int32) else 0) = 0 then (lp (fun st => f_X7_goesTo_b1 σ c (nI x) st.1 st.2) FU ((-4 : Int32), dI n)).bind (fun rr => f_X7_goesTo_k1 σ c (nI x) rr) else (f_X7_nextOn σ c (nI x) (nI g)).bind fun v90 => if v90 = (-4 : Int32) then some (nI x) else (ga (σ c) 179 ((7 : Int32) + (8 : Int32) * nI x + v90)).bind fun v189 => if v189 ≤ 0 then some (nI x) else some v90) = some (nI (gt mi x (if ex.testBit x = true then fs mi x g else nrU mi x n))) := fun x g hx hg => by
    by_cases d : ex.testBit x = true
    · rw [if_pos d, if_neg one0, if_pos d]
      have hex0 : ex ≠ 0 := fun z => by rw [z] at d; simp at d
      rw [nx_ok hc hb h.1 (hF hex0) (by omega) (by omega)]
      simp only [sb]
      rw [← hc.l]
      exact gk_ok hc hb h.1 (by omega) _ (fun u hu => by have := (fs_lt hV.1 hu).1; omega)
    · rw [if_neg d, if_pos rfl, if_neg d, gn_ok hc hb h.1 (by omega) (by omega)]
      simp only [sb]
      unfold f_X7_goesTo_k1
      exact gk_ok hc hb h.1 (by omega) _ (fun u hu => by have := (nrU_lt hu).1; omega)
  have eal : (nI al = 0) ↔ al = 0 := by rw [L_0, nI_eq (by omega) (by omega)]
  unfold stX
  by_cases d : al = 0
  · rw [if_pos (eal.mpr d), if_pos d, pa_ok hc hnp hS.2.1 h.2.1 (fun p x hx => hV.toL hx) h8 (by omega)]
    simp only [sb]
    cases e2 : loP to (wa v) np with
    | none =>
      rw [if_pos oI_n]
      exact rest _ _ a1 a2
    | some p =>
      have hp := (loP_lt e2).1
      have hk := hV.kiL p
      rw [if_neg (oI_ne (x := p) (by omega)), show oI (some p) = nI p from rfl, l189, ga_n (by omega) (by omega), hS.2.2.2.1 p hp]
      simp only [sb]
      rw [pn_ok hc hV hnp hS hFl.1 h hp hk (by omega)]
      simp only [sb]
      rw [← hc.l]
      exact gk_ok hc hb h.1 (by omega) _ (fun u hu => by have := pt_lt hV (p := p) (t := go v) hu; omega)
  · rw [if_neg (fun z => d (eal.mp z)), if_neg d]
    exact rest _ _ a1 a2
end ME
