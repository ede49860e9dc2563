/-! Part 26: which to paint so that all come. -/
theorem lw_none {P : Nat → Bool} : ∀ {k j : Nat}, lw P j k = none → ∀ t, j ≤ t → t < j + k → P t = false
  | 0, j, _, t, h1, h2 => by omega
  | k + 1, j, h, t, h1, h2 => by
    unfold lw at h
    by_cases hp : P j = true
    · rw [if_pos hp] at h; cases h
    · rw [if_neg hp] at h
      by_cases e : t = j
      · subst e; exact Bool.eq_false_iff.mpr hp
      · exact lw_none h t (by omega) (by omega)
theorem lw_all {P : Nat → Bool} {k : Nat} (h : ∀ t, t < k → P t = false) : lw P 0 k = none := by
  have := lw_ext (P := P) (k := 0) (j := 0) (e := k) (fun t a b => h t (by omega))
  rw [Nat.zero_add] at this
  exact this
section PA
variable {σ : Sg} {n : Nat} {mi : Mi} {np nw ho ye : Nat} {ki : Nat → Nat} {to : Nat → Option Nat} {ag : Nat → Nat} {ar am : Nat → Nat → Option Nat} {wa go : Nat → Nat}
def pAr (F : Nat → Nat → Option Nat) (to : Nat → Option Nat) (s : Nat) (ar : Nat → Nat → Option Nat) (j : Nat) : Nat → Nat → Option Nat := fun p => if p < j ∧ s.testBit p = true then (match to p with
  | some x => F x
  | none => ar p) else ar p
theorem pAr_0 {F : Nat → Nat → Option Nat} {s : Nat} : pAr F to s ar 0 = ar := by
  funext p
  unfold pAr
  rw [if_neg (fun z => by omega)]
theorem pAr_s {F : Nat → Nat → Option Nat} {s j x : Nat} (b : s.testBit j = true) (e : to j = some x) : pAr F to s ar (j + 1) = up1 (pAr F to s ar j) j (F x) := by
  funext p
  unfold up1
  by_cases c : p = j
  · subst c
    rw [if_pos rfl]
    unfold pAr
    rw [if_pos ⟨by omega, b⟩, e]
  · rw [if_neg c]
    unfold pAr
    rw [ite_iff (p := p < j + 1 ∧ s.testBit p = true) (q := p < j ∧ s.testBit p = true) ⟨fun z => ⟨by omega, z.2⟩, fun z => ⟨by omega, z.2⟩⟩]
theorem pAr_n {F : Nat → Nat → Option Nat} {s j : Nat} (b : ¬ (s.testBit j = true ∧ to j ≠ none)) : pAr F to s ar (j + 1) = pAr F to s ar j := by
  funext p
  unfold pAr
  by_cases c : p = j
  · subst c
    rw [if_neg (show ¬ (p < p ∧ s.testBit p = true) from fun z => by omega)]
    by_cases d : s.testBit p = true
    · rw [if_pos ⟨by omega, d⟩]
      cases e : to p with
      | none => rfl
      | some x => exact absurd ⟨d, by rw [e]; exact fun z => by cases z⟩ b
    · rw [if_neg (fun z => d z.2)]
  · rw [ite_iff (p := p < j + 1 ∧ s.testBit p = true) (q := p < j ∧ s.testBit p = true) ⟨fun z => ⟨by omega, z.2⟩, fun z => ⟨by omega, z.2⟩⟩]
theorem VY_pA (hV : VY n mi np nw ho ye 0 ki to ag ar am wa go) {s : Nat} : ∀ j, VY n mi np nw ho ye 0 ki to ag (pAr (pr mi n) to s ar j) (pAr (pm mi n) to s am j) wa go
  | 0 => by rw [pAr_0, pAr_0]; exact hV
  | j + 1 => by
    have i := VY_pA hV (s := s) j
    by_cases b : s.testBit j = true ∧ to j ≠ none
    · obtain ⟨b1, b2⟩ := b
      cases e : to j with
      | none => exact absurd e b2
      | some x => rw [pAr_s b1 e, pAr_s b1 e]; exact VY_p i e
    · rw [pAr_n b, pAr_n b]; exact i
def cP (mi : Mi) (n np nw : Nat) (ki : Nat → Nat) (to : Nat → Option Nat) (ag : Nat → Nat) (ar : Nat → Nat → Option Nat) (go : Nat → Nat) (ho : Nat) (wa : Nat → Nat) (s : Nat) : Nat := cn (fun v => decide (hsK mi n np 0 ki to ag (pAr (pr mi n) to s ar np) go ho wa 40 v = go v)) nw
theorem cP_le (h5 : nw ≤ 5) {s : Nat} : cP mi n np nw ki to ag ar go ho wa s ≤ 5 := Nat.le_trans (cn_le _) h5
theorem cp_lp {τ1 : Sg} (hV : VY n mi np nw ho ye 0 ki to ag ar am wa go) (h : YC σ 6 n mi np nw ho ye 0 ki to ag ar am wa go) {s : Nat} (hs : s < 2 ^ 31) (hr : rIn s to np = none) (K1 : KC τ1) (F1 : ∀ i, (i < 20 ∨ 33 < i) → τ1 i = σ i) (Y1 : YC τ1 20 n mi np nw ho ye 0 ki to ag ar am wa go) : ∃ τ, lp (fun st => f_X6_comersPainted_b1 (nI s) st.1 st.2) FU ((0 : Int32), τ1) = some τ ∧ (KC τ ∧ (∀ i, (i < 20 ∨ 33 < i) → τ i = σ i) ∧ YC τ 20 n mi np nw ho ye 0 ki to ag (pAr (pr mi n) to s ar np) (pAr (pm mi n) to s am np) wa go) := by
  have h8 := hV.np8
  refine lp_inv (fun j (st : Int32 × Sg) => st.1 = nI j ∧ KC st.2 ∧ (∀ i, (i < 20 ∨ 33 < i) → st.2 i = σ i) ∧ YC st.2 20 n mi np nw ho ye 0 ki to ag (pAr (pr mi n) to s ar j) (pAr (pm mi n) to s am j) wa go) np (by omega) ⟨rfl, K1, F1, by rw [pAr_0, pAr_0]; exact Y1⟩ ?_ ?_
  · rintro j ⟨x, τ⟩ hj ⟨e, Kt, Ft, Yt⟩
    dsimp only at e Kt Ft Yt
    subst e
    have Y6 := YC_fr h (fun i a b => Ft i (by omega))
    show ∃ s', f_X6_comersPainted_b1 (nI s) (nI j) τ = _ ∧ _
    unfold f_X6_comersPainted_b1 f_X5_posts
    rw [Y6.1.1, sb, if_neg (nI_ge hj (by omega)), hb_ok hs (by omega), sb]
    by_cases b : s.testBit j = true
    · have d := lw_none hr j (by omega) (by omega)
      rw [b, Bool.true_and] at d
      have d := of_decide_eq_false d
      cases e : to j with
      | none => exact absurd e d
      | some x =>
        obtain ⟨τ', g1, g2, g3, g4⟩ := pp_ok Kt gY20 (VY_pA hV j) Yt hj e
        rw [if_pos b, if_neg one0, g1, sb, nI_1]
        refine ⟨_, rfl, rfl, g2, fun i hi => (g3 i (by omega)).trans (Ft i hi), ?_⟩
        rw [pAr_s b e, pAr_s b e]; exact g4
    · rw [if_neg b, if_pos rfl, nI_1]
      refine ⟨_, rfl, rfl, Kt, Ft, ?_⟩
      rw [pAr_n (fun z => b z.1), pAr_n (fun z => b z.1)]; exact Yt
  · rintro ⟨x, τ⟩ ⟨e, Kt, Ft, Yt⟩
    dsimp only at e Kt Ft Yt
    subst e
    have Y6 := YC_fr h (fun i a b => Ft i (by omega))
    show ∃ s', f_X6_comersPainted_b1 (nI s) (nI np) τ = _ ∧ _
    unfold f_X6_comersPainted_b1 f_X5_posts
    rw [Y6.1.1, sb, if_pos (nI_le (Nat.le_refl _) (by omega))]
    exact ⟨_, rfl, Kt, Ft, Yt⟩
theorem cp_ok (hK : KC σ) (hV : VY n mi np nw ho ye 0 ki to ag ar am wa go) (hh : ho + 40 ≤ 3000) (h : YC σ 6 n mi np nw ho ye 0 ki to ag ar am wa go) {s : Nat} (hs : s < 2 ^ 31) (hr : rIn s to np = none) : ∃ σ', f_X6_comersPainted σ (nI s) = some (nI (cP mi n np nw ki to ag ar go ho wa s), σ') ∧ KC σ' ∧ ∀ i, (i < 20 ∨ 33 < i) → σ' i = σ i := by
  obtain ⟨τ1, e1, K1, f1, Y1⟩ := yb_ok hK gY20 gY6 (by omega) h hV.np8 hV.nw5 hV.n8
  obtain ⟨τ2, e2, K2, f2, Y2⟩ := cp_lp hV h hs hr K1 (fun i hi => f1 i (by omega)) Y1
  have V2 := VY_pA hV (s := s) np
  obtain ⟨τ3, e3, K3, f3, Y3⟩ := ph_ok K2 gY20 V2 Y2 (k := 40) (by omega) hh
  have e4 : f_X5_comeCount τ3 20 = some (nI (cP mi n np nw ki to ag ar go ho wa s)) := cc_ok K3 gY20 (hsK_lt V2 40 hh) Y3
  refine ⟨τ3, ?_, K3, fun i hi => (f3 i (by omega)).trans (f2 i hi)⟩
  unfold f_X6_comersPainted
  rw [e1, sb, e2, sb]
  unfold f_X6_comersPainted_k1
  rw [L_40, e3, sb, e4, sb]
def pQ (to : Nat → Option Nat) (s p : Nat) : Bool := s.testBit p && decide (to p = none)
/-- the model paints a set, as far as it may -/
theorem mp_lp {τ1 : Sg} (hV : VY n mi np nw ho ye 0 ki to ag ar am wa go) (hnp : np ≤ 6) {s : Nat} (hs : s < 2 ^ 31) (hS : ST τ1 n np nw ki go) (hP : PF τ1 (dist mi)) (h : MC τ1 198 mi np nw ho ye to ag ar am wa) : ∃ r, lp (fun st => f_X7_paints_b1 (nI s) st.1 st.2.1 st.2.2) FU ((1 : Int32), (0 : Int32), τ1) = some r ∧ (r.1 = b32 (rIn s to np = none) ∧ (∀ i, i ≠ 198 → r.2 i = τ1 i) ∧ (rIn s to np = none → MC r.2 198 mi np nw ho ye to ag (pAr (pr mi n) to s ar np) (pAr (pm mi n) to s am np) wa)) := by
  refine lp_inv (fun j (st : Int32 × Int32 × Sg) => st.1 = b32 (lw (pQ to s) 0 j = none) ∧ st.2.1 = nI j ∧ (∀ i, i ≠ 198 → st.2.2 i = τ1 i) ∧ (lw (pQ to s) 0 j = none → MC st.2.2 198 mi np nw ho ye to ag (pAr (pr mi n) to s ar j) (pAr (pm mi n) to s am j) wa)) np (by omega) ⟨rfl, rfl, fun _ _ => rfl, fun _ => by rw [pAr_0, pAr_0]; exact h⟩ ?_ ?_
  · rintro j ⟨x1, x2, τ⟩ hj ⟨e1, e2, Ft, It⟩
    dsimp only at e1 e2 Ft It
    subst e1 e2
    have St := ST_fr hS (fun i a b => Ft i (by omega))
    have sn := lw_snoc (P := pQ to s) (k := j) (j := 0)
    rw [Nat.zero_add] at sn
    show ∃ s', f_X7_paints_b1 (nI s) _ (nI j) τ = _ ∧ _
    unfold f_X7_paints_b1
    rw [show ga (τ 187) (ln 187) (0 : Int32) = some (nI np) by rw [L_0, l187, ga_n (by omega) (by omega), St.2.1], sb, if_neg (nI_ge hj (by omega)), ha_ok hs (by omega), sb, nI_1]
    by_cases b : s.testBit j = true
    · rw [if_pos b, if_neg one0]
      cases o : lw (pQ to s) 0 j with
      | some u =>
        rw [o] at sn
        dsimp only at sn
        rw [b32_f (fun z => by cases z), if_pos rfl]
        refine ⟨_, rfl, ?_, rfl, Ft, fun z => ?_⟩
        · rw [sn, b32_f (fun z => by cases z)]
        · rw [sn] at z; cases z
      | none =>
        rw [o] at sn
        dsimp only at sn
        have Mt := It o
        rw [b32_t rfl, if_neg one0, L_71, nI_add, l198, ga_n (by omega) (by omega), Mt.2.1 j hj, sb]
        cases e : to j with
        | none =>
          have : pQ to s j = true := by unfold pQ; rw [b, e]; rfl
          rw [if_pos this] at sn
          rw [if_pos oI_n]
          refine ⟨_, rfl, ?_, rfl, Ft, fun z => ?_⟩
          · rw [sn, b32_f (fun z => by cases z)]
          · rw [sn] at z; cases z
        | some x =>
          have : ¬ pQ to s j = true := by unfold pQ; rw [b, e]; simp
          rw [if_neg this] at sn
          have := hV.toL e
          have := hV.n8
          obtain ⟨τ', g1, g2, g3⟩ := po_ok (Or.inr rfl) (VY_pA hV j) hnp St (PF_fr hP (Ft _ (by omega))) Mt hj e
          rw [if_neg (oI_ne (by omega)), g1, sb]
          refine ⟨_, rfl, ?_, rfl, fun i hi => (g2 i hi).trans (Ft i hi), fun z => ?_⟩
          · rw [sn, b32_t rfl]
          · rw [pAr_s b e, pAr_s b e]; exact g3
    · rw [if_neg b, if_pos rfl]
      have : ¬ pQ to s j = true := by unfold pQ; rw [Bool.eq_false_iff.mpr b]; simp
      rw [if_neg this] at sn
      have sn' : lw (pQ to s) 0 (j + 1) = lw (pQ to s) 0 j := by rw [sn]; cases lw (pQ to s) 0 j <;> rfl
      refine ⟨_, rfl, ?_, rfl, Ft, fun z => ?_⟩
      · rw [sn']
      · rw [pAr_n (fun z => b z.1), pAr_n (fun z => b z.1)]; exact It (by rw [← sn']; exact z)
  · rintro ⟨x1, x2, τ⟩ ⟨e1, e2, Ft, It⟩
    dsimp only at e1 e2 Ft It
    subst e1 e2
    have St := ST_fr hS (fun i a b => Ft i (by omega))
    show ∃ s', f_X7_paints_b1 (nI s) _ (nI np) τ = _ ∧ _
    unfold f_X7_paints_b1
    rw [show ga (τ 187) (ln 187) (0 : Int32) = some (nI np) by rw [L_0, l187, ga_n (by omega) (by omega), St.2.1], sb, if_pos (nI_le (Nat.le_refl _) (by omega))]
    exact ⟨_, rfl, rfl, Ft, It⟩
def paS (to : Nat → Option Nat) (np : Nat) (C : Nat → Nat) (s : Nat) (r : Nat × Nat) : Nat × Nat := if rIn s to np = none then (if r.2 < C s then (s, C s) else if C s = r.2 ∧ pc s < pc r.1 then (s, C s) else r) else r
def paB (to : Nat → Option Nat) (np : Nat) (C : Nat → Nat) : Nat → Nat × Nat
  | 0 => (0, C 0)
  | k + 1 => paS to np C (k + 1) (paB to np C k)
theorem paS_c {C : Nat → Nat} {s : Nat} {r : Nat × Nat} : paS to np C s r = r ∨ paS to np C s r = (s, C s) := by
  unfold paS
  split
  · split
    · exact Or.inr rfl
    · split
      · exact Or.inr rfl
      · exact Or.inl rfl
  · exact Or.inl rfl
theorem paB_lt {C : Nat → Nat} (hC : ∀ t, C t ≤ 5) : ∀ {k : Nat}, (paB to np C k).1 ≤ k ∧ (paB to np C k).2 ≤ 5
  | 0 => ⟨Nat.le_refl 0, hC 0⟩
  | k + 1 => by
    have i := paB_lt hC (k := k)
    show (paS to np C (k + 1) (paB to np C k)).1 ≤ k + 1 ∧ (paS to np C (k + 1) (paB to np C k)).2 ≤ 5
    rcases paS_c (to := to) (np := np) (C := C) (s := k + 1) (r := paB to np C k) with e | e
    · rw [e]; exact ⟨by omega, i.2⟩
    · rw [e]; exact ⟨Nat.le_refl _, hC _⟩
theorem rIn_0 : rIn 0 to np = none := lw_all (fun t _ => by simp)
theorem p64 {n : Nat} (h : n ≤ 6) : 2 ^ n ≤ 64 := Nat.le_trans (Nat.pow_le_pow_right (by omega) h) (by decide)
theorem paS_no {C : Nat → Nat} {s : Nat} {r : Nat × Nat} (h : ¬ rIn s to np = none) : paS to np C s r = r := if_neg h
theorem paS_yes {C : Nat → Nat} {s : Nat} {r : Nat × Nat} (h : rIn s to np = none) : paS to np C s r = if r.2 < C s then (s, C s) else if C s = r.2 ∧ pc s < pc r.1 then (s, C s) else r := if_pos h
theorem c_paints (hK : KC σ) (hV : VY n mi np nw ho ye 0 ki to ag ar am wa go) (hnp : np ≤ 6) (hh : ho + 40 ≤ 3000) (h : YC σ 6 n mi np nw ho ye 0 ki to ag ar am wa go) {C : Nat → Nat} (hC : C = cP mi n np nw ki to ag ar go ho wa) : ∃ r, lp (fun st => f_X6_paints_b1 (nI np) st.1 st.2.1 st.2.2.1 st.2.2.2) FU ((0 : Int32), nI (C 0), (1 : Int32), σ) = some r ∧ (r.1 = nI (paB to np C (2 ^ np - 1)).1 ∧ r.2.1 = nI (paB to np C (2 ^ np - 1)).2 ∧ KC r.2.2 ∧ ∀ i, (i < 20 ∨ 33 < i) → r.2.2 i = σ i) := by
  have p6 := p64 hnp
  have p1 : 0 < 2 ^ np := Nat.pow_pos (by omega)
  have hC5 : ∀ t, C t ≤ 5 := fun t => by rw [hC]; exact cP_le hV.nw5
  refine lp_inv (fun j (s : Int32 × Int32 × Int32 × Sg) => s.1 = nI (paB to np C j).1 ∧ s.2.1 = nI (paB to np C j).2 ∧ s.2.2.1 = nI (j + 1) ∧ KC s.2.2.2 ∧ ∀ i, (i < 20 ∨ 33 < i) → s.2.2.2 i = σ i) (2 ^ np - 1) (by omega) ⟨rfl, rfl, rfl, hK, fun _ _ => rfl⟩ ?_ ?_
  · rintro j ⟨x1, x2, x3, τ⟩ hj ⟨e1, e2, e3, Kt, ft⟩
    dsimp only at e1 e2 e3 Kt ft
    subst e1 e2 e3
    have Yt := YC_fr h (fun i a b => ft i (by omega))
    have lt := paB_lt (to := to) (np := np) hC5 (k := j)
    have c5 := hC5 (j + 1)
    have q1 := pc_le (j + 1)
    have q2 := pc_le (paB to np C j).1
    have u : paB to np C (j + 1) = paS to np C (j + 1) (paB to np C j) := rfl
    show ∃ s', f_X6_paints_b1 (nI np) _ _ (nI (j + 1)) τ = _ ∧ _
    unfold f_X6_paints_b1
    rw [shl_n (by omega), if_neg (nI_ge (by omega) (by omega)), nr_ok2 Kt gY6 hV Yt (by omega), sb, nI_1]
    by_cases d : rIn (j + 1) to np = none
    · obtain ⟨τ', g1, g2, g3⟩ := cp_ok Kt hV hh Yt (s := j + 1) (by omega) d
      rw [← hC] at g1
      have F : ∀ i, (i < 20 ∨ 33 < i) → τ' i = σ i := fun i hi => (g3 i hi).trans (ft i hi)
      rw [b32_t d, if_neg one0, g1, sb, bc_ok (by omega), sb, bc_ok (by omega), sb]
      dsimp only
      rw [paS_yes d] at u
      by_cases c : pc (paB to np C j).1 ≤ pc (j + 1)
      · rw [if_pos (nI_le c (by omega))]
        by_cases a : (paB to np C j).2 < C (j + 1)
        · rw [if_pos a] at u
          rw [if_pos (nI_lt a (by omega))]
          exact ⟨_, rfl, by rw [u], by rw [u], rfl, g2, F⟩
        · rw [if_neg a, if_neg (fun z => by omega)] at u
          rw [if_neg (nI_nlt (by omega) (by omega)), ite_self]
          exact ⟨_, rfl, by rw [u], by rw [u], rfl, g2, F⟩
      · rw [if_neg (nI_ge (by omega) (by omega))]
        by_cases a : (paB to np C j).2 < C (j + 1)
        · rw [if_pos a] at u
          rw [if_pos (nI_lt a (by omega))]
          exact ⟨_, rfl, by rw [u], by rw [u], rfl, g2, F⟩
        · rw [if_neg a] at u
          rw [if_neg (nI_nlt (by omega) (by omega))]
          by_cases b : C (j + 1) = (paB to np C j).2
          · rw [if_pos ⟨b, by omega⟩] at u
            rw [if_neg (fun z => z (congrArg nI b))]
            exact ⟨_, rfl, by rw [u], by rw [u], rfl, g2, F⟩
          · rw [if_neg (fun z => b z.1)] at u
            rw [if_pos (fun z => b ((nI_eq (by omega) (by omega)).mp z))]
            exact ⟨_, rfl, by rw [u], by rw [u], rfl, g2, F⟩
    · rw [paS_no d] at u
      rw [b32_f d, if_pos rfl]
      exact ⟨_, rfl, by rw [u], by rw [u], rfl, Kt, ft⟩
  · rintro ⟨x1, x2, x3, τ⟩ ⟨e1, e2, e3, Kt, ft⟩
    dsimp only at e1 e2 e3 Kt ft
    subst e1 e2 e3
    show ∃ s', f_X6_paints_b1 (nI np) _ _ (nI (2 ^ np - 1 + 1)) τ = _ ∧ _
    unfold f_X6_paints_b1
    rw [shl_n (by omega), if_pos (nI_le (by omega) (by omega))]
    exact ⟨_, rfl, rfl, rfl, Kt, ft⟩
theorem m_paints (hV : VY n mi np nw ho ye 0 ki to ag ar am wa go) (hnp : np ≤ 6) (hh : ho + 40 ≤ 3000) (hS : ST σ n np nw ki go) (hF : FL σ 0 0 0) (h : MC σ 195 mi np nw ho ye to ag ar am wa) {C : Nat → Nat} (hC : C = cP mi n np nw ki to ag ar go ho wa) : ∃ r, lp (fun st => f_X7_paints_b2 st.1 st.2.1 st.2.2.1 st.2.2.2) FU ((0 : Int32), (-1 : Int32), (0 : Int32), σ) = some r ∧ (r.1 = nI (paB to np C (2 ^ np - 1)).1 ∧ r.2.1 = nI (paB to np C (2 ^ np - 1)).2 ∧ ∀ i, i ≠ 198 → i ≠ 199 → i ≠ 200 → r.2.2 i = σ i) := by
  have p6 := p64 hnp
  have p1 : 0 < 2 ^ np := Nat.pow_pos (by omega)
  have hC5 : ∀ t, C t ≤ 5 := fun t => by rw [hC]; exact cP_le hV.nw5
  refine lp_inv (fun j (s : Int32 × Int32 × Int32 × Sg) => s.1 = (match j with | 0 => 0 | j + 1 => nI (paB to np C j).1) ∧ s.2.1 = (match j with | 0 => -1 | j + 1 => nI (paB to np C j).2) ∧ s.2.2.1 = nI j ∧ ∀ i, i ≠ 198 → i ≠ 199 → i ≠ 200 → s.2.2.2 i = σ i) (2 ^ np) (by omega) ⟨rfl, rfl, rfl, fun _ _ _ _ => rfl⟩ ?_ ?_
  · rintro j ⟨x1, x2, x3, τ⟩ hj ⟨e1, e2, e3, ft⟩
    dsimp only at e1 e2 e3 ft
    subst e3
    have St := ST_fr hS (fun i a b => ft i (by omega) (by omega) (by omega))
    have Ft := FL_fr hF (ft _ (by omega) (by omega) (by omega))
    have Mt := MC_fr h (ft _ (by omega) (by omega) (by omega))
    obtain ⟨τ1, g1, f1, M1⟩ := take_ok Mt hnp hV.nw5
    obtain ⟨τ2, g2, f2, P2⟩ := me_ok (Or.inr rfl) hV.1.2.2.1 M1.1
    have S2 := ST_fr (ST_fr St (fun i a b => f1 i (by omega))) (fun i a b => f2 i (by omega))
    obtain ⟨⟨y1, τ3⟩, g3, g4, f3, M3⟩ := mp_lp hV hnp (s := j) (by omega) S2 P2 (MC_fr M1 (f2 _ (by omega)))
    dsimp only at g4 f3 M3
    have F3 : ∀ i, i ≠ 198 → i ≠ 199 → i ≠ 200 → τ3 i = σ i := fun i a b c => (f3 i a).trans ((f2 i b).trans ((f1 i a).trans (ft i a b c)))
    show ∃ s', f_X7_paints_b2 x1 x2 (nI j) τ = _ ∧ _
    unfold f_X7_paints_b2
    rw [show ga (τ 187) (ln 187) (0 : Int32) = some (nI np) by rw [L_0, l187, ga_n (by omega) (by omega), St.2.1], sb, shl_n (by omega), if_neg (nI_ge hj (by omega)), g1, sb, g2, sb, g3, sb]
    subst g4
    unfold f_X7_paints_k1
    rw [nI_1]
    by_cases d : rIn j to np = none
    · have M4 := M3 d
      obtain ⟨τ4, g5, f5, M5⟩ := cb_ok (ex := 0) (al := 0) (VY_pA hV np) hnp (ST_fr S2 (fun i a b => f3 i (by omega))) (FL_fr hF (F3 _ (by omega) (by omega) (by omega))) (by omega) (by omega) M4 hh
      rw [hsXK_0] at g5
      have g5 : f_X7_comeBy τ3 = some (nI (C j), τ4) := by rw [hC]; exact g5
      have F : ∀ i, i ≠ 198 → i ≠ 199 → i ≠ 200 → τ4 i = σ i := fun i a b c => (f5 i a b c).trans (F3 i a b c)
      dsimp only
      rw [b32_t d, if_neg one0, g5, sb]
      dsimp only
      cases j with
      | zero =>
        dsimp only at e1 e2
        subst e1 e2
        rw [if_pos (Int32.lt_of_lt_of_le (show (-1 : Int32) < 0 by decide) (Int32.not_lt.mp (nI_pos (by have := hC5 0; omega))))]
        exact ⟨_, rfl, rfl, rfl, rfl, F⟩
      | succ j =>
        dsimp only at e1 e2
        subst e1 e2
        have lt := paB_lt (to := to) (np := np) hC5 (k := j)
        have c5 := hC5 (j + 1)
        have q1 := pc_le (j + 1)
        have q2 := pc_le (paB to np C j).1
        have u : paB to np C (j + 1) = paS to np C (j + 1) (paB to np C j) := rfl
        rw [paS_yes d] at u
        rw [bo_ok (by omega), sb, bo_ok (by omega), sb]
        by_cases a : (paB to np C j).2 < C (j + 1)
        · rw [if_pos a] at u
          rw [if_pos (nI_lt a (by omega))]
          exact ⟨_, rfl, by rw [u], by rw [u], rfl, F⟩
        · rw [if_neg a] at u
          rw [if_neg (nI_nlt (by omega) (by omega))]
          by_cases b : C (j + 1) = (paB to np C j).2
          · rw [if_neg (fun z => z (congrArg nI b))]
            by_cases c : pc (paB to np C j).1 ≤ pc (j + 1)
            · rw [if_neg (by omega)] at u
              rw [if_pos (nI_le c (by omega))]
              exact ⟨_, rfl, by rw [u], by rw [u], rfl, F⟩
            · rw [if_pos ⟨b, by omega⟩] at u
              rw [if_neg (nI_ge (by omega) (by omega))]
              exact ⟨_, rfl, by rw [u], by rw [u], rfl, F⟩
          · rw [if_neg (fun z => b z.1)] at u
            have b' : ¬ nI (C (j + 1)) = nI (paB to np C j).2 := fun z => b ((nI_eq (by omega) (by omega)).mp z)
            rw [if_pos b']
            exact ⟨_, rfl, by rw [u], by rw [u], rfl, F⟩
    · dsimp only
      rw [b32_f d, if_pos rfl]
      cases j with
      | zero => exact absurd rIn_0 d
      | succ j =>
        dsimp only at e1 e2
        subst e1 e2
        have lt := paB_lt (to := to) (np := np) hC5 (k := j)
        have u : paB to np C (j + 1) = paS to np C (j + 1) (paB to np C j) := rfl
        rw [paS_no d] at u
        have lp : (-1 : Int32) < nI (paB to np C j).2 := Int32.lt_of_lt_of_le (show (-1 : Int32) < 0 by decide) (Int32.not_lt.mp (nI_pos (by omega)))
        rw [if_neg (Int32.lt_asymm lp), if_pos (Int32.ne_of_lt lp)]
        exact ⟨_, rfl, by rw [u], by rw [u], rfl, F3⟩
  · rintro ⟨x1, x2, x3, τ⟩ ⟨e1, e2, e3, ft⟩
    dsimp only at e1 e2 e3 ft
    subst e3
    have St := ST_fr hS (fun i a b => ft i (by omega) (by omega) (by omega))
    show ∃ s', f_X7_paints_b2 x1 x2 (nI (2 ^ np)) τ = _ ∧ _
    unfold f_X7_paints_b2
    rw [show ga (τ 187) (ln 187) (0 : Int32) = some (nI np) by rw [L_0, l187, ga_n (by omega) (by omega), St.2.1], sb, shl_n (by omega), if_pos (nI_le (Nat.le_refl _) (by omega))]
    obtain ⟨w, hw⟩ : ∃ w, 2 ^ np = w + 1 := ⟨2 ^ np - 1, by omega⟩
    rw [hw] at e1 e2 ⊢
    exact ⟨_, rfl, e1, e2, ft⟩
theorem eq_paints {N : Nat} (h : Rel N σ) (hN : N < 512) (a1 : Int32) : ∃ r σ1 σ2, f_X6_paints σ a1 = some (r, σ1) ∧ f_X7_paints σ1 a1 = some (r, σ2) ∧ Rel (N + 1) σ2 := by
  have h0 := h
  obtain ⟨hK, hT, n, np, nw, ki, go, A, m, S, k, K, tl, tf, sl, sg, hR⟩ := h
  obtain ⟨⟨n1, n2, n3, n4⟩, v1, v2, v3, ⟨c1, c2, c3⟩, ⟨m1, m2, m3, m4, m5, m6, m7⟩, ⟨t1, t2, t3, t4⟩, u1, u2, u3, u4⟩ := hR
  have hV := v1.1
  have hho := v1.2.2.1
  have same : Rel (N + 1) σ := Rel_fr h0 (by omega) hN hK (fun _ _ _ _ _ => rfl)
  rcases in_lit (σ := σ) (a := a1) 2 (by omega) (L := 1) (by decide) with ⟨w, hw, rfl, e1⟩ | ⟨o, e1⟩
  · obtain ⟨σ0, g0, K0, F0⟩ := cp_ok hK hV (by omega) c1 (s := 0) (by omega) rIn_0
    have Y0 := YC_fr c1 (fun i a b => F0 i (by omega))
    obtain ⟨⟨r1, r2, σ1⟩, g1, g2, g3, K1, F1⟩ := c_paints K0 hV n2 (by omega) Y0 rfl
    dsimp only at g2 g3 K1 F1
    have F1 : ∀ i, (i < 20 ∨ 33 < i) → σ1 i = σ i := fun i hi => (F1 i hi).trans (F0 i hi)
    obtain ⟨⟨q1, q2, σ2⟩, g4, g5, g6, F2⟩ := m_paints hV n2 (by omega) (ST_fr m1 (fun i a b => F1 i (by omega))) (FL_fr m2 (F1 _ (by omega))) (MC_fr (MY_c m3) (F1 _ (by omega))) rfl
    dsimp only at g5 g6 F2
    have e2 : f_X7_in σ1 (nI w) 0 1 = some 1 := e1
    have R : Rel (N + 1) σ2 := Rel_fr h0 (by omega) hN (KC_m K1 (fun i hi => F2 i (by omega) (by omega) (by omega))) (fun i a b c d => (F2 i b c d).trans (F1 i a))
    have a1 : f_X6_paints σ (nI w) = f_X6_paints_k1 (nI w) r1 r2 σ1 := by
      unfold f_X6_paints f_X5_posts
      rw [if_neg (nI_pos (by omega)), L_1, if_pos (nI_le (by omega) (by omega)), L_0, g0, sb]
      dsimp only
      rw [Y0.1.1, sb, ← L_0, ← L_1, g1, sb]
    have a2 : f_X7_paints σ1 (nI w) = f_X7_paints_k2 (nI w) q1 q2 σ2 := by
      unfold f_X7_paints
      rw [e2, sb, if_pos one0, g4, sb]
    subst g2 g3 g5 g6
    unfold f_X6_paints_k1 at a1
    unfold f_X7_paints_k2 at a2
    by_cases c : nI w = 0
    · rw [if_neg (fun z => z c)] at a1 a2
      exact ⟨_, σ1, σ2, a1, a2, R⟩
    · rw [if_pos c] at a1 a2
      exact ⟨_, σ1, σ2, a1, a2, R⟩
  · refine ⟨-1, σ, σ, ?_, ?_, same⟩
    · unfold f_X6_paints; exact what_out o
    · unfold f_X7_paints; rw [e1]; rfl
end PA
