/-! Part 31: what acts do, on both sides. -/
def VA (n np nw : Nat) (ki go : Nat → Nat) (A : Sn) : Prop := VY n (Sn.mi A) np nw (Sn.ho A) (Sn.ye A) 0 ki (Sn.to A) (Sn.ag A) (Sn.ar A) (Sn.am A) (Sn.wa A) go ∧ ∀ p, Sn.to A p ≠ none → Sn.ag A p ≤ 59
def paA (n p x : Nat) (A : Sn) : Sn := (Sn.mi A, Sn.ho A, Sn.ye A, Sn.to A, Sn.ag A, up1 (Sn.ar A) p (pr (Sn.mi A) n x), up1 (Sn.am A) p (pm (Sn.mi A) n x), Sn.wa A)
def mvA (p x : Nat) (A : Sn) : Sn := (Sn.mi A, Sn.ho A, Sn.ye A, upN (Sn.to A) p (some x), Sn.ag A, Sn.ar A, Sn.am A, Sn.wa A)
def rtA (p : Nat) (A : Sn) : Sn := (Sn.mi A, Sn.ho A, Sn.ye A, upN (Sn.to A) p none, Sn.ag A, up1 (Sn.ar A) p (fun _ => none), up1 (Sn.am A) p (fun _ => none), Sn.wa A)
def yrA (np : Nat) (A : Sn) : Sn := (Sn.mi A, Sn.ho A, Sn.ye A + 1, yTo (Sn.to A) (Sn.ag A) np, yAg (Sn.to A) (Sn.ag A) np, yAr (Sn.to A) (Sn.ag A) (Sn.ar A) np, yAr (Sn.to A) (Sn.ag A) (Sn.am A) np, Sn.wa A)
def lyA (a b l : Nat) (A : Sn) : Sn := (sM (Sn.mi A) a b l, Sn.ho A, Sn.ye A, Sn.to A, Sn.ag A, Sn.ar A, Sn.am A, Sn.wa A)
def hrA (n np : Nat) (ki go : Nat → Nat) (k : Nat) (A : Sn) : Sn := (Sn.mi A, Sn.ho A + k, Sn.ye A, Sn.to A, Sn.ag A, Sn.ar A, Sn.am A, hsK (Sn.mi A) n np 0 ki (Sn.to A) (Sn.ag A) (Sn.ar A) go (Sn.ho A) (Sn.wa A) k)
section AC
variable {σ : Sg} {n np nw : Nat} {ki go : Nat → Nat} {A : Sn} {y c : Nat}
theorem VA_pa (h : VA n np nw ki go A) {p x : Nat} (e : Sn.to A p = some x) : VA n np nw ki go (paA n p x A) := ⟨VY_p h.1 e, h.2⟩
theorem VA_hr (h : VA n np nw ki go A) {k : Nat} (e : Sn.ho A + k ≤ 3000) : VA n np nw ki go (hrA n np ki go k A) := ⟨hsK_lt h.1 k e, h.2⟩
theorem VA_ly (h : VA n np nw ki go A) {a b l : Nat} (ha : a < n) (hb : b < n) (hl : l ≤ 9) : VA n np nw ki go (lyA a b l A) := ⟨VY_m h.1 (VM_s h.1.1 ha hb hl), h.2⟩
theorem VA_mv (h : VA n np nw ki go A) {p x : Nat} (hx : x < n) (hp : Sn.to A p ≠ none) : VA n np nw ki go (mvA p x A) := by
  obtain ⟨⟨v1, v2, v3, v4, v5, v6, v7, v8, v9, v10⟩, hA⟩ := h
  refine ⟨⟨v1, v2, v3, ?_, v5, v6, v7, v8, v9, ?_⟩, ?_⟩
  · intro q u e
    by_cases c : q = p
    · subst c
      have e : some x = some u := (upN_at).symm.trans e
      cases e; exact hx
    · exact v4 q u ((upN_ne c).symm.trans e)
  · intro q t e
    by_cases c : q = p
    · subst c
      have e : some x = none := (upN_at).symm.trans e
      cases e
    · exact v10 q t ((upN_ne c).symm.trans e)
  · intro q e
    by_cases c : q = p
    · subst c; exact hA q hp
    · exact hA q (fun z => e ((upN_ne c).trans z))
theorem VA_rt (h : VA n np nw ki go A) {p : Nat} : VA n np nw ki go (rtA p A) := by
  obtain ⟨⟨v1, v2, v3, v4, v5, v6, v7, v8, v9, v10⟩, hA⟩ := h
  refine ⟨⟨v1, v2, v3, ?_, v5, ?_, ?_, v8, v9, ?_⟩, ?_⟩
  · intro q u e
    by_cases c : q = p
    · subst c
      have e : none = some u := (upN_at).symm.trans e
      cases e
    · exact v4 q u ((upN_ne c).symm.trans e)
  · intro q t u e
    have e : (if q = p then (fun _ => none) else Sn.ar A q) t = some u := e
    by_cases c : q = p
    · rw [if_pos c] at e; cases e
    · rw [if_neg c] at e; exact v6 q t u e
  · intro q t u e
    have e : (if q = p then (fun _ => none) else Sn.am A q) t = some u := e
    by_cases c : q = p
    · rw [if_pos c] at e; cases e
    · rw [if_neg c] at e; exact v7 q t u e
  · intro q t e
    show (if q = p then (fun _ => none) else Sn.ar A q) t = none ∧ (if q = p then (fun _ => none) else Sn.am A q) t = none
    by_cases c : q = p
    · rw [if_pos c, if_pos c]; exact ⟨rfl, rfl⟩
    · rw [if_neg c, if_neg c]; exact v10 q t ((upN_ne c).symm.trans e)
  · intro q e
    by_cases c : q = p
    · subst c; exact absurd (upN_at) e
    · exact hA q (fun z => e ((upN_ne c).trans z))
theorem VA_yr (h : VA n np nw ki go A) (hy : Sn.ye A + 1 ≤ 100000) : VA n np nw ki go (yrA np A) := by
  obtain ⟨a, b⟩ := VY_y h.1 h.2 hy (N := np)
  refine ⟨a, fun p e => ?_⟩
  by_cases c : p < np
  · exact b p c e
  · have e1 : yTo (Sn.to A) (Sn.ag A) np p = Sn.to A p := if_neg (fun z => c z.1)
    have e2 : yAg (Sn.to A) (Sn.ag A) np p = Sn.ag A p := if_neg (fun z => c z.1)
    show yAg (Sn.to A) (Sn.ag A) np p ≤ 59
    rw [e2]
    exact h.2 p (fun z => e (e1.trans z))
/-- the class' acts -/
theorem cy_pa (hK : KC σ) (hg : gY y) (hV : VA n np nw ki go A) (h : CY σ y n np nw ki go A) {p x : Nat} (hp : p < np) (e : Sn.to A p = some x) : ∃ σ', f_X5_paintPost σ y (nI p) = some (nI (cn (fun t => (pr (Sn.mi A) n x t).isSome) 8), σ') ∧ KC σ' ∧ (∀ i, (i < y ∨ y + 13 < i) → σ' i = σ i) ∧ CY σ' y n np nw ki go (paA n p x A) := pp_ok hK hg hV.1 h hp e
theorem cy_mv (hK : KC σ) (hg : gY y) (hV : VA n np nw ki go A) (h : CY σ y n np nw ki go A) {p x : Nat} (hp : p < np) : ∃ σ', f_X5_movePost σ y (nI p) (nI x) = some σ' ∧ KC σ' ∧ (∀ i, (i < y ∨ y + 13 < i) → σ' i = σ i) ∧ CY σ' y n np nw ki go (mvA p x A) := mp_ok hK hg h hV.1.np8 hp
theorem cy_rt (hK : KC σ) (hg : gY y) (hV : VA n np nw ki go A) (h : CY σ y n np nw ki go A) {p : Nat} (hp : p < np) : ∃ σ', f_X5_retirePost σ y (nI p) = some σ' ∧ KC σ' ∧ (∀ i, (i < y ∨ y + 13 < i) → σ' i = σ i) ∧ CY σ' y n np nw ki go (rtA p A) := rp_ok hK hg h hV.1.np8 hp
theorem cy_yr (hK : KC σ) (hg : gY y) (hV : VA n np nw ki go A) (h : CY σ y n np nw ki go A) : ∃ σ', f_X5_passYear σ y = some (nI (cn (yP (Sn.to A) (Sn.ag A)) np), σ') ∧ KC σ' ∧ (∀ i, (i < y ∨ y + 13 < i) → σ' i = σ i) ∧ CY σ' y n np nw ki go (yrA np A) := py_ok hK hg hV.1 h
theorem cy_ly (hK : KC σ) (hg : gY y) (hV : VA n np nw ki go A) (h : CY σ y n np nw ki go A) {a b l : Nat} (ha : a < n) (hb : b < n) (hl : l ≤ 9) : ∃ σ', f_X3_change σ (y + 1) (nI a) (nI b) (nI l) = some σ' ∧ KC σ' ∧ (∀ i, (i < y ∨ y + 13 < i) → σ' i = σ i) ∧ CY σ' y n np nw ki go (lyA a b l A) := yc_ok hK hg hV.1.1 h ha hb hl
theorem cy_hr (hK : KC σ) (hg : gY y) (hV : VA n np nw ki go A) (h : CY σ y n np nw ki go A) {k : Nat} (hk : k ≤ 60) (hh : Sn.ho A + k ≤ 3000) : ∃ σ', f_X5_passHours σ y (nI k) = some σ' ∧ KC σ' ∧ (∀ i, (i < y ∨ y + 13 < i) → σ' i = σ i) ∧ CY σ' y n np nw ki go (hrA n np ki go k A) := ph_ok hK hg hV.1 h hk hh
/-- the model's acts -/
theorem my_pa (hc : rC c) (hV : VA n np nw ki go A) (hnp : np ≤ 6) (hS : ST σ n np nw ki go) (h : MY (σ c) np nw A) {p x : Nat} (hp : p < np) (e : Sn.to A p = some x) : ∃ σ1 σ2, f_X7_measure σ c = some σ1 ∧ f_X7_paintOn σ1 c (nI p) = some σ2 ∧ (∀ i, i ≠ c → i ≠ 199 → σ2 i = σ i) ∧ MY (σ2 c) np nw (paA n p x A) := by
  have l := hc.b
  have h := MY_c h
  have hc9 : c ≠ 199 := by omega
  obtain ⟨σ1, e1, f1, P1⟩ := me_ok hc hV.1.1.2.2.1 h.1
  obtain ⟨σ2, e2, f2, M2⟩ := po_ok hc hV.1 hnp (ST_fr hS (fun i a b => f1 i (by omega))) P1 (MC_fr h (f1 _ hc9)) hp e
  exact ⟨σ1, σ2, e1, e2, fun i a b => (f2 i a).trans (f1 i b), c_MY M2⟩
theorem my_mv (hc : rC c) (hV : VA n np nw ki go A) (hnp : np ≤ 6) (h : MY (σ c) np nw A) {p x : Nat} (hp : p < np) (e : Sn.to A p ≠ none) : MY (sf σ c (71 + p) (nI x) c) np nw (mvA p x A) := by
  have h5 := hV.1.nw5
  obtain ⟨m1, m2, m3, m4, m5, m6, m7⟩ := MY_c h
  refine c_MY (σ := sf σ c (71 + p) (nI x)) (c := c) ⟨fun a b ha hb => ?_, fun q hq => ?_, fun q hq => ?_, fun q hq ht t h8 => ?_, fun v hv => ?_, ?_, ?_⟩
  · rw [sf_row, upd_ne (by omega)]; exact m1 a b ha hb
  · show _ = oI (upN (Sn.to A) p (some x) q)
    by_cases c : q = p
    · subst c; rw [sf_row, upd_self, upN_at]; rfl
    · rw [sf_row, upd_ne (by omega), upN_ne c]; exact m2 q hq
  · rw [sf_row, upd_ne (by omega)]; exact m3 q hq
  · rw [sf_row, upd_ne (by omega), upd_ne (by omega)]
    refine m4 q hq ?_ t h8
    by_cases c : q = p
    · subst c; exact e
    · intro z; exact ht ((upN_ne c).trans z)
  · rw [sf_row, upd_ne (by omega)]; exact m5 v hv
  · rw [sf_row, upd_ne (by omega)]; exact m6
  · rw [sf_row, upd_ne (by omega)]; exact m7
theorem my_rt (hc : rC c) (hV : VA n np nw ki go A) (hnp : np ≤ 6) (h : MY (σ c) np nw A) {p : Nat} (hp : p < np) : MY (sf σ c (71 + p) (-4) c) np nw (rtA p A) := by
  have h5 := hV.1.nw5
  obtain ⟨m1, m2, m3, m4, m5, m6, m7⟩ := MY_c h
  refine c_MY (σ := sf σ c (71 + p) (-4)) (c := c) ⟨fun a b ha hb => ?_, fun q hq => ?_, fun q hq => ?_, fun q hq ht t h8 => ?_, fun v hv => ?_, ?_, ?_⟩
  · rw [sf_row, upd_ne (by omega)]; exact m1 a b ha hb
  · show _ = oI (upN (Sn.to A) p none q)
    by_cases c : q = p
    · subst c; rw [sf_row, upd_self, upN_at]; rfl
    · rw [sf_row, upd_ne (by omega), upN_ne c]; exact m2 q hq
  · rw [sf_row, upd_ne (by omega)]; exact m3 q hq
  · have c : q ≠ p := fun z => by subst z; exact ht (upN_at)
    rw [sf_row, upd_ne (by omega), upd_ne (by omega)]
    show σ _ _ = oI ((if q = p then (fun _ => none) else Sn.ar A q) t) ∧ σ _ _ = oI ((if q = p then (fun _ => none) else Sn.am A q) t)
    rw [if_neg c, if_neg c]
    exact m4 q hq (fun z => ht ((upN_ne c).trans z)) t h8
  · rw [sf_row, upd_ne (by omega)]; exact m5 v hv
  · rw [sf_row, upd_ne (by omega)]; exact m6
  · rw [sf_row, upd_ne (by omega)]; exact m7
theorem my_yr (hc : rC c) (hV : VA n np nw ki go A) (hnp : np ≤ 6) (hS : ST σ n np nw ki go) (h : MY (σ c) np nw A) : ∃ σ', f_X7_passYear σ c = some (nI (cn (yP (Sn.to A) (Sn.ag A)) np), σ') ∧ (∀ i, i ≠ c → σ' i = σ i) ∧ MY (σ' c) np nw (yrA np A) := by
  obtain ⟨σ', a, b, d⟩ := my_ok hc hV.1 hV.2 hnp hS (MY_c h)
  exact ⟨σ', a, b, c_MY d⟩
theorem my_ly (hc : rC c) (hV : VA n np nw ki go A) (hnp : np ≤ 6) (h : MY (σ c) np nw A) {a b l : Nat} (ha : a < 8) (hb : b < 8) : ∃ σ', f_X7_layOn σ c (nI a) (nI b) (nI l) = some σ' ∧ (∀ i, i ≠ c → σ' i = σ i) ∧ MY (σ' c) np nw (lyA a b l A) := by
  obtain ⟨σ', e, f, d⟩ := ly_ok (l := l) hc (MY_c h) hnp hV.1.nw5 ha hb
  exact ⟨σ', e, f, c_MY d⟩
theorem my_hr (hc : rC c) (hV : VA n np nw ki go A) (hnp : np ≤ 6) (hS : ST σ n np nw ki go) (hF : FL σ 0 0 0) (h : MY (σ c) np nw A) : ∃ σ', f_X7_passHour σ c = some σ' ∧ (∀ i, i ≠ c → i ≠ 200 → σ' i = σ i) ∧ MY (σ' c) np nw (hrA n np ki go 1 A) := by
  obtain ⟨σ', e, f, d⟩ := mh_ok (ex := 0) (al := 0) hc hV.1 hnp hS hF (by omega) (by omega) (fun z => absurd rfl z) (MY_c h)
  rw [hsX_0] at d
  exact ⟨σ', e, f, c_MY d⟩
theorem hrA_s {k : Nat} : hrA n np ki go 1 (hrA n np ki go k A) = hrA n np ki go (k + 1) A := rfl
theorem hrA_0 : hrA n np ki go 0 A = A := rfl
end AC
