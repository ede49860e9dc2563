/-! Part 40: items, read by the model. -/
def wr (i k : Nat) : Prop := (i = 184 ∧ (k = 11 ∨ k = 12 ∨ k = 13)) ∨ ((i = 186 ∨ i = 187 ∨ i = 188) ∧ k = 1) ∨ (i = 189 ∧ 6 ≤ k) ∨ (i = 190 ∧ 5 ≤ k) ∨ (191 ≤ i ∧ i ≤ 194)
/-- what reading changes in the model -/
def MF (σ σ' : Sg) : Prop := ∀ i k, ¬ wr i k → σ' i k = σ i k
theorem MF.rf {σ : Sg} : MF σ σ := fun _ _ _ => rfl
theorem MF.tr {σ σ1 σ2 : Sg} (h : MF σ σ1) (g : MF σ1 σ2) : MF σ σ2 := fun i k n => (g i k n).trans (h i k n)
theorem MF.sf {σ τ : Sg} (h : MF σ τ) {i k : Nat} {v : Int32} (w : wr i k) : MF σ (sf τ i k v) := fun j x n => by
  by_cases c : j = i
  · subst c
    rw [sf_row]
    by_cases e : x = k
    · subst e; exact absurd w n
    · rw [upd_ne e]; exact h j x n
  · rw [sf_ne c]; exact h j x n
theorem MF.st {σ τ : Sg} (h : MF σ τ) {p : Nat} {b : Bool} : MF σ (MSt τ p b) := (h.sf (Or.inl ⟨rfl, Or.inl rfl⟩)).sf (Or.inl ⟨rfl, Or.inr (Or.inl rfl)⟩)
theorem MF.row {σ τ : Sg} (h : MF σ τ) {i : Nat} (hi : i < 184 ∨ i = 185 ∨ 194 < i) : τ i = σ i := funext fun k => h i k (fun w => by unfold wr at w; omega)
theorem MF.at_ {σ τ : Sg} (h : MF σ τ) {k : Nat} (h1 : k ≠ 11) (h2 : k ≠ 12) (h3 : k ≠ 13) : τ 184 k = σ 184 k := h 184 k (fun w => by unfold wr at w; omega)
/-- a draft in the model -/
def DM (σ : Sg) (d : Dr) : Prop := (σ 186 1 = nI (Dr.n d) ∧ σ 187 1 = nI (Dr.np d) ∧ σ 188 1 = nI (Dr.nw d)) ∧ (∀ a c, a < 8 → c < 8 → σ 191 (8 * a + c) = nI (Dr.mi d a c)) ∧ (∀ q, q < Dr.np d → σ 189 (6 + q) = nI (Dr.ki d q) ∧ σ 192 q = nI (Dr.to d q) ∧ σ 193 q = nI (Dr.ag d q)) ∧ ∀ v, v < Dr.nw d → σ 194 v = nI (Dr.wa d v) ∧ σ 190 (5 + v) = nI (Dr.go d v)
theorem DM_fr {σ σ' : Sg} {d : Dr} (h : DM σ d) (hf : ∀ i, 186 ≤ i → i ≤ 194 → σ' i = σ i) : DM σ' d := by
  unfold DM
  rw [hf 186 (by omega) (by omega), hf 187 (by omega) (by omega), hf 188 (by omega) (by omega), hf 189 (by omega) (by omega), hf 190 (by omega) (by omega), hf 191 (by omega) (by omega), hf 192 (by omega) (by omega), hf 193 (by omega) (by omega), hf 194 (by omega) (by omega)]
  exact h
theorem g186 {f : Nat → Int32} : ga f (ln 186) 1 = some (f 1) := by rw [l186]; exact ga_n (k := 1) (by omega) (by omega)
theorem g187 {f : Nat → Int32} : ga f (ln 187) 1 = some (f 1) := by rw [l187]; exact ga_n (k := 1) (by omega) (by omega)
theorem g188 {f : Nat → Int32} : ga f (ln 188) 1 = some (f 1) := by rw [l188]; exact ga_n (k := 1) (by omega) (by omega)
theorem s186 {σ : Sg} {v : Int32} : sa σ 186 (ln 186) 1 v = some (sf σ 186 1 v) := by rw [l186]; exact sa_n (k := 1) (by omega) (by omega)
theorem s187 {σ : Sg} {v : Int32} : sa σ 187 (ln 187) 1 v = some (sf σ 187 1 v) := by rw [l187]; exact sa_n (k := 1) (by omega) (by omega)
theorem s188 {σ : Sg} {v : Int32} : sa σ 188 (ln 188) 1 v = some (sf σ 188 1 v) := by rw [l188]; exact sa_n (k := 1) (by omega) (by omega)
theorem nI_m1 {n : Nat} (h : 1 ≤ n) : nI n - 1 = nI (n - 1) := by
  obtain ⟨k, rfl⟩ : ∃ k, n = k + 1 := ⟨n - 1, by omega⟩
  rw [nI_pred]; rfl
section MI
variable {σ σ' : Sg} {len : Nat} {tx : Nat → Nat} {b : Bool} {p n np nw : Nat} {d : Dr}
theorem MSt_13 {v : Int32} : sf (MSt σ p b) 184 13 v = MSt (sf σ 184 13 v) p b := by
  unfold MSt
  rw [sf_cm (k := 12) (k' := 13) (by omega), sf_cm (k := 11) (k' := 13) (by omega)]
theorem TM_13 {v : Int32} (h : TM σ len tx) : TM (sf σ 184 13 v) len tx := ⟨by rw [sf_row, upd_ne (by omega)]; exact h.1, h.2.1, fun j hj => by rw [sf_ne (by omega)]; exact h.2.2 j hj⟩
theorem tm_n0 (h : TM σ len tx) (h2 : p + 5 < 2 ^ 20) {hi : Nat} (hh : hi < 2 ^ 20) : f_X7_number (MSt σ p b) 0 (nI hi) = some (nI ((tr_vn len tx 0 hi p).getD 0), MSt σ (tr_ne len tx p) (b || (tr_vn len tx 0 hi p).isNone)) := tm_num (lo := 0) h h2 (by omega) hh
theorem tm_n1 (h : TM σ len tx) (h2 : p + 5 < 2 ^ 20) : f_X7_number (MSt σ p b) 1 9 = some (nI ((tr_vn len tx 1 9 p).getD 0), MSt σ (tr_ne len tx p) (b || (tr_vn len tx 1 9 p).isNone)) := tm_num (lo := 1) (hi := 9) h h2 (by omega) (by omega)
theorem tm_n3 (h : TM σ len tx) (h2 : p + 5 < 2 ^ 20) : f_X7_number (MSt σ p b) 0 3 = some (nI ((tr_vn len tx 0 3 p).getD 0), MSt σ (tr_ne len tx p) (b || (tr_vn len tx 0 3 p).isNone)) := tm_num (lo := 0) (hi := 3) h h2 (by omega) (by omega)
theorem tm_n59 (h : TM σ len tx) (h2 : p + 5 < 2 ^ 20) : f_X7_number (MSt σ p b) 0 59 = some (nI ((tr_vn len tx 0 59 p).getD 0), MSt σ (tr_ne len tx p) (b || (tr_vn len tx 0 59 p).isNone)) := tm_num (lo := 0) (hi := 59) h h2 (by omega) (by omega)
theorem tm_n8 (h : TM σ len tx) (h2 : p + 5 < 2 ^ 20) : f_X7_number (MSt σ p b) 2 8 = some (nI ((tr_vn len tx 2 8 p).getD 0), MSt σ (tr_ne len tx p) (b || (tr_vn len tx 2 8 p).isNone)) := tm_num (lo := 2) (hi := 8) h h2 (by omega) (by omega)
theorem tm_d44 (h : TM σ len tx) (h2 : p < 2 ^ 20) : f_X7_due (MSt σ p b) 44 = some (MSt σ (p + 1) (b || !decide (tr_ch len tx p = 44))) := tm_due (c := 44) h h2 (by omega) (by omega)
theorem tm_d59 (h : TM σ len tx) (h2 : p < 2 ^ 20) : f_X7_due (MSt σ p b) 59 = some (MSt σ (p + 1) (b || !decide (tr_ch len tx p = 59))) := tm_due (c := 59) h h2 (by omega) (by omega)
/-- where numbers stand, parted -/
def tq1 (len : Nat) (tx : Nat → Nat) (p : Nat) : Nat := tr_ne len tx p + 1
def tq2 (len : Nat) (tx : Nat → Nat) (p : Nat) : Nat := tr_ne len tx (tq1 len tx p) + 1
theorem tq1L : p + 1 ≤ tq1 len tx p ∧ tq1 len tx p ≤ p + 3 := by
  have := @tr_neL len tx p
  unfold tq1; omega
theorem tq2L : p + 2 ≤ tq2 len tx p ∧ tq2 len tx p ≤ p + 6 := by
  have := @tr_neL len tx (tq1 len tx p)
  have := @tq1L len tx p
  unfold tq2; omega
def tf3 (len : Nat) (tx : Nat → Nat) (l0 h0 l1 h1 l2 h2 p : Nat) : Bool := ((((false || (tr_vn len tx l0 h0 p).isNone) || !decide (tr_ch len tx (tr_ne len tx p) = 44)) || (tr_vn len tx l1 h1 (tq1 len tx p)).isNone) || !decide (tr_ch len tx (tr_ne len tx (tq1 len tx p)) = 44)) || (tr_vn len tx l2 h2 (tq2 len tx p)).isNone
def tf2 (len : Nat) (tx : Nat → Nat) (l0 h0 l1 h1 p : Nat) : Bool := ((false || (tr_vn len tx l0 h0 p).isNone) || !decide (tr_ch len tx (tr_ne len tx p) = 44)) || (tr_vn len tx l1 h1 (tq1 len tx p)).isNone
theorem nS {o : Option Nat} (h : o.isNone = false) : ∃ v, o = some v := by
  cases o with
  | none => cases h
  | some v => exact ⟨v, rfl⟩
theorem nD {P : Prop} [Decidable P] (h : (!decide P) = false) : P := by
  by_cases c : P
  · exact c
  · rw [decide_eq_false c] at h; cases h
theorem tf3F {l0 h0 l1 h1 l2 h2 : Nat} (h : tf3 len tx l0 h0 l1 h1 l2 h2 p = false) : ∃ v0 v1 v2, tr_vn len tx l0 h0 p = some v0 ∧ tr_ch len tx (tr_ne len tx p) = 44 ∧ tr_vn len tx l1 h1 (tq1 len tx p) = some v1 ∧ tr_ch len tx (tr_ne len tx (tq1 len tx p)) = 44 ∧ tr_vn len tx l2 h2 (tq2 len tx p) = some v2 := by
  unfold tf3 at h
  rw [Bool.or_eq_false_iff, Bool.or_eq_false_iff, Bool.or_eq_false_iff, Bool.or_eq_false_iff, Bool.or_eq_false_iff] at h
  obtain ⟨⟨⟨⟨⟨-, a0⟩, a1⟩, a2⟩, a3⟩, a4⟩ := h
  obtain ⟨v0, e0⟩ := nS a0
  obtain ⟨v1, e1⟩ := nS a2
  obtain ⟨v2, e2⟩ := nS a4
  exact ⟨v0, v1, v2, e0, nD a1, e1, nD a3, e2⟩
theorem tf3T {l0 h0 l1 h1 l2 h2 v0 v1 v2 : Nat} (e0 : tr_vn len tx l0 h0 p = some v0) (c0 : tr_ch len tx (tr_ne len tx p) = 44) (e1 : tr_vn len tx l1 h1 (tq1 len tx p) = some v1) (c1 : tr_ch len tx (tr_ne len tx (tq1 len tx p)) = 44) (e2 : tr_vn len tx l2 h2 (tq2 len tx p) = some v2) : tf3 len tx l0 h0 l1 h1 l2 h2 p = false := by
  unfold tf3
  rw [e0, e1, e2, decide_eq_true c0, decide_eq_true c1]
  rfl
theorem tf2F {l0 h0 l1 h1 : Nat} (h : tf2 len tx l0 h0 l1 h1 p = false) : ∃ v0 v1, tr_vn len tx l0 h0 p = some v0 ∧ tr_ch len tx (tr_ne len tx p) = 44 ∧ tr_vn len tx l1 h1 (tq1 len tx p) = some v1 := by
  unfold tf2 at h
  rw [Bool.or_eq_false_iff, Bool.or_eq_false_iff, Bool.or_eq_false_iff] at h
  obtain ⟨⟨⟨-, a0⟩, a1⟩, a2⟩ := h
  obtain ⟨v0, e0⟩ := nS a0
  obtain ⟨v1, e1⟩ := nS a2
  exact ⟨v0, v1, e0, nD a1, e1⟩
theorem tf2T {l0 h0 l1 h1 v0 v1 : Nat} (e0 : tr_vn len tx l0 h0 p = some v0) (c0 : tr_ch len tx (tr_ne len tx p) = 44) (e1 : tr_vn len tx l1 h1 (tq1 len tx p) = some v1) : tf2 len tx l0 h0 l1 h1 p = false := by
  unfold tf2
  rw [e0, e1, decide_eq_true c0]
  rfl
theorem rn3 {f : Nat → Nat} : (∃ v0 v1 v2, (tr_nv len tx p = some v0 ∧ tr_ch len tx (tr_ne len tx p) = 44 ∧ tr_nv len tx (tq1 len tx p) = some v1 ∧ tr_ch len tx (tr_ne len tx (tq1 len tx p)) = 44 ∧ tr_nv len tx (tq2 len tx p) = some v2 ∧ tr_ch len tx (tr_ne len tx (tq2 len tx p)) = 59) ∧ tr_rn len tx 3 0 p f = some (upN (upN (upN f 0 v0) 1 v1) 2 v2, tr_ne len tx (tq2 len tx p) + 1)) ∨ (tr_rn len tx 3 0 p f = none ∧ ¬ ∃ v0 v1 v2, tr_nv len tx p = some v0 ∧ tr_ch len tx (tr_ne len tx p) = 44 ∧ tr_nv len tx (tq1 len tx p) = some v1 ∧ tr_ch len tx (tr_ne len tx (tq1 len tx p)) = 44 ∧ tr_nv len tx (tq2 len tx p) = some v2 ∧ tr_ch len tx (tr_ne len tx (tq2 len tx p)) = 59) := by
  rcases @tr_nk len tx p 1 0 f with ⟨v0, a0, a1, e⟩ | ⟨e, z⟩
  · rcases @tr_nk len tx (tq1 len tx p) 0 1 (upN f 0 v0) with ⟨v1, a2, a3, e2⟩ | ⟨e2, z⟩
    · rcases @tr_nl len tx (tq2 len tx p) 2 (upN (upN f 0 v0) 1 v1) with ⟨v2, a4, a5, e3⟩ | ⟨e3, z⟩
      · exact Or.inl ⟨v0, v1, v2, ⟨a0, a1, a2, a3, a4, a5⟩, (e.trans e2).trans e3⟩
      · refine Or.inr ⟨(e.trans e2).trans e3, fun ⟨w0, w1, w2, b0, b1, b2, b3, b4, b5⟩ => ?_⟩
        rcases z with z | z
        · rw [z] at b4; cases b4
        · exact z b5
    · refine Or.inr ⟨e.trans e2, fun ⟨w0, w1, w2, b0, b1, b2, b3, b4, b5⟩ => ?_⟩
      rcases z with z | z
      · rw [z] at b2; cases b2
      · exact z b3
  · refine Or.inr ⟨e, fun ⟨w0, w1, w2, b0, b1, b2, b3, b4, b5⟩ => ?_⟩
    rcases z with z | z
    · rw [z] at b0; cases b0
    · exact z b1
theorem rn2 {f : Nat → Nat} : (∃ v0 v1, (tr_nv len tx p = some v0 ∧ tr_ch len tx (tr_ne len tx p) = 44 ∧ tr_nv len tx (tq1 len tx p) = some v1 ∧ tr_ch len tx (tr_ne len tx (tq1 len tx p)) = 59) ∧ tr_rn len tx 2 0 p f = some (upN (upN f 0 v0) 1 v1, tr_ne len tx (tq1 len tx p) + 1)) ∨ (tr_rn len tx 2 0 p f = none ∧ ¬ ∃ v0 v1, tr_nv len tx p = some v0 ∧ tr_ch len tx (tr_ne len tx p) = 44 ∧ tr_nv len tx (tq1 len tx p) = some v1 ∧ tr_ch len tx (tr_ne len tx (tq1 len tx p)) = 59) := by
  rcases @tr_nk len tx p 0 0 f with ⟨v0, a0, a1, e⟩ | ⟨e, z⟩
  · rcases @tr_nl len tx (tq1 len tx p) 1 (upN f 0 v0) with ⟨v1, a4, a5, e3⟩ | ⟨e3, z⟩
    · exact Or.inl ⟨v0, v1, ⟨a0, a1, a4, a5⟩, e.trans e3⟩
    · refine Or.inr ⟨e.trans e3, fun ⟨w0, w1, b0, b1, b2, b3⟩ => ?_⟩
      rcases z with z | z
      · rw [z] at b2; cases b2
      · exact z b3
  · refine Or.inr ⟨e, fun ⟨w0, w1, b0, b1, b2, b3⟩ => ?_⟩
    rcases z with z | z
    · rw [z] at b0; cases b0
    · exact z b1
theorem vnL {lo hi : Nat} : (tr_vn len tx lo hi p).getD 0 ≤ 99 := by
  cases e : tr_vn len tx lo hi p with
  | none => exact Nat.zero_le _
  | some v => exact tr_nvL (tr_vnS e).1
theorem tm_rr (h : TM σ len tx) (hn : σ 186 1 = nI n) (n2 : 2 ≤ n) (n8 : n ≤ 8) (hp : p < 400) {F : Bool} (hF : tf3 len tx 0 (n - 1) 0 (n - 1) 1 9 p = F) {u v l : Nat} (hu : (tr_vn len tx 0 (n - 1) p).getD 0 = u) (hv : (tr_vn len tx 0 (n - 1) (tq1 len tx p)).getD 0 = v) (hl : (tr_vn len tx 1 9 (tq2 len tx p)).getD 0 = l) : f_X7_readRoad (MSt σ p false) = some (if F = true ∨ u = v then MSt σ (tr_ne len tx (tq2 len tx p)) true else MSt (sf (sf σ 191 (8 * u + v) (nI l)) 191 (8 * v + u) (nI l)) (tr_ne len tx (tq2 len tx p)) false) := by
  have L1 := @tq1L len tx p
  have L2 := @tq2L len tx p
  have E0 := @tr_neL len tx p
  have E1 := @tr_neL len tx (tq1 len tx p)
  unfold f_X7_readRoad
  rw [MSt_r (by omega), g186, sb, hn, nI_m1 (by omega), tm_n0 h (by omega) (by omega), sb]
  dsimp only
  rw [tm_d44 h (by omega), sb, MSt_r (by omega), g186, sb, hn, nI_m1 (by omega), show tr_ne len tx p + 1 = tq1 len tx p from rfl, tm_n0 h (by omega) (by omega), sb]
  dsimp only
  rw [tm_d44 h (by omega), sb, show tr_ne len tx (tq1 len tx p) + 1 = tq2 len tx p from rfl, tm_n1 h (by omega), sb]
  dsimp only
  rw [hu, hv, hl]
  rw [show (((((false || (tr_vn len tx 0 (n - 1) p).isNone) || !decide (tr_ch len tx (tr_ne len tx p) = 44)) || (tr_vn len tx 0 (n - 1) (tq1 len tx p)).isNone) || !decide (tr_ch len tx (tr_ne len tx (tq1 len tx p)) = 44)) || (tr_vn len tx 1 9 (tq2 len tx p)).isNone) = F from hF]
  cases F with
  | true =>
    rw [if_pos (show ¬ MSt σ (tr_ne len tx (tq2 len tx p)) true 184 12 = 0 by rw [MSt_12]; decide), sb, MSt_b1, if_pos (show ¬ MSt σ (tr_ne len tx (tq2 len tx p)) true 184 12 = 0 by rw [MSt_12]; decide), if_pos (Or.inl rfl)]
  | false =>
    rw [if_neg (show ¬ ¬ MSt σ (tr_ne len tx (tq2 len tx p)) false 184 12 = 0 by rw [MSt_12]; decide)]
    have B0 : u ≤ 99 := by rw [← hu]; exact vnL
    have B1 : v ≤ 99 := by rw [← hv]; exact vnL
    by_cases e : u = v
    · rw [if_neg (fun z => z (by rw [e])), sb, MSt_b1, if_pos (show ¬ MSt σ (tr_ne len tx (tq2 len tx p)) true 184 12 = 0 by rw [MSt_12]; decide), if_pos (Or.inr e)]
    · obtain ⟨v0, v1, v2, e0, -, e1, -, e2⟩ := tf3F hF
      have c0 := (tr_vnS e0).2.2
      have c1 := (tr_vnS e1).2.2
      rw [e0] at hu
      rw [e1] at hv
      have hu : v0 = u := hu
      have hv : v1 = v := hv
      rw [if_pos (fun z => e ((nI_eq (by omega) (by omega)).mp z)), sb, MSt_b0, if_neg (show ¬ ¬ MSt σ (tr_ne len tx (tq2 len tx p)) false 184 12 = 0 by rw [MSt_12]; decide), l191, L_8, nI_mul, nI_add, sa_n (by omega) (by omega), sb, nI_mul, nI_add, sa_n (by omega) (by omega), sb, if_neg (fun z => z.elim (by intro q; cases q) e), MSt_o (by omega), MSt_o (by omega)]
theorem tm_rp (h : TM σ len tx) (hn : σ 186 1 = nI n) (n2 : 2 ≤ n) (n8 : n ≤ 8) (hnp : σ 187 1 = nI np) (h6 : np ≤ 6) (hp : p < 400) {F : Bool} (hF : tf3 len tx 0 3 0 (n - 1) 0 59 p = F) {u v l : Nat} (hu : (tr_vn len tx 0 3 p).getD 0 = u) (hv : (tr_vn len tx 0 (n - 1) (tq1 len tx p)).getD 0 = v) (hl : (tr_vn len tx 0 59 (tq2 len tx p)).getD 0 = l) : f_X7_readPost (MSt σ p false) = some (if np < 6 then MSt (sf (sf (sf (sf σ 189 (6 + np) (nI u)) 192 np (nI v)) 193 np (nI l)) 187 1 (nI (np + 1))) (tr_ne len tx (tq2 len tx p)) F else MSt σ p true) := by
  have L1 := @tq1L len tx p
  have L2 := @tq2L len tx p
  have E0 := @tr_neL len tx p
  have E1 := @tr_neL len tx (tq1 len tx p)
  unfold f_X7_readPost
  rw [MSt_r (by omega), g187, sb, hnp, L_6]
  by_cases c : np < 6
  · have T1 : TM (sf σ 189 (6 + np) (nI u)) len tx := TM_o h (by omega) (by omega)
    have T2 : TM (sf (sf σ 189 (6 + np) (nI u)) 192 np (nI v)) len tx := TM_o T1 (by omega) (by omega)
    rw [if_pos (fun z => by have := (nI_eq (by omega) (by omega)).mp z; omega), if_pos c, sb, tm_n3 h (by omega), sb]
    dsimp only
    rw [hu, nI_add, l189, sa_n (by omega) (by omega), sb, MSt_o (by omega), tm_d44 T1 (by omega), sb, MSt_r (by omega), g187, sb, sf_ne (by omega), hnp, MSt_r (by omega), g186, sb, sf_ne (by omega), hn, nI_m1 (by omega), show tr_ne len tx p + 1 = tq1 len tx p from rfl, tm_n0 T1 (by omega) (by omega), sb]
    dsimp only
    rw [hv, l192, sa_n (by omega) (by omega), sb, MSt_o (by omega), tm_d44 T2 (by omega), sb, MSt_r (by omega), g187, sb, sf_ne (by omega), sf_ne (by omega), hnp, show tr_ne len tx (tq1 len tx p) + 1 = tq2 len tx p from rfl, tm_n59 T2 (by omega), sb]
    dsimp only
    rw [hl, l193, sa_n (by omega) (by omega), sb, MSt_o (by omega), MSt_r (by omega), g187, sb, sf_ne (by omega), sf_ne (by omega), sf_ne (by omega), hnp, s187, sb, MSt_o (by omega), nI_1]
    rw [show (((((false || (tr_vn len tx 0 3 p).isNone) || !decide (tr_ch len tx (tr_ne len tx p) = 44)) || (tr_vn len tx 0 (n - 1) (tq1 len tx p)).isNone) || !decide (tr_ch len tx (tr_ne len tx (tq1 len tx p)) = 44)) || (tr_vn len tx 0 59 (tq2 len tx p)).isNone) = F from hF]
  · rw [if_neg (fun z => z (by rw [show np = 6 by omega])), if_neg c, sb, MSt_b1]
theorem tm_rw (h : TM σ len tx) (hn : σ 186 1 = nI n) (n2 : 2 ≤ n) (n8 : n ≤ 8) (hnw : σ 188 1 = nI nw) (h5 : nw ≤ 5) (hp : p < 400) {F : Bool} (hF : tf2 len tx 0 (n - 1) 0 (n - 1) p = F) {u v : Nat} (hu : (tr_vn len tx 0 (n - 1) p).getD 0 = u) (hv : (tr_vn len tx 0 (n - 1) (tq1 len tx p)).getD 0 = v) : f_X7_readWalker (MSt σ p false) = some (if nw < 5 then MSt (sf (sf (sf σ 194 nw (nI u)) 190 (5 + nw) (nI v)) 188 1 (nI (nw + 1))) (tr_ne len tx (tq1 len tx p)) (F || decide (u = v)) else MSt σ p true) := by
  have L1 := @tq1L len tx p
  have E0 := @tr_neL len tx p
  have B0 : u ≤ 99 := by rw [← hu]; exact vnL
  have B1 : v ≤ 99 := by rw [← hv]; exact vnL
  unfold f_X7_readWalker
  rw [MSt_r (by omega), g188, sb, hnw, L_5]
  by_cases c : nw < 5
  · rw [if_pos (fun z => by have := (nI_eq (by omega) (by omega)).mp z; omega), if_pos c, MSt_r (by omega), g186, sb, hn, nI_m1 (by omega), tm_n0 h (by omega) (by omega), sb]
    dsimp only
    rw [tm_d44 h (by omega), sb, MSt_r (by omega), g186, sb, hn, nI_m1 (by omega), show tr_ne len tx p + 1 = tq1 len tx p from rfl, tm_n0 h (by omega) (by omega), sb]
    dsimp only
    rw [hu, hv]
    rw [show (((false || (tr_vn len tx 0 (n - 1) p).isNone) || !decide (tr_ch len tx (tr_ne len tx p) = 44)) || (tr_vn len tx 0 (n - 1) (tq1 len tx p)).isNone) = F from hF]
    have T : ∀ B : Bool, ((ga (MSt σ (tr_ne len tx (tq1 len tx p)) B 188) (ln 188) 1).bind fun v80 => (sa (MSt σ (tr_ne len tx (tq1 len tx p)) B) 194 (ln 194) v80 (nI u)).bind fun σ82 => (ga (σ82 188) (ln 188) 1).bind fun v93 => (sa σ82 190 (ln 190) (nI 5 + v93) (nI v)).bind fun σ96 => (ga (σ96 188) (ln 188) 1).bind fun v103 => (sa σ96 188 (ln 188) 1 (v103 + 1)).bind fun σ106 => some σ106) = some (MSt (sf (sf (sf σ 194 nw (nI u)) 190 (5 + nw) (nI v)) 188 1 (nI (nw + 1))) (tr_ne len tx (tq1 len tx p)) B) := fun B => by
      rw [MSt_r (by omega), g188, sb, hnw, l194, sa_n (by omega) (by omega), sb, MSt_o (by omega), MSt_r (by omega), g188, sb, sf_ne (by omega), hnw, nI_add, l190, sa_n (by omega) (by omega), sb, MSt_o (by omega), MSt_r (by omega), g188, sb, sf_ne (by omega), sf_ne (by omega), hnw, s188, sb, MSt_o (by omega), nI_1]
    cases F with
    | true =>
      rw [if_pos (show ¬ MSt σ (tr_ne len tx (tq1 len tx p)) true 184 12 = 0 by rw [MSt_12]; decide), sb]
      rw [show sf (MSt σ (tr_ne len tx (tq1 len tx p)) true) 184 12 1 = MSt σ (tr_ne len tx (tq1 len tx p)) true from MSt_b (c := true)]
      exact T true
    | false =>
      rw [if_neg (show ¬ ¬ MSt σ (tr_ne len tx (tq1 len tx p)) false 184 12 = 0 by rw [MSt_12]; decide)]
      by_cases e : u = v
      · rw [if_neg (fun z => z (by rw [e])), sb, decide_eq_true e]
        rw [show sf (MSt σ (tr_ne len tx (tq1 len tx p)) false) 184 12 1 = MSt σ (tr_ne len tx (tq1 len tx p)) true from MSt_b (c := true)]
        exact T true
      · rw [if_pos (fun z => e ((nI_eq (by omega) (by omega)).mp z)), sb, decide_eq_false e]
        rw [show sf (MSt σ (tr_ne len tx (tq1 len tx p)) false) 184 12 0 = MSt σ (tr_ne len tx (tq1 len tx p)) false from MSt_b (c := false)]
        exact T false
  · rw [if_neg (fun z => z (by rw [show nw = 5 by omega])), if_neg c, sb, MSt_b1]
end MI
