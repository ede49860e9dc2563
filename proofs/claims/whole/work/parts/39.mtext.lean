/-! Part 39: the text read, the model's side: letters and numbers. -/
/-- the model's text -/
def TM (σ : Sg) (len : Nat) (tx : Nat → Nat) : Prop := σ 184 1 = nI len ∧ tr_ok len tx ∧ ∀ i, i < len → σ 185 i = nI (tx i)
def bI (b : Bool) : Int32 := if b = true then 1 else 0
theorem bI_t : (1 : Int32) = bI true := rfl
theorem bI_f : (0 : Int32) = bI false := rfl
theorem bI_0 {b : Bool} : bI b = 0 ↔ b = false := by cases b <;> decide
/-- at a place, wrong or not -/
def MSt (σ : Sg) (p : Nat) (b : Bool) : Sg := sf (sf σ 184 11 (nI p)) 184 12 (bI b)
section MR
variable {σ σ' : Sg} {len : Nat} {tx : Nat → Nat} {b : Bool} {p : Nat}
theorem MSt_r {i : Nat} (h : i ≠ 184) : MSt σ p b i = σ i := by unfold MSt; rw [sf_ne h, sf_ne h]
theorem MSt_k {k : Nat} (h1 : k ≠ 11) (h2 : k ≠ 12) : MSt σ p b 184 k = σ 184 k := by unfold MSt; rw [sf_row, upd_ne h2, sf_row, upd_ne h1]
theorem MSt_11 : MSt σ p b 184 11 = nI p := by unfold MSt; rw [sf_row, upd_ne (by omega), sf_row, upd_self]
theorem MSt_12 : MSt σ p b 184 12 = bI b := by unfold MSt; rw [sf_row, upd_self]
theorem MSt_p {q : Nat} : sf (MSt σ p b) 184 11 (nI q) = MSt σ q b := by unfold MSt; rw [sf_cm (by omega), sf_sf]
theorem MSt_b {c : Bool} : sf (MSt σ p b) 184 12 (bI c) = MSt σ p c := by unfold MSt; rw [sf_sf]
theorem MSt_b1 : sf (MSt σ p b) 184 12 1 = MSt σ p true := MSt_b (c := true)
theorem MSt_b0 : sf (MSt σ p b) 184 12 0 = MSt σ p false := MSt_b (c := false)
theorem sf_cr {i j k l : Nat} {v w : Int32} (h : i ≠ j) : sf (sf σ i k v) j l w = sf (sf σ j l w) i k v := by
  funext a x
  by_cases c : a = i
  · subst c
    rw [sf_ne h, sf_row, sf_row, sf_ne h]
  · by_cases d : a = j
    · subst d
      rw [sf_row, sf_ne c, sf_ne c, sf_row]
    · rw [sf_ne d, sf_ne c, sf_ne c, sf_ne d]
theorem MSt_o {i k : Nat} {v : Int32} (h : i ≠ 184) : sf (MSt σ p b) i k v = MSt (sf σ i k v) p b := by
  unfold MSt
  rw [sf_cr h.symm, sf_cr h.symm]
theorem MSt_id (h1 : σ 184 11 = nI p) (h2 : σ 184 12 = bI b) : MSt σ p b = σ := by
  unfold MSt
  rw [sf_id h1, sf_id h2]
theorem TM_o {i k : Nat} {v : Int32} (h : TM σ len tx) (h1 : i ≠ 184) (h2 : i ≠ 185) : TM (sf σ i k v) len tx := ⟨by rw [sf_ne h1.symm]; exact h.1, h.2.1, fun j hj => by rw [sf_ne h2.symm]; exact h.2.2 j hj⟩
theorem tm_he (h : TM σ len tx) (h2 : p < 2 ^ 20) : f_X7_here (MSt σ p b) = some (tr_cv len tx p) := by
  have h200 := h.2.1.1
  unfold f_X7_here tr_cv
  rw [MSt_11, MSt_k (by omega) (by omega), MSt_r (by omega), h.1]
  by_cases c : p < len
  · rw [if_neg (nI_ge c (by omega)), if_pos c, l185, ga_n (by omega) (by omega), sb, h.2.2 p c]
  · rw [if_pos (nI_le (by omega) (by omega)), if_neg c]
theorem tm_cF (ho : tr_ok len tx) (h : ¬ tr_fg len tx p = true) : tr_cv len tx p < 48 ∨ ¬ tr_cv len tx p < 48 ∧ 57 < tr_cv len tx p := by
  have := tr_fgF h
  unfold tr_ch at this
  unfold tr_cv
  by_cases q : p < len
  · rw [if_pos q] at this
    rw [if_pos q]
    have u := (ho.2 p q).2
    rcases this with c | c
    · left; rw [L_48]; exact nI_lt c (by omega)
    · right; rw [L_48, L_57]; exact ⟨nI_nlt (by omega) (by omega), nI_lt c (by omega)⟩
  · rw [if_neg q]; left; decide
theorem tm_fi (h : TM σ len tx) (h2 : p < 2 ^ 20) : f_X7_isFigure (MSt σ p b) = some (bI (tr_fg len tx p)) := by
  unfold f_X7_isFigure f_X7_in
  rw [tm_he h h2, sb]
  by_cases c : tr_fg len tx p = true
  · obtain ⟨c1, c2⟩ := tr_fgT c
    rw [c, tr_cvT c, L_48, L_57, if_neg (nI_nlt c1 (by omega)), if_neg (nI_nlt c2 (by omega)), sb]
    rfl
  · rw [show tr_fg len tx p = false by cases e : tr_fg len tx p with | true => exact absurd e c | false => rfl]
    rcases tm_cF h.2.1 c with e | ⟨e1, e2⟩
    · rw [if_pos e, sb]; rfl
    · rw [if_neg e1, if_pos e2, sb]; rfl
theorem lp_go' {S R : Type} {b : S → Option (S ⊕ R)} {n : Nat} {s s' : S} {r : Option R} (h : b s = some (.inl s')) (g : lp b n s' = r) : lp b (n + 1) s = r := (lp_go h).trans g
theorem tm_nl (h : TM σ len tx) (h2 : p + 5 < 2 ^ 20) : lp (fun st : Int32 × Int32 × Sg => f_X7_number_b1 st.1 st.2.1 st.2.2) FU ((-4 : Int32), (0 : Int32), MSt σ p b) = some (oI (tr_nv len tx p), MSt σ (tr_ne len tx p) b) := by
  unfold tr_nv tr_ne
  show lp _ (4093 + 1 + 1 + 1) _ = _
  by_cases c : tr_fg len tx p = true
  · obtain ⟨c1, c2⟩ := tr_fgT c
    rw [if_pos c, if_pos c]
    have s0 : f_X7_number_b1 (-4) 0 (MSt σ p b) = some (.inl (nI (tr_ch len tx p - 48), 1, MSt σ (p + 1) b)) := by
      unfold f_X7_number_b1
      rw [if_neg (by decide), tm_fi h (by omega), sb, c, if_neg (show ¬ bI true = 0 by decide), if_neg (fun z => z rfl), tm_he h (by omega), sb, sb, MSt_11, nI_1, MSt_p, tr_cvT c, L_48, L_0, nI_add, nI_sub (by omega), nI_1, show 0 + tr_ch len tx p - 48 = tr_ch len tx p - 48 by omega]
      rfl
    refine lp_go' s0 ?_
    by_cases d : tr_fg len tx (p + 1) = true
    · obtain ⟨d1, d2⟩ := tr_fgT d
      rw [if_pos d, if_pos d]
      have s1 : f_X7_number_b1 (nI (tr_ch len tx p - 48)) 1 (MSt σ (p + 1) b) = some (.inl (nI ((tr_ch len tx p - 48) * 10 + (tr_ch len tx (p + 1) - 48)), 2, MSt σ (p + 2) b)) := by
        unfold f_X7_number_b1
        rw [if_neg (by decide), tm_fi h (by omega), sb, d, if_neg (show ¬ bI true = 0 by decide), if_pos (nI_ne4 (by omega)), tm_he h (by omega), sb, sb, MSt_11, nI_1, MSt_p, tr_cvT d, L_48, L_10, nI_mul, nI_add, nI_sub (by omega), show 10 * (tr_ch len tx p - 48) + tr_ch len tx (p + 1) - 48 = (tr_ch len tx p - 48) * 10 + (tr_ch len tx (p + 1) - 48) by omega]
        rfl
      refine lp_go' s1 (lp_end ?_)
      show f_X7_number_b1 _ 2 _ = _
      unfold f_X7_number_b1
      rw [if_pos (by decide)]
      rfl
    · rw [if_neg d, if_neg d]
      refine lp_end ?_
      show f_X7_number_b1 _ 1 _ = _
      unfold f_X7_number_b1
      rw [if_neg (by decide), tm_fi h (by omega), sb, show tr_fg len tx (p + 1) = false by cases e : tr_fg len tx (p + 1) with | true => exact absurd e d | false => rfl, if_pos (show bI false = 0 from rfl)]
      rfl
  · rw [if_neg c, if_neg c]
    refine lp_end ?_
    show f_X7_number_b1 _ 0 _ = _
    unfold f_X7_number_b1
    rw [if_neg (by decide), tm_fi h (by omega), sb, show tr_fg len tx p = false by cases e : tr_fg len tx p with | true => exact absurd e c | false => rfl, if_pos (show bI false = 0 from rfl)]
    rfl
/-- a number in its bounds -/
def tr_vn (len : Nat) (tx : Nat → Nat) (lo hi p : Nat) : Option Nat := match tr_nv len tx p with
  | none => none
  | some v => if lo ≤ v ∧ v ≤ hi then some v else none
theorem tr_vnS {lo hi v : Nat} (h : tr_vn len tx lo hi p = some v) : tr_nv len tx p = some v ∧ lo ≤ v ∧ v ≤ hi := by
  unfold tr_vn at h
  cases e : tr_nv len tx p with
  | none => rw [e] at h; cases h
  | some u =>
    rw [e] at h
    dsimp only at h
    by_cases c : lo ≤ u ∧ u ≤ hi
    · rw [if_pos c] at h; cases h; exact ⟨rfl, c⟩
    · rw [if_neg c] at h; cases h
theorem tr_vnT {lo hi v : Nat} (h : tr_nv len tx p = some v) (c : lo ≤ v ∧ v ≤ hi) : tr_vn len tx lo hi p = some v := by
  unfold tr_vn; rw [h]; dsimp only; rw [if_pos c]
theorem tm_in {lo hi : Nat} {τ : Sg} (hl : lo < 2 ^ 20) (hh : hi < 2 ^ 20) : f_X7_in τ (oI (tr_nv len tx p)) (nI lo) (nI hi) = some (bI (tr_vn len tx lo hi p).isSome) := by
  unfold f_X7_in tr_vn
  cases e : tr_nv len tx p with
  | none =>
    rw [oI_n, if_pos (Int32.lt_of_lt_of_le (show (-4 : Int32) < 0 by decide) (by rw [L_0]; exact nI_le (Nat.zero_le _) (by omega)))]
    rfl
  | some v =>
    have v9 := tr_nvL e
    show (if nI v < nI lo then _ else (if nI hi < nI v then _ else _)) = some (bI (if lo ≤ v ∧ v ≤ hi then some v else none).isSome)
    by_cases c : lo ≤ v
    · rw [if_neg (nI_nlt c (by omega))]
      by_cases g : v ≤ hi
      · rw [if_neg (nI_nlt g (by omega)), if_pos ⟨c, g⟩]; rfl
      · rw [if_pos (nI_lt (by omega) (by omega)), if_neg (fun z => g z.2)]; rfl
    · rw [if_pos (nI_lt (by omega) (by omega)), if_neg (fun z => c z.1)]; rfl
theorem tm_k1 {lo hi : Nat} (hl : lo < 2 ^ 20) (hh : hi < 2 ^ 20) {e : Nat} : f_X7_number_k1 (nI lo) (nI hi) (oI (tr_nv len tx p)) (MSt σ e b) = some (nI ((tr_vn len tx lo hi p).getD 0), MSt σ e (b || (tr_vn len tx lo hi p).isNone)) := by
  unfold f_X7_number_k1
  rw [tm_in hl hh, sb, MSt_12]
  cases e : tr_vn len tx lo hi p with
  | none =>
    cases b with
    | true =>
      rw [if_pos (show ¬ bI true = 0 by decide), sb, MSt_b1, if_pos (show bI (none : Option Nat).isSome = 0 from rfl)]
      rfl
    | false =>
      rw [if_neg (show ¬ ¬ bI false = 0 by decide), if_neg (show ¬ ¬ bI (none : Option Nat).isSome = 0 by decide), sb, MSt_b1, if_pos (show bI (none : Option Nat).isSome = 0 from rfl)]
      rfl
  | some v =>
    have nb : ¬ bI (some v).isSome = 0 := show ¬ bI true = 0 by decide
    have ev : tr_nv len tx p = some v := (tr_vnS e).1
    cases b with
    | true =>
      rw [if_pos (show ¬ bI true = 0 by decide), sb, MSt_b1, if_neg nb, ev]
      rfl
    | false =>
      rw [if_neg (show ¬ ¬ bI false = 0 by decide), if_pos nb, sb, MSt_b0, if_neg nb, ev]
      rfl
theorem tm_num (h : TM σ len tx) (h2 : p + 5 < 2 ^ 20) {lo hi : Nat} (hl : lo < 2 ^ 20) (hh : hi < 2 ^ 20) : f_X7_number (MSt σ p b) (nI lo) (nI hi) = some (nI ((tr_vn len tx lo hi p).getD 0), MSt σ (tr_ne len tx p) (b || (tr_vn len tx lo hi p).isNone)) := by
  unfold f_X7_number
  rw [tm_nl h h2, sb]
  exact tm_k1 hl hh
theorem tm_due (h : TM σ len tx) (h2 : p < 2 ^ 20) {c : Nat} (h0 : 0 < c) (hc : c < 2 ^ 20) : f_X7_due (MSt σ p b) (nI c) = some (MSt σ (p + 1) (b || !decide (tr_ch len tx p = c))) := by
  unfold f_X7_due
  rw [MSt_12]
  cases b with
  | true =>
    rw [if_pos (show ¬ bI true = 0 by decide), sb, MSt_b1, sb, MSt_11, nI_1, MSt_p]
    rfl
  | false =>
    rw [if_neg (show ¬ ¬ bI false = 0 by decide), tm_he h h2, sb]
    by_cases e : tr_ch len tx p = c
    · rw [if_pos ((tr_cvE h.2.1 h0 (by omega)).mpr e), sb, MSt_b0, sb, MSt_11, nI_1, MSt_p, decide_eq_true e]
      rfl
    · rw [if_neg (fun z => e ((tr_cvE h.2.1 h0 (by omega)).mp z)), sb, MSt_b1, sb, MSt_11, nI_1, MSt_p, decide_eq_false e]
      rfl
/-- three numbers read by the class -/
theorem tr_n1 {f : Nat → Nat} : (∃ v0, tr_nv len tx p = some v0 ∧ tr_ch len tx (tr_ne len tx p) = 59 ∧ tr_rn len tx 1 0 p f = some (upN f 0 v0, tr_ne len tx p + 1)) ∨ (tr_rn len tx 1 0 p f = none ∧ (tr_nv len tx p = none ∨ ¬ tr_ch len tx (tr_ne len tx p) = 59)) := by
  unfold tr_rn
  cases e : tr_nv len tx p with
  | none => exact Or.inr ⟨rfl, Or.inl rfl⟩
  | some v0 =>
    dsimp only
    rw [if_pos (show (0 : Nat) = 0 from rfl)]
    by_cases c : tr_ch len tx (tr_ne len tx p) = 59
    · rw [if_pos c]; exact Or.inl ⟨v0, rfl, c, rfl⟩
    · rw [if_neg c]; exact Or.inr ⟨rfl, Or.inr c⟩
theorem tr_nk {k i : Nat} {f : Nat → Nat} : (∃ v0, tr_nv len tx p = some v0 ∧ tr_ch len tx (tr_ne len tx p) = 44 ∧ tr_rn len tx (k + 1 + 1) i p f = tr_rn len tx (k + 1) (i + 1) (tr_ne len tx p + 1) (upN f i v0)) ∨ (tr_rn len tx (k + 1 + 1) i p f = none ∧ (tr_nv len tx p = none ∨ ¬ tr_ch len tx (tr_ne len tx p) = 44)) := by
  rw [tr_rn.eq_2]
  cases e : tr_nv len tx p with
  | none => exact Or.inr ⟨rfl, Or.inl rfl⟩
  | some v0 =>
    dsimp only
    rw [if_neg (show ¬ k + 1 = 0 by omega)]
    by_cases c : tr_ch len tx (tr_ne len tx p) = 44
    · rw [if_pos c]; exact Or.inl ⟨v0, rfl, c, rfl⟩
    · rw [if_neg c]; exact Or.inr ⟨rfl, Or.inr c⟩
theorem tr_nl {i : Nat} {f : Nat → Nat} : (∃ v0, tr_nv len tx p = some v0 ∧ tr_ch len tx (tr_ne len tx p) = 59 ∧ tr_rn len tx 1 i p f = some (upN f i v0, tr_ne len tx p + 1)) ∨ (tr_rn len tx 1 i p f = none ∧ (tr_nv len tx p = none ∨ ¬ tr_ch len tx (tr_ne len tx p) = 59)) := by
  rw [tr_rn.eq_2]
  cases e : tr_nv len tx p with
  | none => exact Or.inr ⟨rfl, Or.inl rfl⟩
  | some v0 =>
    dsimp only
    rw [if_pos (show (0 : Nat) = 0 from rfl)]
    by_cases c : tr_ch len tx (tr_ne len tx p) = 59
    · rw [if_pos c]; exact Or.inl ⟨v0, rfl, c, rfl⟩
    · rw [if_neg c]; exact Or.inr ⟨rfl, Or.inr c⟩
end MR
