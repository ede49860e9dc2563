/-! Part 36: the text read, the class's side. -/
def tr_ch (len : Nat) (tx : Nat → Nat) (p : Nat) : Nat := if p < len then tx p else 0
def tr_cv (len : Nat) (tx : Nat → Nat) (p : Nat) : Int32 := if p < len then nI (tx p) else -4
def tr_fg (len : Nat) (tx : Nat → Nat) (p : Nat) : Bool := decide (48 ≤ tr_ch len tx p) && decide (tr_ch len tx p ≤ 57)
def tr_nv (len : Nat) (tx : Nat → Nat) (p : Nat) : Option Nat := if tr_fg len tx p = true then (if tr_fg len tx (p + 1) = true then some ((tr_ch len tx p - 48) * 10 + (tr_ch len tx (p + 1) - 48)) else some (tr_ch len tx p - 48)) else none
def tr_ne (len : Nat) (tx : Nat → Nat) (p : Nat) : Nat := if tr_fg len tx p = true then (if tr_fg len tx (p + 1) = true then p + 2 else p + 1) else p
def tr_ok (len : Nat) (tx : Nat → Nat) : Prop := len ≤ 200 ∧ ∀ i, i < len → 32 ≤ tx i ∧ tx i ≤ 126
theorem tr_chL {len p : Nat} {tx : Nat → Nat} (h : tr_ok len tx) : tr_ch len tx p ≤ 126 := by
  unfold tr_ch
  by_cases c : p < len
  · rw [if_pos c]; exact (h.2 p c).2
  · rw [if_neg c]; omega
theorem tr_cvE {len p c : Nat} {tx : Nat → Nat} (h : tr_ok len tx) (h0 : 0 < c) (h2 : c < 2 ^ 31) : tr_cv len tx p = nI c ↔ tr_ch len tx p = c := by
  unfold tr_cv tr_ch
  by_cases q : p < len
  · rw [if_pos q, if_pos q]
    exact nI_eq (by have := (h.2 p q).2; omega) h2
  · rw [if_neg q, if_neg q]
    exact ⟨fun e => absurd e.symm (nI_ne4 h2), fun e => by omega⟩
theorem tr_fgT {len p : Nat} {tx : Nat → Nat} (h : tr_fg len tx p = true) : 48 ≤ tr_ch len tx p ∧ tr_ch len tx p ≤ 57 := by
  unfold tr_fg at h
  rw [Bool.and_eq_true, decide_eq_true_eq, decide_eq_true_eq] at h
  exact h
theorem tr_fgF {len p : Nat} {tx : Nat → Nat} (h : ¬ tr_fg len tx p = true) : tr_ch len tx p < 48 ∨ 57 < tr_ch len tx p := by
  unfold tr_fg at h
  rw [Bool.and_eq_true, decide_eq_true_eq, decide_eq_true_eq] at h
  omega
theorem tr_cvT {len p : Nat} {tx : Nat → Nat} (h : tr_fg len tx p = true) : tr_cv len tx p = nI (tr_ch len tx p) := by
  have := (tr_fgT h).1
  unfold tr_ch at this
  unfold tr_cv tr_ch
  by_cases q : p < len
  · rw [if_pos q, if_pos q]
  · rw [if_neg q] at this; omega
theorem tr_cvF {len p : Nat} {tx : Nat → Nat} (ho : tr_ok len tx) (h : ¬ tr_fg len tx p = true) : tr_cv len tx p < 48 ∨ ¬ tr_cv len tx p < 48 ∧ ¬ tr_cv len tx p ≤ 57 := by
  have := tr_fgF h
  unfold tr_ch at this
  unfold tr_cv
  by_cases q : p < len
  · rw [if_pos q] at this
    rw [if_pos q]
    have u := (ho.2 p q).2
    rcases this with c | c
    · left; rw [L_48]; exact nI_lt c (by omega)
    · right; rw [L_48, L_57]; exact ⟨nI_nlt (by omega) (by omega), nI_ge c (by omega)⟩
  · rw [if_neg q]; left; decide
theorem nI_sub {a b : Nat} (h : b ≤ a) : nI a - nI b = nI (a - b) := by
  obtain ⟨c, rfl⟩ : ∃ c, a = c + b := ⟨a - b, by omega⟩
  rw [← nI_add, Int32.add_sub_cancel, show c + b - b = c by omega]
theorem sf_sf {σ : Sg} {i k : Nat} {v w : Int32} : sf (sf σ i k v) i k w = sf σ i k w := by
  funext j x
  by_cases c : j = i
  · subst c
    rw [sf_row, sf_row, sf_row]
    by_cases d : x = k
    · subst d; rw [upd_self, upd_self]
    · rw [upd_ne d, upd_ne d, upd_ne d]
  · rw [sf_ne c, sf_ne c, sf_ne c]
theorem sf_cm {σ : Sg} {i k k' : Nat} {v w : Int32} (h : k ≠ k') : sf (sf σ i k v) i k' w = sf (sf σ i k' w) i k v := by
  funext j x
  by_cases c : j = i
  · subst c
    rw [sf_row, sf_row, sf_row, sf_row]
    by_cases d : x = k
    · subst d; rw [upd_ne h, upd_self, upd_self]
    · rw [upd_ne d]
      by_cases d' : x = k'
      · subst d'; rw [upd_self, upd_self]
      · rw [upd_ne d', upd_ne d', upd_ne d]
  · rw [sf_ne c, sf_ne c, sf_ne c, sf_ne c]
theorem sf_id {σ : Sg} {i k : Nat} {v : Int32} (h : σ i k = v) : sf σ i k v = σ := by
  funext j x
  by_cases c : j = i
  · subst c
    rw [sf_row]
    by_cases d : x = k
    · subst d; rw [upd_self, h]
    · rw [upd_ne d]
  · rw [sf_ne c]
/-- the class's text -/
def TC (σ : Sg) (len : Nat) (tx : Nat → Nat) : Prop := σ 1 2 = nI len ∧ tr_ok len tx ∧ ∀ i, i < len → σ 3 i = nI (tx i)
/-- what reading a number changes in the class -/
def CF (σ σ' : Sg) : Prop := (∀ j, j ≠ 1 → j ≠ 5 → σ' j = σ j) ∧ ∀ k, k ≠ 3 → σ' 1 k = σ 1 k
theorem CF.rf {σ : Sg} : CF σ σ := ⟨fun _ _ _ => rfl, fun _ _ => rfl⟩
theorem CF.tr {σ σ1 σ2 : Sg} (h : CF σ σ1) (g : CF σ1 σ2) : CF σ σ2 := ⟨fun j a b => (g.1 j a b).trans (h.1 j a b), fun k a => (g.2 k a).trans (h.2 k a)⟩
theorem CF_3 {σ : Sg} {v : Int32} : CF σ (sf σ 1 3 v) := ⟨fun j a _ => sf_ne a, fun k a => by rw [sf_row, upd_ne a]⟩
theorem CF_5 {σ : Sg} {k : Nat} {v : Int32} : CF σ (sf σ 5 k v) := ⟨fun j _ b => sf_ne b, fun k _ => by rw [sf_ne (by omega)]⟩
theorem kd1 : kd 1 = 1 := by decide
theorem kd5 : kd 5 = 9 := by decide
theorem KC_CF {σ σ' : Sg} (h : KC σ) (c : CF σ σ') : KC σ' := fun g a b => by
  rw [c.1 g (fun e => by rw [e, kd1] at b; omega) (fun e => by rw [e, kd5] at b; omega)]
  exact h g a b
section CR
variable {σ σ' : Sg} {len : Nat} {tx : Nat → Nat}
theorem TC_CF (h : TC σ len tx) (c : CF σ σ') : TC σ' len tx := ⟨by rw [c.2 2 (by omega)]; exact h.1, h.2.1, fun i hi => by rw [c.1 3 (by omega) (by omega)]; exact h.2.2 i hi⟩
theorem tr_lh (hK : KC σ) (h : TC σ len tx) {p : Nat} (hp : σ 1 3 = nI p) (h2 : p < 2 ^ 20) : f_X1_letterHere σ 1 = some (tr_cv len tx p) := by
  have h200 := h.2.1.1
  unfold f_X1_letterHere tr_cv
  rw [h.1, hp]
  by_cases c : p < len
  · rw [if_neg (nI_ge c (by omega)), if_pos c, L_0, at_in hK g2g (by omega) (by omega), sb, show 0 * 200 + p = p by omega]
    exact congrArg some (h.2.2 p c)
  · rw [if_pos (nI_le (by omega) (by omega)), if_neg c]
theorem tr_rf (hK : KC σ) (h : TC σ len tx) {p : Nat} (hp : σ 1 3 = nI p) (h2 : p < 2 ^ 20) : f_X1_readFigure σ 1 = if tr_fg len tx p = true then some (nI (tr_ch len tx p - 48), sf σ 1 3 (nI (p + 1))) else some (-4, σ) := by
  unfold f_X1_readFigure
  rw [tr_lh hK h hp h2, sb]
  by_cases c : tr_fg len tx p = true
  · obtain ⟨c1, c2⟩ := tr_fgT c
    rw [if_pos c, tr_cvT c, L_48, L_57, if_neg (nI_nlt c1 (by omega)), if_pos (nI_le c2 (by omega)), sb, hp, nI_1, nI_sub c1]
  · rw [if_neg c]
    rcases tr_cvF h.2.1 c with e | ⟨e1, e2⟩
    · rw [if_pos e]
    · rw [if_neg e1, if_neg e2]
theorem g4g : gd (1 + 3) 3 3 := gd_of (by decide +kernel)
/-- what comes behind a number -/
def tr_tl (a1 x2 v : Int32) (τ : Sg) : Option ((Int32 × Sg) ⊕ (Sg ⊕ (Sg ⊕ Sg))) :=
  (f_X0_put τ (1 + 3) (0 : Int32) x2 v).bind fun σ50 =>
  (f_X1_letterHere σ50 1).bind fun v54 =>
  if a1 ≤ (x2 + (1 : Int32)) then
  if v54 = (59 : Int32) then
  (some (sf σ50 1 3 ((σ50 1 3) + (1 : Int32)))).bind fun σ83 =>
  some (.inl ((x2 + (1 : Int32)), σ83))
  else
  some (.inr (.inr (.inl σ50)))
  else
  if v54 = (44 : Int32) then
  (some (sf σ50 1 3 ((σ50 1 3) + (1 : Int32)))).bind fun σ83 =>
  some (.inl ((x2 + (1 : Int32)), σ83))
  else
  some (.inr (.inr (.inl σ50)))
def tr_sp (h i : Nat) : Nat := if h ≤ i + 1 then 59 else 44
theorem tr_tlo (hK : KC σ) (h : TC σ len tx) {e i H v : Nat} (hp : σ 1 3 = nI e) (h2 : e < 2 ^ 20) (hi : i < 3) (hH : H ≤ 3) : ∃ σ', CF σ σ' ∧ tr_tl (nI H) (nI i) (nI v) σ = (if tr_ch len tx e = tr_sp H i then some (.inl (nI (i + 1), σ')) else some (.inr (.inr (.inl σ')))) ∧ σ' 5 = upd (σ 5) i (nI v) ∧ (tr_ch len tx e = tr_sp H i → σ' 1 3 = nI (e + 1)) := by
  have F : CF σ (sf σ 5 i (nI v)) := CF_5
  have hp5 : (sf σ 5 i (nI v)) 1 3 = nI e := by rw [sf_ne (by omega)]; exact hp
  have T0 : tr_tl (nI H) (nI i) (nI v) σ = (if nI H ≤ nI (i + 1) then
      (if tr_cv len tx e = (59 : Int32) then some (.inl (nI (i + 1), sf (sf σ 5 i (nI v)) 1 3 (nI (e + 1)))) else some (.inr (.inr (.inl (sf σ 5 i (nI v))))))
      else (if tr_cv len tx e = (44 : Int32) then some (.inl (nI (i + 1), sf (sf σ 5 i (nI v)) 1 3 (nI (e + 1)))) else some (.inr (.inr (.inl (sf σ 5 i (nI v))))))) := by
    unfold tr_tl
    rw [L_0, put_in hK g4g hi (by omega), sb, show 0 * 3 + i = i by omega, tr_lh (KC_CF hK F) (TC_CF h F) hp5 h2, sb, hp5, nI_1, nI_1]
    rfl
  rw [T0]
  by_cases c : H ≤ i + 1
  · rw [if_pos (nI_le c (by omega)), show tr_sp H i = 59 from if_pos c, L_59]
    by_cases d : tr_ch len tx e = 59
    · exact ⟨sf (sf σ 5 i (nI v)) 1 3 (nI (e + 1)), F.tr CF_3, by rw [if_pos d, if_pos ((tr_cvE h.2.1 (by omega) (by omega)).mpr d)], by rw [sf_ne (by omega), sf_row], fun _ => by rw [sf_row, upd_self]⟩
    · exact ⟨sf σ 5 i (nI v), F, by rw [if_neg d, if_neg (fun z => d ((tr_cvE h.2.1 (by omega) (by omega)).mp z))], by rw [sf_row], fun z => absurd z d⟩
  · rw [if_neg (nI_ge (by omega) (by omega)), show tr_sp H i = 44 from if_neg c, L_44]
    by_cases d : tr_ch len tx e = 44
    · exact ⟨sf (sf σ 5 i (nI v)) 1 3 (nI (e + 1)), F.tr CF_3, by rw [if_pos d, if_pos ((tr_cvE h.2.1 (by omega) (by omega)).mpr d)], by rw [sf_ne (by omega), sf_row], fun _ => by rw [sf_row, upd_self]⟩
    · exact ⟨sf σ 5 i (nI v), F, by rw [if_neg d, if_neg (fun z => d ((tr_cvE h.2.1 (by omega) (by omega)).mp z))], by rw [sf_row], fun z => absurd z d⟩
theorem tr_b1 {a1 x2 : Int32} : f_X1_readNumbers_b1 1 a1 x2 σ = (if a1 ≤ x2 then some (.inr (.inr (.inr σ))) else (f_X1_readFigure σ 1).bind fun q8 => if ¬ q8.1 = (-4 : Int32) then (f_X1_readFigure q8.2 1).bind fun q21 => if ¬ q21.1 = (-4 : Int32) then tr_tl a1 x2 ((q8.1 * (10 : Int32)) + q21.1) q21.2 else tr_tl a1 x2 q8.1 q21.2 else some (.inr (.inl q8.2))) := rfl
theorem tr_st (hK : KC σ) (h : TC σ len tx) {p i H : Nat} (hp : σ 1 3 = nI p) (h2 : p + 3 < 2 ^ 20) (hi : i < H) (hH : H ≤ 3) : ∃ σ', CF σ σ' ∧ ((tr_nv len tx p = none ∧ f_X1_readNumbers_b1 1 (nI H) (nI i) σ = some (.inr (.inl σ'))) ∨ ∃ v, tr_nv len tx p = some v ∧ f_X1_readNumbers_b1 1 (nI H) (nI i) σ = (if tr_ch len tx (tr_ne len tx p) = tr_sp H i then some (.inl (nI (i + 1), σ')) else some (.inr (.inr (.inl σ')))) ∧ σ' 5 = upd (σ 5) i (nI v) ∧ (tr_ch len tx (tr_ne len tx p) = tr_sp H i → σ' 1 3 = nI (tr_ne len tx p + 1))) := by
  rw [tr_b1, if_neg (nI_ge hi (by omega)), tr_rf hK h hp (by omega)]
  by_cases c : tr_fg len tx p = true
  · obtain ⟨c1, c2⟩ := tr_fgT c
    have F : CF σ (sf σ 1 3 (nI (p + 1))) := CF_3
    have hp1 : (sf σ 1 3 (nI (p + 1))) 1 3 = nI (p + 1) := by rw [sf_row, upd_self]
    rw [if_pos c, sb]
    dsimp only
    rw [if_pos (nI_ne4 (by omega)), tr_rf (KC_CF hK F) (TC_CF h F) hp1 (by omega)]
    by_cases d : tr_fg len tx (p + 1) = true
    · obtain ⟨d1, d2⟩ := tr_fgT d
      have F2 : CF σ (sf (sf σ 1 3 (nI (p + 1))) 1 3 (nI (p + 1 + 1))) := F.tr CF_3
      rw [if_pos d, sb]
      dsimp only
      rw [if_pos (nI_ne4 (by omega)), L_10, nI_mul, nI_add]
      obtain ⟨σ', G, e, g5, g3⟩ := tr_tlo (KC_CF hK F2) (TC_CF h F2) (e := p + 2) (i := i) (H := H) (v := (tr_ch len tx p - 48) * 10 + (tr_ch len tx (p + 1) - 48)) (by rw [sf_row, upd_self]) (by omega) (by omega) hH
      have en : tr_ne len tx p = p + 2 := by unfold tr_ne; rw [if_pos c, if_pos d]
      have ev : tr_nv len tx p = some ((tr_ch len tx p - 48) * 10 + (tr_ch len tx (p + 1) - 48)) := by unfold tr_nv; rw [if_pos c, if_pos d]
      rw [en]
      exact ⟨σ', F2.tr G, Or.inr ⟨_, ev, e, by rw [g5, sf_ne (by omega), sf_ne (by omega)], g3⟩⟩
    · rw [if_neg d, sb]
      dsimp only
      rw [if_neg (fun z => z rfl)]
      obtain ⟨σ', G, e, g5, g3⟩ := tr_tlo (KC_CF hK F) (TC_CF h F) (e := p + 1) (i := i) (H := H) (v := tr_ch len tx p - 48) hp1 (by omega) (by omega) hH
      have en : tr_ne len tx p = p + 1 := by unfold tr_ne; rw [if_pos c, if_neg d]
      have ev : tr_nv len tx p = some (tr_ch len tx p - 48) := by unfold tr_nv; rw [if_pos c, if_neg d]
      rw [en]
      exact ⟨σ', F.tr G, Or.inr ⟨_, ev, e, by rw [g5, sf_ne (by omega)], g3⟩⟩
  · rw [if_neg c, sb]
    dsimp only
    rw [if_neg (fun z => z rfl)]
    exact ⟨σ, CF.rf, Or.inl ⟨by unfold tr_nv; rw [if_neg c], rfl⟩⟩
/-- numbers, parted -/
def tr_rn (len : Nat) (tx : Nat → Nat) : Nat → Nat → Nat → (Nat → Nat) → Option ((Nat → Nat) × Nat)
  | 0, _, p, f => some (f, p)
  | k + 1, i, p, f => match tr_nv len tx p with
    | none => none
    | some v => if tr_ch len tx (tr_ne len tx p) = (if k = 0 then 59 else 44) then tr_rn len tx k (i + 1) (tr_ne len tx p + 1) (upN f i v) else none
theorem tr_neL {p : Nat} : p ≤ tr_ne len tx p ∧ tr_ne len tx p ≤ p + 2 := by
  unfold tr_ne
  split
  · split <;> omega
  · omega
theorem tr_rnL : ∀ {k i p q : Nat} {f g : Nat → Nat}, tr_rn len tx k i p f = some (g, q) → p ≤ q ∧ q ≤ p + 3 * k
  | 0, i, p, q, f, g, h => by
    unfold tr_rn at h; cases h; omega
  | k + 1, i, p, q, f, g, h => by
    unfold tr_rn at h
    cases e : tr_nv len tx p with
    | none => rw [e] at h; cases h
    | some v =>
      rw [e] at h
      dsimp only at h
      by_cases c : tr_ch len tx (tr_ne len tx p) = (if k = 0 then 59 else 44)
      · rw [if_pos c] at h
        have := tr_rnL h
        have := @tr_neL len tx p
        omega
      · rw [if_neg c] at h; cases h
theorem tr_lp {H : Nat} (hH : H ≤ 3) : ∀ (k i p m : Nat) (f : Nat → Nat) (σ : Sg), i + k = H → KC σ → TC σ len tx → σ 1 3 = nI p → p + 3 * k + 3 < 2 ^ 20 → (∀ j, j < i → σ 5 j = nI (f j)) → k < m → ∃ rr, lp (fun st => f_X1_readNumbers_b1 1 (nI H) st.1 st.2) m (nI i, σ) = some rr ∧ ∃ σ', CF σ σ' ∧ (match tr_rn len tx k i p f with
    | none => rr = .inl σ' ∨ rr = .inr (.inl σ')
    | some (g, q) => rr = .inr (.inr σ') ∧ σ' 1 3 = nI q ∧ ∀ j, j < H → σ' 5 j = nI (g j))
  | 0, i, p, m + 1, f, σ, h1, hK, h, hp, h2, hf, hm => by
    refine ⟨_, lp_end (r := .inr (.inr σ)) ?_, σ, CF.rf, ?_⟩
    · show f_X1_readNumbers_b1 1 (nI H) (nI i) σ = _
      rw [tr_b1, if_pos (nI_le (by omega) (by omega))]
    · unfold tr_rn
      exact ⟨rfl, hp, fun j hj => hf j (by omega)⟩
  | k + 1, i, p, m + 1, f, σ, h1, hK, h, hp, h2, hf, hm => by
    obtain ⟨σ1, F, ⟨e, b⟩ | ⟨v, e, b, g5, g3⟩⟩ := tr_st hK h (i := i) (H := H) hp (by omega) (by omega) hH
    · refine ⟨_, lp_end (r := .inl σ1) b, σ1, F, ?_⟩
      unfold tr_rn
      rw [e]
      exact Or.inl rfl
    · have sp : tr_sp H i = if k = 0 then 59 else 44 := by
        unfold tr_sp
        by_cases c : k = 0
        · rw [if_pos c, if_pos (by omega)]
        · rw [if_neg c, if_neg (by omega)]
      by_cases c : tr_ch len tx (tr_ne len tx p) = tr_sp H i
      · rw [if_pos c] at b
        have L := @tr_neL len tx p
        obtain ⟨rr, e2, σ', F', r⟩ := tr_lp hH k (i + 1) (tr_ne len tx p + 1) m (upN f i v) σ1 (by omega) (KC_CF hK F) (TC_CF h F) (g3 c) (by omega) (fun j hj => by
          rw [g5]
          unfold upN
          by_cases d : j = i
          · subst d; rw [upd_self, if_pos rfl]
          · rw [upd_ne d, if_neg d]; exact hf j (by omega)) (by omega)
        refine ⟨rr, (lp_go b).trans e2, σ', F.tr F', ?_⟩
        unfold tr_rn
        rw [e]
        dsimp only
        rw [if_pos (c.trans sp)]
        exact r
      · rw [if_neg c] at b
        refine ⟨_, lp_end (r := .inr (.inl σ1)) b, σ1, F, ?_⟩
        unfold tr_rn
        rw [e]
        dsimp only
        rw [if_neg (fun z => c (z.trans sp.symm))]
        exact Or.inr rfl
theorem tr_rns (hK : KC σ) (h : TC σ len tx) {p H : Nat} (hp : σ 1 3 = nI p) (h2 : p + 20 < 2 ^ 20) (hH : H ≤ 3) : ∃ r σ', f_X1_readNumbers σ 1 (nI H) = some (r, σ') ∧ CF σ σ' ∧ (match tr_rn len tx H 0 p (fun _ => 0) with
    | none => r = 0
    | some (g, q) => r = 1 ∧ σ' 1 3 = nI q ∧ ∀ j, j < H → σ' 5 j = nI (g j)) := by
  obtain ⟨rr, e, σ', F, r⟩ := tr_lp (len := len) (tx := tx) hH H 0 p FU (fun _ => 0) σ (by omega) hK h hp (by omega) (fun j hj => absurd hj (by omega)) (by unfold FU; omega)
  unfold f_X1_readNumbers
  rw [L_0, e, sb]
  cases c : tr_rn len tx H 0 p (fun _ => 0) with
  | none =>
    rw [c] at r
    dsimp only at r
    rcases r with rfl | rfl
    · exact ⟨0, σ', rfl, F, rfl⟩
    · exact ⟨0, σ', rfl, F, rfl⟩
  | some w =>
    obtain ⟨g, q⟩ := w
    rw [c] at r
    dsimp only at r
    obtain ⟨rfl, r2, r3⟩ := r
    exact ⟨1, σ', rfl, F, rfl, r2, r3⟩
end CR
