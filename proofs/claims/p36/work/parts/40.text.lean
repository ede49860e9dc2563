/-! Part 40: a text read by the class (out of whole's parts 36-38, 42). -/
def tr_ch (len : Nat) (tx : Nat → Nat) (p : Nat) : Nat := if p < len then tx p else 0
def tr_cv (len : Nat) (tx : Nat → Nat) (p : Nat) : Int32 := if p < len then nI (tx p) else -4
def tr_fg (len : Nat) (tx : Nat → Nat) (p : Nat) : Bool := decide (48 ≤ tr_ch len tx p) && decide (tr_ch len tx p ≤ 57)
def tr_nv (len : Nat) (tx : Nat → Nat) (p : Nat) : Option Nat := if tr_fg len tx p = true then (if tr_fg len tx (p + 1) = true then some ((tr_ch len tx p - 48) * 10 + (tr_ch len tx (p + 1) - 48)) else some (tr_ch len tx p - 48)) else none
def tr_ne (len : Nat) (tx : Nat → Nat) (p : Nat) : Nat := if tr_fg len tx p = true then (if tr_fg len tx (p + 1) = true then p + 2 else p + 1) else p
def tr_ok (len : Nat) (tx : Nat → Nat) : Prop := len ≤ 200 ∧ ∀ i, i < len → 32 ≤ tx i ∧ tx i ≤ 126
theorem tr_chL {len p : Nat} {tx : Nat → Nat} (h : tr_ok len tx) : tr_ch len tx p ≤ 126 := by
  unfold tr_ch
  by_cases c : p < len
  · rw [if_pos c]; exact (h.2 p c).2
  · rw [if_neg c]; omega
theorem tr_cvE {len p c : Nat} {tx : Nat → Nat} (h : tr_ok len tx) (h0 : 0 < c) (h2 : c < 2 ^ 31) : tr_cv len tx p = nI c ↔ tr_ch len tx p = c := by
  unfold tr_cv tr_ch
  by_cases q : p < len
  · rw [if_pos q, if_pos q]
    exact nI_eq (by have := (h.2 p q).2; omega) h2
  · rw [if_neg q, if_neg q]
    exact ⟨fun e => absurd e.symm (nI_ne4 h2), fun e => by omega⟩
theorem tr_fgT {len p : Nat} {tx : Nat → Nat} (h : tr_fg len tx p = true) : 48 ≤ tr_ch len tx p ∧ tr_ch len tx p ≤ 57 := by
  unfold tr_fg at h
  rw [Bool.and_eq_true, decide_eq_true_eq, decide_eq_true_eq] at h
  exact h
theorem tr_fgF {len p : Nat} {tx : Nat → Nat} (h : ¬ tr_fg len tx p = true) : tr_ch len tx p < 48 ∨ 57 < tr_ch len tx p := by
  unfold tr_fg at h
  rw [Bool.and_eq_true, decide_eq_true_eq, decide_eq_true_eq] at h
  omega
theorem tr_cvT {len p : Nat} {tx : Nat → Nat} (h : tr_fg len tx p = true) : tr_cv len tx p = nI (tr_ch len tx p) := by
  have := (tr_fgT h).1
  unfold tr_ch at this
  unfold tr_cv tr_ch
  by_cases q : p < len
  · rw [if_pos q, if_pos q]
  · rw [if_neg q] at this; omega
theorem tr_cvF {len p : Nat} {tx : Nat → Nat} (ho : tr_ok len tx) (h : ¬ tr_fg len tx p = true) : tr_cv len tx p < 48 ∨ ¬ tr_cv len tx p < 48 ∧ ¬ tr_cv len tx p ≤ 57 := by
  have := tr_fgF h
  unfold tr_ch at this
  unfold tr_cv
  by_cases q : p < len
  · rw [if_pos q] at this
    rw [if_pos q]
    have u := (ho.2 p q).2
    rcases this with c | c
    · left; rw [L_48]; exact nI_lt c (by omega)
    · right; rw [L_48, L_57]; exact ⟨nI_nlt (by omega) (by omega), nI_ge c (by omega)⟩
  · rw [if_neg q]; left; decide
theorem nI_sub {a b : Nat} (h : b ≤ a) : nI a - nI b = nI (a - b) := by
  obtain ⟨c, rfl⟩ : ∃ c, a = c + b := ⟨a - b, by omega⟩
  rw [← nI_add, Int32.add_sub_cancel, show c + b - b = c by omega]
theorem sf_sf {σ : Sg} {i k : Nat} {v w : Int32} : sf (sf σ i k v) i k w = sf σ i k w := by
  funext j x
  by_cases c : j = i
  · subst c
    rw [sf_row, sf_row, sf_row]
    by_cases d : x = k
    · subst d; rw [upd_self, upd_self]
    · rw [upd_ne d, upd_ne d, upd_ne d]
  · rw [sf_ne c, sf_ne c, sf_ne c]
theorem sf_cm {σ : Sg} {i k k' : Nat} {v w : Int32} (h : k ≠ k') : sf (sf σ i k v) i k' w = sf (sf σ i k' w) i k v := by
  funext j x
  by_cases c : j = i
  · subst c
    rw [sf_row, sf_row, sf_row, sf_row]
    by_cases d : x = k
    · subst d; rw [upd_ne h, upd_self, upd_self]
    · rw [upd_ne d]
      by_cases d' : x = k'
      · subst d'; rw [upd_self, upd_self]
      · rw [upd_ne d', upd_ne d', upd_ne d]
  · rw [sf_ne c, sf_ne c, sf_ne c, sf_ne c]
theorem sf_id {σ : Sg} {i k : Nat} {v : Int32} (h : σ i k = v) : sf σ i k v = σ := by
  funext j x
  by_cases c : j = i
  · subst c
    rw [sf_row]
    by_cases d : x = k
    · subst d; rw [upd_self, h]
    · rw [upd_ne d]
  · rw [sf_ne c]
/-- the class's text -/
def TC (σ : Sg) (len : Nat) (tx : Nat → Nat) : Prop := σ 1 2 = nI len ∧ tr_ok len tx ∧ ∀ i, i < len → σ 3 i = nI (tx i)
/-- what reading a number changes in the class -/
def CF (σ σ' : Sg) : Prop := (∀ j, j ≠ 1 → j ≠ 5 → σ' j = σ j) ∧ ∀ k, k ≠ 3 → σ' 1 k = σ 1 k
theorem CF.rf {σ : Sg} : CF σ σ := ⟨fun _ _ _ => rfl, fun _ _ => rfl⟩
theorem CF.tr {σ σ1 σ2 : Sg} (h : CF σ σ1) (g : CF σ1 σ2) : CF σ σ2 := ⟨fun j a b => (g.1 j a b).trans (h.1 j a b), fun k a => (g.2 k a).trans (h.2 k a)⟩
theorem CF_3 {σ : Sg} {v : Int32} : CF σ (sf σ 1 3 v) := ⟨fun j a _ => sf_ne a, fun k a => by rw [sf_row, upd_ne a]⟩
theorem CF_5 {σ : Sg} {k : Nat} {v : Int32} : CF σ (sf σ 5 k v) := ⟨fun j _ b => sf_ne b, fun k _ => by rw [sf_ne (by omega)]⟩
theorem kd1 : kd 1 = 1 := by decide
theorem kd5 : kd 5 = 9 := by decide
theorem KC_CF {σ σ' : Sg} (h : KC σ) (c : CF σ σ') : KC σ' := fun g a b => by
  rw [c.1 g (fun e => by rw [e, kd1] at b; omega) (fun e => by rw [e, kd5] at b; omega)]
  exact h g a b
section CR
variable {σ σ' : Sg} {len : Nat} {tx : Nat → Nat}
theorem TC_CF (h : TC σ len tx) (c : CF σ σ') : TC σ' len tx := ⟨by rw [c.2 2 (by omega)]; exact h.1, h.2.1, fun i hi => by rw [c.1 3 (by omega) (by omega)]; exact h.2.2 i hi⟩
theorem tr_lh (hK : KC σ) (h : TC σ len tx) {p : Nat} (hp : σ 1 3 = nI p) (h2 : p < 2 ^ 20) : f_X1_letterHere σ 1 = some (tr_cv len tx p) := by
  have h200 := h.2.1.1
  unfold f_X1_letterHere tr_cv
  rw [h.1, hp]
  by_cases c : p < len
  · rw [if_neg (nI_ge c (by omega)), if_pos c, L_0, at_in hK g2g (by omega) (by omega), sb, show 0 * 200 + p = p by omega]
    exact congrArg some (h.2.2 p c)
  · rw [if_pos (nI_le (by omega) (by omega)), if_neg c]
theorem tr_rf (hK : KC σ) (h : TC σ len tx) {p : Nat} (hp : σ 1 3 = nI p) (h2 : p < 2 ^ 20) : f_X1_readFigure σ 1 = if tr_fg len tx p = true then some (nI (tr_ch len tx p - 48), sf σ 1 3 (nI (p + 1))) else some (-4, σ) := by
  unfold f_X1_readFigure
  rw [tr_lh hK h hp h2, sb]
  by_cases c : tr_fg len tx p = true
  · obtain ⟨c1, c2⟩ := tr_fgT c
    rw [if_pos c, tr_cvT c, L_48, L_57, if_neg (nI_nlt c1 (by omega)), if_pos (nI_le c2 (by omega)), sb, hp, nI_1, nI_sub c1]
  · rw [if_neg c]
    rcases tr_cvF h.2.1 c with e | ⟨e1, e2⟩
    · rw [if_pos e]
    · rw [if_neg e1, if_neg e2]
theorem g4g : gd (1 + 3) 3 3 := gd_of (by decide +kernel)
/-- what comes behind a number -/
def tr_tl (a1 x2 v : Int32) (τ : Sg) : Option ((Int32 × Sg) ⊕ (Sg ⊕ (Sg ⊕ Sg))) :=
  (f_X0_put τ (1 + 3) (0 : Int32) x2 v).bind fun σ50 =>
  (f_X1_letterHere σ50 1).bind fun v54 =>
  if a1 ≤ (x2 + (1 : Int32)) then
  if v54 = (59 : Int32) then
  (some (sf σ50 1 3 ((σ50 1 3) + (1 : Int32)))).bind fun σ83 =>
  some (.inl ((x2 + (1 : Int32)), σ83))
  else
  some (.inr (.inr (.inl σ50)))
  else
  if v54 = (44 : Int32) then
  (some (sf σ50 1 3 ((σ50 1 3) + (1 : Int32)))).bind fun σ83 =>
  some (.inl ((x2 + (1 : Int32)), σ83))
  else
  some (.inr (.inr (.inl σ50)))
def tr_sp (h i : Nat) : Nat := if h ≤ i + 1 then 59 else 44
theorem tr_tlo (hK : KC σ) (h : TC σ len tx) {e i H v : Nat} (hp : σ 1 3 = nI e) (h2 : e < 2 ^ 20) (hi : i < 3) (hH : H ≤ 3) : ∃ σ', CF σ σ' ∧ tr_tl (nI H) (nI i) (nI v) σ = (if tr_ch len tx e = tr_sp H i then some (.inl (nI (i + 1), σ')) else some (.inr (.inr (.inl σ')))) ∧ σ' 5 = upd (σ 5) i (nI v) ∧ (tr_ch len tx e = tr_sp H i → σ' 1 3 = nI (e + 1)) := by
  have F : CF σ (sf σ 5 i (nI v)) := CF_5
  have hp5 : (sf σ 5 i (nI v)) 1 3 = nI e := by rw [sf_ne (by omega)]; exact hp
  have T0 : tr_tl (nI H) (nI i) (nI v) σ = (if nI H ≤ nI (i + 1) then
      (if tr_cv len tx e = (59 : Int32) then some (.inl (nI (i + 1), sf (sf σ 5 i (nI v)) 1 3 (nI (e + 1)))) else some (.inr (.inr (.inl (sf σ 5 i (nI v))))))
      else (if tr_cv len tx e = (44 : Int32) then some (.inl (nI (i + 1), sf (sf σ 5 i (nI v)) 1 3 (nI (e + 1)))) else some (.inr (.inr (.inl (sf σ 5 i (nI v))))))) := by
    unfold tr_tl
    rw [L_0, put_in hK g4g hi (by omega), sb, show 0 * 3 + i = i by omega, tr_lh (KC_CF hK F) (TC_CF h F) hp5 h2, sb, hp5, nI_1, nI_1]
    rfl
  rw [T0]
  by_cases c : H ≤ i + 1
  · rw [if_pos (nI_le c (by omega)), show tr_sp H i = 59 from if_pos c, L_59]
    by_cases d : tr_ch len tx e = 59
    · exact ⟨sf (sf σ 5 i (nI v)) 1 3 (nI (e + 1)), F.tr CF_3, by rw [if_pos d, if_pos ((tr_cvE h.2.1 (by omega) (by omega)).mpr d)], by rw [sf_ne (by omega), sf_row], fun _ => by rw [sf_row, upd_self]⟩
    · exact ⟨sf σ 5 i (nI v), F, by rw [if_neg d, if_neg (fun z => d ((tr_cvE h.2.1 (by omega) (by omega)).mp z))], by rw [sf_row], fun z => absurd z d⟩
  · rw [if_neg (nI_ge (by omega) (by omega)), show tr_sp H i = 44 from if_neg c, L_44]
    by_cases d : tr_ch len tx e = 44
    · exact ⟨sf (sf σ 5 i (nI v)) 1 3 (nI (e + 1)), F.tr CF_3, by rw [if_pos d, if_pos ((tr_cvE h.2.1 (by omega) (by omega)).mpr d)], by rw [sf_ne (by omega), sf_row], fun _ => by rw [sf_row, upd_self]⟩
    · exact ⟨sf σ 5 i (nI v), F, by rw [if_neg d, if_neg (fun z => d ((tr_cvE h.2.1 (by omega) (by omega)).mp z))], by rw [sf_row], fun z => absurd z d⟩
theorem tr_b1 {a1 x2 : Int32} : f_X1_readNumbers_b1 1 a1 x2 σ = (if a1 ≤ x2 then some (.inr (.inr (.inr σ))) else (f_X1_readFigure σ 1).bind fun q8 => if ¬ q8.1 = (-4 : Int32) then (f_X1_readFigure q8.2 1).bind fun q21 => if ¬ q21.1 = (-4 : Int32) then tr_tl a1 x2 ((q8.1 * (10 : Int32)) + q21.1) q21.2 else tr_tl a1 x2 q8.1 q21.2 else some (.inr (.inl q8.2))) := rfl
theorem tr_st (hK : KC σ) (h : TC σ len tx) {p i H : Nat} (hp : σ 1 3 = nI p) (h2 : p + 3 < 2 ^ 20) (hi : i < H) (hH : H ≤ 3) : ∃ σ', CF σ σ' ∧ ((tr_nv len tx p = none ∧ f_X1_readNumbers_b1 1 (nI H) (nI i) σ = some (.inr (.inl σ'))) ∨ ∃ v, tr_nv len tx p = some v ∧ f_X1_readNumbers_b1 1 (nI H) (nI i) σ = (if tr_ch len tx (tr_ne len tx p) = tr_sp H i then some (.inl (nI (i + 1), σ')) else some (.inr (.inr (.inl σ')))) ∧ σ' 5 = upd (σ 5) i (nI v) ∧ (tr_ch len tx (tr_ne len tx p) = tr_sp H i → σ' 1 3 = nI (tr_ne len tx p + 1))) := by
  rw [tr_b1, if_neg (nI_ge hi (by omega)), tr_rf hK h hp (by omega)]
  by_cases c : tr_fg len tx p = true
  · obtain ⟨c1, c2⟩ := tr_fgT c
    have F : CF σ (sf σ 1 3 (nI (p + 1))) := CF_3
    have hp1 : (sf σ 1 3 (nI (p + 1))) 1 3 = nI (p + 1) := by rw [sf_row, upd_self]
    rw [if_pos c, sb]
    dsimp only
    rw [if_pos (nI_ne4 (by omega)), tr_rf (KC_CF hK F) (TC_CF h F) hp1 (by omega)]
    by_cases d : tr_fg len tx (p + 1) = true
    · obtain ⟨d1, d2⟩ := tr_fgT d
      have F2 : CF σ (sf (sf σ 1 3 (nI (p + 1))) 1 3 (nI (p + 1 + 1))) := F.tr CF_3
      rw [if_pos d, sb]
      dsimp only
      rw [if_pos (nI_ne4 (by omega)), L_10, nI_mul, nI_add]
      obtain ⟨σ', G, e, g5, g3⟩ := tr_tlo (KC_CF hK F2) (TC_CF h F2) (e := p + 2) (i := i) (H := H) (v := (tr_ch len tx p - 48) * 10 + (tr_ch len tx (p + 1) - 48)) (by rw [sf_row, upd_self]) (by omega) (by omega) hH
      have en : tr_ne len tx p = p + 2 := by unfold tr_ne; rw [if_pos c, if_pos d]
      have ev : tr_nv len tx p = some ((tr_ch len tx p - 48) * 10 + (tr_ch len tx (p + 1) - 48)) := by unfold tr_nv; rw [if_pos c, if_pos d]
      rw [en]
      exact ⟨σ', F2.tr G, Or.inr ⟨_, ev, e, by rw [g5, sf_ne (by omega), sf_ne (by omega)], g3⟩⟩
    · rw [if_neg d, sb]
      dsimp only
      rw [if_neg (fun z => z rfl)]
      obtain ⟨σ', G, e, g5, g3⟩ := tr_tlo (KC_CF hK F) (TC_CF h F) (e := p + 1) (i := i) (H := H) (v := tr_ch len tx p - 48) hp1 (by omega) (by omega) hH
      have en : tr_ne len tx p = p + 1 := by unfold tr_ne; rw [if_pos c, if_neg d]
      have ev : tr_nv len tx p = some (tr_ch len tx p - 48) := by unfold tr_nv; rw [if_pos c, if_neg d]
      rw [en]
      exact ⟨σ', F.tr G, Or.inr ⟨_, ev, e, by rw [g5, sf_ne (by omega)], g3⟩⟩
  · rw [if_neg c, sb]
    dsimp only
    rw [if_neg (fun z => z rfl)]
    exact ⟨σ, CF.rf, Or.inl ⟨by unfold tr_nv; rw [if_neg c], rfl⟩⟩
/-- numbers, parted -/
def tr_rn (len : Nat) (tx : Nat → Nat) : Nat → Nat → Nat → (Nat → Nat) → Option ((Nat → Nat) × Nat)
  | 0, _, p, f => some (f, p)
  | k + 1, i, p, f => match tr_nv len tx p with
    | none => none
    | some v => if tr_ch len tx (tr_ne len tx p) = (if k = 0 then 59 else 44) then tr_rn len tx k (i + 1) (tr_ne len tx p + 1) (upN f i v) else none
theorem tr_neL {p : Nat} : p ≤ tr_ne len tx p ∧ tr_ne len tx p ≤ p + 2 := by
  unfold tr_ne
  split
  · split <;> omega
  · omega
theorem tr_rnL : ∀ {k i p q : Nat} {f g : Nat → Nat}, tr_rn len tx k i p f = some (g, q) → p ≤ q ∧ q ≤ p + 3 * k
  | 0, i, p, q, f, g, h => by
    unfold tr_rn at h; cases h; omega
  | k + 1, i, p, q, f, g, h => by
    unfold tr_rn at h
    cases e : tr_nv len tx p with
    | none => rw [e] at h; cases h
    | some v =>
      rw [e] at h
      dsimp only at h
      by_cases c : tr_ch len tx (tr_ne len tx p) = (if k = 0 then 59 else 44)
      · rw [if_pos c] at h
        have := tr_rnL h
        have := @tr_neL len tx p
        omega
      · rw [if_neg c] at h; cases h
theorem tr_lp {H : Nat} (hH : H ≤ 3) : ∀ (k i p m : Nat) (f : Nat → Nat) (σ : Sg), i + k = H → KC σ → TC σ len tx → σ 1 3 = nI p → p + 3 * k + 3 < 2 ^ 20 → (∀ j, j < i → σ 5 j = nI (f j)) → k < m → ∃ rr, lp (fun st => f_X1_readNumbers_b1 1 (nI H) st.1 st.2) m (nI i, σ) = some rr ∧ ∃ σ', CF σ σ' ∧ (match tr_rn len tx k i p f with
    | none => rr = .inl σ' ∨ rr = .inr (.inl σ')
    | some (g, q) => rr = .inr (.inr σ') ∧ σ' 1 3 = nI q ∧ ∀ j, j < H → σ' 5 j = nI (g j))
  | 0, i, p, m + 1, f, σ, h1, hK, h, hp, h2, hf, hm => by
    refine ⟨_, lp_end (r := .inr (.inr σ)) ?_, σ, CF.rf, ?_⟩
    · show f_X1_readNumbers_b1 1 (nI H) (nI i) σ = _
      rw [tr_b1, if_pos (nI_le (by omega) (by omega))]
    · unfold tr_rn
      exact ⟨rfl, hp, fun j hj => hf j (by omega)⟩
  | k + 1, i, p, m + 1, f, σ, h1, hK, h, hp, h2, hf, hm => by
    obtain ⟨σ1, F, ⟨e, b⟩ | ⟨v, e, b, g5, g3⟩⟩ := tr_st hK h (i := i) (H := H) hp (by omega) (by omega) hH
    · refine ⟨_, lp_end (r := .inl σ1) b, σ1, F, ?_⟩
      unfold tr_rn
      rw [e]
      exact Or.inl rfl
    · have sp : tr_sp H i = if k = 0 then 59 else 44 := by
        unfold tr_sp
        by_cases c : k = 0
        · rw [if_pos c, if_pos (by omega)]
        · rw [if_neg c, if_neg (by omega)]
      by_cases c : tr_ch len tx (tr_ne len tx p) = tr_sp H i
      · rw [if_pos c] at b
        have L := @tr_neL len tx p
        obtain ⟨rr, e2, σ', F', r⟩ := tr_lp hH k (i + 1) (tr_ne len tx p + 1) m (upN f i v) σ1 (by omega) (KC_CF hK F) (TC_CF h F) (g3 c) (by omega) (fun j hj => by
          rw [g5]
          unfold upN
          by_cases d : j = i
          · subst d; rw [upd_self, if_pos rfl]
          · rw [upd_ne d, if_neg d]; exact hf j (by omega)) (by omega)
        refine ⟨rr, (lp_go b).trans e2, σ', F.tr F', ?_⟩
        unfold tr_rn
        rw [e]
        dsimp only
        rw [if_pos (c.trans sp)]
        exact r
      · rw [if_neg c] at b
        refine ⟨_, lp_end (r := .inr (.inl σ1)) b, σ1, F, ?_⟩
        unfold tr_rn
        rw [e]
        dsimp only
        rw [if_neg (fun z => c (z.trans sp.symm))]
        exact Or.inr rfl
theorem tr_rns (hK : KC σ) (h : TC σ len tx) {p H : Nat} (hp : σ 1 3 = nI p) (h2 : p + 20 < 2 ^ 20) (hH : H ≤ 3) : ∃ r σ', f_X1_readNumbers σ 1 (nI H) = some (r, σ') ∧ CF σ σ' ∧ (match tr_rn len tx H 0 p (fun _ => 0) with
    | none => r = 0
    | some (g, q) => r = 1 ∧ σ' 1 3 = nI q ∧ ∀ j, j < H → σ' 5 j = nI (g j)) := by
  obtain ⟨rr, e, σ', F, r⟩ := tr_lp (len := len) (tx := tx) hH H 0 p FU (fun _ => 0) σ (by omega) hK h hp (by omega) (fun j hj => absurd hj (by omega)) (by unfold FU; omega)
  unfold f_X1_readNumbers
  rw [L_0, e, sb]
  cases c : tr_rn len tx H 0 p (fun _ => 0) with
  | none =>
    rw [c] at r
    dsimp only at r
    rcases r with rfl | rfl
    · exact ⟨0, σ', rfl, F, rfl⟩
    · exact ⟨0, σ', rfl, F, rfl⟩
  | some w =>
    obtain ⟨g, q⟩ := w
    rw [c] at r
    dsimp only at r
    obtain ⟨rfl, r2, r3⟩ := r
    exact ⟨1, σ', rfl, F, rfl, r2, r3⟩
end CR

/-- a draft: towns, miles, posts, walkers, kinds, towns and ages of posts, places and goals of walkers -/
abbrev Dr : Type := Nat × Mi × Nat × Nat × (Nat → Nat) × (Nat → Nat) × (Nat → Nat) × (Nat → Nat) × (Nat → Nat)
def Dr.n (d : Dr) : Nat := d.1
def Dr.mi (d : Dr) : Mi := d.2.1
def Dr.np (d : Dr) : Nat := d.2.2.1
def Dr.nw (d : Dr) : Nat := d.2.2.2.1
def Dr.ki (d : Dr) : Nat → Nat := d.2.2.2.2.1
def Dr.to (d : Dr) : Nat → Nat := d.2.2.2.2.2.1
def Dr.ag (d : Dr) : Nat → Nat := d.2.2.2.2.2.2.1
def Dr.wa (d : Dr) : Nat → Nat := d.2.2.2.2.2.2.2.1
def Dr.go (d : Dr) : Nat → Nat := d.2.2.2.2.2.2.2.2
def d0r : Dr := (6, fun _ _ => 0, 0, 0, fun _ => 0, fun _ => 0, fun _ => 0, fun _ => 0, fun _ => 0)
def tr_it (len : Nat) (tx : Nat → Nat) (b : Bool) (d : Dr) (p : Nat) : Option (Dr × Nat) :=
  if tr_ch len tx p = 110 then
    match tr_rn len tx 1 0 (p + 1) (fun _ => 0) with
    | none => none
    | some (f, q) => if b = true ∧ 2 ≤ f 0 ∧ f 0 ≤ 8 then some ((f 0, d0r.2), q) else none
  else if tr_ch len tx p = 114 then
    match tr_rn len tx 3 0 (p + 1) (fun _ => 0) with
    | none => none
    | some (f, q) => if f 0 < Dr.n d ∧ f 1 < Dr.n d ∧ f 0 ≠ f 1 ∧ 1 ≤ f 2 ∧ f 2 ≤ 9 then some ((Dr.n d, sM (Dr.mi d) (f 0) (f 1) (f 2), d.2.2), q) else none
  else if tr_ch len tx p = 112 then
    match tr_rn len tx 3 0 (p + 1) (fun _ => 0) with
    | none => none
    | some (f, q) => if f 0 ≤ 3 ∧ f 1 < Dr.n d ∧ f 2 ≤ 59 ∧ Dr.np d < 6 then some ((Dr.n d, Dr.mi d, Dr.np d + 1, Dr.nw d, upN (Dr.ki d) (Dr.np d) (f 0), upN (Dr.to d) (Dr.np d) (f 1), upN (Dr.ag d) (Dr.np d) (f 2), Dr.wa d, Dr.go d), q) else none
  else if tr_ch len tx p = 119 then
    match tr_rn len tx 2 0 (p + 1) (fun _ => 0) with
    | none => none
    | some (f, q) => if f 0 < Dr.n d ∧ f 1 < Dr.n d ∧ f 0 ≠ f 1 ∧ Dr.nw d < 5 then some ((Dr.n d, Dr.mi d, Dr.np d, Dr.nw d + 1, Dr.ki d, Dr.to d, Dr.ag d, upN (Dr.wa d) (Dr.nw d) (f 0), upN (Dr.go d) (Dr.nw d) (f 1)), q) else none
  else none
def DV (d : Dr) : Prop := VM (Dr.n d) (Dr.mi d) ∧ (Dr.np d ≤ 6 ∧ Dr.nw d ≤ 5) ∧ (∀ p, Dr.ki d p ≤ 3) ∧ (∀ p, Dr.to d p < Dr.n d) ∧ (∀ p, Dr.ag d p ≤ 59) ∧ (∀ v, Dr.wa d v < Dr.n d) ∧ ∀ v, Dr.go d v < Dr.n d
theorem upN_le {f : Nat → Nat} {p v L : Nat} (h : ∀ q, f q ≤ L) (hv : v ≤ L) : ∀ q, upN f p v q ≤ L := fun q => by
  unfold upN; split
  · exact hv
  · exact h q
theorem upN_lt {f : Nat → Nat} {p v L : Nat} (h : ∀ q, f q < L) (hv : v < L) : ∀ q, upN f p v q < L := fun q => by
  unfold upN; split
  · exact hv
  · exact h q
theorem DV_0 {n : Nat} (h2 : 2 ≤ n) (h8 : n ≤ 8) : DV (n, d0r.2) := ⟨⟨h2, h8, fun _ _ => Nat.zero_le _, fun _ _ _ => rfl⟩, ⟨Nat.zero_le _, Nat.zero_le _⟩, fun _ => Nat.zero_le _, fun _ => by show 0 < n; omega, fun _ => Nat.zero_le _, fun _ => by show 0 < n; omega, fun _ => by show 0 < n; omega⟩
section IT
variable {σ σ' : Sg} {len : Nat} {tx : Nat → Nat} {b : Bool} {d : Dr} {p y : Nat}
theorem it110 (c : tr_ch len tx p = 110) {g : Nat → Nat} {q : Nat} (e : tr_rn len tx 1 0 (p + 1) (fun _ => 0) = some (g, q)) : tr_it len tx b d p = if b = true ∧ 2 ≤ g 0 ∧ g 0 ≤ 8 then some ((g 0, d0r.2), q) else none := by
  unfold tr_it; rw [if_pos c, e]
theorem it110n (c : tr_ch len tx p = 110) (e : tr_rn len tx 1 0 (p + 1) (fun _ => 0) = none) : tr_it len tx b d p = none := by
  unfold tr_it; rw [if_pos c, e]
theorem it114 (c : tr_ch len tx p = 114) {f : Nat → Nat} {q : Nat} (e : tr_rn len tx 3 0 (p + 1) (fun _ => 0) = some (f, q)) : tr_it len tx b d p = if f 0 < Dr.n d ∧ f 1 < Dr.n d ∧ f 0 ≠ f 1 ∧ 1 ≤ f 2 ∧ f 2 ≤ 9 then some ((Dr.n d, sM (Dr.mi d) (f 0) (f 1) (f 2), d.2.2), q) else none := by
  unfold tr_it; rw [if_neg (by omega), if_pos c, e]
theorem it114n (c : tr_ch len tx p = 114) (e : tr_rn len tx 3 0 (p + 1) (fun _ => 0) = none) : tr_it len tx b d p = none := by
  unfold tr_it; rw [if_neg (by omega), if_pos c, e]
theorem it112 (c : tr_ch len tx p = 112) {f : Nat → Nat} {q : Nat} (e : tr_rn len tx 3 0 (p + 1) (fun _ => 0) = some (f, q)) : tr_it len tx b d p = if f 0 ≤ 3 ∧ f 1 < Dr.n d ∧ f 2 ≤ 59 ∧ Dr.np d < 6 then some ((Dr.n d, Dr.mi d, Dr.np d + 1, Dr.nw d, upN (Dr.ki d) (Dr.np d) (f 0), upN (Dr.to d) (Dr.np d) (f 1), upN (Dr.ag d) (Dr.np d) (f 2), Dr.wa d, Dr.go d), q) else none := by
  unfold tr_it; rw [if_neg (by omega), if_neg (by omega), if_pos c, e]
theorem it112n (c : tr_ch len tx p = 112) (e : tr_rn len tx 3 0 (p + 1) (fun _ => 0) = none) : tr_it len tx b d p = none := by
  unfold tr_it; rw [if_neg (by omega), if_neg (by omega), if_pos c, e]
theorem it119 (c : tr_ch len tx p = 119) {f : Nat → Nat} {q : Nat} (e : tr_rn len tx 2 0 (p + 1) (fun _ => 0) = some (f, q)) : tr_it len tx b d p = if f 0 < Dr.n d ∧ f 1 < Dr.n d ∧ f 0 ≠ f 1 ∧ Dr.nw d < 5 then some ((Dr.n d, Dr.mi d, Dr.np d, Dr.nw d + 1, Dr.ki d, Dr.to d, Dr.ag d, upN (Dr.wa d) (Dr.nw d) (f 0), upN (Dr.go d) (Dr.nw d) (f 1)), q) else none := by
  unfold tr_it; rw [if_neg (by omega), if_neg (by omega), if_neg (by omega), if_pos c, e]
theorem it119n (c : tr_ch len tx p = 119) (e : tr_rn len tx 2 0 (p + 1) (fun _ => 0) = none) : tr_it len tx b d p = none := by
  unfold tr_it; rw [if_neg (by omega), if_neg (by omega), if_neg (by omega), if_pos c, e]
theorem it_o (c1 : ¬ tr_ch len tx p = 110) (c2 : ¬ tr_ch len tx p = 114) (c3 : ¬ tr_ch len tx p = 112) (c4 : ¬ tr_ch len tx p = 119) : tr_it len tx b d p = none := by
  unfold tr_it; rw [if_neg c1, if_neg c2, if_neg c3, if_neg c4]
theorem it_V (dv : DV d) {d' : Dr} {q : Nat} (h : tr_it len tx b d p = some (d', q)) : DV d' ∧ p + 1 ≤ q ∧ q ≤ p + 10 := by
  obtain ⟨v1, ⟨v2, v2'⟩, v3, v4, v5, v6, v7⟩ := dv
  by_cases c1 : tr_ch len tx p = 110
  · cases e : tr_rn len tx 1 0 (p + 1) (fun _ => 0) with
    | none => rw [it110n c1 e] at h; cases h
    | some w =>
      obtain ⟨g, u⟩ := w
      have L := tr_rnL e
      rw [it110 c1 e] at h
      by_cases c : b = true ∧ 2 ≤ g 0 ∧ g 0 ≤ 8
      · rw [if_pos c] at h; cases h
        exact ⟨DV_0 c.2.1 c.2.2, by omega, by omega⟩
      · rw [if_neg c] at h; cases h
  by_cases c2 : tr_ch len tx p = 114
  · cases e : tr_rn len tx 3 0 (p + 1) (fun _ => 0) with
    | none => rw [it114n c2 e] at h; cases h
    | some w =>
      obtain ⟨g, u⟩ := w
      have L := tr_rnL e
      rw [it114 c2 e] at h
      by_cases c : g 0 < Dr.n d ∧ g 1 < Dr.n d ∧ g 0 ≠ g 1 ∧ 1 ≤ g 2 ∧ g 2 ≤ 9
      · rw [if_pos c] at h; cases h
        exact ⟨⟨VM_s v1 c.1 c.2.1 c.2.2.2.2, ⟨v2, v2'⟩, v3, v4, v5, v6, v7⟩, by omega, by omega⟩
      · rw [if_neg c] at h; cases h
  by_cases c3 : tr_ch len tx p = 112
  · cases e : tr_rn len tx 3 0 (p + 1) (fun _ => 0) with
    | none => rw [it112n c3 e] at h; cases h
    | some w =>
      obtain ⟨g, u⟩ := w
      have L := tr_rnL e
      rw [it112 c3 e] at h
      by_cases c : g 0 ≤ 3 ∧ g 1 < Dr.n d ∧ g 2 ≤ 59 ∧ Dr.np d < 6
      · rw [if_pos c] at h; cases h
        exact ⟨⟨v1, ⟨c.2.2.2, v2'⟩, upN_le v3 c.1, upN_lt v4 c.2.1, upN_le v5 c.2.2.1, v6, v7⟩, by omega, by omega⟩
      · rw [if_neg c] at h; cases h
  by_cases c4 : tr_ch len tx p = 119
  · cases e : tr_rn len tx 2 0 (p + 1) (fun _ => 0) with
    | none => rw [it119n c4 e] at h; cases h
    | some w =>
      obtain ⟨g, u⟩ := w
      have L := tr_rnL e
      rw [it119 c4 e] at h
      by_cases c : g 0 < Dr.n d ∧ g 1 < Dr.n d ∧ g 0 ≠ g 1 ∧ Dr.nw d < 5
      · rw [if_pos c] at h; cases h
        exact ⟨⟨v1, ⟨v2, c.2.2.2⟩, v3, v4, v5, upN_lt v6 c.1, upN_lt v7 c.2.1⟩, by omega, by omega⟩
      · rw [if_neg c] at h; cases h
  rw [it_o c1 c2 c3 c4] at h; cases h
/-- a draft in a yard of the class -/
def DC (σ : Sg) (y : Nat) (d : Dr) : Prop := (σ y 5 = nI (Dr.np d) ∧ σ y 6 = nI (Dr.nw d) ∧ σ y 7 = nI 0 ∧ σ y 8 = nI 0 ∧ σ y 9 = nI 0) ∧ RC σ (y + 1) (Dr.n d) (Dr.mi d) ∧ (∀ p, p < Dr.np d → σ (y + 6 + 1) (p * 3) = nI (Dr.ki d p) ∧ σ (y + 6 + 1) (p * 3 + 1) = nI (Dr.to d p) ∧ σ (y + 6 + 1) (p * 3 + 2) = nI (Dr.ag d p)) ∧ (∀ v, v < Dr.nw d → σ (y + 12 + 1) (v * 2) = nI (Dr.wa d v) ∧ σ (y + 12 + 1) (v * 2 + 1) = nI (Dr.go d v))
/-- what reading an item changes in the class -/
def YF (y : Nat) (σ σ' : Sg) : Prop := (∀ j, j ≠ 1 → j ≠ 5 → (j < y ∨ y + 13 < j) → σ' j = σ j) ∧ ∀ k, k ≠ 3 → σ' 1 k = σ 1 k
theorem YF.rf : YF y σ σ := ⟨fun _ _ _ _ => rfl, fun _ _ => rfl⟩
theorem YF.tr {σ1 σ2 : Sg} (h : YF y σ σ1) (g : YF y σ1 σ2) : YF y σ σ2 := ⟨fun j a b c => (g.1 j a b c).trans (h.1 j a b c), fun k a => (g.2 k a).trans (h.2 k a)⟩
theorem YF_CF (h : CF σ σ') : YF y σ σ' := ⟨fun j a b _ => h.1 j a b, h.2⟩
theorem YF_y (h6 : 6 ≤ y) (h : ∀ i, (i < y ∨ y + 13 < i) → σ' i = σ i) : YF y σ σ' := ⟨fun j _ _ c => h j c, fun k _ => by rw [h 1 (by omega)]⟩
theorem DC_CF (h6 : 6 ≤ y) (hD : DC σ y d) (c : CF σ σ') : DC σ' y d := by
  obtain ⟨h1, h2, h3, h4⟩ := hD
  have f : ∀ j, 6 ≤ j → σ' j = σ j := fun j hj => c.1 j (by omega) (by omega)
  refine ⟨by rw [f y h6]; exact h1, RC_fr h2 (f _ (by omega)) (f _ (by omega)), ?_, ?_⟩
  · rw [f (y + 6 + 1) (by omega)]; exact h3
  · rw [f (y + 12 + 1) (by omega)]; exact h4
theorem TC_YF (h6 : 6 ≤ y) (h : TC σ len tx) (c : YF y σ σ') : TC σ' len tx := ⟨by rw [c.2 2 (by omega)]; exact h.1, h.2.1, fun i hi => by rw [c.1 3 (by omega) (by omega) (by omega)]; exact h.2.2 i hi⟩
theorem cl_ok {r t : Nat} (hK : KC σ) (hg : gRk r) (h1 : 1 ≤ t) (h8 : t ≤ 8) : ∃ σ', f_X3_clear σ r (nI t) = some σ' ∧ KC σ' ∧ (∀ i, i ≠ r → i ≠ r + 1 + 1 → σ' i = σ i) ∧ RC σ' r t (fun _ _ => 0) := by
  unfold f_X3_clear
  rw [L_8, L_0, if_neg (nI_nlt (show t ≤ 8 by omega) (by omega)), if_pos (nI_lt (show 0 < t by omega) (by omega)), sb]
  have K1 : KC (sf σ r 0 (nI t)) := KC_sf hK (by rw [hg.1.2.1]; decide)
  obtain ⟨σ1, e1, f1, g1⟩ := fill_ok (σ := sf σ r 0 (nI t)) (v := nI 0) hg.1.m
  rw [e1, sb]
  refine ⟨σ1, rfl, KC_fr K1 (by rw [hg.2.2]; decide) f1, fun i a b => (f1 i b).trans (sf_ne a), by rw [f1 r (by omega), sf_row, upd_self], fun a c ha hc => ?_⟩
  rw [g1, if_pos (by omega)]
theorem it_R {n : Nat} {mi : Mi} {t : Nat} (h : RC σ (y + 1) n mi) (hn : n ≤ 8) (ht : t < 2 ^ 30) : f_X5_isTown σ y (nI t) = some (b32 (t < n)) := by
  unfold f_X5_isTown f_X3_towns
  rw [if_neg (nI_pos (by omega)), h.1, sb]
  by_cases c : t < n
  · rw [if_neg (nI_ge c (by omega)), b32_t c]
  · rw [if_pos (nI_le (by omega) (by omega)), b32_f c]
theorem a2_R {n : Nat} {mi : Mi} {s t : Nat} (h : RC σ (y + 1) n mi) (hn : n ≤ 8) (hs : s < 2 ^ 30) (ht : t < 2 ^ 30) : f_X5_areTwoTowns σ y (nI s) (nI t) = some (b32 (s < n ∧ t < n ∧ s ≠ t)) := by
  unfold f_X5_areTwoTowns
  rw [it_R h hn hs, sb]
  by_cases c : s < n
  · rw [b32_t c, if_neg one0, it_R h hn ht, sb]
    by_cases e : t < n
    · rw [b32_t e, if_neg one0]
      by_cases g : s = t
      · rw [if_pos (by rw [g]), b32_f (fun z => z.2.2 g)]
      · rw [if_neg (fun z => g ((nI_eq (by omega) (by omega)).mp z)), b32_t ⟨c, e, g⟩]
    · rw [b32_f e, if_pos rfl, b32_f (fun z => e z.2.1)]
  · rw [b32_f c, if_pos rfl, b32_f (fun z => c z.1)]
theorem te_t {t : Nat} (hK : KC σ) (hg : gY y) (ht : t < 2 ^ 30) : ∃ r σ', f_X5_tellTowns σ y (nI t) = some (r, σ') ∧ KC σ' ∧ (∀ i, (i < y ∨ y + 13 < i) → σ' i = σ i) ∧ (if 2 ≤ t ∧ t ≤ 8 then r = 1 ∧ (∀ i, i ≠ y + 1 → i ≠ y + 1 + 1 + 1 → σ' i = σ i) ∧ RC σ' (y + 1) t (fun _ _ => 0) else r = 0) := by
  unfold f_X5_tellTowns
  rw [L_2, L_8]
  by_cases c : 2 ≤ t
  · rw [if_neg (nI_nlt c (by omega))]
    by_cases e : t ≤ 8
    · rw [if_pos (nI_le e (by omega))]
      obtain ⟨σ1, e1, K1, f1, R1⟩ := cl_ok hK hg.2.2.1 (show 1 ≤ t by omega) e
      rw [e1, sb]
      exact ⟨1, σ1, rfl, K1, fun i hi => f1 i (by omega) (by omega), by rw [if_pos ⟨c, e⟩]; exact ⟨rfl, f1, R1⟩⟩
    · rw [if_neg (nI_ge (by omega) (by omega))]
      exact ⟨0, σ, rfl, hK, fun _ _ => rfl, by rw [if_neg (fun z => e z.2)]⟩
  · rw [if_pos (nI_lt (by omega) (by omega))]
    exact ⟨0, σ, rfl, hK, fun _ _ => rfl, by rw [if_neg (fun z => c z.1)]⟩
theorem te_r {u v l : Nat} (hK : KC σ) (hg : gY y) (hD : DC σ y d) (dv : DV d) (hu : u < 2 ^ 30) (hv : v < 2 ^ 30) (hl : l < 2 ^ 30) : ∃ r σ', f_X5_tellRoad σ y (nI u) (nI v) (nI l) = some (r, σ') ∧ KC σ' ∧ (∀ i, (i < y ∨ y + 13 < i) → σ' i = σ i) ∧ (if u < Dr.n d ∧ v < Dr.n d ∧ u ≠ v ∧ 1 ≤ l ∧ l ≤ 9 then r = 1 ∧ DC σ' y (Dr.n d, sM (Dr.mi d) u v l, d.2.2) else r = 0) := by
  obtain ⟨h1, h2, h3, h4⟩ := hD
  have hn := dv.1.2.1
  unfold f_X5_tellRoad
  rw [a2_R h2 hn hu hv, sb, L_1, L_9]
  by_cases c : u < Dr.n d ∧ v < Dr.n d ∧ u ≠ v
  · rw [b32_t c, if_neg one0]
    by_cases e : 1 ≤ l
    · rw [if_neg (nI_nlt e (by omega))]
      by_cases g : l ≤ 9
      · rw [if_pos (nI_le g (by omega))]
        obtain ⟨σ1, e1, K1, f1, R1⟩ := se_ok hK hg.2.2.1 h2 hn (l := l) c.1 c.2.1
        rw [e1, sb]
        refine ⟨1, σ1, rfl, K1, fun i hi => f1 i (by omega), ?_⟩
        rw [if_pos ⟨c.1, c.2.1, c.2.2, e, g⟩]
        refine ⟨rfl, by rw [f1 y (by omega)]; exact h1, R1, ?_, ?_⟩
        · rw [f1 (y + 6 + 1) (by omega)]; exact h3
        · rw [f1 (y + 12 + 1) (by omega)]; exact h4
      · rw [if_neg (nI_ge (by omega) (by omega))]
        exact ⟨0, σ, rfl, hK, fun _ _ => rfl, by rw [if_neg (fun z => g z.2.2.2.2)]⟩
    · rw [if_pos (nI_lt (by omega) (by omega))]
      exact ⟨0, σ, rfl, hK, fun _ _ => rfl, by rw [if_neg (fun z => e z.2.2.2.1)]⟩
  · rw [b32_f c, if_pos rfl]
    exact ⟨0, σ, rfl, hK, fun _ _ => rfl, by rw [if_neg (fun z => c ⟨z.1, z.2.1, z.2.2.1⟩)]⟩
theorem te_p {u v l : Nat} (hK : KC σ) (hg : gY y) (hD : DC σ y d) (dv : DV d) (hu : u < 2 ^ 30) (hv : v < 2 ^ 30) (hl : l < 2 ^ 30) : ∃ r σ', f_X5_tellPost σ y (nI u) (nI v) (nI l) = some (r, σ') ∧ KC σ' ∧ (∀ i, (i < y ∨ y + 13 < i) → σ' i = σ i) ∧ (if u ≤ 3 ∧ v < Dr.n d ∧ l ≤ 59 ∧ Dr.np d < 6 then r = 1 ∧ DC σ' y (Dr.n d, Dr.mi d, Dr.np d + 1, Dr.nw d, upN (Dr.ki d) (Dr.np d) u, upN (Dr.to d) (Dr.np d) v, upN (Dr.ag d) (Dr.np d) l, Dr.wa d, Dr.go d) else r = 0) := by
  obtain ⟨h1, h2, h3, h4⟩ := hD
  have hn := dv.1.2.1
  have hp6 := dv.2.1.1
  have no : (¬ (u ≤ 3 ∧ v < Dr.n d ∧ l ≤ 59 ∧ Dr.np d < 6)) → ∃ r σ', (some ((0 : Int32), σ) : Option (Int32 × Sg)) = some (r, σ') ∧ KC σ' ∧ (∀ i, (i < y ∨ y + 13 < i) → σ' i = σ i) ∧ (if u ≤ 3 ∧ v < Dr.n d ∧ l ≤ 59 ∧ Dr.np d < 6 then r = 1 ∧ DC σ' y (Dr.n d, Dr.mi d, Dr.np d + 1, Dr.nw d, upN (Dr.ki d) (Dr.np d) u, upN (Dr.to d) (Dr.np d) v, upN (Dr.ag d) (Dr.np d) l, Dr.wa d, Dr.go d) else r = 0) := fun z => ⟨0, σ, rfl, hK, fun _ _ => rfl, by rw [if_neg z]⟩
  unfold f_X5_tellPost
  rw [if_neg (nI_pos (by omega)), L_4, L_6, L_59]
  by_cases c1 : u ≤ 3
  · rw [if_neg (nI_ge (show u < 4 by omega) (by omega)), it_R h2 hn hv, sb]
    by_cases c2 : v < Dr.n d
    · rw [b32_t c2, if_neg one0, if_neg (nI_pos (by omega))]
      by_cases c3 : l ≤ 59
      · rw [if_neg (nI_nlt c3 (by omega)), h1.1]
        by_cases c4 : Dr.np d < 6
        · rw [if_pos (nI_lt c4 (by omega))]
          have k9 : kd (y + 6 + 1) ≠ 0 := by rw [hg.2.2.2.1.2]; decide
          have hgd := hg.2.2.2.1.1
          rw [L_0, put_in hK hgd (c := 0) (by omega) (by omega), sb, sf_ne (by omega), h1.1, L_1, put_in (KC_sf hK k9) hgd (c := 1) (by omega) (by omega), sb, sf_ne (by omega), sf_ne (by omega), h1.1, L_2, put_in (KC_sf (KC_sf hK k9) k9) hgd (c := 2) (by omega) (by omega), sb, sb, sf_ne (by omega), sf_ne (by omega), sf_ne (by omega), h1.1, nI_add]
          refine ⟨_, _, rfl, KC_sf (KC_sf (KC_sf (KC_sf hK k9) k9) k9) (by rw [hg.2.1]; decide), fun i hi => by rw [sf_ne (by omega), sf_ne (by omega), sf_ne (by omega), sf_ne (by omega)], ?_⟩
          rw [if_pos ⟨c1, c2, c3, c4⟩]
          refine ⟨rfl, ⟨by rw [sf_row, upd_self]; rfl, ?_, ?_, ?_, ?_⟩, RC_fr h2 (by rw [sf_ne (by omega), sf_ne (by omega), sf_ne (by omega), sf_ne (by omega)]) (by rw [sf_ne (by omega), sf_ne (by omega), sf_ne (by omega), sf_ne (by omega)]), fun q hq => ?_, ?_⟩
          · rw [sf_row, upd_ne (by omega), sf_ne (by omega), sf_ne (by omega), sf_ne (by omega)]; exact h1.2.1
          · rw [sf_row, upd_ne (by omega), sf_ne (by omega), sf_ne (by omega), sf_ne (by omega)]; exact h1.2.2.1
          · rw [sf_row, upd_ne (by omega), sf_ne (by omega), sf_ne (by omega), sf_ne (by omega)]; exact h1.2.2.2.1
          · rw [sf_row, upd_ne (by omega), sf_ne (by omega), sf_ne (by omega), sf_ne (by omega)]; exact h1.2.2.2.2
          · have hq : q < Dr.np d + 1 := hq
            rw [sf_ne (by omega), sf_row, sf_row, sf_row]
            show _ = nI (upN (Dr.ki d) (Dr.np d) u q) ∧ _ = nI (upN (Dr.to d) (Dr.np d) v q) ∧ _ = nI (upN (Dr.ag d) (Dr.np d) l q)
            unfold upN
            by_cases e : q = Dr.np d
            · subst e
              rw [if_pos rfl, if_pos rfl, if_pos rfl]
              refine ⟨?_, ?_, ?_⟩
              · rw [upd_ne (by omega), upd_ne (by omega), show Dr.np d * 3 = Dr.np d * 3 + 0 from rfl, upd_self]
              · rw [upd_ne (by omega), upd_self]
              · rw [upd_self]
            · rw [if_neg e, if_neg e, if_neg e]
              obtain ⟨g1, g2, g3⟩ := h3 q (by omega)
              refine ⟨?_, ?_, ?_⟩
              · rw [upd_ne (by omega), upd_ne (by omega), upd_ne (by omega)]; exact g1
              · rw [upd_ne (by omega), upd_ne (by omega), upd_ne (by omega)]; exact g2
              · rw [upd_ne (by omega), upd_ne (by omega), upd_ne (by omega)]; exact g3
          · rw [sf_ne (by omega), sf_ne (by omega), sf_ne (by omega), sf_ne (by omega)]; exact h4
        · rw [if_neg (nI_nlt (by omega) (by omega))]
          exact no (fun z => c4 z.2.2.2)
      · rw [if_pos (nI_lt (by omega) (by omega))]
        exact no (fun z => c3 z.2.2.1)
    · rw [b32_f c2, if_pos rfl]
      exact no (fun z => c2 z.2.1)
  · rw [if_pos (nI_le (by omega) (by omega))]
    exact no (fun z => c1 z.1)
theorem te_w {u v : Nat} (hK : KC σ) (hg : gY y) (hD : DC σ y d) (dv : DV d) (hu : u < 2 ^ 30) (hv : v < 2 ^ 30) : ∃ r σ', f_X5_tellWalker σ y (nI u) (nI v) = some (r, σ') ∧ KC σ' ∧ (∀ i, (i < y ∨ y + 13 < i) → σ' i = σ i) ∧ (if u < Dr.n d ∧ v < Dr.n d ∧ u ≠ v ∧ Dr.nw d < 5 then r = 1 ∧ DC σ' y (Dr.n d, Dr.mi d, Dr.np d, Dr.nw d + 1, Dr.ki d, Dr.to d, Dr.ag d, upN (Dr.wa d) (Dr.nw d) u, upN (Dr.go d) (Dr.nw d) v) else r = 0) := by
  obtain ⟨h1, h2, h3, h4⟩ := hD
  have hn := dv.1.2.1
  have hw5 := dv.2.1.2
  unfold f_X5_tellWalker
  rw [a2_R h2 hn hu hv, sb, L_5]
  by_cases c : u < Dr.n d ∧ v < Dr.n d ∧ u ≠ v
  · rw [b32_t c, if_neg one0, h1.2.1]
    by_cases c4 : Dr.nw d < 5
    · rw [if_pos (nI_lt c4 (by omega))]
      have k9 : kd (y + 12 + 1) ≠ 0 := by rw [hg.2.2.2.2.2.2.2]; decide
      have hgd := hg.2.2.2.2.2.2.1
      rw [L_0, put_in hK hgd (c := 0) (by omega) (by omega), sb, sf_ne (by omega), h1.2.1, L_1, put_in (KC_sf hK k9) hgd (c := 1) (by omega) (by omega), sb, sb, sf_ne (by omega), sf_ne (by omega), h1.2.1, nI_add]
      refine ⟨_, _, rfl, KC_sf (KC_sf (KC_sf hK k9) k9) (by rw [hg.2.1]; decide), fun i hi => by rw [sf_ne (by omega), sf_ne (by omega), sf_ne (by omega)], ?_⟩
      rw [if_pos ⟨c.1, c.2.1, c.2.2, c4⟩]
      refine ⟨rfl, ⟨?_, by rw [sf_row, upd_self]; rfl, ?_, ?_, ?_⟩, RC_fr h2 (by rw [sf_ne (by omega), sf_ne (by omega), sf_ne (by omega)]) (by rw [sf_ne (by omega), sf_ne (by omega), sf_ne (by omega)]), ?_, fun q hq => ?_⟩
      · rw [sf_row, upd_ne (by omega), sf_ne (by omega), sf_ne (by omega)]; exact h1.1
      · rw [sf_row, upd_ne (by omega), sf_ne (by omega), sf_ne (by omega)]; exact h1.2.2.1
      · rw [sf_row, upd_ne (by omega), sf_ne (by omega), sf_ne (by omega)]; exact h1.2.2.2.1
      · rw [sf_row, upd_ne (by omega), sf_ne (by omega), sf_ne (by omega)]; exact h1.2.2.2.2
      · rw [sf_ne (by omega), sf_ne (by omega), sf_ne (by omega)]; exact h3
      · have hq : q < Dr.nw d + 1 := hq
        rw [sf_ne (by omega), sf_row, sf_row]
        show _ = nI (upN (Dr.wa d) (Dr.nw d) u q) ∧ _ = nI (upN (Dr.go d) (Dr.nw d) v q)
        unfold upN
        by_cases e : q = Dr.nw d
        · subst e
          rw [if_pos rfl, if_pos rfl]
          refine ⟨?_, ?_⟩
          · rw [upd_ne (by omega), show Dr.nw d * 2 = Dr.nw d * 2 + 0 from rfl, upd_self]
          · rw [upd_self]
        · rw [if_neg e, if_neg e]
          obtain ⟨g1, g2⟩ := h4 q (by omega)
          refine ⟨?_, ?_⟩
          · rw [upd_ne (by omega), upd_ne (by omega)]; exact g1
          · rw [upd_ne (by omega), upd_ne (by omega)]; exact g2
    · rw [if_neg (nI_nlt (by omega) (by omega))]
      exact ⟨0, σ, rfl, hK, fun _ _ => rfl, by rw [if_neg (fun z => c4 z.2.2.2)]⟩
  · rw [b32_f c, if_pos rfl]
    exact ⟨0, σ, rfl, hK, fun _ _ => rfl, by rw [if_neg (fun z => c ⟨z.1, z.2.1, z.2.2.1⟩)]⟩
end IT

section RI
variable {σ σ' : Sg} {len : Nat} {tx : Nat → Nat} {b : Bool} {d : Dr} {p y : Nat}
theorem tr_nvL {v : Nat} (e : tr_nv len tx p = some v) : v ≤ 99 := by
  unfold tr_nv at e
  by_cases c : tr_fg len tx p = true
  · have u := (tr_fgT c).2
    rw [if_pos c] at e
    by_cases c2 : tr_fg len tx (p + 1) = true
    · have u2 := (tr_fgT c2).2
      rw [if_pos c2] at e; cases e; omega
    · rw [if_neg c2] at e; cases e; omega
  · rw [if_neg c] at e; cases e
theorem tr_rnB : ∀ {k i p q : Nat} {f g : Nat → Nat}, tr_rn len tx k i p f = some (g, q) → (∀ j, f j ≤ 99) → ∀ j, g j ≤ 99
  | 0, i, p, q, f, g, h, hf => by
    unfold tr_rn at h; cases h; exact hf
  | k + 1, i, p, q, f, g, h, hf => by
    unfold tr_rn at h
    cases e : tr_nv len tx p with
    | none => rw [e] at h; cases h
    | some v =>
      rw [e] at h
      dsimp only at h
      by_cases c : tr_ch len tx (tr_ne len tx p) = (if k = 0 then 59 else 44)
      · rw [if_pos c] at h
        exact tr_rnB h (upN_le hf (tr_nvL e))
      · rw [if_neg c] at h; cases h
theorem nb_o {v : Int32} (h1 : ¬ v = 110) (h2 : ¬ v = 112) (h3 : ¬ v = 114) (h4 : ¬ v = 119) : f_X1_numbersBehind σ v = some 0 := by
  unfold f_X1_numbersBehind
  rw [if_neg h1, if_neg h2, if_neg h3, if_neg h4]
  simp only [ite_self]
theorem chn {α : Type} {v : Int32} {A B C E x : α} : (if v = 110 then A else if v = 111 then x else if v = 112 then B else if v = 113 then x else if v = 114 then C else if v = 115 then x else if v = 116 then x else if v = 117 then x else if v = 118 then x else if v = 119 then E else x) = if v = 110 then A else if v = 112 then B else if v = 114 then C else if v = 119 then E else x := by
  by_cases a : v = 110
  · rw [if_pos a, if_pos a]
  rw [if_neg a, if_neg a]
  by_cases b : v = 112
  · rw [if_neg (show ¬ v = 111 by rw [b]; decide), if_pos b, if_pos b]
  rw [if_neg b, if_neg b]
  by_cases c : v = 114
  · rw [if_neg (show ¬ v = 111 by rw [c]; decide), if_neg (show ¬ v = 113 by rw [c]; decide), if_pos c, if_pos c]
  rw [if_neg c, if_neg c]
  by_cases e : v = 119
  · rw [if_neg (show ¬ v = 111 by rw [e]; decide), if_neg (show ¬ v = 113 by rw [e]; decide), if_neg (show ¬ v = 115 by rw [e]; decide), if_neg (show ¬ v = 116 by rw [e]; decide), if_neg (show ¬ v = 117 by rw [e]; decide), if_neg (show ¬ v = 118 by rw [e]; decide), if_pos e]
  rw [if_neg e]
  simp only [ite_self]
def tr_cn (y : Nat) (a2 v x0 x1 x2 : Int32) (τ : Sg) : Option (Int32 × Sg) :=
  if v = 110 then (if a2 = 0 then some (0, τ) else (f_X5_tellTowns τ y x0).bind fun q123 => if q123.1 = 0 then some (0, q123.2) else some (1, q123.2))
  else if v = 112 then (f_X5_tellPost τ y x0 x1 x2).bind fun q153 => some (q153.1, q153.2)
  else if v = 114 then (f_X5_tellRoad τ y x0 x1 x2).bind fun q142 => some (q142.1, q142.2)
  else if v = 119 then (f_X5_tellWalker τ y x0 x1).bind fun q162 => some (q162.1, q162.2)
  else some (0, τ)
theorem tr_pre (hK : KC σ) (h : TC σ len tx) (hp : σ 1 3 = nI p) (h2 : p + 30 < 2 ^ 20) {H : Nat} (hH : H ≤ 3) {a2 : Int32} (nb : f_X1_numbersBehind (sf σ 1 3 (nI (p + 1))) (tr_cv len tx p) = some (nI H)) : ∃ σ2, CF σ σ2 ∧ (tr_rn len tx H 0 (p + 1) (fun _ => 0) = none → f_X1_readItem σ 1 y a2 = some (0, σ2)) ∧ ∀ g q, tr_rn len tx H 0 (p + 1) (fun _ => 0) = some (g, q) → σ2 1 3 = nI q ∧ (∀ j, j < H → σ2 5 j = nI (g j)) ∧ f_X1_readItem σ 1 y a2 = tr_cn y a2 (tr_cv len tx p) (σ2 5 0) (σ2 5 1) (σ2 5 2) σ2 := by
  have F1 : CF σ (sf σ 1 3 (nI (p + 1))) := CF_3
  obtain ⟨r, σ2, e2, F2, m⟩ := tr_rns (KC_CF hK F1) (TC_CF h F1) (p := p + 1) (H := H) (by rw [sf_row, upd_self]) (by omega) hH
  have K2 := KC_CF hK (F1.tr F2)
  refine ⟨σ2, F1.tr F2, fun u => ?_, fun g q u => ?_⟩
  · rw [u] at m
    dsimp only at m
    subst m
    unfold f_X1_readItem
    rw [tr_lh hK h hp (by omega), sb, sb, hp, nI_1, nb, sb, e2, sb]
    dsimp only
    rw [if_neg (fun z => z rfl)]
  · rw [u] at m
    dsimp only at m
    obtain ⟨rfl, m1, m2⟩ := m
    refine ⟨m1, m2, ?_⟩
    have a0 : f_X0_at σ2 (1 + 3) 0 0 = some (σ2 5 0) := at_in (r := 0) (c := 0) K2 g4g (by omega) (by omega)
    have a1 : f_X0_at σ2 (1 + 3) 0 1 = some (σ2 5 1) := at_in (r := 0) (c := 1) K2 g4g (by omega) (by omega)
    have a2 : f_X0_at σ2 (1 + 3) 0 2 = some (σ2 5 2) := at_in (r := 0) (c := 2) K2 g4g (by omega) (by omega)
    unfold f_X1_readItem
    rw [tr_lh hK h hp (by omega), sb, sb, hp, nI_1, nb, sb, e2, sb]
    dsimp only
    rw [if_pos one0, a0, sb, a1, sb, a2, sb, chn]
    rfl
theorem tr_ri (hK : KC σ) (h : TC σ len tx) (hg : gY y) (h6 : 6 ≤ y) (hp : σ 1 3 = nI p) (hpl : p < 300) (hD : DC σ y d) (dv : DV d) (hb : b = true → d = d0r) : ∃ r σ', f_X1_readItem σ 1 y (if b = true then 1 else 0) = some (r, σ') ∧ YF y σ σ' ∧ KC σ' ∧ (tr_it len tx b d p = none → r = 0) ∧ ∀ d' q, tr_it len tx b d p = some (d', q) → r = 1 ∧ σ' 1 3 = nI q ∧ DC σ' y d' := by
  by_cases c1 : tr_ch len tx p = 110
  · have e : tr_cv len tx p = nI 110 := (tr_cvE h.2.1 (by omega) (by omega)).mpr c1
    obtain ⟨σ2, F, m0, m⟩ := tr_pre (y := y) (a2 := if b = true then 1 else 0) hK h hp (by omega) (H := 1) (by omega) (by rw [e]; rfl)
    have K2 := KC_CF hK F
    cases u : tr_rn len tx 1 0 (p + 1) (fun _ => 0) with
    | none => exact ⟨0, σ2, m0 u, YF_CF F, K2, fun _ => rfl, fun d' q z => by rw [it110n c1 u] at z; cases z⟩
    | some w =>
      obtain ⟨g, q⟩ := w
      obtain ⟨m1, m2, m3⟩ := m g q u
      have B := tr_rnB u (fun _ => Nat.zero_le _)
      rw [m3, it110 c1 u]
      unfold tr_cn
      rw [e, L_110, if_pos rfl, m2 0 (by omega)]
      by_cases hb' : b = true
      · rw [if_pos hb', if_neg one0]
        obtain ⟨r1, σ3, e3, K3, f3, m4⟩ := te_t (σ := σ2) (t := g 0) K2 hg (by have := B 0; omega)
        rw [e3, sb]
        dsimp only
        by_cases c : 2 ≤ g 0 ∧ g 0 ≤ 8
        · rw [if_pos c] at m4
          obtain ⟨rfl, m5, m6⟩ := m4
          rw [if_neg one0, if_pos ⟨hb', c⟩]
          refine ⟨1, σ3, rfl, (YF_CF F).tr (YF_y h6 f3), K3, (by intro z; cases z), fun d' q' z => ?_⟩
          cases z
          have hd := hb hb'
          subst hd
          obtain ⟨h1, -, -, -⟩ := DC_CF h6 hD F
          refine ⟨rfl, by rw [f3 1 (by omega)]; exact m1, by rw [m5 y (by omega) (by omega)]; exact h1, m6, fun x hx => absurd hx (Nat.not_lt_zero x), fun x hx => absurd hx (Nat.not_lt_zero x)⟩
        · rw [if_neg c] at m4
          subst m4
          rw [if_pos rfl, if_neg (fun z => c z.2)]
          exact ⟨0, σ3, rfl, (YF_CF F).tr (YF_y h6 f3), K3, fun _ => rfl, (by intro d' q' z; cases z)⟩
      · rw [if_neg hb', if_pos rfl, if_neg (fun z => hb' z.1)]
        exact ⟨0, σ2, rfl, YF_CF F, K2, fun _ => rfl, (by intro d' q' z; cases z)⟩
  by_cases c2 : tr_ch len tx p = 114
  · have e : tr_cv len tx p = nI 114 := (tr_cvE h.2.1 (by omega) (by omega)).mpr c2
    obtain ⟨σ2, F, m0, m⟩ := tr_pre (y := y) (a2 := if b = true then 1 else 0) hK h hp (by omega) (H := 3) (by omega) (by rw [e]; rfl)
    have K2 := KC_CF hK F
    cases u : tr_rn len tx 3 0 (p + 1) (fun _ => 0) with
    | none => exact ⟨0, σ2, m0 u, YF_CF F, K2, fun _ => rfl, fun d' q z => by rw [it114n c2 u] at z; cases z⟩
    | some w =>
      obtain ⟨g, q⟩ := w
      obtain ⟨m1, m2, m3⟩ := m g q u
      have B := tr_rnB u (fun _ => Nat.zero_le _)
      have B0 := B 0
      have B1 := B 1
      have B2 := B 2
      rw [m3, it114 c2 u]
      unfold tr_cn
      rw [e, if_neg (show ¬ nI 114 = (110 : Int32) by decide), if_neg (show ¬ nI 114 = (112 : Int32) by decide), L_114, if_pos rfl, m2 0 (by omega), m2 1 (by omega), m2 2 (by omega)]
      obtain ⟨r1, σ3, e3, K3, f3, m4⟩ := te_r (u := g 0) (v := g 1) (l := g 2) K2 hg (DC_CF h6 hD F) dv (by omega) (by omega) (by omega)
      rw [e3, sb]
      dsimp only
      by_cases c : g 0 < Dr.n d ∧ g 1 < Dr.n d ∧ g 0 ≠ g 1 ∧ 1 ≤ g 2 ∧ g 2 ≤ 9
      · rw [if_pos c] at m4
        obtain ⟨rfl, m5⟩ := m4
        rw [if_pos c]
        refine ⟨1, σ3, rfl, (YF_CF F).tr (YF_y h6 f3), K3, (by intro z; cases z), fun d' q' z => ?_⟩
        cases z
        exact ⟨rfl, by rw [f3 1 (by omega)]; exact m1, m5⟩
      · rw [if_neg c] at m4
        subst m4
        rw [if_neg c]
        exact ⟨0, σ3, rfl, (YF_CF F).tr (YF_y h6 f3), K3, fun _ => rfl, (by intro d' q' z; cases z)⟩
  by_cases c3 : tr_ch len tx p = 112
  · have e : tr_cv len tx p = nI 112 := (tr_cvE h.2.1 (by omega) (by omega)).mpr c3
    obtain ⟨σ2, F, m0, m⟩ := tr_pre (y := y) (a2 := if b = true then 1 else 0) hK h hp (by omega) (H := 3) (by omega) (by rw [e]; rfl)
    have K2 := KC_CF hK F
    cases u : tr_rn len tx 3 0 (p + 1) (fun _ => 0) with
    | none => exact ⟨0, σ2, m0 u, YF_CF F, K2, fun _ => rfl, fun d' q z => by rw [it112n c3 u] at z; cases z⟩
    | some w =>
      obtain ⟨g, q⟩ := w
      obtain ⟨m1, m2, m3⟩ := m g q u
      have B := tr_rnB u (fun _ => Nat.zero_le _)
      have B0 := B 0
      have B1 := B 1
      have B2 := B 2
      rw [m3, it112 c3 u]
      unfold tr_cn
      rw [e, if_neg (show ¬ nI 112 = (110 : Int32) by decide), L_112, if_pos rfl, m2 0 (by omega), m2 1 (by omega), m2 2 (by omega)]
      obtain ⟨r1, σ3, e3, K3, f3, m4⟩ := te_p (u := g 0) (v := g 1) (l := g 2) K2 hg (DC_CF h6 hD F) dv (by omega) (by omega) (by omega)
      rw [e3, sb]
      dsimp only
      by_cases c : g 0 ≤ 3 ∧ g 1 < Dr.n d ∧ g 2 ≤ 59 ∧ Dr.np d < 6
      · rw [if_pos c] at m4
        obtain ⟨rfl, m5⟩ := m4
        rw [if_pos c]
        refine ⟨1, σ3, rfl, (YF_CF F).tr (YF_y h6 f3), K3, (by intro z; cases z), fun d' q' z => ?_⟩
        cases z
        exact ⟨rfl, by rw [f3 1 (by omega)]; exact m1, m5⟩
      · rw [if_neg c] at m4
        subst m4
        rw [if_neg c]
        exact ⟨0, σ3, rfl, (YF_CF F).tr (YF_y h6 f3), K3, fun _ => rfl, (by intro d' q' z; cases z)⟩
  by_cases c4 : tr_ch len tx p = 119
  · have e : tr_cv len tx p = nI 119 := (tr_cvE h.2.1 (by omega) (by omega)).mpr c4
    obtain ⟨σ2, F, m0, m⟩ := tr_pre (y := y) (a2 := if b = true then 1 else 0) hK h hp (by omega) (H := 2) (by omega) (by rw [e]; rfl)
    have K2 := KC_CF hK F
    cases u : tr_rn len tx 2 0 (p + 1) (fun _ => 0) with
    | none => exact ⟨0, σ2, m0 u, YF_CF F, K2, fun _ => rfl, fun d' q z => by rw [it119n c4 u] at z; cases z⟩
    | some w =>
      obtain ⟨g, q⟩ := w
      obtain ⟨m1, m2, m3⟩ := m g q u
      have B := tr_rnB u (fun _ => Nat.zero_le _)
      have B0 := B 0
      have B1 := B 1
      rw [m3, it119 c4 u]
      unfold tr_cn
      rw [e, if_neg (show ¬ nI 119 = (110 : Int32) by decide), if_neg (show ¬ nI 119 = (112 : Int32) by decide), if_neg (show ¬ nI 119 = (114 : Int32) by decide), L_119, if_pos rfl, m2 0 (by omega), m2 1 (by omega)]
      obtain ⟨r1, σ3, e3, K3, f3, m4⟩ := te_w (u := g 0) (v := g 1) K2 hg (DC_CF h6 hD F) dv (by omega) (by omega)
      rw [e3, sb]
      dsimp only
      by_cases c : g 0 < Dr.n d ∧ g 1 < Dr.n d ∧ g 0 ≠ g 1 ∧ Dr.nw d < 5
      · rw [if_pos c] at m4
        obtain ⟨rfl, m5⟩ := m4
        rw [if_pos c]
        refine ⟨1, σ3, rfl, (YF_CF F).tr (YF_y h6 f3), K3, (by intro z; cases z), fun d' q' z => ?_⟩
        cases z
        exact ⟨rfl, by rw [f3 1 (by omega)]; exact m1, m5⟩
      · rw [if_neg c] at m4
        subst m4
        rw [if_neg c]
        exact ⟨0, σ3, rfl, (YF_CF F).tr (YF_y h6 f3), K3, fun _ => rfl, (by intro d' q' z; cases z)⟩
  have n1 : ¬ tr_cv len tx p = 110 := fun z => c1 ((tr_cvE h.2.1 (by omega) (by omega)).mp z)
  have n2 : ¬ tr_cv len tx p = 114 := fun z => c2 ((tr_cvE h.2.1 (by omega) (by omega)).mp z)
  have n3 : ¬ tr_cv len tx p = 112 := fun z => c3 ((tr_cvE h.2.1 (by omega) (by omega)).mp z)
  have n4 : ¬ tr_cv len tx p = 119 := fun z => c4 ((tr_cvE h.2.1 (by omega) (by omega)).mp z)
  obtain ⟨σ2, F, m0, m⟩ := tr_pre (y := y) (a2 := if b = true then 1 else 0) hK h hp (by omega) (H := 0) (by omega) (nb_o n1 n3 n2 n4)
  obtain ⟨m1, m2, m3⟩ := m (fun _ => 0) (p + 1) rfl
  refine ⟨0, σ2, ?_, YF_CF F, KC_CF hK F, fun _ => rfl, fun d' q z => by rw [it_o c1 c2 c3 c4] at z; cases z⟩
  rw [m3]
  unfold tr_cn
  rw [if_neg n1, if_neg n3, if_neg n2, if_neg n4]
/-- the text, item by item -/
def tr_rd (len : Nat) (tx : Nat → Nat) : Nat → Bool → Dr → Nat → Dr × Option Nat
  | 0, _, d, _ => (d, none)
  | k + 1, b, d, p => if len ≤ p then (d, none) else match tr_it len tx b d p with
    | none => (d, some p)
    | some (d', q) => tr_rd len tx k false d' q
theorem tr_rdV : ∀ {k p : Nat} {b : Bool} {d : Dr}, DV d → DV (tr_rd len tx k b d p).1
  | 0, p, b, d, h => h
  | k + 1, p, b, d, h => by
    unfold tr_rd
    by_cases c : len ≤ p
    · rw [if_pos c]; exact h
    · rw [if_neg c]
      cases e : tr_it len tx b d p with
      | none => exact h
      | some w => obtain ⟨d', q⟩ := w; exact tr_rdV (it_V h e).1
theorem tr_rdE : ∀ {k p e : Nat} {b : Bool} {d : Dr}, DV d → p < 300 → len ≤ 200 → (tr_rd len tx k b d p).2 = some e → e < 300
  | 0, p, e, b, d, h, hp, hl, z => by unfold tr_rd at z; cases z
  | k + 1, p, e, b, d, h, hp, hl, z => by
    unfold tr_rd at z
    by_cases c : len ≤ p
    · rw [if_pos c] at z; cases z
    · rw [if_neg c] at z
      cases u : tr_it len tx b d p with
      | none => rw [u] at z; cases z; exact hp
      | some w =>
        obtain ⟨d', q⟩ := w
        rw [u] at z
        have v := it_V h u
        exact tr_rdE v.1 (by omega) hl z
theorem tr_ie {x : Int32} {j : Nat} (hx : σ 1 2 = nI len) (hl : len ≤ 200) (hp : σ 1 3 = nI p) (hpl : p < 300) (h : len ≤ p) : f_X1_readInto_b1 1 y x σ = some (.inr (.inr σ)) := by
  unfold f_X1_readInto_b1
  split
  · rfl
  · rw [hx, hp, if_pos (nI_le h (by omega))]
theorem tr_il (hg : gY y) (h6 : 6 ≤ y) : ∀ (k j p m : Nat) (σ : Sg) (b : Bool) (d : Dr), (b = true ↔ j = 0) → (b = true → d = d0r) → KC σ → TC σ len tx → σ 1 3 = nI p → DC σ y d → DV d → j ≤ p → p < 300 → len < p + k → k < m → ∃ rr, lp (fun st => f_X1_readInto_b1 1 y st.1 st.2) m (nI j, σ) = some rr ∧ ∃ σ', YF y σ σ' ∧ KC σ' ∧ ((tr_rd len tx k b d p).2 = none → rr = .inr σ' ∧ DC σ' y (tr_rd len tx k b d p).1) ∧ ∀ e, (tr_rd len tx k b d p).2 = some e → rr = .inl (nI e, σ')
  | 0, j, p, m + 1, σ, b, d, hj, hb, hK, h, hp, hD, dv, hjp, hpl, hk, hm => by
    refine ⟨_, lp_end (r := .inr σ) (tr_ie (j := j) h.1 h.2.1.1 hp hpl (by omega)), σ, YF.rf, hK, fun _ => ⟨rfl, hD⟩, fun e z => by unfold tr_rd at z; cases z⟩
  | k + 1, j, p, m + 1, σ, b, d, hj, hb, hK, h, hp, hD, dv, hjp, hpl, hk, hm => by
    unfold tr_rd
    by_cases c : len ≤ p
    · rw [if_pos c]
      exact ⟨_, lp_end (r := .inr σ) (tr_ie (j := j) h.1 h.2.1.1 hp hpl c), σ, YF.rf, hK, fun _ => ⟨rfl, hD⟩, (by intro e z; cases z)⟩
    · rw [if_neg c]
      have h200 := h.2.1.1
      obtain ⟨r, σ1, e1, F1, K1, z0, z1⟩ := tr_ri hK h hg h6 hp hpl hD dv hb
      have B : f_X1_readInto_b1 1 y (nI j) σ = if ¬ r = 0 then some (.inl (nI (j + 1), σ1)) else some (.inr (.inl (nI p, σ1))) := by
        unfold f_X1_readInto_b1
        rw [L_200, if_neg (nI_ge (show j < 200 by omega) (by omega)), h.1, hp, if_neg (nI_ge (show p < len by omega) (by omega))]
        by_cases j0 : j = 0
        · rw [if_pos (hj.mpr j0)] at e1
          rw [if_neg (fun q => q (by rw [j0]; rfl)), e1, sb, nI_1]
        · rw [if_neg (fun q => j0 (hj.mp q))] at e1
          rw [if_pos (fun q => j0 ((nI_0e (by omega)).mp q)), e1, sb, nI_1]
      cases u : tr_it len tx b d p with
      | none =>
        have r0 := z0 u
        subst r0
        rw [if_neg (fun q => q rfl)] at B
        refine ⟨_, lp_end (r := .inl (nI p, σ1)) B, σ1, F1, K1, (by intro z; cases z), fun e z => ?_⟩
        cases z
        rfl
      | some w =>
        obtain ⟨d', q⟩ := w
        obtain ⟨r1, g3, D1⟩ := z1 d' q u
        subst r1
        rw [if_pos one0] at B
        obtain ⟨V1, L1, L2⟩ := it_V dv u
        obtain ⟨rr, e2, σ', F2, K2, w1, w2⟩ := tr_il hg h6 k (j + 1) q m σ1 false d' ⟨(by intro z; cases z), fun z => absurd z (by omega)⟩ (by intro z; cases z) K1 (TC_YF h6 h F1) g3 D1 V1 (by omega) (by omega) (by omega) (by omega)
        exact ⟨rr, (lp_go B).trans e2, σ', F1.tr F2, K2, w1, w2⟩
/-- what the text says: a draft, and the place of the first fault -/
def tr_R (len : Nat) (tx : Nat → Nat) : Dr × Option Nat := tr_rd len tx 201 true d0r 0
theorem tr_into (hK : KC σ) (h : TC σ len tx) (hg : gY y) (h6 : 6 ≤ y) : ∃ σ', f_X1_readInto σ 1 y = some (oI (tr_R len tx).2, σ') ∧ YF y σ σ' ∧ KC σ' ∧ ((tr_R len tx).2 = none → DC σ' y (tr_R len tx).1) := by
  have h200 := h.2.1.1
  obtain ⟨σ1, e1, K1, f1, R1⟩ := cl_ok (t := 6) hK hg.2.2.1 (by omega) (by omega)
  have ky : kd y ≠ 0 := by rw [hg.2.1]; decide
  obtain ⟨σ2, hs2⟩ : ∃ σ2, σ2 = sf (sf (sf (sf (sf σ1 y 5 0) y 6 0) y 7 0) y 8 0) y 9 0 := ⟨_, rfl⟩
  have K2 : KC σ2 := by rw [hs2]; exact KC_sf (KC_sf (KC_sf (KC_sf (KC_sf K1 ky) ky) ky) ky) ky
  have f2 : ∀ i, i ≠ y → σ2 i = σ1 i := fun i hi => by rw [hs2, sf_ne hi, sf_ne hi, sf_ne hi, sf_ne hi, sf_ne hi]
  have Y2 : YF y σ σ2 := YF_y h6 (fun i hi => (f2 i (by omega)).trans (f1 i (by omega) (by omega)))
  have D2 : DC σ2 y d0r := by
    refine ⟨⟨?_, ?_, ?_, ?_, ?_⟩, RC_fr R1 (f2 _ (by omega)) (f2 _ (by omega)), fun q hq => absurd hq (Nat.not_lt_zero q), fun q hq => absurd hq (Nat.not_lt_zero q)⟩
    · rw [hs2, sf_row, upd_ne (by omega), sf_row, upd_ne (by omega), sf_row, upd_ne (by omega), sf_row, upd_ne (by omega), sf_row, upd_self]; rfl
    · rw [hs2, sf_row, upd_ne (by omega), sf_row, upd_ne (by omega), sf_row, upd_ne (by omega), sf_row, upd_self]; rfl
    · rw [hs2, sf_row, upd_ne (by omega), sf_row, upd_ne (by omega), sf_row, upd_self]; rfl
    · rw [hs2, sf_row, upd_ne (by omega), sf_row, upd_self]; rfl
    · rw [hs2, sf_row, upd_self]; rfl
  have F3 : CF σ2 (sf σ2 1 3 (nI 0)) := CF_3
  obtain ⟨rr, e4, σ', F4, K4, w1, w2⟩ := tr_il hg h6 201 0 0 FU (sf σ2 1 3 (nI 0)) true d0r ⟨fun _ => rfl, fun _ => rfl⟩ (fun _ => rfl) (KC_CF K2 F3) (TC_CF (TC_YF h6 h Y2) F3) (by rw [sf_row, upd_self]) (DC_CF h6 D2 F3) (DV_0 (n := 6) (by omega) (by omega)) (Nat.le_refl 0) (by omega) (by omega) (by unfold FU; omega)
  have E : f_X1_readInto σ 1 y = (some rr).bind fun rr => Sum.elim (fun q => f_X1_readInto_k1 q.1 q.2) (fun q => f_X1_readInto_k2 q) rr := by
    unfold f_X1_readInto f_X5_clear
    rw [L_6, e1]
    simp only [sb]
    rw [← hs2]
    exact congrArg (fun z => Option.bind z _) e4
  have Y4 := (Y2.tr (YF_CF F3)).tr F4
  cases u : (tr_R len tx).2 with
  | none =>
    obtain ⟨rfl, D4⟩ := w1 u
    exact ⟨σ', E, Y4, K4, fun _ => D4⟩
  | some e =>
    have z := w2 e u
    subst z
    exact ⟨σ', E, Y4, K4, (by intro z; cases z)⟩
end RI

def dS1 (d : Dr) : Sn := (Dr.mi d, 0, 0, fun p => some (Dr.to d p), Dr.ag d, fun p => pr (Dr.mi d) (Dr.n d) (Dr.to d p), fun p => pm (Dr.mi d) (Dr.n d) (Dr.to d p), Dr.wa d)
section LY
variable {σ σ' : Sg} {y n : Nat} {d : Dr}
theorem VY_d (dv : DV d) {ar am : Nat → Nat → Option Nat} (h1 : ∀ p t u, ar p t = some u → u < Dr.n d) (h2 : ∀ p t u, am p t = some u → u ≤ 2304) : VY (Dr.n d) (Dr.mi d) (Dr.np d) (Dr.nw d) 0 0 0 (Dr.ki d) (fun p => some (Dr.to d p)) (Dr.ag d) ar am (Dr.wa d) (Dr.go d) := by
  obtain ⟨v1, ⟨v2, v3⟩, v4, v5, v6, v7, v8⟩ := dv
  exact ⟨v1, ⟨by omega, v3, by omega, by omega, by omega⟩, v4, fun p x e => by cases e; exact v5 p, fun p => Nat.le_trans (v6 p) (by omega), h1, h2, v7, v8, fun p t e => by cases e⟩
theorem OK_d (dv : DV d) {N : Nat} : OK N (Dr.n d) (Dr.np d) (Dr.nw d) (Dr.ki d) (Dr.go d) (dS1 d) := ⟨VY_d dv (fun p t u e => pr_lt dv.1 e) (fun p t u e => pm_le dv.1 e), fun p _ => dv.2.2.2.2.1 p, Nat.zero_le _, Nat.zero_le _⟩
theorem pal_ok (hK : KC σ) (hg : gY y) (hD : DC σ y d) (dv : DV d) : ∃ σ', f_X5_paintAll σ y = some σ' ∧ KC σ' ∧ (∀ i, (i < y ∨ y + 13 < i) → σ' i = σ i) ∧ CY σ' y (Dr.n d) (Dr.np d) (Dr.nw d) (Dr.ki d) (Dr.go d) (dS1 d) := by
  obtain ⟨h1, h2, h3, h4⟩ := hD
  have v6 := dv.2.1.1
  obtain ⟨σ1, e1, f1, P1⟩ := sur_ok hK hg.2.2.1 dv.1 h2
  have K1 : KC σ1 := KC_fr hK (by rw [hg.2.2.1.2.1]; decide) f1
  have R1 : RC σ1 (y + 1) (Dr.n d) (Dr.mi d) := RC_fr h2 (f1 _ (by omega)) (f1 _ (by omega))
  obtain ⟨r, e, i1, i2, i3⟩ := lp_inv (b := fun st => f_X5_paintAll_b1 y st.1 st.2) (Post := fun σ' => KC σ' ∧ (∀ i, i ≠ y + 8 + 1 → i ≠ y + 10 + 1 → σ' i = σ1 i) ∧ ∀ p, p < Dr.np d → ∀ t, t < 8 → σ' (y + 8 + 1) (p * 8 + t) = oI (pr (Dr.mi d) (Dr.n d) (Dr.to d p) t) ∧ σ' (y + 10 + 1) (p * 8 + t) = oI (pm (Dr.mi d) (Dr.n d) (Dr.to d p) t)) (fun j s => s.1 = nI j ∧ KC s.2 ∧ (∀ i, i ≠ y + 8 + 1 → i ≠ y + 10 + 1 → s.2 i = σ1 i) ∧ ∀ p, p < j → ∀ t, t < 8 → s.2 (y + 8 + 1) (p * 8 + t) = oI (pr (Dr.mi d) (Dr.n d) (Dr.to d p) t) ∧ s.2 (y + 10 + 1) (p * 8 + t) = oI (pm (Dr.mi d) (Dr.n d) (Dr.to d p) t)) (Dr.np d) (by omega) (s0 := (0, σ1)) ⟨rfl, K1, fun _ _ _ => rfl, fun k hk => absurd hk (by omega)⟩ (fun j s hj q => by
    obtain ⟨x, s⟩ := s
    obtain ⟨q1, q2, q3, q4⟩ := q
    dsimp only at q1 q2 q3 q4
    subst q1
    have Rs : RC s (y + 1) (Dr.n d) (Dr.mi d) := RC_fr R1 (q3 _ (by omega) (by omega)) (q3 _ (by omega) (by omega))
    have Ps : PC s (y + 1) (Dr.n d) (Dr.mi d) := PC_fr P1 (q3 _ (by omega) (by omega))
    have at1 : f_X0_at s (y + 6) (nI j) (1 : Int32) = some (nI (Dr.to d j)) := by
      rw [at_lit 1 q2 hg.2.2.2.1.1 (by omega) (by omega) L_1, q3 _ (by omega) (by omega), f1 _ (by omega)]
      exact congrArg some (h3 j hj).2.1
    obtain ⟨τ, eτ, t1, t2, t3, t4⟩ := pp_core q2 hg dv.1 Rs Ps (dv.2.2.2.1 j) (by omega) at1
    refine ⟨(nI (j + 1), τ), ?_, rfl, t1, fun i a b => (t2 i a b).trans (q3 i a b), fun p hp t ht => ?_⟩
    · show f_X5_paintAll_b1 y (nI j) s = _
      unfold f_X5_paintAll_b1
      rw [q3 y (by omega) (by omega), f1 y (by omega), h1.1, if_neg (nI_ge hj (by omega)), eτ, sb, nI_1]
    · by_cases c : p = j
      · subst c; exact t3 t ht
      · obtain ⟨w1, w2⟩ := t4 (p * 8 + t) (by omega)
        dsimp only
        rw [w1, w2]
        exact q4 p (by omega) t ht) (fun s q => by
    obtain ⟨x, s⟩ := s
    obtain ⟨q1, q2, q3, q4⟩ := q
    dsimp only at q1 q2 q3 q4
    subst q1
    refine ⟨s, ?_, q2, q3, q4⟩
    show f_X5_paintAll_b1 y (nI (Dr.np d)) s = _
    unfold f_X5_paintAll_b1
    rw [q3 y (by omega) (by omega), f1 y (by omega), h1.1, if_pos (nI_le (Nat.le_refl _) (by omega))])
  have G : ∀ i, i ≠ y + 8 + 1 → i ≠ y + 10 + 1 → i ≠ y + 1 + 3 + 1 → r i = σ i := fun i a b c => (i2 i a b).trans (f1 i c)
  refine ⟨r, ?_, i1, fun i hi => G i (by omega) (by omega) (by omega), ?_, RC_fr R1 (i2 _ (by omega) (by omega)) (i2 _ (by omega) (by omega)), PC_fr P1 (i2 _ (by omega) (by omega)), ?_, fun p hp t ht => (i3 p hp t ht).1, fun p hp t ht => (i3 p hp t ht).2, ?_⟩
  · unfold f_X5_paintAll
    rw [e1, sb, e, sb]
    rfl
  · rw [G y (by omega) (by omega) (by omega)]; exact h1
  · rw [G (y + 6 + 1) (by omega) (by omega) (by omega)]; exact h3
  · rw [G (y + 12 + 1) (by omega) (by omega) (by omega)]; exact h4
def arJ (d : Dr) (j : Nat) : Nat → Nat → Option Nat := fun p => if p < j then pr (Dr.mi d) (Dr.n d) (Dr.to d p) else fun _ => some 0
def amJ (d : Dr) (j : Nat) : Nat → Nat → Option Nat := fun p => if p < j then pm (Dr.mi d) (Dr.n d) (Dr.to d p) else fun _ => some 0
theorem arJ_s {j : Nat} : up1 (arJ d j) j (pr (Dr.mi d) (Dr.n d) (Dr.to d j)) = arJ d (j + 1) := by
  funext p
  unfold up1 arJ
  by_cases c : p = j
  · subst c; rw [if_pos rfl, if_pos (by omega)]
  · rw [if_neg c]
    by_cases e : p < j
    · rw [if_pos e, if_pos (by omega)]
    · rw [if_neg e, if_neg (by omega)]
theorem amJ_s {j : Nat} : up1 (amJ d j) j (pm (Dr.mi d) (Dr.n d) (Dr.to d j)) = amJ d (j + 1) := by
  funext p
  unfold up1 amJ
  by_cases c : p = j
  · subst c; rw [if_pos rfl, if_pos (by omega)]
  · rw [if_neg c]
    by_cases e : p < j
    · rw [if_pos e, if_pos (by omega)]
    · rw [if_neg e, if_neg (by omega)]
theorem VY_J (dv : DV d) (j : Nat) : VY (Dr.n d) (Dr.mi d) (Dr.np d) (Dr.nw d) 0 0 0 (Dr.ki d) (fun p => some (Dr.to d p)) (Dr.ag d) (arJ d j) (amJ d j) (Dr.wa d) (Dr.go d) := by
  have n2 := dv.1.1
  refine VY_d dv (fun p t u e => ?_) (fun p t u e => ?_)
  · unfold arJ at e
    by_cases c : p < j
    · rw [if_pos c] at e; exact pr_lt dv.1 e
    · rw [if_neg c] at e; cases e; omega
  · unfold amJ at e
    by_cases c : p < j
    · rw [if_pos c] at e; exact pm_le dv.1 e
    · rw [if_neg c] at e; cases e; omega
end LY

