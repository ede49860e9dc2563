/-! Part 38: an item, and the text, read by the class. -/
section RI
variable {σ σ' : Sg} {len : Nat} {tx : Nat → Nat} {b : Bool} {d : Dr} {p y : Nat}
theorem tr_nvL {v : Nat} (e : tr_nv len tx p = some v) : v ≤ 99 := by
  unfold tr_nv at e
  by_cases c : tr_fg len tx p = true
  · have u := (tr_fgT c).2
    rw [if_pos c] at e
    by_cases c2 : tr_fg len tx (p + 1) = true
    · have u2 := (tr_fgT c2).2
      rw [if_pos c2] at e; cases e; omega
    · rw [if_neg c2] at e; cases e; omega
  · rw [if_neg c] at e; cases e
theorem tr_rnB : ∀ {k i p q : Nat} {f g : Nat → Nat}, tr_rn len tx k i p f = some (g, q) → (∀ j, f j ≤ 99) → ∀ j, g j ≤ 99
  | 0, i, p, q, f, g, h, hf => by
    unfold tr_rn at h; cases h; exact hf
  | k + 1, i, p, q, f, g, h, hf => by
    unfold tr_rn at h
    cases e : tr_nv len tx p with
    | none => rw [e] at h; cases h
    | some v =>
      rw [e] at h
      dsimp only at h
      by_cases c : tr_ch len tx (tr_ne len tx p) = (if k = 0 then 59 else 44)
      · rw [if_pos c] at h
        exact tr_rnB h (upN_le hf (tr_nvL e))
      · rw [if_neg c] at h; cases h
theorem nb_o {v : Int32} (h1 : ¬ v = 110) (h2 : ¬ v = 112) (h3 : ¬ v = 114) (h4 : ¬ v = 119) : f_X1_numbersBehind σ v = some 0 := by
  unfold f_X1_numbersBehind
  rw [if_neg h1, if_neg h2, if_neg h3, if_neg h4]
  simp only [ite_self]
theorem chn {α : Type} {v : Int32} {A B C E x : α} : (if v = 110 then A else if v = 111 then x else if v = 112 then B else if v = 113 then x else if v = 114 then C else if v = 115 then x else if v = 116 then x else if v = 117 then x else if v = 118 then x else if v = 119 then E else x) = if v = 110 then A else if v = 112 then B else if v = 114 then C else if v = 119 then E else x := by
  by_cases a : v = 110
  · rw [if_pos a, if_pos a]
  rw [if_neg a, if_neg a]
  by_cases b : v = 112
  · rw [if_neg (show ¬ v = 111 by rw [b]; decide), if_pos b, if_pos b]
  rw [if_neg b, if_neg b]
  by_cases c : v = 114
  · rw [if_neg (show ¬ v = 111 by rw [c]; decide), if_neg (show ¬ v = 113 by rw [c]; decide), if_pos c, if_pos c]
  rw [if_neg c, if_neg c]
  by_cases e : v = 119
  · rw [if_neg (show ¬ v = 111 by rw [e]; decide), if_neg (show ¬ v = 113 by rw [e]; decide), if_neg (show ¬ v = 115 by rw [e]; decide), if_neg (show ¬ v = 116 by rw [e]; decide), if_neg (show ¬ v = 117 by rw [e]; decide), if_neg (show ¬ v = 118 by rw [e]; decide), if_pos e]
  rw [if_neg e]
  simp only [ite_self]
def tr_cn (y : Nat) (a2 v x0 x1 x2 : Int32) (τ : Sg) : Option (Int32 × Sg) :=
  if v = 110 then (if a2 = 0 then some (0, τ) else (f_X5_tellTowns τ y x0).bind fun q123 => if q123.1 = 0 then some (0, q123.2) else some (1, q123.2))
  else if v = 112 then (f_X5_tellPost τ y x0 x1 x2).bind fun q153 => some (q153.1, q153.2)
  else if v = 114 then (f_X5_tellRoad τ y x0 x1 x2).bind fun q142 => some (q142.1, q142.2)
  else if v = 119 then (f_X5_tellWalker τ y x0 x1).bind fun q162 => some (q162.1, q162.2)
  else some (0, τ)
theorem tr_pre (hK : KC σ) (h : TC σ len tx) (hp : σ 1 3 = nI p) (h2 : p + 30 < 2 ^ 20) {H : Nat} (hH : H ≤ 3) {a2 : Int32} (nb : f_X1_numbersBehind (sf σ 1 3 (nI (p + 1))) (tr_cv len tx p) = some (nI H)) : ∃ σ2, CF σ σ2 ∧ (tr_rn len tx H 0 (p + 1) (fun _ => 0) = none → f_X1_readItem σ 1 y a2 = some (0, σ2)) ∧ ∀ g q, tr_rn len tx H 0 (p + 1) (fun _ => 0) = some (g, q) → σ2 1 3 = nI q ∧ (∀ j, j < H → σ2 5 j = nI (g j)) ∧ f_X1_readItem σ 1 y a2 = tr_cn y a2 (tr_cv len tx p) (σ2 5 0) (σ2 5 1) (σ2 5 2) σ2 := by
  have F1 : CF σ (sf σ 1 3 (nI (p + 1))) := CF_3
  obtain ⟨r, σ2, e2, F2, m⟩ := tr_rns (KC_CF hK F1) (TC_CF h F1) (p := p + 1) (H := H) (by rw [sf_row, upd_self]) (by omega) hH
  have K2 := KC_CF hK (F1.tr F2)
  refine ⟨σ2, F1.tr F2, fun u => ?_, fun g q u => ?_⟩
  · rw [u] at m
    dsimp only at m
    subst m
    unfold f_X1_readItem
    rw [tr_lh hK h hp (by omega), sb, sb, hp, nI_1, nb, sb, e2, sb]
    dsimp only
    rw [if_neg (fun z => z rfl)]
  · rw [u] at m
    dsimp only at m
    obtain ⟨rfl, m1, m2⟩ := m
    refine ⟨m1, m2, ?_⟩
    have a0 : f_X0_at σ2 (1 + 3) 0 0 = some (σ2 5 0) := at_in (r := 0) (c := 0) K2 g4g (by omega) (by omega)
    have a1 : f_X0_at σ2 (1 + 3) 0 1 = some (σ2 5 1) := at_in (r := 0) (c := 1) K2 g4g (by omega) (by omega)
    have a2 : f_X0_at σ2 (1 + 3) 0 2 = some (σ2 5 2) := at_in (r := 0) (c := 2) K2 g4g (by omega) (by omega)
    unfold f_X1_readItem
    rw [tr_lh hK h hp (by omega), sb, sb, hp, nI_1, nb, sb, e2, sb]
    dsimp only
    rw [if_pos one0, a0, sb, a1, sb, a2, sb, chn]
    rfl
theorem tr_ri (hK : KC σ) (h : TC σ len tx) (hg : gY y) (h6 : 6 ≤ y) (hp : σ 1 3 = nI p) (hpl : p < 300) (hD : DC σ y d) (dv : DV d) (hb : b = true → d = d0r) : ∃ r σ', f_X1_readItem σ 1 y (if b = true then 1 else 0) = some (r, σ') ∧ YF y σ σ' ∧ KC σ' ∧ (tr_it len tx b d p = none → r = 0) ∧ ∀ d' q, tr_it len tx b d p = some (d', q) → r = 1 ∧ σ' 1 3 = nI q ∧ DC σ' y d' := by
  by_cases c1 : tr_ch len tx p = 110
  · have e : tr_cv len tx p = nI 110 := (tr_cvE h.2.1 (by omega) (by omega)).mpr c1
    obtain ⟨σ2, F, m0, m⟩ := tr_pre (y := y) (a2 := if b = true then 1 else 0) hK h hp (by omega) (H := 1) (by omega) (by rw [e]; rfl)
    have K2 := KC_CF hK F
    cases u : tr_rn len tx 1 0 (p + 1) (fun _ => 0) with
    | none => exact ⟨0, σ2, m0 u, YF_CF F, K2, fun _ => rfl, fun d' q z => by rw [it110n c1 u] at z; cases z⟩
    | some w =>
      obtain ⟨g, q⟩ := w
      obtain ⟨m1, m2, m3⟩ := m g q u
      have B := tr_rnB u (fun _ => Nat.zero_le _)
      rw [m3, it110 c1 u]
      unfold tr_cn
      rw [e, L_110, if_pos rfl, m2 0 (by omega)]
      by_cases hb' : b = true
      · rw [if_pos hb', if_neg one0]
        obtain ⟨r1, σ3, e3, K3, f3, m4⟩ := te_t (σ := σ2) (t := g 0) K2 hg (by have := B 0; omega)
        rw [e3, sb]
        dsimp only
        by_cases c : 2 ≤ g 0 ∧ g 0 ≤ 8
        · rw [if_pos c] at m4
          obtain ⟨rfl, m5, m6⟩ := m4
          rw [if_neg one0, if_pos ⟨hb', c⟩]
          refine ⟨1, σ3, rfl, (YF_CF F).tr (YF_y h6 f3), K3, (by intro z; cases z), fun d' q' z => ?_⟩
          cases z
          have hd := hb hb'
          subst hd
          obtain ⟨h1, -, -, -⟩ := DC_CF h6 hD F
          refine ⟨rfl, by rw [f3 1 (by omega)]; exact m1, by rw [m5 y (by omega) (by omega)]; exact h1, m6, fun x hx => absurd hx (Nat.not_lt_zero x), fun x hx => absurd hx (Nat.not_lt_zero x)⟩
        · rw [if_neg c] at m4
          subst m4
          rw [if_pos rfl, if_neg (fun z => c z.2)]
          exact ⟨0, σ3, rfl, (YF_CF F).tr (YF_y h6 f3), K3, fun _ => rfl, (by intro d' q' z; cases z)⟩
      · rw [if_neg hb', if_pos rfl, if_neg (fun z => hb' z.1)]
        exact ⟨0, σ2, rfl, YF_CF F, K2, fun _ => rfl, (by intro d' q' z; cases z)⟩
  by_cases c2 : tr_ch len tx p = 114
  · have e : tr_cv len tx p = nI 114 := (tr_cvE h.2.1 (by omega) (by omega)).mpr c2
    obtain ⟨σ2, F, m0, m⟩ := tr_pre (y := y) (a2 := if b = true then 1 else 0) hK h hp (by omega) (H := 3) (by omega) (by rw [e]; rfl)
    have K2 := KC_CF hK F
    cases u : tr_rn len tx 3 0 (p + 1) (fun _ => 0) with
    | none => exact ⟨0, σ2, m0 u, YF_CF F, K2, fun _ => rfl, fun d' q z => by rw [it114n c2 u] at z; cases z⟩
    | some w =>
      obtain ⟨g, q⟩ := w
      obtain ⟨m1, m2, m3⟩ := m g q u
      have B := tr_rnB u (fun _ => Nat.zero_le _)
      have B0 := B 0
      have B1 := B 1
      have B2 := B 2
      rw [m3, it114 c2 u]
      unfold tr_cn
      rw [e, if_neg (show ¬ nI 114 = (110 : Int32) by decide), if_neg (show ¬ nI 114 = (112 : Int32) by decide), L_114, if_pos rfl, m2 0 (by omega), m2 1 (by omega), m2 2 (by omega)]
      obtain ⟨r1, σ3, e3, K3, f3, m4⟩ := te_r (u := g 0) (v := g 1) (l := g 2) K2 hg (DC_CF h6 hD F) dv (by omega) (by omega) (by omega)
      rw [e3, sb]
      dsimp only
      by_cases c : g 0 < Dr.n d ∧ g 1 < Dr.n d ∧ g 0 ≠ g 1 ∧ 1 ≤ g 2 ∧ g 2 ≤ 9
      · rw [if_pos c] at m4
        obtain ⟨rfl, m5⟩ := m4
        rw [if_pos c]
        refine ⟨1, σ3, rfl, (YF_CF F).tr (YF_y h6 f3), K3, (by intro z; cases z), fun d' q' z => ?_⟩
        cases z
        exact ⟨rfl, by rw [f3 1 (by omega)]; exact m1, m5⟩
      · rw [if_neg c] at m4
        subst m4
        rw [if_neg c]
        exact ⟨0, σ3, rfl, (YF_CF F).tr (YF_y h6 f3), K3, fun _ => rfl, (by intro d' q' z; cases z)⟩
  by_cases c3 : tr_ch len tx p = 112
  · have e : tr_cv len tx p = nI 112 := (tr_cvE h.2.1 (by omega) (by omega)).mpr c3
    obtain ⟨σ2, F, m0, m⟩ := tr_pre (y := y) (a2 := if b = true then 1 else 0) hK h hp (by omega) (H := 3) (by omega) (by rw [e]; rfl)
    have K2 := KC_CF hK F
    cases u : tr_rn len tx 3 0 (p + 1) (fun _ => 0) with
    | none => exact ⟨0, σ2, m0 u, YF_CF F, K2, fun _ => rfl, fun d' q z => by rw [it112n c3 u] at z; cases z⟩
    | some w =>
      obtain ⟨g, q⟩ := w
      obtain ⟨m1, m2, m3⟩ := m g q u
      have B := tr_rnB u (fun _ => Nat.zero_le _)
      have B0 := B 0
      have B1 := B 1
      have B2 := B 2
      rw [m3, it112 c3 u]
      unfold tr_cn
      rw [e, if_neg (show ¬ nI 112 = (110 : Int32) by decide), L_112, if_pos rfl, m2 0 (by omega), m2 1 (by omega), m2 2 (by omega)]
      obtain ⟨r1, σ3, e3, K3, f3, m4⟩ := te_p (u := g 0) (v := g 1) (l := g 2) K2 hg (DC_CF h6 hD F) dv (by omega) (by omega) (by omega)
      rw [e3, sb]
      dsimp only
      by_cases c : g 0 ≤ 3 ∧ g 1 < Dr.n d ∧ g 2 ≤ 59 ∧ Dr.np d < 6
      · rw [if_pos c] at m4
        obtain ⟨rfl, m5⟩ := m4
        rw [if_pos c]
        refine ⟨1, σ3, rfl, (YF_CF F).tr (YF_y h6 f3), K3, (by intro z; cases z), fun d' q' z => ?_⟩
        cases z
        exact ⟨rfl, by rw [f3 1 (by omega)]; exact m1, m5⟩
      · rw [if_neg c] at m4
        subst m4
        rw [if_neg c]
        exact ⟨0, σ3, rfl, (YF_CF F).tr (YF_y h6 f3), K3, fun _ => rfl, (by intro d' q' z; cases z)⟩
  by_cases c4 : tr_ch len tx p = 119
  · have e : tr_cv len tx p = nI 119 := (tr_cvE h.2.1 (by omega) (by omega)).mpr c4
    obtain ⟨σ2, F, m0, m⟩ := tr_pre (y := y) (a2 := if b = true then 1 else 0) hK h hp (by omega) (H := 2) (by omega) (by rw [e]; rfl)
    have K2 := KC_CF hK F
    cases u : tr_rn len tx 2 0 (p + 1) (fun _ => 0) with
    | none => exact ⟨0, σ2, m0 u, YF_CF F, K2, fun _ => rfl, fun d' q z => by rw [it119n c4 u] at z; cases z⟩
    | some w =>
      obtain ⟨g, q⟩ := w
      obtain ⟨m1, m2, m3⟩ := m g q u
      have B := tr_rnB u (fun _ => Nat.zero_le _)
      have B0 := B 0
      have B1 := B 1
      rw [m3, it119 c4 u]
      unfold tr_cn
      rw [e, if_neg (show ¬ nI 119 = (110 : Int32) by decide), if_neg (show ¬ nI 119 = (112 : Int32) by decide), if_neg (show ¬ nI 119 = (114 : Int32) by decide), L_119, if_pos rfl, m2 0 (by omega), m2 1 (by omega)]
      obtain ⟨r1, σ3, e3, K3, f3, m4⟩ := te_w (u := g 0) (v := g 1) K2 hg (DC_CF h6 hD F) dv (by omega) (by omega)
      rw [e3, sb]
      dsimp only
      by_cases c : g 0 < Dr.n d ∧ g 1 < Dr.n d ∧ g 0 ≠ g 1 ∧ Dr.nw d < 5
      · rw [if_pos c] at m4
        obtain ⟨rfl, m5⟩ := m4
        rw [if_pos c]
        refine ⟨1, σ3, rfl, (YF_CF F).tr (YF_y h6 f3), K3, (by intro z; cases z), fun d' q' z => ?_⟩
        cases z
        exact ⟨rfl, by rw [f3 1 (by omega)]; exact m1, m5⟩
      · rw [if_neg c] at m4
        subst m4
        rw [if_neg c]
        exact ⟨0, σ3, rfl, (YF_CF F).tr (YF_y h6 f3), K3, fun _ => rfl, (by intro d' q' z; cases z)⟩
  have n1 : ¬ tr_cv len tx p = 110 := fun z => c1 ((tr_cvE h.2.1 (by omega) (by omega)).mp z)
  have n2 : ¬ tr_cv len tx p = 114 := fun z => c2 ((tr_cvE h.2.1 (by omega) (by omega)).mp z)
  have n3 : ¬ tr_cv len tx p = 112 := fun z => c3 ((tr_cvE h.2.1 (by omega) (by omega)).mp z)
  have n4 : ¬ tr_cv len tx p = 119 := fun z => c4 ((tr_cvE h.2.1 (by omega) (by omega)).mp z)
  obtain ⟨σ2, F, m0, m⟩ := tr_pre (y := y) (a2 := if b = true then 1 else 0) hK h hp (by omega) (H := 0) (by omega) (nb_o n1 n3 n2 n4)
  obtain ⟨m1, m2, m3⟩ := m (fun _ => 0) (p + 1) rfl
  refine ⟨0, σ2, ?_, YF_CF F, KC_CF hK F, fun _ => rfl, fun d' q z => by rw [it_o c1 c2 c3 c4] at z; cases z⟩
  rw [m3]
  unfold tr_cn
  rw [if_neg n1, if_neg n3, if_neg n2, if_neg n4]
/-- the text, item by item -/
def tr_rd (len : Nat) (tx : Nat → Nat) : Nat → Bool → Dr → Nat → Dr × Option Nat
  | 0, _, d, _ => (d, none)
  | k + 1, b, d, p => if len ≤ p then (d, none) else match tr_it len tx b d p with
    | none => (d, some p)
    | some (d', q) => tr_rd len tx k false d' q
theorem tr_rdV : ∀ {k p : Nat} {b : Bool} {d : Dr}, DV d → DV (tr_rd len tx k b d p).1
  | 0, p, b, d, h => h
  | k + 1, p, b, d, h => by
    unfold tr_rd
    by_cases c : len ≤ p
    · rw [if_pos c]; exact h
    · rw [if_neg c]
      cases e : tr_it len tx b d p with
      | none => exact h
      | some w => obtain ⟨d', q⟩ := w; exact tr_rdV (it_V h e).1
theorem tr_rdE : ∀ {k p e : Nat} {b : Bool} {d : Dr}, DV d → p < 300 → len ≤ 200 → (tr_rd len tx k b d p).2 = some e → e < 300
  | 0, p, e, b, d, h, hp, hl, z => by unfold tr_rd at z; cases z
  | k + 1, p, e, b, d, h, hp, hl, z => by
    unfold tr_rd at z
    by_cases c : len ≤ p
    · rw [if_pos c] at z; cases z
    · rw [if_neg c] at z
      cases u : tr_it len tx b d p with
      | none => rw [u] at z; cases z; exact hp
      | some w =>
        obtain ⟨d', q⟩ := w
        rw [u] at z
        have v := it_V h u
        exact tr_rdE v.1 (by omega) hl z
theorem tr_ie {x : Int32} {j : Nat} (hx : σ 1 2 = nI len) (hl : len ≤ 200) (hp : σ 1 3 = nI p) (hpl : p < 300) (h : len ≤ p) : f_X1_readInto_b1 1 y x σ = some (.inr (.inr σ)) := by
  unfold f_X1_readInto_b1
  split
  · rfl
  · rw [hx, hp, if_pos (nI_le h (by omega))]
theorem tr_il (hg : gY y) (h6 : 6 ≤ y) : ∀ (k j p m : Nat) (σ : Sg) (b : Bool) (d : Dr), (b = true ↔ j = 0) → (b = true → d = d0r) → KC σ → TC σ len tx → σ 1 3 = nI p → DC σ y d → DV d → j ≤ p → p < 300 → len < p + k → k < m → ∃ rr, lp (fun st => f_X1_readInto_b1 1 y st.1 st.2) m (nI j, σ) = some rr ∧ ∃ σ', YF y σ σ' ∧ KC σ' ∧ ((tr_rd len tx k b d p).2 = none → rr = .inr σ' ∧ DC σ' y (tr_rd len tx k b d p).1) ∧ ∀ e, (tr_rd len tx k b d p).2 = some e → rr = .inl (nI e, σ')
  | 0, j, p, m + 1, σ, b, d, hj, hb, hK, h, hp, hD, dv, hjp, hpl, hk, hm => by
    refine ⟨_, lp_end (r := .inr σ) (tr_ie (j := j) h.1 h.2.1.1 hp hpl (by omega)), σ, YF.rf, hK, fun _ => ⟨rfl, hD⟩, fun e z => by unfold tr_rd at z; cases z⟩
  | k + 1, j, p, m + 1, σ, b, d, hj, hb, hK, h, hp, hD, dv, hjp, hpl, hk, hm => by
    unfold tr_rd
    by_cases c : len ≤ p
    · rw [if_pos c]
      exact ⟨_, lp_end (r := .inr σ) (tr_ie (j := j) h.1 h.2.1.1 hp hpl c), σ, YF.rf, hK, fun _ => ⟨rfl, hD⟩, (by intro e z; cases z)⟩
    · rw [if_neg c]
      have h200 := h.2.1.1
      obtain ⟨r, σ1, e1, F1, K1, z0, z1⟩ := tr_ri hK h hg h6 hp hpl hD dv hb
      have B : f_X1_readInto_b1 1 y (nI j) σ = if ¬ r = 0 then some (.inl (nI (j + 1), σ1)) else some (.inr (.inl (nI p, σ1))) := by
        unfold f_X1_readInto_b1
        rw [L_200, if_neg (nI_ge (show j < 200 by omega) (by omega)), h.1, hp, if_neg (nI_ge (show p < len by omega) (by omega))]
        by_cases j0 : j = 0
        · rw [if_pos (hj.mpr j0)] at e1
          rw [if_neg (fun q => q (by rw [j0]; rfl)), e1, sb, nI_1]
        · rw [if_neg (fun q => j0 (hj.mp q))] at e1
          rw [if_pos (fun q => j0 ((nI_0e (by omega)).mp q)), e1, sb, nI_1]
      cases u : tr_it len tx b d p with
      | none =>
        have r0 := z0 u
        subst r0
        rw [if_neg (fun q => q rfl)] at B
        refine ⟨_, lp_end (r := .inl (nI p, σ1)) B, σ1, F1, K1, (by intro z; cases z), fun e z => ?_⟩
        cases z
        rfl
      | some w =>
        obtain ⟨d', q⟩ := w
        obtain ⟨r1, g3, D1⟩ := z1 d' q u
        subst r1
        rw [if_pos one0] at B
        obtain ⟨V1, L1, L2⟩ := it_V dv u
        obtain ⟨rr, e2, σ', F2, K2, w1, w2⟩ := tr_il hg h6 k (j + 1) q m σ1 false d' ⟨(by intro z; cases z), fun z => absurd z (by omega)⟩ (by intro z; cases z) K1 (TC_YF h6 h F1) g3 D1 V1 (by omega) (by omega) (by omega) (by omega)
        exact ⟨rr, (lp_go B).trans e2, σ', F1.tr F2, K2, w1, w2⟩
/-- what the text says: a draft, and the place of the first fault -/
def tr_R (len : Nat) (tx : Nat → Nat) : Dr × Option Nat := tr_rd len tx 201 true d0r 0
theorem tr_into (hK : KC σ) (h : TC σ len tx) (hg : gY y) (h6 : 6 ≤ y) : ∃ σ', f_X1_readInto σ 1 y = some (oI (tr_R len tx).2, σ') ∧ YF y σ σ' ∧ KC σ' ∧ ((tr_R len tx).2 = none → DC σ' y (tr_R len tx).1) := by
  have h200 := h.2.1.1
  obtain ⟨σ1, e1, K1, f1, R1⟩ := cl_ok (t := 6) hK hg.2.2.1 (by omega) (by omega)
  have ky : kd y ≠ 0 := by rw [hg.2.1]; decide
  obtain ⟨σ2, hs2⟩ : ∃ σ2, σ2 = sf (sf (sf (sf (sf σ1 y 5 0) y 6 0) y 7 0) y 8 0) y 9 0 := ⟨_, rfl⟩
  have K2 : KC σ2 := by rw [hs2]; exact KC_sf (KC_sf (KC_sf (KC_sf (KC_sf K1 ky) ky) ky) ky) ky
  have f2 : ∀ i, i ≠ y → σ2 i = σ1 i := fun i hi => by rw [hs2, sf_ne hi, sf_ne hi, sf_ne hi, sf_ne hi, sf_ne hi]
  have Y2 : YF y σ σ2 := YF_y h6 (fun i hi => (f2 i (by omega)).trans (f1 i (by omega) (by omega)))
  have D2 : DC σ2 y d0r := by
    refine ⟨⟨?_, ?_, ?_, ?_, ?_⟩, RC_fr R1 (f2 _ (by omega)) (f2 _ (by omega)), fun q hq => absurd hq (Nat.not_lt_zero q), fun q hq => absurd hq (Nat.not_lt_zero q)⟩
    · rw [hs2, sf_row, upd_ne (by omega), sf_row, upd_ne (by omega), sf_row, upd_ne (by omega), sf_row, upd_ne (by omega), sf_row, upd_self]; rfl
    · rw [hs2, sf_row, upd_ne (by omega), sf_row, upd_ne (by omega), sf_row, upd_ne (by omega), sf_row, upd_self]; rfl
    · rw [hs2, sf_row, upd_ne (by omega), sf_row, upd_ne (by omega), sf_row, upd_self]; rfl
    · rw [hs2, sf_row, upd_ne (by omega), sf_row, upd_self]; rfl
    · rw [hs2, sf_row, upd_self]; rfl
  have F3 : CF σ2 (sf σ2 1 3 (nI 0)) := CF_3
  obtain ⟨rr, e4, σ', F4, K4, w1, w2⟩ := tr_il hg h6 201 0 0 FU (sf σ2 1 3 (nI 0)) true d0r ⟨fun _ => rfl, fun _ => rfl⟩ (fun _ => rfl) (KC_CF K2 F3) (TC_CF (TC_YF h6 h Y2) F3) (by rw [sf_row, upd_self]) (DC_CF h6 D2 F3) (DV_0 (n := 6) (by omega) (by omega)) (Nat.le_refl 0) (by omega) (by omega) (by unfold FU; omega)
  have E : f_X1_readInto σ 1 y = (some rr).bind fun rr => Sum.elim (fun q => f_X1_readInto_k1 q.1 q.2) (fun q => f_X1_readInto_k2 q) rr := by
    unfold f_X1_readInto f_X5_clear
    rw [L_6, e1]
    simp only [sb]
    rw [← hs2]
    exact congrArg (fun z => Option.bind z _) e4
  have Y4 := (Y2.tr (YF_CF F3)).tr F4
  cases u : (tr_R len tx).2 with
  | none =>
    obtain ⟨rfl, D4⟩ := w1 u
    exact ⟨σ', E, Y4, K4, fun _ => D4⟩
  | some e =>
    have z := w2 e u
    subst z
    exact ⟨σ', E, Y4, K4, (by intro z; cases z)⟩
end RI
