/-! Part 37: items and the text whole, the class's side. -/
/-- a draft: towns, miles, posts, walkers, kinds, towns and ages of posts, places and goals of walkers -/
abbrev Dr : Type := Nat × Mi × Nat × Nat × (Nat → Nat) × (Nat → Nat) × (Nat → Nat) × (Nat → Nat) × (Nat → Nat)
def Dr.n (d : Dr) : Nat := d.1
def Dr.mi (d : Dr) : Mi := d.2.1
def Dr.np (d : Dr) : Nat := d.2.2.1
def Dr.nw (d : Dr) : Nat := d.2.2.2.1
def Dr.ki (d : Dr) : Nat → Nat := d.2.2.2.2.1
def Dr.to (d : Dr) : Nat → Nat := d.2.2.2.2.2.1
def Dr.ag (d : Dr) : Nat → Nat := d.2.2.2.2.2.2.1
def Dr.wa (d : Dr) : Nat → Nat := d.2.2.2.2.2.2.2.1
def Dr.go (d : Dr) : Nat → Nat := d.2.2.2.2.2.2.2.2
def d0r : Dr := (6, fun _ _ => 0, 0, 0, fun _ => 0, fun _ => 0, fun _ => 0, fun _ => 0, fun _ => 0)
def tr_it (len : Nat) (tx : Nat → Nat) (b : Bool) (d : Dr) (p : Nat) : Option (Dr × Nat) :=
  if tr_ch len tx p = 110 then
    match tr_rn len tx 1 0 (p + 1) (fun _ => 0) with
    | none => none
    | some (f, q) => if b = true ∧ 2 ≤ f 0 ∧ f 0 ≤ 8 then some ((f 0, d0r.2), q) else none
  else if tr_ch len tx p = 114 then
    match tr_rn len tx 3 0 (p + 1) (fun _ => 0) with
    | none => none
    | some (f, q) => if f 0 < Dr.n d ∧ f 1 < Dr.n d ∧ f 0 ≠ f 1 ∧ 1 ≤ f 2 ∧ f 2 ≤ 9 then some ((Dr.n d, sM (Dr.mi d) (f 0) (f 1) (f 2), d.2.2), q) else none
  else if tr_ch len tx p = 112 then
    match tr_rn len tx 3 0 (p + 1) (fun _ => 0) with
    | none => none
    | some (f, q) => if f 0 ≤ 3 ∧ f 1 < Dr.n d ∧ f 2 ≤ 59 ∧ Dr.np d < 6 then some ((Dr.n d, Dr.mi d, Dr.np d + 1, Dr.nw d, upN (Dr.ki d) (Dr.np d) (f 0), upN (Dr.to d) (Dr.np d) (f 1), upN (Dr.ag d) (Dr.np d) (f 2), Dr.wa d, Dr.go d), q) else none
  else if tr_ch len tx p = 119 then
    match tr_rn len tx 2 0 (p + 1) (fun _ => 0) with
    | none => none
    | some (f, q) => if f 0 < Dr.n d ∧ f 1 < Dr.n d ∧ f 0 ≠ f 1 ∧ Dr.nw d < 5 then some ((Dr.n d, Dr.mi d, Dr.np d, Dr.nw d + 1, Dr.ki d, Dr.to d, Dr.ag d, upN (Dr.wa d) (Dr.nw d) (f 0), upN (Dr.go d) (Dr.nw d) (f 1)), q) else none
  else none
def DV (d : Dr) : Prop := VM (Dr.n d) (Dr.mi d) ∧ (Dr.np d ≤ 6 ∧ Dr.nw d ≤ 5) ∧ (∀ p, Dr.ki d p ≤ 3) ∧ (∀ p, Dr.to d p < Dr.n d) ∧ (∀ p, Dr.ag d p ≤ 59) ∧ (∀ v, Dr.wa d v < Dr.n d) ∧ ∀ v, Dr.go d v < Dr.n d
theorem upN_le {f : Nat → Nat} {p v L : Nat} (h : ∀ q, f q ≤ L) (hv : v ≤ L) : ∀ q, upN f p v q ≤ L := fun q => by
  unfold upN; split
  · exact hv
  · exact h q
theorem upN_lt {f : Nat → Nat} {p v L : Nat} (h : ∀ q, f q < L) (hv : v < L) : ∀ q, upN f p v q < L := fun q => by
  unfold upN; split
  · exact hv
  · exact h q
theorem DV_0 {n : Nat} (h2 : 2 ≤ n) (h8 : n ≤ 8) : DV (n, d0r.2) := ⟨⟨h2, h8, fun _ _ => Nat.zero_le _, fun _ _ _ => rfl⟩, ⟨Nat.zero_le _, Nat.zero_le _⟩, fun _ => Nat.zero_le _, fun _ => by show 0 < n; omega, fun _ => Nat.zero_le _, fun _ => by show 0 < n; omega, fun _ => by show 0 < n; omega⟩
section IT
variable {σ σ' : Sg} {len : Nat} {tx : Nat → Nat} {b : Bool} {d : Dr} {p y : Nat}
theorem it110 (c : tr_ch len tx p = 110) {g : Nat → Nat} {q : Nat} (e : tr_rn len tx 1 0 (p + 1) (fun _ => 0) = some (g, q)) : tr_it len tx b d p = if b = true ∧ 2 ≤ g 0 ∧ g 0 ≤ 8 then some ((g 0, d0r.2), q) else none := by
  unfold tr_it; rw [if_pos c, e]
theorem it110n (c : tr_ch len tx p = 110) (e : tr_rn len tx 1 0 (p + 1) (fun _ => 0) = none) : tr_it len tx b d p = none := by
  unfold tr_it; rw [if_pos c, e]
theorem it114 (c : tr_ch len tx p = 114) {f : Nat → Nat} {q : Nat} (e : tr_rn len tx 3 0 (p + 1) (fun _ => 0) = some (f, q)) : tr_it len tx b d p = if f 0 < Dr.n d ∧ f 1 < Dr.n d ∧ f 0 ≠ f 1 ∧ 1 ≤ f 2 ∧ f 2 ≤ 9 then some ((Dr.n d, sM (Dr.mi d) (f 0) (f 1) (f 2), d.2.2), q) else none := by
  unfold tr_it; rw [if_neg (by omega), if_pos c, e]
theorem it114n (c : tr_ch len tx p = 114) (e : tr_rn len tx 3 0 (p + 1) (fun _ => 0) = none) : tr_it len tx b d p = none := by
  unfold tr_it; rw [if_neg (by omega), if_pos c, e]
theorem it112 (c : tr_ch len tx p = 112) {f : Nat → Nat} {q : Nat} (e : tr_rn len tx 3 0 (p + 1) (fun _ => 0) = some (f, q)) : tr_it len tx b d p = if f 0 ≤ 3 ∧ f 1 < Dr.n d ∧ f 2 ≤ 59 ∧ Dr.np d < 6 then some ((Dr.n d, Dr.mi d, Dr.np d + 1, Dr.nw d, upN (Dr.ki d) (Dr.np d) (f 0), upN (Dr.to d) (Dr.np d) (f 1), upN (Dr.ag d) (Dr.np d) (f 2), Dr.wa d, Dr.go d), q) else none := by
  unfold tr_it; rw [if_neg (by omega), if_neg (by omega), if_pos c, e]
theorem it112n (c : tr_ch len tx p = 112) (e : tr_rn len tx 3 0 (p + 1) (fun _ => 0) = none) : tr_it len tx b d p = none := by
  unfold tr_it; rw [if_neg (by omega), if_neg (by omega), if_pos c, e]
theorem it119 (c : tr_ch len tx p = 119) {f : Nat → Nat} {q : Nat} (e : tr_rn len tx 2 0 (p + 1) (fun _ => 0) = some (f, q)) : tr_it len tx b d p = if f 0 < Dr.n d ∧ f 1 < Dr.n d ∧ f 0 ≠ f 1 ∧ Dr.nw d < 5 then some ((Dr.n d, Dr.mi d, Dr.np d, Dr.nw d + 1, Dr.ki d, Dr.to d, Dr.ag d, upN (Dr.wa d) (Dr.nw d) (f 0), upN (Dr.go d) (Dr.nw d) (f 1)), q) else none := by
  unfold tr_it; rw [if_neg (by omega), if_neg (by omega), if_neg (by omega), if_pos c, e]
theorem it119n (c : tr_ch len tx p = 119) (e : tr_rn len tx 2 0 (p + 1) (fun _ => 0) = none) : tr_it len tx b d p = none := by
  unfold tr_it; rw [if_neg (by omega), if_neg (by omega), if_neg (by omega), if_pos c, e]
theorem it_o (c1 : ¬ tr_ch len tx p = 110) (c2 : ¬ tr_ch len tx p = 114) (c3 : ¬ tr_ch len tx p = 112) (c4 : ¬ tr_ch len tx p = 119) : tr_it len tx b d p = none := by
  unfold tr_it; rw [if_neg c1, if_neg c2, if_neg c3, if_neg c4]
theorem it_V (dv : DV d) {d' : Dr} {q : Nat} (h : tr_it len tx b d p = some (d', q)) : DV d' ∧ p + 1 ≤ q ∧ q ≤ p + 10 := by
  obtain ⟨v1, ⟨v2, v2'⟩, v3, v4, v5, v6, v7⟩ := dv
  by_cases c1 : tr_ch len tx p = 110
  · cases e : tr_rn len tx 1 0 (p + 1) (fun _ => 0) with
    | none => rw [it110n c1 e] at h; cases h
    | some w =>
      obtain ⟨g, u⟩ := w
      have L := tr_rnL e
      rw [it110 c1 e] at h
      by_cases c : b = true ∧ 2 ≤ g 0 ∧ g 0 ≤ 8
      · rw [if_pos c] at h; cases h
        exact ⟨DV_0 c.2.1 c.2.2, by omega, by omega⟩
      · rw [if_neg c] at h; cases h
  by_cases c2 : tr_ch len tx p = 114
  · cases e : tr_rn len tx 3 0 (p + 1) (fun _ => 0) with
    | none => rw [it114n c2 e] at h; cases h
    | some w =>
      obtain ⟨g, u⟩ := w
      have L := tr_rnL e
      rw [it114 c2 e] at h
      by_cases c : g 0 < Dr.n d ∧ g 1 < Dr.n d ∧ g 0 ≠ g 1 ∧ 1 ≤ g 2 ∧ g 2 ≤ 9
      · rw [if_pos c] at h; cases h
        exact ⟨⟨VM_s v1 c.1 c.2.1 c.2.2.2.2, ⟨v2, v2'⟩, v3, v4, v5, v6, v7⟩, by omega, by omega⟩
      · rw [if_neg c] at h; cases h
  by_cases c3 : tr_ch len tx p = 112
  · cases e : tr_rn len tx 3 0 (p + 1) (fun _ => 0) with
    | none => rw [it112n c3 e] at h; cases h
    | some w =>
      obtain ⟨g, u⟩ := w
      have L := tr_rnL e
      rw [it112 c3 e] at h
      by_cases c : g 0 ≤ 3 ∧ g 1 < Dr.n d ∧ g 2 ≤ 59 ∧ Dr.np d < 6
      · rw [if_pos c] at h; cases h
        exact ⟨⟨v1, ⟨c.2.2.2, v2'⟩, upN_le v3 c.1, upN_lt v4 c.2.1, upN_le v5 c.2.2.1, v6, v7⟩, by omega, by omega⟩
      · rw [if_neg c] at h; cases h
  by_cases c4 : tr_ch len tx p = 119
  · cases e : tr_rn len tx 2 0 (p + 1) (fun _ => 0) with
    | none => rw [it119n c4 e] at h; cases h
    | some w =>
      obtain ⟨g, u⟩ := w
      have L := tr_rnL e
      rw [it119 c4 e] at h
      by_cases c : g 0 < Dr.n d ∧ g 1 < Dr.n d ∧ g 0 ≠ g 1 ∧ Dr.nw d < 5
      · rw [if_pos c] at h; cases h
        exact ⟨⟨v1, ⟨v2, c.2.2.2⟩, v3, v4, v5, upN_lt v6 c.1, upN_lt v7 c.2.1⟩, by omega, by omega⟩
      · rw [if_neg c] at h; cases h
  rw [it_o c1 c2 c3 c4] at h; cases h
/-- a draft in a yard of the class -/
def DC (σ : Sg) (y : Nat) (d : Dr) : Prop := (σ y 5 = nI (Dr.np d) ∧ σ y 6 = nI (Dr.nw d) ∧ σ y 7 = nI 0 ∧ σ y 8 = nI 0 ∧ σ y 9 = nI 0) ∧ RC σ (y + 1) (Dr.n d) (Dr.mi d) ∧ (∀ p, p < Dr.np d → σ (y + 6 + 1) (p * 3) = nI (Dr.ki d p) ∧ σ (y + 6 + 1) (p * 3 + 1) = nI (Dr.to d p) ∧ σ (y + 6 + 1) (p * 3 + 2) = nI (Dr.ag d p)) ∧ (∀ v, v < Dr.nw d → σ (y + 12 + 1) (v * 2) = nI (Dr.wa d v) ∧ σ (y + 12 + 1) (v * 2 + 1) = nI (Dr.go d v))
/-- what reading an item changes in the class -/
def YF (y : Nat) (σ σ' : Sg) : Prop := (∀ j, j ≠ 1 → j ≠ 5 → (j < y ∨ y + 13 < j) → σ' j = σ j) ∧ ∀ k, k ≠ 3 → σ' 1 k = σ 1 k
theorem YF.rf : YF y σ σ := ⟨fun _ _ _ _ => rfl, fun _ _ => rfl⟩
theorem YF.tr {σ1 σ2 : Sg} (h : YF y σ σ1) (g : YF y σ1 σ2) : YF y σ σ2 := ⟨fun j a b c => (g.1 j a b c).trans (h.1 j a b c), fun k a => (g.2 k a).trans (h.2 k a)⟩
theorem YF_CF (h : CF σ σ') : YF y σ σ' := ⟨fun j a b _ => h.1 j a b, h.2⟩
theorem YF_y (h6 : 6 ≤ y) (h : ∀ i, (i < y ∨ y + 13 < i) → σ' i = σ i) : YF y σ σ' := ⟨fun j _ _ c => h j c, fun k _ => by rw [h 1 (by omega)]⟩
theorem DC_CF (h6 : 6 ≤ y) (hD : DC σ y d) (c : CF σ σ') : DC σ' y d := by
  obtain ⟨h1, h2, h3, h4⟩ := hD
  have f : ∀ j, 6 ≤ j → σ' j = σ j := fun j hj => c.1 j (by omega) (by omega)
  refine ⟨by rw [f y h6]; exact h1, RC_fr h2 (f _ (by omega)) (f _ (by omega)), ?_, ?_⟩
  · rw [f (y + 6 + 1) (by omega)]; exact h3
  · rw [f (y + 12 + 1) (by omega)]; exact h4
theorem TC_YF (h6 : 6 ≤ y) (h : TC σ len tx) (c : YF y σ σ') : TC σ' len tx := ⟨by rw [c.2 2 (by omega)]; exact h.1, h.2.1, fun i hi => by rw [c.1 3 (by omega) (by omega) (by omega)]; exact h.2.2 i hi⟩
theorem cl_ok {r t : Nat} (hK : KC σ) (hg : gRk r) (h1 : 1 ≤ t) (h8 : t ≤ 8) : ∃ σ', f_X3_clear σ r (nI t) = some σ' ∧ KC σ' ∧ (∀ i, i ≠ r → i ≠ r + 1 + 1 → σ' i = σ i) ∧ RC σ' r t (fun _ _ => 0) := by
  unfold f_X3_clear
  rw [L_8, L_0, if_neg (nI_nlt (show t ≤ 8 by omega) (by omega)), if_pos (nI_lt (show 0 < t by omega) (by omega)), sb]
  have K1 : KC (sf σ r 0 (nI t)) := KC_sf hK (by rw [hg.1.2.1]; decide)
  obtain ⟨σ1, e1, f1, g1⟩ := fill_ok (σ := sf σ r 0 (nI t)) (v := nI 0) hg.1.m
  rw [e1, sb]
  refine ⟨σ1, rfl, KC_fr K1 (by rw [hg.2.2]; decide) f1, fun i a b => (f1 i b).trans (sf_ne a), by rw [f1 r (by omega), sf_row, upd_self], fun a c ha hc => ?_⟩
  rw [g1, if_pos (by omega)]
theorem it_R {n : Nat} {mi : Mi} {t : Nat} (h : RC σ (y + 1) n mi) (hn : n ≤ 8) (ht : t < 2 ^ 30) : f_X5_isTown σ y (nI t) = some (b32 (t < n)) := by
  unfold f_X5_isTown f_X3_towns
  rw [if_neg (nI_pos (by omega)), h.1, sb]
  by_cases c : t < n
  · rw [if_neg (nI_ge c (by omega)), b32_t c]
  · rw [if_pos (nI_le (by omega) (by omega)), b32_f c]
theorem a2_R {n : Nat} {mi : Mi} {s t : Nat} (h : RC σ (y + 1) n mi) (hn : n ≤ 8) (hs : s < 2 ^ 30) (ht : t < 2 ^ 30) : f_X5_areTwoTowns σ y (nI s) (nI t) = some (b32 (s < n ∧ t < n ∧ s ≠ t)) := by
  unfold f_X5_areTwoTowns
  rw [it_R h hn hs, sb]
  by_cases c : s < n
  · rw [b32_t c, if_neg one0, it_R h hn ht, sb]
    by_cases e : t < n
    · rw [b32_t e, if_neg one0]
      by_cases g : s = t
      · rw [if_pos (by rw [g]), b32_f (fun z => z.2.2 g)]
      · rw [if_neg (fun z => g ((nI_eq (by omega) (by omega)).mp z)), b32_t ⟨c, e, g⟩]
    · rw [b32_f e, if_pos rfl, b32_f (fun z => e z.2.1)]
  · rw [b32_f c, if_pos rfl, b32_f (fun z => c z.1)]
theorem te_t {t : Nat} (hK : KC σ) (hg : gY y) (ht : t < 2 ^ 30) : ∃ r σ', f_X5_tellTowns σ y (nI t) = some (r, σ') ∧ KC σ' ∧ (∀ i, (i < y ∨ y + 13 < i) → σ' i = σ i) ∧ (if 2 ≤ t ∧ t ≤ 8 then r = 1 ∧ (∀ i, i ≠ y + 1 → i ≠ y + 1 + 1 + 1 → σ' i = σ i) ∧ RC σ' (y + 1) t (fun _ _ => 0) else r = 0) := by
  unfold f_X5_tellTowns
  rw [L_2, L_8]
  by_cases c : 2 ≤ t
  · rw [if_neg (nI_nlt c (by omega))]
    by_cases e : t ≤ 8
    · rw [if_pos (nI_le e (by omega))]
      obtain ⟨σ1, e1, K1, f1, R1⟩ := cl_ok hK hg.2.2.1 (show 1 ≤ t by omega) e
      rw [e1, sb]
      exact ⟨1, σ1, rfl, K1, fun i hi => f1 i (by omega) (by omega), by rw [if_pos ⟨c, e⟩]; exact ⟨rfl, f1, R1⟩⟩
    · rw [if_neg (nI_ge (by omega) (by omega))]
      exact ⟨0, σ, rfl, hK, fun _ _ => rfl, by rw [if_neg (fun z => e z.2)]⟩
  · rw [if_pos (nI_lt (by omega) (by omega))]
    exact ⟨0, σ, rfl, hK, fun _ _ => rfl, by rw [if_neg (fun z => c z.1)]⟩
theorem te_r {u v l : Nat} (hK : KC σ) (hg : gY y) (hD : DC σ y d) (dv : DV d) (hu : u < 2 ^ 30) (hv : v < 2 ^ 30) (hl : l < 2 ^ 30) : ∃ r σ', f_X5_tellRoad σ y (nI u) (nI v) (nI l) = some (r, σ') ∧ KC σ' ∧ (∀ i, (i < y ∨ y + 13 < i) → σ' i = σ i) ∧ (if u < Dr.n d ∧ v < Dr.n d ∧ u ≠ v ∧ 1 ≤ l ∧ l ≤ 9 then r = 1 ∧ DC σ' y (Dr.n d, sM (Dr.mi d) u v l, d.2.2) else r = 0) := by
  obtain ⟨h1, h2, h3, h4⟩ := hD
  have hn := dv.1.2.1
  unfold f_X5_tellRoad
  rw [a2_R h2 hn hu hv, sb, L_1, L_9]
  by_cases c : u < Dr.n d ∧ v < Dr.n d ∧ u ≠ v
  · rw [b32_t c, if_neg one0]
    by_cases e : 1 ≤ l
    · rw [if_neg (nI_nlt e (by omega))]
      by_cases g : l ≤ 9
      · rw [if_pos (nI_le g (by omega))]
        obtain ⟨σ1, e1, K1, f1, R1⟩ := se_ok hK hg.2.2.1 h2 hn (l := l) c.1 c.2.1
        rw [e1, sb]
        refine ⟨1, σ1, rfl, K1, fun i hi => f1 i (by omega), ?_⟩
        rw [if_pos ⟨c.1, c.2.1, c.2.2, e, g⟩]
        refine ⟨rfl, by rw [f1 y (by omega)]; exact h1, R1, ?_, ?_⟩
        · rw [f1 (y + 6 + 1) (by omega)]; exact h3
        · rw [f1 (y + 12 + 1) (by omega)]; exact h4
      · rw [if_neg (nI_ge (by omega) (by omega))]
        exact ⟨0, σ, rfl, hK, fun _ _ => rfl, by rw [if_neg (fun z => g z.2.2.2.2)]⟩
    · rw [if_pos (nI_lt (by omega) (by omega))]
      exact ⟨0, σ, rfl, hK, fun _ _ => rfl, by rw [if_neg (fun z => e z.2.2.2.1)]⟩
  · rw [b32_f c, if_pos rfl]
    exact ⟨0, σ, rfl, hK, fun _ _ => rfl, by rw [if_neg (fun z => c ⟨z.1, z.2.1, z.2.2.1⟩)]⟩
theorem te_p {u v l : Nat} (hK : KC σ) (hg : gY y) (hD : DC σ y d) (dv : DV d) (hu : u < 2 ^ 30) (hv : v < 2 ^ 30) (hl : l < 2 ^ 30) : ∃ r σ', f_X5_tellPost σ y (nI u) (nI v) (nI l) = some (r, σ') ∧ KC σ' ∧ (∀ i, (i < y ∨ y + 13 < i) → σ' i = σ i) ∧ (if u ≤ 3 ∧ v < Dr.n d ∧ l ≤ 59 ∧ Dr.np d < 6 then r = 1 ∧ DC σ' y (Dr.n d, Dr.mi d, Dr.np d + 1, Dr.nw d, upN (Dr.ki d) (Dr.np d) u, upN (Dr.to d) (Dr.np d) v, upN (Dr.ag d) (Dr.np d) l, Dr.wa d, Dr.go d) else r = 0) := by
  obtain ⟨h1, h2, h3, h4⟩ := hD
  have hn := dv.1.2.1
  have hp6 := dv.2.1.1
  have no : (¬ (u ≤ 3 ∧ v < Dr.n d ∧ l ≤ 59 ∧ Dr.np d < 6)) → ∃ r σ', (some ((0 : Int32), σ) : Option (Int32 × Sg)) = some (r, σ') ∧ KC σ' ∧ (∀ i, (i < y ∨ y + 13 < i) → σ' i = σ i) ∧ (if u ≤ 3 ∧ v < Dr.n d ∧ l ≤ 59 ∧ Dr.np d < 6 then r = 1 ∧ DC σ' y (Dr.n d, Dr.mi d, Dr.np d + 1, Dr.nw d, upN (Dr.ki d) (Dr.np d) u, upN (Dr.to d) (Dr.np d) v, upN (Dr.ag d) (Dr.np d) l, Dr.wa d, Dr.go d) else r = 0) := fun z => ⟨0, σ, rfl, hK, fun _ _ => rfl, by rw [if_neg z]⟩
  unfold f_X5_tellPost
  rw [if_neg (nI_pos (by omega)), L_4, L_6, L_59]
  by_cases c1 : u ≤ 3
  · rw [if_neg (nI_ge (show u < 4 by omega) (by omega)), it_R h2 hn hv, sb]
    by_cases c2 : v < Dr.n d
    · rw [b32_t c2, if_neg one0, if_neg (nI_pos (by omega))]
      by_cases c3 : l ≤ 59
      · rw [if_neg (nI_nlt c3 (by omega)), h1.1]
        by_cases c4 : Dr.np d < 6
        · rw [if_pos (nI_lt c4 (by omega))]
          have k9 : kd (y + 6 + 1) ≠ 0 := by rw [hg.2.2.2.1.2]; decide
          have hgd := hg.2.2.2.1.1
          rw [L_0, put_in hK hgd (c := 0) (by omega) (by omega), sb, sf_ne (by omega), h1.1, L_1, put_in (KC_sf hK k9) hgd (c := 1) (by omega) (by omega), sb, sf_ne (by omega), sf_ne (by omega), h1.1, L_2, put_in (KC_sf (KC_sf hK k9) k9) hgd (c := 2) (by omega) (by omega), sb, sb, sf_ne (by omega), sf_ne (by omega), sf_ne (by omega), h1.1, nI_add]
          refine ⟨_, _, rfl, KC_sf (KC_sf (KC_sf (KC_sf hK k9) k9) k9) (by rw [hg.2.1]; decide), fun i hi => by rw [sf_ne (by omega), sf_ne (by omega), sf_ne (by omega), sf_ne (by omega)], ?_⟩
          rw [if_pos ⟨c1, c2, c3, c4⟩]
          refine ⟨rfl, ⟨by rw [sf_row, upd_self]; rfl, ?_, ?_, ?_, ?_⟩, RC_fr h2 (by rw [sf_ne (by omega), sf_ne (by omega), sf_ne (by omega), sf_ne (by omega)]) (by rw [sf_ne (by omega), sf_ne (by omega), sf_ne (by omega), sf_ne (by omega)]), fun q hq => ?_, ?_⟩
          · rw [sf_row, upd_ne (by omega), sf_ne (by omega), sf_ne (by omega), sf_ne (by omega)]; exact h1.2.1
          · rw [sf_row, upd_ne (by omega), sf_ne (by omega), sf_ne (by omega), sf_ne (by omega)]; exact h1.2.2.1
          · rw [sf_row, upd_ne (by omega), sf_ne (by omega), sf_ne (by omega), sf_ne (by omega)]; exact h1.2.2.2.1
          · rw [sf_row, upd_ne (by omega), sf_ne (by omega), sf_ne (by omega), sf_ne (by omega)]; exact h1.2.2.2.2
          · have hq : q < Dr.np d + 1 := hq
            rw [sf_ne (by omega), sf_row, sf_row, sf_row]
            show _ = nI (upN (Dr.ki d) (Dr.np d) u q) ∧ _ = nI (upN (Dr.to d) (Dr.np d) v q) ∧ _ = nI (upN (Dr.ag d) (Dr.np d) l q)
            unfold upN
            by_cases e : q = Dr.np d
            · subst e
              rw [if_pos rfl, if_pos rfl, if_pos rfl]
              refine ⟨?_, ?_, ?_⟩
              · rw [upd_ne (by omega), upd_ne (by omega), show Dr.np d * 3 = Dr.np d * 3 + 0 from rfl, upd_self]
              · rw [upd_ne (by omega), upd_self]
              · rw [upd_self]
            · rw [if_neg e, if_neg e, if_neg e]
              obtain ⟨g1, g2, g3⟩ := h3 q (by omega)
              refine ⟨?_, ?_, ?_⟩
              · rw [upd_ne (by omega), upd_ne (by omega), upd_ne (by omega)]; exact g1
              · rw [upd_ne (by omega), upd_ne (by omega), upd_ne (by omega)]; exact g2
              · rw [upd_ne (by omega), upd_ne (by omega), upd_ne (by omega)]; exact g3
          · rw [sf_ne (by omega), sf_ne (by omega), sf_ne (by omega), sf_ne (by omega)]; exact h4
        · rw [if_neg (nI_nlt (by omega) (by omega))]
          exact no (fun z => c4 z.2.2.2)
      · rw [if_pos (nI_lt (by omega) (by omega))]
        exact no (fun z => c3 z.2.2.1)
    · rw [b32_f c2, if_pos rfl]
      exact no (fun z => c2 z.2.1)
  · rw [if_pos (nI_le (by omega) (by omega))]
    exact no (fun z => c1 z.1)
theorem te_w {u v : Nat} (hK : KC σ) (hg : gY y) (hD : DC σ y d) (dv : DV d) (hu : u < 2 ^ 30) (hv : v < 2 ^ 30) : ∃ r σ', f_X5_tellWalker σ y (nI u) (nI v) = some (r, σ') ∧ KC σ' ∧ (∀ i, (i < y ∨ y + 13 < i) → σ' i = σ i) ∧ (if u < Dr.n d ∧ v < Dr.n d ∧ u ≠ v ∧ Dr.nw d < 5 then r = 1 ∧ DC σ' y (Dr.n d, Dr.mi d, Dr.np d, Dr.nw d + 1, Dr.ki d, Dr.to d, Dr.ag d, upN (Dr.wa d) (Dr.nw d) u, upN (Dr.go d) (Dr.nw d) v) else r = 0) := by
  obtain ⟨h1, h2, h3, h4⟩ := hD
  have hn := dv.1.2.1
  have hw5 := dv.2.1.2
  unfold f_X5_tellWalker
  rw [a2_R h2 hn hu hv, sb, L_5]
  by_cases c : u < Dr.n d ∧ v < Dr.n d ∧ u ≠ v
  · rw [b32_t c, if_neg one0, h1.2.1]
    by_cases c4 : Dr.nw d < 5
    · rw [if_pos (nI_lt c4 (by omega))]
      have k9 : kd (y + 12 + 1) ≠ 0 := by rw [hg.2.2.2.2.2.2.2]; decide
      have hgd := hg.2.2.2.2.2.2.1
      rw [L_0, put_in hK hgd (c := 0) (by omega) (by omega), sb, sf_ne (by omega), h1.2.1, L_1, put_in (KC_sf hK k9) hgd (c := 1) (by omega) (by omega), sb, sb, sf_ne (by omega), sf_ne (by omega), h1.2.1, nI_add]
      refine ⟨_, _, rfl, KC_sf (KC_sf (KC_sf hK k9) k9) (by rw [hg.2.1]; decide), fun i hi => by rw [sf_ne (by omega), sf_ne (by omega), sf_ne (by omega)], ?_⟩
      rw [if_pos ⟨c.1, c.2.1, c.2.2, c4⟩]
      refine ⟨rfl, ⟨?_, by rw [sf_row, upd_self]; rfl, ?_, ?_, ?_⟩, RC_fr h2 (by rw [sf_ne (by omega), sf_ne (by omega), sf_ne (by omega)]) (by rw [sf_ne (by omega), sf_ne (by omega), sf_ne (by omega)]), ?_, fun q hq => ?_⟩
      · rw [sf_row, upd_ne (by omega), sf_ne (by omega), sf_ne (by omega)]; exact h1.1
      · rw [sf_row, upd_ne (by omega), sf_ne (by omega), sf_ne (by omega)]; exact h1.2.2.1
      · rw [sf_row, upd_ne (by omega), sf_ne (by omega), sf_ne (by omega)]; exact h1.2.2.2.1
      · rw [sf_row, upd_ne (by omega), sf_ne (by omega), sf_ne (by omega)]; exact h1.2.2.2.2
      · rw [sf_ne (by omega), sf_ne (by omega), sf_ne (by omega)]; exact h3
      · have hq : q < Dr.nw d + 1 := hq
        rw [sf_ne (by omega), sf_row, sf_row]
        show _ = nI (upN (Dr.wa d) (Dr.nw d) u q) ∧ _ = nI (upN (Dr.go d) (Dr.nw d) v q)
        unfold upN
        by_cases e : q = Dr.nw d
        · subst e
          rw [if_pos rfl, if_pos rfl]
          refine ⟨?_, ?_⟩
          · rw [upd_ne (by omega), show Dr.nw d * 2 = Dr.nw d * 2 + 0 from rfl, upd_self]
          · rw [upd_self]
        · rw [if_neg e, if_neg e]
          obtain ⟨g1, g2⟩ := h4 q (by omega)
          refine ⟨?_, ?_⟩
          · rw [upd_ne (by omega), upd_ne (by omega)]; exact g1
          · rw [upd_ne (by omega), upd_ne (by omega)]; exact g2
    · rw [if_neg (nI_nlt (by omega) (by omega))]
      exact ⟨0, σ, rfl, hK, fun _ _ => rfl, by rw [if_neg (fun z => c4 z.2.2.2)]⟩
  · rw [b32_f c, if_pos rfl]
    exact ⟨0, σ, rfl, hK, fun _ _ => rfl, by rw [if_neg (fun z => c ⟨z.1, z.2.1, z.2.2.1⟩)]⟩
end IT
