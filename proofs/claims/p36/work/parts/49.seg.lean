/-! Part 49: what is made, as a world of ids (out of whole's part 49). -/
def z0 : Sg := fun i k => if kd i = 0 ∧ k = 0 then nI (co i) else if kd i = 3 ∧ k = 0 then 6 else 0
theorem z0_g {g : Nat} (h : kd g = 0) : z0 g 0 = nI (co g) := by unfold z0; rw [if_pos ⟨h, rfl⟩]
theorem z0_r {r : Nat} (h : kd r = 3) : z0 r 0 = 6 := by unfold z0; rw [if_neg (fun z => by omega), if_pos ⟨h, rfl⟩]
theorem z0_o {i k : Nat} (h : k ≠ 0 ∨ (kd i ≠ 0 ∧ kd i ≠ 3)) : z0 i k = 0 := by unfold z0; rw [if_neg (by omega), if_neg (by omega)]
theorem z0_a {i : Nat} (h : kd i ≠ 0 ∧ kd i ≠ 3) : z0 i = fun _ => 0 := funext fun k => z0_o (Or.inr h)
theorem KC_z0 : KC z0 := fun g _ h => z0_g h
/-- a cell that stands for an id's -/
def Sg1 (D : va_G) (w : Wv) (z : Sg) (H : Heap) (i : Nat) (y : Nat × va_E) : Prop := y.1 = w.1 i ∧ (va_at D vwCl y H → va_at D vwCl (w.1 i, ce w z i) H)
def Seg (D : va_G) (w : Wv) (z : Sg) (H : Heap) (b : Nat) (L : va_W) : Prop := ∀ (j : Nat) (y : Nat × va_E), L[j]? = some y → Sg1 D w z H (b + j) y
section SG
variable {D : va_G} {w : Wv} {z : Sg} {H : Heap}
theorem Seg.app {b b2 : Nat} {L1 L2 : va_W} (h1 : Seg D w z H b L1) (hb : b + L1.length = b2) (h2 : Seg D w z H b2 L2) : Seg D w z H b (L1 ++ L2) := fun j y h => by
  by_cases c : j < L1.length
  · rw [List.getElem?_append_left c] at h; exact h1 j y h
  · rw [List.getElem?_append_right (by omega)] at h
    have := h2 (j - L1.length) y h
    rw [show b2 + (j - L1.length) = b + j by omega] at this
    exact this
theorem Seg.one {i a : Nat} {e : va_E} (ha : a = w.1 i) (he : e = ce w z i) : Seg D w z H i [(a, e)] := fun j y h => by
  have hj : j < 1 := (List.getElem?_eq_some_iff.mp h).1
  obtain rfl : j = 0 := by omega
  cases h
  subst ha he
  exact ⟨rfl, id⟩
theorem Seg.g {i g a C N : Nat} {x : Int32} (hg : gd i C N) (h9 : kd (i + 1) = 9) (hG : g = w.1 i) (hA : a = w.1 (i + 1)) (hC : z i 0 = x) (hz : z (i + 1) = fun _ => 0) : Seg D w z H i (gL w.2.2.1 g a x N) := by
  show Seg D w z H i ([(g, .inr (0, [.int x, .ref a]))] ++ [(a, .inl (w.2.2.1, N, .inl fun _ => 0))])
  refine Seg.app (b2 := i + 1) (Seg.one hG ?_) rfl (Seg.one hA ?_)
  · rw [ce0 hg.2.1, hC, hA]
  · rw [ce9 h9, hz, hg.2.2.2.1]
theorem Seg.gz {i g a C N : Nat} {x : Int32} (hg : gd i C N) (h9 : kd (i + 1) = 9) (hG : g = w.1 i) (hA : a = w.1 (i + 1)) (hC : nI C = x) : Seg D w z0 H i (gL w.2.2.1 g a x N) := Seg.g hg h9 hG hA (by rw [z0_g hg.2.1, hg.2.2.1, hC]) (z0_a (by omega))
theorem Seg.r {r : Nat} {a : Nat → Nat} (hg : gRk r) (h : ∀ j, j < 5 → a j = w.1 (r + j)) : Seg D w z0 H r (rL w.2.2.1 a) := by
  refine Seg.app (b2 := r + 3) (Seg.app (b2 := r + 1) (Seg.one (h 0 (by omega)) ?_) rfl (Seg.gz hg.1.2.2.1 hg.2.2 (h 1 (by omega)) (h 2 (by omega)) rfl)) rfl (Seg.gz hg.1.2.2.2 hg.2.1 (h 3 (by omega)) (h 4 (by omega)) rfl)
  rw [ce3 hg.1.2.1, z0_r hg.1.2.1, h 1 (by omega), h 3 (by omega)]
theorem Seg.y {y : Nat} {a : Nat → Nat} (hg : gY y) (h : ∀ j, j < 14 → a j = w.1 (y + j)) : Seg D w z0 H y (yL w.2.2.1 a) := by
  obtain ⟨g1, g2, g3, g4, g5, g6, g7⟩ := hg
  refine Seg.app (b2 := y + 12) (Seg.app (b2 := y + 10) (Seg.app (b2 := y + 8) (Seg.app (b2 := y + 6) (Seg.app (b2 := y + 1) (Seg.one (h 0 (by omega)) ?_) rfl (Seg.r g3 (fun j hj => by rw [h (1 + j) (by omega), show y + (1 + j) = y + 1 + j by omega]))) rfl (Seg.gz g4.1 g4.2 (h 6 (by omega)) (h 7 (by omega)) rfl)) rfl (Seg.gz g5.1 g5.2 (h 8 (by omega)) (h 9 (by omega)) rfl)) rfl (Seg.gz g6.1 g6.2 (h 10 (by omega)) (h 11 (by omega)) rfl)) rfl (Seg.gz g7.1 g7.2 (h 12 (by omega)) (h 13 (by omega)) rfl)
  rw [ce5 g2, z0_o (Or.inl (by omega)), z0_o (Or.inl (by omega)), z0_o (Or.inl (by omega)), z0_o (Or.inl (by omega)), z0_o (Or.inl (by omega)), h 1 (by omega), h 6 (by omega), h 8 (by omega), h 10 (by omega), h 12 (by omega)]
theorem ysL_len {cI : ClassId} {b : Nat → Nat → Nat} : ∀ {k : Nat}, (ysL cI b k).length = 14 * k
  | 0 => rfl
  | k + 1 => by
    unfold ysL
    rw [List.length_append, ysL_len]
    show 14 * k + 14 = _
    omega
theorem Seg.ys {s : Nat} {b : Nat → Nat → Nat} : ∀ {cap : Nat}, (∀ k, k < cap → gY (s + 14 * k)) → (∀ k, k < cap → ∀ j, j < 14 → b k j = w.1 (s + 14 * k + j)) → Seg D w z0 H s (ysL w.2.2.1 b cap)
  | 0, _, _ => fun j y h => by
    have : ([] : va_W)[j]? = some y := h
    simp at this
  | k + 1, hg, h => by
    unfold ysL
    exact Seg.app (b2 := s + 14 * k) (Seg.ys (fun i hi => hg i (by omega)) (fun i hi => h i (by omega))) (by rw [ysL_len]) (Seg.y (hg k (by omega)) (h k (by omega)))
theorem Seg.s {s cap h0 q : Nat} {b : Nat → Nat → Nat} (hk : kd s = 4) (hk1 : kd (s + 1) = 10) (hl : ln (s + 1) = cap) (h1 : h0 = w.1 s) (h2 : q = w.1 (s + 1)) (hg : ∀ k, k < cap → gY (s + 1 + 1 + 14 * k)) (h : ∀ k, k < cap → ∀ j, j < 14 → b k j = w.1 (s + 1 + 1 + 14 * k + j)) : Seg D w z0 H s (sL w.2.2.1 w.2.2.2 cap h0 q b) := by
  unfold sL
  refine Seg.app (b2 := s + 1 + 1) ?_ rfl (Seg.ys hg h)
  show Seg D w z0 H s ([(h0, .inr (4, [.ref q, .int 0, .int 0]))] ++ [(q, .inl (w.2.2.2, cap, .inr (.inr (.inr (.inr (fun k => some (b k 0)))))))])
  refine Seg.app (b2 := s + 1) (Seg.one h1 ?_) rfl (fun j y hy => ?_)
  · rw [ce4 hk, z0_o (Or.inl (by omega)), z0_o (Or.inl (by omega)), h2]
  · have hj : j < 1 := (List.getElem?_eq_some_iff.mp hy).1
    obtain rfl : j = 0 := by omega
    cases hy
    refine ⟨h2, fun g => ?_⟩
    have g : H[q]? = some (vp_cell w.2.2.2 (cap, .inr (.inr (.inr (.inr (fun k => some (b k 0))))))) := g
    show va_at D vwCl (w.1 (s + 1), ce w z0 (s + 1)) H
    rw [ce10 hk1, hl]
    show H[w.1 (s + 1)]? = some (vp_cell w.2.2.2 (cap, .inr (.inr (.inr (.inr (fun k => some (w.1 (s + 1 + 1 + 14 * k))))))))
    rw [← h2, g, vp_cell_q, vp_cell_q]
    refine congrArg some (arrV_cg (fun k hk => ?_))
    rw [h k hk 0 (by omega)]
    rfl
theorem Seg.l {a : Nat → Nat} (h : ∀ j, j < 5 → a j = w.1 (1 + j)) : Seg D w z0 H 1 (lL w.2.2.1 a) := by
  refine Seg.app (b2 := 4) (Seg.app (b2 := 2) (Seg.one (h 0 (by omega)) ?_) rfl (Seg.gz (i := 2) g2g (by decide) (h 1 (by omega)) (h 2 (by omega)) rfl)) rfl (Seg.gz (i := 4) g4g (by decide) (h 3 (by omega)) (h 4 (by omega)) rfl)
  rw [ce1 kd1, z0_o (Or.inl (by omega)), z0_o (Or.inl (by omega)), h 1 (by omega), h 3 (by omega)]
theorem Seg.n {s : Nat} {a : Nat → Nat} (hk : kd s = 2) (hg : gd (s + 1) 3 18) (h9 : kd (s + 1 + 1) = 9) (h : ∀ j, j < 3 → a j = w.1 (s + j)) : Seg D w z0 H s (nL w.2.2.1 a) := by
  refine Seg.app (b2 := s + 1) (Seg.one (h 0 (by omega)) ?_) rfl (Seg.gz hg h9 (h 1 (by omega)) (h 2 (by omega)) rfl)
  rw [ce2 hk, z0_o (Or.inl (by omega)), h 1 (by omega)]
theorem Seg.done {ws : va_W} {A : Nat → Prop} (h : Seg D w z H 0 ws) (hn : ws.length = 184) (hP : va_P D vwCl ws H) (hD : va_D A ws) : va_P D vwCl (WL w z) H ∧ Inj w ∧ ∀ i, i < 184 → A (w.1 i) := by
  have g : ∀ i, i < 184 → ∃ y, ws[i]? = some y ∧ Sg1 D w z H i y := fun i hi => by
    obtain ⟨y, hy⟩ : ∃ y, ws[i]? = some y := ⟨ws[i]'(by omega), List.getElem?_eq_getElem (by omega)⟩
    have := h i y hy
    rw [Nat.zero_add] at this
    exact ⟨y, hy, this⟩
  refine ⟨fun k q hk => ?_, fun i j hi hj e => ?_, fun i hi => ?_⟩
  · have lk : k < 184 := by
      have := (List.getElem?_eq_some_iff.mp hk).1
      rwa [WL_len] at this
    rw [WL_get lk] at hk
    cases hk
    obtain ⟨y, hy, s1, s2⟩ := g k lk
    exact s2 (hP k y hy)
  · obtain ⟨x, hx, x1, -⟩ := g i hi
    obtain ⟨y, hy, y1, -⟩ := g j hj
    exact hD.1 i j x y hx hy (by rw [x1, y1]; exact e)
  · obtain ⟨y, hy, y1, -⟩ := g i hi
    rw [← y1]
    exact hD.2 i y hy
end SG
/-- a letter behind the text -/
theorem ap_ok {σ : Sg} {k : Nat} {v : Int32} (hK : KC σ) (hk : k < 200) (h : σ 1 2 = nI k) : f_X1_append σ 1 v = some (nI (k + 1), sf (sf σ 3 k v) 1 2 (nI (k + 1))) := by
  unfold f_X1_append
  rw [h, L_200, if_pos (nI_lt hk (by omega)), L_0, put_in hK g2g hk (by omega), sb, sf_ne (by omega), h, nI_1, sb, sf_row, upd_self, show 0 * 200 + k = k by omega]
/-- k letters of the first text are written -/
def AI (k : Nat) (σ : Sg) : Prop := KC σ ∧ σ 1 2 = nI k ∧ (∀ i, i < k → σ 3 i = nI (ftx i)) ∧ ∀ i, i ≠ 1 → i ≠ 3 → σ i = z0 i
theorem AI_0 : AI 0 z0 := ⟨KC_z0, z0_o (Or.inl (by omega)), fun i hi => absurd hi (by omega), fun _ _ _ => rfl⟩
theorem AI_s {k : Nat} {σ : Sg} (h : AI k σ) (hk : k < 112) : ∃ σ', f_X1_append σ 1 (nI (ftx k)) = some (nI (k + 1), σ') ∧ AI (k + 1) σ' := by
  obtain ⟨h1, h2, h3, h4⟩ := h
  refine ⟨_, ap_ok h1 (by omega) h2, KC_sf (KC_sf h1 (by decide)) (by decide), by rw [sf_row, upd_self], fun i hi => ?_, fun i a b => by rw [sf_ne a, sf_ne b]; exact h4 i a b⟩
  rw [sf_ne (by omega), sf_row]
  by_cases c : i = k
  · subst c; exact upd_self
  · rw [upd_ne c]; exact h3 i (by omega)
abbrev ftD : Dr := (tr_R 112 ftx).1
theorem ft_none : (tr_R 112 ftx).2 = none := by decide +kernel
theorem ft_V : DV ftD := tr_rdV (DV_0 (n := 6) (by omega) (by omega))
/-- the class at the start -/
def CI (σ : Sg) : Prop := KC σ ∧ σ 1 2 = nI 0 ∧ CY σ 6 (Dr.n ftD) (Dr.np ftD) (Dr.nw ftD) (Dr.ki ftD) (Dr.go ftD) (dS1 ftD) ∧ ∀ i, 34 ≤ i → σ i = z0 i
theorem CI_ok {σ : Sg} (h : AI 112 σ) : ∃ σ1 σ2 σ3 r1 r3, f_X1_readInto σ 1 6 = some (r1, σ1) ∧ f_X5_paintAll σ1 6 = some σ2 ∧ f_X1_empty σ2 1 = some (r3, σ3) ∧ CI σ3 := by
  obtain ⟨h1, h2, h3, h4⟩ := h
  obtain ⟨σ1, e1, F1, K1, D1⟩ := tr_into h1 (show TC σ 112 ftx from ⟨h2, ftx_ok, h3⟩) gY6 (Nat.le_refl 6)
  obtain ⟨σ2, e2, K2, f2, C2⟩ := pal_ok K1 gY6 (D1 ft_none) ft_V
  refine ⟨σ1, σ2, sf σ2 1 2 0, _, σ2 1 2, e1, e2, ?_, KC_sf K2 (by decide), by rw [sf_row, upd_self]; rfl, CY_fr C2 (fun i a b => sf_ne (by omega)), fun i hi => ?_⟩
  · unfold f_X1_empty
    rw [sb]
  · rw [sf_ne (by omega), f2 i (by omega), F1.1 i (by omega) (by omega) (by omega), h4 i (by omega) (by omega)]

