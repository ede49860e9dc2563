/-! Part 09: numbers, loops, grids: the pure part begins. -/
theorem L_0 : (0 : Int32) = nI 0 := rfl
theorem L_1 : (1 : Int32) = nI 1 := rfl
theorem L_2 : (2 : Int32) = nI 2 := rfl
theorem L_3 : (3 : Int32) = nI 3 := rfl
theorem L_4 : (4 : Int32) = nI 4 := rfl
theorem L_5 : (5 : Int32) = nI 5 := rfl
theorem L_6 : (6 : Int32) = nI 6 := rfl
theorem L_7 : (7 : Int32) = nI 7 := rfl
theorem L_8 : (8 : Int32) = nI 8 := rfl
theorem L_9 : (9 : Int32) = nI 9 := rfl
theorem L_10 : (10 : Int32) = nI 10 := rfl
theorem L_11 : (11 : Int32) = nI 11 := rfl
theorem L_12 : (12 : Int32) = nI 12 := rfl
theorem L_16 : (16 : Int32) = nI 16 := rfl
theorem L_20 : (20 : Int32) = nI 20 := rfl
theorem L_30 : (30 : Int32) = nI 30 := rfl
theorem L_32 : (32 : Int32) = nI 32 := rfl
theorem L_40 : (40 : Int32) = nI 40 := rfl
theorem L_44 : (44 : Int32) = nI 44 := rfl
theorem L_45 : (45 : Int32) = nI 45 := rfl
theorem L_48 : (48 : Int32) = nI 48 := rfl
theorem L_57 : (57 : Int32) = nI 57 := rfl
theorem L_59 : (59 : Int32) = nI 59 := rfl
theorem L_60 : (60 : Int32) = nI 60 := rfl
theorem L_63 : (63 : Int32) = nI 63 := rfl
theorem L_64 : (64 : Int32) = nI 64 := rfl
theorem L_71 : (71 : Int32) = nI 71 := rfl
theorem L_72 : (72 : Int32) = nI 72 := rfl
theorem L_77 : (77 : Int32) = nI 77 := rfl
theorem L_83 : (83 : Int32) = nI 83 := rfl
theorem L_110 : (110 : Int32) = nI 110 := rfl
theorem L_111 : (111 : Int32) = nI 111 := rfl
theorem L_112 : (112 : Int32) = nI 112 := rfl
theorem L_113 : (113 : Int32) = nI 113 := rfl
theorem L_114 : (114 : Int32) = nI 114 := rfl
theorem L_115 : (115 : Int32) = nI 115 := rfl
theorem L_116 : (116 : Int32) = nI 116 := rfl
theorem L_117 : (117 : Int32) = nI 117 := rfl
theorem L_118 : (118 : Int32) = nI 118 := rfl
theorem L_119 : (119 : Int32) = nI 119 := rfl
theorem L_126 : (126 : Int32) = nI 126 := rfl
theorem L_131 : (131 : Int32) = nI 131 := rfl
theorem L_179 : (179 : Int32) = nI 179 := rfl
theorem L_200 : (200 : Int32) = nI 200 := rfl
theorem L_512 : (512 : Int32) = nI 512 := rfl
theorem L_999 : (999 : Int32) = nI 999 := rfl
theorem L_1253 : (1253 : Int32) = nI 1253 := rfl
theorem L_9999 : (9999 : Int32) = nI 9999 := rfl
theorem L_100000 : (100000 : Int32) = nI 100000 := rfl
def coL : List Nat := [0, 0, 200, 0, 3, 0, 0, 0, 8, 0, 8, 0, 3, 0, 8, 0, 8, 0, 2, 0, 0, 0, 8, 0, 8, 0, 3, 0, 8, 0, 8, 0, 2, 0, 0, 0, 0, 0, 8, 0, 8, 0, 3, 0, 8, 0, 8, 0, 2, 0, 0, 0, 8, 0, 8, 0, 3, 0, 8, 0, 8, 0, 2, 0, 0, 0, 8, 0, 8, 0, 3, 0, 8, 0, 8, 0, 2, 0, 0, 0, 8, 0, 8, 0, 3, 0, 8, 0, 8, 0, 2, 0, 0, 0, 8, 0, 8, 0, 3, 0, 8, 0, 8, 0, 2, 0, 0, 0, 8, 0, 8, 0, 3, 0, 8, 0, 8, 0, 2, 0, 0, 0, 8, 0, 8, 0, 3, 0, 8, 0, 8, 0, 2, 0, 0, 0, 8, 0, 8, 0, 3, 0, 8, 0, 8, 0, 2, 0, 0, 0, 0, 0, 8, 0, 8, 0, 3, 0, 8, 0, 8, 0, 2, 0, 0, 0, 8, 0, 8, 0, 3, 0, 8, 0, 8, 0, 2, 0, 0, 3, 0, 0, 3, 0]
def co (i : Nat) : Nat := (coL[i]?).getD 0
def KC (σ : Sg) : Prop := ∀ g, g < 184 → kd g = 0 → σ g 0 = nI (co g)
def gd (g C N : Nat) : Prop := g < 184 ∧ kd g = 0 ∧ co g = C ∧ ln (g + 1) = N ∧ C ≤ 200 ∧ N ≤ 200
theorem nI_mul (a b : Nat) : nI a * nI b = nI (a * b) := (Int32.ofNat_mul a b).symm
theorem nI_ne4 {a : Nat} (h : a < 2 ^ 31) : ¬ nI a = (-4 : Int32) := fun e => nI_pos h (by rw [e]; decide)
theorem ofN (a : Nat) : Int32.ofNat a = nI a := rfl
theorem ga_n {f : Nat → Int32} {n k : Nat} (h : k < n) (hn : n < 2 ^ 31) : ga f n (nI k) = some (f k) := by
  unfold ga
  rw [if_neg (nI_in h hn), nI_clamp (by omega)]
theorem sa_n {σ : Sg} {i n k : Nat} {v : Int32} (h : k < n) (hn : n < 2 ^ 31) : sa σ i n (nI k) v = some (sf σ i k v) := by
  unfold sa
  rw [if_neg (nI_in h hn), nI_clamp (by omega)]
theorem at_in {σ : Sg} {g C N r c : Nat} (hK : KC σ) (hg : gd g C N) (hc : c < C) (hr : r * C + c < N) : f_X0_at σ g (nI r) (nI c) = some (σ (g + 1) (r * C + c)) := by
  obtain ⟨h1, h2, h3, h4, h5, h6⟩ := hg
  unfold f_X0_at
  rw [hK g h1 h2, h3, h4, nI_mul, nI_add, ofN, if_neg (nI_pos (by omega)), if_neg (nI_ge hc (by omega)), if_neg (nI_pos (by omega)), if_neg (nI_ge hr (by omega)), ga_n hr (by omega)]
  rfl
theorem at_out {σ : Sg} {g C N c : Nat} {r : Int32} (hK : KC σ) (hg : gd g C N) (hc : C ≤ c) (hc2 : c < 2 ^ 31) : f_X0_at σ g r (nI c) = some (-4) := by
  obtain ⟨h1, h2, h3, h4, h5, h6⟩ := hg
  unfold f_X0_at
  rw [hK g h1 h2, h3, if_neg (nI_pos hc2), if_pos (nI_le hc hc2)]
theorem put_in {σ : Sg} {g C N r c : Nat} {v : Int32} (hK : KC σ) (hg : gd g C N) (hc : c < C) (hr : r * C + c < N) : f_X0_put σ g (nI r) (nI c) v = some (sf σ (g + 1) (r * C + c) v) := by
  obtain ⟨h1, h2, h3, h4, h5, h6⟩ := hg
  unfold f_X0_put
  rw [hK g h1 h2, h3, h4, nI_mul, nI_add, ofN, if_neg (nI_pos (by omega)), if_neg (nI_ge hc (by omega)), if_neg (nI_pos (by omega)), if_neg (nI_ge hr (by omega)), sa_n hr (by omega)]
  rfl
/-- a loop that counts: its states, its end -/
theorem lp_for {S R : Type} {b : S → Option (S ⊕ R)} {r : R} (I : Nat → S) : ∀ (N i n : Nat), i ≤ N → N < i + n → (∀ j, i ≤ j → j < N → b (I j) = some (.inl (I (j + 1)))) → b (I N) = some (.inr r) → lp b n (I i) = some r
  | N, i, 0, h1, h2, _, _ => absurd h2 (by omega)
  | N, i, n + 1, h1, h2, hs, he => by
    unfold lp
    by_cases h : i = N
    · subst h; rw [he]
    · rw [hs i (Nat.le_refl _) (by omega)]
      exact lp_for I N (i + 1) n (by omega) (by omega) (fun j a b => hs j (by omega) b) he
theorem lp_for0 {S R : Type} {b : S → Option (S ⊕ R)} {r : R} (I : Nat → S) (N : Nat) (hN : N < 4096) (hs : ∀ j, j < N → b (I j) = some (.inl (I (j + 1)))) (he : b (I N) = some (.inr r)) {s0 : S} (h0 : s0 = I 0) : lp b FU s0 = some r := by
  subst h0
  exact lp_for I N 0 FU (Nat.zero_le _) (by unfold FU; omega) (fun j _ h => hs j h) he
theorem upd_self {f : Nat → Int32} {k : Nat} {v : Int32} : upd f k v k = v := by simp [upd]
theorem upd_ne {f : Nat → Int32} {k j : Nat} {v : Int32} (h : j ≠ k) : upd f k v j = f j := by simp [upd, h]
theorem KC_sf {σ : Sg} {i k : Nat} {v : Int32} (h : KC σ) (hi : kd i ≠ 0) : KC (sf σ i k v) := fun g h1 h2 => by
  rw [sf_ne (fun e => hi (by rw [← e]; exact h2))]; exact h g h1 h2
theorem at_lit {σ : Sg} {g C N r : Nat} (c : Nat) (hK : KC σ) (hg : gd g C N) (hc : c < C) (hr : r * C + c < N) {x : Int32} (hx : x = nI c) : f_X0_at σ g (nI r) x = some (σ (g + 1) (r * C + c)) := by rw [hx]; exact at_in hK hg hc hr
def fillR (σ : Sg) (i n : Nat) (v : Int32) (j : Nat) : Sg := va_up σ i (fun k => if k < j then v else σ i k)
theorem fill_ok {σ : Sg} {g C N : Nat} {v : Int32} (hg : gd g C N) : ∃ σ', f_X0_fill σ g v = some σ' ∧ (∀ j, j ≠ g + 1 → σ' j = σ j) ∧ ∀ k, σ' (g + 1) k = if k < N then v else σ (g + 1) k := by
  obtain ⟨h1, h2, h3, h4, h5, h6⟩ := hg
  refine ⟨fillR σ (g + 1) N v N, ?_, fun j hj => va_up_ne _ _ hj, fun k => by rw [fillR, va_up_self]⟩
  unfold f_X0_fill
  rw [lp_for0 (b := fun st => f_X0_fill_b1 g v st.1 st.2) (r := fillR σ (g + 1) N v N) (fun j => (nI j, fillR σ (g + 1) N v j)) N (by omega) ?_ ?_ ?_]
  · rfl
  · intro j hj
    show f_X0_fill_b1 g v (nI j) (fillR σ (g + 1) N v j) = _
    unfold f_X0_fill_b1
    rw [h4, ofN, if_neg (nI_ge hj (by omega)), sa_n hj (by omega), nI_1]
    show some (Sum.inl _) = _
    congr 3
    funext i k
    by_cases hi : i = g + 1
    · subst hi
      rw [sf_row, fillR, va_up_self, fillR, va_up_self]
      by_cases hk : k = j
      · subst hk; rw [upd_self, if_pos (by omega)]
      · rw [upd_ne hk]
        by_cases h : k < j
        · rw [if_pos h, if_pos (by omega)]
        · rw [if_neg h, if_neg (by omega)]
    · rw [sf_ne hi, fillR, va_up_ne _ _ hi, fillR, va_up_ne _ _ hi]
  · show f_X0_fill_b1 g v (nI N) (fillR σ (g + 1) N v N) = _
    unfold f_X0_fill_b1
    rw [h4, ofN, if_pos (nI_le (Nat.le_refl _) (by omega))]
  · show (_, _) = (_, _)
    congr 1
    funext i k
    by_cases hi : i = g + 1
    · subst hi; rw [fillR, va_up_self, if_neg (by omega)]
    · rw [fillR, va_up_ne _ _ hi]
