/-! Part 46: a shelf made (out of whole's part 46). -/
def ysL (cI : ClassId) (b : Nat → Nat → Nat) : Nat → va_W
  | 0 => []
  | k + 1 => ysL cI b k ++ yL cI (b k)
theorem ysL_cg {cI : ClassId} {b b' : Nat → Nat → Nat} : ∀ {j : Nat}, (∀ k, k < j → b' k = b k) → ysL cI b' j = ysL cI b j
  | 0, _ => rfl
  | j + 1, h => by unfold ysL; rw [ysL_cg (fun k hk => h k (by omega)), h j (by omega)]
abbrev shL (h0 q : Nat) (cY : ClassId) (cap : Nat) (f : Nat → Option Nat) : va_W := [(h0, .inr (4, [.ref q, .int 0, .int 0])), (q, .inl (cY, cap, .inr (.inr (.inr (.inr f)))))]
def sL (cI cY : ClassId) (cap h0 q : Nat) (b : Nat → Nat → Nat) : va_W := shL h0 q cY cap (fun k => some (b k 0)) ++ ysL cI b cap
def fJ (b : Nat → Nat → Nat) (j : Nat) : Nat → Option Nat := fun k => if k < j then some (b k 0) else none
theorem fJ_s {b b' : Nat → Nat → Nat} {j : Nat} (h : ∀ k, k < j → b' k = b k) : va_up (fJ b j) j (some (b' j 0)) = fJ b' (j + 1) := by
  funext k
  unfold va_up fJ
  by_cases c : k = j
  · subst c; rw [if_pos rfl, if_pos (by omega)]
  · rw [if_neg c]
    by_cases d : k < j
    · rw [if_pos d, if_pos (by omega), h k d]
    · rw [if_neg d, if_neg (by omega)]
theorem arrV_cg {cA : ClassId} {n : Nat} {z z' : Nat → Value} (h : ∀ k, k < n → z k = z' k) : arrV cA n z = arrV cA n z' := by
  have e : Array.ofFn (n := n) (fun i => z i.val) = Array.ofFn (n := n) (fun i => z' i.val) := by
    congr 1
    funext i
    exact h i.val i.isLt
  first
    | (unfold arrV; rw [e])
    | (unfold arrV; congr 1; apply Array.ext <;> simp_all)
theorem sh_full {D : va_G} {A : Nat → Prop} {h0 q cap : Nat} {cY : ClassId} {b : Nat → Nat → Nat} {ys : va_W} {H : Heap} (hP : va_P D vwCl (shL h0 q cY cap (fJ b cap) ++ ys) H) (hD : va_D A (shL h0 q cY cap (fJ b cap) ++ ys)) : va_P D vwCl (shL h0 q cY cap (fun k => some (b k 0)) ++ ys) H ∧ va_D A (shL h0 q cY cap (fun k => some (b k 0)) ++ ys) := by
  have e : ∀ (k : Nat) (x : Nat × va_E), (shL h0 q cY cap (fun k => some (b k 0)) ++ ys)[k]? = some x → ∃ y, (shL h0 q cY cap (fJ b cap) ++ ys)[k]? = some y ∧ x.1 = y.1 ∧ (va_at D vwCl y H → va_at D vwCl x H) := by
    intro k x h
    match k, h with
    | 0, h => exact ⟨x, h, rfl, id⟩
    | 1, h =>
      cases h
      refine ⟨_, rfl, rfl, fun g => ?_⟩
      have g : H[q]? = some (vp_cell cY (cap, .inr (.inr (.inr (.inr (fJ b cap)))))) := g
      show H[q]? = some (vp_cell cY (cap, .inr (.inr (.inr (.inr (fun k => some (b k 0)))))))
      rw [g, vp_cell_q, vp_cell_q]
      refine congrArg some (arrV_cg (fun k hk => ?_))
      unfold fJ
      rw [if_pos hk]
    | k + 2, h => exact ⟨x, h, rfl, id⟩
  refine ⟨fun k x h => ?_, fun i j x y hx hy exy => ?_, fun k x h => ?_⟩
  · obtain ⟨y, h1, -, h3⟩ := e k x h
    exact h3 (hP k y h1)
  · obtain ⟨x', h1, h2, -⟩ := e i x hx
    obtain ⟨y', g1, g2, -⟩ := e j y hy
    exact hD.1 i j x' y' h1 g1 (by rw [← h2, ← g2]; exact exy)
  · obtain ⟨y, h1, h2, -⟩ := e k x h
    rw [h2]
    exact hD.2 k y h1
set_option maxHeartbeats 4000000 in
set_option maxRecDepth 100000 in
theorem c_X4_init (l : Launch) (D : va_G) (w : Wv) (h0 cap : Nat) (hc1 : 1 ≤ cap) (hc8 : cap ≤ 8) : KM l D w yX4_init cX4_init 3 4 90 (1 + 14 * cap) (316 * cap) [.ref h0, .int (nI cap)] [(h0, .inr (4, [.null, .int 0, .int 0]))] (fun w1 => ∃ q b, w1 = sL w.2.2.1 w.2.2.2 cap h0 q b) := by
  refine k_open (by decide +kernel) rfl (Nat.le_of_ble_eq_true rfl) ?_
  intro p e s m args below meth c ls A hx hb hml hr hlk hin hown hts hK hP hD hA hS hl
  have hown : s.vm.findClass RX4 = some m.cls := hown
  have hl : lv_has ls 3 [(0, .ref h0), (1, .int (nI cap))] := hl
  have hv : (if (1 : Int32) < (if (8 : Int32) < nI cap then (8 : Int32) else nI cap) then (if (8 : Int32) < nI cap then (8 : Int32) else nI cap) else (1 : Int32)) = nI cap := by
    rcases (show cap = 1 ∨ cap = 2 ∨ cap = 3 ∨ cap = 4 ∨ cap = 5 ∨ cap = 6 ∨ cap = 7 ∨ cap = 8 by omega) with rfl | rfl | rfl | rfl | rfl | rfl | rfl | rfl <;> decide
  refine lv_aload_n hx hb dX4_init_0 rfl (lv_at hl 0 rfl) ?_
  refine W.objInit hx hb hown (hts _ ty_143) (hts _ ty_40) (hts _ ty_41) rfl (by rw [hml]; exact hl.1) rfl dX4_init_1 (Nat.le_of_ble_eq_true rfl) (Nat.le_of_ble_eq_true rfl) ?_
  refine W.eq (g2 := F0 m 4 ls []) rfl ?_
  refine lv_aload_n hx hb dX4_init_4 rfl (lv_at hl 0 rfl) ?_
  refine lv_iconst (v := (1 : Int32)) hx hb dX4_init_5 (by decide) ?_
  refine lv_iload_n hx hb dX4_init_6 rfl (lv_at hl 1 rfl) ?_
  refine lv_bipush (v := (8 : Int32)) hx hb dX4_init_7 (by decide) ?_
  refine va_mmin hx hb (hml.trans hl.1.symm) hown (hts _ ty_144) (hts _ tw_55) (hts _ tw_23) (hts _ tw_56) (Nat.le_of_ble_eq_true rfl) (Nat.le_of_ble_eq_true rfl) (Nat.zero_le _) (Nat.zero_le _) dX4_init_9 ?_
  refine va_mmax hx hb (hml.trans hl.1.symm) hown (hts _ ty_145) (hts _ tw_58) (hts _ tw_23) (hts _ tw_59) (Nat.le_of_ble_eq_true rfl) (Nat.le_of_ble_eq_true rfl) (Nat.zero_le _) (Nat.zero_le _) dX4_init_12 ?_
  rw [hv]
  refine va_newq hx hb hown (hts _ ty_146) hK.2 hK.1.1 hP hD hS hA (N' := cap) (nI_pos (by omega)) (nI_clamp (by omega)) (by omega) (by show 0 + 1 ≤ 1 + 14 * cap; omega) (by show 0 + cap ≤ 316 * cap; omega) dX4_init_15 (fun q cA H hK1 hP hD hS => ?_)
  have eA : cA = w.2.2.2 := by
    obtain ⟨-, -, -, -, -, a1⟩ := (hK1.2 3 (cA, .object RX5) rfl).2
    obtain ⟨-, -, -, -, -, a2⟩ := (hK.1.1.2 2 (w.2.2.2, .object "SignpostYard$Yard") rfl).2
    exact Option.some.inj (a1.symm.trans a2)
  subst eA
  have hP : va_P D vwCl [(h0, .inr (4, [.null, .int 0, .int 0])), (q, .inl (w.2.2.2, cap, .inr (.inr (.inr (.inr fun _ => none)))))] H := hP
  have hD : va_D A [(h0, .inr (4, [.null, .int 0, .int 0])), (q, .inl (w.2.2.2, cap, .inr (.inr (.inr (.inr fun _ => none)))))] := hD
  refine va_putF hx hb hts inT4 tyX4 tyX4_ok nmX4 hown hK.1.1 hP hD hS 0 rfl rfl 0 (by decide) (hts _ tw_149) (fun _ h => h) rfl hin rfl (tyX4_ok 0 (by decide)) rfl rfl (Nat.le_of_ble_eq_true rfl) dX4_init_18 (fun H locs hP hD hS => ?_)
  have hP : va_P D vwCl (shL h0 q w.2.2.2 cap (fJ (fun _ _ => 0) 0) ++ ysL w.2.2.1 (fun _ _ => 0) 0) H := hP
  have hD : va_D A (shL h0 q w.2.2.2 cap (fJ (fun _ _ => 0) 0) ++ ysL w.2.2.1 (fun _ _ => 0) 0) := hD
  refine lv_iconst (v := (0 : Int32)) hx hb dX4_init_21 (by decide) ?_
  refine lv_istore_n (lv' := [(2, .int (nI 0)), (0, .ref h0), (1, .int (nI cap))]) hx hb dX4_init_22 rfl hl (by decide) rfl (fun ls hl => ?_)
  have loop : ∀ (k j : Nat), j + k = cap → ∀ (b : Nat → Nat → Nat) (H : Heap) (locs : List Loc) (ls : Array Slot), va_P D vwCl (shL h0 q w.2.2.2 cap (fJ b j) ++ ysL w.2.2.1 b j) H → va_D A (shL h0 q w.2.2.2 cap (fJ b j) ++ ysL w.2.2.1 b j) → va_S A s.heap H locs → lv_has ls 3 [(2, .int (nI j)), (0, .ref h0), (1, .int (nI cap))] → W p l e (rmK 4 90 (1 + 14 * cap) (316 * cap)) s m args below meth c H locs (1 + 14 * j) (cap + 315 * j) (MQ below (qvK D (fun w1 => ∃ q b, w1 = sL w.2.2.1 w.2.2.2 cap h0 q b) A) args s (1 + 14 * cap) (316 * cap) A) (F0 m 23 ls []) := by
    intro k
    induction k with
    | zero =>
      intro j hj b H locs ls hP hD hS hl
      obtain rfl : j = cap := by omega
      refine lv_iload_n hx hb dX4_init_23 rfl (lv_at hl 0 rfl) ?_
      refine lv_aload_n hx hb dX4_init_24 rfl (lv_at hl 1 rfl) ?_
      refine va_get (own := RX4) (ref := RX4) hx hb hts inT4 hown hK.1.1 hP 0 rfl rfl 0 (by decide) (hts _ tw_149) (fun _ h => h) rfl dX4_init_25 ?_
      refine va_alen hx hb hK.1.1 hP 1 2 rfl rfl rfl dX4_init_28 ?_
      refine lv_icmp_ge (tgt := 51) hx hb dX4_init_29 (by decide) (fun hc => ?_) (fun hc => absurd (nI_le (Nat.le_refl _) (by omega)) hc)
      obtain ⟨hP, hD⟩ := sh_full hP hD
      refine W.widen (k := 1 + 14 * j) (n := 316 * j) (by omega) (by omega) ?_
      exact W.vret hx hb hr (fun t ht hW => ⟨⟨sL w.2.2.1 w.2.2.2 j h0 q b, rfl, ⟨q, b, rfl⟩, by rw [ht]; exact hP, hD⟩, hS.F ht⟩) hS.2.2 dX4_init_51 hlk
    | succ k ih =>
      intro j hj b H locs ls hP hD hS hl
      refine lv_iload_n hx hb dX4_init_23 rfl (lv_at hl 0 rfl) ?_
      refine lv_aload_n hx hb dX4_init_24 rfl (lv_at hl 1 rfl) ?_
      refine va_get (own := RX4) (ref := RX4) hx hb hts inT4 hown hK.1.1 hP 0 rfl rfl 0 (by decide) (hts _ tw_149) (fun _ h => h) rfl dX4_init_25 ?_
      refine va_alen hx hb hK.1.1 hP 1 2 rfl rfl rfl dX4_init_28 ?_
      refine lv_icmp_ge (tgt := 51) hx hb dX4_init_29 (by decide) (fun hc => absurd hc (nI_ge (by omega) (by omega))) (fun hc => ?_)
      refine lv_aload_n hx hb dX4_init_32 rfl (lv_at hl 1 rfl) ?_
      refine va_get (own := RX4) (ref := RX4) hx hb hts inT4 hown hK.1.1 hP 0 rfl rfl 0 (by decide) (hts _ tw_149) (fun _ h => h) rfl dX4_init_33 ?_
      refine lv_iload_n hx hb dX4_init_36 rfl (lv_at hl 0 rfl) ?_
      refine va_new (ci := 5) (fs := [.null, .null, .null, .null, .null, .int 0, .int 0, .int 0, .int 0, .int 0]) (C := RX5) (T := TX5) (N := 10) hx hb hts inT5 tyX5 tyX5_ok hown (hts _ ty_146) (hts _ ty_82) (hts _ tw_24) hK.1.1 hP hD hS hA rfl (fun j hj => by rcases (show j = 0 ∨ j = 1 ∨ j = 2 ∨ j = 3 ∨ j = 4 ∨ j = 5 ∨ j = 6 ∨ j = 7 ∨ j = 8 ∨ j = 9 by omega) with rfl | rfl | rfl | rfl | rfl | rfl | rfl | rfl | rfl | rfl <;> rfl) (by show 1 + 14 * j + 1 ≤ 1 + 14 * cap; omega) (by show cap + 315 * j + 10 ≤ 316 * cap; omega) dX4_init_37 (fun y H hP hD hS => ?_)
      refine lv_dup hx hb dX4_init_40 rfl ?_
      refine k_ctor hx hb hml hown hts hK (As := []) (rest := [.ref y, .int (nI j), .ref q]) (c_X5_init l D w y) ⟨ty_148, ty_84, tw_24, ty_85⟩ rfl ⟨by decide +kernel, by decide +kernel, by decide +kernel⟩ rfl ⟨Nat.le_of_ble_eq_true rfl, Nat.le_of_ble_eq_true rfl⟩ ⟨by show 1 + 14 * j + 1 + 13 ≤ 1 + 14 * cap; omega, by show cap + 315 * j + 10 + 305 ≤ 316 * cap; omega⟩ hl.1 rfl (Nat.le_of_ble_eq_true rfl) hP hD hS hA dX4_init_41 (fun w1 H locs hw hP hD hS => ?_)
      obtain ⟨b', hb', rfl⟩ := hw
      rw [hb']
      refine va_astq hx hb hK.1.1 hP hD hS 1 2 ((shL h0 q w.2.2.2 cap (fJ b j) ++ ysL w.2.2.1 b j).length + 0) 5 rfl rfl (va_appR (k := 0) rfl) rfl (vp_in_nI (by omega) (by omega)) dX4_init_44 (fun H locs hP hD hS => ?_)
      rw [nI_clamp (by omega)] at hP hD
      have eb : ∀ k, k < j → (fun k => if k = j then b' else b k : Nat → Nat → Nat) k = b k := fun k hk => if_neg (by omega)
      have ej : (fun k => if k = j then b' else b k : Nat → Nat → Nat) j = b' := if_pos rfl
      have e1 : va_up (fJ b j) j (some (b' 0)) = fJ (fun k => if k = j then b' else b k) (j + 1) := by
        have := fJ_s (b := b) (b' := fun k => if k = j then b' else b k) (j := j) eb
        rw [← this]
        rw [show (if j = j then b' else b j) = b' from if_pos rfl]
      have e2 : ysL w.2.2.1 (fun k => if k = j then b' else b k) (j + 1) = ysL w.2.2.1 b j ++ yL w.2.2.1 b' := by
        rw [show ysL w.2.2.1 (fun k => if k = j then b' else b k) (j + 1) = ysL w.2.2.1 (fun k => if k = j then b' else b k) j ++ yL w.2.2.1 ((fun k => if k = j then b' else b k : Nat → Nat → Nat) j) from rfl, ysL_cg eb, ej]
      rw [e1] at hP hD
      have hP : va_P D vwCl (shL h0 q w.2.2.2 cap (fJ (fun k => if k = j then b' else b k) (j + 1)) ++ ysL w.2.2.1 (fun k => if k = j then b' else b k) (j + 1)) H := by rw [e2]; exact hP
      have hD : va_D A (shL h0 q w.2.2.2 cap (fJ (fun k => if k = j then b' else b k) (j + 1)) ++ ysL w.2.2.1 (fun k => if k = j then b' else b k) (j + 1)) := by rw [e2]; exact hD
      refine lv_iinc (v := nI (j + 1)) (lv' := [(2, .int (nI (j + 1))), (0, .ref h0), (1, .int (nI cap))]) hx hb dX4_init_45 hl (k := 0) rfl (by rw [ii_1, nI_1]) (by decide) rfl (fun ls hl => ?_)
      refine lv_goto (tgt := 23) hx hb dX4_init_48 (by decide) ?_
      refine W.widen (k := 1 + 14 * (j + 1)) (n := cap + 315 * (j + 1)) (by omega) (by omega) ?_
      exact ih (j + 1) (by omega) _ H locs ls hP hD hS hl
  refine W.widen (k := 1 + 14 * 0) (n := cap + 315 * 0) (by omega) (by omega) ?_
  exact loop cap 0 (by omega) (fun _ _ => 0) H locs ls hP hD hS hl

