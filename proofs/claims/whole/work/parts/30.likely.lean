/-! Part 30: how likely. -/
theorem sub10 {x : Nat} (h : x ≤ 10) : (10 : Int32) - nI x = nI (10 - x) := by
  have : ∀ x : Fin 11, (10 : Int32) - nI x.val = nI (10 - x.val) := by decide +kernel
  exact this ⟨x, by omega⟩
theorem sm_split {f : Nat → Nat} {a : Nat} : ∀ b, sm f (a + b) = sm f a + sm (fun t => f (a + t)) b
  | 0 => rfl
  | b + 1 => by show sm f (a + b) + f (a + b) = sm f a + (sm (fun t => f (a + t)) b + f (a + b)); rw [sm_split b]; omega
theorem sm_mul {f : Nat → Nat} {c : Nat} : ∀ k, sm (fun t => f t * c) k = sm f k * c
  | 0 => (Nat.zero_mul c).symm
  | k + 1 => by show sm (fun t => f t * c) k + f k * c = (sm f k + f k) * c; rw [sm_mul k, Nat.add_mul]
theorem sm_mono {f : Nat → Nat} {a : Nat} : ∀ e, sm f a ≤ sm f (a + e)
  | 0 => Nat.le_refl _
  | e + 1 => by show sm f a ≤ sm f (a + e) + f (a + e); have := sm_mono (f := f) (a := a) e; omega
theorem sm_le {f g : Nat → Nat} : ∀ k, (∀ t, f t ≤ g t) → sm f k ≤ sm g k
  | 0, _ => Nat.le_refl _
  | k + 1, h => by show sm f k + f k ≤ sm g k + g k; have := sm_le k h; have := h k; omega
/-- ways of a set of twisted posts -/
def wN (to : Nat → Option Nat) (x s : Nat) : Nat → Nat
  | 0 => 1
  | p + 1 => wN to x s p * (if to p = none then (if s.testBit p = true then 0 else 1) else if s.testBit p = true then x else 10 - x)
def wD (to : Nat → Option Nat) : Nat → Nat
  | 0 => 1
  | p + 1 => wD to p * (if to p = none then 1 else 10)
theorem wN_congr {to : Nat → Option Nat} {x s s' : Nat} : ∀ k, (∀ p, p < k → s.testBit p = s'.testBit p) → wN to x s k = wN to x s' k
  | 0, _ => rfl
  | k + 1, h => by unfold wN; rw [wN_congr k (fun p hp => h p (by omega)), h k (by omega)]
theorem wN_sum {to : Nat → Option Nat} {x : Nat} (hx : x ≤ 10) : ∀ k, sm (fun s => wN to x s k) (2 ^ k) = wD to k
  | 0 => rfl
  | k + 1 => by
    rw [show 2 ^ (k + 1) = 2 ^ k + 2 ^ k by rw [Nat.pow_succ]; omega, sm_split]
    rw [sm_congr (g := fun s => wN to x s k * (if to k = none then 1 else 10 - x)) (fun s hs => by
      show wN to x s k * _ = _
      rw [Nat.testBit_lt_two_pow hs]; rfl)]
    rw [sm_congr (f := fun t => wN to x (2 ^ k + t) (k + 1)) (g := fun s => wN to x s k * (if to k = none then 0 else x)) (fun s hs => by
      show wN to x (2 ^ k + s) k * _ = _
      rw [Nat.testBit_two_pow_add_eq, Nat.testBit_lt_two_pow hs, wN_congr (s' := s) k (fun p hp => Nat.testBit_two_pow_add_gt hp s)]; rfl)]
    rw [sm_mul, sm_mul, wN_sum hx k]
    show _ = wD to k * (if to k = none then 1 else 10)
    by_cases c : to k = none
    · simp only [if_pos c]; omega
    · simp only [if_neg c]; rw [← Nat.mul_add]; congr 1; omega
theorem wD_le {to : Nat → Option Nat} : ∀ k, 1 ≤ wD to k ∧ wD to k ≤ 10 ^ k
  | 0 => ⟨Nat.le_refl _, Nat.le_refl _⟩
  | k + 1 => by
    have i := wD_le (to := to) k
    unfold wD
    rw [Nat.pow_succ]
    split
    · exact ⟨by omega, by have := i.2; omega⟩
    · exact ⟨by omega, Nat.mul_le_mul_right 10 i.2⟩
theorem wN_ret {to : Nat → Option Nat} {x s p : Nat} (hp : to p = none) (hb : s.testBit p = true) : ∀ k, p < k → wN to x s k = 0
  | k + 1, h => by
    unfold wN
    by_cases e : p = k
    · subst e; rw [if_pos hp, if_pos hb, Nat.mul_zero]
    · rw [wN_ret hp hb k (by omega), Nat.zero_mul]
theorem wN_le {to : Nat → Option Nat} {x s : Nat} (hx : x ≤ 10) : ∀ k, wN to x s k ≤ 10 ^ k
  | 0 => Nat.le_refl _
  | k + 1 => by
    unfold wN
    rw [Nat.pow_succ]
    refine Nat.mul_le_mul (wN_le hx k) ?_
    split
    · split <;> omega
    · split <;> omega
theorem p10 {k : Nat} (h : k ≤ 6) : 10 ^ k ≤ 1000000 := Nat.le_trans (Nat.pow_le_pow_right (by omega) h) (by decide)
theorem di_n {a b : Nat} (ha : a < 2 ^ 31) (hb : b < 2 ^ 31) (h0 : 0 < b) : di (nI a) (nI b) = some (nI (a / b)) := by
  unfold di
  rw [if_neg (fun z => by have := (nI_0e hb).mp z; omega), div_n ha hb]
theorem re_n {a b : Nat} (ha : a < 2 ^ 31) (hb : b < 2 ^ 31) (h0 : 0 < b) : re (nI a) (nI b) = some (nI (a % b)) := by
  unfold re
  rw [if_neg (fun z => by have := (nI_0e hb).mp z; omega), rem_n ha hb]
theorem eu_half {b r k : Nat} (hr : 0 < r) (h : r < b) (hb : b < 2 ^ (k + 1)) : b % r < 2 ^ k := by
  have h1 := Nat.mod_lt b hr
  have h2 : r * (b / r) + b % r = b := Nat.div_add_mod b r
  have h3 : 1 ≤ b / r := (Nat.le_div_iff_mul_le hr).mpr (by omega)
  have h4 : r * 1 ≤ r * (b / r) := Nat.mul_le_mul_left r h3
  rw [Nat.pow_succ] at hb
  omega
theorem eu_end {σ : Sg} {a i : Nat} (hi : i ≤ 64) : f_X6_commonPart_b1 (nI a) (nI 0) (nI i) = some (.inr (nI a)) := by
  unfold f_X6_commonPart_b1
  rw [if_pos (show nI 0 ≤ 0 from Int32.le_refl _), ite_self]
theorem eu_go {a b i : Nat} (ha : a < 2 ^ 31) (hb : b < 2 ^ 31) (h0 : 0 < b) (hi : i < 64) : f_X6_commonPart_b1 (nI a) (nI b) (nI i) = some (.inl (nI b, nI (a % b), nI (i + 1))) := by
  unfold f_X6_commonPart_b1
  rw [L_64, if_neg (nI_ge hi (by omega)), if_neg (by rw [L_0]; exact nI_ge h0 (by omega)), re_n ha hb h0, sb, nI_1]
theorem eu_lp : ∀ (k a b i M : Nat), a < 2 ^ 31 → b < 2 ^ k → k ≤ 30 → i + 2 * k ≤ 64 → 2 * k < M → lp (fun st => f_X6_commonPart_b1 st.1 st.2.1 st.2.2) M (nI a, nI b, nI i) = some (nI (Nat.gcd b a))
  | k, a, 0, i, M + 1, ha, hb, hk, hi, hM => by
    rw [Nat.gcd_zero_left]
    exact lp_end (eu_end (σ := fun _ _ => 0) (by omega))
  | 0, a, b + 1, i, M + 1, ha, hb, hk, hi, hM => by exact absurd hb (by omega)
  | k + 1, a, b + 1, i, M + 2, ha, hb, hk, hi, hM => by
    have p31 : 2 ^ (k + 1) ≤ 2 ^ 30 := Nat.pow_le_pow_right (by omega) hk
    have r1 := Nat.mod_lt a (show 0 < b + 1 by omega)
    refine (lp_go (eu_go ha (by omega) (by omega) (by omega))).trans ?_
    rw [Nat.gcd_rec]
    by_cases z : a % (b + 1) = 0
    · rw [z, Nat.gcd_zero_left]
      exact lp_end (eu_end (σ := fun _ _ => 0) (by omega))
    · refine (lp_go (eu_go (by omega) (by omega) (by omega) (by omega))).trans ?_
      rw [Nat.gcd_rec]
      exact eu_lp k _ _ _ M (by omega) (eu_half (by omega) r1 hb) (by omega) (by omega) (by omega)
theorem cmn_ok {σ : Sg} {a b : Nat} (ha : a < 2 ^ 20) (hb : b < 2 ^ 20) : f_X6_commonPart σ (nI a) (nI b) = some (nI (Nat.gcd a b)) := by
  unfold f_X6_commonPart
  rw [show (0 : Int32) = nI 0 from rfl, eu_lp 20 b a 0 FU (by omega) ha (by omega) (by omega) (by unfold FU; omega), sb]
  rfl
theorem mu_end {a : Nat} : f_X7_likely_b4 (nI a) (nI 0) = some (.inr (nI a)) := by
  unfold f_X7_likely_b4
  rw [if_pos (show nI 0 = 0 from rfl)]
theorem mu_go {a b : Nat} (ha : a < 2 ^ 31) (hb : b < 2 ^ 31) (h0 : 0 < b) : f_X7_likely_b4 (nI a) (nI b) = some (.inl (nI b, nI (a % b))) := by
  unfold f_X7_likely_b4
  rw [if_neg (fun z => by have := (nI_0e hb).mp z; omega), re_n ha hb h0, sb]
theorem mu_lp : ∀ (k a b M : Nat), a < 2 ^ 31 → b < 2 ^ k → k ≤ 30 → 2 * k < M → lp (fun st => f_X7_likely_b4 st.1 st.2) M (nI a, nI b) = some (nI (Nat.gcd b a))
  | k, a, 0, M + 1, ha, hb, hk, hM => by
    rw [Nat.gcd_zero_left]
    exact lp_end mu_end
  | 0, a, b + 1, M + 1, ha, hb, hk, hM => by exact absurd hb (by omega)
  | k + 1, a, b + 1, M + 2, ha, hb, hk, hM => by
    have p31 : 2 ^ (k + 1) ≤ 2 ^ 30 := Nat.pow_le_pow_right (by omega) hk
    have r1 := Nat.mod_lt a (show 0 < b + 1 by omega)
    refine (lp_go (mu_go ha (by omega) (by omega))).trans ?_
    rw [Nat.gcd_rec]
    by_cases z : a % (b + 1) = 0
    · rw [z, Nat.gcd_zero_left]
      exact lp_end mu_end
    · refine (lp_go (mu_go (by omega) (by omega) (by omega))).trans ?_
      rw [Nat.gcd_rec]
      exact mu_lp k _ _ M (by omega) (eu_half (by omega) r1 hb) (by omega) (by omega)
section LI
variable {σ : Sg} {n : Nat} {mi : Mi} {np nw ho ye : Nat} {ki : Nat → Nat} {to : Nat → Option Nat} {ag : Nat → Nat} {ar am : Nat → Nat → Option Nat} {wa go : Nat → Nat} {x v : Nat}
theorem VY_q {q q' : Nat} (hV : VY n mi np nw ho ye q ki to ag ar am wa go) (h : q' < 256) : VY n mi np nw ho ye q' ki to ag ar am wa go := ⟨hV.1, ⟨hV.np8, hV.nw5, hV.hoL, hV.yeL, h⟩, hV.2.2⟩
theorem we_ok (hK : KC σ) (hV : VY n mi np nw ho ye 0 ki to ag ar am wa go) (h : YC σ 6 n mi np nw ho ye 0 ki to ag ar am wa go) {s : Nat} (hs : s < 2 ^ 31) (hx : x ≤ 10) (hr : rIn s to np = none) : f_X6_weightOf σ (nI s) (nI x) = some (nI (wN to x s np)) := by
  have h8 := hV.np8
  unfold f_X6_weightOf
  rw [lp_for0 (b := fun st => f_X6_weightOf_b1 σ (nI s) (nI x) st.1 st.2) (s0 := ((1 : Int32), (0 : Int32))) (r := nI (wN to x s np)) (fun j => (nI (wN to x s j), nI j)) np (by omega) ?_ ?_ rfl, sb]
  · rfl
  · intro j hj
    show f_X6_weightOf_b1 σ (nI s) (nI x) (nI _) (nI j) = _
    unfold f_X6_weightOf_b1 f_X5_posts
    rw [h.1.1, sb, if_neg (nI_ge hj (by omega)), ir_ok hK gY6 hV h hj, sb, hb_ok hs (by omega), sb, nI_1, sub10 hx, nI_mul, nI_mul]
    dsimp only [wN]
    by_cases c : to j = none
    · have d := lw_none hr j (by omega) (by omega)
      rw [decide_eq_true c, Bool.and_true] at d
      rw [b32_t c, if_pos one0, if_pos c, if_neg (by rw [d]; decide), Nat.mul_one]
    · rw [b32_f c, if_neg (fun z => z rfl), if_neg c]
      by_cases b : s.testBit j = true
      · rw [if_pos b, if_pos b, if_neg one0]
      · rw [if_neg b, if_neg b, if_pos rfl]
  · show f_X6_weightOf_b1 σ (nI s) (nI x) (nI _) (nI np) = _
    unfold f_X6_weightOf_b1 f_X5_posts
    rw [h.1.1, sb, if_pos (nI_le (Nat.le_refl _) (by omega))]
theorem mw_lp (hV : VY n mi np nw ho ye 0 ki to ag ar am wa go) (hnp : np ≤ 6) (hS : ST σ n np nw ki go) (h : MC σ 195 mi np nw ho ye to ag ar am wa) {s : Nat} (hs : s < 2 ^ 31) (hx : x ≤ 10) : lp (fun st => f_X7_likely_b1 (nI x) (nI s) σ st.1 st.2) FU ((1 : Int32), (0 : Int32)) = some (nI (wN to x s np)) := by
  have h8 := hV.n8
  refine lp_for0 (fun j => (nI (wN to x s j), nI j)) np (by omega) ?_ ?_ rfl
  · intro j hj
    show f_X7_likely_b1 (nI x) (nI s) σ (nI _) (nI j) = _
    unfold f_X7_likely_b1
    rw [show ga (σ 187) (ln 187) (0 : Int32) = some (nI np) by rw [L_0, l187, ga_n (by omega) (by omega), hS.2.1], sb, if_neg (nI_ge hj (by omega)), L_71, nI_add, l195, ga_n (by omega) (by omega), h.2.1 j hj, sb, ha_ok hs (by omega), sb, sb, nI_1, sub10 hx, L_0, L_1, nI_mul, nI_mul, nI_mul, nI_mul, ← L_0, ← L_1]
    dsimp only [wN]
    by_cases c : to j = none
    · rw [c, if_neg (fun z => z oI_n), if_pos rfl]
      by_cases b : s.testBit j = true
      · rw [if_pos b, if_pos b, if_neg one0]
      · rw [if_neg b, if_neg b, if_pos rfl]
    · obtain ⟨u, hu⟩ := Option.ne_none_iff_exists'.mp c
      have := hV.toL hu
      rw [if_pos (show ¬ oI (to j) = (-4 : Int32) by rw [hu]; exact oI_ne (by omega)), if_neg c]
      by_cases b : s.testBit j = true
      · rw [if_pos b, if_pos b, if_neg one0]
      · rw [if_neg b, if_neg b, if_pos rfl]
  · show f_X7_likely_b1 (nI x) (nI s) σ (nI _) (nI np) = _
    unfold f_X7_likely_b1
    rw [show ga (σ 187) (ln 187) (0 : Int32) = some (nI np) by rw [L_0, l187, ga_n (by omega) (by omega), hS.2.1], sb, if_pos (nI_le (Nat.le_refl _) (by omega))]
theorem ct2_ok (hK : KC σ) (hV : VY n mi np nw ho ye 0 ki to ag ar am wa go) (hh : ho + 40 ≤ 3000) (h : YC σ 6 n mi np nw ho ye 0 ki to ag ar am wa go) {s : Nat} (hs : s < 256) (hv : v < nw) : ∃ σ', f_X6_comesTwisted σ (nI v) (nI s) = some (b32 (hsK mi n np s ki to ag ar go ho wa 40 v = go v), σ') ∧ KC σ' ∧ ∀ i, (i < 20 ∨ 33 < i) → σ' i = σ i := by
  obtain ⟨τ1, e1, K1, f1, Y1⟩ := yb_ok hK gY20 gY6 (by omega) h hV.np8 hV.nw5 hV.n8
  obtain ⟨τ2, e2, K2, f2, Y2⟩ := tw_ok (q' := s) K1 gY20 Y1
  obtain ⟨τ3, e3, K3, f3, Y3⟩ := ph_ok K2 gY20 (VY_q hV hs) Y2 (k := 40) (by omega) hh
  refine ⟨τ3, ?_, K3, fun i hi => (f3 i (by omega)).trans ((f2 i (by omega)).trans (f1 i (by omega)))⟩
  unfold f_X6_comesTwisted
  rw [e1, sb, e2, sb, L_40, e3, sb, hc_ok K3 gY20 (hsK_lt (VY_q hV hs) 40 hh) Y3 hv, sb]
theorem hsK_stay {q j : Nat} (h : hsK mi n np q ki to ag ar go ho wa j v = go v) : ∀ e, hsK mi n np q ki to ag ar go ho wa (j + e) v = go v
  | 0 => h
  | e + 1 => by
    have i := hsK_stay h e
    show hs mi n np q ki to ag ar go (ho + (j + e)) (hsK mi n np q ki to ag ar go ho wa (j + e)) v = go v
    unfold hs
    rw [if_pos i]; exact i
theorem cm_iff {q : Nat} : lw (cmP mi n np q ki to ag ar go ho wa v) 0 41 = none ↔ ¬ hsK mi n np q ki to ag ar go ho wa 40 v = go v := by
  constructor
  · intro h e
    have := lw_none h 40 (by omega) (by omega)
    exact absurd (show decide (hsK mi n np q ki to ag ar go ho wa 40 v = go v) = false from this) (by rw [decide_eq_true e]; decide)
  · intro h
    cases o : lw (cmP mi n np q ki to ag ar go ho wa v) 0 41 with
    | none => rfl
    | some u =>
      obtain ⟨-, a, b⟩ := lw_some o
      have b : hsK mi n np q ki to ag ar go ho wa u v = go v := of_decide_eq_true b
      have := hsK_stay b (40 - u)
      rw [show u + (40 - u) = 40 by omega] at this
      exact absurd this h
/-- ways in which one comes -/
def wC (mi : Mi) (n np : Nat) (ki : Nat → Nat) (to : Nat → Option Nat) (ag : Nat → Nat) (ar : Nat → Nat → Option Nat) (go : Nat → Nat) (ho : Nat) (wa : Nat → Nat) (v x s : Nat) : Nat := if hsK mi n np s ki to ag ar go ho wa 40 v = go v then wN to x s np else 0
theorem c_likely (hK : KC σ) (hV : VY n mi np nw ho ye 0 ki to ag ar am wa go) (hnp : np ≤ 6) (hh : ho + 40 ≤ 3000) (h : YC σ 6 n mi np nw ho ye 0 ki to ag ar am wa go) (hv : v < nw) (hx : x ≤ 10) {W C : Nat → Nat} (hW : ∀ s, W s = wN to x s np) (hC : ∀ s, C s = wC mi n np ki to ag ar go ho wa v x s) : ∃ r, lp (fun st => f_X6_likely_b1 (nI v) (nI x) (nI np) st.1 st.2.1 st.2.2.1 st.2.2.2) FU ((0 : Int32), (0 : Int32), (0 : Int32), σ) = some r ∧ (r.1 = nI (sm C (2 ^ np)) ∧ r.2.1 = nI (sm W (2 ^ np)) ∧ KC r.2.2 ∧ ∀ i, (i < 20 ∨ 33 < i) → r.2.2 i = σ i) := by
  have p6 := p64 hnp
  refine lp_inv (fun j (s : Int32 × Int32 × Int32 × Sg) => s.1 = nI (sm C j) ∧ s.2.1 = nI (sm W j) ∧ s.2.2.1 = nI j ∧ KC s.2.2.2 ∧ ∀ i, (i < 20 ∨ 33 < i) → s.2.2.2 i = σ i) (2 ^ np) (by omega) ⟨rfl, rfl, rfl, hK, fun _ _ => rfl⟩ ?_ ?_
  · rintro j ⟨x1, x2, x3, τ⟩ hj ⟨e1, e2, e3, Kt, ft⟩
    dsimp only at e1 e2 e3 Kt ft
    subst e1 e2 e3
    have Yt := YC_fr h (fun i a b => ft i (by omega))
    have cw : C j = if hsK mi n np j ki to ag ar go ho wa 40 v = go v then W j else 0 := by rw [hC, hW]; rfl
    have u1 : sm C (j + 1) = sm C j + C j := rfl
    have u2 : sm W (j + 1) = sm W j + W j := rfl
    show ∃ s', f_X6_likely_b1 (nI v) (nI x) (nI np) _ _ (nI j) τ = _ ∧ _
    unfold f_X6_likely_b1
    rw [shl_n (by omega), if_neg (nI_ge (by omega) (by omega)), nr_ok2 Kt gY6 hV Yt (by omega), sb, nI_1]
    by_cases d : rIn j to np = none
    · have w1 : wN to x j np ≤ 1000000 := Nat.le_trans (wN_le hx np) (p10 hnp)
      rw [b32_t d, if_neg one0, we_ok Kt hV Yt (by omega) hx d, sb, nI_add, nI_add, ← hW]
      by_cases z : W j = 0
      · have cz : C j = 0 := by rw [cw]; split; exact z; rfl
        rw [if_pos (by rw [z]; exact Int32.le_refl _)]
        exact ⟨_, rfl, by rw [u1, cz]; rfl, by rw [u2], rfl, Kt, ft⟩
      · obtain ⟨τ', g1, g2, g3⟩ := ct2_ok Kt hV hh Yt (s := j) (by omega) hv
        have F : ∀ i, (i < 20 ∨ 33 < i) → τ' i = σ i := fun i hi => (g3 i hi).trans (ft i hi)
        rw [← hW] at w1
        rw [if_neg (by rw [L_0]; exact nI_ge (by omega) (by omega)), g1, sb]
        by_cases c : hsK mi n np j ki to ag ar go ho wa 40 v = go v
        · rw [if_pos c] at cw
          dsimp only
          rw [b32_t c, if_neg one0]
          exact ⟨_, rfl, by rw [u1, cw], by rw [u2], rfl, g2, F⟩
        · rw [if_neg c] at cw
          dsimp only
          rw [b32_f c, if_pos rfl]
          exact ⟨_, rfl, by rw [u1, cw]; rfl, by rw [u2], rfl, g2, F⟩
    · have wz : W j = 0 := by
        rw [hW]
        cases o : rIn j to np with
        | none => exact absurd o d
        | some p =>
          obtain ⟨-, a, b⟩ := lw_some o
          rw [Bool.and_eq_true] at b
          exact wN_ret (of_decide_eq_true b.2) b.1 np (by omega)
      have cz : C j = 0 := by rw [cw]; split; exact wz; rfl
      rw [b32_f d, if_pos rfl]
      exact ⟨_, rfl, by rw [u1, cz]; rfl, by rw [u2, wz]; rfl, rfl, Kt, ft⟩
  · rintro ⟨x1, x2, x3, τ⟩ ⟨e1, e2, e3, Kt, ft⟩
    dsimp only at e1 e2 e3 Kt ft
    subst e1 e2 e3
    show ∃ s', f_X6_likely_b1 (nI v) (nI x) (nI np) _ _ (nI (2 ^ np)) τ = _ ∧ _
    unfold f_X6_likely_b1
    rw [shl_n (by omega), if_pos (nI_le (Nat.le_refl _) (by omega))]
    exact ⟨_, rfl, rfl, rfl, Kt, ft⟩
theorem m_likely (hV : VY n mi np nw ho ye 0 ki to ag ar am wa go) (hnp : np ≤ 6) (hh : ho + 41 ≤ 3000) (hS : ST σ n np nw ki go) (hF : FL σ 0 0 0) (h : MC σ 195 mi np nw ho ye to ag ar am wa) (hv : v < nw) (hx : x ≤ 10) {C : Nat → Nat} (hC : ∀ s, C s = wC mi n np ki to ag ar go ho wa v x s) : ∃ r, lp (fun st => f_X7_likely_b2 (nI v) (nI x) st.1 st.2.1 st.2.2) FU ((0 : Int32), (0 : Int32), σ) = some r ∧ (r.1 = nI (sm C (2 ^ np)) ∧ ∀ i, i ≠ 198 → i ≠ 199 → i ≠ 200 → r.2 i = σ i) := by
  have p6 := p64 hnp
  refine lp_inv (fun j (s : Int32 × Int32 × Sg) => s.1 = nI (sm C j) ∧ s.2.1 = nI j ∧ ∀ i, i ≠ 198 → i ≠ 199 → i ≠ 200 → s.2.2 i = σ i) (2 ^ np) (by omega) ⟨rfl, rfl, fun _ _ _ _ => rfl⟩ ?_ ?_
  · rintro j ⟨x1, x2, τ⟩ hj ⟨e1, e2, ft⟩
    dsimp only at e1 e2 ft
    subst e1 e2
    have St := ST_fr hS (fun i a b => ft i (by omega) (by omega) (by omega))
    have Ft := FL_fr hF (ft _ (by omega) (by omega) (by omega))
    have Mt := MC_fr h (ft _ (by omega) (by omega) (by omega))
    have cw : C j = if hsK mi n np j ki to ag ar go ho wa 40 v = go v then wN to x j np else 0 := by rw [hC]; rfl
    have u1 : sm C (j + 1) = sm C j + C j := rfl
    have w1 : wN to x j np ≤ 1000000 := Nat.le_trans (wN_le hx np) (p10 hnp)
    show ∃ s', f_X7_likely_b2 (nI v) (nI x) _ (nI j) τ = _ ∧ _
    unfold f_X7_likely_b2
    rw [show ga (τ 187) (ln 187) (0 : Int32) = some (nI np) by rw [L_0, l187, ga_n (by omega) (by omega), St.2.1], sb, shl_n (by omega), if_neg (nI_ge (by omega) (by omega)), mw_lp hV hnp St Mt (by omega) hx, sb]
    unfold f_X7_likely_k1
    rw [nI_1]
    by_cases z : wN to x j np = 0
    · have cz : C j = 0 := by rw [cw]; split; exact z; rfl
      rw [if_pos (by rw [z]; exact Int32.le_refl _)]
      exact ⟨_, rfl, by rw [u1, cz]; rfl, rfl, ft⟩
    · rw [if_neg (by rw [L_0]; exact nI_ge (by omega) (by omega)), sb]
      have F1 : FL (sf τ 184 21 (nI j)) j 0 0 := by
        unfold FL
        rw [sf_row, upd_self, upd_ne (by omega), upd_ne (by omega)]
        exact ⟨rfl, Ft.2.1, Ft.2.2⟩
      obtain ⟨τ2, g1, g2⟩ := mcomes (VY_q hV (q' := j) (by omega)) hnp hh (ST_fr St (fun i a b => sf_ne (by omega))) F1 (MC_fr Mt (sf_ne (by omega))) hv
      have F : ∀ i, i ≠ 198 → i ≠ 199 → i ≠ 200 → sf τ2 184 21 0 i = σ i := fun i a b c => by
        rw [← ft i a b c]
        by_cases e : i = 184
        · subst e
          rw [sf_row, g2 _ a c, sf_row]
          exact upd_back Ft.1
        · rw [sf_ne e, g2 _ a c, sf_ne e]
      rw [g1, sb]
      dsimp only
      by_cases c : hsK mi n np j ki to ag ar go ho wa 40 v = go v
      · rw [if_pos c] at cw
        cases o : lw (cmP mi n np j ki to ag ar go ho wa v) 0 41 with
        | none => exact absurd c (cm_iff.mp o)
        | some u =>
          have := (lw_some o).2.1
          rw [if_pos (oI_ne (by omega)), sb, nI_add]
          exact ⟨_, rfl, by rw [u1, cw], rfl, F⟩
      · rw [if_neg c] at cw
        rw [cm_iff.mpr c, if_neg (fun z => z oI_n), sb, L_0, nI_add, ← L_0]
        exact ⟨_, rfl, by rw [u1, cw], rfl, F⟩
  · rintro ⟨x1, x2, τ⟩ ⟨e1, e2, ft⟩
    dsimp only at e1 e2 ft
    subst e1 e2
    have St := ST_fr hS (fun i a b => ft i (by omega) (by omega) (by omega))
    show ∃ s', f_X7_likely_b2 (nI v) (nI x) _ (nI (2 ^ np)) τ = _ ∧ _
    unfold f_X7_likely_b2
    rw [show ga (τ 187) (ln 187) (0 : Int32) = some (nI np) by rw [L_0, l187, ga_n (by omega) (by omega), St.2.1], sb, shl_n (by omega), if_pos (nI_le (Nat.le_refl _) (by omega))]
    exact ⟨_, rfl, rfl, ft⟩
theorem md_lp (hV : VY n mi np nw ho ye 0 ki to ag ar am wa go) (hnp : np ≤ 6) (hS : ST σ n np nw ki go) (h : MC σ 195 mi np nw ho ye to ag ar am wa) : lp (fun st => f_X7_likely_b3 σ st.1 st.2) FU ((1 : Int32), (0 : Int32)) = some (nI (wD to np)) := by
  have h8 := hV.n8
  refine lp_for0 (fun j => (nI (wD to j), nI j)) np (by omega) ?_ ?_ rfl
  · intro j hj
    show f_X7_likely_b3 σ (nI _) (nI j) = _
    unfold f_X7_likely_b3
    rw [show ga (σ 187) (ln 187) (0 : Int32) = some (nI np) by rw [L_0, l187, ga_n (by omega) (by omega), hS.2.1], sb, if_neg (nI_ge hj (by omega)), L_71, nI_add, l195, ga_n (by omega) (by omega), h.2.1 j hj, sb, nI_1, L_10, L_1, nI_mul, nI_mul]
    dsimp only [wD]
    by_cases c : to j = none
    · rw [c, if_neg (fun z => z oI_n), if_pos rfl]
    · obtain ⟨u, hu⟩ := Option.ne_none_iff_exists'.mp c
      have := hV.toL hu
      rw [hu, if_pos (oI_ne (by omega)), if_neg (by rw [← hu]; exact c)]
  · show f_X7_likely_b3 σ (nI _) (nI np) = _
    unfold f_X7_likely_b3
    rw [show ga (σ 187) (ln 187) (0 : Int32) = some (nI np) by rw [L_0, l187, ga_n (by omega) (by omega), hS.2.1], sb, if_pos (nI_le (Nat.le_refl _) (by omega))]
theorem rng_no {a1 : Int32} {n : Nat} (o : a1 < 0 ∨ nI (n + 1) ≤ a1) (hn : n < 2 ^ 30) : a1 < 0 ∨ nI n < a1 := by
  rcases o with h | h
  · exact Or.inl h
  · exact Or.inr (Int32.lt_of_lt_of_le (nI_lt (by omega) (by omega)) h)
theorem eq_likely {N : Nat} (h : Rel N σ) (hN : N < 512) (a1 a2 a3 : Int32) : ∃ r σ1 σ2, f_X6_likely σ a1 a2 a3 = some (r, σ1) ∧ f_X7_likely σ1 a1 a2 a3 = some (r, σ2) ∧ Rel (N + 1) σ2 := by
  have h0 := h
  obtain ⟨hK, hT, n, np, nw, ki, go, A, m, S, k, K, tl, tf, sl, sg, hR⟩ := h
  obtain ⟨⟨n1, n2, n3, n4⟩, v1, v2, v3, ⟨c1, c2, c3⟩, ⟨m1, m2, m3, m4, m5, m6, m7⟩, ⟨t1, t2, t3, t4⟩, u1, u2, u3, u4⟩ := hR
  have hV := v1.1
  have h5 := hV.nw5
  have hho := v1.2.2.1
  have same : Rel (N + 1) σ := Rel_fr h0 (by omega) hN hK (fun _ _ _ _ _ => rfl)
  rcases mw_in m1 (by omega) a1 with ⟨v, hv, rfl, e1⟩ | ⟨o1, e1⟩
  · rcases in_lit (σ := σ) (a := a2) 11 (by omega) (L := 10) (by decide) with ⟨x, hx, rfl, e2⟩ | ⟨o2, e2⟩
    · rcases in_lit (σ := σ) (a := a3) 2 (by omega) (L := 1) (by decide) with ⟨w, hw, rfl, e3⟩ | ⟨o3, e3⟩
      · obtain ⟨⟨r1, r2, σ1⟩, g1, g2, g3, K1, F1⟩ := c_likely hK hV n2 (by omega) c1 hv (x := x) (by omega) (fun _ => rfl) (fun _ => rfl)
        dsimp only at g2 g3 K1 F1
        have S1 := ST_fr m1 (fun i a b => F1 i (by omega))
        obtain ⟨⟨q1, σ2⟩, g4, g5, F2⟩ := m_likely hV n2 (by omega) S1 (FL_fr m2 (F1 _ (by omega))) (MC_fr (MY_c m3) (F1 _ (by omega))) hv (x := x) (by omega) (fun _ => rfl)
        dsimp only at g5 F2
        have S2 := ST_fr S1 (fun i a b => F2 i (by omega) (by omega) (by omega))
        have M2 := MC_fr (MC_fr (MY_c m3) (F1 195 (by omega))) (F2 195 (by omega) (by omega) (by omega))
        have R : Rel (N + 1) σ2 := Rel_fr h0 (by omega) hN (KC_m K1 (fun i hi => F2 i (by omega) (by omega) (by omega))) (fun i a b c d => (F2 i b c d).trans (F1 i a))
        have dn := wN_sum (to := Sn.to A) (x := x) (by omega) np
        have d1 := wD_le (to := Sn.to A) np
        have d2 := p10 n2
        have ub : sm (fun s => wC (Sn.mi A) n np ki (Sn.to A) (Sn.ag A) (Sn.ar A) go (Sn.ho A) (Sn.wa A) v x s) (2 ^ np) ≤ wD (Sn.to A) np := by
          rw [← dn]
          refine sm_le _ (fun s => ?_)
          show wC _ _ _ _ _ _ _ _ _ _ _ _ s ≤ _
          unfold wC
          split
          · exact Nat.le_refl _
          · exact Nat.zero_le _
        rw [dn] at g3
        have bd := md_lp hV n2 S2 M2
        generalize sm (fun s => wC (Sn.mi A) n np ki (Sn.to A) (Sn.ag A) (Sn.ar A) go (Sn.ho A) (Sn.wa A) v x s) (2 ^ np) = up at g2 g5 ub
        generalize wD (Sn.to A) np = dw at g3 d1 ub dn bd
        have a1 : f_X6_likely σ (nI v) (nI x) (nI w) = f_X6_likely_k1 (nI w) r1 r2 σ1 := by
          unfold f_X6_likely f_X5_posts
          rw [iw_in c1 h5 hv, sb, if_neg one0, if_neg (nI_pos (by omega)), L_10, if_neg (nI_nlt (by omega) (by omega)), if_neg (nI_pos (by omega)), L_1, if_pos (nI_le (by omega) (by omega)), c1.1.1, sb, g1, sb]
        have a2 : f_X7_likely σ1 (nI v) (nI x) (nI w) = f_X7_likely_k4 (nI w) q1 σ2 := by
          unfold f_X7_likely
          rcases mw_in S1 (by omega) (nI v) with ⟨v', hv', e0', e1'⟩ | ⟨o1', e1'⟩
          · rw [e1', sb, if_neg one0, show f_X7_in σ1 (nI x) 0 10 = some 1 from e2, sb, if_neg one0, show f_X7_in σ1 (nI w) 0 1 = some 1 from e3, sb, if_pos one0, g4, sb]
          · exfalso; rcases o1' with z | z
            · exact nI_pos (by omega) z
            · exact nI_ge hv (by omega) z
        subst g2 g3 g5
        unfold f_X6_likely_k1 at a1
        unfold f_X7_likely_k4 at a2
        have gp : 0 < Nat.gcd up dw := Nat.gcd_pos_of_pos_right _ (by omega)
        have gl : Nat.gcd up dw ≤ dw := Nat.le_of_dvd (by omega) (Nat.gcd_dvd_right _ _)
        have b4 := mu_lp 20 up dw FU (by omega) (by omega) (by omega) (by unfold FU; omega)
        rw [cmn_ok (by omega) (by omega), sb, L_1, if_pos (nI_le (by omega) (by omega)), di_n (by omega) (by omega) gp, sb, di_n (by omega) (by omega) gp, sb] at a1
        rw [bd, sb] at a2
        unfold f_X7_likely_k3 at a2
        rw [b4, sb, Nat.gcd_comm] at a2
        unfold f_X7_likely_k2 at a2
        rw [di_n (by omega) (by omega) gp, sb, di_n (by omega) (by omega) gp, sb] at a2
        by_cases c : nI w = 0
        · rw [if_neg (fun z => z c)] at a1 a2
          exact ⟨_, σ1, σ2, a1, a2, R⟩
        · rw [if_pos c] at a1 a2
          exact ⟨_, σ1, σ2, a1, a2, R⟩
      · refine ⟨-1, σ, σ, ?_, ?_, same⟩
        · unfold f_X6_likely
          rw [iw_in c1 h5 hv, sb, if_neg one0, if_neg (nI_pos (by omega)), L_10, if_neg (nI_nlt (by omega) (by omega))]
          exact what_out o3
        · unfold f_X7_likely
          rw [e1, sb, if_neg one0, e2, sb, if_neg one0, e3, sb, if_neg (fun z => z rfl)]
    · refine ⟨-1, σ, σ, ?_, ?_, same⟩
      · unfold f_X6_likely
        rw [iw_in c1 h5 hv, sb, if_neg one0]
        rcases rng_no o2 (by omega) with z | z
        · rw [if_pos z]
        · rw [L_10, if_pos z, ite_self]
      · unfold f_X7_likely
        rw [e1, sb, if_neg one0, e2, sb, if_pos rfl]
  · refine ⟨-1, σ, σ, ?_, ?_, same⟩
    · unfold f_X6_likely; rw [iw_out c1 o1]; rfl
    · unfold f_X7_likely; rw [e1]; rfl
end LI
