/-! Part 23: tries of the class (out of whole's parts 27-30). -/

theorem lw_none {P : Nat → Bool} : ∀ {k j : Nat}, lw P j k = none → ∀ t, j ≤ t → t < j + k → P t = false
  | 0, j, _, t, h1, h2 => by omega
  | k + 1, j, h, t, h1, h2 => by
    unfold lw at h
    by_cases hp : P j = true
    · rw [if_pos hp] at h; cases h
    · rw [if_neg hp] at h
      by_cases e : t = j
      · subst e; exact Bool.eq_false_iff.mpr hp
      · exact lw_none h t (by omega) (by omega)
theorem p64 {n : Nat} (h : n ≤ 6) : 2 ^ n ≤ 64 := Nat.le_trans (Nat.pow_le_pow_right (by omega) h) (by decide)

theorem lp_lw {T R : Type} {b : T → Option (T ⊕ R)} {P : Nat → Bool} (I : Nat → T) (hit : Nat → R) (r0 : R) : ∀ (k j M : Nat), k < M → (∀ i, j ≤ i → i < j + k → b (I i) = some (if P i = true then .inr (hit i) else .inl (I (i + 1)))) → b (I (j + k)) = some (.inr r0) → lp b M (I j) = some (match lw P j k with
    | some u => hit u
    | none => r0)
  | 0, j, M + 1, _, _, h2 => lp_end h2
  | k + 1, j, M + 1, hm, h1, h2 => by
    have e := h1 j (Nat.le_refl _) (by omega)
    unfold lw
    by_cases c : P j = true
    · rw [if_pos c] at e ⊢
      exact lp_end e
    · rw [if_neg c] at e ⊢
      exact (lp_go e).trans (lp_lw I hit r0 k (j + 1) M (by omega) (fun i a d => h1 i (by omega) (by omega)) (by rw [show j + 1 + k = j + (k + 1) by omega]; exact h2))
theorem lp_is {b : Int32 × Int32 → Option ((Int32 × Int32) ⊕ Int32)} {P : Nat → Bool} {N : Nat} (hN : N < 4096) (h1 : ∀ i, i < N → b (0, nI i) = some (.inl (0, nI (i + 1)))) (h2 : ∀ i, i < N → b (1, nI i) = some (.inl (if P i = true then 0 else 1, nI (i + 1)))) (h3 : ∀ x, b (x, nI N) = some (.inr x)) : lp b FU ((1 : Int32), (0 : Int32)) = some (b32 (lw P 0 N = none)) := by
  refine lp_for0 (fun j => (b32 (lw P 0 j = none), nI j)) N hN (fun j hj => ?_) (h3 _) rfl
  have sn := lw_snoc (P := P) (k := j) (j := 0)
  rw [Nat.zero_add] at sn
  cases o : lw P 0 j with
  | some u =>
    rw [o] at sn
    dsimp only at sn ⊢
    rw [sn, b32_f (p := some u = none) (fun z => by cases z)]
    exact h1 j hj
  | none =>
    rw [o] at sn
    dsimp only at sn ⊢
    rw [b32_t rfl]
    rw [h2 j hj]
    by_cases c : P j = true
    · rw [if_pos c] at sn ⊢
      rw [sn, b32_f (p := some j = none) (fun z => by cases z)]
    · rw [if_neg c] at sn ⊢
      rw [sn, b32_t rfl]
theorem fN_eq {a b : Option Nat} (ha : ∀ x, a = some x → x ≤ 2304) (hb : ∀ x, b = some x → x ≤ 2304) : nI (fN a) = nI (fN b) ↔ a = b := by
  have la : fN a ≤ 100000 := by
    cases a with
    | none => exact Nat.le_refl _
    | some x => have := ha x rfl; show x ≤ 100000; omega
  have lb : fN b ≤ 100000 := by
    cases b with
    | none => exact Nat.le_refl _
    | some x => have := hb x rfl; show x ≤ 100000; omega
  rw [nI_eq (by omega) (by omega)]
  refine ⟨fun h => ?_, fun h => by rw [h]⟩
  cases a with
  | none =>
    cases b with
    | none => rfl
    | some y => have := hb y rfl; exact absurd (show 100000 = y from h) (by omega)
  | some x =>
    cases b with
    | none => have := ha x rfl; exact absurd (show x = 100000 from h) (by omega)
    | some y => exact congrArg some h
theorem g179 : gd (178 + 1) 3 18 := gd_of (by decide +kernel)
theorem g182 : gd (181 + 1) 3 18 := gd_of (by decide +kernel)
section NO
variable {σ : Sg} {n : Nat} {mi : Mi} {np nw ho ye : Nat} {ki : Nat → Nat} {to : Nat → Option Nat} {ag : Nat → Nat} {ar am : Nat → Nat → Option Nat} {wa go : Nat → Nat} {tl : Nat} {tf : Nat → Nat × Nat × Nat} {sl : Nat} {sg : Nat → Nat × Nat × Nat}
theorem nt0 {r1 r2 r3 : Nat} (hK : KC σ) (h : NT σ 178 r1 r2 r3 tl tf) (h6 : tl ≤ 6) {i : Nat} (hi : i < tl) : f_X2_number σ 178 (nI i) (0 : Int32) = some (nI (tf i).1) ∧ f_X2_number σ 178 (nI i) (1 : Int32) = some (nI (tf i).2.1) ∧ f_X2_number σ 178 (nI i) (2 : Int32) = some (nI (tf i).2.2) := by
  have q := (h.2 i hi).1
  unfold f_X2_number
  rw [at_lit 0 hK g179 (by omega) (by omega) (show (0 : Int32) = nI 0 from rfl), at_lit 1 hK g179 (by omega) (by omega) (show (1 : Int32) = nI 1 from rfl), at_lit 2 hK g179 (by omega) (by omega) (show (2 : Int32) = nI 2 from rfl), q.1, q.2.1, q.2.2]
  exact ⟨rfl, rfl, rfl⟩
theorem nt1 {r1 r2 r3 : Nat} (hK : KC σ) (h : NT σ 181 r1 r2 r3 tl tf) (h6 : tl ≤ 6) {i : Nat} (hi : i < tl) : f_X2_number σ 181 (nI i) (0 : Int32) = some (nI (tf i).1) ∧ f_X2_number σ 181 (nI i) (1 : Int32) = some (nI (tf i).2.1) ∧ f_X2_number σ 181 (nI i) (2 : Int32) = some (nI (tf i).2.2) := by
  have q := (h.2 i hi).1
  unfold f_X2_number
  rw [at_lit 0 hK g182 (by omega) (by omega) (show (0 : Int32) = nI 0 from rfl), at_lit 1 hK g182 (by omega) (by omega) (show (1 : Int32) = nI 1 from rfl), at_lit 2 hK g182 (by omega) (by omega) (show (2 : Int32) = nI 2 from rfl), q.1, q.2.1, q.2.2]
  exact ⟨rfl, rfl, rfl⟩
def tBad (mi : Mi) (tf : Nat → Nat × Nat × Nat) (x i : Nat) : Bool := !(decide (fs mi x (tf i).1 = some (tf i).2.1) && decide (dist mi x (tf i).1 = some (tf i).2.2))
theorem ta_ok (hK : KC σ) (hV : VM n mi) (hR : RC σ 7 n mi) (hP : PC σ 7 n mi) (hT : NT σ 178 201 202 203 tl tf) (h6 : tl ≤ 6) (hb : ∀ i, i < tl → (tf i).1 < n ∧ (tf i).2.1 < n ∧ (tf i).2.2 ≤ 72) {x : Nat} (hx : x < n) : f_X6_tellsAll σ (nI x) = some (b32 (lw (tBad mi tf x) 0 tl = none)) := by
  have h8 := hV.2.1
  unfold f_X6_tellsAll
  have e := lp_lw (b := fun st => f_X6_tellsAll_b1 σ (nI x) st) (P := tBad mi tf x) (fun i => nI i) (fun _ => Sum.inl ()) (Sum.inr ()) tl 0 FU (by unfold FU; omega) (fun i _ hi => by
    have hi : i < tl := by omega
    obtain ⟨q1, q2, q3⟩ := nt0 hK hT h6 hi
    obtain ⟨b1, b2, b3⟩ := hb i hi
    show f_X6_tellsAll_b1 σ (nI x) (nI i) = _
    unfold f_X6_tellsAll_b1 f_X2_held
    rw [hT.1, sb, if_neg (nI_ge hi (by omega)), q1, sb, fs_ok hK gY6.2.2.1.1 hV hR hP hx b1, sb, q2, sb, pm_ok hK gY6.2.2.1.1 hP hx b1 h8, sb, q3, sb, nI_1]
    unfold tBad
    by_cases c : fs mi x (tf i).1 = some (tf i).2.1
    · have c' : oI (fs mi x (tf i).1) = nI (tf i).2.1 := by rw [c]; rfl
      rw [if_neg (fun z => z c'), decide_eq_true c, Bool.true_and]
      by_cases d : dist mi x (tf i).1 = some (tf i).2.2
      · rw [if_pos (show oI (dist mi x (tf i).1) = nI (tf i).2.2 by rw [d]; rfl), decide_eq_true d]; rfl
      · rw [if_neg (fun z => d ((oI_eqs (fun w hw => by have := dN_2304 hV.2.2.1 (Nat.le_refl 8) hw; omega) (by omega)).mp z)), decide_eq_false d]; rfl
    · rw [if_pos (fun z => c ((oI_eqs (fun w hw => by have := (fs_lt hV hw).1; omega) (by omega)).mp z)), decide_eq_false c, Bool.false_and]; rfl) (by
    show f_X6_tellsAll_b1 σ (nI x) (nI (0 + tl)) = _
    unfold f_X6_tellsAll_b1 f_X2_held
    rw [hT.1, sb, Nat.zero_add, if_pos (nI_le (Nat.le_refl _) (by omega))])
  rw [show (0 : Int32) = nI 0 from rfl, e, sb]
  cases lw (tBad mi tf x) 0 tl <;> rfl
theorem c_stood (hK : KC σ) (hV : VY n mi np nw ho ye 0 ki to ag ar am wa go) (h : YC σ 6 n mi np nw ho ye 0 ki to ag ar am wa go) (hT : NT σ 178 201 202 203 tl tf) (h6 : tl ≤ 6) (hb : ∀ i, i < tl → (tf i).1 < n ∧ (tf i).2.1 < n ∧ (tf i).2.2 ≤ 72) : f_X6_stood σ = some (gb32 (fun x => decide (lw (tBad mi tf x) 0 tl = none)) n) := by
  have h8 := hV.n8
  unfold f_X6_stood
  rw [lp_for0 (b := fun st => f_X6_stood_b1 σ st.1 st.2) (s0 := ((0 : Int32), (0 : Int32))) (r := gb32 (fun x => decide (lw (tBad mi tf x) 0 tl = none)) n) (fun j => (gb32 (fun x => decide (lw (tBad mi tf x) 0 tl = none)) j, nI j)) n (by omega) ?_ ?_ rfl]
  · rfl
  · intro j hj
    show f_X6_stood_b1 σ (gb32 _ j) (nI j) = _
    unfold f_X6_stood_b1 f_X5_towns f_X3_towns
    rw [show σ (6 + 1) 0 = nI n from h.2.1.1, sb, sb, if_neg (nI_ge hj (by omega)), ta_ok hK hV.1 h.2.1 h.2.2.1 hT h6 hb hj, sb, nI_1]
    dsimp only [gb32]
    by_cases e : lw (tBad mi tf j) 0 tl = none
    · rw [b32_t e, if_neg one0, if_pos (decide_eq_true e)]
    · rw [b32_f e, if_pos rfl, if_neg (by simp [e])]
  · show f_X6_stood_b1 σ (gb32 _ n) (nI n) = _
    unfold f_X6_stood_b1 f_X5_towns f_X3_towns
    rw [show σ (6 + 1) 0 = nI n from h.2.1.1, sb, sb, if_pos (nI_le (Nat.le_refl _) (by omega))]
end NO

def hbB (v : Int32) (x : Nat) : Bool := decide (((v >>> (nI x &&& 31)) &&& 1) = 1)
theorem hb2 {σ : Sg} {v : Int32} {x : Nat} : f_X6_hasBit σ v (nI x) = some (b32 (hbB v x = true)) := by
  unfold f_X6_hasBit hbB
  by_cases c : ((v >>> (nI x &&& 31)) &&& 1) = 1
  · rw [if_neg (fun z => z c), b32_t (decide_eq_true c)]
  · rw [if_pos c, b32_f (by rw [decide_eq_false c]; simp)]
section NX
variable {σ : Sg} {n : Nat} {mi : Mi} {np nw ho ye : Nat} {ki : Nat → Nat} {to : Nat → Option Nat} {ag : Nat → Nat} {ar am : Nat → Nat → Option Nat} {wa go : Nat → Nat} {sl : Nat} {sg : Nat → Nat × Nat × Nat} {v : Int32}
def tlA (mi : Mi) (y a b : Nat) : Bool := decide (fs mi a y = fs mi b y) && (decide (fs mi a y = none) || decide (dist mi a y = dist mi b y))
theorem fsE (hV : VM n mi) {a b y : Nat} : oI (fs mi a y) = oI (fs mi b y) ↔ fs mi a y = fs mi b y := by
  have h8 := hV.2.1
  exact oI_eq (fun x e => by have := (fs_lt hV e).1; omega) (fun x e => by have := (fs_lt hV e).1; omega)
theorem oI4 {a : Option Nat} (h : ∀ x, a = some x → x < 2 ^ 31) : oI a = -4 ↔ a = none := by
  cases a with
  | none => exact ⟨fun _ => rfl, fun _ => oI_n⟩
  | some x => exact ⟨fun e => absurd e (oI_ne (h x rfl)), fun e => by cases e⟩
theorem c_tla (hK : KC σ) (hV : VM n mi) (hR : RC σ 7 n mi) (hP : PC σ 7 n mi) {a b y : Nat} (ha : a < n) (hb : b < n) (hy : y < n) : f_X6_tellAlike σ (nI a) (nI b) (nI y) = some (b32 (tlA mi y a b = true)) := by
  have h8 := hV.2.1
  have dl : ∀ {a b w}, dist mi a b = some w → w ≤ 2304 := fun hw => dN_2304 hV.2.2.1 (Nat.le_refl 8) hw
  unfold f_X6_tellAlike tlA
  rw [fs_ok hK gY6.2.2.1.1 hV hR hP ha hy, fs_ok hK gY6.2.2.1.1 hV hR hP hb hy, pm_ok hK gY6.2.2.1.1 hP ha hy h8, pm_ok hK gY6.2.2.1.1 hP hb hy h8, sb, sb, sb, sb]
  by_cases c : fs mi a y = fs mi b y
  · rw [if_pos (congrArg oI c), decide_eq_true c, Bool.true_and]
    by_cases d : fs mi a y = none
    · rw [if_pos ((oI4 (fun x e => by have := (fs_lt hV e).1; omega)).mpr d), b32_t (by rw [decide_eq_true d]; rfl)]
    · rw [if_neg (fun z => d ((oI4 (fun x e => by have := (fs_lt hV e).1; omega)).mp z)), decide_eq_false d, Bool.false_or]
      by_cases e : dist mi a y = dist mi b y
      · rw [if_neg (fun z => z (congrArg oI e)), b32_t (decide_eq_true e)]
      · rw [if_pos (fun z => e ((oI_eq (fun x h => by have := dl h; omega) (fun x h => by have := dl h; omega)).mp z)), b32_f (by rw [decide_eq_false e]; decide)]
  · rw [if_neg (fun z => c ((fsE hV).mp z)), b32_f (by rw [decide_eq_false c]; simp)]
def aw (v : Int32) (mi : Mi) (n y a : Nat) : Nat := cn (fun b => hbB v b && tlA mi y a b) n
theorem c_aw (hK : KC σ) (hV : VM n mi) (hR : RC σ 7 n mi) (hP : PC σ 7 n mi) {a y : Nat} (ha : a < n) (hy : y < n) : f_X6_alikeWith σ v (nI a) (nI y) = some (nI (aw v mi n y a)) := by
  have h8 := hV.2.1
  unfold f_X6_alikeWith
  rw [lp_for0 (b := fun st => f_X6_alikeWith_b1 σ v (nI a) (nI y) st.1 st.2) (s0 := ((0 : Int32), (0 : Int32))) (r := nI (aw v mi n y a)) (fun j => (nI (cn (fun b => hbB v b && tlA mi y a b) j), nI j)) n (by omega) ?_ ?_ rfl]
  · rfl
  · intro j hj
    show f_X6_alikeWith_b1 σ v (nI a) (nI y) (nI _) (nI j) = _
    unfold f_X6_alikeWith_b1 f_X5_towns f_X3_towns
    rw [show σ (6 + 1) 0 = nI n from hR.1, sb, sb, if_neg (nI_ge hj (by omega)), hb2, sb, c_tla hK hV hR hP ha hj hy, sb, nI_1, nI_1]
    dsimp only [cn]
    by_cases b : hbB v j = true
    · rw [b32_t b, if_neg one0]
      by_cases c : tlA mi y a j = true
      · rw [b32_t c, if_neg one0, if_pos (by rw [b, c]; rfl)]
      · rw [b32_f c, if_pos rfl, if_neg (by rw [b, Bool.eq_false_iff.mpr c]; decide)]; rfl
    · rw [b32_f b, if_pos rfl, if_neg (by simp [b])]; rfl
  · show f_X6_alikeWith_b1 σ v (nI a) (nI y) (nI _) (nI n) = _
    unfold f_X6_alikeWith_b1 f_X5_towns f_X3_towns
    rw [show σ (6 + 1) 0 = nI n from hR.1, sb, sb, if_pos (nI_le (Nat.le_refl _) (by omega))]
    rfl
def mA (v : Int32) (mi : Mi) (n y : Nat) : Nat → Nat
  | 0 => 0
  | k + 1 => if hbB v k = true then (if mA v mi n y k < aw v mi n y k then aw v mi n y k else mA v mi n y k) else mA v mi n y k
theorem mA_le {y : Nat} : ∀ k, mA v mi n y k ≤ n
  | 0 => Nat.zero_le _
  | k + 1 => by
    have i := mA_le (y := y) k
    have j : aw v mi n y k ≤ n := cn_le _
    unfold mA
    split
    · split
      · exact j
      · exact i
    · exact i
theorem c_mA (hK : KC σ) (hV : VM n mi) (hR : RC σ 7 n mi) (hP : PC σ 7 n mi) {y : Nat} (hy : y < n) : f_X6_mostAlike σ v (nI y) = some (nI (mA v mi n y n)) := by
  have h8 := hV.2.1
  unfold f_X6_mostAlike
  rw [lp_for0 (b := fun st => f_X6_mostAlike_b1 σ v (nI y) st.1 st.2) (s0 := ((0 : Int32), (0 : Int32))) (r := nI (mA v mi n y n)) (fun j => (nI (mA v mi n y j), nI j)) n (by omega) ?_ ?_ rfl]
  · rfl
  · intro j hj
    have i := mA_le (v := v) (mi := mi) (n := n) (y := y) j
    have i2 : aw v mi n y j ≤ n := cn_le _
    show f_X6_mostAlike_b1 σ v (nI y) (nI _) (nI j) = _
    unfold f_X6_mostAlike_b1 f_X5_towns f_X3_towns
    rw [show σ (6 + 1) 0 = nI n from hR.1, sb, sb, if_neg (nI_ge hj (by omega)), hb2, sb, c_aw hK hV hR hP hj hy, sb, nI_1]
    dsimp only [mA]
    by_cases b : hbB v j = true
    · rw [b32_t b, if_neg one0, if_pos b]
      by_cases c : mA v mi n y j < aw v mi n y j
      · rw [if_pos (nI_lt c (by omega)), if_pos c]
      · rw [if_neg (nI_nlt (by omega) (by omega)), if_neg c]
    · rw [b32_f b, if_pos rfl, if_neg b]
  · show f_X6_mostAlike_b1 σ v (nI y) (nI _) (nI n) = _
    unfold f_X6_mostAlike_b1 f_X5_towns f_X3_towns
    rw [show σ (6 + 1) 0 = nI n from hR.1, sb, sb, if_pos (nI_le (Nat.le_refl _) (by omega))]
def nB (M : Nat → Nat) : Nat → Option (Nat × Nat)
  | 0 => none
  | k + 1 => match nB M k with
    | none => some (k, M k)
    | some r => if r.2 ≤ M k then some r else some (k, M k)
theorem nB_lt {M : Nat → Nat} (hM : ∀ t, M t ≤ 8) : ∀ {k : Nat} {r : Nat × Nat}, nB M k = some r → r.1 < k ∧ r.2 ≤ 8
  | 0, r, e => by cases e
  | k + 1, r, e => by
    unfold nB at e
    cases o : nB M k with
    | none => simp only [o] at e; cases e; exact ⟨Nat.lt_succ_self k, hM k⟩
    | some r' =>
      simp only [o] at e
      have i := nB_lt hM o
      by_cases c : r'.2 ≤ M k
      · rw [if_pos c] at e; cases e; exact ⟨by omega, i.2⟩
      · rw [if_neg c] at e; cases e; exact ⟨Nat.lt_succ_self k, hM k⟩
theorem nx_step {M : Nat → Nat} (hM : ∀ t, M t ≤ 8) {j : Nat} (hj : j < 8) : (if o1 (nB M j) = (-4 : Int32) then some (.inl (nI j, nI (M j), nI (j + 1))) else if o2 0 (nB M j) ≤ nI (M j) then some (.inl (o1 (nB M j), o2 0 (nB M j), nI (j + 1))) else some (.inl (nI j, nI (M j), nI (j + 1)))) = (some (.inl (o1 (nB M (j + 1)), o2 0 (nB M (j + 1)), nI (j + 1))) : Option ((Int32 × Int32 × Int32) ⊕ Int32)) := by
  have m8 := hM j
  cases o : nB M j with
  | none =>
    have u : nB M (j + 1) = some (j, M j) := by show (match nB M j with | none => _ | some r => _) = _; rw [o]
    rw [u, if_pos (show o1 none = -4 from rfl)]
    rfl
  | some r =>
    have u : nB M (j + 1) = if r.2 ≤ M j then some r else some (j, M j) := by show (match nB M j with | none => _ | some r => _) = _; rw [o]
    have i := nB_lt hM o
    rw [if_neg (show ¬ o1 (some r) = -4 from nI_ne4 (by omega)), show o2 0 (some r) = nI r.2 from rfl]
    by_cases c : r.2 ≤ M j
    · rw [if_pos c] at u
      rw [if_pos (nI_le c (by omega)), u]
      rfl
    · rw [if_neg c] at u
      rw [if_neg (nI_ge (by omega) (by omega)), u]
      rfl
end NX

section KI
variable {σ : Sg} {n : Nat} {mi : Mi} {np nw ho ye : Nat} {ki : Nat → Nat} {to : Nat → Option Nat} {ag : Nat → Nat} {ar am : Nat → Nat → Option Nat} {wa go : Nat → Nat} {sl : Nat} {sg : Nat → Nat × Nat × Nat}
theorem VY_ki {q : Nat} (hV : VY n mi np nw ho ye q ki to ag ar am wa go) {ki' : Nat → Nat} (h : ∀ p, ki' p ≤ 3) : VY n mi np nw ho ye q ki' to ag ar am wa go := ⟨hV.1, hV.2.1, h, hV.2.2.2⟩
def kBad (mi : Mi) (n ho : Nat) (to : Nat → Option Nat) (ag : Nat → Nat) (ar : Nat → Nat → Option Nat) (p : Nat) (sg : Nat → Nat × Nat × Nat) (k i : Nat) : Bool := decide ((sg i).1 = p) && !decide (ptk mi n ho 0 to ag ar k p (sg i).2.1 = some (sg i).2.2)
theorem ptk_lt (hV : VY n mi np nw ho ye 0 ki to ag ar am wa go) {k p t u : Nat} (hk : k ≤ 3) (e : ptk mi n ho 0 to ag ar k p t = some u) : u < n := pt_lt (VY_ki hV (ki' := fun _ => k) (fun _ => hk)) e
theorem fi_ok (hK : KC σ) (hV : VY n mi np nw ho ye 0 ki to ag ar am wa go) (h : YC σ 20 n mi np nw ho ye 0 ki to ag ar am wa go) (hT : NT σ 181 204 205 206 sl sg) (h6 : sl ≤ 6) (hb : ∀ i, i < sl → (sg i).1 < np ∧ (sg i).2.1 < n ∧ (sg i).2.2 < n) {p : Nat} (hp : p < np) : f_X6_fitsSightings σ (nI p) = some (b32 (lw (kBad mi n ho to ag ar p sg (ki p)) 0 sl = none)) := by
  have h8 := hV.n8
  have p8 := hV.np8
  unfold f_X6_fitsSightings
  have e := lp_lw (b := fun st => f_X6_fitsSightings_b1 σ (nI p) st) (P := kBad mi n ho to ag ar p sg (ki p)) (fun i => nI i) (fun _ => Sum.inl ()) (Sum.inr ()) sl 0 FU (by unfold FU; omega) (fun i _ hi => by
    have hi : i < sl := by omega
    obtain ⟨q1, q2, q3⟩ := nt1 hK hT h6 hi
    obtain ⟨b1, b2, b3⟩ := hb i hi
    show f_X6_fitsSightings_b1 σ (nI p) (nI i) = _
    unfold f_X6_fitsSightings_b1 f_X2_held
    rw [hT.1, sb, if_neg (nI_ge hi (by omega)), q1, sb, q2, sb, pt_ok hK gY20 hV h hp (by omega), sb, q3, sb, nI_1, pt_k]
    unfold kBad
    by_cases c : (sg i).1 = p
    · rw [if_neg (fun z => z (congrArg nI c)), decide_eq_true c, Bool.true_and]
      by_cases d : ptk mi n ho 0 to ag ar (ki p) p (sg i).2.1 = some (sg i).2.2
      · rw [if_pos (show oI (ptk mi n ho 0 to ag ar (ki p) p (sg i).2.1) = nI (sg i).2.2 by rw [d]; rfl), decide_eq_true d]; rfl
      · rw [if_neg (fun z => d ((oI_eqs (fun w hw => by have := ptk_lt hV (hV.kiL p) hw; omega) (by omega)).mp z)), decide_eq_false d]; rfl
    · rw [if_pos (fun z => c ((nI_eq (by omega) (by omega)).mp z)), decide_eq_false c, Bool.false_and]; rfl) (by
    show f_X6_fitsSightings_b1 σ (nI p) (nI (0 + sl)) = _
    unfold f_X6_fitsSightings_b1 f_X2_held
    rw [hT.1, sb, Nat.zero_add, if_pos (nI_le (Nat.le_refl _) (by omega))])
  rw [show (0 : Int32) = nI 0 from rfl, e, sb]
  cases lw (kBad mi n ho to ag ar p sg (ki p)) 0 sl <;> rfl
end KI

theorem sub10 {x : Nat} (h : x ≤ 10) : (10 : Int32) - nI x = nI (10 - x) := by
  have : ∀ x : Fin 11, (10 : Int32) - nI x.val = nI (10 - x.val) := by decide +kernel
  exact this ⟨x, by omega⟩
theorem sm_split {f : Nat → Nat} {a : Nat} : ∀ b, sm f (a + b) = sm f a + sm (fun t => f (a + t)) b
  | 0 => rfl
  | b + 1 => by show sm f (a + b) + f (a + b) = sm f a + (sm (fun t => f (a + t)) b + f (a + b)); rw [sm_split b]; omega
theorem sm_mul {f : Nat → Nat} {c : Nat} : ∀ k, sm (fun t => f t * c) k = sm f k * c
  | 0 => (Nat.zero_mul c).symm
  | k + 1 => by show sm (fun t => f t * c) k + f k * c = (sm f k + f k) * c; rw [sm_mul k, Nat.add_mul]
theorem sm_mono {f : Nat → Nat} {a : Nat} : ∀ e, sm f a ≤ sm f (a + e)
  | 0 => Nat.le_refl _
  | e + 1 => by show sm f a ≤ sm f (a + e) + f (a + e); have := sm_mono (f := f) (a := a) e; omega
theorem sm_le {f g : Nat → Nat} : ∀ k, (∀ t, f t ≤ g t) → sm f k ≤ sm g k
  | 0, _ => Nat.le_refl _
  | k + 1, h => by show sm f k + f k ≤ sm g k + g k; have := sm_le k h; have := h k; omega
/-- ways of a set of twisted posts -/
def wN (to : Nat → Option Nat) (x s : Nat) : Nat → Nat
  | 0 => 1
  | p + 1 => wN to x s p * (if to p = none then (if s.testBit p = true then 0 else 1) else if s.testBit p = true then x else 10 - x)
def wD (to : Nat → Option Nat) : Nat → Nat
  | 0 => 1
  | p + 1 => wD to p * (if to p = none then 1 else 10)
theorem wN_congr {to : Nat → Option Nat} {x s s' : Nat} : ∀ k, (∀ p, p < k → s.testBit p = s'.testBit p) → wN to x s k = wN to x s' k
  | 0, _ => rfl
  | k + 1, h => by unfold wN; rw [wN_congr k (fun p hp => h p (by omega)), h k (by omega)]
theorem wN_sum {to : Nat → Option Nat} {x : Nat} (hx : x ≤ 10) : ∀ k, sm (fun s => wN to x s k) (2 ^ k) = wD to k
  | 0 => rfl
  | k + 1 => by
    rw [show 2 ^ (k + 1) = 2 ^ k + 2 ^ k by rw [Nat.pow_succ]; omega, sm_split]
    rw [sm_congr (g := fun s => wN to x s k * (if to k = none then 1 else 10 - x)) (fun s hs => by
      show wN to x s k * _ = _
      rw [Nat.testBit_lt_two_pow hs]; rfl)]
    rw [sm_congr (f := fun t => wN to x (2 ^ k + t) (k + 1)) (g := fun s => wN to x s k * (if to k = none then 0 else x)) (fun s hs => by
      show wN to x (2 ^ k + s) k * _ = _
      rw [Nat.testBit_two_pow_add_eq, Nat.testBit_lt_two_pow hs, wN_congr (s' := s) k (fun p hp => Nat.testBit_two_pow_add_gt hp s)]; rfl)]
    rw [sm_mul, sm_mul, wN_sum hx k]
    show _ = wD to k * (if to k = none then 1 else 10)
    by_cases c : to k = none
    · simp only [if_pos c]; omega
    · simp only [if_neg c]; rw [← Nat.mul_add]; congr 1; omega
theorem wD_le {to : Nat → Option Nat} : ∀ k, 1 ≤ wD to k ∧ wD to k ≤ 10 ^ k
  | 0 => ⟨Nat.le_refl _, Nat.le_refl _⟩
  | k + 1 => by
    have i := wD_le (to := to) k
    unfold wD
    rw [Nat.pow_succ]
    split
    · exact ⟨by omega, by have := i.2; omega⟩
    · exact ⟨by omega, Nat.mul_le_mul_right 10 i.2⟩
theorem wN_ret {to : Nat → Option Nat} {x s p : Nat} (hp : to p = none) (hb : s.testBit p = true) : ∀ k, p < k → wN to x s k = 0
  | k + 1, h => by
    unfold wN
    by_cases e : p = k
    · subst e; rw [if_pos hp, if_pos hb, Nat.mul_zero]
    · rw [wN_ret hp hb k (by omega), Nat.zero_mul]
theorem wN_le {to : Nat → Option Nat} {x s : Nat} (hx : x ≤ 10) : ∀ k, wN to x s k ≤ 10 ^ k
  | 0 => Nat.le_refl _
  | k + 1 => by
    unfold wN
    rw [Nat.pow_succ]
    refine Nat.mul_le_mul (wN_le hx k) ?_
    split
    · split <;> omega
    · split <;> omega
theorem p10 {k : Nat} (h : k ≤ 6) : 10 ^ k ≤ 1000000 := Nat.le_trans (Nat.pow_le_pow_right (by omega) h) (by decide)
theorem di_n {a b : Nat} (ha : a < 2 ^ 31) (hb : b < 2 ^ 31) (h0 : 0 < b) : di (nI a) (nI b) = some (nI (a / b)) := by
  unfold di
  rw [if_neg (fun z => by have := (nI_0e hb).mp z; omega), div_n ha hb]
theorem re_n {a b : Nat} (ha : a < 2 ^ 31) (hb : b < 2 ^ 31) (h0 : 0 < b) : re (nI a) (nI b) = some (nI (a % b)) := by
  unfold re
  rw [if_neg (fun z => by have := (nI_0e hb).mp z; omega), rem_n ha hb]
theorem eu_half {b r k : Nat} (hr : 0 < r) (h : r < b) (hb : b < 2 ^ (k + 1)) : b % r < 2 ^ k := by
  have h1 := Nat.mod_lt b hr
  have h2 : r * (b / r) + b % r = b := Nat.div_add_mod b r
  have h3 : 1 ≤ b / r := (Nat.le_div_iff_mul_le hr).mpr (by omega)
  have h4 : r * 1 ≤ r * (b / r) := Nat.mul_le_mul_left r h3
  rw [Nat.pow_succ] at hb
  omega
theorem eu_end {σ : Sg} {a i : Nat} (hi : i ≤ 64) : f_X6_commonPart_b1 (nI a) (nI 0) (nI i) = some (.inr (nI a)) := by
  unfold f_X6_commonPart_b1
  rw [if_pos (show nI 0 ≤ 0 from Int32.le_refl _), ite_self]
theorem eu_go {a b i : Nat} (ha : a < 2 ^ 31) (hb : b < 2 ^ 31) (h0 : 0 < b) (hi : i < 64) : f_X6_commonPart_b1 (nI a) (nI b) (nI i) = some (.inl (nI b, nI (a % b), nI (i + 1))) := by
  unfold f_X6_commonPart_b1
  rw [L_64, if_neg (nI_ge hi (by omega)), if_neg (by rw [L_0]; exact nI_ge h0 (by omega)), re_n ha hb h0, sb, nI_1]
theorem eu_lp : ∀ (k a b i M : Nat), a < 2 ^ 31 → b < 2 ^ k → k ≤ 30 → i + 2 * k ≤ 64 → 2 * k < M → lp (fun st => f_X6_commonPart_b1 st.1 st.2.1 st.2.2) M (nI a, nI b, nI i) = some (nI (Nat.gcd b a))
  | k, a, 0, i, M + 1, ha, hb, hk, hi, hM => by
    rw [Nat.gcd_zero_left]
    exact lp_end (eu_end (σ := fun _ _ => 0) (by omega))
  | 0, a, b + 1, i, M + 1, ha, hb, hk, hi, hM => by exact absurd hb (by omega)
  | k + 1, a, b + 1, i, M + 2, ha, hb, hk, hi, hM => by
    have p31 : 2 ^ (k + 1) ≤ 2 ^ 30 := Nat.pow_le_pow_right (by omega) hk
    have r1 := Nat.mod_lt a (show 0 < b + 1 by omega)
    refine (lp_go (eu_go ha (by omega) (by omega) (by omega))).trans ?_
    rw [Nat.gcd_rec]
    by_cases z : a % (b + 1) = 0
    · rw [z, Nat.gcd_zero_left]
      exact lp_end (eu_end (σ := fun _ _ => 0) (by omega))
    · refine (lp_go (eu_go (by omega) (by omega) (by omega) (by omega))).trans ?_
      rw [Nat.gcd_rec]
      exact eu_lp k _ _ _ M (by omega) (eu_half (by omega) r1 hb) (by omega) (by omega) (by omega)
theorem cmn_ok {σ : Sg} {a b : Nat} (ha : a < 2 ^ 20) (hb : b < 2 ^ 20) : f_X6_commonPart σ (nI a) (nI b) = some (nI (Nat.gcd a b)) := by
  unfold f_X6_commonPart
  rw [show (0 : Int32) = nI 0 from rfl, eu_lp 20 b a 0 FU (by omega) ha (by omega) (by omega) (by unfold FU; omega), sb]
  rfl
section LI
variable {σ : Sg} {n : Nat} {mi : Mi} {np nw ho ye : Nat} {ki : Nat → Nat} {to : Nat → Option Nat} {ag : Nat → Nat} {ar am : Nat → Nat → Option Nat} {wa go : Nat → Nat} {x v : Nat}
theorem VY_q {q q' : Nat} (hV : VY n mi np nw ho ye q ki to ag ar am wa go) (h : q' < 256) : VY n mi np nw ho ye q' ki to ag ar am wa go := ⟨hV.1, ⟨hV.np8, hV.nw5, hV.hoL, hV.yeL, h⟩, hV.2.2⟩
theorem we_ok (hK : KC σ) (hV : VY n mi np nw ho ye 0 ki to ag ar am wa go) (h : YC σ 6 n mi np nw ho ye 0 ki to ag ar am wa go) {s : Nat} (hs : s < 2 ^ 31) (hx : x ≤ 10) (hr : rIn s to np = none) : f_X6_weightOf σ (nI s) (nI x) = some (nI (wN to x s np)) := by
  have h8 := hV.np8
  unfold f_X6_weightOf
  rw [lp_for0 (b := fun st => f_X6_weightOf_b1 σ (nI s) (nI x) st.1 st.2) (s0 := ((1 : Int32), (0 : Int32))) (r := nI (wN to x s np)) (fun j => (nI (wN to x s j), nI j)) np (by omega) ?_ ?_ rfl, sb]
  · rfl
  · intro j hj
    show f_X6_weightOf_b1 σ (nI s) (nI x) (nI _) (nI j) = _
    unfold f_X6_weightOf_b1 f_X5_posts
    rw [h.1.1, sb, if_neg (nI_ge hj (by omega)), ir_ok hK gY6 hV h hj, sb, hb_ok hs (by omega), sb, nI_1, sub10 hx, nI_mul, nI_mul]
    dsimp only [wN]
    by_cases c : to j = none
    · have d := lw_none hr j (by omega) (by omega)
      rw [decide_eq_true c, Bool.and_true] at d
      rw [b32_t c, if_pos one0, if_pos c, if_neg (by rw [d]; decide), Nat.mul_one]
    · rw [b32_f c, if_neg (fun z => z rfl), if_neg c]
      by_cases b : s.testBit j = true
      · rw [if_pos b, if_pos b, if_neg one0]
      · rw [if_neg b, if_neg b, if_pos rfl]
  · show f_X6_weightOf_b1 σ (nI s) (nI x) (nI _) (nI np) = _
    unfold f_X6_weightOf_b1 f_X5_posts
    rw [h.1.1, sb, if_pos (nI_le (Nat.le_refl _) (by omega))]
theorem ct2_ok (hK : KC σ) (hV : VY n mi np nw ho ye 0 ki to ag ar am wa go) (hh : ho + 40 ≤ 3000) (h : YC σ 6 n mi np nw ho ye 0 ki to ag ar am wa go) {s : Nat} (hs : s < 256) (hv : v < nw) : ∃ σ', f_X6_comesTwisted σ (nI v) (nI s) = some (b32 (hsK mi n np s ki to ag ar go ho wa 40 v = go v), σ') ∧ KC σ' ∧ ∀ i, (i < 20 ∨ 33 < i) → σ' i = σ i := by
  obtain ⟨τ1, e1, K1, f1, Y1⟩ := yb_ok hK gY20 gY6 (by omega) h hV.np8 hV.nw5 hV.n8
  obtain ⟨τ2, e2, K2, f2, Y2⟩ := tw_ok (q' := s) K1 gY20 Y1
  obtain ⟨τ3, e3, K3, f3, Y3⟩ := ph_ok K2 gY20 (VY_q hV hs) Y2 (k := 40) (by omega) hh
  refine ⟨τ3, ?_, K3, fun i hi => (f3 i (by omega)).trans ((f2 i (by omega)).trans (f1 i (by omega)))⟩
  unfold f_X6_comesTwisted
  rw [e1, sb, e2, sb, L_40, e3, sb, hc_ok K3 gY20 (hsK_lt (VY_q hV hs) 40 hh) Y3 hv, sb]
theorem hsK_stay {q j : Nat} (h : hsK mi n np q ki to ag ar go ho wa j v = go v) : ∀ e, hsK mi n np q ki to ag ar go ho wa (j + e) v = go v
  | 0 => h
  | e + 1 => by
    have i := hsK_stay h e
    show hs mi n np q ki to ag ar go (ho + (j + e)) (hsK mi n np q ki to ag ar go ho wa (j + e)) v = go v
    unfold hs
    rw [if_pos i]; exact i
theorem cm_iff {q : Nat} : lw (cmP mi n np q ki to ag ar go ho wa v) 0 41 = none ↔ ¬ hsK mi n np q ki to ag ar go ho wa 40 v = go v := by
  constructor
  · intro h e
    have := lw_none h 40 (by omega) (by omega)
    exact absurd (show decide (hsK mi n np q ki to ag ar go ho wa 40 v = go v) = false from this) (by rw [decide_eq_true e]; decide)
  · intro h
    cases o : lw (cmP mi n np q ki to ag ar go ho wa v) 0 41 with
    | none => rfl
    | some u =>
      obtain ⟨-, a, b⟩ := lw_some o
      have b : hsK mi n np q ki to ag ar go ho wa u v = go v := of_decide_eq_true b
      have := hsK_stay b (40 - u)
      rw [show u + (40 - u) = 40 by omega] at this
      exact absurd this h
/-- ways in which one comes -/
def wC (mi : Mi) (n np : Nat) (ki : Nat → Nat) (to : Nat → Option Nat) (ag : Nat → Nat) (ar : Nat → Nat → Option Nat) (go : Nat → Nat) (ho : Nat) (wa : Nat → Nat) (v x s : Nat) : Nat := if hsK mi n np s ki to ag ar go ho wa 40 v = go v then wN to x s np else 0
theorem c_likely (hK : KC σ) (hV : VY n mi np nw ho ye 0 ki to ag ar am wa go) (hnp : np ≤ 6) (hh : ho + 40 ≤ 3000) (h : YC σ 6 n mi np nw ho ye 0 ki to ag ar am wa go) (hv : v < nw) (hx : x ≤ 10) {W C : Nat → Nat} (hW : ∀ s, W s = wN to x s np) (hC : ∀ s, C s = wC mi n np ki to ag ar go ho wa v x s) : ∃ r, lp (fun st => f_X6_likely_b1 (nI v) (nI x) (nI np) st.1 st.2.1 st.2.2.1 st.2.2.2) FU ((0 : Int32), (0 : Int32), (0 : Int32), σ) = some r ∧ (r.1 = nI (sm C (2 ^ np)) ∧ r.2.1 = nI (sm W (2 ^ np)) ∧ KC r.2.2 ∧ ∀ i, (i < 20 ∨ 33 < i) → r.2.2 i = σ i) := by
  have p6 := p64 hnp
  refine lp_inv (fun j (s : Int32 × Int32 × Int32 × Sg) => s.1 = nI (sm C j) ∧ s.2.1 = nI (sm W j) ∧ s.2.2.1 = nI j ∧ KC s.2.2.2 ∧ ∀ i, (i < 20 ∨ 33 < i) → s.2.2.2 i = σ i) (2 ^ np) (by omega) ⟨rfl, rfl, rfl, hK, fun _ _ => rfl⟩ ?_ ?_
  · rintro j ⟨x1, x2, x3, τ⟩ hj ⟨e1, e2, e3, Kt, ft⟩
    dsimp only at e1 e2 e3 Kt ft
    subst e1 e2 e3
    have Yt := YC_fr h (fun i a b => ft i (by omega))
    have cw : C j = if hsK mi n np j ki to ag ar go ho wa 40 v = go v then W j else 0 := by rw [hC, hW]; rfl
    have u1 : sm C (j + 1) = sm C j + C j := rfl
    have u2 : sm W (j + 1) = sm W j + W j := rfl
    show ∃ s', f_X6_likely_b1 (nI v) (nI x) (nI np) _ _ (nI j) τ = _ ∧ _
    unfold f_X6_likely_b1
    rw [shl_n (by omega), if_neg (nI_ge (by omega) (by omega)), nr_ok2 Kt gY6 hV Yt (by omega), sb, nI_1]
    by_cases d : rIn j to np = none
    · have w1 : wN to x j np ≤ 1000000 := Nat.le_trans (wN_le hx np) (p10 hnp)
      rw [b32_t d, if_neg one0, we_ok Kt hV Yt (by omega) hx d, sb, nI_add, nI_add, ← hW]
      by_cases z : W j = 0
      · have cz : C j = 0 := by rw [cw]; split; exact z; rfl
        rw [if_pos (by rw [z]; exact Int32.le_refl _)]
        exact ⟨_, rfl, by rw [u1, cz]; rfl, by rw [u2], rfl, Kt, ft⟩
      · obtain ⟨τ', g1, g2, g3⟩ := ct2_ok Kt hV hh Yt (s := j) (by omega) hv
        have F : ∀ i, (i < 20 ∨ 33 < i) → τ' i = σ i := fun i hi => (g3 i hi).trans (ft i hi)
        rw [← hW] at w1
        rw [if_neg (by rw [L_0]; exact nI_ge (by omega) (by omega)), g1, sb]
        by_cases c : hsK mi n np j ki to ag ar go ho wa 40 v = go v
        · rw [if_pos c] at cw
          dsimp only
          rw [b32_t c, if_neg one0]
          exact ⟨_, rfl, by rw [u1, cw], by rw [u2], rfl, g2, F⟩
        · rw [if_neg c] at cw
          dsimp only
          rw [b32_f c, if_pos rfl]
          exact ⟨_, rfl, by rw [u1, cw]; rfl, by rw [u2], rfl, g2, F⟩
    · have wz : W j = 0 := by
        rw [hW]
        cases o : rIn j to np with
        | none => exact absurd o d
        | some p =>
          obtain ⟨-, a, b⟩ := lw_some o
          rw [Bool.and_eq_true] at b
          exact wN_ret (of_decide_eq_true b.2) b.1 np (by omega)
      have cz : C j = 0 := by rw [cw]; split; exact wz; rfl
      rw [b32_f d, if_pos rfl]
      exact ⟨_, rfl, by rw [u1, cz]; rfl, by rw [u2, wz]; rfl, rfl, Kt, ft⟩
  · rintro ⟨x1, x2, x3, τ⟩ ⟨e1, e2, e3, Kt, ft⟩
    dsimp only at e1 e2 e3 Kt ft
    subst e1 e2 e3
    show ∃ s', f_X6_likely_b1 (nI v) (nI x) (nI np) _ _ (nI (2 ^ np)) τ = _ ∧ _
    unfold f_X6_likely_b1
    rw [shl_n (by omega), if_pos (nI_le (Nat.le_refl _) (by omega))]
    exact ⟨_, rfl, rfl, rfl, Kt, ft⟩
theorem rng_no {a1 : Int32} {n : Nat} (o : a1 < 0 ∨ nI (n + 1) ≤ a1) (hn : n < 2 ^ 30) : a1 < 0 ∨ nI n < a1 := by
  rcases o with h | h
  · exact Or.inl h
  · exact Or.inr (Int32.lt_of_lt_of_le (nI_lt (by omega) (by omega)) h)
end LI
theorem what_out {a1 : Int32} (o : a1 < 0 ∨ nI 2 ≤ a1) {α : Type} {x y : α} : (if a1 < 0 then y else if a1 ≤ (1 : Int32) then x else y) = y := by
  by_cases c : a1 < 0
  · rw [if_pos c]
  · rw [if_neg c, if_neg]
    intro z
    exact absurd (Int32.le_trans (o.resolve_left c) z) (by decide)
