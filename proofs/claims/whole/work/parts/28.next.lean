/-! Part 28: what to ask next, of which kind. -/
def hbB (v : Int32) (x : Nat) : Bool := decide (((v >>> (nI x &&& 31)) &&& 1) = 1)
theorem hb2 {σ : Sg} {v : Int32} {x : Nat} : f_X6_hasBit σ v (nI x) = some (b32 (hbB v x = true)) := by
  unfold f_X6_hasBit hbB
  by_cases c : ((v >>> (nI x &&& 31)) &&& 1) = 1
  · rw [if_neg (fun z => z c), b32_t (decide_eq_true c)]
  · rw [if_pos c, b32_f (by rw [decide_eq_false c]; simp)]
theorem ha2 {σ : Sg} {v : Int32} {x : Nat} : f_X7_has σ v (nI x) = some (b32 (hbB v x = true)) := by
  unfold f_X7_has hbB
  by_cases c : ((v >>> (nI x &&& 31)) &&& 1) = 1
  · rw [if_neg (fun z => z c), b32_t (decide_eq_true c)]
  · rw [if_pos c, b32_f (by rw [decide_eq_false c]; simp)]
section NX
variable {σ : Sg} {n : Nat} {mi : Mi} {np nw ho ye : Nat} {ki : Nat → Nat} {to : Nat → Option Nat} {ag : Nat → Nat} {ar am : Nat → Nat → Option Nat} {wa go : Nat → Nat} {sl : Nat} {sg : Nat → Nat × Nat × Nat} {v : Int32}
def tlA (mi : Mi) (y a b : Nat) : Bool := decide (fs mi a y = fs mi b y) && (decide (fs mi a y = none) || decide (dist mi a y = dist mi b y))
theorem fsE (hV : VM n mi) {a b y : Nat} : oI (fs mi a y) = oI (fs mi b y) ↔ fs mi a y = fs mi b y := by
  have h8 := hV.2.1
  exact oI_eq (fun x e => by have := (fs_lt hV e).1; omega) (fun x e => by have := (fs_lt hV e).1; omega)
theorem oI4 {a : Option Nat} (h : ∀ x, a = some x → x < 2 ^ 31) : oI a = -4 ↔ a = none := by
  cases a with
  | none => exact ⟨fun _ => rfl, fun _ => oI_n⟩
  | some x => exact ⟨fun e => absurd e (oI_ne (h x rfl)), fun e => by cases e⟩
theorem c_tla (hK : KC σ) (hV : VM n mi) (hR : RC σ 7 n mi) (hP : PC σ 7 n mi) {a b y : Nat} (ha : a < n) (hb : b < n) (hy : y < n) : f_X6_tellAlike σ (nI a) (nI b) (nI y) = some (b32 (tlA mi y a b = true)) := by
  have h8 := hV.2.1
  have dl : ∀ {a b w}, dist mi a b = some w → w ≤ 2304 := fun hw => dN_2304 hV.2.2.1 (Nat.le_refl 8) hw
  unfold f_X6_tellAlike tlA
  rw [fs_ok hK gY6.2.2.1.1 hV hR hP ha hy, fs_ok hK gY6.2.2.1.1 hV hR hP hb hy, pm_ok hK gY6.2.2.1.1 hP ha hy h8, pm_ok hK gY6.2.2.1.1 hP hb hy h8, sb, sb, sb, sb]
  by_cases c : fs mi a y = fs mi b y
  · rw [if_pos (congrArg oI c), decide_eq_true c, Bool.true_and]
    by_cases d : fs mi a y = none
    · rw [if_pos ((oI4 (fun x e => by have := (fs_lt hV e).1; omega)).mpr d), b32_t (by rw [decide_eq_true d]; rfl)]
    · rw [if_neg (fun z => d ((oI4 (fun x e => by have := (fs_lt hV e).1; omega)).mp z)), decide_eq_false d, Bool.false_or]
      by_cases e : dist mi a y = dist mi b y
      · rw [if_neg (fun z => z (congrArg oI e)), b32_t (decide_eq_true e)]
      · rw [if_pos (fun z => e ((oI_eq (fun x h => by have := dl h; omega) (fun x h => by have := dl h; omega)).mp z)), b32_f (by rw [decide_eq_false e]; decide)]
  · rw [if_neg (fun z => c ((fsE hV).mp z)), b32_f (by rw [decide_eq_false c]; simp)]
theorem m_tla (hV : VM n mi) (hM : MM σ 195 mi) (hP : PF σ (dist mi)) {a b y : Nat} (ha : a < n) (hb : b < n) (hy : y < n) : f_X7_areAlike σ (nI a) (nI b) (nI y) = some (b32 (tlA mi y a b = true)) := by
  have h8 := hV.2.1
  have dl : ∀ {a b w}, dist mi a b = some w → w ≤ 2304 := fun hw => dN_2304 hV.2.2.1 (Nat.le_refl 8) hw
  unfold f_X7_areAlike tlA
  rw [nx_ok (Or.inl rfl) hV.2.2.1 hM hP (by omega) (by omega), nx_ok (Or.inl rfl) hV.2.2.1 hM hP (by omega) (by omega), L_8, nI_mul, nI_mul, nI_add, nI_add, l199, ga_n (by omega) (by omega), ga_n (by omega) (by omega), hP a y (by omega) (by omega), hP b y (by omega) (by omega), sb, sb, sb, sb]
  by_cases c : fs mi a y = fs mi b y
  · rw [if_neg (fun z => z (congrArg oI c)), decide_eq_true c, Bool.true_and]
    by_cases d : fs mi a y = none
    · rw [if_pos ((oI4 (fun x e => by have := (fs_lt hV e).1; omega)).mpr d), b32_t (by rw [decide_eq_true d]; rfl)]
    · rw [if_neg (fun z => d ((oI4 (fun x e => by have := (fs_lt hV e).1; omega)).mp z)), decide_eq_false d, Bool.false_or]
      by_cases e : dist mi a y = dist mi b y
      · rw [if_neg (fun z => z (show nI (fN (dist mi a y)) = nI (fN (dist mi b y)) by rw [e])), b32_t (decide_eq_true e)]
      · rw [if_pos (fun z => e ((fN_eq (fun x h => dl h) (fun x h => dl h)).mp z)), b32_f (by rw [decide_eq_false e]; decide)]
  · rw [if_pos (fun z => c ((fsE hV).mp z)), b32_f (by rw [decide_eq_false c]; simp)]
def aw (v : Int32) (mi : Mi) (n y a : Nat) : Nat := cn (fun b => hbB v b && tlA mi y a b) n
theorem c_aw (hK : KC σ) (hV : VM n mi) (hR : RC σ 7 n mi) (hP : PC σ 7 n mi) {a y : Nat} (ha : a < n) (hy : y < n) : f_X6_alikeWith σ v (nI a) (nI y) = some (nI (aw v mi n y a)) := by
  have h8 := hV.2.1
  unfold f_X6_alikeWith
  rw [lp_for0 (b := fun st => f_X6_alikeWith_b1 σ v (nI a) (nI y) st.1 st.2) (s0 := ((0 : Int32), (0 : Int32))) (r := nI (aw v mi n y a)) (fun j => (nI (cn (fun b => hbB v b && tlA mi y a b) j), nI j)) n (by omega) ?_ ?_ rfl]
  · rfl
  · intro j hj
    show f_X6_alikeWith_b1 σ v (nI a) (nI y) (nI _) (nI j) = _
    unfold f_X6_alikeWith_b1 f_X5_towns f_X3_towns
    rw [show σ (6 + 1) 0 = nI n from hR.1, sb, sb, if_neg (nI_ge hj (by omega)), hb2, sb, c_tla hK hV hR hP ha hj hy, sb, nI_1, nI_1]
    dsimp only [cn]
    by_cases b : hbB v j = true
    · rw [b32_t b, if_neg one0]
      by_cases c : tlA mi y a j = true
      · rw [b32_t c, if_neg one0, if_pos (by rw [b, c]; rfl)]
      · rw [b32_f c, if_pos rfl, if_neg (by rw [b, Bool.eq_false_iff.mpr c]; decide)]; rfl
    · rw [b32_f b, if_pos rfl, if_neg (by simp [b])]; rfl
  · show f_X6_alikeWith_b1 σ v (nI a) (nI y) (nI _) (nI n) = _
    unfold f_X6_alikeWith_b1 f_X5_towns f_X3_towns
    rw [show σ (6 + 1) 0 = nI n from hR.1, sb, sb, if_pos (nI_le (Nat.le_refl _) (by omega))]
    rfl
theorem m_aw (hV : VM n mi) (hM : MM σ 195 mi) (hP : PF σ (dist mi)) (hn : σ 186 0 = nI n) {a y : Nat} (ha : a < n) (hy : y < n) : lp (fun st => f_X7_next_b1 v σ (nI y) (nI a) st.1 st.2) FU ((0 : Int32), (0 : Int32)) = some (nI (if hbB v a = true then aw v mi n y a else 0)) := by
  have h8 := hV.2.1
  refine lp_for0 (fun j => (nI (if hbB v a = true then cn (fun b => hbB v b && tlA mi y a b) j else 0), nI j)) n (by omega) ?_ ?_ (by rw [show cn (fun b => hbB v b && tlA mi y a b) 0 = 0 from rfl, ite_self]; rfl)
  · intro j hj
    show f_X7_next_b1 v σ (nI y) (nI a) (nI _) (nI j) = _
    unfold f_X7_next_b1
    rw [show ga (σ 186) (ln 186) (0 : Int32) = some (nI n) by rw [L_0, l186, ga_n (by omega) (by omega), hn], sb, if_neg (nI_ge hj (by omega)), ha2, sb, ha2, sb, m_tla hV hM hP ha hj hy, sb, nI_1, nI_1, L_0, nI_add]
    dsimp only [cn]
    by_cases q : hbB v a = true
    · rw [b32_t q, if_neg (by decide), if_pos q, if_pos q]
      by_cases b : hbB v j = true
      · rw [b32_t b, if_neg (by decide)]
        by_cases c : tlA mi y a j = true
        · rw [b32_t c, if_neg (by decide), if_pos (by rw [b, c]; rfl)]
        · rw [b32_f c, if_pos (by decide), if_neg (by rw [b, Bool.eq_false_iff.mpr c]; decide)]
      · rw [b32_f b, if_pos (by decide), if_neg (by simp [b])]
    · rw [b32_f q, if_pos (by decide), if_neg q, if_neg q]
  · show f_X7_next_b1 v σ (nI y) (nI a) (nI _) (nI n) = _
    unfold f_X7_next_b1
    rw [show ga (σ 186) (ln 186) (0 : Int32) = some (nI n) by rw [L_0, l186, ga_n (by omega) (by omega), hn], sb, if_pos (nI_le (Nat.le_refl _) (by omega))]
    rfl
def mA (v : Int32) (mi : Mi) (n y : Nat) : Nat → Nat
  | 0 => 0
  | k + 1 => if hbB v k = true then (if mA v mi n y k < aw v mi n y k then aw v mi n y k else mA v mi n y k) else mA v mi n y k
theorem mA_le {y : Nat} : ∀ k, mA v mi n y k ≤ n
  | 0 => Nat.zero_le _
  | k + 1 => by
    have i := mA_le (y := y) k
    have j : aw v mi n y k ≤ n := cn_le _
    unfold mA
    split
    · split
      · exact j
      · exact i
    · exact i
theorem c_mA (hK : KC σ) (hV : VM n mi) (hR : RC σ 7 n mi) (hP : PC σ 7 n mi) {y : Nat} (hy : y < n) : f_X6_mostAlike σ v (nI y) = some (nI (mA v mi n y n)) := by
  have h8 := hV.2.1
  unfold f_X6_mostAlike
  rw [lp_for0 (b := fun st => f_X6_mostAlike_b1 σ v (nI y) st.1 st.2) (s0 := ((0 : Int32), (0 : Int32))) (r := nI (mA v mi n y n)) (fun j => (nI (mA v mi n y j), nI j)) n (by omega) ?_ ?_ rfl]
  · rfl
  · intro j hj
    have i := mA_le (v := v) (mi := mi) (n := n) (y := y) j
    have i2 : aw v mi n y j ≤ n := cn_le _
    show f_X6_mostAlike_b1 σ v (nI y) (nI _) (nI j) = _
    unfold f_X6_mostAlike_b1 f_X5_towns f_X3_towns
    rw [show σ (6 + 1) 0 = nI n from hR.1, sb, sb, if_neg (nI_ge hj (by omega)), hb2, sb, c_aw hK hV hR hP hj hy, sb, nI_1]
    dsimp only [mA]
    by_cases b : hbB v j = true
    · rw [b32_t b, if_neg one0, if_pos b]
      by_cases c : mA v mi n y j < aw v mi n y j
      · rw [if_pos (nI_lt c (by omega)), if_pos c]
      · rw [if_neg (nI_nlt (by omega) (by omega)), if_neg c]
    · rw [b32_f b, if_pos rfl, if_neg b]
  · show f_X6_mostAlike_b1 σ v (nI y) (nI _) (nI n) = _
    unfold f_X6_mostAlike_b1 f_X5_towns f_X3_towns
    rw [show σ (6 + 1) 0 = nI n from hR.1, sb, sb, if_pos (nI_le (Nat.le_refl _) (by omega))]
theorem m_mA (hV : VM n mi) (hM : MM σ 195 mi) (hP : PF σ (dist mi)) (hn : σ 186 0 = nI n) {y : Nat} (hy : y < n) : lp (fun st => f_X7_next_b2 v σ (nI y) st.1 st.2) FU ((0 : Int32), (0 : Int32)) = some (nI (mA v mi n y n)) := by
  have h8 := hV.2.1
  refine lp_for0 (fun j => (nI (mA v mi n y j), nI j)) n (by omega) ?_ ?_ rfl
  · intro j hj
    have i := mA_le (v := v) (mi := mi) (n := n) (y := y) j
    have i2 : aw v mi n y j ≤ n := cn_le _
    show f_X7_next_b2 v σ (nI y) (nI _) (nI j) = _
    unfold f_X7_next_b2
    rw [show ga (σ 186) (ln 186) (0 : Int32) = some (nI n) by rw [L_0, l186, ga_n (by omega) (by omega), hn], sb, if_neg (nI_ge hj (by omega)), m_aw hV hM hP hn hj hy, sb]
    unfold f_X7_next_k1
    rw [nI_1]
    dsimp only [mA]
    by_cases b : hbB v j = true
    · rw [if_pos b, if_pos b]
      by_cases c : mA v mi n y j < aw v mi n y j
      · rw [if_neg (nI_ge c (by omega)), if_pos c]
      · rw [if_pos (nI_le (by omega) (by omega)), if_neg c]
    · rw [if_neg b, if_neg b, if_pos (nI_le (Nat.zero_le _) (by omega))]
  · show f_X7_next_b2 v σ (nI y) (nI _) (nI n) = _
    unfold f_X7_next_b2
    rw [show ga (σ 186) (ln 186) (0 : Int32) = some (nI n) by rw [L_0, l186, ga_n (by omega) (by omega), hn], sb, if_pos (nI_le (Nat.le_refl _) (by omega))]
def nB (M : Nat → Nat) : Nat → Option (Nat × Nat)
  | 0 => none
  | k + 1 => match nB M k with
    | none => some (k, M k)
    | some r => if r.2 ≤ M k then some r else some (k, M k)
theorem nB_lt {M : Nat → Nat} (hM : ∀ t, M t ≤ 8) : ∀ {k : Nat} {r : Nat × Nat}, nB M k = some r → r.1 < k ∧ r.2 ≤ 8
  | 0, r, e => by cases e
  | k + 1, r, e => by
    unfold nB at e
    cases o : nB M k with
    | none => simp only [o] at e; cases e; exact ⟨Nat.lt_succ_self k, hM k⟩
    | some r' =>
      simp only [o] at e
      have i := nB_lt hM o
      by_cases c : r'.2 ≤ M k
      · rw [if_pos c] at e; cases e; exact ⟨by omega, i.2⟩
      · rw [if_neg c] at e; cases e; exact ⟨Nat.lt_succ_self k, hM k⟩
theorem nx_step {M : Nat → Nat} (hM : ∀ t, M t ≤ 8) {j : Nat} (hj : j < 8) : (if o1 (nB M j) = (-4 : Int32) then some (.inl (nI j, nI (M j), nI (j + 1))) else if o2 0 (nB M j) ≤ nI (M j) then some (.inl (o1 (nB M j), o2 0 (nB M j), nI (j + 1))) else some (.inl (nI j, nI (M j), nI (j + 1)))) = (some (.inl (o1 (nB M (j + 1)), o2 0 (nB M (j + 1)), nI (j + 1))) : Option ((Int32 × Int32 × Int32) ⊕ Int32)) := by
  have m8 := hM j
  cases o : nB M j with
  | none =>
    have u : nB M (j + 1) = some (j, M j) := by show (match nB M j with | none => _ | some r => _) = _; rw [o]
    rw [u, if_pos (show o1 none = -4 from rfl)]
    rfl
  | some r =>
    have u : nB M (j + 1) = if r.2 ≤ M j then some r else some (j, M j) := by show (match nB M j with | none => _ | some r => _) = _; rw [o]
    have i := nB_lt hM o
    rw [if_neg (show ¬ o1 (some r) = -4 from nI_ne4 (by omega)), show o2 0 (some r) = nI r.2 from rfl]
    by_cases c : r.2 ≤ M j
    · rw [if_pos c] at u
      rw [if_pos (nI_le c (by omega)), u]
      rfl
    · rw [if_neg c] at u
      rw [if_neg (nI_ge (by omega) (by omega)), u]
      rfl
theorem eq_next {N : Nat} (h : Rel N σ) (hN : N < 512) : ∃ r σ2, f_X6_next σ = some r ∧ f_X7_next σ = some (r, σ2) ∧ Rel (N + 1) σ2 := by
  have h0 := h
  obtain ⟨hK, hT, n, np, nw, ki, go, A, m, S, k, K, tl, tf, sl, sg, hR⟩ := h
  obtain ⟨⟨n1, n2, n3, n4⟩, v1, v2, v3, ⟨c1, c2, c3⟩, ⟨m1, m2, m3, m4, m5, m6, m7⟩, ⟨t1, t2, t3, t4⟩, u1, u2, u3, u4⟩ := hR
  have hV := v1.1.1
  have h8 := hV.2.1
  obtain ⟨σ2, g1, g2, g3⟩ := m_stood v1.1 m1 (MY_c m3) t1 t2 t3 t4
  have g0 := c_stood hK v1.1 c1 t1 t3 t4
  have R : Rel (N + 1) σ2 := Rel_fr h0 (by omega) hN (KC_m hK (fun i hi => g2 i (by omega))) (fun i a b c d => g2 i c)
  have M2 : MM σ2 195 (Sn.mi A) := (MC_fr (MY_c m3) (g2 _ (by omega))).1
  have S2 : σ2 186 0 = nI n := by rw [g2 _ (by omega)]; exact m1.1
  generalize gb32 (fun x => decide (lw (tBad (Sn.mi A) tf x) 0 tl = none)) n = v at g0 g1
  have M8 : ∀ y, mA v (Sn.mi A) n y n ≤ 8 := fun y => Nat.le_trans (mA_le n) h8
  by_cases c : v = 0
  · refine ⟨-4, σ2, ?_, ?_, R⟩
    · unfold f_X6_next
      rw [g0, sb, if_neg (fun z => z c)]
    · unfold f_X7_next
      rw [g1, sb]
      dsimp only
      rw [show FU = 4095 + 1 from rfl, lp_end (r := (-4 : Int32)) (by
        show f_X7_next_b3 v σ2 (-4) 0 0 = _
        unfold f_X7_next_b3
        rw [show ga (σ2 186) (ln 186) (0 : Int32) = some (nI n) by rw [L_0, l186, ga_n (by omega) (by omega), S2], sb, if_pos c, ite_self]), sb]
      rfl
  · refine ⟨o1 (nB (fun y => mA v (Sn.mi A) n y n) n), σ2, ?_, ?_, R⟩
    · unfold f_X6_next
      rw [g0, sb, if_pos c]
      rw [lp_for0 (b := fun st => f_X6_next_b1 σ v st.1 st.2.1 st.2.2) (s0 := ((-4 : Int32), (0 : Int32), (0 : Int32))) (r := o1 (nB (fun y => mA v (Sn.mi A) n y n) n)) (fun j => (o1 (nB (fun y => mA v (Sn.mi A) n y n) j), o2 0 (nB (fun y => mA v (Sn.mi A) n y n) j), nI j)) n (by omega) ?_ ?_ rfl]
      · rfl
      · intro j hj
        show f_X6_next_b1 σ v (o1 _) (o2 0 _) (nI j) = _
        unfold f_X6_next_b1 f_X5_towns f_X3_towns
        rw [show σ (6 + 1) 0 = nI n from c1.2.1.1, sb, sb, if_neg (nI_ge hj (by omega)), c_mA hK hV c1.2.1 c1.2.2.1 hj, sb, nI_1]
        exact nx_step M8 (by omega)
      · show f_X6_next_b1 σ v (o1 _) (o2 0 _) (nI n) = _
        unfold f_X6_next_b1 f_X5_towns f_X3_towns
        rw [show σ (6 + 1) 0 = nI n from c1.2.1.1, sb, sb, if_pos (nI_le (Nat.le_refl _) (by omega))]
    · unfold f_X7_next
      rw [g1, sb]
      dsimp only
      rw [lp_for0 (b := fun st => f_X7_next_b3 v σ2 st.1 st.2.1 st.2.2) (s0 := ((-4 : Int32), (0 : Int32), (0 : Int32))) (r := o1 (nB (fun y => mA v (Sn.mi A) n y n) n)) (fun j => (o1 (nB (fun y => mA v (Sn.mi A) n y n) j), o2 0 (nB (fun y => mA v (Sn.mi A) n y n) j), nI j)) n (by omega) ?_ ?_ rfl]
      · rfl
      · intro j hj
        show f_X7_next_b3 v σ2 (o1 _) (o2 0 _) (nI j) = _
        unfold f_X7_next_b3
        rw [show ga (σ2 186) (ln 186) (0 : Int32) = some (nI n) by rw [L_0, l186, ga_n (by omega) (by omega), S2], sb, if_neg (nI_ge hj (by omega)), if_neg c, m_mA hV M2 g3 S2 hj, sb]
        unfold f_X7_next_k2
        rw [nI_1]
        exact nx_step M8 (by omega)
      · show f_X7_next_b3 v σ2 (o1 _) (o2 0 _) (nI n) = _
        unfold f_X7_next_b3
        rw [show ga (σ2 186) (ln 186) (0 : Int32) = some (nI n) by rw [L_0, l186, ga_n (by omega) (by omega), S2], sb, if_pos (nI_le (Nat.le_refl _) (by omega))]
end NX
