/-! Part 25: the fewest towns with posts. -/
theorem ite_iff {p q : Prop} [Decidable p] [Decidable q] (h : p ↔ q) {α : Type} {a b : α} : (if p then a else b) = if q then a else b := by
  by_cases c : p
  · rw [if_pos c, if_pos (h.mp c)]
  · rw [if_neg c, if_neg (fun z => c (h.mpr z))]
section CV
variable {σ : Sg} {n : Nat} {mi : Mi} {np nw ho ye : Nat} {ki : Nat → Nat} {to : Nat → Option Nat} {ag : Nat → Nat} {ar am : Nat → Nat → Option Nat} {wa go : Nat → Nat}
def CVI (τ : Sg) (n : Nat) (mi : Mi) (nw ho ye : Nat) (wa go : Nat → Nat) (s t : Nat) : Prop := ∃ (np' : Nat) (ki' : Nat → Nat) (to' : Nat → Option Nat) (ag' : Nat → Nat) (ar' am' : Nat → Nat → Option Nat), np' ≤ t ∧ VY n mi np' nw ho ye 0 ki' to' ag' ar' am' wa go ∧ YC τ 20 n mi np' nw ho ye 0 ki' to' ag' ar' am' wa go ∧ (∀ x, t ≤ x → loP to' x np' = none) ∧ ∀ h x g, x < n → g < n → st1 mi n np' h 0 ki' to' ag' ar' x g = gt mi x (if x < t ∧ s.testBit x = true then fs mi x g else nrU mi x n)
theorem cv_step {τ : Sg} {s t : Nat} (hK : KC τ) (ht : t < n) (hI : CVI τ n mi nw ho ye wa go s t) : if s.testBit t = true then ∃ τ', f_X5_standPlain τ 20 (nI t) = some τ' ∧ KC τ' ∧ (∀ i, (i < 20 ∨ 33 < i) → τ' i = τ i) ∧ CVI τ' n mi nw ho ye wa go s (t + 1) else CVI τ n mi nw ho ye wa go s (t + 1) := by
  obtain ⟨np', ki', to', ag', ar', am', h1, hV, hY, h4, h5⟩ := hI
  have h8 := hV.n8
  by_cases b : s.testBit t = true
  · rw [if_pos b]
    obtain ⟨τ', e, K1, f1, Y1⟩ := sp_ok hK gY20 hV.1 hY (by omega) ht
    refine ⟨τ', e, K1, f1, np' + 1, _, _, _, _, _, by omega, VY_sp hV (by omega) ht, Y1, fun x hx => ?_, fun h x g hx hg => ?_⟩
    · rw [loP_sp, h4 x (by omega)]
      show (if x = t then some np' else none) = none
      rw [if_neg (by omega)]
    · rw [st1_sp (by simp)]
      by_cases e : x = t
      · subst e
        rw [h4 x (Nat.le_refl _), if_pos rfl]
        show gt mi x (pr mi n x g) = _
        rw [if_pos (show x < x + 1 ∧ s.testBit x = true from ⟨by omega, b⟩), pr_n hg]
      · have := h5 h x g hx hg
        rw [ite_iff (p := x < t + 1 ∧ s.testBit x = true) (q := x < t ∧ s.testBit x = true) ⟨fun z => ⟨by omega, z.2⟩, fun z => ⟨by omega, z.2⟩⟩, ← this]
        unfold st1
        cases loP to' x np' with
        | some p => rfl
        | none => show gt mi x (if x = t then pr mi n x g else nrU mi x n) = _; rw [if_neg e]
  · rw [if_neg b]
    refine ⟨np', ki', to', ag', ar', am', by omega, hV, hY, fun x hx => h4 x (by omega), fun h x g hx hg => ?_⟩
    have e0 : (x < t + 1 ∧ s.testBit x = true) ↔ (x < t ∧ s.testBit x = true) := by
      refine ⟨fun z => ⟨?_, z.2⟩, fun z => ⟨by omega, z.2⟩⟩
      have := z.1
      by_cases e : x = t
      · subst e; exact absurd z.2 b
      · omega
    rw [h5 h x g hx hg, ite_iff e0]
theorem ic_lp {τ2 : Sg} (h : YC σ 6 n mi np nw ho ye 0 ki to ag ar am wa go) (h8 : n ≤ 8) {s : Nat} (hs : s < 2 ^ 31) (K2 : KC τ2) (F2 : ∀ i, (i < 20 ∨ 33 < i) → τ2 i = σ i) (I0 : CVI τ2 n mi nw ho ye wa go s 0) : ∃ τ, lp (fun st => f_X6_isCover_b1 (nI s) st.1 st.2) FU ((0 : Int32), τ2) = some τ ∧ (KC τ ∧ (∀ i, (i < 20 ∨ 33 < i) → τ i = σ i) ∧ CVI τ n mi nw ho ye wa go s n) := by
  exact lp_inv (b := fun st => f_X6_isCover_b1 (nI s) st.1 st.2) (s0 := ((0 : Int32), τ2)) (Post := fun (τ : Sg) => KC τ ∧ (∀ i, (i < 20 ∨ 33 < i) → τ i = σ i) ∧ CVI τ n mi nw ho ye wa go s n) (fun t (st : Int32 × Sg) => st.1 = nI t ∧ KC st.2 ∧ (∀ i, (i < 20 ∨ 33 < i) → st.2 i = σ i) ∧ CVI st.2 n mi nw ho ye wa go s t) n (by omega) ⟨rfl, K2, F2, I0⟩ (by
    rintro t ⟨x, τ⟩ ht ⟨e, Kt, Ft, It⟩
    dsimp only at e Kt Ft It
    subst e
    have Yt := YC_fr h (fun i a b => Ft i (by omega))
    show ∃ s', f_X6_isCover_b1 (nI s) (nI t) τ = _ ∧ _
    unfold f_X6_isCover_b1 f_X5_towns f_X3_towns
    rw [show τ (6 + 1) 0 = nI n from Yt.2.1.1]
    dsimp only [sb]
    rw [if_neg (nI_ge ht (by omega)), hb_ok hs (by omega)]
    dsimp only [sb]
    have st := cv_step Kt ht It
    by_cases b : s.testBit t = true
    · rw [if_pos b] at st
      obtain ⟨τ', g1, g2, g3, g4⟩ := st
      rw [if_pos b, if_neg one0, g1, nI_1]
      exact ⟨_, rfl, rfl, g2, fun i hi => (g3 i hi).trans (Ft i hi), g4⟩
    · rw [if_neg b] at st
      rw [if_neg b, if_pos rfl, nI_1]
      exact ⟨_, rfl, rfl, Kt, Ft, st⟩) (by
    rintro ⟨x, τ⟩ ⟨e, Kt, Ft, It⟩
    dsimp only at e Kt Ft It
    subst e
    have Yt := YC_fr h (fun i a b => Ft i (by omega))
    show ∃ s', f_X6_isCover_b1 (nI s) (nI n) τ = _ ∧ _
    unfold f_X6_isCover_b1 f_X5_towns f_X3_towns
    rw [show τ (6 + 1) 0 = nI n from Yt.2.1.1]
    dsimp only [sb]
    rw [if_pos (nI_le (Nat.le_refl _) (by omega))]
    exact ⟨_, rfl, Kt, Ft, It⟩)
theorem ic_st {np' : Nat} {ki' : Nat → Nat} {to' : Nat → Option Nat} {ag' : Nat → Nat} {ar' : Nat → Nat → Option Nat} {s : Nat} (S3 : ∀ h x g, x < n → g < n → st1 mi n np' h 0 ki' to' ag' ar' x g = gt mi x (if x < n ∧ s.testBit x = true then fs mi x g else nrU mi x n)) : ∀ h x g, x < n → g < n → st1 mi n np' h 0 ki' to' ag' ar' x g = stX mi n np h 0 s 1 ki to ag ar x g := fun h x g hx hg => by
  rw [S3 h x g hx hg]
  unfold stX
  rw [if_neg (show ¬ (1 : Nat) = 0 by decide), ite_iff (p := x < n ∧ s.testBit x = true) (q := s.testBit x = true) ⟨fun z => z.2, fun z => ⟨hx, z⟩⟩]
theorem b32_n {a b : Nat} (ha : a < 2 ^ 31) (hb : b < 2 ^ 31) {τ : Sg} : (if ¬ nI a = nI b then some ((0 : Int32), τ) else some ((1 : Int32), τ)) = some (b32 (a = b), τ) := by
  by_cases c : a = b
  · rw [b32_t c, if_neg (fun z => z (congrArg nI c))]
  · rw [b32_f c, if_pos (fun z => c ((nI_eq ha hb).mp z))]
theorem ic_end {τ3 : Sg} {s : Nat} {np' : Nat} {ki' : Nat → Nat} {to' : Nat → Option Nat} {ag' : Nat → Nat} {ar' am' : Nat → Nat → Option Nat} (hV : VY n mi np nw ho ye 0 ki to ag ar am wa go) (K3 : KC τ3) (V3 : VY n mi np' nw ho ye 0 ki' to' ag' ar' am' wa go) (Y3 : YC τ3 20 n mi np' nw ho ye 0 ki' to' ag' ar' am' wa go) (S3 : ∀ h x g, x < n → g < n → st1 mi n np' h 0 ki' to' ag' ar' x g = gt mi x (if x < n ∧ s.testBit x = true then fs mi x g else nrU mi x n)) (hh : ho + 40 ≤ 3000) : ∃ τ4, f_X6_isCover_k1 τ3 = some (b32 (cX mi n np nw s 1 ki to ag ar go ho wa = nw), τ4) ∧ KC τ4 ∧ ∀ i, (i < 20 ∨ 33 < i) → τ4 i = τ3 i := by
  obtain ⟨τ4, e4, K4, f4, Y4⟩ := ph_ok K3 gY20 V3 Y3 (k := 40) (by omega) hh
  have h5 := hV.nw5
  have cl := cX_le (mi := mi) (n := n) (np := np) (ex := s) (al := 1) (ki := ki) (to := to) (ag := ag) (ar := ar) (go := go) (ho := ho) (wa := wa) h5
  have e5 : f_X5_comeCount τ4 20 = some (nI (cX mi n np nw s 1 ki to ag ar go ho wa)) := by
    unfold cX
    rw [← hsK_X (ex := s) (al := 1) hV (ic_st S3) 40 hh]
    exact cc_ok K4 gY20 (hsK_lt V3 40 hh) Y4
  refine ⟨τ4, ?_, K4, fun i hi => f4 i (by omega)⟩
  unfold f_X6_isCover_k1 f_X5_walkers
  rw [L_40, e4]
  dsimp only [sb]
  rw [e5]
  dsimp only [sb]
  rw [Y4.1.2.1]
  exact b32_n (by omega) (by omega)
theorem ic_ok (hK : KC σ) (hV : VY n mi np nw ho ye 0 ki to ag ar am wa go) (hnp : np ≤ 6) (hh : ho + 40 ≤ 3000) (h : YC σ 6 n mi np nw ho ye 0 ki to ag ar am wa go) {s : Nat} (hs : s < 2 ^ 31) : ∃ σ', f_X6_isCover σ (nI s) = some (b32 (cX mi n np nw s 1 ki to ag ar go ho wa = nw), σ') ∧ KC σ' ∧ ∀ i, (i < 20 ∨ 33 < i) → σ' i = σ i := by
  have h8 := hV.n8
  have h5 := hV.nw5
  obtain ⟨τ1, e1, K1, f1, Y1⟩ := yb_ok hK gY20 gY6 (by omega) h hV.np8 hV.nw5 hV.n8
  obtain ⟨τ2, e2, K2, f2, Y2⟩ := dp_ok K1 gY20 Y1
  have F2 : ∀ i, (i < 20 ∨ 33 < i) → τ2 i = σ i := fun i hi => (f2 i (by omega)).trans (f1 i (by omega))
  have I0 : CVI τ2 n mi nw ho ye wa go s 0 := ⟨0, ki, to, ag, ar, am, Nat.le_refl 0, ⟨hV.1, ⟨by omega, hV.nw5, hV.hoL, hV.yeL, hV.qL⟩, hV.2.2⟩, Y2, fun _ _ => rfl, fun h x g hx hg => by
    rw [if_neg (fun z => by omega)]; rfl⟩
  obtain ⟨τ3, e3, K3, F3, I3⟩ := ic_lp h hV.n8 hs K2 F2 I0
  obtain ⟨np', ki', to', ag', ar', am', q1, V3, Y3, q2, S3⟩ := I3
  obtain ⟨τ4, e4, K4, f4⟩ := ic_end (np := np) (ki := ki) (to := to) (ag := ag) (ar := ar) hV K3 V3 Y3 S3 hh
  refine ⟨τ4, ?_, K4, fun i hi => (f4 i hi).trans (F3 i hi)⟩
  unfold f_X6_isCover
  rw [e1, sb, e2, sb, e3, sb]
  exact e4
theorem mcv_ok (hV : VY n mi np nw ho ye 0 ki to ag ar am wa go) (hnp : np ≤ 6) (hS : ST σ n np nw ki go) (hF : FL σ 0 0 0) (h : MC σ 195 mi np nw ho ye to ag ar am wa) (hh : ho + 40 ≤ 3000) {ex : Nat} (hex : ex < 256) : ∃ σ1 σ2, f_X7_take σ = some σ1 ∧ f_X7_comeBy (sf (sf σ1 184 22 (nI ex)) 184 23 1) = some (nI (cX mi n np nw ex 1 ki to ag ar go ho wa), σ2) ∧ ga (σ2 188) (ln 188) 0 = some (nI nw) ∧ ∀ i, i ≠ 198 → i ≠ 199 → i ≠ 200 → sf (sf σ2 184 22 0) 184 23 0 i = σ i := by
  obtain ⟨σ1, e1, f1, M1⟩ := take_ok h hnp hV.nw5
  have F1 : FL (sf (sf σ1 184 22 (nI ex)) 184 23 1) 0 ex 1 := by
    unfold FL
    rw [sf_row, upd_ne (by omega), upd_ne (by omega), upd_self, sf_row, upd_ne (by omega), upd_self, f1 _ (by omega)]
    exact ⟨hF.1, rfl, rfl⟩
  have S1 : ST (sf (sf σ1 184 22 (nI ex)) 184 23 1) n np nw ki go := ST_fr hS (fun i a b => (sf_ne (by omega)).trans ((sf_ne (by omega)).trans (f1 i (by omega))))
  obtain ⟨σ2, e2, f2, M2⟩ := cb_ok hV hnp S1 F1 hex (by omega) (MC_fr M1 ((sf_ne (by omega)).trans (sf_ne (by omega)))) hh
  refine ⟨σ1, σ2, e1, e2, ?_, fun i a b c => ?_⟩
  · rw [L_0, l188, ga_n (by omega) (by omega), f2 _ (by omega) (by omega) (by omega), S1.2.2.1]
  · by_cases e : i = 184
    · subst e
      rw [sf_row, sf_row, f2 _ a b c, sf_row, sf_row, f1 _ a]
      funext j
      by_cases e3 : j = 23
      · subst e3; rw [upd_self]; exact hF.2.2.symm
      · rw [upd_ne e3]
        by_cases e4 : j = 22
        · subst e4; rw [upd_self]; exact hF.2.1.symm
        · rw [upd_ne e4, upd_ne e3, upd_ne e4]
    · rw [sf_ne e, sf_ne e, f2 _ a b c, sf_ne e, sf_ne e, f1 _ a]
def cvB (P : Nat → Bool) : Nat → Option Nat
  | 0 => none
  | k + 1 => match cvB P k with
    | none => if P k = true then some k else none
    | some b => if pc b ≤ pc k then some b else if P k = true then some k else some b
theorem cvB_lt {P : Nat → Bool} : ∀ {k b : Nat}, cvB P k = some b → b < k
  | 0, b, e => by cases e
  | k + 1, b, e => by
    unfold cvB at e
    cases o : cvB P k with
    | none =>
      simp only [o] at e
      by_cases c : P k = true
      · rw [if_pos c] at e; cases e; omega
      · rw [if_neg c] at e; cases e
    | some b' =>
      have := cvB_lt o
      simp only [o] at e
      by_cases c : pc b' ≤ pc k
      · rw [if_pos c] at e; cases e; omega
      · rw [if_neg c] at e
        by_cases c : P k = true
        · rw [if_pos c] at e; cases e; omega
        · rw [if_neg c] at e; cases e; omega
theorem p256 {n : Nat} (h : n ≤ 8) : 2 ^ n ≤ 256 := Nat.le_trans (Nat.pow_le_pow_right (by omega) h) (by decide)
theorem c_cover (hK : KC σ) (hV : VY n mi np nw ho ye 0 ki to ag ar am wa go) (hnp : np ≤ 6) (hh : ho + 40 ≤ 3000) (h : YC σ 6 n mi np nw ho ye 0 ki to ag ar am wa go) {P : Nat → Bool} (hP : ∀ s, P s = decide (cX mi n np nw s 1 ki to ag ar go ho wa = nw)) : ∃ r, lp (fun st => f_X6_cover_b1 (nI n) st.1 st.2.1 st.2.2) FU ((-4 : Int32), (0 : Int32), σ) = some r ∧ (r.1 = oI (cvB P (2 ^ n)) ∧ KC r.2 ∧ ∀ i, (i < 20 ∨ 33 < i) → r.2 i = σ i) := by
  have h8 := hV.n8
  have p8 := p256 h8
  refine lp_inv (fun j (s : Int32 × Int32 × Sg) => s.1 = oI (cvB P j) ∧ s.2.1 = nI j ∧ KC s.2.2 ∧ ∀ i, (i < 20 ∨ 33 < i) → s.2.2 i = σ i) (2 ^ n) (by omega) ⟨rfl, rfl, hK, fun _ _ => rfl⟩ ?_ ?_
  · rintro j ⟨x1, x2, τ⟩ hj ⟨e1, e2, Kt, ft⟩
    dsimp only at e1 e2 Kt ft
    subst e1 e2
    have Yt := YC_fr h (fun i a b => ft i (by omega))
    obtain ⟨τ', g1, g2, g3⟩ := ic_ok Kt hV hnp hh Yt (s := j) (by omega)
    have F : ∀ i, (i < 20 ∨ 33 < i) → τ' i = σ i := fun i hi => (g3 i hi).trans (ft i hi)
    show ∃ s', f_X6_cover_b1 (nI n) _ (nI j) τ = _ ∧ _
    unfold f_X6_cover_b1
    rw [shl_n (by omega), if_neg (nI_ge hj (by omega)), nI_1, g1]
    cases o : cvB P j with
    | none =>
      rw [if_pos oI_n]
      dsimp only [sb]
      have u : cvB P (j + 1) = if P j = true then some j else none := by show (match cvB P j with | none => _ | some b => _) = _; rw [o]
      by_cases c : cX mi n np nw j 1 ki to ag ar go ho wa = nw
      · rw [if_pos (by rw [hP]; exact decide_eq_true c)] at u
        rw [b32_t c, if_neg one0]
        exact ⟨_, rfl, by rw [u]; rfl, rfl, g2, F⟩
      · rw [if_neg (by rw [hP]; simp [c])] at u
        rw [b32_f c, if_pos rfl]
        exact ⟨_, rfl, by rw [u], rfl, g2, F⟩
    | some b =>
      have hb := cvB_lt o
      have u : cvB P (j + 1) = if pc b ≤ pc j then some b else if P j = true then some j else some b := by show (match cvB P j with | none => _ | some b => _) = _; rw [o]
      have q1 := pc_le b
      have q2 := pc_le j
      rw [if_neg (oI_ne (by omega)), show oI (some b) = nI b from rfl, bc_ok (by omega), bc_ok (by omega)]
      dsimp only [sb]
      by_cases c0 : pc b ≤ pc j
      · rw [if_pos c0] at u
        rw [if_pos (nI_le c0 (by omega))]
        exact ⟨_, rfl, by rw [u]; rfl, rfl, Kt, ft⟩
      · rw [if_neg c0] at u
        rw [if_neg (nI_ge (by omega) (by omega))]
        by_cases c : cX mi n np nw j 1 ki to ag ar go ho wa = nw
        · rw [if_pos (by rw [hP]; exact decide_eq_true c)] at u
          rw [b32_t c, if_neg one0]
          exact ⟨_, rfl, by rw [u]; rfl, rfl, g2, F⟩
        · rw [if_neg (by rw [hP]; simp [c])] at u
          rw [b32_f c, if_pos rfl]
          exact ⟨_, rfl, by rw [u]; rfl, rfl, g2, F⟩
  · rintro ⟨x1, x2, τ⟩ ⟨e1, e2, Kt, ft⟩
    dsimp only at e1 e2 Kt ft
    subst e1 e2
    show ∃ s', f_X6_cover_b1 (nI n) _ (nI (2 ^ n)) τ = _ ∧ _
    unfold f_X6_cover_b1
    rw [shl_n (by omega), if_pos (nI_le (Nat.le_refl _) (by omega))]
    exact ⟨_, rfl, rfl, Kt, ft⟩
theorem m_cover (hV : VY n mi np nw ho ye 0 ki to ag ar am wa go) (hnp : np ≤ 6) (hh : ho + 40 ≤ 3000) (hS : ST σ n np nw ki go) (hF : FL σ 0 0 0) (h : MC σ 195 mi np nw ho ye to ag ar am wa) {P : Nat → Bool} (hP : ∀ s, P s = decide (cX mi n np nw s 1 ki to ag ar go ho wa = nw)) : ∃ r, lp (fun st => f_X7_cover_b1 st.1 st.2.1 st.2.2) FU ((-4 : Int32), (0 : Int32), σ) = some r ∧ (r.1 = oI (cvB P (2 ^ n)) ∧ ∀ i, i ≠ 198 → i ≠ 199 → i ≠ 200 → r.2 i = σ i) := by
  have h8 := hV.n8
  have h5 := hV.nw5
  have p8 := p256 h8
  refine lp_inv (fun j (s : Int32 × Int32 × Sg) => s.1 = oI (cvB P j) ∧ s.2.1 = nI j ∧ ∀ i, i ≠ 198 → i ≠ 199 → i ≠ 200 → s.2.2 i = σ i) (2 ^ n) (by omega) ⟨rfl, rfl, fun _ _ _ _ => rfl⟩ ?_ ?_
  · rintro j ⟨x1, x2, τ⟩ hj ⟨e1, e2, ft⟩
    dsimp only at e1 e2 ft
    subst e1 e2
    have St := ST_fr hS (fun i a b => ft i (by omega) (by omega) (by omega))
    have Ft := FL_fr hF (ft _ (by omega) (by omega) (by omega))
    have Mt := MC_fr h (ft _ (by omega) (by omega) (by omega))
    obtain ⟨τ1, τ2, g1, g2, g4, g3⟩ := mcv_ok hV hnp St Ft Mt hh (ex := j) (by omega)
    have F : ∀ i, i ≠ 198 → i ≠ 199 → i ≠ 200 → sf (sf τ2 184 22 0) 184 23 0 i = σ i := fun i a b c => (g3 i a b c).trans (ft i a b c)
    have cl := cX_le (mi := mi) (n := n) (np := np) (ex := j) (al := 1) (ki := ki) (to := to) (ag := ag) (ar := ar) (go := go) (ho := ho) (wa := wa) h5
    show ∃ s', f_X7_cover_b1 _ (nI j) τ = _ ∧ _
    unfold f_X7_cover_b1
    rw [show ga (τ 186) (ln 186) (0 : Int32) = some (nI n) by rw [L_0, l186, ga_n (by omega) (by omega), St.1]]
    dsimp only [sb]
    rw [shl_n (by omega), if_neg (nI_ge hj (by omega)), nI_1, g1]
    dsimp only [sb]
    rw [g2]
    dsimp only [sb]
    rw [g4]
    cases o : cvB P j with
    | none =>
      rw [if_pos oI_n]
      dsimp only [sb]
      have u : cvB P (j + 1) = if P j = true then some j else none := by show (match cvB P j with | none => _ | some b => _) = _; rw [o]
      by_cases c : cX mi n np nw j 1 ki to ag ar go ho wa = nw
      · rw [if_pos (by rw [hP]; exact decide_eq_true c)] at u
        rw [if_neg (fun z => z (congrArg nI c))]
        exact ⟨_, rfl, by rw [u]; rfl, rfl, F⟩
      · rw [if_neg (by rw [hP]; simp [c])] at u
        rw [if_pos (fun z => c ((nI_eq (by omega) (by omega)).mp z))]
        exact ⟨_, rfl, by rw [u], rfl, F⟩
    | some b =>
      have hb := cvB_lt o
      have u : cvB P (j + 1) = if pc b ≤ pc j then some b else if P j = true then some j else some b := by show (match cvB P j with | none => _ | some b => _) = _; rw [o]
      have q1 := pc_le b
      have q2 := pc_le j
      rw [if_neg (oI_ne (by omega)), show oI (some b) = nI b from rfl, bo_ok (by omega), bo_ok (by omega)]
      dsimp only [sb]
      by_cases c0 : pc b ≤ pc j
      · rw [if_pos c0] at u
        rw [if_pos (nI_le c0 (by omega))]
        exact ⟨_, rfl, by rw [u]; rfl, rfl, ft⟩
      · rw [if_neg c0] at u
        rw [if_neg (nI_ge (by omega) (by omega))]
        by_cases c : cX mi n np nw j 1 ki to ag ar go ho wa = nw
        · rw [if_pos (by rw [hP]; exact decide_eq_true c)] at u
          rw [if_neg (fun z => z (congrArg nI c))]
          exact ⟨_, rfl, by rw [u]; rfl, rfl, F⟩
        · rw [if_neg (by rw [hP]; simp [c])] at u
          rw [if_pos (fun z => c ((nI_eq (by omega) (by omega)).mp z))]
          exact ⟨_, rfl, by rw [u]; rfl, rfl, F⟩
  · rintro ⟨x1, x2, τ⟩ ⟨e1, e2, ft⟩
    dsimp only at e1 e2 ft
    subst e1 e2
    have St := ST_fr hS (fun i a b => ft i (by omega) (by omega) (by omega))
    show ∃ s', f_X7_cover_b1 _ (nI (2 ^ n)) τ = _ ∧ _
    unfold f_X7_cover_b1
    rw [show ga (τ 186) (ln 186) (0 : Int32) = some (nI n) by rw [L_0, l186, ga_n (by omega) (by omega), St.1]]
    dsimp only [sb]
    rw [shl_n (by omega), if_pos (nI_le (Nat.le_refl _) (by omega))]
    exact ⟨_, rfl, rfl, ft⟩
theorem what_out {a1 : Int32} (o : a1 < 0 ∨ nI 2 ≤ a1) {α : Type} {x y : α} : (if a1 < 0 then y else if a1 ≤ (1 : Int32) then x else y) = y := by
  by_cases c : a1 < 0
  · rw [if_pos c]
  · rw [if_neg c, if_neg]
    intro z
    exact absurd (Int32.le_trans (o.resolve_left c) z) (by decide)
theorem eq_cover {N : Nat} (h : Rel N σ) (hN : N < 512) (a1 : Int32) : ∃ r σ1 σ2, f_X6_cover σ a1 = some (r, σ1) ∧ f_X7_cover σ1 a1 = some (r, σ2) ∧ Rel (N + 1) σ2 := by
  have h0 := h
  obtain ⟨hK, hT, n, np, nw, ki, go, A, m, S, k, K, tl, tf, sl, sg, hR⟩ := h
  obtain ⟨⟨n1, n2, n3, n4⟩, v1, v2, v3, ⟨c1, c2, c3⟩, ⟨m1, m2, m3, m4, m5, m6, m7⟩, ⟨t1, t2, t3, t4⟩, u1, u2, u3, u4⟩ := hR
  have hV := v1.1
  have hho := v1.2.2.1
  have p8 := p256 hV.n8
  have same : Rel (N + 1) σ := Rel_fr h0 (by omega) hN hK (fun _ _ _ _ _ => rfl)
  rcases in_lit (σ := σ) (a := a1) 2 (by omega) (L := 1) (by decide) with ⟨w, hw, rfl, e1⟩ | ⟨o, e1⟩
  · obtain ⟨⟨r1, σ1⟩, g1, g2, K1, F1⟩ := c_cover hK hV n2 (by omega) c1 (P := fun s => decide (cX (Sn.mi A) n np nw s 1 ki (Sn.to A) (Sn.ag A) (Sn.ar A) go (Sn.ho A) (Sn.wa A) = nw)) (fun _ => rfl)
    dsimp only at g2 K1 F1
    obtain ⟨⟨q1, σ2⟩, g4, g5, F2⟩ := m_cover hV n2 (by omega) (ST_fr m1 (fun i a b => F1 i (by omega))) (FL_fr m2 (F1 _ (by omega))) (MC_fr (MY_c m3) (F1 _ (by omega))) (P := fun s => decide (cX (Sn.mi A) n np nw s 1 ki (Sn.to A) (Sn.ag A) (Sn.ar A) go (Sn.ho A) (Sn.wa A) = nw)) (fun _ => rfl)
    dsimp only at g5 F2
    have e2 : f_X7_in σ1 (nI w) 0 1 = some 1 := e1
    have R : Rel (N + 1) σ2 := Rel_fr h0 (by omega) hN (KC_m K1 (fun i hi => F2 i (by omega) (by omega) (by omega))) (fun i a b c d => (F2 i b c d).trans (F1 i a))
    have a1 : f_X6_cover σ (nI w) = f_X6_cover_k1 (nI w) r1 σ1 := by
      unfold f_X6_cover f_X5_towns f_X3_towns
      rw [if_neg (nI_pos (by omega)), L_1, if_pos (nI_le (by omega) (by omega)), show σ (6 + 1) 0 = nI n from c1.2.1.1]
      dsimp only [sb]
      rw [g1]
      rfl
    have a2 : f_X7_cover σ1 (nI w) = f_X7_cover_k1 (nI w) q1 σ2 := by
      unfold f_X7_cover
      rw [e2]
      dsimp only [sb]
      rw [if_pos one0, g4]
      rfl
    unfold f_X6_cover_k1 at a1
    unfold f_X7_cover_k1 at a2
    rw [g2] at a1
    rw [g5] at a2
    cases o : cvB (fun s => decide (cX (Sn.mi A) n np nw s 1 ki (Sn.to A) (Sn.ag A) (Sn.ar A) go (Sn.ho A) (Sn.wa A) = nw)) (2 ^ n) with
    | none =>
      rw [o] at a1 a2
      rw [if_neg (fun z => z oI_n)] at a1
      rw [if_pos oI_n] at a2
      exact ⟨-4, σ1, σ2, a1, a2, R⟩
    | some b =>
      rw [o] at a1 a2
      have hb := cvB_lt o
      rw [if_pos (oI_ne (by omega)), show oI (some b) = nI b from rfl] at a1
      rw [if_neg (oI_ne (by omega)), show oI (some b) = nI b from rfl] at a2
      rcases (show w = 0 ∨ w = 1 by omega) with rfl | rfl
      · rw [if_neg (fun z => z rfl), bc_ok (by omega)] at a1
        rw [if_pos (by decide), bo_ok (by omega)] at a2
        exact ⟨_, σ1, σ2, a1, a2, R⟩
      · rw [if_pos (by decide)] at a1
        rw [if_neg (fun z => z rfl)] at a2
        exact ⟨_, σ1, σ2, a1, a2, R⟩
  · refine ⟨-1, σ, σ, ?_, ?_, same⟩
    · unfold f_X6_cover; exact what_out o
    · unfold f_X7_cover; rw [e1]; rfl
end CV
