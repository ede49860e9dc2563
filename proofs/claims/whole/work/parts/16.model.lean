/-! Part 16: the model's rows: what is far, the next town, where a post points. -/
theorem l185 : ln 185 = 200 := by decide
theorem l186 : ln 186 = 2 := by decide
theorem l187 : ln 187 = 2 := by decide
theorem l188 : ln 188 = 2 := by decide
theorem l189 : ln 189 = 12 := by decide
theorem l190 : ln 190 = 10 := by decide
theorem l191 : ln 191 = 64 := by decide
theorem l192 : ln 192 = 6 := by decide
theorem l193 : ln 193 = 6 := by decide
theorem l194 : ln 194 = 5 := by decide
theorem l195 : ln 195 = 179 := by decide
theorem l196 : ln 196 = 1432 := by decide
theorem l197 : ln 197 = 358 := by decide
theorem l198 : ln 198 = 179 := by decide
theorem l199 : ln 199 = 64 := by decide
theorem l200 : ln 200 = 5 := by decide
def fN : Option Nat → Nat
  | none => 100000
  | some d => d
def dI (k : Nat) : Int32 := nI k + (-1 : Int32)
theorem dI_s (k : Nat) : dI (k + 1) = nI k := by
  unfold dI
  rw [nI_succ, Int32.add_assoc, show (1 : Int32) + (-1) = 0 by decide, Int32.add_zero]
theorem dI_0 : dI 0 = -1 := by decide
theorem dI_neg : dI 0 < 0 := by decide
theorem sub1 (k : Nat) : nI k - 1 = dI k := by
  cases k with
  | zero => decide
  | succ k => rw [nI_pred, dI_s]
theorem lp_down {S R : Type} {b : S → Option (S ⊕ R)} {r : R} (I : Nat → S) : ∀ (N n : Nat), N < n → (∀ k, k < N → b (I (k + 1)) = some (.inl (I k))) → b (I 0) = some (.inr r) → lp b n (I N) = some r
  | N, 0, h, _, _ => absurd h (by omega)
  | 0, n + 1, _, _, he => lp_end he
  | N + 1, n + 1, h, hs, he => (lp_go (hs N (by omega))).trans (lp_down I N n (by omega) (fun k hk => hs k (by omega)) he)
def fsK (mi : Mi) (a b : Nat) (d : Option Nat) (k : Nat) : Option Nat := d.bind fun d => lw (fsP mi a b d) k (8 - k)
section MD
variable {σ σ' : Sg} {c n : Nat} {mi : Mi} {np nw ho ye q ex al : Nat} {ki : Nat → Nat} {to : Nat → Option Nat} {ag : Nat → Nat} {ar am : Nat → Nat → Option Nat} {wa go : Nat → Nat}
def rC (c : Nat) : Prop := c = 195 ∨ c = 198
theorem rC.l (h : rC c) : ln c = 179 := by rcases h with rfl | rfl <;> decide
theorem rC.b (h : rC c) : 195 ≤ c ∧ c ≤ 198 := by rcases h with rfl | rfl <;> omega
/-- what the text told -/
def ST (σ : Sg) (n np nw : Nat) (ki go : Nat → Nat) : Prop := σ 186 0 = nI n ∧ σ 187 0 = nI np ∧ σ 188 0 = nI nw ∧ (∀ p, p < np → σ 189 p = nI (ki p)) ∧ (∀ v, v < nw → σ 190 v = nI (go v))
/-- the flags -/
def FL (σ : Sg) (q ex al : Nat) : Prop := σ 184 21 = nI q ∧ σ 184 22 = nI ex ∧ σ 184 23 = nI al
def MM (σ : Sg) (c : Nat) (mi : Mi) : Prop := ∀ a b, a < 8 → b < 8 → σ c (7 + 8 * a + b) = nI (mi a b)
/-- a yard as a row of the model -/
def MC (σ : Sg) (c : Nat) (mi : Mi) (np nw ho ye : Nat) (to : Nat → Option Nat) (ag : Nat → Nat) (ar am : Nat → Nat → Option Nat) (wa : Nat → Nat) : Prop :=
  MM σ c mi ∧ (∀ p, p < np → σ c (71 + p) = oI (to p)) ∧ (∀ p, p < np → σ c (77 + p) = nI (ag p)) ∧ (∀ p, p < np → to p ≠ none → ∀ t, t < 8 → σ c (83 + 8 * p + t) = oI (ar p t) ∧ σ c (131 + 8 * p + t) = oI (am p t)) ∧ (∀ v, v < nw → σ c (0 + v) = nI (wa v)) ∧ σ c 5 = nI ho ∧ σ c 6 = nI ye
/-- what is far, measured -/
def PF (σ : Sg) (P : Nat → Nat → Option Nat) : Prop := ∀ a b, a < 8 → b < 8 → σ 199 (8 * a + b) = nI (fN (P a b))
theorem PF_put {a b x : Nat} {P P' : Nat → Nat → Option Nat} (h : PF σ P) (ha : a < 8) (hb : b < 8) (h1 : fN (P' a b) = x) (h2 : ∀ a' b', (a' ≠ a ∨ b' ≠ b) → P' a' b' = P a' b') : PF (sf σ 199 (8 * a + b) (nI x)) P' := fun a' b' ha' hb' => by
  rw [sf_row]
  by_cases e : a' = a ∧ b' = b
  · obtain ⟨rfl, rfl⟩ := e
    rw [upd_self, h1]
  · rw [upd_ne (by omega), h2 a' b' (by omega)]
    exact h a' b' ha' hb'
theorem fN_min {A U V : Option Nat} (hA : ∀ x, A = some x → x ≤ 2304) (hU : ∀ x, U = some x → x ≤ 2304) (hV : ∀ x, V = some x → x ≤ 2304) : fN (omin A (oadd U V)) = if fN A ≤ fN U + fN V then fN A else fN U + fN V := by
  cases A with
  | none =>
    cases U with
    | none => simp [omin, oadd, fN]
    | some u =>
      cases V with
      | none => simp [omin, oadd, fN]
      | some v =>
        have := hU u rfl
        have := hV v rfl
        show u + v = if 100000 ≤ u + v then _ else u + v
        rw [if_neg (by omega)]
  | some a =>
    have := hA a rfl
    cases U with
    | none => show a = if a ≤ 100000 + fN V then a else _; rw [if_pos (by omega)]
    | some u =>
      cases V with
      | none => show a = if a ≤ u + 100000 then a else _; rw [if_pos (by omega)]
      | some v =>
        show (if u + v < a then u + v else a) = if a ≤ u + v then a else u + v
        by_cases q : a ≤ u + v
        · rw [if_pos q, if_neg (by omega)]
        · rw [if_neg q, if_pos (by omega)]
theorem me_b2 (hb : ∀ a b, mi a b ≤ 9) {m a : Nat} (hm : m < 8) (ha : a < 8) (hP : PF σ (sQ mi m a 0)) : ∃ σ', lp (fun st => f_X7_measure_b2 (nI m) (nI a) st.1 st.2) FU ((0 : Int32), σ) = some σ' ∧ (∀ i, i ≠ 199 → σ' i = σ i) ∧ PF σ' (sQ mi m a 8) := by
  refine lp_inv (fun j (s : Int32 × Sg) => s.1 = nI j ∧ (∀ i, i ≠ 199 → s.2 i = σ i) ∧ PF s.2 (sQ mi m a j)) 8 (by omega) ⟨rfl, fun _ _ => rfl, hP⟩ ?_ ?_
  · rintro j ⟨x, τ⟩ hj ⟨rfl, hf, hp⟩
    have hf : ∀ i, i ≠ 199 → τ i = σ i := hf
    have hp : PF τ (sQ mi m a j) := hp
    show ∃ s', f_X7_measure_b2 (nI m) (nI a) (nI j) τ = _ ∧ _
    unfold f_X7_measure_b2
    rw [L_8, if_neg (nI_ge hj (by omega)), l199, nI_mul, nI_mul, nI_add, nI_add, nI_add, nI_1, ga_n (by omega) (by omega), hp a m ha hm, sQ_col]
    simp only [sb]
    rw [ga_n (by omega) (by omega), hp m j hm hj, sQ_row]
    simp only [sb]
    rw [ga_n (by omega) (by omega), hp a j ha hj, sQ_at, nI_add]
    simp only [sb]
    have d1 : ∀ x, dN mi m a j = some x → x ≤ 2304 := fun x h => dN_2304 hb (by omega) h
    have d2 : ∀ x, dN mi m a m = some x → x ≤ 2304 := fun x h => dN_2304 hb (by omega) h
    have d3 : ∀ x, dN mi m m j = some x → x ≤ 2304 := fun x h => dN_2304 hb (by omega) h
    have e := fN_min d1 d2 d3
    have b1 : ∀ A : Option Nat, (∀ x, A = some x → x ≤ 2304) → fN A ≤ 100000 := fun A h => by
      cases A with
      | none => exact Nat.le_refl _
      | some x => have := h x rfl; show x ≤ _; omega
    have q1 := b1 _ d1
    have q2 := b1 _ d2
    have q3 := b1 _ d3
    by_cases cc : fN (dN mi m a j) ≤ fN (dN mi m a m) + fN (dN mi m m j)
    · rw [if_pos cc] at e
      rw [if_pos (nI_le cc (by omega)), sa_n (by omega) (by omega)]
      exact ⟨_, rfl, rfl, fun i hi => (sf_ne hi).trans (hf i hi), PF_put hp ha hj (by rw [sQ_at1, e]) (fun a' b' q => sQ_ne q)⟩
    · rw [if_neg cc] at e
      rw [if_neg (nI_ge (by omega) (by omega)), sa_n (by omega) (by omega)]
      exact ⟨_, rfl, rfl, fun i hi => (sf_ne hi).trans (hf i hi), PF_put hp ha hj (by rw [sQ_at1, e]) (fun a' b' q => sQ_ne q)⟩
  · rintro ⟨x, τ⟩ ⟨rfl, hf, hp⟩
    show ∃ s', f_X7_measure_b2 (nI m) (nI a) (nI 8) τ = _ ∧ _
    unfold f_X7_measure_b2
    rw [L_8, if_pos (nI_le (Nat.le_refl _) (by omega))]
    exact ⟨_, rfl, hf, hp⟩
theorem me_b3 (hb : ∀ a b, mi a b ≤ 9) {m : Nat} (hm : m < 8) (hP : PF σ (dN mi m)) : ∃ σ', lp (fun st => f_X7_measure_b3 (nI m) st.1 st.2) FU ((0 : Int32), σ) = some σ' ∧ (∀ i, i ≠ 199 → σ' i = σ i) ∧ PF σ' (dN mi (m + 1)) := by
  refine lp_inv (fun j (s : Int32 × Sg) => s.1 = nI j ∧ (∀ i, i ≠ 199 → s.2 i = σ i) ∧ PF s.2 (sQ mi m j 0)) 8 (by omega) ⟨rfl, fun _ _ => rfl, fun a b ha hb => ?_⟩ ?_ ?_
  · rw [show ∀ x, ((0 : Int32), x).2 = x from fun _ => rfl, hP a b ha hb]; unfold sQ; rw [if_neg (by omega)]
  · rintro j ⟨x, τ⟩ hj ⟨rfl, hf, hp⟩
    have hf : ∀ i, i ≠ 199 → τ i = σ i := hf
    show ∃ s', f_X7_measure_b3 (nI m) (nI j) τ = _ ∧ _
    unfold f_X7_measure_b3
    rw [L_8, if_neg (nI_ge hj (by omega))]
    obtain ⟨τ', e, hf', hp'⟩ := me_b2 hb hm hj hp
    rw [e]
    simp only [sb]
    unfold f_X7_measure_k1
    rw [nI_1]
    refine ⟨_, rfl, rfl, fun i hi => (hf' i hi).trans (hf i hi), fun a b ha hb => ?_⟩
    show τ' _ _ = _
    rw [hp' a b ha hb]
    unfold sQ
    by_cases q : a < j ∨ (a = j ∧ b < 8)
    · rw [if_pos q, if_pos (by omega)]
    · rw [if_neg q, if_neg (by omega)]
  · rintro ⟨x, τ⟩ ⟨rfl, hf, hp⟩
    have hp : PF τ (sQ mi m 8 0) := hp
    show ∃ s', f_X7_measure_b3 (nI m) (nI 8) τ = _ ∧ _
    unfold f_X7_measure_b3
    rw [L_8, if_pos (nI_le (Nat.le_refl _) (by omega))]
    refine ⟨_, rfl, hf, fun a b ha hb => ?_⟩
    rw [hp a b ha hb]; unfold sQ; rw [if_pos (by omega)]
theorem me_k4 (hb : ∀ a b, mi a b ≤ 9) (hP : PF σ (d0 mi)) : ∃ σ', f_X7_measure_k4 σ = some σ' ∧ (∀ i, i ≠ 199 → σ' i = σ i) ∧ PF σ' (dist mi) := by
  unfold f_X7_measure_k4
  obtain ⟨τ, e, h1, h2⟩ := lp_inv (b := fun st => f_X7_measure_b4 st.1 st.2) (s0 := ((0 : Int32), σ)) (Post := fun (τ : Sg) => (∀ i, i ≠ 199 → τ i = σ i) ∧ PF τ (dN mi 8)) (fun j (s : Int32 × Sg) => s.1 = nI j ∧ (∀ i, i ≠ 199 → s.2 i = σ i) ∧ PF s.2 (dN mi j)) 8 (by omega) ⟨rfl, fun _ _ => rfl, hP⟩ (by
    rintro j ⟨x, τ⟩ hj ⟨rfl, hf, hp⟩
    have hf : ∀ i, i ≠ 199 → τ i = σ i := hf
    show ∃ s', f_X7_measure_b4 (nI j) τ = _ ∧ _
    unfold f_X7_measure_b4
    rw [L_8, if_neg (nI_ge hj (by omega))]
    obtain ⟨τ', e, hf', hp'⟩ := me_b3 hb hj hp
    rw [e]
    simp only [sb]
    unfold f_X7_measure_k2
    rw [nI_1]
    exact ⟨_, rfl, rfl, fun i hi => (hf' i hi).trans (hf i hi), hp'⟩) (by
    rintro ⟨x, τ⟩ ⟨rfl, hf, hp⟩
    show ∃ s', f_X7_measure_b4 (nI 8) τ = _ ∧ _
    unfold f_X7_measure_b4
    rw [L_8, if_pos (nI_le (Nat.le_refl _) (by omega))]
    exact ⟨_, rfl, hf, hp⟩)
  rw [e]
  exact ⟨τ, rfl, h1, h2⟩
theorem me_ok (hc : rC c) (hb : ∀ a b, mi a b ≤ 9) (h : MM σ c mi) : ∃ σ', f_X7_measure σ c = some σ' ∧ (∀ i, i ≠ 199 → σ' i = σ i) ∧ PF σ' (dist mi) := by
  have hcb := hc.b
  unfold f_X7_measure
  obtain ⟨τ, e, h1, h2⟩ := lp_inv (b := fun st => f_X7_measure_b1 c st.1 st.2) (s0 := ((0 : Int32), σ)) (Post := fun (τ : Sg) => (∀ i, i ≠ 199 → τ i = σ i) ∧ ∀ k, k < 64 → τ 199 k = nI (fN (d0 mi (k / 8) (k % 8)))) (fun j (s : Int32 × Sg) => s.1 = nI j ∧ (∀ i, i ≠ 199 → s.2 i = σ i) ∧ ∀ k, k < j → s.2 199 k = nI (fN (d0 mi (k / 8) (k % 8)))) 64 (by omega) ⟨rfl, fun _ _ => rfl, fun k hk => absurd hk (by omega)⟩ (by
    rintro j ⟨x, τ⟩ hj ⟨rfl, hf, hp⟩
    have hf : ∀ i, i ≠ 199 → τ i = σ i := hf
    have hp : ∀ k, k < j → τ 199 k = nI (fN (d0 mi (k / 8) (k % 8))) := hp
    show ∃ s', f_X7_measure_b1 c (nI j) τ = _ ∧ _
    unfold f_X7_measure_b1
    have hx : τ c (7 + j) = nI (mi (j / 8) (j % 8)) := by
      rw [hf c (by omega), ← h (j / 8) (j % 8) (by omega) (by omega)]
      congr 1; omega
    have hm := hb (j / 8) (j % 8)
    have put : ∀ v : Int32, v = nI (fN (d0 mi (j / 8) (j % 8))) → ∃ s', (sa τ 199 64 (nI j) v).bind (fun σ48 => some (Sum.inl (nI (j + 1), σ48))) = some (.inl s' : (Int32 × Sg) ⊕ Sg) ∧ s'.1 = nI (j + 1) ∧ (∀ i, i ≠ 199 → s'.2 i = σ i) ∧ ∀ k, k < j + 1 → s'.2 199 k = nI (fN (d0 mi (k / 8) (k % 8))) := fun v e => by
      subst e
      rw [sa_n hj (by omega)]
      refine ⟨_, rfl, rfl, fun i hi => (sf_ne hi).trans (hf i hi), fun k hk => ?_⟩
      dsimp only
      rw [sf_row]
      by_cases q : k = j
      · subst q; exact upd_self
      · rw [upd_ne q]; exact hp k (by omega)
    rw [L_64, if_neg (nI_ge hj (by omega)), L_8, div_n (by omega) (by omega), rem_n (by omega) (by omega), hc.l, l199, L_7, nI_add, nI_1, ga_n (by omega) (by omega), hx]
    simp only [sb]
    by_cases q : j / 8 = j % 8
    · rw [if_neg (fun z => z (congrArg nI q))]
      exact put _ (by unfold d0; rw [if_pos q]; rfl)
    · rw [if_pos (fun z => q ((nI_eq (by omega) (by omega)).mp z))]
      by_cases q2 : 0 < mi (j / 8) (j % 8)
      · rw [if_neg (nI_nle q2 (by omega))]
        exact put _ (by unfold d0; rw [if_neg q, if_pos q2]; rfl)
      · rw [if_pos (by rw [show mi (j / 8) (j % 8) = 0 by omega]; decide)]
        exact put _ (by unfold d0; rw [if_neg q, if_neg q2]; rfl)) (by
    rintro ⟨x, τ⟩ ⟨rfl, hf, hp⟩
    show ∃ s', f_X7_measure_b1 c (nI 64) τ = _ ∧ _
    unfold f_X7_measure_b1
    rw [L_64, if_pos (nI_le (Nat.le_refl _) (by omega))]
    exact ⟨_, rfl, hf, hp⟩)
  rw [e]
  show ∃ σ', f_X7_measure_k4 τ = some σ' ∧ _
  obtain ⟨τ', e', h3, h4⟩ := me_k4 hb (σ := τ) (fun a b ha hb => by
    rw [h2 _ (by omega)]
    congr 3 <;> omega)
  exact ⟨τ', e', fun i hi => (h3 i hi).trans (h1 i hi), h4⟩
theorem fs_K {a b : Nat} (e : ¬ a = b) : fs mi a b = fsK mi a b (dist mi a b) 0 := by
  unfold fs fsK
  rw [if_neg e]
  cases dist mi a b <;> rfl
theorem nx_ok (hc : rC c) (hb : ∀ a b, mi a b ≤ 9) (h : MM σ c mi) (hF : PF σ (dist mi)) {a b : Nat} (ha : a < 8) (hb8 : b < 8) : f_X7_nextOn σ c (nI a) (nI b) = some (oI (fs mi a b)) := by
  unfold f_X7_nextOn
  by_cases e : a = b
  · subst e
    have e1 : fs mi a a = none := by unfold fs; rw [if_pos rfl]
    rw [e1, show FU = 4095 + 1 from rfl, lp_end (r := oI none) (by
      show f_X7_nextOn_b1 σ c (nI a) (nI a) (-4) 7 = _
      unfold f_X7_nextOn_b1
      rw [if_neg (by decide), if_pos rfl]; rfl)]
    rfl
  · rw [fs_K e]
    have key : ∀ d' : Option Nat, dist mi a b = d' → lp (fun st => f_X7_nextOn_b1 σ c (nI a) (nI b) st.1 st.2) FU ((-4 : Int32), (7 : Int32)) = some (oI (fsK mi a b d' 0)) := fun d' hd => by
      have := lp_down (b := fun st => f_X7_nextOn_b1 σ c (nI a) (nI b) st.1 st.2) (r := oI (fsK mi a b d' 0)) (fun k => (oI (fsK mi a b d' k), dI k)) 8 FU (by unfold FU; omega) (fun k hk => by
        show f_X7_nextOn_b1 σ c (nI a) (nI b) (oI (fsK mi a b d' (k + 1))) (dI (k + 1)) = _
        unfold f_X7_nextOn_b1
        rw [dI_s, if_neg (nI_pos (by omega)), if_neg (fun z => e ((nI_eq (by omega) (by omega)).mp z)), L_7, L_8, nI_mul, nI_mul, nI_add, nI_add, nI_add, nI_add, hc.l, l199, ga_n (by omega) (by omega), h a k ha hk, show nI k + (-1 : Int32) = dI k from rfl]
        simp only [sb]
        have hm := hb a k
        have hl : ∀ d, lw (fsP mi a b d) k (8 - k) = if fsP mi a b d k = true then some k else lw (fsP mi a b d) (k + 1) (8 - (k + 1)) := fun d => by
          rw [show 8 - k = (8 - (k + 1)) + 1 by omega]; rfl
        by_cases q0 : 0 < mi a k
        · rw [if_neg (nI_nle q0 (by omega)), ga_n (by omega) (by omega), hF a b ha hb8, hd]
          simp only [sb]
          cases d' with
          | none => rw [if_pos (by decide)]; rfl
          | some d =>
            have hd2 := dN_2304 hb (Nat.le_refl 8) hd
            rw [show fN (some d) = d from rfl, L_100000, if_neg (nI_ge (show d < 100000 by omega) (by omega)), ga_n (by omega) (by omega), hF k b hk hb8]
            simp only [sb]
            show (if ¬ nI (mi a k) + nI (fN (dist mi k b)) = nI d then _ else _) = _
            have hfk : fN (dist mi k b) ≤ 100000 := by
              cases hk2 : dist mi k b with
              | none => exact Nat.le_refl _
              | some z => have := dN_2304 hb (Nat.le_refl 8) hk2; show z ≤ _; omega
            have hP : (mi a k + fN (dist mi k b) = d) ↔ fsP mi a b d k = true := by
              unfold fsP
              cases hk2 : dist mi k b with
              | none => simp [oadd, fN]; omega
              | some z => simp [oadd, fN, q0]
            rw [nI_add]
            have hl2 : fsK mi a b (some d) k = if fsP mi a b d k = true then some k else fsK mi a b (some d) (k + 1) := hl d
            rw [hl2]
            by_cases q : mi a k + fN (dist mi k b) = d
            · rw [if_neg (fun z => z (congrArg nI q)), if_pos (hP.mp q)]; rfl
            · rw [if_pos (fun z => q ((nI_eq (by omega) (by omega)).mp z)), if_neg (fun z => q (hP.mpr z))]
        · rw [if_pos (by rw [show mi a k = 0 by omega]; decide)]
          cases d' with
          | none => rfl
          | some d =>
            have hl2 : fsK mi a b (some d) k = if fsP mi a b d k = true then some k else fsK mi a b (some d) (k + 1) := hl d
            rw [hl2, if_neg (by unfold fsP; simp [show mi a k = 0 by omega])]) (by
        show f_X7_nextOn_b1 σ c (nI a) (nI b) _ (dI 0) = _
        unfold f_X7_nextOn_b1
        rw [if_pos dI_neg])
      have e0 : ((oI (fsK mi a b d' 8), dI 8) : Int32 × Int32) = ((-4 : Int32), (7 : Int32)) := by
        cases d' <;> rfl
      rw [← e0]; exact this
    rw [key _ rfl]
    rfl
/-- posts by their town, from the last down -/
theorem pa_ok (hc : rC c) (hnp : np ≤ 6) (h187 : σ 187 0 = nI np) (ht : ∀ p, p < np → σ c (71 + p) = oI (to p)) (hV : ∀ p x, to p = some x → x < n) (hn : n ≤ 8) {x : Nat} (hx : x < 8) : f_X7_postAt σ c (nI x) = some (oI (loP to x np)) := by
  unfold f_X7_postAt
  rw [L_0, l187, ga_n (by omega) (by omega), h187]
  simp only [sb]
  rw [sub1]
  have := lp_down (b := fun st => f_X7_postAt_b1 σ c (nI x) st.1 st.2) (r := oI (loP to x np)) (fun k => (oI (lw (fun p => decide (to p = some x)) k (np - k)), dI k)) np FU (by unfold FU; omega) (fun k hk => by
    show f_X7_postAt_b1 σ c (nI x) (oI (lw (fun p => decide (to p = some x)) (k + 1) (np - (k + 1)))) (dI (k + 1)) = _
    unfold f_X7_postAt_b1
    rw [dI_s, if_neg (nI_pos (by omega)), L_71, nI_add, hc.l, ga_n (by omega) (by omega), ht k hk, show nI k + (-1 : Int32) = dI k from rfl]
    simp only [sb]
    have e := oI_eqs (a := to k) (v := x) (fun u hu => by have := hV k u hu; omega) (by omega)
    have hl : lw (fun p => decide (to p = some x)) k (np - k) = if to k = some x then some k else lw (fun p => decide (to p = some x)) (k + 1) (np - (k + 1)) := by
      rw [show np - k = (np - (k + 1)) + 1 by omega]
      show (if decide (to k = some x) = true then some k else _) = _
      by_cases q : to k = some x
      · rw [if_pos q, if_pos (decide_eq_true q)]
      · rw [if_neg q, if_neg (by simp [q])]
    rw [hl]
    by_cases q : to k = some x
    · rw [if_neg (fun z => z (e.mpr q)), if_pos q]; rfl
    · rw [if_pos (fun z => q (e.mp z)), if_neg q]) (by
    show f_X7_postAt_b1 σ c (nI x) _ (dI 0) = _
    unfold f_X7_postAt_b1
    rw [if_pos dI_neg]; rfl)
  have e0 : lw (fun p => decide (to p = some x)) np (np - np) = none := by rw [Nat.sub_self]; rfl
  rw [e0] at this
  rw [show (-4 : Int32) = oI none from rfl, this]
  rfl
theorem tnx_mod {u : Nat} (hn : 0 < n) : tnx n (u % n) = (u + 1) % n := by
  have h1 := Nat.mod_lt u hn
  have h2 : (u + 1) % n = (u % n + 1) % n := by rw [Nat.add_mod, Nat.add_mod (u % n) 1, Nat.mod_mod]
  unfold tnx
  rw [h2]
  by_cases q : u % n + 1 < n
  · rw [if_pos q, Nat.mod_eq_of_lt q]
  · rw [if_neg q, show u % n + 1 = n by omega, Nat.mod_self]
theorem td_ok (hc : rC c) (h186 : σ 186 0 = nI n) (hn : 2 ≤ n ∧ n ≤ 8) (hb : ∀ a b, mi a b ≤ 9) (h : MM σ c mi) {x t : Nat} (hx : x < n) (ht : t < n) : f_X7_turned σ c (nI x) (nI t) = some (oI (tn mi n x t)) := by
  unfold f_X7_turned tn
  have key : ∀ (k j m : Nat), j + k = n → k < m → lp (fun st => f_X7_turned_b1 σ c (nI x) (nI t) st) m (nI (j + 1)) = some (match tnF mi n x k ((t + j) % n) with | some u => .inl (nI u) | none => .inr ()) := by
    intro k
    induction k with
    | zero =>
      intro j m hk hm
      obtain ⟨m, rfl⟩ : ∃ z, m = z + 1 := ⟨m - 1, by omega⟩
      refine lp_end ?_
      unfold f_X7_turned_b1
      rw [L_0, l186, ga_n (by omega) (by omega), h186]
      simp only [sb]
      rw [if_pos (nI_lt (by omega) (by omega))]
      rfl
    | succ k ih =>
      intro j m hk hm
      obtain ⟨m, rfl⟩ : ∃ z, m = z + 1 := ⟨m - 1, by omega⟩
      have e1 := tnx_mod (n := n) (u := t + j) (by omega)
      have l1 := Nat.mod_lt (t + j + 1) (show 0 < n by omega)
      have hbd : f_X7_turned_b1 σ c (nI x) (nI t) (nI (j + 1)) = some (if 0 < mi x ((t + j + 1) % n) then .inr (.inl (nI ((t + j + 1) % n))) else .inl (nI (j + 1 + 1))) := by
        unfold f_X7_turned_b1
        rw [L_0, l186, ga_n (by omega) (by omega), h186]
        simp only [sb]
        rw [if_neg (nI_nlt (by omega) (by omega)), if_neg (nI_ne4 (by omega)), nI_add, ← Nat.add_assoc]
        unfold re
        rw [if_neg (nI_ne0 (by omega) (by omega)), rem_n (by omega) (by omega)]
        simp only [sb]
        rw [L_7, L_8, nI_mul, nI_add, nI_add, hc.l, ga_n (by omega) (by omega), h x ((t + j + 1) % n) (by omega) (by omega), nI_1]
        simp only [sb]
        have hm := hb x ((t + j + 1) % n)
        by_cases q : 0 < mi x ((t + j + 1) % n)
        · rw [← L_0, if_neg (nI_nle q (by omega)), if_pos q]
        · rw [← L_0, if_pos (by rw [show mi x ((t + j + 1) % n) = 0 by omega]; decide), if_neg q]
      unfold tnF
      rw [e1]
      by_cases q : 0 < mi x ((t + j + 1) % n)
      · rw [if_pos q] at hbd ⊢
        exact lp_end hbd
      · rw [if_neg q] at hbd ⊢
        exact (lp_go hbd).trans (ih (j + 1) m (by omega) (by omega))
  have := key n 0 FU (by omega) (by unfold FU; omega)
  rw [show (1 : Int32) = nI (0 + 1) from rfl, this, Nat.add_zero, Nat.mod_eq_of_lt ht]
  cases tnF mi n x n t <;> rfl
theorem td_no (h186 : σ 186 0 = nI n) (hn : 2 ≤ n ∧ n ≤ 8) {x : Int32} : f_X7_turned σ c x (oI none) = some (oI none) := by
  unfold f_X7_turned
  rw [show FU = 4095 + 1 from rfl, lp_end (r := .inr ()) (by
    show f_X7_turned_b1 σ c x (oI none) 1 = _
    unfold f_X7_turned_b1
    rw [L_0, l186, ga_n (by omega) (by omega), h186]
    simp only [sb]
    rw [L_1, if_neg (nI_nlt (by omega) (by omega)), if_pos oI_n])]
  rfl
theorem pl_ok (hc : rC c) (h186 : σ 186 0 = nI n) (hn : 2 ≤ n ∧ n ≤ 8) (hb : ∀ a b, mi a b ≤ 9) (h : MM σ c mi) {x T : Nat} (hx : x < n) (hT : T < 100) {b : Int32 × Int32 → Option ((Int32 × Int32) ⊕ Int32)} (hbb : ∀ u i, b (u, i) = if nI T ≤ i then some (.inr u) else (f_X7_turned σ c (nI x) u).bind fun v => some (.inl (v, i + 1))) : ∀ (k i m : Nat) (a : Option Nat), (∀ v, a = some v → v < n) → i + k = T → k < m → lp b m (oI a, nI i) = some (oI (itO (tn mi n x) k a))
  | 0, i, m + 1, a, ha, hk, _ => lp_end (by rw [hbb, if_pos (nI_le (by omega) (by omega))]; rfl)
  | k + 1, i, m + 1, none, ha, hk, hm => by
    refine (lp_go (s' := (oI none, nI (i + 1))) (by rw [hbb, if_neg (nI_ge (by omega) (by omega)), td_no h186 hn, nI_1]; rfl)).trans ?_
    rw [pl_ok hc h186 hn hb h hx hT hbb k (i + 1) m none (fun v hv => by cases hv) (by omega) (by omega), itO_none, itO_none]
  | k + 1, i, m + 1, some t, ha, hk, hm => by
    have ht := ha t rfl
    refine (lp_go (s' := (oI (tn mi n x t), nI (i + 1))) (by rw [hbb, if_neg (nI_ge (by omega) (by omega)), show oI (some t) = nI t from rfl, td_ok hc h186 hn hb h hx ht, nI_1]; rfl)).trans ?_
    exact pl_ok hc h186 hn hb h hx hT hbb k (i + 1) m _ (fun v hv => (tn_lt (by omega) hv).1) (by omega) (by omega)
/-- where a post points, were it of a kind -/
def ptk (mi : Mi) (n ho q : Nat) (to : Nat → Option Nat) (ag : Nat → Nat) (ar : Nat → Nat → Option Nat) (k p t : Nat) : Option Nat := match to p with
  | none => none
  | some x => itO (tn mi n x) (tu k (ag p) ho (q.testBit p)) (ar p t)
theorem pt_k {p t : Nat} : pt mi n ho q ki to ag ar p t = ptk mi n ho q to ag ar (ki p) p t := rfl
theorem ha_ok {a b : Nat} (ha : a < 2 ^ 31) (hb : b < 32) : f_X7_has σ (nI a) (nI b) = some (if a.testBit b = true then 1 else 0) := by
  have := hb_ok (σ := σ) ha hb
  unfold f_X6_hasBit at this
  unfold f_X7_has
  exact this
end MD
