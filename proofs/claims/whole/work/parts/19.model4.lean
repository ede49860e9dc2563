/-! Part 19: the model's rows: years, painting, roads. -/
section MG
variable {σ σ' : Sg} {c n : Nat} {mi : Mi} {np nw ho ye q ex al : Nat} {ki : Nat → Nat} {to : Nat → Option Nat} {ag : Nat → Nat} {ar am : Nat → Nat → Option Nat} {wa go : Nat → Nat}
theorem my_ok (hc : rC c) (hV : VY n mi np nw ho ye q ki to ag ar am wa go) (hA : ∀ p, to p ≠ none → ag p ≤ 59) (hnp : np ≤ 6) (hS : ST σ n np nw ki go) (h : MC σ c mi np nw ho ye to ag ar am wa) : ∃ σ', f_X7_passYear σ c = some (nI (cn (yP to ag) np), σ') ∧ (∀ i, i ≠ c → σ' i = σ i) ∧ MC σ' c mi np nw ho (ye + 1) (yTo to ag np) (yAg to ag np) (yAr to ag ar np) (yAr to ag am np) wa := by
  have h8 := hV.n8
  have h5 := hV.nw5
  have hcb := hc.b
  obtain ⟨m1, m2, m3, m4, m5, m6, m7⟩ := h
  unfold f_X7_passYear
  obtain ⟨r, e, h1, h2, h3, h4, h6⟩ := lp_inv (b := fun st => f_X7_passYear_b1 c st.1 st.2.1 st.2.2) (s0 := ((0 : Int32), (0 : Int32), σ)) (Post := fun (r : Int32 × Sg) => r.1 = nI (cn (yP to ag) np) ∧ (∀ i, i ≠ c → r.2 i = σ i) ∧ (∀ k, (k < 71 ∨ 83 ≤ k) → r.2 c k = σ c k) ∧ (∀ p, p < np → r.2 c (71 + p) = oI (yTo to ag np p)) ∧ ∀ p, p < np → r.2 c (77 + p) = nI (yAg to ag np p)) (fun j (s : Int32 × Int32 × Sg) => s.1 = nI (cn (yP to ag) j) ∧ s.2.1 = nI j ∧ (∀ i, i ≠ c → s.2.2 i = σ i) ∧ (∀ k, (k < 71 ∨ 83 ≤ k) → s.2.2 c k = σ c k) ∧ (∀ p, p < np → s.2.2 c (71 + p) = oI (yTo to ag j p)) ∧ ∀ p, p < np → s.2.2 c (77 + p) = nI (yAg to ag j p)) np (by omega) ⟨rfl, rfl, fun _ _ => rfl, fun _ _ => rfl, fun p hp => by
      unfold yTo; rw [if_neg (fun z => by omega)]; exact m2 p hp, fun p hp => by
      unfold yAg; rw [if_neg (fun z => by omega)]; exact m3 p hp⟩ (by
    rintro j ⟨x, u, τ⟩ hj ⟨rfl, rfl, hf, hk, hT, hG⟩
    have hf : ∀ i, i ≠ c → τ i = σ i := hf
    have hk : ∀ k, (k < 71 ∨ 83 ≤ k) → τ c k = σ c k := hk
    have hT : ∀ p, p < np → τ c (71 + p) = oI (yTo to ag j p) := hT
    have hG : ∀ p, p < np → τ c (77 + p) = nI (yAg to ag j p) := hG
    have hag := hV.agL j
    have t0 : yTo to ag j j = to j := by unfold yTo; rw [if_neg (fun z => by omega)]
    have a0 : yAg to ag j j = ag j := by unfold yAg; rw [if_neg (fun z => by omega)]
    show ∃ s', f_X7_passYear_b1 c (nI (cn _ j)) (nI j) τ = _ ∧ _
    unfold f_X7_passYear_b1
    rw [L_0, l187, ga_n (by omega) (by omega), hf _ (by omega), hS.2.1]
    simp only [sb]
    rw [if_neg (nI_ge hj (by omega)), L_71, nI_add, hc.l, ga_n (by omega) (by omega), hT j hj, t0, nI_1, nI_1]
    simp only [sb]
    cases e : to j with
    | none =>
      have yn : yP to ag j = false := by unfold yP; rw [e]; rfl
      rw [if_pos oI_n]
      refine ⟨_, rfl, ?_, rfl, hf, hk, fun p hp => ?_, fun p hp => ?_⟩
      · show _ = nI (cn _ j + (if yP to ag j = true then 1 else 0))
        rw [yn]; rfl
      · show τ c (71 + p) = _
        rw [hT p hp]; unfold yTo
        by_cases d : p = j
        · subst d; rw [if_neg (fun z => by omega), if_neg (fun z => by rw [yn] at z; cases z.2)]
        · by_cases d2 : p < j ∧ yP to ag p = true
          · rw [if_pos d2, if_pos ⟨by omega, d2.2⟩]
          · rw [if_neg d2, if_neg (fun z => d2 ⟨by omega, z.2⟩)]
      · show τ c (77 + p) = _
        rw [hG p hp]; unfold yAg
        by_cases d : p = j
        · subst d; rw [if_neg (fun z => by omega), if_neg (fun z => by rw [e] at z; cases z.2)]
        · by_cases d2 : p < j ∧ (to p).isSome = true
          · rw [if_pos d2, if_pos ⟨by omega, d2.2⟩]
          · rw [if_neg d2, if_neg (fun z => d2 ⟨by omega, z.2⟩)]
    | some x0 =>
      have hx := hV.toL e
      have ha59 := hA j (by rw [e]; exact fun z => by cases z)
      rw [if_neg (oI_ne (by omega)), L_77, nI_add, ga_n (by omega) (by omega), hG j hj, a0]
      simp only [sb]
      rw [nI_1, sa_n (by omega) (by omega)]
      simp only [sb]
      rw [ga_n (by omega) (by omega), sf_row, upd_self]
      simp only [sb]
      have gA : ∀ p, p < np → (if p = j then nI (ag j + 1) else nI (yAg to ag j p)) = nI (yAg to ag (j + 1) p) := fun p hp => by
        unfold yAg
        by_cases d : p = j
        · subst d; rw [if_pos rfl, if_pos ⟨by omega, by rw [e]; rfl⟩]
        · rw [if_neg d]
          by_cases d2 : p < j ∧ (to p).isSome = true
          · rw [if_pos d2, if_pos ⟨by omega, d2.2⟩]
          · rw [if_neg d2, if_neg (fun z => d2 ⟨by omega, z.2⟩)]
      by_cases d : 60 ≤ ag j + 1
      · have yt : yP to ag j = true := by unfold yP; rw [e]; simp [d]
        rw [if_neg (fun z => z (by rw [L_60]; congr 1; omega)), sa_n (by omega) (by omega)]
        simp only [sb]
        refine ⟨_, rfl, ?_, rfl, fun i hi => ((sf_ne hi).trans (sf_ne hi)).trans (hf i hi), fun k hk2 => ?_, fun p hp => ?_, fun p hp => ?_⟩
        · show _ = nI (cn _ j + (if yP to ag j = true then 1 else 0))
          rw [yt]; rfl
        · dsimp only
          rw [sf_row, upd_ne (by omega), sf_row, upd_ne (by omega)]; exact hk k hk2
        · dsimp only
          rw [sf_row]
          unfold yTo
          by_cases d : p = j
          · subst d; rw [upd_self, if_pos ⟨by omega, yt⟩]; rfl
          · rw [upd_ne (by omega), sf_row, upd_ne (by omega), hT p hp]; unfold yTo
            by_cases d2 : p < j ∧ yP to ag p = true
            · rw [if_pos d2, if_pos ⟨by omega, d2.2⟩]
            · rw [if_neg d2, if_neg (fun z => d2 ⟨by omega, z.2⟩)]
        · dsimp only
          rw [sf_row, upd_ne (by omega), sf_row, ← gA p hp]
          by_cases d : p = j
          · subst d; rw [upd_self, if_pos rfl]
          · rw [upd_ne (by omega), if_neg d]; exact hG p hp
      · have yn : yP to ag j = false := by unfold yP; rw [e]; simp [d]
        rw [if_pos (fun z => by rw [L_60, nI_eq (by omega) (by omega)] at z; omega)]
        refine ⟨_, rfl, ?_, rfl, fun i hi => (sf_ne hi).trans (hf i hi), fun k hk2 => ?_, fun p hp => ?_, fun p hp => ?_⟩
        · show _ = nI (cn _ j + (if yP to ag j = true then 1 else 0))
          rw [yn]; rfl
        · dsimp only
          rw [sf_row, upd_ne (by omega)]; exact hk k hk2
        · dsimp only
          rw [sf_row, upd_ne (by omega), hT p hp]; unfold yTo
          by_cases d : p = j
          · subst d; rw [if_neg (fun z => by omega), if_neg (fun z => by rw [yn] at z; cases z.2)]
          · by_cases d2 : p < j ∧ yP to ag p = true
            · rw [if_pos d2, if_pos ⟨by omega, d2.2⟩]
            · rw [if_neg d2, if_neg (fun z => d2 ⟨by omega, z.2⟩)]
        · dsimp only
          rw [sf_row, ← gA p hp]
          by_cases d : p = j
          · subst d; rw [upd_self, if_pos rfl]
          · rw [upd_ne (by omega), if_neg d]; exact hG p hp) (by
    rintro ⟨x, u, τ⟩ ⟨rfl, rfl, hf, hk, hT, hG⟩
    have hf : ∀ i, i ≠ c → τ i = σ i := hf
    show ∃ s', f_X7_passYear_b1 c (nI (cn _ np)) (nI np) τ = _ ∧ _
    unfold f_X7_passYear_b1
    rw [L_0, l187, ga_n (by omega) (by omega), hf _ (by omega), hS.2.1]
    simp only [sb]
    rw [if_pos (nI_le (Nat.le_refl _) (by omega))]
    exact ⟨_, rfl, rfl, hf, hk, hT, hG⟩)
  obtain ⟨x, τ⟩ := r
  have h1 : x = _ := h1
  have h2 : ∀ i, i ≠ c → τ i = σ i := h2
  have h3 : ∀ k, (k < 71 ∨ 83 ≤ k) → τ c k = σ c k := h3
  have h4 : ∀ p, p < np → τ c (71 + p) = oI (yTo to ag np p) := h4
  have h6 : ∀ p, p < np → τ c (77 + p) = nI (yAg to ag np p) := h6
  rw [e]
  show ∃ σ', f_X7_passYear_k1 c x τ = _ ∧ _
  unfold f_X7_passYear_k1
  rw [show (6 : Int32) = nI 6 from rfl, hc.l, ga_n (by omega) (by omega), h3 6 (by omega), m7]
  simp only [sb]
  rw [nI_1, sa_n (by omega) (by omega), h1]
  refine ⟨_, rfl, fun i hi => (sf_ne hi).trans (h2 i hi), fun a b ha hb => ?_, fun p hp => ?_, fun p hp => ?_, fun p hp ht t h8 => ?_, fun v hv => ?_, ?_, ?_⟩
  · rw [sf_row, upd_ne (by omega), h3 _ (by omega)]; exact m1 a b ha hb
  · rw [sf_row, upd_ne (by omega)]; exact h4 p hp
  · rw [sf_row, upd_ne (by omega)]; exact h6 p hp
  · rw [sf_row, upd_ne (by omega), h3 _ (by omega), upd_ne (by omega), h3 _ (by omega)]
    unfold yTo at ht
    unfold yAr
    by_cases d : p < np ∧ yP to ag p = true
    · rw [if_pos d] at ht; exact absurd rfl ht
    · rw [if_neg d] at ht; rw [if_neg d, if_neg d]; exact m4 p hp ht t h8
  · rw [sf_row, upd_ne (by omega), h3 _ (by omega)]; exact m5 v hv
  · rw [sf_row, upd_ne (by omega), h3 _ (by omega)]; exact m6
  · rw [sf_row]; exact upd_self
/-- arms in the row, painted up to t -/
def QI (σ τ : Sg) (c : Nat) (mi : Mi) (n x p j : Nat) : Prop := (∀ i, i ≠ c → τ i = σ i) ∧ (∀ t, t < j → τ c (83 + 8 * p + t) = oI (pr mi n x t) ∧ τ c (131 + 8 * p + t) = oI (pm mi n x t)) ∧ ∀ k, ¬ (83 + 8 * p ≤ k ∧ k < 83 + 8 * p + j) → ¬ (131 + 8 * p ≤ k ∧ k < 131 + 8 * p + j) → τ c k = σ c k
theorem QI_put {τ : Sg} {x p j : Nat} (hj : j < 8) (hp : p < 6) (h : QI σ τ c mi n x p j) : QI σ (sf (sf τ c (83 + 8 * p + j) (oI (pr mi n x j))) c (131 + 8 * p + j) (oI (pm mi n x j))) c mi n x p (j + 1) := by
  obtain ⟨h2, h3, h4⟩ := h
  refine ⟨fun i a => by rw [sf_ne a, sf_ne a]; exact h2 i a, fun t ht => ?_, fun k k1 k2 => ?_⟩
  · rw [sf_row]
    by_cases d : t = j
    · subst d; rw [upd_ne (by omega), sf_row, upd_self, upd_self]; exact ⟨rfl, rfl⟩
    · rw [upd_ne (by omega), upd_ne (by omega), sf_row, upd_ne (by omega), upd_ne (by omega)]; exact h3 t (by omega)
  · rw [sf_row, upd_ne (by omega), sf_row, upd_ne (by omega)]
    exact h4 k (by omega) (by omega)
theorem po_ok (hc : rC c) (hV : VY n mi np nw ho ye q ki to ag ar am wa go) (hnp : np ≤ 6) (hS : ST σ n np nw ki go) (hF : PF σ (dist mi)) (h : MC σ c mi np nw ho ye to ag ar am wa) {p x : Nat} (hp : p < np) (hx : to p = some x) : ∃ σ', f_X7_paintOn σ c (nI p) = some σ' ∧ (∀ i, i ≠ c → σ' i = σ i) ∧ MC σ' c mi np nw ho ye to ag (up1 ar p (pr mi n x)) (up1 am p (pm mi n x)) wa := by
  have h8 := hV.n8
  have h5 := hV.nw5
  have hcb := hc.b
  have hb := hV.1.2.2.1
  have hxn := hV.toL hx
  obtain ⟨m1, m2, m3, m4, m5, m6, m7⟩ := h
  unfold f_X7_paintOn
  rw [hc.l, L_71, nI_add, ga_n (by omega) (by omega), m2 p hp, hx]
  simp only [sb]
  obtain ⟨τ, e, h1, h2, h3⟩ := lp_inv (b := fun st => f_X7_paintOn_b1 c (nI p) (oI (some x)) st.1 st.2) (s0 := ((0 : Int32), σ)) (Post := fun (τ : Sg) => QI σ τ c mi n x p 8) (fun j (s : Int32 × Sg) => s.1 = nI j ∧ QI σ s.2 c mi n x p j) 8 (by omega) ⟨rfl, fun _ _ => rfl, fun t ht => absurd ht (by omega), fun _ _ _ => rfl⟩ (by
    rintro j ⟨u, τ⟩ hj ⟨rfl, hI⟩
    have hI : QI σ τ c mi n x p j := hI
    have hM : MM τ c mi := fun a b ha hb => by rw [hI.2.2 _ (by omega) (by omega)]; exact m1 a b ha hb
    show ∃ s', f_X7_paintOn_b1 c (nI p) (nI x) (nI j) τ = _ ∧ _
    unfold f_X7_paintOn_b1
    rw [L_8, if_neg (nI_ge hj (by omega)), L_0, l186, ga_n (by omega) (by omega), hI.1 _ (by omega), hS.1, hc.l, l199, L_83, L_131, nI_mul, nI_add, nI_add, nI_add, nI_add, nI_1]
    simp only [sb]
    have two : ∀ (a b : Int32), a = oI (pr mi n x j) → b = oI (pm mi n x j) → ∃ s', (sa (sf τ c (83 + 8 * p + j) a) c 179 (nI (131 + 8 * p + j)) b).bind (fun σ93 => some (Sum.inl (nI (j + 1), σ93))) = some (.inl s' : (Int32 × Sg) ⊕ Sg) ∧ s'.1 = nI (j + 1) ∧ QI σ s'.2 c mi n x p (j + 1) := fun a b ha hb => by
      subst ha; subst hb
      rw [sa_n (by omega) (by omega)]
      exact ⟨_, rfl, rfl, QI_put hj (by omega) hI⟩
    by_cases cj : j < n
    · have epr : pr mi n x j = fs mi x j := if_pos cj
      rw [if_neg (nI_ge cj (by omega)), nx_ok hc hb hM (PF_fr hF (hI.1 _ (by omega))) (by omega) (by omega)]
      simp only [sb]
      rw [sa_n (by omega) (by omega)]
      simp only [sb]
      cases e1 : fs mi x j with
      | none =>
        have epm : pm mi n x j = none := by unfold pm; rw [epr, e1]
        rw [if_neg (fun z => z oI_n)]
        exact two _ _ (by rw [epr, e1]) (by rw [epm]; rfl)
      | some u =>
        obtain ⟨d, hd⟩ := fs_dist e1
        have hu := fs_lt hV.1 e1
        have epm : pm mi n x j = some d := by unfold pm; rw [epr, e1]; exact hd
        rw [if_pos (oI_ne (by omega)), nI_mul, nI_add, ga_n (by omega) (by omega), sf_ne (by omega), hI.1 _ (by omega), hF x j (by omega) (by omega), hd]
        simp only [sb]
        exact two _ _ (by rw [epr, e1]) (by rw [epm]; rfl)
    · have epr : pr mi n x j = none := if_neg cj
      have epm : pm mi n x j = none := by unfold pm; rw [epr]
      rw [if_pos (nI_le (by omega) (by omega)), sa_n (by omega) (by omega)]
      simp only [sb]
      exact two _ _ (by rw [epr]; rfl) (by rw [epm]; rfl)) (by
    rintro ⟨u, τ⟩ ⟨rfl, hI⟩
    show ∃ s', f_X7_paintOn_b1 c (nI p) (nI x) (nI 8) τ = _ ∧ _
    unfold f_X7_paintOn_b1
    rw [L_8, if_pos (nI_le (Nat.le_refl _) (by omega))]
    exact ⟨_, rfl, hI⟩)
  rw [e]
  refine ⟨τ, rfl, h1, fun a b ha hb => ?_, fun p' hp' => ?_, fun p' hp' => ?_, fun p' hp' ht t h8' => ?_, fun v hv => ?_, ?_, ?_⟩
  · rw [h3 _ (by omega) (by omega)]; exact m1 a b ha hb
  · rw [h3 _ (by omega) (by omega)]; exact m2 p' hp'
  · rw [h3 _ (by omega) (by omega)]; exact m3 p' hp'
  · unfold up1
    by_cases d : p' = p
    · subst d; rw [if_pos rfl, if_pos rfl]; exact h2 t h8'
    · rw [if_neg d, if_neg d, h3 _ (by omega) (by omega), h3 _ (by omega) (by omega)]; exact m4 p' hp' ht t h8'
  · rw [h3 _ (by omega) (by omega)]; exact m5 v hv
  · rw [h3 _ (by omega) (by omega)]; exact m6
  · rw [h3 _ (by omega) (by omega)]; exact m7
theorem ly_ok (hc : rC c) (h : MC σ c mi np nw ho ye to ag ar am wa) (h6 : np ≤ 6) (h5 : nw ≤ 5) {a b l : Nat} (ha : a < 8) (hb : b < 8) : ∃ σ', f_X7_layOn σ c (nI a) (nI b) (nI l) = some σ' ∧ (∀ i, i ≠ c → σ' i = σ i) ∧ MC σ' c (sM mi a b l) np nw ho ye to ag ar am wa := by
  obtain ⟨m1, m2, m3, m4, m5, m6, m7⟩ := h
  unfold f_X7_layOn
  rw [L_7, L_8, hc.l, nI_mul, nI_mul, nI_add, nI_add, nI_add, nI_add, sa_n (by omega) (by omega)]
  simp only [sb]
  rw [sa_n (by omega) (by omega)]
  refine ⟨_, rfl, fun i hi => (sf_ne hi).trans (sf_ne hi), fun a' b' ha' hb' => ?_, fun p hp => ?_, fun p hp => ?_, fun p hp ht t h8 => ?_, fun v hv => ?_, ?_, ?_⟩
  · unfold sM
    rw [sf_row]
    by_cases d : a' = b ∧ b' = a
    · rw [if_pos (Or.inr d)]; obtain ⟨rfl, rfl⟩ := d; exact upd_self
    · rw [upd_ne (by omega), sf_row]
      by_cases d2 : a' = a ∧ b' = b
      · rw [if_pos (Or.inl d2)]; obtain ⟨rfl, rfl⟩ := d2; exact upd_self
      · rw [upd_ne (by omega), if_neg (fun q => q.elim d2 d)]; exact m1 a' b' ha' hb'
  · rw [sf_row, upd_ne (by omega), sf_row, upd_ne (by omega)]; exact m2 p hp
  · rw [sf_row, upd_ne (by omega), sf_row, upd_ne (by omega)]; exact m3 p hp
  · rw [sf_row, upd_ne (by omega), upd_ne (by omega), sf_row, upd_ne (by omega), upd_ne (by omega)]; exact m4 p hp ht t h8
  · rw [sf_row, upd_ne (by omega), sf_row, upd_ne (by omega)]; exact m5 v hv
  · rw [sf_row, upd_ne (by omega), sf_row, upd_ne (by omega)]; exact m6
  · rw [sf_row, upd_ne (by omega), sf_row, upd_ne (by omega)]; exact m7
/-- roads, or their miles, summed -/
theorem rs_ok (hc : rC c) (hb : ∀ a b, mi a b ≤ 9) (h : MM σ c mi) (bm : Bool) : f_X7_roadsOf σ c (if bm = true then 1 else 0) = some (nI (s2 (fun a b => if bm = true then mi a b else one (mi a b)) 8)) := by
  generalize hg : (fun a b => if bm = true then mi a b else one (mi a b)) = g
  have hgv : ∀ a b, g a b = if bm = true then mi a b else one (mi a b) := fun a b => by rw [← hg]
  unfold f_X7_roadsOf
  rw [lp_for0 (b := fun st => f_X7_roadsOf_b2 σ c (if bm = true then 1 else 0) st.1 st.2) (s0 := ((0 : Int32), (0 : Int32))) (r := nI (s2 g 8)) (fun j => (nI (sm (fun a => sm (fun b => if a < b then g a b else 0) 8) j), nI j)) 8 (by omega) ?_ ?_ rfl]
  · rfl
  · intro a ha
    show f_X7_roadsOf_b2 σ c _ (nI (sm _ a)) (nI a) = _
    unfold f_X7_roadsOf_b2
    rw [L_8, if_neg (nI_ge ha (by omega)), nI_1]
    have e : lp (fun st => f_X7_roadsOf_b1 σ c (if bm = true then 1 else 0) (nI a) st.1 st.2) FU (nI (sm (fun a => sm (fun b => if a < b then g a b else 0) 8) a), nI (a + 1)) = some (nI (sm (fun a => sm (fun b => if a < b then g a b else 0) 8) a + sm (fun b => if a < b then g a b else 0) 8)) := by
      have := lp_for (b := fun st => f_X7_roadsOf_b1 σ c (if bm = true then 1 else 0) (nI a) st.1 st.2) (r := nI (sm (fun a => sm (fun b => if a < b then g a b else 0) 8) a + sm (fun b => if a < b then g a b else 0) 8)) (fun b => (nI (sm (fun a => sm (fun b => if a < b then g a b else 0) 8) a + sm (fun b => if a < b then g a b else 0) b), nI b)) 8 (a + 1) FU (by omega) (by unfold FU; omega) (fun b hb1 hb2 => by
        show f_X7_roadsOf_b1 σ c _ (nI a) (nI _) (nI b) = some (Sum.inl (nI (_ + (sm _ b + (if a < b then g a b else 0))), nI (b + 1)))
        unfold f_X7_roadsOf_b1
        rw [L_8, if_neg (nI_ge hb2 (by omega)), L_7, nI_mul, nI_add, nI_add, hc.l, ga_n (by omega) (by omega), h a b ha hb2, if_pos (show a < b by omega), hgv]
        simp only [sb]
        have hmi := hb a b
        cases bm
        · rw [show (if false = true then (1 : Int32) else 0) = 0 from rfl, if_pos rfl, nI_1 b, show (if false = true then mi a b else one (mi a b)) = one (mi a b) from rfl]
          unfold one
          by_cases cc : 0 < mi a b
          · rw [if_neg (nI_nle cc (by omega)), if_pos cc, nI_1, Nat.add_assoc]
          · rw [if_pos (by rw [show mi a b = 0 by omega]; decide), if_neg cc, L_0, nI_add]; rfl
        · rw [if_pos rfl, if_neg one0, nI_1, nI_add, if_pos rfl, Nat.add_assoc]) (by
        show f_X7_roadsOf_b1 σ c _ (nI a) (nI _) (nI 8) = _
        unfold f_X7_roadsOf_b1
        rw [L_8, if_pos (nI_le (Nat.le_refl _) (by omega))])
      rw [sm_0 (k := a + 1) (fun t ht => if_neg (by omega))] at this
      exact this
    rw [e]
    simp only [sb]
    unfold f_X7_roadsOf_k1
    rw [nI_1]
    rfl
  · show f_X7_roadsOf_b2 σ c _ (nI _) (nI 8) = _
    unfold f_X7_roadsOf_b2
    rw [L_8, if_pos (nI_le (Nat.le_refl _) (by omega))]
    rfl
end MG
