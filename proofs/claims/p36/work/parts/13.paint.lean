/-! Part 13: a yard of the class: painting, years, moving, roads. -/
theorem sb {α β : Type} {a : α} {f : α → Option β} : (some a).bind f = f a := rfl
def pr (mi : Mi) (n x t : Nat) : Option Nat := if t < n then fs mi x t else none
def pm (mi : Mi) (n x t : Nat) : Option Nat := match pr mi n x t with
  | none => none
  | some _ => dist mi x t
theorem fs_dist {mi : Mi} {a b t : Nat} (h : fs mi a b = some t) : ∃ d, dist mi a b = some d := by
  unfold fs at h
  by_cases e : a = b
  · rw [if_pos e] at h; cases h
  · rw [if_neg e] at h
    cases hd : dist mi a b with
    | none => rw [hd] at h; cases h
    | some d => exact ⟨d, rfl⟩
section YF
variable {σ σ' : Sg} {y n : Nat} {mi : Mi} {np nw ho ye q : Nat} {ki : Nat → Nat} {to : Nat → Option Nat} {ag : Nat → Nat} {ar am : Nat → Nat → Option Nat} {wa go : Nat → Nat}
/-- rows of arms, as painted up to t -/
def PI (σ τ : Sg) (y : Nat) (mi : Mi) (n x p j : Nat) : Prop := KC τ ∧ (∀ i, i ≠ y + 8 + 1 → i ≠ y + 10 + 1 → τ i = σ i) ∧ (∀ t, t < j → τ (y + 8 + 1) (p * 8 + t) = oI (pr mi n x t) ∧ τ (y + 10 + 1) (p * 8 + t) = oI (pm mi n x t)) ∧ ∀ k, (k < p * 8 ∨ p * 8 + j ≤ k) → τ (y + 8 + 1) k = σ (y + 8 + 1) k ∧ τ (y + 10 + 1) k = σ (y + 10 + 1) k
theorem PI_put {τ : Sg} {x p j : Nat} (hg : gY y) (h : PI σ τ y mi n x p j) : PI σ (sf (sf τ (y + 8 + 1) (p * 8 + j) (oI (pr mi n x j))) (y + 10 + 1) (p * 8 + j) (oI (pm mi n x j))) y mi n x p (j + 1) := by
  obtain ⟨h1, h2, h3, h4⟩ := h
  refine ⟨KC_sf (KC_sf h1 (by rw [hg.2.2.2.2.1.2]; decide)) (by rw [hg.2.2.2.2.2.1.2]; decide), fun i a b => by rw [sf_ne b, sf_ne a]; exact h2 i a b, fun t ht => ?_, fun k hk => ?_⟩
  · rw [sf_row, sf_ne (show y + 8 + 1 ≠ y + 10 + 1 by omega), sf_ne (show y + 10 + 1 ≠ y + 8 + 1 by omega), sf_row]
    by_cases c : t = j
    · subst c; rw [upd_self, upd_self]; exact ⟨rfl, rfl⟩
    · rw [upd_ne (by omega), upd_ne (by omega)]; exact h3 t (by omega)
  · rw [sf_row, sf_ne (show y + 8 + 1 ≠ y + 10 + 1 by omega), sf_ne (show y + 10 + 1 ≠ y + 8 + 1 by omega), sf_row, upd_ne (by omega), upd_ne (by omega)]
    exact h4 k (by omega)
theorem pp_core (hK : KC σ) (hg : gY y) (hV : VM n mi) (hR : RC σ (y + 1) n mi) (hP : PC σ (y + 1) n mi) {x p : Nat} (hx : x < n) (hp : p < 8) (ht : f_X0_at σ (y + 6) (nI p) (1 : Int32) = some (nI x)) : ∃ σ', f_X5_paintPost σ y (nI p) = some (nI (cn (fun t => (pr mi n x t).isSome) 8), σ') ∧ PI σ σ' y mi n x p 8 := by
  have h8 := hV.2.1
  unfold f_X5_paintPost
  rw [ht]
  show ∃ σ', (lp (fun st => f_X5_paintPost_b1 y (nI p) (nI x) st.1 st.2.1 st.2.2) FU ((0 : Int32), (0 : Int32), σ)).bind _ = _ ∧ _
  obtain ⟨r, e, h1, h2⟩ := lp_inv (b := fun st => f_X5_paintPost_b1 y (nI p) (nI x) st.1 st.2.1 st.2.2) (s0 := ((0 : Int32), (0 : Int32), σ)) (Post := fun (r : Int32 × Sg) => r.1 = nI (cn (fun t => (pr mi n x t).isSome) 8) ∧ PI σ r.2 y mi n x p 8) (fun j (s : Int32 × Int32 × Sg) => s.1 = nI (cn (fun t => (pr mi n x t).isSome) j) ∧ s.2.1 = nI j ∧ PI σ s.2.2 y mi n x p j) 8 (by omega) ⟨rfl, rfl, hK, fun _ _ _ => rfl, fun t ht => absurd ht (by omega), fun _ _ => ⟨rfl, rfl⟩⟩ (by
    rintro j ⟨c, u, τ⟩ hj ⟨rfl, rfl, hI⟩
    have hI : PI σ τ y mi n x p j := hI
    obtain ⟨hK', hf, -, -⟩ := hI
    have hR' : RC τ (y + 1) n mi := RC_fr hR (hf _ (by omega) (by omega)) (hf _ (by omega) (by omega))
    have hP' : PC τ (y + 1) n mi := PC_fr hP (hf _ (by omega) (by omega))
    show ∃ s', f_X5_paintPost_b1 y (nI p) (nI x) (nI (cn _ j)) (nI j) τ = _ ∧ _
    unfold f_X5_paintPost_b1
    rw [L_8, if_neg (nI_ge hj (by omega)), nI_1, nI_1]
    have two : ∀ (a b : Int32), a = oI (pr mi n x j) → b = oI (pm mi n x j) → ∀ (cc : Int32), cc = nI (cn (fun t => (pr mi n x t).isSome) (j + 1)) → ∃ s' : Int32 × Int32 × Sg, (f_X0_put (sf τ (y + 8 + 1) (p * 8 + j) a) (y + 10) (nI p) (nI j) b).bind (fun σ89 => some (Sum.inl (cc, nI (j + 1), σ89))) = some (.inl s' : (Int32 × Int32 × Sg) ⊕ (Int32 × Sg)) ∧ s'.1 = nI (cn (fun t => (pr mi n x t).isSome) (j + 1)) ∧ s'.2.1 = nI (j + 1) ∧ PI σ s'.2.2 y mi n x p (j + 1) := fun a b ha hb cc hc => by
      subst ha; subst hb; subst hc
      rw [put_in (KC_sf hK' (by rw [hg.2.2.2.2.1.2]; decide)) hg.2.2.2.2.2.1.1 hj (by omega)]
      exact ⟨_, rfl, rfl, rfl, PI_put hg hI⟩
    by_cases c : j < n
    · have hit : f_X5_isTown τ y (nI j) = some 1 := by
        unfold f_X5_isTown f_X3_towns
        rw [if_neg (nI_pos (by omega)), hR'.1]
        show (if nI n ≤ nI j then _ else _) = _
        rw [if_neg (nI_ge c (by omega))]
      rw [hit]
      simp only [sb]
      rw [if_neg one0, fs_ok hK' hg.2.2.1.1 hV hR' hP' hx c]
      simp only [sb]
      rw [put_in hK' hg.2.2.2.2.1.1 hj (by omega)]
      have epr : pr mi n x j = fs mi x j := if_pos c
      cases e1 : fs mi x j with
      | none =>
        have epm : pm mi n x j = none := by unfold pm; rw [epr, e1]
        simp only [sb, oI_n]
        rw [if_neg (fun z => z trivial)]
        simp only [if_true]
        exact two _ _ (by rw [epr, e1]; rfl) (by rw [epm]; rfl) _ (by show _ = nI (cn _ j + (if (pr mi n x j).isSome = true then 1 else 0)); rw [epr, e1]; rfl)
      | some u =>
        obtain ⟨d, hd⟩ := fs_dist e1
        have hu := fs_lt hV e1
        have epm : pm mi n x j = some d := by unfold pm; rw [epr, e1]; exact hd
        have hPs : PC (sf τ (y + 8 + 1) (p * 8 + j) (oI (some u))) (y + 1) n mi := PC_fr hP' (sf_ne (by omega))
        simp only [sb]
        rw [if_pos (oI_ne (by omega)), pm_ok (KC_sf hK' (by rw [hg.2.2.2.2.1.2]; decide)) hg.2.2.1.1 hPs hx c h8]
        simp only [sb, if_neg (oI_ne (x := u) (by omega))]
        exact two _ _ (by rw [epr, e1]) (by rw [epm, ← hd]) _ (by show _ = nI (cn _ j + (if (pr mi n x j).isSome = true then 1 else 0)); rw [epr, e1]; rfl)
    · have hit : f_X5_isTown τ y (nI j) = some 0 := by
        unfold f_X5_isTown f_X3_towns
        rw [if_neg (nI_pos (by omega)), hR'.1]
        show (if nI n ≤ nI j then _ else _) = _
        rw [if_pos (nI_le (by omega) (by omega))]
      have epr : pr mi n x j = none := if_neg c
      have epm : pm mi n x j = none := by unfold pm; rw [epr]
      rw [hit]
      simp only [sb]
      rw [if_pos trivial, put_in hK' hg.2.2.2.2.1.1 hj (by omega)]
      simp only [sb]
      exact two _ _ (by rw [epr]; rfl) (by rw [epm]; rfl) _ (by show _ = nI (cn _ j + (if (pr mi n x j).isSome = true then 1 else 0)); rw [epr]; rfl)) (by
    rintro ⟨c, u, τ⟩ ⟨rfl, rfl, hI⟩
    show ∃ s', f_X5_paintPost_b1 y (nI p) (nI x) (nI _) (nI 8) τ = _ ∧ _
    unfold f_X5_paintPost_b1
    rw [L_8, if_pos (nI_le (Nat.le_refl _) (by omega))]
    exact ⟨_, rfl, rfl, hI⟩)
  obtain ⟨c, τ⟩ := r
  rw [e]
  have h1 : c = _ := h1
  exact ⟨τ, by rw [h1]; rfl, h2⟩
def up1 (f : Nat → Nat → Option Nat) (p : Nat) (g : Nat → Option Nat) : Nat → Nat → Option Nat := fun p' => if p' = p then g else f p'
/-- a post is painted -/
theorem pp_ok (hK : KC σ) (hg : gY y) (hV : VY n mi np nw ho ye q ki to ag ar am wa go) (h : YC σ y n mi np nw ho ye q ki to ag ar am wa go) {p x : Nat} (hp : p < np) (hx : to p = some x) : ∃ σ', f_X5_paintPost σ y (nI p) = some (nI (cn (fun t => (pr mi n x t).isSome) 8), σ') ∧ KC σ' ∧ (∀ i, (i < y ∨ y + 13 < i) → σ' i = σ i) ∧ YC σ' y n mi np nw ho ye q ki to ag (up1 ar p (pr mi n x)) (up1 am p (pm mi n x)) wa go := by
  have h8 := hV.np8
  have e1 := po1 hK hg h h8 hp
  rw [hx] at e1
  obtain ⟨σ', e, hK', hf, hn, ho⟩ := pp_core hK hg hV.1 h.2.1 h.2.2.1 (hV.toL hx) (by omega) e1
  obtain ⟨c1, c2, c3, c4, c5, c6, c7⟩ := h
  refine ⟨σ', e, hK', fun i hi => hf i (by omega) (by omega), ?_, RC_fr c2 (hf _ (by omega) (by omega)) (hf _ (by omega) (by omega)), PC_fr c3 (hf _ (by omega) (by omega)), ?_, ?_, ?_, ?_⟩
  · rw [hf y (by omega) (by omega)]; exact c1
  · rw [hf (y + 6 + 1) (by omega) (by omega)]; exact c4
  · intro p' hp' t ht
    unfold up1
    by_cases c : p' = p
    · subst c; rw [if_pos rfl]; exact (hn t ht).1
    · rw [if_neg c, (ho _ (by omega)).1]; exact c5 p' hp' t ht
  · intro p' hp' t ht
    unfold up1
    by_cases c : p' = p
    · subst c; rw [if_pos rfl]; exact (hn t ht).2
    · rw [if_neg c, (ho _ (by omega)).2]; exact c6 p' hp' t ht
  · rw [hf (y + 12 + 1) (by omega) (by omega)]; exact c7
theorem pr_lt (hV : VM n mi) {x t u : Nat} (h : pr mi n x t = some u) : u < n := by
  unfold pr at h
  by_cases c : t < n
  · rw [if_pos c] at h; exact (fs_lt hV h).1
  · rw [if_neg c] at h; cases h
theorem pm_le (hV : VM n mi) {x t d : Nat} (h : pm mi n x t = some d) : d ≤ 2304 := by
  unfold pm at h
  cases e : pr mi n x t with
  | none => rw [e] at h; cases h
  | some u => rw [e] at h; exact dN_2304 hV.2.2.1 (Nat.le_refl 8) h
theorem VY_p (hV : VY n mi np nw ho ye q ki to ag ar am wa go) {p x : Nat} (hx : to p = some x) : VY n mi np nw ho ye q ki to ag (up1 ar p (pr mi n x)) (up1 am p (pm mi n x)) wa go := by
  obtain ⟨v1, v2, v3, v4, v5, v6, v7, v8, v9, v10⟩ := hV
  refine ⟨v1, v2, v3, v4, v5, ?_, ?_, v8, v9, ?_⟩
  · intro p' t u h
    unfold up1 at h
    by_cases c : p' = p
    · rw [if_pos c] at h; exact pr_lt v1 h
    · rw [if_neg c] at h; exact v6 p' t u h
  · intro p' t d h
    unfold up1 at h
    by_cases c : p' = p
    · rw [if_pos c] at h; exact pm_le v1 h
    · rw [if_neg c] at h; exact v7 p' t d h
  · intro p' t h
    unfold up1
    by_cases c : p' = p
    · subst c; rw [hx] at h; cases h
    · rw [if_neg c, if_neg c]; exact v10 p' t h
/-- a change of the posts' row at one cell -/
theorem YC_po {ki' : Nat → Nat} {to' : Nat → Option Nat} {ag' : Nat → Nat} (h : YC σ y n mi np nw ho ye q ki to ag ar am wa go) (hf : ∀ i, i ≠ y + 6 + 1 → σ' i = σ i) (h4 : ∀ p, p < np → σ' (y + 6 + 1) (p * 3) = nI (ki' p) ∧ σ' (y + 6 + 1) (p * 3 + 1) = oI (to' p) ∧ σ' (y + 6 + 1) (p * 3 + 2) = nI (ag' p)) : YC σ' y n mi np nw ho ye q ki' to' ag' ar am wa go := by
  obtain ⟨c1, c2, c3, c4, c5, c6, c7⟩ := h
  refine ⟨?_, RC_fr c2 (hf _ (by omega)) (hf _ (by omega)), PC_fr c3 (hf _ (by omega)), h4, ?_, ?_, ?_⟩
  · rw [hf y (by omega)]; exact c1
  · rw [hf (y + 8 + 1) (by omega)]; exact c5
  · rw [hf (y + 10 + 1) (by omega)]; exact c6
  · rw [hf (y + 12 + 1) (by omega)]; exact c7
def upN {α : Type} (f : Nat → α) (p : Nat) (v : α) : Nat → α := fun p' => if p' = p then v else f p'
theorem mp_ok (hK : KC σ) (hg : gY y) (h : YC σ y n mi np nw ho ye q ki to ag ar am wa go) (h8 : np ≤ 8) {p x : Nat} (hp : p < np) : ∃ σ', f_X5_movePost σ y (nI p) (nI x) = some σ' ∧ KC σ' ∧ (∀ i, (i < y ∨ y + 13 < i) → σ' i = σ i) ∧ YC σ' y n mi np nw ho ye q ki (upN to p (some x)) ag ar am wa go := by
  unfold f_X5_movePost
  rw [L_1, put_in hK hg.2.2.2.1.1 (c := 1) (by omega) (by omega)]
  refine ⟨_, rfl, KC_sf hK (by rw [hg.2.2.2.1.2]; decide), fun i hi => sf_ne (by omega), YC_po h (fun i hi => sf_ne hi) (fun p' hp' => ?_)⟩
  obtain ⟨a1, a2, a3⟩ := h.2.2.2.1 p' hp'
  rw [sf_row, upd_ne (by omega), upd_ne (k := p * 3 + 1) (j := p' * 3 + 2) (by omega)]
  refine ⟨a1, ?_, a3⟩
  unfold upN
  by_cases c : p' = p
  · subst c; rw [upd_self, if_pos rfl]; rfl
  · rw [upd_ne (by omega), if_neg c]; exact a2
theorem ti_ok (hK : KC σ) (hg : gY y) (h : YC σ y n mi np nw ho ye q ki to ag ar am wa go) (h8 : np ≤ 8) {p k : Nat} (hp : p < np) : ∃ σ', f_X5_turnInto σ y (nI p) (nI k) = some σ' ∧ KC σ' ∧ (∀ i, (i < y ∨ y + 13 < i) → σ' i = σ i) ∧ YC σ' y n mi np nw ho ye q (upN ki p k) to ag ar am wa go := by
  unfold f_X5_turnInto
  rw [L_0, put_in hK hg.2.2.2.1.1 (c := 0) (by omega) (by omega)]
  refine ⟨_, rfl, KC_sf hK (by rw [hg.2.2.2.1.2]; decide), fun i hi => sf_ne (by omega), YC_po h (fun i hi => sf_ne hi) (fun p' hp' => ?_)⟩
  obtain ⟨a1, a2, a3⟩ := h.2.2.2.1 p' hp'
  rw [sf_row, upd_ne (j := p' * 3 + 1) (by omega), upd_ne (j := p' * 3 + 2) (by omega)]
  refine ⟨?_, a2, a3⟩
  unfold upN
  by_cases c : p' = p
  · subst c; rw [show p' * 3 + 0 = p' * 3 from rfl, upd_self, if_pos rfl]
  · rw [upd_ne (by omega), if_neg c]; exact a1
theorem tw_ok (hK : KC σ) (hg : gY y) (h : YC σ y n mi np nw ho ye q ki to ag ar am wa go) {q' : Nat} : ∃ σ', f_X5_twist σ y (nI q') = some σ' ∧ KC σ' ∧ (∀ i, (i < y ∨ y + 13 < i) → σ' i = σ i) ∧ YC σ' y n mi np nw ho ye q' ki to ag ar am wa go := by
  unfold f_X5_twist
  refine ⟨_, rfl, KC_sf hK (by rw [hg.2.1]; decide), fun i hi => sf_ne (by omega), YC_own h (fun i hi => sf_ne hi) ?_ (Nat.le_refl _) (Nat.le_refl _)⟩
  obtain ⟨⟨a1, a2, a3, a4, a5⟩, -⟩ := h
  rw [sf_row, upd_ne (by decide), upd_ne (by decide), upd_ne (by decide), upd_ne (by decide), upd_self]
  exact ⟨a1, a2, a3, a4, rfl⟩
theorem dp_ok (hK : KC σ) (hg : gY y) (h : YC σ y n mi np nw ho ye q ki to ag ar am wa go) : ∃ σ', f_X5_dropPosts σ y = some σ' ∧ KC σ' ∧ (∀ i, (i < y ∨ y + 13 < i) → σ' i = σ i) ∧ YC σ' y n mi 0 nw ho ye q ki to ag ar am wa go := by
  unfold f_X5_dropPosts
  refine ⟨_, rfl, KC_sf hK (by rw [hg.2.1]; decide), fun i hi => sf_ne (by omega), YC_own h (fun i hi => sf_ne hi) ?_ (Nat.zero_le _) (Nat.le_refl _)⟩
  obtain ⟨⟨a1, a2, a3, a4, a5⟩, -⟩ := h
  rw [sf_row, upd_self, upd_ne (by decide), upd_ne (by decide), upd_ne (by decide), upd_ne (by decide)]
  exact ⟨rfl, a2, a3, a4, a5⟩
end YF
