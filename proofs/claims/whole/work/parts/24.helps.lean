/-! Part 24: where one more post helps most. -/
theorem upd_back {f : Nat → Int32} {k : Nat} {x v : Int32} (h : f k = v) : upd (upd f k x) k v = f := by
  funext j
  by_cases e : j = k
  · subst e; rw [upd_self]; exact h.symm
  · rw [upd_ne e, upd_ne e]
section HE
variable {σ : Sg} {n : Nat} {mi : Mi} {np nw ho ye : Nat} {ki : Nat → Nat} {to : Nat → Option Nat} {ag : Nat → Nat} {ar am : Nat → Nat → Option Nat} {wa go : Nat → Nat}
/-- how many have come in forty hours, with plain posts in a set of towns -/
def cX (mi : Mi) (n np nw ex al : Nat) (ki : Nat → Nat) (to : Nat → Option Nat) (ag : Nat → Nat) (ar : Nat → Nat → Option Nat) (go : Nat → Nat) (ho : Nat) (wa : Nat → Nat) : Nat := cn (fun v => decide (hsXK mi n np 0 ex al ki to ag ar go ho wa 40 v = go v)) nw
theorem cX_le {ex al : Nat} (h5 : nw ≤ 5) : cX mi n np nw ex al ki to ag ar go ho wa ≤ 5 := Nat.le_trans (cn_le _) h5
theorem chi_ok (hK : KC σ) (hV : VY n mi np nw ho ye 0 ki to ag ar am wa go) (hnp : np ≤ 6) (hh : ho + 40 ≤ 3000) (h : YC σ 6 n mi np nw ho ye 0 ki to ag ar am wa go) {t : Nat} (ht : t < n) (hl : loP to t np = none) : ∃ σ', f_X6_comersHelpedIn σ (nI t) = some (nI (cX mi n np nw (2 ^ t) 0 ki to ag ar go ho wa), σ') ∧ KC σ' ∧ ∀ i, (i < 20 ∨ 33 < i) → σ' i = σ i := by
  obtain ⟨τ1, e1, K1, f1, Y1⟩ := yb_ok hK gY20 gY6 (by omega) h hV.np8 hV.nw5 hV.n8
  obtain ⟨τ2, e2, K2, f2, Y2⟩ := sp_ok K1 gY20 hV.1 Y1 (by omega) ht
  have V2 := VY_sp hV (by omega) ht
  obtain ⟨τ3, e3, K3, f3, Y3⟩ := ph_ok K2 gY20 V2 Y2 (k := 40) (by omega) hh
  have e4 := cc_ok K3 gY20 (hsK_lt V2 40 hh) Y3
  refine ⟨τ3, ?_, K3, fun i hi => (f3 i (by omega)).trans ((f2 i (by omega)).trans (f1 i (by omega)))⟩
  unfold f_X6_comersHelpedIn
  rw [e1]
  dsimp only [sb]
  rw [e2]
  dsimp only [sb]
  rw [L_40, e3]
  dsimp only [sb]
  rw [e4]
  dsimp only [sb]
  rw [hsK_X (ex := 2 ^ t) (al := 0) hV (fun h x g hx hg => ?_) 40 hh]
  · rfl
  · rw [st1_sp (by simp)]
    unfold stX
    rw [if_pos rfl]
    cases loP to x np with
    | some p => rfl
    | none =>
      show gt mi x (if x = t then pr mi n x g else nrU mi x n) = gt mi x (if (2 ^ t).testBit x = true then fs mi x g else nrU mi x n)
      rw [Nat.testBit_two_pow, pr_n hg]
      by_cases e : x = t
      · subst e; rw [if_pos rfl, if_pos (decide_eq_true rfl)]
      · rw [if_neg e, if_neg (by simp [Ne.symm e])]
theorem mhi_ok (hV : VY n mi np nw ho ye 0 ki to ag ar am wa go) (hnp : np ≤ 6) (hS : ST σ n np nw ki go) (hF : FL σ 0 0 0) (h : MC σ 195 mi np nw ho ye to ag ar am wa) (hh : ho + 40 ≤ 3000) {ex : Nat} (hex : ex < 256) : ∃ σ1 σ2, f_X7_take σ = some σ1 ∧ f_X7_comeBy (sf σ1 184 22 (nI ex)) = some (nI (cX mi n np nw ex 0 ki to ag ar go ho wa), σ2) ∧ ∀ i, i ≠ 198 → i ≠ 199 → i ≠ 200 → sf σ2 184 22 0 i = σ i := by
  obtain ⟨σ1, e1, f1, M1⟩ := take_ok h hnp hV.nw5
  have F1 : FL (sf σ1 184 22 (nI ex)) 0 ex 0 := by
    unfold FL
    rw [sf_row, upd_ne (by omega), upd_self, upd_ne (by omega), f1 _ (by omega)]
    exact ⟨hF.1, rfl, hF.2.2⟩
  obtain ⟨σ2, e2, f2, M2⟩ := cb_ok hV hnp (ST_fr hS (fun i a b => (sf_ne (by omega)).trans (f1 i (by omega)))) F1 hex (by omega) (MC_fr M1 (sf_ne (by omega))) hh
  refine ⟨σ1, σ2, e1, e2, fun i a b c => ?_⟩
  by_cases e : i = 184
  · subst e
    rw [sf_row, f2 _ a b c, sf_row, f1 _ a]
    exact upd_back hF.2.1
  · rw [sf_ne e, f2 _ a b c, sf_ne e, f1 _ a]
def hpB (to : Nat → Option Nat) (np : Nat) (C : Nat → Nat) : Nat → Option (Nat × Nat)
  | 0 => none
  | k + 1 => if loP to k np = none then (match hpB to np C k with
    | none => some (k, C k)
    | some r => if C k ≤ r.2 then some r else some (k, C k)) else hpB to np C k
def o1 (o : Option (Nat × Nat)) : Int32 := match o with
  | none => -4
  | some r => nI r.1
def o2 (d : Int32) (o : Option (Nat × Nat)) : Int32 := match o with
  | none => d
  | some r => nI r.2
theorem hpB_lt {C : Nat → Nat} (hC : ∀ t, C t ≤ 5) : ∀ {k : Nat} {r : Nat × Nat}, hpB to np C k = some r → r.1 < k ∧ r.2 ≤ 5
  | 0, r, e => by cases e
  | k + 1, r, e => by
    unfold hpB at e
    by_cases c : loP to k np = none
    · rw [if_pos c] at e
      cases o : hpB to np C k with
      | none => rw [o] at e; cases e; exact ⟨Nat.lt_succ_self k, hC k⟩
      | some r' =>
        rw [o] at e
        have i := hpB_lt hC o
        by_cases c2 : C k ≤ r'.2
        · simp only [if_pos c2] at e; cases e; exact ⟨by omega, i.2⟩
        · simp only [if_neg c2] at e; cases e; exact ⟨Nat.lt_succ_self k, hC k⟩
    · rw [if_neg c] at e
      have i := hpB_lt hC e
      exact ⟨by omega, i.2⟩
theorem c_helps (hK : KC σ) (hV : VY n mi np nw ho ye 0 ki to ag ar am wa go) (hnp : np ≤ 6) (hh : ho + 40 ≤ 3000) (h : YC σ 6 n mi np nw ho ye 0 ki to ag ar am wa go) : ∃ r, lp (fun st => f_X6_helps_b1 st.1 st.2.1 st.2.2.1 st.2.2.2) FU ((-4 : Int32), (-4 : Int32), (0 : Int32), σ) = some r ∧ (r.1 = o1 (hpB to np (fun t => cX mi n np nw (2 ^ t) 0 ki to ag ar go ho wa) n) ∧ r.2.1 = o2 (-4) (hpB to np (fun t => cX mi n np nw (2 ^ t) 0 ki to ag ar go ho wa) n) ∧ KC r.2.2 ∧ ∀ i, (i < 20 ∨ 33 < i) → r.2.2 i = σ i) := by
  have h8 := hV.n8
  have hC : ∀ t, cX mi n np nw (2 ^ t) 0 ki to ag ar go ho wa ≤ 5 := fun t => cX_le hV.nw5
  refine lp_inv (fun j (s : Int32 × Int32 × Int32 × Sg) => s.1 = o1 (hpB to np (fun t => cX mi n np nw (2 ^ t) 0 ki to ag ar go ho wa) j) ∧ s.2.1 = o2 (-4) (hpB to np (fun t => cX mi n np nw (2 ^ t) 0 ki to ag ar go ho wa) j) ∧ s.2.2.1 = nI j ∧ KC s.2.2.2 ∧ ∀ i, (i < 20 ∨ 33 < i) → s.2.2.2 i = σ i) n (by omega) ⟨rfl, rfl, rfl, hK, fun _ _ => rfl⟩ ?_ ?_
  · rintro j ⟨x1, x2, x3, τ⟩ hj ⟨e1, e2, e3, Kt, ft⟩
    dsimp only at e1 e2 e3 Kt ft
    subst e1 e2 e3
    have Yt := YC_fr h (fun i a b => ft i (by omega))
    show ∃ s', f_X6_helps_b1 _ _ (nI j) τ = _ ∧ _
    unfold f_X6_helps_b1 f_X5_towns f_X3_towns
    rw [show τ (6 + 1) 0 = nI n from Yt.2.1.1]
    dsimp only [sb]
    rw [if_neg (nI_ge hj (by omega)), lop_ok Kt gY6 hV Yt (by omega)]
    dsimp only [sb]
    cases hl : loP to j np with
    | some p =>
      have := loP_lt hl
      rw [if_pos (oI_ne (by omega)), nI_1]
      refine ⟨_, rfl, ?_, ?_, rfl, Kt, ft⟩
      · show _ = o1 (if loP to j np = none then _ else _); rw [if_neg (by rw [hl]; exact fun z => by cases z)]
      · show _ = o2 _ (if loP to j np = none then _ else _); rw [if_neg (by rw [hl]; exact fun z => by cases z)]
    | none =>
      obtain ⟨τ', g1, g2, g3⟩ := chi_ok Kt hV hnp hh Yt hj hl
      have F : ∀ i, (i < 20 ∨ 33 < i) → τ' i = σ i := fun i hi => (g3 i hi).trans (ft i hi)
      rw [if_neg (fun z => z oI_n), g1]
      dsimp only [sb]
      have u : hpB to np (fun t => cX mi n np nw (2 ^ t) 0 ki to ag ar go ho wa) (j + 1) = match hpB to np (fun t => cX mi n np nw (2 ^ t) 0 ki to ag ar go ho wa) j with
        | none => some (j, cX mi n np nw (2 ^ j) 0 ki to ag ar go ho wa)
        | some r => if cX mi n np nw (2 ^ j) 0 ki to ag ar go ho wa ≤ r.2 then some r else some (j, cX mi n np nw (2 ^ j) 0 ki to ag ar go ho wa) := by
        show (if loP to j np = none then _ else _) = _
        rw [if_pos hl]
      rw [nI_1]
      cases o : hpB to np (fun t => cX mi n np nw (2 ^ t) 0 ki to ag ar go ho wa) j with
      | none =>
        rw [o] at u
        rw [if_pos (show o1 none = -4 from rfl)]
        refine ⟨_, rfl, ?_, ?_, rfl, g2, F⟩
        · rw [u]; rfl
        · rw [u]; rfl
      | some r =>
        rw [o] at u
        have i := hpB_lt hC o
        have := hC j
        rw [show o1 (some r) = nI r.1 from rfl, show o2 (-4) (some r) = nI r.2 from rfl, if_neg (nI_ne4 (by omega))]
        by_cases c : cX mi n np nw (2 ^ j) 0 ki to ag ar go ho wa ≤ r.2
        · rw [if_pos (nI_le c (by omega))]
          rw [show (match some r with
            | none => some (j, cX mi n np nw (2 ^ j) 0 ki to ag ar go ho wa)
            | some r => if cX mi n np nw (2 ^ j) 0 ki to ag ar go ho wa ≤ r.2 then some r else some (j, cX mi n np nw (2 ^ j) 0 ki to ag ar go ho wa)) = some r from if_pos c] at u
          exact ⟨_, rfl, by rw [u]; rfl, by rw [u]; rfl, rfl, g2, F⟩
        · rw [if_neg (nI_ge (by omega) (by omega))]
          rw [show (match some r with
            | none => some (j, cX mi n np nw (2 ^ j) 0 ki to ag ar go ho wa)
            | some r => if cX mi n np nw (2 ^ j) 0 ki to ag ar go ho wa ≤ r.2 then some r else some (j, cX mi n np nw (2 ^ j) 0 ki to ag ar go ho wa)) = some (j, cX mi n np nw (2 ^ j) 0 ki to ag ar go ho wa) from if_neg c] at u
          exact ⟨_, rfl, by rw [u]; rfl, by rw [u]; rfl, rfl, g2, F⟩
  · rintro ⟨x1, x2, x3, τ⟩ ⟨e1, e2, e3, Kt, ft⟩
    dsimp only at e1 e2 e3 Kt ft
    subst e1 e2 e3
    have Yt := YC_fr h (fun i a b => ft i (by omega))
    show ∃ s', f_X6_helps_b1 _ _ (nI n) τ = _ ∧ _
    unfold f_X6_helps_b1 f_X5_towns f_X3_towns
    rw [show τ (6 + 1) 0 = nI n from Yt.2.1.1]
    dsimp only [sb]
    rw [if_pos (nI_le (Nat.le_refl _) (by omega))]
    exact ⟨_, rfl, rfl, rfl, Kt, ft⟩
theorem m_helps (hV : VY n mi np nw ho ye 0 ki to ag ar am wa go) (hnp : np ≤ 6) (hh : ho + 40 ≤ 3000) (hS : ST σ n np nw ki go) (hF : FL σ 0 0 0) (h : MC σ 195 mi np nw ho ye to ag ar am wa) : ∃ r, lp (fun st => f_X7_helps_b1 st.1 st.2.1 st.2.2.1 st.2.2.2) FU ((-4 : Int32), (0 : Int32), (0 : Int32), σ) = some r ∧ (r.1 = o1 (hpB to np (fun t => cX mi n np nw (2 ^ t) 0 ki to ag ar go ho wa) n) ∧ r.2.1 = o2 0 (hpB to np (fun t => cX mi n np nw (2 ^ t) 0 ki to ag ar go ho wa) n) ∧ ∀ i, i ≠ 198 → i ≠ 199 → i ≠ 200 → r.2.2 i = σ i) := by
  have h8 := hV.n8
  have hC : ∀ t, cX mi n np nw (2 ^ t) 0 ki to ag ar go ho wa ≤ 5 := fun t => cX_le hV.nw5
  refine lp_inv (fun j (s : Int32 × Int32 × Int32 × Sg) => s.1 = o1 (hpB to np (fun t => cX mi n np nw (2 ^ t) 0 ki to ag ar go ho wa) j) ∧ s.2.1 = o2 0 (hpB to np (fun t => cX mi n np nw (2 ^ t) 0 ki to ag ar go ho wa) j) ∧ s.2.2.1 = nI j ∧ ∀ i, i ≠ 198 → i ≠ 199 → i ≠ 200 → s.2.2.2 i = σ i) n (by omega) ⟨rfl, rfl, rfl, fun _ _ _ _ => rfl⟩ ?_ ?_
  · rintro j ⟨x1, x2, x3, τ⟩ hj ⟨e1, e2, e3, ft⟩
    dsimp only at e1 e2 e3 ft
    subst e1 e2 e3
    have St := ST_fr hS (fun i a b => ft i (by omega) (by omega) (by omega))
    have Ft := FL_fr hF (ft _ (by omega) (by omega) (by omega))
    have Mt := MC_fr h (ft _ (by omega) (by omega) (by omega))
    show ∃ s', f_X7_helps_b1 _ _ (nI j) τ = _ ∧ _
    unfold f_X7_helps_b1
    rw [show ga (τ 186) (ln 186) (0 : Int32) = some (nI n) by rw [L_0, l186, ga_n (by omega) (by omega), St.1]]
    dsimp only [sb]
    rw [if_neg (nI_ge hj (by omega)), pa_ok (Or.inl rfl) hnp St.2.1 Mt.2.1 (fun p x e => hV.toL e) h8 (by omega)]
    dsimp only [sb]
    cases hl : loP to j np with
    | some p =>
      have := loP_lt hl
      rw [if_pos (oI_ne (by omega)), nI_1]
      refine ⟨_, rfl, ?_, ?_, rfl, ft⟩
      · show _ = o1 (if loP to j np = none then _ else _); rw [if_neg (by rw [hl]; exact fun z => by cases z)]
      · show _ = o2 _ (if loP to j np = none then _ else _); rw [if_neg (by rw [hl]; exact fun z => by cases z)]
    | none =>
      have p2 : 2 ^ j < 256 := Nat.lt_of_lt_of_le (Nat.pow_lt_pow_right (by omega) (show j < 8 by omega)) (by decide)
      obtain ⟨τ1, τ2, g1, g2, g3⟩ := mhi_ok hV hnp St Ft Mt hh p2
      have F : ∀ i, i ≠ 198 → i ≠ 199 → i ≠ 200 → sf τ2 184 22 0 i = σ i := fun i a b c => (g3 i a b c).trans (ft i a b c)
      rw [if_neg (fun z => z oI_n), g1]
      dsimp only [sb]
      rw [shl_n (by omega), g2]
      dsimp only [sb]
      have u : hpB to np (fun t => cX mi n np nw (2 ^ t) 0 ki to ag ar go ho wa) (j + 1) = match hpB to np (fun t => cX mi n np nw (2 ^ t) 0 ki to ag ar go ho wa) j with
        | none => some (j, cX mi n np nw (2 ^ j) 0 ki to ag ar go ho wa)
        | some r => if cX mi n np nw (2 ^ j) 0 ki to ag ar go ho wa ≤ r.2 then some r else some (j, cX mi n np nw (2 ^ j) 0 ki to ag ar go ho wa) := by
        show (if loP to j np = none then _ else _) = _
        rw [if_pos hl]
      rw [nI_1]
      cases o : hpB to np (fun t => cX mi n np nw (2 ^ t) 0 ki to ag ar go ho wa) j with
      | none =>
        rw [o] at u
        rw [if_pos (show o1 none = -4 from rfl)]
        refine ⟨_, rfl, ?_, ?_, rfl, F⟩
        · rw [u]; rfl
        · rw [u]; rfl
      | some r =>
        rw [o] at u
        have i := hpB_lt hC o
        have := hC j
        rw [show o1 (some r) = nI r.1 from rfl, show o2 0 (some r) = nI r.2 from rfl, if_neg (nI_ne4 (by omega))]
        by_cases c : cX mi n np nw (2 ^ j) 0 ki to ag ar go ho wa ≤ r.2
        · rw [if_pos (nI_le c (by omega))]
          rw [show (match some r with
            | none => some (j, cX mi n np nw (2 ^ j) 0 ki to ag ar go ho wa)
            | some r => if cX mi n np nw (2 ^ j) 0 ki to ag ar go ho wa ≤ r.2 then some r else some (j, cX mi n np nw (2 ^ j) 0 ki to ag ar go ho wa)) = some r from if_pos c] at u
          exact ⟨_, rfl, by rw [u]; rfl, by rw [u]; rfl, rfl, F⟩
        · rw [if_neg (nI_ge (by omega) (by omega))]
          rw [show (match some r with
            | none => some (j, cX mi n np nw (2 ^ j) 0 ki to ag ar go ho wa)
            | some r => if cX mi n np nw (2 ^ j) 0 ki to ag ar go ho wa ≤ r.2 then some r else some (j, cX mi n np nw (2 ^ j) 0 ki to ag ar go ho wa)) = some (j, cX mi n np nw (2 ^ j) 0 ki to ag ar go ho wa) from if_neg c] at u
          exact ⟨_, rfl, by rw [u]; rfl, by rw [u]; rfl, rfl, F⟩
  · rintro ⟨x1, x2, x3, τ⟩ ⟨e1, e2, e3, ft⟩
    dsimp only at e1 e2 e3 ft
    subst e1 e2 e3
    have St := ST_fr hS (fun i a b => ft i (by omega) (by omega) (by omega))
    show ∃ s', f_X7_helps_b1 _ _ (nI n) τ = _ ∧ _
    unfold f_X7_helps_b1
    rw [show ga (τ 186) (ln 186) (0 : Int32) = some (nI n) by rw [L_0, l186, ga_n (by omega) (by omega), St.1]]
    dsimp only [sb]
    rw [if_pos (nI_le (Nat.le_refl _) (by omega))]
    exact ⟨_, rfl, rfl, rfl, ft⟩
theorem eq_helps {N : Nat} (h : Rel N σ) (hN : N < 512) (a1 : Int32) : ∃ r σ1 σ2, f_X6_helps σ a1 = some (r, σ1) ∧ f_X7_helps σ1 a1 = some (r, σ2) ∧ Rel (N + 1) σ2 := by
  have h0 := h
  obtain ⟨hK, hT, n, np, nw, ki, go, A, m, S, k, K, tl, tf, sl, sg, hR⟩ := h
  obtain ⟨⟨n1, n2, n3, n4⟩, v1, v2, v3, ⟨c1, c2, c3⟩, ⟨m1, m2, m3, m4, m5, m6, m7⟩, ⟨t1, t2, t3, t4⟩, u1, u2, u3, u4⟩ := hR
  have hV := v1.1
  have hho := v1.2.2.1
  have same : Rel (N + 1) σ := Rel_fr h0 (by omega) hN hK (fun _ _ _ _ _ => rfl)
  rcases in_lit (σ := σ) (a := a1) 2 (by omega) (L := 1) (by decide) with ⟨w, hw, rfl, e1⟩ | ⟨o, e1⟩
  · obtain ⟨⟨r1, r2, σ1⟩, g1, g2, g3, K1, F1⟩ := c_helps hK hV n2 (by omega) c1
    dsimp only at g2 g3 K1 F1
    obtain ⟨⟨q1, q2, σ2⟩, g4, g5, g6, F2⟩ := m_helps hV n2 (by omega) (ST_fr m1 (fun i a b => F1 i (by omega))) (FL_fr m2 (F1 _ (by omega))) (MC_fr (MY_c m3) (F1 _ (by omega)))
    dsimp only at g5 g6 F2
    have e2 : f_X7_in σ1 (nI w) 0 1 = some 1 := e1
    have R : Rel (N + 1) σ2 := Rel_fr h0 (by omega) hN (KC_m K1 (fun i hi => F2 i (by omega) (by omega) (by omega))) (fun i a b c d => (F2 i b c d).trans (F1 i a))
    have a1 : f_X6_helps σ (nI w) = f_X6_helps_k1 (nI w) r1 r2 σ1 := by
      unfold f_X6_helps
      rw [if_neg (nI_pos (by omega)), L_1, if_pos (nI_le (by omega) (by omega)), g1]
      rfl
    have a2 : f_X7_helps σ1 (nI w) = f_X7_helps_k1 (nI w) q1 q2 σ2 := by
      unfold f_X7_helps
      rw [e2]
      dsimp only [sb]
      rw [if_pos one0, g4]
      rfl
    subst g2 g3 g5 g6
    unfold f_X6_helps_k1 at a1
    unfold f_X7_helps_k1 at a2
    cases o : hpB (Sn.to A) np (fun t => cX (Sn.mi A) n np nw (2 ^ t) 0 ki (Sn.to A) (Sn.ag A) (Sn.ar A) go (Sn.ho A) (Sn.wa A)) n with
    | none =>
      rw [o] at a1 a2
      refine ⟨-4, σ1, σ2, a1.trans ?_, a2.trans ?_, R⟩
      · split <;> rfl
      · rw [if_pos (show o1 none = -4 from rfl)]; rfl
    | some r =>
      rw [o] at a1 a2
      have i := hpB_lt (fun t => cX_le hV.nw5) o
      have := hV.n8
      by_cases c : nI w = 0
      · refine ⟨o1 (some r), σ1, σ2, a1.trans ?_, a2.trans ?_, R⟩
        · rw [if_neg (fun z => z c)]
        · rw [if_neg (show ¬ o1 (some r) = -4 from nI_ne4 (by omega)), if_neg (fun z => z c)]
      · refine ⟨o2 0 (some r), σ1, σ2, a1.trans ?_, a2.trans ?_, R⟩
        · rw [if_pos c]; rfl
        · rw [if_neg (show ¬ o1 (some r) = -4 from nI_ne4 (by omega)), if_pos c]
  · refine ⟨-1, σ, σ, ?_, ?_, same⟩
    · unfold f_X6_helps
      by_cases c : a1 < 0
      · rw [if_pos c]
      · rw [if_neg c, if_neg]
        intro z
        exact absurd (Int32.le_trans (o.resolve_left c) z) (by decide)
    · unfold f_X7_helps; rw [e1]; rfl
end HE
