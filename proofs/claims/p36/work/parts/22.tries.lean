/-! Part 22: tries of the class (out of whole's parts 22-24). -/
section CO
variable {σ σ' : Sg} {c y n : Nat} {mi : Mi} {np nw ho ye q ex al : Nat} {ki : Nat → Nat} {to : Nat → Option Nat} {ag : Nat → Nat} {ar am : Nat → Nat → Option Nat} {wa go : Nat → Nat}
def cmP (mi : Mi) (n np q : Nat) (ki : Nat → Nat) (to : Nat → Option Nat) (ag : Nat → Nat) (ar : Nat → Nat → Option Nat) (go : Nat → Nat) (ho : Nat) (wa : Nat → Nat) (v j : Nat) : Bool := decide (hsK mi n np q ki to ag ar go ho wa j v = go v)
theorem cm_cl {v : Nat} (hv : v < nw) (hV : VY n mi np nw ho ye q ki to ag ar am wa go) (hh : ho + 41 ≤ 3000) : ∀ (k j M : Nat) (τ : Sg), j + k = 41 → k < M → KC τ → YC τ 20 n mi np nw (ho + j) ye q ki to ag ar am (hsK mi n np q ki to ag ar go ho wa j) go → ∃ τ', lp (fun st => f_X6_comes_b1 (nI v) st.1 st.2) M (nI j, τ) = some (match lw (cmP mi n np q ki to ag ar go ho wa v) j k with
    | some u => .inl (nI u, τ')
    | none => .inr τ') ∧ KC τ' ∧ ∀ i, (i < 20 ∨ 33 < i) → τ' i = τ i
  | 0, j, M + 1, τ, hk, _, hK, h => by
    refine ⟨τ, lp_end ?_, hK, fun _ _ => rfl⟩
    show f_X6_comes_b1 (nI v) (nI j) τ = _
    unfold f_X6_comes_b1
    rw [L_40, if_pos (nI_lt (by omega) (by omega))]
    rfl
  | k + 1, j, M + 1, τ, hk, hm, hK, h => by
    have hVj := hsK_lt hV j (by omega)
    have b1 : f_X5_hasCome τ 20 (nI v) = _ := hc_ok hK gY20 hVj h hv
    unfold lw cmP
    by_cases e : hsK mi n np q ki to ag ar go ho wa j v = go v
    · rw [if_pos (decide_eq_true e)]
      refine ⟨τ, lp_end ?_, hK, fun _ _ => rfl⟩
      show f_X6_comes_b1 (nI v) (nI j) τ = _
      unfold f_X6_comes_b1
      rw [L_40, if_neg (nI_nlt (by omega) (by omega)), b1, b32_t e]
      dsimp only [sb]
      rw [if_neg one0]
    · rw [if_neg (by simp [e])]
      obtain ⟨τ1, e1, K1, f1, Y1⟩ := ph_ok hK gY20 hVj h (k := 1) (by omega) (by omega)
      obtain ⟨τ2, e2, K2, f2⟩ := cm_cl hv hV hh k (j + 1) M τ1 (by omega) (by omega) K1 Y1
      refine ⟨τ2, (lp_go (s' := (nI (j + 1), τ1)) ?_).trans e2, K2, fun i hi => (f2 i hi).trans (f1 i hi)⟩
      show f_X6_comes_b1 (nI v) (nI j) τ = _
      unfold f_X6_comes_b1
      rw [L_40, if_neg (nI_nlt (by omega) (by omega)), b1, b32_f e]
      dsimp only [sb]
      rw [if_pos rfl, L_1, e1]
      dsimp only [sb]
      rw [nI_add]
end CO
section LK2
variable {σ : Sg} {N : Nat}
/-- bits gathered -/
def gb32 (P : Nat → Bool) : Nat → Int32
  | 0 => 0
  | k + 1 => if P k = true then gb32 P k ||| ((1 : Int32) <<< (nI k &&& 31)) else gb32 P k
end LK2

theorem shl_n {k : Nat} (h : k < 31) : (1 : Int32) <<< (nI k &&& 31) = nI (2 ^ k) := by
  have : ∀ k : Fin 31, (1 : Int32) <<< (nI k.val &&& 31) = nI (2 ^ k.val) := by decide +kernel
  exact this ⟨k, h⟩
def pcN (k : Nat) : Nat → Nat
  | 0 => 0
  | j + 1 => pcN k j + k / 2 ^ j % 2
theorem pcN_le {k : Nat} : ∀ j, pcN k j ≤ j
  | 0 => Nat.le_refl 0
  | j + 1 => by have := pcN_le (k := k) j; show pcN k j + k / 2 ^ j % 2 ≤ j + 1; omega
def pc (k : Nat) : Nat := pcN k 8
theorem pc_le (k : Nat) : pc k ≤ 8 := pcN_le 8
theorem bc_ok {σ : Sg} {k : Nat} (h : k < 256) : f_J6_bitCount_0f7a4 σ (nI k) = some (nI (pc k)) := by
  have : ∀ k : Fin 256, f_J6_bitCount_0f7a4 (fun _ _ => 0) (nI k.val) = some (nI (pc k.val)) := by decide +kernel
  exact this ⟨k, h⟩
theorem lw_snoc {P : Nat → Bool} : ∀ {k j : Nat}, lw P j (k + 1) = match lw P j k with
    | some u => some u
    | none => if P (j + k) = true then some (j + k) else none
  | 0, j => by
    show (if P j = true then some j else none) = _
    rfl
  | k + 1, j => by
    have i := lw_snoc (P := P) (k := k) (j := j + 1)
    rw [show j + 1 + k = j + (k + 1) by omega] at i
    show (if P j = true then some j else lw P (j + 1) (k + 1)) = _
    rw [i]
    show _ = match (if P j = true then some j else lw P (j + 1) k) with
      | some u => some u
      | none => if P (j + (k + 1)) = true then some (j + (k + 1)) else none
    by_cases h : P j = true
    · rw [if_pos h, if_pos h]
    · rw [if_neg h, if_neg h]
section SP
variable {n : Nat} {mi : Mi} {np nw ho ye q ex al : Nat} {ki : Nat → Nat} {to : Nat → Option Nat} {ag : Nat → Nat} {ar am : Nat → Nat → Option Nat} {wa go : Nat → Nat}
theorem upN_ne {α : Type} {f : Nat → α} {p j : Nat} {v : α} (h : j ≠ p) : upN f p v j = f j := if_neg h
theorem upN_at {α : Type} {f : Nat → α} {p : Nat} {v : α} : upN f p v p = v := if_pos rfl
theorem loP_sp {t x : Nat} : loP (upN to np (some t)) x (np + 1) = match loP to x np with
    | some u => some u
    | none => if x = t then some np else none := by
  unfold loP
  rw [lw_snoc]
  rw [lw_congr (P' := fun p => decide (to p = some x)) (fun u _ hu => by rw [upN_ne (by omega)])]
  cases lw (fun p => decide (to p = some x)) 0 np with
  | some u => rfl
  | none =>
    show (if decide (upN to np (some t) (0 + np) = some x) = true then some (0 + np) else none) = if x = t then some np else none
    rw [Nat.zero_add, upN_at]
    by_cases e : x = t
    · subst e; rw [if_pos (decide_eq_true rfl), if_pos rfl]
    · rw [if_neg e, if_neg]
      intro z
      have := of_decide_eq_true z
      cases this; exact e rfl
theorem pt_sp {t p y : Nat} (hp : p ≠ np) : pt mi n ho q (upN ki np 0) (upN to np (some t)) (upN ag np 0) (up1 ar np (pr mi n t)) p y = pt mi n ho q ki to ag ar p y := by
  unfold pt up1
  rw [upN_ne hp, upN_ne hp, upN_ne hp]
  simp only [if_neg hp]
theorem pt_np {t y : Nat} (hq : q.testBit np = false) : pt mi n ho q (upN ki np 0) (upN to np (some t)) (upN ag np 0) (up1 ar np (pr mi n t)) np y = pr mi n t y := by
  unfold pt up1
  rw [upN_at, upN_at, upN_at, hq]
  simp only [if_true]
  show itO _ (tu 0 0 ho false) _ = _
  show itO _ 0 _ = _
  rfl
theorem st1_sp {t x y : Nat} (hq : q.testBit np = false) : st1 mi n (np + 1) ho q (upN ki np 0) (upN to np (some t)) (upN ag np 0) (up1 ar np (pr mi n t)) x y = gt mi x (match loP to x np with
    | some p => pt mi n ho q ki to ag ar p y
    | none => if x = t then pr mi n x y else nrU mi x n) := by
  unfold st1
  rw [loP_sp]
  cases e : loP to x np with
  | some p =>
    have := (loP_lt e).1
    show gt mi x (pt _ _ _ _ _ _ _ _ p y) = _
    rw [pt_sp (by omega)]
  | none =>
    by_cases h : x = t
    · subst h
      rw [if_pos rfl]
      show gt mi x (pt _ _ _ _ _ _ _ _ np y) = _
      rw [pt_np hq, if_pos rfl]
    · rw [if_neg h]
      show gt mi x (nrU mi x n) = gt mi x (if x = t then pr mi n x y else nrU mi x n)
      rw [if_neg h]
theorem pr_n {x y : Nat} (h : y < n) : pr mi n x y = fs mi x y := if_pos h
/-- hours alike where steps are alike -/
theorem hsK_X {np' q' : Nat} {ki' : Nat → Nat} {to' : Nat → Option Nat} {ag' : Nat → Nat} {ar' : Nat → Nat → Option Nat} (hV : VY n mi np nw ho ye q ki to ag ar am wa go) (H : ∀ h x g, x < n → g < n → st1 mi n np' h q' ki' to' ag' ar' x g = stX mi n np h q ex al ki to ag ar x g) : ∀ k, ho + k ≤ 3000 → hsK mi n np' q' ki' to' ag' ar' go ho wa k = hsXK mi n np q ex al ki to ag ar go ho wa k
  | 0, _ => rfl
  | k + 1, hk => by
    have i := hsK_X hV H k (by omega)
    have hVk := hsXK_V (ex := ex) (al := al) hV k (by omega)
    funext v
    show hs mi n np' q' ki' to' ag' ar' go (ho + k) (hsK mi n np' q' ki' to' ag' ar' go ho wa k) v = hsX mi n np q ex al ki to ag ar go (ho + k) (hsXK mi n np q ex al ki to ag ar go ho wa k) v
    rw [i]
    unfold hs hsX
    rw [H (ho + k) _ _ (hVk.waL v) (hVk.goL v)]
end SP

theorem upd_back {f : Nat → Int32} {k : Nat} {x v : Int32} (h : f k = v) : upd (upd f k x) k v = f := by
  funext j
  by_cases e : j = k
  · subst e; rw [upd_self]; exact h.symm
  · rw [upd_ne e, upd_ne e]
section HE
variable {σ : Sg} {n : Nat} {mi : Mi} {np nw ho ye : Nat} {ki : Nat → Nat} {to : Nat → Option Nat} {ag : Nat → Nat} {ar am : Nat → Nat → Option Nat} {wa go : Nat → Nat}
/-- how many have come in forty hours, with plain posts in a set of towns -/
def cX (mi : Mi) (n np nw ex al : Nat) (ki : Nat → Nat) (to : Nat → Option Nat) (ag : Nat → Nat) (ar : Nat → Nat → Option Nat) (go : Nat → Nat) (ho : Nat) (wa : Nat → Nat) : Nat := cn (fun v => decide (hsXK mi n np 0 ex al ki to ag ar go ho wa 40 v = go v)) nw
theorem cX_le {ex al : Nat} (h5 : nw ≤ 5) : cX mi n np nw ex al ki to ag ar go ho wa ≤ 5 := Nat.le_trans (cn_le _) h5
theorem chi_ok (hK : KC σ) (hV : VY n mi np nw ho ye 0 ki to ag ar am wa go) (hnp : np ≤ 6) (hh : ho + 40 ≤ 3000) (h : YC σ 6 n mi np nw ho ye 0 ki to ag ar am wa go) {t : Nat} (ht : t < n) (hl : loP to t np = none) : ∃ σ', f_X6_comersHelpedIn σ (nI t) = some (nI (cX mi n np nw (2 ^ t) 0 ki to ag ar go ho wa), σ') ∧ KC σ' ∧ ∀ i, (i < 20 ∨ 33 < i) → σ' i = σ i := by
  obtain ⟨τ1, e1, K1, f1, Y1⟩ := yb_ok hK gY20 gY6 (by omega) h hV.np8 hV.nw5 hV.n8
  obtain ⟨τ2, e2, K2, f2, Y2⟩ := sp_ok K1 gY20 hV.1 Y1 (by omega) ht
  have V2 := VY_sp hV (by omega) ht
  obtain ⟨τ3, e3, K3, f3, Y3⟩ := ph_ok K2 gY20 V2 Y2 (k := 40) (by omega) hh
  have e4 := cc_ok K3 gY20 (hsK_lt V2 40 hh) Y3
  refine ⟨τ3, ?_, K3, fun i hi => (f3 i (by omega)).trans ((f2 i (by omega)).trans (f1 i (by omega)))⟩
  unfold f_X6_comersHelpedIn
  rw [e1]
  dsimp only [sb]
  rw [e2]
  dsimp only [sb]
  rw [L_40, e3]
  dsimp only [sb]
  rw [e4]
  dsimp only [sb]
  rw [hsK_X (ex := 2 ^ t) (al := 0) hV (fun h x g hx hg => ?_) 40 hh]
  · rfl
  · rw [st1_sp (by simp)]
    unfold stX
    rw [if_pos rfl]
    cases loP to x np with
    | some p => rfl
    | none =>
      show gt mi x (if x = t then pr mi n x g else nrU mi x n) = gt mi x (if (2 ^ t).testBit x = true then fs mi x g else nrU mi x n)
      rw [Nat.testBit_two_pow, pr_n hg]
      by_cases e : x = t
      · subst e; rw [if_pos rfl, if_pos (decide_eq_true rfl)]
      · rw [if_neg e, if_neg (by simp [Ne.symm e])]
def hpB (to : Nat → Option Nat) (np : Nat) (C : Nat → Nat) : Nat → Option (Nat × Nat)
  | 0 => none
  | k + 1 => if loP to k np = none then (match hpB to np C k with
    | none => some (k, C k)
    | some r => if C k ≤ r.2 then some r else some (k, C k)) else hpB to np C k
def o1 (o : Option (Nat × Nat)) : Int32 := match o with
  | none => -4
  | some r => nI r.1
def o2 (d : Int32) (o : Option (Nat × Nat)) : Int32 := match o with
  | none => d
  | some r => nI r.2
theorem hpB_lt {C : Nat → Nat} (hC : ∀ t, C t ≤ 5) : ∀ {k : Nat} {r : Nat × Nat}, hpB to np C k = some r → r.1 < k ∧ r.2 ≤ 5
  | 0, r, e => by cases e
  | k + 1, r, e => by
    unfold hpB at e
    by_cases c : loP to k np = none
    · rw [if_pos c] at e
      cases o : hpB to np C k with
      | none => rw [o] at e; cases e; exact ⟨Nat.lt_succ_self k, hC k⟩
      | some r' =>
        rw [o] at e
        have i := hpB_lt hC o
        by_cases c2 : C k ≤ r'.2
        · simp only [if_pos c2] at e; cases e; exact ⟨by omega, i.2⟩
        · simp only [if_neg c2] at e; cases e; exact ⟨Nat.lt_succ_self k, hC k⟩
    · rw [if_neg c] at e
      have i := hpB_lt hC e
      exact ⟨by omega, i.2⟩
theorem c_helps (hK : KC σ) (hV : VY n mi np nw ho ye 0 ki to ag ar am wa go) (hnp : np ≤ 6) (hh : ho + 40 ≤ 3000) (h : YC σ 6 n mi np nw ho ye 0 ki to ag ar am wa go) : ∃ r, lp (fun st => f_X6_helps_b1 st.1 st.2.1 st.2.2.1 st.2.2.2) FU ((-4 : Int32), (-4 : Int32), (0 : Int32), σ) = some r ∧ (r.1 = o1 (hpB to np (fun t => cX mi n np nw (2 ^ t) 0 ki to ag ar go ho wa) n) ∧ r.2.1 = o2 (-4) (hpB to np (fun t => cX mi n np nw (2 ^ t) 0 ki to ag ar go ho wa) n) ∧ KC r.2.2 ∧ ∀ i, (i < 20 ∨ 33 < i) → r.2.2 i = σ i) := by
  have h8 := hV.n8
  have hC : ∀ t, cX mi n np nw (2 ^ t) 0 ki to ag ar go ho wa ≤ 5 := fun t => cX_le hV.nw5
  refine lp_inv (fun j (s : Int32 × Int32 × Int32 × Sg) => s.1 = o1 (hpB to np (fun t => cX mi n np nw (2 ^ t) 0 ki to ag ar go ho wa) j) ∧ s.2.1 = o2 (-4) (hpB to np (fun t => cX mi n np nw (2 ^ t) 0 ki to ag ar go ho wa) j) ∧ s.2.2.1 = nI j ∧ KC s.2.2.2 ∧ ∀ i, (i < 20 ∨ 33 < i) → s.2.2.2 i = σ i) n (by omega) ⟨rfl, rfl, rfl, hK, fun _ _ => rfl⟩ ?_ ?_
  · rintro j ⟨x1, x2, x3, τ⟩ hj ⟨e1, e2, e3, Kt, ft⟩
    dsimp only at e1 e2 e3 Kt ft
    subst e1 e2 e3
    have Yt := YC_fr h (fun i a b => ft i (by omega))
    show ∃ s', f_X6_helps_b1 _ _ (nI j) τ = _ ∧ _
    unfold f_X6_helps_b1 f_X5_towns f_X3_towns
    rw [show τ (6 + 1) 0 = nI n from Yt.2.1.1]
    dsimp only [sb]
    rw [if_neg (nI_ge hj (by omega)), lop_ok Kt gY6 hV Yt (by omega)]
    dsimp only [sb]
    cases hl : loP to j np with
    | some p =>
      have := loP_lt hl
      rw [if_pos (oI_ne (by omega)), nI_1]
      refine ⟨_, rfl, ?_, ?_, rfl, Kt, ft⟩
      · show _ = o1 (if loP to j np = none then _ else _); rw [if_neg (by rw [hl]; exact fun z => by cases z)]
      · show _ = o2 _ (if loP to j np = none then _ else _); rw [if_neg (by rw [hl]; exact fun z => by cases z)]
    | none =>
      obtain ⟨τ', g1, g2, g3⟩ := chi_ok Kt hV hnp hh Yt hj hl
      have F : ∀ i, (i < 20 ∨ 33 < i) → τ' i = σ i := fun i hi => (g3 i hi).trans (ft i hi)
      rw [if_neg (fun z => z oI_n), g1]
      dsimp only [sb]
      have u : hpB to np (fun t => cX mi n np nw (2 ^ t) 0 ki to ag ar go ho wa) (j + 1) = match hpB to np (fun t => cX mi n np nw (2 ^ t) 0 ki to ag ar go ho wa) j with
        | none => some (j, cX mi n np nw (2 ^ j) 0 ki to ag ar go ho wa)
        | some r => if cX mi n np nw (2 ^ j) 0 ki to ag ar go ho wa ≤ r.2 then some r else some (j, cX mi n np nw (2 ^ j) 0 ki to ag ar go ho wa) := by
        show (if loP to j np = none then _ else _) = _
        rw [if_pos hl]
      rw [nI_1]
      cases o : hpB to np (fun t => cX mi n np nw (2 ^ t) 0 ki to ag ar go ho wa) j with
      | none =>
        rw [o] at u
        rw [if_pos (show o1 none = -4 from rfl)]
        refine ⟨_, rfl, ?_, ?_, rfl, g2, F⟩
        · rw [u]; rfl
        · rw [u]; rfl
      | some r =>
        rw [o] at u
        have i := hpB_lt hC o
        have := hC j
        rw [show o1 (some r) = nI r.1 from rfl, show o2 (-4) (some r) = nI r.2 from rfl, if_neg (nI_ne4 (by omega))]
        by_cases c : cX mi n np nw (2 ^ j) 0 ki to ag ar go ho wa ≤ r.2
        · rw [if_pos (nI_le c (by omega))]
          rw [show (match some r with
            | none => some (j, cX mi n np nw (2 ^ j) 0 ki to ag ar go ho wa)
            | some r => if cX mi n np nw (2 ^ j) 0 ki to ag ar go ho wa ≤ r.2 then some r else some (j, cX mi n np nw (2 ^ j) 0 ki to ag ar go ho wa)) = some r from if_pos c] at u
          exact ⟨_, rfl, by rw [u]; rfl, by rw [u]; rfl, rfl, g2, F⟩
        · rw [if_neg (nI_ge (by omega) (by omega))]
          rw [show (match some r with
            | none => some (j, cX mi n np nw (2 ^ j) 0 ki to ag ar go ho wa)
            | some r => if cX mi n np nw (2 ^ j) 0 ki to ag ar go ho wa ≤ r.2 then some r else some (j, cX mi n np nw (2 ^ j) 0 ki to ag ar go ho wa)) = some (j, cX mi n np nw (2 ^ j) 0 ki to ag ar go ho wa) from if_neg c] at u
          exact ⟨_, rfl, by rw [u]; rfl, by rw [u]; rfl, rfl, g2, F⟩
  · rintro ⟨x1, x2, x3, τ⟩ ⟨e1, e2, e3, Kt, ft⟩
    dsimp only at e1 e2 e3 Kt ft
    subst e1 e2 e3
    have Yt := YC_fr h (fun i a b => ft i (by omega))
    show ∃ s', f_X6_helps_b1 _ _ (nI n) τ = _ ∧ _
    unfold f_X6_helps_b1 f_X5_towns f_X3_towns
    rw [show τ (6 + 1) 0 = nI n from Yt.2.1.1]
    dsimp only [sb]
    rw [if_pos (nI_le (Nat.le_refl _) (by omega))]
    exact ⟨_, rfl, rfl, rfl, Kt, ft⟩
end HE
