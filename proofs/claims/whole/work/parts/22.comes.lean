/-! Part 22: who comes, where, who is lost. -/
section CO
variable {σ σ' : Sg} {c y n : Nat} {mi : Mi} {np nw ho ye q ex al : Nat} {ki : Nat → Nat} {to : Nat → Option Nat} {ag : Nat → Nat} {ar am : Nat → Nat → Option Nat} {wa go : Nat → Nat}
def cmP (mi : Mi) (n np q : Nat) (ki : Nat → Nat) (to : Nat → Option Nat) (ag : Nat → Nat) (ar : Nat → Nat → Option Nat) (go : Nat → Nat) (ho : Nat) (wa : Nat → Nat) (v j : Nat) : Bool := decide (hsK mi n np q ki to ag ar go ho wa j v = go v)
theorem cm_cl {v : Nat} (hv : v < nw) (hV : VY n mi np nw ho ye q ki to ag ar am wa go) (hh : ho + 41 ≤ 3000) : ∀ (k j M : Nat) (τ : Sg), j + k = 41 → k < M → KC τ → YC τ 20 n mi np nw (ho + j) ye q ki to ag ar am (hsK mi n np q ki to ag ar go ho wa j) go → ∃ τ', lp (fun st => f_X6_comes_b1 (nI v) st.1 st.2) M (nI j, τ) = some (match lw (cmP mi n np q ki to ag ar go ho wa v) j k with
    | some u => .inl (nI u, τ')
    | none => .inr τ') ∧ KC τ' ∧ ∀ i, (i < 20 ∨ 33 < i) → τ' i = τ i
  | 0, j, M + 1, τ, hk, _, hK, h => by
    refine ⟨τ, lp_end ?_, hK, fun _ _ => rfl⟩
    show f_X6_comes_b1 (nI v) (nI j) τ = _
    unfold f_X6_comes_b1
    rw [L_40, if_pos (nI_lt (by omega) (by omega))]
    rfl
  | k + 1, j, M + 1, τ, hk, hm, hK, h => by
    have hVj := hsK_lt hV j (by omega)
    have b1 : f_X5_hasCome τ 20 (nI v) = _ := hc_ok hK gY20 hVj h hv
    unfold lw cmP
    by_cases e : hsK mi n np q ki to ag ar go ho wa j v = go v
    · rw [if_pos (decide_eq_true e)]
      refine ⟨τ, lp_end ?_, hK, fun _ _ => rfl⟩
      show f_X6_comes_b1 (nI v) (nI j) τ = _
      unfold f_X6_comes_b1
      rw [L_40, if_neg (nI_nlt (by omega) (by omega)), b1, b32_t e]
      dsimp only [sb]
      rw [if_neg one0]
    · rw [if_neg (by simp [e])]
      obtain ⟨τ1, e1, K1, f1, Y1⟩ := ph_ok hK gY20 hVj h (k := 1) (by omega) (by omega)
      obtain ⟨τ2, e2, K2, f2⟩ := cm_cl hv hV hh k (j + 1) M τ1 (by omega) (by omega) K1 Y1
      refine ⟨τ2, (lp_go (s' := (nI (j + 1), τ1)) ?_).trans e2, K2, fun i hi => (f2 i hi).trans (f1 i hi)⟩
      show f_X6_comes_b1 (nI v) (nI j) τ = _
      unfold f_X6_comes_b1
      rw [L_40, if_neg (nI_nlt (by omega) (by omega)), b1, b32_f e]
      dsimp only [sb]
      rw [if_pos rfl, L_1, e1]
      dsimp only [sb]
      rw [nI_add]
theorem cm_md {v : Nat} (hv : v < nw) (hV : VY n mi np nw ho ye q ki to ag ar am wa go) (hnp : np ≤ 6) (hh : ho + 41 ≤ 3000) : ∀ (k j M : Nat) (τ : Sg), j + k = 41 → k < M → ST τ n np nw ki go → FL τ q 0 0 → MC τ 198 mi np nw (ho + j) ye to ag ar am (hsK mi n np q ki to ag ar go ho wa j) → ∃ τ', lp (fun st => f_X7_comes_b1 (nI v) st.1 st.2) M (nI j, τ) = some (match lw (cmP mi n np q ki to ag ar go ho wa v) j k with
    | some u => .inl (nI u, τ')
    | none => .inr τ') ∧ ∀ i, i ≠ 198 → i ≠ 200 → τ' i = τ i
  | 0, j, M + 1, τ, hk, _, hS, hF, h => by
    refine ⟨τ, lp_end ?_, fun _ _ _ => rfl⟩
    show f_X7_comes_b1 (nI v) (nI j) τ = _
    unfold f_X7_comes_b1
    rw [L_40, if_pos (nI_lt (by omega) (by omega))]
    rfl
  | k + 1, j, M + 1, τ, hk, hm, hS, hF, h => by
    have hVj := hsK_lt hV j (by omega)
    have h5 := hV.nw5
    have h8 := hV.n8
    have w1 := hVj.waL v
    have w2 := hVj.goL v
    unfold lw cmP
    have ld : f_X7_comes_b1 (nI v) (nI j) τ = if ¬ nI (hsK mi n np q ki to ag ar go ho wa j v) = nI (go v) then (f_X7_passHour τ 198).bind fun σ46 => some (.inl (nI (j + 1), σ46)) else some (.inr (.inl (nI j, τ))) := by
      unfold f_X7_comes_b1
      rw [L_40, if_neg (nI_nlt (by omega) (by omega)), L_0, nI_add, l198, ga_n (by omega) (by omega), l190, ga_n (by omega) (by omega), hS.2.2.2.2 v hv, h.2.2.2.2.1 v hv, nI_1]
      rfl
    by_cases e : hsK mi n np q ki to ag ar go ho wa j v = go v
    · rw [if_pos (decide_eq_true e)]
      refine ⟨τ, lp_end ?_, fun _ _ _ => rfl⟩
      show f_X7_comes_b1 (nI v) (nI j) τ = _
      rw [ld, if_neg (fun z => z (congrArg nI e))]
    · rw [if_neg (by simp [e])]
      obtain ⟨τ1, e1, f1, M1⟩ := mh_ok (ex := 0) (al := 0) (Or.inr rfl) hVj hnp hS hF (by omega) (by omega) (fun z => absurd rfl z) h
      rw [hsX_0] at M1
      obtain ⟨τ2, e2, f2⟩ := cm_md hv hV hnp hh k (j + 1) M τ1 (by omega) (by omega) (ST_fr hS (fun i a b => f1 i (by omega) (by omega))) (FL_fr hF (f1 _ (by omega) (by omega))) M1
      refine ⟨τ2, (lp_go (s' := (nI (j + 1), τ1)) ?_).trans e2, fun i a b => (f2 i a b).trans (f1 i a b)⟩
      show f_X7_comes_b1 (nI v) (nI j) τ = _
      rw [ld, if_pos (fun z => e ((nI_eq (by omega) (by omega)).mp z)), e1]
      rfl
/-- the model's comes, whatever is twisted -/
theorem mcomes (hV : VY n mi np nw ho ye q ki to ag ar am wa go) (hnp : np ≤ 6) (hh : ho + 41 ≤ 3000) (hS : ST σ n np nw ki go) (hF : FL σ q 0 0) (h : MC σ 195 mi np nw ho ye to ag ar am wa) {v : Nat} (hv : v < nw) : ∃ σ', f_X7_comes σ (nI v) = some (oI (lw (cmP mi n np q ki to ag ar go ho wa v) 0 41), σ') ∧ ∀ i, i ≠ 198 → i ≠ 200 → σ' i = σ i := by
  have h5 := hV.nw5
  unfold f_X7_comes
  rcases mw_in hS (by omega) (nI v) with ⟨v', hv', e0, e1⟩ | ⟨o1, e1⟩
  · rw [e1]
    dsimp only [sb]
    obtain ⟨σ1, g1, f1, M1⟩ := take_ok h hnp h5
    obtain ⟨σ2, g2, f2⟩ := cm_md hv hV hnp hh 41 0 FU σ1 (by omega) (by unfold FU; omega) (ST_fr hS (fun i a b => f1 i (by omega))) (FL_fr hF (f1 _ (by omega))) M1
    rw [if_pos one0, g1]
    dsimp only [sb]
    rw [L_0, g2]
    refine ⟨σ2, ?_, fun i a b => (f2 i a b).trans (f1 i a)⟩
    cases lw (cmP mi n np q ki to ag ar go ho wa v) 0 41 <;> rfl
  · exfalso
    rcases o1 with z | z
    · exact nI_pos (by omega) z
    · exact nI_ge hv (by omega) z
end CO
section LK2
variable {σ : Sg} {N : Nat}
theorem eq_comes (h : Rel N σ) (hN : N < 512) (a1 : Int32) : ∃ r σ1 σ2, f_X6_comes σ a1 = some (r, σ1) ∧ f_X7_comes σ1 a1 = some (r, σ2) ∧ Rel (N + 1) σ2 := by
  have h0 := h
  obtain ⟨hK, hT, n, np, nw, ki, go, A, m, S, k, K, tl, tf, sl, sg, hR⟩ := h
  obtain ⟨⟨n1, n2, n3, n4⟩, v1, v2, v3, ⟨c1, c2, c3⟩, ⟨m1, m2, m3, m4, m5, m6, m7⟩, ⟨t1, t2, t3, t4⟩, u1, u2, u3, u4⟩ := hR
  have hV := v1.1
  have h5 := hV.nw5
  have hho := v1.2.2.1
  have same : Rel (N + 1) σ := Rel_fr h0 (by omega) hN hK (fun _ _ _ _ _ => rfl)
  rcases mw_in m1 (by omega) a1 with ⟨v, hv, rfl, e1⟩ | ⟨o1, e1⟩
  · obtain ⟨σ1, g1, K1, f1, Y1⟩ := yb_ok hK gY20 gY6 (by omega) c1 hV.np8 h5 hV.n8
    obtain ⟨σ2, g2, K2, f2⟩ := cm_cl hv hV (by omega) 41 0 FU σ1 (by omega) (by unfold FU; omega) K1 Y1
    have F : ∀ i, (i < 20 ∨ 33 < i) → σ2 i = σ i := fun i hi => (f2 i hi).trans (f1 i hi)
    obtain ⟨σ3, g3, f3⟩ := mcomes hV n2 (by omega) (ST_fr m1 (fun i a b => F i (by omega))) (FL_fr m2 (F _ (by omega))) (MC_fr (MY_c m3) (F _ (by omega))) hv
    refine ⟨_, σ2, σ3, ?_, g3, Rel_fr h0 (by omega) hN (KC_m K2 (fun i hi => f3 i (by omega) (by omega))) (fun i a b c d => (f3 i b d).trans (F i a))⟩
    unfold f_X6_comes
    rw [iw_in c1 h5 hv]
    dsimp only [sb]
    rw [if_pos one0, g1]
    dsimp only [sb]
    rw [L_0, g2]
    cases lw (cmP (Sn.mi A) n np 0 ki (Sn.to A) (Sn.ag A) (Sn.ar A) go (Sn.ho A) (Sn.wa A) v) 0 41 <;> rfl
  · refine ⟨-1, σ, σ, ?_, ?_, same⟩
    · unfold f_X6_comes; rw [iw_out c1 o1]; rfl
    · unfold f_X7_comes; rw [e1]; rfl
theorem eq_trail (h : Rel N σ) (hN : N < 512) (a1 a2 : Int32) : ∃ r σ1 σ2, f_X6_trail σ a1 a2 = some (r, σ1) ∧ f_X7_trail σ1 a1 a2 = some (r, σ2) ∧ Rel (N + 1) σ2 := by
  have h0 := h
  obtain ⟨hK, hT, n, np, nw, ki, go, A, m, S, k, K, tl, tf, sl, sg, hR⟩ := h
  obtain ⟨⟨n1, n2, n3, n4⟩, v1, v2, v3, ⟨c1, c2, c3⟩, ⟨m1, m2, m3, m4, m5, m6, m7⟩, ⟨t1, t2, t3, t4⟩, u1, u2, u3, u4⟩ := hR
  have hV := v1.1
  have h5 := hV.nw5
  have hho := v1.2.2.1
  have same : Rel (N + 1) σ := Rel_fr h0 (by omega) hN hK (fun _ _ _ _ _ => rfl)
  rcases mw_in m1 (by omega) a1 with ⟨v, hv, rfl, e1⟩ | ⟨o1, e1⟩
  · rcases in_lit (σ := σ) (a := a2) 41 (by omega) (L := 40) (by decide) with ⟨j, hj, rfl, e2⟩ | ⟨o2, e2⟩
    · obtain ⟨σ1, g1, K1, f1, Y1⟩ := yb_ok hK gY20 gY6 (by omega) c1 hV.np8 h5 hV.n8
      obtain ⟨σ2, g2, K2, f2, Y2⟩ := ph_ok K1 gY20 hV Y1 (k := j) (by omega) (by omega)
      have F : ∀ i, (i < 20 ∨ 33 < i) → σ2 i = σ i := fun i hi => (f2 i hi).trans (f1 i hi)
      have M1 := ST_fr m1 (fun i a b => F i (by omega))
      obtain ⟨σ3, g3, f3, M3⟩ := take_ok (MC_fr (MY_c m3) (F 195 (by omega))) n2 h5
      obtain ⟨σ4, g4, f4, M4⟩ := lp_inv (b := fun st => f_X7_trail_b1 (nI j) st.1 st.2) (s0 := ((0 : Int32), σ3)) (Post := fun (τ : Sg) => (∀ i, i ≠ 198 → i ≠ 200 → τ i = σ3 i) ∧ MC τ 198 (Sn.mi A) np nw (Sn.ho A + j) (Sn.ye A) (Sn.to A) (Sn.ag A) (Sn.ar A) (Sn.am A) (hsK (Sn.mi A) n np 0 ki (Sn.to A) (Sn.ag A) (Sn.ar A) go (Sn.ho A) (Sn.wa A) j)) (fun i (s : Int32 × Sg) => s.1 = nI i ∧ (∀ i, i ≠ 198 → i ≠ 200 → s.2 i = σ3 i) ∧ MC s.2 198 (Sn.mi A) np nw (Sn.ho A + i) (Sn.ye A) (Sn.to A) (Sn.ag A) (Sn.ar A) (Sn.am A) (hsK (Sn.mi A) n np 0 ki (Sn.to A) (Sn.ag A) (Sn.ar A) go (Sn.ho A) (Sn.wa A) i)) j (by omega) ⟨rfl, fun _ _ _ => rfl, M3⟩ (by
        rintro i ⟨x, τ⟩ hi ⟨rfl, hf, hp⟩
        have hf : ∀ i, i ≠ 198 → i ≠ 200 → τ i = σ3 i := hf
        show ∃ s', f_X7_trail_b1 (nI j) (nI i) τ = _ ∧ _
        unfold f_X7_trail_b1
        rw [if_neg (nI_ge hi (by omega)), nI_1]
        have F' : ∀ i, (i < 20 ∨ 33 < i) → i ≠ 198 → i ≠ 200 → τ i = σ i := fun i a b c => (hf i b c).trans ((f3 i b).trans (F i a))
        obtain ⟨τ', e', f', M'⟩ := mh_ok (ex := 0) (al := 0) (Or.inr rfl) (hsK_lt hV i (by omega)) n2 (ST_fr m1 (fun i a b => F' i (by omega) (by omega) (by omega))) (FL_fr m2 (F' _ (by omega) (by omega) (by omega))) (by omega) (by omega) (fun z => absurd rfl z) hp
        rw [hsX_0] at M'
        rw [e']
        exact ⟨_, rfl, rfl, fun i a b => (f' i a b).trans (hf i a b), M'⟩) (by
        rintro ⟨x, τ⟩ ⟨rfl, hf, hp⟩
        show ∃ s', f_X7_trail_b1 (nI j) (nI j) τ = _ ∧ _
        unfold f_X7_trail_b1
        rw [if_pos (nI_le (Nat.le_refl _) (by omega))]
        exact ⟨_, rfl, hf, hp⟩)
      refine ⟨nI (hsK (Sn.mi A) n np 0 ki (Sn.to A) (Sn.ag A) (Sn.ar A) go (Sn.ho A) (Sn.wa A) j v), σ2, σ4, ?_, ?_, Rel_fr h0 (by omega) hN (KC_m K2 (fun i hi => (f4 i (by omega) (by omega)).trans (f3 i (by omega)))) (fun i a b c d => (f4 i b d).trans ((f3 i b).trans (F i a)))⟩
      · unfold f_X6_trail f_X5_placeOf
        rw [iw_in c1 h5 hv]
        dsimp only [sb]
        rw [if_neg one0, if_neg (nI_pos (by omega)), L_40, if_pos (nI_le (by omega) (by omega)), g1]
        dsimp only [sb]
        rw [g2]
        dsimp only [sb]
        rw [wa0 K2 gY20 Y2 h5 hv]
        rfl
      · unfold f_X7_trail
        rcases mw_in M1 (by omega) (nI v) with ⟨v', hv', e0', e1'⟩ | ⟨o1', e1'⟩
        · rw [e1']
          have e2' : f_X7_in σ2 (nI j) 0 40 = some 1 := by
            rcases in_lit (σ := σ2) (a := nI j) 41 (by omega) (L := 40) (by decide) with ⟨_, _, _, z⟩ | ⟨o, z⟩
            · exact z
            · exfalso; rcases o with z | z
              · exact nI_pos (by omega) z
              · exact nI_ge hj (by omega) z
          dsimp only [sb]
          rw [if_neg one0, e2']
          dsimp only [sb]
          rw [if_pos one0, g3]
          dsimp only [sb]
          rw [g4]
          show f_X7_trail_k1 (nI v) σ4 = _
          unfold f_X7_trail_k1
          rw [L_0, nI_add, l198, ga_n (by omega) (by omega), M4.2.2.2.2.1 v hv]
          rfl
        · exfalso; rcases o1' with z | z
          · exact nI_pos (by omega) z
          · exact nI_ge hv (by omega) z
    · refine ⟨-1, σ, σ, ?_, ?_, same⟩
      · unfold f_X6_trail
        rw [iw_in c1 h5 hv]
        dsimp only [sb]
        rw [if_neg one0]
        by_cases c : a2 < 0
        · rw [if_pos c]
        · rw [if_neg c, if_neg]
          intro z
          have z2 := o2.resolve_left c
          exact absurd (Int32.le_trans z2 z) (by decide)
      · unfold f_X7_trail
        rw [e1]
        dsimp only [sb]
        rw [if_neg one0, e2]
        rfl
  · refine ⟨-1, σ, σ, ?_, ?_, same⟩
    · unfold f_X6_trail; rw [iw_out c1 o1]; rfl
    · unfold f_X7_trail; rw [e1]; rfl
/-- bits gathered -/
def gb32 (P : Nat → Bool) : Nat → Int32
  | 0 => 0
  | k + 1 => if P k = true then gb32 P k ||| ((1 : Int32) <<< (nI k &&& 31)) else gb32 P k
theorem eq_lost (h : Rel N σ) (hN : N < 512) : ∃ r σ1 σ2, f_X6_lost σ = some (r, σ1) ∧ f_X7_lost σ1 = some (r, σ2) ∧ Rel (N + 1) σ2 := by
  have h0 := h
  obtain ⟨hK, hT, n, np, nw, ki, go, A, m, S, k, K, tl, tf, sl, sg, hR⟩ := h
  obtain ⟨⟨n1, n2, n3, n4⟩, v1, v2, v3, ⟨c1, c2, c3⟩, ⟨m1, m2, m3, m4, m5, m6, m7⟩, ⟨t1, t2, t3, t4⟩, u1, u2, u3, u4⟩ := hR
  have hV := v1.1
  have h5 := hV.nw5
  have h8 := hV.n8
  have hho := v1.2.2.1
  obtain ⟨σ1, g1, K1, f1, Y1⟩ := yb_ok hK gY20 gY6 (by omega) c1 hV.np8 h5 h8
  obtain ⟨σ2, g2, K2, f2, Y2⟩ := ph_ok K1 gY20 hV Y1 (k := 40) (by omega) (by omega)
  have F : ∀ i, (i < 20 ∨ 33 < i) → σ2 i = σ i := fun i hi => (f2 i hi).trans (f1 i hi)
  have S2 := ST_fr m1 (fun i a b => F i (by omega))
  obtain ⟨σ3, g3, f3, M3⟩ := take_ok (MC_fr (MY_c m3) (F 195 (by omega))) n2 h5
  have S3 := ST_fr S2 (fun i a b => f3 i (by omega))
  obtain ⟨σ4, g4, f4, M4⟩ := cb_ok (ex := 0) (al := 0) hV n2 S3 (FL_fr (FL_fr m2 (F _ (by omega))) (f3 _ (by omega))) (by omega) (by omega) M3 (by omega)
  rw [hsXK_0] at M4
  have S4 := ST_fr S3 (fun i a b => f4 i (by omega) (by omega) (by omega))
  have hV4 := hsK_lt hV 40 (by omega)
  refine ⟨gb32 (fun v => !decide (hsK (Sn.mi A) n np 0 ki (Sn.to A) (Sn.ag A) (Sn.ar A) go (Sn.ho A) (Sn.wa A) 40 v = go v)) nw, σ2, σ4, ?_, ?_, Rel_fr h0 (by omega) hN (KC_m K2 (fun i hi => (f4 i (by omega) (by omega) (by omega)).trans (f3 i (by omega)))) (fun i a b c d => (f4 i b c d).trans ((f3 i b).trans (F i a)))⟩
  · unfold f_X6_lost
    rw [g1]
    dsimp only [sb]
    rw [L_40, g2]
    dsimp only [sb]
    rw [lp_for0 (b := fun st => f_X6_lost_b1 σ2 st.1 st.2) (s0 := ((0 : Int32), (0 : Int32))) (r := gb32 (fun v => !decide (hsK (Sn.mi A) n np 0 ki (Sn.to A) (Sn.ag A) (Sn.ar A) go (Sn.ho A) (Sn.wa A) 40 v = go v)) nw) (fun j => (gb32 (fun v => !decide (hsK (Sn.mi A) n np 0 ki (Sn.to A) (Sn.ag A) (Sn.ar A) go (Sn.ho A) (Sn.wa A) 40 v = go v)) j, nI j)) nw (by omega) ?_ ?_ rfl]
    · rfl
    · intro j hj
      show f_X6_lost_b1 σ2 (gb32 _ j) (nI j) = _
      unfold f_X6_lost_b1 f_X5_walkers
      rw [Y2.1.2.1]
      dsimp only [sb]
      rw [if_neg (nI_ge hj (by omega)), hc_ok K2 gY20 hV4 Y2 hj, nI_1]
      dsimp only [sb, gb32]
      by_cases e : hsK (Sn.mi A) n np 0 ki (Sn.to A) (Sn.ag A) (Sn.ar A) go (Sn.ho A) (Sn.wa A) 40 j = go j
      · rw [b32_t e, if_pos one0, if_neg (by simp [e])]
      · rw [b32_f e, if_neg (fun z => z rfl), if_pos (by simp [e])]
    · show f_X6_lost_b1 σ2 (gb32 _ nw) (nI nw) = _
      unfold f_X6_lost_b1 f_X5_walkers
      rw [Y2.1.2.1]
      dsimp only [sb]
      rw [if_pos (nI_le (Nat.le_refl _) (by omega))]
  · unfold f_X7_lost
    rw [g3]
    dsimp only [sb]
    rw [g4]
    dsimp only [sb]
    rw [lp_for0 (b := fun st => f_X7_lost_b1 σ4 st.1 st.2) (s0 := ((0 : Int32), (0 : Int32))) (r := gb32 (fun v => !decide (hsK (Sn.mi A) n np 0 ki (Sn.to A) (Sn.ag A) (Sn.ar A) go (Sn.ho A) (Sn.wa A) 40 v = go v)) nw) (fun j => (gb32 (fun v => !decide (hsK (Sn.mi A) n np 0 ki (Sn.to A) (Sn.ag A) (Sn.ar A) go (Sn.ho A) (Sn.wa A) 40 v = go v)) j, nI j)) nw (by omega) ?_ ?_ rfl]
    · rfl
    · intro j hj
      have w1 := hV4.waL j
      have w2 := hV4.goL j
      show f_X7_lost_b1 σ4 (gb32 _ j) (nI j) = _
      unfold f_X7_lost_b1
      rw [L_0, l188, ga_n (by omega) (by omega), S4.2.2.1]
      dsimp only [sb]
      rw [if_neg (nI_ge hj (by omega)), nI_add, l198, ga_n (by omega) (by omega), M4.2.2.2.2.1 j hj, l190, ga_n (by omega) (by omega), S4.2.2.2.2 j hj, nI_1]
      dsimp only [sb, gb32]
      by_cases e : hsK (Sn.mi A) n np 0 ki (Sn.to A) (Sn.ag A) (Sn.ar A) go (Sn.ho A) (Sn.wa A) 40 j = go j
      · rw [if_neg (fun z => z (congrArg nI e)), if_neg (by simp [e]), ← L_0, Int32.or_zero]
      · rw [if_pos (fun z => e ((nI_eq (by omega) (by omega)).mp z)), if_pos (by simp [e])]
    · show f_X7_lost_b1 σ4 (gb32 _ nw) (nI nw) = _
      unfold f_X7_lost_b1
      rw [L_0, l188, ga_n (by omega) (by omega), S4.2.2.1]
      dsimp only [sb]
      rw [if_pos (nI_le (Nat.le_refl _) (by omega))]
end LK2
