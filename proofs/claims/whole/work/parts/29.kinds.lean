/-! Part 29: of which kind one is. -/
section KI
variable {σ : Sg} {n : Nat} {mi : Mi} {np nw ho ye : Nat} {ki : Nat → Nat} {to : Nat → Option Nat} {ag : Nat → Nat} {ar am : Nat → Nat → Option Nat} {wa go : Nat → Nat} {sl : Nat} {sg : Nat → Nat × Nat × Nat}
theorem VY_ki {q : Nat} (hV : VY n mi np nw ho ye q ki to ag ar am wa go) {ki' : Nat → Nat} (h : ∀ p, ki' p ≤ 3) : VY n mi np nw ho ye q ki' to ag ar am wa go := ⟨hV.1, hV.2.1, h, hV.2.2.2⟩
def kBad (mi : Mi) (n ho : Nat) (to : Nat → Option Nat) (ag : Nat → Nat) (ar : Nat → Nat → Option Nat) (p : Nat) (sg : Nat → Nat × Nat × Nat) (k i : Nat) : Bool := decide ((sg i).1 = p) && !decide (ptk mi n ho 0 to ag ar k p (sg i).2.1 = some (sg i).2.2)
theorem ptk_lt (hV : VY n mi np nw ho ye 0 ki to ag ar am wa go) {k p t u : Nat} (hk : k ≤ 3) (e : ptk mi n ho 0 to ag ar k p t = some u) : u < n := pt_lt (VY_ki hV (ki' := fun _ => k) (fun _ => hk)) e
theorem fi_ok (hK : KC σ) (hV : VY n mi np nw ho ye 0 ki to ag ar am wa go) (h : YC σ 20 n mi np nw ho ye 0 ki to ag ar am wa go) (hT : NT σ 181 204 205 206 sl sg) (h6 : sl ≤ 6) (hb : ∀ i, i < sl → (sg i).1 < np ∧ (sg i).2.1 < n ∧ (sg i).2.2 < n) {p : Nat} (hp : p < np) : f_X6_fitsSightings σ (nI p) = some (b32 (lw (kBad mi n ho to ag ar p sg (ki p)) 0 sl = none)) := by
  have h8 := hV.n8
  have p8 := hV.np8
  unfold f_X6_fitsSightings
  have e := lp_lw (b := fun st => f_X6_fitsSightings_b1 σ (nI p) st) (P := kBad mi n ho to ag ar p sg (ki p)) (fun i => nI i) (fun _ => Sum.inl ()) (Sum.inr ()) sl 0 FU (by unfold FU; omega) (fun i _ hi => by
    have hi : i < sl := by omega
    obtain ⟨q1, q2, q3⟩ := nt1 hK hT h6 hi
    obtain ⟨b1, b2, b3⟩ := hb i hi
    show f_X6_fitsSightings_b1 σ (nI p) (nI i) = _
    unfold f_X6_fitsSightings_b1 f_X2_held
    rw [hT.1, sb, if_neg (nI_ge hi (by omega)), q1, sb, q2, sb, pt_ok hK gY20 hV h hp (by omega), sb, q3, sb, nI_1, pt_k]
    unfold kBad
    by_cases c : (sg i).1 = p
    · rw [if_neg (fun z => z (congrArg nI c)), decide_eq_true c, Bool.true_and]
      by_cases d : ptk mi n ho 0 to ag ar (ki p) p (sg i).2.1 = some (sg i).2.2
      · rw [if_pos (show oI (ptk mi n ho 0 to ag ar (ki p) p (sg i).2.1) = nI (sg i).2.2 by rw [d]; rfl), decide_eq_true d]; rfl
      · rw [if_neg (fun z => d ((oI_eqs (fun w hw => by have := ptk_lt hV (hV.kiL p) hw; omega) (by omega)).mp z)), decide_eq_false d]; rfl
    · rw [if_pos (fun z => c ((nI_eq (by omega) (by omega)).mp z)), decide_eq_false c, Bool.false_and]; rfl) (by
    show f_X6_fitsSightings_b1 σ (nI p) (nI (0 + sl)) = _
    unfold f_X6_fitsSightings_b1 f_X2_held
    rw [hT.1, sb, Nat.zero_add, if_pos (nI_le (Nat.le_refl _) (by omega))])
  rw [show (0 : Int32) = nI 0 from rfl, e, sb]
  cases lw (kBad mi n ho to ag ar p sg (ki p)) 0 sl <;> rfl
theorem mk_lp (hV : VY n mi np nw ho ye 0 ki to ag ar am wa go) (hnp : np ≤ 6) (hS : ST σ n np nw ki go) (hF : FL σ 0 0 0) (h : MC σ 195 mi np nw ho ye to ag ar am wa) (hT : NT σ 181 204 205 206 sl sg) (hT2 : σ 184 32 = nI sl) (h6 : sl ≤ 6) (hb : ∀ i, i < sl → (sg i).1 < np ∧ (sg i).2.1 < n ∧ (sg i).2.2 < n) {p k : Nat} (hp : p < np) (hk : k ≤ 3) : lp (fun st => f_X7_kinds_b1 σ (nI p) (nI k) st.1 st.2) FU ((1 : Int32), (0 : Int32)) = some (b32 (lw (kBad mi n ho to ag ar p sg k) 0 sl = none)) := by
  have h8 := hV.n8
  refine lp_is (by omega) (fun i hi => ?_) (fun i hi => ?_) (fun y => ?_)
  · show f_X7_kinds_b1 σ (nI p) (nI k) 0 (nI i) = _
    unfold f_X7_kinds_b1
    rw [hT2, if_neg (nI_ge hi (by omega)), if_pos rfl, nI_1]
  · obtain ⟨b1, b2, b3⟩ := hb i hi
    obtain ⟨-, q1, q2, q3⟩ := hT.2 i hi
    show f_X7_kinds_b1 σ (nI p) (nI k) 1 (nI i) = _
    unfold f_X7_kinds_b1
    rw [hT2, if_neg (nI_ge hi (by omega)), if_neg one0, l204, l205, l206, ga_n (by omega) (by omega), ga_n (by omega) (by omega), ga_n (by omega) (by omega), q1, q2, q3, sb, sb, pn_ok (Or.inl rfl) hV hnp hS hF.1 h hp hk (by omega), sb, sb, nI_1]
    unfold kBad
    by_cases c : (sg i).1 = p
    · rw [if_neg (fun z => z (congrArg nI c)), decide_eq_true c, Bool.true_and]
      by_cases d : ptk mi n ho 0 to ag ar k p (sg i).2.1 = some (sg i).2.2
      · rw [if_neg (fun z => z (show oI (ptk mi n ho 0 to ag ar k p (sg i).2.1) = nI (sg i).2.2 by rw [d]; rfl)), decide_eq_true d]; rfl
      · rw [if_pos (fun z => d ((oI_eqs (fun w hw => by have := ptk_lt hV hk hw; omega) (by omega)).mp z)), decide_eq_false d]; rfl
    · rw [if_pos (fun z => c ((nI_eq (by omega) (by omega)).mp z)), decide_eq_false c, Bool.false_and]; rfl
  · show f_X7_kinds_b1 σ (nI p) (nI k) y (nI sl) = _
    unfold f_X7_kinds_b1
    rw [hT2, if_pos (nI_le (Nat.le_refl _) (by omega))]
theorem eq_kinds {N : Nat} (h : Rel N σ) (hN : N < 512) (a1 : Int32) : ∃ r σ1, f_X6_kinds σ a1 = some (r, σ1) ∧ f_X7_kinds σ1 a1 = some r ∧ Rel (N + 1) σ1 := by
  have h0 := h
  obtain ⟨hK, hT, n, np, nw, ki, go, A, m, S, k, K, tl, tf, sl, sg, hR⟩ := h
  obtain ⟨⟨n1, n2, n3, n4⟩, v1, v2, v3, ⟨c1, c2, c3⟩, ⟨m1, m2, m3, m4, m5, m6, m7⟩, ⟨t1, t2, t3, t4⟩, u1, u2, u3, u4⟩ := hR
  have hV := v1.1
  have h8 := hV.np8
  have same : Rel (N + 1) σ := Rel_fr h0 (by omega) hN hK (fun _ _ _ _ _ => rfl)
  rcases mp_in m1 h8 a1 with ⟨p, hp, rfl, e1⟩ | ⟨o1, e1⟩
  · obtain ⟨σ1, g1, K1, f1, Y1⟩ := yb_ok hK gY20 gY6 (by omega) c1 hV.np8 hV.nw5 hV.n8
    obtain ⟨⟨r, σ2⟩, g2, g3, K2, F2⟩ := lp_inv (b := fun st => f_X6_kinds_b1 (nI p) st.1 st.2.1 st.2.2) (s0 := ((0 : Int32), (0 : Int32), σ1)) (Post := fun (q : Int32 × Sg) => q.1 = gb32 (fun k => decide (lw (kBad (Sn.mi A) n (Sn.ho A) (Sn.to A) (Sn.ag A) (Sn.ar A) p sg k) 0 sl = none)) 4 ∧ KC q.2 ∧ (∀ i, (i < 20 ∨ 33 < i) → q.2 i = σ i)) (fun j (s : Int32 × Int32 × Sg) => s.1 = gb32 (fun k => decide (lw (kBad (Sn.mi A) n (Sn.ho A) (Sn.to A) (Sn.ag A) (Sn.ar A) p sg k) 0 sl = none)) j ∧ s.2.1 = nI j ∧ KC s.2.2 ∧ (∀ i, (i < 20 ∨ 33 < i) → s.2.2 i = σ i) ∧ ∃ ki', (∀ p, ki' p ≤ 3) ∧ YC s.2.2 20 n (Sn.mi A) np nw (Sn.ho A) (Sn.ye A) 0 ki' (Sn.to A) (Sn.ag A) (Sn.ar A) (Sn.am A) (Sn.wa A) go) 4 (by omega) ⟨rfl, rfl, K1, fun i hi => f1 i (by omega), ki, hV.kiL, Y1⟩ (by
      rintro j ⟨x1, x2, τ⟩ hj ⟨e1, e2, Kt, ft, ki', hk, Yt⟩
      dsimp only at e1 e2 Kt ft Yt
      subst e1 e2
      obtain ⟨τ', q1, q2, q3, q4⟩ := ti_ok (k := j) Kt gY20 Yt h8 hp
      have F : ∀ i, (i < 20 ∨ 33 < i) → τ' i = σ i := fun i hi => (q3 i (by omega)).trans (ft i hi)
      have hk' : ∀ q, upN ki' p j q ≤ 3 := fun q => by
        unfold upN
        split
        · omega
        · exact hk q
      have fo := fi_ok q2 (VY_ki hV hk') q4 (NT_fr u1 (F _ (by omega)) (F _ (by omega)) (F _ (by omega)) (F _ (by omega)) (F _ (by omega))) u3 u4 hp
      rw [upN_at] at fo
      show ∃ s', f_X6_kinds_b1 (nI p) (gb32 _ j) (nI j) τ = _ ∧ _
      unfold f_X6_kinds_b1
      rw [L_4, if_neg (nI_ge hj (by omega)), q1, sb, fo, sb, nI_1]
      by_cases e : lw (kBad (Sn.mi A) n (Sn.ho A) (Sn.to A) (Sn.ag A) (Sn.ar A) p sg j) 0 sl = none
      · rw [b32_t e, if_neg one0]
        exact ⟨_, rfl, by dsimp only [gb32]; rw [if_pos (decide_eq_true e)], rfl, q2, F, _, hk', q4⟩
      · rw [b32_f e, if_pos rfl]
        exact ⟨_, rfl, by dsimp only [gb32]; rw [if_neg (by simp [e])], rfl, q2, F, _, hk', q4⟩) (by
      rintro ⟨x1, x2, τ⟩ ⟨e1, e2, Kt, ft, -⟩
      dsimp only at e1 e2 Kt ft
      subst e2
      show ∃ s', f_X6_kinds_b1 (nI p) x1 (nI 4) τ = _ ∧ _
      unfold f_X6_kinds_b1
      rw [L_4, if_pos (nI_le (Nat.le_refl _) (by omega))]
      exact ⟨_, rfl, e1, Kt, ft⟩)
    dsimp only at g3 K2 F2
    have S2 := ST_fr m1 (fun i a b => F2 i (by omega))
    have M2 := MC_fr (MY_c m3) (F2 195 (by omega))
    have T2 := NT_fr u1 (F2 _ (by omega)) (F2 _ (by omega)) (F2 _ (by omega)) (F2 _ (by omega)) (F2 _ (by omega))
    have L2 := FL_fr m2 (F2 _ (by omega))
    refine ⟨r, σ2, ?_, ?_, Rel_fr h0 (by omega) hN K2 (fun i a b c d => F2 i a)⟩
    · unfold f_X6_kinds
      rw [ip_in c1 h8 hp, sb, if_pos one0, g1, sb, g2, sb]
      rfl
    · unfold f_X7_kinds
      rcases mp_in S2 h8 (nI p) with ⟨p', hp', e0', e1'⟩ | ⟨o1', e1'⟩
      · rw [e1', sb, if_pos one0]
        rw [lp_for0 (b := fun st => f_X7_kinds_b2 σ2 (nI p) st.1 st.2) (s0 := ((0 : Int32), (0 : Int32))) (r := gb32 (fun k => decide (lw (kBad (Sn.mi A) n (Sn.ho A) (Sn.to A) (Sn.ag A) (Sn.ar A) p sg k) 0 sl = none)) 4) (fun j => (gb32 (fun k => decide (lw (kBad (Sn.mi A) n (Sn.ho A) (Sn.to A) (Sn.ag A) (Sn.ar A) p sg k) 0 sl = none)) j, nI j)) 4 (by omega) ?_ ?_ rfl, sb]
        · unfold f_X7_kinds_k2; rw [g3]
        · intro j hj
          show f_X7_kinds_b2 σ2 (nI p) (gb32 _ j) (nI j) = _
          unfold f_X7_kinds_b2
          rw [L_3, if_neg (nI_nlt (by omega) (by omega)), mk_lp hV n2 S2 L2 M2 T2 (by rw [F2 _ (by omega)]; exact u2) u3 u4 hp (by omega), sb]
          unfold f_X7_kinds_k1
          rw [nI_1]
          dsimp only [gb32]
          by_cases e : lw (kBad (Sn.mi A) n (Sn.ho A) (Sn.to A) (Sn.ag A) (Sn.ar A) p sg j) 0 sl = none
          · rw [b32_t e, if_neg one0, if_pos (decide_eq_true e)]
          · rw [b32_f e, if_pos rfl, if_neg (by simp [e]), Int32.or_zero]
        · show f_X7_kinds_b2 σ2 (nI p) (gb32 (fun k => decide (lw (kBad (Sn.mi A) n (Sn.ho A) (Sn.to A) (Sn.ag A) (Sn.ar A) p sg k) 0 sl = none)) 4) (nI 4) = some (.inr (gb32 (fun k => decide (lw (kBad (Sn.mi A) n (Sn.ho A) (Sn.to A) (Sn.ag A) (Sn.ar A) p sg k) 0 sl = none)) 4))
          unfold f_X7_kinds_b2
          rw [L_3, if_pos (nI_lt (by omega) (by omega))]
      · exfalso; rcases o1' with z | z
        · exact nI_pos (by omega) z
        · exact nI_ge hp (by omega) z
  · refine ⟨-1, σ, ?_, ?_, same⟩
    · unfold f_X6_kinds; rw [ip_out c1 o1]; rfl
    · unfold f_X7_kinds; rw [e1]; rfl
end KI
