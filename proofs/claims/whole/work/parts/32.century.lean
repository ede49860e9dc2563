/-! Part 32: centuries by draws. -/
theorem in_1 {σ : Sg} {a L : Int32} {n : Nat} (hn : n < 2 ^ 30) (hL : L = nI n) : (∃ t, 1 ≤ t ∧ t ≤ n ∧ a = nI t ∧ f_X7_in σ a (1 : Int32) L = some 1) ∨ ((a < 1 ∨ nI n < a) ∧ f_X7_in σ a (1 : Int32) L = some 0) := by
  subst hL
  unfold f_X7_in
  by_cases c : a < 1
  · right; exact ⟨Or.inl c, by rw [if_pos c]⟩
  · by_cases d : nI n < a
    · right; exact ⟨Or.inr d, by rw [if_neg c, if_pos d]⟩
    · have c0 : ¬ a < 0 := fun z => c (Int32.lt_of_lt_of_le z (by decide))
      obtain ⟨j, hj, rfl⟩ := nI_of c0
      left
      refine ⟨j, ?_, ?_, rfl, by rw [if_neg c, if_neg d]⟩
      · have : ¬ j < 1 := fun z => c (by rw [L_1]; exact nI_lt z (by omega))
        omega
      · have : ¬ n < j := fun z => d (nI_lt z hj)
        omega
def drX (z t : Nat) : Nat := 7919 * z + 6151 * t + 1
def drw (z t : Nat) : Nat := drX z t * drX z t % 65521 / 2
theorem drw_lt {z t : Nat} : drw z t < 65521 := Nat.lt_of_le_of_lt (Nat.div_le_self _ _) (Nat.mod_lt _ (by omega))
theorem dr_core {z t : Nat} (hz : z ≤ 9999) (ht : t ≤ 60) : (jreml (((((7919 : Int64) * (nI z).toInt64) + ((6151 : Int64) * (nI t).toInt64)) + (1 : Int64)) * ((((7919 : Int64) * (nI z).toInt64) + ((6151 : Int64) * (nI t).toInt64)) + (1 : Int64))) (65521 : Int64)).toInt = ((drX z t * drX z t % 65521 : Nat) : Int) := by
  have cz : (nI z).toInt64.toInt = (z : Int) := by rw [Kit.i64_of_i32, nI_toInt (by omega)]
  have ct : (nI t).toInt64.toInt = (t : Int) := by rw [Kit.i64_of_i32, nI_toInt (by omega)]
  have k1 : (7919 : Int64).toInt = 7919 := by decide
  have k2 : (6151 : Int64).toInt = 6151 := by decide
  have k3 : (1 : Int64).toInt = 1 := by decide
  have k4 : (65521 : Int64).toInt = 65521 := by decide
  have e1 : ((7919 : Int64) * (nI z).toInt64).toInt = 7919 * (z : Int) := by
    rw [Kit.i64_mul (by rw [cz, k1]; omega) (by rw [cz, k1]; omega), cz, k1]
  have e2 : ((6151 : Int64) * (nI t).toInt64).toInt = 6151 * (t : Int) := by
    rw [Kit.i64_mul (by rw [ct, k2]; omega) (by rw [ct, k2]; omega), ct, k2]
  have e3 : (((7919 : Int64) * (nI z).toInt64) + ((6151 : Int64) * (nI t).toInt64)).toInt = 7919 * (z : Int) + 6151 * (t : Int) := by
    rw [Kit.i64_add (by rw [e1, e2]; omega) (by rw [e1, e2]; omega), e1, e2]
  have e4 : ((((7919 : Int64) * (nI z).toInt64) + ((6151 : Int64) * (nI t).toInt64)) + (1 : Int64)).toInt = ((drX z t : Nat) : Int) := by
    rw [Kit.i64_add (by rw [e3, k3]; omega) (by rw [e3, k3]; omega), e3, k3]
    unfold drX
    omega
  have xb : drX z t ≤ 134217728 := by unfold drX; omega
  have xx : drX z t * drX z t ≤ 134217728 * 134217728 := Nat.mul_le_mul xb xb
  generalize hE : (((7919 : Int64) * (nI z).toInt64) + ((6151 : Int64) * (nI t).toInt64)) + (1 : Int64) = E at e4 ⊢
  generalize drX z t = X at e4 xb xx ⊢
  have e5 : (E * E).toInt = ((X * X : Nat) : Int) := by
    rw [Kit.i64_mul (by rw [e4, ← Int.natCast_mul]; omega) (by rw [e4, ← Int.natCast_mul]; omega), e4, ← Int.natCast_mul]
  unfold jreml
  rw [Kit.i64_rem_nonneg (by rw [e5]; omega), e5, k4]
  omega
theorem dr_c {σ : Sg} {z t : Nat} (hz : z ≤ 9999) (ht : t ≤ 60) : f_X6_drawn σ (nI z) (nI t) = some (nI (drw z t)) := by
  have e := dr_core hz ht
  have r := Nat.mod_lt (drX z t * drX z t) (show 0 < 65521 by omega)
  have k2 : (2 : Int64).toInt = 2 := by decide
  unfold f_X6_drawn
  congr 1
  have d : ((jreml (((((7919 : Int64) * (nI z).toInt64) + ((6151 : Int64) * (nI t).toInt64)) + (1 : Int64)) * ((((7919 : Int64) * (nI z).toInt64) + ((6151 : Int64) * (nI t).toInt64)) + (1 : Int64))) (65521 : Int64)) / (2 : Int64)).toInt = ((drw z t : Nat) : Int) := by
    rw [Kit.i64_div (fun q => by have := q.2; rw [k2] at this; omega), e, k2, Int.tdiv_eq_ediv_of_nonneg (by omega)]
    unfold drw
    omega
  have := drw_lt (z := z) (t := t)
  refine nI_lt_of ?_ (by omega)
  rw [Kit.i32_of_i64 (by rw [d]; omega) (by rw [d]; omega), d]
theorem dr_m {z t : Nat} (hz : z ≤ 9999) (ht : t ≤ 60) : ((jreml (((((7919 : Int64) * (nI z).toInt64) + ((6151 : Int64) * (nI t).toInt64)) + (1 : Int64)) * ((((7919 : Int64) * (nI z).toInt64) + ((6151 : Int64) * (nI t).toInt64)) + (1 : Int64))) (65521 : Int64))).toInt32 / (2 : Int32) = nI (drw z t) := by
  have e := dr_core hz ht
  have r := Nat.mod_lt (drX z t * drX z t) (show 0 < 65521 by omega)
  have d : ((jreml (((((7919 : Int64) * (nI z).toInt64) + ((6151 : Int64) * (nI t).toInt64)) + (1 : Int64)) * ((((7919 : Int64) * (nI z).toInt64) + ((6151 : Int64) * (nI t).toInt64)) + (1 : Int64))) (65521 : Int64))).toInt32 = nI (drX z t * drX z t % 65521) := by
    refine nI_lt_of ?_ (by omega)
    rw [Kit.i32_of_i64 (by rw [e]; omega) (by rw [e]; omega), e]
  rw [d, L_2, div_n (by omega) (by omega)]
  rfl
section CE
variable {σ : Sg} {n np nw : Nat} {ki go : Nat → Nat} {A : Sn}
/-- one draw's act -/
def ctA (n np d : Nat) (A : Sn) : Sn :=
  if d / 64 % 6 = 0 then (match Sn.to A (d % np) with
    | none => A
    | some x => paA n (d % np) x A)
  else if d / 64 % 6 = 1 then (match Sn.to A (d % np) with
    | none => A
    | some _ => mvA (d % np) (d / 8 % n) A)
  else if d / 64 % 6 = 2 then yrA np A
  else if d / 64 % 6 = 3 then lyA (d / 8 % n) (tnx n (d / 8 % n)) (if 0 < Sn.mi A (d / 8 % n) (tnx n (d / 8 % n)) then 0 else d / 512 % 9 + 1) A
  else A
theorem ctA_ho {d : Nat} : Sn.ho (ctA n np d A) = Sn.ho A := by
  unfold ctA
  split
  · split <;> rfl
  · split
    · split <;> rfl
    · split
      · rfl
      · split <;> rfl
theorem ctA_ye {d : Nat} : Sn.ye (ctA n np d A) ≤ Sn.ye A + 1 := by
  unfold ctA
  split
  · split <;> exact Nat.le_succ _
  · split
    · split <;> exact Nat.le_succ _
    · split
      · exact Nat.le_refl _
      · split <;> exact Nat.le_succ _
theorem VA_ct (h : VA n np nw ki go A) {d : Nat} (hy : Sn.ye A + 1 ≤ 100000) : VA n np nw ki go (ctA n np d A) := by
  have h2 := h.1.n2
  unfold ctA
  split
  · split
    · exact h
    · next e => exact VA_pa h e
  · split
    · split
      · exact h
      · next e => exact VA_mv h (Nat.mod_lt _ (by omega)) (by rw [e]; exact fun z => by cases z)
    · split
      · exact VA_yr h hy
      · split
        · exact VA_ly h (Nat.mod_lt _ (by omega)) (tnx_lt (by omega)) (by split <;> omega)
        · exact h
theorem cs0 {d : Nat} {c : Nat} (hc : c < 6) : (nI (d / 64 % 6) = nI c) ↔ d / 64 % 6 = c := nI_eq (by omega) (by omega)
theorem ab_ok (hK : KC σ) (hV : VA n np nw ki go A) (h1 : 1 ≤ np) (h : CY σ 20 n np nw ki go A) {d : Nat} (hd : d < 2 ^ 31) : ∃ σ', f_X6_actByDraw σ (nI d) = some σ' ∧ KC σ' ∧ (∀ i, (i < 20 ∨ 33 < i) → σ' i = σ i) ∧ CY σ' 20 n np nw ki go (ctA n np d A) := by
  have h2 := hV.1.n2
  have h8 := hV.1.n8
  have hp8 := hV.1.np8
  have p1 : d % np < np := Nat.mod_lt _ (by omega)
  have x1 : d / 8 % n < n := Nat.mod_lt _ (by omega)
  have y1 : tnx n (d / 8 % n) < n := tnx_lt (by omega)
  have d8 : d / 8 ≤ d := Nat.div_le_self _ _
  have d64 : d / 64 ≤ d := Nat.div_le_self _ _
  have d512 : d / 512 ≤ d := Nat.div_le_self _ _
  unfold f_X6_actByDraw f_X5_posts f_X5_towns f_X3_towns
  rw [h.1.1, show σ (20 + 1) 0 = nI n from h.2.1.1, sb, sb, sb, L_1, if_neg (nI_nlt h1 (by omega)), if_pos (nI_le (by omega) (by omega)), re_n hd (by omega) (by omega), sb, L_8, div_n hd (by omega), re_n (by omega) (by omega) (by omega), sb, L_64, div_n hd (by omega), L_6, rem_n (by omega) (by omega), L_0, L_2, L_3, L_512, div_n hd (by omega), L_9, rem_n (by omega) (by omega), nI_add]
  unfold ctA
  by_cases k0 : d / 64 % 6 = 0
  · rw [if_pos ((cs0 (by omega)).mpr k0), if_pos k0, ir_ok hK gY20 hV.1 h p1, sb]
    cases e : Sn.to A (d % np) with
    | none => rw [b32_t rfl, if_pos (show ¬ (1 : Int32) = nI 0 by decide)]; exact ⟨σ, rfl, hK, fun _ _ => rfl, h⟩
    | some x =>
      obtain ⟨σ', g1, g2, g3, g4⟩ := cy_pa hK gY20 hV h p1 e
      rw [b32_f (fun z => by cases z), if_neg (fun z => z rfl), g1, sb]
      exact ⟨σ', rfl, g2, fun i hi => g3 i (by omega), g4⟩
  · rw [if_neg (fun z => k0 ((cs0 (by omega)).mp z)), if_neg k0]
    by_cases k1 : d / 64 % 6 = 1
    · rw [if_pos ((cs0 (by omega)).mpr k1), if_pos k1, ir_ok hK gY20 hV.1 h p1, sb]
      cases e : Sn.to A (d % np) with
      | none => rw [b32_t rfl, if_pos (show ¬ (1 : Int32) = nI 0 by decide)]; exact ⟨σ, rfl, hK, fun _ _ => rfl, h⟩
      | some x =>
        obtain ⟨σ', g1, g2, g3, g4⟩ := cy_mv (x := d / 8 % n) hK gY20 hV h p1
        rw [b32_f (fun z => by cases z), if_neg (fun z => z rfl), g1, sb]
        exact ⟨σ', rfl, g2, fun i hi => g3 i (by omega), g4⟩
    · rw [if_neg (fun z => k1 ((cs0 (by omega)).mp z)), if_neg k1]
      by_cases k2 : d / 64 % 6 = 2
      · obtain ⟨σ', g1, g2, g3, g4⟩ := cy_yr hK gY20 hV h
        rw [if_pos ((cs0 (by omega)).mpr k2), if_pos k2, g1, sb]
        exact ⟨σ', rfl, g2, fun i hi => g3 i (by omega), g4⟩
      · rw [if_neg (fun z => k2 ((cs0 (by omega)).mp z)), if_neg k2]
        by_cases k3 : d / 64 % 6 = 3
        · have tb : f_X3_townBehind σ (20 + 1) (nI (d / 8 % n)) = some (nI (tnx n (d / 8 % n))) := by
            unfold f_X3_townBehind tnx
            rw [show σ (20 + 1) 0 = nI n from h.2.1.1, nI_1]
            by_cases c : d / 8 % n + 1 < n
            · rw [if_neg (nI_ge c (by omega)), if_pos c]
            · rw [if_pos (nI_le (by omega) (by omega)), if_neg c]; rfl
          rw [if_pos ((cs0 (by omega)).mpr k3), if_pos k3]
          unfold f_X6_layOrClose
          rw [tb, sb, btw_ok hK gY20.2.2.1.1 h.2.1 (by omega) (by omega), sb]
          have hm := hV.1.1.2.2.1 (d / 8 % n) (tnx n (d / 8 % n))
          by_cases c : 0 < Sn.mi A (d / 8 % n) (tnx n (d / 8 % n))
          · obtain ⟨σ', g1, g2, g3, g4⟩ := cy_ly (l := 0) hK gY20 hV h x1 y1 (by omega)
            rw [L_0, if_neg (nI_ge c (by omega)), if_pos c, g1, sb, sb]
            exact ⟨σ', rfl, g2, fun i hi => g3 i (by omega), g4⟩
          · obtain ⟨σ', g1, g2, g3, g4⟩ := cy_ly (l := d / 512 % 9 + 1) hK gY20 hV h x1 y1 (by omega)
            rw [L_0, if_pos (nI_le (by omega) (by omega)), if_neg c, g1, sb, sb]
            exact ⟨σ', rfl, g2, fun i hi => g3 i (by omega), g4⟩
        · rw [if_neg (fun z => k3 ((cs0 (by omega)).mp z)), if_neg k3]
          exact ⟨σ, rfl, hK, fun _ _ => rfl, h⟩
theorem mt2_ok (hV : VA n np nw ki go A) (h1 : 1 ≤ np) (hnp : np ≤ 6) (hS : ST σ n np nw ki go) (h : MY (σ 198) np nw A) {d : Nat} (hd : d < 2 ^ 31) : ∃ σ', f_X7_turn σ (nI d) = some σ' ∧ (∀ i, i ≠ 198 → i ≠ 199 → σ' i = σ i) ∧ MY (σ' 198) np nw (ctA n np d A) := by
  have h2 := hV.1.n2
  have h8 := hV.1.n8
  have p1 : d % np < np := Nat.mod_lt _ (by omega)
  have x1 : d / 8 % n < n := Nat.mod_lt _ (by omega)
  have y1 : tnx n (d / 8 % n) < n := tnx_lt (by omega)
  have d8 : d / 8 ≤ d := Nat.div_le_self _ _
  have d64 : d / 64 ≤ d := Nat.div_le_self _ _
  have d512 : d / 512 ≤ d := Nat.div_le_self _ _
  have ym : (d / 8 % n + 1) % n = tnx n (d / 8 % n) := by
    rw [← tnx_mod (by omega), Nat.mod_mod]
  have hm := hV.1.1.2.2.1 (d / 8 % n) (tnx n (d / 8 % n))
  unfold f_X7_turn
  rw [show ga (σ 187) (ln 187) (0 : Int32) = some (nI np) by rw [L_0, l187, ga_n (by omega) (by omega), hS.2.1], show ga (σ 186) (ln 186) (0 : Int32) = some (nI n) by rw [L_0, l186, ga_n (by omega) (by omega), hS.1], sb, re_n hd (by omega) (by omega), sb, sb, L_8, div_n hd (by omega), re_n (by omega) (by omega) (by omega), sb, sb, nI_1, re_n (by omega) (by omega) (by omega), sb, L_71, nI_add, l198, ga_n (by omega) (by omega), (MY_c h).2.1 _ p1, sb, ym, L_64, div_n hd (by omega), L_6, rem_n (by omega) (by omega), L_0, L_1, L_2, L_3, L_512, div_n hd (by omega), L_9, rem_n (by omega) (by omega), nI_add, L_7, nI_mul, nI_add, nI_add, ga_n (by omega) (by omega), (MY_c h).1 _ _ (by omega) (by omega), sb]
  unfold ctA
  by_cases k0 : d / 64 % 6 = 0
  · rw [if_pos ((cs0 (by omega)).mpr k0), if_pos k0]
    cases e : Sn.to A (d % np) with
    | none => rw [if_pos oI_n]; exact ⟨σ, rfl, fun _ _ _ => rfl, h⟩
    | some x =>
      have := hV.1.toL e
      obtain ⟨σ1, σ', g1, g2, g3, g4⟩ := my_pa (Or.inr rfl) hV hnp hS h p1 e
      rw [if_neg (oI_ne (by omega)), if_pos ((cs0 (by omega)).mpr k0), g1, sb, g2, sb]
      exact ⟨σ', rfl, g3, g4⟩
  · by_cases k1 : d / 64 % 6 = 1
    · rw [if_neg (fun z => k0 ((cs0 (by omega)).mp z)), if_neg k0, if_pos ((cs0 (by omega)).mpr k1), if_pos k1]
      cases e : Sn.to A (d % np) with
      | none => rw [if_pos oI_n]; exact ⟨σ, rfl, fun _ _ _ => rfl, h⟩
      | some x =>
        have := hV.1.toL e
        rw [if_neg (oI_ne (by omega)), if_neg (fun z => k0 ((cs0 (by omega)).mp z)), if_pos ((cs0 (by omega)).mpr k1), sa_n (by omega) (by omega), sb]
        refine ⟨_, rfl, fun i a b => sf_ne a, ?_⟩
        exact my_mv (Or.inr rfl) hV hnp h p1 (by rw [e]; exact fun z => by cases z)
    · by_cases k2 : d / 64 % 6 = 2
      · obtain ⟨σ', g1, g2, g3⟩ := my_yr (Or.inr rfl) hV hnp hS h
        rw [if_neg (fun z => k0 ((cs0 (by omega)).mp z)), if_neg k0, if_neg (fun z => k1 ((cs0 (by omega)).mp z)), if_neg k1, if_pos ((cs0 (by omega)).mpr k2), if_pos k2, if_neg (fun z => k0 ((cs0 (by omega)).mp z)), if_neg (fun z => k1 ((cs0 (by omega)).mp z)), ite_self, g1, sb]
        exact ⟨σ', rfl, fun i a b => g2 i a, g3⟩
      · by_cases k3 : d / 64 % 6 = 3
        · rw [if_neg (fun z => k0 ((cs0 (by omega)).mp z)), if_neg k0, if_neg (fun z => k1 ((cs0 (by omega)).mp z)), if_neg k1, if_neg (fun z => k2 ((cs0 (by omega)).mp z)), if_neg k2, if_pos ((cs0 (by omega)).mpr k3), if_pos k3, if_neg (fun z => k0 ((cs0 (by omega)).mp z)), if_neg (fun z => k1 ((cs0 (by omega)).mp z)), ite_self]
          by_cases c : 0 < Sn.mi A (d / 8 % n) (tnx n (d / 8 % n))
          · obtain ⟨σ', g1, g2, g3⟩ := my_ly (l := 0) (Or.inr rfl) hV hnp h (a := d / 8 % n) (b := tnx n (d / 8 % n)) (by omega) (by omega)
            rw [if_neg (nI_ge c (by omega)), if_pos c, g1, sb]
            exact ⟨σ', rfl, fun i a b => g2 i a, g3⟩
          · obtain ⟨σ', g1, g2, g3⟩ := my_ly (l := d / 512 % 9 + 1) (Or.inr rfl) hV hnp h (a := d / 8 % n) (b := tnx n (d / 8 % n)) (by omega) (by omega)
            rw [if_pos (nI_le (by omega) (by omega)), if_neg c, g1, sb]
            exact ⟨σ', rfl, fun i a b => g2 i a, g3⟩
        · rw [if_neg (fun z => k0 ((cs0 (by omega)).mp z)), if_neg k0, if_neg (fun z => k1 ((cs0 (by omega)).mp z)), if_neg k1, if_neg (fun z => k2 ((cs0 (by omega)).mp z)), if_neg k2, if_neg (fun z => k3 ((cs0 (by omega)).mp z)), if_neg k3, if_neg (fun z => k0 ((cs0 (by omega)).mp z)), if_neg (fun z => k1 ((cs0 (by omega)).mp z)), ite_self]
          exact ⟨σ, rfl, fun _ _ _ => rfl, h⟩
def cA (n np z : Nat) (ki go : Nat → Nat) (A : Sn) : Nat → Sn
  | 0 => A
  | k + 1 => hrA n np ki go 1 (ctA n np (drw z k) (cA n np z ki go A k))
theorem cA_ok (hV : VA n np nw ki go A) (hh : Sn.ho A ≤ 1000) (hy : Sn.ye A ≤ 1000) {z : Nat} : ∀ k, k ≤ 60 → VA n np nw ki go (cA n np z ki go A k) ∧ Sn.ho (cA n np z ki go A k) = Sn.ho A + k ∧ Sn.ye (cA n np z ki go A k) ≤ Sn.ye A + k
  | 0, _ => ⟨hV, rfl, Nat.le_refl _⟩
  | k + 1, hk => by
    obtain ⟨a, b, c⟩ := cA_ok hV hh hy (z := z) k (by omega)
    have a2 := VA_ct (d := drw z k) a (by omega)
    have b2 := ctA_ho (n := n) (np := np) (d := drw z k) (A := cA n np z ki go A k)
    have c2 := ctA_ye (n := n) (np := np) (d := drw z k) (A := cA n np z ki go A k)
    refine ⟨VA_hr a2 (by omega), ?_, ?_⟩
    · show Sn.ho (ctA n np (drw z k) (cA n np z ki go A k)) + 1 = _
      omega
    · show Sn.ye (ctA n np (drw z k) (cA n np z ki go A k)) ≤ _
      omega
theorem c_cen {τ1 : Sg} (K1 : KC τ1) (hV : VA n np nw ki go A) (h1 : 1 ≤ np) (hh : Sn.ho A ≤ 1000) (hy : Sn.ye A ≤ 1000) (h : CY τ1 20 n np nw ki go A) {z N : Nat} (hz : z ≤ 9999) (hN : N ≤ 60) : ∃ τ, lp (fun st => f_X6_century_b1 (nI z) (nI N) st.1 st.2) FU ((0 : Int32), τ1) = some τ ∧ (KC τ ∧ (∀ i, (i < 20 ∨ 33 < i) → τ i = τ1 i) ∧ CY τ 20 n np nw ki go (cA n np z ki go A N)) := by
  refine lp_inv (fun j (s : Int32 × Sg) => s.1 = nI j ∧ KC s.2 ∧ (∀ i, (i < 20 ∨ 33 < i) → s.2 i = τ1 i) ∧ CY s.2 20 n np nw ki go (cA n np z ki go A j)) N (by omega) ⟨rfl, K1, fun _ _ => rfl, h⟩ ?_ ?_
  · rintro j ⟨x, τ⟩ hj ⟨e, Kt, ft, Yt⟩
    dsimp only at e Kt ft Yt
    subst e
    obtain ⟨a, b, c⟩ := cA_ok hV hh hy (z := z) j (by omega)
    obtain ⟨τ2, g1, g2, g3, g4⟩ := ab_ok Kt a h1 Yt (d := drw z j) (by have := drw_lt (z := z) (t := j); omega)
    have a2 := VA_ct (d := drw z j) a (by omega)
    have b2 := ctA_ho (n := n) (np := np) (d := drw z j) (A := cA n np z ki go A j)
    obtain ⟨τ3, q1, q2, q3, q4⟩ := cy_hr g2 gY20 a2 g4 (k := 1) (by omega) (by omega)
    show ∃ s', f_X6_century_b1 (nI z) (nI N) (nI j) τ = _ ∧ _
    unfold f_X6_century_b1
    rw [if_neg (nI_ge hj (by omega)), dr_c hz (by omega), sb, g1, sb, L_1, q1, sb, nI_add]
    exact ⟨_, rfl, rfl, q2, fun i hi => (q3 i (by omega)).trans ((g3 i hi).trans (ft i hi)), q4⟩
  · rintro ⟨x, τ⟩ ⟨e, Kt, ft, Yt⟩
    dsimp only at e Kt ft Yt
    subst e
    show ∃ s', f_X6_century_b1 (nI z) (nI N) (nI N) τ = _ ∧ _
    unfold f_X6_century_b1
    rw [if_pos (nI_le (Nat.le_refl _) (by omega))]
    exact ⟨_, rfl, Kt, ft, Yt⟩
theorem m_cen {τ1 : Sg} (hV : VA n np nw ki go A) (h1 : 1 ≤ np) (hnp : np ≤ 6) (hh : Sn.ho A ≤ 1000) (hy : Sn.ye A ≤ 1000) (hS : ST τ1 n np nw ki go) (hF : FL τ1 0 0 0) (h : MY (τ1 198) np nw A) {z N : Nat} (hz : z ≤ 9999) (hN : N ≤ 60) : ∃ τ, lp (fun st => f_X7_century_b1 (nI z) (nI N) st.1 st.2) FU ((0 : Int32), τ1) = some τ ∧ ((∀ i, i ≠ 198 → i ≠ 199 → i ≠ 200 → τ i = τ1 i) ∧ MY (τ 198) np nw (cA n np z ki go A N)) := by
  refine lp_inv (fun j (s : Int32 × Sg) => s.1 = nI j ∧ (∀ i, i ≠ 198 → i ≠ 199 → i ≠ 200 → s.2 i = τ1 i) ∧ MY (s.2 198) np nw (cA n np z ki go A j)) N (by omega) ⟨rfl, fun _ _ _ _ => rfl, h⟩ ?_ ?_
  · rintro j ⟨x, τ⟩ hj ⟨e, ft, Yt⟩
    dsimp only at e ft Yt
    subst e
    have St := ST_fr hS (fun i a b => ft i (by omega) (by omega) (by omega))
    have Ft := FL_fr hF (ft _ (by omega) (by omega) (by omega))
    obtain ⟨a, b, c⟩ := cA_ok hV hh hy (z := z) j (by omega)
    obtain ⟨τ2, g1, g3, g4⟩ := mt2_ok a h1 hnp St Yt (d := drw z j) (by have := drw_lt (z := z) (t := j); omega)
    have a2 := VA_ct (d := drw z j) a (by omega)
    obtain ⟨τ3, q1, q3, q4⟩ := my_hr (Or.inr rfl) a2 hnp (ST_fr St (fun i a b => g3 i (by omega) (by omega))) (FL_fr Ft (g3 _ (by omega) (by omega))) g4
    show ∃ s', f_X7_century_b1 (nI z) (nI N) (nI j) τ = _ ∧ _
    unfold f_X7_century_b1
    rw [if_neg (nI_ge hj (by omega)), dr_m hz (by omega), g1, sb, q1, sb, L_1, nI_add]
    exact ⟨_, rfl, rfl, fun i a b c => (q3 i a c).trans ((g3 i a b).trans (ft i a b c)), q4⟩
  · rintro ⟨x, τ⟩ ⟨e, ft, Yt⟩
    dsimp only at e ft Yt
    subst e
    show ∃ s', f_X7_century_b1 (nI z) (nI N) (nI N) τ = _ ∧ _
    unfold f_X7_century_b1
    rw [if_pos (nI_le (Nat.le_refl _) (by omega))]
    exact ⟨_, rfl, ft, Yt⟩
theorem OK_VA {N : Nat} (h : OK N n np nw ki go A) : VA n np nw ki go A := ⟨h.1, h.2.1⟩
theorem what3_out {a1 : Int32} (o : a1 < 0 ∨ nI 3 ≤ a1) {α : Type} {x y : α} : (if a1 < 0 then y else if a1 ≤ (2 : Int32) then x else y) = y := by
  by_cases c : a1 < 0
  · rw [if_pos c]
  · rw [if_neg c, if_neg]
    intro z
    exact absurd (Int32.le_trans (o.resolve_left c) z) (by decide)
theorem eq_century {N : Nat} (h : Rel N σ) (hN : N < 512) (a1 a2 a3 : Int32) : ∃ r σ1 σ2, f_X6_century σ a1 a2 a3 = some (r, σ1) ∧ f_X7_century σ1 a1 a2 a3 = some (r, σ2) ∧ Rel (N + 1) σ2 := by
  have h0 := h
  obtain ⟨hK, hT, n, np, nw, ki, go, A, m, S, k, K, tl, tf, sl, sg, hR⟩ := h
  obtain ⟨⟨n1, n2, n3, n4⟩, v1, v2, v3, ⟨c1, c2, c3⟩, ⟨m1, m2, m3, m4, m5, m6, m7⟩, ⟨t1, t2, t3, t4⟩, u1, u2, u3, u4⟩ := hR
  have hV := OK_VA v1
  have h5 := hV.1.nw5
  have h8 := hV.1.n8
  have hho := v1.2.2.1
  have hye := v1.2.2.2
  have same : Rel (N + 1) σ := Rel_fr h0 (by omega) hN hK (fun _ _ _ _ _ => rfl)
  rcases in_lit (σ := σ) (a := a1) 10000 (by omega) (L := 9999) (by decide) with ⟨z, hz, rfl, e1⟩ | ⟨o1, e1⟩
  · rcases in_1 (σ := σ) (a := a2) (L := 60) (n := 60) (by omega) rfl with ⟨t, ht1, ht2, rfl, e2⟩ | ⟨o2, e2⟩
    · rcases in_lit (σ := σ) (a := a3) 3 (by omega) (L := 2) (by decide) with ⟨w, hw, rfl, e3⟩ | ⟨o3, e3⟩
      · obtain ⟨σ0, g0, K0, F0, Y0⟩ := yb_ok hK gY20 gY6 (by omega) c1 hV.1.np8 h5 h8
        obtain ⟨σ1, g1, K1, F1, Y1⟩ := c_cen K0 hV n1 (by omega) (by omega) Y0 (z := z) (N := t) (by omega) ht2
        have F1 : ∀ i, (i < 20 ∨ 33 < i) → σ1 i = σ i := fun i hi => (F1 i hi).trans (F0 i (by omega))
        have S1 := ST_fr m1 (fun i a b => F1 i (by omega))
        obtain ⟨σ2, g2, F2, M2⟩ := take_ok (MC_fr (MY_c m3) (F1 195 (by omega))) n2 h5
        obtain ⟨σ3, g3, F3, M3⟩ := m_cen hV n1 n2 (by omega) (by omega) (ST_fr S1 (fun i a b => F2 i (by omega))) (FL_fr (FL_fr m2 (F1 _ (by omega))) (F2 _ (by omega))) (c_MY M2) (z := z) (N := t) (by omega) ht2
        have S3 := ST_fr (ST_fr S1 (fun i a b => F2 i (by omega))) (fun i a b => F3 i (by omega) (by omega) (by omega))
        have R : Rel (N + 1) σ3 := Rel_fr h0 (by omega) hN (KC_m K1 (fun i hi => (F3 i (by omega) (by omega) (by omega)).trans (F2 i (by omega)))) (fun i a b c d => (F3 i b c d).trans ((F2 i b).trans (F1 i a)))
        obtain ⟨V3, -, -⟩ := cA_ok hV (by omega) (by omega) (z := z) t ht2
        have a1 : f_X6_century σ (nI z) (nI t) (nI w) = f_X6_century_k1 (nI w) σ1 := by
          unfold f_X6_century
          rw [if_neg (nI_pos (by omega)), L_9999, if_neg (nI_nlt (by omega) (by omega)), L_1, if_neg (nI_nlt (by omega) (by omega)), L_60, if_neg (nI_nlt (by omega) (by omega)), if_neg (nI_pos (by omega)), L_2, if_pos (nI_le (by omega) (by omega)), g0, sb, g1, sb]
        have a2 : f_X7_century σ1 (nI z) (nI t) (nI w) = f_X7_century_k1 (nI w) σ3 := by
          unfold f_X7_century
          rw [show f_X7_in σ1 (nI z) 0 9999 = some 1 from e1, sb, if_neg one0, show f_X7_in σ1 (nI t) 1 60 = some 1 from e2, sb, if_neg one0, show f_X7_in σ1 (nI w) 0 2 = some 1 from e3, sb, if_pos one0, g2, sb, g3, sb]
        unfold f_X6_century_k1 at a1
        unfold f_X7_century_k1 at a2
        rw [cc_ok K1 gY20 V3.1 Y1, sb, rc_ok K1 gY20 V3.1 Y1, sb, ma_ok K1 gY20.2.2.1.1 V3.1.1 Y1.2.1, sb] at a1
        have ra : f_X7_roadsOf σ3 198 1 = some (nI (s2 (Sn.mi (cA n np z ki go A t)) n)) := by
          rw [← s2_n h8 (fun a b hb => V3.1.1.2.2.2 a b (Or.inr hb))]
          exact rs_ok (Or.inr rfl) V3.1.1.2.2.1 (MY_c M3).1 true
        rw [ct_ok (Or.inr rfl) V3.1 S3 (MY_c M3), sb, ro_ok (Or.inr rfl) V3.1 n2 S3 (MY_c M3), sb, ra, sb] at a2
        rcases (show w = 0 ∨ w = 1 ∨ w = 2 by omega) with rfl | rfl | rfl
        · rw [if_pos (by decide)] at a1
          rw [if_neg (by decide)] at a2
          exact ⟨_, σ1, σ3, a1, a2, R⟩
        · rw [if_neg (by decide), if_pos (by decide)] at a1
          rw [if_pos (by decide), if_neg (by decide)] at a2
          exact ⟨_, σ1, σ3, a1, a2, R⟩
        · rw [if_neg (by decide), if_neg (by decide)] at a1
          rw [if_pos (by decide), if_pos (by decide)] at a2
          exact ⟨_, σ1, σ3, a1, a2, R⟩
      · refine ⟨-1, σ, σ, ?_, ?_, same⟩
        · unfold f_X6_century
          rw [if_neg (nI_pos (by omega)), L_9999, if_neg (nI_nlt (by omega) (by omega)), L_1, if_neg (nI_nlt (by omega) (by omega)), L_60, if_neg (nI_nlt (by omega) (by omega))]
          exact what3_out o3
        · unfold f_X7_century
          rw [e1, sb, if_neg one0, e2, sb, if_neg one0, e3, sb, if_neg (fun z => z rfl)]
    · refine ⟨-1, σ, σ, ?_, ?_, same⟩
      · unfold f_X6_century
        rw [if_neg (nI_pos (by omega)), L_9999, if_neg (nI_nlt (by omega) (by omega))]
        rcases o2 with z | z
        · rw [if_pos z]
        · rw [L_60, if_pos z, ite_self]
      · unfold f_X7_century
        rw [e1, sb, if_neg one0, e2, sb, if_pos rfl]
  · refine ⟨-1, σ, σ, ?_, ?_, same⟩
    · unfold f_X6_century
      rcases rng_no o1 (by omega) with z | z
      · rw [if_pos z]
      · rw [L_9999, if_pos z, ite_self]
    · unfold f_X7_century; rw [e1]; rfl
end CE
