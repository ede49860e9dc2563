/-! Part 20: class and model side by side. -/
def gdb (g C N : Nat) : Bool := decide (g < 207) && (decide (kd g = 0) && (decide (co g = C) && (decide (ln (g + 1) = N) && (decide (C ≤ 200) && decide (N ≤ 200)))))
theorem gd_of {g C N : Nat} (h : gdb g C N = true) : gd g C N := by
  unfold gdb at h
  simp only [Bool.and_eq_true, decide_eq_true_eq] at h
  exact h
def gYb (y : Nat) : Bool := decide (y < 207) && (decide (kd y = 5) && (decide (y + 1 < 207) && (decide (kd (y + 1) = 3) && (gdb (y + 1 + 1) 8 64 && (gdb (y + 1 + 3) 8 64 && (decide (kd (y + 1 + 3 + 1) = 9) && (decide (kd (y + 1 + 1 + 1) = 9) && (gdb (y + 6) 3 24 && (decide (kd (y + 6 + 1) = 9) && (gdb (y + 8) 8 64 && (decide (kd (y + 8 + 1) = 9) && (gdb (y + 10) 8 64 && (decide (kd (y + 10 + 1) = 9) && (gdb (y + 12) 2 10 && decide (kd (y + 12 + 1) = 9)))))))))))))))
theorem gY_of {y : Nat} (h : gYb y = true) : gY y := by
  unfold gYb at h
  simp only [Bool.and_eq_true, decide_eq_true_eq] at h
  obtain ⟨a1, a2, a3, a4, a5, a6, a7, a8, a9, a10, a11, a12, a13, a14, a15, a16⟩ := h
  exact ⟨a1, a2, ⟨⟨a3, a4, gd_of a5, gd_of a6⟩, a7, a8⟩, ⟨gd_of a9, a10⟩, ⟨gd_of a11, a12⟩, ⟨gd_of a13, a14⟩, ⟨gd_of a15, a16⟩⟩
theorem gY6 : gY 6 := gY_of (by decide +kernel)
theorem gY20 : gY 20 := gY_of (by decide +kernel)
theorem gYu {j : Nat} (h : j < 8) : gY (34 + 1 + 1 + 14 * j) := by
  rcases (show j = 0 ∨ j = 1 ∨ j = 2 ∨ j = 3 ∨ j = 4 ∨ j = 5 ∨ j = 6 ∨ j = 7 by omega) with rfl | rfl | rfl | rfl | rfl | rfl | rfl | rfl <;> exact gY_of (by decide +kernel)
theorem gYk {j : Nat} (h : j < 2) : gY (148 + 1 + 1 + 14 * j) := by
  rcases (show j = 0 ∨ j = 1 by omega) with rfl | rfl <;> exact gY_of (by decide +kernel)
/-- what acts change: miles, hour, years, towns of posts, ages, arms, their miles, walkers -/
abbrev Sn : Type := Mi × Nat × Nat × (Nat → Option Nat) × (Nat → Nat) × (Nat → Nat → Option Nat) × (Nat → Nat → Option Nat) × (Nat → Nat)
def Sn.mi (A : Sn) : Mi := A.1
def Sn.ho (A : Sn) : Nat := A.2.1
def Sn.ye (A : Sn) : Nat := A.2.2.1
def Sn.to (A : Sn) : Nat → Option Nat := A.2.2.2.1
def Sn.ag (A : Sn) : Nat → Nat := A.2.2.2.2.1
def Sn.ar (A : Sn) : Nat → Nat → Option Nat := A.2.2.2.2.2.1
def Sn.am (A : Sn) : Nat → Nat → Option Nat := A.2.2.2.2.2.2.1
def Sn.wa (A : Sn) : Nat → Nat := A.2.2.2.2.2.2.2
/-- a yard of the class, at id y -/
def CY (σ : Sg) (y n np nw : Nat) (ki go : Nat → Nat) (A : Sn) : Prop := YC σ y n (Sn.mi A) np nw (Sn.ho A) (Sn.ye A) 0 ki (Sn.to A) (Sn.ag A) (Sn.ar A) (Sn.am A) (Sn.wa A) go
/-- the same as a row of the model -/
def MY (f : Nat → Int32) (np nw : Nat) (A : Sn) : Prop := MC (fun _ => f) 0 (Sn.mi A) np nw (Sn.ho A) (Sn.ye A) (Sn.to A) (Sn.ag A) (Sn.ar A) (Sn.am A) (Sn.wa A)
theorem MY_c {σ : Sg} {c np nw : Nat} {A : Sn} (h : MY (σ c) np nw A) : MC σ c (Sn.mi A) np nw (Sn.ho A) (Sn.ye A) (Sn.to A) (Sn.ag A) (Sn.ar A) (Sn.am A) (Sn.wa A) := h
theorem c_MY {σ : Sg} {c np nw : Nat} {A : Sn} (h : MC σ c (Sn.mi A) np nw (Sn.ho A) (Sn.ye A) (Sn.to A) (Sn.ag A) (Sn.ar A) (Sn.am A) (Sn.wa A)) : MY (σ c) np nw A := h
/-- what every yard keeps to, behind N calls -/
def OK (N n np nw : Nat) (ki go : Nat → Nat) (A : Sn) : Prop := VY n (Sn.mi A) np nw (Sn.ho A) (Sn.ye A) 0 ki (Sn.to A) (Sn.ag A) (Sn.ar A) (Sn.am A) (Sn.wa A) go ∧ (∀ p, Sn.to A p ≠ none → Sn.ag A p ≤ 59) ∧ Sn.ho A ≤ 999 ∧ Sn.ye A ≤ N
/-- a shelf of the class: the i-th latest -/
def SH (σ : Sg) (s cap n np nw : Nat) (ki go : Nat → Nat) (m : Nat) (S : Nat → Sn) : Prop := σ s 1 = nI m ∧ m ≤ cap ∧ ∃ f, f < cap ∧ σ s 2 = nI f ∧ ∀ i, i < m → CY σ (s + 1 + 1 + 14 * ((f + cap - 1 - i) % cap)) n np nw ki go (S i)
/-- the same as rows of the model -/
def MH (σ : Sg) (r np nw m : Nat) (S : Nat → Sn) : Prop := ∀ i, i < m → MY (fun k => σ r (179 * (m - 1 - i) + k)) np nw (S i)
/-- notes -/
def NT (σ : Sg) (s r1 r2 r3 m : Nat) (t : Nat → Nat × Nat × Nat) : Prop := σ s 1 = nI m ∧ ∀ i, i < m → (σ (s + 1 + 1) (i * 3 + 0) = nI (t i).1 ∧ σ (s + 1 + 1) (i * 3 + 1) = nI (t i).2.1 ∧ σ (s + 1 + 1) (i * 3 + 2) = nI (t i).2.2) ∧ σ r1 i = nI (t i).1 ∧ σ r2 i = nI (t i).2.1 ∧ σ r3 i = nI (t i).2.2
/-- the text -/
def TX (σ : Sg) (len : Nat) (tx : Nat → Nat) : Prop := σ 1 2 = nI len ∧ σ 184 1 = nI len ∧ len ≤ 200 ∧ ∀ i, i < len → σ 3 i = nI (tx i) ∧ σ 185 i = nI (tx i) ∧ 32 ≤ tx i ∧ tx i ≤ 126
/-- class and model hold the same -/
def RX (N : Nat) (σ : Sg) (n np nw : Nat) (ki go : Nat → Nat) (A : Sn) (m : Nat) (S : Nat → Sn) (k : Nat) (K : Nat → Sn) (tl : Nat) (tf : Nat → Nat × Nat × Nat) (sl : Nat) (sg : Nat → Nat × Nat × Nat) : Prop :=
  (1 ≤ np ∧ np ≤ 6 ∧ 1 ≤ nw ∧ N ≤ 512) ∧ OK N n np nw ki go A ∧ (∀ i, i < m → OK N n np nw ki go (S i)) ∧ (∀ i, i < k → OK N n np nw ki go (K i)) ∧
  (CY σ 6 n np nw ki go A ∧ SH σ 34 8 n np nw ki go m S ∧ SH σ 148 2 n np nw ki go k K) ∧
  (ST σ n np nw ki go ∧ FL σ 0 0 0 ∧ MY (σ 195) np nw A ∧ σ 184 16 = nI m ∧ MH σ 196 np nw m S ∧ σ 184 18 = nI k ∧ MH σ 197 np nw k K) ∧
  (NT σ 178 201 202 203 tl tf ∧ σ 184 28 = nI tl ∧ tl ≤ 6 ∧ ∀ i, i < tl → (tf i).1 < n ∧ (tf i).2.1 < n ∧ (tf i).2.2 ≤ 72) ∧
  (NT σ 181 204 205 206 sl sg ∧ σ 184 32 = nI sl ∧ sl ≤ 6 ∧ ∀ i, i < sl → (sg i).1 < np ∧ (sg i).2.1 < n ∧ (sg i).2.2 < n)
def RT (σ : Sg) : Prop := ∃ len tx, TX σ len tx
def Rel (N : Nat) (σ : Sg) : Prop := KC σ ∧ RT σ ∧ ∃ n np nw ki go A m S k K tl tf sl sg, RX N σ n np nw ki go A m S k K tl tf sl sg
section RF
variable {σ σ' : Sg} {N n np nw : Nat} {ki go : Nat → Nat} {A : Sn} {m : Nat} {S : Nat → Sn} {k : Nat} {K : Nat → Sn} {tl : Nat} {tf : Nat → Nat × Nat × Nat} {sl : Nat} {sg : Nat → Nat × Nat × Nat}
theorem CY_fr {y : Nat} (h : CY σ y n np nw ki go A) (hf : ∀ i, y ≤ i → i ≤ y + 13 → σ' i = σ i) : CY σ' y n np nw ki go A := YC_fr h hf
theorem SH_fr {s cap : Nat} (hc : 0 < cap) (h : SH σ s cap n np nw ki go m S) (hf : ∀ i, s ≤ i → i < s + 2 + 14 * cap → σ' i = σ i) : SH σ' s cap n np nw ki go m S := by
  obtain ⟨h1, h2, f, h3, h4, h5⟩ := h
  refine ⟨by rw [hf s (by omega) (by omega)]; exact h1, h2, f, h3, by rw [hf s (by omega) (by omega)]; exact h4, fun i hi => CY_fr (h5 i hi) (fun j a b => hf j (by omega) ?_)⟩
  have := Nat.mod_lt (f + cap - 1 - i) hc
  omega
theorem MH_fr {r : Nat} (h : MH σ r np nw m S) (hf : σ' r = σ r) : MH σ' r np nw m S := fun i hi => by rw [hf]; exact h i hi
theorem NT_fr {s r1 r2 r3 : Nat} {t : Nat → Nat × Nat × Nat} (h : NT σ s r1 r2 r3 tl t) (h0 : σ' s = σ s) (h1 : σ' (s + 1 + 1) = σ (s + 1 + 1)) (h2 : σ' r1 = σ r1) (h3 : σ' r2 = σ r2) (h4 : σ' r3 = σ r3) : NT σ' s r1 r2 r3 tl t := by
  obtain ⟨a1, a2⟩ := h
  refine ⟨by rw [h0]; exact a1, fun i hi => ?_⟩
  rw [h1, h2, h3, h4]; exact a2 i hi
theorem OK_mono {M : Nat} (h : OK N n np nw ki go A) (hM : N ≤ M) : OK M n np nw ki go A := ⟨h.1, h.2.1, h.2.2.1, Nat.le_trans h.2.2.2 hM⟩
/-- calls that try on what is tried alone -/
theorem RX_fr {M : Nat} (h : RX N σ n np nw ki go A m S k K tl tf sl sg) (hM : N ≤ M) (hM2 : M ≤ 512) (hf : ∀ i, (i < 20 ∨ 33 < i) → i ≠ 198 → i ≠ 199 → i ≠ 200 → σ' i = σ i) : RX M σ' n np nw ki go A m S k K tl tf sl sg := by
  obtain ⟨⟨n1, n2, n3, n4⟩, v1, v2, v3, ⟨c1, c2, c3⟩, ⟨m1, m2, m3, m4, m5, m6, m7⟩, ⟨t1, t2, t3, t4⟩, s1, s2, s3, s4⟩ := h
  have e184 : σ' 184 = σ 184 := hf 184 (by omega) (by omega) (by omega) (by omega)
  refine ⟨⟨n1, n2, n3, hM2⟩, OK_mono v1 hM, fun i hi => OK_mono (v2 i hi) hM, fun i hi => OK_mono (v3 i hi) hM, ⟨CY_fr c1 (fun i a b => hf i (by omega) (by omega) (by omega) (by omega)), SH_fr (by omega) c2 (fun i a b => hf i (by omega) (by omega) (by omega) (by omega)), SH_fr (by omega) c3 (fun i a b => hf i (by omega) (by omega) (by omega) (by omega))⟩, ⟨ST_fr m1 (fun i a b => hf i (by omega) (by omega) (by omega) (by omega)), FL_fr m2 e184, ?_, ?_, MH_fr m5 (hf _ (by omega) (by omega) (by omega) (by omega)), ?_, MH_fr m7 (hf _ (by omega) (by omega) (by omega) (by omega))⟩, ⟨NT_fr t1 (hf _ (by omega) (by omega) (by omega) (by omega)) (hf _ (by omega) (by omega) (by omega) (by omega)) (hf _ (by omega) (by omega) (by omega) (by omega)) (hf _ (by omega) (by omega) (by omega) (by omega)) (hf _ (by omega) (by omega) (by omega) (by omega)), ?_, t3, t4⟩, NT_fr s1 (hf _ (by omega) (by omega) (by omega) (by omega)) (hf _ (by omega) (by omega) (by omega) (by omega)) (hf _ (by omega) (by omega) (by omega) (by omega)) (hf _ (by omega) (by omega) (by omega) (by omega)) (hf _ (by omega) (by omega) (by omega) (by omega)), ?_, s3, s4⟩
  · rw [hf 195 (by omega) (by omega) (by omega) (by omega)]; exact m3
  · rw [e184]; exact m4
  · rw [e184]; exact m6
  · rw [e184]; exact t2
  · rw [e184]; exact s2
theorem RT_fr (h : RT σ) (h1 : σ' 1 = σ 1) (h2 : σ' 3 = σ 3) (h3 : σ' 184 1 = σ 184 1) (h4 : σ' 185 = σ 185) : RT σ' := by
  obtain ⟨len, tx, a1, a2, a3, a4⟩ := h
  exact ⟨len, tx, by rw [h1]; exact a1, by rw [h3]; exact a2, a3, fun i hi => by rw [h2, h4]; exact a4 i hi⟩
theorem Rel_fr {M : Nat} (h : Rel N σ) (hM : N ≤ M) (hM2 : M ≤ 512) (hK : KC σ') (hf : ∀ i, (i < 20 ∨ 33 < i) → i ≠ 198 → i ≠ 199 → i ≠ 200 → σ' i = σ i) : Rel M σ' := by
  obtain ⟨-, h2, n, np, nw, ki, go, A, m, S, k, K, tl, tf, sl, sg, h3⟩ := h
  exact ⟨hK, RT_fr h2 (hf _ (by omega) (by omega) (by omega) (by omega)) (hf _ (by omega) (by omega) (by omega) (by omega)) (by rw [hf 184 (by omega) (by omega) (by omega) (by omega)]) (hf _ (by omega) (by omega) (by omega) (by omega)), n, np, nw, ki, go, A, m, S, k, K, tl, tf, sl, sg, RX_fr h3 hM hM2 hf⟩
/-- the model changes no grid of the class -/
theorem KC_m (h : KC σ) (hf : ∀ i, i < 184 → σ' i = σ i) : KC σ' := fun g h1 h2 => by
  by_cases c : g < 184
  · rw [hf g c]; exact h g h1 h2
  · exfalso
    have : ∀ i : Fin 23, kd (184 + i.val) ≠ 0 := by decide +kernel
    have h3 := this ⟨g - 184, by omega⟩
    rw [show 184 + (g - 184) = g by omega] at h3
    exact h3 h2
end RF
