/-! Part 20: what a yard holds (out of whole's part 20). -/
def gdb (g C N : Nat) : Bool := decide (g < 184) && (decide (kd g = 0) && (decide (co g = C) && (decide (ln (g + 1) = N) && (decide (C ≤ 200) && decide (N ≤ 200)))))
theorem gd_of {g C N : Nat} (h : gdb g C N = true) : gd g C N := by
  unfold gdb at h
  simp only [Bool.and_eq_true, decide_eq_true_eq] at h
  exact h
def gYb (y : Nat) : Bool := decide (y < 184) && (decide (kd y = 5) && (decide (y + 1 < 184) && (decide (kd (y + 1) = 3) && (gdb (y + 1 + 1) 8 64 && (gdb (y + 1 + 3) 8 64 && (decide (kd (y + 1 + 3 + 1) = 9) && (decide (kd (y + 1 + 1 + 1) = 9) && (gdb (y + 6) 3 24 && (decide (kd (y + 6 + 1) = 9) && (gdb (y + 8) 8 64 && (decide (kd (y + 8 + 1) = 9) && (gdb (y + 10) 8 64 && (decide (kd (y + 10 + 1) = 9) && (gdb (y + 12) 2 10 && decide (kd (y + 12 + 1) = 9)))))))))))))))
theorem gY_of {y : Nat} (h : gYb y = true) : gY y := by
  unfold gYb at h
  simp only [Bool.and_eq_true, decide_eq_true_eq] at h
  obtain ⟨a1, a2, a3, a4, a5, a6, a7, a8, a9, a10, a11, a12, a13, a14, a15, a16⟩ := h
  exact ⟨a1, a2, ⟨⟨a3, a4, gd_of a5, gd_of a6⟩, a7, a8⟩, ⟨gd_of a9, a10⟩, ⟨gd_of a11, a12⟩, ⟨gd_of a13, a14⟩, ⟨gd_of a15, a16⟩⟩
theorem gY6 : gY 6 := gY_of (by decide +kernel)
theorem gY20 : gY 20 := gY_of (by decide +kernel)
theorem gYu {j : Nat} (h : j < 8) : gY (34 + 1 + 1 + 14 * j) := by
  rcases (show j = 0 ∨ j = 1 ∨ j = 2 ∨ j = 3 ∨ j = 4 ∨ j = 5 ∨ j = 6 ∨ j = 7 by omega) with rfl | rfl | rfl | rfl | rfl | rfl | rfl | rfl <;> exact gY_of (by decide +kernel)
theorem gYk {j : Nat} (h : j < 2) : gY (148 + 1 + 1 + 14 * j) := by
  rcases (show j = 0 ∨ j = 1 by omega) with rfl | rfl <;> exact gY_of (by decide +kernel)
/-- what acts change: miles, hour, years, towns of posts, ages, arms, their miles, walkers -/
abbrev Sn : Type := Mi × Nat × Nat × (Nat → Option Nat) × (Nat → Nat) × (Nat → Nat → Option Nat) × (Nat → Nat → Option Nat) × (Nat → Nat)
def Sn.mi (A : Sn) : Mi := A.1
def Sn.ho (A : Sn) : Nat := A.2.1
def Sn.ye (A : Sn) : Nat := A.2.2.1
def Sn.to (A : Sn) : Nat → Option Nat := A.2.2.2.1
def Sn.ag (A : Sn) : Nat → Nat := A.2.2.2.2.1
def Sn.ar (A : Sn) : Nat → Nat → Option Nat := A.2.2.2.2.2.1
def Sn.am (A : Sn) : Nat → Nat → Option Nat := A.2.2.2.2.2.2.1
def Sn.wa (A : Sn) : Nat → Nat := A.2.2.2.2.2.2.2
/-- a yard of the class, at id y -/
def CY (σ : Sg) (y n np nw : Nat) (ki go : Nat → Nat) (A : Sn) : Prop := YC σ y n (Sn.mi A) np nw (Sn.ho A) (Sn.ye A) 0 ki (Sn.to A) (Sn.ag A) (Sn.ar A) (Sn.am A) (Sn.wa A) go
/-- what every yard keeps to, behind N calls -/
def OK (N n np nw : Nat) (ki go : Nat → Nat) (A : Sn) : Prop := VY n (Sn.mi A) np nw (Sn.ho A) (Sn.ye A) 0 ki (Sn.to A) (Sn.ag A) (Sn.ar A) (Sn.am A) (Sn.wa A) go ∧ (∀ p, Sn.to A p ≠ none → Sn.ag A p ≤ 59) ∧ Sn.ho A ≤ 999 ∧ Sn.ye A ≤ N
/-- a shelf of the class: the i-th latest -/
def SH (σ : Sg) (s cap n np nw : Nat) (ki go : Nat → Nat) (m : Nat) (S : Nat → Sn) : Prop := σ s 1 = nI m ∧ m ≤ cap ∧ ∃ f, f < cap ∧ σ s 2 = nI f ∧ ∀ i, i < m → CY σ (s + 1 + 1 + 14 * ((f + cap - 1 - i) % cap)) n np nw ki go (S i)
/-- notes -/
def NT (σ : Sg) (s r1 r2 r3 m : Nat) (t : Nat → Nat × Nat × Nat) : Prop := σ s 1 = nI m ∧ ∀ i, i < m → (σ (s + 1 + 1) (i * 3 + 0) = nI (t i).1 ∧ σ (s + 1 + 1) (i * 3 + 1) = nI (t i).2.1 ∧ σ (s + 1 + 1) (i * 3 + 2) = nI (t i).2.2) ∧ True
theorem NT_fr {σ σ' : Sg} {s r1 r2 r3 tl : Nat} {t : Nat → Nat × Nat × Nat} (h : NT σ s r1 r2 r3 tl t) (h0 : σ' s = σ s) (h1 : σ' (s + 1 + 1) = σ (s + 1 + 1)) (h2 : σ' r1 = σ r1) (h3 : σ' r2 = σ r2) (h4 : σ' r3 = σ r3) : NT σ' s r1 r2 r3 tl t := by
  obtain ⟨a1, a2⟩ := h
  refine ⟨by rw [h0]; exact a1, fun i hi => ?_⟩
  rw [h1]; exact a2 i hi
section RF
variable {σ σ' : Sg} {N n np nw : Nat} {ki go : Nat → Nat} {A : Sn} {m : Nat} {S : Nat → Sn} {k : Nat} {K : Nat → Sn} {tl : Nat} {tf : Nat → Nat × Nat × Nat} {sl : Nat} {sg : Nat → Nat × Nat × Nat}
theorem CY_fr {y : Nat} (h : CY σ y n np nw ki go A) (hf : ∀ i, y ≤ i → i ≤ y + 13 → σ' i = σ i) : CY σ' y n np nw ki go A := YC_fr h hf
theorem SH_fr {s cap : Nat} (hc : 0 < cap) (h : SH σ s cap n np nw ki go m S) (hf : ∀ i, s ≤ i → i < s + 2 + 14 * cap → σ' i = σ i) : SH σ' s cap n np nw ki go m S := by
  obtain ⟨h1, h2, f, h3, h4, h5⟩ := h
  refine ⟨by rw [hf s (by omega) (by omega)]; exact h1, h2, f, h3, by rw [hf s (by omega) (by omega)]; exact h4, fun i hi => CY_fr (h5 i hi) (fun j a b => hf j (by omega) ?_)⟩
  have := Nat.mod_lt (f + cap - 1 - i) hc
  omega
theorem OK_mono {M : Nat} (h : OK N n np nw ki go A) (hM : N ≤ M) : OK M n np nw ki go A := ⟨h.1, h.2.1, h.2.2.1, Nat.le_trans h.2.2.2 hM⟩
end RF
