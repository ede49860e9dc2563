/-! Part 51: what the model lays at first; class and model alike at the start. (Printed by wip/whole/mk51.py.) -/
section FI
variable {σ τ : Sg} {d : Dr}
theorem fr_road (hD : DM τ d) {a c l : Nat} (ha : a < 8) (hc : c < 8) : ∃ τ', f_X7_tellRoad τ (nI a) (nI c) (nI l) = some τ' ∧ MF τ τ' ∧ DM τ' (Dr.n d, sM (Dr.mi d) a c l, d.2.2) := by
  obtain ⟨⟨d1, d2, d3⟩, d4, d5, d6⟩ := hD
  refine ⟨sf (sf τ 191 (8 * a + c) (nI l)) 191 (8 * c + a) (nI l), ?_, (MF.rf.sf (Or.inr (Or.inr (Or.inr (Or.inr ⟨by omega, by omega⟩))))).sf (Or.inr (Or.inr (Or.inr (Or.inr ⟨by omega, by omega⟩)))), ⟨by rw [sf_ne (by omega), sf_ne (by omega)]; exact d1, by rw [sf_ne (by omega), sf_ne (by omega)]; exact d2, by rw [sf_ne (by omega), sf_ne (by omega)]; exact d3⟩, fun x y hx hy => ?_, fun q hq => ?_, fun q hq => ?_⟩
  · unfold f_X7_tellRoad
    rw [l191, L_8, nI_mul, nI_add, sa_n (by omega) (by omega), sb, nI_mul, nI_add, sa_n (by omega) (by omega), sb]
  · show _ = nI (sM (Dr.mi d) a c l x y)
    unfold sM
    rw [sf_row]
    by_cases g : x = c ∧ y = a
    · rw [if_pos (Or.inr g)]; obtain ⟨rfl, rfl⟩ := g; exact upd_self
    · rw [upd_ne (by omega), sf_row]
      by_cases g2 : x = a ∧ y = c
      · rw [if_pos (Or.inl g2)]; obtain ⟨rfl, rfl⟩ := g2; exact upd_self
      · rw [upd_ne (by omega), if_neg (fun q => q.elim g2 g)]; exact d4 x y hx hy
  · rw [sf_ne (by omega), sf_ne (by omega), sf_ne (by omega), sf_ne (by omega), sf_ne (by omega), sf_ne (by omega)]; exact d5 q hq
  · rw [sf_ne (by omega), sf_ne (by omega), sf_ne (by omega), sf_ne (by omega)]; exact d6 q hq
theorem fr_post (hD : DM τ d) (C : Dr.np d < 6) {v0 v1 v2 : Nat} : ∃ τ', f_X7_tellPost τ (nI v0) (nI v1) (nI v2) = some τ' ∧ MF τ τ' ∧ DM τ' (Dr.n d, Dr.mi d, Dr.np d + 1, Dr.nw d, upN (Dr.ki d) (Dr.np d) v0, upN (Dr.to d) (Dr.np d) v1, upN (Dr.ag d) (Dr.np d) v2, Dr.wa d, Dr.go d) := by
  obtain ⟨⟨d1, d2, d3⟩, d4, d5, d6⟩ := hD
  refine ⟨sf (sf (sf (sf τ 189 (6 + Dr.np d) (nI v0)) 192 (Dr.np d) (nI v1)) 193 (Dr.np d) (nI v2)) 187 1 (nI (Dr.np d + 1)), ?_, (((MF.rf.sf (Or.inr (Or.inr (Or.inl ⟨rfl, by omega⟩)))).sf (Or.inr (Or.inr (Or.inr (Or.inr ⟨by omega, by omega⟩))))).sf (Or.inr (Or.inr (Or.inr (Or.inr ⟨by omega, by omega⟩))))).sf (Or.inr (Or.inl ⟨Or.inr (Or.inl rfl), rfl⟩)), ⟨by rw [sf_ne (by omega), sf_ne (by omega), sf_ne (by omega), sf_ne (by omega)]; exact d1, by rw [sf_row, upd_self]; rfl, by rw [sf_ne (by omega), sf_ne (by omega), sf_ne (by omega), sf_ne (by omega)]; exact d3⟩, fun a c ha hc => by rw [sf_ne (by omega), sf_ne (by omega), sf_ne (by omega), sf_ne (by omega)]; exact d4 a c ha hc, fun q hq => ?_, fun q hq => ?_⟩
  · unfold f_X7_tellPost
    rw [g187, sb, d2, L_6, nI_add, l189, sa_n (by omega) (by omega), sb, g187, sb, sf_ne (by omega), d2, l192, sa_n (by omega) (by omega), sb, g187, sb, sf_ne (by omega), sf_ne (by omega), d2, l193, sa_n (by omega) (by omega), sb, g187, sb, sf_ne (by omega), sf_ne (by omega), sf_ne (by omega), d2, s187, sb, nI_1]
  · have hq : q < Dr.np d + 1 := hq
    rw [sf_ne (i := 187) (by omega), sf_ne (i := 193) (j := 189) (by omega), sf_ne (i := 192) (j := 189) (by omega), sf_row, sf_ne (i := 187) (by omega), sf_ne (i := 193) (j := 192) (by omega), sf_row, sf_ne (i := 187) (by omega), sf_row]
    show _ = nI (upN (Dr.ki d) (Dr.np d) v0 q) ∧ _ = nI (upN (Dr.to d) (Dr.np d) v1 q) ∧ _ = nI (upN (Dr.ag d) (Dr.np d) v2 q)
    unfold upN
    by_cases eq : q = Dr.np d
    · subst eq
      rw [if_pos rfl, if_pos rfl, if_pos rfl, upd_self, upd_self, upd_self]
      exact ⟨rfl, rfl, rfl⟩
    · rw [if_neg eq, if_neg eq, if_neg eq, upd_ne (by omega), upd_ne (by omega), upd_ne (by omega)]
      obtain ⟨g1, g2, g3⟩ := d5 q (by omega)
      refine ⟨g1, ?_, ?_⟩
      · rw [sf_ne (by omega)]; exact g2
      · rw [sf_ne (by omega), sf_ne (by omega)]; exact g3
  · rw [sf_ne (by omega), sf_ne (by omega), sf_ne (by omega), sf_ne (by omega), sf_ne (by omega), sf_ne (by omega), sf_ne (by omega), sf_ne (by omega)]; exact d6 q hq
theorem fr_walk (hD : DM τ d) (C : Dr.nw d < 5) {v0 v1 : Nat} : ∃ τ', f_X7_tellWalker τ (nI v0) (nI v1) = some τ' ∧ MF τ τ' ∧ DM τ' (Dr.n d, Dr.mi d, Dr.np d, Dr.nw d + 1, Dr.ki d, Dr.to d, Dr.ag d, upN (Dr.wa d) (Dr.nw d) v0, upN (Dr.go d) (Dr.nw d) v1) := by
  obtain ⟨⟨d1, d2, d3⟩, d4, d5, d6⟩ := hD
  refine ⟨sf (sf (sf τ 194 (Dr.nw d) (nI v0)) 190 (5 + Dr.nw d) (nI v1)) 188 1 (nI (Dr.nw d + 1)), ?_, ((MF.rf.sf (Or.inr (Or.inr (Or.inr (Or.inr ⟨by omega, by omega⟩))))).sf (Or.inr (Or.inr (Or.inr (Or.inl ⟨rfl, by omega⟩))))).sf (Or.inr (Or.inl ⟨Or.inr (Or.inr rfl), rfl⟩)), ⟨by rw [sf_ne (by omega), sf_ne (by omega), sf_ne (by omega)]; exact d1, by rw [sf_ne (by omega), sf_ne (by omega), sf_ne (by omega)]; exact d2, by rw [sf_row, upd_self]; rfl⟩, fun a c ha hc => by rw [sf_ne (by omega), sf_ne (by omega), sf_ne (by omega)]; exact d4 a c ha hc, fun q hq => ?_, fun q hq => ?_⟩
  · unfold f_X7_tellWalker
    rw [g188, sb, d3, l194, sa_n (by omega) (by omega), sb, g188, sb, sf_ne (by omega), d3, L_5, nI_add, l190, sa_n (by omega) (by omega), sb, g188, sb, sf_ne (by omega), sf_ne (by omega), d3, s188, sb, nI_1]
  · rw [sf_ne (i := 188) (by omega), sf_ne (i := 190) (j := 189) (by omega), sf_ne (i := 194) (j := 189) (by omega), sf_ne (i := 188) (by omega), sf_ne (i := 190) (j := 192) (by omega), sf_ne (i := 194) (j := 192) (by omega), sf_ne (i := 188) (by omega), sf_ne (i := 190) (j := 193) (by omega), sf_ne (i := 194) (j := 193) (by omega)]; exact d5 q hq
  · have hq : q < Dr.nw d + 1 := hq
    rw [sf_ne (i := 188) (by omega), sf_ne (i := 190) (j := 194) (by omega), sf_row, sf_ne (i := 188) (by omega), sf_row]
    show _ = nI (upN (Dr.wa d) (Dr.nw d) v0 q) ∧ _ = nI (upN (Dr.go d) (Dr.nw d) v1 q)
    unfold upN
    by_cases eq : q = Dr.nw d
    · subst eq
      rw [if_pos rfl, if_pos rfl, upd_self, upd_self]
      exact ⟨rfl, rfl⟩
    · rw [if_neg eq, if_neg eq, upd_ne (by omega), upd_ne (by omega), sf_ne (by omega)]
      exact d6 q (by omega)
theorem DM_cg {d' : Dr} (h : DM σ d) (h1 : Dr.n d' = Dr.n d ∧ Dr.np d' = Dr.np d ∧ Dr.nw d' = Dr.nw d) (h2 : ∀ a c, a < 8 → c < 8 → Dr.mi d' a c = Dr.mi d a c) (h3 : ∀ q, q < Dr.np d → Dr.ki d' q = Dr.ki d q ∧ Dr.to d' q = Dr.to d q ∧ Dr.ag d' q = Dr.ag d q) (h4 : ∀ v, v < Dr.nw d → Dr.wa d' v = Dr.wa d v ∧ Dr.go d' v = Dr.go d v) : DM σ d' := by
  obtain ⟨⟨d1, d2, d3⟩, d4, d5, d6⟩ := h
  obtain ⟨e1, e2, e3⟩ := h1
  refine ⟨⟨by rw [e1]; exact d1, by rw [e2]; exact d2, by rw [e3]; exact d3⟩, fun a c ha hc => by rw [h2 a c ha hc]; exact d4 a c ha hc, fun q hq => ?_, fun v hv => ?_⟩
  · rw [e2] at hq
    obtain ⟨g1, g2, g3⟩ := h3 q hq
    rw [g1, g2, g3]; exact d5 q hq
  · rw [e3] at hv
    obtain ⟨g1, g2⟩ := h4 v hv
    rw [g1, g2]; exact d6 v hv
def de0 : Dr := d0r
def de1 : Dr := (Dr.n de0, sM (Dr.mi de0) 0 1 2, de0.2.2)
def de2 : Dr := (Dr.n de1, sM (Dr.mi de1) 1 2 3, de1.2.2)
def de3 : Dr := (Dr.n de2, sM (Dr.mi de2) 2 3 1, de2.2.2)
def de4 : Dr := (Dr.n de3, sM (Dr.mi de3) 3 4 4, de3.2.2)
def de5 : Dr := (Dr.n de4, sM (Dr.mi de4) 4 5 2, de4.2.2)
def de6 : Dr := (Dr.n de5, sM (Dr.mi de5) 5 0 6, de5.2.2)
def de7 : Dr := (Dr.n de6, sM (Dr.mi de6) 1 4 5, de6.2.2)
def de8 : Dr := (Dr.n de7, Dr.mi de7, Dr.np de7 + 1, Dr.nw de7, upN (Dr.ki de7) (Dr.np de7) 0, upN (Dr.to de7) (Dr.np de7) 0, upN (Dr.ag de7) (Dr.np de7) 10, Dr.wa de7, Dr.go de7)
def de9 : Dr := (Dr.n de8, Dr.mi de8, Dr.np de8 + 1, Dr.nw de8, upN (Dr.ki de8) (Dr.np de8) 1, upN (Dr.to de8) (Dr.np de8) 1, upN (Dr.ag de8) (Dr.np de8) 45, Dr.wa de8, Dr.go de8)
def de10 : Dr := (Dr.n de9, Dr.mi de9, Dr.np de9 + 1, Dr.nw de9, upN (Dr.ki de9) (Dr.np de9) 2, upN (Dr.to de9) (Dr.np de9) 4, upN (Dr.ag de9) (Dr.np de9) 30, Dr.wa de9, Dr.go de9)
def de11 : Dr := (Dr.n de10, Dr.mi de10, Dr.np de10 + 1, Dr.nw de10, upN (Dr.ki de10) (Dr.np de10) 3, upN (Dr.to de10) (Dr.np de10) 2, upN (Dr.ag de10) (Dr.np de10) 20, Dr.wa de10, Dr.go de10)
def de12 : Dr := (Dr.n de11, Dr.mi de11, Dr.np de11 + 1, Dr.nw de11, upN (Dr.ki de11) (Dr.np de11) 0, upN (Dr.to de11) (Dr.np de11) 5, upN (Dr.ag de11) (Dr.np de11) 59, Dr.wa de11, Dr.go de11)
def de13 : Dr := (Dr.n de12, Dr.mi de12, Dr.np de12, Dr.nw de12 + 1, Dr.ki de12, Dr.to de12, Dr.ag de12, upN (Dr.wa de12) (Dr.nw de12) 0, upN (Dr.go de12) (Dr.nw de12) 3)
def de14 : Dr := (Dr.n de13, Dr.mi de13, Dr.np de13, Dr.nw de13 + 1, Dr.ki de13, Dr.to de13, Dr.ag de13, upN (Dr.wa de13) (Dr.nw de13) 5, upN (Dr.go de13) (Dr.nw de13) 2)
def de15 : Dr := (Dr.n de14, Dr.mi de14, Dr.np de14, Dr.nw de14 + 1, Dr.ki de14, Dr.to de14, Dr.ag de14, upN (Dr.wa de14) (Dr.nw de14) 2, upN (Dr.go de14) (Dr.nw de14) 0)
def de16 : Dr := (Dr.n de15, Dr.mi de15, Dr.np de15, Dr.nw de15 + 1, Dr.ki de15, Dr.to de15, Dr.ag de15, upN (Dr.wa de15) (Dr.nw de15) 4, upN (Dr.go de15) (Dr.nw de15) 1)
theorem fst_ok : ∃ σ1, f_X7_first σ = some σ1 ∧ MF σ σ1 ∧ DM σ1 ftD := by
  obtain ⟨t0, e0, F0, D0, -, -, -⟩ := @tm_beg σ
  have D0 : DM t0 de0 := D0
  obtain ⟨t1, e1, F1, D1⟩ := fr_road (a := 0) (c := 1) (l := 2) D0 (by omega) (by omega)
  have D1 : DM t1 de1 := D1
  have e1 : f_X7_tellRoad t0 (0 : Int32) (1 : Int32) (2 : Int32) = some t1 := e1
  obtain ⟨t2, e2, F2, D2⟩ := fr_road (a := 1) (c := 2) (l := 3) D1 (by omega) (by omega)
  have D2 : DM t2 de2 := D2
  have e2 : f_X7_tellRoad t1 (1 : Int32) (2 : Int32) (3 : Int32) = some t2 := e2
  obtain ⟨t3, e3, F3, D3⟩ := fr_road (a := 2) (c := 3) (l := 1) D2 (by omega) (by omega)
  have D3 : DM t3 de3 := D3
  have e3 : f_X7_tellRoad t2 (2 : Int32) (3 : Int32) (1 : Int32) = some t3 := e3
  obtain ⟨t4, e4, F4, D4⟩ := fr_road (a := 3) (c := 4) (l := 4) D3 (by omega) (by omega)
  have D4 : DM t4 de4 := D4
  have e4 : f_X7_tellRoad t3 (3 : Int32) (4 : Int32) (4 : Int32) = some t4 := e4
  obtain ⟨t5, e5, F5, D5⟩ := fr_road (a := 4) (c := 5) (l := 2) D4 (by omega) (by omega)
  have D5 : DM t5 de5 := D5
  have e5 : f_X7_tellRoad t4 (4 : Int32) (5 : Int32) (2 : Int32) = some t5 := e5
  obtain ⟨t6, e6, F6, D6⟩ := fr_road (a := 5) (c := 0) (l := 6) D5 (by omega) (by omega)
  have D6 : DM t6 de6 := D6
  have e6 : f_X7_tellRoad t5 (5 : Int32) (0 : Int32) (6 : Int32) = some t6 := e6
  obtain ⟨t7, e7, F7, D7⟩ := fr_road (a := 1) (c := 4) (l := 5) D6 (by omega) (by omega)
  have D7 : DM t7 de7 := D7
  have e7 : f_X7_tellRoad t6 (1 : Int32) (4 : Int32) (5 : Int32) = some t7 := e7
  obtain ⟨t8, e8, F8, D8⟩ := fr_post (v0 := 0) (v1 := 0) (v2 := 10) D7 (by decide)
  have D8 : DM t8 de8 := D8
  have e8 : f_X7_tellPost t7 (0 : Int32) (0 : Int32) (10 : Int32) = some t8 := e8
  obtain ⟨t9, e9, F9, D9⟩ := fr_post (v0 := 1) (v1 := 1) (v2 := 45) D8 (by decide)
  have D9 : DM t9 de9 := D9
  have e9 : f_X7_tellPost t8 (1 : Int32) (1 : Int32) (45 : Int32) = some t9 := e9
  obtain ⟨t10, e10, F10, D10⟩ := fr_post (v0 := 2) (v1 := 4) (v2 := 30) D9 (by decide)
  have D10 : DM t10 de10 := D10
  have e10 : f_X7_tellPost t9 (2 : Int32) (4 : Int32) (30 : Int32) = some t10 := e10
  obtain ⟨t11, e11, F11, D11⟩ := fr_post (v0 := 3) (v1 := 2) (v2 := 20) D10 (by decide)
  have D11 : DM t11 de11 := D11
  have e11 : f_X7_tellPost t10 (3 : Int32) (2 : Int32) (20 : Int32) = some t11 := e11
  obtain ⟨t12, e12, F12, D12⟩ := fr_post (v0 := 0) (v1 := 5) (v2 := 59) D11 (by decide)
  have D12 : DM t12 de12 := D12
  have e12 : f_X7_tellPost t11 (0 : Int32) (5 : Int32) (59 : Int32) = some t12 := e12
  obtain ⟨t13, e13, F13, D13⟩ := fr_walk (v0 := 0) (v1 := 3) D12 (by decide)
  have D13 : DM t13 de13 := D13
  have e13 : f_X7_tellWalker t12 (0 : Int32) (3 : Int32) = some t13 := e13
  obtain ⟨t14, e14, F14, D14⟩ := fr_walk (v0 := 5) (v1 := 2) D13 (by decide)
  have D14 : DM t14 de14 := D14
  have e14 : f_X7_tellWalker t13 (5 : Int32) (2 : Int32) = some t14 := e14
  obtain ⟨t15, e15, F15, D15⟩ := fr_walk (v0 := 2) (v1 := 0) D14 (by decide)
  have D15 : DM t15 de15 := D15
  have e15 : f_X7_tellWalker t14 (2 : Int32) (0 : Int32) = some t15 := e15
  obtain ⟨t16, e16, F16, D16⟩ := fr_walk (v0 := 4) (v1 := 1) D15 (by decide)
  have D16 : DM t16 de16 := D16
  have e16 : f_X7_tellWalker t15 (4 : Int32) (1 : Int32) = some t16 := e16
  refine ⟨t16, ?_, ((((((((((((((((F0).tr F1).tr F2).tr F3).tr F4).tr F5).tr F6).tr F7).tr F8).tr F9).tr F10).tr F11).tr F12).tr F13).tr F14).tr F15).tr F16, ?_⟩
  · unfold f_X7_first
    rw [e0, sb, e1, sb, e2, sb, e3, sb, e4, sb, e5, sb, e6, sb, e7, sb, e8, sb, e9, sb, e10, sb, e11, sb, e12, sb, e13, sb, e14, sb, e15, sb, e16, sb]
  · have a1 : Dr.n ftD = Dr.n de16 ∧ Dr.np ftD = Dr.np de16 ∧ Dr.nw ftD = Dr.nw de16 := by decide +kernel
    have a2 : ∀ a c : Fin 8, Dr.mi ftD a.val c.val = Dr.mi de16 a.val c.val := by decide +kernel
    have a3 : ∀ q : Fin 5, Dr.ki ftD q.val = Dr.ki de16 q.val ∧ Dr.to ftD q.val = Dr.to de16 q.val ∧ Dr.ag ftD q.val = Dr.ag de16 q.val := by decide +kernel
    have a4 : ∀ v : Fin 4, Dr.wa ftD v.val = Dr.wa de16 v.val ∧ Dr.go ftD v.val = Dr.go de16 v.val := by decide +kernel
    exact DM_cg D16 a1 (fun a c ha hc => a2 ⟨a, ha⟩ ⟨c, hc⟩) (fun q hq => a3 ⟨q, hq⟩) (fun v hv => a4 ⟨v, hv⟩)
theorem ft_n : Dr.np ftD = 5 ∧ Dr.nw ftD = 4 := by decide +kernel
/-- class and model alike at the start -/
theorem init_rel {σ' : Sg} (hC : CI σ) (h1 : ∀ i, i < 184 → σ' i = σ i) (h2 : ∀ i, 184 ≤ i → ∀ k, σ' i k = 0) : ∃ σ1 σ2, f_X7_first σ' = some σ1 ∧ f_X7_takeDraft σ1 = some σ2 ∧ Rel 0 σ2 := by
  obtain ⟨c1, c2, c3, c4⟩ := hC
  obtain ⟨σ1, e1, F1, D1⟩ := @fst_ok σ'
  obtain ⟨σ2, e2, f2, g2, ⟨x16, x18, x28, x32⟩, S2, Y2⟩ := tdr_ok D1 ft_V
  refine ⟨σ1, σ2, e1, e2, ?_⟩
  have R : ∀ i, i < 184 → σ2 i = σ i := fun i hi => (f2 i (by omega)).trans ((F1.row (by omega)).trans (h1 i hi))
  have R4 : ∀ k, k ≠ 11 → k ≠ 12 → k ≠ 13 → k ≠ 16 → k ≠ 18 → k ≠ 28 → k ≠ 32 → σ2 184 k = 0 := fun k a b c e f g h => (g2 k e f g h).trans ((F1.at_ a b c).trans (h2 184 (by omega) k))
  have Z : ∀ i k, 34 ≤ i → i < 184 → k ≠ 0 → σ2 i k = nI 0 := fun i k a b e => by rw [R i b, c4 i a, z0_o (Or.inl e)]; rfl
  obtain ⟨n5, n4⟩ := ft_n
  have K2 : KC σ2 := fun g a b => by
    by_cases c : g < 184
    · rw [R g c]; exact c1 g a b
    · exfalso
      have : ∀ i : Fin 23, kd (184 + i.val) ≠ 0 := by decide +kernel
      have h3 := this ⟨g - 184, by omega⟩
      rw [show 184 + (g - 184) = g by omega] at h3
      exact h3 b
  refine ⟨K2, ⟨0, fun _ => 0, by rw [R 1 (by omega)]; exact c2, by rw [R4 1 (by omega) (by omega) (by omega) (by omega) (by omega) (by omega) (by omega)]; rfl, by omega, fun i hi => absurd hi (by omega)⟩, Dr.n ftD, Dr.np ftD, Dr.nw ftD, Dr.ki ftD, Dr.go ftD, dS1 ftD, 0, fun _ => dS1 ftD, 0, fun _ => dS1 ftD, 0, fun _ => (0, 0, 0), 0, fun _ => (0, 0, 0), ⟨by omega, by omega, by omega, by omega⟩, OK_d ft_V, fun i hi => absurd hi (by omega), fun i hi => absurd hi (by omega), ⟨CY_fr c3 (fun i a b => R i (by omega)), ⟨Z 34 1 (by omega) (by omega) (by omega), by omega, 0, by omega, Z 34 2 (by omega) (by omega) (by omega), fun i hi => absurd hi (by omega)⟩, ⟨Z 148 1 (by omega) (by omega) (by omega), by omega, 0, by omega, Z 148 2 (by omega) (by omega) (by omega), fun i hi => absurd hi (by omega)⟩⟩, ⟨S2, ⟨?_, ?_, ?_⟩, Y2, x16, fun i hi => absurd hi (by omega), x18, fun i hi => absurd hi (by omega)⟩, ⟨⟨Z 178 1 (by omega) (by omega) (by omega), fun i hi => absurd hi (by omega)⟩, x28, by omega, fun i hi => absurd hi (by omega)⟩, ⟨Z 181 1 (by omega) (by omega) (by omega), fun i hi => absurd hi (by omega)⟩, x32, by omega, fun i hi => absurd hi (by omega)⟩
  · exact R4 21 (by omega) (by omega) (by omega) (by omega) (by omega) (by omega) (by omega)
  · exact R4 22 (by omega) (by omega) (by omega) (by omega) (by omega) (by omega) (by omega)
  · exact R4 23 (by omega) (by omega) (by omega) (by omega) (by omega) (by omega) (by omega)
end FI
