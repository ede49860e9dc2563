/-! Part 41: the text whole, read by the model. -/
section MW
variable {σ σ' : Sg} {len : Nat} {tx : Nat → Nat} {b : Bool} {p n np nw : Nat} {d : Dr}
theorem it114' (c : tr_ch len tx p = 114) {v0 v1 v2 q : Nat} (e : tr_rn len tx 3 0 (p + 1) (fun _ => 0) = some (upN (upN (upN (fun _ => 0) 0 v0) 1 v1) 2 v2, q)) : tr_it len tx b d p = if v0 < Dr.n d ∧ v1 < Dr.n d ∧ v0 ≠ v1 ∧ 1 ≤ v2 ∧ v2 ≤ 9 then some ((Dr.n d, sM (Dr.mi d) v0 v1 v2, d.2.2), q) else none := it114 c e
theorem it112' (c : tr_ch len tx p = 112) {v0 v1 v2 q : Nat} (e : tr_rn len tx 3 0 (p + 1) (fun _ => 0) = some (upN (upN (upN (fun _ => 0) 0 v0) 1 v1) 2 v2, q)) : tr_it len tx b d p = if v0 ≤ 3 ∧ v1 < Dr.n d ∧ v2 ≤ 59 ∧ Dr.np d < 6 then some ((Dr.n d, Dr.mi d, Dr.np d + 1, Dr.nw d, upN (Dr.ki d) (Dr.np d) v0, upN (Dr.to d) (Dr.np d) v1, upN (Dr.ag d) (Dr.np d) v2, Dr.wa d, Dr.go d), q) else none := it112 c e
theorem it119' (c : tr_ch len tx p = 119) {v0 v1 q : Nat} (e : tr_rn len tx 2 0 (p + 1) (fun _ => 0) = some (upN (upN (fun _ => 0) 0 v0) 1 v1, q)) : tr_it len tx b d p = if v0 < Dr.n d ∧ v1 < Dr.n d ∧ v0 ≠ v1 ∧ Dr.nw d < 5 then some ((Dr.n d, Dr.mi d, Dr.np d, Dr.nw d + 1, Dr.ki d, Dr.to d, Dr.ag d, upN (Dr.wa d) (Dr.nw d) v0, upN (Dr.go d) (Dr.nw d) v1), q) else none := it119 c e
/-- what stands behind an item -/
theorem tm_tl (h : TM σ len tx) (hp : p < 2 ^ 20) : ((f_X7_due (MSt σ p b) (59 : Int32)).bind fun σ133 => (some (sf σ133 (184) 13 ((σ133 184 13) + (1 : Int32)))).bind fun σ143 => some σ143) = some (MSt (sf σ 184 13 (σ 184 13 + 1)) (p + 1) (b || !decide (tr_ch len tx p = 59))) := by
  rw [tm_d59 h hp, sb, sb, MSt_13, MSt_k (by omega) (by omega)]
theorem tm_fin {τ : Sg} {e j : Nat} {G : Bool} (E : f_X7_readItem σ = some (MSt (sf τ 184 13 (τ 184 13 + 1)) e G)) (M : MF σ τ) (t13 : τ 184 13 = nI j) (n0 : tr_it len tx b d p = none → G = true) (n1 : ∀ d' q, tr_it len tx b d p = some (d', q) → G = false ∧ e = q ∧ DM τ d') : ∃ σ', f_X7_readItem σ = some σ' ∧ MF σ σ' ∧ (tr_it len tx b d p = none → σ' 184 12 = 1) ∧ ∀ d' q, tr_it len tx b d p = some (d', q) → σ' 184 12 = 0 ∧ σ' 184 11 = nI q ∧ σ' 184 13 = nI (j + 1) ∧ DM σ' d' := by
  refine ⟨_, E, (M.sf (Or.inl ⟨rfl, Or.inr (Or.inr rfl)⟩)).st, fun z => by rw [MSt_12, n0 z]; rfl, fun d' q z => ?_⟩
  obtain ⟨g1, g2, g3⟩ := n1 d' q z
  refine ⟨by rw [MSt_12, g1]; rfl, by rw [MSt_11, g2], ?_, DM_fr g3 (fun i h1 h2 => by rw [MSt_r (by omega), sf_ne (by omega)])⟩
  rw [MSt_k (by omega) (by omega), sf_row, upd_self, t13, nI_1]
theorem tm_ri (h : TM σ len tx) (hp : σ 184 11 = nI p) (hf : σ 184 12 = 0) {j : Nat} (hj : σ 184 13 = nI j) (hjl : j < 2 ^ 20) (hpl : p < 300) (hD : DM σ d) (dv : DV d) (hb : b = true ↔ j = 0) (hbd : b = true → d = d0r) : ∃ σ', f_X7_readItem σ = some σ' ∧ MF σ σ' ∧ (tr_it len tx b d p = none → σ' 184 12 = 1) ∧ ∀ d' q, tr_it len tx b d p = some (d', q) → σ' 184 12 = 0 ∧ σ' 184 11 = nI q ∧ σ' 184 13 = nI (j + 1) ∧ DM σ' d' := by
  have id : MSt σ p false = σ := MSt_id hp hf
  have n2 := dv.1.1
  have n8 := dv.1.2.1
  obtain ⟨⟨v6, v5⟩, -⟩ := dv.2
  have hD0 := hD
  obtain ⟨⟨d1, d2, d3⟩, d4, d5, d6⟩ := hD
  have L0 := @tr_neL len tx (p + 1)
  have L1 := @tq1L len tx (p + 1)
  have L2 := @tq2L len tx (p + 1)
  have E1 := @tr_neL len tx (tq1 len tx (p + 1))
  have E2 := @tr_neL len tx (tq2 len tx (p + 1))
  have hh : f_X7_here σ = some (tr_cv len tx p) := by
    have := tm_he (b := false) (p := p) h (by omega)
    rw [id] at this
    exact this
  have s1 : sf σ 184 11 (σ 184 11 + 1) = MSt σ (p + 1) false := by
    rw [hp, nI_1]
    conv => lhs; rw [← id]
    exact MSt_p
  have RI : f_X7_readItem σ = (if tr_cv len tx p = (110 : Int32) then
      (if (MSt σ (p + 1) false) 184 13 ≤ 0 then (some (sf (MSt σ (p + 1) false) 184 12 0)).bind fun σ85 => (f_X7_number σ85 2 8).bind fun q97 => (sa q97.2 186 (ln 186) 1 q97.1).bind fun σ100 => (f_X7_due σ100 (59 : Int32)).bind fun σ133 => (some (sf σ133 (184) 13 ((σ133 184 13) + (1 : Int32)))).bind fun σ143 => some σ143
      else (some (sf (MSt σ (p + 1) false) 184 12 1)).bind fun σ85 => (f_X7_number σ85 2 8).bind fun q97 => (sa q97.2 186 (ln 186) 1 q97.1).bind fun σ100 => (f_X7_due σ100 (59 : Int32)).bind fun σ133 => (some (sf σ133 (184) 13 ((σ133 184 13) + (1 : Int32)))).bind fun σ143 => some σ143)
      else if tr_cv len tx p = (112 : Int32) then (f_X7_readPost (MSt σ (p + 1) false)).bind fun σ112 => (f_X7_due σ112 (59 : Int32)).bind fun σ133 => (some (sf σ133 (184) 13 ((σ133 184 13) + (1 : Int32)))).bind fun σ143 => some σ143
      else if tr_cv len tx p = (114 : Int32) then (f_X7_readRoad (MSt σ (p + 1) false)).bind fun σ105 => (f_X7_due σ105 (59 : Int32)).bind fun σ133 => (some (sf σ133 (184) 13 ((σ133 184 13) + (1 : Int32)))).bind fun σ143 => some σ143
      else if tr_cv len tx p = (119 : Int32) then (f_X7_readWalker (MSt σ (p + 1) false)).bind fun σ119 => (f_X7_due σ119 (59 : Int32)).bind fun σ133 => (some (sf σ133 (184) 13 ((σ133 184 13) + (1 : Int32)))).bind fun σ143 => some σ143
      else (some (sf (MSt σ (p + 1) false) 184 12 1)).bind fun σ127 => (f_X7_due σ127 (59 : Int32)).bind fun σ133 => (some (sf σ133 (184) 13 ((σ133 184 13) + (1 : Int32)))).bind fun σ143 => some σ143) := by
    unfold f_X7_readItem
    rw [hh, sb, s1, sb, chn]
  by_cases c1 : tr_ch len tx p = 110
  · have e : tr_cv len tx p = 110 := (tr_cvE (c := 110) h.2.1 (by omega) (by omega)).mpr c1
    rw [if_pos e, MSt_k (by omega) (by omega), hj] at RI
    have T1 : TM (sf σ 186 1 (nI ((tr_vn len tx 2 8 (p + 1)).getD 0))) len tx := TM_o h (by omega) (by omega)
    have M1 : MF σ (sf σ 186 1 (nI ((tr_vn len tx 2 8 (p + 1)).getD 0))) := MF.rf.sf (Or.inr (Or.inl ⟨Or.inl rfl, rfl⟩))
    by_cases j0 : j = 0
    · have b1 : b = true := hb.mpr j0
      have hd := hbd b1
      rw [if_pos (show nI j ≤ 0 by rw [j0]; decide), sb, MSt_b0, tm_n8 h (by omega), sb] at RI
      dsimp only at RI
      rw [s186, sb, MSt_o (by omega), tm_tl T1 (by omega)] at RI
      refine tm_fin RI M1 (by rw [sf_ne (by omega)]; exact hj) (fun z => ?_) (fun d' q z => ?_)
      · cases G : (false || (tr_vn len tx 2 8 (p + 1)).isNone || !decide (tr_ch len tx (tr_ne len tx (p + 1)) = 59)) with
        | true => rfl
        | false =>
          exfalso
          rw [Bool.or_eq_false_iff, Bool.or_eq_false_iff] at G
          obtain ⟨⟨-, a0⟩, a1⟩ := G
          obtain ⟨v0, e0⟩ := nS a0
          obtain ⟨w1, w2⟩ := tr_vnS e0
          rcases @tr_n1 len tx (p + 1) (fun _ => 0) with ⟨u0, x0, x1, x2⟩ | ⟨x0, x1⟩
          · rw [w1] at x0
            cases x0
            rw [it110 c1 x2, if_pos ⟨b1, w2⟩] at z
            cases z
          · rcases x1 with x1 | x1
            · rw [w1] at x1; cases x1
            · exact x1 (nD a1)
      · rcases @tr_n1 len tx (p + 1) (fun _ => 0) with ⟨u0, x0, x1, x2⟩ | ⟨x0, x1⟩
        · rw [it110 c1 x2] at z
          by_cases g : b = true ∧ 2 ≤ upN (fun _ => 0) 0 u0 0 ∧ upN (fun _ => 0) 0 u0 0 ≤ 8
          · have g2 : 2 ≤ u0 ∧ u0 ≤ 8 := g.2
            rw [if_pos g] at z
            cases z
            rw [tr_vnT x0 g2, decide_eq_true x1]
            refine ⟨rfl, rfl, ?_⟩
            subst hd
            refine ⟨⟨by rw [sf_row, upd_self]; rfl, by rw [sf_ne (by omega)]; exact d2, by rw [sf_ne (by omega)]; exact d3⟩, fun a c ha hc => by rw [sf_ne (by omega)]; exact d4 a c ha hc, fun q hq => absurd hq (Nat.not_lt_zero q), fun q hq => absurd hq (Nat.not_lt_zero q)⟩
          · rw [if_neg g] at z; cases z
        · rw [it110n c1 x0] at z; cases z
    · rw [if_neg (show ¬ nI j ≤ 0 from nI_nle (by omega) (by omega)), sb, MSt_b1] at RI
      rw [show f_X7_number (MSt σ (p + 1) true) 2 8 = _ from tm_n8 h (by omega), sb] at RI
      dsimp only at RI
      rw [s186, sb, MSt_o (by omega), tm_tl T1 (by omega)] at RI
      refine tm_fin RI M1 (by rw [sf_ne (by omega)]; exact hj) (fun z => rfl) (fun d' q z => ?_)
      exfalso
      cases x : tr_rn len tx 1 0 (p + 1) (fun _ => 0) with
      | none => rw [it110n c1 x] at z; cases z
      | some w =>
        obtain ⟨g, q'⟩ := w
        rw [it110 c1 x, if_neg (fun y => j0 (hb.mp y.1))] at z
        cases z
  by_cases c2 : tr_ch len tx p = 114
  · have e : tr_cv len tx p = 114 := (tr_cvE (c := 114) h.2.1 (by omega) (by omega)).mpr c2
    rw [e, if_neg (show ¬ (114 : Int32) = 110 by decide), if_neg (show ¬ (114 : Int32) = 112 by decide), if_pos rfl, tm_rr h d1 n2 n8 (by omega) rfl rfl rfl rfl, sb] at RI
    by_cases C : tf3 len tx 0 (Dr.n d - 1) 0 (Dr.n d - 1) 1 9 (p + 1) = true ∨ (tr_vn len tx 0 (Dr.n d - 1) (p + 1)).getD 0 = (tr_vn len tx 0 (Dr.n d - 1) (tq1 len tx (p + 1))).getD 0
    · rw [if_pos C, tm_tl h (by omega)] at RI
      refine tm_fin RI MF.rf hj (fun _ => rfl) (fun d' q z => ?_)
      exfalso
      rcases @rn3 len tx (p + 1) (fun _ => 0) with ⟨v0, v1, v2, ⟨x0, x1, x2, x3, x4, x5⟩, y⟩ | ⟨y, -⟩
      · rw [it114' c2 y] at z
        by_cases g : v0 < Dr.n d ∧ v1 < Dr.n d ∧ v0 ≠ v1 ∧ 1 ≤ v2 ∧ v2 ≤ 9
        · have t0 := tr_vnT (lo := 0) (hi := Dr.n d - 1) x0 ⟨by omega, by omega⟩
          have t1 := tr_vnT (lo := 0) (hi := Dr.n d - 1) x2 ⟨by omega, by omega⟩
          have t2 := tr_vnT (lo := 1) (hi := 9) x4 ⟨by omega, by omega⟩
          rw [tf3T t0 x1 t1 x3 t2, t0, t1] at C
          rcases C with C | C
          · cases C
          · exact g.2.2.1 C
        · rw [if_neg g] at z; cases z
      · rw [it114n c2 y] at z; cases z
    · rw [if_neg C] at RI
      have hF : tf3 len tx 0 (Dr.n d - 1) 0 (Dr.n d - 1) 1 9 (p + 1) = false := by
        cases u : tf3 len tx 0 (Dr.n d - 1) 0 (Dr.n d - 1) 1 9 (p + 1) with
        | true => exact absurd (Or.inl u) C
        | false => rfl
      obtain ⟨v0, v1, v2, t0, x1, t1, x3, t2⟩ := tf3F hF
      obtain ⟨x0, r0⟩ := tr_vnS t0
      obtain ⟨x2, r1⟩ := tr_vnS t1
      obtain ⟨x4, r2⟩ := tr_vnS t2
      rw [t0, t1] at C
      have ne : ¬ v0 = v1 := fun z => C (Or.inr z)
      rw [t0, t1, t2] at RI
      have RI : f_X7_readItem σ = ((f_X7_due (MSt (sf (sf σ 191 (8 * v0 + v1) (nI v2)) 191 (8 * v1 + v0) (nI v2)) (tr_ne len tx (tq2 len tx (p + 1))) false) (59 : Int32)).bind fun σ133 => (some (sf σ133 (184) 13 ((σ133 184 13) + (1 : Int32)))).bind fun σ143 => some σ143) := RI
      rw [tm_tl (TM_o (TM_o h (by omega) (by omega)) (by omega) (by omega)) (by omega)] at RI
      refine tm_fin RI ((MF.rf.sf (Or.inr (Or.inr (Or.inr (Or.inr ⟨by omega, by omega⟩))))).sf (Or.inr (Or.inr (Or.inr (Or.inr ⟨by omega, by omega⟩))))) (by rw [sf_ne (by omega), sf_ne (by omega)]; exact hj) (fun z => ?_) (fun d' q z => ?_)
      · rcases @rn3 len tx (p + 1) (fun _ => 0) with ⟨w0, w1, w2, ⟨y0, y1, y2, y3, y4, y5⟩, y⟩ | ⟨y, no⟩
        · exfalso
          rw [x0] at y0
          rw [x2] at y2
          rw [x4] at y4
          cases y0
          cases y2
          cases y4
          rw [it114' c2 y, if_pos (show v0 < Dr.n d ∧ v1 < Dr.n d ∧ v0 ≠ v1 ∧ 1 ≤ v2 ∧ v2 ≤ 9 from ⟨by omega, by omega, ne, r2⟩)] at z
          cases z
        · rw [decide_eq_false (fun y5 => no ⟨v0, v1, v2, x0, x1, x2, x3, x4, y5⟩)]
          rfl
      · rcases @rn3 len tx (p + 1) (fun _ => 0) with ⟨w0, w1, w2, ⟨y0, y1, y2, y3, y4, y5⟩, y⟩ | ⟨y, no⟩
        · rw [x0] at y0
          rw [x2] at y2
          rw [x4] at y4
          cases y0
          cases y2
          cases y4
          rw [it114' c2 y, if_pos (show v0 < Dr.n d ∧ v1 < Dr.n d ∧ v0 ≠ v1 ∧ 1 ≤ v2 ∧ v2 ≤ 9 from ⟨by omega, by omega, ne, r2⟩)] at z
          cases z
          rw [decide_eq_true y5]
          refine ⟨rfl, rfl, ⟨by rw [sf_ne (by omega), sf_ne (by omega)]; exact d1, by rw [sf_ne (by omega), sf_ne (by omega)]; exact d2, by rw [sf_ne (by omega), sf_ne (by omega)]; exact d3⟩, fun a c ha hc => ?_, fun q hq => ?_, fun q hq => ?_⟩
          · show _ = nI (sM (Dr.mi d) v0 v1 v2 a c)
            unfold sM
            rw [sf_row]
            by_cases g : a = v1 ∧ c = v0
            · rw [if_pos (Or.inr g)]; obtain ⟨rfl, rfl⟩ := g; exact upd_self
            · rw [upd_ne (by omega), sf_row]
              by_cases g2 : a = v0 ∧ c = v1
              · rw [if_pos (Or.inl g2)]; obtain ⟨rfl, rfl⟩ := g2; exact upd_self
              · rw [upd_ne (by omega), if_neg (fun q => q.elim g2 g)]; exact d4 a c ha hc
          · rw [sf_ne (by omega), sf_ne (by omega), sf_ne (by omega), sf_ne (by omega), sf_ne (by omega), sf_ne (by omega)]; exact d5 q hq
          · rw [sf_ne (by omega), sf_ne (by omega), sf_ne (by omega), sf_ne (by omega)]; exact d6 q hq
        · rw [it114n c2 y] at z; cases z
  by_cases c3 : tr_ch len tx p = 112
  · have e : tr_cv len tx p = 112 := (tr_cvE (c := 112) h.2.1 (by omega) (by omega)).mpr c3
    rw [e, if_neg (show ¬ (112 : Int32) = 110 by decide), if_pos rfl, tm_rp h d1 n2 n8 d2 v6 (by omega) rfl rfl rfl rfl, sb] at RI
    by_cases C : Dr.np d < 6
    · rw [if_pos C] at RI
      rw [tm_tl (TM_o (TM_o (TM_o (TM_o h (by omega) (by omega)) (by omega) (by omega)) (by omega) (by omega)) (by omega) (by omega)) (by omega)] at RI
      refine tm_fin RI ((((MF.rf.sf (Or.inr (Or.inr (Or.inl ⟨rfl, by omega⟩)))).sf (Or.inr (Or.inr (Or.inr (Or.inr ⟨by omega, by omega⟩))))).sf (Or.inr (Or.inr (Or.inr (Or.inr ⟨by omega, by omega⟩))))).sf (Or.inr (Or.inl ⟨Or.inr (Or.inl rfl), rfl⟩))) (by rw [sf_ne (by omega), sf_ne (by omega), sf_ne (by omega), sf_ne (by omega)]; exact hj) (fun z => ?_) (fun d' q z => ?_)
      · cases G : (tf3 len tx 0 3 0 (Dr.n d - 1) 0 59 (p + 1) || !decide (tr_ch len tx (tr_ne len tx (tq2 len tx (p + 1))) = 59)) with
        | true => rfl
        | false =>
          exfalso
          rw [Bool.or_eq_false_iff] at G
          obtain ⟨v0, v1, v2, t0, x1, t1, x3, t2⟩ := tf3F G.1
          obtain ⟨x0, r0⟩ := tr_vnS t0
          obtain ⟨x2, r1⟩ := tr_vnS t1
          obtain ⟨x4, r2⟩ := tr_vnS t2
          rcases @rn3 len tx (p + 1) (fun _ => 0) with ⟨w0, w1, w2, ⟨y0, y1, y2, y3, y4, y5⟩, y⟩ | ⟨y, no⟩
          · rw [x0] at y0
            rw [x2] at y2
            rw [x4] at y4
            cases y0
            cases y2
            cases y4
            rw [it112' c3 y, if_pos (show v0 ≤ 3 ∧ v1 < Dr.n d ∧ v2 ≤ 59 ∧ Dr.np d < 6 from ⟨r0.2, by omega, r2.2, C⟩)] at z
            cases z
          · exact no ⟨v0, v1, v2, x0, x1, x2, x3, x4, nD G.2⟩
      · rcases @rn3 len tx (p + 1) (fun _ => 0) with ⟨v0, v1, v2, ⟨x0, x1, x2, x3, x4, x5⟩, y⟩ | ⟨y, no⟩
        · rw [it112' c3 y] at z
          by_cases g : v0 ≤ 3 ∧ v1 < Dr.n d ∧ v2 ≤ 59 ∧ Dr.np d < 6
          · rw [if_pos g] at z
            cases z
            have t0 := tr_vnT (lo := 0) (hi := 3) x0 ⟨by omega, by omega⟩
            have t1 := tr_vnT (lo := 0) (hi := Dr.n d - 1) x2 ⟨by omega, by omega⟩
            have t2 := tr_vnT (lo := 0) (hi := 59) x4 ⟨by omega, by omega⟩
            rw [tf3T t0 x1 t1 x3 t2, decide_eq_true x5, t0, t1, t2]
            refine ⟨rfl, rfl, ⟨by rw [sf_ne (by omega), sf_ne (by omega), sf_ne (by omega), sf_ne (by omega)]; exact d1, by rw [sf_row, upd_self]; rfl, by rw [sf_ne (by omega), sf_ne (by omega), sf_ne (by omega), sf_ne (by omega)]; exact d3⟩, fun a c ha hc => by rw [sf_ne (by omega), sf_ne (by omega), sf_ne (by omega), sf_ne (by omega)]; exact d4 a c ha hc, fun q hq => ?_, fun q hq => ?_⟩
            · have hq : q < Dr.np d + 1 := hq
              rw [sf_ne (i := 187) (by omega), sf_ne (i := 193) (j := 189) (by omega), sf_ne (i := 192) (j := 189) (by omega), sf_row, sf_ne (i := 187) (by omega), sf_ne (i := 193) (j := 192) (by omega), sf_row, sf_ne (i := 187) (by omega), sf_row]
              show _ = nI (upN (Dr.ki d) (Dr.np d) v0 q) ∧ _ = nI (upN (Dr.to d) (Dr.np d) v1 q) ∧ _ = nI (upN (Dr.ag d) (Dr.np d) v2 q)
              unfold upN
              by_cases eq : q = Dr.np d
              · subst eq
                rw [if_pos rfl, if_pos rfl, if_pos rfl, upd_self, upd_self, upd_self]
                exact ⟨rfl, rfl, rfl⟩
              · rw [if_neg eq, if_neg eq, if_neg eq, upd_ne (by omega), upd_ne (by omega), upd_ne (by omega)]
                obtain ⟨g1, g2, g3⟩ := d5 q (by omega)
                refine ⟨g1, ?_, ?_⟩
                · rw [sf_ne (by omega)]; exact g2
                · rw [sf_ne (by omega), sf_ne (by omega)]; exact g3
            · rw [sf_ne (by omega), sf_ne (by omega), sf_ne (by omega), sf_ne (by omega), sf_ne (by omega), sf_ne (by omega), sf_ne (by omega), sf_ne (by omega)]; exact d6 q hq
          · rw [if_neg g] at z; cases z
        · rw [it112n c3 y] at z; cases z
    · rw [if_neg C, tm_tl h (by omega)] at RI
      refine tm_fin RI MF.rf hj (fun _ => rfl) (fun d' q z => ?_)
      exfalso
      cases x : tr_rn len tx 3 0 (p + 1) (fun _ => 0) with
      | none => rw [it112n c3 x] at z; cases z
      | some w =>
        obtain ⟨g, q'⟩ := w
        rw [it112 c3 x, if_neg (fun y => C y.2.2.2)] at z
        cases z
  by_cases c4 : tr_ch len tx p = 119
  · have e : tr_cv len tx p = 119 := (tr_cvE (c := 119) h.2.1 (by omega) (by omega)).mpr c4
    rw [e, if_neg (show ¬ (119 : Int32) = 110 by decide), if_neg (show ¬ (119 : Int32) = 112 by decide), if_neg (show ¬ (119 : Int32) = 114 by decide), if_pos rfl, tm_rw h d1 n2 n8 d3 v5 (by omega) rfl rfl rfl, sb] at RI
    by_cases C : Dr.nw d < 5
    · rw [if_pos C] at RI
      rw [tm_tl (TM_o (TM_o (TM_o h (by omega) (by omega)) (by omega) (by omega)) (by omega) (by omega)) (by omega)] at RI
      refine tm_fin RI (((MF.rf.sf (Or.inr (Or.inr (Or.inr (Or.inr ⟨by omega, by omega⟩))))).sf (Or.inr (Or.inr (Or.inr (Or.inl ⟨rfl, by omega⟩))))).sf (Or.inr (Or.inl ⟨Or.inr (Or.inr rfl), rfl⟩))) (by rw [sf_ne (by omega), sf_ne (by omega), sf_ne (by omega)]; exact hj) (fun z => ?_) (fun d' q z => ?_)
      · cases G : (tf2 len tx 0 (Dr.n d - 1) 0 (Dr.n d - 1) (p + 1) || decide ((tr_vn len tx 0 (Dr.n d - 1) (p + 1)).getD 0 = (tr_vn len tx 0 (Dr.n d - 1) (tq1 len tx (p + 1))).getD 0) || !decide (tr_ch len tx (tr_ne len tx (tq1 len tx (p + 1))) = 59)) with
        | true => rfl
        | false =>
          exfalso
          rw [Bool.or_eq_false_iff, Bool.or_eq_false_iff] at G
          obtain ⟨v0, v1, t0, x1, t1⟩ := tf2F G.1.1
          obtain ⟨x0, r0⟩ := tr_vnS t0
          obtain ⟨x2, r1⟩ := tr_vnS t1
          have G2 := of_decide_eq_false G.1.2
          rw [t0, t1] at G2
          have G2 : ¬ v0 = v1 := G2
          rcases @rn2 len tx (p + 1) (fun _ => 0) with ⟨w0, w1, ⟨y0, y1, y2, y3⟩, y⟩ | ⟨y, no⟩
          · rw [x0] at y0
            rw [x2] at y2
            cases y0
            cases y2
            rw [it119' c4 y, if_pos (show v0 < Dr.n d ∧ v1 < Dr.n d ∧ v0 ≠ v1 ∧ Dr.nw d < 5 from ⟨by omega, by omega, G2, C⟩)] at z
            cases z
          · exact no ⟨v0, v1, x0, x1, x2, nD G.2⟩
      · rcases @rn2 len tx (p + 1) (fun _ => 0) with ⟨v0, v1, ⟨x0, x1, x2, x3⟩, y⟩ | ⟨y, no⟩
        · rw [it119' c4 y] at z
          by_cases g : v0 < Dr.n d ∧ v1 < Dr.n d ∧ v0 ≠ v1 ∧ Dr.nw d < 5
          · rw [if_pos g] at z
            cases z
            have t0 := tr_vnT (lo := 0) (hi := Dr.n d - 1) x0 ⟨by omega, by omega⟩
            have t1 := tr_vnT (lo := 0) (hi := Dr.n d - 1) x2 ⟨by omega, by omega⟩
            rw [tf2T t0 x1 t1, decide_eq_true x3, t0, t1]
            rw [show ((some v0 : Option Nat).getD 0) = v0 from rfl, show ((some v1 : Option Nat).getD 0) = v1 from rfl, decide_eq_false g.2.2.1]
            refine ⟨rfl, rfl, ⟨by rw [sf_ne (by omega), sf_ne (by omega), sf_ne (by omega)]; exact d1, by rw [sf_ne (by omega), sf_ne (by omega), sf_ne (by omega)]; exact d2, by rw [sf_row, upd_self]; rfl⟩, fun a c ha hc => by rw [sf_ne (by omega), sf_ne (by omega), sf_ne (by omega)]; exact d4 a c ha hc, fun q hq => ?_, fun q hq => ?_⟩
            · rw [sf_ne (i := 188) (by omega), sf_ne (i := 190) (j := 189) (by omega), sf_ne (i := 194) (j := 189) (by omega), sf_ne (i := 188) (by omega), sf_ne (i := 190) (j := 192) (by omega), sf_ne (i := 194) (j := 192) (by omega), sf_ne (i := 188) (by omega), sf_ne (i := 190) (j := 193) (by omega), sf_ne (i := 194) (j := 193) (by omega)]; exact d5 q hq
            · have hq : q < Dr.nw d + 1 := hq
              rw [sf_ne (i := 188) (by omega), sf_ne (i := 190) (j := 194) (by omega), sf_row, sf_ne (i := 188) (by omega), sf_row]
              show _ = nI (upN (Dr.wa d) (Dr.nw d) v0 q) ∧ _ = nI (upN (Dr.go d) (Dr.nw d) v1 q)
              unfold upN
              by_cases eq : q = Dr.nw d
              · subst eq
                rw [if_pos rfl, if_pos rfl, upd_self, upd_self]
                exact ⟨rfl, rfl⟩
              · rw [if_neg eq, if_neg eq, upd_ne (by omega), upd_ne (by omega), sf_ne (by omega)]
                exact d6 q (by omega)
          · rw [if_neg g] at z; cases z
        · rw [it119n c4 y] at z; cases z
    · rw [if_neg C, tm_tl h (by omega)] at RI
      refine tm_fin RI MF.rf hj (fun _ => rfl) (fun d' q z => ?_)
      exfalso
      cases x : tr_rn len tx 2 0 (p + 1) (fun _ => 0) with
      | none => rw [it119n c4 x] at z; cases z
      | some w =>
        obtain ⟨g, q'⟩ := w
        rw [it119 c4 x, if_neg (fun y => C y.2.2.2)] at z
        cases z
  have m1 : ¬ tr_cv len tx p = 110 := fun z => c1 ((tr_cvE (c := 110) h.2.1 (by omega) (by omega)).mp z)
  have m2 : ¬ tr_cv len tx p = 114 := fun z => c2 ((tr_cvE (c := 114) h.2.1 (by omega) (by omega)).mp z)
  have m3 : ¬ tr_cv len tx p = 112 := fun z => c3 ((tr_cvE (c := 112) h.2.1 (by omega) (by omega)).mp z)
  have m4 : ¬ tr_cv len tx p = 119 := fun z => c4 ((tr_cvE (c := 119) h.2.1 (by omega) (by omega)).mp z)
  rw [if_neg m1, if_neg m3, if_neg m2, if_neg m4, sb] at RI
  rw [show sf (MSt σ (p + 1) false) 184 12 1 = MSt σ (p + 1) true from MSt_b (c := true), tm_tl h (by omega)] at RI
  exact tm_fin RI MF.rf hj (fun _ => rfl) (fun d' q z => by rw [it_o c1 c2 c3 c4] at z; cases z)
theorem TM_MF (h : TM σ len tx) (c : MF σ σ') : TM σ' len tx := ⟨by rw [c.at_ (by omega) (by omega) (by omega)]; exact h.1, h.2.1, fun i hi => by rw [c.row (by omega)]; exact h.2.2 i hi⟩
theorem tm_il : ∀ (k j p m : Nat) (σ : Sg) (b : Bool) (d : Dr), (b = true ↔ j = 0) → (b = true → d = d0r) → TM σ len tx → σ 184 11 = nI p → σ 184 12 = 0 → σ 184 13 = nI j → DM σ d → DV d → j ≤ p → p < 300 → len < p + k → k < m → ∃ rr, lp (fun st => f_X7_read_b1 st) m σ = some rr ∧ ∃ σ', MF σ σ' ∧ ((tr_rd len tx k b d p).2 = none → rr = .inr σ' ∧ DM σ' (tr_rd len tx k b d p).1) ∧ ∀ e, (tr_rd len tx k b d p).2 = some e → rr = .inl (nI e, σ')
  | 0, j, p, m + 1, σ, b, d, hj, hb, h, hp, hf, h13, hD, dv, hjp, hpl, hk, hm => by
    have h200 := h.2.1.1
    refine ⟨_, lp_end (r := .inr σ) ?_, σ, MF.rf, fun _ => ⟨rfl, hD⟩, fun e z => by unfold tr_rd at z; cases z⟩
    unfold f_X7_read_b1
    rw [h.1, hp, if_pos (nI_le (by omega) (by omega))]
  | k + 1, j, p, m + 1, σ, b, d, hj, hb, h, hp, hf, h13, hD, dv, hjp, hpl, hk, hm => by
    have h200 := h.2.1.1
    unfold tr_rd
    by_cases c : len ≤ p
    · rw [if_pos c]
      refine ⟨_, lp_end (r := .inr σ) ?_, σ, MF.rf, fun _ => ⟨rfl, hD⟩, (by intro e z; cases z)⟩
      unfold f_X7_read_b1
      rw [h.1, hp, if_pos (nI_le (by omega) (by omega))]
    · rw [if_neg c]
      obtain ⟨σ1, e1, F1, z0, z1⟩ := tm_ri h hp hf h13 (by omega) hpl hD dv hj hb
      have B : f_X7_read_b1 σ = if σ1 184 12 = 0 then some (.inl σ1) else some (.inr (.inl (nI p, σ1))) := by
        unfold f_X7_read_b1
        rw [h.1, hp, if_neg (nI_ge (show p < len by omega) (by omega)), e1, sb]
      cases u : tr_it len tx b d p with
      | none =>
        rw [z0 u, if_neg one0] at B
        refine ⟨_, lp_end (r := .inl (nI p, σ1)) B, σ1, F1, (by intro z; cases z), fun e z => ?_⟩
        cases z
        rfl
      | some w =>
        obtain ⟨d', q⟩ := w
        obtain ⟨r1, g3, g4, D1⟩ := z1 d' q u
        rw [r1, if_pos rfl] at B
        obtain ⟨V1, L1, L2⟩ := it_V dv u
        obtain ⟨rr, e2, σ', F2, w1, w2⟩ := tm_il k (j + 1) q m σ1 false d' ⟨(by intro z; cases z), fun z => absurd z (by omega)⟩ (by intro z; cases z) (TM_MF h F1) g3 r1 g4 D1 V1 (by omega) (by omega) (by omega) (by omega)
        exact ⟨rr, (lp_go B).trans e2, σ', F1.tr F2, w1, w2⟩
theorem tm_beg : ∃ σ', f_X7_begin σ = some σ' ∧ MF σ σ' ∧ DM σ' d0r ∧ σ' 184 11 = σ 184 11 ∧ σ' 184 12 = 0 ∧ σ' 184 13 = 0 := by
  obtain ⟨τ, hτ⟩ : ∃ τ, τ = sf (sf (sf (sf (sf σ 184 13 0) 184 12 0) 186 1 6) 187 1 0) 188 1 0 := ⟨_, rfl⟩
  have Mτ : MF σ τ := by
    rw [hτ]
    exact ((((MF.rf.sf (Or.inl ⟨rfl, Or.inr (Or.inr rfl)⟩)).sf (Or.inl ⟨rfl, Or.inr (Or.inl rfl)⟩)).sf (Or.inr (Or.inl ⟨Or.inl rfl, rfl⟩))).sf (Or.inr (Or.inl ⟨Or.inr (Or.inl rfl), rfl⟩))).sf (Or.inr (Or.inl ⟨Or.inr (Or.inr rfl), rfl⟩))
  obtain ⟨r, e, i1, i2, i3⟩ := lp_inv (b := fun st => f_X7_begin_b1 st.1 st.2) (Post := fun σ' => MF τ σ' ∧ (∀ i, i ≠ 191 → σ' i = τ i) ∧ ∀ k, k < 64 → σ' 191 k = 0) (fun j s => s.1 = nI j ∧ MF τ s.2 ∧ (∀ i, i ≠ 191 → s.2 i = τ i) ∧ ∀ k, k < j → s.2 191 k = 0) 64 (by omega) (s0 := (0, τ)) ⟨rfl, MF.rf, fun _ _ => rfl, fun k hk => absurd hk (by omega)⟩ (fun j s hj q => by
    obtain ⟨x, s⟩ := s
    obtain ⟨q1, q2, q3, q4⟩ := q
    dsimp only at q1 q2 q3 q4
    subst q1
    refine ⟨(nI (j + 1), sf s 191 j 0), ?_, rfl, q2.sf (Or.inr (Or.inr (Or.inr (Or.inr ⟨by omega, by omega⟩)))), fun i hi => (sf_ne hi).trans (q3 i hi), fun k hk => ?_⟩
    · show f_X7_begin_b1 (nI j) s = _
      unfold f_X7_begin_b1
      rw [L_64, if_neg (nI_ge hj (by omega)), l191, sa_n hj (by omega), sb, nI_1]
    · dsimp only
      rw [sf_row]
      by_cases c : k = j
      · subst c; exact upd_self
      · rw [upd_ne c]; exact q4 k (by omega)) (fun s q => by
    obtain ⟨x, s⟩ := s
    obtain ⟨q1, q2, q3, q4⟩ := q
    dsimp only at q1 q2 q3 q4
    subst q1
    refine ⟨s, ?_, q2, q3, q4⟩
    show f_X7_begin_b1 (nI 64) s = _
    unfold f_X7_begin_b1
    rw [L_64, if_pos (nI_le (by omega) (by omega))])
  refine ⟨r, ?_, Mτ.tr i1, ⟨⟨?_, ?_, ?_⟩, fun a c ha hc => i3 _ (by omega), fun q hq => absurd hq (Nat.not_lt_zero q), fun q hq => absurd hq (Nat.not_lt_zero q)⟩, ?_, ?_, ?_⟩
  · unfold f_X7_begin
    rw [sb, sb, s186, sb, s187, sb, s188, sb, ← hτ, e, sb]
    rfl
  · rw [i2 186 (by omega), hτ, sf_ne (by omega), sf_ne (by omega), sf_row, upd_self]; rfl
  · rw [i2 187 (by omega), hτ, sf_ne (by omega), sf_row, upd_self]; rfl
  · rw [i2 188 (by omega), hτ, sf_row, upd_self]; rfl
  · rw [i2 184 (by omega), hτ, sf_ne (by omega), sf_ne (by omega), sf_ne (by omega), sf_row, upd_ne (by omega), sf_row, upd_ne (by omega)]
  · rw [i2 184 (by omega), hτ, sf_ne (by omega), sf_ne (by omega), sf_ne (by omega), sf_row, upd_self]
  · rw [i2 184 (by omega), hτ, sf_ne (by omega), sf_ne (by omega), sf_ne (by omega), sf_row, upd_ne (by omega), sf_row, upd_self]
theorem tm_read (h : TM σ len tx) : ∃ σ', f_X7_read σ = some (oI (tr_R len tx).2, σ') ∧ MF σ σ' ∧ ((tr_R len tx).2 = none → DM σ' (tr_R len tx).1) := by
  have h200 := h.2.1.1
  have F0 : MF σ (sf σ 184 11 0) := MF.rf.sf (Or.inl ⟨rfl, Or.inl rfl⟩)
  obtain ⟨σ1, e1, F1, D1, g11, g12, g13⟩ := @tm_beg (sf σ 184 11 0)
  obtain ⟨rr, e4, σ', F4, w1, w2⟩ := tm_il 201 0 0 FU σ1 true d0r ⟨fun _ => rfl, fun _ => rfl⟩ (fun _ => rfl) (TM_MF h (F0.tr F1)) (g11.trans (by rw [sf_row, upd_self]; rfl)) g12 g13 D1 (DV_0 (n := 6) (by omega) (by omega)) (Nat.le_refl 0) (by omega) (by omega) (by unfold FU; omega)
  have E : f_X7_read σ = (some rr).bind fun rr => Sum.elim (fun q => f_X7_read_k1 q.1 q.2) (fun q => f_X7_read_k2 q) rr := by
    unfold f_X7_read
    rw [sb, e1, sb, e4]
  have Y4 := (F0.tr F1).tr F4
  cases u : (tr_R len tx).2 with
  | none =>
    obtain ⟨rfl, D4⟩ := w1 u
    exact ⟨σ', E, Y4, fun _ => D4⟩
  | some e =>
    have z := w2 e u
    subst z
    exact ⟨σ', E, Y4, (by intro z; cases z)⟩
end MW
