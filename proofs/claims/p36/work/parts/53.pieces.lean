/-! Part 53: what is done and undone again; the pieces of the law's body. (Printed by wip/p36/mk53.py.) -/
/-- what is held behind an undo -/
def Ut (T : Tp) : Tp := (T.1, (T.2.1.2.2 0, T.2.1.2.1 - 1, fun i => T.2.1.2.2 (i + 1)), T.2.2)
def Un : Nat → Tp → Tp
  | 0, T => T
  | d + 1, T => Un d (Ut T)
/-- d undos ahead of what was held -/
def Ch (T0 : Tp) (d : Nat) (T : Tp) : Prop := Un d T = T0 ∧ T.2.1.2.1 = T0.2.1.2.1 + d
theorem Ch_0 {T0 : Tp} : Ch T0 0 T0 := ⟨rfl, rfl⟩
theorem Ut_a {T : Tp} {A' : Sn} (h8 : T.2.1.2.1 < 8) : Ut (aT A' T) = T := by
  obtain ⟨q, ⟨A, m, S⟩, r⟩ := T
  have h8 : m < 8 := h8
  show (q, (A, (if m < 8 then m + 1 else m) - 1, S), r) = _
  rw [if_pos h8]
  rfl
theorem Ch_a {T0 T : Tp} {d : Nat} {A' : Sn} (h : Ch T0 d T) (h8 : T.2.1.2.1 < 8) : Ch T0 (d + 1) (aT A' T) := by
  refine ⟨?_, ?_⟩
  · show Un d (Ut (aT A' T)) = T0
    rw [Ut_a h8]; exact h.1
  · show (if T.2.1.2.1 < 8 then T.2.1.2.1 + 1 else T.2.1.2.1) = _
    rw [if_pos h8, h.2]; rfl
theorem act_step {g : Int32 → Prop} {N d : Nat} {T0 T : Tp} {f : Sg → Option (Int32 × Sg)} {σ : Sg} (ha : Act g N T f) (c : CC σ T) (h : Ch T0 d T) (h8 : T.2.1.2.1 < 8) : ∃ r σ' T', f σ = some (r, σ') ∧ CC σ' T' ∧ OT (N + 1) T' ∧ ((g r ∧ Ch T0 (d + 1) T') ∨ (¬ g r ∧ Ch T0 d T')) := by
  obtain ⟨r, o, ho, hO, H⟩ := ha
  obtain ⟨σ', e, c'⟩ := H σ c
  refine ⟨r, σ', oT o T, e, c', hO, ?_⟩
  rcases ho with ⟨hg, rfl⟩ | ⟨hg, ho⟩
  · exact Or.inr ⟨hg, h⟩
  · obtain ⟨A', rfl⟩ := Option.ne_none_iff_exists'.mp ho
    exact Or.inl ⟨hg, Ch_a h h8⟩
theorem undo_T {N d : Nat} {T0 T : Tp} {σ : Sg} (hO : OT N T) (c : CC σ T) (h : Ch T0 (d + 1) T) : ∃ σ', f_X6_undo σ = some (nI (T0.2.1.2.1 + d), σ') ∧ CC σ' (Ut T) ∧ OT N (Ut T) ∧ Ch T0 d (Ut T) := by
  obtain ⟨h1, h2⟩ := h
  obtain ⟨⟨n, np, nw, ki, go⟩, ⟨A, m, S⟩, ⟨k, K⟩, ⟨tl, tf⟩, ⟨sl, sg⟩, len⟩ := T
  have h2 : m = T0.2.1.2.1 + d + 1 := h2
  subst h2
  obtain ⟨σ', e, c'⟩ := undo_1 hO c
  exact ⟨σ', e, c', undo_O hO, h1, rfl⟩
theorem CC_m8 {N : Nat} {T : Tp} (h : OT N T) : T.2.1.2.1 ≤ 8 := h.2.2.2.2.1.1
/-- what holds along the law's loop -/
def LC (p : Program) (s : State) (m : MethodId) (args : Array Value) (c : Code) (b L : Nat) (xs : Nat → Int32) (D : va_G) (w1 w2 : Wv) (A : Nat → Prop) : Prop := p.tables.exec = Jvm.exec ∧ c.code = code ∧ c.maxLocals = 10 ∧ s.vm.findClass "SignpostYardLaw" = some m.cls ∧ (∀ x ∈ TB, x.before args s = true) ∧ (va_X b L xs s s.heap ∧ b < s.heap.size ∧ ¬ A b) ∧ (KN D w1 s ∧ w2.2 = w1.2) ∧ (Inj w1 ∧ Inj w2 ∧ Ap w1 w2) ∧ (∀ q, AL w1 q → A q) ∧ ∀ q, AL w2 q → A q
section LW
variable {p : Program} {l : Launch} {e : Env} {s : State} {m : MethodId} {args : Array Value} {below : List Frame} {meth : Method} {c : Code} {b L : Nat} {xs : Nat → Int32} {D : va_G} {w1 w2 : Wv} {A : Nat → Prop} {σ1 σ2 : Sg} {H : Heap} {locs : List Loc} {ls : Array Slot} {N k n0 d : Nat} {T0 T : Tp} {x z : Int32} {Q : State → Prop}
set_option maxHeartbeats 4000000 in
theorem seg_pass (C : LC p s m args c b L xs D w1 w2 A) (hO : OT N T) (hN : N < 512) (cc2 : CC σ2 T) (hC : Ch T0 0 T) (h8 : T.2.1.2.1 < 8) (hP1 : va_P D vwCl (WL w1 σ1) H) (hP2 : va_P D vwCl (WL w2 σ2) H) (hS : va_S A s.heap H locs) (hl : lv_has ls 10 [(7, .int x), (6, .int (nI n0)), (5, .int z), (3, .int 1), (4, .int (nI k)), (0, .ref b), (1, .ref (w1.1 0)), (2, .ref (w2.1 0))])
    (kk : ∀ (d' : Nat) (T' : Tp) (σ' : Sg) (H : Heap) (locs : List Loc) (ls : Array Slot), d' ≤ 1 → Ch T0 d' T' → OT (N + 1) T' → CC σ' T' → va_P D vwCl (WL w1 σ1) H → va_P D vwCl (WL w2 σ') H → va_S A s.heap H locs → lv_has ls 10 [(8, .int (nI d')), (7, .int x), (6, .int (nI n0)), (5, .int z), (3, .int 1), (4, .int (nI k)), (0, .ref b), (1, .ref (w1.1 0)), (2, .ref (w2.1 0))] → W p l e room_1 s m args below meth c H locs 600000 7302250 Q (F0 m 135 ls [])) : W p l e room_1 s m args below meth c H locs 600000 7302250 Q (F0 m 110 ls []) := by
  obtain ⟨hx, hb, hml, hown, hts, ⟨hX, hbl, hbA⟩, ⟨hK1, hw2⟩, ⟨hJ1, hJ2, hAp⟩, hA1, hA2⟩ := C
  have hK2 : KN D w2 s := KN_w hw2 hK1
  have hAq := hAp.sy
  refine lv_aload_n hx hb dL_law_110 rfl (lv_at hl 7 rfl) ?_
  refine lv_iconst (v := (1 : Int32)) hx hb dL_law_111 (by decide) ?_
  refine lv_iload hx hb dL_law_112 (lv_at hl 2 rfl) ?_
  refine lv_bipush (v := (8 : Int32)) hx hb dL_law_114 (by decide) ?_
  refine lv_ishr hx hb dL_law_116 ?_
  refine lv_iconst (v := (3 : Int32)) hx hb dL_law_117 (by decide) ?_
  obtain ⟨v_118, e_118⟩ : ∃ v, f_L_low σ2 (z >>> ((8 : Int32) &&& 31)) (3 : Int32) = some v := ⟨_, low_ok (by decide)⟩
  refine b_cSi (w := w2) (As := [.int (z >>> ((8 : Int32) &&& 31)), .int (3 : Int32)]) hx hb hts hml hown hK2 hP2 hS hA2 (c_L_low l D w2 σ2 (z >>> ((8 : Int32) &&& 31)) (3 : Int32) v_118 e_118) hw_L_80 hd_L_low ⟨rfl, rfl, rfl⟩ ⟨Nat.le_of_ble_eq_true rfl, Nat.le_of_ble_eq_true rfl⟩ ⟨Nat.le_refl _, Nat.le_refl _⟩ hl.1 rfl (Nat.le_of_ble_eq_true rfl) dL_law_118 hP1 hAq (fun H locs hP2 hP1 hS => ?_)
  refine lv_iadd hx hb dL_law_121 ?_
  obtain ⟨r, σ', T', er, c', hO', hg⟩ := act_step (d_pass hO hN _) cc2 hC h8
  refine b_cVi (w := w2) (As := [.int ((1 : Int32) + v_118)]) hx hb hts hml hown hK2 hP2 hS hA2 (c_X6_pass l D w2 σ2 ((1 : Int32) + v_118) r σ' hJ2 er) hw_L_29 hd_X6_pass ⟨rfl, rfl, rfl⟩ o0 (ce6 kd0) rfl ⟨Nat.le_of_ble_eq_true rfl, Nat.le_of_ble_eq_true rfl⟩ ⟨Nat.le_refl _, Nat.le_refl _⟩ hl.1 rfl (Nat.le_of_ble_eq_true rfl) dL_law_122 hP1 hAq (fun H locs hP2 hP1 hS => ?_)
  refine lv_if_le (tgt := 132) hx hb dL_law_125 (by decide) (fun hc => ?_) (fun hc => ?_)
  · obtain ⟨g0, -⟩ | ⟨-, hC'⟩ := hg
    · exact absurd hc (Int32.not_le.mpr g0)
    refine lv_iconst (v := (0 : Int32)) hx hb dL_law_132 (by decide) ?_
    refine lv_istore (lv' := [(8, .int (0 : Int32)), (7, .int x), (6, .int (nI n0)), (5, .int z), (3, .int 1), (4, .int (nI k)), (0, .ref b), (1, .ref (w1.1 0)), (2, .ref (w2.1 0))]) hx hb dL_law_133 hl (by decide) rfl (fun ls hl => ?_)
    exact kk 0 T' σ' H locs ls (by omega) hC' hO' c' hP1 hP2 hS hl
  · obtain ⟨-, hC'⟩ | ⟨g0, -⟩ := hg
    · refine lv_iconst (v := (1 : Int32)) hx hb dL_law_128 (by decide) ?_
      refine lv_goto (tgt := 133) hx hb dL_law_129 (by decide) ?_
      refine lv_istore (lv' := [(8, .int (1 : Int32)), (7, .int x), (6, .int (nI n0)), (5, .int z), (3, .int 1), (4, .int (nI k)), (0, .ref b), (1, .ref (w1.1 0)), (2, .ref (w2.1 0))]) hx hb dL_law_133 hl (by decide) rfl (fun ls hl => ?_)
      exact kk 1 T' σ' H locs ls (by omega) hC' hO' c' hP1 hP2 hS hl
    · exact absurd (Int32.not_lt.mp g0) hc
set_option maxHeartbeats 4000000 in
theorem seg_year (C : LC p s m args c b L xs D w1 w2 A) (hO : OT N T) (hN : N < 512) (cc2 : CC σ2 T) (hC : Ch T0 d T) (h8 : T.2.1.2.1 < 8) (hP1 : va_P D vwCl (WL w1 σ1) H) (hP2 : va_P D vwCl (WL w2 σ2) H) (hS : va_S A s.heap H locs) (hl : lv_has ls 10 [(8, .int (nI d)), (7, .int x), (6, .int (nI n0)), (5, .int z), (3, .int 1), (4, .int (nI k)), (0, .ref b), (1, .ref (w1.1 0)), (2, .ref (w2.1 0))])
    (kk : ∀ (d' : Nat) (T' : Tp) (σ' : Sg) (H : Heap) (locs : List Loc) (ls : Array Slot), d' ≤ d + 1 → Ch T0 d' T' → OT (N + 1) T' → CC σ' T' → va_P D vwCl (WL w1 σ1) H → va_P D vwCl (WL w2 σ') H → va_S A s.heap H locs → lv_has ls 10 [(8, .int (nI d')), (7, .int x), (6, .int (nI n0)), (5, .int z), (3, .int 1), (4, .int (nI k)), (0, .ref b), (1, .ref (w1.1 0)), (2, .ref (w2.1 0))] → W p l e room_1 s m args below meth c H locs 600000 7302250 Q (F0 m 152 ls [])) : W p l e room_1 s m args below meth c H locs 600000 7302250 Q (F0 m 135 ls []) := by
  obtain ⟨hx, hb, hml, hown, hts, ⟨hX, hbl, hbA⟩, ⟨hK1, hw2⟩, ⟨hJ1, hJ2, hAp⟩, hA1, hA2⟩ := C
  have hK2 : KN D w2 s := KN_w hw2 hK1
  have hAq := hAp.sy
  refine lv_iload hx hb dL_law_135 (lv_at hl 0 rfl) ?_
  refine lv_aload_n hx hb dL_law_137 rfl (lv_at hl 8 rfl) ?_
  obtain ⟨r, σ', T', er, c', hO', hg⟩ := act_step (d_year hO hN) cc2 hC h8
  refine b_cVi (w := w2) (As := []) hx hb hts hml hown hK2 hP2 hS hA2 (c_X6_year l D w2 σ2  r σ' hJ2 er) hw_L_85 hd_X6_year ⟨rfl, rfl, rfl⟩ o0 (ce6 kd0) rfl ⟨Nat.le_of_ble_eq_true rfl, Nat.le_of_ble_eq_true rfl⟩ ⟨Nat.le_refl _, Nat.le_refl _⟩ hl.1 rfl (Nat.le_of_ble_eq_true rfl) dL_law_138 hP1 hAq (fun H locs hP2 hP1 hS => ?_)
  refine lv_if_ge (tgt := 148) hx hb dL_law_141 (by decide) (fun hc => ?_) (fun hc => ?_)
  · obtain ⟨-, hC'⟩ | ⟨g0, -⟩ := hg
    · refine lv_iconst (v := (1 : Int32)) hx hb dL_law_148 (by decide) ?_
      refine lv_iadd hx hb dL_law_149 ?_
      refine lv_istore (lv' := [(8, .int (nI (d + 1))), (7, .int x), (6, .int (nI n0)), (5, .int z), (3, .int 1), (4, .int (nI k)), (0, .ref b), (1, .ref (w1.1 0)), (2, .ref (w2.1 0))]) hx hb dL_law_150 hl (by decide) (by rw [nI_1]; rfl) (fun ls hl => ?_)
      exact kk (d + 1) T' σ' H locs ls (by omega) hC' hO' c' hP1 hP2 hS hl
    · exact absurd (Int32.not_lt.mpr hc) g0
  · obtain ⟨g0, -⟩ | ⟨-, hC'⟩ := hg
    · exact absurd (Int32.not_lt.mp g0) hc
    · refine lv_iconst (v := (0 : Int32)) hx hb dL_law_144 (by decide) ?_
      refine lv_goto (tgt := 149) hx hb dL_law_145 (by decide) ?_
      refine lv_iadd hx hb dL_law_149 ?_
      refine lv_istore (lv' := [(8, .int (nI d)), (7, .int x), (6, .int (nI n0)), (5, .int z), (3, .int 1), (4, .int (nI k)), (0, .ref b), (1, .ref (w1.1 0)), (2, .ref (w2.1 0))]) hx hb dL_law_150 hl (by decide) (by rw [L_0, nI_add]; rfl) (fun ls hl => ?_)
      exact kk d T' σ' H locs ls (by omega) hC' hO' c' hP1 hP2 hS hl
set_option maxHeartbeats 4000000 in
theorem seg_lays (C : LC p s m args c b L xs D w1 w2 A) (hO : OT N T) (hN : N < 512) (cc2 : CC σ2 T) (hC : Ch T0 d T) (h8 : T.2.1.2.1 < 8) (hP1 : va_P D vwCl (WL w1 σ1) H) (hP2 : va_P D vwCl (WL w2 σ2) H) (hS : va_S A s.heap H locs) (hl : lv_has ls 10 [(8, .int (nI d)), (7, .int x), (6, .int (nI n0)), (5, .int z), (3, .int 1), (4, .int (nI k)), (0, .ref b), (1, .ref (w1.1 0)), (2, .ref (w2.1 0))])
    (kk : ∀ (d' : Nat) (T' : Tp) (σ' : Sg) (H : Heap) (locs : List Loc) (ls : Array Slot), d' ≤ d + 1 → Ch T0 d' T' → OT (N + 1) T' → CC σ' T' → va_P D vwCl (WL w1 σ1) H → va_P D vwCl (WL w2 σ') H → va_S A s.heap H locs → lv_has ls 10 [(8, .int (nI d')), (7, .int x), (6, .int (nI n0)), (5, .int z), (3, .int 1), (4, .int (nI k)), (0, .ref b), (1, .ref (w1.1 0)), (2, .ref (w2.1 0))] → W p l e room_1 s m args below meth c H locs 600000 7302250 Q (F0 m 188 ls [])) : W p l e room_1 s m args below meth c H locs 600000 7302250 Q (F0 m 152 ls []) := by
  obtain ⟨hx, hb, hml, hown, hts, ⟨hX, hbl, hbA⟩, ⟨hK1, hw2⟩, ⟨hJ1, hJ2, hAp⟩, hA1, hA2⟩ := C
  have hK2 : KN D w2 s := KN_w hw2 hK1
  have hAq := hAp.sy
  refine lv_iload hx hb dL_law_152 (lv_at hl 0 rfl) ?_
  refine lv_aload_n hx hb dL_law_154 rfl (lv_at hl 8 rfl) ?_
  refine lv_iload hx hb dL_law_155 (lv_at hl 1 rfl) ?_
  refine lv_iload hx hb dL_law_157 (lv_at hl 1 rfl) ?_
  refine lv_iconst (v := (1 : Int32)) hx hb dL_law_159 (by decide) ?_
  refine lv_iadd hx hb dL_law_160 ?_
  refine lv_bipush (v := (6 : Int32)) hx hb dL_law_161 (by decide) ?_
  refine q_iremL hx hb (by decide) dL_law_163 ?_
  refine lv_iload hx hb dL_law_164 (lv_at hl 3 rfl) ?_
  refine lv_bipush (v := (11 : Int32)) hx hb dL_law_166 (by decide) ?_
  refine lv_ishr hx hb dL_law_168 ?_
  refine lv_bipush (v := (10 : Int32)) hx hb dL_law_169 (by decide) ?_
  obtain ⟨v_171, e_171⟩ : ∃ v, f_L_low σ2 (z >>> ((11 : Int32) &&& 31)) (10 : Int32) = some v := ⟨_, low_ok (by decide)⟩
  refine b_cSi (w := w2) (As := [.int (z >>> ((11 : Int32) &&& 31)), .int (10 : Int32)]) hx hb hts hml hown hK2 hP2 hS hA2 (c_L_low l D w2 σ2 (z >>> ((11 : Int32) &&& 31)) (10 : Int32) v_171 e_171) hw_L_80 hd_L_low ⟨rfl, rfl, rfl⟩ ⟨Nat.le_of_ble_eq_true rfl, Nat.le_of_ble_eq_true rfl⟩ ⟨Nat.le_refl _, Nat.le_refl _⟩ hl.1 rfl (Nat.le_of_ble_eq_true rfl) dL_law_171 hP1 hAq (fun H locs hP2 hP1 hS => ?_)
  obtain ⟨r, σ', T', er, c', hO', hg⟩ := act_step (d_lays hO hN _ _ _) cc2 hC h8
  refine b_cVi (w := w2) (As := [.int x, .int (jrem (x + (1 : Int32)) (6 : Int32)), .int v_171]) hx hb hts hml hown hK2 hP2 hS hA2 (c_X6_lays l D w2 σ2 x (jrem (x + (1 : Int32)) (6 : Int32)) v_171 r σ' hJ2 er) hw_L_32 hd_X6_lays ⟨rfl, rfl, rfl⟩ o0 (ce6 kd0) rfl ⟨Nat.le_of_ble_eq_true rfl, Nat.le_of_ble_eq_true rfl⟩ ⟨Nat.le_refl _, Nat.le_refl _⟩ hl.1 rfl (Nat.le_of_ble_eq_true rfl) dL_law_174 hP1 hAq (fun H locs hP2 hP1 hS => ?_)
  refine lv_if_ge (tgt := 184) hx hb dL_law_177 (by decide) (fun hc => ?_) (fun hc => ?_)
  · obtain ⟨-, hC'⟩ | ⟨g0, -⟩ := hg
    · refine lv_iconst (v := (1 : Int32)) hx hb dL_law_184 (by decide) ?_
      refine lv_iadd hx hb dL_law_185 ?_
      refine lv_istore (lv' := [(8, .int (nI (d + 1))), (7, .int x), (6, .int (nI n0)), (5, .int z), (3, .int 1), (4, .int (nI k)), (0, .ref b), (1, .ref (w1.1 0)), (2, .ref (w2.1 0))]) hx hb dL_law_186 hl (by decide) (by rw [nI_1]; rfl) (fun ls hl => ?_)
      exact kk (d + 1) T' σ' H locs ls (by omega) hC' hO' c' hP1 hP2 hS hl
    · exact absurd (Int32.not_lt.mpr hc) g0
  · obtain ⟨g0, -⟩ | ⟨-, hC'⟩ := hg
    · exact absurd (Int32.not_lt.mp g0) hc
    · refine lv_iconst (v := (0 : Int32)) hx hb dL_law_180 (by decide) ?_
      refine lv_goto (tgt := 185) hx hb dL_law_181 (by decide) ?_
      refine lv_iadd hx hb dL_law_185 ?_
      refine lv_istore (lv' := [(8, .int (nI d)), (7, .int x), (6, .int (nI n0)), (5, .int z), (3, .int 1), (4, .int (nI k)), (0, .ref b), (1, .ref (w1.1 0)), (2, .ref (w2.1 0))]) hx hb dL_law_186 hl (by decide) (by rw [L_0, nI_add]; rfl) (fun ls hl => ?_)
      exact kk d T' σ' H locs ls (by omega) hC' hO' c' hP1 hP2 hS hl
set_option maxHeartbeats 4000000 in
theorem seg_paint (C : LC p s m args c b L xs D w1 w2 A) (hO : OT N T) (hN : N < 512) (cc2 : CC σ2 T) (hC : Ch T0 d T) (h8 : T.2.1.2.1 < 8) (hP1 : va_P D vwCl (WL w1 σ1) H) (hP2 : va_P D vwCl (WL w2 σ2) H) (hS : va_S A s.heap H locs) (hl : lv_has ls 10 [(8, .int (nI d)), (7, .int x), (6, .int (nI n0)), (5, .int z), (3, .int 1), (4, .int (nI k)), (0, .ref b), (1, .ref (w1.1 0)), (2, .ref (w2.1 0))])
    (kk : ∀ (d' : Nat) (T' : Tp) (σ' : Sg) (H : Heap) (locs : List Loc) (ls : Array Slot), d' ≤ d + 1 → Ch T0 d' T' → OT (N + 1) T' → CC σ' T' → va_P D vwCl (WL w1 σ1) H → va_P D vwCl (WL w2 σ') H → va_S A s.heap H locs → lv_has ls 10 [(8, .int (nI d')), (7, .int x), (6, .int (nI n0)), (5, .int z), (3, .int 1), (4, .int (nI k)), (0, .ref b), (1, .ref (w1.1 0)), (2, .ref (w2.1 0))] → W p l e room_1 s m args below meth c H locs 600000 7302250 Q (F0 m 214 ls [])) : W p l e room_1 s m args below meth c H locs 600000 7302250 Q (F0 m 188 ls []) := by
  obtain ⟨hx, hb, hml, hown, hts, ⟨hX, hbl, hbA⟩, ⟨hK1, hw2⟩, ⟨hJ1, hJ2, hAp⟩, hA1, hA2⟩ := C
  have hK2 : KN D w2 s := KN_w hw2 hK1
  have hAq := hAp.sy
  refine lv_iload hx hb dL_law_188 (lv_at hl 0 rfl) ?_
  refine lv_aload_n hx hb dL_law_190 rfl (lv_at hl 8 rfl) ?_
  refine lv_iload hx hb dL_law_191 (lv_at hl 3 rfl) ?_
  refine lv_bipush (v := (15 : Int32)) hx hb dL_law_193 (by decide) ?_
  refine lv_ishr hx hb dL_law_195 ?_
  refine lv_iconst (v := (5 : Int32)) hx hb dL_law_196 (by decide) ?_
  obtain ⟨v_197, e_197⟩ : ∃ v, f_L_low σ2 (z >>> ((15 : Int32) &&& 31)) (5 : Int32) = some v := ⟨_, low_ok (by decide)⟩
  refine b_cSi (w := w2) (As := [.int (z >>> ((15 : Int32) &&& 31)), .int (5 : Int32)]) hx hb hts hml hown hK2 hP2 hS hA2 (c_L_low l D w2 σ2 (z >>> ((15 : Int32) &&& 31)) (5 : Int32) v_197 e_197) hw_L_80 hd_L_low ⟨rfl, rfl, rfl⟩ ⟨Nat.le_of_ble_eq_true rfl, Nat.le_of_ble_eq_true rfl⟩ ⟨Nat.le_refl _, Nat.le_refl _⟩ hl.1 rfl (Nat.le_of_ble_eq_true rfl) dL_law_197 hP1 hAq (fun H locs hP2 hP1 hS => ?_)
  obtain ⟨r, σ', T', er, c', hO', hg⟩ := act_step (d_paint hO hN _) cc2 hC h8
  refine b_cVi (w := w2) (As := [.int v_197]) hx hb hts hml hown hK2 hP2 hS hA2 (c_X6_paint l D w2 σ2 v_197 r σ' hJ2 er) hw_L_35 hd_X6_paint ⟨rfl, rfl, rfl⟩ o0 (ce6 kd0) rfl ⟨Nat.le_of_ble_eq_true rfl, Nat.le_of_ble_eq_true rfl⟩ ⟨Nat.le_refl _, Nat.le_refl _⟩ hl.1 rfl (Nat.le_of_ble_eq_true rfl) dL_law_200 hP1 hAq (fun H locs hP2 hP1 hS => ?_)
  refine lv_if_ge (tgt := 210) hx hb dL_law_203 (by decide) (fun hc => ?_) (fun hc => ?_)
  · obtain ⟨-, hC'⟩ | ⟨g0, -⟩ := hg
    · refine lv_iconst (v := (1 : Int32)) hx hb dL_law_210 (by decide) ?_
      refine lv_iadd hx hb dL_law_211 ?_
      refine lv_istore (lv' := [(8, .int (nI (d + 1))), (7, .int x), (6, .int (nI n0)), (5, .int z), (3, .int 1), (4, .int (nI k)), (0, .ref b), (1, .ref (w1.1 0)), (2, .ref (w2.1 0))]) hx hb dL_law_212 hl (by decide) (by rw [nI_1]; rfl) (fun ls hl => ?_)
      exact kk (d + 1) T' σ' H locs ls (by omega) hC' hO' c' hP1 hP2 hS hl
    · exact absurd (Int32.not_lt.mpr hc) g0
  · obtain ⟨g0, -⟩ | ⟨-, hC'⟩ := hg
    · exact absurd (Int32.not_lt.mp g0) hc
    · refine lv_iconst (v := (0 : Int32)) hx hb dL_law_206 (by decide) ?_
      refine lv_goto (tgt := 211) hx hb dL_law_207 (by decide) ?_
      refine lv_iadd hx hb dL_law_211 ?_
      refine lv_istore (lv' := [(8, .int (nI d)), (7, .int x), (6, .int (nI n0)), (5, .int z), (3, .int 1), (4, .int (nI k)), (0, .ref b), (1, .ref (w1.1 0)), (2, .ref (w2.1 0))]) hx hb dL_law_212 hl (by decide) (by rw [L_0, nI_add]; rfl) (fun ls hl => ?_)
      exact kk d T' σ' H locs ls (by omega) hC' hO' c' hP1 hP2 hS hl
set_option maxHeartbeats 4000000 in
theorem seg_move (C : LC p s m args c b L xs D w1 w2 A) (hO : OT N T) (hN : N < 512) (cc2 : CC σ2 T) (hC : Ch T0 d T) (h8 : T.2.1.2.1 < 8) (hP1 : va_P D vwCl (WL w1 σ1) H) (hP2 : va_P D vwCl (WL w2 σ2) H) (hS : va_S A s.heap H locs) (hl : lv_has ls 10 [(8, .int (nI d)), (7, .int x), (6, .int (nI n0)), (5, .int z), (3, .int 1), (4, .int (nI k)), (0, .ref b), (1, .ref (w1.1 0)), (2, .ref (w2.1 0))])
    (kk : ∀ (d' : Nat) (T' : Tp) (σ' : Sg) (H : Heap) (locs : List Loc) (ls : Array Slot), d' ≤ d + 1 → Ch T0 d' T' → OT (N + 1) T' → CC σ' T' → va_P D vwCl (WL w1 σ1) H → va_P D vwCl (WL w2 σ') H → va_S A s.heap H locs → lv_has ls 10 [(8, .int (nI d')), (7, .int x), (6, .int (nI n0)), (5, .int z), (3, .int 1), (4, .int (nI k)), (0, .ref b), (1, .ref (w1.1 0)), (2, .ref (w2.1 0))] → W p l e room_1 s m args below meth c H locs 600000 7302250 Q (F0 m 250 ls [])) : W p l e room_1 s m args below meth c H locs 600000 7302250 Q (F0 m 214 ls []) := by
  obtain ⟨hx, hb, hml, hown, hts, ⟨hX, hbl, hbA⟩, ⟨hK1, hw2⟩, ⟨hJ1, hJ2, hAp⟩, hA1, hA2⟩ := C
  have hK2 : KN D w2 s := KN_w hw2 hK1
  have hAq := hAp.sy
  refine lv_iload hx hb dL_law_214 (lv_at hl 0 rfl) ?_
  refine lv_aload_n hx hb dL_law_216 rfl (lv_at hl 8 rfl) ?_
  refine lv_iload hx hb dL_law_217 (lv_at hl 3 rfl) ?_
  refine lv_bipush (v := (15 : Int32)) hx hb dL_law_219 (by decide) ?_
  refine lv_ishr hx hb dL_law_221 ?_
  refine lv_iconst (v := (5 : Int32)) hx hb dL_law_222 (by decide) ?_
  obtain ⟨v_223, e_223⟩ : ∃ v, f_L_low σ2 (z >>> ((15 : Int32) &&& 31)) (5 : Int32) = some v := ⟨_, low_ok (by decide)⟩
  refine b_cSi (w := w2) (As := [.int (z >>> ((15 : Int32) &&& 31)), .int (5 : Int32)]) hx hb hts hml hown hK2 hP2 hS hA2 (c_L_low l D w2 σ2 (z >>> ((15 : Int32) &&& 31)) (5 : Int32) v_223 e_223) hw_L_80 hd_L_low ⟨rfl, rfl, rfl⟩ ⟨Nat.le_of_ble_eq_true rfl, Nat.le_of_ble_eq_true rfl⟩ ⟨Nat.le_refl _, Nat.le_refl _⟩ hl.1 rfl (Nat.le_of_ble_eq_true rfl) dL_law_223 hP1 hAq (fun H locs hP2 hP1 hS => ?_)
  refine lv_iload hx hb dL_law_226 (lv_at hl 3 rfl) ?_
  refine lv_bipush (v := (18 : Int32)) hx hb dL_law_228 (by decide) ?_
  refine lv_ishr hx hb dL_law_230 ?_
  refine lv_bipush (v := (6 : Int32)) hx hb dL_law_231 (by decide) ?_
  obtain ⟨v_233, e_233⟩ : ∃ v, f_L_low σ2 (z >>> ((18 : Int32) &&& 31)) (6 : Int32) = some v := ⟨_, low_ok (by decide)⟩
  refine b_cSi (w := w2) (As := [.int (z >>> ((18 : Int32) &&& 31)), .int (6 : Int32)]) hx hb hts hml hown hK2 hP2 hS hA2 (c_L_low l D w2 σ2 (z >>> ((18 : Int32) &&& 31)) (6 : Int32) v_233 e_233) hw_L_80 hd_L_low ⟨rfl, rfl, rfl⟩ ⟨Nat.le_of_ble_eq_true rfl, Nat.le_of_ble_eq_true rfl⟩ ⟨Nat.le_refl _, Nat.le_refl _⟩ hl.1 rfl (Nat.le_of_ble_eq_true rfl) dL_law_233 hP1 hAq (fun H locs hP2 hP1 hS => ?_)
  obtain ⟨r, σ', T', er, c', hO', hg⟩ := act_step (d_move hO hN _ _) cc2 hC h8
  refine b_cVi (w := w2) (As := [.int v_223, .int v_233]) hx hb hts hml hown hK2 hP2 hS hA2 (c_X6_move l D w2 σ2 v_223 v_233 r σ' hJ2 er) hw_L_38 hd_X6_move ⟨rfl, rfl, rfl⟩ o0 (ce6 kd0) rfl ⟨Nat.le_of_ble_eq_true rfl, Nat.le_of_ble_eq_true rfl⟩ ⟨Nat.le_refl _, Nat.le_refl _⟩ hl.1 rfl (Nat.le_of_ble_eq_true rfl) dL_law_236 hP1 hAq (fun H locs hP2 hP1 hS => ?_)
  refine lv_if_ge (tgt := 246) hx hb dL_law_239 (by decide) (fun hc => ?_) (fun hc => ?_)
  · obtain ⟨-, hC'⟩ | ⟨g0, -⟩ := hg
    · refine lv_iconst (v := (1 : Int32)) hx hb dL_law_246 (by decide) ?_
      refine lv_iadd hx hb dL_law_247 ?_
      refine lv_istore (lv' := [(8, .int (nI (d + 1))), (7, .int x), (6, .int (nI n0)), (5, .int z), (3, .int 1), (4, .int (nI k)), (0, .ref b), (1, .ref (w1.1 0)), (2, .ref (w2.1 0))]) hx hb dL_law_248 hl (by decide) (by rw [nI_1]; rfl) (fun ls hl => ?_)
      exact kk (d + 1) T' σ' H locs ls (by omega) hC' hO' c' hP1 hP2 hS hl
    · exact absurd (Int32.not_lt.mpr hc) g0
  · obtain ⟨g0, -⟩ | ⟨-, hC'⟩ := hg
    · exact absurd (Int32.not_lt.mp g0) hc
    · refine lv_iconst (v := (0 : Int32)) hx hb dL_law_242 (by decide) ?_
      refine lv_goto (tgt := 247) hx hb dL_law_243 (by decide) ?_
      refine lv_iadd hx hb dL_law_247 ?_
      refine lv_istore (lv' := [(8, .int (nI d)), (7, .int x), (6, .int (nI n0)), (5, .int z), (3, .int 1), (4, .int (nI k)), (0, .ref b), (1, .ref (w1.1 0)), (2, .ref (w2.1 0))]) hx hb dL_law_248 hl (by decide) (by rw [L_0, nI_add]; rfl) (fun ls hl => ?_)
      exact kk d T' σ' H locs ls (by omega) hC' hO' c' hP1 hP2 hS hl
theorem same_run (C : LC p s m args c b L xs D w1 w2 A) (hO : OT N T) (cc1 : CC σ1 T) (cc2 : CC σ2 T) (hP1 : va_P D vwCl (WL w1 σ1) H) (hP2 : va_P D vwCl (WL w2 σ2) H) (hS : va_S A s.heap H locs) {pc : Nat} (hsz : ls.size = 10) (hdg : decode code pc = .ok (.invokestatic 123, 3))
    (kk : ∀ (H : Heap) (locs : List Loc), va_P D vwCl (WL w1 σ1) H → va_P D vwCl (WL w2 σ2) H → va_S A s.heap H locs → W p l e room_1 s m args below meth c H locs 600000 7302250 Q (F0 m (pc + 3) ls [.int 1])) : W p l e room_1 s m args below meth c H locs 600000 7302250 Q (F0 m pc ls [.ref (w2.1 0), .ref (w1.1 0)]) := by
  obtain ⟨hx, hb, hml, hown, hts, ⟨hX, hbl, hbA⟩, ⟨hK1, hw2⟩, ⟨hJ1, hJ2, hAp⟩, hA1, hA2⟩ := C
  have hK2 : KN D w2 s := KN_w hw2 hK1
  have hAq := hAp.sy
  refine va_calli (va_runS (As := [.ref (w1.1 0), .ref (w2.1 0)]) (rest := []) ⟨hx, hb, hml, hown, hts⟩ (c_L_same l D w1 w2 σ1 σ2 hAp hw2 hO cc1 cc2) ⟨callB_of 2 hts (good_code hw_L_123.2.2.2) rfl rfl rfl (hts _ hw_L_123.2.2.1) (hts _ hw_L_123.1) hd_L_same ⟨Nat.le_of_ble_eq_true rfl, Nat.le_of_ble_eq_true rfl⟩, hts _ hw_L_123.2.1⟩ ⟨pcT_blind, pcT_pre hP1 hP2 hK1⟩ rfl rfl hsz rfl (lv_room (Nat.le_of_ble_eq_true rfl)) hdg ⟨Nat.le_refl _, Nat.le_refl _⟩) hS (fun q _ h => h.elim (hA1 q) (hA2 q)) (fun q h => h.elim (hA1 q) (hA2 q)) (fun r' u t H1 locs1 ht hvm hpost hB hz hk hS1 => ?_)
  have hpost : r' = 1 := hpost
  subst hpost
  have hB : va_P D vwCl (WL w1 σ1) t.heap ∧ va_P D vwCl (WL w2 σ2) t.heap := hB
  rw [ht] at hB
  exact kk H1 locs1 hB.1 hB.2 hS1
set_option maxHeartbeats 4000000 in
theorem seg_un (C : LC p s m args c b L xs D w1 w2 A) {M : Nat} (hO0 : OT M T0) (cc1 : CC σ1 T0) (hm0 : T0.2.1.2.1 = n0) (hn0 : n0 < 3) (hd5 : d ≤ 5) (hO : OT N T) (cc2 : CC σ2 T) (hC : Ch T0 d T) (hP1 : va_P D vwCl (WL w1 σ1) H) (hP2 : va_P D vwCl (WL w2 σ2) H) (hS : va_S A s.heap H locs) (hl : lv_has ls 10 [(8, .int (nI d)), (7, .int x), (6, .int (nI n0)), (5, .int z), (3, .int 1), (4, .int (nI k)), (0, .ref b), (1, .ref (w1.1 0)), (2, .ref (w2.1 0))])
    (kk : ∀ (H : Heap) (locs : List Loc) (ls : Array Slot) (σ' : Sg), CC σ' T0 → va_P D vwCl (WL w1 σ1) H → va_P D vwCl (WL w2 σ') H → va_S A s.heap H locs → lv_has ls 10 [(3, .int 1), (4, .int (nI k)), (0, .ref b), (1, .ref (w1.1 0)), (2, .ref (w2.1 0))] → W p l e room_1 s m args below meth c H locs 600000 7302250 Q (F0 m 327 ls [])) : W p l e room_1 s m args below meth c H locs 600000 7302250 Q (F0 m 250 ls []) := by
  have C0 := C
  obtain ⟨hx, hb, hml, hown, hts, ⟨hX, hbl, hbA⟩, ⟨hK1, hw2⟩, ⟨hJ1, hJ2, hAp⟩, hA1, hA2⟩ := C
  have hK2 : KN D w2 s := KN_w hw2 hK1
  have hAq := hAp.sy
  refine lv_aload_n hx hb dL_law_250 rfl (lv_at hl 8 rfl) ?_
  refine lv_bipush (v := (10 : Int32)) hx hb dL_law_251 (by decide) ?_
  have ec := cnt10 cc2
  rw [hC.2, hm0] at ec
  refine b_cVi (w := w2) (As := [.int (10 : Int32)]) hx hb hts hml hown hK2 hP2 hS hA2 (c_X6_count l D w2 σ2 10 (nI (n0 + d)) ec) hw_L_77 hd_X6_count ⟨rfl, rfl, rfl⟩ o0 (ce6 kd0) rfl ⟨Nat.le_of_ble_eq_true rfl, Nat.le_of_ble_eq_true rfl⟩ ⟨Nat.le_refl _, Nat.le_refl _⟩ hl.1 rfl (Nat.le_of_ble_eq_true rfl) dL_law_253 hP1 hAq (fun H locs hP2 hP1 hS => ?_)
  refine lv_iload hx hb dL_law_256 (lv_at hl 2 rfl) ?_
  refine lv_iload hx hb dL_law_258 (lv_at hl 0 rfl) ?_
  refine lv_iadd hx hb dL_law_260 ?_
  refine lv_icmp_ne (tgt := 268) hx hb dL_law_261 (by decide) (fun hc => absurd (show nI (n0 + d) = nI n0 + nI d from (nI_add n0 d).symm) hc) (fun _ => ?_)
  refine lv_iconst (v := (1 : Int32)) hx hb dL_law_264 (by decide) ?_
  refine lv_goto (tgt := 269) hx hb dL_law_265 (by decide) ?_
  refine lv_istore_n (lv' := [(3, .int (1 : Int32)), (8, .int (nI d)), (7, .int x), (6, .int (nI n0)), (5, .int z), (4, .int (nI k)), (0, .ref b), (1, .ref (w1.1 0)), (2, .ref (w2.1 0))]) hx hb dL_law_269 rfl hl (by decide) rfl (fun ls hl => ?_)
  refine lv_iload hx hb dL_law_270 (lv_at hl 1 rfl) ?_
  refine lv_iconst (v := (1 : Int32)) hx hb dL_law_272 (by decide) ?_
  refine lv_isub hx hb dL_law_273 ?_
  refine lv_istore (lv' := [(9, .int (dI d)), (3, .int 1), (8, .int (nI d)), (7, .int x), (6, .int (nI n0)), (5, .int z), (4, .int (nI k)), (0, .ref b), (1, .ref (w1.1 0)), (2, .ref (w2.1 0))]) hx hb dL_law_274 hl (by decide) (by rw [show nI d - (1 : Int32) = dI d from sub1 d]; rfl) (fun ls hl => ?_)
  have loop : ∀ (u : Nat) (T : Tp) (σ2 : Sg) (H : Heap) (locs : List Loc) (ls : Array Slot), u ≤ 5 → OT N T → CC σ2 T → Ch T0 u T → va_P D vwCl (WL w1 σ1) H → va_P D vwCl (WL w2 σ2) H → va_S A s.heap H locs → lv_has ls 10 [(9, .int (dI u)), (3, .int 1), (6, .int (nI n0)), (4, .int (nI k)), (0, .ref b), (1, .ref (w1.1 0)), (2, .ref (w2.1 0))] → W p l e room_1 s m args below meth c H locs 600000 7302250 Q (F0 m 276 ls []) := by
    intro u
    induction u with
    | zero =>
      intro T σ2 H locs ls hu hO cc2 hC hP1 hP2 hS hl
      have cc0 : CC σ2 T0 := by rw [← hC.1]; exact cc2
      refine lv_iload hx hb dL_law_276 (lv_at hl 0 rfl) ?_
      refine lv_if_lt (tgt := 309) hx hb dL_law_278 (by decide) (fun _ => ?_) (fun hc => absurd dI_neg hc)
      refine lv_iload_n hx hb dL_law_309 rfl (lv_at hl 1 rfl) ?_
      refine lv_if_eq (tgt := 325) hx hb dL_law_310 (by decide) (fun hc => absurd hc (show ¬ (1 : Int32) = 0 from one0)) (fun _ => ?_)
      refine lv_aload_n hx hb dL_law_313 rfl (lv_at hl 5 rfl) ?_
      refine lv_aload_n hx hb dL_law_314 rfl (lv_at hl 6 rfl) ?_
      refine same_run C0 hO0 cc1 cc0 hP1 hP2 hS hl.1 dL_law_315 (fun H locs hP1 hP2 hS => ?_)
      refine lv_if_eq (tgt := 325) hx hb dL_law_318 (by decide) (fun hc => absurd hc (show ¬ (1 : Int32) = 0 from one0)) (fun _ => ?_)
      refine lv_iconst (v := (1 : Int32)) hx hb dL_law_321 (by decide) ?_
      refine lv_goto (tgt := 326) hx hb dL_law_322 (by decide) ?_
      refine lv_istore_n (lv' := [(3, .int (1 : Int32)), (9, .int (dI 0)), (6, .int (nI n0)), (4, .int (nI k)), (0, .ref b), (1, .ref (w1.1 0)), (2, .ref (w2.1 0))]) hx hb dL_law_326 rfl hl (by decide) rfl (fun ls hl => ?_)
      exact kk H locs ls σ2 cc0 hP1 hP2 hS (lv_sub hl [0, 3, 4, 5, 6] rfl)
    | succ u ih =>
      intro T σ2 H locs ls hu hO cc2 hC hP1 hP2 hS hl
      obtain ⟨σ3, e3, cc3, hO3, hC3⟩ := undo_T hO cc2 hC
      rw [hm0] at e3
      have hl : lv_has ls 10 [(9, .int (nI u)), (3, .int 1), (6, .int (nI n0)), (4, .int (nI k)), (0, .ref b), (1, .ref (w1.1 0)), (2, .ref (w2.1 0))] := by rw [← dI_s u]; exact hl
      refine lv_iload hx hb dL_law_276 (lv_at hl 0 rfl) ?_
      refine lv_if_lt (tgt := 309) hx hb dL_law_278 (by decide) (fun hc => absurd hc (show ¬ nI u < 0 from nI_pos (by omega))) (fun _ => ?_)
      refine lv_iload_n hx hb dL_law_281 rfl (lv_at hl 1 rfl) ?_
      refine lv_if_eq (tgt := 309) hx hb dL_law_282 (by decide) (fun hc => absurd hc (show ¬ (1 : Int32) = 0 from one0)) (fun _ => ?_)
      refine lv_aload_n hx hb dL_law_285 rfl (lv_at hl 6 rfl) ?_
      refine b_cVi (w := w2) (As := []) hx hb hts hml hown hK2 hP2 hS hA2 (c_X6_undo l D w2 σ2 (nI (n0 + u)) σ3 hJ2 e3) hw_L_89 hd_X6_undo ⟨rfl, rfl, rfl⟩ o0 (ce6 kd0) rfl ⟨Nat.le_of_ble_eq_true rfl, Nat.le_of_ble_eq_true rfl⟩ ⟨Nat.le_refl _, Nat.le_refl _⟩ hl.1 rfl (Nat.le_of_ble_eq_true rfl) dL_law_286 hP1 hAq (fun H locs hP2 hP1 hS => ?_)
      refine lv_iload hx hb dL_law_289 (lv_at hl 2 rfl) ?_
      refine lv_iload hx hb dL_law_291 (lv_at hl 0 rfl) ?_
      refine lv_iadd hx hb dL_law_293 ?_
      refine lv_icmp_ne (tgt := 301) hx hb dL_law_294 (by decide) (fun hc => absurd (show nI (n0 + u) = nI n0 + nI u from (nI_add n0 u).symm) hc) (fun _ => ?_)
      refine lv_iconst (v := (1 : Int32)) hx hb dL_law_297 (by decide) ?_
      refine lv_goto (tgt := 302) hx hb dL_law_298 (by decide) ?_
      refine lv_istore_n (lv' := [(3, .int (1 : Int32)), (9, .int (nI u)), (6, .int (nI n0)), (4, .int (nI k)), (0, .ref b), (1, .ref (w1.1 0)), (2, .ref (w2.1 0))]) hx hb dL_law_302 rfl hl (by decide) rfl (fun ls hl => ?_)
      refine lv_iinc (v := dI u) (lv' := [(9, .int (dI u)), (3, .int (1 : Int32)), (6, .int (nI n0)), (4, .int (nI k)), (0, .ref b), (1, .ref (w1.1 0)), (2, .ref (w2.1 0))]) hx hb dL_law_303 hl (k := 1) rfl (by rw [ii_m1]; rfl) (by decide) rfl (fun ls hl => ?_)
      refine lv_goto (tgt := 276) hx hb dL_law_306 (by decide) ?_
      exact ih (Ut T) σ3 H locs ls (by omega) hO3 cc3 hC3 hP1 hP2 hS (lv_sub hl [0, 1, 2, 3, 4, 5, 6] rfl)
  exact loop d T σ2 H locs ls hd5 hO cc2 hC hP1 hP2 hS (lv_sub hl [0, 1, 4, 6, 7, 8, 9] rfl)
end LW
