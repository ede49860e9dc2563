/-! Part 54: the law, from its entry. (Printed by wip/whole/mk54.py; the first rows are the skeleton's.) -/
def R_law : String := "SignpostYardLaw"
def lw_P (b : Addr) (xs : List Int32) (args : Array Value) (s : State) : Prop := args = #[.ref b] ∧ s.IntsAt b xs ∧ xs.length ≤ 2048 ∧ (Jvm.Cond.and given_1 narrow_1).before args s = true
def lw_Q (_ : Array Value) (s : State) (o : Outcome) (t : State) : Prop := o = .returned (some (.int 1)) ∧ Framed s o t [] 600000 7302250
def lw_Z (below : List Frame) (a : Array Value) (s : State) : State → Prop := fun t => ∃ o, t.status = .running ∧ Ended t below o ∧ lw_Q a s o t
/-- the law's own end, with 1 on the stack, nothing written that was there before, its room as the claim has it -/
theorem lw_ret {p : Program} {l : Launch} {e : Env} {s : State} {m : MethodId} {below : List Frame} {meth : Method} {c : Code} {b : Nat} (hx : p.tables.exec = Jvm.exec) (hb : c.code = code) (hr : meth.sig.returnType = ret) (hlocks : meth.locks = false) {pc : Nat} {H : Heap} {ls : Array Slot} (hdg : decode code pc = .ok (.ireturn, 1)) : W p l e room_1 s m #[Value.ref b] below meth c H [] 600000 7302250 (lw_Z below #[Value.ref b] s) (F0 m pc ls [.int 1]) := by
  intro T hT X
  obtain ⟨fs, hret, hrun, hended, hW, hframe⟩ := X.leave (v := some (.int 1)) (hlocks := hlocks) (fun h => by rw [hr] at h; cases h)
  have hmeth' : T.vm.method? m = some meth := X.method'
  refine ⟨T.setFrames fs, ?_, .returned (some (.int 1)), hrun, hended, rfl, ⟨_, rfl⟩, hW, hframe⟩
  jvm_step X.here [X.here.top, hx, hb, hdg, hmeth', hr, ret, narrow_b1]
  (try refine ⟨rfl, ?_⟩); (try refine ⟨rfl, ?_⟩)
  first | (intro acts; rw [hret _ acts rfl rfl rfl]) | rw [hret _ _ rfl rfl rfl]
  exact Steps.refl _
/-- what holds at the law's entry: the machine, the code, the tables' words (any of lw_tbl by 'hts w (by decide +kernel)'), the script of L ints xs at the cell b, what the Statement gives of the start (any of its parts by flat_of_before) -/
def lw_At (p : Program) (s : State) (m : MethodId) (meth : Method) (c : Code) (b L : Nat) (xs : Nat → Int32) : Prop :=
  p.tables.exec = Jvm.exec ∧ c.code = code ∧ meth.sig.returnType = ret ∧ c.maxLocals = 4 ∧ s.vm.findClass R_law = some m.cls ∧ (∀ w ∈ lw_tbl, w.before #[Value.ref b] s = true) ∧ va_X b L xs s s.heap ∧ b < s.heap.size ∧ meth.locks = false ∧ (Jvm.Cond.and given_1 narrow_1).before #[Value.ref b] s = true
theorem va_T_cg {ty : FieldType} {t N : Nat} {f g : Nat → Value} {A : Nat → Prop} {U : State} {H : Heap} (h : va_T ty t N f A U H) (e : ∀ j, j < N → f j = g j) : va_T ty t N g A U H := by
  obtain ⟨cell, h1, h2, h3, h4, h5, h6, h7⟩ := h
  exact ⟨cell, h1, h2, h3, h4, h5, fun j hj => by rw [← e j hj]; exact h6 j hj, h7⟩
theorem va_swapP {D : va_G} {cl : List vw_C} {w1 w2 : va_W} {H : Heap} (h : va_P D cl (w1 ++ w2) H) : va_P D cl (w2 ++ w1) H := va_P.app (fun k q hq => h _ q (va_appR hq)) (fun k q hq => h k q (va_appL hq))
theorem va_swapD {A : Nat → Prop} {w1 w2 : va_W} (h : va_D A (w1 ++ w2)) : va_D A (w2 ++ w1) := va_D.app ⟨fun i j p q hi hj e => by have := h.1 _ _ p q (va_appR hi) (va_appR hj) e; omega, fun k q hq => h.2 _ q (va_appR hq)⟩ ⟨fun i j p q hi hj e => h.1 i j p q (va_appL hi) (va_appL hj) e, fun k q hq => h.2 k q (va_appL hq)⟩ (fun i j p q hi hj e => by
  have := h.1 _ _ p q (va_appR hi) (va_appL hj) e
  have := (List.getElem?_eq_some_iff.mp hj).1
  omega)
/-- what the Statement says of the text's letters -/
theorem ft_mem : ∀ j : Fin 112, (Cond.eq (.elem (Term.field (Term.string "SignpostYard" 48) "java/lang/String" "value" "[B") (.int (Int32.ofNat j.val))) (.int (([ftL.map nI].getD 0 []).getD j.val 0))) ∈ flatC (Jvm.Cond.and given_1 narrow_1) := by decide +kernel
theorem ft_val : ∀ j : Fin 112, ([ftL.map nI].getD 0 []).getD j.val 0 = nI (ftx j.val) := by decide +kernel
/-- the text's string at the start -/
theorem sf_start {s : State} {b : Nat} {A : Nat → Prop} (hts : ∀ w ∈ lw_tbl, w.before #[Value.ref b] s = true) (hgv : (Jvm.Cond.and given_1 narrow_1).before #[Value.ref b] s = true) (hA : ∀ a : Nat, a < s.heap.size → ¬ A a) : ∃ q v, SF q v A s s.heap ∧ vk_R RX6 48 ftS q s := by
  have hs := flat_of_before _ hgv
  have e1 : (Cond.exactly (Term.string "SignpostYard" 48) "java/lang/String").before #[Value.ref b] s = true := hs _ (by decide +kernel)
  have e2 : (Cond.eq (Term.field (Term.string "SignpostYard" 48) "java/lang/String" "coder" "B") (.int 0)).before #[Value.ref b] s = true := hs _ (by decide +kernel)
  have e3 : (Cond.arrayOf (Term.field (Term.string "SignpostYard" 48) "java/lang/String" "value" "[B") .byte).before #[Value.ref b] s = true := hs _ (by decide +kernel)
  have e4 : (Cond.eq (.length (Term.field (Term.string "SignpostYard" 48) "java/lang/String" "value" "[B")) (.int 112)).before #[Value.ref b] s = true := hs _ (by decide +kernel)
  have e5 : (Cond.eq (Term.static "java/lang/String" "COMPACT_STRINGS" "Z") (.int 1)).before #[Value.ref b] s = true := hs _ (by decide +kernel)
  have e6 : (Cond.isRef (Term.static "jdk/internal/util/Preconditions" "SIOOBE_FORMATTER" "Ljava/util/function/BiFunction;")).before #[Value.ref b] s = true := hs _ (by decide +kernel)
  have w1 : (Cond.laysStatic "java/lang/String" "COMPACT_STRINGS" "Z").before #[Value.ref b] s = true := hts _ (List.mem_of_getElem? (i := 219) (by decide +kernel))
  have w2 : (Cond.laysStatic "jdk/internal/util/Preconditions" "SIOOBE_FORMATTER" "Ljava/util/function/BiFunction;").before #[Value.ref b] s = true := hts _ (List.mem_of_getElem? (i := 235) (by decide +kernel))
  have w3 : (Cond.stringRef RX6 48 ftS).before #[Value.ref b] s = true := hts _ (List.mem_of_getElem? (i := 209) (by decide +kernel))
  have n0 : ∀ i : Nat, i < 1 → i = 0 := fun i hi => by omega
  obtain ⟨adK, adV, hVS, hev⟩ := vk_Sof (args := #[Value.ref b]) (s := s) (N := 1) (tm := fun _ => Term.string "SignpostYard" 48) (len := [112]) (byt := [ftL.map nI]) (A := A) (fun i hi => by rw [n0 i hi]; decide) (fun i hi => e1) (fun i hi => e2) (fun i hi => e3) (fun i hi => by rw [n0 i hi]; exact e4) (fun i hi j hj => by have e := n0 i hi; subst e; exact hs _ (ft_mem ⟨j, hj⟩)) (fun i j hi hj hij => absurd (show i = j by omega) hij) hA
  obtain ⟨v1, v2, v3, v4⟩ := hVS.1 0 (by omega)
  have v4 : va_T .byte (adV 0) 112 (fun j => .int (([ftL.map nI].getD 0 []).getD j 0)) A s s.heap := v4
  refine ⟨adK 0, adV 0, ⟨v1, v2, v3, va_T_cg v4 (fun j hj => by rw [ft_val ⟨j, hj⟩]), va_Zof w1 (hts _ (TB_in _ tx_62)) (va_eqt e5) hA, va_Zqof w2 (hts _ (TB_in _ tx_64)) e6 hA⟩, vk_R.of w3 (hev 0 (by omega))⟩
set_option maxHeartbeats 8000000 in
set_option maxRecDepth 100000 in
theorem law_loop {p : Program} {l : Launch} {e : Env} {s : State} {m : MethodId} {below : List Frame} {meth : Method} {c : Code} {b L : Nat} {xs : Nat → Int32} {D : va_G} {w : Wv} {A : Nat → Prop} (C : LC p s m #[Value.ref b] c b L xs D w A) (hr : meth.sig.returnType = ret) (hlocks : meth.locks = false) (hL : L ≤ 2048) (hAs : ∀ q, A q → s.heap.size ≤ q) : ∀ (k N : Nat), N + k = 512 → 4 * N ≤ L → ∀ (σ : Sg) (H : Heap) (locs : List Loc) (ls : Array Slot), Rel N σ → va_P D vwCl (WL w σ) H → va_S A s.heap H locs → lv_has ls 4 [(3, .int (nI (4 * N))), (0, .ref b), (1, .ref (w.1 0)), (2, .ref (w.1 184))] → W p l e room_1 s m #[Value.ref b] below meth c H locs 600000 7302250 (lw_Z below #[Value.ref b] s) (F0 m 18 ls []) := by
  have hx := C.1
  have hb := C.2.1
  obtain ⟨-, -, hml, hown, hts, hX, hbl, hbA, hK, hJ, hAA⟩ := C
  have C : LC p s m #[Value.ref b] c b L xs D w A := ⟨hx, hb, hml, hown, hts, hX, hbl, hbA, hK, hJ, hAA⟩
  have out : ∀ (N : Nat), 4 * N ≤ L → ¬ 4 * N + 4 ≤ L → ∀ (H : Heap) (locs : List Loc) (ls : Array Slot), va_S A s.heap H locs → lv_has ls 4 [(3, .int (nI (4 * N))), (0, .ref b), (1, .ref (w.1 0)), (2, .ref (w.1 184))] → W p l e room_1 s m #[Value.ref b] below meth c H locs 600000 7302250 (lw_Z below #[Value.ref b] s) (F0 m 18 ls []) := by
    intro N h1 h2 H locs ls hS hl
    have hc : nI L - 4 < nI (4 * N) := by
      by_cases g : 4 ≤ L
      · rw [L_4, nI_sub g]
        exact nI_lt (by omega) (by omega)
      · obtain rfl : N = 0 := by omega
        rcases (show L = 0 ∨ L = 1 ∨ L = 2 ∨ L = 3 by omega) with rfl | rfl | rfl | rfl <;> decide
    refine lv_iload_n hx hb dL_law_18 rfl (lv_at hl 0 rfl) ?_
    refine lv_aload_n hx hb dL_law_19 rfl (lv_at hl 1 rfl) ?_
    refine va_slen hx hb hX hbl hbA hS dL_law_20 ?_
    refine lv_iconst (v := (4 : Int32)) hx hb dL_law_21 (by decide) ?_
    refine lv_isub hx hb dL_law_22 ?_
    refine lv_icmp_gt (tgt := 1015) hx hb dL_law_23 (by decide) (fun _ => ?_) (fun hn => absurd hc hn)
    refine lv_iconst (v := (1 : Int32)) hx hb dL_law_1015 (by decide) ?_
    refine va_forget (fun q hq => hAs _ (hS.2.2 q hq)) ?_
    exact lw_ret hx hb hr hlocks dL_law_1016
  intro k
  induction k with
  | zero =>
    intro N hN hNL σ H locs ls hR hP hS hl
    exact out N hNL (by omega) H locs ls hS hl
  | succ k ih =>
    intro N hN hNL σ H locs ls hR hP hS hl
    by_cases g : 4 * N + 4 ≤ L
    · refine lv_iload_n hx hb dL_law_18 rfl (lv_at hl 0 rfl) ?_
      refine lv_aload_n hx hb dL_law_19 rfl (lv_at hl 1 rfl) ?_
      refine va_slen hx hb hX hbl hbA hS dL_law_20 ?_
      refine lv_iconst (v := (4 : Int32)) hx hb dL_law_21 (by decide) ?_
      refine lv_isub hx hb dL_law_22 ?_
      have hc : ¬ Int32.ofNat L - 4 < nI (4 * N) := by
        rw [ofN, L_4, nI_sub (by omega)]
        exact nI_nlt (by omega) (by omega)
      refine lv_icmp_gt (tgt := 1015) hx hb dL_law_23 (by decide) (fun h => absurd h hc) (fun _ => ?_)
      refine lv_aload_n hx hb dL_law_26 rfl (lv_at hl 1 rfl) ?_
      refine lv_iload_n hx hb dL_law_27 rfl (lv_at hl 0 rfl) ?_
      refine va_sld hx hb hX hbl hbA hS (vp_in_nI (by omega) (by omega)) dL_law_28 ?_
      refine lv_bipush (v := (63 : Int32)) hx hb dL_law_29 (by decide) ?_
      refine lv_iand hx hb dL_law_31 ?_
      refine law_sw C hR (by omega) g hL hP hS hl (fun σ' H locs hR hP hS => ?_)
      refine lv_iinc (v := nI (4 * (N + 1))) (lv' := [(3, .int (nI (4 * (N + 1)))), (0, .ref b), (1, .ref (w.1 0)), (2, .ref (w.1 184))]) hx hb dL_law_1009 hl (k := 0) rfl (by rw [ii_4, L_4, nI_add, show 4 * N + 4 = 4 * (N + 1) by omega]) (by decide) rfl (fun ls hl => ?_)
      refine lv_goto (tgt := 18) hx hb dL_law_1012 (by decide) ?_
      exact ih (N + 1) (by omega) (by omega) σ' H locs ls hR hP hS hl
    · exact out N hNL g H locs ls hS hl
set_option maxHeartbeats 8000000 in
set_option maxRecDepth 100000 in
/-- from the entry, for every script of at most 2048 ints, the law comes to its end with true -/
theorem whole_start {p : Program} {e : Env} {s : State} {m : MethodId} {below : List Frame} {meth : Method} {c : Code} (l : Launch) (hflags : l.flags = flags0) {b L : Nat} {xs : Nat → Int32} (hL : L ≤ 2048) (C0 : lw_At p s m meth c b L xs) : W p l e room_1 s m #[Value.ref b] below meth c s.heap [] 0 0 (lw_Z below #[Value.ref b] s) (entryFrame m ([Value.ref b] : List Value).toArray 4) := by
  obtain ⟨hx, hb, hr, hml, hown, hts0, hX, hbl, hlocks, hgv⟩ := C0
  have hown : s.vm.findClass "SignpostYardLaw" = some m.cls := hown
  have hts : ∀ x ∈ TB, x.before #[Value.ref b] s = true := fun x hx => hts0 x (TB_in x hx)
  obtain ⟨A, hAe⟩ : ∃ A : Nat → Prop, A = fun q => s.heap.size ≤ q := ⟨_, rfl⟩
  have hA : ∀ q : Nat, s.heap.size ≤ q → A q := fun q h => by rw [hAe]; exact h
  have hAs : ∀ q, A q → s.heap.size ≤ q := fun q h => by rw [hAe] at h; exact h
  have hbA : ¬ A b := fun h => by have := hAs b h; omega
  have hnA : ∀ a : Nat, a < s.heap.size → ¬ A a := fun a h g => by have := hAs a g; omega
  clear hAe
  obtain ⟨c0, iS0, hKn0⟩ := u_known (C := RX0) (T := TX0) (N := 2) (n := 2) hts inT0 (hts (.instantiable RX0 2) tx_84)
  obtain ⟨c1, iS1, hKn1⟩ := u_known (C := RX1) (T := TX1) (N := 4) (n := 4) hts inT1 (hts (.instantiable RX1 4) tx_78)
  obtain ⟨c2, iS2, hKn2⟩ := u_known (C := RX2) (T := TX2) (N := 2) (n := 2) hts inT2 (hts (.instantiable RX2 2) tx_195)
  obtain ⟨c3, iS3, hKn3⟩ := u_known (C := RX3) (T := TX3) (N := 3) (n := 3) hts inT3 (hts (.instantiable RX3 3) tx_123)
  obtain ⟨c4, iS4, hKn4⟩ := u_known (C := RX4) (T := TX4) (N := 3) (n := 3) hts inT4 (hts (.instantiable RX4 3) tx_174)
  obtain ⟨c5, iS5, hKn5⟩ := u_known (C := RX5) (T := TX5) (N := 10) (n := 10) hts inT5 (hts (.instantiable RX5 10) tx_117)
  obtain ⟨c6, iS6, hKn6⟩ := u_known (C := RX6) (T := TX6) (N := 7) (n := 7) hts inT6 (hts (.instantiable RX6 7) tx_70)
  obtain ⟨c7, iS7, hKn7⟩ := u_known (C := RX7) (T := TX7) (N := 33) (n := 33) hts inT7 (hts (.instantiable RX7 33) tx_821)
  obtain ⟨D, hKc⟩ : ∃ D : va_G, ∀ (k : Nat) (q : vw_C), vwCl[k]? = some q → u_Kn s q.1 q.2.1 q.2.2 (D.1 k) (D.2 k) := by
    refine ⟨(fun k => ([c0, c1, c2, c3, c4, c5, c6, c7][k]?).getD c0, fun k => ([iS0, iS1, iS2, iS3, iS4, iS5, iS6, iS7][k]?).getD iS0), ?_⟩
    intro k q hq
    match k, hq with
    | 0, hq => cases hq; exact hKn0
    | 1, hq => cases hq; exact hKn1
    | 2, hq => cases hq; exact hKn2
    | 3, hq => cases hq; exact hKn3
    | 4, hq => cases hq; exact hKn4
    | 5, hq => cases hq; exact hKn5
    | 6, hq => cases hq; exact hKn6
    | 7, hq => cases hq; exact hKn7
    | k + 8, hq =>
      have := (List.getElem?_eq_some_iff.mp hq).1
      have : k + 8 < 8 := this
      omega
  have hov : (Cond.arrayOver (.object "SignpostYard$Yard")).before #[Value.ref b] s = true := hts0 _ (List.mem_of_getElem? (i := 182) (by decide +kernel))
  obtain ⟨cB, kB, pB, b1, b2, b3⟩ := Cond.arrayClass_spec (hts _ tx_393)
  obtain ⟨cI, kI, pI, i1, i2, i3⟩ := Cond.arrayClass_spec (hts _ tx_102)
  obtain ⟨comp, cY, kY, y1, -, y3, y4, y5⟩ := Cond.arrayOver_spec hov
  obtain ⟨w0, hw0⟩ : ∃ w0 : Wv, w0 = (fun _ => 0, (cB, cI, cY)) := ⟨_, rfl⟩
  have hK : KN2 D w0 s := by
    subst hw0
    refine ⟨⟨⟨hKc, fun k q h => ?_⟩, va_Nw.of (by decide +kernel) (hts0 nst (List.mem_of_getElem? (i := 496) (by decide +kernel)))⟩, va_AO.of hov⟩
    match k, h with
    | 0, h => cases h; exact ⟨fun n z => ⟨fun k h => (by cases h), kB, b2, pB, b3⟩, b1⟩
    | 1, h => cases h; exact ⟨fun n z => ⟨fun k h => (by cases h), kI, i2, pI, i3⟩, i1⟩
    | 2, h => cases h; exact ⟨fun n z => ⟨fun k h => (by cases h), kY, y3, comp, y4⟩, kY, comp, y3, y4, y1, y5⟩
    | k + 3, h =>
      have := (List.getElem?_eq_some_iff.mp h).1
      have : k + 3 < 3 := this
      omega
  clear hw0
  obtain ⟨q, v, hSF, hZ⟩ := sf_start hts0 hgv hnA
  have hS : va_S A s.heap s.heap [] := va_S.rf
  have hP : va_P D vwCl [] s.heap := fun k q h => by simp at h
  have hD : va_D A [] := ⟨fun i j p q h => by simp at h, fun k q h => by simp at h⟩
  have hl := lv_entry ([.ref b] : List Value) (n := 4) (Nat.le_of_ble_eq_true rfl)
  rw [lg_entry_eq]
  generalize (lg_sl ([.ref b] : List Value) ++ List.replicate (4 - (lg_sl ([.ref b] : List Value)).length) Slot.unset).toArray = ls at hl ⊢
  have hl : lv_has ls 4 [(0, .ref b)] := hl
  refine va_new (ci := 6) (fs := [.null, .null, .null, .null, .null, .null, .null]) (C := RX6) (T := TX6) (N := 7) hx hb hts inT6 tyX6 tyX6_ok hown (hts _ tx_69) (hts _ tx_70) (hts _ tw_54) hK.1.1 hP hD hS hA rfl (fun j hj => by rcases (show j = 0 ∨ j = 1 ∨ j = 2 ∨ j = 3 ∨ j = 4 ∨ j = 5 ∨ j = 6 by omega) with rfl | rfl | rfl | rfl | rfl | rfl | rfl <;> rfl) (Nat.le_of_ble_eq_true rfl) (Nat.le_of_ble_eq_true rfl) dL_law_0 (fun x0 H hP hD hS => ?_)
  have hP : va_P D vwCl (x0L x0) H := hP
  have hD : va_D A (x0L x0) := hD
  refine lv_dup hx hb dL_law_3 rfl ?_
  have hF : ∀ q, va_A (x0L x0) H.size q → A q := fun q h => by
    rcases h with ⟨k, e, h⟩ | h
    · exact hD.2 k (q, e) h
    · exact hA q (Nat.le_trans hS.1 h)
  refine va_callv (va_runI (As := []) (rest := [.ref x0]) ⟨hx, hb, hml, hown, hts⟩ (c_X6_init l D w0 q v x0 H.size) (cwI 0 hts (good_code tx_73) rfl rfl rfl (hts _ tw_54) (hts _ tx_71) (hts _ tx_72) rfl ⟨by decide +kernel, by decide +kernel, by decide +kernel⟩ ⟨Nat.le_of_ble_eq_true rfl, Nat.le_of_ble_eq_true rfl⟩) ⟨pcX_blind, fun U hU hW => ⟨rfl, by rw [hU], by rw [hU]; exact hP, hK.moved hW, ⟨hD.1, fun _ _ _ => trivial⟩, by rw [hU]; exact ((hSF.kept hS.2.1).narrow hF).moved hW.alike, vk_R.warm hW hZ⟩⟩ rfl rfl hl.1 rfl (lv_room (Nat.le_of_ble_eq_true rfl)) dL_law_4 ⟨Nat.le_of_ble_eq_true rfl, Nat.le_of_ble_eq_true rfl⟩) hS (fun q _ h => hF q h) hF (fun u t H1 locs1 ht hvm hpost hB hz hk hS => ?_)
  obtain ⟨f, σ⟩ := u
  obtain ⟨hf0, hJ, hC⟩ := hpost
  obtain ⟨hP, hAl⟩ := hB
  rw [ht] at hP
  have hf0 : f 0 = x0 := hf0
  have hAf : ∀ i, i < 184 → A (f i) := fun i hi => hF _ (hAl i hi)
  have hD : va_D A (WLk (f, w0.2) σ) := (WLk_D hJ).weaken (fun k q _ h => by
    obtain ⟨i, hi, e⟩ := h
    rw [e]
    exact hAf i hi)
  refine lv_astore_n (lv' := [(1, .ref x0), (0, .ref b)]) hx hb dL_law_7 rfl hl (by decide) rfl (fun ls hl => ?_)
  refine va_new (ci := 7) (fs := [.null, .int 0, .null, .null, .null, .null, .null, .null, .null, .null, .null, .int 0, .int 0, .int 0, .null, .null, .int 0, .null, .int 0, .null, .null, .int 0, .int 0, .int 0, .null, .null, .null, .null, .int 0, .null, .null, .null, .int 0]) (C := RX7) (T := TX7) (N := 33) hx hb hts inT7 tyX7 tyX7_ok hown (hts _ tx_820) (hts _ tx_821) (hts _ tw_66) hK.1.1 hP hD hS hA rfl (fun j hj => by rcases (show j = 0 ∨ j = 1 ∨ j = 2 ∨ j = 3 ∨ j = 4 ∨ j = 5 ∨ j = 6 ∨ j = 7 ∨ j = 8 ∨ j = 9 ∨ j = 10 ∨ j = 11 ∨ j = 12 ∨ j = 13 ∨ j = 14 ∨ j = 15 ∨ j = 16 ∨ j = 17 ∨ j = 18 ∨ j = 19 ∨ j = 20 ∨ j = 21 ∨ j = 22 ∨ j = 23 ∨ j = 24 ∨ j = 25 ∨ j = 26 ∨ j = 27 ∨ j = 28 ∨ j = 29 ∨ j = 30 ∨ j = 31 ∨ j = 32 by omega) with rfl | rfl | rfl | rfl | rfl | rfl | rfl | rfl | rfl | rfl | rfl | rfl | rfl | rfl | rfl | rfl | rfl | rfl | rfl | rfl | rfl | rfl | rfl | rfl | rfl | rfl | rfl | rfl | rfl | rfl | rfl | rfl | rfl <;> rfl) (Nat.le_of_ble_eq_true rfl) (Nat.le_of_ble_eq_true rfl) dL_law_8 (fun m0 H hP hD hS => ?_)
  have hP : va_P D vwCl (m0L m0 ++ WLk (f, w0.2) σ) H := va_swapP hP
  have hD : va_D A (m0L m0 ++ WLk (f, w0.2) σ) := va_swapD hD
  refine lv_dup hx hb dL_law_11 rfl ?_
  have hF : ∀ q, va_A (m0L m0 ++ WLk (f, w0.2) σ) H.size q → A q := fun q h => by
    rcases h with ⟨k, e, h⟩ | h
    · exact hD.2 k (q, e) h
    · exact hA q (Nat.le_trans hS.1 h)
  have hK2 : KN2 D (f, w0.2) s := hK
  refine va_callv (va_runI (As := []) (rest := [.ref m0]) ⟨hx, hb, hml, hown, hts⟩ (c_X7_init l D (f, w0.2) σ m0 H.size hC) (cwI 0 hts (good_code tx_824) rfl rfl rfl (hts _ tw_66) (hts _ tx_822) (hts _ tx_823) rfl ⟨by decide +kernel, by decide +kernel, by decide +kernel⟩ ⟨Nat.le_of_ble_eq_true rfl, Nat.le_of_ble_eq_true rfl⟩) ⟨pcM_blind, fun U hU hW => ⟨rfl, by rw [hU], by rw [hU]; exact hP, hK2.moved hW, ⟨hD.1, fun _ _ _ => trivial⟩⟩⟩ rfl rfl hl.1 rfl (lv_room (Nat.le_of_ble_eq_true rfl)) dL_law_12 ⟨Nat.le_of_ble_eq_true rfl, Nat.le_of_ble_eq_true rfl⟩) hS (fun q _ h => hF q h) hF (fun u t H1 locs1 ht hvm hpost hB hz hk hS => ?_)
  obtain ⟨f', σ'⟩ := u
  obtain ⟨g1, g2, hJ', hRel⟩ := hpost
  obtain ⟨hP, hAl'⟩ := hB
  rw [ht] at hP
  have g1 : ∀ i, i < 184 → f' i = f i := g1
  have g2 : f' 184 = m0 := g2
  have hAA : ∀ q, AL (f', w0.2) q → A q := fun q ⟨i, hi, e⟩ => by rw [e]; exact hF _ (hAl' i hi)
  refine lv_astore_n (lv' := [(2, .ref m0), (1, .ref x0), (0, .ref b)]) hx hb dL_law_15 rfl hl (by decide) rfl (fun ls hl => ?_)
  refine lv_iconst (v := (0 : Int32)) hx hb dL_law_16 (by decide) ?_
  refine lv_istore_n (lv' := [(3, .int 0), (2, .ref m0), (1, .ref x0), (0, .ref b)]) hx hb dL_law_17 rfl hl (by decide) rfl (fun ls hl => ?_)
  have hl : lv_has ls 4 [(3, .int (nI (4 * 0))), (0, .ref b), (1, .ref (f' 0)), (2, .ref (f' 184))] := by
    rw [g1 0 (by omega), hf0, g2]
    exact lv_sub hl [0, 3, 2, 1] rfl
  refine W.widen (k := 600000) (n := 7302250) (Nat.le_of_ble_eq_true rfl) (Nat.le_of_ble_eq_true rfl) ?_
  exact law_loop (w := (f', w0.2)) ⟨hx, hb, hml, hown, hts, hX, hbl, hbA, hK.1, hJ', hAA⟩ hr hlocks hL hAs 512 0 (by omega) (by omega) σ' H1 locs1 ls hRel hP hS hl
