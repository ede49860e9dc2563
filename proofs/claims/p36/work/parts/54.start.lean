/-! Part 54: the law's loop and its start. (Printed by wip/p36/mk54.py; its first rows are the skeleton's.) -/
def R_law : String := "SignpostYardLaw"
def lw_P (b : Addr) (xs : List Int32) (args : Array Value) (s : State) : Prop := args = #[.ref b] ∧ s.IntsAt b xs ∧ xs.length ≤ 260 ∧ (Jvm.Cond.and given_1 narrow_1).before args s = true
def lw_Q (_ : Array Value) (s : State) (o : Outcome) (t : State) : Prop := o = .returned (some (.int 1)) ∧ Framed s o t [] 600000 7302250
def lw_Z (below : List Frame) (a : Array Value) (s : State) : State → Prop := fun t => ∃ o, t.status = .running ∧ Ended t below o ∧ lw_Q a s o t
/-- the law's own end, with 1 on the stack, nothing written that was there before, its room as the claim has it -/
theorem lw_ret {p : Program} {l : Launch} {e : Env} {s : State} {m : MethodId} {below : List Frame} {meth : Method} {c : Code} {b : Nat} (hx : p.tables.exec = Jvm.exec) (hb : c.code = code) (hr : meth.sig.returnType = ret) (hlocks : meth.locks = false) {pc : Nat} {H : Heap} {ls : Array Slot} (hdg : decode code pc = .ok (.ireturn, 1)) : W p l e room_1 s m #[Value.ref b] below meth c H [] 600000 7302250 (lw_Z below #[Value.ref b] s) (F0 m pc ls [.int 1]) := by
  intro T hT X
  obtain ⟨fs, hret, hrun, hended, hW, hframe⟩ := X.leave (v := some (.int 1)) (hlocks := hlocks) (fun h => by rw [hr] at h; cases h)
  have hmeth' : T.vm.method? m = some meth := X.method'
  refine ⟨T.setFrames fs, ?_, .returned (some (.int 1)), hrun, hended, rfl, ⟨_, rfl⟩, hW, hframe⟩
  jvm_step X.here [X.here.top, hx, hb, hdg, hmeth', hr, ret, narrow_b1]
  (try refine ⟨rfl, ?_⟩); (try refine ⟨rfl, ?_⟩)
  first | (intro acts; rw [hret _ acts rfl rfl rfl]) | rw [hret _ _ rfl rfl rfl]
  exact Steps.refl _
/-- what holds at the law's entry: the machine, the code, the tables' words (any of lw_tbl by 'hts w (by decide +kernel)'), the script of L ints xs at the cell b, what the Statement gives of the start (any of its parts by flat_of_before) -/
def lw_At (p : Program) (s : State) (m : MethodId) (meth : Method) (c : Code) (b L : Nat) (xs : Nat → Int32) : Prop :=
  p.tables.exec = Jvm.exec ∧ c.code = code ∧ meth.sig.returnType = ret ∧ c.maxLocals = 10 ∧ s.vm.findClass R_law = some m.cls ∧ (∀ w ∈ lw_tbl, w.before #[Value.ref b] s = true) ∧ va_X b L xs s s.heap ∧ b < s.heap.size ∧ meth.locks = false ∧ (Jvm.Cond.and given_1 narrow_1).before #[Value.ref b] s = true
theorem va_T_cg {ty : FieldType} {t N : Nat} {f g : Nat → Value} {A : Nat → Prop} {U : State} {H : Heap} (h : va_T ty t N f A U H) (e : ∀ j, j < N → f j = g j) : va_T ty t N g A U H := by
  obtain ⟨cell, h1, h2, h3, h4, h5, h6, h7⟩ := h
  exact ⟨cell, h1, h2, h3, h4, h5, fun j hj => by rw [← e j hj]; exact h6 j hj, h7⟩
theorem va_swapP {D : va_G} {cl : List vw_C} {w1 w2 : va_W} {H : Heap} (h : va_P D cl (w1 ++ w2) H) : va_P D cl (w2 ++ w1) H := va_P.app (fun k q hq => h _ q (va_appR hq)) (fun k q hq => h k q (va_appL hq))
theorem va_swapD {A : Nat → Prop} {w1 w2 : va_W} (h : va_D A (w1 ++ w2)) : va_D A (w2 ++ w1) := va_D.app ⟨fun i j p q hi hj e => by have := h.1 _ _ p q (va_appR hi) (va_appR hj) e; omega, fun k q hq => h.2 _ q (va_appR hq)⟩ ⟨fun i j p q hi hj e => h.1 i j p q (va_appL hi) (va_appL hj) e, fun k q hq => h.2 k q (va_appL hq)⟩ (fun i j p q hi hj e => by
  have := h.1 _ _ p q (va_appR hi) (va_appL hj) e
  have := (List.getElem?_eq_some_iff.mp hj).1
  omega)
/-- what the Statement says of the text's letters -/
theorem ft_mem : ∀ j : Fin 112, (Cond.eq (.elem (Term.field (Term.string "SignpostYard" 48) "java/lang/String" "value" "[B") (.int (Int32.ofNat j.val))) (.int (([ftL.map nI].getD 0 []).getD j.val 0))) ∈ flatC (Jvm.Cond.and given_1 narrow_1) := by decide +kernel
theorem ft_val : ∀ j : Fin 112, ([ftL.map nI].getD 0 []).getD j.val 0 = nI (ftx j.val) := by decide +kernel
/-- the text's string at the start -/
theorem sf_start {s : State} {b : Nat} {A : Nat → Prop} (hts : ∀ w ∈ lw_tbl, w.before #[Value.ref b] s = true) (hgv : (Jvm.Cond.and given_1 narrow_1).before #[Value.ref b] s = true) (hA : ∀ a : Nat, a < s.heap.size → ¬ A a) : ∃ q v, SF q v A s s.heap ∧ vk_R RX6 48 ftS q s := by
  have hs := flat_of_before _ hgv
  have e1 : (Cond.exactly (Term.string "SignpostYard" 48) "java/lang/String").before #[Value.ref b] s = true := hs _ (by decide +kernel)
  have e2 : (Cond.eq (Term.field (Term.string "SignpostYard" 48) "java/lang/String" "coder" "B") (.int 0)).before #[Value.ref b] s = true := hs _ (by decide +kernel)
  have e3 : (Cond.arrayOf (Term.field (Term.string "SignpostYard" 48) "java/lang/String" "value" "[B") .byte).before #[Value.ref b] s = true := hs _ (by decide +kernel)
  have e4 : (Cond.eq (.length (Term.field (Term.string "SignpostYard" 48) "java/lang/String" "value" "[B")) (.int 112)).before #[Value.ref b] s = true := hs _ (by decide +kernel)
  have e5 : (Cond.eq (Term.static "java/lang/String" "COMPACT_STRINGS" "Z") (.int 1)).before #[Value.ref b] s = true := hs _ (by decide +kernel)
  have e6 : (Cond.isRef (Term.static "jdk/internal/util/Preconditions" "SIOOBE_FORMATTER" "Ljava/util/function/BiFunction;")).before #[Value.ref b] s = true := hs _ (by decide +kernel)
  have w1 : (Cond.laysStatic "java/lang/String" "COMPACT_STRINGS" "Z").before #[Value.ref b] s = true := hts _ (List.mem_of_getElem? (i := 184) (by decide +kernel))
  have w2 : (Cond.laysStatic "jdk/internal/util/Preconditions" "SIOOBE_FORMATTER" "Ljava/util/function/BiFunction;").before #[Value.ref b] s = true := hts _ (List.mem_of_getElem? (i := 200) (by decide +kernel))
  have w3 : (Cond.stringRef RX6 48 ftS).before #[Value.ref b] s = true := hts _ (List.mem_of_getElem? (i := 174) (by decide +kernel))
  have n0 : ∀ i : Nat, i < 1 → i = 0 := fun i hi => by omega
  obtain ⟨adK, adV, hVS, hev⟩ := vk_Sof (args := #[Value.ref b]) (s := s) (N := 1) (tm := fun _ => Term.string "SignpostYard" 48) (len := [112]) (byt := [ftL.map nI]) (A := A) (fun i hi => by rw [n0 i hi]; decide) (fun i hi => e1) (fun i hi => e2) (fun i hi => e3) (fun i hi => by rw [n0 i hi]; exact e4) (fun i hi j hj => by have e := n0 i hi; subst e; exact hs _ (ft_mem ⟨j, hj⟩)) (fun i j hi hj hij => absurd (show i = j by omega) hij) hA
  obtain ⟨v1, v2, v3, v4⟩ := hVS.1 0 (by omega)
  have v4 : va_T .byte (adV 0) 112 (fun j => .int (([ftL.map nI].getD 0 []).getD j 0)) A s s.heap := v4
  refine ⟨adK 0, adV 0, ⟨v1, v2, v3, va_T_cg v4 (fun j hj => by rw [ft_val ⟨j, hj⟩]), va_Zof w1 (hts _ (TB_in _ ty_28)) (va_eqt e5) hA, va_Zqof w2 (hts _ (TB_in _ ty_30)) e6 hA⟩, vk_R.of w3 (hev 0 (by omega))⟩
theorem shr6 (z : Int32) : -2 ^ 26 ≤ (z >>> ((6 : Int32) &&& 31)).toInt ∧ (z >>> ((6 : Int32) &&& 31)).toInt < 2 ^ 26 := by
  have h1 := Int32.le_toInt z
  have h2 := Int32.toInt_lt z
  rw [Kit.i32_shr z _ (k := 6) (by decide)]
  omega
set_option maxHeartbeats 8000000 in
set_option maxRecDepth 100000 in
theorem law_loop {p : Program} {l : Launch} {e : Env} {s : State} {m : MethodId} {below : List Frame} {meth : Method} {c : Code} {b L : Nat} {xs : Nat → Int32} {D : va_G} {w1 w2 : Wv} {A : Nat → Prop} (C : LC p s m #[Value.ref b] c b L xs D w1 w2 A) (hr : meth.sig.returnType = ret) (hlocks : meth.locks = false) (hL : L ≤ 260) (hAs : ∀ q, A q → s.heap.size ≤ q) : ∀ (j k : Nat), k + j = 20 → ∀ (T : Tp) (σ1 σ2 : Sg) (H : Heap) (locs : List Loc) (ls : Array Slot), OT k T → CC σ1 T → CC σ2 T → va_P D vwCl (WL w1 σ1) H → va_P D vwCl (WL w2 σ2) H → va_S A s.heap H locs → lv_has ls 10 [(3, .int 1), (4, .int (nI k)), (0, .ref b), (1, .ref (w1.1 0)), (2, .ref (w2.1 0))] → W p l e room_1 s m #[Value.ref b] below meth c H locs 600000 7302250 (lw_Z below #[Value.ref b] s) (F0 m 21 ls []) := by
  have C0 := C
  obtain ⟨hx, hb, hml, hown, hts, ⟨hX, hbl, hbA⟩, ⟨hK1, hw2⟩, ⟨hJ1, hJ2, hAp⟩, hA1, hA2⟩ := C
  have hK2 : KN D w2 s := KN_w hw2 hK1
  have hAq := hAp.sy
  intro j
  induction j with
  | zero =>
    intro k hk T σ1 σ2 H locs ls hO cc1 cc2 hP1 hP2 hS hl
    refine lv_iload hx hb dL_law_21 (lv_at hl 1 rfl) ?_
    refine lv_bipush (v := (20 : Int32)) hx hb dL_law_23 (by decide) ?_
    refine lv_icmp_ge (tgt := 333) hx hb dL_law_25 (by decide) (fun _ => ?_) (fun hc => absurd (show (20 : Int32) ≤ nI k from nI_le (a := 20) (b := k) (by omega) (by omega)) hc)
    refine lv_iload_n hx hb dL_law_333 rfl (lv_at hl 0 rfl) ?_
    refine lv_if_eq (tgt := 352) hx hb dL_law_334 (by decide) (fun hc => absurd hc (show ¬ (1 : Int32) = 0 from one0)) (fun _ => ?_)
    obtain ⟨r, T', -, HT⟩ := d_lost hO (show k < 512 by omega)
    obtain ⟨σ3, e3, -⟩ := HT σ1 cc1
    obtain ⟨σ4, e4, -⟩ := HT σ2 cc2
    refine lv_aload_n hx hb dL_law_337 rfl (lv_at hl 3 rfl) ?_
    refine b_cVi (w := w1) (As := []) hx hb hts hml hown hK1 hP1 hS hA1 (c_X6_lost l D w1 σ1 r σ3 hJ1 e3) hw_L_104 hd_X6_lost ⟨rfl, rfl, rfl⟩ o0 (ce6 kd0) rfl ⟨Nat.le_of_ble_eq_true rfl, Nat.le_of_ble_eq_true rfl⟩ ⟨Nat.le_refl _, Nat.le_refl _⟩ hl.1 rfl (Nat.le_of_ble_eq_true rfl) dL_law_338 hP2 hAp (fun H locs hP1 hP2 hS => ?_)
    refine lv_aload_n hx hb dL_law_341 rfl (lv_at hl 4 rfl) ?_
    refine b_cVi (w := w2) (As := []) hx hb hts hml hown hK2 hP2 hS hA2 (c_X6_lost l D w2 σ2 r σ4 hJ2 e4) hw_L_104 hd_X6_lost ⟨rfl, rfl, rfl⟩ o0 (ce6 kd0) rfl ⟨Nat.le_of_ble_eq_true rfl, Nat.le_of_ble_eq_true rfl⟩ ⟨Nat.le_refl _, Nat.le_refl _⟩ hl.1 rfl (Nat.le_of_ble_eq_true rfl) dL_law_342 hP1 hAq (fun H locs hP2 hP1 hS => ?_)
    refine lv_icmp_ne (tgt := 352) hx hb dL_law_345 (by decide) (fun hc => absurd rfl hc) (fun _ => ?_)
    refine lv_iconst (v := (1 : Int32)) hx hb dL_law_348 (by decide) ?_
    refine lv_goto (tgt := 353) hx hb dL_law_349 (by decide) ?_
    refine va_forget (fun q hq => hAs _ (hS.2.2 q hq)) ?_
    exact lw_ret hx hb hr hlocks dL_law_353
  | succ j ih =>
    intro k hk T σ1 σ2 H locs ls hO cc1 cc2 hP1 hP2 hS hl
    refine lv_iload hx hb dL_law_21 (lv_at hl 1 rfl) ?_
    refine lv_bipush (v := (20 : Int32)) hx hb dL_law_23 (by decide) ?_
    refine lv_icmp_ge (tgt := 333) hx hb dL_law_25 (by decide) (fun hc => absurd hc (show ¬ (20 : Int32) ≤ nI k from nI_ge (a := k) (b := 20) (by omega) (by omega))) (fun _ => ?_)
    refine lv_iload_n hx hb dL_law_28 rfl (lv_at hl 0 rfl) ?_
    refine lv_if_eq (tgt := 333) hx hb dL_law_29 (by decide) (fun hc => absurd hc (show ¬ (1 : Int32) = 0 from one0)) (fun _ => ?_)
    refine lv_aload_n hx hb dL_law_32 rfl (lv_at hl 2 rfl) ?_
    refine lv_iload hx hb dL_law_33 (lv_at hl 1 rfl) ?_
    refine va_calli (va_runS (As := [.ref b, .int (nI k)]) (rest := []) ⟨hx, hb, hml, hown, hts⟩ (c_L_cell l b L xs (by omega) k (by omega)) ⟨callB_of 2 hts (good_code hw_L_111.2.2.2) rfl rfl rfl (hts _ hw_L_111.2.2.1) (hts _ hw_L_111.1) hd_L_cell ⟨Nat.le_of_ble_eq_true rfl, Nat.le_of_ble_eq_true rfl⟩, hts _ hw_L_111.2.1⟩ ⟨pcC_blind, fun U hU hW => ⟨rfl, by rw [hU]; exact (hX.kept (hS.2.1 b hbl hbA)).moved hW.alike, by rw [hU]; exact Nat.lt_of_lt_of_le hbl hS.1⟩⟩ rfl rfl hl.1 rfl (lv_room (Nat.le_of_ble_eq_true rfl)) dL_law_35 ⟨Nat.le_refl _, Nat.le_refl _⟩) hS (fun q _ h => absurd h id) (fun q h => absurd h id) (fun z u t H1 locs1 ht hvm hpost hB hz hk1 hS => ?_)
    have hP1 := hP1.kept (fun k q hq => hk1 q.1 ((hP1 k q hq).lt) id)
    have hP2 := hP2.kept (fun k q hq => hk1 q.1 ((hP2 k q hq).lt) id)
    refine lv_istore (lv' := [(5, .int z), (3, .int 1), (4, .int (nI k)), (0, .ref b), (1, .ref (w1.1 0)), (2, .ref (w2.1 0))]) hx hb dL_law_38 hl (by decide) rfl (fun ls hl => ?_)
    refine lv_aload_n hx hb dL_law_40 rfl (lv_at hl 5 rfl) ?_
    refine lv_iload hx hb dL_law_41 (lv_at hl 0 rfl) ?_
    refine lv_bipush (v := (6 : Int32)) hx hb dL_law_43 (by decide) ?_
    refine lv_ishr hx hb dL_law_45 ?_
    have er := refused_ok hO cc2 (shr6 z).1 (shr6 z).2
    refine b_cSz (w := w2) (As := [.ref (w2.1 0), .int (z >>> ((6 : Int32) &&& 31))]) hx hb hts hml hown hK2 hP2 hS hA2 (c_L_refused l D w2 σ2 (z >>> ((6 : Int32) &&& 31)) 1 σ2 hJ2 er) hw_L_115 hd_L_refused ⟨rfl, rfl, rfl⟩ ⟨Nat.le_of_ble_eq_true rfl, Nat.le_of_ble_eq_true rfl⟩ ⟨Nat.le_refl _, Nat.le_refl _⟩ hl.1 rfl (Nat.le_of_ble_eq_true rfl) dL_law_46 hP1 hAq (fun H locs hP2 hP1 hS => ?_)
    refine lv_if_eq (tgt := 79) hx hb dL_law_49 (by decide) (fun hc => absurd hc (show ¬ (1 : Int32) = 0 from one0)) (fun _ => ?_)
    obtain ⟨r, T', hO', HT⟩ := d_turn hO (show k < 512 by omega) z
    obtain ⟨σ3, e3, cc3⟩ := HT σ1 cc1
    obtain ⟨σ4, e4, cc4⟩ := HT σ2 cc2
    refine lv_aload_n hx hb dL_law_52 rfl (lv_at hl 4 rfl) ?_
    refine lv_iload hx hb dL_law_53 (lv_at hl 0 rfl) ?_
    refine b_cSi (w := w1) (As := [.ref (w1.1 0), .int z]) hx hb hts hml hown hK1 hP1 hS hA1 (c_L_turn l D w1 σ1 z r σ3 hJ1 e3) hw_L_119 hd_L_turn ⟨rfl, rfl, rfl⟩ ⟨Nat.le_of_ble_eq_true rfl, Nat.le_of_ble_eq_true rfl⟩ ⟨Nat.le_refl _, Nat.le_refl _⟩ hl.1 rfl (Nat.le_of_ble_eq_true rfl) dL_law_55 hP2 hAp (fun H locs hP1 hP2 hS => ?_)
    refine lv_aload_n hx hb dL_law_58 rfl (lv_at hl 5 rfl) ?_
    refine lv_iload hx hb dL_law_59 (lv_at hl 0 rfl) ?_
    refine b_cSi (w := w2) (As := [.ref (w2.1 0), .int z]) hx hb hts hml hown hK2 hP2 hS hA2 (c_L_turn l D w2 σ2 z r σ4 hJ2 e4) hw_L_119 hd_L_turn ⟨rfl, rfl, rfl⟩ ⟨Nat.le_of_ble_eq_true rfl, Nat.le_of_ble_eq_true rfl⟩ ⟨Nat.le_refl _, Nat.le_refl _⟩ hl.1 rfl (Nat.le_of_ble_eq_true rfl) dL_law_61 hP1 hAq (fun H locs hP2 hP1 hS => ?_)
    refine lv_icmp_ne (tgt := 79) hx hb dL_law_64 (by decide) (fun hc => absurd rfl hc) (fun _ => ?_)
    refine lv_aload_n hx hb dL_law_67 rfl (lv_at hl 4 rfl) ?_
    refine lv_aload_n hx hb dL_law_68 rfl (lv_at hl 5 rfl) ?_
    refine same_run C0 hO' cc3 cc4 hP1 hP2 hS hl.1 dL_law_69 (fun H locs hP1 hP2 hS => ?_)
    refine lv_if_eq (tgt := 79) hx hb dL_law_72 (by decide) (fun hc => absurd hc (show ¬ (1 : Int32) = 0 from one0)) (fun _ => ?_)
    refine lv_iconst (v := (1 : Int32)) hx hb dL_law_75 (by decide) ?_
    refine lv_goto (tgt := 80) hx hb dL_law_76 (by decide) ?_
    refine lv_istore_n (lv' := [(3, .int (1 : Int32)), (5, .int z), (4, .int (nI k)), (0, .ref b), (1, .ref (w1.1 0)), (2, .ref (w2.1 0))]) hx hb dL_law_80 rfl hl (by decide) rfl (fun ls hl => ?_)
    refine lv_aload_n hx hb dL_law_81 rfl (lv_at hl 5 rfl) ?_
    refine lv_bipush (v := (10 : Int32)) hx hb dL_law_82 (by decide) ?_
    have ec := cnt10 cc4
    refine b_cVi (w := w2) (As := [.int (10 : Int32)]) hx hb hts hml hown hK2 hP2 hS hA2 (c_X6_count l D w2 σ4 10 (nI T'.2.1.2.1) ec) hw_L_77 hd_X6_count ⟨rfl, rfl, rfl⟩ o0 (ce6 kd0) rfl ⟨Nat.le_of_ble_eq_true rfl, Nat.le_of_ble_eq_true rfl⟩ ⟨Nat.le_refl _, Nat.le_refl _⟩ hl.1 rfl (Nat.le_of_ble_eq_true rfl) dL_law_84 hP1 hAq (fun H locs hP2 hP1 hS => ?_)
    refine lv_istore (lv' := [(6, .int (nI T'.2.1.2.1)), (3, .int (1 : Int32)), (5, .int z), (4, .int (nI k)), (0, .ref b), (1, .ref (w1.1 0)), (2, .ref (w2.1 0))]) hx hb dL_law_87 hl (by decide) rfl (fun ls hl => ?_)
    refine lv_iload hx hb dL_law_89 (lv_at hl 0 rfl) ?_
    refine lv_iconst (v := (3 : Int32)) hx hb dL_law_91 (by decide) ?_
    have t327 : ∀ (H : Heap) (locs : List Loc) (ls : Array Slot) (σ5 : Sg), CC σ5 T' → va_P D vwCl (WL w1 σ3) H → va_P D vwCl (WL w2 σ5) H → va_S A s.heap H locs → lv_has ls 10 [(3, .int 1), (4, .int (nI k)), (0, .ref b), (1, .ref (w1.1 0)), (2, .ref (w2.1 0))] → W p l e room_1 s m #[Value.ref b] below meth c H locs 600000 7302250 (lw_Z below #[Value.ref b] s) (F0 m 327 ls []) := by
      intro H locs ls σ5 cc5 hP1 hP2 hS hl
      refine lv_iinc (v := nI (k + 1)) (lv' := [(4, .int (nI (k + 1))), (3, .int 1), (0, .ref b), (1, .ref (w1.1 0)), (2, .ref (w2.1 0))]) hx hb dL_law_327 hl (k := 1) rfl (by rw [ii_1, nI_1]) (by decide) rfl (fun ls hl => ?_)
      refine lv_goto (tgt := 21) hx hb dL_law_330 (by decide) ?_
      exact ih (k + 1) (by omega) T' σ3 σ5 H locs ls hO' cc3 cc5 hP1 hP2 hS (lv_sub hl [1, 0, 2, 3, 4] rfl)
    refine lv_icmp_ge (tgt := 327) hx hb dL_law_92 (by decide) (fun hc => ?_) (fun hc => ?_)
    · exact t327 H _ ls σ4 cc4 hP1 hP2 hS (lv_sub hl [1, 3, 4, 5, 6] rfl)
    · have hm3 : T'.2.1.2.1 < 3 := by
        by_cases q : T'.2.1.2.1 < 3
        · exact q
        · exact absurd (show (3 : Int32) ≤ nI T'.2.1.2.1 from nI_le (a := 3) (by omega) (by have := CC_m8 hO'; omega)) hc
      refine lv_iload_n hx hb dL_law_95 rfl (lv_at hl 1 rfl) ?_
      refine lv_if_eq (tgt := 327) hx hb dL_law_96 (by decide) (fun hc => absurd hc (show ¬ (1 : Int32) = 0 from one0)) (fun _ => ?_)
      refine lv_iload hx hb dL_law_99 (lv_at hl 2 rfl) ?_
      refine lv_iconst (v := (5 : Int32)) hx hb dL_law_101 (by decide) ?_
      refine lv_ishr hx hb dL_law_102 ?_
      refine lv_bipush (v := (6 : Int32)) hx hb dL_law_103 (by decide) ?_
      obtain ⟨x, ex⟩ : ∃ v, f_L_low σ4 (z >>> ((5 : Int32) &&& 31)) (6 : Int32) = some v := ⟨_, low_ok (by decide)⟩
      refine b_cSi (w := w2) (As := [.int (z >>> ((5 : Int32) &&& 31)), .int (6 : Int32)]) hx hb hts hml hown hK2 hP2 hS hA2 (c_L_low l D w2 σ4 (z >>> ((5 : Int32) &&& 31)) (6 : Int32) x ex) hw_L_80 hd_L_low ⟨rfl, rfl, rfl⟩ ⟨Nat.le_of_ble_eq_true rfl, Nat.le_of_ble_eq_true rfl⟩ ⟨Nat.le_refl _, Nat.le_refl _⟩ hl.1 rfl (Nat.le_of_ble_eq_true rfl) dL_law_105 hP1 hAq (fun H locs hP2 hP1 hS => ?_)
      refine lv_istore (lv' := [(7, .int x), (6, .int (nI T'.2.1.2.1)), (3, .int (1 : Int32)), (5, .int z), (4, .int (nI k)), (0, .ref b), (1, .ref (w1.1 0)), (2, .ref (w2.1 0))]) hx hb dL_law_108 hl (by decide) rfl (fun ls hl => ?_)
      refine seg_pass (N := k + 1) C0 hO' (by omega) cc4 Ch_0 (by omega) hP1 hP2 hS (lv_sub hl [0, 1, 3, 2, 4, 5, 6, 7] rfl) (fun d1 T1 τ1 H locs ls hd1 hC1 hO1 g1 hP1 hP2 hS hl => ?_)
      refine seg_year (N := k + 1 + 1) C0 hO1 (by omega) g1 hC1 (by have := hC1.2; omega) hP1 hP2 hS hl (fun d2 T2 τ2 H locs ls hd2 hC2 hO2 g2 hP1 hP2 hS hl => ?_)
      refine seg_lays (N := k + 1 + 1 + 1) C0 hO2 (by omega) g2 hC2 (by have := hC2.2; omega) hP1 hP2 hS hl (fun d3 T3 τ3 H locs ls hd3 hC3 hO3 g3 hP1 hP2 hS hl => ?_)
      refine seg_paint (N := k + 1 + 1 + 1 + 1) C0 hO3 (by omega) g3 hC3 (by have := hC3.2; omega) hP1 hP2 hS hl (fun d4 T4 τ4 H locs ls hd4 hC4 hO4 g4 hP1 hP2 hS hl => ?_)
      refine seg_move (N := k + 1 + 1 + 1 + 1 + 1) C0 hO4 (by omega) g4 hC4 (by have := hC4.2; omega) hP1 hP2 hS hl (fun d5 T5 τ5 H locs ls hd5 hC5 hO5 g5 hP1 hP2 hS hl => ?_)
      exact seg_un C0 hO' cc3 rfl hm3 (by omega) hO5 g5 hC5 hP1 hP2 hS hl (fun H locs ls σ5 cc5 hP1 hP2 hS hl => t327 H locs ls σ5 cc5 hP1 hP2 hS hl)
set_option maxHeartbeats 8000000 in
set_option maxRecDepth 100000 in
/-- from the entry, for every script of at most 260 ints, the law comes to its end with true -/
theorem whole_start {p : Program} {e : Env} {s : State} {m : MethodId} {below : List Frame} {meth : Method} {c : Code} (l : Launch) (hflags : l.flags = flags0) {b L : Nat} {xs : Nat → Int32} (hL : L ≤ 260) (C0 : lw_At p s m meth c b L xs) : W p l e room_1 s m #[Value.ref b] below meth c s.heap [] 0 0 (lw_Z below #[Value.ref b] s) (entryFrame m ([Value.ref b] : List Value).toArray 10) := by
  obtain ⟨hx, hb, hr, hml, hown, hts0, hX, hbl, hlocks, hgv⟩ := C0
  have hown : s.vm.findClass "SignpostYardLaw" = some m.cls := hown
  have hts : ∀ x ∈ TB, x.before #[Value.ref b] s = true := fun x hx => hts0 x (TB_in x hx)
  obtain ⟨A, hAe⟩ : ∃ A : Nat → Prop, A = fun q => s.heap.size ≤ q := ⟨_, rfl⟩
  have hA : ∀ q : Nat, s.heap.size ≤ q → A q := fun q h => by rw [hAe]; exact h
  have hAs : ∀ q, A q → s.heap.size ≤ q := fun q h => by rw [hAe] at h; exact h
  have hbA : ¬ A b := fun h => by have := hAs b h; omega
  have hnA : ∀ a : Nat, a < s.heap.size → ¬ A a := fun a h g => by have := hAs a g; omega
  clear hAe
  obtain ⟨c0, iS0, hKn0⟩ := u_known (C := RX0) (T := TX0) (N := 2) (n := 2) hts inT0 (hts (.instantiable RX0 2) (TBm 49 (by decide +kernel) (by decide +kernel)))
  obtain ⟨c1, iS1, hKn1⟩ := u_known (C := RX1) (T := TX1) (N := 4) (n := 4) hts inT1 (hts (.instantiable RX1 4) (TBm 43 (by decide +kernel) (by decide +kernel)))
  obtain ⟨c2, iS2, hKn2⟩ := u_known (C := RX2) (T := TX2) (N := 2) (n := 2) hts inT2 (hts (.instantiable RX2 2) (TBm 160 (by decide +kernel) (by decide +kernel)))
  obtain ⟨c3, iS3, hKn3⟩ := u_known (C := RX3) (T := TX3) (N := 3) (n := 3) hts inT3 (hts (.instantiable RX3 3) (TBm 88 (by decide +kernel) (by decide +kernel)))
  obtain ⟨c4, iS4, hKn4⟩ := u_known (C := RX4) (T := TX4) (N := 3) (n := 3) hts inT4 (hts (.instantiable RX4 3) (TBm 139 (by decide +kernel) (by decide +kernel)))
  obtain ⟨c5, iS5, hKn5⟩ := u_known (C := RX5) (T := TX5) (N := 10) (n := 10) hts inT5 (hts (.instantiable RX5 10) (TBm 82 (by decide +kernel) (by decide +kernel)))
  obtain ⟨c6, iS6, hKn6⟩ := u_known (C := RX6) (T := TX6) (N := 7) (n := 7) hts inT6 (hts (.instantiable RX6 7) (TBm 35 (by decide +kernel) (by decide +kernel)))
  obtain ⟨D, hKc⟩ : ∃ D : va_G, ∀ (k : Nat) (q : vw_C), vwCl[k]? = some q → u_Kn s q.1 q.2.1 q.2.2 (D.1 k) (D.2 k) := by
    refine ⟨(fun k => ([c0, c1, c2, c3, c4, c5, c6][k]?).getD c0, fun k => ([iS0, iS1, iS2, iS3, iS4, iS5, iS6][k]?).getD iS0), ?_⟩
    intro k q hq
    match k, hq with
    | 0, hq => cases hq; exact hKn0
    | 1, hq => cases hq; exact hKn1
    | 2, hq => cases hq; exact hKn2
    | 3, hq => cases hq; exact hKn3
    | 4, hq => cases hq; exact hKn4
    | 5, hq => cases hq; exact hKn5
    | 6, hq => cases hq; exact hKn6
    | k + 7, hq =>
      have := (List.getElem?_eq_some_iff.mp hq).1
      have : k + 7 < 7 := this
      omega
  have hov : (Cond.arrayOver (.object "SignpostYard$Yard")).before #[Value.ref b] s = true := hts0 _ (List.mem_of_getElem? (i := 147) (by decide +kernel))
  obtain ⟨cB, kB, pB, b1, b2, b3⟩ := Cond.arrayClass_spec (hts _ (show Cond.arrayClass .byte ∈ TB from TBm 358 (by decide +kernel) (by decide +kernel)))
  obtain ⟨cI, kI, pI, i1, i2, i3⟩ := Cond.arrayClass_spec (hts _ (show Cond.arrayClass .int ∈ TB from TBm 67 (by decide +kernel) (by decide +kernel)))
  obtain ⟨comp, cY, kY, y1, -, y3, y4, y5⟩ := Cond.arrayOver_spec hov
  obtain ⟨w0, hw0⟩ : ∃ w0 : Wv, w0 = (fun _ => 0, (cB, cI, cY)) := ⟨_, rfl⟩
  have hK : KN2 D w0 s := by
    subst hw0
    refine ⟨⟨⟨hKc, fun k q h => ?_⟩, va_Nw.of (by decide +kernel) (hts0 nst (List.mem_of_getElem? (i := 411) (by decide +kernel)))⟩, va_AO.of hov⟩
    match k, h with
    | 0, h => cases h; exact ⟨fun n z => ⟨fun k h => (by cases h), kB, b2, pB, b3⟩, b1⟩
    | 1, h => cases h; exact ⟨fun n z => ⟨fun k h => (by cases h), kI, i2, pI, i3⟩, i1⟩
    | 2, h => cases h; exact ⟨fun n z => ⟨fun k h => (by cases h), kY, y3, comp, y4⟩, kY, comp, y3, y4, y1, y5⟩
    | k + 3, h =>
      have := (List.getElem?_eq_some_iff.mp h).1
      have : k + 3 < 3 := this
      omega
  clear hw0
  obtain ⟨q, v, hSF, hZ⟩ := sf_start hts0 hgv hnA
  obtain ⟨T0, hO0, hC0⟩ := T0_ex
  have hS : va_S A s.heap s.heap [] := va_S.rf
  have hP : va_P D vwCl [] s.heap := fun k q h => by simp at h
  have hD : va_D A [] := ⟨fun i j p q h => by simp at h, fun k q h => by simp at h⟩
  have hl := lv_entry ([.ref b] : List Value) (n := 10) (Nat.le_of_ble_eq_true rfl)
  rw [lg_entry_eq]
  generalize (lg_sl ([.ref b] : List Value) ++ List.replicate (10 - (lg_sl ([.ref b] : List Value)).length) Slot.unset).toArray = ls at hl ⊢
  have hl : lv_has ls 10 [(0, .ref b)] := hl
  refine va_new (ci := 6) (fs := [.null, .null, .null, .null, .null, .null, .null]) (C := RX6) (T := TX6) (N := 7) hx hb hts inT6 tyX6 tyX6_ok hown (hts _ (TBm 34 (by decide +kernel) (by decide +kernel))) (hts _ (TBm 35 (by decide +kernel) (by decide +kernel))) (hts _ (TBm 20 (by decide +kernel) (by decide +kernel))) hK.1.1 hP hD hS hA rfl (fun j hj => by rcases (show j = 0 ∨ j = 1 ∨ j = 2 ∨ j = 3 ∨ j = 4 ∨ j = 5 ∨ j = 6 by omega) with rfl | rfl | rfl | rfl | rfl | rfl | rfl <;> rfl) (Nat.le_of_ble_eq_true rfl) (Nat.le_of_ble_eq_true rfl) dL_law_0 (fun x0 H hP hD hS => ?_)
  have hP : va_P D vwCl (x0L x0) H := hP
  have hD : va_D A (x0L x0) := hD
  refine lv_dup hx hb dL_law_3 rfl ?_
  have hF : ∀ q, va_A (x0L x0) H.size q → A q := fun q h => by
    rcases h with ⟨k, e, h⟩ | h
    · exact hD.2 k (q, e) h
    · exact hA q (Nat.le_trans hS.1 h)
  refine va_callv (va_runI (As := []) (rest := [.ref x0]) ⟨hx, hb, hml, hown, hts⟩ (c_X6_init l D w0 q v x0 H.size) (cwI 0 hts (good_code (TBm 38 (by decide +kernel) (by decide +kernel))) rfl rfl rfl (hts _ (TBm 20 (by decide +kernel) (by decide +kernel))) (hts _ (TBm 36 (by decide +kernel) (by decide +kernel))) (hts _ (TBm 37 (by decide +kernel) (by decide +kernel))) rfl ⟨by decide +kernel, by decide +kernel, by decide +kernel⟩ ⟨Nat.le_of_ble_eq_true rfl, Nat.le_of_ble_eq_true rfl⟩) ⟨pcX_blind, fun U hU hW => ⟨rfl, by rw [hU], by rw [hU]; exact hP, hK.moved hW, ⟨hD.1, fun _ _ _ => trivial⟩, by rw [hU]; exact ((hSF.kept hS.2.1).narrow hF).moved hW.alike, vk_R.warm hW hZ⟩⟩ rfl rfl hl.1 rfl (lv_room (Nat.le_of_ble_eq_true rfl)) dL_law_4 ⟨Nat.le_of_ble_eq_true rfl, Nat.le_of_ble_eq_true rfl⟩) hS (fun q _ h => hF q h) hF (fun u t H1 locs1 ht hvm hpost hB hz hk hS => ?_)
  obtain ⟨f, σ⟩ := u
  obtain ⟨hf0, hJ, hC⟩ := hpost
  obtain ⟨hP, hAl⟩ := hB
  rw [ht] at hP
  have hf0 : f 0 = x0 := hf0
  have hAf : ∀ i, i < 184 → A (f i) := fun i hi => hF _ (hAl i hi)
  have hD : va_D A (WL (f, w0.2) σ) := (WL_D hJ).weaken (fun k q _ h => by
    obtain ⟨i, hi, e⟩ := h
    rw [e]
    exact hAf i hi)
  refine lv_astore_n (lv' := [(1, .ref x0), (0, .ref b)]) hx hb dL_law_7 rfl hl (by decide) rfl (fun ls hl => ?_)
  clear hF hAl
  refine va_new (ci := 6) (fs := [.null, .null, .null, .null, .null, .null, .null]) (C := RX6) (T := TX6) (N := 7) hx hb hts inT6 tyX6 tyX6_ok hown (hts _ (TBm 34 (by decide +kernel) (by decide +kernel))) (hts _ (TBm 35 (by decide +kernel) (by decide +kernel))) (hts _ (TBm 20 (by decide +kernel) (by decide +kernel))) hK.1.1 hP hD hS hA rfl (fun j hj => by rcases (show j = 0 ∨ j = 1 ∨ j = 2 ∨ j = 3 ∨ j = 4 ∨ j = 5 ∨ j = 6 by omega) with rfl | rfl | rfl | rfl | rfl | rfl | rfl <;> rfl) (Nat.le_of_ble_eq_true rfl) (Nat.le_of_ble_eq_true rfl) dL_law_8 (fun y0 H hP hD hS => ?_)
  have hP : va_P D vwCl (WL (f, w0.2) σ ++ x0L y0) H := hP
  have hD : va_D A (WL (f, w0.2) σ ++ x0L y0) := hD
  have hPy : va_P D vwCl (x0L y0) H := fun k q hq => hP _ q (va_appR hq)
  have hPx : va_P D vwCl (WL (f, w0.2) σ) H := fun k q hq => hP k q (va_appL hq)
  have hDy : va_D A (x0L y0) := ⟨fun i j p q hi hj e => by have := hD.1 _ _ p q (va_appR hi) (va_appR hj) e; omega, fun k q hq => hD.2 _ q (va_appR hq)⟩
  refine lv_dup hx hb dL_law_11 rfl ?_
  have hF : ∀ q, va_A (x0L y0) H.size q → A q := fun q h => by
    rcases h with ⟨k, e, h⟩ | h
    · exact hDy.2 k (q, e) h
    · exact hA q (Nat.le_trans hS.1 h)
  have far : ∀ i, i < 184 → f i < H.size ∧ ¬ va_A (x0L y0) H.size (f i) := fun i hi => by
    have g : (WL (f, w0.2) σ)[i]? = some (f i, ce (f, w0.2) σ i) := WL_get hi
    have hlt := (hPx i _ g).lt
    refine ⟨hlt, fun h => ?_⟩
    rcases h with ⟨k2, e, h⟩ | h
    · have hij := hD.1 i (184 + k2) (f i, ce (f, w0.2) σ i) (f i, e) (va_appL g) (by have := va_appR (ws := WL (f, w0.2) σ) h; rwa [WL_len] at this) rfl
      omega
    · exact absurd hlt (Nat.not_lt.mpr h)
  refine va_callv (va_runI (As := []) (rest := [.ref y0]) ⟨hx, hb, hml, hown, hts⟩ (c_X6_init l D w0 q v y0 H.size) (cwI 0 hts (good_code (TBm 38 (by decide +kernel) (by decide +kernel))) rfl rfl rfl (hts _ (TBm 20 (by decide +kernel) (by decide +kernel))) (hts _ (TBm 36 (by decide +kernel) (by decide +kernel))) (hts _ (TBm 37 (by decide +kernel) (by decide +kernel))) rfl ⟨by decide +kernel, by decide +kernel, by decide +kernel⟩ ⟨Nat.le_of_ble_eq_true rfl, Nat.le_of_ble_eq_true rfl⟩) ⟨pcX_blind, fun U hU hW => ⟨rfl, by rw [hU], by rw [hU]; exact hPy, hK.moved hW, ⟨hDy.1, fun _ _ _ => trivial⟩, by rw [hU]; exact ((hSF.kept hS.2.1).narrow hF).moved hW.alike, vk_R.warm hW hZ⟩⟩ rfl rfl hl.1 rfl (lv_room (Nat.le_of_ble_eq_true rfl)) dL_law_12 ⟨Nat.le_of_ble_eq_true rfl, Nat.le_of_ble_eq_true rfl⟩) hS (fun q _ h => hF q h) hF (fun u t H1 locs1 ht hvm hpost hB hz hk hS => ?_)
  obtain ⟨f2, σ2⟩ := u
  obtain ⟨hf2, hJ2, hC2⟩ := hpost
  obtain ⟨hP2, hAl2⟩ := hB
  rw [ht] at hP2
  have hf2 : f2 0 = y0 := hf2
  have hPx : va_P D vwCl (WL (f, w0.2) σ) H1 := hPx.kept (fun k q hq => by
    have lk : k < 184 := by
      have := (List.getElem?_eq_some_iff.mp hq).1
      rwa [WL_len] at this
    rw [WL_get lk] at hq
    cases hq
    exact hk _ (far k lk).1 (far k lk).2)
  have hAp : Ap (f, w0.2) (f2, w0.2) := fun i j hi hj e => (far i hi).2 (by
    have e : f i = f2 j := e
    rw [e]; exact hAl2 j hj)
  have hA1 : ∀ q, AL (f, w0.2) q → A q := fun q ⟨i, hi, e⟩ => by rw [e]; exact hAf i hi
  have hA2 : ∀ q, AL (f2, w0.2) q → A q := fun q ⟨i, hi, e⟩ => by rw [e]; exact hF _ (hAl2 i hi)
  refine lv_astore_n (lv' := [(2, .ref y0), (1, .ref x0), (0, .ref b)]) hx hb dL_law_15 rfl hl (by decide) rfl (fun ls hl => ?_)
  refine lv_iconst (v := (1 : Int32)) hx hb dL_law_16 (by decide) ?_
  refine lv_istore_n (lv' := [(3, .int 1), (2, .ref y0), (1, .ref x0), (0, .ref b)]) hx hb dL_law_17 rfl hl (by decide) rfl (fun ls hl => ?_)
  refine lv_iconst (v := (0 : Int32)) hx hb dL_law_18 (by decide) ?_
  refine lv_istore (lv' := [(4, .int 0), (3, .int 1), (2, .ref y0), (1, .ref x0), (0, .ref b)]) hx hb dL_law_19 hl (by decide) rfl (fun ls hl => ?_)
  have hl : lv_has ls 10 [(3, .int 1), (4, .int (nI 0)), (0, .ref b), (1, .ref (f 0)), (2, .ref (f2 0))] := by
    rw [hf0, hf2]
    exact lv_sub hl [1, 0, 4, 3, 2] rfl
  refine W.widen (k := 600000) (n := 7302250) (Nat.le_of_ble_eq_true rfl) (Nat.le_of_ble_eq_true rfl) ?_
  exact law_loop (w1 := (f, w0.2)) (w2 := (f2, w0.2)) ⟨hx, hb, hml, hown, hts, ⟨hX, hbl, hbA⟩, ⟨hK.1, rfl⟩, ⟨hJ, hJ2, hAp⟩, hA1, hA2⟩ hr hlocks hL hAs 20 0 rfl T0 σ σ2 H1 locs1 ls hO0 (hC0 σ hC) (hC0 σ2 hC2) hPx hP2 hS hl
