/-! Part 51: the start; two objects side by side; the script's cell. (Printed by wip/p36/mk51.py.) -/
theorem ft_n : Dr.np ftD = 5 ∧ Dr.nw ftD = 4 := by decide +kernel
/-- what an object holds of which a draft has just been laid -/
def Td (d : Dr) : Tp := ((Dr.n d, Dr.np d, Dr.nw d, Dr.ki d, Dr.go d), (dS1 d, 0, fun _ => dS1 d), (0, fun _ => dS1 d), (0, fun _ => (0, 0, 0)), (0, fun _ => (0, 0, 0)), 0)
theorem OT_d {d : Dr} (dv : DV d) (h1 : 1 ≤ Dr.np d) (h2 : Dr.np d ≤ 6) (h3 : 1 ≤ Dr.nw d) : OT 0 (Td d) := ⟨⟨h1, h2, h3, Nat.zero_le _⟩, OK_d dv, fun i hi => absurd hi (Nat.not_lt_zero i), fun i hi => absurd hi (Nat.not_lt_zero i), ⟨Nat.zero_le _, Nat.zero_le _⟩, ⟨Nat.zero_le _, fun i hi => absurd hi (Nat.not_lt_zero i)⟩, Nat.zero_le _, fun i hi => absurd hi (Nat.not_lt_zero i)⟩
theorem CC_d {σ : Sg} {d : Dr} (c1 : KC σ) (c2 : σ 1 2 = nI 0) (c3 : CY σ 6 (Dr.n d) (Dr.np d) (Dr.nw d) (Dr.ki d) (Dr.go d) (dS1 d)) (Z : ∀ i k, 34 ≤ i → k ≠ 0 → σ i k = nI 0) : CC σ (Td d) :=
  ⟨c1, c3, ⟨Z 34 1 (by omega) (by omega), Nat.zero_le _, 0, by omega, Z 34 2 (by omega) (by omega), fun i hi => absurd hi (Nat.not_lt_zero i)⟩, ⟨Z 148 1 (by omega) (by omega), Nat.zero_le _, 0, by omega, Z 148 2 (by omega) (by omega), fun i hi => absurd hi (Nat.not_lt_zero i)⟩, ⟨Z 178 1 (by omega) (by omega), fun i hi => absurd hi (Nat.not_lt_zero i)⟩, ⟨Z 181 1 (by omega) (by omega), fun i hi => absurd hi (Nat.not_lt_zero i)⟩, c2⟩
/-- a new object holds the same as any other -/
theorem T0_ex : ∃ T0 : Tp, OT 0 T0 ∧ ∀ σ, CI σ → CC σ T0 := by
  obtain ⟨n5, n4⟩ := ft_n
  have dv := ft_V
  have hC : ∀ σ, CI σ → KC σ ∧ σ 1 2 = nI 0 ∧ CY σ 6 (Dr.n ftD) (Dr.np ftD) (Dr.nw ftD) (Dr.ki ftD) (Dr.go ftD) (dS1 ftD) ∧ ∀ i, 34 ≤ i → σ i = z0 i := fun σ h => h
  generalize ftD = d at n5 n4 dv hC
  refine ⟨Td d, OT_d dv (by omega) (by omega) (by omega), fun σ h => ?_⟩
  obtain ⟨c1, c2, c3, c4⟩ := hC σ h
  exact CC_d c1 c2 c3 (fun i k a e => by rw [c4 i a, z0_o (Or.inl e)]; rfl)
/-- two worlds apart -/
def Ap (w w2 : Wv) : Prop := ∀ i j, i < 184 → j < 184 → w.1 i ≠ w2.1 j
theorem Ap.sy {w w2 : Wv} (h : Ap w w2) : Ap w2 w := fun i j hi hj e => h j i hj hi e.symm
theorem keep2 {D : va_G} {w w2 : Wv} {σ2 : Sg} {H H1 : Heap} (hP2 : va_P D vwCl (WL w2 σ2) H) (hd : Ap w w2) (hk : ∀ q : Nat, q < H.size → ¬ AL w q → H1[q]? = H[q]?) : va_P D vwCl (WL w2 σ2) H1 := hP2.kept (fun k q hq => hk q.1 ((hP2 k q hq).lt) (fun ⟨i, hi, e⟩ => by
  have lk : k < 184 := by
    have := (List.getElem?_eq_some_iff.mp hq).1
    rwa [WL_len] at this
  rw [WL_get lk] at hq
  cases hq
  exact hd i k hi lk e.symm))
theorem KN_w {D : va_G} {w w2 : Wv} {U : State} (e : w2.2 = w.2) (h : KN D w U) : KN D w2 U := by
  unfold KN tys at h ⊢
  rw [e]; exact h
section QB
variable {p : Program} {l : Launch} {e : Env} {R : Room} {s : State} {m : MethodId} {args : Array Value} {below : List Frame} {meth : Method} {c : Code} {H : Heap} {locs : List Loc} {cells slots : Nat} {Q : State → Prop} {cc : ByteArray} {pc : Nat} {ls : Array Slot} {rest : List Value} {D : va_G} {w : Wv} {σ : Sg} {H0 : Heap} {w2 : Wv} {σ2 : Sg}
theorem b_cVi (hx : p.tables.exec = Jvm.exec) (hb : c.code = cc) (hts : ∀ x ∈ TB, x.before args s = true) {own C : String} {idx maxL nL n : Nat} {y : MethodName} {bytes : ByteArray} {rm : Room} {As : List Value} {σ' : Sg} {i ci N : Nat} {T : u_T} {fs : List Value} {r : Int32} (hml : c.maxLocals = nL) (hown : s.vm.findClass own = some m.cls) (hK : KN D w s) (hP : va_P D vwCl (WL w σ) H) {A0 : Nat → Prop} (hS : va_S A0 H0 H locs) (hAA : ∀ q, AL w q → A0 q) (hM : Met l y (.code y bytes maxL (some .int) :: TB) rm (pcW D w (.ref (w.1 i) :: As) σ) (qiW D w r σ') 0 0 (AL w))
    (hw : Cond.methodLink own idx y ∈ TB ∧ Cond.instanceMethod y ∈ TB ∧ Cond.selects C y y ∈ TB ∧ Cond.initialized C ∈ TB ∧ Cond.code y bytes maxL (some .int) ∈ TB)
    (hd : y.cls = C ∧ y.cls ≠ "java/lang/invoke/MethodHandle" ∧ y.cls ≠ "java/lang/invoke/VarHandle" ∧ (parseMethodDescriptor y.desc).map (fun d => d.parameters.length) = some n) (hrm : rm.cells = 0 ∧ rm.slots = 0 ∧ As.length = n) (hi : i < 184) (hce : ce w σ i = .inr (ci, fs)) (hc : vwCl[ci]? = some (C, T, N)) (hR : rm.frames + 1 ≤ R.frames ∧ 8 + (maxL + 11) + rm.locals ≤ R.locals) (hcs : cells ≤ R.cells ∧ slots ≤ R.slots) (hsz : ls.size = nL) {st : List Value} (hst : st = As.reverse ++ .ref (w.1 i) :: rest) (hrest : (rest.map fun v => v.category).sum ≤ 8) (hdg : decode cc pc = .ok (.invokevirtual idx, 3)) (hP2 : va_P D vwCl (WL w2 σ2) H) (hAp : Ap w w2)
    (kk : ∀ (H : Heap) (locs : List Loc), va_P D vwCl (WL w σ') H → va_P D vwCl (WL w2 σ2) H → va_S A0 H0 H locs → W p l e R s m args below meth c H locs cells slots Q (F0 m (pc + 3) ls (.int r :: rest))) : W p l e R s m args below meth c H locs cells slots Q (F0 m pc ls st) := by
  subst hst
  refine va_calli (va_runV (As := As) (rest := rest) ⟨hx, hb, hml, hown, hts⟩ hM (cwV n hts (good_V hw) rfl hrm.1 hrm.2.1 hd hR) ⟨pcW_blind, va_recv hK.1 hP hc ((WL_get hi).trans (by rw [hce])), pcW_pre hP hK⟩ rfl hrm.2.2 hsz rfl (lv_room hrest) hdg hcs) hS (fun q _ h => hAA q h) (fun q h => hAA q h) (fun r' u t H1 locs1 ht hvm hpost hB hz hk hS1 => ?_)
  have hpost : r' = r := hpost
  subst hpost
  exact kk H1 locs1 (by rw [← ht]; exact hB) (keep2 hP2 hAp hk) hS1
theorem b_cSi (hx : p.tables.exec = Jvm.exec) (hb : c.code = cc) (hts : ∀ x ∈ TB, x.before args s = true) {own : String} {idx maxL nL n : Nat} {y : MethodName} {bytes : ByteArray} {rm : Room} {As : List Value} {σ' : Sg} {r : Int32} (hml : c.maxLocals = nL) (hown : s.vm.findClass own = some m.cls) (hK : KN D w s) (hP : va_P D vwCl (WL w σ) H) {A0 : Nat → Prop} (hS : va_S A0 H0 H locs) (hAA : ∀ q, AL w q → A0 q) (hM : Met l y (.code y bytes maxL (some .int) :: TB) rm (pcW D w As σ) (qiW D w r σ') 0 0 (AL w))
    (hw : Cond.methodLink own idx y ∈ TB ∧ Cond.static y ∈ TB ∧ Cond.initialized y.cls ∈ TB ∧ Cond.code y bytes maxL (some .int) ∈ TB)
    (hd : y.cls ≠ "java/lang/invoke/MethodHandle" ∧ y.cls ≠ "java/lang/invoke/VarHandle" ∧ (parseMethodDescriptor y.desc).map (fun d => d.parameters.length) = some n) (hrm : rm.cells = 0 ∧ rm.slots = 0 ∧ As.length = n) (hR : rm.frames + 1 ≤ R.frames ∧ 8 + (maxL + 11) + rm.locals ≤ R.locals) (hcs : cells ≤ R.cells ∧ slots ≤ R.slots) (hsz : ls.size = nL) {st : List Value} (hst : st = As.reverse ++ rest) (hrest : (rest.map fun v => v.category).sum ≤ 8) (hdg : decode cc pc = .ok (.invokestatic idx, 3)) (hP2 : va_P D vwCl (WL w2 σ2) H) (hAp : Ap w w2)
    (kk : ∀ (H : Heap) (locs : List Loc), va_P D vwCl (WL w σ') H → va_P D vwCl (WL w2 σ2) H → va_S A0 H0 H locs → W p l e R s m args below meth c H locs cells slots Q (F0 m (pc + 3) ls (.int r :: rest))) : W p l e R s m args below meth c H locs cells slots Q (F0 m pc ls st) := by
  subst hst
  obtain ⟨w1, w2, w3, w4⟩ := hw
  refine va_calli (va_runS (As := As) (rest := rest) ⟨hx, hb, hml, hown, hts⟩ hM ⟨callB_of n hts (good_code w4) rfl hrm.1 hrm.2.1 (hts _ w3) (hts _ w1) hd hR, hts _ w2⟩ ⟨pcW_blind, pcW_pre hP hK⟩ rfl hrm.2.2 hsz rfl (lv_room hrest) hdg hcs) hS (fun q _ h => hAA q h) (fun q h => hAA q h) (fun r' u t H1 locs1 ht hvm hpost hB hz hk hS1 => ?_)
  have hpost : r' = r := hpost
  subst hpost
  exact kk H1 locs1 (by rw [← ht]; exact hB) (keep2 hP2 hAp hk) hS1
theorem b_cSz (hx : p.tables.exec = Jvm.exec) (hb : c.code = cc) (hts : ∀ x ∈ TB, x.before args s = true) {own : String} {idx maxL nL n : Nat} {y : MethodName} {bytes : ByteArray} {rm : Room} {As : List Value} {σ' : Sg} {r : Int32} (hml : c.maxLocals = nL) (hown : s.vm.findClass own = some m.cls) (hK : KN D w s) (hP : va_P D vwCl (WL w σ) H) {A0 : Nat → Prop} (hS : va_S A0 H0 H locs) (hAA : ∀ q, AL w q → A0 q) (hM : Met l y (.code y bytes maxL (some .boolean) :: TB) rm (pcW D w As σ) (qzW D w r σ') 0 0 (AL w))
    (hw : Cond.methodLink own idx y ∈ TB ∧ Cond.static y ∈ TB ∧ Cond.initialized y.cls ∈ TB ∧ Cond.code y bytes maxL (some .boolean) ∈ TB)
    (hd : y.cls ≠ "java/lang/invoke/MethodHandle" ∧ y.cls ≠ "java/lang/invoke/VarHandle" ∧ (parseMethodDescriptor y.desc).map (fun d => d.parameters.length) = some n) (hrm : rm.cells = 0 ∧ rm.slots = 0 ∧ As.length = n) (hR : rm.frames + 1 ≤ R.frames ∧ 8 + (maxL + 11) + rm.locals ≤ R.locals) (hcs : cells ≤ R.cells ∧ slots ≤ R.slots) (hsz : ls.size = nL) {st : List Value} (hst : st = As.reverse ++ rest) (hrest : (rest.map fun v => v.category).sum ≤ 8) (hdg : decode cc pc = .ok (.invokestatic idx, 3)) (hP2 : va_P D vwCl (WL w2 σ2) H) (hAp : Ap w w2)
    (kk : ∀ (H : Heap) (locs : List Loc), va_P D vwCl (WL w σ') H → va_P D vwCl (WL w2 σ2) H → va_S A0 H0 H locs → W p l e R s m args below meth c H locs cells slots Q (F0 m (pc + 3) ls (.int r :: rest))) : W p l e R s m args below meth c H locs cells slots Q (F0 m pc ls st) := by
  subst hst
  obtain ⟨w1, w2, w3, w4⟩ := hw
  refine va_calli (va_runS (As := As) (rest := rest) ⟨hx, hb, hml, hown, hts⟩ hM ⟨callB_of n hts (good_code w4) rfl hrm.1 hrm.2.1 (hts _ w3) (hts _ w1) hd hR, hts _ w2⟩ ⟨pcW_blind, pcW_pre hP hK⟩ rfl hrm.2.2 hsz rfl (lv_room hrest) hdg hcs) hS (fun q _ h => hAA q h) (fun q h => hAA q h) (fun r' u t H1 locs1 ht hvm hpost hB hz hk hS1 => ?_)
  obtain ⟨h1, h2⟩ : r' = r ∧ narrow .boolean (.int r) = .int r := hpost
  subst h1
  exact kk H1 locs1 (by rw [← ht]; exact hB) (keep2 hP2 hAp hk) hS1
end QB
theorem hw_L_111 : Cond.methodLink RL 111 yL_cell ∈ TB ∧ Cond.static yL_cell ∈ TB ∧ Cond.initialized yL_cell.cls ∈ TB ∧ Cond.code yL_cell cL_cell 2 (some .int) ∈ TB := ⟨TBm 539 (by decide +kernel) (by decide +kernel), TBm 540 (by decide +kernel) (by decide +kernel), TBm 19 (by decide +kernel) (by decide +kernel), TBm 541 (by decide +kernel) (by decide +kernel)⟩
theorem hd_L_cell : yL_cell.cls ≠ "java/lang/invoke/MethodHandle" ∧ yL_cell.cls ≠ "java/lang/invoke/VarHandle" ∧ (parseMethodDescriptor yL_cell.desc).map (fun d => d.parameters.length) = some 2 := ⟨by decide +kernel, by decide +kernel, by decide +kernel⟩
theorem hw_L_115 : Cond.methodLink RL 115 yL_refused ∈ TB ∧ Cond.static yL_refused ∈ TB ∧ Cond.initialized yL_refused.cls ∈ TB ∧ Cond.code yL_refused cL_refused 3 (some .boolean) ∈ TB := ⟨TBm 547 (by decide +kernel) (by decide +kernel), TBm 548 (by decide +kernel) (by decide +kernel), TBm 19 (by decide +kernel) (by decide +kernel), TBm 549 (by decide +kernel) (by decide +kernel)⟩
theorem hd_L_refused : yL_refused.cls ≠ "java/lang/invoke/MethodHandle" ∧ yL_refused.cls ≠ "java/lang/invoke/VarHandle" ∧ (parseMethodDescriptor yL_refused.desc).map (fun d => d.parameters.length) = some 2 := ⟨by decide +kernel, by decide +kernel, by decide +kernel⟩
theorem hw_L_119 : Cond.methodLink RL 119 yL_turn ∈ TB ∧ Cond.static yL_turn ∈ TB ∧ Cond.initialized yL_turn.cls ∈ TB ∧ Cond.code yL_turn cL_turn 3 (some .int) ∈ TB := ⟨TBm 737 (by decide +kernel) (by decide +kernel), TBm 738 (by decide +kernel) (by decide +kernel), TBm 19 (by decide +kernel) (by decide +kernel), TBm 739 (by decide +kernel) (by decide +kernel)⟩
theorem hd_L_turn : yL_turn.cls ≠ "java/lang/invoke/MethodHandle" ∧ yL_turn.cls ≠ "java/lang/invoke/VarHandle" ∧ (parseMethodDescriptor yL_turn.desc).map (fun d => d.parameters.length) = some 2 := ⟨by decide +kernel, by decide +kernel, by decide +kernel⟩
theorem hw_L_123 : Cond.methodLink RL 123 yL_same ∈ TB ∧ Cond.static yL_same ∈ TB ∧ Cond.initialized yL_same.cls ∈ TB ∧ Cond.code yL_same cL_same 4 (some .boolean) ∈ TB := ⟨TBm 787 (by decide +kernel) (by decide +kernel), TBm 788 (by decide +kernel) (by decide +kernel), TBm 19 (by decide +kernel) (by decide +kernel), TBm 789 (by decide +kernel) (by decide +kernel)⟩
theorem hd_L_same : yL_same.cls ≠ "java/lang/invoke/MethodHandle" ∧ yL_same.cls ≠ "java/lang/invoke/VarHandle" ∧ (parseMethodDescriptor yL_same.desc).map (fun d => d.parameters.length) = some 2 := ⟨by decide +kernel, by decide +kernel, by decide +kernel⟩
/-- where a method's walk begins, whatever holds there -/
theorem g_open {l : Launch} {y : MethodName} {b : ByteArray} {n : Nat} {ret : Option FieldType} {rm : Room} {As : List Value} {B : State → Prop} {Qc : Array Value → State → Outcome → State → Prop} {free : Nat → Prop} (hy : plainName y.cls = true) (hn : (lg_sl As).length ≤ n)
    (body : ∀ p e s m args below meth c ls, p.tables.exec = Jvm.exec → c.code = b → c.maxLocals = n → meth.sig.returnType = ret → meth.locks = false → s.vm.findClass y.cls = some m.cls → (∀ x ∈ TB, x.before args s = true) → B s → lv_has ls n (lv_args 0 As) → W p l e rm s m args below meth c s.heap [] 0 0 (MQ below Qc args s 0 0 free) (F0 m 0 ls [])) : Met l y (.code y b n ret :: TB) rm (va_Pc As B) Qc 0 0 free := by
  refine Met.ofW (cc := b) (maxL := n) (ret := ret) hy rfl ?_
  intro p e s m args below meth c s₁ B hml hv
  obtain ⟨rfl, hB⟩ := hv
  have hts : ∀ x ∈ TB, x.before As.toArray s = true := fun x hx => atoms_spec B.pre x (List.mem_cons_of_mem _ hx)
  have hl := lv_entry As (n := n) hn
  rw [lg_entry_eq]
  exact body p e s m _ below meth c _ B.exec B.bytes hml B.returns B.notSynchronized (findClass_of_methodNamed B.named) hts hB hl
abbrev pcC (b L : Nat) (xs : Nat → Int32) (As : List Value) : Array Value → State → Prop := va_Pc As (fun U => va_X b L xs U U.heap ∧ b < U.heap.size)
theorem pcC_blind {b L : Nat} {xs : Nat → Int32} {As : List Value} : FrameBlind (pcC b L xs As) := fun a U g mk q => ⟨q.1, va_X.moved (u := U) (U := U.calling g mk a) (Vm.Alike.refl U.vm) q.2.1, q.2.2⟩
abbrev qiC : Array Value → State → Outcome → State → Prop := va_Qi (fun _ (_ : Unit) => True) (fun _ _ => True) F0p
set_option maxHeartbeats 4000000 in
theorem c_L_cell (l : Launch) (b L : Nat) (xs : Nat → Int32) (hL : L < 2 ^ 31) (k : Nat) (hk : k < 2 ^ 31) : Met l yL_cell (.code yL_cell cL_cell 2 (some .int) :: TB) (rmW 0 0) (pcC b L xs [.ref b, .int (nI k)]) qiC 0 0 F0p := by
  refine g_open (by decide +kernel) (Nat.le_of_ble_eq_true rfl) ?_
  intro p e s m args below meth c ls hx hb hml hr hlk hown hts hB hl
  obtain ⟨hX, hbl⟩ := hB
  have hown : s.vm.findClass RL = some m.cls := hown
  have hl : lv_has ls 2 [(0, .ref b), (1, .int (nI k))] := hl
  have hS : va_S F0p s.heap s.heap [] := va_S.rf
  have nF : ¬ F0p b := id
  refine lv_iload_n hx hb dL_cell_0 rfl (lv_at hl 1 rfl) ?_
  refine lv_aload_n hx hb dL_cell_1 rfl (lv_at hl 0 rfl) ?_
  refine va_slen hx hb hX hbl nF hS dL_cell_2 ?_
  refine lv_icmp_ge (tgt := 12) hx hb dL_cell_3 (by decide) (fun hc => ?_) (fun hc => ?_)
  · refine lv_ldc (v := (747796405 : Int32)) hx hb hown (hts _ (TBm 542 (by decide +kernel) (by decide +kernel))) dL_cell_12 ?_
    refine lv_iload_n hx hb dL_cell_14 rfl (lv_at hl 1 rfl) ?_
    refine lv_iconst (v := (1 : Int32)) hx hb dL_cell_15 (by decide) ?_
    refine lv_iadd hx hb dL_cell_16 ?_
    refine lv_imul hx hb dL_cell_17 ?_
    exact W.iret hx hb hr (fun t ht hW => ⟨⟨_, (), rfl, trivial, trivial⟩, hS.F ht⟩) hS.2.2 dL_cell_18 hlk
  · have hkL : k < L := by
      by_cases q : k < L
      · exact q
      · exact absurd (show Int32.ofNat L ≤ nI k from nI_le (by omega) hk) hc
    refine lv_aload_n hx hb dL_cell_6 rfl (lv_at hl 0 rfl) ?_
    refine lv_iload_n hx hb dL_cell_7 rfl (lv_at hl 1 rfl) ?_
    refine va_sld hx hb hX hbl nF hS (vp_in_nI hkL hL) dL_cell_8 ?_
    refine lv_goto (tgt := 18) hx hb dL_cell_9 (by decide) ?_
    exact W.iret hx hb hr (fun t ht hW => ⟨⟨_, (), rfl, trivial, trivial⟩, hS.F ht⟩) hS.2.2 dL_cell_18 hlk
