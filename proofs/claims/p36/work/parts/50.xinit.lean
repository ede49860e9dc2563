/-! Part 50: SignpostYard made (out of whole's part 50). -/
theorem hd_X1_readInto : yX1_readInto.cls = RX1 ∧ yX1_readInto.cls ≠ "java/lang/invoke/MethodHandle" ∧ yX1_readInto.cls ≠ "java/lang/invoke/VarHandle" ∧ (parseMethodDescriptor yX1_readInto.desc).map (fun d => d.parameters.length) = some 1 := ⟨rfl, by decide +kernel, by decide +kernel, by decide +kernel⟩
theorem hd_X5_paintAll : yX5_paintAll.cls = RX5 ∧ yX5_paintAll.cls ≠ "java/lang/invoke/MethodHandle" ∧ yX5_paintAll.cls ≠ "java/lang/invoke/VarHandle" ∧ (parseMethodDescriptor yX5_paintAll.desc).map (fun d => d.parameters.length) = some 0 := ⟨rfl, by decide +kernel, by decide +kernel, by decide +kernel⟩
theorem hd_X1_empty : yX1_empty.cls = RX1 ∧ yX1_empty.cls ≠ "java/lang/invoke/MethodHandle" ∧ yX1_empty.cls ≠ "java/lang/invoke/VarHandle" ∧ (parseMethodDescriptor yX1_empty.desc).map (fun d => d.parameters.length) = some 0 := ⟨rfl, by decide +kernel, by decide +kernel, by decide +kernel⟩
def ftS : String := "n6;r0,1,2;r1,2,3;r2,3,1;r3,4,4;r4,5,2;r5,0,6;r1,4,5;p0,0,10;p1,1,45;p2,4,30;p3,2,20;p0,5,59;w0,3;w5,2;w2,0;w4,1;"
theorem hwk_append : Cond.methodLink RX6 60 yX1_append ∈ TB ∧ Cond.instanceMethod yX1_append ∈ TB ∧ Cond.selects RX1 yX1_append yX1_append ∈ TB ∧ Cond.initialized RX1 ∈ TB ∧ Cond.code yX1_append cX1_append 2 (some .int) ∈ TB := ⟨TBm 223 (by decide +kernel) (by decide +kernel), TBm 224 (by decide +kernel) (by decide +kernel), TBm 225 (by decide +kernel) (by decide +kernel), TBm 21 (by decide +kernel) (by decide +kernel), TBm 226 (by decide +kernel) (by decide +kernel)⟩
theorem hwk_readInto : Cond.methodLink RX6 64 yX1_readInto ∈ TB ∧ Cond.instanceMethod yX1_readInto ∈ TB ∧ Cond.selects RX1 yX1_readInto yX1_readInto ∈ TB ∧ Cond.initialized RX1 ∈ TB ∧ Cond.code yX1_readInto cX1_readInto 4 (some .int) ∈ TB := ⟨TBm 231 (by decide +kernel) (by decide +kernel), TBm 232 (by decide +kernel) (by decide +kernel), TBm 233 (by decide +kernel) (by decide +kernel), TBm 21 (by decide +kernel) (by decide +kernel), TBm 234 (by decide +kernel) (by decide +kernel)⟩
theorem hwk_paintAll : Cond.methodLink RX6 68 yX5_paintAll ∈ TB ∧ Cond.instanceMethod yX5_paintAll ∈ TB ∧ Cond.selects RX5 yX5_paintAll yX5_paintAll ∈ TB ∧ Cond.initialized RX5 ∈ TB ∧ Cond.code yX5_paintAll cX5_paintAll 2 none ∈ TB := ⟨TBm 306 (by decide +kernel) (by decide +kernel), TBm 307 (by decide +kernel) (by decide +kernel), TBm 308 (by decide +kernel) (by decide +kernel), TBm 24 (by decide +kernel) (by decide +kernel), TBm 309 (by decide +kernel) (by decide +kernel)⟩
theorem hwk_empty : Cond.methodLink RX6 71 yX1_empty ∈ TB ∧ Cond.instanceMethod yX1_empty ∈ TB ∧ Cond.selects RX1 yX1_empty yX1_empty ∈ TB ∧ Cond.initialized RX1 ∈ TB ∧ Cond.code yX1_empty cX1_empty 2 (some .int) ∈ TB := ⟨TBm 332 (by decide +kernel) (by decide +kernel), TBm 333 (by decide +kernel) (by decide +kernel), TBm 334 (by decide +kernel) (by decide +kernel), TBm 21 (by decide +kernel) (by decide +kernel), TBm 335 (by decide +kernel) (by decide +kernel)⟩
section QA
variable {p : Program} {l : Launch} {e : Env} {R : Room} {s : State} {m : MethodId} {args : Array Value} {below : List Frame} {meth : Method} {c : Code} {H : Heap} {locs : List Loc} {cells slots : Nat} {Q : State → Prop} {cc : ByteArray} {pc : Nat} {ls : Array Slot} {rest : List Value} {D : va_G} {w : Wv} {σ : Sg} {H0 : Heap}
theorem qa_cVik (hx : p.tables.exec = Jvm.exec) (hb : c.code = cc) (hts : ∀ x ∈ TB, x.before args s = true) {own C : String} {idx maxL nL n : Nat} {y : MethodName} {bytes : ByteArray} {rm : Room} {As : List Value} {σ' : Sg} {i ci N : Nat} {T : u_T} {fs : List Value} {r : Int32} (hml : c.maxLocals = nL) (hown : s.vm.findClass own = some m.cls) (hK : KN D w s) (hP : va_P D vwCl (WL w σ) H) {A0 : Nat → Prop} (hS : va_S A0 H0 H locs) (hAA : ∀ q, AL w q → A0 q) (hM : Met l y (.code y bytes maxL (some .int) :: TB) rm (pcW D w (.ref (w.1 i) :: As) σ) (qiW D w r σ') 0 0 (AL w))
    (hw : Cond.methodLink own idx y ∈ TB ∧ Cond.instanceMethod y ∈ TB ∧ Cond.selects C y y ∈ TB ∧ Cond.initialized C ∈ TB ∧ Cond.code y bytes maxL (some .int) ∈ TB)
    (hd : y.cls = C ∧ y.cls ≠ "java/lang/invoke/MethodHandle" ∧ y.cls ≠ "java/lang/invoke/VarHandle" ∧ (parseMethodDescriptor y.desc).map (fun d => d.parameters.length) = some n) (hrm : rm.cells = 0 ∧ rm.slots = 0 ∧ As.length = n) (hi : i < 184) (hce : ce w σ i = .inr (ci, fs)) (hc : vwCl[ci]? = some (C, T, N)) (hR : rm.frames + 1 ≤ R.frames ∧ 8 + (maxL + 11) + rm.locals ≤ R.locals) (hcs : cells ≤ R.cells ∧ slots ≤ R.slots) (hsz : ls.size = nL) {st : List Value} (hst : st = As.reverse ++ .ref (w.1 i) :: rest) (hrest : (rest.map fun v => v.category).sum ≤ 8) (hdg : decode cc pc = .ok (.invokevirtual idx, 3))
    (kk : ∀ (H : Heap) (locs : List Loc), va_P D vwCl (WL w σ') H → va_S A0 H0 H locs → W p l e R s m args below meth c H locs cells slots Q (F0 m (pc + 3) ls (.int r :: rest))) : W p l e R s m args below meth c H locs cells slots Q (F0 m pc ls st) := by
  subst hst
  refine va_calli (va_runV (As := As) (rest := rest) ⟨hx, hb, hml, hown, hts⟩ hM (cwV n hts (good_V hw) rfl hrm.1 hrm.2.1 hd hR) ⟨pcW_blind, va_recv hK.1 hP hc ((WL_get hi).trans (by rw [hce])), pcW_pre hP hK⟩ rfl hrm.2.2 hsz rfl (lv_room hrest) hdg hcs) hS (fun q _ h => hAA q h) (fun q h => hAA q h) (fun r' u t H1 locs1 ht hvm hpost hB hz hk hS1 => ?_)
  have hpost : r' = r := hpost
  subst hpost
  exact kk H1 locs1 (by rw [← ht]; exact hB) hS1
theorem qa_cVvk (hx : p.tables.exec = Jvm.exec) (hb : c.code = cc) (hts : ∀ x ∈ TB, x.before args s = true) {own C : String} {idx maxL nL n : Nat} {y : MethodName} {bytes : ByteArray} {rm : Room} {As : List Value} {σ' : Sg} {i ci N : Nat} {T : u_T} {fs : List Value}  (hml : c.maxLocals = nL) (hown : s.vm.findClass own = some m.cls) (hK : KN D w s) (hP : va_P D vwCl (WL w σ) H) {A0 : Nat → Prop} (hS : va_S A0 H0 H locs) (hAA : ∀ q, AL w q → A0 q) (hM : Met l y (.code y bytes maxL none :: TB) rm (pcW D w (.ref (w.1 i) :: As) σ) (qvW D w σ') 0 0 (AL w))
    (hw : Cond.methodLink own idx y ∈ TB ∧ Cond.instanceMethod y ∈ TB ∧ Cond.selects C y y ∈ TB ∧ Cond.initialized C ∈ TB ∧ Cond.code y bytes maxL none ∈ TB)
    (hd : y.cls = C ∧ y.cls ≠ "java/lang/invoke/MethodHandle" ∧ y.cls ≠ "java/lang/invoke/VarHandle" ∧ (parseMethodDescriptor y.desc).map (fun d => d.parameters.length) = some n) (hrm : rm.cells = 0 ∧ rm.slots = 0 ∧ As.length = n) (hi : i < 184) (hce : ce w σ i = .inr (ci, fs)) (hc : vwCl[ci]? = some (C, T, N)) (hR : rm.frames + 1 ≤ R.frames ∧ 8 + (maxL + 11) + rm.locals ≤ R.locals) (hcs : cells ≤ R.cells ∧ slots ≤ R.slots) (hsz : ls.size = nL) {st : List Value} (hst : st = As.reverse ++ .ref (w.1 i) :: rest) (hrest : (rest.map fun v => v.category).sum ≤ 8) (hdg : decode cc pc = .ok (.invokevirtual idx, 3))
    (kk : ∀ (H : Heap) (locs : List Loc), va_P D vwCl (WL w σ') H → va_S A0 H0 H locs → W p l e R s m args below meth c H locs cells slots Q (F0 m (pc + 3) ls (rest))) : W p l e R s m args below meth c H locs cells slots Q (F0 m pc ls st) := by
  subst hst
  refine va_callv (va_runV (As := As) (rest := rest) ⟨hx, hb, hml, hown, hts⟩ hM (cwV n hts (good_V hw) rfl hrm.1 hrm.2.1 hd hR) ⟨pcW_blind, va_recv hK.1 hP hc ((WL_get hi).trans (by rw [hce])), pcW_pre hP hK⟩ rfl hrm.2.2 hsz rfl (lv_room hrest) hdg hcs) hS (fun q _ h => hAA q h) (fun q h => hAA q h) (fun u t H1 locs1 ht hvm hpost hB hz hk hS1 => ?_)
  exact kk H1 locs1 (by rw [← ht]; exact hB) hS1
end QA
theorem sL_len {cI cY : ClassId} {cap h0 q : Nat} {b : Nat → Nat → Nat} : (sL cI cY cap h0 q b).length = 2 + 14 * cap := by
  unfold sL
  rw [List.length_append, ysL_len]
  rfl
abbrev x0L (h0 : Nat) : va_W := [(h0, .inr (6, [.null, .null, .null, .null, .null, .null, .null]))]
abbrev pcX (D : va_G) (w : Wv) (q v h0 sz : Nat) : Array Value → State → Prop := va_Pc [.ref h0] (fun U => U.heap.size = sz ∧ va_P D vwCl (x0L h0) U.heap ∧ KN2 D w U ∧ va_D (fun _ => True) (x0L h0) ∧ SF q v (va_A (x0L h0) sz) U U.heap ∧ vk_R RX6 48 ftS q U)
theorem pcX_blind {D : va_G} {w : Wv} {q v h0 sz : Nat} : FrameBlind (pcX D w q v h0 sz) := fun a U g mk z => ⟨z.1, z.2.1, z.2.2.1, ⟨⟨va_K.moved (u := U) (U := U.calling g mk a) (Vm.Alike.refl U.vm) z.2.2.2.1.1.1, va_tabs rfl (rfl : U.vm = (U.calling g mk a).vm) z.2.2.2.1.1.2⟩, va_AO.moved (u := U) (U := U.calling g mk a) (Vm.Alike.refl U.vm) z.2.2.2.1.2⟩, z.2.2.2.2.1, SF.moved (u := U) (U := U.calling g mk a) (Vm.Alike.refl U.vm) z.2.2.2.2.2.1, vk_R.same (u := U) (U := U.calling g mk a) rfl z.2.2.2.2.2.2⟩
abbrev qvX (D : va_G) (w : Wv) (h0 : Nat) (A : Nat → Prop) : Array Value → State → Outcome → State → Prop := va_Qv (fun u : (Nat → Nat) × Sg => u.1 0 = h0 ∧ Inj (u.1, w.2) ∧ CI u.2) (fun u t => va_P D vwCl (WL (u.1, w.2) u.2) t.heap ∧ ∀ i, i < 184 → A (u.1 i)) A
set_option maxHeartbeats 8000000 in
set_option maxRecDepth 100000 in
theorem c_X6_init (l : Launch) (D : va_G) (w : Wv) (q v h0 sz : Nat) : Met l yX6_init (.code yX6_init cX6_init 2 none :: TB) (rmK 6 138 183 4051) (pcX D w q v h0 sz) (qvX D w h0 (va_A (x0L h0) sz)) 183 4051 (va_A (x0L h0) sz) := by
  refine Met.ofW (cc := cX6_init) (maxL := 2) (ret := none) (by decide +kernel) rfl ?_
  intro p e s m args below meth c s₁ B hml hv
  obtain ⟨rfl, hsz, hP, hK, hD0, hF, hZ⟩ := hv
  subst hsz
  have hts : ∀ x ∈ TB, x.before ([.ref h0] : List Value).toArray s = true := fun x hx => atoms_spec B.pre x (List.mem_cons_of_mem _ hx)
  have hl := lv_entry ([.ref h0] : List Value) (n := 2) (Nat.le_of_ble_eq_true rfl)
  rw [lg_entry_eq]
  have hx := B.exec
  have hb := B.bytes
  have hr := B.returns
  have hlk := B.notSynchronized
  have hin : meth.name = "<init>" := (name_of_methodNamed B.named B.method).1
  have hown : s.vm.findClass RX6 = some m.cls := findClass_of_methodNamed B.named
  have hD := hD0.self (sz := s.heap.size)
  generalize hAe : va_A (x0L h0) s.heap.size = A at hD hF ⊢
  have hA : ∀ q : Nat, s.heap.size ≤ q → A q := fun q h => by rw [← hAe]; exact Or.inr h
  have hS : va_S A s.heap s.heap [] := va_S.rf
  generalize (lg_sl ([.ref h0] : List Value) ++ List.replicate (2 - (lg_sl ([.ref h0] : List Value)).length) Slot.unset).toArray = ls at hl ⊢
  generalize ([.ref h0] : List Value).toArray = args at hts ⊢
  have hl : lv_has ls 2 [(0, .ref h0)] := hl
  show W p l e (rmK 6 138 183 4051) s m args below meth c s.heap [] 0 0 (MQ below (qvX D w h0 A) args s 183 4051 A) (F0 m 0 ls [])
  refine lv_aload_n hx hb dX6_init_0 rfl (lv_at hl 0 rfl) ?_
  refine W.objInit hx hb hown (hts _ ty_39) (hts _ ty_40) (hts _ ty_41) rfl (by rw [hml]; exact hl.1) rfl dX6_init_1 (Nat.le_of_ble_eq_true rfl) (Nat.le_of_ble_eq_true rfl) ?_
  refine W.eq (g2 := F0 m 4 ls []) rfl ?_
  refine lv_aload_n hx hb dX6_init_4 rfl (lv_at hl 0 rfl) ?_
  refine va_new (ci := 1) (fs := [.null, .null, .int 0, .int 0]) (C := RX1) (T := TX1) (N := 4) hx hb hts inT1 tyX1 tyX1_ok hown (hts _ ty_42) (hts _ ty_43) (hts _ tw_21) hK.1.1 hP hD hS hA rfl (fun j hj => by rcases (show j = 0 ∨ j = 1 ∨ j = 2 ∨ j = 3 by omega) with rfl | rfl | rfl | rfl <;> rfl) (Nat.le_of_ble_eq_true rfl) (Nat.le_of_ble_eq_true rfl) dX6_init_5 (fun q1 H hP hD hS => ?_)
  refine lv_dup hx hb dX6_init_8 rfl ?_
  refine k_ctor hx hb hml hown hts hK (As := []) (rest := [.ref q1, .ref h0]) (c_X1_init l D w q1) ⟨ty_44, ty_45, tw_21, ty_46⟩ rfl ⟨by decide +kernel, by decide +kernel, by decide +kernel⟩ rfl ⟨Nat.le_of_ble_eq_true rfl, Nat.le_of_ble_eq_true rfl⟩ ⟨Nat.le_of_ble_eq_true rfl, Nat.le_of_ble_eq_true rfl⟩ hl.1 rfl (Nat.le_of_ble_eq_true rfl) hP hD hS hA dX6_init_9 (fun w1 H locs hw hP hD hS => ?_)
  obtain ⟨b1, hb1, rfl⟩ := hw
  rw [hb1]
  have hP : va_P D vwCl ([(h0, .inr (6, [.null, .null, .null, .null, .null, .null, .null]))] ++ lL w.2.2.1 b1) H := hP
  have hD : va_D A ([(h0, .inr (6, [.null, .null, .null, .null, .null, .null, .null]))] ++ lL w.2.2.1 b1) := hD
  refine va_putF hx hb hts inT6 tyX6 tyX6_ok nmX6 hown hK.1.1 hP hD hS 0 rfl rfl 0 (by decide) (hts _ tw_336) (fun _ h => h) rfl hin rfl (tyX6_ok 0 (by decide)) rfl rfl (Nat.le_of_ble_eq_true rfl) dX6_init_12 (fun H locs hP hD hS => ?_)
  have hP : va_P D vwCl ([(h0, .inr (6, [.ref (b1 0), .null, .null, .null, .null, .null, .null]))] ++ lL w.2.2.1 b1) H := hP
  have hD : va_D A ([(h0, .inr (6, [.ref (b1 0), .null, .null, .null, .null, .null, .null]))] ++ lL w.2.2.1 b1) := hD
  refine lv_aload_n hx hb dX6_init_15 rfl (lv_at hl 0 rfl) ?_
  refine va_new (ci := 5) (fs := [.null, .null, .null, .null, .null, .int 0, .int 0, .int 0, .int 0, .int 0]) (C := RX5) (T := TX5) (N := 10) hx hb hts inT5 tyX5 tyX5_ok hown (hts _ ty_81) (hts _ ty_82) (hts _ tw_24) hK.1.1 hP hD hS hA rfl (fun j hj => by rcases (show j = 0 ∨ j = 1 ∨ j = 2 ∨ j = 3 ∨ j = 4 ∨ j = 5 ∨ j = 6 ∨ j = 7 ∨ j = 8 ∨ j = 9 by omega) with rfl | rfl | rfl | rfl | rfl | rfl | rfl | rfl | rfl | rfl <;> rfl) (Nat.le_of_ble_eq_true rfl) (Nat.le_of_ble_eq_true rfl) dX6_init_16 (fun q2 H hP hD hS => ?_)
  refine lv_dup hx hb dX6_init_19 rfl ?_
  refine k_ctor hx hb hml hown hts hK (As := []) (rest := [.ref q2, .ref h0]) (c_X5_init l D w q2) ⟨ty_83, ty_84, tw_24, ty_85⟩ rfl ⟨by decide +kernel, by decide +kernel, by decide +kernel⟩ rfl ⟨Nat.le_of_ble_eq_true rfl, Nat.le_of_ble_eq_true rfl⟩ ⟨Nat.le_of_ble_eq_true rfl, Nat.le_of_ble_eq_true rfl⟩ hl.1 rfl (Nat.le_of_ble_eq_true rfl) hP hD hS hA dX6_init_20 (fun w1 H locs hw hP hD hS => ?_)
  obtain ⟨b2, hb2, rfl⟩ := hw
  rw [hb2]
  have hP : va_P D vwCl ([(h0, .inr (6, [.ref (b1 0), .null, .null, .null, .null, .null, .null]))] ++ lL w.2.2.1 b1 ++ yL w.2.2.1 b2) H := hP
  have hD : va_D A ([(h0, .inr (6, [.ref (b1 0), .null, .null, .null, .null, .null, .null]))] ++ lL w.2.2.1 b1 ++ yL w.2.2.1 b2) := hD
  refine va_putF hx hb hts inT6 tyX6 tyX6_ok nmX6 hown hK.1.1 hP hD hS 0 rfl rfl 1 (by decide) (hts _ tw_337) (fun _ h => h) rfl hin rfl (tyX6_ok 1 (by decide)) rfl rfl (Nat.le_of_ble_eq_true rfl) dX6_init_23 (fun H locs hP hD hS => ?_)
  have hP : va_P D vwCl ([(h0, .inr (6, [.ref (b1 0), .ref (b2 0), .null, .null, .null, .null, .null]))] ++ lL w.2.2.1 b1 ++ yL w.2.2.1 b2) H := hP
  have hD : va_D A ([(h0, .inr (6, [.ref (b1 0), .ref (b2 0), .null, .null, .null, .null, .null]))] ++ lL w.2.2.1 b1 ++ yL w.2.2.1 b2) := hD
  refine lv_aload_n hx hb dX6_init_26 rfl (lv_at hl 0 rfl) ?_
  refine va_new (ci := 5) (fs := [.null, .null, .null, .null, .null, .int 0, .int 0, .int 0, .int 0, .int 0]) (C := RX5) (T := TX5) (N := 10) hx hb hts inT5 tyX5 tyX5_ok hown (hts _ ty_81) (hts _ ty_82) (hts _ tw_24) hK.1.1 hP hD hS hA rfl (fun j hj => by rcases (show j = 0 ∨ j = 1 ∨ j = 2 ∨ j = 3 ∨ j = 4 ∨ j = 5 ∨ j = 6 ∨ j = 7 ∨ j = 8 ∨ j = 9 by omega) with rfl | rfl | rfl | rfl | rfl | rfl | rfl | rfl | rfl | rfl <;> rfl) (Nat.le_of_ble_eq_true rfl) (Nat.le_of_ble_eq_true rfl) dX6_init_27 (fun q3 H hP hD hS => ?_)
  refine lv_dup hx hb dX6_init_30 rfl ?_
  refine k_ctor hx hb hml hown hts hK (As := []) (rest := [.ref q3, .ref h0]) (c_X5_init l D w q3) ⟨ty_83, ty_84, tw_24, ty_85⟩ rfl ⟨by decide +kernel, by decide +kernel, by decide +kernel⟩ rfl ⟨Nat.le_of_ble_eq_true rfl, Nat.le_of_ble_eq_true rfl⟩ ⟨Nat.le_of_ble_eq_true rfl, Nat.le_of_ble_eq_true rfl⟩ hl.1 rfl (Nat.le_of_ble_eq_true rfl) hP hD hS hA dX6_init_31 (fun w1 H locs hw hP hD hS => ?_)
  obtain ⟨b3, hb3, rfl⟩ := hw
  rw [hb3]
  have hP : va_P D vwCl ([(h0, .inr (6, [.ref (b1 0), .ref (b2 0), .null, .null, .null, .null, .null]))] ++ lL w.2.2.1 b1 ++ yL w.2.2.1 b2 ++ yL w.2.2.1 b3) H := hP
  have hD : va_D A ([(h0, .inr (6, [.ref (b1 0), .ref (b2 0), .null, .null, .null, .null, .null]))] ++ lL w.2.2.1 b1 ++ yL w.2.2.1 b2 ++ yL w.2.2.1 b3) := hD
  refine va_putF hx hb hts inT6 tyX6 tyX6_ok nmX6 hown hK.1.1 hP hD hS 0 rfl rfl 2 (by decide) (hts _ tw_338) (fun _ h => h) rfl hin rfl (tyX6_ok 2 (by decide)) rfl rfl (Nat.le_of_ble_eq_true rfl) dX6_init_34 (fun H locs hP hD hS => ?_)
  have hP : va_P D vwCl ([(h0, .inr (6, [.ref (b1 0), .ref (b2 0), .ref (b3 0), .null, .null, .null, .null]))] ++ lL w.2.2.1 b1 ++ yL w.2.2.1 b2 ++ yL w.2.2.1 b3) H := hP
  have hD : va_D A ([(h0, .inr (6, [.ref (b1 0), .ref (b2 0), .ref (b3 0), .null, .null, .null, .null]))] ++ lL w.2.2.1 b1 ++ yL w.2.2.1 b2 ++ yL w.2.2.1 b3) := hD
  refine lv_aload_n hx hb dX6_init_37 rfl (lv_at hl 0 rfl) ?_
  refine va_new (ci := 4) (fs := [.null, .int 0, .int 0]) (C := RX4) (T := TX4) (N := 3) hx hb hts inT4 tyX4 tyX4_ok hown (hts _ ty_138) (hts _ ty_139) (hts _ tw_26) hK.1.1 hP hD hS hA rfl (fun j hj => by rcases (show j = 0 ∨ j = 1 ∨ j = 2 by omega) with rfl | rfl | rfl <;> rfl) (Nat.le_of_ble_eq_true rfl) (Nat.le_of_ble_eq_true rfl) dX6_init_38 (fun q4 H hP hD hS => ?_)
  refine lv_dup hx hb dX6_init_41 rfl ?_
  refine lv_bipush (v := (8 : Int32)) hx hb dX6_init_42 (by decide) ?_
  refine k_ctor hx hb hml hown hts hK (As := [.int (nI 8)]) (rest := [.ref q4, .ref h0]) (c_X4_init l D w q4 8 (by omega) (by omega)) ⟨ty_140, ty_141, tw_26, ty_142⟩ rfl ⟨by decide +kernel, by decide +kernel, by decide +kernel⟩ rfl ⟨Nat.le_of_ble_eq_true rfl, Nat.le_of_ble_eq_true rfl⟩ ⟨Nat.le_of_ble_eq_true rfl, Nat.le_of_ble_eq_true rfl⟩ hl.1 rfl (Nat.le_of_ble_eq_true rfl) hP hD hS hA dX6_init_44 (fun w1 H locs hw hP hD hS => ?_)
  obtain ⟨sq4, sb4, rfl⟩ := hw
  have hP : va_P D vwCl ([(h0, .inr (6, [.ref (b1 0), .ref (b2 0), .ref (b3 0), .null, .null, .null, .null]))] ++ lL w.2.2.1 b1 ++ yL w.2.2.1 b2 ++ yL w.2.2.1 b3 ++ sL w.2.2.1 w.2.2.2 8 q4 sq4 sb4) H := hP
  have hD : va_D A ([(h0, .inr (6, [.ref (b1 0), .ref (b2 0), .ref (b3 0), .null, .null, .null, .null]))] ++ lL w.2.2.1 b1 ++ yL w.2.2.1 b2 ++ yL w.2.2.1 b3 ++ sL w.2.2.1 w.2.2.2 8 q4 sq4 sb4) := hD
  refine va_putF hx hb hts inT6 tyX6 tyX6_ok nmX6 hown hK.1.1 hP hD hS 0 rfl rfl 3 (by decide) (hts _ tw_339) (fun _ h => h) rfl hin rfl (tyX6_ok 3 (by decide)) rfl rfl (Nat.le_of_ble_eq_true rfl) dX6_init_47 (fun H locs hP hD hS => ?_)
  have hP : va_P D vwCl ([(h0, .inr (6, [.ref (b1 0), .ref (b2 0), .ref (b3 0), .ref q4, .null, .null, .null]))] ++ lL w.2.2.1 b1 ++ yL w.2.2.1 b2 ++ yL w.2.2.1 b3 ++ sL w.2.2.1 w.2.2.2 8 q4 sq4 sb4) H := hP
  have hD : va_D A ([(h0, .inr (6, [.ref (b1 0), .ref (b2 0), .ref (b3 0), .ref q4, .null, .null, .null]))] ++ lL w.2.2.1 b1 ++ yL w.2.2.1 b2 ++ yL w.2.2.1 b3 ++ sL w.2.2.1 w.2.2.2 8 q4 sq4 sb4) := hD
  refine lv_aload_n hx hb dX6_init_50 rfl (lv_at hl 0 rfl) ?_
  refine va_new (ci := 4) (fs := [.null, .int 0, .int 0]) (C := RX4) (T := TX4) (N := 3) hx hb hts inT4 tyX4 tyX4_ok hown (hts _ ty_138) (hts _ ty_139) (hts _ tw_26) hK.1.1 hP hD hS hA rfl (fun j hj => by rcases (show j = 0 ∨ j = 1 ∨ j = 2 by omega) with rfl | rfl | rfl <;> rfl) (Nat.le_of_ble_eq_true rfl) (Nat.le_of_ble_eq_true rfl) dX6_init_51 (fun q5 H hP hD hS => ?_)
  refine lv_dup hx hb dX6_init_54 rfl ?_
  refine lv_iconst (v := (2 : Int32)) hx hb dX6_init_55 (by decide) ?_
  refine k_ctor hx hb hml hown hts hK (As := [.int (nI 2)]) (rest := [.ref q5, .ref h0]) (c_X4_init l D w q5 2 (by omega) (by omega)) ⟨ty_140, ty_141, tw_26, ty_142⟩ rfl ⟨by decide +kernel, by decide +kernel, by decide +kernel⟩ rfl ⟨Nat.le_of_ble_eq_true rfl, Nat.le_of_ble_eq_true rfl⟩ ⟨Nat.le_of_ble_eq_true rfl, Nat.le_of_ble_eq_true rfl⟩ hl.1 rfl (Nat.le_of_ble_eq_true rfl) hP hD hS hA dX6_init_56 (fun w1 H locs hw hP hD hS => ?_)
  obtain ⟨sq5, sb5, rfl⟩ := hw
  have hP : va_P D vwCl ([(h0, .inr (6, [.ref (b1 0), .ref (b2 0), .ref (b3 0), .ref q4, .null, .null, .null]))] ++ lL w.2.2.1 b1 ++ yL w.2.2.1 b2 ++ yL w.2.2.1 b3 ++ sL w.2.2.1 w.2.2.2 8 q4 sq4 sb4 ++ sL w.2.2.1 w.2.2.2 2 q5 sq5 sb5) H := hP
  have hD : va_D A ([(h0, .inr (6, [.ref (b1 0), .ref (b2 0), .ref (b3 0), .ref q4, .null, .null, .null]))] ++ lL w.2.2.1 b1 ++ yL w.2.2.1 b2 ++ yL w.2.2.1 b3 ++ sL w.2.2.1 w.2.2.2 8 q4 sq4 sb4 ++ sL w.2.2.1 w.2.2.2 2 q5 sq5 sb5) := hD
  refine va_putF hx hb hts inT6 tyX6 tyX6_ok nmX6 hown hK.1.1 hP hD hS 0 rfl rfl 4 (by decide) (hts _ tw_340) (fun _ h => h) rfl hin rfl (tyX6_ok 4 (by decide)) rfl rfl (Nat.le_of_ble_eq_true rfl) dX6_init_59 (fun H locs hP hD hS => ?_)
  have hP : va_P D vwCl ([(h0, .inr (6, [.ref (b1 0), .ref (b2 0), .ref (b3 0), .ref q4, .ref q5, .null, .null]))] ++ lL w.2.2.1 b1 ++ yL w.2.2.1 b2 ++ yL w.2.2.1 b3 ++ sL w.2.2.1 w.2.2.2 8 q4 sq4 sb4 ++ sL w.2.2.1 w.2.2.2 2 q5 sq5 sb5) H := hP
  have hD : va_D A ([(h0, .inr (6, [.ref (b1 0), .ref (b2 0), .ref (b3 0), .ref q4, .ref q5, .null, .null]))] ++ lL w.2.2.1 b1 ++ yL w.2.2.1 b2 ++ yL w.2.2.1 b3 ++ sL w.2.2.1 w.2.2.2 8 q4 sq4 sb4 ++ sL w.2.2.1 w.2.2.2 2 q5 sq5 sb5) := hD
  refine lv_aload_n hx hb dX6_init_62 rfl (lv_at hl 0 rfl) ?_
  refine va_new (ci := 2) (fs := [.null, .int 0]) (C := RX2) (T := TX2) (N := 2) hx hb hts inT2 tyX2 tyX2_ok hown (hts _ ty_159) (hts _ ty_160) (hts _ tw_27) hK.1.1 hP hD hS hA rfl (fun j hj => by rcases (show j = 0 ∨ j = 1 by omega) with rfl | rfl <;> rfl) (Nat.le_of_ble_eq_true rfl) (Nat.le_of_ble_eq_true rfl) dX6_init_63 (fun q6 H hP hD hS => ?_)
  refine lv_dup hx hb dX6_init_66 rfl ?_
  refine k_ctor hx hb hml hown hts hK (As := []) (rest := [.ref q6, .ref h0]) (c_X2_init l D w q6) ⟨ty_161, ty_162, tw_27, ty_163⟩ rfl ⟨by decide +kernel, by decide +kernel, by decide +kernel⟩ rfl ⟨Nat.le_of_ble_eq_true rfl, Nat.le_of_ble_eq_true rfl⟩ ⟨Nat.le_of_ble_eq_true rfl, Nat.le_of_ble_eq_true rfl⟩ hl.1 rfl (Nat.le_of_ble_eq_true rfl) hP hD hS hA dX6_init_67 (fun w1 H locs hw hP hD hS => ?_)
  obtain ⟨b6, hb6, rfl⟩ := hw
  rw [hb6]
  have hP : va_P D vwCl ([(h0, .inr (6, [.ref (b1 0), .ref (b2 0), .ref (b3 0), .ref q4, .ref q5, .null, .null]))] ++ lL w.2.2.1 b1 ++ yL w.2.2.1 b2 ++ yL w.2.2.1 b3 ++ sL w.2.2.1 w.2.2.2 8 q4 sq4 sb4 ++ sL w.2.2.1 w.2.2.2 2 q5 sq5 sb5 ++ nL w.2.2.1 b6) H := hP
  have hD : va_D A ([(h0, .inr (6, [.ref (b1 0), .ref (b2 0), .ref (b3 0), .ref q4, .ref q5, .null, .null]))] ++ lL w.2.2.1 b1 ++ yL w.2.2.1 b2 ++ yL w.2.2.1 b3 ++ sL w.2.2.1 w.2.2.2 8 q4 sq4 sb4 ++ sL w.2.2.1 w.2.2.2 2 q5 sq5 sb5 ++ nL w.2.2.1 b6) := hD
  refine va_putF hx hb hts inT6 tyX6 tyX6_ok nmX6 hown hK.1.1 hP hD hS 0 rfl rfl 5 (by decide) (hts _ tw_341) (fun _ h => h) rfl hin rfl (tyX6_ok 5 (by decide)) rfl rfl (Nat.le_of_ble_eq_true rfl) dX6_init_70 (fun H locs hP hD hS => ?_)
  have hP : va_P D vwCl ([(h0, .inr (6, [.ref (b1 0), .ref (b2 0), .ref (b3 0), .ref q4, .ref q5, .ref (b6 0), .null]))] ++ lL w.2.2.1 b1 ++ yL w.2.2.1 b2 ++ yL w.2.2.1 b3 ++ sL w.2.2.1 w.2.2.2 8 q4 sq4 sb4 ++ sL w.2.2.1 w.2.2.2 2 q5 sq5 sb5 ++ nL w.2.2.1 b6) H := hP
  have hD : va_D A ([(h0, .inr (6, [.ref (b1 0), .ref (b2 0), .ref (b3 0), .ref q4, .ref q5, .ref (b6 0), .null]))] ++ lL w.2.2.1 b1 ++ yL w.2.2.1 b2 ++ yL w.2.2.1 b3 ++ sL w.2.2.1 w.2.2.2 8 q4 sq4 sb4 ++ sL w.2.2.1 w.2.2.2 2 q5 sq5 sb5 ++ nL w.2.2.1 b6) := hD
  refine lv_aload_n hx hb dX6_init_73 rfl (lv_at hl 0 rfl) ?_
  refine va_new (ci := 2) (fs := [.null, .int 0]) (C := RX2) (T := TX2) (N := 2) hx hb hts inT2 tyX2 tyX2_ok hown (hts _ ty_159) (hts _ ty_160) (hts _ tw_27) hK.1.1 hP hD hS hA rfl (fun j hj => by rcases (show j = 0 ∨ j = 1 by omega) with rfl | rfl <;> rfl) (Nat.le_of_ble_eq_true rfl) (Nat.le_of_ble_eq_true rfl) dX6_init_74 (fun q7 H hP hD hS => ?_)
  refine lv_dup hx hb dX6_init_77 rfl ?_
  refine k_ctor hx hb hml hown hts hK (As := []) (rest := [.ref q7, .ref h0]) (c_X2_init l D w q7) ⟨ty_161, ty_162, tw_27, ty_163⟩ rfl ⟨by decide +kernel, by decide +kernel, by decide +kernel⟩ rfl ⟨Nat.le_of_ble_eq_true rfl, Nat.le_of_ble_eq_true rfl⟩ ⟨Nat.le_of_ble_eq_true rfl, Nat.le_of_ble_eq_true rfl⟩ hl.1 rfl (Nat.le_of_ble_eq_true rfl) hP hD hS hA dX6_init_78 (fun w1 H locs hw hP hD hS => ?_)
  obtain ⟨b7, hb7, rfl⟩ := hw
  rw [hb7]
  have hP : va_P D vwCl ([(h0, .inr (6, [.ref (b1 0), .ref (b2 0), .ref (b3 0), .ref q4, .ref q5, .ref (b6 0), .null]))] ++ lL w.2.2.1 b1 ++ yL w.2.2.1 b2 ++ yL w.2.2.1 b3 ++ sL w.2.2.1 w.2.2.2 8 q4 sq4 sb4 ++ sL w.2.2.1 w.2.2.2 2 q5 sq5 sb5 ++ nL w.2.2.1 b6 ++ nL w.2.2.1 b7) H := hP
  have hD : va_D A ([(h0, .inr (6, [.ref (b1 0), .ref (b2 0), .ref (b3 0), .ref q4, .ref q5, .ref (b6 0), .null]))] ++ lL w.2.2.1 b1 ++ yL w.2.2.1 b2 ++ yL w.2.2.1 b3 ++ sL w.2.2.1 w.2.2.2 8 q4 sq4 sb4 ++ sL w.2.2.1 w.2.2.2 2 q5 sq5 sb5 ++ nL w.2.2.1 b6 ++ nL w.2.2.1 b7) := hD
  refine va_putF hx hb hts inT6 tyX6 tyX6_ok nmX6 hown hK.1.1 hP hD hS 0 rfl rfl 6 (by decide) (hts _ tw_342) (fun _ h => h) rfl hin rfl (tyX6_ok 6 (by decide)) rfl rfl (Nat.le_of_ble_eq_true rfl) dX6_init_81 (fun H locs hP hD hS => ?_)
  have hP : va_P D vwCl ([(h0, .inr (6, [.ref (b1 0), .ref (b2 0), .ref (b3 0), .ref q4, .ref q5, .ref (b6 0), .ref (b7 0)]))] ++ lL w.2.2.1 b1 ++ yL w.2.2.1 b2 ++ yL w.2.2.1 b3 ++ sL w.2.2.1 w.2.2.2 8 q4 sq4 sb4 ++ sL w.2.2.1 w.2.2.2 2 q5 sq5 sb5 ++ nL w.2.2.1 b6 ++ nL w.2.2.1 b7) H := hP
  have hD : va_D A ([(h0, .inr (6, [.ref (b1 0), .ref (b2 0), .ref (b3 0), .ref q4, .ref q5, .ref (b6 0), .ref (b7 0)]))] ++ lL w.2.2.1 b1 ++ yL w.2.2.1 b2 ++ yL w.2.2.1 b3 ++ sL w.2.2.1 w.2.2.2 8 q4 sq4 sb4 ++ sL w.2.2.1 w.2.2.2 2 q5 sq5 sb5 ++ nL w.2.2.1 b6 ++ nL w.2.2.1 b7) := hD
  obtain ⟨aF, haF⟩ : ∃ aF : Nat → Nat, aF = fun i => if i < 1 then h0 else if i < 6 then b1 (i - 1) else if i < 20 then b2 (i - 6) else if i < 34 then b3 (i - 20) else if i < 35 then q4 else if i < 36 then sq4 else if i < 148 then sb4 ((i - 36) / 14) ((i - 36) % 14) else if i < 149 then q5 else if i < 150 then sq5 else if i < 178 then sb5 ((i - 150) / 14) ((i - 150) % 14) else if i < 181 then b6 (i - 178) else b7 (i - 181) := ⟨_, rfl⟩
  have f0 : h0 = aF 0 := by rw [haF]; rfl
  have f1 : ∀ j, j < 5 → b1 j = aF (1 + j) := fun j hj => by
    rw [haF]; dsimp only
    rw [if_neg (by omega), if_pos (by omega), show 1 + j - 1 = j by omega]
  have f2 : ∀ j, j < 14 → b2 j = aF (6 + j) := fun j hj => by
    rw [haF]; dsimp only
    rw [if_neg (by omega), if_neg (by omega), if_pos (by omega), show 6 + j - 6 = j by omega]
  have f3 : ∀ j, j < 14 → b3 j = aF (20 + j) := fun j hj => by
    rw [haF]; dsimp only
    rw [if_neg (by omega), if_neg (by omega), if_neg (by omega), if_pos (by omega), show 20 + j - 20 = j by omega]
  have f4 : q4 = aF 34 := by rw [haF]; rfl
  have f5 : sq4 = aF (34 + 1) := by rw [haF]; rfl
  have f6 : ∀ k, k < 8 → ∀ j, j < 14 → sb4 k j = aF (34 + 1 + 1 + 14 * k + j) := fun k hk j hj => by
    rw [haF]; dsimp only
    rw [if_neg (by omega), if_neg (by omega), if_neg (by omega), if_neg (by omega), if_neg (by omega), if_neg (by omega), if_pos (by omega), show (34 + 1 + 1 + 14 * k + j - 36) / 14 = k by omega, show (34 + 1 + 1 + 14 * k + j - 36) % 14 = j by omega]
  have f7 : q5 = aF 148 := by rw [haF]; rfl
  have f8 : sq5 = aF (148 + 1) := by rw [haF]; rfl
  have f9 : ∀ k, k < 2 → ∀ j, j < 14 → sb5 k j = aF (148 + 1 + 1 + 14 * k + j) := fun k hk j hj => by
    rw [haF]; dsimp only
    rw [if_neg (by omega), if_neg (by omega), if_neg (by omega), if_neg (by omega), if_neg (by omega), if_neg (by omega), if_neg (by omega), if_neg (by omega), if_neg (by omega), if_pos (by omega), show (148 + 1 + 1 + 14 * k + j - 150) / 14 = k by omega, show (148 + 1 + 1 + 14 * k + j - 150) % 14 = j by omega]
  have f10 : ∀ j, j < 3 → b6 j = aF (178 + j) := fun j hj => by
    rw [haF]; dsimp only
    rw [if_neg (by omega), if_neg (by omega), if_neg (by omega), if_neg (by omega), if_neg (by omega), if_neg (by omega), if_neg (by omega), if_neg (by omega), if_neg (by omega), if_neg (by omega), if_pos (by omega), show 178 + j - 178 = j by omega]
  have f11 : ∀ j, j < 3 → b7 j = aF (181 + j) := fun j hj => by
    rw [haF]; dsimp only
    rw [if_neg (by omega), if_neg (by omega), if_neg (by omega), if_neg (by omega), if_neg (by omega), if_neg (by omega), if_neg (by omega), if_neg (by omega), if_neg (by omega), if_neg (by omega), if_neg (by omega), show 181 + j - 181 = j by omega]
  clear haF
  have seg : Seg D (aF, w.2) z0 H 0 ([(h0, .inr (6, [.ref (b1 0), .ref (b2 0), .ref (b3 0), .ref q4, .ref q5, .ref (b6 0), .ref (b7 0)]))] ++ lL w.2.2.1 b1 ++ yL w.2.2.1 b2 ++ yL w.2.2.1 b3 ++ sL w.2.2.1 w.2.2.2 8 q4 sq4 sb4 ++ sL w.2.2.1 w.2.2.2 2 q5 sq5 sb5 ++ nL w.2.2.1 b6 ++ nL w.2.2.1 b7) := by
    refine Seg.app (b2 := 181) (Seg.app (b2 := 178) (Seg.app (b2 := 148) (Seg.app (b2 := 34) (Seg.app (b2 := 20) (Seg.app (b2 := 6) (Seg.app (b2 := 1) (Seg.one f0 ?_) rfl (Seg.l f1)) rfl (Seg.y gY6 f2)) rfl (Seg.y gY20 f3)) rfl (Seg.s (by decide) (by decide) (by decide) f4 f5 (fun k hk => gYu hk) f6)) ?_ (Seg.s (by decide) (by decide) (by decide) f7 f8 (fun k hk => gYk hk) f9)) ?_ (Seg.n (by decide) (gd_of (by decide +kernel)) (by decide) f10)) ?_ (Seg.n (by decide) (gd_of (by decide +kernel)) (by decide) f11)
    · rw [ce6 kd0, f1 0 (by omega), f2 0 (by omega), f3 0 (by omega), f4, f7, f10 0 (by omega), f11 0 (by omega)]
    · rw [List.length_append, sL_len]; rfl
    · rw [List.length_append, List.length_append, sL_len, sL_len]; rfl
    · rw [List.length_append, List.length_append, List.length_append, sL_len, sL_len]; rfl
  obtain ⟨hP, hJ, hAl⟩ := Seg.done seg (by rw [List.length_append, List.length_append, List.length_append, List.length_append, sL_len, sL_len]; rfl) hP hD
  have hAA : ∀ q, AL (aF, w.2) q → A q := fun q ⟨i, hi, e⟩ => by rw [e]; exact hAl i hi
  have hKw : KN D (aF, w.2) s := hK.1
  clear seg hD
  have hl : lv_has ls 2 [(0, .ref (aF 0))] := by rw [← f0]; exact hl
  refine lv_iconst (v := (0 : Int32)) hx hb dX6_init_84 (by decide) ?_
  refine lv_istore_n (lv' := [(1, .int (nI 0)), (0, .ref (aF 0))]) hx hb dX6_init_85 rfl hl (by decide) rfl (fun ls hl => ?_)
  have loop : ∀ (n k : Nat), k + n = 112 → ∀ (σ : Sg) (H : Heap) (locs : List Loc) (ls : Array Slot), AI k σ → va_P D vwCl (WL (aF, w.2) σ) H → va_S A s.heap H locs → lv_has ls 2 [(1, .int (nI k)), (0, .ref (aF 0))] → W p l e (rmK 6 138 183 4051) s m args below meth c H locs 183 4051 (MQ below (qvX D w h0 A) args s 183 4051 A) (F0 m 86 ls []) := by
    have len : ∀ (k : Nat) (σ : Sg) (H : Heap) (locs : List Loc) (ls : Array Slot), va_P D vwCl (WL (aF, w.2) σ) H → va_S A s.heap H locs → lv_has ls 2 [(1, .int (nI k)), (0, .ref (aF 0))] → (∀ (H : Heap) (locs : List Loc), va_P D vwCl (WL (aF, w.2) σ) H → va_S A s.heap H locs → W p l e (rmK 6 138 183 4051) s m args below meth c H locs 183 4051 (MQ below (qvX D w h0 A) args s 183 4051 A) (F0 m 92 ls [.int 112, .int (nI k)])) → W p l e (rmK 6 138 183 4051) s m args below meth c H locs 183 4051 (MQ below (qvX D w h0 A) args s 183 4051 A) (F0 m 86 ls []) := by
      intro k σ H locs ls hP hS hl kk
      refine lv_iload_n hx hb dX6_init_86 rfl (lv_at hl 0 rfl) ?_
      refine va_ldcS hx hb hown hZ dX6_init_87 ?_
      refine va_calli (va_runV (As := []) (rest := [.int (nI k)]) ⟨hx, hb, hml, hown, hts⟩ (c_J0_length l q v) (cwV 0 hts (good_V (C := "java/lang/String") ⟨ty_175, ty_176, ty_177, ty_28, ty_178⟩) rfl rfl rfl ⟨rfl, by decide +kernel, by decide +kernel, by decide +kernel⟩ ⟨Nat.le_of_ble_eq_true rfl, Nat.le_of_ble_eq_true rfl⟩) ⟨pcS_blind, hF.recv hS, pcS_pre (hF.kept hS.2.1)⟩ rfl rfl hl.1 rfl (lv_room (Nat.le_of_ble_eq_true rfl)) dX6_init_89 ⟨Nat.le_refl _, Nat.le_refl _⟩) hS (fun _ _ h => h.elim) (fun _ h => h.elim) (fun r u t H1 locs1 ht hvm hpost hB hz hk2 hS => ?_)
      obtain ⟨rfl, -⟩ := hpost
      exact kk H1 locs1 (hP.kept (fun k q hq => hk2 q.1 ((hP k q hq).lt) id)) hS
    intro n
    induction n with
    | zero =>
      intro k hk σ H locs ls hI hP hS hl
      obtain rfl : k = 112 := by omega
      obtain ⟨σ1, σ2, σ3, r1, r3, e1, e2, e3, hC⟩ := CI_ok hI
      refine len 112 σ H locs ls hP hS hl (fun H locs hP hS => ?_)
      refine lv_icmp_ge (tgt := 115) hx hb dX6_init_92 (by decide) (fun _ => ?_) (fun hc => absurd (show (112 : Int32) ≤ nI 112 by decide) hc)
      refine lv_aload_n hx hb dX6_init_115 rfl (lv_at hl 1 rfl) ?_
      refine q_get (w := (aF, w.2)) hx hb hts inT6 hown hKw hP (by decide : 0 < 184) (ce6 kd0) rfl 0 (by decide) rfl tw_336 rfl dX6_init_116 ?_
      refine lv_aload_n hx hb dX6_init_119 rfl (lv_at hl 1 rfl) ?_
      refine q_get (w := (aF, w.2)) hx hb hts inT6 hown hKw hP (by decide : 0 < 184) (ce6 kd0) rfl 1 (by decide) rfl tw_337 rfl dX6_init_120 ?_
      refine qa_cVik (w := (aF, w.2)) (i := 1) (As := [.ref (aF 6)]) (rest := []) hx hb hts hml hown hKw hP hS hAA (c_X1_readInto l D (aF, w.2) σ 1 6 r1 σ1 isL1 isY6 hJ e1) hwk_readInto hd_X1_readInto ⟨rfl, rfl, rfl⟩ (by decide) (ce1 kd1) rfl ⟨Nat.le_of_ble_eq_true rfl, Nat.le_of_ble_eq_true rfl⟩ ⟨Nat.le_refl _, Nat.le_refl _⟩ hl.1 rfl (Nat.le_of_ble_eq_true rfl) dX6_init_123 (fun H locs hP hS => ?_)
      refine lv_pop hx hb dX6_init_126 rfl ?_
      refine lv_aload_n hx hb dX6_init_127 rfl (lv_at hl 1 rfl) ?_
      refine q_get (w := (aF, w.2)) hx hb hts inT6 hown hKw hP (by decide : 0 < 184) (ce6 kd0) rfl 1 (by decide) rfl tw_337 rfl dX6_init_128 ?_
      refine qa_cVvk (w := (aF, w.2)) (i := 6) (As := []) (rest := []) hx hb hts hml hown hKw hP hS hAA (c_X5_paintAll l D (aF, w.2) σ1 6 σ2 isY6 hJ e2) hwk_paintAll hd_X5_paintAll ⟨rfl, rfl, rfl⟩ (by decide) (ce5 (by decide)) rfl ⟨Nat.le_of_ble_eq_true rfl, Nat.le_of_ble_eq_true rfl⟩ ⟨Nat.le_refl _, Nat.le_refl _⟩ hl.1 rfl (Nat.le_of_ble_eq_true rfl) dX6_init_131 (fun H locs hP hS => ?_)
      refine lv_aload_n hx hb dX6_init_134 rfl (lv_at hl 1 rfl) ?_
      refine q_get (w := (aF, w.2)) hx hb hts inT6 hown hKw hP (by decide : 0 < 184) (ce6 kd0) rfl 0 (by decide) rfl tw_336 rfl dX6_init_135 ?_
      refine qa_cVik (w := (aF, w.2)) (i := 1) (As := []) (rest := []) hx hb hts hml hown hKw hP hS hAA (c_X1_empty l D (aF, w.2) σ2 1 r3 σ3 isL1 hJ e3) hwk_empty hd_X1_empty ⟨rfl, rfl, rfl⟩ (by decide) (ce1 kd1) rfl ⟨Nat.le_of_ble_eq_true rfl, Nat.le_of_ble_eq_true rfl⟩ ⟨Nat.le_refl _, Nat.le_refl _⟩ hl.1 rfl (Nat.le_of_ble_eq_true rfl) dX6_init_138 (fun H locs hP hS => ?_)
      refine lv_pop hx hb dX6_init_141 rfl ?_
      exact W.vret hx hb hr (fun t ht hW => ⟨⟨(aF, σ3), rfl, ⟨f0.symm, hJ, hC⟩, by show va_P D vwCl (WL (aF, w.2) σ3) t.heap; rw [ht]; exact hP, hAl⟩, hS.F ht⟩) hS.2.2 dX6_init_142 hlk
    | succ n ih =>
      intro k hk σ H locs ls hI hP hS hl
      obtain ⟨σ1, e1, hI1⟩ := AI_s hI (show k < 112 by omega)
      refine len k σ H locs ls hP hS hl (fun H locs hP hS => ?_)
      refine lv_icmp_ge (tgt := 115) hx hb dX6_init_92 (by decide) (fun hc => absurd hc (show ¬ nI 112 ≤ nI k from nI_ge (by omega) (by omega))) (fun _ => ?_)
      refine lv_aload_n hx hb dX6_init_95 rfl (lv_at hl 1 rfl) ?_
      refine q_get (w := (aF, w.2)) hx hb hts inT6 hown hKw hP (by decide : 0 < 184) (ce6 kd0) rfl 0 (by decide) rfl tw_336 rfl dX6_init_96 ?_
      refine va_ldcS hx hb hown hZ dX6_init_99 ?_
      refine lv_iload_n hx hb dX6_init_101 rfl (lv_at hl 0 rfl) ?_
      refine va_calli (va_runV (As := [.int (nI k)]) (rest := [.ref (aF 1)]) ⟨hx, hb, hml, hown, hts⟩ (c_J0_charAt l q v k (by omega)) (cwV 1 hts (good_V (C := "java/lang/String") ⟨ty_185, ty_186, ty_187, ty_28, ty_188⟩) rfl rfl rfl ⟨rfl, by decide +kernel, by decide +kernel, by decide +kernel⟩ ⟨Nat.le_of_ble_eq_true rfl, Nat.le_of_ble_eq_true rfl⟩) ⟨pcS_blind, hF.recv hS, pcS_pre (hF.kept hS.2.1)⟩ rfl rfl hl.1 rfl (lv_room (Nat.le_of_ble_eq_true rfl)) dX6_init_102 ⟨Nat.le_refl _, Nat.le_refl _⟩) hS (fun _ _ h => h.elim) (fun _ h => h.elim) (fun r u t H1 locs1 ht hvm hpost hB hz hk2 hS => ?_)
      obtain ⟨rfl, -⟩ := hpost
      have hP : va_P D vwCl (WL (aF, w.2) σ) H1 := hP.kept (fun k q hq => hk2 q.1 ((hP k q hq).lt) id)
      refine qa_cVik (w := (aF, w.2)) (i := 1) (As := [.int (nI (ftx k))]) (rest := []) hx hb hts hml hown hKw hP hS hAA (c_X1_append l D (aF, w.2) σ 1 (nI (ftx k)) (nI (k + 1)) σ1 isL1 hJ e1) hwk_append hd_X1_append ⟨rfl, rfl, rfl⟩ (by decide) (ce1 kd1) rfl ⟨Nat.le_of_ble_eq_true rfl, Nat.le_of_ble_eq_true rfl⟩ ⟨Nat.le_refl _, Nat.le_refl _⟩ hl.1 rfl (Nat.le_of_ble_eq_true rfl) dX6_init_105 (fun H locs hP hS => ?_)
      refine lv_pop hx hb dX6_init_108 rfl ?_
      refine lv_iinc (v := nI (k + 1)) (lv' := [(1, .int (nI (k + 1))), (0, .ref (aF 0))]) hx hb dX6_init_109 hl (k := 0) rfl (by rw [ii_1, nI_1]) (by decide) rfl (fun ls hl => ?_)
      refine lv_goto (tgt := 86) hx hb dX6_init_112 (by decide) ?_
      exact ih (k + 1) (by omega) σ1 H locs ls hI1 hP hS hl
  refine W.widen (k := 183) (n := 4051) (Nat.le_of_ble_eq_true rfl) (Nat.le_of_ble_eq_true rfl) ?_
  exact loop 112 0 (by omega) z0 H locs ls AI_0 hP hS hl

