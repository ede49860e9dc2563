/-! Part 48: the class alone, while the model isn't made: worlds of 184 ids, and the low contracts over them. (Printed by wip/whole/mk48.py out of parts 02-05.) -/
def WLk (w : Wv) (σ : Sg) : va_W := (List.range 184).map fun i => (w.1 i, ce w σ i)
theorem WLk_len {w : Wv} {σ : Sg} : (WLk w σ).length = 184 := by unfold WLk; rw [List.length_map, List.length_range]
theorem WLk_get {w : Wv} {σ : Sg} {i : Nat} (hi : i < 184) : (WLk w σ)[i]? = some (w.1 i, ce w σ i) := by
  unfold WLk; rw [List.getElem?_map, List.getElem?_range hi]; rfl
theorem WLk_set {w : Wv} {σ σ' : Sg} {i : Nat} {e : va_E} (hi : i < 184) (he : ce w σ' i = e) (ho : ∀ j, j ≠ i → σ' j = σ j) : (WLk w σ).set i (w.1 i, e) = WLk w σ' := by
  apply List.ext_getElem?
  intro j
  by_cases hj : j = i
  · subst hj
    rw [List.getElem?_set_self (by rw [WLk_len]; exact hi), WLk_get hi, he]
  · rw [List.getElem?_set_ne (Ne.symm hj)]
    by_cases h : j < 184
    · rw [WLk_get h, WLk_get h, ce_congr (ho j hj)]
    · rw [List.getElem?_eq_none (by rw [WLk_len]; omega), List.getElem?_eq_none (by rw [WLk_len]; omega)]
def ALk (w : Wv) : Nat → Prop := fun q => ∃ i, i < 184 ∧ q = w.1 i
def Injk (w : Wv) : Prop := ∀ i j, i < 184 → j < 184 → w.1 i = w.1 j → i = j
theorem WLk_D {w : Wv} {σ : Sg} (hJ : Injk w) : va_D (ALk w) (WLk w σ) := by
  have len : ∀ {k : Nat} {q : Nat × va_E}, (WLk w σ)[k]? = some q → k < 184 := fun {k q} h => by
    have := (List.getElem?_eq_some_iff.mp h).1
    rwa [WLk_len] at this
  refine ⟨fun i j p q hp hq h => ?_, fun k q hk => ?_⟩
  · have li := len hp
    have lj := len hq
    rw [WLk_get li] at hp
    rw [WLk_get lj] at hq
    cases hp; cases hq
    exact hJ i j li lj h
  · have lk := len hk
    rw [WLk_get lk] at hk
    cases hk
    exact ⟨k, lk, rfl⟩
def pcWk (D : va_G) (w : Wv) (As : List Value) (σ : Sg) : Array Value → State → Prop := va_Pc As (fun U => va_P D vwCl (WLk w σ) U.heap ∧ KN D w U)
theorem pcWk_blind {D : va_G} {w : Wv} {As : List Value} {σ : Sg} : FrameBlind (pcWk D w As σ) := fun a U g mk q => ⟨q.1, q.2.1, va_K.moved (u := U) (U := U.calling g mk a) (Vm.Alike.refl U.vm) q.2.2.1, va_tabs rfl (rfl : U.vm = (U.calling g mk a).vm) q.2.2.2⟩
theorem pcWk_pre {D : va_G} {w : Wv} {As : List Value} {σ : Sg} {s : State} {H : Heap} (hP : va_P D vwCl (WLk w σ) H) (hK : KN D w s) : ∀ U : State, U.heap = H → s.WarmedH U.vm → pcWk D w As σ As.toArray U := fun U hU hW => ⟨rfl, by rw [hU]; exact hP, hK.moved hW⟩
def qiWk (D : va_G) (w : Wv) (r : Int32) (σ : Sg) : Array Value → State → Outcome → State → Prop := va_Qi (fun r' (_ : Unit) => r' = r) (fun _ t => va_P D vwCl (WLk w σ) t.heap) (ALk w)
def qzWk (D : va_G) (w : Wv) (r : Int32) (σ : Sg) : Array Value → State → Outcome → State → Prop := va_Qi (fun r' (_ : Unit) => r' = r ∧ narrow .boolean (.int r) = .int r) (fun _ t => va_P D vwCl (WLk w σ) t.heap) (ALk w)
def qvWk (D : va_G) (w : Wv) (σ : Sg) : Array Value → State → Outcome → State → Prop := va_Qv (fun _ : Unit => True) (fun _ t => va_P D vwCl (WLk w σ) t.heap) (ALk w)
def qrWk (D : va_G) (w : Wv) (i : Nat) (σ : Sg) : Array Value → State → Outcome → State → Prop := va_Qr (fun _ : Unit => True) (fun _ a t => a = w.1 i ∧ va_P D vwCl (WLk w σ) t.heap) (ALk w)
/-- where a method's walk begins -/
theorem qk_open {l : Launch} {D : va_G} {w : Wv} {σ : Sg} {y : MethodName} {b : ByteArray} {n : Nat} {ret : Option FieldType} {rm : Room} {As : List Value} {Qc : Array Value → State → Outcome → State → Prop} (hy : plainName y.cls = true) (hn : (lg_sl As).length ≤ n)
    (body : ∀ p e s m args below meth c ls, p.tables.exec = Jvm.exec → c.code = b → c.maxLocals = n → meth.sig.returnType = ret → meth.locks = false → s.vm.findClass y.cls = some m.cls → (∀ x ∈ TB, x.before args s = true) → KN D w s → va_P D vwCl (WLk w σ) s.heap → va_S (ALk w) s.heap s.heap [] → lv_has ls n (lv_args 0 As) → W p l e rm s m args below meth c s.heap [] 0 0 (MQ below Qc args s 0 0 (ALk w)) (F0 m 0 ls [])) : Met l y (.code y b n ret :: TB) rm (pcWk D w As σ) Qc 0 0 (ALk w) := by
  refine Met.ofW (cc := b) (maxL := n) (ret := ret) hy rfl ?_
  intro p e s m args below meth c s₁ B hml hv
  obtain ⟨rfl, hP, hK⟩ := hv
  have hts : ∀ x ∈ TB, x.before As.toArray s = true := fun x hx => atoms_spec B.pre x (List.mem_cons_of_mem _ hx)
  have hl := lv_entry As (n := n) hn
  rw [lg_entry_eq]
  exact body p e s m _ below meth c _ B.exec B.bytes hml B.returns B.notSynchronized (findClass_of_methodNamed B.named) hts hK hP va_S.rf hl
section QR
variable {p : Program} {l : Launch} {e : Env} {R : Room} {s : State} {m : MethodId} {args : Array Value} {below : List Frame} {meth : Method} {c : Code} {H : Heap} {locs : List Loc} {cells slots : Nat} {Q : State → Prop} {cc : ByteArray} {pc : Nat} {ls : Array Slot} {rest : List Value} {D : va_G} {w : Wv} {σ : Sg} {H0 : Heap}
theorem qk_get (hx : p.tables.exec = Jvm.exec) (hb : c.code = cc) (hts : ∀ x ∈ TB, x.before args s = true) {C : String} {T : u_T} {N ci index : Nat} (hin : ∀ x ∈ u_ws C T N, x ∈ TB) (hown : s.vm.findClass C = some m.cls) (hK : KN D w s) (hP : va_P D vwCl (WLk w σ) H) {i : Nat} (hi : i < 184) {fs : List Value} (hce : ce w σ i = .inr (ci, fs)) (hc : vwCl[ci]? = some (C, T, N)) (k : Nat) (hk : k < N) (hTC : (T k).1 = C) (hlink : Cond.fieldLink C index C (T k).2.1 (T k).2.2.1 ∈ TB) {v : Value} (hv : fs[k]? = some v) (hdg : decode cc pc = .ok (.getfield index, 3))
    (kk : W p l e R s m args below meth c H locs cells slots Q (F0 m (pc + 3) ls (v :: rest))) : W p l e R s m args below meth c H locs cells slots Q (F0 m pc ls (.ref (w.1 i) :: rest)) :=
  va_get (own := C) (ref := C) hx hb hts hin hown hK.1 hP i ((WLk_get hi).trans (by rw [hce])) hc k hk (hts _ hlink) (fun _ h => hTC ▸ h) hv hdg kk
theorem qk_put (hx : p.tables.exec = Jvm.exec) (hb : c.code = cc) (hts : ∀ x ∈ TB, x.before args s = true) {C : String} {T : u_T} {N ci index : Nat} (hin : ∀ x ∈ u_ws C T N, x ∈ TB) (ty0 : Nat → FieldType) (hty : ∀ k, k < N → parseFieldDescriptor (T k).2.2.1 = some (ty0 k)) (hnm : ∀ a, a < N → ∀ b, b < N → a ≠ b → (T a).2.1 ≠ (T b).2.1) (hown : s.vm.findClass C = some m.cls) (hK : KN D w s) (hP : va_P D vwCl (WLk w σ) H) (hJ : Injk w) (hS : va_S (ALk w) H0 H locs) {i : Nat} (hi : i < 184) {fs : List Value} (hce : ce w σ i = .inr (ci, fs)) (hc : vwCl[ci]? = some (C, T, N)) (k : Nat) (hk : k < N) (hTC : (T k).1 = C) (hlink : Cond.fieldLink C index C (T k).2.1 (T k).2.2.1 ∈ TB) (hfin : (T k).2.2.2 = false) {v : Value} (hn : narrow (ty0 k) v = v) (hfit : fits (ty0 k) v = true) (hl : k < fs.length) {σ' : Sg} (hs : ∀ j, j ≠ i → σ' j = σ j) (he : ce w σ' i = .inr (ci, fs.set k v)) (hdg : decode cc pc = .ok (.putfield index, 3))
    (kk : ∀ (H : Heap) (locs : List Loc), va_P D vwCl (WLk w σ') H → va_S (ALk w) H0 H locs → W p l e R s m args below meth c H locs cells slots Q (F0 m (pc + 3) ls rest)) : W p l e R s m args below meth c H locs cells slots Q (F0 m pc ls (v :: .ref (w.1 i) :: rest)) := by
  refine va_put (own := C) (ref := C) hx hb hts hin ty0 hty hnm hown hK.1 hP (WLk_D hJ) hS i ((WLk_get hi).trans (by rw [hce])) hc k hk (hts _ hlink) (fun _ h => hTC ▸ h) hfin (hty k hk) hn hfit hl hdg (fun H1 locs1 hP1 hD1 hS1 => kk H1 locs1 ?_ hS1)
  rw [WLk_set hi he hs] at hP1
  exact hP1
theorem qk_iald (hx : p.tables.exec = Jvm.exec) (hb : c.code = cc) (hK : KN D w s) (hP : va_P D vwCl (WLk w σ) H) {i : Nat} (hi : i < 184) (hk : kd i = 9) {j v : Int32} (hg : ga (σ i) (ln i) j = some v) (hdg : decode cc pc = .ok (.iaload, 1)) (kk : W p l e R s m args below meth c H locs cells slots Q (F0 m (pc + 1) ls (.int v :: rest))) : W p l e R s m args below meth c H locs cells slots Q (F0 m pc ls (.int j :: .ref (w.1 i) :: rest)) := by
  obtain ⟨h1, rfl⟩ := ga_spec hg
  exact va_iald hx hb hK.1 hP i 1 ((WLk_get hi).trans (by rw [ce9 hk])) rfl h1 hdg kk
theorem qk_alen9 (hx : p.tables.exec = Jvm.exec) (hb : c.code = cc) (hK : KN D w s) (hP : va_P D vwCl (WLk w σ) H) {i : Nat} (hi : i < 184) (hk : kd i = 9) (hdg : decode cc pc = .ok (.arraylength, 1)) (kk : W p l e R s m args below meth c H locs cells slots Q (F0 m (pc + 1) ls (.int (Int32.ofNat (ln i)) :: rest))) : W p l e R s m args below meth c H locs cells slots Q (F0 m pc ls (.ref (w.1 i) :: rest)) :=
  va_alen hx hb hK.1 hP i 1 ((WLk_get hi).trans (by rw [ce9 hk])) rfl rfl hdg kk
theorem qk_iast (hx : p.tables.exec = Jvm.exec) (hb : c.code = cc) (hK : KN D w s) (hP : va_P D vwCl (WLk w σ) H) (hJ : Injk w) (hS : va_S (ALk w) H0 H locs) {i : Nat} (hi : i < 184) (hk : kd i = 9) {j v : Int32} {σ' : Sg} (hg : sa σ i (ln i) j v = some σ') (hdg : decode cc pc = .ok (.iastore, 1)) (kk : ∀ (H : Heap) (locs : List Loc), va_P D vwCl (WLk w σ') H → va_S (ALk w) H0 H locs → W p l e R s m args below meth c H locs cells slots Q (F0 m (pc + 1) ls rest)) : W p l e R s m args below meth c H locs cells slots Q (F0 m pc ls (.int v :: .int j :: .ref (w.1 i) :: rest)) := by
  obtain ⟨h1, rfl⟩ := sa_spec hg
  refine va_iast hx hb hK.1 hP (WLk_D hJ) hS i 1 ((WLk_get hi).trans (by rw [ce9 hk])) rfl h1 hdg (fun H1 locs1 hP1 hD1 hS1 => kk H1 locs1 ?_ hS1)
  rw [WLk_set (σ' := sf σ i j.toNatClampNeg v) hi (by rw [ce9 hk, sf_row]) (fun q hq => sf_ne hq)] at hP1
  exact hP1
theorem qk_cVi (hx : p.tables.exec = Jvm.exec) (hb : c.code = cc) (hts : ∀ x ∈ TB, x.before args s = true) {own C : String} {idx maxL nL n : Nat} {y : MethodName} {bytes : ByteArray} {rm : Room} {As : List Value} {σ' : Sg} {i ci N : Nat} {T : u_T} {fs : List Value} {r : Int32} (hml : c.maxLocals = nL) (hown : s.vm.findClass own = some m.cls) (hK : KN D w s) (hP : va_P D vwCl (WLk w σ) H) (hS : va_S (ALk w) H0 H locs) (hM : Met l y (.code y bytes maxL (some .int) :: TB) rm (pcWk D w (.ref (w.1 i) :: As) σ) (qiWk D w r σ') 0 0 (ALk w))
    (hw : Cond.methodLink own idx y ∈ TB ∧ Cond.instanceMethod y ∈ TB ∧ Cond.selects C y y ∈ TB ∧ Cond.initialized C ∈ TB ∧ Cond.code y bytes maxL (some .int) ∈ TB)
    (hd : y.cls = C ∧ y.cls ≠ "java/lang/invoke/MethodHandle" ∧ y.cls ≠ "java/lang/invoke/VarHandle" ∧ (parseMethodDescriptor y.desc).map (fun d => d.parameters.length) = some n) (hrm : rm.cells = 0 ∧ rm.slots = 0 ∧ As.length = n) (hi : i < 184) (hce : ce w σ i = .inr (ci, fs)) (hc : vwCl[ci]? = some (C, T, N)) (hR : rm.frames + 1 ≤ R.frames ∧ 8 + (maxL + 11) + rm.locals ≤ R.locals) (hcs : cells ≤ R.cells ∧ slots ≤ R.slots) (hsz : ls.size = nL) {st : List Value} (hst : st = As.reverse ++ .ref (w.1 i) :: rest) (hrest : (rest.map fun v => v.category).sum ≤ 8) (hdg : decode cc pc = .ok (.invokevirtual idx, 3))
    (kk : ∀ (H : Heap) (locs : List Loc), va_P D vwCl (WLk w σ') H → va_S (ALk w) H0 H locs → W p l e R s m args below meth c H locs cells slots Q (F0 m (pc + 3) ls (.int r :: rest))) : W p l e R s m args below meth c H locs cells slots Q (F0 m pc ls st) := by
  subst hst
  refine va_calli (va_runV (As := As) (rest := rest) ⟨hx, hb, hml, hown, hts⟩ hM (cwV n hts (good_V hw) rfl hrm.1 hrm.2.1 hd hR) ⟨pcWk_blind, va_recv hK.1 hP hc ((WLk_get hi).trans (by rw [hce])), pcWk_pre hP hK⟩ rfl hrm.2.2 hsz rfl (lv_room hrest) hdg hcs) hS (fun _ _ h => h) (fun _ h => h) (fun r' u t H1 locs1 ht hvm hpost hB hz hk hS1 => ?_)
  have hpost : r' = r := hpost
  subst hpost
  exact kk H1 locs1 (by rw [← ht]; exact hB) hS1
theorem qk_cVz (hx : p.tables.exec = Jvm.exec) (hb : c.code = cc) (hts : ∀ x ∈ TB, x.before args s = true) {own C : String} {idx maxL nL n : Nat} {y : MethodName} {bytes : ByteArray} {rm : Room} {As : List Value} {σ' : Sg} {i ci N : Nat} {T : u_T} {fs : List Value} {r : Int32} (hml : c.maxLocals = nL) (hown : s.vm.findClass own = some m.cls) (hK : KN D w s) (hP : va_P D vwCl (WLk w σ) H) (hS : va_S (ALk w) H0 H locs) (hM : Met l y (.code y bytes maxL (some .boolean) :: TB) rm (pcWk D w (.ref (w.1 i) :: As) σ) (qzWk D w r σ') 0 0 (ALk w))
    (hw : Cond.methodLink own idx y ∈ TB ∧ Cond.instanceMethod y ∈ TB ∧ Cond.selects C y y ∈ TB ∧ Cond.initialized C ∈ TB ∧ Cond.code y bytes maxL (some .boolean) ∈ TB)
    (hd : y.cls = C ∧ y.cls ≠ "java/lang/invoke/MethodHandle" ∧ y.cls ≠ "java/lang/invoke/VarHandle" ∧ (parseMethodDescriptor y.desc).map (fun d => d.parameters.length) = some n) (hrm : rm.cells = 0 ∧ rm.slots = 0 ∧ As.length = n) (hi : i < 184) (hce : ce w σ i = .inr (ci, fs)) (hc : vwCl[ci]? = some (C, T, N)) (hR : rm.frames + 1 ≤ R.frames ∧ 8 + (maxL + 11) + rm.locals ≤ R.locals) (hcs : cells ≤ R.cells ∧ slots ≤ R.slots) (hsz : ls.size = nL) {st : List Value} (hst : st = As.reverse ++ .ref (w.1 i) :: rest) (hrest : (rest.map fun v => v.category).sum ≤ 8) (hdg : decode cc pc = .ok (.invokevirtual idx, 3))
    (kk : narrow .boolean (.int r) = .int r → ∀ (H : Heap) (locs : List Loc), va_P D vwCl (WLk w σ') H → va_S (ALk w) H0 H locs → W p l e R s m args below meth c H locs cells slots Q (F0 m (pc + 3) ls (.int r :: rest))) : W p l e R s m args below meth c H locs cells slots Q (F0 m pc ls st) := by
  subst hst
  refine va_calli (va_runV (As := As) (rest := rest) ⟨hx, hb, hml, hown, hts⟩ hM (cwV n hts (good_V hw) rfl hrm.1 hrm.2.1 hd hR) ⟨pcWk_blind, va_recv hK.1 hP hc ((WLk_get hi).trans (by rw [hce])), pcWk_pre hP hK⟩ rfl hrm.2.2 hsz rfl (lv_room hrest) hdg hcs) hS (fun _ _ h => h) (fun _ h => h) (fun r' u t H1 locs1 ht hvm hpost hB hz hk hS1 => ?_)
  obtain ⟨h1, h2⟩ : r' = r ∧ narrow .boolean (.int r) = .int r := hpost
  subst h1
  exact kk h2 H1 locs1 (by rw [← ht]; exact hB) hS1
theorem qk_cVv (hx : p.tables.exec = Jvm.exec) (hb : c.code = cc) (hts : ∀ x ∈ TB, x.before args s = true) {own C : String} {idx maxL nL n : Nat} {y : MethodName} {bytes : ByteArray} {rm : Room} {As : List Value} {σ' : Sg} {i ci N : Nat} {T : u_T} {fs : List Value}  (hml : c.maxLocals = nL) (hown : s.vm.findClass own = some m.cls) (hK : KN D w s) (hP : va_P D vwCl (WLk w σ) H) (hS : va_S (ALk w) H0 H locs) (hM : Met l y (.code y bytes maxL none :: TB) rm (pcWk D w (.ref (w.1 i) :: As) σ) (qvWk D w σ') 0 0 (ALk w))
    (hw : Cond.methodLink own idx y ∈ TB ∧ Cond.instanceMethod y ∈ TB ∧ Cond.selects C y y ∈ TB ∧ Cond.initialized C ∈ TB ∧ Cond.code y bytes maxL none ∈ TB)
    (hd : y.cls = C ∧ y.cls ≠ "java/lang/invoke/MethodHandle" ∧ y.cls ≠ "java/lang/invoke/VarHandle" ∧ (parseMethodDescriptor y.desc).map (fun d => d.parameters.length) = some n) (hrm : rm.cells = 0 ∧ rm.slots = 0 ∧ As.length = n) (hi : i < 184) (hce : ce w σ i = .inr (ci, fs)) (hc : vwCl[ci]? = some (C, T, N)) (hR : rm.frames + 1 ≤ R.frames ∧ 8 + (maxL + 11) + rm.locals ≤ R.locals) (hcs : cells ≤ R.cells ∧ slots ≤ R.slots) (hsz : ls.size = nL) {st : List Value} (hst : st = As.reverse ++ .ref (w.1 i) :: rest) (hrest : (rest.map fun v => v.category).sum ≤ 8) (hdg : decode cc pc = .ok (.invokevirtual idx, 3))
    (kk : ∀ (H : Heap) (locs : List Loc), va_P D vwCl (WLk w σ') H → va_S (ALk w) H0 H locs → W p l e R s m args below meth c H locs cells slots Q (F0 m (pc + 3) ls (rest))) : W p l e R s m args below meth c H locs cells slots Q (F0 m pc ls st) := by
  subst hst
  refine va_callv (va_runV (As := As) (rest := rest) ⟨hx, hb, hml, hown, hts⟩ hM (cwV n hts (good_V hw) rfl hrm.1 hrm.2.1 hd hR) ⟨pcWk_blind, va_recv hK.1 hP hc ((WLk_get hi).trans (by rw [hce])), pcWk_pre hP hK⟩ rfl hrm.2.2 hsz rfl (lv_room hrest) hdg hcs) hS (fun _ _ h => h) (fun _ h => h) (fun u t H1 locs1 ht hvm hpost hB hz hk hS1 => ?_)
  exact kk H1 locs1 (by rw [← ht]; exact hB) hS1
theorem qk_cVr (hx : p.tables.exec = Jvm.exec) (hb : c.code = cc) (hts : ∀ x ∈ TB, x.before args s = true) {own C : String} {idx maxL nL n : Nat} {y : MethodName} {bytes : ByteArray} {rm : Room} {As : List Value} {σ' : Sg} {i ci N : Nat} {T : u_T} {fs : List Value} {r : Nat} {rt : FieldType} (hml : c.maxLocals = nL) (hown : s.vm.findClass own = some m.cls) (hK : KN D w s) (hP : va_P D vwCl (WLk w σ) H) (hS : va_S (ALk w) H0 H locs) (hM : Met l y (.code y bytes maxL (some rt) :: TB) rm (pcWk D w (.ref (w.1 i) :: As) σ) (qrWk D w r σ') 0 0 (ALk w))
    (hw : Cond.methodLink own idx y ∈ TB ∧ Cond.instanceMethod y ∈ TB ∧ Cond.selects C y y ∈ TB ∧ Cond.initialized C ∈ TB ∧ Cond.code y bytes maxL (some rt) ∈ TB)
    (hd : y.cls = C ∧ y.cls ≠ "java/lang/invoke/MethodHandle" ∧ y.cls ≠ "java/lang/invoke/VarHandle" ∧ (parseMethodDescriptor y.desc).map (fun d => d.parameters.length) = some n) (hrm : rm.cells = 0 ∧ rm.slots = 0 ∧ As.length = n) (hi : i < 184) (hce : ce w σ i = .inr (ci, fs)) (hc : vwCl[ci]? = some (C, T, N)) (hR : rm.frames + 1 ≤ R.frames ∧ 8 + (maxL + 11) + rm.locals ≤ R.locals) (hcs : cells ≤ R.cells ∧ slots ≤ R.slots) (hsz : ls.size = nL) {st : List Value} (hst : st = As.reverse ++ .ref (w.1 i) :: rest) (hrest : (rest.map fun v => v.category).sum ≤ 8) (hdg : decode cc pc = .ok (.invokevirtual idx, 3))
    (kk : ∀ (H : Heap) (locs : List Loc), va_P D vwCl (WLk w σ') H → va_S (ALk w) H0 H locs → W p l e R s m args below meth c H locs cells slots Q (F0 m (pc + 3) ls (.ref (w.1 r) :: rest))) : W p l e R s m args below meth c H locs cells slots Q (F0 m pc ls st) := by
  subst hst
  refine va_callr (va_runV (As := As) (rest := rest) ⟨hx, hb, hml, hown, hts⟩ hM (cwV n hts (good_V hw) rfl hrm.1 hrm.2.1 hd hR) ⟨pcWk_blind, va_recv hK.1 hP hc ((WLk_get hi).trans (by rw [hce])), pcWk_pre hP hK⟩ rfl hrm.2.2 hsz rfl (lv_room hrest) hdg hcs) hS (fun _ _ h => h) (fun _ h => h) (fun u ra t H1 locs1 ht hvm hpost hB hz hk hS1 => ?_)
  obtain ⟨h1, h2⟩ : ra = w.1 r ∧ va_P D vwCl (WLk w σ') t.heap := hB
  subst h1
  exact kk H1 locs1 (by rw [← ht]; exact h2) hS1
theorem qk_cSi (hx : p.tables.exec = Jvm.exec) (hb : c.code = cc) (hts : ∀ x ∈ TB, x.before args s = true) {own : String} {idx maxL nL n : Nat} {y : MethodName} {bytes : ByteArray} {rm : Room} {As : List Value} {σ' : Sg} {r : Int32} (hml : c.maxLocals = nL) (hown : s.vm.findClass own = some m.cls) (hK : KN D w s) (hP : va_P D vwCl (WLk w σ) H) (hS : va_S (ALk w) H0 H locs) (hM : Met l y (.code y bytes maxL (some .int) :: TB) rm (pcWk D w As σ) (qiWk D w r σ') 0 0 (ALk w))
    (hw : Cond.methodLink own idx y ∈ TB ∧ Cond.static y ∈ TB ∧ Cond.initialized y.cls ∈ TB ∧ Cond.code y bytes maxL (some .int) ∈ TB)
    (hd : y.cls ≠ "java/lang/invoke/MethodHandle" ∧ y.cls ≠ "java/lang/invoke/VarHandle" ∧ (parseMethodDescriptor y.desc).map (fun d => d.parameters.length) = some n) (hrm : rm.cells = 0 ∧ rm.slots = 0 ∧ As.length = n) (hR : rm.frames + 1 ≤ R.frames ∧ 8 + (maxL + 11) + rm.locals ≤ R.locals) (hcs : cells ≤ R.cells ∧ slots ≤ R.slots) (hsz : ls.size = nL) {st : List Value} (hst : st = As.reverse ++ rest) (hrest : (rest.map fun v => v.category).sum ≤ 8) (hdg : decode cc pc = .ok (.invokestatic idx, 3))
    (kk : ∀ (H : Heap) (locs : List Loc), va_P D vwCl (WLk w σ') H → va_S (ALk w) H0 H locs → W p l e R s m args below meth c H locs cells slots Q (F0 m (pc + 3) ls (.int r :: rest))) : W p l e R s m args below meth c H locs cells slots Q (F0 m pc ls st) := by
  subst hst
  obtain ⟨w1, w2, w3, w4⟩ := hw
  refine va_calli (va_runS (As := As) (rest := rest) ⟨hx, hb, hml, hown, hts⟩ hM ⟨callB_of n hts (good_code w4) rfl hrm.1 hrm.2.1 (hts _ w3) (hts _ w1) hd hR, hts _ w2⟩ ⟨pcWk_blind, pcWk_pre hP hK⟩ rfl hrm.2.2 hsz rfl (lv_room hrest) hdg hcs) hS (fun _ _ h => h) (fun _ h => h) (fun r' u t H1 locs1 ht hvm hpost hB hz hk hS1 => ?_)
  have hpost : r' = r := hpost
  subst hpost
  exact kk H1 locs1 (by rw [← ht]; exact hB) hS1
theorem qk_cSz (hx : p.tables.exec = Jvm.exec) (hb : c.code = cc) (hts : ∀ x ∈ TB, x.before args s = true) {own : String} {idx maxL nL n : Nat} {y : MethodName} {bytes : ByteArray} {rm : Room} {As : List Value} {σ' : Sg} {r : Int32} (hml : c.maxLocals = nL) (hown : s.vm.findClass own = some m.cls) (hK : KN D w s) (hP : va_P D vwCl (WLk w σ) H) (hS : va_S (ALk w) H0 H locs) (hM : Met l y (.code y bytes maxL (some .boolean) :: TB) rm (pcWk D w As σ) (qzWk D w r σ') 0 0 (ALk w))
    (hw : Cond.methodLink own idx y ∈ TB ∧ Cond.static y ∈ TB ∧ Cond.initialized y.cls ∈ TB ∧ Cond.code y bytes maxL (some .boolean) ∈ TB)
    (hd : y.cls ≠ "java/lang/invoke/MethodHandle" ∧ y.cls ≠ "java/lang/invoke/VarHandle" ∧ (parseMethodDescriptor y.desc).map (fun d => d.parameters.length) = some n) (hrm : rm.cells = 0 ∧ rm.slots = 0 ∧ As.length = n) (hR : rm.frames + 1 ≤ R.frames ∧ 8 + (maxL + 11) + rm.locals ≤ R.locals) (hcs : cells ≤ R.cells ∧ slots ≤ R.slots) (hsz : ls.size = nL) {st : List Value} (hst : st = As.reverse ++ rest) (hrest : (rest.map fun v => v.category).sum ≤ 8) (hdg : decode cc pc = .ok (.invokestatic idx, 3))
    (kk : narrow .boolean (.int r) = .int r → ∀ (H : Heap) (locs : List Loc), va_P D vwCl (WLk w σ') H → va_S (ALk w) H0 H locs → W p l e R s m args below meth c H locs cells slots Q (F0 m (pc + 3) ls (.int r :: rest))) : W p l e R s m args below meth c H locs cells slots Q (F0 m pc ls st) := by
  subst hst
  obtain ⟨w1, w2, w3, w4⟩ := hw
  refine va_calli (va_runS (As := As) (rest := rest) ⟨hx, hb, hml, hown, hts⟩ hM ⟨callB_of n hts (good_code w4) rfl hrm.1 hrm.2.1 (hts _ w3) (hts _ w1) hd hR, hts _ w2⟩ ⟨pcWk_blind, pcWk_pre hP hK⟩ rfl hrm.2.2 hsz rfl (lv_room hrest) hdg hcs) hS (fun _ _ h => h) (fun _ h => h) (fun r' u t H1 locs1 ht hvm hpost hB hz hk hS1 => ?_)
  obtain ⟨h1, h2⟩ : r' = r ∧ narrow .boolean (.int r) = .int r := hpost
  subst h1
  exact kk h2 H1 locs1 (by rw [← ht]; exact hB) hS1
theorem qk_cSv (hx : p.tables.exec = Jvm.exec) (hb : c.code = cc) (hts : ∀ x ∈ TB, x.before args s = true) {own : String} {idx maxL nL n : Nat} {y : MethodName} {bytes : ByteArray} {rm : Room} {As : List Value} {σ' : Sg}  (hml : c.maxLocals = nL) (hown : s.vm.findClass own = some m.cls) (hK : KN D w s) (hP : va_P D vwCl (WLk w σ) H) (hS : va_S (ALk w) H0 H locs) (hM : Met l y (.code y bytes maxL none :: TB) rm (pcWk D w As σ) (qvWk D w σ') 0 0 (ALk w))
    (hw : Cond.methodLink own idx y ∈ TB ∧ Cond.static y ∈ TB ∧ Cond.initialized y.cls ∈ TB ∧ Cond.code y bytes maxL none ∈ TB)
    (hd : y.cls ≠ "java/lang/invoke/MethodHandle" ∧ y.cls ≠ "java/lang/invoke/VarHandle" ∧ (parseMethodDescriptor y.desc).map (fun d => d.parameters.length) = some n) (hrm : rm.cells = 0 ∧ rm.slots = 0 ∧ As.length = n) (hR : rm.frames + 1 ≤ R.frames ∧ 8 + (maxL + 11) + rm.locals ≤ R.locals) (hcs : cells ≤ R.cells ∧ slots ≤ R.slots) (hsz : ls.size = nL) {st : List Value} (hst : st = As.reverse ++ rest) (hrest : (rest.map fun v => v.category).sum ≤ 8) (hdg : decode cc pc = .ok (.invokestatic idx, 3))
    (kk : ∀ (H : Heap) (locs : List Loc), va_P D vwCl (WLk w σ') H → va_S (ALk w) H0 H locs → W p l e R s m args below meth c H locs cells slots Q (F0 m (pc + 3) ls (rest))) : W p l e R s m args below meth c H locs cells slots Q (F0 m pc ls st) := by
  subst hst
  obtain ⟨w1, w2, w3, w4⟩ := hw
  refine va_callv (va_runS (As := As) (rest := rest) ⟨hx, hb, hml, hown, hts⟩ hM ⟨callB_of n hts (good_code w4) rfl hrm.1 hrm.2.1 (hts _ w3) (hts _ w1) hd hR, hts _ w2⟩ ⟨pcWk_blind, pcWk_pre hP hK⟩ rfl hrm.2.2 hsz rfl (lv_room hrest) hdg hcs) hS (fun _ _ h => h) (fun _ h => h) (fun u t H1 locs1 ht hvm hpost hB hz hk hS1 => ?_)
  exact kk H1 locs1 (by rw [← ht]; exact hB) hS1
end QR
section QT
variable {p : Program} {l : Launch} {e : Env} {R : Room} {s : State} {m : MethodId} {args : Array Value} {below : List Frame} {meth : Method} {c : Code} {H : Heap} {locs : List Loc} {cells slots : Nat} {cc : ByteArray} {pc : Nat} {ls : Array Slot} {D : va_G} {w : Wv} {σ : Sg}
theorem qk_iret (hx : p.tables.exec = Jvm.exec) (hb : c.code = cc) (hr : meth.sig.returnType = some .int) (hlk : meth.locks = false) (hP : va_P D vwCl (WLk w σ) H) (hS : va_S (ALk w) s.heap H locs) {v r : Int32} {σ' : Sg} (hv : v = r) (hσ : σ = σ') (hdg : decode cc pc = .ok (.ireturn, 1)) : W p l e R s m args below meth c H locs cells slots (MQ below (qiWk D w r σ') args s cells slots (ALk w)) (F0 m pc ls [.int v]) := by
  subst hv; subst hσ
  exact W.iret hx hb hr (fun t ht hW => ⟨⟨v, (), rfl, rfl, by show va_P D vwCl (WLk w σ) t.heap; rw [ht]; exact hP⟩, hS.F ht⟩) hS.2.2 hdg hlk
theorem qk_zret (hx : p.tables.exec = Jvm.exec) (hb : c.code = cc) (hr : meth.sig.returnType = some .boolean) (hlk : meth.locks = false) (hP : va_P D vwCl (WLk w σ) H) (hS : va_S (ALk w) s.heap H locs) {v r : Int32} {σ' : Sg} (hn : narrow .boolean (.int v) = .int v) (hv : v = r) (hσ : σ = σ') (hdg : decode cc pc = .ok (.ireturn, 1)) : W p l e R s m args below meth c H locs cells slots (MQ below (qzWk D w r σ') args s cells slots (ALk w)) (F0 m pc ls [.int v]) := by
  subst hv; subst hσ
  exact W.zret hx hb hr hn (fun t ht hW => ⟨⟨v, (), rfl, ⟨rfl, hn⟩, by show va_P D vwCl (WLk w σ) t.heap; rw [ht]; exact hP⟩, hS.F ht⟩) hS.2.2 hdg hlk
theorem qk_vret (hx : p.tables.exec = Jvm.exec) (hb : c.code = cc) (hr : meth.sig.returnType = none) (hlk : meth.locks = false) (hP : va_P D vwCl (WLk w σ) H) (hS : va_S (ALk w) s.heap H locs) {σ' : Sg} (hσ : σ = σ') (hdg : decode cc pc = .ok (.return_, 1)) : W p l e R s m args below meth c H locs cells slots (MQ below (qvWk D w σ') args s cells slots (ALk w)) (F0 m pc ls []) := by
  subst hσ
  exact W.vret hx hb hr (fun t ht hW => ⟨⟨(), rfl, trivial, by show va_P D vwCl (WLk w σ) t.heap; rw [ht]; exact hP⟩, hS.F ht⟩) hS.2.2 hdg hlk
theorem qk_aret (hx : p.tables.exec = Jvm.exec) (hb : c.code = cc) {C : String} (hr : meth.sig.returnType = some (.object C)) (hlk : meth.locks = false) (hP : va_P D vwCl (WLk w σ) H) (hS : va_S (ALk w) s.heap H locs) {i : Nat} {σ' : Sg} (hσ : σ = σ') (hdg : decode cc pc = .ok (.areturn, 1)) : W p l e R s m args below meth c H locs cells slots (MQ below (qrWk D w i σ') args s cells slots (ALk w)) (F0 m pc ls [.ref (w.1 i)]) := by
  subst hσ
  exact W.aret hx hb hr (Or.inl ⟨_, rfl⟩) (Or.inr ⟨_, rfl⟩) (fun t ht hW => ⟨⟨(), w.1 i, rfl, trivial, rfl, by show va_P D vwCl (WLk w σ) t.heap; rw [ht]; exact hP⟩, hS.F ht⟩) hS.2.2 hdg hlk
end QT
def isGk (g : Nat) : Prop := g + 1 < 184 ∧ kd g = 0 ∧ kd (g + 1) = 9
theorem isGk.o {g : Nat} (h : isGk g) : g < 184 := Nat.lt_of_succ_lt h.1
theorem isGk.k {g : Nat} (h : isGk g) : kd g = 0 := h.2.1
theorem isGk.ao {g : Nat} (h : isGk g) : g + 1 < 184 := h.1
theorem isGk.ak {g : Nat} (h : isGk g) : kd (g + 1) = 9 := h.2.2
def isRk (r : Nat) : Prop := r < 184 ∧ kd r = 3 ∧ isGk (r + 1) ∧ isGk (r + 3)
theorem isRk.o {r : Nat} (h : isRk r) : r < 184 := h.1
theorem isRk.k {r : Nat} (h : isRk r) : kd r = 3 := h.2.1
theorem isRk.f1 {r : Nat} (h : isRk r) : isGk (r + 1) := h.2.2.1
theorem isRk.f2 {r : Nat} (h : isRk r) : isGk (r + 3) := h.2.2.2
def isYk (y : Nat) : Prop := y < 184 ∧ kd y = 5 ∧ isRk (y + 1) ∧ isGk (y + 6) ∧ isGk (y + 8) ∧ isGk (y + 10) ∧ isGk (y + 12)
theorem isYk.o {y : Nat} (h : isYk y) : y < 184 := h.1
theorem isYk.k {y : Nat} (h : isYk y) : kd y = 5 := h.2.1
theorem isYk.f0 {y : Nat} (h : isYk y) : isRk (y + 1) := h.2.2.1
theorem isYk.f1 {y : Nat} (h : isYk y) : isGk (y + 6) := h.2.2.2.1
theorem isYk.f2 {y : Nat} (h : isYk y) : isGk (y + 8) := h.2.2.2.2.1
theorem isYk.f3 {y : Nat} (h : isYk y) : isGk (y + 10) := h.2.2.2.2.2.1
theorem isYk.f4 {y : Nat} (h : isYk y) : isGk (y + 12) := h.2.2.2.2.2.2
def isLk (t : Nat) : Prop := t < 184 ∧ kd t = 1 ∧ isGk (t + 1) ∧ isGk (t + 3)
theorem isLk.o {t : Nat} (h : isLk t) : t < 184 := h.1
theorem isLk.k {t : Nat} (h : isLk t) : kd t = 1 := h.2.1
theorem isLk.f0 {t : Nat} (h : isLk t) : isGk (t + 1) := h.2.2.1
theorem isLk.f1 {t : Nat} (h : isLk t) : isGk (t + 3) := h.2.2.2
theorem isGk_of {g : Nat} (h : (decide (g + 1 < 184) && (kd g == 0) && (kd (g + 1) == 9)) = true) : isGk g := by
  simp only [Bool.and_eq_true, decide_eq_true_eq, beq_iff_eq] at h
  exact ⟨h.1.1, h.1.2, h.2⟩
theorem isYk_of {y : Nat} (h1 : y < 184) (h2 : kd y = 5) (h3 : kd (y + 1) = 3) (h : (List.all [y + 2, y + 4, y + 6, y + 8, y + 10, y + 12] fun g => decide (g + 1 < 184) && (kd g == 0) && (kd (g + 1) == 9)) = true) : isYk y := by
  simp only [List.all_cons, List.all_nil, Bool.and_true, Bool.and_eq_true (a := _ && _ && _)] at h
  obtain ⟨a, b, c, d, e, f⟩ := h
  exact ⟨h1, h2, ⟨by have := (isGk_of a).o; omega, h3, isGk_of a, isGk_of b⟩, isGk_of c, isGk_of d, isGk_of e, isGk_of f⟩
theorem isYk6 : isYk 6 := isYk_of (by decide) (by decide) (by decide) (by decide)
theorem isYk20 : isYk 20 := isYk_of (by decide) (by decide) (by decide) (by decide)
theorem isLk1 : isLk 1 := ⟨by decide, by decide, isGk_of (by decide), isGk_of (by decide)⟩
section GP
variable {p : Program} {l : Launch} {e : Env} {R : Room} {s : State} {m : MethodId} {args : Array Value} {below : List Frame} {meth : Method} {c : Code} {H : Heap} {locs : List Loc} {cells slots : Nat} {Q : State → Prop} {cc : ByteArray} {pc : Nat} {ls : Array Slot} {rest : List Value} {D : va_G} {w : Wv} {σ : Sg} {H0 : Heap}
theorem gk_X0_9 (hx : p.tables.exec = Jvm.exec) (hb : c.code = cc) (hts : ∀ x ∈ TB, x.before args s = true) (hown : s.vm.findClass RX0 = some m.cls) (hK : KN D w s) (hP : va_P D vwCl (WLk w σ) H) {i : Nat} (hi : i < 184) (hk : kd i = 0) (hdg : decode cc pc = .ok (.getfield 9, 3)) (kk : W p l e R s m args below meth c H locs cells slots Q (F0 m (pc + 3) ls (.int (σ i 0) :: rest))) : W p l e R s m args below meth c H locs cells slots Q (F0 m pc ls (.ref (w.1 (i)) :: rest)) := qk_get hx hb hts inT0 hown hK hP hi (ce0 hk) rfl 0 (by decide) rfl tw_95 rfl hdg kk
theorem gk_X0_24 (hx : p.tables.exec = Jvm.exec) (hb : c.code = cc) (hts : ∀ x ∈ TB, x.before args s = true) (hown : s.vm.findClass RX0 = some m.cls) (hK : KN D w s) (hP : va_P D vwCl (WLk w σ) H) {i : Nat} (hi : i < 184) (hk : kd i = 0) (hdg : decode cc pc = .ok (.getfield 24, 3)) (kk : W p l e R s m args below meth c H locs cells slots Q (F0 m (pc + 3) ls (.ref (w.1 (i + 1)) :: rest))) : W p l e R s m args below meth c H locs cells slots Q (F0 m pc ls (.ref (w.1 (i)) :: rest)) := qk_get hx hb hts inT0 hown hK hP hi (ce0 hk) rfl 1 (by decide) rfl tw_96 rfl hdg kk
theorem gk_X1_14 (hx : p.tables.exec = Jvm.exec) (hb : c.code = cc) (hts : ∀ x ∈ TB, x.before args s = true) (hown : s.vm.findClass RX1 = some m.cls) (hK : KN D w s) (hP : va_P D vwCl (WLk w σ) H) {i : Nat} (hi : i < 184) (hk : kd i = 1) (hdg : decode cc pc = .ok (.getfield 14, 3)) (kk : W p l e R s m args below meth c H locs cells slots Q (F0 m (pc + 3) ls (.ref (w.1 (i + 1)) :: rest))) : W p l e R s m args below meth c H locs cells slots Q (F0 m pc ls (.ref (w.1 (i)) :: rest)) := qk_get hx hb hts inT1 hown hK hP hi (ce1 hk) rfl 0 (by decide) rfl tw_103 rfl hdg kk
theorem gk_X1_20 (hx : p.tables.exec = Jvm.exec) (hb : c.code = cc) (hts : ∀ x ∈ TB, x.before args s = true) (hown : s.vm.findClass RX1 = some m.cls) (hK : KN D w s) (hP : va_P D vwCl (WLk w σ) H) {i : Nat} (hi : i < 184) (hk : kd i = 1) (hdg : decode cc pc = .ok (.getfield 20, 3)) (kk : W p l e R s m args below meth c H locs cells slots Q (F0 m (pc + 3) ls (.ref (w.1 (i + 3)) :: rest))) : W p l e R s m args below meth c H locs cells slots Q (F0 m pc ls (.ref (w.1 (i)) :: rest)) := qk_get hx hb hts inT1 hown hK hP hi (ce1 hk) rfl 1 (by decide) rfl tw_104 rfl hdg kk
theorem gk_X1_23 (hx : p.tables.exec = Jvm.exec) (hb : c.code = cc) (hts : ∀ x ∈ TB, x.before args s = true) (hown : s.vm.findClass RX1 = some m.cls) (hK : KN D w s) (hP : va_P D vwCl (WLk w σ) H) {i : Nat} (hi : i < 184) (hk : kd i = 1) (hdg : decode cc pc = .ok (.getfield 23, 3)) (kk : W p l e R s m args below meth c H locs cells slots Q (F0 m (pc + 3) ls (.int (σ i 2) :: rest))) : W p l e R s m args below meth c H locs cells slots Q (F0 m pc ls (.ref (w.1 (i)) :: rest)) := qk_get hx hb hts inT1 hown hK hP hi (ce1 hk) rfl 2 (by decide) rfl tw_105 rfl hdg kk
theorem pk_X1_23 (hx : p.tables.exec = Jvm.exec) (hb : c.code = cc) (hts : ∀ x ∈ TB, x.before args s = true) (hown : s.vm.findClass RX1 = some m.cls) (hK : KN D w s) (hP : va_P D vwCl (WLk w σ) H) (hJ : Injk w) (hS : va_S (ALk w) H0 H locs) {i : Nat} (hi : i < 184) (hk : kd i = 1) {v : Int32} {σ' : Sg} (hg : some (sf σ i 2 v) = some σ') (hdg : decode cc pc = .ok (.putfield 23, 3)) (kk : ∀ (H : Heap) (locs : List Loc), va_P D vwCl (WLk w σ') H → va_S (ALk w) H0 H locs → W p l e R s m args below meth c H locs cells slots Q (F0 m (pc + 3) ls rest)) : W p l e R s m args below meth c H locs cells slots Q (F0 m pc ls (.int v :: .ref (w.1 (i)) :: rest)) := by
  cases hg
  exact qk_put hx hb hts inT1 tyX1 tyX1_ok nmX1 hown hK hP hJ hS hi (ce1 hk) rfl 2 (by decide) rfl tw_105 rfl rfl rfl (Nat.le_of_ble_eq_true rfl) (fun j hj => sf_ne hj) (sfe_1_2 hk) hdg kk
theorem gk_X1_36 (hx : p.tables.exec = Jvm.exec) (hb : c.code = cc) (hts : ∀ x ∈ TB, x.before args s = true) (hown : s.vm.findClass RX1 = some m.cls) (hK : KN D w s) (hP : va_P D vwCl (WLk w σ) H) {i : Nat} (hi : i < 184) (hk : kd i = 1) (hdg : decode cc pc = .ok (.getfield 36, 3)) (kk : W p l e R s m args below meth c H locs cells slots Q (F0 m (pc + 3) ls (.int (σ i 3) :: rest))) : W p l e R s m args below meth c H locs cells slots Q (F0 m pc ls (.ref (w.1 (i)) :: rest)) := qk_get hx hb hts inT1 hown hK hP hi (ce1 hk) rfl 3 (by decide) rfl tw_106 rfl hdg kk
theorem pk_X1_36 (hx : p.tables.exec = Jvm.exec) (hb : c.code = cc) (hts : ∀ x ∈ TB, x.before args s = true) (hown : s.vm.findClass RX1 = some m.cls) (hK : KN D w s) (hP : va_P D vwCl (WLk w σ) H) (hJ : Injk w) (hS : va_S (ALk w) H0 H locs) {i : Nat} (hi : i < 184) (hk : kd i = 1) {v : Int32} {σ' : Sg} (hg : some (sf σ i 3 v) = some σ') (hdg : decode cc pc = .ok (.putfield 36, 3)) (kk : ∀ (H : Heap) (locs : List Loc), va_P D vwCl (WLk w σ') H → va_S (ALk w) H0 H locs → W p l e R s m args below meth c H locs cells slots Q (F0 m (pc + 3) ls rest)) : W p l e R s m args below meth c H locs cells slots Q (F0 m pc ls (.int v :: .ref (w.1 (i)) :: rest)) := by
  cases hg
  exact qk_put hx hb hts inT1 tyX1 tyX1_ok nmX1 hown hK hP hJ hS hi (ce1 hk) rfl 3 (by decide) rfl tw_106 rfl rfl rfl (Nat.le_of_ble_eq_true rfl) (fun j hj => sf_ne hj) (sfe_1_3 hk) hdg kk
theorem gk_X3_9 (hx : p.tables.exec = Jvm.exec) (hb : c.code = cc) (hts : ∀ x ∈ TB, x.before args s = true) (hown : s.vm.findClass RX3 = some m.cls) (hK : KN D w s) (hP : va_P D vwCl (WLk w σ) H) {i : Nat} (hi : i < 184) (hk : kd i = 3) (hdg : decode cc pc = .ok (.getfield 9, 3)) (kk : W p l e R s m args below meth c H locs cells slots Q (F0 m (pc + 3) ls (.int (σ i 0) :: rest))) : W p l e R s m args below meth c H locs cells slots Q (F0 m pc ls (.ref (w.1 (i)) :: rest)) := qk_get hx hb hts inT3 hown hK hP hi (ce3 hk) rfl 0 (by decide) rfl tw_130 rfl hdg kk
theorem pk_X3_9 (hx : p.tables.exec = Jvm.exec) (hb : c.code = cc) (hts : ∀ x ∈ TB, x.before args s = true) (hown : s.vm.findClass RX3 = some m.cls) (hK : KN D w s) (hP : va_P D vwCl (WLk w σ) H) (hJ : Injk w) (hS : va_S (ALk w) H0 H locs) {i : Nat} (hi : i < 184) (hk : kd i = 3) {v : Int32} {σ' : Sg} (hg : some (sf σ i 0 v) = some σ') (hdg : decode cc pc = .ok (.putfield 9, 3)) (kk : ∀ (H : Heap) (locs : List Loc), va_P D vwCl (WLk w σ') H → va_S (ALk w) H0 H locs → W p l e R s m args below meth c H locs cells slots Q (F0 m (pc + 3) ls rest)) : W p l e R s m args below meth c H locs cells slots Q (F0 m pc ls (.int v :: .ref (w.1 (i)) :: rest)) := by
  cases hg
  exact qk_put hx hb hts inT3 tyX3 tyX3_ok nmX3 hown hK hP hJ hS hi (ce3 hk) rfl 0 (by decide) rfl tw_130 rfl rfl rfl (Nat.le_of_ble_eq_true rfl) (fun j hj => sf_ne hj) (sfe_3_0 hk) hdg kk
theorem gk_X3_20 (hx : p.tables.exec = Jvm.exec) (hb : c.code = cc) (hts : ∀ x ∈ TB, x.before args s = true) (hown : s.vm.findClass RX3 = some m.cls) (hK : KN D w s) (hP : va_P D vwCl (WLk w σ) H) {i : Nat} (hi : i < 184) (hk : kd i = 3) (hdg : decode cc pc = .ok (.getfield 20, 3)) (kk : W p l e R s m args below meth c H locs cells slots Q (F0 m (pc + 3) ls (.ref (w.1 (i + 1)) :: rest))) : W p l e R s m args below meth c H locs cells slots Q (F0 m pc ls (.ref (w.1 (i)) :: rest)) := qk_get hx hb hts inT3 hown hK hP hi (ce3 hk) rfl 1 (by decide) rfl tw_131 rfl hdg kk
theorem gk_X3_24 (hx : p.tables.exec = Jvm.exec) (hb : c.code = cc) (hts : ∀ x ∈ TB, x.before args s = true) (hown : s.vm.findClass RX3 = some m.cls) (hK : KN D w s) (hP : va_P D vwCl (WLk w σ) H) {i : Nat} (hi : i < 184) (hk : kd i = 3) (hdg : decode cc pc = .ok (.getfield 24, 3)) (kk : W p l e R s m args below meth c H locs cells slots Q (F0 m (pc + 3) ls (.ref (w.1 (i + 3)) :: rest))) : W p l e R s m args below meth c H locs cells slots Q (F0 m pc ls (.ref (w.1 (i)) :: rest)) := qk_get hx hb hts inT3 hown hK hP hi (ce3 hk) rfl 2 (by decide) rfl tw_132 rfl hdg kk
theorem gk_X5_12 (hx : p.tables.exec = Jvm.exec) (hb : c.code = cc) (hts : ∀ x ∈ TB, x.before args s = true) (hown : s.vm.findClass RX5 = some m.cls) (hK : KN D w s) (hP : va_P D vwCl (WLk w σ) H) {i : Nat} (hi : i < 184) (hk : kd i = 5) (hdg : decode cc pc = .ok (.getfield 12, 3)) (kk : W p l e R s m args below meth c H locs cells slots Q (F0 m (pc + 3) ls (.ref (w.1 (i + 1)) :: rest))) : W p l e R s m args below meth c H locs cells slots Q (F0 m pc ls (.ref (w.1 (i)) :: rest)) := qk_get hx hb hts inT5 hown hK hP hi (ce5 hk) rfl 0 (by decide) rfl tw_142 rfl hdg kk
theorem gk_X5_23 (hx : p.tables.exec = Jvm.exec) (hb : c.code = cc) (hts : ∀ x ∈ TB, x.before args s = true) (hown : s.vm.findClass RX5 = some m.cls) (hK : KN D w s) (hP : va_P D vwCl (WLk w σ) H) {i : Nat} (hi : i < 184) (hk : kd i = 5) (hdg : decode cc pc = .ok (.getfield 23, 3)) (kk : W p l e R s m args below meth c H locs cells slots Q (F0 m (pc + 3) ls (.ref (w.1 (i + 6)) :: rest))) : W p l e R s m args below meth c H locs cells slots Q (F0 m pc ls (.ref (w.1 (i)) :: rest)) := qk_get hx hb hts inT5 hown hK hP hi (ce5 hk) rfl 1 (by decide) rfl tw_143 rfl hdg kk
theorem gk_X5_27 (hx : p.tables.exec = Jvm.exec) (hb : c.code = cc) (hts : ∀ x ∈ TB, x.before args s = true) (hown : s.vm.findClass RX5 = some m.cls) (hK : KN D w s) (hP : va_P D vwCl (WLk w σ) H) {i : Nat} (hi : i < 184) (hk : kd i = 5) (hdg : decode cc pc = .ok (.getfield 27, 3)) (kk : W p l e R s m args below meth c H locs cells slots Q (F0 m (pc + 3) ls (.ref (w.1 (i + 8)) :: rest))) : W p l e R s m args below meth c H locs cells slots Q (F0 m pc ls (.ref (w.1 (i)) :: rest)) := qk_get hx hb hts inT5 hown hK hP hi (ce5 hk) rfl 2 (by decide) rfl tw_144 rfl hdg kk
theorem gk_X5_30 (hx : p.tables.exec = Jvm.exec) (hb : c.code = cc) (hts : ∀ x ∈ TB, x.before args s = true) (hown : s.vm.findClass RX5 = some m.cls) (hK : KN D w s) (hP : va_P D vwCl (WLk w σ) H) {i : Nat} (hi : i < 184) (hk : kd i = 5) (hdg : decode cc pc = .ok (.getfield 30, 3)) (kk : W p l e R s m args below meth c H locs cells slots Q (F0 m (pc + 3) ls (.ref (w.1 (i + 10)) :: rest))) : W p l e R s m args below meth c H locs cells slots Q (F0 m pc ls (.ref (w.1 (i)) :: rest)) := qk_get hx hb hts inT5 hown hK hP hi (ce5 hk) rfl 3 (by decide) rfl tw_145 rfl hdg kk
theorem gk_X5_33 (hx : p.tables.exec = Jvm.exec) (hb : c.code = cc) (hts : ∀ x ∈ TB, x.before args s = true) (hown : s.vm.findClass RX5 = some m.cls) (hK : KN D w s) (hP : va_P D vwCl (WLk w σ) H) {i : Nat} (hi : i < 184) (hk : kd i = 5) (hdg : decode cc pc = .ok (.getfield 33, 3)) (kk : W p l e R s m args below meth c H locs cells slots Q (F0 m (pc + 3) ls (.ref (w.1 (i + 12)) :: rest))) : W p l e R s m args below meth c H locs cells slots Q (F0 m pc ls (.ref (w.1 (i)) :: rest)) := qk_get hx hb hts inT5 hown hK hP hi (ce5 hk) rfl 4 (by decide) rfl tw_146 rfl hdg kk
theorem gk_X5_43 (hx : p.tables.exec = Jvm.exec) (hb : c.code = cc) (hts : ∀ x ∈ TB, x.before args s = true) (hown : s.vm.findClass RX5 = some m.cls) (hK : KN D w s) (hP : va_P D vwCl (WLk w σ) H) {i : Nat} (hi : i < 184) (hk : kd i = 5) (hdg : decode cc pc = .ok (.getfield 43, 3)) (kk : W p l e R s m args below meth c H locs cells slots Q (F0 m (pc + 3) ls (.int (σ i 5) :: rest))) : W p l e R s m args below meth c H locs cells slots Q (F0 m pc ls (.ref (w.1 (i)) :: rest)) := qk_get hx hb hts inT5 hown hK hP hi (ce5 hk) rfl 5 (by decide) rfl tw_147 rfl hdg kk
theorem pk_X5_43 (hx : p.tables.exec = Jvm.exec) (hb : c.code = cc) (hts : ∀ x ∈ TB, x.before args s = true) (hown : s.vm.findClass RX5 = some m.cls) (hK : KN D w s) (hP : va_P D vwCl (WLk w σ) H) (hJ : Injk w) (hS : va_S (ALk w) H0 H locs) {i : Nat} (hi : i < 184) (hk : kd i = 5) {v : Int32} {σ' : Sg} (hg : some (sf σ i 5 v) = some σ') (hdg : decode cc pc = .ok (.putfield 43, 3)) (kk : ∀ (H : Heap) (locs : List Loc), va_P D vwCl (WLk w σ') H → va_S (ALk w) H0 H locs → W p l e R s m args below meth c H locs cells slots Q (F0 m (pc + 3) ls rest)) : W p l e R s m args below meth c H locs cells slots Q (F0 m pc ls (.int v :: .ref (w.1 (i)) :: rest)) := by
  cases hg
  exact qk_put hx hb hts inT5 tyX5 tyX5_ok nmX5 hown hK hP hJ hS hi (ce5 hk) rfl 5 (by decide) rfl tw_147 rfl rfl rfl (Nat.le_of_ble_eq_true rfl) (fun j hj => sf_ne hj) (sfe_5_5 hk) hdg kk
theorem gk_X5_47 (hx : p.tables.exec = Jvm.exec) (hb : c.code = cc) (hts : ∀ x ∈ TB, x.before args s = true) (hown : s.vm.findClass RX5 = some m.cls) (hK : KN D w s) (hP : va_P D vwCl (WLk w σ) H) {i : Nat} (hi : i < 184) (hk : kd i = 5) (hdg : decode cc pc = .ok (.getfield 47, 3)) (kk : W p l e R s m args below meth c H locs cells slots Q (F0 m (pc + 3) ls (.int (σ i 6) :: rest))) : W p l e R s m args below meth c H locs cells slots Q (F0 m pc ls (.ref (w.1 (i)) :: rest)) := qk_get hx hb hts inT5 hown hK hP hi (ce5 hk) rfl 6 (by decide) rfl tw_148 rfl hdg kk
theorem pk_X5_47 (hx : p.tables.exec = Jvm.exec) (hb : c.code = cc) (hts : ∀ x ∈ TB, x.before args s = true) (hown : s.vm.findClass RX5 = some m.cls) (hK : KN D w s) (hP : va_P D vwCl (WLk w σ) H) (hJ : Injk w) (hS : va_S (ALk w) H0 H locs) {i : Nat} (hi : i < 184) (hk : kd i = 5) {v : Int32} {σ' : Sg} (hg : some (sf σ i 6 v) = some σ') (hdg : decode cc pc = .ok (.putfield 47, 3)) (kk : ∀ (H : Heap) (locs : List Loc), va_P D vwCl (WLk w σ') H → va_S (ALk w) H0 H locs → W p l e R s m args below meth c H locs cells slots Q (F0 m (pc + 3) ls rest)) : W p l e R s m args below meth c H locs cells slots Q (F0 m pc ls (.int v :: .ref (w.1 (i)) :: rest)) := by
  cases hg
  exact qk_put hx hb hts inT5 tyX5 tyX5_ok nmX5 hown hK hP hJ hS hi (ce5 hk) rfl 6 (by decide) rfl tw_148 rfl rfl rfl (Nat.le_of_ble_eq_true rfl) (fun j hj => sf_ne hj) (sfe_5_6 hk) hdg kk
theorem pk_X5_50 (hx : p.tables.exec = Jvm.exec) (hb : c.code = cc) (hts : ∀ x ∈ TB, x.before args s = true) (hown : s.vm.findClass RX5 = some m.cls) (hK : KN D w s) (hP : va_P D vwCl (WLk w σ) H) (hJ : Injk w) (hS : va_S (ALk w) H0 H locs) {i : Nat} (hi : i < 184) (hk : kd i = 5) {v : Int32} {σ' : Sg} (hg : some (sf σ i 7 v) = some σ') (hdg : decode cc pc = .ok (.putfield 50, 3)) (kk : ∀ (H : Heap) (locs : List Loc), va_P D vwCl (WLk w σ') H → va_S (ALk w) H0 H locs → W p l e R s m args below meth c H locs cells slots Q (F0 m (pc + 3) ls rest)) : W p l e R s m args below meth c H locs cells slots Q (F0 m pc ls (.int v :: .ref (w.1 (i)) :: rest)) := by
  cases hg
  exact qk_put hx hb hts inT5 tyX5 tyX5_ok nmX5 hown hK hP hJ hS hi (ce5 hk) rfl 7 (by decide) rfl tw_149 rfl rfl rfl (Nat.le_of_ble_eq_true rfl) (fun j hj => sf_ne hj) (sfe_5_7 hk) hdg kk
theorem pk_X5_53 (hx : p.tables.exec = Jvm.exec) (hb : c.code = cc) (hts : ∀ x ∈ TB, x.before args s = true) (hown : s.vm.findClass RX5 = some m.cls) (hK : KN D w s) (hP : va_P D vwCl (WLk w σ) H) (hJ : Injk w) (hS : va_S (ALk w) H0 H locs) {i : Nat} (hi : i < 184) (hk : kd i = 5) {v : Int32} {σ' : Sg} (hg : some (sf σ i 8 v) = some σ') (hdg : decode cc pc = .ok (.putfield 53, 3)) (kk : ∀ (H : Heap) (locs : List Loc), va_P D vwCl (WLk w σ') H → va_S (ALk w) H0 H locs → W p l e R s m args below meth c H locs cells slots Q (F0 m (pc + 3) ls rest)) : W p l e R s m args below meth c H locs cells slots Q (F0 m pc ls (.int v :: .ref (w.1 (i)) :: rest)) := by
  cases hg
  exact qk_put hx hb hts inT5 tyX5 tyX5_ok nmX5 hown hK hP hJ hS hi (ce5 hk) rfl 8 (by decide) rfl tw_150 rfl rfl rfl (Nat.le_of_ble_eq_true rfl) (fun j hj => sf_ne hj) (sfe_5_8 hk) hdg kk
theorem pk_X5_56 (hx : p.tables.exec = Jvm.exec) (hb : c.code = cc) (hts : ∀ x ∈ TB, x.before args s = true) (hown : s.vm.findClass RX5 = some m.cls) (hK : KN D w s) (hP : va_P D vwCl (WLk w σ) H) (hJ : Injk w) (hS : va_S (ALk w) H0 H locs) {i : Nat} (hi : i < 184) (hk : kd i = 5) {v : Int32} {σ' : Sg} (hg : some (sf σ i 9 v) = some σ') (hdg : decode cc pc = .ok (.putfield 56, 3)) (kk : ∀ (H : Heap) (locs : List Loc), va_P D vwCl (WLk w σ') H → va_S (ALk w) H0 H locs → W p l e R s m args below meth c H locs cells slots Q (F0 m (pc + 3) ls rest)) : W p l e R s m args below meth c H locs cells slots Q (F0 m pc ls (.int v :: .ref (w.1 (i)) :: rest)) := by
  cases hg
  exact qk_put hx hb hts inT5 tyX5 tyX5_ok nmX5 hown hK hP hJ hS hi (ce5 hk) rfl 9 (by decide) rfl tw_151 rfl rfl rfl (Nat.le_of_ble_eq_true rfl) (fun j hj => sf_ne hj) (sfe_5_9 hk) hdg kk
end GP
set_option maxHeartbeats 4000000 in
set_option maxRecDepth 100000 in
theorem ck_X0_at (l : Launch) (D : va_G) (w : Wv) (σ : Sg) (o : Nat) (a1 : Int32) (a2 : Int32) (r : Int32) (ho : isGk o) (hf : f_X0_at σ o a1 a2 = some r) : Met l yX0_at (.code yX0_at cX0_at 5 (some .int) :: TB) (rmW 0 0) (pcWk D w [.ref (w.1 (o)), .int a1, .int a2] σ) (qiWk D w r σ) 0 0 (ALk w) := by
  refine qk_open (by decide +kernel) (Nat.le_of_ble_eq_true rfl) ?_
  intro p e s m args below meth c ls hx hb hml hr hlk hown hts hK hP hS hl
  have hown : s.vm.findClass RX0 = some m.cls := hown
  have hl : lv_has ls 5 [(0, .ref (w.1 (o))), (1, .int a1), (2, .int a2)] := hl
  unfold f_X0_at at hf
  refine lv_iload_n hx hb dX0_at_0 rfl (lv_at hl 1 rfl) ?_
  refine lv_aload_n hx hb dX0_at_1 rfl (lv_at hl 0 rfl) ?_
  refine gk_X0_9 hx hb hts hown hK hP ho.o ho.k dX0_at_2 ?_
  refine lv_imul hx hb dX0_at_5 ?_
  refine lv_iload_n hx hb dX0_at_6 rfl (lv_at hl 2 rfl) ?_
  refine lv_iadd hx hb dX0_at_7 ?_
  refine lv_istore_n (lv' := [(3, .int ((a1 * (σ (o) 0)) + a2)), (0, .ref (w.1 (o))), (1, .int a1), (2, .int a2)]) hx hb dX0_at_8 rfl hl (by decide) rfl (fun ls hl => ?_)
  refine lv_iload_n hx hb dX0_at_9 rfl (lv_at hl 3 rfl) ?_
  refine lv_if_lt (tgt := 38) hx hb dX0_at_10 (by decide) (fun hc => ?_) (fun hc => ?_)
  · have hf := ifp hc hf
    refine lv_iconst (v := (0 : Int32)) hx hb dX0_at_38 (by decide) ?_
    refine lv_istore (lv' := [(4, .int (0 : Int32)), (3, .int ((a1 * (σ (o) 0)) + a2)), (0, .ref (w.1 (o))), (1, .int a1), (2, .int a2)]) hx hb dX0_at_39 hl (by decide) rfl (fun ls hl => ?_)
    refine lv_iload hx hb dX0_at_41 (lv_at hl 0 rfl) ?_
    refine lv_if_eq (tgt := 55) hx hb dX0_at_43 (by decide) (fun _ => ?_) (fun hc => absurd (by decide) hc)
    refine lv_bipush (v := (-4 : Int32)) hx hb dX0_at_55 (by decide) ?_
    have hq := Option.some.inj hf
    exact qk_iret hx hb hr hlk hP hS hq rfl dX0_at_57
  · have hf := ifn hc hf
    refine lv_iload_n hx hb dX0_at_13 rfl (lv_at hl 3 rfl) ?_
    refine lv_aload_n hx hb dX0_at_14 rfl (lv_at hl 1 rfl) ?_
    refine gk_X0_9 hx hb hts hown hK hP ho.o ho.k dX0_at_15 ?_
    refine lv_icmp_ge (tgt := 38) hx hb dX0_at_18 (by decide) (fun hc => ?_) (fun hc => ?_)
    · have hf := ifp hc hf
      refine lv_iconst (v := (0 : Int32)) hx hb dX0_at_38 (by decide) ?_
      refine lv_istore (lv' := [(4, .int (0 : Int32)), (3, .int ((a1 * (σ (o) 0)) + a2)), (0, .ref (w.1 (o))), (1, .int a1), (2, .int a2)]) hx hb dX0_at_39 hl (by decide) rfl (fun ls hl => ?_)
      refine lv_iload hx hb dX0_at_41 (lv_at hl 0 rfl) ?_
      refine lv_if_eq (tgt := 55) hx hb dX0_at_43 (by decide) (fun _ => ?_) (fun hc => absurd (by decide) hc)
      refine lv_bipush (v := (-4 : Int32)) hx hb dX0_at_55 (by decide) ?_
      have hq := Option.some.inj hf
      exact qk_iret hx hb hr hlk hP hS hq rfl dX0_at_57
    · have hf := ifn hc hf
      refine lv_iload_n hx hb dX0_at_21 rfl (lv_at hl 0 rfl) ?_
      refine lv_if_lt (tgt := 38) hx hb dX0_at_22 (by decide) (fun hc => ?_) (fun hc => ?_)
      · have hf := ifp hc hf
        refine lv_iconst (v := (0 : Int32)) hx hb dX0_at_38 (by decide) ?_
        refine lv_istore (lv' := [(4, .int (0 : Int32)), (3, .int ((a1 * (σ (o) 0)) + a2)), (0, .ref (w.1 (o))), (1, .int a1), (2, .int a2)]) hx hb dX0_at_39 hl (by decide) rfl (fun ls hl => ?_)
        refine lv_iload hx hb dX0_at_41 (lv_at hl 0 rfl) ?_
        refine lv_if_eq (tgt := 55) hx hb dX0_at_43 (by decide) (fun _ => ?_) (fun hc => absurd (by decide) hc)
        refine lv_bipush (v := (-4 : Int32)) hx hb dX0_at_55 (by decide) ?_
        have hq := Option.some.inj hf
        exact qk_iret hx hb hr hlk hP hS hq rfl dX0_at_57
      · have hf := ifn hc hf
        refine lv_iload_n hx hb dX0_at_25 rfl (lv_at hl 0 rfl) ?_
        refine lv_aload_n hx hb dX0_at_26 rfl (lv_at hl 1 rfl) ?_
        refine gk_X0_24 hx hb hts hown hK hP ho.o ho.k dX0_at_27 ?_
        refine qk_alen9 hx hb hK hP ho.ao ho.ak dX0_at_30 ?_
        refine lv_icmp_ge (tgt := 38) hx hb dX0_at_31 (by decide) (fun hc => ?_) (fun hc => ?_)
        · have hf := ifp hc hf
          refine lv_iconst (v := (0 : Int32)) hx hb dX0_at_38 (by decide) ?_
          refine lv_istore (lv' := [(4, .int (0 : Int32)), (3, .int ((a1 * (σ (o) 0)) + a2)), (0, .ref (w.1 (o))), (1, .int a1), (2, .int a2)]) hx hb dX0_at_39 hl (by decide) rfl (fun ls hl => ?_)
          refine lv_iload hx hb dX0_at_41 (lv_at hl 0 rfl) ?_
          refine lv_if_eq (tgt := 55) hx hb dX0_at_43 (by decide) (fun _ => ?_) (fun hc => absurd (by decide) hc)
          refine lv_bipush (v := (-4 : Int32)) hx hb dX0_at_55 (by decide) ?_
          have hq := Option.some.inj hf
          exact qk_iret hx hb hr hlk hP hS hq rfl dX0_at_57
        · have hf := ifn hc hf
          refine lv_iconst (v := (1 : Int32)) hx hb dX0_at_34 (by decide) ?_
          refine lv_goto (tgt := 39) hx hb dX0_at_35 (by decide) ?_
          refine lv_istore (lv' := [(4, .int (1 : Int32)), (3, .int ((a1 * (σ (o) 0)) + a2)), (0, .ref (w.1 (o))), (1, .int a1), (2, .int a2)]) hx hb dX0_at_39 hl (by decide) rfl (fun ls hl => ?_)
          refine lv_iload hx hb dX0_at_41 (lv_at hl 0 rfl) ?_
          refine lv_if_eq (tgt := 55) hx hb dX0_at_43 (by decide) (fun hc => absurd hc (by decide)) (fun _ => ?_)
          refine lv_aload_n hx hb dX0_at_46 rfl (lv_at hl 2 rfl) ?_
          refine gk_X0_24 hx hb hts hown hK hP ho.o ho.k dX0_at_47 ?_
          refine lv_iload_n hx hb dX0_at_50 rfl (lv_at hl 1 rfl) ?_
          obtain ⟨v51, h51, hf⟩ := bnd hf
          refine qk_iald hx hb hK hP ho.ao ho.ak h51 dX0_at_51 ?_
          refine lv_goto (tgt := 57) hx hb dX0_at_52 (by decide) ?_
          have hq := Option.some.inj hf
          exact qk_iret hx hb hr hlk hP hS hq rfl dX0_at_57
set_option maxHeartbeats 4000000 in
set_option maxRecDepth 100000 in
theorem ck_X0_put (l : Launch) (D : va_G) (w : Wv) (σ : Sg) (o : Nat) (a1 : Int32) (a2 : Int32) (a3 : Int32) (σ' : Sg) (ho : isGk o) (hJ : Injk w) (hf : f_X0_put σ o a1 a2 a3 = some σ') : Met l yX0_put (.code yX0_put cX0_put 5 none :: TB) (rmW 0 0) (pcWk D w [.ref (w.1 (o)), .int a1, .int a2, .int a3] σ) (qvWk D w σ') 0 0 (ALk w) := by
  refine qk_open (by decide +kernel) (Nat.le_of_ble_eq_true rfl) ?_
  intro p e s m args below meth c ls hx hb hml hr hlk hown hts hK hP hS hl
  have hown : s.vm.findClass RX0 = some m.cls := hown
  have hl : lv_has ls 5 [(0, .ref (w.1 (o))), (1, .int a1), (2, .int a2), (3, .int a3)] := hl
  unfold f_X0_put at hf
  refine lv_iload_n hx hb dX0_put_0 rfl (lv_at hl 1 rfl) ?_
  refine lv_aload_n hx hb dX0_put_1 rfl (lv_at hl 0 rfl) ?_
  refine gk_X0_9 hx hb hts hown hK hP ho.o ho.k dX0_put_2 ?_
  refine lv_imul hx hb dX0_put_5 ?_
  refine lv_iload_n hx hb dX0_put_6 rfl (lv_at hl 2 rfl) ?_
  refine lv_iadd hx hb dX0_put_7 ?_
  refine lv_istore (lv' := [(4, .int ((a1 * (σ (o) 0)) + a2)), (0, .ref (w.1 (o))), (1, .int a1), (2, .int a2), (3, .int a3)]) hx hb dX0_put_8 hl (by decide) rfl (fun ls hl => ?_)
  refine lv_iload_n hx hb dX0_put_10 rfl (lv_at hl 3 rfl) ?_
  refine lv_if_lt (tgt := 45) hx hb dX0_put_11 (by decide) (fun hc => ?_) (fun hc => ?_)
  · have hf := ifp hc hf
    have hq := Option.some.inj hf
    exact qk_vret hx hb hr hlk hP hS hq dX0_put_45
  · have hf := ifn hc hf
    refine lv_iload_n hx hb dX0_put_14 rfl (lv_at hl 3 rfl) ?_
    refine lv_aload_n hx hb dX0_put_15 rfl (lv_at hl 1 rfl) ?_
    refine gk_X0_9 hx hb hts hown hK hP ho.o ho.k dX0_put_16 ?_
    refine lv_icmp_ge (tgt := 45) hx hb dX0_put_19 (by decide) (fun hc => ?_) (fun hc => ?_)
    · have hf := ifp hc hf
      have hq := Option.some.inj hf
      exact qk_vret hx hb hr hlk hP hS hq dX0_put_45
    · have hf := ifn hc hf
      refine lv_iload hx hb dX0_put_22 (lv_at hl 0 rfl) ?_
      refine lv_if_lt (tgt := 45) hx hb dX0_put_24 (by decide) (fun hc => ?_) (fun hc => ?_)
      · have hf := ifp hc hf
        have hq := Option.some.inj hf
        exact qk_vret hx hb hr hlk hP hS hq dX0_put_45
      · have hf := ifn hc hf
        refine lv_iload hx hb dX0_put_27 (lv_at hl 0 rfl) ?_
        refine lv_aload_n hx hb dX0_put_29 rfl (lv_at hl 1 rfl) ?_
        refine gk_X0_24 hx hb hts hown hK hP ho.o ho.k dX0_put_30 ?_
        refine qk_alen9 hx hb hK hP ho.ao ho.ak dX0_put_33 ?_
        refine lv_icmp_ge (tgt := 45) hx hb dX0_put_34 (by decide) (fun hc => ?_) (fun hc => ?_)
        · have hf := ifp hc hf
          have hq := Option.some.inj hf
          exact qk_vret hx hb hr hlk hP hS hq dX0_put_45
        · have hf := ifn hc hf
          refine lv_aload_n hx hb dX0_put_37 rfl (lv_at hl 1 rfl) ?_
          refine gk_X0_24 hx hb hts hown hK hP ho.o ho.k dX0_put_38 ?_
          refine lv_iload hx hb dX0_put_41 (lv_at hl 0 rfl) ?_
          refine lv_iload_n hx hb dX0_put_43 rfl (lv_at hl 4 rfl) ?_
          obtain ⟨σ44, h44, hf⟩ := bnd hf
          refine qk_iast hx hb hK hP hJ hS ho.ao ho.ak h44 dX0_put_44 (fun H locs hP hS => ?_)
          have hq := Option.some.inj hf
          exact qk_vret hx hb hr hlk hP hS hq dX0_put_45
set_option maxHeartbeats 4000000 in
set_option maxRecDepth 100000 in
theorem ck_X0_fill (l : Launch) (D : va_G) (w : Wv) (σ : Sg) (o : Nat) (a1 : Int32) (σ' : Sg) (ho : isGk o) (hJ : Injk w) (hf : f_X0_fill σ o a1 = some σ') : Met l yX0_fill (.code yX0_fill cX0_fill 3 none :: TB) (rmW 0 0) (pcWk D w [.ref (w.1 (o)), .int a1] σ) (qvWk D w σ') 0 0 (ALk w) := by
  refine qk_open (by decide +kernel) (Nat.le_of_ble_eq_true rfl) ?_
  intro p e s m args below meth c ls hx hb hml hr hlk hown hts hK hP hS hl
  have hown : s.vm.findClass RX0 = some m.cls := hown
  have hl : lv_has ls 3 [(0, .ref (w.1 (o))), (1, .int a1)] := hl
  unfold f_X0_fill at hf
  refine lv_iconst (v := (0 : Int32)) hx hb dX0_fill_0 (by decide) ?_
  refine lv_istore_n (lv' := [(2, .int (0 : Int32)), (0, .ref (w.1 (o))), (1, .int a1)]) hx hb dX0_fill_1 rfl hl (by decide) rfl (fun ls hl => ?_)
  obtain ⟨rr, hlp, hf⟩ := bnd hf
  have hE2_24 : ∀ (σ_24 : Sg) (H : Heap) (locs : List Loc) (ls : Array Slot), f_X0_fill_k1 σ_24 = some σ' → va_P D vwCl (WLk w σ_24) H → va_S (ALk w) s.heap H locs → lv_has ls 3 [] → W p l e (rmW 0 0) s m args below meth c H locs 0 0 (MQ below (qvWk D w σ') args s 0 0 (ALk w)) (F0 m 24 ls []) := by
    intro σ_24 H locs ls hf hP hS hl
    unfold f_X0_fill_k1 at hf
    have hq := Option.some.inj hf
    exact qk_vret hx hb hr hlk hP hS hq dX0_fill_24
  refine lp_ind (G := fun (st : (Int32 × Sg)) => ∀ (H : Heap) (locs : List Loc) (ls : Array Slot), va_P D vwCl (WLk w st.2) H → va_S (ALk w) s.heap H locs → lv_has ls 3 [(0, .ref (w.1 (o))), (1, .int a1), (2, .int st.1)] → W p l e (rmW 0 0) s m args below meth c H locs 0 0 (MQ below (qvWk D w σ') args s 0 0 (ALk w)) (F0 m 2 ls [])) (X := fun rr => f_X0_fill_k1 rr = some σ') ?_ _ _ rr hlp hf _ _ _ hP hS (lv_sub hl [1, 2, 0] rfl)
  rintro ⟨x2_2, σ_2⟩ oo2 hb9 hG2 hX2 H locs ls hP hS hl
  have hP : va_P D vwCl (WLk w σ_2) H := hP
  have hl : lv_has ls 3 [(0, .ref (w.1 (o))), (1, .int a1), (2, .int x2_2)] := hl
  have hf : f_X0_fill_b1 o a1 x2_2 σ_2 = some oo2 := hb9
  unfold f_X0_fill_b1 at hf
  refine lv_iload_n hx hb dX0_fill_2 rfl (lv_at hl 2 rfl) ?_
  refine lv_aload_n hx hb dX0_fill_3 rfl (lv_at hl 0 rfl) ?_
  refine gk_X0_24 hx hb hts hown hK hP ho.o ho.k dX0_fill_4 ?_
  refine qk_alen9 hx hb hK hP ho.ao ho.ak dX0_fill_7 ?_
  refine lv_icmp_ge (tgt := 24) hx hb dX0_fill_8 (by decide) (fun hc => ?_) (fun hc => ?_)
  · have hf := ifp hc hf
    obtain rfl := Option.some.inj hf
    exact hE2_24 σ_2 _ _ _ (hX2 _ rfl) hP hS (lv_sub hl [] rfl)
  · have hf := ifn hc hf
    refine lv_aload_n hx hb dX0_fill_11 rfl (lv_at hl 0 rfl) ?_
    refine gk_X0_24 hx hb hts hown hK hP ho.o ho.k dX0_fill_12 ?_
    refine lv_iload_n hx hb dX0_fill_15 rfl (lv_at hl 2 rfl) ?_
    refine lv_iload_n hx hb dX0_fill_16 rfl (lv_at hl 1 rfl) ?_
    obtain ⟨σ17, h17, hf⟩ := bnd hf
    refine qk_iast hx hb hK hP hJ hS ho.ao ho.ak h17 dX0_fill_17 (fun H locs hP hS => ?_)
    refine lv_iinc (v := (x2_2 + (1 : Int32))) (lv' := [(2, .int (x2_2 + (1 : Int32))), (0, .ref (w.1 (o))), (1, .int a1)]) hx hb dX0_fill_18 hl (k := 2) rfl ii_1 (by decide) rfl (fun ls hl => ?_)
    refine lv_goto (tgt := 2) hx hb dX0_fill_21 (by decide) ?_
    obtain rfl := Option.some.inj hf
    exact hG2 _ rfl _ _ _ hP hS (lv_sub hl [1, 2, 0] rfl)
set_option maxHeartbeats 4000000 in
set_option maxRecDepth 100000 in
theorem ck_X1_append (l : Launch) (D : va_G) (w : Wv) (σ : Sg) (o : Nat) (a1 : Int32) (r : Int32) (σ' : Sg) (ho : isLk o) (hJ : Injk w) (hf : f_X1_append σ o a1 = some (r, σ')) : Met l yX1_append (.code yX1_append cX1_append 2 (some .int) :: TB) (rmW 1 24) (pcWk D w [.ref (w.1 (o)), .int a1] σ) (qiWk D w r σ') 0 0 (ALk w) := by
  refine qk_open (by decide +kernel) (Nat.le_of_ble_eq_true rfl) ?_
  intro p e s m args below meth c ls hx hb hml hr hlk hown hts hK hP hS hl
  have hown : s.vm.findClass RX1 = some m.cls := hown
  have hl : lv_has ls 2 [(0, .ref (w.1 (o))), (1, .int a1)] := hl
  unfold f_X1_append at hf
  refine lv_aload_n hx hb dX1_append_0 rfl (lv_at hl 0 rfl) ?_
  refine gk_X1_23 hx hb hts hown hK hP ho.o ho.k dX1_append_1 ?_
  refine lv_sipush (v := (200 : Int32)) hx hb dX1_append_4 (by decide) ?_
  refine lv_icmp_lt (tgt := 13) hx hb dX1_append_7 (by decide) (fun hc => ?_) (fun hc => ?_)
  · have hf := ifp hc hf
    refine lv_aload_n hx hb dX1_append_13 rfl (lv_at hl 0 rfl) ?_
    refine gk_X1_14 hx hb hts hown hK hP ho.o ho.k dX1_append_14 ?_
    refine lv_iconst (v := (0 : Int32)) hx hb dX1_append_17 (by decide) ?_
    refine lv_aload_n hx hb dX1_append_18 rfl (lv_at hl 0 rfl) ?_
    refine gk_X1_23 hx hb hts hown hK hP ho.o ho.k dX1_append_19 ?_
    refine lv_iload_n hx hb dX1_append_22 rfl (lv_at hl 1 rfl) ?_
    obtain ⟨σ23, h23, hf⟩ := bnd hf
    refine qk_cVv (As := [.int (0 : Int32), .int (σ (o) 2), .int a1]) hx hb hts hml hown hK hP hS (ck_X0_put l D w σ (o + 1) (0 : Int32) (σ (o) 2) a1 σ23 ho.f0 hJ h23) hw_X1_27 hd_X0_put ⟨rfl, rfl, rfl⟩ ho.f0.o (ce0 ho.f0.k) rfl ⟨Nat.le_of_ble_eq_true rfl, Nat.le_of_ble_eq_true rfl⟩ ⟨Nat.le_of_ble_eq_true rfl, Nat.le_of_ble_eq_true rfl⟩ hl.1 rfl (Nat.le_of_ble_eq_true rfl) dX1_append_23 (fun H locs hP hS => ?_)
    refine lv_aload_n hx hb dX1_append_26 rfl (lv_at hl 0 rfl) ?_
    refine lv_dup hx hb dX1_append_27 rfl ?_
    refine gk_X1_23 hx hb hts hown hK hP ho.o ho.k dX1_append_28 ?_
    refine lv_iconst (v := (1 : Int32)) hx hb dX1_append_31 (by decide) ?_
    refine lv_iadd hx hb dX1_append_32 ?_
    obtain ⟨σ33, h33, hf⟩ := bnd hf
    refine pk_X1_23 hx hb hts hown hK hP hJ hS ho.o ho.k h33 dX1_append_33 (fun H locs hP hS => ?_)
    refine lv_aload_n hx hb dX1_append_36 rfl (lv_at hl 0 rfl) ?_
    refine gk_X1_23 hx hb hts hown hK hP ho.o ho.k dX1_append_37 ?_
    have hq := Option.some.inj hf
    exact qk_iret hx hb hr hlk hP hS (congrArg Prod.fst hq) (congrArg Prod.snd hq) dX1_append_40
  · have hf := ifn hc hf
    refine lv_bipush (v := (-3 : Int32)) hx hb dX1_append_10 (by decide) ?_
    have hq := Option.some.inj hf
    exact qk_iret hx hb hr hlk hP hS (congrArg Prod.fst hq) (congrArg Prod.snd hq) dX1_append_12
set_option maxHeartbeats 4000000 in
set_option maxRecDepth 100000 in
theorem ck_X1_empty (l : Launch) (D : va_G) (w : Wv) (σ : Sg) (o : Nat) (r : Int32) (σ' : Sg) (ho : isLk o) (hJ : Injk w) (hf : f_X1_empty σ o = some (r, σ')) : Met l yX1_empty (.code yX1_empty cX1_empty 2 (some .int) :: TB) (rmW 0 0) (pcWk D w [.ref (w.1 (o))] σ) (qiWk D w r σ') 0 0 (ALk w) := by
  refine qk_open (by decide +kernel) (Nat.le_of_ble_eq_true rfl) ?_
  intro p e s m args below meth c ls hx hb hml hr hlk hown hts hK hP hS hl
  have hown : s.vm.findClass RX1 = some m.cls := hown
  have hl : lv_has ls 2 [(0, .ref (w.1 (o)))] := hl
  unfold f_X1_empty at hf
  refine lv_aload_n hx hb dX1_empty_0 rfl (lv_at hl 0 rfl) ?_
  refine gk_X1_23 hx hb hts hown hK hP ho.o ho.k dX1_empty_1 ?_
  refine lv_istore_n (lv' := [(1, .int (σ (o) 2)), (0, .ref (w.1 (o)))]) hx hb dX1_empty_4 rfl hl (by decide) rfl (fun ls hl => ?_)
  refine lv_aload_n hx hb dX1_empty_5 rfl (lv_at hl 1 rfl) ?_
  refine lv_iconst (v := (0 : Int32)) hx hb dX1_empty_6 (by decide) ?_
  obtain ⟨σ7, h7, hf⟩ := bnd hf
  refine pk_X1_23 hx hb hts hown hK hP hJ hS ho.o ho.k h7 dX1_empty_7 (fun H locs hP hS => ?_)
  refine lv_iload_n hx hb dX1_empty_10 rfl (lv_at hl 0 rfl) ?_
  have hq := Option.some.inj hf
  exact qk_iret hx hb hr hlk hP hS (congrArg Prod.fst hq) (congrArg Prod.snd hq) dX1_empty_11
set_option maxHeartbeats 4000000 in
set_option maxRecDepth 100000 in
theorem ck_X3_clear (l : Launch) (D : va_G) (w : Wv) (σ : Sg) (o : Nat) (a1 : Int32) (σ' : Sg) (ho : isRk o) (hJ : Injk w) (hf : f_X3_clear σ o a1 = some σ') : Met l yX3_clear (.code yX3_clear cX3_clear 2 none :: TB) (rmW 1 22) (pcWk D w [.ref (w.1 (o)), .int a1] σ) (qvWk D w σ') 0 0 (ALk w) := by
  refine qk_open (by decide +kernel) (Nat.le_of_ble_eq_true rfl) ?_
  intro p e s m args below meth c ls hx hb hml hr hlk hown hts hK hP hS hl
  have hown : s.vm.findClass RX3 = some m.cls := hown
  have hl : lv_has ls 2 [(0, .ref (w.1 (o))), (1, .int a1)] := hl
  unfold f_X3_clear at hf
  refine lv_aload_n hx hb dX3_clear_0 rfl (lv_at hl 0 rfl) ?_
  refine lv_iconst (v := (0 : Int32)) hx hb dX3_clear_1 (by decide) ?_
  refine lv_iload_n hx hb dX3_clear_2 rfl (lv_at hl 1 rfl) ?_
  refine lv_bipush (v := (8 : Int32)) hx hb dX3_clear_3 (by decide) ?_
  refine va_mmin hx hb (hml.trans hl.1.symm) hown (hts _ tw_278) (hts _ tw_90) (hts _ tw_57) (hts _ tw_91) (Nat.le_of_ble_eq_true rfl) (Nat.le_of_ble_eq_true rfl) (Nat.zero_le _) (Nat.zero_le _) dX3_clear_5 ?_
  refine va_mmax hx hb (hml.trans hl.1.symm) hown (hts _ tw_279) (hts _ tw_93) (hts _ tw_57) (hts _ tw_94) (Nat.le_of_ble_eq_true rfl) (Nat.le_of_ble_eq_true rfl) (Nat.zero_le _) (Nat.zero_le _) dX3_clear_8 ?_
  obtain ⟨σ11, h11, hf⟩ := bnd hf
  refine pk_X3_9 hx hb hts hown hK hP hJ hS ho.o ho.k h11 dX3_clear_11 (fun H locs hP hS => ?_)
  refine lv_aload_n hx hb dX3_clear_14 rfl (lv_at hl 0 rfl) ?_
  refine gk_X3_20 hx hb hts hown hK hP ho.o ho.k dX3_clear_15 ?_
  refine lv_iconst (v := (0 : Int32)) hx hb dX3_clear_18 (by decide) ?_
  obtain ⟨σ19, h19, hf⟩ := bnd hf
  refine qk_cVv (As := [.int (0 : Int32)]) hx hb hts hml hown hK hP hS (ck_X0_fill l D w σ11 (o + 1) (0 : Int32) σ19 ho.f1 hJ h19) hw_X3_40 hd_X0_fill ⟨rfl, rfl, rfl⟩ ho.f1.o (ce0 ho.f1.k) rfl ⟨Nat.le_of_ble_eq_true rfl, Nat.le_of_ble_eq_true rfl⟩ ⟨Nat.le_of_ble_eq_true rfl, Nat.le_of_ble_eq_true rfl⟩ hl.1 rfl (Nat.le_of_ble_eq_true rfl) dX3_clear_19 (fun H locs hP hS => ?_)
  have hq := Option.some.inj hf
  exact qk_vret hx hb hr hlk hP hS hq dX3_clear_22
set_option maxHeartbeats 4000000 in
set_option maxRecDepth 100000 in
theorem ck_X1_letterHere (l : Launch) (D : va_G) (w : Wv) (σ : Sg) (o : Nat) (r : Int32) (ho : isLk o) (hf : f_X1_letterHere σ o = some r) : Met l yX1_letterHere (.code yX1_letterHere cX1_letterHere 1 (some .int) :: TB) (rmW 1 24) (pcWk D w [.ref (w.1 (o))] σ) (qiWk D w r σ) 0 0 (ALk w) := by
  refine qk_open (by decide +kernel) (Nat.le_of_ble_eq_true rfl) ?_
  intro p e s m args below meth c ls hx hb hml hr hlk hown hts hK hP hS hl
  have hown : s.vm.findClass RX1 = some m.cls := hown
  have hl : lv_has ls 1 [(0, .ref (w.1 (o)))] := hl
  unfold f_X1_letterHere at hf
  refine lv_aload_n hx hb dX1_letterHere_0 rfl (lv_at hl 0 rfl) ?_
  refine gk_X1_36 hx hb hts hown hK hP ho.o ho.k dX1_letterHere_1 ?_
  refine lv_aload_n hx hb dX1_letterHere_4 rfl (lv_at hl 0 rfl) ?_
  refine gk_X1_23 hx hb hts hown hK hP ho.o ho.k dX1_letterHere_5 ?_
  refine lv_icmp_ge (tgt := 26) hx hb dX1_letterHere_8 (by decide) (fun hc => ?_) (fun hc => ?_)
  · have hf := ifp hc hf
    refine lv_bipush (v := (-4 : Int32)) hx hb dX1_letterHere_26 (by decide) ?_
    have hq := Option.some.inj hf
    exact qk_iret hx hb hr hlk hP hS hq rfl dX1_letterHere_28
  · have hf := ifn hc hf
    refine lv_aload_n hx hb dX1_letterHere_11 rfl (lv_at hl 0 rfl) ?_
    refine gk_X1_14 hx hb hts hown hK hP ho.o ho.k dX1_letterHere_12 ?_
    refine lv_iconst (v := (0 : Int32)) hx hb dX1_letterHere_15 (by decide) ?_
    refine lv_aload_n hx hb dX1_letterHere_16 rfl (lv_at hl 0 rfl) ?_
    refine gk_X1_36 hx hb hts hown hK hP ho.o ho.k dX1_letterHere_17 ?_
    obtain ⟨v20, h20, hf⟩ := bnd hf
    refine qk_cVi (As := [.int (0 : Int32), .int (σ (o) 3)]) hx hb hts hml hown hK hP hS (ck_X0_at l D w σ (o + 1) (0 : Int32) (σ (o) 3) v20 ho.f0 h20) hw_X1_55 hd_X0_at ⟨rfl, rfl, rfl⟩ ho.f0.o (ce0 ho.f0.k) rfl ⟨Nat.le_of_ble_eq_true rfl, Nat.le_of_ble_eq_true rfl⟩ ⟨Nat.le_of_ble_eq_true rfl, Nat.le_of_ble_eq_true rfl⟩ hl.1 rfl (Nat.le_of_ble_eq_true rfl) dX1_letterHere_20 (fun H locs hP hS => ?_)
    refine lv_goto (tgt := 28) hx hb dX1_letterHere_23 (by decide) ?_
    have hq := Option.some.inj hf
    exact qk_iret hx hb hr hlk hP hS hq rfl dX1_letterHere_28
set_option maxHeartbeats 4000000 in
set_option maxRecDepth 100000 in
theorem ck_X1_numbersBehind (l : Launch) (D : va_G) (w : Wv) (σ : Sg) (a1 : Int32) (r : Int32)  (hf : f_X1_numbersBehind σ a1 = some r) : Met l yX1_numbersBehind (.code yX1_numbersBehind cX1_numbersBehind 1 (some .int) :: TB) (rmW 0 0) (pcWk D w [.int a1] σ) (qiWk D w r σ) 0 0 (ALk w) := by
  refine qk_open (by decide +kernel) (Nat.le_of_ble_eq_true rfl) ?_
  intro p e s m args below meth c ls hx hb hml hr hlk hown hts hK hP hS hl
  have hown : s.vm.findClass RX1 = some m.cls := hown
  have hl : lv_has ls 1 [(0, .int a1)] := hl
  unfold f_X1_numbersBehind at hf
  refine lv_iload_n hx hb dX1_numbersBehind_0 rfl (lv_at hl 0 rfl) ?_
  rcases Decidable.em (a1 = (110 : Int32)) with hc | hc110
  · have hf := ifp hc hf
    refine lv_tableIn (off := 55) (tgt := 56) hx hb dX1_numbersBehind_1 (by rw [hc]; decide) (by rw [hc]; decide) (by rw [hc]; rfl) (by decide) ?_
    refine lv_iconst (v := (1 : Int32)) hx hb dX1_numbersBehind_56 (by decide) ?_
    have hq := Option.some.inj hf
    exact qk_iret hx hb hr hlk hP hS hq rfl dX1_numbersBehind_57
  have hf := ifn hc110 hf
  rcases Decidable.em (a1 = (111 : Int32)) with hc | hc111
  · have hf := ifp hc hf
    refine lv_tableIn (off := 63) (tgt := 64) hx hb dX1_numbersBehind_1 (by rw [hc]; decide) (by rw [hc]; decide) (by rw [hc]; rfl) (by decide) ?_
    refine lv_iconst (v := (0 : Int32)) hx hb dX1_numbersBehind_64 (by decide) ?_
    have hq := Option.some.inj hf
    exact qk_iret hx hb hr hlk hP hS hq rfl dX1_numbersBehind_65
  have hf := ifn hc111 hf
  rcases Decidable.em (a1 = (112 : Int32)) with hc | hc112
  · have hf := ifp hc hf
    refine lv_tableIn (off := 59) (tgt := 60) hx hb dX1_numbersBehind_1 (by rw [hc]; decide) (by rw [hc]; decide) (by rw [hc]; rfl) (by decide) ?_
    refine lv_iconst (v := (3 : Int32)) hx hb dX1_numbersBehind_60 (by decide) ?_
    have hq := Option.some.inj hf
    exact qk_iret hx hb hr hlk hP hS hq rfl dX1_numbersBehind_61
  have hf := ifn hc112 hf
  rcases Decidable.em (a1 = (113 : Int32)) with hc | hc113
  · have hf := ifp hc hf
    refine lv_tableIn (off := 63) (tgt := 64) hx hb dX1_numbersBehind_1 (by rw [hc]; decide) (by rw [hc]; decide) (by rw [hc]; rfl) (by decide) ?_
    refine lv_iconst (v := (0 : Int32)) hx hb dX1_numbersBehind_64 (by decide) ?_
    have hq := Option.some.inj hf
    exact qk_iret hx hb hr hlk hP hS hq rfl dX1_numbersBehind_65
  have hf := ifn hc113 hf
  rcases Decidable.em (a1 = (114 : Int32)) with hc | hc114
  · have hf := ifp hc hf
    refine lv_tableIn (off := 57) (tgt := 58) hx hb dX1_numbersBehind_1 (by rw [hc]; decide) (by rw [hc]; decide) (by rw [hc]; rfl) (by decide) ?_
    refine lv_iconst (v := (3 : Int32)) hx hb dX1_numbersBehind_58 (by decide) ?_
    have hq := Option.some.inj hf
    exact qk_iret hx hb hr hlk hP hS hq rfl dX1_numbersBehind_59
  have hf := ifn hc114 hf
  rcases Decidable.em (a1 = (115 : Int32)) with hc | hc115
  · have hf := ifp hc hf
    refine lv_tableIn (off := 63) (tgt := 64) hx hb dX1_numbersBehind_1 (by rw [hc]; decide) (by rw [hc]; decide) (by rw [hc]; rfl) (by decide) ?_
    refine lv_iconst (v := (0 : Int32)) hx hb dX1_numbersBehind_64 (by decide) ?_
    have hq := Option.some.inj hf
    exact qk_iret hx hb hr hlk hP hS hq rfl dX1_numbersBehind_65
  have hf := ifn hc115 hf
  rcases Decidable.em (a1 = (116 : Int32)) with hc | hc116
  · have hf := ifp hc hf
    refine lv_tableIn (off := 63) (tgt := 64) hx hb dX1_numbersBehind_1 (by rw [hc]; decide) (by rw [hc]; decide) (by rw [hc]; rfl) (by decide) ?_
    refine lv_iconst (v := (0 : Int32)) hx hb dX1_numbersBehind_64 (by decide) ?_
    have hq := Option.some.inj hf
    exact qk_iret hx hb hr hlk hP hS hq rfl dX1_numbersBehind_65
  have hf := ifn hc116 hf
  rcases Decidable.em (a1 = (117 : Int32)) with hc | hc117
  · have hf := ifp hc hf
    refine lv_tableIn (off := 63) (tgt := 64) hx hb dX1_numbersBehind_1 (by rw [hc]; decide) (by rw [hc]; decide) (by rw [hc]; rfl) (by decide) ?_
    refine lv_iconst (v := (0 : Int32)) hx hb dX1_numbersBehind_64 (by decide) ?_
    have hq := Option.some.inj hf
    exact qk_iret hx hb hr hlk hP hS hq rfl dX1_numbersBehind_65
  have hf := ifn hc117 hf
  rcases Decidable.em (a1 = (118 : Int32)) with hc | hc118
  · have hf := ifp hc hf
    refine lv_tableIn (off := 63) (tgt := 64) hx hb dX1_numbersBehind_1 (by rw [hc]; decide) (by rw [hc]; decide) (by rw [hc]; rfl) (by decide) ?_
    refine lv_iconst (v := (0 : Int32)) hx hb dX1_numbersBehind_64 (by decide) ?_
    have hq := Option.some.inj hf
    exact qk_iret hx hb hr hlk hP hS hq rfl dX1_numbersBehind_65
  have hf := ifn hc118 hf
  rcases Decidable.em (a1 = (119 : Int32)) with hc | hc119
  · have hf := ifp hc hf
    refine lv_tableIn (off := 61) (tgt := 62) hx hb dX1_numbersBehind_1 (by rw [hc]; decide) (by rw [hc]; decide) (by rw [hc]; rfl) (by decide) ?_
    refine lv_iconst (v := (2 : Int32)) hx hb dX1_numbersBehind_62 (by decide) ?_
    have hq := Option.some.inj hf
    exact qk_iret hx hb hr hlk hP hS hq rfl dX1_numbersBehind_63
  have hf := ifn hc119 hf
  refine lv_tableOut (tgt := 64) hx hb dX1_numbersBehind_1 (tb_out_110_119 hc110 hc111 hc112 hc113 hc114 hc115 hc116 hc117 hc118 hc119) (by decide) ?_
  refine lv_iconst (v := (0 : Int32)) hx hb dX1_numbersBehind_64 (by decide) ?_
  have hq := Option.some.inj hf
  exact qk_iret hx hb hr hlk hP hS hq rfl dX1_numbersBehind_65
set_option maxHeartbeats 4000000 in
set_option maxRecDepth 100000 in
theorem ck_X1_readFigure (l : Launch) (D : va_G) (w : Wv) (σ : Sg) (o : Nat) (r : Int32) (σ' : Sg) (ho : isLk o) (hJ : Injk w) (hf : f_X1_readFigure σ o = some (r, σ')) : Met l yX1_readFigure (.code yX1_readFigure cX1_readFigure 2 (some .int) :: TB) (rmW 2 44) (pcWk D w [.ref (w.1 (o))] σ) (qiWk D w r σ') 0 0 (ALk w) := by
  refine qk_open (by decide +kernel) (Nat.le_of_ble_eq_true rfl) ?_
  intro p e s m args below meth c ls hx hb hml hr hlk hown hts hK hP hS hl
  have hown : s.vm.findClass RX1 = some m.cls := hown
  have hl : lv_has ls 2 [(0, .ref (w.1 (o)))] := hl
  unfold f_X1_readFigure at hf
  refine lv_aload_n hx hb dX1_readFigure_0 rfl (lv_at hl 0 rfl) ?_
  obtain ⟨v1, h1, hf⟩ := bnd hf
  refine qk_cVi (As := []) hx hb hts hml hown hK hP hS (ck_X1_letterHere l D w σ (o) v1 ho h1) hw_X1_43 hd_X1_letterHere ⟨rfl, rfl, rfl⟩ ho.o (ce1 ho.k) rfl ⟨Nat.le_of_ble_eq_true rfl, Nat.le_of_ble_eq_true rfl⟩ ⟨Nat.le_of_ble_eq_true rfl, Nat.le_of_ble_eq_true rfl⟩ hl.1 rfl (Nat.le_of_ble_eq_true rfl) dX1_readFigure_1 (fun H locs hP hS => ?_)
  refine lv_istore_n (lv' := [(1, .int v1), (0, .ref (w.1 (o)))]) hx hb dX1_readFigure_4 rfl hl (by decide) rfl (fun ls hl => ?_)
  refine lv_iload_n hx hb dX1_readFigure_5 rfl (lv_at hl 0 rfl) ?_
  refine lv_bipush (v := (48 : Int32)) hx hb dX1_readFigure_6 (by decide) ?_
  refine lv_icmp_lt (tgt := 17) hx hb dX1_readFigure_8 (by decide) (fun hc => ?_) (fun hc => ?_)
  · have hf := ifp hc hf
    refine lv_bipush (v := (-4 : Int32)) hx hb dX1_readFigure_17 (by decide) ?_
    have hq := Option.some.inj hf
    exact qk_iret hx hb hr hlk hP hS (congrArg Prod.fst hq) (congrArg Prod.snd hq) dX1_readFigure_19
  · have hf := ifn hc hf
    refine lv_iload_n hx hb dX1_readFigure_11 rfl (lv_at hl 0 rfl) ?_
    refine lv_bipush (v := (57 : Int32)) hx hb dX1_readFigure_12 (by decide) ?_
    refine lv_icmp_le (tgt := 20) hx hb dX1_readFigure_14 (by decide) (fun hc => ?_) (fun hc => ?_)
    · have hf := ifp hc hf
      refine lv_aload_n hx hb dX1_readFigure_20 rfl (lv_at hl 1 rfl) ?_
      refine lv_dup hx hb dX1_readFigure_21 rfl ?_
      refine gk_X1_36 hx hb hts hown hK hP ho.o ho.k dX1_readFigure_22 ?_
      refine lv_iconst (v := (1 : Int32)) hx hb dX1_readFigure_25 (by decide) ?_
      refine lv_iadd hx hb dX1_readFigure_26 ?_
      obtain ⟨σ27, h27, hf⟩ := bnd hf
      refine pk_X1_36 hx hb hts hown hK hP hJ hS ho.o ho.k h27 dX1_readFigure_27 (fun H locs hP hS => ?_)
      refine lv_iload_n hx hb dX1_readFigure_30 rfl (lv_at hl 0 rfl) ?_
      refine lv_bipush (v := (48 : Int32)) hx hb dX1_readFigure_31 (by decide) ?_
      refine lv_isub hx hb dX1_readFigure_33 ?_
      have hq := Option.some.inj hf
      exact qk_iret hx hb hr hlk hP hS (congrArg Prod.fst hq) (congrArg Prod.snd hq) dX1_readFigure_34
    · have hf := ifn hc hf
      refine lv_bipush (v := (-4 : Int32)) hx hb dX1_readFigure_17 (by decide) ?_
      have hq := Option.some.inj hf
      exact qk_iret hx hb hr hlk hP hS (congrArg Prod.fst hq) (congrArg Prod.snd hq) dX1_readFigure_19
set_option maxHeartbeats 4000000 in
set_option maxRecDepth 100000 in
theorem ck_X1_readNumbers (l : Launch) (D : va_G) (w : Wv) (σ : Sg) (o : Nat) (a1 : Int32) (r : Int32) (σ' : Sg) (ho : isLk o) (hJ : Injk w) (hf : f_X1_readNumbers σ o a1 = some (r, σ')) : Met l yX1_readNumbers (.code yX1_readNumbers cX1_readNumbers 5 (some .boolean) :: TB) (rmW 3 65) (pcWk D w [.ref (w.1 (o)), .int a1] σ) (qzWk D w r σ') 0 0 (ALk w) := by
  refine qk_open (by decide +kernel) (Nat.le_of_ble_eq_true rfl) ?_
  intro p e s m args below meth c ls hx hb hml hr hlk hown hts hK hP hS hl
  have hown : s.vm.findClass RX1 = some m.cls := hown
  have hl : lv_has ls 5 [(0, .ref (w.1 (o))), (1, .int a1)] := hl
  unfold f_X1_readNumbers at hf
  refine lv_iconst (v := (0 : Int32)) hx hb dX1_readNumbers_0 (by decide) ?_
  refine lv_istore_n (lv' := [(2, .int (0 : Int32)), (0, .ref (w.1 (o))), (1, .int a1)]) hx hb dX1_readNumbers_1 rfl hl (by decide) rfl (fun ls hl => ?_)
  obtain ⟨rr, hlp, hf⟩ := bnd hf
  have hE2_18 : ∀ (σ_18 : Sg) (H : Heap) (locs : List Loc) (ls : Array Slot), f_X1_readNumbers_k1 σ_18 = some (r, σ') → va_P D vwCl (WLk w σ_18) H → va_S (ALk w) s.heap H locs → lv_has ls 5 [] → W p l e (rmW 3 65) s m args below meth c H locs 0 0 (MQ below (qzWk D w r σ') args s 0 0 (ALk w)) (F0 m 18 ls []) := by
    intro σ_18 H locs ls hf hP hS hl
    unfold f_X1_readNumbers_k1 at hf
    refine lv_iconst (v := (0 : Int32)) hx hb dX1_readNumbers_18 (by decide) ?_
    have hq := Option.some.inj hf
    exact qk_zret hx hb hr hlk hP hS rfl (congrArg Prod.fst hq) (congrArg Prod.snd hq) dX1_readNumbers_19
  have hE2_74 : ∀ (σ_74 : Sg) (H : Heap) (locs : List Loc) (ls : Array Slot), f_X1_readNumbers_k2 σ_74 = some (r, σ') → va_P D vwCl (WLk w σ_74) H → va_S (ALk w) s.heap H locs → lv_has ls 5 [] → W p l e (rmW 3 65) s m args below meth c H locs 0 0 (MQ below (qzWk D w r σ') args s 0 0 (ALk w)) (F0 m 74 ls []) := by
    intro σ_74 H locs ls hf hP hS hl
    unfold f_X1_readNumbers_k2 at hf
    refine lv_iconst (v := (0 : Int32)) hx hb dX1_readNumbers_74 (by decide) ?_
    have hq := Option.some.inj hf
    exact qk_zret hx hb hr hlk hP hS rfl (congrArg Prod.fst hq) (congrArg Prod.snd hq) dX1_readNumbers_75
  have hE2_92 : ∀ (σ_92 : Sg) (H : Heap) (locs : List Loc) (ls : Array Slot), f_X1_readNumbers_k3 σ_92 = some (r, σ') → va_P D vwCl (WLk w σ_92) H → va_S (ALk w) s.heap H locs → lv_has ls 5 [] → W p l e (rmW 3 65) s m args below meth c H locs 0 0 (MQ below (qzWk D w r σ') args s 0 0 (ALk w)) (F0 m 92 ls []) := by
    intro σ_92 H locs ls hf hP hS hl
    unfold f_X1_readNumbers_k3 at hf
    refine lv_iconst (v := (1 : Int32)) hx hb dX1_readNumbers_92 (by decide) ?_
    have hq := Option.some.inj hf
    exact qk_zret hx hb hr hlk hP hS rfl (congrArg Prod.fst hq) (congrArg Prod.snd hq) dX1_readNumbers_93
  refine lp_ind (G := fun (st : (Int32 × Sg)) => ∀ (H : Heap) (locs : List Loc) (ls : Array Slot), va_P D vwCl (WLk w st.2) H → va_S (ALk w) s.heap H locs → lv_has ls 5 [(0, .ref (w.1 (o))), (1, .int a1), (2, .int st.1)] → W p l e (rmW 3 65) s m args below meth c H locs 0 0 (MQ below (qzWk D w r σ') args s 0 0 (ALk w)) (F0 m 2 ls [])) (X := fun rr => Sum.elim (fun q => f_X1_readNumbers_k1 q) (fun q => Sum.elim (fun q => f_X1_readNumbers_k2 q) (fun q => f_X1_readNumbers_k3 q) q) rr = some (r, σ')) ?_ _ _ rr hlp hf _ _ _ hP hS (lv_sub hl [1, 2, 0] rfl)
  rintro ⟨x2_2, σ_2⟩ oo2 hb9 hG2 hX2 H locs ls hP hS hl
  have hP : va_P D vwCl (WLk w σ_2) H := hP
  have hl : lv_has ls 5 [(0, .ref (w.1 (o))), (1, .int a1), (2, .int x2_2)] := hl
  have hf : f_X1_readNumbers_b1 o a1 x2_2 σ_2 = some oo2 := hb9
  unfold f_X1_readNumbers_b1 at hf
  refine lv_iload_n hx hb dX1_readNumbers_2 rfl (lv_at hl 2 rfl) ?_
  refine lv_iload_n hx hb dX1_readNumbers_3 rfl (lv_at hl 1 rfl) ?_
  refine lv_icmp_ge (tgt := 92) hx hb dX1_readNumbers_4 (by decide) (fun hc => ?_) (fun hc => ?_)
  · have hf := ifp hc hf
    obtain rfl := Option.some.inj hf
    exact hE2_92 σ_2 _ _ _ (hX2 _ rfl) hP hS (lv_sub hl [] rfl)
  · have hf := ifn hc hf
    refine lv_aload_n hx hb dX1_readNumbers_7 rfl (lv_at hl 0 rfl) ?_
    obtain ⟨⟨v8, σ8⟩, h8, hf⟩ := bnd hf
    dsimp only at hf
    refine qk_cVi (As := []) hx hb hts hml hown hK hP hS (ck_X1_readFigure l D w σ_2 (o) v8 σ8 ho hJ h8) hw_X1_73 hd_X1_readFigure ⟨rfl, rfl, rfl⟩ ho.o (ce1 ho.k) rfl ⟨Nat.le_of_ble_eq_true rfl, Nat.le_of_ble_eq_true rfl⟩ ⟨Nat.le_of_ble_eq_true rfl, Nat.le_of_ble_eq_true rfl⟩ hl.1 rfl (Nat.le_of_ble_eq_true rfl) dX1_readNumbers_8 (fun H locs hP hS => ?_)
    refine lv_istore_n (lv' := [(3, .int v8), (0, .ref (w.1 (o))), (1, .int a1), (2, .int x2_2)]) hx hb dX1_readNumbers_11 rfl hl (by decide) rfl (fun ls hl => ?_)
    refine lv_iload_n hx hb dX1_readNumbers_12 rfl (lv_at hl 0 rfl) ?_
    refine lv_bipush (v := (-4 : Int32)) hx hb dX1_readNumbers_13 (by decide) ?_
    refine lv_icmp_ne (tgt := 20) hx hb dX1_readNumbers_15 (by decide) (fun hc => ?_) (fun hc => ?_)
    · have hf := ifp hc hf
      refine lv_aload_n hx hb dX1_readNumbers_20 rfl (lv_at hl 1 rfl) ?_
      obtain ⟨⟨v21, σ21⟩, h21, hf⟩ := bnd hf
      dsimp only at hf
      refine qk_cVi (As := []) hx hb hts hml hown hK hP hS (ck_X1_readFigure l D w σ8 (o) v21 σ21 ho hJ h21) hw_X1_73 hd_X1_readFigure ⟨rfl, rfl, rfl⟩ ho.o (ce1 ho.k) rfl ⟨Nat.le_of_ble_eq_true rfl, Nat.le_of_ble_eq_true rfl⟩ ⟨Nat.le_of_ble_eq_true rfl, Nat.le_of_ble_eq_true rfl⟩ hl.1 rfl (Nat.le_of_ble_eq_true rfl) dX1_readNumbers_21 (fun H locs hP hS => ?_)
      refine lv_istore (lv' := [(4, .int v21), (3, .int v8), (0, .ref (w.1 (o))), (1, .int a1), (2, .int x2_2)]) hx hb dX1_readNumbers_24 hl (by decide) rfl (fun ls hl => ?_)
      refine lv_aload_n hx hb dX1_readNumbers_26 rfl (lv_at hl 2 rfl) ?_
      refine gk_X1_20 hx hb hts hown hK hP ho.o ho.k dX1_readNumbers_27 ?_
      refine lv_iconst (v := (0 : Int32)) hx hb dX1_readNumbers_30 (by decide) ?_
      refine lv_iload_n hx hb dX1_readNumbers_31 rfl (lv_at hl 4 rfl) ?_
      refine lv_iload hx hb dX1_readNumbers_32 (lv_at hl 0 rfl) ?_
      refine lv_bipush (v := (-4 : Int32)) hx hb dX1_readNumbers_34 (by decide) ?_
      refine lv_icmp_ne (tgt := 43) hx hb dX1_readNumbers_36 (by decide) (fun hc => ?_) (fun hc => ?_)
      · have hf := ifp hc hf
        refine lv_iload_n hx hb dX1_readNumbers_43 rfl (lv_at hl 1 rfl) ?_
        refine lv_bipush (v := (10 : Int32)) hx hb dX1_readNumbers_44 (by decide) ?_
        refine lv_imul hx hb dX1_readNumbers_46 ?_
        refine lv_iload hx hb dX1_readNumbers_47 (lv_at hl 0 rfl) ?_
        refine lv_iadd hx hb dX1_readNumbers_49 ?_
        obtain ⟨σ50, h50, hf⟩ := bnd hf
        refine qk_cVv (As := [.int (0 : Int32), .int x2_2, .int ((v8 * (10 : Int32)) + v21)]) hx hb hts hml hown hK hP hS (ck_X0_put l D w σ21 (o + 3) (0 : Int32) x2_2 ((v8 * (10 : Int32)) + v21) σ50 ho.f1 hJ h50) hw_X1_27 hd_X0_put ⟨rfl, rfl, rfl⟩ ho.f1.o (ce0 ho.f1.k) rfl ⟨Nat.le_of_ble_eq_true rfl, Nat.le_of_ble_eq_true rfl⟩ ⟨Nat.le_of_ble_eq_true rfl, Nat.le_of_ble_eq_true rfl⟩ hl.1 rfl (Nat.le_of_ble_eq_true rfl) dX1_readNumbers_50 (fun H locs hP hS => ?_)
        refine lv_aload_n hx hb dX1_readNumbers_53 rfl (lv_at hl 2 rfl) ?_
        obtain ⟨v54, h54, hf⟩ := bnd hf
        refine qk_cVi (As := []) hx hb hts hml hown hK hP hS (ck_X1_letterHere l D w σ50 (o) v54 ho h54) hw_X1_43 hd_X1_letterHere ⟨rfl, rfl, rfl⟩ ho.o (ce1 ho.k) rfl ⟨Nat.le_of_ble_eq_true rfl, Nat.le_of_ble_eq_true rfl⟩ ⟨Nat.le_of_ble_eq_true rfl, Nat.le_of_ble_eq_true rfl⟩ hl.1 rfl (Nat.le_of_ble_eq_true rfl) dX1_readNumbers_54 (fun H locs hP hS => ?_)
        refine lv_iload_n hx hb dX1_readNumbers_57 rfl (lv_at hl 4 rfl) ?_
        refine lv_iconst (v := (1 : Int32)) hx hb dX1_readNumbers_58 (by decide) ?_
        refine lv_iadd hx hb dX1_readNumbers_59 ?_
        refine lv_iload_n hx hb dX1_readNumbers_60 rfl (lv_at hl 3 rfl) ?_
        refine lv_icmp_ge (tgt := 69) hx hb dX1_readNumbers_61 (by decide) (fun hc => ?_) (fun hc => ?_)
        · have hf := ifp hc hf
          refine lv_bipush (v := (59 : Int32)) hx hb dX1_readNumbers_69 (by decide) ?_
          refine lv_icmp_eq (tgt := 76) hx hb dX1_readNumbers_71 (by decide) (fun hc => ?_) (fun hc => ?_)
          · have hf := ifp hc hf
            refine lv_aload_n hx hb dX1_readNumbers_76 rfl (lv_at hl 2 rfl) ?_
            refine lv_dup hx hb dX1_readNumbers_77 rfl ?_
            refine gk_X1_36 hx hb hts hown hK hP ho.o ho.k dX1_readNumbers_78 ?_
            refine lv_iconst (v := (1 : Int32)) hx hb dX1_readNumbers_81 (by decide) ?_
            refine lv_iadd hx hb dX1_readNumbers_82 ?_
            obtain ⟨σ83, h83, hf⟩ := bnd hf
            refine pk_X1_36 hx hb hts hown hK hP hJ hS ho.o ho.k h83 dX1_readNumbers_83 (fun H locs hP hS => ?_)
            refine lv_iinc (v := (x2_2 + (1 : Int32))) (lv' := [(2, .int (x2_2 + (1 : Int32))), (4, .int v21), (3, .int v8), (0, .ref (w.1 (o))), (1, .int a1)]) hx hb dX1_readNumbers_86 hl (k := 4) rfl ii_1 (by decide) rfl (fun ls hl => ?_)
            refine lv_goto (tgt := 2) hx hb dX1_readNumbers_89 (by decide) ?_
            obtain rfl := Option.some.inj hf
            exact hG2 _ rfl _ _ _ hP hS (lv_sub hl [3, 4, 0] rfl)
          · have hf := ifn hc hf
            obtain rfl := Option.some.inj hf
            exact hE2_74 σ50 _ _ _ (hX2 _ rfl) hP hS (lv_sub hl [] rfl)
        · have hf := ifn hc hf
          refine lv_bipush (v := (44 : Int32)) hx hb dX1_readNumbers_64 (by decide) ?_
          refine lv_goto (tgt := 71) hx hb dX1_readNumbers_66 (by decide) ?_
          refine lv_icmp_eq (tgt := 76) hx hb dX1_readNumbers_71 (by decide) (fun hc => ?_) (fun hc => ?_)
          · have hf := ifp hc hf
            refine lv_aload_n hx hb dX1_readNumbers_76 rfl (lv_at hl 2 rfl) ?_
            refine lv_dup hx hb dX1_readNumbers_77 rfl ?_
            refine gk_X1_36 hx hb hts hown hK hP ho.o ho.k dX1_readNumbers_78 ?_
            refine lv_iconst (v := (1 : Int32)) hx hb dX1_readNumbers_81 (by decide) ?_
            refine lv_iadd hx hb dX1_readNumbers_82 ?_
            obtain ⟨σ83, h83, hf⟩ := bnd hf
            refine pk_X1_36 hx hb hts hown hK hP hJ hS ho.o ho.k h83 dX1_readNumbers_83 (fun H locs hP hS => ?_)
            refine lv_iinc (v := (x2_2 + (1 : Int32))) (lv' := [(2, .int (x2_2 + (1 : Int32))), (4, .int v21), (3, .int v8), (0, .ref (w.1 (o))), (1, .int a1)]) hx hb dX1_readNumbers_86 hl (k := 4) rfl ii_1 (by decide) rfl (fun ls hl => ?_)
            refine lv_goto (tgt := 2) hx hb dX1_readNumbers_89 (by decide) ?_
            obtain rfl := Option.some.inj hf
            exact hG2 _ rfl _ _ _ hP hS (lv_sub hl [3, 4, 0] rfl)
          · have hf := ifn hc hf
            obtain rfl := Option.some.inj hf
            exact hE2_74 σ50 _ _ _ (hX2 _ rfl) hP hS (lv_sub hl [] rfl)
      · have hf := ifn (fun h => h hc) hf
        refine lv_iload_n hx hb dX1_readNumbers_39 rfl (lv_at hl 1 rfl) ?_
        refine lv_goto (tgt := 50) hx hb dX1_readNumbers_40 (by decide) ?_
        obtain ⟨σ50, h50, hf⟩ := bnd hf
        refine qk_cVv (As := [.int (0 : Int32), .int x2_2, .int v8]) hx hb hts hml hown hK hP hS (ck_X0_put l D w σ21 (o + 3) (0 : Int32) x2_2 v8 σ50 ho.f1 hJ h50) hw_X1_27 hd_X0_put ⟨rfl, rfl, rfl⟩ ho.f1.o (ce0 ho.f1.k) rfl ⟨Nat.le_of_ble_eq_true rfl, Nat.le_of_ble_eq_true rfl⟩ ⟨Nat.le_of_ble_eq_true rfl, Nat.le_of_ble_eq_true rfl⟩ hl.1 rfl (Nat.le_of_ble_eq_true rfl) dX1_readNumbers_50 (fun H locs hP hS => ?_)
        refine lv_aload_n hx hb dX1_readNumbers_53 rfl (lv_at hl 2 rfl) ?_
        obtain ⟨v54, h54, hf⟩ := bnd hf
        refine qk_cVi (As := []) hx hb hts hml hown hK hP hS (ck_X1_letterHere l D w σ50 (o) v54 ho h54) hw_X1_43 hd_X1_letterHere ⟨rfl, rfl, rfl⟩ ho.o (ce1 ho.k) rfl ⟨Nat.le_of_ble_eq_true rfl, Nat.le_of_ble_eq_true rfl⟩ ⟨Nat.le_of_ble_eq_true rfl, Nat.le_of_ble_eq_true rfl⟩ hl.1 rfl (Nat.le_of_ble_eq_true rfl) dX1_readNumbers_54 (fun H locs hP hS => ?_)
        refine lv_iload_n hx hb dX1_readNumbers_57 rfl (lv_at hl 4 rfl) ?_
        refine lv_iconst (v := (1 : Int32)) hx hb dX1_readNumbers_58 (by decide) ?_
        refine lv_iadd hx hb dX1_readNumbers_59 ?_
        refine lv_iload_n hx hb dX1_readNumbers_60 rfl (lv_at hl 3 rfl) ?_
        refine lv_icmp_ge (tgt := 69) hx hb dX1_readNumbers_61 (by decide) (fun hc => ?_) (fun hc => ?_)
        · have hf := ifp hc hf
          refine lv_bipush (v := (59 : Int32)) hx hb dX1_readNumbers_69 (by decide) ?_
          refine lv_icmp_eq (tgt := 76) hx hb dX1_readNumbers_71 (by decide) (fun hc => ?_) (fun hc => ?_)
          · have hf := ifp hc hf
            refine lv_aload_n hx hb dX1_readNumbers_76 rfl (lv_at hl 2 rfl) ?_
            refine lv_dup hx hb dX1_readNumbers_77 rfl ?_
            refine gk_X1_36 hx hb hts hown hK hP ho.o ho.k dX1_readNumbers_78 ?_
            refine lv_iconst (v := (1 : Int32)) hx hb dX1_readNumbers_81 (by decide) ?_
            refine lv_iadd hx hb dX1_readNumbers_82 ?_
            obtain ⟨σ83, h83, hf⟩ := bnd hf
            refine pk_X1_36 hx hb hts hown hK hP hJ hS ho.o ho.k h83 dX1_readNumbers_83 (fun H locs hP hS => ?_)
            refine lv_iinc (v := (x2_2 + (1 : Int32))) (lv' := [(2, .int (x2_2 + (1 : Int32))), (4, .int v21), (3, .int v8), (0, .ref (w.1 (o))), (1, .int a1)]) hx hb dX1_readNumbers_86 hl (k := 4) rfl ii_1 (by decide) rfl (fun ls hl => ?_)
            refine lv_goto (tgt := 2) hx hb dX1_readNumbers_89 (by decide) ?_
            obtain rfl := Option.some.inj hf
            exact hG2 _ rfl _ _ _ hP hS (lv_sub hl [3, 4, 0] rfl)
          · have hf := ifn hc hf
            obtain rfl := Option.some.inj hf
            exact hE2_74 σ50 _ _ _ (hX2 _ rfl) hP hS (lv_sub hl [] rfl)
        · have hf := ifn hc hf
          refine lv_bipush (v := (44 : Int32)) hx hb dX1_readNumbers_64 (by decide) ?_
          refine lv_goto (tgt := 71) hx hb dX1_readNumbers_66 (by decide) ?_
          refine lv_icmp_eq (tgt := 76) hx hb dX1_readNumbers_71 (by decide) (fun hc => ?_) (fun hc => ?_)
          · have hf := ifp hc hf
            refine lv_aload_n hx hb dX1_readNumbers_76 rfl (lv_at hl 2 rfl) ?_
            refine lv_dup hx hb dX1_readNumbers_77 rfl ?_
            refine gk_X1_36 hx hb hts hown hK hP ho.o ho.k dX1_readNumbers_78 ?_
            refine lv_iconst (v := (1 : Int32)) hx hb dX1_readNumbers_81 (by decide) ?_
            refine lv_iadd hx hb dX1_readNumbers_82 ?_
            obtain ⟨σ83, h83, hf⟩ := bnd hf
            refine pk_X1_36 hx hb hts hown hK hP hJ hS ho.o ho.k h83 dX1_readNumbers_83 (fun H locs hP hS => ?_)
            refine lv_iinc (v := (x2_2 + (1 : Int32))) (lv' := [(2, .int (x2_2 + (1 : Int32))), (4, .int v21), (3, .int v8), (0, .ref (w.1 (o))), (1, .int a1)]) hx hb dX1_readNumbers_86 hl (k := 4) rfl ii_1 (by decide) rfl (fun ls hl => ?_)
            refine lv_goto (tgt := 2) hx hb dX1_readNumbers_89 (by decide) ?_
            obtain rfl := Option.some.inj hf
            exact hG2 _ rfl _ _ _ hP hS (lv_sub hl [3, 4, 0] rfl)
          · have hf := ifn hc hf
            obtain rfl := Option.some.inj hf
            exact hE2_74 σ50 _ _ _ (hX2 _ rfl) hP hS (lv_sub hl [] rfl)
    · have hf := ifn (fun h => h hc) hf
      obtain rfl := Option.some.inj hf
      exact hE2_18 σ8 _ _ _ (hX2 _ rfl) hP hS (lv_sub hl [] rfl)
set_option maxHeartbeats 4000000 in
set_option maxRecDepth 100000 in
theorem ck_X3_towns (l : Launch) (D : va_G) (w : Wv) (σ : Sg) (o : Nat) (r : Int32) (ho : isRk o) (hf : f_X3_towns σ o = some r) : Met l yX3_towns (.code yX3_towns cX3_towns 1 (some .int) :: TB) (rmW 0 0) (pcWk D w [.ref (w.1 (o))] σ) (qiWk D w r σ) 0 0 (ALk w) := by
  refine qk_open (by decide +kernel) (Nat.le_of_ble_eq_true rfl) ?_
  intro p e s m args below meth c ls hx hb hml hr hlk hown hts hK hP hS hl
  have hown : s.vm.findClass RX3 = some m.cls := hown
  have hl : lv_has ls 1 [(0, .ref (w.1 (o)))] := hl
  unfold f_X3_towns at hf
  refine lv_aload_n hx hb dX3_towns_0 rfl (lv_at hl 0 rfl) ?_
  refine gk_X3_9 hx hb hts hown hK hP ho.o ho.k dX3_towns_1 ?_
  have hq := Option.some.inj hf
  exact qk_iret hx hb hr hlk hP hS hq rfl dX3_towns_4
set_option maxHeartbeats 4000000 in
set_option maxRecDepth 100000 in
theorem ck_X3_set (l : Launch) (D : va_G) (w : Wv) (σ : Sg) (o : Nat) (a1 : Int32) (a2 : Int32) (a3 : Int32) (σ' : Sg) (ho : isRk o) (hJ : Injk w) (hf : f_X3_set σ o a1 a2 a3 = some σ') : Met l yX3_set (.code yX3_set cX3_set 4 none :: TB) (rmW 1 24) (pcWk D w [.ref (w.1 (o)), .int a1, .int a2, .int a3] σ) (qvWk D w σ') 0 0 (ALk w) := by
  refine qk_open (by decide +kernel) (Nat.le_of_ble_eq_true rfl) ?_
  intro p e s m args below meth c ls hx hb hml hr hlk hown hts hK hP hS hl
  have hown : s.vm.findClass RX3 = some m.cls := hown
  have hl : lv_has ls 4 [(0, .ref (w.1 (o))), (1, .int a1), (2, .int a2), (3, .int a3)] := hl
  unfold f_X3_set at hf
  refine lv_aload_n hx hb dX3_set_0 rfl (lv_at hl 0 rfl) ?_
  refine gk_X3_20 hx hb hts hown hK hP ho.o ho.k dX3_set_1 ?_
  refine lv_iload_n hx hb dX3_set_4 rfl (lv_at hl 1 rfl) ?_
  refine lv_iload_n hx hb dX3_set_5 rfl (lv_at hl 2 rfl) ?_
  refine lv_iload_n hx hb dX3_set_6 rfl (lv_at hl 3 rfl) ?_
  obtain ⟨σ7, h7, hf⟩ := bnd hf
  refine qk_cVv (As := [.int a1, .int a2, .int a3]) hx hb hts hml hown hK hP hS (ck_X0_put l D w σ (o + 1) a1 a2 a3 σ7 ho.f1 hJ h7) hw_X3_51 hd_X0_put ⟨rfl, rfl, rfl⟩ ho.f1.o (ce0 ho.f1.k) rfl ⟨Nat.le_of_ble_eq_true rfl, Nat.le_of_ble_eq_true rfl⟩ ⟨Nat.le_of_ble_eq_true rfl, Nat.le_of_ble_eq_true rfl⟩ hl.1 rfl (Nat.le_of_ble_eq_true rfl) dX3_set_7 (fun H locs hP hS => ?_)
  refine lv_aload_n hx hb dX3_set_10 rfl (lv_at hl 0 rfl) ?_
  refine gk_X3_20 hx hb hts hown hK hP ho.o ho.k dX3_set_11 ?_
  refine lv_iload_n hx hb dX3_set_14 rfl (lv_at hl 2 rfl) ?_
  refine lv_iload_n hx hb dX3_set_15 rfl (lv_at hl 1 rfl) ?_
  refine lv_iload_n hx hb dX3_set_16 rfl (lv_at hl 3 rfl) ?_
  obtain ⟨σ17, h17, hf⟩ := bnd hf
  refine qk_cVv (As := [.int a2, .int a1, .int a3]) hx hb hts hml hown hK hP hS (ck_X0_put l D w σ7 (o + 1) a2 a1 a3 σ17 ho.f1 hJ h17) hw_X3_51 hd_X0_put ⟨rfl, rfl, rfl⟩ ho.f1.o (ce0 ho.f1.k) rfl ⟨Nat.le_of_ble_eq_true rfl, Nat.le_of_ble_eq_true rfl⟩ ⟨Nat.le_of_ble_eq_true rfl, Nat.le_of_ble_eq_true rfl⟩ hl.1 rfl (Nat.le_of_ble_eq_true rfl) dX3_set_17 (fun H locs hP hS => ?_)
  have hq := Option.some.inj hf
  exact qk_vret hx hb hr hlk hP hS hq dX3_set_20
set_option maxHeartbeats 4000000 in
set_option maxRecDepth 100000 in
theorem ck_X3_shorten (l : Launch) (D : va_G) (w : Wv) (σ : Sg) (o : Nat) (a1 : Int32) (a2 : Int32) (a3 : Int32) (σ' : Sg) (ho : isRk o) (hJ : Injk w) (hf : f_X3_shorten σ o a1 a2 a3 = some σ') : Met l yX3_shorten (.code yX3_shorten cX3_shorten 7 none :: TB) (rmW 1 24) (pcWk D w [.ref (w.1 (o)), .int a1, .int a2, .int a3] σ) (qvWk D w σ') 0 0 (ALk w) := by
  refine qk_open (by decide +kernel) (Nat.le_of_ble_eq_true rfl) ?_
  intro p e s m args below meth c ls hx hb hml hr hlk hown hts hK hP hS hl
  have hown : s.vm.findClass RX3 = some m.cls := hown
  have hl : lv_has ls 7 [(0, .ref (w.1 (o))), (1, .int a1), (2, .int a2), (3, .int a3)] := hl
  unfold f_X3_shorten at hf
  refine lv_aload_n hx hb dX3_shorten_0 rfl (lv_at hl 0 rfl) ?_
  refine gk_X3_24 hx hb hts hown hK hP ho.o ho.k dX3_shorten_1 ?_
  refine lv_iload_n hx hb dX3_shorten_4 rfl (lv_at hl 1 rfl) ?_
  refine lv_iload_n hx hb dX3_shorten_5 rfl (lv_at hl 2 rfl) ?_
  obtain ⟨v6, h6, hf⟩ := bnd hf
  refine qk_cVi (As := [.int a1, .int a2]) hx hb hts hml hown hK hP hS (ck_X0_at l D w σ (o + 3) a1 a2 v6 ho.f2 h6) hw_X3_54 hd_X0_at ⟨rfl, rfl, rfl⟩ ho.f2.o (ce0 ho.f2.k) rfl ⟨Nat.le_of_ble_eq_true rfl, Nat.le_of_ble_eq_true rfl⟩ ⟨Nat.le_of_ble_eq_true rfl, Nat.le_of_ble_eq_true rfl⟩ hl.1 rfl (Nat.le_of_ble_eq_true rfl) dX3_shorten_6 (fun H locs hP hS => ?_)
  refine lv_istore (lv' := [(4, .int v6), (0, .ref (w.1 (o))), (1, .int a1), (2, .int a2), (3, .int a3)]) hx hb dX3_shorten_9 hl (by decide) rfl (fun ls hl => ?_)
  refine lv_aload_n hx hb dX3_shorten_11 rfl (lv_at hl 1 rfl) ?_
  refine gk_X3_24 hx hb hts hown hK hP ho.o ho.k dX3_shorten_12 ?_
  refine lv_iload_n hx hb dX3_shorten_15 rfl (lv_at hl 3 rfl) ?_
  refine lv_iload_n hx hb dX3_shorten_16 rfl (lv_at hl 4 rfl) ?_
  obtain ⟨v17, h17, hf⟩ := bnd hf
  refine qk_cVi (As := [.int a2, .int a3]) hx hb hts hml hown hK hP hS (ck_X0_at l D w σ (o + 3) a2 a3 v17 ho.f2 h17) hw_X3_54 hd_X0_at ⟨rfl, rfl, rfl⟩ ho.f2.o (ce0 ho.f2.k) rfl ⟨Nat.le_of_ble_eq_true rfl, Nat.le_of_ble_eq_true rfl⟩ ⟨Nat.le_of_ble_eq_true rfl, Nat.le_of_ble_eq_true rfl⟩ hl.1 rfl (Nat.le_of_ble_eq_true rfl) dX3_shorten_17 (fun H locs hP hS => ?_)
  refine lv_istore (lv' := [(5, .int v17), (4, .int v6), (0, .ref (w.1 (o))), (1, .int a1), (2, .int a2), (3, .int a3)]) hx hb dX3_shorten_20 hl (by decide) rfl (fun ls hl => ?_)
  refine lv_aload_n hx hb dX3_shorten_22 rfl (lv_at hl 2 rfl) ?_
  refine gk_X3_24 hx hb hts hown hK hP ho.o ho.k dX3_shorten_23 ?_
  refine lv_iload_n hx hb dX3_shorten_26 rfl (lv_at hl 3 rfl) ?_
  refine lv_iload_n hx hb dX3_shorten_27 rfl (lv_at hl 5 rfl) ?_
  obtain ⟨v28, h28, hf⟩ := bnd hf
  refine qk_cVi (As := [.int a1, .int a3]) hx hb hts hml hown hK hP hS (ck_X0_at l D w σ (o + 3) a1 a3 v28 ho.f2 h28) hw_X3_54 hd_X0_at ⟨rfl, rfl, rfl⟩ ho.f2.o (ce0 ho.f2.k) rfl ⟨Nat.le_of_ble_eq_true rfl, Nat.le_of_ble_eq_true rfl⟩ ⟨Nat.le_of_ble_eq_true rfl, Nat.le_of_ble_eq_true rfl⟩ hl.1 rfl (Nat.le_of_ble_eq_true rfl) dX3_shorten_28 (fun H locs hP hS => ?_)
  refine lv_istore (lv' := [(6, .int v28), (5, .int v17), (4, .int v6), (0, .ref (w.1 (o))), (1, .int a1), (2, .int a2), (3, .int a3)]) hx hb dX3_shorten_31 hl (by decide) rfl (fun ls hl => ?_)
  refine lv_iload hx hb dX3_shorten_33 (lv_at hl 2 rfl) ?_
  refine lv_bipush (v := (-4 : Int32)) hx hb dX3_shorten_35 (by decide) ?_
  refine lv_icmp_eq (tgt := 78) hx hb dX3_shorten_37 (by decide) (fun hc => ?_) (fun hc => ?_)
  · have hf := ifp hc hf
    have hq := Option.some.inj hf
    exact qk_vret hx hb hr hlk hP hS hq dX3_shorten_78
  · have hf := ifn hc hf
    refine lv_iload hx hb dX3_shorten_40 (lv_at hl 1 rfl) ?_
    refine lv_bipush (v := (-4 : Int32)) hx hb dX3_shorten_42 (by decide) ?_
    refine lv_icmp_eq (tgt := 78) hx hb dX3_shorten_44 (by decide) (fun hc => ?_) (fun hc => ?_)
    · have hf := ifp hc hf
      have hq := Option.some.inj hf
      exact qk_vret hx hb hr hlk hP hS hq dX3_shorten_78
    · have hf := ifn hc hf
      refine lv_iload hx hb dX3_shorten_47 (lv_at hl 0 rfl) ?_
      refine lv_bipush (v := (-4 : Int32)) hx hb dX3_shorten_49 (by decide) ?_
      refine lv_icmp_eq (tgt := 64) hx hb dX3_shorten_51 (by decide) (fun hc => ?_) (fun hc => ?_)
      · have hf := ifp hc hf
        refine lv_aload_n hx hb dX3_shorten_64 rfl (lv_at hl 3 rfl) ?_
        refine gk_X3_24 hx hb hts hown hK hP ho.o ho.k dX3_shorten_65 ?_
        refine lv_iload_n hx hb dX3_shorten_68 rfl (lv_at hl 4 rfl) ?_
        refine lv_iload_n hx hb dX3_shorten_69 rfl (lv_at hl 6 rfl) ?_
        refine lv_iload hx hb dX3_shorten_70 (lv_at hl 2 rfl) ?_
        refine lv_iload hx hb dX3_shorten_72 (lv_at hl 1 rfl) ?_
        refine lv_iadd hx hb dX3_shorten_74 ?_
        obtain ⟨σ75, h75, hf⟩ := bnd hf
        refine qk_cVv (As := [.int a1, .int a3, .int (v6 + v17)]) hx hb hts hml hown hK hP hS (ck_X0_put l D w σ (o + 3) a1 a3 (v6 + v17) σ75 ho.f2 hJ h75) hw_X3_51 hd_X0_put ⟨rfl, rfl, rfl⟩ ho.f2.o (ce0 ho.f2.k) rfl ⟨Nat.le_of_ble_eq_true rfl, Nat.le_of_ble_eq_true rfl⟩ ⟨Nat.le_of_ble_eq_true rfl, Nat.le_of_ble_eq_true rfl⟩ hl.1 rfl (Nat.le_of_ble_eq_true rfl) dX3_shorten_75 (fun H locs hP hS => ?_)
        have hq := Option.some.inj hf
        exact qk_vret hx hb hr hlk hP hS hq dX3_shorten_78
      · have hf := ifn hc hf
        refine lv_iload hx hb dX3_shorten_54 (lv_at hl 2 rfl) ?_
        refine lv_iload hx hb dX3_shorten_56 (lv_at hl 1 rfl) ?_
        refine lv_iadd hx hb dX3_shorten_58 ?_
        refine lv_iload hx hb dX3_shorten_59 (lv_at hl 0 rfl) ?_
        refine lv_icmp_ge (tgt := 78) hx hb dX3_shorten_61 (by decide) (fun hc => ?_) (fun hc => ?_)
        · have hf := ifp hc hf
          have hq := Option.some.inj hf
          exact qk_vret hx hb hr hlk hP hS hq dX3_shorten_78
        · have hf := ifn hc hf
          refine lv_aload_n hx hb dX3_shorten_64 rfl (lv_at hl 3 rfl) ?_
          refine gk_X3_24 hx hb hts hown hK hP ho.o ho.k dX3_shorten_65 ?_
          refine lv_iload_n hx hb dX3_shorten_68 rfl (lv_at hl 4 rfl) ?_
          refine lv_iload_n hx hb dX3_shorten_69 rfl (lv_at hl 6 rfl) ?_
          refine lv_iload hx hb dX3_shorten_70 (lv_at hl 2 rfl) ?_
          refine lv_iload hx hb dX3_shorten_72 (lv_at hl 1 rfl) ?_
          refine lv_iadd hx hb dX3_shorten_74 ?_
          obtain ⟨σ75, h75, hf⟩ := bnd hf
          refine qk_cVv (As := [.int a1, .int a3, .int (v6 + v17)]) hx hb hts hml hown hK hP hS (ck_X0_put l D w σ (o + 3) a1 a3 (v6 + v17) σ75 ho.f2 hJ h75) hw_X3_51 hd_X0_put ⟨rfl, rfl, rfl⟩ ho.f2.o (ce0 ho.f2.k) rfl ⟨Nat.le_of_ble_eq_true rfl, Nat.le_of_ble_eq_true rfl⟩ ⟨Nat.le_of_ble_eq_true rfl, Nat.le_of_ble_eq_true rfl⟩ hl.1 rfl (Nat.le_of_ble_eq_true rfl) dX3_shorten_75 (fun H locs hP hS => ?_)
          have hq := Option.some.inj hf
          exact qk_vret hx hb hr hlk hP hS hq dX3_shorten_78
set_option maxHeartbeats 4000000 in
set_option maxRecDepth 100000 in
theorem ck_X3_survey (l : Launch) (D : va_G) (w : Wv) (σ : Sg) (o : Nat) (σ' : Sg) (ho : isRk o) (hJ : Injk w) (hf : f_X3_survey σ o = some σ') : Met l yX3_survey (.code yX3_survey cX3_survey 4 none :: TB) (rmW 2 50) (pcWk D w [.ref (w.1 (o))] σ) (qvWk D w σ') 0 0 (ALk w) := by
  refine qk_open (by decide +kernel) (Nat.le_of_ble_eq_true rfl) ?_
  intro p e s m args below meth c ls hx hb hml hr hlk hown hts hK hP hS hl
  have hown : s.vm.findClass RX3 = some m.cls := hown
  have hl : lv_has ls 4 [(0, .ref (w.1 (o)))] := hl
  unfold f_X3_survey at hf
  refine lv_iconst (v := (0 : Int32)) hx hb dX3_survey_0 (by decide) ?_
  refine lv_istore_n (lv' := [(1, .int (0 : Int32)), (0, .ref (w.1 (o)))]) hx hb dX3_survey_1 rfl hl (by decide) rfl (fun ls hl => ?_)
  obtain ⟨rr, hlp, hf⟩ := bnd hf
  have hE2_70 : ∀ (σ_70 : Sg) (H : Heap) (locs : List Loc) (ls : Array Slot), f_X3_survey_k5 o σ_70 = some σ' → va_P D vwCl (WLk w σ_70) H → va_S (ALk w) s.heap H locs → lv_has ls 4 [(0, .ref (w.1 (o)))] → W p l e (rmW 2 50) s m args below meth c H locs 0 0 (MQ below (qvWk D w σ') args s 0 0 (ALk w)) (F0 m 70 ls []) := by
    intro σ_70 H locs ls hf hP hS hl
    unfold f_X3_survey_k5 at hf
    refine lv_iconst (v := (0 : Int32)) hx hb dX3_survey_70 (by decide) ?_
    refine lv_istore_n (lv' := [(1, .int (0 : Int32)), (0, .ref (w.1 (o)))]) hx hb dX3_survey_71 rfl hl (by decide) rfl (fun ls hl => ?_)
    obtain ⟨rr, hlp, hf⟩ := bnd hf
    have hE72_125 : ∀ (σ_125 : Sg) (H : Heap) (locs : List Loc) (ls : Array Slot), f_X3_survey_k4 σ_125 = some σ' → va_P D vwCl (WLk w σ_125) H → va_S (ALk w) s.heap H locs → lv_has ls 4 [] → W p l e (rmW 2 50) s m args below meth c H locs 0 0 (MQ below (qvWk D w σ') args s 0 0 (ALk w)) (F0 m 125 ls []) := by
      intro σ_125 H locs ls hf hP hS hl
      unfold f_X3_survey_k4 at hf
      have hq := Option.some.inj hf
      exact qk_vret hx hb hr hlk hP hS hq dX3_survey_125
    refine lp_ind (G := fun (st : (Int32 × Sg)) => ∀ (H : Heap) (locs : List Loc) (ls : Array Slot), va_P D vwCl (WLk w st.2) H → va_S (ALk w) s.heap H locs → lv_has ls 4 [(0, .ref (w.1 (o))), (1, .int st.1)] → W p l e (rmW 2 50) s m args below meth c H locs 0 0 (MQ below (qvWk D w σ') args s 0 0 (ALk w)) (F0 m 72 ls [])) (X := fun rr => f_X3_survey_k4 rr = some σ') ?_ _ _ rr hlp hf _ _ _ hP hS (lv_sub hl [1, 0] rfl)
    rintro ⟨x1_72, σ_72⟩ oo72 hb9 hG72 hX72 H locs ls hP hS hl
    have hP : va_P D vwCl (WLk w σ_72) H := hP
    have hl : lv_has ls 4 [(0, .ref (w.1 (o))), (1, .int x1_72)] := hl
    have hf : f_X3_survey_b5 o x1_72 σ_72 = some oo72 := hb9
    unfold f_X3_survey_b5 at hf
    refine lv_iload_n hx hb dX3_survey_72 rfl (lv_at hl 1 rfl) ?_
    refine lv_aload_n hx hb dX3_survey_73 rfl (lv_at hl 0 rfl) ?_
    refine gk_X3_9 hx hb hts hown hK hP ho.o ho.k dX3_survey_74 ?_
    refine lv_icmp_ge (tgt := 125) hx hb dX3_survey_77 (by decide) (fun hc => ?_) (fun hc => ?_)
    · have hf := ifp hc hf
      obtain rfl := Option.some.inj hf
      exact hE72_125 σ_72 _ _ _ (hX72 _ rfl) hP hS (lv_sub hl [] rfl)
    · have hf := ifn hc hf
      refine lv_iconst (v := (0 : Int32)) hx hb dX3_survey_80 (by decide) ?_
      refine lv_istore_n (lv' := [(2, .int (0 : Int32)), (0, .ref (w.1 (o))), (1, .int x1_72)]) hx hb dX3_survey_81 rfl hl (by decide) rfl (fun ls hl => ?_)
      obtain ⟨rr, hlp, hf⟩ := bnd hf
      have hE82_119 : ∀ (σ_119 : Sg) (H : Heap) (locs : List Loc) (ls : Array Slot), f_X3_survey_k3 x1_72 σ_119 = some oo72 → va_P D vwCl (WLk w σ_119) H → va_S (ALk w) s.heap H locs → lv_has ls 4 [(0, .ref (w.1 (o))), (1, .int x1_72)] → W p l e (rmW 2 50) s m args below meth c H locs 0 0 (MQ below (qvWk D w σ') args s 0 0 (ALk w)) (F0 m 119 ls []) := by
        intro σ_119 H locs ls hf hP hS hl
        unfold f_X3_survey_k3 at hf
        refine lv_iinc (v := (x1_72 + (1 : Int32))) (lv' := [(1, .int (x1_72 + (1 : Int32))), (0, .ref (w.1 (o)))]) hx hb dX3_survey_119 hl (k := 1) rfl ii_1 (by decide) rfl (fun ls hl => ?_)
        refine lv_goto (tgt := 72) hx hb dX3_survey_122 (by decide) ?_
        obtain rfl := Option.some.inj hf
        exact hG72 _ rfl _ _ _ hP hS (lv_sub hl [1, 0] rfl)
      refine lp_ind (G := fun (st : (Int32 × Sg)) => ∀ (H : Heap) (locs : List Loc) (ls : Array Slot), va_P D vwCl (WLk w st.2) H → va_S (ALk w) s.heap H locs → lv_has ls 4 [(0, .ref (w.1 (o))), (1, .int x1_72), (2, .int st.1)] → W p l e (rmW 2 50) s m args below meth c H locs 0 0 (MQ below (qvWk D w σ') args s 0 0 (ALk w)) (F0 m 82 ls [])) (X := fun rr => f_X3_survey_k3 x1_72 rr = some oo72) ?_ _ _ rr hlp hf _ _ _ hP hS (lv_sub hl [1, 2, 0] rfl)
      rintro ⟨x2_82, σ_82⟩ oo82 hb9 hG82 hX82 H locs ls hP hS hl
      have hP : va_P D vwCl (WLk w σ_82) H := hP
      have hl : lv_has ls 4 [(0, .ref (w.1 (o))), (1, .int x1_72), (2, .int x2_82)] := hl
      have hf : f_X3_survey_b4 o x1_72 x2_82 σ_82 = some oo82 := hb9
      unfold f_X3_survey_b4 at hf
      refine lv_iload_n hx hb dX3_survey_82 rfl (lv_at hl 2 rfl) ?_
      refine lv_aload_n hx hb dX3_survey_83 rfl (lv_at hl 0 rfl) ?_
      refine gk_X3_9 hx hb hts hown hK hP ho.o ho.k dX3_survey_84 ?_
      refine lv_icmp_ge (tgt := 119) hx hb dX3_survey_87 (by decide) (fun hc => ?_) (fun hc => ?_)
      · have hf := ifp hc hf
        obtain rfl := Option.some.inj hf
        exact hE82_119 σ_82 _ _ _ (hX82 _ rfl) hP hS (lv_sub hl [0, 1] rfl)
      · have hf := ifn hc hf
        refine lv_iconst (v := (0 : Int32)) hx hb dX3_survey_90 (by decide) ?_
        refine lv_istore_n (lv' := [(3, .int (0 : Int32)), (0, .ref (w.1 (o))), (1, .int x1_72), (2, .int x2_82)]) hx hb dX3_survey_91 rfl hl (by decide) rfl (fun ls hl => ?_)
        obtain ⟨rr, hlp, hf⟩ := bnd hf
        have hE92_113 : ∀ (σ_113 : Sg) (H : Heap) (locs : List Loc) (ls : Array Slot), f_X3_survey_k2 x2_82 σ_113 = some oo82 → va_P D vwCl (WLk w σ_113) H → va_S (ALk w) s.heap H locs → lv_has ls 4 [(0, .ref (w.1 (o))), (1, .int x1_72), (2, .int x2_82)] → W p l e (rmW 2 50) s m args below meth c H locs 0 0 (MQ below (qvWk D w σ') args s 0 0 (ALk w)) (F0 m 113 ls []) := by
          intro σ_113 H locs ls hf hP hS hl
          unfold f_X3_survey_k2 at hf
          refine lv_iinc (v := (x2_82 + (1 : Int32))) (lv' := [(2, .int (x2_82 + (1 : Int32))), (0, .ref (w.1 (o))), (1, .int x1_72)]) hx hb dX3_survey_113 hl (k := 2) rfl ii_1 (by decide) rfl (fun ls hl => ?_)
          refine lv_goto (tgt := 82) hx hb dX3_survey_116 (by decide) ?_
          obtain rfl := Option.some.inj hf
          exact hG82 _ rfl _ _ _ hP hS (lv_sub hl [1, 2, 0] rfl)
        refine lp_ind (G := fun (st : (Int32 × Sg)) => ∀ (H : Heap) (locs : List Loc) (ls : Array Slot), va_P D vwCl (WLk w st.2) H → va_S (ALk w) s.heap H locs → lv_has ls 4 [(0, .ref (w.1 (o))), (1, .int x1_72), (2, .int x2_82), (3, .int st.1)] → W p l e (rmW 2 50) s m args below meth c H locs 0 0 (MQ below (qvWk D w σ') args s 0 0 (ALk w)) (F0 m 92 ls [])) (X := fun rr => f_X3_survey_k2 x2_82 rr = some oo82) ?_ _ _ rr hlp hf _ _ _ hP hS (lv_sub hl [1, 2, 3, 0] rfl)
        rintro ⟨x3_92, σ_92⟩ oo92 hb9 hG92 hX92 H locs ls hP hS hl
        have hP : va_P D vwCl (WLk w σ_92) H := hP
        have hl : lv_has ls 4 [(0, .ref (w.1 (o))), (1, .int x1_72), (2, .int x2_82), (3, .int x3_92)] := hl
        have hf : f_X3_survey_b3 o x1_72 x2_82 x3_92 σ_92 = some oo92 := hb9
        unfold f_X3_survey_b3 at hf
        refine lv_iload_n hx hb dX3_survey_92 rfl (lv_at hl 3 rfl) ?_
        refine lv_aload_n hx hb dX3_survey_93 rfl (lv_at hl 0 rfl) ?_
        refine gk_X3_9 hx hb hts hown hK hP ho.o ho.k dX3_survey_94 ?_
        refine lv_icmp_ge (tgt := 113) hx hb dX3_survey_97 (by decide) (fun hc => ?_) (fun hc => ?_)
        · have hf := ifp hc hf
          obtain rfl := Option.some.inj hf
          exact hE92_113 σ_92 _ _ _ (hX92 _ rfl) hP hS (lv_sub hl [0, 1, 2] rfl)
        · have hf := ifn hc hf
          refine lv_aload_n hx hb dX3_survey_100 rfl (lv_at hl 0 rfl) ?_
          refine lv_iload_n hx hb dX3_survey_101 rfl (lv_at hl 2 rfl) ?_
          refine lv_iload_n hx hb dX3_survey_102 rfl (lv_at hl 1 rfl) ?_
          refine lv_iload_n hx hb dX3_survey_103 rfl (lv_at hl 3 rfl) ?_
          obtain ⟨σ104, h104, hf⟩ := bnd hf
          refine qk_cVv (As := [.int x2_82, .int x1_72, .int x3_92]) hx hb hts hml hown hK hP hS (ck_X3_shorten l D w σ_92 (o) x2_82 x1_72 x3_92 σ104 ho hJ h104) hw_X3_57 hd_X3_shorten ⟨rfl, rfl, rfl⟩ ho.o (ce3 ho.k) rfl ⟨Nat.le_of_ble_eq_true rfl, Nat.le_of_ble_eq_true rfl⟩ ⟨Nat.le_of_ble_eq_true rfl, Nat.le_of_ble_eq_true rfl⟩ hl.1 rfl (Nat.le_of_ble_eq_true rfl) dX3_survey_104 (fun H locs hP hS => ?_)
          refine lv_iinc (v := (x3_92 + (1 : Int32))) (lv' := [(3, .int (x3_92 + (1 : Int32))), (0, .ref (w.1 (o))), (1, .int x1_72), (2, .int x2_82)]) hx hb dX3_survey_107 hl (k := 3) rfl ii_1 (by decide) rfl (fun ls hl => ?_)
          refine lv_goto (tgt := 92) hx hb dX3_survey_110 (by decide) ?_
          obtain rfl := Option.some.inj hf
          exact hG92 _ rfl _ _ _ hP hS (lv_sub hl [1, 2, 3, 0] rfl)
  refine lp_ind (G := fun (st : (Int32 × Sg)) => ∀ (H : Heap) (locs : List Loc) (ls : Array Slot), va_P D vwCl (WLk w st.2) H → va_S (ALk w) s.heap H locs → lv_has ls 4 [(0, .ref (w.1 (o))), (1, .int st.1)] → W p l e (rmW 2 50) s m args below meth c H locs 0 0 (MQ below (qvWk D w σ') args s 0 0 (ALk w)) (F0 m 2 ls [])) (X := fun rr => f_X3_survey_k5 o rr = some σ') ?_ _ _ rr hlp hf _ _ _ hP hS (lv_sub hl [1, 0] rfl)
  rintro ⟨x1_2, σ_2⟩ oo2 hb9 hG2 hX2 H locs ls hP hS hl
  have hP : va_P D vwCl (WLk w σ_2) H := hP
  have hl : lv_has ls 4 [(0, .ref (w.1 (o))), (1, .int x1_2)] := hl
  have hf : f_X3_survey_b2 o x1_2 σ_2 = some oo2 := hb9
  unfold f_X3_survey_b2 at hf
  refine lv_iload_n hx hb dX3_survey_2 rfl (lv_at hl 1 rfl) ?_
  refine lv_aload_n hx hb dX3_survey_3 rfl (lv_at hl 0 rfl) ?_
  refine gk_X3_9 hx hb hts hown hK hP ho.o ho.k dX3_survey_4 ?_
  refine lv_icmp_ge (tgt := 70) hx hb dX3_survey_7 (by decide) (fun hc => ?_) (fun hc => ?_)
  · have hf := ifp hc hf
    obtain rfl := Option.some.inj hf
    exact hE2_70 σ_2 _ _ _ (hX2 _ rfl) hP hS (lv_sub hl [0] rfl)
  · have hf := ifn hc hf
    refine lv_iconst (v := (0 : Int32)) hx hb dX3_survey_10 (by decide) ?_
    refine lv_istore_n (lv' := [(2, .int (0 : Int32)), (0, .ref (w.1 (o))), (1, .int x1_2)]) hx hb dX3_survey_11 rfl hl (by decide) rfl (fun ls hl => ?_)
    obtain ⟨rr, hlp, hf⟩ := bnd hf
    have hE12_64 : ∀ (σ_64 : Sg) (H : Heap) (locs : List Loc) (ls : Array Slot), f_X3_survey_k1 x1_2 σ_64 = some oo2 → va_P D vwCl (WLk w σ_64) H → va_S (ALk w) s.heap H locs → lv_has ls 4 [(0, .ref (w.1 (o))), (1, .int x1_2)] → W p l e (rmW 2 50) s m args below meth c H locs 0 0 (MQ below (qvWk D w σ') args s 0 0 (ALk w)) (F0 m 64 ls []) := by
      intro σ_64 H locs ls hf hP hS hl
      unfold f_X3_survey_k1 at hf
      refine lv_iinc (v := (x1_2 + (1 : Int32))) (lv' := [(1, .int (x1_2 + (1 : Int32))), (0, .ref (w.1 (o)))]) hx hb dX3_survey_64 hl (k := 1) rfl ii_1 (by decide) rfl (fun ls hl => ?_)
      refine lv_goto (tgt := 2) hx hb dX3_survey_67 (by decide) ?_
      obtain rfl := Option.some.inj hf
      exact hG2 _ rfl _ _ _ hP hS (lv_sub hl [1, 0] rfl)
    refine lp_ind (G := fun (st : (Int32 × Sg)) => ∀ (H : Heap) (locs : List Loc) (ls : Array Slot), va_P D vwCl (WLk w st.2) H → va_S (ALk w) s.heap H locs → lv_has ls 4 [(0, .ref (w.1 (o))), (1, .int x1_2), (2, .int st.1)] → W p l e (rmW 2 50) s m args below meth c H locs 0 0 (MQ below (qvWk D w σ') args s 0 0 (ALk w)) (F0 m 12 ls [])) (X := fun rr => f_X3_survey_k1 x1_2 rr = some oo2) ?_ _ _ rr hlp hf _ _ _ hP hS (lv_sub hl [1, 2, 0] rfl)
    rintro ⟨x2_12, σ_12⟩ oo12 hb9 hG12 hX12 H locs ls hP hS hl
    have hP : va_P D vwCl (WLk w σ_12) H := hP
    have hl : lv_has ls 4 [(0, .ref (w.1 (o))), (1, .int x1_2), (2, .int x2_12)] := hl
    have hf : f_X3_survey_b1 o x1_2 x2_12 σ_12 = some oo12 := hb9
    unfold f_X3_survey_b1 at hf
    refine lv_iload_n hx hb dX3_survey_12 rfl (lv_at hl 2 rfl) ?_
    refine lv_aload_n hx hb dX3_survey_13 rfl (lv_at hl 0 rfl) ?_
    refine gk_X3_9 hx hb hts hown hK hP ho.o ho.k dX3_survey_14 ?_
    refine lv_icmp_ge (tgt := 64) hx hb dX3_survey_17 (by decide) (fun hc => ?_) (fun hc => ?_)
    · have hf := ifp hc hf
      obtain rfl := Option.some.inj hf
      exact hE12_64 σ_12 _ _ _ (hX12 _ rfl) hP hS (lv_sub hl [0, 1] rfl)
    · have hf := ifn hc hf
      refine lv_aload_n hx hb dX3_survey_20 rfl (lv_at hl 0 rfl) ?_
      refine gk_X3_20 hx hb hts hown hK hP ho.o ho.k dX3_survey_21 ?_
      refine lv_iload_n hx hb dX3_survey_24 rfl (lv_at hl 1 rfl) ?_
      refine lv_iload_n hx hb dX3_survey_25 rfl (lv_at hl 2 rfl) ?_
      obtain ⟨v26, h26, hf⟩ := bnd hf
      refine qk_cVi (As := [.int x1_2, .int x2_12]) hx hb hts hml hown hK hP hS (ck_X0_at l D w σ_12 (o + 1) x1_2 x2_12 v26 ho.f1 h26) hw_X3_54 hd_X0_at ⟨rfl, rfl, rfl⟩ ho.f1.o (ce0 ho.f1.k) rfl ⟨Nat.le_of_ble_eq_true rfl, Nat.le_of_ble_eq_true rfl⟩ ⟨Nat.le_of_ble_eq_true rfl, Nat.le_of_ble_eq_true rfl⟩ hl.1 rfl (Nat.le_of_ble_eq_true rfl) dX3_survey_26 (fun H locs hP hS => ?_)
      refine lv_istore_n (lv' := [(3, .int v26), (0, .ref (w.1 (o))), (1, .int x1_2), (2, .int x2_12)]) hx hb dX3_survey_29 rfl hl (by decide) rfl (fun ls hl => ?_)
      refine lv_aload_n hx hb dX3_survey_30 rfl (lv_at hl 1 rfl) ?_
      refine gk_X3_24 hx hb hts hown hK hP ho.o ho.k dX3_survey_31 ?_
      refine lv_iload_n hx hb dX3_survey_34 rfl (lv_at hl 2 rfl) ?_
      refine lv_iload_n hx hb dX3_survey_35 rfl (lv_at hl 3 rfl) ?_
      refine lv_iload_n hx hb dX3_survey_36 rfl (lv_at hl 2 rfl) ?_
      refine lv_iload_n hx hb dX3_survey_37 rfl (lv_at hl 3 rfl) ?_
      refine lv_icmp_ne (tgt := 45) hx hb dX3_survey_38 (by decide) (fun hc => ?_) (fun hc => ?_)
      · have hf := ifp hc hf
        refine lv_iload_n hx hb dX3_survey_45 rfl (lv_at hl 0 rfl) ?_
        refine lv_if_le (tgt := 53) hx hb dX3_survey_46 (by decide) (fun hc => ?_) (fun hc => ?_)
        · have hf := ifp hc hf
          refine lv_bipush (v := (-4 : Int32)) hx hb dX3_survey_53 (by decide) ?_
          obtain ⟨σ55, h55, hf⟩ := bnd hf
          refine qk_cVv (As := [.int x1_2, .int x2_12, .int (-4 : Int32)]) hx hb hts hml hown hK hP hS (ck_X0_put l D w σ_12 (o + 3) x1_2 x2_12 (-4 : Int32) σ55 ho.f2 hJ h55) hw_X3_51 hd_X0_put ⟨rfl, rfl, rfl⟩ ho.f2.o (ce0 ho.f2.k) rfl ⟨Nat.le_of_ble_eq_true rfl, Nat.le_of_ble_eq_true rfl⟩ ⟨Nat.le_of_ble_eq_true rfl, Nat.le_of_ble_eq_true rfl⟩ hl.1 rfl (Nat.le_of_ble_eq_true rfl) dX3_survey_55 (fun H locs hP hS => ?_)
          refine lv_iinc (v := (x2_12 + (1 : Int32))) (lv' := [(2, .int (x2_12 + (1 : Int32))), (3, .int v26), (0, .ref (w.1 (o))), (1, .int x1_2)]) hx hb dX3_survey_58 hl (k := 3) rfl ii_1 (by decide) rfl (fun ls hl => ?_)
          refine lv_goto (tgt := 12) hx hb dX3_survey_61 (by decide) ?_
          obtain rfl := Option.some.inj hf
          exact hG12 _ rfl _ _ _ hP hS (lv_sub hl [2, 3, 0] rfl)
        · have hf := ifn hc hf
          refine lv_iload_n hx hb dX3_survey_49 rfl (lv_at hl 0 rfl) ?_
          refine lv_goto (tgt := 55) hx hb dX3_survey_50 (by decide) ?_
          obtain ⟨σ55, h55, hf⟩ := bnd hf
          refine qk_cVv (As := [.int x1_2, .int x2_12, .int v26]) hx hb hts hml hown hK hP hS (ck_X0_put l D w σ_12 (o + 3) x1_2 x2_12 v26 σ55 ho.f2 hJ h55) hw_X3_51 hd_X0_put ⟨rfl, rfl, rfl⟩ ho.f2.o (ce0 ho.f2.k) rfl ⟨Nat.le_of_ble_eq_true rfl, Nat.le_of_ble_eq_true rfl⟩ ⟨Nat.le_of_ble_eq_true rfl, Nat.le_of_ble_eq_true rfl⟩ hl.1 rfl (Nat.le_of_ble_eq_true rfl) dX3_survey_55 (fun H locs hP hS => ?_)
          refine lv_iinc (v := (x2_12 + (1 : Int32))) (lv' := [(2, .int (x2_12 + (1 : Int32))), (3, .int v26), (0, .ref (w.1 (o))), (1, .int x1_2)]) hx hb dX3_survey_58 hl (k := 3) rfl ii_1 (by decide) rfl (fun ls hl => ?_)
          refine lv_goto (tgt := 12) hx hb dX3_survey_61 (by decide) ?_
          obtain rfl := Option.some.inj hf
          exact hG12 _ rfl _ _ _ hP hS (lv_sub hl [2, 3, 0] rfl)
      · have hf := ifn (fun h => h hc) hf
        refine lv_iconst (v := (0 : Int32)) hx hb dX3_survey_41 (by decide) ?_
        refine lv_goto (tgt := 55) hx hb dX3_survey_42 (by decide) ?_
        obtain ⟨σ55, h55, hf⟩ := bnd hf
        refine qk_cVv (As := [.int x1_2, .int x2_12, .int (0 : Int32)]) hx hb hts hml hown hK hP hS (ck_X0_put l D w σ_12 (o + 3) x1_2 x2_12 (0 : Int32) σ55 ho.f2 hJ h55) hw_X3_51 hd_X0_put ⟨rfl, rfl, rfl⟩ ho.f2.o (ce0 ho.f2.k) rfl ⟨Nat.le_of_ble_eq_true rfl, Nat.le_of_ble_eq_true rfl⟩ ⟨Nat.le_of_ble_eq_true rfl, Nat.le_of_ble_eq_true rfl⟩ hl.1 rfl (Nat.le_of_ble_eq_true rfl) dX3_survey_55 (fun H locs hP hS => ?_)
        refine lv_iinc (v := (x2_12 + (1 : Int32))) (lv' := [(2, .int (x2_12 + (1 : Int32))), (3, .int v26), (0, .ref (w.1 (o))), (1, .int x1_2)]) hx hb dX3_survey_58 hl (k := 3) rfl ii_1 (by decide) rfl (fun ls hl => ?_)
        refine lv_goto (tgt := 12) hx hb dX3_survey_61 (by decide) ?_
        obtain rfl := Option.some.inj hf
        exact hG12 _ rfl _ _ _ hP hS (lv_sub hl [2, 3, 0] rfl)
set_option maxHeartbeats 4000000 in
set_option maxRecDepth 100000 in
theorem ck_X3_pathMiles (l : Launch) (D : va_G) (w : Wv) (σ : Sg) (o : Nat) (a1 : Int32) (a2 : Int32) (r : Int32) (ho : isRk o) (hf : f_X3_pathMiles σ o a1 a2 = some r) : Met l yX3_pathMiles (.code yX3_pathMiles cX3_pathMiles 3 (some .int) :: TB) (rmW 1 24) (pcWk D w [.ref (w.1 (o)), .int a1, .int a2] σ) (qiWk D w r σ) 0 0 (ALk w) := by
  refine qk_open (by decide +kernel) (Nat.le_of_ble_eq_true rfl) ?_
  intro p e s m args below meth c ls hx hb hml hr hlk hown hts hK hP hS hl
  have hown : s.vm.findClass RX3 = some m.cls := hown
  have hl : lv_has ls 3 [(0, .ref (w.1 (o))), (1, .int a1), (2, .int a2)] := hl
  unfold f_X3_pathMiles at hf
  refine lv_aload_n hx hb dX3_pathMiles_0 rfl (lv_at hl 0 rfl) ?_
  refine gk_X3_24 hx hb hts hown hK hP ho.o ho.k dX3_pathMiles_1 ?_
  refine lv_iload_n hx hb dX3_pathMiles_4 rfl (lv_at hl 1 rfl) ?_
  refine lv_iload_n hx hb dX3_pathMiles_5 rfl (lv_at hl 2 rfl) ?_
  obtain ⟨v6, h6, hf⟩ := bnd hf
  refine qk_cVi (As := [.int a1, .int a2]) hx hb hts hml hown hK hP hS (ck_X0_at l D w σ (o + 3) a1 a2 v6 ho.f2 h6) hw_X3_54 hd_X0_at ⟨rfl, rfl, rfl⟩ ho.f2.o (ce0 ho.f2.k) rfl ⟨Nat.le_of_ble_eq_true rfl, Nat.le_of_ble_eq_true rfl⟩ ⟨Nat.le_of_ble_eq_true rfl, Nat.le_of_ble_eq_true rfl⟩ hl.1 rfl (Nat.le_of_ble_eq_true rfl) dX3_pathMiles_6 (fun H locs hP hS => ?_)
  have hq := Option.some.inj hf
  exact qk_iret hx hb hr hlk hP hS hq rfl dX3_pathMiles_9
set_option maxHeartbeats 4000000 in
set_option maxRecDepth 100000 in
theorem ck_X3_firstStep (l : Launch) (D : va_G) (w : Wv) (σ : Sg) (o : Nat) (a1 : Int32) (a2 : Int32) (r : Int32) (ho : isRk o) (hf : f_X3_firstStep σ o a1 a2 = some r) : Met l yX3_firstStep (.code yX3_firstStep cX3_firstStep 7 (some .int) :: TB) (rmW 1 24) (pcWk D w [.ref (w.1 (o)), .int a1, .int a2] σ) (qiWk D w r σ) 0 0 (ALk w) := by
  refine qk_open (by decide +kernel) (Nat.le_of_ble_eq_true rfl) ?_
  intro p e s m args below meth c ls hx hb hml hr hlk hown hts hK hP hS hl
  have hown : s.vm.findClass RX3 = some m.cls := hown
  have hl : lv_has ls 7 [(0, .ref (w.1 (o))), (1, .int a1), (2, .int a2)] := hl
  unfold f_X3_firstStep at hf
  refine lv_aload_n hx hb dX3_firstStep_0 rfl (lv_at hl 0 rfl) ?_
  refine gk_X3_24 hx hb hts hown hK hP ho.o ho.k dX3_firstStep_1 ?_
  refine lv_iload_n hx hb dX3_firstStep_4 rfl (lv_at hl 1 rfl) ?_
  refine lv_iload_n hx hb dX3_firstStep_5 rfl (lv_at hl 2 rfl) ?_
  obtain ⟨v6, h6, hf⟩ := bnd hf
  refine qk_cVi (As := [.int a1, .int a2]) hx hb hts hml hown hK hP hS (ck_X0_at l D w σ (o + 3) a1 a2 v6 ho.f2 h6) hw_X3_54 hd_X0_at ⟨rfl, rfl, rfl⟩ ho.f2.o (ce0 ho.f2.k) rfl ⟨Nat.le_of_ble_eq_true rfl, Nat.le_of_ble_eq_true rfl⟩ ⟨Nat.le_of_ble_eq_true rfl, Nat.le_of_ble_eq_true rfl⟩ hl.1 rfl (Nat.le_of_ble_eq_true rfl) dX3_firstStep_6 (fun H locs hP hS => ?_)
  refine lv_istore_n (lv' := [(3, .int v6), (0, .ref (w.1 (o))), (1, .int a1), (2, .int a2)]) hx hb dX3_firstStep_9 rfl hl (by decide) rfl (fun ls hl => ?_)
  refine lv_iload_n hx hb dX3_firstStep_10 rfl (lv_at hl 2 rfl) ?_
  refine lv_iload_n hx hb dX3_firstStep_11 rfl (lv_at hl 3 rfl) ?_
  refine lv_icmp_eq (tgt := 21) hx hb dX3_firstStep_12 (by decide) (fun hc => ?_) (fun hc => ?_)
  · have hf := ifp hc hf
    refine lv_bipush (v := (-4 : Int32)) hx hb dX3_firstStep_21 (by decide) ?_
    have hq := Option.some.inj hf
    exact qk_iret hx hb hr hlk hP hS hq rfl dX3_firstStep_23
  · have hf := ifn hc hf
    refine lv_iload_n hx hb dX3_firstStep_15 rfl (lv_at hl 0 rfl) ?_
    refine lv_bipush (v := (-4 : Int32)) hx hb dX3_firstStep_16 (by decide) ?_
    refine lv_icmp_ne (tgt := 24) hx hb dX3_firstStep_18 (by decide) (fun hc => ?_) (fun hc => ?_)
    · have hf := ifp hc hf
      refine lv_iconst (v := (0 : Int32)) hx hb dX3_firstStep_24 (by decide) ?_
      refine lv_istore (lv' := [(4, .int (0 : Int32)), (3, .int v6), (0, .ref (w.1 (o))), (1, .int a1), (2, .int a2)]) hx hb dX3_firstStep_25 hl (by decide) rfl (fun ls hl => ?_)
      obtain ⟨rr, hlp, hf⟩ := bnd hf
      have hE27_81 : ∀ (y4_81 : Int32) (H : Heap) (locs : List Loc) (ls : Array Slot), f_X3_firstStep_k1 y4_81 = some r → va_P D vwCl (WLk w σ) H → va_S (ALk w) s.heap H locs → lv_has ls 7 [(4, .int y4_81)] → W p l e (rmW 1 24) s m args below meth c H locs 0 0 (MQ below (qiWk D w r σ) args s 0 0 (ALk w)) (F0 m 81 ls []) := by
        intro y4_81 H locs ls hf hP hS hl
        unfold f_X3_firstStep_k1 at hf
        refine lv_iload hx hb dX3_firstStep_81 (lv_at hl 0 rfl) ?_
        have hq := Option.some.inj hf
        exact qk_iret hx hb hr hlk hP hS hq rfl dX3_firstStep_83
      have hE27_90 : ∀  (H : Heap) (locs : List Loc) (ls : Array Slot), f_X3_firstStep_k2 () = some r → va_P D vwCl (WLk w σ) H → va_S (ALk w) s.heap H locs → lv_has ls 7 [] → W p l e (rmW 1 24) s m args below meth c H locs 0 0 (MQ below (qiWk D w r σ) args s 0 0 (ALk w)) (F0 m 90 ls []) := by
        intro  H locs ls hf hP hS hl
        unfold f_X3_firstStep_k2 at hf
        refine lv_bipush (v := (-4 : Int32)) hx hb dX3_firstStep_90 (by decide) ?_
        have hq := Option.some.inj hf
        exact qk_iret hx hb hr hlk hP hS hq rfl dX3_firstStep_92
      refine lp_ind (G := fun (st : Int32) => ∀ (H : Heap) (locs : List Loc) (ls : Array Slot), va_P D vwCl (WLk w σ) H → va_S (ALk w) s.heap H locs → lv_has ls 7 [(0, .ref (w.1 (o))), (1, .int a1), (2, .int a2), (3, .int v6), (4, .int st)] → W p l e (rmW 1 24) s m args below meth c H locs 0 0 (MQ below (qiWk D w r σ) args s 0 0 (ALk w)) (F0 m 27 ls [])) (X := fun rr => Sum.elim (fun q => f_X3_firstStep_k1 q) (fun q => f_X3_firstStep_k2 ()) rr = some r) ?_ _ _ rr hlp hf _ _ _ hP hS (lv_sub hl [2, 3, 4, 1, 0] rfl)
      intro x4_27 oo27 hb9 hG27 hX27 H locs ls hP hS hl
      have hP : va_P D vwCl (WLk w σ) H := hP
      have hl : lv_has ls 7 [(0, .ref (w.1 (o))), (1, .int a1), (2, .int a2), (3, .int v6), (4, .int x4_27)] := hl
      have hf : f_X3_firstStep_b1 σ o a1 a2 v6 x4_27 = some oo27 := hb9
      unfold f_X3_firstStep_b1 at hf
      refine lv_iload hx hb dX3_firstStep_27 (lv_at hl 4 rfl) ?_
      refine lv_aload_n hx hb dX3_firstStep_29 rfl (lv_at hl 0 rfl) ?_
      refine gk_X3_9 hx hb hts hown hK hP ho.o ho.k dX3_firstStep_30 ?_
      refine lv_icmp_ge (tgt := 90) hx hb dX3_firstStep_33 (by decide) (fun hc => ?_) (fun hc => ?_)
      · have hf := ifp hc hf
        obtain rfl := Option.some.inj hf
        exact hE27_90  _ _ _ (hX27 _ rfl) hP hS (lv_sub hl [] rfl)
      · have hf := ifn hc hf
        refine lv_aload_n hx hb dX3_firstStep_36 rfl (lv_at hl 0 rfl) ?_
        refine gk_X3_20 hx hb hts hown hK hP ho.o ho.k dX3_firstStep_37 ?_
        refine lv_iload_n hx hb dX3_firstStep_40 rfl (lv_at hl 1 rfl) ?_
        refine lv_iload hx hb dX3_firstStep_41 (lv_at hl 4 rfl) ?_
        obtain ⟨v43, h43, hf⟩ := bnd hf
        refine qk_cVi (As := [.int a1, .int x4_27]) hx hb hts hml hown hK hP hS (ck_X0_at l D w σ (o + 1) a1 x4_27 v43 ho.f1 h43) hw_X3_54 hd_X0_at ⟨rfl, rfl, rfl⟩ ho.f1.o (ce0 ho.f1.k) rfl ⟨Nat.le_of_ble_eq_true rfl, Nat.le_of_ble_eq_true rfl⟩ ⟨Nat.le_of_ble_eq_true rfl, Nat.le_of_ble_eq_true rfl⟩ hl.1 rfl (Nat.le_of_ble_eq_true rfl) dX3_firstStep_43 (fun H locs hP hS => ?_)
        refine lv_istore (lv' := [(5, .int v43), (0, .ref (w.1 (o))), (1, .int a1), (2, .int a2), (3, .int v6), (4, .int x4_27)]) hx hb dX3_firstStep_46 hl (by decide) rfl (fun ls hl => ?_)
        refine lv_aload_n hx hb dX3_firstStep_48 rfl (lv_at hl 1 rfl) ?_
        refine gk_X3_24 hx hb hts hown hK hP ho.o ho.k dX3_firstStep_49 ?_
        refine lv_iload hx hb dX3_firstStep_52 (lv_at hl 5 rfl) ?_
        refine lv_iload_n hx hb dX3_firstStep_54 rfl (lv_at hl 3 rfl) ?_
        obtain ⟨v55, h55, hf⟩ := bnd hf
        refine qk_cVi (As := [.int x4_27, .int a2]) hx hb hts hml hown hK hP hS (ck_X0_at l D w σ (o + 3) x4_27 a2 v55 ho.f2 h55) hw_X3_54 hd_X0_at ⟨rfl, rfl, rfl⟩ ho.f2.o (ce0 ho.f2.k) rfl ⟨Nat.le_of_ble_eq_true rfl, Nat.le_of_ble_eq_true rfl⟩ ⟨Nat.le_of_ble_eq_true rfl, Nat.le_of_ble_eq_true rfl⟩ hl.1 rfl (Nat.le_of_ble_eq_true rfl) dX3_firstStep_55 (fun H locs hP hS => ?_)
        refine lv_istore (lv' := [(6, .int v55), (5, .int v43), (0, .ref (w.1 (o))), (1, .int a1), (2, .int a2), (3, .int v6), (4, .int x4_27)]) hx hb dX3_firstStep_58 hl (by decide) rfl (fun ls hl => ?_)
        refine lv_iload hx hb dX3_firstStep_60 (lv_at hl 1 rfl) ?_
        refine lv_if_le (tgt := 84) hx hb dX3_firstStep_62 (by decide) (fun hc => ?_) (fun hc => ?_)
        · have hf := ifp hc hf
          refine lv_iinc (v := (x4_27 + (1 : Int32))) (lv' := [(4, .int (x4_27 + (1 : Int32))), (6, .int v55), (5, .int v43), (0, .ref (w.1 (o))), (1, .int a1), (2, .int a2), (3, .int v6)]) hx hb dX3_firstStep_84 hl (k := 6) rfl ii_1 (by decide) rfl (fun ls hl => ?_)
          refine lv_goto (tgt := 27) hx hb dX3_firstStep_87 (by decide) ?_
          obtain rfl := Option.some.inj hf
          exact hG27 _ rfl _ _ _ hP hS (lv_sub hl [3, 4, 5, 6, 0] rfl)
        · have hf := ifn hc hf
          refine lv_iload hx hb dX3_firstStep_65 (lv_at hl 0 rfl) ?_
          refine lv_bipush (v := (-4 : Int32)) hx hb dX3_firstStep_67 (by decide) ?_
          refine lv_icmp_eq (tgt := 84) hx hb dX3_firstStep_69 (by decide) (fun hc => ?_) (fun hc => ?_)
          · have hf := ifp hc hf
            refine lv_iinc (v := (x4_27 + (1 : Int32))) (lv' := [(4, .int (x4_27 + (1 : Int32))), (6, .int v55), (5, .int v43), (0, .ref (w.1 (o))), (1, .int a1), (2, .int a2), (3, .int v6)]) hx hb dX3_firstStep_84 hl (k := 6) rfl ii_1 (by decide) rfl (fun ls hl => ?_)
            refine lv_goto (tgt := 27) hx hb dX3_firstStep_87 (by decide) ?_
            obtain rfl := Option.some.inj hf
            exact hG27 _ rfl _ _ _ hP hS (lv_sub hl [3, 4, 5, 6, 0] rfl)
          · have hf := ifn hc hf
            refine lv_iload hx hb dX3_firstStep_72 (lv_at hl 1 rfl) ?_
            refine lv_iload hx hb dX3_firstStep_74 (lv_at hl 0 rfl) ?_
            refine lv_iadd hx hb dX3_firstStep_76 ?_
            refine lv_iload_n hx hb dX3_firstStep_77 rfl (lv_at hl 5 rfl) ?_
            refine lv_icmp_ne (tgt := 84) hx hb dX3_firstStep_78 (by decide) (fun hc => ?_) (fun hc => ?_)
            · have hf := ifp hc hf
              refine lv_iinc (v := (x4_27 + (1 : Int32))) (lv' := [(4, .int (x4_27 + (1 : Int32))), (6, .int v55), (5, .int v43), (0, .ref (w.1 (o))), (1, .int a1), (2, .int a2), (3, .int v6)]) hx hb dX3_firstStep_84 hl (k := 6) rfl ii_1 (by decide) rfl (fun ls hl => ?_)
              refine lv_goto (tgt := 27) hx hb dX3_firstStep_87 (by decide) ?_
              obtain rfl := Option.some.inj hf
              exact hG27 _ rfl _ _ _ hP hS (lv_sub hl [3, 4, 5, 6, 0] rfl)
            · have hf := ifn (fun h => h hc) hf
              obtain rfl := Option.some.inj hf
              exact hE27_81 x4_27 _ _ _ (hX27 _ rfl) hP hS (lv_sub hl [6] rfl)
    · have hf := ifn (fun h => h hc) hf
      refine lv_bipush (v := (-4 : Int32)) hx hb dX3_firstStep_21 (by decide) ?_
      have hq := Option.some.inj hf
      exact qk_iret hx hb hr hlk hP hS hq rfl dX3_firstStep_23
set_option maxHeartbeats 4000000 in
set_option maxRecDepth 100000 in
theorem ck_X5_clear (l : Launch) (D : va_G) (w : Wv) (σ : Sg) (o : Nat) (σ' : Sg) (ho : isYk o) (hJ : Injk w) (hf : f_X5_clear σ o = some σ') : Met l yX5_clear (.code yX5_clear cX5_clear 1 none :: TB) (rmW 2 43) (pcWk D w [.ref (w.1 (o))] σ) (qvWk D w σ') 0 0 (ALk w) := by
  refine qk_open (by decide +kernel) (Nat.le_of_ble_eq_true rfl) ?_
  intro p e s m args below meth c ls hx hb hml hr hlk hown hts hK hP hS hl
  have hown : s.vm.findClass RX5 = some m.cls := hown
  have hl : lv_has ls 1 [(0, .ref (w.1 (o)))] := hl
  unfold f_X5_clear at hf
  refine lv_aload_n hx hb dX5_clear_0 rfl (lv_at hl 0 rfl) ?_
  refine gk_X5_12 hx hb hts hown hK hP ho.o ho.k dX5_clear_1 ?_
  refine lv_bipush (v := (6 : Int32)) hx hb dX5_clear_4 (by decide) ?_
  obtain ⟨σ6, h6, hf⟩ := bnd hf
  refine qk_cVv (As := [.int (6 : Int32)]) hx hb hts hml hown hK hP hS (ck_X3_clear l D w σ (o + 1) (6 : Int32) σ6 ho.f0 hJ h6) hw_X5_59 hd_X3_clear ⟨rfl, rfl, rfl⟩ ho.f0.o (ce3 ho.f0.k) rfl ⟨Nat.le_of_ble_eq_true rfl, Nat.le_of_ble_eq_true rfl⟩ ⟨Nat.le_of_ble_eq_true rfl, Nat.le_of_ble_eq_true rfl⟩ hl.1 rfl (Nat.le_of_ble_eq_true rfl) dX5_clear_6 (fun H locs hP hS => ?_)
  refine lv_aload_n hx hb dX5_clear_9 rfl (lv_at hl 0 rfl) ?_
  refine lv_iconst (v := (0 : Int32)) hx hb dX5_clear_10 (by decide) ?_
  obtain ⟨σ11, h11, hf⟩ := bnd hf
  refine pk_X5_43 hx hb hts hown hK hP hJ hS ho.o ho.k h11 dX5_clear_11 (fun H locs hP hS => ?_)
  refine lv_aload_n hx hb dX5_clear_14 rfl (lv_at hl 0 rfl) ?_
  refine lv_iconst (v := (0 : Int32)) hx hb dX5_clear_15 (by decide) ?_
  obtain ⟨σ16, h16, hf⟩ := bnd hf
  refine pk_X5_47 hx hb hts hown hK hP hJ hS ho.o ho.k h16 dX5_clear_16 (fun H locs hP hS => ?_)
  refine lv_aload_n hx hb dX5_clear_19 rfl (lv_at hl 0 rfl) ?_
  refine lv_iconst (v := (0 : Int32)) hx hb dX5_clear_20 (by decide) ?_
  obtain ⟨σ21, h21, hf⟩ := bnd hf
  refine pk_X5_50 hx hb hts hown hK hP hJ hS ho.o ho.k h21 dX5_clear_21 (fun H locs hP hS => ?_)
  refine lv_aload_n hx hb dX5_clear_24 rfl (lv_at hl 0 rfl) ?_
  refine lv_iconst (v := (0 : Int32)) hx hb dX5_clear_25 (by decide) ?_
  obtain ⟨σ26, h26, hf⟩ := bnd hf
  refine pk_X5_53 hx hb hts hown hK hP hJ hS ho.o ho.k h26 dX5_clear_26 (fun H locs hP hS => ?_)
  refine lv_aload_n hx hb dX5_clear_29 rfl (lv_at hl 0 rfl) ?_
  refine lv_iconst (v := (0 : Int32)) hx hb dX5_clear_30 (by decide) ?_
  obtain ⟨σ31, h31, hf⟩ := bnd hf
  refine pk_X5_56 hx hb hts hown hK hP hJ hS ho.o ho.k h31 dX5_clear_31 (fun H locs hP hS => ?_)
  have hq := Option.some.inj hf
  exact qk_vret hx hb hr hlk hP hS hq dX5_clear_34
set_option maxHeartbeats 4000000 in
set_option maxRecDepth 100000 in
theorem ck_X5_tellTowns (l : Launch) (D : va_G) (w : Wv) (σ : Sg) (o : Nat) (a1 : Int32) (r : Int32) (σ' : Sg) (ho : isYk o) (hJ : Injk w) (hf : f_X5_tellTowns σ o a1 = some (r, σ')) : Met l yX5_tellTowns (.code yX5_tellTowns cX5_tellTowns 2 (some .boolean) :: TB) (rmW 2 43) (pcWk D w [.ref (w.1 (o)), .int a1] σ) (qzWk D w r σ') 0 0 (ALk w) := by
  refine qk_open (by decide +kernel) (Nat.le_of_ble_eq_true rfl) ?_
  intro p e s m args below meth c ls hx hb hml hr hlk hown hts hK hP hS hl
  have hown : s.vm.findClass RX5 = some m.cls := hown
  have hl : lv_has ls 2 [(0, .ref (w.1 (o))), (1, .int a1)] := hl
  unfold f_X5_tellTowns at hf
  refine lv_iload_n hx hb dX5_tellTowns_0 rfl (lv_at hl 1 rfl) ?_
  refine lv_iconst (v := (2 : Int32)) hx hb dX5_tellTowns_1 (by decide) ?_
  refine lv_icmp_lt (tgt := 11) hx hb dX5_tellTowns_2 (by decide) (fun hc => ?_) (fun hc => ?_)
  · have hf := ifp hc hf
    refine lv_iconst (v := (0 : Int32)) hx hb dX5_tellTowns_11 (by decide) ?_
    have hq := Option.some.inj hf
    exact qk_zret hx hb hr hlk hP hS rfl (congrArg Prod.fst hq) (congrArg Prod.snd hq) dX5_tellTowns_12
  · have hf := ifn hc hf
    refine lv_iload_n hx hb dX5_tellTowns_5 rfl (lv_at hl 1 rfl) ?_
    refine lv_bipush (v := (8 : Int32)) hx hb dX5_tellTowns_6 (by decide) ?_
    refine lv_icmp_le (tgt := 13) hx hb dX5_tellTowns_8 (by decide) (fun hc => ?_) (fun hc => ?_)
    · have hf := ifp hc hf
      refine lv_aload_n hx hb dX5_tellTowns_13 rfl (lv_at hl 0 rfl) ?_
      refine gk_X5_12 hx hb hts hown hK hP ho.o ho.k dX5_tellTowns_14 ?_
      refine lv_iload_n hx hb dX5_tellTowns_17 rfl (lv_at hl 1 rfl) ?_
      obtain ⟨σ18, h18, hf⟩ := bnd hf
      refine qk_cVv (As := [.int a1]) hx hb hts hml hown hK hP hS (ck_X3_clear l D w σ (o + 1) a1 σ18 ho.f0 hJ h18) hw_X5_59 hd_X3_clear ⟨rfl, rfl, rfl⟩ ho.f0.o (ce3 ho.f0.k) rfl ⟨Nat.le_of_ble_eq_true rfl, Nat.le_of_ble_eq_true rfl⟩ ⟨Nat.le_of_ble_eq_true rfl, Nat.le_of_ble_eq_true rfl⟩ hl.1 rfl (Nat.le_of_ble_eq_true rfl) dX5_tellTowns_18 (fun H locs hP hS => ?_)
      refine lv_iconst (v := (1 : Int32)) hx hb dX5_tellTowns_21 (by decide) ?_
      have hq := Option.some.inj hf
      exact qk_zret hx hb hr hlk hP hS rfl (congrArg Prod.fst hq) (congrArg Prod.snd hq) dX5_tellTowns_22
    · have hf := ifn hc hf
      refine lv_iconst (v := (0 : Int32)) hx hb dX5_tellTowns_11 (by decide) ?_
      have hq := Option.some.inj hf
      exact qk_zret hx hb hr hlk hP hS rfl (congrArg Prod.fst hq) (congrArg Prod.snd hq) dX5_tellTowns_12
set_option maxHeartbeats 4000000 in
set_option maxRecDepth 100000 in
theorem ck_X5_isTown (l : Launch) (D : va_G) (w : Wv) (σ : Sg) (o : Nat) (a1 : Int32) (r : Int32) (ho : isYk o) (hf : f_X5_isTown σ o a1 = some r) : Met l yX5_isTown (.code yX5_isTown cX5_isTown 2 (some .boolean) :: TB) (rmW 1 20) (pcWk D w [.ref (w.1 (o)), .int a1] σ) (qzWk D w r σ) 0 0 (ALk w) := by
  refine qk_open (by decide +kernel) (Nat.le_of_ble_eq_true rfl) ?_
  intro p e s m args below meth c ls hx hb hml hr hlk hown hts hK hP hS hl
  have hown : s.vm.findClass RX5 = some m.cls := hown
  have hl : lv_has ls 2 [(0, .ref (w.1 (o))), (1, .int a1)] := hl
  unfold f_X5_isTown at hf
  refine lv_iload_n hx hb dX5_isTown_0 rfl (lv_at hl 1 rfl) ?_
  refine lv_if_lt (tgt := 19) hx hb dX5_isTown_1 (by decide) (fun hc => ?_) (fun hc => ?_)
  · have hf := ifp hc hf
    refine lv_iconst (v := (0 : Int32)) hx hb dX5_isTown_19 (by decide) ?_
    have hq := Option.some.inj hf
    exact qk_zret hx hb hr hlk hP hS rfl hq rfl dX5_isTown_20
  · have hf := ifn hc hf
    refine lv_iload_n hx hb dX5_isTown_4 rfl (lv_at hl 1 rfl) ?_
    refine lv_aload_n hx hb dX5_isTown_5 rfl (lv_at hl 0 rfl) ?_
    refine gk_X5_12 hx hb hts hown hK hP ho.o ho.k dX5_isTown_6 ?_
    obtain ⟨v9, h9, hf⟩ := bnd hf
    refine qk_cVi (As := []) hx hb hts hml hown hK hP hS (ck_X3_towns l D w σ (o + 1) v9 ho.f0 h9) hw_X5_85 hd_X3_towns ⟨rfl, rfl, rfl⟩ ho.f0.o (ce3 ho.f0.k) rfl ⟨Nat.le_of_ble_eq_true rfl, Nat.le_of_ble_eq_true rfl⟩ ⟨Nat.le_of_ble_eq_true rfl, Nat.le_of_ble_eq_true rfl⟩ hl.1 rfl (Nat.le_of_ble_eq_true rfl) dX5_isTown_9 (fun H locs hP hS => ?_)
    refine lv_icmp_ge (tgt := 19) hx hb dX5_isTown_12 (by decide) (fun hc => ?_) (fun hc => ?_)
    · have hf := ifp hc hf
      refine lv_iconst (v := (0 : Int32)) hx hb dX5_isTown_19 (by decide) ?_
      have hq := Option.some.inj hf
      exact qk_zret hx hb hr hlk hP hS rfl hq rfl dX5_isTown_20
    · have hf := ifn hc hf
      refine lv_iconst (v := (1 : Int32)) hx hb dX5_isTown_15 (by decide) ?_
      refine lv_goto (tgt := 20) hx hb dX5_isTown_16 (by decide) ?_
      have hq := Option.some.inj hf
      exact qk_zret hx hb hr hlk hP hS rfl hq rfl dX5_isTown_20
set_option maxHeartbeats 4000000 in
set_option maxRecDepth 100000 in
theorem ck_X5_areTwoTowns (l : Launch) (D : va_G) (w : Wv) (σ : Sg) (o : Nat) (a1 : Int32) (a2 : Int32) (r : Int32) (ho : isYk o) (hf : f_X5_areTwoTowns σ o a1 a2 = some r) : Met l yX5_areTwoTowns (.code yX5_areTwoTowns cX5_areTwoTowns 3 (some .boolean) :: TB) (rmW 2 41) (pcWk D w [.ref (w.1 (o)), .int a1, .int a2] σ) (qzWk D w r σ) 0 0 (ALk w) := by
  refine qk_open (by decide +kernel) (Nat.le_of_ble_eq_true rfl) ?_
  intro p e s m args below meth c ls hx hb hml hr hlk hown hts hK hP hS hl
  have hown : s.vm.findClass RX5 = some m.cls := hown
  have hl : lv_has ls 3 [(0, .ref (w.1 (o))), (1, .int a1), (2, .int a2)] := hl
  unfold f_X5_areTwoTowns at hf
  refine lv_aload_n hx hb dX5_areTwoTowns_0 rfl (lv_at hl 0 rfl) ?_
  refine lv_iload_n hx hb dX5_areTwoTowns_1 rfl (lv_at hl 1 rfl) ?_
  obtain ⟨v2, h2, hf⟩ := bnd hf
  refine qk_cVz (As := [.int a1]) hx hb hts hml hown hK hP hS (ck_X5_isTown l D w σ (o) a1 v2 ho h2) hw_X5_71 hd_X5_isTown ⟨rfl, rfl, rfl⟩ ho.o (ce5 ho.k) rfl ⟨Nat.le_of_ble_eq_true rfl, Nat.le_of_ble_eq_true rfl⟩ ⟨Nat.le_of_ble_eq_true rfl, Nat.le_of_ble_eq_true rfl⟩ hl.1 rfl (Nat.le_of_ble_eq_true rfl) dX5_areTwoTowns_2 (fun hz2 H locs hP hS => ?_)
  refine lv_if_eq (tgt := 25) hx hb dX5_areTwoTowns_5 (by decide) (fun hc => ?_) (fun hc => ?_)
  · have hf := ifp hc hf
    refine lv_iconst (v := (0 : Int32)) hx hb dX5_areTwoTowns_25 (by decide) ?_
    have hq := Option.some.inj hf
    exact qk_zret hx hb hr hlk hP hS rfl hq rfl dX5_areTwoTowns_26
  · have hf := ifn hc hf
    refine lv_aload_n hx hb dX5_areTwoTowns_8 rfl (lv_at hl 0 rfl) ?_
    refine lv_iload_n hx hb dX5_areTwoTowns_9 rfl (lv_at hl 2 rfl) ?_
    obtain ⟨v10, h10, hf⟩ := bnd hf
    refine qk_cVz (As := [.int a2]) hx hb hts hml hown hK hP hS (ck_X5_isTown l D w σ (o) a2 v10 ho h10) hw_X5_71 hd_X5_isTown ⟨rfl, rfl, rfl⟩ ho.o (ce5 ho.k) rfl ⟨Nat.le_of_ble_eq_true rfl, Nat.le_of_ble_eq_true rfl⟩ ⟨Nat.le_of_ble_eq_true rfl, Nat.le_of_ble_eq_true rfl⟩ hl.1 rfl (Nat.le_of_ble_eq_true rfl) dX5_areTwoTowns_10 (fun hz10 H locs hP hS => ?_)
    refine lv_if_eq (tgt := 25) hx hb dX5_areTwoTowns_13 (by decide) (fun hc => ?_) (fun hc => ?_)
    · have hf := ifp hc hf
      refine lv_iconst (v := (0 : Int32)) hx hb dX5_areTwoTowns_25 (by decide) ?_
      have hq := Option.some.inj hf
      exact qk_zret hx hb hr hlk hP hS rfl hq rfl dX5_areTwoTowns_26
    · have hf := ifn hc hf
      refine lv_iload_n hx hb dX5_areTwoTowns_16 rfl (lv_at hl 1 rfl) ?_
      refine lv_iload_n hx hb dX5_areTwoTowns_17 rfl (lv_at hl 2 rfl) ?_
      refine lv_icmp_eq (tgt := 25) hx hb dX5_areTwoTowns_18 (by decide) (fun hc => ?_) (fun hc => ?_)
      · have hf := ifp hc hf
        refine lv_iconst (v := (0 : Int32)) hx hb dX5_areTwoTowns_25 (by decide) ?_
        have hq := Option.some.inj hf
        exact qk_zret hx hb hr hlk hP hS rfl hq rfl dX5_areTwoTowns_26
      · have hf := ifn hc hf
        refine lv_iconst (v := (1 : Int32)) hx hb dX5_areTwoTowns_21 (by decide) ?_
        refine lv_goto (tgt := 26) hx hb dX5_areTwoTowns_22 (by decide) ?_
        have hq := Option.some.inj hf
        exact qk_zret hx hb hr hlk hP hS rfl hq rfl dX5_areTwoTowns_26
set_option maxHeartbeats 4000000 in
set_option maxRecDepth 100000 in
theorem ck_X5_tellRoad (l : Launch) (D : va_G) (w : Wv) (σ : Sg) (o : Nat) (a1 : Int32) (a2 : Int32) (a3 : Int32) (r : Int32) (σ' : Sg) (ho : isYk o) (hJ : Injk w) (hf : f_X5_tellRoad σ o a1 a2 a3 = some (r, σ')) : Met l yX5_tellRoad (.code yX5_tellRoad cX5_tellRoad 4 (some .boolean) :: TB) (rmW 3 63) (pcWk D w [.ref (w.1 (o)), .int a1, .int a2, .int a3] σ) (qzWk D w r σ') 0 0 (ALk w) := by
  refine qk_open (by decide +kernel) (Nat.le_of_ble_eq_true rfl) ?_
  intro p e s m args below meth c ls hx hb hml hr hlk hown hts hK hP hS hl
  have hown : s.vm.findClass RX5 = some m.cls := hown
  have hl : lv_has ls 4 [(0, .ref (w.1 (o))), (1, .int a1), (2, .int a2), (3, .int a3)] := hl
  unfold f_X5_tellRoad at hf
  refine lv_aload_n hx hb dX5_tellRoad_0 rfl (lv_at hl 0 rfl) ?_
  refine lv_iload_n hx hb dX5_tellRoad_1 rfl (lv_at hl 1 rfl) ?_
  refine lv_iload_n hx hb dX5_tellRoad_2 rfl (lv_at hl 2 rfl) ?_
  obtain ⟨v3, h3, hf⟩ := bnd hf
  refine qk_cVz (As := [.int a1, .int a2]) hx hb hts hml hown hK hP hS (ck_X5_areTwoTowns l D w σ (o) a1 a2 v3 ho h3) hw_X5_63 hd_X5_areTwoTowns ⟨rfl, rfl, rfl⟩ ho.o (ce5 ho.k) rfl ⟨Nat.le_of_ble_eq_true rfl, Nat.le_of_ble_eq_true rfl⟩ ⟨Nat.le_of_ble_eq_true rfl, Nat.le_of_ble_eq_true rfl⟩ hl.1 rfl (Nat.le_of_ble_eq_true rfl) dX5_tellRoad_3 (fun hz3 H locs hP hS => ?_)
  refine lv_if_eq (tgt := 20) hx hb dX5_tellRoad_6 (by decide) (fun hc => ?_) (fun hc => ?_)
  · have hf := ifp hc hf
    refine lv_iconst (v := (0 : Int32)) hx hb dX5_tellRoad_20 (by decide) ?_
    have hq := Option.some.inj hf
    exact qk_zret hx hb hr hlk hP hS rfl (congrArg Prod.fst hq) (congrArg Prod.snd hq) dX5_tellRoad_21
  · have hf := ifn hc hf
    refine lv_iload_n hx hb dX5_tellRoad_9 rfl (lv_at hl 3 rfl) ?_
    refine lv_iconst (v := (1 : Int32)) hx hb dX5_tellRoad_10 (by decide) ?_
    refine lv_icmp_lt (tgt := 20) hx hb dX5_tellRoad_11 (by decide) (fun hc => ?_) (fun hc => ?_)
    · have hf := ifp hc hf
      refine lv_iconst (v := (0 : Int32)) hx hb dX5_tellRoad_20 (by decide) ?_
      have hq := Option.some.inj hf
      exact qk_zret hx hb hr hlk hP hS rfl (congrArg Prod.fst hq) (congrArg Prod.snd hq) dX5_tellRoad_21
    · have hf := ifn hc hf
      refine lv_iload_n hx hb dX5_tellRoad_14 rfl (lv_at hl 3 rfl) ?_
      refine lv_bipush (v := (9 : Int32)) hx hb dX5_tellRoad_15 (by decide) ?_
      refine lv_icmp_le (tgt := 22) hx hb dX5_tellRoad_17 (by decide) (fun hc => ?_) (fun hc => ?_)
      · have hf := ifp hc hf
        refine lv_aload_n hx hb dX5_tellRoad_22 rfl (lv_at hl 0 rfl) ?_
        refine gk_X5_12 hx hb hts hown hK hP ho.o ho.k dX5_tellRoad_23 ?_
        refine lv_iload_n hx hb dX5_tellRoad_26 rfl (lv_at hl 1 rfl) ?_
        refine lv_iload_n hx hb dX5_tellRoad_27 rfl (lv_at hl 2 rfl) ?_
        refine lv_iload_n hx hb dX5_tellRoad_28 rfl (lv_at hl 3 rfl) ?_
        obtain ⟨σ29, h29, hf⟩ := bnd hf
        refine qk_cVv (As := [.int a1, .int a2, .int a3]) hx hb hts hml hown hK hP hS (ck_X3_set l D w σ (o + 1) a1 a2 a3 σ29 ho.f0 hJ h29) hw_X5_67 hd_X3_set ⟨rfl, rfl, rfl⟩ ho.f0.o (ce3 ho.f0.k) rfl ⟨Nat.le_of_ble_eq_true rfl, Nat.le_of_ble_eq_true rfl⟩ ⟨Nat.le_of_ble_eq_true rfl, Nat.le_of_ble_eq_true rfl⟩ hl.1 rfl (Nat.le_of_ble_eq_true rfl) dX5_tellRoad_29 (fun H locs hP hS => ?_)
        refine lv_iconst (v := (1 : Int32)) hx hb dX5_tellRoad_32 (by decide) ?_
        have hq := Option.some.inj hf
        exact qk_zret hx hb hr hlk hP hS rfl (congrArg Prod.fst hq) (congrArg Prod.snd hq) dX5_tellRoad_33
      · have hf := ifn hc hf
        refine lv_iconst (v := (0 : Int32)) hx hb dX5_tellRoad_20 (by decide) ?_
        have hq := Option.some.inj hf
        exact qk_zret hx hb hr hlk hP hS rfl (congrArg Prod.fst hq) (congrArg Prod.snd hq) dX5_tellRoad_21
set_option maxHeartbeats 4000000 in
set_option maxRecDepth 100000 in
theorem ck_X5_tellPost (l : Launch) (D : va_G) (w : Wv) (σ : Sg) (o : Nat) (a1 : Int32) (a2 : Int32) (a3 : Int32) (r : Int32) (σ' : Sg) (ho : isYk o) (hJ : Injk w) (hf : f_X5_tellPost σ o a1 a2 a3 = some (r, σ')) : Met l yX5_tellPost (.code yX5_tellPost cX5_tellPost 5 (some .boolean) :: TB) (rmW 2 41) (pcWk D w [.ref (w.1 (o)), .int a1, .int a2, .int a3] σ) (qzWk D w r σ') 0 0 (ALk w) := by
  refine qk_open (by decide +kernel) (Nat.le_of_ble_eq_true rfl) ?_
  intro p e s m args below meth c ls hx hb hml hr hlk hown hts hK hP hS hl
  have hown : s.vm.findClass RX5 = some m.cls := hown
  have hl : lv_has ls 5 [(0, .ref (w.1 (o))), (1, .int a1), (2, .int a2), (3, .int a3)] := hl
  unfold f_X5_tellPost at hf
  refine lv_iload_n hx hb dX5_tellPost_0 rfl (lv_at hl 1 rfl) ?_
  refine lv_if_lt (tgt := 31) hx hb dX5_tellPost_1 (by decide) (fun hc => ?_) (fun hc => ?_)
  · have hf := ifp hc hf
    refine lv_iconst (v := (0 : Int32)) hx hb dX5_tellPost_31 (by decide) ?_
    refine lv_istore (lv' := [(4, .int (0 : Int32)), (0, .ref (w.1 (o))), (1, .int a1), (2, .int a2), (3, .int a3)]) hx hb dX5_tellPost_32 hl (by decide) rfl (fun ls hl => ?_)
    refine lv_iload hx hb dX5_tellPost_34 (lv_at hl 0 rfl) ?_
    refine lv_if_eq (tgt := 48) hx hb dX5_tellPost_36 (by decide) (fun _ => ?_) (fun hc => absurd (by decide) hc)
    refine lv_iconst (v := (0 : Int32)) hx hb dX5_tellPost_48 (by decide) ?_
    have hq := Option.some.inj hf
    exact qk_zret hx hb hr hlk hP hS rfl (congrArg Prod.fst hq) (congrArg Prod.snd hq) dX5_tellPost_49
  · have hf := ifn hc hf
    refine lv_iload_n hx hb dX5_tellPost_4 rfl (lv_at hl 1 rfl) ?_
    refine lv_iconst (v := (4 : Int32)) hx hb dX5_tellPost_5 (by decide) ?_
    refine lv_icmp_ge (tgt := 31) hx hb dX5_tellPost_6 (by decide) (fun hc => ?_) (fun hc => ?_)
    · have hf := ifp hc hf
      refine lv_iconst (v := (0 : Int32)) hx hb dX5_tellPost_31 (by decide) ?_
      refine lv_istore (lv' := [(4, .int (0 : Int32)), (0, .ref (w.1 (o))), (1, .int a1), (2, .int a2), (3, .int a3)]) hx hb dX5_tellPost_32 hl (by decide) rfl (fun ls hl => ?_)
      refine lv_iload hx hb dX5_tellPost_34 (lv_at hl 0 rfl) ?_
      refine lv_if_eq (tgt := 48) hx hb dX5_tellPost_36 (by decide) (fun _ => ?_) (fun hc => absurd (by decide) hc)
      refine lv_iconst (v := (0 : Int32)) hx hb dX5_tellPost_48 (by decide) ?_
      have hq := Option.some.inj hf
      exact qk_zret hx hb hr hlk hP hS rfl (congrArg Prod.fst hq) (congrArg Prod.snd hq) dX5_tellPost_49
    · have hf := ifn hc hf
      refine lv_aload_n hx hb dX5_tellPost_9 rfl (lv_at hl 0 rfl) ?_
      refine lv_iload_n hx hb dX5_tellPost_10 rfl (lv_at hl 2 rfl) ?_
      obtain ⟨v11, h11, hf⟩ := bnd hf
      refine qk_cVz (As := [.int a2]) hx hb hts hml hown hK hP hS (ck_X5_isTown l D w σ (o) a2 v11 ho h11) hw_X5_71 hd_X5_isTown ⟨rfl, rfl, rfl⟩ ho.o (ce5 ho.k) rfl ⟨Nat.le_of_ble_eq_true rfl, Nat.le_of_ble_eq_true rfl⟩ ⟨Nat.le_of_ble_eq_true rfl, Nat.le_of_ble_eq_true rfl⟩ hl.1 rfl (Nat.le_of_ble_eq_true rfl) dX5_tellPost_11 (fun hz11 H locs hP hS => ?_)
      refine lv_if_eq (tgt := 31) hx hb dX5_tellPost_14 (by decide) (fun hc => ?_) (fun hc => ?_)
      · have hf := ifp hc hf
        refine lv_iconst (v := (0 : Int32)) hx hb dX5_tellPost_31 (by decide) ?_
        refine lv_istore (lv' := [(4, .int (0 : Int32)), (0, .ref (w.1 (o))), (1, .int a1), (2, .int a2), (3, .int a3)]) hx hb dX5_tellPost_32 hl (by decide) rfl (fun ls hl => ?_)
        refine lv_iload hx hb dX5_tellPost_34 (lv_at hl 0 rfl) ?_
        refine lv_if_eq (tgt := 48) hx hb dX5_tellPost_36 (by decide) (fun _ => ?_) (fun hc => absurd (by decide) hc)
        refine lv_iconst (v := (0 : Int32)) hx hb dX5_tellPost_48 (by decide) ?_
        have hq := Option.some.inj hf
        exact qk_zret hx hb hr hlk hP hS rfl (congrArg Prod.fst hq) (congrArg Prod.snd hq) dX5_tellPost_49
      · have hf := ifn hc hf
        refine lv_iload_n hx hb dX5_tellPost_17 rfl (lv_at hl 3 rfl) ?_
        refine lv_if_lt (tgt := 31) hx hb dX5_tellPost_18 (by decide) (fun hc => ?_) (fun hc => ?_)
        · have hf := ifp hc hf
          refine lv_iconst (v := (0 : Int32)) hx hb dX5_tellPost_31 (by decide) ?_
          refine lv_istore (lv' := [(4, .int (0 : Int32)), (0, .ref (w.1 (o))), (1, .int a1), (2, .int a2), (3, .int a3)]) hx hb dX5_tellPost_32 hl (by decide) rfl (fun ls hl => ?_)
          refine lv_iload hx hb dX5_tellPost_34 (lv_at hl 0 rfl) ?_
          refine lv_if_eq (tgt := 48) hx hb dX5_tellPost_36 (by decide) (fun _ => ?_) (fun hc => absurd (by decide) hc)
          refine lv_iconst (v := (0 : Int32)) hx hb dX5_tellPost_48 (by decide) ?_
          have hq := Option.some.inj hf
          exact qk_zret hx hb hr hlk hP hS rfl (congrArg Prod.fst hq) (congrArg Prod.snd hq) dX5_tellPost_49
        · have hf := ifn hc hf
          refine lv_iload_n hx hb dX5_tellPost_21 rfl (lv_at hl 3 rfl) ?_
          refine lv_bipush (v := (59 : Int32)) hx hb dX5_tellPost_22 (by decide) ?_
          refine lv_icmp_gt (tgt := 31) hx hb dX5_tellPost_24 (by decide) (fun hc => ?_) (fun hc => ?_)
          · have hf := ifp hc hf
            refine lv_iconst (v := (0 : Int32)) hx hb dX5_tellPost_31 (by decide) ?_
            refine lv_istore (lv' := [(4, .int (0 : Int32)), (0, .ref (w.1 (o))), (1, .int a1), (2, .int a2), (3, .int a3)]) hx hb dX5_tellPost_32 hl (by decide) rfl (fun ls hl => ?_)
            refine lv_iload hx hb dX5_tellPost_34 (lv_at hl 0 rfl) ?_
            refine lv_if_eq (tgt := 48) hx hb dX5_tellPost_36 (by decide) (fun _ => ?_) (fun hc => absurd (by decide) hc)
            refine lv_iconst (v := (0 : Int32)) hx hb dX5_tellPost_48 (by decide) ?_
            have hq := Option.some.inj hf
            exact qk_zret hx hb hr hlk hP hS rfl (congrArg Prod.fst hq) (congrArg Prod.snd hq) dX5_tellPost_49
          · have hf := ifn hc hf
            refine lv_iconst (v := (1 : Int32)) hx hb dX5_tellPost_27 (by decide) ?_
            refine lv_goto (tgt := 32) hx hb dX5_tellPost_28 (by decide) ?_
            refine lv_istore (lv' := [(4, .int (1 : Int32)), (0, .ref (w.1 (o))), (1, .int a1), (2, .int a2), (3, .int a3)]) hx hb dX5_tellPost_32 hl (by decide) rfl (fun ls hl => ?_)
            refine lv_iload hx hb dX5_tellPost_34 (lv_at hl 0 rfl) ?_
            refine lv_if_eq (tgt := 48) hx hb dX5_tellPost_36 (by decide) (fun hc => absurd hc (by decide)) (fun _ => ?_)
            refine lv_aload_n hx hb dX5_tellPost_39 rfl (lv_at hl 1 rfl) ?_
            refine gk_X5_43 hx hb hts hown hK hP ho.o ho.k dX5_tellPost_40 ?_
            refine lv_bipush (v := (6 : Int32)) hx hb dX5_tellPost_43 (by decide) ?_
            refine lv_icmp_lt (tgt := 50) hx hb dX5_tellPost_45 (by decide) (fun hc => ?_) (fun hc => ?_)
            · have hf := ifp hc hf
              refine lv_aload_n hx hb dX5_tellPost_50 rfl (lv_at hl 1 rfl) ?_
              refine gk_X5_23 hx hb hts hown hK hP ho.o ho.k dX5_tellPost_51 ?_
              refine lv_aload_n hx hb dX5_tellPost_54 rfl (lv_at hl 1 rfl) ?_
              refine gk_X5_43 hx hb hts hown hK hP ho.o ho.k dX5_tellPost_55 ?_
              refine lv_iconst (v := (0 : Int32)) hx hb dX5_tellPost_58 (by decide) ?_
              refine lv_iload_n hx hb dX5_tellPost_59 rfl (lv_at hl 2 rfl) ?_
              obtain ⟨σ60, h60, hf⟩ := bnd hf
              refine qk_cVv (As := [.int (σ (o) 5), .int (0 : Int32), .int a1]) hx hb hts hml hown hK hP hS (ck_X0_put l D w σ (o + 6) (σ (o) 5) (0 : Int32) a1 σ60 ho.f1 hJ h60) hw_X5_75 hd_X0_put ⟨rfl, rfl, rfl⟩ ho.f1.o (ce0 ho.f1.k) rfl ⟨Nat.le_of_ble_eq_true rfl, Nat.le_of_ble_eq_true rfl⟩ ⟨Nat.le_of_ble_eq_true rfl, Nat.le_of_ble_eq_true rfl⟩ hl.1 rfl (Nat.le_of_ble_eq_true rfl) dX5_tellPost_60 (fun H locs hP hS => ?_)
              refine lv_aload_n hx hb dX5_tellPost_63 rfl (lv_at hl 1 rfl) ?_
              refine gk_X5_23 hx hb hts hown hK hP ho.o ho.k dX5_tellPost_64 ?_
              refine lv_aload_n hx hb dX5_tellPost_67 rfl (lv_at hl 1 rfl) ?_
              refine gk_X5_43 hx hb hts hown hK hP ho.o ho.k dX5_tellPost_68 ?_
              refine lv_iconst (v := (1 : Int32)) hx hb dX5_tellPost_71 (by decide) ?_
              refine lv_iload_n hx hb dX5_tellPost_72 rfl (lv_at hl 3 rfl) ?_
              obtain ⟨σ73, h73, hf⟩ := bnd hf
              refine qk_cVv (As := [.int (σ60 (o) 5), .int (1 : Int32), .int a2]) hx hb hts hml hown hK hP hS (ck_X0_put l D w σ60 (o + 6) (σ60 (o) 5) (1 : Int32) a2 σ73 ho.f1 hJ h73) hw_X5_75 hd_X0_put ⟨rfl, rfl, rfl⟩ ho.f1.o (ce0 ho.f1.k) rfl ⟨Nat.le_of_ble_eq_true rfl, Nat.le_of_ble_eq_true rfl⟩ ⟨Nat.le_of_ble_eq_true rfl, Nat.le_of_ble_eq_true rfl⟩ hl.1 rfl (Nat.le_of_ble_eq_true rfl) dX5_tellPost_73 (fun H locs hP hS => ?_)
              refine lv_aload_n hx hb dX5_tellPost_76 rfl (lv_at hl 1 rfl) ?_
              refine gk_X5_23 hx hb hts hown hK hP ho.o ho.k dX5_tellPost_77 ?_
              refine lv_aload_n hx hb dX5_tellPost_80 rfl (lv_at hl 1 rfl) ?_
              refine gk_X5_43 hx hb hts hown hK hP ho.o ho.k dX5_tellPost_81 ?_
              refine lv_iconst (v := (2 : Int32)) hx hb dX5_tellPost_84 (by decide) ?_
              refine lv_iload_n hx hb dX5_tellPost_85 rfl (lv_at hl 4 rfl) ?_
              obtain ⟨σ86, h86, hf⟩ := bnd hf
              refine qk_cVv (As := [.int (σ73 (o) 5), .int (2 : Int32), .int a3]) hx hb hts hml hown hK hP hS (ck_X0_put l D w σ73 (o + 6) (σ73 (o) 5) (2 : Int32) a3 σ86 ho.f1 hJ h86) hw_X5_75 hd_X0_put ⟨rfl, rfl, rfl⟩ ho.f1.o (ce0 ho.f1.k) rfl ⟨Nat.le_of_ble_eq_true rfl, Nat.le_of_ble_eq_true rfl⟩ ⟨Nat.le_of_ble_eq_true rfl, Nat.le_of_ble_eq_true rfl⟩ hl.1 rfl (Nat.le_of_ble_eq_true rfl) dX5_tellPost_86 (fun H locs hP hS => ?_)
              refine lv_aload_n hx hb dX5_tellPost_89 rfl (lv_at hl 1 rfl) ?_
              refine lv_dup hx hb dX5_tellPost_90 rfl ?_
              refine gk_X5_43 hx hb hts hown hK hP ho.o ho.k dX5_tellPost_91 ?_
              refine lv_iconst (v := (1 : Int32)) hx hb dX5_tellPost_94 (by decide) ?_
              refine lv_iadd hx hb dX5_tellPost_95 ?_
              obtain ⟨σ96, h96, hf⟩ := bnd hf
              refine pk_X5_43 hx hb hts hown hK hP hJ hS ho.o ho.k h96 dX5_tellPost_96 (fun H locs hP hS => ?_)
              refine lv_iconst (v := (1 : Int32)) hx hb dX5_tellPost_99 (by decide) ?_
              have hq := Option.some.inj hf
              exact qk_zret hx hb hr hlk hP hS rfl (congrArg Prod.fst hq) (congrArg Prod.snd hq) dX5_tellPost_100
            · have hf := ifn hc hf
              refine lv_iconst (v := (0 : Int32)) hx hb dX5_tellPost_48 (by decide) ?_
              have hq := Option.some.inj hf
              exact qk_zret hx hb hr hlk hP hS rfl (congrArg Prod.fst hq) (congrArg Prod.snd hq) dX5_tellPost_49
set_option maxHeartbeats 4000000 in
set_option maxRecDepth 100000 in
theorem ck_X5_tellWalker (l : Launch) (D : va_G) (w : Wv) (σ : Sg) (o : Nat) (a1 : Int32) (a2 : Int32) (r : Int32) (σ' : Sg) (ho : isYk o) (hJ : Injk w) (hf : f_X5_tellWalker σ o a1 a2 = some (r, σ')) : Met l yX5_tellWalker (.code yX5_tellWalker cX5_tellWalker 3 (some .boolean) :: TB) (rmW 3 63) (pcWk D w [.ref (w.1 (o)), .int a1, .int a2] σ) (qzWk D w r σ') 0 0 (ALk w) := by
  refine qk_open (by decide +kernel) (Nat.le_of_ble_eq_true rfl) ?_
  intro p e s m args below meth c ls hx hb hml hr hlk hown hts hK hP hS hl
  have hown : s.vm.findClass RX5 = some m.cls := hown
  have hl : lv_has ls 3 [(0, .ref (w.1 (o))), (1, .int a1), (2, .int a2)] := hl
  unfold f_X5_tellWalker at hf
  refine lv_aload_n hx hb dX5_tellWalker_0 rfl (lv_at hl 0 rfl) ?_
  refine lv_iload_n hx hb dX5_tellWalker_1 rfl (lv_at hl 1 rfl) ?_
  refine lv_iload_n hx hb dX5_tellWalker_2 rfl (lv_at hl 2 rfl) ?_
  obtain ⟨v3, h3, hf⟩ := bnd hf
  refine qk_cVz (As := [.int a1, .int a2]) hx hb hts hml hown hK hP hS (ck_X5_areTwoTowns l D w σ (o) a1 a2 v3 ho h3) hw_X5_63 hd_X5_areTwoTowns ⟨rfl, rfl, rfl⟩ ho.o (ce5 ho.k) rfl ⟨Nat.le_of_ble_eq_true rfl, Nat.le_of_ble_eq_true rfl⟩ ⟨Nat.le_of_ble_eq_true rfl, Nat.le_of_ble_eq_true rfl⟩ hl.1 rfl (Nat.le_of_ble_eq_true rfl) dX5_tellWalker_3 (fun hz3 H locs hP hS => ?_)
  refine lv_if_eq (tgt := 17) hx hb dX5_tellWalker_6 (by decide) (fun hc => ?_) (fun hc => ?_)
  · have hf := ifp hc hf
    refine lv_iconst (v := (0 : Int32)) hx hb dX5_tellWalker_17 (by decide) ?_
    have hq := Option.some.inj hf
    exact qk_zret hx hb hr hlk hP hS rfl (congrArg Prod.fst hq) (congrArg Prod.snd hq) dX5_tellWalker_18
  · have hf := ifn hc hf
    refine lv_aload_n hx hb dX5_tellWalker_9 rfl (lv_at hl 0 rfl) ?_
    refine gk_X5_47 hx hb hts hown hK hP ho.o ho.k dX5_tellWalker_10 ?_
    refine lv_iconst (v := (5 : Int32)) hx hb dX5_tellWalker_13 (by decide) ?_
    refine lv_icmp_lt (tgt := 19) hx hb dX5_tellWalker_14 (by decide) (fun hc => ?_) (fun hc => ?_)
    · have hf := ifp hc hf
      refine lv_aload_n hx hb dX5_tellWalker_19 rfl (lv_at hl 0 rfl) ?_
      refine gk_X5_33 hx hb hts hown hK hP ho.o ho.k dX5_tellWalker_20 ?_
      refine lv_aload_n hx hb dX5_tellWalker_23 rfl (lv_at hl 0 rfl) ?_
      refine gk_X5_47 hx hb hts hown hK hP ho.o ho.k dX5_tellWalker_24 ?_
      refine lv_iconst (v := (0 : Int32)) hx hb dX5_tellWalker_27 (by decide) ?_
      refine lv_iload_n hx hb dX5_tellWalker_28 rfl (lv_at hl 1 rfl) ?_
      obtain ⟨σ29, h29, hf⟩ := bnd hf
      refine qk_cVv (As := [.int (σ (o) 6), .int (0 : Int32), .int a1]) hx hb hts hml hown hK hP hS (ck_X0_put l D w σ (o + 12) (σ (o) 6) (0 : Int32) a1 σ29 ho.f4 hJ h29) hw_X5_75 hd_X0_put ⟨rfl, rfl, rfl⟩ ho.f4.o (ce0 ho.f4.k) rfl ⟨Nat.le_of_ble_eq_true rfl, Nat.le_of_ble_eq_true rfl⟩ ⟨Nat.le_of_ble_eq_true rfl, Nat.le_of_ble_eq_true rfl⟩ hl.1 rfl (Nat.le_of_ble_eq_true rfl) dX5_tellWalker_29 (fun H locs hP hS => ?_)
      refine lv_aload_n hx hb dX5_tellWalker_32 rfl (lv_at hl 0 rfl) ?_
      refine gk_X5_33 hx hb hts hown hK hP ho.o ho.k dX5_tellWalker_33 ?_
      refine lv_aload_n hx hb dX5_tellWalker_36 rfl (lv_at hl 0 rfl) ?_
      refine gk_X5_47 hx hb hts hown hK hP ho.o ho.k dX5_tellWalker_37 ?_
      refine lv_iconst (v := (1 : Int32)) hx hb dX5_tellWalker_40 (by decide) ?_
      refine lv_iload_n hx hb dX5_tellWalker_41 rfl (lv_at hl 2 rfl) ?_
      obtain ⟨σ42, h42, hf⟩ := bnd hf
      refine qk_cVv (As := [.int (σ29 (o) 6), .int (1 : Int32), .int a2]) hx hb hts hml hown hK hP hS (ck_X0_put l D w σ29 (o + 12) (σ29 (o) 6) (1 : Int32) a2 σ42 ho.f4 hJ h42) hw_X5_75 hd_X0_put ⟨rfl, rfl, rfl⟩ ho.f4.o (ce0 ho.f4.k) rfl ⟨Nat.le_of_ble_eq_true rfl, Nat.le_of_ble_eq_true rfl⟩ ⟨Nat.le_of_ble_eq_true rfl, Nat.le_of_ble_eq_true rfl⟩ hl.1 rfl (Nat.le_of_ble_eq_true rfl) dX5_tellWalker_42 (fun H locs hP hS => ?_)
      refine lv_aload_n hx hb dX5_tellWalker_45 rfl (lv_at hl 0 rfl) ?_
      refine lv_dup hx hb dX5_tellWalker_46 rfl ?_
      refine gk_X5_47 hx hb hts hown hK hP ho.o ho.k dX5_tellWalker_47 ?_
      refine lv_iconst (v := (1 : Int32)) hx hb dX5_tellWalker_50 (by decide) ?_
      refine lv_iadd hx hb dX5_tellWalker_51 ?_
      obtain ⟨σ52, h52, hf⟩ := bnd hf
      refine pk_X5_47 hx hb hts hown hK hP hJ hS ho.o ho.k h52 dX5_tellWalker_52 (fun H locs hP hS => ?_)
      refine lv_iconst (v := (1 : Int32)) hx hb dX5_tellWalker_55 (by decide) ?_
      have hq := Option.some.inj hf
      exact qk_zret hx hb hr hlk hP hS rfl (congrArg Prod.fst hq) (congrArg Prod.snd hq) dX5_tellWalker_56
    · have hf := ifn hc hf
      refine lv_iconst (v := (0 : Int32)) hx hb dX5_tellWalker_17 (by decide) ?_
      have hq := Option.some.inj hf
      exact qk_zret hx hb hr hlk hP hS rfl (congrArg Prod.fst hq) (congrArg Prod.snd hq) dX5_tellWalker_18
set_option maxHeartbeats 4000000 in
set_option maxRecDepth 100000 in
theorem ck_X5_paintPost (l : Launch) (D : va_G) (w : Wv) (σ : Sg) (o : Nat) (a1 : Int32) (r : Int32) (σ' : Sg) (ho : isYk o) (hJ : Injk w) (hf : f_X5_paintPost σ o a1 = some (r, σ')) : Met l yX5_paintPost (.code yX5_paintPost cX5_paintPost 6 (some .int) :: TB) (rmW 2 50) (pcWk D w [.ref (w.1 (o)), .int a1] σ) (qiWk D w r σ') 0 0 (ALk w) := by
  refine qk_open (by decide +kernel) (Nat.le_of_ble_eq_true rfl) ?_
  intro p e s m args below meth c ls hx hb hml hr hlk hown hts hK hP hS hl
  have hown : s.vm.findClass RX5 = some m.cls := hown
  have hl : lv_has ls 6 [(0, .ref (w.1 (o))), (1, .int a1)] := hl
  unfold f_X5_paintPost at hf
  refine lv_aload_n hx hb dX5_paintPost_0 rfl (lv_at hl 0 rfl) ?_
  refine gk_X5_23 hx hb hts hown hK hP ho.o ho.k dX5_paintPost_1 ?_
  refine lv_iload_n hx hb dX5_paintPost_4 rfl (lv_at hl 1 rfl) ?_
  refine lv_iconst (v := (1 : Int32)) hx hb dX5_paintPost_5 (by decide) ?_
  obtain ⟨v6, h6, hf⟩ := bnd hf
  refine qk_cVi (As := [.int a1, .int (1 : Int32)]) hx hb hts hml hown hK hP hS (ck_X0_at l D w σ (o + 6) a1 (1 : Int32) v6 ho.f1 h6) hw_X5_89 hd_X0_at ⟨rfl, rfl, rfl⟩ ho.f1.o (ce0 ho.f1.k) rfl ⟨Nat.le_of_ble_eq_true rfl, Nat.le_of_ble_eq_true rfl⟩ ⟨Nat.le_of_ble_eq_true rfl, Nat.le_of_ble_eq_true rfl⟩ hl.1 rfl (Nat.le_of_ble_eq_true rfl) dX5_paintPost_6 (fun H locs hP hS => ?_)
  refine lv_istore_n (lv' := [(2, .int v6), (0, .ref (w.1 (o))), (1, .int a1)]) hx hb dX5_paintPost_9 rfl hl (by decide) rfl (fun ls hl => ?_)
  refine lv_iconst (v := (0 : Int32)) hx hb dX5_paintPost_10 (by decide) ?_
  refine lv_istore_n (lv' := [(3, .int (0 : Int32)), (2, .int v6), (0, .ref (w.1 (o))), (1, .int a1)]) hx hb dX5_paintPost_11 rfl hl (by decide) rfl (fun ls hl => ?_)
  refine lv_iconst (v := (0 : Int32)) hx hb dX5_paintPost_12 (by decide) ?_
  refine lv_istore (lv' := [(4, .int (0 : Int32)), (3, .int (0 : Int32)), (2, .int v6), (0, .ref (w.1 (o))), (1, .int a1)]) hx hb dX5_paintPost_13 hl (by decide) rfl (fun ls hl => ?_)
  obtain ⟨rr, hlp, hf⟩ := bnd hf
  have hE15_108 : ∀ (y3_108 : Int32) (σ_108 : Sg) (H : Heap) (locs : List Loc) (ls : Array Slot), f_X5_paintPost_k1 y3_108 σ_108 = some (r, σ') → va_P D vwCl (WLk w σ_108) H → va_S (ALk w) s.heap H locs → lv_has ls 6 [(3, .int y3_108)] → W p l e (rmW 2 50) s m args below meth c H locs 0 0 (MQ below (qiWk D w r σ') args s 0 0 (ALk w)) (F0 m 108 ls []) := by
    intro y3_108 σ_108 H locs ls hf hP hS hl
    unfold f_X5_paintPost_k1 at hf
    refine lv_iload_n hx hb dX5_paintPost_108 rfl (lv_at hl 0 rfl) ?_
    have hq := Option.some.inj hf
    exact qk_iret hx hb hr hlk hP hS (congrArg Prod.fst hq) (congrArg Prod.snd hq) dX5_paintPost_109
  refine lp_ind (G := fun (st : (Int32 × Int32 × Sg)) => ∀ (H : Heap) (locs : List Loc) (ls : Array Slot), va_P D vwCl (WLk w st.2.2) H → va_S (ALk w) s.heap H locs → lv_has ls 6 [(0, .ref (w.1 (o))), (1, .int a1), (2, .int v6), (3, .int st.1), (4, .int st.2.1)] → W p l e (rmW 2 50) s m args below meth c H locs 0 0 (MQ below (qiWk D w r σ') args s 0 0 (ALk w)) (F0 m 15 ls [])) (X := fun rr => f_X5_paintPost_k1 rr.1 rr.2 = some (r, σ')) ?_ _ _ rr hlp hf _ _ _ hP hS (lv_sub hl [3, 4, 2, 1, 0] rfl)
  rintro ⟨x3_15, x4_15, σ_15⟩ oo15 hb9 hG15 hX15 H locs ls hP hS hl
  have hP : va_P D vwCl (WLk w σ_15) H := hP
  have hl : lv_has ls 6 [(0, .ref (w.1 (o))), (1, .int a1), (2, .int v6), (3, .int x3_15), (4, .int x4_15)] := hl
  have hf : f_X5_paintPost_b1 o a1 v6 x3_15 x4_15 σ_15 = some oo15 := hb9
  unfold f_X5_paintPost_b1 at hf
  refine lv_iload hx hb dX5_paintPost_15 (lv_at hl 4 rfl) ?_
  refine lv_bipush (v := (8 : Int32)) hx hb dX5_paintPost_17 (by decide) ?_
  refine lv_icmp_ge (tgt := 108) hx hb dX5_paintPost_19 (by decide) (fun hc => ?_) (fun hc => ?_)
  · have hf := ifp hc hf
    obtain rfl := Option.some.inj hf
    exact hE15_108 x3_15 σ_15 _ _ _ (hX15 _ rfl) hP hS (lv_sub hl [3] rfl)
  · have hf := ifn hc hf
    refine lv_aload_n hx hb dX5_paintPost_22 rfl (lv_at hl 0 rfl) ?_
    refine lv_iload hx hb dX5_paintPost_23 (lv_at hl 4 rfl) ?_
    obtain ⟨v25, h25, hf⟩ := bnd hf
    refine qk_cVz (As := [.int x4_15]) hx hb hts hml hown hK hP hS (ck_X5_isTown l D w σ_15 (o) x4_15 v25 ho h25) hw_X5_71 hd_X5_isTown ⟨rfl, rfl, rfl⟩ ho.o (ce5 ho.k) rfl ⟨Nat.le_of_ble_eq_true rfl, Nat.le_of_ble_eq_true rfl⟩ ⟨Nat.le_of_ble_eq_true rfl, Nat.le_of_ble_eq_true rfl⟩ hl.1 rfl (Nat.le_of_ble_eq_true rfl) dX5_paintPost_25 (fun hz25 H locs hP hS => ?_)
    refine lv_if_eq (tgt := 44) hx hb dX5_paintPost_28 (by decide) (fun hc => ?_) (fun hc => ?_)
    · have hf := ifp hc hf
      refine lv_bipush (v := (-4 : Int32)) hx hb dX5_paintPost_44 (by decide) ?_
      refine lv_istore (lv' := [(5, .int (-4 : Int32)), (0, .ref (w.1 (o))), (1, .int a1), (2, .int v6), (3, .int x3_15), (4, .int x4_15)]) hx hb dX5_paintPost_46 hl (by decide) rfl (fun ls hl => ?_)
      refine lv_aload_n hx hb dX5_paintPost_48 rfl (lv_at hl 1 rfl) ?_
      refine gk_X5_27 hx hb hts hown hK hP ho.o ho.k dX5_paintPost_49 ?_
      refine lv_iload_n hx hb dX5_paintPost_52 rfl (lv_at hl 2 rfl) ?_
      refine lv_iload hx hb dX5_paintPost_53 (lv_at hl 5 rfl) ?_
      refine lv_iload hx hb dX5_paintPost_55 (lv_at hl 0 rfl) ?_
      obtain ⟨σ57, h57, hf⟩ := bnd hf
      refine qk_cVv (As := [.int a1, .int x4_15, .int (-4 : Int32)]) hx hb hts hml hown hK hP hS (ck_X0_put l D w σ_15 (o + 8) a1 x4_15 (-4 : Int32) σ57 ho.f2 hJ h57) hw_X5_75 hd_X0_put ⟨rfl, rfl, rfl⟩ ho.f2.o (ce0 ho.f2.k) rfl ⟨Nat.le_of_ble_eq_true rfl, Nat.le_of_ble_eq_true rfl⟩ ⟨Nat.le_of_ble_eq_true rfl, Nat.le_of_ble_eq_true rfl⟩ hl.1 rfl (Nat.le_of_ble_eq_true rfl) dX5_paintPost_57 (fun H locs hP hS => ?_)
      refine lv_aload_n hx hb dX5_paintPost_60 rfl (lv_at hl 1 rfl) ?_
      refine gk_X5_30 hx hb hts hown hK hP ho.o ho.k dX5_paintPost_61 ?_
      refine lv_iload_n hx hb dX5_paintPost_64 rfl (lv_at hl 2 rfl) ?_
      refine lv_iload hx hb dX5_paintPost_65 (lv_at hl 5 rfl) ?_
      refine lv_iload hx hb dX5_paintPost_67 (lv_at hl 0 rfl) ?_
      refine lv_bipush (v := (-4 : Int32)) hx hb dX5_paintPost_69 (by decide) ?_
      refine lv_icmp_ne (tgt := 79) hx hb dX5_paintPost_71 (by decide) (fun hc => absurd hc (by decide)) (fun _ => ?_)
      refine lv_bipush (v := (-4 : Int32)) hx hb dX5_paintPost_74 (by decide) ?_
      refine lv_goto (tgt := 89) hx hb dX5_paintPost_76 (by decide) ?_
      obtain ⟨σ89, h89, hf⟩ := bnd hf
      refine qk_cVv (As := [.int a1, .int x4_15, .int (-4 : Int32)]) hx hb hts hml hown hK hP hS (ck_X0_put l D w σ57 (o + 10) a1 x4_15 (-4 : Int32) σ89 ho.f3 hJ h89) hw_X5_75 hd_X0_put ⟨rfl, rfl, rfl⟩ ho.f3.o (ce0 ho.f3.k) rfl ⟨Nat.le_of_ble_eq_true rfl, Nat.le_of_ble_eq_true rfl⟩ ⟨Nat.le_of_ble_eq_true rfl, Nat.le_of_ble_eq_true rfl⟩ hl.1 rfl (Nat.le_of_ble_eq_true rfl) dX5_paintPost_89 (fun H locs hP hS => ?_)
      refine lv_iload hx hb dX5_paintPost_92 (lv_at hl 0 rfl) ?_
      refine lv_bipush (v := (-4 : Int32)) hx hb dX5_paintPost_94 (by decide) ?_
      refine lv_icmp_eq (tgt := 102) hx hb dX5_paintPost_96 (by decide) (fun _ => ?_) (fun hc => absurd (by decide) hc)
      refine lv_iinc (v := (x4_15 + (1 : Int32))) (lv' := [(4, .int (x4_15 + (1 : Int32))), (5, .int (-4 : Int32)), (0, .ref (w.1 (o))), (1, .int a1), (2, .int v6), (3, .int x3_15)]) hx hb dX5_paintPost_102 hl (k := 5) rfl ii_1 (by decide) rfl (fun ls hl => ?_)
      refine lv_goto (tgt := 15) hx hb dX5_paintPost_105 (by decide) ?_
      obtain rfl := Option.some.inj hf
      exact hG15 _ rfl _ _ _ hP hS (lv_sub hl [2, 3, 4, 5, 0] rfl)
    · have hf := ifn hc hf
      refine lv_aload_n hx hb dX5_paintPost_31 rfl (lv_at hl 0 rfl) ?_
      refine gk_X5_12 hx hb hts hown hK hP ho.o ho.k dX5_paintPost_32 ?_
      refine lv_iload_n hx hb dX5_paintPost_35 rfl (lv_at hl 2 rfl) ?_
      refine lv_iload hx hb dX5_paintPost_36 (lv_at hl 4 rfl) ?_
      obtain ⟨v38, h38, hf⟩ := bnd hf
      refine qk_cVi (As := [.int v6, .int x4_15]) hx hb hts hml hown hK hP hS (ck_X3_firstStep l D w σ_15 (o + 1) v6 x4_15 v38 ho.f0 h38) hw_X5_126 hd_X3_firstStep ⟨rfl, rfl, rfl⟩ ho.f0.o (ce3 ho.f0.k) rfl ⟨Nat.le_of_ble_eq_true rfl, Nat.le_of_ble_eq_true rfl⟩ ⟨Nat.le_of_ble_eq_true rfl, Nat.le_of_ble_eq_true rfl⟩ hl.1 rfl (Nat.le_of_ble_eq_true rfl) dX5_paintPost_38 (fun H locs hP hS => ?_)
      refine lv_goto (tgt := 46) hx hb dX5_paintPost_41 (by decide) ?_
      refine lv_istore (lv' := [(5, .int v38), (0, .ref (w.1 (o))), (1, .int a1), (2, .int v6), (3, .int x3_15), (4, .int x4_15)]) hx hb dX5_paintPost_46 hl (by decide) rfl (fun ls hl => ?_)
      refine lv_aload_n hx hb dX5_paintPost_48 rfl (lv_at hl 1 rfl) ?_
      refine gk_X5_27 hx hb hts hown hK hP ho.o ho.k dX5_paintPost_49 ?_
      refine lv_iload_n hx hb dX5_paintPost_52 rfl (lv_at hl 2 rfl) ?_
      refine lv_iload hx hb dX5_paintPost_53 (lv_at hl 5 rfl) ?_
      refine lv_iload hx hb dX5_paintPost_55 (lv_at hl 0 rfl) ?_
      obtain ⟨σ57, h57, hf⟩ := bnd hf
      refine qk_cVv (As := [.int a1, .int x4_15, .int v38]) hx hb hts hml hown hK hP hS (ck_X0_put l D w σ_15 (o + 8) a1 x4_15 v38 σ57 ho.f2 hJ h57) hw_X5_75 hd_X0_put ⟨rfl, rfl, rfl⟩ ho.f2.o (ce0 ho.f2.k) rfl ⟨Nat.le_of_ble_eq_true rfl, Nat.le_of_ble_eq_true rfl⟩ ⟨Nat.le_of_ble_eq_true rfl, Nat.le_of_ble_eq_true rfl⟩ hl.1 rfl (Nat.le_of_ble_eq_true rfl) dX5_paintPost_57 (fun H locs hP hS => ?_)
      refine lv_aload_n hx hb dX5_paintPost_60 rfl (lv_at hl 1 rfl) ?_
      refine gk_X5_30 hx hb hts hown hK hP ho.o ho.k dX5_paintPost_61 ?_
      refine lv_iload_n hx hb dX5_paintPost_64 rfl (lv_at hl 2 rfl) ?_
      refine lv_iload hx hb dX5_paintPost_65 (lv_at hl 5 rfl) ?_
      refine lv_iload hx hb dX5_paintPost_67 (lv_at hl 0 rfl) ?_
      refine lv_bipush (v := (-4 : Int32)) hx hb dX5_paintPost_69 (by decide) ?_
      refine lv_icmp_ne (tgt := 79) hx hb dX5_paintPost_71 (by decide) (fun hc => ?_) (fun hc => ?_)
      · have hf := ifp hc hf
        refine lv_aload_n hx hb dX5_paintPost_79 rfl (lv_at hl 1 rfl) ?_
        refine gk_X5_12 hx hb hts hown hK hP ho.o ho.k dX5_paintPost_80 ?_
        refine lv_iload_n hx hb dX5_paintPost_83 rfl (lv_at hl 3 rfl) ?_
        refine lv_iload hx hb dX5_paintPost_84 (lv_at hl 5 rfl) ?_
        obtain ⟨v86, h86, hf⟩ := bnd hf
        refine qk_cVi (As := [.int v6, .int x4_15]) hx hb hts hml hown hK hP hS (ck_X3_pathMiles l D w σ57 (o + 1) v6 x4_15 v86 ho.f0 h86) hw_X5_129 hd_X3_pathMiles ⟨rfl, rfl, rfl⟩ ho.f0.o (ce3 ho.f0.k) rfl ⟨Nat.le_of_ble_eq_true rfl, Nat.le_of_ble_eq_true rfl⟩ ⟨Nat.le_of_ble_eq_true rfl, Nat.le_of_ble_eq_true rfl⟩ hl.1 rfl (Nat.le_of_ble_eq_true rfl) dX5_paintPost_86 (fun H locs hP hS => ?_)
        obtain ⟨σ89, h89, hf⟩ := bnd hf
        refine qk_cVv (As := [.int a1, .int x4_15, .int v86]) hx hb hts hml hown hK hP hS (ck_X0_put l D w σ57 (o + 10) a1 x4_15 v86 σ89 ho.f3 hJ h89) hw_X5_75 hd_X0_put ⟨rfl, rfl, rfl⟩ ho.f3.o (ce0 ho.f3.k) rfl ⟨Nat.le_of_ble_eq_true rfl, Nat.le_of_ble_eq_true rfl⟩ ⟨Nat.le_of_ble_eq_true rfl, Nat.le_of_ble_eq_true rfl⟩ hl.1 rfl (Nat.le_of_ble_eq_true rfl) dX5_paintPost_89 (fun H locs hP hS => ?_)
        refine lv_iload hx hb dX5_paintPost_92 (lv_at hl 0 rfl) ?_
        refine lv_bipush (v := (-4 : Int32)) hx hb dX5_paintPost_94 (by decide) ?_
        refine lv_icmp_eq (tgt := 102) hx hb dX5_paintPost_96 (by decide) (fun hc => ?_) (fun hc => ?_)
        · have hf := ifp hc hf
          refine lv_iinc (v := (x4_15 + (1 : Int32))) (lv' := [(4, .int (x4_15 + (1 : Int32))), (5, .int v38), (0, .ref (w.1 (o))), (1, .int a1), (2, .int v6), (3, .int x3_15)]) hx hb dX5_paintPost_102 hl (k := 5) rfl ii_1 (by decide) rfl (fun ls hl => ?_)
          refine lv_goto (tgt := 15) hx hb dX5_paintPost_105 (by decide) ?_
          obtain rfl := Option.some.inj hf
          exact hG15 _ rfl _ _ _ hP hS (lv_sub hl [2, 3, 4, 5, 0] rfl)
        · have hf := ifn hc hf
          refine lv_iinc (v := (x3_15 + (1 : Int32))) (lv' := [(3, .int (x3_15 + (1 : Int32))), (5, .int v38), (0, .ref (w.1 (o))), (1, .int a1), (2, .int v6), (4, .int x4_15)]) hx hb dX5_paintPost_99 hl (k := 4) rfl ii_1 (by decide) rfl (fun ls hl => ?_)
          refine lv_iinc (v := (x4_15 + (1 : Int32))) (lv' := [(4, .int (x4_15 + (1 : Int32))), (3, .int (x3_15 + (1 : Int32))), (5, .int v38), (0, .ref (w.1 (o))), (1, .int a1), (2, .int v6)]) hx hb dX5_paintPost_102 hl (k := 5) rfl ii_1 (by decide) rfl (fun ls hl => ?_)
          refine lv_goto (tgt := 15) hx hb dX5_paintPost_105 (by decide) ?_
          obtain rfl := Option.some.inj hf
          exact hG15 _ rfl _ _ _ hP hS (lv_sub hl [3, 4, 5, 1, 0] rfl)
      · have hf := ifn (fun h => h hc) hf
        refine lv_bipush (v := (-4 : Int32)) hx hb dX5_paintPost_74 (by decide) ?_
        refine lv_goto (tgt := 89) hx hb dX5_paintPost_76 (by decide) ?_
        obtain ⟨σ89, h89, hf⟩ := bnd hf
        refine qk_cVv (As := [.int a1, .int x4_15, .int (-4 : Int32)]) hx hb hts hml hown hK hP hS (ck_X0_put l D w σ57 (o + 10) a1 x4_15 (-4 : Int32) σ89 ho.f3 hJ h89) hw_X5_75 hd_X0_put ⟨rfl, rfl, rfl⟩ ho.f3.o (ce0 ho.f3.k) rfl ⟨Nat.le_of_ble_eq_true rfl, Nat.le_of_ble_eq_true rfl⟩ ⟨Nat.le_of_ble_eq_true rfl, Nat.le_of_ble_eq_true rfl⟩ hl.1 rfl (Nat.le_of_ble_eq_true rfl) dX5_paintPost_89 (fun H locs hP hS => ?_)
        refine lv_iload hx hb dX5_paintPost_92 (lv_at hl 0 rfl) ?_
        refine lv_bipush (v := (-4 : Int32)) hx hb dX5_paintPost_94 (by decide) ?_
        refine lv_icmp_eq (tgt := 102) hx hb dX5_paintPost_96 (by decide) (fun hc => ?_) (fun hc => ?_)
        · have hf := ifp hc hf
          refine lv_iinc (v := (x4_15 + (1 : Int32))) (lv' := [(4, .int (x4_15 + (1 : Int32))), (5, .int v38), (0, .ref (w.1 (o))), (1, .int a1), (2, .int v6), (3, .int x3_15)]) hx hb dX5_paintPost_102 hl (k := 5) rfl ii_1 (by decide) rfl (fun ls hl => ?_)
          refine lv_goto (tgt := 15) hx hb dX5_paintPost_105 (by decide) ?_
          obtain rfl := Option.some.inj hf
          exact hG15 _ rfl _ _ _ hP hS (lv_sub hl [2, 3, 4, 5, 0] rfl)
        · have hf := ifn hc hf
          refine lv_iinc (v := (x3_15 + (1 : Int32))) (lv' := [(3, .int (x3_15 + (1 : Int32))), (5, .int v38), (0, .ref (w.1 (o))), (1, .int a1), (2, .int v6), (4, .int x4_15)]) hx hb dX5_paintPost_99 hl (k := 4) rfl ii_1 (by decide) rfl (fun ls hl => ?_)
          refine lv_iinc (v := (x4_15 + (1 : Int32))) (lv' := [(4, .int (x4_15 + (1 : Int32))), (3, .int (x3_15 + (1 : Int32))), (5, .int v38), (0, .ref (w.1 (o))), (1, .int a1), (2, .int v6)]) hx hb dX5_paintPost_102 hl (k := 5) rfl ii_1 (by decide) rfl (fun ls hl => ?_)
          refine lv_goto (tgt := 15) hx hb dX5_paintPost_105 (by decide) ?_
          obtain rfl := Option.some.inj hf
          exact hG15 _ rfl _ _ _ hP hS (lv_sub hl [3, 4, 5, 1, 0] rfl)
set_option maxHeartbeats 4000000 in
set_option maxRecDepth 100000 in
theorem ck_X5_paintAll (l : Launch) (D : va_G) (w : Wv) (σ : Sg) (o : Nat) (σ' : Sg) (ho : isYk o) (hJ : Injk w) (hf : f_X5_paintAll σ o = some σ') : Met l yX5_paintAll (.code yX5_paintAll cX5_paintAll 2 none :: TB) (rmW 3 75) (pcWk D w [.ref (w.1 (o))] σ) (qvWk D w σ') 0 0 (ALk w) := by
  refine qk_open (by decide +kernel) (Nat.le_of_ble_eq_true rfl) ?_
  intro p e s m args below meth c ls hx hb hml hr hlk hown hts hK hP hS hl
  have hown : s.vm.findClass RX5 = some m.cls := hown
  have hl : lv_has ls 2 [(0, .ref (w.1 (o)))] := hl
  unfold f_X5_paintAll at hf
  refine lv_aload_n hx hb dX5_paintAll_0 rfl (lv_at hl 0 rfl) ?_
  refine gk_X5_12 hx hb hts hown hK hP ho.o ho.k dX5_paintAll_1 ?_
  obtain ⟨σ4, h4, hf⟩ := bnd hf
  refine qk_cVv (As := []) hx hb hts hml hown hK hP hS (ck_X3_survey l D w σ (o + 1) σ4 ho.f0 hJ h4) hw_X5_78 hd_X3_survey ⟨rfl, rfl, rfl⟩ ho.f0.o (ce3 ho.f0.k) rfl ⟨Nat.le_of_ble_eq_true rfl, Nat.le_of_ble_eq_true rfl⟩ ⟨Nat.le_of_ble_eq_true rfl, Nat.le_of_ble_eq_true rfl⟩ hl.1 rfl (Nat.le_of_ble_eq_true rfl) dX5_paintAll_4 (fun H locs hP hS => ?_)
  refine lv_iconst (v := (0 : Int32)) hx hb dX5_paintAll_7 (by decide) ?_
  refine lv_istore_n (lv' := [(1, .int (0 : Int32)), (0, .ref (w.1 (o)))]) hx hb dX5_paintAll_8 rfl hl (by decide) rfl (fun ls hl => ?_)
  obtain ⟨rr, hlp, hf⟩ := bnd hf
  have hE9_29 : ∀ (σ_29 : Sg) (H : Heap) (locs : List Loc) (ls : Array Slot), f_X5_paintAll_k1 σ_29 = some σ' → va_P D vwCl (WLk w σ_29) H → va_S (ALk w) s.heap H locs → lv_has ls 2 [] → W p l e (rmW 3 75) s m args below meth c H locs 0 0 (MQ below (qvWk D w σ') args s 0 0 (ALk w)) (F0 m 29 ls []) := by
    intro σ_29 H locs ls hf hP hS hl
    unfold f_X5_paintAll_k1 at hf
    have hq := Option.some.inj hf
    exact qk_vret hx hb hr hlk hP hS hq dX5_paintAll_29
  refine lp_ind (G := fun (st : (Int32 × Sg)) => ∀ (H : Heap) (locs : List Loc) (ls : Array Slot), va_P D vwCl (WLk w st.2) H → va_S (ALk w) s.heap H locs → lv_has ls 2 [(0, .ref (w.1 (o))), (1, .int st.1)] → W p l e (rmW 3 75) s m args below meth c H locs 0 0 (MQ below (qvWk D w σ') args s 0 0 (ALk w)) (F0 m 9 ls [])) (X := fun rr => f_X5_paintAll_k1 rr = some σ') ?_ _ _ rr hlp hf _ _ _ hP hS (lv_sub hl [1, 0] rfl)
  rintro ⟨x1_9, σ_9⟩ oo9 hb9 hG9 hX9 H locs ls hP hS hl
  have hP : va_P D vwCl (WLk w σ_9) H := hP
  have hl : lv_has ls 2 [(0, .ref (w.1 (o))), (1, .int x1_9)] := hl
  have hf : f_X5_paintAll_b1 o x1_9 σ_9 = some oo9 := hb9
  unfold f_X5_paintAll_b1 at hf
  refine lv_iload_n hx hb dX5_paintAll_9 rfl (lv_at hl 1 rfl) ?_
  refine lv_aload_n hx hb dX5_paintAll_10 rfl (lv_at hl 0 rfl) ?_
  refine gk_X5_43 hx hb hts hown hK hP ho.o ho.k dX5_paintAll_11 ?_
  refine lv_icmp_ge (tgt := 29) hx hb dX5_paintAll_14 (by decide) (fun hc => ?_) (fun hc => ?_)
  · have hf := ifp hc hf
    obtain rfl := Option.some.inj hf
    exact hE9_29 σ_9 _ _ _ (hX9 _ rfl) hP hS (lv_sub hl [] rfl)
  · have hf := ifn hc hf
    refine lv_aload_n hx hb dX5_paintAll_17 rfl (lv_at hl 0 rfl) ?_
    refine lv_iload_n hx hb dX5_paintAll_18 rfl (lv_at hl 1 rfl) ?_
    obtain ⟨⟨v19, σ19⟩, h19, hf⟩ := bnd hf
    dsimp only at hf
    refine qk_cVi (As := [.int x1_9]) hx hb hts hml hown hK hP hS (ck_X5_paintPost l D w σ_9 (o) x1_9 v19 σ19 ho hJ h19) hw_X5_81 hd_X5_paintPost ⟨rfl, rfl, rfl⟩ ho.o (ce5 ho.k) rfl ⟨Nat.le_of_ble_eq_true rfl, Nat.le_of_ble_eq_true rfl⟩ ⟨Nat.le_of_ble_eq_true rfl, Nat.le_of_ble_eq_true rfl⟩ hl.1 rfl (Nat.le_of_ble_eq_true rfl) dX5_paintAll_19 (fun H locs hP hS => ?_)
    refine lv_pop hx hb dX5_paintAll_22 rfl ?_
    refine lv_iinc (v := (x1_9 + (1 : Int32))) (lv' := [(1, .int (x1_9 + (1 : Int32))), (0, .ref (w.1 (o)))]) hx hb dX5_paintAll_23 hl (k := 1) rfl ii_1 (by decide) rfl (fun ls hl => ?_)
    refine lv_goto (tgt := 9) hx hb dX5_paintAll_26 (by decide) ?_
    obtain rfl := Option.some.inj hf
    exact hG9 _ rfl _ _ _ hP hS (lv_sub hl [1, 0] rfl)
set_option maxHeartbeats 4000000 in
set_option maxRecDepth 100000 in
theorem ck_X1_readItem (l : Launch) (D : va_G) (w : Wv) (σ : Sg) (o : Nat) (a1 : Nat) (a2 : Int32) (r : Int32) (σ' : Sg) (ho : isLk o) (ha1 : isYk a1) (hJ : Injk w) (hf : f_X1_readItem σ o a1 a2 = some (r, σ')) : Met l yX1_readItem (.code yX1_readItem cX1_readItem 7 (some .boolean) :: TB) (rmW 4 89) (pcWk D w [.ref (w.1 (o)), .ref (w.1 (a1)), .int a2] σ) (qzWk D w r σ') 0 0 (ALk w) := by
  refine qk_open (by decide +kernel) (Nat.le_of_ble_eq_true rfl) ?_
  intro p e s m args below meth c ls hx hb hml hr hlk hown hts hK hP hS hl
  have hown : s.vm.findClass RX1 = some m.cls := hown
  have hl : lv_has ls 7 [(0, .ref (w.1 (o))), (1, .ref (w.1 (a1))), (2, .int a2)] := hl
  unfold f_X1_readItem at hf
  refine lv_aload_n hx hb dX1_readItem_0 rfl (lv_at hl 0 rfl) ?_
  obtain ⟨v1, h1, hf⟩ := bnd hf
  refine qk_cVi (As := []) hx hb hts hml hown hK hP hS (ck_X1_letterHere l D w σ (o) v1 ho h1) hw_X1_43 hd_X1_letterHere ⟨rfl, rfl, rfl⟩ ho.o (ce1 ho.k) rfl ⟨Nat.le_of_ble_eq_true rfl, Nat.le_of_ble_eq_true rfl⟩ ⟨Nat.le_of_ble_eq_true rfl, Nat.le_of_ble_eq_true rfl⟩ hl.1 rfl (Nat.le_of_ble_eq_true rfl) dX1_readItem_1 (fun H locs hP hS => ?_)
  refine lv_istore_n (lv' := [(3, .int v1), (0, .ref (w.1 (o))), (1, .ref (w.1 (a1))), (2, .int a2)]) hx hb dX1_readItem_4 rfl hl (by decide) rfl (fun ls hl => ?_)
  refine lv_aload_n hx hb dX1_readItem_5 rfl (lv_at hl 1 rfl) ?_
  refine lv_dup hx hb dX1_readItem_6 rfl ?_
  refine gk_X1_36 hx hb hts hown hK hP ho.o ho.k dX1_readItem_7 ?_
  refine lv_iconst (v := (1 : Int32)) hx hb dX1_readItem_10 (by decide) ?_
  refine lv_iadd hx hb dX1_readItem_11 ?_
  obtain ⟨σ12, h12, hf⟩ := bnd hf
  refine pk_X1_36 hx hb hts hown hK hP hJ hS ho.o ho.k h12 dX1_readItem_12 (fun H locs hP hS => ?_)
  refine lv_aload_n hx hb dX1_readItem_15 rfl (lv_at hl 1 rfl) ?_
  refine lv_iload_n hx hb dX1_readItem_16 rfl (lv_at hl 0 rfl) ?_
  obtain ⟨v17, h17, hf⟩ := bnd hf
  refine qk_cSi (As := [.int v1]) hx hb hts hml hown hK hP hS (ck_X1_numbersBehind l D w σ12 v1 v17 h17) hw_X1_47 hd_X1_numbersBehind ⟨rfl, rfl, rfl⟩ ⟨Nat.le_of_ble_eq_true rfl, Nat.le_of_ble_eq_true rfl⟩ ⟨Nat.le_of_ble_eq_true rfl, Nat.le_of_ble_eq_true rfl⟩ hl.1 rfl (Nat.le_of_ble_eq_true rfl) dX1_readItem_17 (fun H locs hP hS => ?_)
  obtain ⟨⟨v20, σ20⟩, h20, hf⟩ := bnd hf
  dsimp only at hf
  refine qk_cVz (As := [.int v17]) hx hb hts hml hown hK hP hS (ck_X1_readNumbers l D w σ12 (o) v17 v20 σ20 ho hJ h20) hw_X1_51 hd_X1_readNumbers ⟨rfl, rfl, rfl⟩ ho.o (ce1 ho.k) rfl ⟨Nat.le_of_ble_eq_true rfl, Nat.le_of_ble_eq_true rfl⟩ ⟨Nat.le_of_ble_eq_true rfl, Nat.le_of_ble_eq_true rfl⟩ hl.1 rfl (Nat.le_of_ble_eq_true rfl) dX1_readItem_20 (fun hz20 H locs hP hS => ?_)
  refine lv_if_ne (tgt := 28) hx hb dX1_readItem_23 (by decide) (fun hc => ?_) (fun hc => ?_)
  · have hf := ifp hc hf
    refine lv_aload_n hx hb dX1_readItem_28 rfl (lv_at hl 1 rfl) ?_
    refine gk_X1_20 hx hb hts hown hK hP ho.o ho.k dX1_readItem_29 ?_
    refine lv_iconst (v := (0 : Int32)) hx hb dX1_readItem_32 (by decide) ?_
    refine lv_iconst (v := (0 : Int32)) hx hb dX1_readItem_33 (by decide) ?_
    obtain ⟨v34, h34, hf⟩ := bnd hf
    refine qk_cVi (As := [.int (0 : Int32), .int (0 : Int32)]) hx hb hts hml hown hK hP hS (ck_X0_at l D w σ20 (o + 3) (0 : Int32) (0 : Int32) v34 ho.f1 h34) hw_X1_55 hd_X0_at ⟨rfl, rfl, rfl⟩ ho.f1.o (ce0 ho.f1.k) rfl ⟨Nat.le_of_ble_eq_true rfl, Nat.le_of_ble_eq_true rfl⟩ ⟨Nat.le_of_ble_eq_true rfl, Nat.le_of_ble_eq_true rfl⟩ hl.1 rfl (Nat.le_of_ble_eq_true rfl) dX1_readItem_34 (fun H locs hP hS => ?_)
    refine lv_istore (lv' := [(4, .int v34), (3, .int v1), (0, .ref (w.1 (o))), (1, .ref (w.1 (a1))), (2, .int a2)]) hx hb dX1_readItem_37 hl (by decide) rfl (fun ls hl => ?_)
    refine lv_aload_n hx hb dX1_readItem_39 rfl (lv_at hl 2 rfl) ?_
    refine gk_X1_20 hx hb hts hown hK hP ho.o ho.k dX1_readItem_40 ?_
    refine lv_iconst (v := (0 : Int32)) hx hb dX1_readItem_43 (by decide) ?_
    refine lv_iconst (v := (1 : Int32)) hx hb dX1_readItem_44 (by decide) ?_
    obtain ⟨v45, h45, hf⟩ := bnd hf
    refine qk_cVi (As := [.int (0 : Int32), .int (1 : Int32)]) hx hb hts hml hown hK hP hS (ck_X0_at l D w σ20 (o + 3) (0 : Int32) (1 : Int32) v45 ho.f1 h45) hw_X1_55 hd_X0_at ⟨rfl, rfl, rfl⟩ ho.f1.o (ce0 ho.f1.k) rfl ⟨Nat.le_of_ble_eq_true rfl, Nat.le_of_ble_eq_true rfl⟩ ⟨Nat.le_of_ble_eq_true rfl, Nat.le_of_ble_eq_true rfl⟩ hl.1 rfl (Nat.le_of_ble_eq_true rfl) dX1_readItem_45 (fun H locs hP hS => ?_)
    refine lv_istore (lv' := [(5, .int v45), (4, .int v34), (3, .int v1), (0, .ref (w.1 (o))), (1, .ref (w.1 (a1))), (2, .int a2)]) hx hb dX1_readItem_48 hl (by decide) rfl (fun ls hl => ?_)
    refine lv_aload_n hx hb dX1_readItem_50 rfl (lv_at hl 3 rfl) ?_
    refine gk_X1_20 hx hb hts hown hK hP ho.o ho.k dX1_readItem_51 ?_
    refine lv_iconst (v := (0 : Int32)) hx hb dX1_readItem_54 (by decide) ?_
    refine lv_iconst (v := (2 : Int32)) hx hb dX1_readItem_55 (by decide) ?_
    obtain ⟨v56, h56, hf⟩ := bnd hf
    refine qk_cVi (As := [.int (0 : Int32), .int (2 : Int32)]) hx hb hts hml hown hK hP hS (ck_X0_at l D w σ20 (o + 3) (0 : Int32) (2 : Int32) v56 ho.f1 h56) hw_X1_55 hd_X0_at ⟨rfl, rfl, rfl⟩ ho.f1.o (ce0 ho.f1.k) rfl ⟨Nat.le_of_ble_eq_true rfl, Nat.le_of_ble_eq_true rfl⟩ ⟨Nat.le_of_ble_eq_true rfl, Nat.le_of_ble_eq_true rfl⟩ hl.1 rfl (Nat.le_of_ble_eq_true rfl) dX1_readItem_56 (fun H locs hP hS => ?_)
    refine lv_istore (lv' := [(6, .int v56), (5, .int v45), (4, .int v34), (3, .int v1), (0, .ref (w.1 (o))), (1, .ref (w.1 (a1))), (2, .int a2)]) hx hb dX1_readItem_59 hl (by decide) rfl (fun ls hl => ?_)
    refine lv_iload_n hx hb dX1_readItem_61 rfl (lv_at hl 3 rfl) ?_
    rcases Decidable.em (v1 = (110 : Int32)) with hc | hc110
    · have hf := ifp hc hf
      refine lv_tableIn (off := 54) (tgt := 116) hx hb dX1_readItem_62 (by rw [hc]; decide) (by rw [hc]; decide) (by rw [hc]; rfl) (by decide) ?_
      refine lv_iload_n hx hb dX1_readItem_116 rfl (lv_at hl 6 rfl) ?_
      refine lv_if_eq (tgt := 133) hx hb dX1_readItem_117 (by decide) (fun hc => ?_) (fun hc => ?_)
      · have hf := ifp hc hf
        refine lv_iconst (v := (0 : Int32)) hx hb dX1_readItem_133 (by decide) ?_
        have hq := Option.some.inj hf
        exact qk_zret hx hb hr hlk hP hS rfl (congrArg Prod.fst hq) (congrArg Prod.snd hq) dX1_readItem_134
      · have hf := ifn hc hf
        refine lv_aload_n hx hb dX1_readItem_120 rfl (lv_at hl 5 rfl) ?_
        refine lv_iload hx hb dX1_readItem_121 (lv_at hl 2 rfl) ?_
        obtain ⟨⟨v123, σ123⟩, h123, hf⟩ := bnd hf
        dsimp only at hf
        refine qk_cVz (As := [.int v34]) hx hb hts hml hown hK hP hS (ck_X5_tellTowns l D w σ20 (a1) v34 v123 σ123 ha1 hJ h123) hw_X1_59 hd_X5_tellTowns ⟨rfl, rfl, rfl⟩ ha1.o (ce5 ha1.k) rfl ⟨Nat.le_of_ble_eq_true rfl, Nat.le_of_ble_eq_true rfl⟩ ⟨Nat.le_of_ble_eq_true rfl, Nat.le_of_ble_eq_true rfl⟩ hl.1 rfl (Nat.le_of_ble_eq_true rfl) dX1_readItem_123 (fun hz123 H locs hP hS => ?_)
        refine lv_if_eq (tgt := 133) hx hb dX1_readItem_126 (by decide) (fun hc => ?_) (fun hc => ?_)
        · have hf := ifp hc hf
          refine lv_iconst (v := (0 : Int32)) hx hb dX1_readItem_133 (by decide) ?_
          have hq := Option.some.inj hf
          exact qk_zret hx hb hr hlk hP hS rfl (congrArg Prod.fst hq) (congrArg Prod.snd hq) dX1_readItem_134
        · have hf := ifn hc hf
          refine lv_iconst (v := (1 : Int32)) hx hb dX1_readItem_129 (by decide) ?_
          refine lv_goto (tgt := 134) hx hb dX1_readItem_130 (by decide) ?_
          have hq := Option.some.inj hf
          exact qk_zret hx hb hr hlk hP hS rfl (congrArg Prod.fst hq) (congrArg Prod.snd hq) dX1_readItem_134
    have hf := ifn hc110 hf
    rcases Decidable.em (v1 = (111 : Int32)) with hc | hc111
    · have hf := ifp hc hf
      refine lv_tableIn (off := 104) (tgt := 166) hx hb dX1_readItem_62 (by rw [hc]; decide) (by rw [hc]; decide) (by rw [hc]; rfl) (by decide) ?_
      refine lv_iconst (v := (0 : Int32)) hx hb dX1_readItem_166 (by decide) ?_
      have hq := Option.some.inj hf
      exact qk_zret hx hb hr hlk hP hS rfl (congrArg Prod.fst hq) (congrArg Prod.snd hq) dX1_readItem_167
    have hf := ifn hc111 hf
    rcases Decidable.em (v1 = (112 : Int32)) with hc | hc112
    · have hf := ifp hc hf
      refine lv_tableIn (off := 84) (tgt := 146) hx hb dX1_readItem_62 (by rw [hc]; decide) (by rw [hc]; decide) (by rw [hc]; rfl) (by decide) ?_
      refine lv_aload_n hx hb dX1_readItem_146 rfl (lv_at hl 5 rfl) ?_
      refine lv_iload hx hb dX1_readItem_147 (lv_at hl 2 rfl) ?_
      refine lv_iload hx hb dX1_readItem_149 (lv_at hl 1 rfl) ?_
      refine lv_iload hx hb dX1_readItem_151 (lv_at hl 0 rfl) ?_
      obtain ⟨⟨v153, σ153⟩, h153, hf⟩ := bnd hf
      dsimp only at hf
      refine qk_cVz (As := [.int v34, .int v45, .int v56]) hx hb hts hml hown hK hP hS (ck_X5_tellPost l D w σ20 (a1) v34 v45 v56 v153 σ153 ha1 hJ h153) hw_X1_66 hd_X5_tellPost ⟨rfl, rfl, rfl⟩ ha1.o (ce5 ha1.k) rfl ⟨Nat.le_of_ble_eq_true rfl, Nat.le_of_ble_eq_true rfl⟩ ⟨Nat.le_of_ble_eq_true rfl, Nat.le_of_ble_eq_true rfl⟩ hl.1 rfl (Nat.le_of_ble_eq_true rfl) dX1_readItem_153 (fun hz153 H locs hP hS => ?_)
      have hq := Option.some.inj hf
      exact qk_zret hx hb hr hlk hP hS hz153 (congrArg Prod.fst hq) (congrArg Prod.snd hq) dX1_readItem_156
    have hf := ifn hc112 hf
    rcases Decidable.em (v1 = (113 : Int32)) with hc | hc113
    · have hf := ifp hc hf
      refine lv_tableIn (off := 104) (tgt := 166) hx hb dX1_readItem_62 (by rw [hc]; decide) (by rw [hc]; decide) (by rw [hc]; rfl) (by decide) ?_
      refine lv_iconst (v := (0 : Int32)) hx hb dX1_readItem_166 (by decide) ?_
      have hq := Option.some.inj hf
      exact qk_zret hx hb hr hlk hP hS rfl (congrArg Prod.fst hq) (congrArg Prod.snd hq) dX1_readItem_167
    have hf := ifn hc113 hf
    rcases Decidable.em (v1 = (114 : Int32)) with hc | hc114
    · have hf := ifp hc hf
      refine lv_tableIn (off := 73) (tgt := 135) hx hb dX1_readItem_62 (by rw [hc]; decide) (by rw [hc]; decide) (by rw [hc]; rfl) (by decide) ?_
      refine lv_aload_n hx hb dX1_readItem_135 rfl (lv_at hl 5 rfl) ?_
      refine lv_iload hx hb dX1_readItem_136 (lv_at hl 2 rfl) ?_
      refine lv_iload hx hb dX1_readItem_138 (lv_at hl 1 rfl) ?_
      refine lv_iload hx hb dX1_readItem_140 (lv_at hl 0 rfl) ?_
      obtain ⟨⟨v142, σ142⟩, h142, hf⟩ := bnd hf
      dsimp only at hf
      refine qk_cVz (As := [.int v34, .int v45, .int v56]) hx hb hts hml hown hK hP hS (ck_X5_tellRoad l D w σ20 (a1) v34 v45 v56 v142 σ142 ha1 hJ h142) hw_X1_62 hd_X5_tellRoad ⟨rfl, rfl, rfl⟩ ha1.o (ce5 ha1.k) rfl ⟨Nat.le_of_ble_eq_true rfl, Nat.le_of_ble_eq_true rfl⟩ ⟨Nat.le_of_ble_eq_true rfl, Nat.le_of_ble_eq_true rfl⟩ hl.1 rfl (Nat.le_of_ble_eq_true rfl) dX1_readItem_142 (fun hz142 H locs hP hS => ?_)
      have hq := Option.some.inj hf
      exact qk_zret hx hb hr hlk hP hS hz142 (congrArg Prod.fst hq) (congrArg Prod.snd hq) dX1_readItem_145
    have hf := ifn hc114 hf
    rcases Decidable.em (v1 = (115 : Int32)) with hc | hc115
    · have hf := ifp hc hf
      refine lv_tableIn (off := 104) (tgt := 166) hx hb dX1_readItem_62 (by rw [hc]; decide) (by rw [hc]; decide) (by rw [hc]; rfl) (by decide) ?_
      refine lv_iconst (v := (0 : Int32)) hx hb dX1_readItem_166 (by decide) ?_
      have hq := Option.some.inj hf
      exact qk_zret hx hb hr hlk hP hS rfl (congrArg Prod.fst hq) (congrArg Prod.snd hq) dX1_readItem_167
    have hf := ifn hc115 hf
    rcases Decidable.em (v1 = (116 : Int32)) with hc | hc116
    · have hf := ifp hc hf
      refine lv_tableIn (off := 104) (tgt := 166) hx hb dX1_readItem_62 (by rw [hc]; decide) (by rw [hc]; decide) (by rw [hc]; rfl) (by decide) ?_
      refine lv_iconst (v := (0 : Int32)) hx hb dX1_readItem_166 (by decide) ?_
      have hq := Option.some.inj hf
      exact qk_zret hx hb hr hlk hP hS rfl (congrArg Prod.fst hq) (congrArg Prod.snd hq) dX1_readItem_167
    have hf := ifn hc116 hf
    rcases Decidable.em (v1 = (117 : Int32)) with hc | hc117
    · have hf := ifp hc hf
      refine lv_tableIn (off := 104) (tgt := 166) hx hb dX1_readItem_62 (by rw [hc]; decide) (by rw [hc]; decide) (by rw [hc]; rfl) (by decide) ?_
      refine lv_iconst (v := (0 : Int32)) hx hb dX1_readItem_166 (by decide) ?_
      have hq := Option.some.inj hf
      exact qk_zret hx hb hr hlk hP hS rfl (congrArg Prod.fst hq) (congrArg Prod.snd hq) dX1_readItem_167
    have hf := ifn hc117 hf
    rcases Decidable.em (v1 = (118 : Int32)) with hc | hc118
    · have hf := ifp hc hf
      refine lv_tableIn (off := 104) (tgt := 166) hx hb dX1_readItem_62 (by rw [hc]; decide) (by rw [hc]; decide) (by rw [hc]; rfl) (by decide) ?_
      refine lv_iconst (v := (0 : Int32)) hx hb dX1_readItem_166 (by decide) ?_
      have hq := Option.some.inj hf
      exact qk_zret hx hb hr hlk hP hS rfl (congrArg Prod.fst hq) (congrArg Prod.snd hq) dX1_readItem_167
    have hf := ifn hc118 hf
    rcases Decidable.em (v1 = (119 : Int32)) with hc | hc119
    · have hf := ifp hc hf
      refine lv_tableIn (off := 95) (tgt := 157) hx hb dX1_readItem_62 (by rw [hc]; decide) (by rw [hc]; decide) (by rw [hc]; rfl) (by decide) ?_
      refine lv_aload_n hx hb dX1_readItem_157 rfl (lv_at hl 5 rfl) ?_
      refine lv_iload hx hb dX1_readItem_158 (lv_at hl 2 rfl) ?_
      refine lv_iload hx hb dX1_readItem_160 (lv_at hl 1 rfl) ?_
      obtain ⟨⟨v162, σ162⟩, h162, hf⟩ := bnd hf
      dsimp only at hf
      refine qk_cVz (As := [.int v34, .int v45]) hx hb hts hml hown hK hP hS (ck_X5_tellWalker l D w σ20 (a1) v34 v45 v162 σ162 ha1 hJ h162) hw_X1_69 hd_X5_tellWalker ⟨rfl, rfl, rfl⟩ ha1.o (ce5 ha1.k) rfl ⟨Nat.le_of_ble_eq_true rfl, Nat.le_of_ble_eq_true rfl⟩ ⟨Nat.le_of_ble_eq_true rfl, Nat.le_of_ble_eq_true rfl⟩ hl.1 rfl (Nat.le_of_ble_eq_true rfl) dX1_readItem_162 (fun hz162 H locs hP hS => ?_)
      have hq := Option.some.inj hf
      exact qk_zret hx hb hr hlk hP hS hz162 (congrArg Prod.fst hq) (congrArg Prod.snd hq) dX1_readItem_165
    have hf := ifn hc119 hf
    refine lv_tableOut (tgt := 166) hx hb dX1_readItem_62 (tb_out_110_119 hc110 hc111 hc112 hc113 hc114 hc115 hc116 hc117 hc118 hc119) (by decide) ?_
    refine lv_iconst (v := (0 : Int32)) hx hb dX1_readItem_166 (by decide) ?_
    have hq := Option.some.inj hf
    exact qk_zret hx hb hr hlk hP hS rfl (congrArg Prod.fst hq) (congrArg Prod.snd hq) dX1_readItem_167
  · have hf := ifn (fun h => h hc) hf
    refine lv_iconst (v := (0 : Int32)) hx hb dX1_readItem_26 (by decide) ?_
    have hq := Option.some.inj hf
    exact qk_zret hx hb hr hlk hP hS rfl (congrArg Prod.fst hq) (congrArg Prod.snd hq) dX1_readItem_27
set_option maxHeartbeats 4000000 in
set_option maxRecDepth 100000 in
theorem ck_X1_readInto (l : Launch) (D : va_G) (w : Wv) (σ : Sg) (o : Nat) (a1 : Nat) (r : Int32) (σ' : Sg) (ho : isLk o) (ha1 : isYk a1) (hJ : Injk w) (hf : f_X1_readInto σ o a1 = some (r, σ')) : Met l yX1_readInto (.code yX1_readInto cX1_readInto 4 (some .int) :: TB) (rmW 5 115) (pcWk D w [.ref (w.1 (o)), .ref (w.1 (a1))] σ) (qiWk D w r σ') 0 0 (ALk w) := by
  refine qk_open (by decide +kernel) (Nat.le_of_ble_eq_true rfl) ?_
  intro p e s m args below meth c ls hx hb hml hr hlk hown hts hK hP hS hl
  have hown : s.vm.findClass RX1 = some m.cls := hown
  have hl : lv_has ls 4 [(0, .ref (w.1 (o))), (1, .ref (w.1 (a1)))] := hl
  unfold f_X1_readInto at hf
  refine lv_aload_n hx hb dX1_readInto_0 rfl (lv_at hl 1 rfl) ?_
  obtain ⟨σ1, h1, hf⟩ := bnd hf
  refine qk_cVv (As := []) hx hb hts hml hown hK hP hS (ck_X5_clear l D w σ (a1) σ1 ha1 hJ h1) hw_X1_31 hd_X5_clear ⟨rfl, rfl, rfl⟩ ha1.o (ce5 ha1.k) rfl ⟨Nat.le_of_ble_eq_true rfl, Nat.le_of_ble_eq_true rfl⟩ ⟨Nat.le_of_ble_eq_true rfl, Nat.le_of_ble_eq_true rfl⟩ hl.1 rfl (Nat.le_of_ble_eq_true rfl) dX1_readInto_1 (fun H locs hP hS => ?_)
  refine lv_aload_n hx hb dX1_readInto_4 rfl (lv_at hl 0 rfl) ?_
  refine lv_iconst (v := (0 : Int32)) hx hb dX1_readInto_5 (by decide) ?_
  obtain ⟨σ6, h6, hf⟩ := bnd hf
  refine pk_X1_36 hx hb hts hown hK hP hJ hS ho.o ho.k h6 dX1_readInto_6 (fun H locs hP hS => ?_)
  refine lv_iconst (v := (0 : Int32)) hx hb dX1_readInto_9 (by decide) ?_
  refine lv_istore_n (lv' := [(2, .int (0 : Int32)), (0, .ref (w.1 (o))), (1, .ref (w.1 (a1)))]) hx hb dX1_readInto_10 rfl hl (by decide) rfl (fun ls hl => ?_)
  obtain ⟨rr, hlp, hf⟩ := bnd hf
  have hE11_51 : ∀ (y3_51 : Int32) (σ_51 : Sg) (H : Heap) (locs : List Loc) (ls : Array Slot), f_X1_readInto_k1 y3_51 σ_51 = some (r, σ') → va_P D vwCl (WLk w σ_51) H → va_S (ALk w) s.heap H locs → lv_has ls 4 [(3, .int y3_51)] → W p l e (rmW 5 115) s m args below meth c H locs 0 0 (MQ below (qiWk D w r σ') args s 0 0 (ALk w)) (F0 m 51 ls []) := by
    intro y3_51 σ_51 H locs ls hf hP hS hl
    unfold f_X1_readInto_k1 at hf
    refine lv_iload_n hx hb dX1_readInto_51 rfl (lv_at hl 0 rfl) ?_
    have hq := Option.some.inj hf
    exact qk_iret hx hb hr hlk hP hS (congrArg Prod.fst hq) (congrArg Prod.snd hq) dX1_readInto_52
  have hE11_59 : ∀ (σ_59 : Sg) (H : Heap) (locs : List Loc) (ls : Array Slot), f_X1_readInto_k2 σ_59 = some (r, σ') → va_P D vwCl (WLk w σ_59) H → va_S (ALk w) s.heap H locs → lv_has ls 4 [] → W p l e (rmW 5 115) s m args below meth c H locs 0 0 (MQ below (qiWk D w r σ') args s 0 0 (ALk w)) (F0 m 59 ls []) := by
    intro σ_59 H locs ls hf hP hS hl
    unfold f_X1_readInto_k2 at hf
    refine lv_bipush (v := (-4 : Int32)) hx hb dX1_readInto_59 (by decide) ?_
    have hq := Option.some.inj hf
    exact qk_iret hx hb hr hlk hP hS (congrArg Prod.fst hq) (congrArg Prod.snd hq) dX1_readInto_61
  refine lp_ind (G := fun (st : (Int32 × Sg)) => ∀ (H : Heap) (locs : List Loc) (ls : Array Slot), va_P D vwCl (WLk w st.2) H → va_S (ALk w) s.heap H locs → lv_has ls 4 [(0, .ref (w.1 (o))), (1, .ref (w.1 (a1))), (2, .int st.1)] → W p l e (rmW 5 115) s m args below meth c H locs 0 0 (MQ below (qiWk D w r σ') args s 0 0 (ALk w)) (F0 m 11 ls [])) (X := fun rr => Sum.elim (fun q => f_X1_readInto_k1 q.1 q.2) (fun q => f_X1_readInto_k2 q) rr = some (r, σ')) ?_ _ _ rr hlp hf _ _ _ hP hS (lv_sub hl [1, 2, 0] rfl)
  rintro ⟨x2_11, σ_11⟩ oo11 hb9 hG11 hX11 H locs ls hP hS hl
  have hP : va_P D vwCl (WLk w σ_11) H := hP
  have hl : lv_has ls 4 [(0, .ref (w.1 (o))), (1, .ref (w.1 (a1))), (2, .int x2_11)] := hl
  have hf : f_X1_readInto_b1 o a1 x2_11 σ_11 = some oo11 := hb9
  unfold f_X1_readInto_b1 at hf
  refine lv_iload_n hx hb dX1_readInto_11 rfl (lv_at hl 2 rfl) ?_
  refine lv_sipush (v := (200 : Int32)) hx hb dX1_readInto_12 (by decide) ?_
  refine lv_icmp_ge (tgt := 59) hx hb dX1_readInto_15 (by decide) (fun hc => ?_) (fun hc => ?_)
  · have hf := ifp hc hf
    obtain rfl := Option.some.inj hf
    exact hE11_59 σ_11 _ _ _ (hX11 _ rfl) hP hS (lv_sub hl [] rfl)
  · have hf := ifn hc hf
    refine lv_aload_n hx hb dX1_readInto_18 rfl (lv_at hl 0 rfl) ?_
    refine gk_X1_36 hx hb hts hown hK hP ho.o ho.k dX1_readInto_19 ?_
    refine lv_aload_n hx hb dX1_readInto_22 rfl (lv_at hl 0 rfl) ?_
    refine gk_X1_23 hx hb hts hown hK hP ho.o ho.k dX1_readInto_23 ?_
    refine lv_icmp_ge (tgt := 59) hx hb dX1_readInto_26 (by decide) (fun hc => ?_) (fun hc => ?_)
    · have hf := ifp hc hf
      obtain rfl := Option.some.inj hf
      exact hE11_59 σ_11 _ _ _ (hX11 _ rfl) hP hS (lv_sub hl [] rfl)
    · have hf := ifn hc hf
      refine lv_aload_n hx hb dX1_readInto_29 rfl (lv_at hl 0 rfl) ?_
      refine gk_X1_36 hx hb hts hown hK hP ho.o ho.k dX1_readInto_30 ?_
      refine lv_istore_n (lv' := [(3, .int (σ_11 (o) 3)), (0, .ref (w.1 (o))), (1, .ref (w.1 (a1))), (2, .int x2_11)]) hx hb dX1_readInto_33 rfl hl (by decide) rfl (fun ls hl => ?_)
      refine lv_aload_n hx hb dX1_readInto_34 rfl (lv_at hl 1 rfl) ?_
      refine lv_aload_n hx hb dX1_readInto_35 rfl (lv_at hl 2 rfl) ?_
      refine lv_iload_n hx hb dX1_readInto_36 rfl (lv_at hl 3 rfl) ?_
      refine lv_if_ne (tgt := 44) hx hb dX1_readInto_37 (by decide) (fun hc => ?_) (fun hc => ?_)
      · have hf := ifp hc hf
        refine lv_iconst (v := (0 : Int32)) hx hb dX1_readInto_44 (by decide) ?_
        obtain ⟨⟨v45, σ45⟩, h45, hf⟩ := bnd hf
        dsimp only at hf
        refine qk_cVz (As := [.ref (w.1 (a1)), .int (0 : Int32)]) hx hb hts hml hown hK hP hS (ck_X1_readItem l D w σ_11 (o) (a1) (0 : Int32) v45 σ45 ho ha1 hJ h45) hw_X1_39 hd_X1_readItem ⟨rfl, rfl, rfl⟩ ho.o (ce1 ho.k) rfl ⟨Nat.le_of_ble_eq_true rfl, Nat.le_of_ble_eq_true rfl⟩ ⟨Nat.le_of_ble_eq_true rfl, Nat.le_of_ble_eq_true rfl⟩ hl.1 rfl (Nat.le_of_ble_eq_true rfl) dX1_readInto_45 (fun hz45 H locs hP hS => ?_)
        refine lv_if_ne (tgt := 53) hx hb dX1_readInto_48 (by decide) (fun hc => ?_) (fun hc => ?_)
        · have hf := ifp hc hf
          refine lv_iinc (v := (x2_11 + (1 : Int32))) (lv' := [(2, .int (x2_11 + (1 : Int32))), (3, .int (σ_11 (o) 3)), (0, .ref (w.1 (o))), (1, .ref (w.1 (a1)))]) hx hb dX1_readInto_53 hl (k := 3) rfl ii_1 (by decide) rfl (fun ls hl => ?_)
          refine lv_goto (tgt := 11) hx hb dX1_readInto_56 (by decide) ?_
          obtain rfl := Option.some.inj hf
          exact hG11 _ rfl _ _ _ hP hS (lv_sub hl [2, 3, 0] rfl)
        · have hf := ifn (fun h => h hc) hf
          obtain rfl := Option.some.inj hf
          exact hE11_51 (σ_11 (o) 3) σ45 _ _ _ (hX11 _ rfl) hP hS (lv_sub hl [0] rfl)
      · have hf := ifn (fun h => h hc) hf
        refine lv_iconst (v := (1 : Int32)) hx hb dX1_readInto_40 (by decide) ?_
        refine lv_goto (tgt := 45) hx hb dX1_readInto_41 (by decide) ?_
        obtain ⟨⟨v45, σ45⟩, h45, hf⟩ := bnd hf
        dsimp only at hf
        refine qk_cVz (As := [.ref (w.1 (a1)), .int (1 : Int32)]) hx hb hts hml hown hK hP hS (ck_X1_readItem l D w σ_11 (o) (a1) (1 : Int32) v45 σ45 ho ha1 hJ h45) hw_X1_39 hd_X1_readItem ⟨rfl, rfl, rfl⟩ ho.o (ce1 ho.k) rfl ⟨Nat.le_of_ble_eq_true rfl, Nat.le_of_ble_eq_true rfl⟩ ⟨Nat.le_of_ble_eq_true rfl, Nat.le_of_ble_eq_true rfl⟩ hl.1 rfl (Nat.le_of_ble_eq_true rfl) dX1_readInto_45 (fun hz45 H locs hP hS => ?_)
        refine lv_if_ne (tgt := 53) hx hb dX1_readInto_48 (by decide) (fun hc => ?_) (fun hc => ?_)
        · have hf := ifp hc hf
          refine lv_iinc (v := (x2_11 + (1 : Int32))) (lv' := [(2, .int (x2_11 + (1 : Int32))), (3, .int (σ_11 (o) 3)), (0, .ref (w.1 (o))), (1, .ref (w.1 (a1)))]) hx hb dX1_readInto_53 hl (k := 3) rfl ii_1 (by decide) rfl (fun ls hl => ?_)
          refine lv_goto (tgt := 11) hx hb dX1_readInto_56 (by decide) ?_
          obtain rfl := Option.some.inj hf
          exact hG11 _ rfl _ _ _ hP hS (lv_sub hl [2, 3, 0] rfl)
        · have hf := ifn (fun h => h hc) hf
          obtain rfl := Option.some.inj hf
          exact hE11_51 (σ_11 (o) 3) σ45 _ _ _ (hX11 _ rfl) hP hS (lv_sub hl [0] rfl)

