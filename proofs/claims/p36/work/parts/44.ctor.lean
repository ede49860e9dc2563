/-! Part 44: constructors (out of whole's parts 44, 45, 46, with the words by their places here). -/
theorem ty_28 : Cond.initialized "java/lang/String" ∈ TB := TBm 28 (by decide +kernel) (by decide +kernel)
theorem ty_29 : Cond.initialized "java/lang/StringLatin1" ∈ TB := TBm 29 (by decide +kernel) (by decide +kernel)
theorem ty_30 : Cond.initialized "jdk/internal/util/Preconditions" ∈ TB := TBm 30 (by decide +kernel) (by decide +kernel)
theorem ty_39 : Cond.methodLink RX6 1 Lib.objectInit ∈ TB := TBm 39 (by decide +kernel) (by decide +kernel)
theorem ty_40 : Cond.instanceMethod Lib.objectInit ∈ TB := TBm 40 (by decide +kernel) (by decide +kernel)
theorem ty_41 : Cond.code Lib.objectInit ⟨#[0xb1]⟩ 1 none ∈ TB := TBm 41 (by decide +kernel) (by decide +kernel)
theorem ty_42 : Cond.classLink RX6 7 RX1 ∈ TB := TBm 42 (by decide +kernel) (by decide +kernel)
theorem ty_43 : Cond.instantiable RX1 4 ∈ TB := TBm 43 (by decide +kernel) (by decide +kernel)
theorem ty_44 : Cond.methodLink RX6 9 yX1_init ∈ TB := TBm 44 (by decide +kernel) (by decide +kernel)
theorem ty_45 : Cond.instanceMethod yX1_init ∈ TB := TBm 45 (by decide +kernel) (by decide +kernel)
theorem ty_46 : Cond.code yX1_init cX1_init 1 none ∈ TB := TBm 46 (by decide +kernel) (by decide +kernel)
theorem ty_47 : Cond.methodLink RX1 3 Lib.objectInit ∈ TB := TBm 47 (by decide +kernel) (by decide +kernel)
theorem ty_48 : Cond.classLink RX1 9 RX0 ∈ TB := TBm 48 (by decide +kernel) (by decide +kernel)
theorem ty_49 : Cond.instantiable RX0 2 ∈ TB := TBm 49 (by decide +kernel) (by decide +kernel)
theorem ty_50 : Cond.methodLink RX1 11 yX0_init ∈ TB := TBm 50 (by decide +kernel) (by decide +kernel)
theorem ty_51 : Cond.instanceMethod yX0_init ∈ TB := TBm 51 (by decide +kernel) (by decide +kernel)
theorem ty_52 : Cond.code yX0_init cX0_init 3 none ∈ TB := TBm 52 (by decide +kernel) (by decide +kernel)
theorem ty_53 : Cond.methodLink RX0 3 Lib.objectInit ∈ TB := TBm 53 (by decide +kernel) (by decide +kernel)
theorem ty_54 : Cond.methodLink RX0 15 Lib.Math.min.name ∈ TB := TBm 54 (by decide +kernel) (by decide +kernel)
theorem ty_57 : Cond.methodLink RX0 21 Lib.Math.max.name ∈ TB := TBm 57 (by decide +kernel) (by decide +kernel)
theorem ty_67 : Cond.arrayClass .int ∈ TB := TBm 67 (by decide +kernel) (by decide +kernel)
theorem ty_81 : Cond.classLink RX6 16 RX5 ∈ TB := TBm 81 (by decide +kernel) (by decide +kernel)
theorem ty_82 : Cond.instantiable RX5 10 ∈ TB := TBm 82 (by decide +kernel) (by decide +kernel)
theorem ty_83 : Cond.methodLink RX6 18 yX5_init ∈ TB := TBm 83 (by decide +kernel) (by decide +kernel)
theorem ty_84 : Cond.instanceMethod yX5_init ∈ TB := TBm 84 (by decide +kernel) (by decide +kernel)
theorem ty_85 : Cond.code yX5_init cX5_init 1 none ∈ TB := TBm 85 (by decide +kernel) (by decide +kernel)
theorem ty_86 : Cond.methodLink RX5 3 Lib.objectInit ∈ TB := TBm 86 (by decide +kernel) (by decide +kernel)
theorem ty_87 : Cond.classLink RX5 9 RX3 ∈ TB := TBm 87 (by decide +kernel) (by decide +kernel)
theorem ty_88 : Cond.instantiable RX3 3 ∈ TB := TBm 88 (by decide +kernel) (by decide +kernel)
theorem ty_89 : Cond.methodLink RX5 11 yX3_init ∈ TB := TBm 89 (by decide +kernel) (by decide +kernel)
theorem ty_90 : Cond.instanceMethod yX3_init ∈ TB := TBm 90 (by decide +kernel) (by decide +kernel)
theorem ty_91 : Cond.code yX3_init cX3_init 1 none ∈ TB := TBm 91 (by decide +kernel) (by decide +kernel)
theorem ty_92 : Cond.methodLink RX3 3 Lib.objectInit ∈ TB := TBm 92 (by decide +kernel) (by decide +kernel)
theorem ty_93 : Cond.classLink RX3 15 RX0 ∈ TB := TBm 93 (by decide +kernel) (by decide +kernel)
theorem ty_94 : Cond.methodLink RX3 17 yX0_init ∈ TB := TBm 94 (by decide +kernel) (by decide +kernel)
theorem ty_105 : Cond.classLink RX5 18 RX0 ∈ TB := TBm 105 (by decide +kernel) (by decide +kernel)
theorem ty_106 : Cond.methodLink RX5 20 yX0_init ∈ TB := TBm 106 (by decide +kernel) (by decide +kernel)
theorem ty_138 : Cond.classLink RX6 26 RX4 ∈ TB := TBm 138 (by decide +kernel) (by decide +kernel)
theorem ty_139 : Cond.instantiable RX4 3 ∈ TB := TBm 139 (by decide +kernel) (by decide +kernel)
theorem ty_140 : Cond.methodLink RX6 28 yX4_init ∈ TB := TBm 140 (by decide +kernel) (by decide +kernel)
theorem ty_141 : Cond.instanceMethod yX4_init ∈ TB := TBm 141 (by decide +kernel) (by decide +kernel)
theorem ty_142 : Cond.code yX4_init cX4_init 3 none ∈ TB := TBm 142 (by decide +kernel) (by decide +kernel)
theorem ty_143 : Cond.methodLink RX4 3 Lib.objectInit ∈ TB := TBm 143 (by decide +kernel) (by decide +kernel)
theorem ty_144 : Cond.methodLink RX4 9 Lib.Math.min.name ∈ TB := TBm 144 (by decide +kernel) (by decide +kernel)
theorem ty_145 : Cond.methodLink RX4 15 Lib.Math.max.name ∈ TB := TBm 145 (by decide +kernel) (by decide +kernel)
theorem ty_146 : Cond.classLink RX4 18 RX5 ∈ TB := TBm 146 (by decide +kernel) (by decide +kernel)
theorem ty_148 : Cond.methodLink RX4 26 yX5_init ∈ TB := TBm 148 (by decide +kernel) (by decide +kernel)
theorem ty_159 : Cond.classLink RX6 38 RX2 ∈ TB := TBm 159 (by decide +kernel) (by decide +kernel)
theorem ty_160 : Cond.instantiable RX2 2 ∈ TB := TBm 160 (by decide +kernel) (by decide +kernel)
theorem ty_161 : Cond.methodLink RX6 40 yX2_init ∈ TB := TBm 161 (by decide +kernel) (by decide +kernel)
theorem ty_162 : Cond.instanceMethod yX2_init ∈ TB := TBm 162 (by decide +kernel) (by decide +kernel)
theorem ty_163 : Cond.code yX2_init cX2_init 1 none ∈ TB := TBm 163 (by decide +kernel) (by decide +kernel)
theorem ty_164 : Cond.methodLink RX2 3 Lib.objectInit ∈ TB := TBm 164 (by decide +kernel) (by decide +kernel)
theorem ty_165 : Cond.classLink RX2 9 RX0 ∈ TB := TBm 165 (by decide +kernel) (by decide +kernel)
theorem ty_166 : Cond.methodLink RX2 11 yX0_init ∈ TB := TBm 166 (by decide +kernel) (by decide +kernel)
theorem ty_175 : Cond.methodLink RX6 50 yJ0_length_8abf5 ∈ TB := TBm 175 (by decide +kernel) (by decide +kernel)
theorem ty_176 : Cond.instanceMethod yJ0_length_8abf5 ∈ TB := TBm 176 (by decide +kernel) (by decide +kernel)
theorem ty_177 : Cond.selects "java/lang/String" yJ0_length_8abf5 yJ0_length_8abf5 ∈ TB := TBm 177 (by decide +kernel) (by decide +kernel)
theorem ty_178 : Cond.code yJ0_length_8abf5 cJ0_length_8abf5 1 (some .int) ∈ TB := TBm 178 (by decide +kernel) (by decide +kernel)
theorem ty_179 : Cond.methodLink "java/lang/String" 335 yJ0_coder_7d493 ∈ TB := TBm 179 (by decide +kernel) (by decide +kernel)
theorem ty_180 : Cond.instanceMethod yJ0_coder_7d493 ∈ TB := TBm 180 (by decide +kernel) (by decide +kernel)
theorem ty_181 : Cond.selects "java/lang/String" yJ0_coder_7d493 yJ0_coder_7d493 ∈ TB := TBm 181 (by decide +kernel) (by decide +kernel)
theorem ty_182 : Cond.code yJ0_coder_7d493 cJ0_coder_7d493 1 (some .byte) ∈ TB := TBm 182 (by decide +kernel) (by decide +kernel)
theorem ty_183 : Cond.fieldLink "java/lang/String" 38 "java/lang/String" "COMPACT_STRINGS" "Z" ∈ TB := TBm 183 (by decide +kernel) (by decide +kernel)
theorem ty_185 : Cond.methodLink RX6 56 yJ0_charAt_5068e ∈ TB := TBm 185 (by decide +kernel) (by decide +kernel)
theorem ty_186 : Cond.instanceMethod yJ0_charAt_5068e ∈ TB := TBm 186 (by decide +kernel) (by decide +kernel)
theorem ty_187 : Cond.selects "java/lang/String" yJ0_charAt_5068e yJ0_charAt_5068e ∈ TB := TBm 187 (by decide +kernel) (by decide +kernel)
theorem ty_188 : Cond.code yJ0_charAt_5068e cJ0_charAt_5068e 2 (some .char) ∈ TB := TBm 188 (by decide +kernel) (by decide +kernel)
theorem ty_189 : Cond.methodLink "java/lang/String" 492 yJ0_isLatin1_aae02 ∈ TB := TBm 189 (by decide +kernel) (by decide +kernel)
theorem ty_190 : Cond.instanceMethod yJ0_isLatin1_aae02 ∈ TB := TBm 190 (by decide +kernel) (by decide +kernel)
theorem ty_191 : Cond.selects "java/lang/String" yJ0_isLatin1_aae02 yJ0_isLatin1_aae02 ∈ TB := TBm 191 (by decide +kernel) (by decide +kernel)
theorem ty_192 : Cond.code yJ0_isLatin1_aae02 cJ0_isLatin1_aae02 1 (some .boolean) ∈ TB := TBm 192 (by decide +kernel) (by decide +kernel)
theorem ty_193 : Cond.methodLink "java/lang/String" 495 yJ1_charAt_3b067 ∈ TB := TBm 193 (by decide +kernel) (by decide +kernel)
theorem ty_194 : Cond.static yJ1_charAt_3b067 ∈ TB := TBm 194 (by decide +kernel) (by decide +kernel)
theorem ty_195 : Cond.code yJ1_charAt_3b067 cJ1_charAt_3b067 2 (some .char) ∈ TB := TBm 195 (by decide +kernel) (by decide +kernel)
theorem ty_196 : Cond.methodLink "java/lang/StringLatin1" 9 yJ0_checkIndex_df160 ∈ TB := TBm 196 (by decide +kernel) (by decide +kernel)
theorem ty_197 : Cond.static yJ0_checkIndex_df160 ∈ TB := TBm 197 (by decide +kernel) (by decide +kernel)
theorem ty_198 : Cond.code yJ0_checkIndex_df160 cJ0_checkIndex_df160 2 none ∈ TB := TBm 198 (by decide +kernel) (by decide +kernel)
theorem ty_199 : Cond.fieldLink "java/lang/String" 1053 "jdk/internal/util/Preconditions" "SIOOBE_FORMATTER" "Ljava/util/function/BiFunction;" ∈ TB := TBm 199 (by decide +kernel) (by decide +kernel)
theorem ty_201 : Cond.methodLink "java/lang/String" 1059 yJ3_checkIndex_8e157 ∈ TB := TBm 201 (by decide +kernel) (by decide +kernel)
theorem ty_202 : Cond.static yJ3_checkIndex_8e157 ∈ TB := TBm 202 (by decide +kernel) (by decide +kernel)
theorem ty_203 : Cond.code yJ3_checkIndex_8e157 cJ3_checkIndex_8e157 3 (some .int) ∈ TB := TBm 203 (by decide +kernel) (by decide +kernel)
theorem ty_790 : Cond.fieldLink "java/lang/String" 9 "java/lang/String" "value" "[B" ∈ TB := TBm 790 (by decide +kernel) (by decide +kernel)
theorem ty_791 : Cond.fieldLink "java/lang/String" 15 "java/lang/String" "coder" "B" ∈ TB := TBm 791 (by decide +kernel) (by decide +kernel)
theorem va_appL {ws wc : va_W} {k : Nat} {q : Nat × va_E} (h : ws[k]? = some q) : (ws ++ wc)[k]? = some q := by
  rw [List.getElem?_append_left (List.getElem?_eq_some_iff.mp h).1]; exact h
theorem va_appR {ws wc : va_W} {k : Nat} {q : Nat × va_E} (h : wc[k]? = some q) : (ws ++ wc)[ws.length + k]? = some q := by
  rw [List.getElem?_append_right (by omega), show ws.length + k - ws.length = k by omega]; exact h
theorem va_joinA {A0 : Nat → Prop} {D : va_G} {cl : List vw_C} {ws wc w1 : va_W} {H H1 : Heap} (hP : va_P D cl (ws ++ wc) H) (hD : va_D A0 (ws ++ wc)) (hk : ∀ q : Nat, q < H.size → ¬ va_A wc H.size q → H1[q]? = H[q]?) (hF : ∀ q, va_A wc H.size q → A0 q) (hP1 : va_P D cl w1 H1) (hD1 : va_D (va_A wc H.size) w1) : va_P D cl (ws ++ w1) H1 ∧ va_D A0 (ws ++ w1) := by
  have apart : ∀ (k : Nat) (q : Nat × va_E), ws[k]? = some q → q.1 < H.size ∧ ¬ va_A wc H.size q.1 := by
    intro k q hq
    have hl := (hP k q (va_appL hq)).lt
    refine ⟨hl, fun h => ?_⟩
    rcases h with ⟨k2, e, h⟩ | h
    · have hij := hD.1 k (ws.length + k2) q (q.1, e) (va_appL hq) (va_appR h) rfl
      have := (List.getElem?_eq_some_iff.mp hq).1
      omega
    · omega
  refine ⟨va_P.app (fun k q hq => ?_) hP1, va_D.app ⟨fun i j x y hx hy e => hD.1 i j x y (va_appL hx) (va_appL hy) e, fun k q hq => hD.2 k q (va_appL hq)⟩ (hD1.weaken (fun k q _ h => hF q.1 h)) (fun i j x y hx hy hxy => ?_)⟩
  · obtain ⟨g1, g2⟩ := apart k q hq
    exact (hP k q (va_appL hq)).kept (hk q.1 g1 g2)
  · exact (apart i x hx).2 (by rw [hxy]; exact hD1.2 j y hy)
theorem va_freeA {A0 : Nat → Prop} {ws wc : va_W} {H0 H : Heap} {locs : List Loc} (hD : va_D A0 (ws ++ wc)) (hS : va_S A0 H0 H locs) (hA : ∀ q, H0.size ≤ q → A0 q) : ∀ q, va_A wc H.size q → A0 q := fun q h => by
  rcases h with ⟨k, e, h⟩ | h
  · exact hD.2 (ws.length + k) (q, e) (va_appR h)
  · exact hA q (Nat.le_trans hS.1 h)
/-- the tables as constructors take them -/
def KN2 (D : va_G) (w : Wv) (U : State) : Prop := KN D w U ∧ va_AO "SignpostYard$Yard" U
theorem KN2.moved {D : va_G} {w : Wv} {s U : State} (hW : s.WarmedH U.vm) (h : KN2 D w s) : KN2 D w U := ⟨KN.moved hW h.1, va_AO.moved hW.alike h.2⟩
abbrev rmK (f l mc ms : Nat) : Room := { frames := f, cells := mc, slots := ms, locals := l }
abbrev pcK (D : va_G) (w : Wv) (As : List Value) (wc : va_W) (sz : Nat) : Array Value → State → Prop := va_Pc As (fun U => U.heap.size = sz ∧ va_P D vwCl wc U.heap ∧ KN2 D w U ∧ va_D (fun _ => True) wc)
theorem pcK_blind {D : va_G} {w : Wv} {As : List Value} {wc : va_W} {sz : Nat} : FrameBlind (pcK D w As wc sz) := fun a U g mk q => ⟨q.1, q.2.1, q.2.2.1, ⟨⟨va_K.moved (u := U) (U := U.calling g mk a) (Vm.Alike.refl U.vm) q.2.2.2.1.1.1, va_tabs rfl (rfl : U.vm = (U.calling g mk a).vm) q.2.2.2.1.1.2⟩, va_AO.moved (u := U) (U := U.calling g mk a) (Vm.Alike.refl U.vm) q.2.2.2.1.2⟩, q.2.2.2.2⟩
abbrev qvK (D : va_G) (Post : va_W → Prop) (A : Nat → Prop) : Array Value → State → Outcome → State → Prop := va_Qv Post (fun w1 t => va_P D vwCl w1 t.heap ∧ va_D A w1) A
/-- a constructor's contract: the cells given, and what they and the new ones are then -/
def KM (l : Launch) (D : va_G) (w : Wv) (y : MethodName) (b : ByteArray) (n f lo mc ms : Nat) (As : List Value) (wc : va_W) (Post : va_W → Prop) : Prop := ∀ sz, Met l y (.code y b n none :: TB) (rmK f lo mc ms) (pcK D w As wc sz) (qvK D Post (va_A wc sz)) mc ms (va_A wc sz)
theorem k_open {l : Launch} {D : va_G} {w : Wv} {y : MethodName} {b : ByteArray} {n f lo mc ms : Nat} {As : List Value} {wc : va_W} {Post : va_W → Prop} (hy : plainName y.cls = true) (hyn : y.name = "<init>") (hn : (lg_sl As).length ≤ n)
    (body : ∀ p e s m args below meth c ls A, p.tables.exec = Jvm.exec → c.code = b → c.maxLocals = n → meth.sig.returnType = none → meth.locks = false → meth.name = "<init>" → s.vm.findClass y.cls = some m.cls → (∀ x ∈ TB, x.before args s = true) → KN2 D w s → va_P D vwCl wc s.heap → va_D A wc → (∀ q : Nat, s.heap.size ≤ q → A q) → va_S A s.heap s.heap [] → lv_has ls n (lv_args 0 As) → W p l e (rmK f lo mc ms) s m args below meth c s.heap [] 0 0 (MQ below (qvK D Post A) args s mc ms A) (F0 m 0 ls [])) : KM l D w y b n f lo mc ms As wc Post := by
  intro sz
  refine Met.ofW (cc := b) (maxL := n) (ret := none) hy rfl ?_
  intro p e s m args below meth c s₁ B hml hv
  obtain ⟨rfl, hsz, hP, hK, hD0⟩ := hv
  subst hsz
  have hts : ∀ x ∈ TB, x.before As.toArray s = true := fun x hx => atoms_spec B.pre x (List.mem_cons_of_mem _ hx)
  have hl := lv_entry As (n := n) hn
  rw [lg_entry_eq]
  exact body p e s m _ below meth c _ _ B.exec B.bytes hml B.returns B.notSynchronized ((name_of_methodNamed B.named B.method).1.trans hyn) (findClass_of_methodNamed B.named) hts hK hP (hD0.self (sz := s.heap.size)) (fun q h => Or.inr h) va_S.rf hl
section KR
variable {p : Program} {l : Launch} {e : Env} {R : Room} {s : State} {m : MethodId} {args : Array Value} {below : List Frame} {meth : Method} {c : Code} {H : Heap} {locs : List Loc} {cells slots : Nat} {Q : State → Prop} {cc : ByteArray} {pc : Nat} {ls : Array Slot} {rest : List Value} {D : va_G} {w : Wv} {H0 : Heap} {A0 : Nat → Prop} {ws : va_W}
theorem k_ctor (hx : p.tables.exec = Jvm.exec) (hb : c.code = cc) {nL : Nat} (hml : c.maxLocals = nL) {own : String} (hown : s.vm.findClass own = some m.cls) (hts : ∀ x ∈ TB, x.before args s = true) (hK : KN2 D w s) {y : MethodName} {bytes : ByteArray} {maxL n f lo mc ms idx : Nat} {As : List Value} {q : Nat} {e0 : va_E} {Post : va_W → Prop} (hM : KM l D w y bytes maxL f lo mc ms (.ref q :: As) [(q, e0)] Post)
    (hw : Cond.methodLink own idx y ∈ TB ∧ Cond.instanceMethod y ∈ TB ∧ Cond.initialized y.cls ∈ TB ∧ Cond.code y bytes maxL none ∈ TB) (hy1 : y.name = "<init>") (hd : y.cls ≠ "java/lang/invoke/MethodHandle" ∧ y.cls ≠ "java/lang/invoke/VarHandle" ∧ (parseMethodDescriptor y.desc).map (fun d => d.parameters.length) = some n) (hn : As.length = n) (hR : f + 1 ≤ R.frames ∧ 8 + (maxL + 11) + lo ≤ R.locals) (hc : cells + mc ≤ R.cells ∧ slots + ms ≤ R.slots) (hsz : ls.size = nL) {st : List Value} (hst : st = As.reverse ++ .ref q :: rest) (hrest : (rest.map fun v => v.category).sum ≤ 8)
    (hP : va_P D vwCl (ws ++ [(q, e0)]) H) (hD : va_D A0 (ws ++ [(q, e0)])) (hS : va_S A0 H0 H locs) (hA : ∀ q, H0.size ≤ q → A0 q) (hdg : decode cc pc = .ok (.invokespecial idx, 3))
    (kk : ∀ (w1 : va_W) (H1 : Heap) (locs1 : List Loc), Post w1 → va_P D vwCl (ws ++ w1) H1 → va_D A0 (ws ++ w1) → va_S A0 H0 H1 locs1 → W p l e R s m args below meth c H1 locs1 (cells + mc) (slots + ms) Q (F0 m (pc + 3) ls rest)) : W p l e R s m args below meth c H locs cells slots Q (F0 m pc ls st) := by
  subst hst
  have hF := va_freeA hD hS hA
  have hPc : va_P D vwCl [(q, e0)] H := fun k x hk => hP (ws.length + k) x (va_appR hk)
  have hDc : va_D (fun _ => True) [(q, e0)] := ⟨fun i j x z hx hz _ => by
    have a := (List.getElem?_eq_some_iff.mp hx).1
    have b := (List.getElem?_eq_some_iff.mp hz).1
    have a : i < 1 := a
    have b : j < 1 := b
    omega, fun _ _ _ => trivial⟩
  refine va_callv (va_runI (As := As) (rest := rest) ⟨hx, hb, hml, hown, hts⟩ (hM H.size) (cwI n hts (good_code hw.2.2.2) rfl rfl rfl (hts _ hw.2.2.1) (hts _ hw.1) (hts _ hw.2.1) hy1 hd hR) ⟨pcK_blind, fun U hU hW => ⟨rfl, by rw [hU], by rw [hU]; exact hPc, hK.moved hW, hDc⟩⟩ rfl hn hsz rfl (lv_room hrest) hdg hc) hS (fun q _ h => hF q h) hF (fun w1 t H1 locs1 ht hvm hw hB hz hk hS1 => ?_)
  obtain ⟨hP1, hD1⟩ := hB
  rw [ht] at hP1
  obtain ⟨hP', hD'⟩ := va_joinA hP hD hk hF hP1 hD1
  exact kk w1 H1 locs1 hw hP' hD' hS1
theorem k_newi (hx : p.tables.exec = Jvm.exec) (hb : c.code = cc) (hts : ∀ x ∈ TB, x.before args s = true) (hK : KN2 D w s) (hP : va_P D vwCl ws H) (hD : va_D A0 ws) (hS : va_S A0 H0 H locs) (hA : ∀ q, H0.size ≤ q → A0 q) {n : Int32} {N : Nat} (hn : n = nI N) (hN : N ≤ 100000) (hcells : cells + 1 ≤ R.cells) (hslots : slots + N ≤ R.slots) (hdg : decode cc pc = .ok (.newarray .int, 2))
    (kk : ∀ (q : Nat) (H1 : Heap), va_P D vwCl (ws ++ [(q, .inl (w.2.2.1, N, .inl fun _ => 0))]) H1 → va_D A0 (ws ++ [(q, .inl (w.2.2.1, N, .inl fun _ => 0))]) → va_S A0 H0 H1 locs → W p l e R s m args below meth c H1 locs (cells + 1) (slots + N) Q (F0 m (pc + 2) ls (.ref q :: rest))) : W p l e R s m args below meth c H locs cells slots Q (F0 m pc ls (.int n :: rest)) := by
  subst hn
  refine va_newa (atype := .int) (a0 := (N, .inl fun _ => 0)) (N' := N) hx hb (hts _ ty_67) rfl hK.1.1 hP hD hS hA (fun cA => rfl) (nI_pos (by omega)) (nI_clamp (by omega)) (by show N * 4 ≤ 536870912; omega) hcells hslots hdg (fun q cA H1 hK1 hP1 hD1 hS1 => ?_)
  have e : cA = w.2.2.1 := Option.some.inj (((hK1.2 3 (cA, .int) rfl).2 : s.vm.findClass _ = some cA).symm.trans ((hK.1.1.2 1 (w.2.2.1, .int) rfl).2 : s.vm.findClass _ = some w.2.2.1))
  subst e
  exact kk q H1 hP1 hD1 hS1
end KR
/-- a grid's cells -/
abbrev gL (cI : ClassId) (h a : Nat) (C : Int32) (N : Nat) : va_W := [(h, .inr (0, [.int C, .ref a])), (a, .inl (cI, N, .inl fun _ => 0))]
set_option maxHeartbeats 4000000 in
set_option maxRecDepth 100000 in
theorem c_X0_init (l : Launch) (D : va_G) (w : Wv) (h0 : Nat) (r k : Int32) (N : Nat) (hN : N ≤ 200) (hv : (if (1 : Int32) < (if (200 : Int32) < r * k then (200 : Int32) else r * k) then (if (200 : Int32) < r * k then (200 : Int32) else r * k) else (1 : Int32)) = nI N) : KM l D w yX0_init cX0_init 3 1 20 1 N [.ref h0, .int r, .int k] [(h0, .inr (0, [.int 0, .null]))] (fun w1 => ∃ a, w1 = gL w.2.2.1 h0 a k N) := by
  refine k_open (by decide +kernel) rfl (Nat.le_of_ble_eq_true rfl) ?_
  intro p e s m args below meth c ls A hx hb hml hr hlk hin hown hts hK hP hD hA hS hl
  have hown : s.vm.findClass RX0 = some m.cls := hown
  have hl : lv_has ls 3 [(0, .ref h0), (1, .int r), (2, .int k)] := hl
  refine lv_aload_n hx hb dX0_init_0 rfl (lv_at hl 0 rfl) ?_
  refine W.objInit hx hb hown (hts _ ty_53) (hts _ ty_40) (hts _ ty_41) rfl (by rw [hml]; exact hl.1) rfl dX0_init_1 (Nat.le_of_ble_eq_true rfl) (Nat.le_of_ble_eq_true rfl) ?_
  refine W.eq (g2 := F0 m 4 ls []) rfl ?_
  refine lv_aload_n hx hb dX0_init_4 rfl (lv_at hl 0 rfl) ?_
  refine lv_iload_n hx hb dX0_init_5 rfl (lv_at hl 2 rfl) ?_
  refine va_putF hx hb hts inT0 tyX0 tyX0_ok nmX0 hown hK.1.1 hP hD hS 0 rfl rfl 0 (by decide) (hts _ tw_60) (fun _ h => h) rfl hin rfl (tyX0_ok 0 (by decide)) rfl rfl (Nat.le_of_ble_eq_true rfl) dX0_init_6 (fun H locs hP hD hS => ?_)
  have hP : va_P D vwCl [(h0, .inr (0, [.int k, .null]))] H := hP
  have hD : va_D A [(h0, .inr (0, [.int k, .null]))] := hD
  refine lv_aload_n hx hb dX0_init_9 rfl (lv_at hl 0 rfl) ?_
  refine lv_iconst (v := (1 : Int32)) hx hb dX0_init_10 (by decide) ?_
  refine lv_iload_n hx hb dX0_init_11 rfl (lv_at hl 1 rfl) ?_
  refine lv_iload_n hx hb dX0_init_12 rfl (lv_at hl 2 rfl) ?_
  refine lv_imul hx hb dX0_init_13 ?_
  refine lv_sipush (v := (200 : Int32)) hx hb dX0_init_14 (by decide) ?_
  refine va_mmin hx hb (hml.trans hl.1.symm) hown (hts _ ty_54) (hts _ tw_55) (hts _ tw_23) (hts _ tw_56) (Nat.le_of_ble_eq_true rfl) (Nat.le_of_ble_eq_true rfl) (Nat.zero_le _) (Nat.zero_le _) dX0_init_17 ?_
  refine va_mmax hx hb (hml.trans hl.1.symm) hown (hts _ ty_57) (hts _ tw_58) (hts _ tw_23) (hts _ tw_59) (Nat.le_of_ble_eq_true rfl) (Nat.le_of_ble_eq_true rfl) (Nat.zero_le _) (Nat.zero_le _) dX0_init_20 ?_
  refine k_newi hx hb hts hK hP hD hS hA hv (by omega) (Nat.le_refl _) (by show 0 + N ≤ N; omega) dX0_init_23 (fun a H hP hD hS => ?_)
  have hP : va_P D vwCl [(h0, .inr (0, [.int k, .null])), (a, .inl (w.2.2.1, N, .inl fun _ => 0))] H := hP
  have hD : va_D A [(h0, .inr (0, [.int k, .null])), (a, .inl (w.2.2.1, N, .inl fun _ => 0))] := hD
  refine va_putF hx hb hts inT0 tyX0 tyX0_ok nmX0 hown hK.1.1 hP hD hS 0 rfl rfl 1 (by decide) (hts _ tw_61) (fun _ h => h) rfl hin rfl (tyX0_ok 1 (by decide)) rfl rfl (Nat.le_of_ble_eq_true rfl) dX0_init_25 (fun H locs hP hD hS => ?_)
  have hP : va_P D vwCl (gL w.2.2.1 h0 a k N) H := hP
  have hD : va_D A (gL w.2.2.1 h0 a k N) := hD
  refine W.widen (k := 1) (n := N) (by omega) (by omega) ?_
  exact W.vret hx hb hr (fun t ht hW => ⟨⟨gL w.2.2.1 h0 a k N, rfl, ⟨a, rfl⟩, by rw [ht]; exact hP, hD⟩, hS.F ht⟩) hS.2.2 dX0_init_28 hlk

