/-! Part 47: the first text (out of whole's part 47). -/
def ftL : List Nat := [110, 54, 59, 114, 48, 44, 49, 44, 50, 59, 114, 49, 44, 50, 44, 51, 59, 114, 50, 44, 51, 44, 49, 59, 114, 51, 44, 52, 44, 52, 59, 114, 52, 44, 53, 44, 50, 59, 114, 53, 44, 48, 44, 54, 59, 114, 49, 44, 52, 44, 53, 59, 112, 48, 44, 48, 44, 49, 48, 59, 112, 49, 44, 49, 44, 52, 53, 59, 112, 50, 44, 52, 44, 51, 48, 59, 112, 51, 44, 50, 44, 50, 48, 59, 112, 48, 44, 53, 44, 53, 57, 59, 119, 48, 44, 51, 59, 119, 53, 44, 50, 59, 119, 50, 44, 48, 59, 119, 52, 44, 49, 59]
def ftx (k : Nat) : Nat := (ftL[k]?).getD 0
theorem ftx_ok : tr_ok 112 ftx := ⟨by omega, fun i hi => by
  have : ∀ i : Fin 112, 32 ≤ ftx i.val ∧ ftx i.val ≤ 126 := by decide +kernel
  exact this ⟨i, hi⟩⟩
abbrev F0p : Nat → Prop := fun _ => False
/-- the text's string, its bytes, the statics that the JDK reads -/
def SF (q v : Nat) (A : Nat → Prop) (U : State) (H : Heap) : Prop := va_O "java/lang/String" q A U H ∧ va_OF "java/lang/String" "coder" "B" (.int 0) q A U H ∧ va_OF "java/lang/String" "value" "[B" (.ref v) q A U H ∧ va_T .byte v 112 (fun j => .int (nI (ftx j))) A U H ∧ va_Z "java/lang/String" "COMPACT_STRINGS" "Z" (.int 1) A U H ∧ va_Zq "jdk/internal/util/Preconditions" "SIOOBE_FORMATTER" "Ljava/util/function/BiFunction;" A U H
theorem SF.moved {q v : Nat} {A : Nat → Prop} {u U : State} {H : Heap} (hvm : u.vm.Alike U.vm) (h : SF q v A u H) : SF q v A U H := ⟨va_O.moved hvm h.1, va_OF.moved hvm h.2.1, va_OF.moved hvm h.2.2.1, va_T.moved hvm h.2.2.2.1, va_Z.moved hvm h.2.2.2.2.1, va_Zq.moved hvm h.2.2.2.2.2⟩
theorem SF.kept {q v : Nat} {A : Nat → Prop} {U : State} {H H1 : Heap} (h : SF q v A U H) (hq : ∀ a : Nat, a < H.size → ¬ A a → H1[a]? = H[a]?) : SF q v A U H1 := ⟨h.1.kept hq, h.2.1.kept hq, h.2.2.1.kept hq, h.2.2.2.1.kept hq, h.2.2.2.2.1.kept hq, h.2.2.2.2.2.kept hq⟩
theorem SF.narrow {q v : Nat} {A B : Nat → Prop} {U : State} {H : Heap} (h : SF q v A U H) (hAB : ∀ q, B q → A q) : SF q v B U H := ⟨h.1.narrow hAB, h.2.1.narrow hAB, h.2.2.1.narrow hAB, h.2.2.2.1.narrow hAB, h.2.2.2.2.1.narrow hAB, h.2.2.2.2.2.narrow hAB⟩
abbrev pcS (q v : Nat) (As : List Value) : Array Value → State → Prop := va_Pc As (fun U => SF q v F0p U U.heap)
theorem pcS_blind {q v : Nat} {As : List Value} : FrameBlind (pcS q v As) := fun a U g mk z => ⟨z.1, SF.moved (u := U) (U := U.calling g mk a) (Vm.Alike.refl U.vm) z.2⟩
theorem pcS_pre {q v : Nat} {A : Nat → Prop} {As : List Value} {s : State} {H : Heap} (h : SF q v A s H) : ∀ U : State, U.heap = H → s.WarmedH U.vm → pcS q v As As.toArray U := fun U hU hW => ⟨rfl, by show SF q v F0p U U.heap; rw [hU]; exact (h.narrow (fun _ z => z.elim)).moved hW.alike⟩
abbrev qiS (ty : FieldType) (r : Int32) : Array Value → State → Outcome → State → Prop := va_Qi (fun r' (_ : Unit) => r' = r ∧ narrow ty (.int r) = .int r) (fun _ _ => True) F0p
abbrev qvS : Array Value → State → Outcome → State → Prop := va_Qv (fun _ : Unit => True) (fun _ _ => True) F0p
theorem s_open {l : Launch} {q v : Nat} {y : MethodName} {b : ByteArray} {n : Nat} {ret : Option FieldType} {rm : Room} {As : List Value} {Qc : Array Value → State → Outcome → State → Prop} (hy : plainName y.cls = true) (hn : (lg_sl As).length ≤ n)
    (body : ∀ p e s m args below meth c ls, p.tables.exec = Jvm.exec → c.code = b → c.maxLocals = n → meth.sig.returnType = ret → meth.locks = false → s.vm.findClass y.cls = some m.cls → (∀ x ∈ TB, x.before args s = true) → SF q v F0p s s.heap → va_S F0p s.heap s.heap [] → lv_has ls n (lv_args 0 As) → W p l e rm s m args below meth c s.heap [] 0 0 (MQ below Qc args s 0 0 F0p) (F0 m 0 ls [])) : Met l y (.code y b n ret :: TB) rm (pcS q v As) Qc 0 0 F0p := by
  refine Met.ofW (cc := b) (maxL := n) (ret := ret) hy rfl ?_
  intro p e s m args below meth c s₁ B hml hv
  obtain ⟨rfl, hP⟩ := hv
  have hts : ∀ x ∈ TB, x.before As.toArray s = true := fun x hx => atoms_spec B.pre x (List.mem_cons_of_mem _ hx)
  have hl := lv_entry As (n := n) hn
  rw [lg_entry_eq]
  exact body p e s m _ below meth c _ B.exec B.bytes hml B.returns B.notSynchronized (findClass_of_methodNamed B.named) hts hP va_S.rf hl
theorem c_J3_check (l : Launch) (q v : Nat) (k : Nat) (hk : k < 112) (f : Value) (hf : f = .null ∨ ∃ t, f = .ref t) : Met l yJ3_checkIndex_8e157 (.code yJ3_checkIndex_8e157 cJ3_checkIndex_8e157 3 (some .int) :: TB) (rmW 0 0) (pcS q v [.int (nI k), .int 112, f]) (qiS .int (nI k)) 0 0 F0p := by
  have go : ∀ f : Value, (lg_sl [.int (nI k), .int 112, f]).length ≤ 3 → (∀ (ls : Array Slot), lv_has ls 3 (lv_args 0 [.int (nI k), .int 112, f]) → ls[0]? = some (.val (.int (nI k))) ∧ ls[1]? = some (.val (.int 112))) → Met l yJ3_checkIndex_8e157 (.code yJ3_checkIndex_8e157 cJ3_checkIndex_8e157 3 (some .int) :: TB) (rmW 0 0) (pcS q v [.int (nI k), .int 112, f]) (qiS .int (nI k)) 0 0 F0p := by
    intro f h1 h2
    refine s_open (by decide +kernel) h1 ?_
    intro p e s m args below meth c ls hx hb hml hr hlk hown hts hF hS hl
    obtain ⟨l0, l1⟩ := h2 ls hl
    refine lv_iload_n hx hb dJ3_checkIndex_8e157_0 rfl l0 ?_
    refine lv_if_lt (tgt := 9) hx hb dJ3_checkIndex_8e157_1 (by decide) (fun hc => absurd hc (nI_pos (by omega))) (fun _ => ?_)
    refine lv_iload_n hx hb dJ3_checkIndex_8e157_4 rfl l0 ?_
    refine lv_iload_n hx hb dJ3_checkIndex_8e157_5 rfl l1 ?_
    refine lv_icmp_lt (tgt := 16) hx hb dJ3_checkIndex_8e157_6 (by decide) (fun _ => ?_) (fun hc => absurd (show nI k < nI 112 from nI_lt hk (by omega)) hc)
    refine lv_iload_n hx hb dJ3_checkIndex_8e157_16 rfl l0 ?_
    exact W.iret hx hb hr (fun t ht hW => ⟨⟨nI k, (), rfl, ⟨rfl, rfl⟩, trivial⟩, hS.F ht⟩) hS.2.2 dJ3_checkIndex_8e157_17 hlk
  rcases hf with rfl | ⟨t, rfl⟩
  · exact go _ (Nat.le_of_ble_eq_true rfl) (fun ls hl => ⟨lv_at hl 0 rfl, lv_at hl 1 rfl⟩)
  · exact go _ (Nat.le_of_ble_eq_true rfl) (fun ls hl => ⟨lv_at hl 0 rfl, lv_at hl 1 rfl⟩)
theorem va_Zq.some_ {C n d : String} {A : Nat → Prop} {U : State} {H : Heap} (h : va_Zq C n d A U H) : ∃ f : Value, (f = .null ∨ ∃ t, f = .ref t) ∧ va_Z C n d f A U H := by
  rcases h with h | ⟨t, h⟩
  · exact ⟨.null, Or.inl rfl, h⟩
  · exact ⟨.ref t, Or.inr ⟨t, rfl⟩, h⟩
theorem c_J0_check (l : Launch) (q v : Nat) (k : Nat) (hk : k < 112) : Met l yJ0_checkIndex_df160 (.code yJ0_checkIndex_df160 cJ0_checkIndex_df160 2 none :: TB) (rmW 1 22) (pcS q v [.int (nI k), .int 112]) qvS 0 0 F0p := by
  refine s_open (by decide +kernel) (Nat.le_of_ble_eq_true rfl) ?_
  intro p e s m args below meth c ls hx hb hml hr hlk hown hts hF hS hl
  have hown : s.vm.findClass "java/lang/String" = some m.cls := hown
  have hl : lv_has ls 2 [(0, .int (nI k)), (1, .int 112)] := hl
  obtain ⟨f, hf, hZ⟩ := hF.2.2.2.2.2.some_
  have hcat : f.category = 1 := by rcases hf with rfl | ⟨t, rfl⟩ <;> rfl
  refine lv_iload_n hx hb dJ0_checkIndex_df160_0 rfl (lv_at hl 0 rfl) ?_
  refine lv_iload_n hx hb dJ0_checkIndex_df160_1 rfl (lv_at hl 1 rfl) ?_
  refine va_gets hx hb hZ hS hown (hts _ ty_199) (fun _ h => h) dJ0_checkIndex_df160_2 ?_
  refine va_calli (va_runS (As := [.int (nI k), .int 112, f]) (rest := []) ⟨hx, hb, hml, hown, hts⟩ (c_J3_check l q v k hk f hf) ⟨callB_of 3 hts (good_code ty_203) rfl rfl rfl (hts _ ty_30) (hts _ ty_201) ⟨by decide +kernel, by decide +kernel, by decide +kernel⟩ ⟨Nat.le_of_ble_eq_true rfl, Nat.le_of_ble_eq_true rfl⟩, hts _ ty_202⟩ ⟨pcS_blind, pcS_pre hF⟩ rfl rfl hl.1 rfl (lv_room (Nat.le_of_ble_eq_true rfl)) dJ0_checkIndex_df160_5 ⟨Nat.le_refl _, Nat.le_refl _⟩) hS (fun _ _ h => h) (fun _ h => h) (fun r u t H1 locs1 ht hvm hpost hB hz hk hS => ?_)
  refine lv_pop hx hb dJ0_checkIndex_df160_8 rfl ?_
  exact W.vret hx hb hr (fun t ht hW => ⟨⟨(), rfl, trivial, trivial⟩, hS.F ht⟩) hS.2.2 dJ0_checkIndex_df160_9 hlk
theorem ftx_c (k : Nat) (hk : k < 112) : ((nI (ftx k) &&& 255).toUInt32 % 65536).toInt32 = nI (ftx k) ∧ narrow .char (.int (nI (ftx k))) = .int (nI (ftx k)) := by
  have : ∀ t : Fin 127, ((nI t.val &&& 255).toUInt32 % 65536).toInt32 = nI t.val := by decide +kernel
  have t := (ftx_ok.2 k hk).2
  refine ⟨this ⟨ftx k, by omega⟩, ?_⟩
  have g : ∀ t : Fin 127, (nI t.val).toUInt32.toUInt16.toUInt32.toInt32 = nI t.val := by decide +kernel
  show Value.int _ = _
  exact congrArg Value.int (g ⟨ftx k, by omega⟩)
theorem c_J1_charAt (l : Launch) (q v : Nat) (k : Nat) (hk : k < 112) : Met l yJ1_charAt_3b067 (.code yJ1_charAt_3b067 cJ1_charAt_3b067 2 (some .char) :: TB) (rmW 2 43) (pcS q v [.ref v, .int (nI k)]) (qiS .char (nI (ftx k))) 0 0 F0p := by
  refine s_open (by decide +kernel) (Nat.le_of_ble_eq_true rfl) ?_
  intro p e s m args below meth c ls hx hb hml hr hlk hown hts hF hS hl
  have hown : s.vm.findClass "java/lang/StringLatin1" = some m.cls := hown
  have hl : lv_has ls 2 [(0, .ref v), (1, .int (nI k))] := hl
  refine lv_iload_n hx hb dJ1_charAt_3b067_0 rfl (lv_at hl 1 rfl) ?_
  refine lv_aload_n hx hb dJ1_charAt_3b067_1 rfl (lv_at hl 0 rfl) ?_
  refine va_tlen hx hb hF.2.2.2.1 hS (v := 112) rfl dJ1_charAt_3b067_2 ?_
  refine va_callv (va_runS (As := [.int (nI k), .int 112]) (rest := []) ⟨hx, hb, hml, hown, hts⟩ (c_J0_check l q v k hk) ⟨callB_of 2 hts (good_code ty_198) rfl rfl rfl (hts _ ty_28) (hts _ ty_196) ⟨by decide +kernel, by decide +kernel, by decide +kernel⟩ ⟨Nat.le_of_ble_eq_true rfl, Nat.le_of_ble_eq_true rfl⟩, hts _ ty_197⟩ ⟨pcS_blind, pcS_pre hF⟩ rfl rfl hl.1 rfl (lv_room (Nat.le_of_ble_eq_true rfl)) dJ1_charAt_3b067_3 ⟨Nat.le_refl _, Nat.le_refl _⟩) hS (fun _ _ h => h) (fun _ h => h) (fun u t H1 locs1 ht hvm hpost hB hz hk2 hS => ?_)
  refine lv_aload_n hx hb dJ1_charAt_3b067_6 rfl (lv_at hl 0 rfl) ?_
  refine lv_iload_n hx hb dJ1_charAt_3b067_7 rfl (lv_at hl 1 rfl) ?_
  refine va_tb hx hb hF.2.2.2.1 hS (i := nI k) (v := .int (nI (ftx k))) (vp_in_nI hk (by omega)) (by rw [nI_clamp (by omega)]) dJ1_charAt_3b067_8 ?_
  refine lv_sipush (v := (255 : Int32)) hx hb dJ1_charAt_3b067_9 (by decide) ?_
  refine lv_iand hx hb dJ1_charAt_3b067_12 ?_
  refine lv_i2c hx hb dJ1_charAt_3b067_13 (ftx_c k hk).1 ?_
  exact W.zret hx hb hr (ftx_c k hk).2 (fun t ht hW => ⟨⟨nI (ftx k), (), rfl, ⟨rfl, (ftx_c k hk).2⟩, trivial⟩, hS.F ht⟩) hS.2.2 dJ1_charAt_3b067_14 hlk
theorem c_J0_coder (l : Launch) (q v : Nat) : Met l yJ0_coder_7d493 (.code yJ0_coder_7d493 cJ0_coder_7d493 1 (some .byte) :: TB) (rmW 0 0) (pcS q v [.ref q]) (qiS .byte 0) 0 0 F0p := by
  refine s_open (by decide +kernel) (Nat.le_of_ble_eq_true rfl) ?_
  intro p e s m args below meth c ls hx hb hml hr hlk hown hts hF hS hl
  have hown : s.vm.findClass "java/lang/String" = some m.cls := hown
  have hl : lv_has ls 1 [(0, .ref q)] := hl
  refine va_gets hx hb hF.2.2.2.2.1 hS hown (hts _ ty_183) (fun _ h => h) dJ0_coder_7d493_0 ?_
  refine lv_if_eq (tgt := 13) hx hb dJ0_coder_7d493_3 (by decide) (fun hc => absurd hc (by decide)) (fun _ => ?_)
  refine lv_aload_n hx hb dJ0_coder_7d493_6 rfl (lv_at hl 0 rfl) ?_
  refine vk_getf hx hb hF.2.1 hS hown (hts _ ty_791) (fun _ h => h) dJ0_coder_7d493_7 ?_
  refine lv_goto (tgt := 14) hx hb dJ0_coder_7d493_10 (by decide) ?_
  exact W.zret hx hb hr (show narrow .byte (.int 0) = .int 0 from rfl) (fun t ht hW => ⟨⟨0, (), rfl, ⟨rfl, rfl⟩, trivial⟩, hS.F ht⟩) hS.2.2 dJ0_coder_7d493_14 hlk
theorem c_J0_latin (l : Launch) (q v : Nat) : Met l yJ0_isLatin1_aae02 (.code yJ0_isLatin1_aae02 cJ0_isLatin1_aae02 1 (some .boolean) :: TB) (rmW 0 0) (pcS q v [.ref q]) (qiS .boolean 1) 0 0 F0p := by
  refine s_open (by decide +kernel) (Nat.le_of_ble_eq_true rfl) ?_
  intro p e s m args below meth c ls hx hb hml hr hlk hown hts hF hS hl
  have hown : s.vm.findClass "java/lang/String" = some m.cls := hown
  have hl : lv_has ls 1 [(0, .ref q)] := hl
  refine va_gets hx hb hF.2.2.2.2.1 hS hown (hts _ ty_183) (fun _ h => h) dJ0_isLatin1_aae02_0 ?_
  refine lv_if_eq (tgt := 17) hx hb dJ0_isLatin1_aae02_3 (by decide) (fun hc => absurd hc (by decide)) (fun _ => ?_)
  refine lv_aload_n hx hb dJ0_isLatin1_aae02_6 rfl (lv_at hl 0 rfl) ?_
  refine vk_getf hx hb hF.2.1 hS hown (hts _ ty_791) (fun _ h => h) dJ0_isLatin1_aae02_7 ?_
  refine lv_if_ne (tgt := 17) hx hb dJ0_isLatin1_aae02_10 (by decide) (fun hc => absurd rfl hc) (fun _ => ?_)
  refine lv_iconst (v := (1 : Int32)) hx hb dJ0_isLatin1_aae02_13 (by decide) ?_
  refine lv_goto (tgt := 18) hx hb dJ0_isLatin1_aae02_14 (by decide) ?_
  exact W.zret hx hb hr (show narrow .boolean (.int 1) = .int 1 from rfl) (fun t ht hW => ⟨⟨1, (), rfl, ⟨rfl, rfl⟩, trivial⟩, hS.F ht⟩) hS.2.2 dJ0_isLatin1_aae02_18 hlk
theorem SF.recv {q v : Nat} {A : Nat → Prop} {s : State} {H : Heap} {locs : List Loc} (h : SF q v A s s.heap) (hS : va_S A s.heap H locs) : ∃ cell : Cell, H[q]? = some cell ∧ cell.vm.isStatics = false ∧ s.vm.findClass "java/lang/String" = some cell.cls := by
  obtain ⟨cell, h1, h2, h3, -⟩ := h.1.kept hS.2.1
  exact ⟨cell, h1, h2, h3⟩
theorem c_J0_length (l : Launch) (q v : Nat) : Met l yJ0_length_8abf5 (.code yJ0_length_8abf5 cJ0_length_8abf5 1 (some .int) :: TB) (rmW 1 20) (pcS q v [.ref q]) (qiS .int 112) 0 0 F0p := by
  refine s_open (by decide +kernel) (Nat.le_of_ble_eq_true rfl) ?_
  intro p e s m args below meth c ls hx hb hml hr hlk hown hts hF hS hl
  have hown : s.vm.findClass "java/lang/String" = some m.cls := hown
  have hl : lv_has ls 1 [(0, .ref q)] := hl
  refine lv_aload_n hx hb dJ0_length_8abf5_0 rfl (lv_at hl 0 rfl) ?_
  refine vk_getf hx hb hF.2.2.1 hS hown (hts _ ty_790) (fun _ h => h) dJ0_length_8abf5_1 ?_
  refine va_tlen hx hb hF.2.2.2.1 hS (v := 112) rfl dJ0_length_8abf5_4 ?_
  refine lv_aload_n hx hb dJ0_length_8abf5_5 rfl (lv_at hl 0 rfl) ?_
  refine va_calli (va_runV (As := []) (rest := [.int 112]) ⟨hx, hb, hml, hown, hts⟩ (c_J0_coder l q v) (cwV 0 hts (good_V (C := "java/lang/String") ⟨ty_179, ty_180, ty_181, ty_28, ty_182⟩) rfl rfl rfl ⟨rfl, by decide +kernel, by decide +kernel, by decide +kernel⟩ ⟨Nat.le_of_ble_eq_true rfl, Nat.le_of_ble_eq_true rfl⟩) ⟨pcS_blind, hF.recv hS, pcS_pre hF⟩ rfl rfl hl.1 rfl (lv_room (Nat.le_of_ble_eq_true rfl)) dJ0_length_8abf5_6 ⟨Nat.le_refl _, Nat.le_refl _⟩) hS (fun _ _ h => h) (fun _ h => h) (fun r u t H1 locs1 ht hvm hpost hB hz hk2 hS => ?_)
  obtain ⟨rfl, -⟩ := hpost
  refine lv_ishr hx hb dJ0_length_8abf5_9 ?_
  exact W.iret hx hb hr (fun t ht hW => ⟨⟨_, (), rfl, ⟨by decide, rfl⟩, trivial⟩, hS.F ht⟩) hS.2.2 dJ0_length_8abf5_10 hlk
theorem c_J0_charAt (l : Launch) (q v : Nat) (k : Nat) (hk : k < 112) : Met l yJ0_charAt_5068e (.code yJ0_charAt_5068e cJ0_charAt_5068e 2 (some .char) :: TB) (rmW 3 64) (pcS q v [.ref q, .int (nI k)]) (qiS .char (nI (ftx k))) 0 0 F0p := by
  refine s_open (by decide +kernel) (Nat.le_of_ble_eq_true rfl) ?_
  intro p e s m args below meth c ls hx hb hml hr hlk hown hts hF hS hl
  have hown : s.vm.findClass "java/lang/String" = some m.cls := hown
  have hl : lv_has ls 2 [(0, .ref q), (1, .int (nI k))] := hl
  refine lv_aload_n hx hb dJ0_charAt_5068e_0 rfl (lv_at hl 0 rfl) ?_
  refine va_calli (va_runV (As := []) (rest := []) ⟨hx, hb, hml, hown, hts⟩ (c_J0_latin l q v) (cwV 0 hts (good_V (C := "java/lang/String") ⟨ty_189, ty_190, ty_191, ty_28, ty_192⟩) rfl rfl rfl ⟨rfl, by decide +kernel, by decide +kernel, by decide +kernel⟩ ⟨Nat.le_of_ble_eq_true rfl, Nat.le_of_ble_eq_true rfl⟩) ⟨pcS_blind, hF.recv hS, pcS_pre hF⟩ rfl rfl hl.1 rfl (lv_room (Nat.le_of_ble_eq_true rfl)) dJ0_charAt_5068e_1 ⟨Nat.le_refl _, Nat.le_refl _⟩) hS (fun _ _ h => h) (fun _ h => h) (fun r u t H1 locs1 ht hvm hpost hB hz hk2 hS => ?_)
  obtain ⟨rfl, -⟩ := hpost
  refine lv_if_eq (tgt := 16) hx hb dJ0_charAt_5068e_4 (by decide) (fun hc => absurd hc (by decide)) (fun _ => ?_)
  refine lv_aload_n hx hb dJ0_charAt_5068e_7 rfl (lv_at hl 0 rfl) ?_
  refine vk_getf hx hb hF.2.2.1 hS hown (hts _ ty_790) (fun _ h => h) dJ0_charAt_5068e_8 ?_
  refine lv_iload_n hx hb dJ0_charAt_5068e_11 rfl (lv_at hl 1 rfl) ?_
  refine va_calli (va_runS (As := [.ref v, .int (nI k)]) (rest := []) ⟨hx, hb, hml, hown, hts⟩ (c_J1_charAt l q v k hk) ⟨callB_of 2 hts (good_code ty_195) rfl rfl rfl (hts _ ty_29) (hts _ ty_193) ⟨by decide +kernel, by decide +kernel, by decide +kernel⟩ ⟨Nat.le_of_ble_eq_true rfl, Nat.le_of_ble_eq_true rfl⟩, hts _ ty_194⟩ ⟨pcS_blind, pcS_pre (hF.kept (fun a h1 h2 => hS.2.1 a h1 h2))⟩ rfl rfl hl.1 rfl (lv_room (Nat.le_of_ble_eq_true rfl)) dJ0_charAt_5068e_12 ⟨Nat.le_refl _, Nat.le_refl _⟩) hS (fun _ _ h => h) (fun _ h => h) (fun r u t H1 locs1 ht hvm hpost hB hz hk2 hS => ?_)
  obtain ⟨rfl, hn⟩ := hpost
  exact W.zret hx hb hr hn (fun t ht hW => ⟨⟨_, (), rfl, ⟨rfl, hn⟩, trivial⟩, hS.F ht⟩) hS.2.2 dJ0_charAt_5068e_15 hlk

