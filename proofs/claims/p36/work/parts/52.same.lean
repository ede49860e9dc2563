/-! Part 52: the law's comparison of two objects that hold the same. (Printed by wip/p36/mk51.py.) -/
def A2 (w1 w2 : Wv) : Nat → Prop := fun q => AL w1 q ∨ AL w2 q
abbrev pcT (D : va_G) (w1 w2 : Wv) (σ1 σ2 : Sg) (As : List Value) : Array Value → State → Prop := va_Pc As (fun U => (va_P D vwCl (WL w1 σ1) U.heap ∧ va_P D vwCl (WL w2 σ2) U.heap) ∧ KN D w1 U)
theorem pcT_blind {D : va_G} {w1 w2 : Wv} {σ1 σ2 : Sg} {As : List Value} : FrameBlind (pcT D w1 w2 σ1 σ2 As) := fun a U g mk q => ⟨q.1, q.2.1, va_K.moved (u := U) (U := U.calling g mk a) (Vm.Alike.refl U.vm) q.2.2.1, va_tabs rfl (rfl : U.vm = (U.calling g mk a).vm) q.2.2.2⟩
theorem pcT_pre {D : va_G} {w1 w2 : Wv} {σ1 σ2 : Sg} {As : List Value} {s : State} {H : Heap} (hP1 : va_P D vwCl (WL w1 σ1) H) (hP2 : va_P D vwCl (WL w2 σ2) H) (hK : KN D w1 s) : ∀ U : State, U.heap = H → s.WarmedH U.vm → pcT D w1 w2 σ1 σ2 As As.toArray U := fun U hU hW => ⟨rfl, by rw [hU]; exact ⟨hP1, hP2⟩, hK.moved hW⟩
abbrev qzT (D : va_G) (w1 w2 : Wv) (σ1 σ2 : Sg) : Array Value → State → Outcome → State → Prop := va_Qi (fun r' (_ : Unit) => r' = 1) (fun _ t => va_P D vwCl (WL w1 σ1) t.heap ∧ va_P D vwCl (WL w2 σ2) t.heap) (A2 w1 w2)
set_option maxHeartbeats 8000000 in
set_option maxRecDepth 100000 in
theorem c_L_same (l : Launch) (D : va_G) (w1 w2 : Wv) (σ1 σ2 : Sg) (hAp : Ap w1 w2) (hw2 : w2.2 = w1.2) {N : Nat} {T : Tp} (h : OT N T) (c1 : CC σ1 T) (c2 : CC σ2 T) : Met l yL_same (.code yL_same cL_same 4 (some .boolean) :: TB) (rmW 4 97) (pcT D w1 w2 σ1 σ2 [.ref (w1.1 0), .ref (w2.1 0)]) (qzT D w1 w2 σ1 σ2) 0 0 (A2 w1 w2) := by
  refine g_open (by decide +kernel) (Nat.le_of_ble_eq_true rfl) ?_
  intro p e s m args below meth c ls hx hb hml hr hlk hown hts hB hl
  obtain ⟨⟨hP1, hP2⟩, hK1⟩ := hB
  have hK2 : KN D w2 s := KN_w hw2 hK1
  have hAq := hAp.sy
  have hA1 : ∀ q, AL w1 q → A2 w1 w2 q := fun q g => Or.inl g
  have hA2 : ∀ q, AL w2 q → A2 w1 w2 q := fun q g => Or.inr g
  have hS : va_S (A2 w1 w2) s.heap s.heap [] := va_S.rf
  have hown : s.vm.findClass RL = some m.cls := hown
  have hl : lv_has ls 4 [(0, .ref (w1.1 0)), (1, .ref (w2.1 0))] := hl
  have t39 : ∀ (k : Nat) (H : Heap) (locs : List Loc) (ls : Array Slot), va_P D vwCl (WL w1 σ1) H → va_P D vwCl (WL w2 σ2) H → va_S (A2 w1 w2) s.heap H locs → lv_has ls 4 [(3, .int (nI k)), (2, .int 1), (0, .ref (w1.1 0)), (1, .ref (w2.1 0))] → W p l e (rmW 4 97) s m args below meth c H locs 0 0 (MQ below (qzT D w1 w2 σ1 σ2) args s 0 0 (A2 w1 w2)) (F0 m 39 ls []) := by
    have t197 : ∀ (k : Nat) (H : Heap) (locs : List Loc) (ls : Array Slot), va_P D vwCl (WL w1 σ1) H → va_P D vwCl (WL w2 σ2) H → va_S (A2 w1 w2) s.heap H locs → lv_has ls 4 [(3, .int (nI k)), (2, .int 1), (0, .ref (w1.1 0)), (1, .ref (w2.1 0))] → W p l e (rmW 4 97) s m args below meth c H locs 0 0 (MQ below (qzT D w1 w2 σ1 σ2) args s 0 0 (A2 w1 w2)) (F0 m 197 ls []) := by
      intro k H locs ls hP1 hP2 hS hl
      refine lv_iload_n hx hb dL_same_197 rfl (lv_at hl 1 rfl) ?_
      exact W.zret hx hb hr (by rfl) (fun t ht hW => ⟨⟨1, (), rfl, rfl, by show va_P D vwCl (WL w1 σ1) t.heap ∧ va_P D vwCl (WL w2 σ2) t.heap; rw [ht]; exact ⟨hP1, hP2⟩⟩, hS.F ht⟩) hS.2.2 dL_same_198 hlk
    have t41 : ∀ (j : Nat) (k : Nat) (H : Heap) (locs : List Loc) (ls : Array Slot), k + j = 30 → va_P D vwCl (WL w1 σ1) H → va_P D vwCl (WL w2 σ2) H → va_S (A2 w1 w2) s.heap H locs → lv_has ls 4 [(3, .int (nI k)), (2, .int 1), (0, .ref (w1.1 0)), (1, .ref (w2.1 0))] → W p l e (rmW 4 97) s m args below meth c H locs 0 0 (MQ below (qzT D w1 w2 σ1 σ2) args s 0 0 (A2 w1 w2)) (F0 m 41 ls []) := by
      intro j
      induction j with
      | zero =>
        intro k H locs ls hk hP1 hP2 hS hl
        refine lv_iload_n hx hb dL_same_41 rfl (lv_at hl 0 rfl) ?_
        refine lv_bipush (v := (30 : Int32)) hx hb dL_same_42 (by decide) ?_
        refine lv_icmp_ge (tgt := 197) hx hb dL_same_44 (by decide) (fun _ => ?_) (fun hc => absurd (show (30 : Int32) ≤ nI k from nI_le (a := 30) (b := k) (by omega) (by omega)) hc)
        exact t197 k H locs ls hP1 hP2 hS hl
      | succ j ih =>
        intro k H locs ls hk hP1 hP2 hS hl
        have t185 : ∀ (H : Heap) (locs : List Loc) (ls : Array Slot), va_P D vwCl (WL w1 σ1) H → va_P D vwCl (WL w2 σ2) H → va_S (A2 w1 w2) s.heap H locs → lv_has ls 4 [(3, .int (nI k)), (2, .int 1), (0, .ref (w1.1 0)), (1, .ref (w2.1 0))] → W p l e (rmW 4 97) s m args below meth c H locs 0 0 (MQ below (qzT D w1 w2 σ1 σ2) args s 0 0 (A2 w1 w2)) (F0 m 185 ls []) := by
          intro H locs ls hP1 hP2 hS hl
          refine lv_iconst (v := (1 : Int32)) hx hb dL_same_185 (by decide) ?_
          refine lv_goto (tgt := 190) hx hb dL_same_186 (by decide) ?_
          refine lv_istore_n (lv' := [(2, .int (1 : Int32)), (3, .int (nI k)), (0, .ref (w1.1 0)), (1, .ref (w2.1 0))]) hx hb dL_same_190 rfl hl (by decide) rfl (fun ls hl => ?_)
          refine lv_iinc (v := nI (k + 1)) (lv' := [(3, .int (nI (k + 1))), (2, .int 1), (0, .ref (w1.1 0)), (1, .ref (w2.1 0))]) hx hb dL_same_191 hl (k := 1) rfl (by rw [ii_1, nI_1]) (by decide) rfl (fun ls hl => ?_)
          refine lv_goto (tgt := 41) hx hb dL_same_194 (by decide) ?_
          exact ih (k + 1) H locs ls (by omega) hP1 hP2 hS hl
        have t165 : ∀ (H : Heap) (locs : List Loc) (ls : Array Slot), va_P D vwCl (WL w1 σ1) H → va_P D vwCl (WL w2 σ2) H → va_S (A2 w1 w2) s.heap H locs → lv_has ls 4 [(3, .int (nI k)), (2, .int 1), (0, .ref (w1.1 0)), (1, .ref (w2.1 0))] → W p l e (rmW 4 97) s m args below meth c H locs 0 0 (MQ below (qzT D w1 w2 σ1 σ2) args s 0 0 (A2 w1 w2)) (F0 m 165 ls []) := by
          intro H locs ls hP1 hP2 hS hl
          refine lv_iload_n hx hb dL_same_165 rfl (lv_at hl 0 rfl) ?_
          refine lv_iconst (v := (3 : Int32)) hx hb dL_same_166 (by decide) ?_
          refine lv_icmp_gt (tgt := 185) hx hb dL_same_167 (by decide) (fun hc => ?_) (fun hc => ?_)
          · exact t185 H locs ls hP1 hP2 hS hl
          · refine lv_aload_n hx hb dL_same_170 rfl (lv_at hl 2 rfl) ?_
            refine lv_iload_n hx hb dL_same_171 rfl (lv_at hl 0 rfl) ?_
            refine lv_iconst (v := (0 : Int32)) hx hb dL_same_172 (by decide) ?_
            obtain ⟨r_173, e_173⟩ := d_walker h (nI k) 0
            refine b_cVi (w := w1) (As := [.int (nI k), .int (0 : Int32)]) hx hb hts hml hown hK1 hP1 hS hA1 (c_X6_walker l D w1 σ1 (nI k) (0 : Int32) r_173 (e_173 σ1 c1)) hw_L_26 hd_X6_walker ⟨rfl, rfl, rfl⟩ o0 (ce6 kd0) rfl ⟨Nat.le_of_ble_eq_true rfl, Nat.le_of_ble_eq_true rfl⟩ ⟨Nat.le_refl _, Nat.le_refl _⟩ hl.1 rfl (Nat.le_of_ble_eq_true rfl) dL_same_173 hP2 hAp (fun H locs hP1 hP2 hS => ?_)
            refine lv_aload_n hx hb dL_same_176 rfl (lv_at hl 3 rfl) ?_
            refine lv_iload_n hx hb dL_same_177 rfl (lv_at hl 0 rfl) ?_
            refine lv_iconst (v := (0 : Int32)) hx hb dL_same_178 (by decide) ?_
            refine b_cVi (w := w2) (As := [.int (nI k), .int (0 : Int32)]) hx hb hts hml hown hK2 hP2 hS hA2 (c_X6_walker l D w2 σ2 (nI k) (0 : Int32) r_173 (e_173 σ2 c2)) hw_L_26 hd_X6_walker ⟨rfl, rfl, rfl⟩ o0 (ce6 kd0) rfl ⟨Nat.le_of_ble_eq_true rfl, Nat.le_of_ble_eq_true rfl⟩ ⟨Nat.le_refl _, Nat.le_refl _⟩ hl.1 rfl (Nat.le_of_ble_eq_true rfl) dL_same_179 hP1 hAq (fun H locs hP2 hP1 hS => ?_)
            refine lv_icmp_ne (tgt := 189) hx hb dL_same_182 (by decide) (fun hc => absurd rfl hc) (fun _ => ?_)
            exact t185 H locs ls hP1 hP2 hS hl
        refine lv_iload_n hx hb dL_same_41 rfl (lv_at hl 0 rfl) ?_
        refine lv_bipush (v := (30 : Int32)) hx hb dL_same_42 (by decide) ?_
        refine lv_icmp_ge (tgt := 197) hx hb dL_same_44 (by decide) (fun hc => absurd hc (show ¬ (30 : Int32) ≤ nI k from nI_ge (a := k) (b := 30) (by omega) (by omega))) (fun _ => ?_)
        refine lv_iload_n hx hb dL_same_47 rfl (lv_at hl 1 rfl) ?_
        refine lv_if_eq (tgt := 189) hx hb dL_same_48 (by decide) (fun hc => absurd hc (show ¬ (1 : Int32) = 0 from one0)) (fun _ => ?_)
        refine lv_aload_n hx hb dL_same_51 rfl (lv_at hl 2 rfl) ?_
        refine lv_iload_n hx hb dL_same_52 rfl (lv_at hl 0 rfl) ?_
        refine lv_bipush (v := (6 : Int32)) hx hb dL_same_53 (by decide) ?_
        refine lv_idiv hx hb dL_same_55 (by decide) ?_
        refine lv_iload_n hx hb dL_same_56 rfl (lv_at hl 0 rfl) ?_
        refine lv_bipush (v := (6 : Int32)) hx hb dL_same_57 (by decide) ?_
        refine q_iremL hx hb (by decide) dL_same_59 ?_
        refine lv_iconst (v := (0 : Int32)) hx hb dL_same_60 (by decide) ?_
        obtain ⟨r_61, e_61⟩ := d_arm h (nI k / 6) (jrem (nI k) 6) 0
        refine b_cVi (w := w1) (As := [.int ((nI k) / (6 : Int32)), .int (jrem (nI k) (6 : Int32)), .int (0 : Int32)]) hx hb hts hml hown hK1 hP1 hS hA1 (c_X6_arm l D w1 σ1 ((nI k) / (6 : Int32)) (jrem (nI k) (6 : Int32)) (0 : Int32) r_61 (e_61 σ1 c1)) hw_L_22 hd_X6_arm ⟨rfl, rfl, rfl⟩ o0 (ce6 kd0) rfl ⟨Nat.le_of_ble_eq_true rfl, Nat.le_of_ble_eq_true rfl⟩ ⟨Nat.le_refl _, Nat.le_refl _⟩ hl.1 rfl (Nat.le_of_ble_eq_true rfl) dL_same_61 hP2 hAp (fun H locs hP1 hP2 hS => ?_)
        refine lv_aload_n hx hb dL_same_64 rfl (lv_at hl 3 rfl) ?_
        refine lv_iload_n hx hb dL_same_65 rfl (lv_at hl 0 rfl) ?_
        refine lv_bipush (v := (6 : Int32)) hx hb dL_same_66 (by decide) ?_
        refine lv_idiv hx hb dL_same_68 (by decide) ?_
        refine lv_iload_n hx hb dL_same_69 rfl (lv_at hl 0 rfl) ?_
        refine lv_bipush (v := (6 : Int32)) hx hb dL_same_70 (by decide) ?_
        refine q_iremL hx hb (by decide) dL_same_72 ?_
        refine lv_iconst (v := (0 : Int32)) hx hb dL_same_73 (by decide) ?_
        refine b_cVi (w := w2) (As := [.int ((nI k) / (6 : Int32)), .int (jrem (nI k) (6 : Int32)), .int (0 : Int32)]) hx hb hts hml hown hK2 hP2 hS hA2 (c_X6_arm l D w2 σ2 ((nI k) / (6 : Int32)) (jrem (nI k) (6 : Int32)) (0 : Int32) r_61 (e_61 σ2 c2)) hw_L_22 hd_X6_arm ⟨rfl, rfl, rfl⟩ o0 (ce6 kd0) rfl ⟨Nat.le_of_ble_eq_true rfl, Nat.le_of_ble_eq_true rfl⟩ ⟨Nat.le_refl _, Nat.le_refl _⟩ hl.1 rfl (Nat.le_of_ble_eq_true rfl) dL_same_74 hP1 hAq (fun H locs hP2 hP1 hS => ?_)
        refine lv_icmp_ne (tgt := 189) hx hb dL_same_77 (by decide) (fun hc => absurd rfl hc) (fun _ => ?_)
        refine lv_aload_n hx hb dL_same_80 rfl (lv_at hl 2 rfl) ?_
        refine lv_iload_n hx hb dL_same_81 rfl (lv_at hl 0 rfl) ?_
        refine lv_bipush (v := (6 : Int32)) hx hb dL_same_82 (by decide) ?_
        refine lv_idiv hx hb dL_same_84 (by decide) ?_
        refine lv_iload_n hx hb dL_same_85 rfl (lv_at hl 0 rfl) ?_
        refine lv_bipush (v := (6 : Int32)) hx hb dL_same_86 (by decide) ?_
        refine q_iremL hx hb (by decide) dL_same_88 ?_
        refine lv_iconst (v := (2 : Int32)) hx hb dL_same_89 (by decide) ?_
        obtain ⟨r_90, e_90⟩ := d_arm h (nI k / 6) (jrem (nI k) 6) 2
        refine b_cVi (w := w1) (As := [.int ((nI k) / (6 : Int32)), .int (jrem (nI k) (6 : Int32)), .int (2 : Int32)]) hx hb hts hml hown hK1 hP1 hS hA1 (c_X6_arm l D w1 σ1 ((nI k) / (6 : Int32)) (jrem (nI k) (6 : Int32)) (2 : Int32) r_90 (e_90 σ1 c1)) hw_L_22 hd_X6_arm ⟨rfl, rfl, rfl⟩ o0 (ce6 kd0) rfl ⟨Nat.le_of_ble_eq_true rfl, Nat.le_of_ble_eq_true rfl⟩ ⟨Nat.le_refl _, Nat.le_refl _⟩ hl.1 rfl (Nat.le_of_ble_eq_true rfl) dL_same_90 hP2 hAp (fun H locs hP1 hP2 hS => ?_)
        refine lv_aload_n hx hb dL_same_93 rfl (lv_at hl 3 rfl) ?_
        refine lv_iload_n hx hb dL_same_94 rfl (lv_at hl 0 rfl) ?_
        refine lv_bipush (v := (6 : Int32)) hx hb dL_same_95 (by decide) ?_
        refine lv_idiv hx hb dL_same_97 (by decide) ?_
        refine lv_iload_n hx hb dL_same_98 rfl (lv_at hl 0 rfl) ?_
        refine lv_bipush (v := (6 : Int32)) hx hb dL_same_99 (by decide) ?_
        refine q_iremL hx hb (by decide) dL_same_101 ?_
        refine lv_iconst (v := (2 : Int32)) hx hb dL_same_102 (by decide) ?_
        refine b_cVi (w := w2) (As := [.int ((nI k) / (6 : Int32)), .int (jrem (nI k) (6 : Int32)), .int (2 : Int32)]) hx hb hts hml hown hK2 hP2 hS hA2 (c_X6_arm l D w2 σ2 ((nI k) / (6 : Int32)) (jrem (nI k) (6 : Int32)) (2 : Int32) r_90 (e_90 σ2 c2)) hw_L_22 hd_X6_arm ⟨rfl, rfl, rfl⟩ o0 (ce6 kd0) rfl ⟨Nat.le_of_ble_eq_true rfl, Nat.le_of_ble_eq_true rfl⟩ ⟨Nat.le_refl _, Nat.le_refl _⟩ hl.1 rfl (Nat.le_of_ble_eq_true rfl) dL_same_103 hP1 hAq (fun H locs hP2 hP1 hS => ?_)
        refine lv_icmp_ne (tgt := 189) hx hb dL_same_106 (by decide) (fun hc => absurd rfl hc) (fun _ => ?_)
        refine lv_aload_n hx hb dL_same_109 rfl (lv_at hl 2 rfl) ?_
        refine lv_iload_n hx hb dL_same_110 rfl (lv_at hl 0 rfl) ?_
        refine lv_bipush (v := (6 : Int32)) hx hb dL_same_111 (by decide) ?_
        refine lv_idiv hx hb dL_same_113 (by decide) ?_
        refine lv_iload_n hx hb dL_same_114 rfl (lv_at hl 0 rfl) ?_
        refine lv_bipush (v := (6 : Int32)) hx hb dL_same_115 (by decide) ?_
        refine q_iremL hx hb (by decide) dL_same_117 ?_
        obtain ⟨r_118, e_118⟩ := d_road h (nI k / 6) (jrem (nI k) 6)
        refine b_cVi (w := w1) (As := [.int ((nI k) / (6 : Int32)), .int (jrem (nI k) (6 : Int32))]) hx hb hts hml hown hK1 hP1 hS hA1 (c_X6_road l D w1 σ1 ((nI k) / (6 : Int32)) (jrem (nI k) (6 : Int32)) r_118 (e_118 σ1 c1)) hw_L_15 hd_X6_road ⟨rfl, rfl, rfl⟩ o0 (ce6 kd0) rfl ⟨Nat.le_of_ble_eq_true rfl, Nat.le_of_ble_eq_true rfl⟩ ⟨Nat.le_refl _, Nat.le_refl _⟩ hl.1 rfl (Nat.le_of_ble_eq_true rfl) dL_same_118 hP2 hAp (fun H locs hP1 hP2 hS => ?_)
        refine lv_aload_n hx hb dL_same_121 rfl (lv_at hl 3 rfl) ?_
        refine lv_iload_n hx hb dL_same_122 rfl (lv_at hl 0 rfl) ?_
        refine lv_bipush (v := (6 : Int32)) hx hb dL_same_123 (by decide) ?_
        refine lv_idiv hx hb dL_same_125 (by decide) ?_
        refine lv_iload_n hx hb dL_same_126 rfl (lv_at hl 0 rfl) ?_
        refine lv_bipush (v := (6 : Int32)) hx hb dL_same_127 (by decide) ?_
        refine q_iremL hx hb (by decide) dL_same_129 ?_
        refine b_cVi (w := w2) (As := [.int ((nI k) / (6 : Int32)), .int (jrem (nI k) (6 : Int32))]) hx hb hts hml hown hK2 hP2 hS hA2 (c_X6_road l D w2 σ2 ((nI k) / (6 : Int32)) (jrem (nI k) (6 : Int32)) r_118 (e_118 σ2 c2)) hw_L_15 hd_X6_road ⟨rfl, rfl, rfl⟩ o0 (ce6 kd0) rfl ⟨Nat.le_of_ble_eq_true rfl, Nat.le_of_ble_eq_true rfl⟩ ⟨Nat.le_refl _, Nat.le_refl _⟩ hl.1 rfl (Nat.le_of_ble_eq_true rfl) dL_same_130 hP1 hAq (fun H locs hP2 hP1 hS => ?_)
        refine lv_icmp_ne (tgt := 189) hx hb dL_same_133 (by decide) (fun hc => absurd rfl hc) (fun _ => ?_)
        refine lv_iload_n hx hb dL_same_136 rfl (lv_at hl 0 rfl) ?_
        refine lv_bipush (v := (14 : Int32)) hx hb dL_same_137 (by decide) ?_
        refine lv_icmp_gt (tgt := 165) hx hb dL_same_139 (by decide) (fun hc => ?_) (fun hc => ?_)
        · exact t165 H locs ls hP1 hP2 hS hl
        · refine lv_aload_n hx hb dL_same_142 rfl (lv_at hl 2 rfl) ?_
          refine lv_iload_n hx hb dL_same_143 rfl (lv_at hl 0 rfl) ?_
          refine lv_iconst (v := (3 : Int32)) hx hb dL_same_144 (by decide) ?_
          refine lv_idiv hx hb dL_same_145 (by decide) ?_
          refine lv_iload_n hx hb dL_same_146 rfl (lv_at hl 0 rfl) ?_
          refine lv_iconst (v := (3 : Int32)) hx hb dL_same_147 (by decide) ?_
          refine q_iremL hx hb (by decide) dL_same_148 ?_
          obtain ⟨r_149, e_149⟩ := d_post h (nI k / 3) (jrem (nI k) 3)
          refine b_cVi (w := w1) (As := [.int ((nI k) / (3 : Int32)), .int (jrem (nI k) (3 : Int32))]) hx hb hts hml hown hK1 hP1 hS hA1 (c_X6_post l D w1 σ1 ((nI k) / (3 : Int32)) (jrem (nI k) (3 : Int32)) r_149 (e_149 σ1 c1)) hw_L_19 hd_X6_post ⟨rfl, rfl, rfl⟩ o0 (ce6 kd0) rfl ⟨Nat.le_of_ble_eq_true rfl, Nat.le_of_ble_eq_true rfl⟩ ⟨Nat.le_refl _, Nat.le_refl _⟩ hl.1 rfl (Nat.le_of_ble_eq_true rfl) dL_same_149 hP2 hAp (fun H locs hP1 hP2 hS => ?_)
          refine lv_aload_n hx hb dL_same_152 rfl (lv_at hl 3 rfl) ?_
          refine lv_iload_n hx hb dL_same_153 rfl (lv_at hl 0 rfl) ?_
          refine lv_iconst (v := (3 : Int32)) hx hb dL_same_154 (by decide) ?_
          refine lv_idiv hx hb dL_same_155 (by decide) ?_
          refine lv_iload_n hx hb dL_same_156 rfl (lv_at hl 0 rfl) ?_
          refine lv_iconst (v := (3 : Int32)) hx hb dL_same_157 (by decide) ?_
          refine q_iremL hx hb (by decide) dL_same_158 ?_
          refine b_cVi (w := w2) (As := [.int ((nI k) / (3 : Int32)), .int (jrem (nI k) (3 : Int32))]) hx hb hts hml hown hK2 hP2 hS hA2 (c_X6_post l D w2 σ2 ((nI k) / (3 : Int32)) (jrem (nI k) (3 : Int32)) r_149 (e_149 σ2 c2)) hw_L_19 hd_X6_post ⟨rfl, rfl, rfl⟩ o0 (ce6 kd0) rfl ⟨Nat.le_of_ble_eq_true rfl, Nat.le_of_ble_eq_true rfl⟩ ⟨Nat.le_refl _, Nat.le_refl _⟩ hl.1 rfl (Nat.le_of_ble_eq_true rfl) dL_same_159 hP1 hAq (fun H locs hP2 hP1 hS => ?_)
          refine lv_icmp_ne (tgt := 189) hx hb dL_same_162 (by decide) (fun hc => absurd rfl hc) (fun _ => ?_)
          exact t165 H locs ls hP1 hP2 hS hl
    intro k H locs ls hP1 hP2 hS hl
    refine lv_iconst (v := (0 : Int32)) hx hb dL_same_39 (by decide) ?_
    refine lv_istore_n (lv' := [(3, .int (0 : Int32)), (2, .int 1), (0, .ref (w1.1 0)), (1, .ref (w2.1 0))]) hx hb dL_same_40 rfl hl (by decide) rfl (fun ls hl => ?_)
    exact t41 30 0 H locs ls (by omega) hP1 hP2 hS hl
  have t4 : ∀ (j : Nat) (k : Nat) (H : Heap) (locs : List Loc) (ls : Array Slot), k + j = 13 → va_P D vwCl (WL w1 σ1) H → va_P D vwCl (WL w2 σ2) H → va_S (A2 w1 w2) s.heap H locs → lv_has ls 4 [(3, .int (nI k)), (2, .int 1), (0, .ref (w1.1 0)), (1, .ref (w2.1 0))] → W p l e (rmW 4 97) s m args below meth c H locs 0 0 (MQ below (qzT D w1 w2 σ1 σ2) args s 0 0 (A2 w1 w2)) (F0 m 4 ls []) := by
    intro j
    induction j with
    | zero =>
      intro k H locs ls hk hP1 hP2 hS hl
      refine lv_iload_n hx hb dL_same_4 rfl (lv_at hl 0 rfl) ?_
      refine lv_bipush (v := (13 : Int32)) hx hb dL_same_5 (by decide) ?_
      refine lv_icmp_ge (tgt := 39) hx hb dL_same_7 (by decide) (fun _ => ?_) (fun hc => absurd (show (13 : Int32) ≤ nI k from nI_le (a := 13) (b := k) (by omega) (by omega)) hc)
      exact t39 k H locs ls hP1 hP2 hS hl
    | succ j ih =>
      intro k H locs ls hk hP1 hP2 hS hl
      refine lv_iload_n hx hb dL_same_4 rfl (lv_at hl 0 rfl) ?_
      refine lv_bipush (v := (13 : Int32)) hx hb dL_same_5 (by decide) ?_
      refine lv_icmp_ge (tgt := 39) hx hb dL_same_7 (by decide) (fun hc => absurd hc (show ¬ (13 : Int32) ≤ nI k from nI_ge (a := k) (b := 13) (by omega) (by omega))) (fun _ => ?_)
      refine lv_iload_n hx hb dL_same_10 rfl (lv_at hl 1 rfl) ?_
      refine lv_if_eq (tgt := 31) hx hb dL_same_11 (by decide) (fun hc => absurd hc (show ¬ (1 : Int32) = 0 from one0)) (fun _ => ?_)
      refine lv_aload_n hx hb dL_same_14 rfl (lv_at hl 2 rfl) ?_
      refine lv_iload_n hx hb dL_same_15 rfl (lv_at hl 0 rfl) ?_
      obtain ⟨r_16, e_16⟩ := d_count h (nI k)
      refine b_cVi (w := w1) (As := [.int (nI k)]) hx hb hts hml hown hK1 hP1 hS hA1 (c_X6_count l D w1 σ1 (nI k) r_16 (e_16 σ1 c1)) hw_L_77 hd_X6_count ⟨rfl, rfl, rfl⟩ o0 (ce6 kd0) rfl ⟨Nat.le_of_ble_eq_true rfl, Nat.le_of_ble_eq_true rfl⟩ ⟨Nat.le_refl _, Nat.le_refl _⟩ hl.1 rfl (Nat.le_of_ble_eq_true rfl) dL_same_16 hP2 hAp (fun H locs hP1 hP2 hS => ?_)
      refine lv_aload_n hx hb dL_same_19 rfl (lv_at hl 3 rfl) ?_
      refine lv_iload_n hx hb dL_same_20 rfl (lv_at hl 0 rfl) ?_
      refine b_cVi (w := w2) (As := [.int (nI k)]) hx hb hts hml hown hK2 hP2 hS hA2 (c_X6_count l D w2 σ2 (nI k) r_16 (e_16 σ2 c2)) hw_L_77 hd_X6_count ⟨rfl, rfl, rfl⟩ o0 (ce6 kd0) rfl ⟨Nat.le_of_ble_eq_true rfl, Nat.le_of_ble_eq_true rfl⟩ ⟨Nat.le_refl _, Nat.le_refl _⟩ hl.1 rfl (Nat.le_of_ble_eq_true rfl) dL_same_21 hP1 hAq (fun H locs hP2 hP1 hS => ?_)
      refine lv_icmp_ne (tgt := 31) hx hb dL_same_24 (by decide) (fun hc => absurd rfl hc) (fun _ => ?_)
      refine lv_iconst (v := (1 : Int32)) hx hb dL_same_27 (by decide) ?_
      refine lv_goto (tgt := 32) hx hb dL_same_28 (by decide) ?_
      refine lv_istore_n (lv' := [(2, .int (1 : Int32)), (3, .int (nI k)), (0, .ref (w1.1 0)), (1, .ref (w2.1 0))]) hx hb dL_same_32 rfl hl (by decide) rfl (fun ls hl => ?_)
      refine lv_iinc (v := nI (k + 1)) (lv' := [(3, .int (nI (k + 1))), (2, .int 1), (0, .ref (w1.1 0)), (1, .ref (w2.1 0))]) hx hb dL_same_33 hl (k := 1) rfl (by rw [ii_1, nI_1]) (by decide) rfl (fun ls hl => ?_)
      refine lv_goto (tgt := 4) hx hb dL_same_36 (by decide) ?_
      exact ih (k + 1) H locs ls (by omega) hP1 hP2 hS hl
  refine lv_iconst (v := (1 : Int32)) hx hb dL_same_0 (by decide) ?_
  refine lv_istore_n (lv' := [(2, .int (1 : Int32)), (0, .ref (w1.1 0)), (1, .ref (w2.1 0))]) hx hb dL_same_1 rfl hl (by decide) rfl (fun ls hl => ?_)
  refine lv_iconst (v := (0 : Int32)) hx hb dL_same_2 (by decide) ?_
  refine lv_istore_n (lv' := [(3, .int (0 : Int32)), (2, .int (1 : Int32)), (0, .ref (w1.1 0)), (1, .ref (w2.1 0))]) hx hb dL_same_3 rfl hl (by decide) rfl (fun ls hl => ?_)
  exact t4 13 0 _ _ ls (by omega) hP1 hP2 hS hl
