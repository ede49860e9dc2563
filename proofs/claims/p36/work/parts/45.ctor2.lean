/-! Part 45: constructors of letters, notes, roads, yards (out of whole's part 45). -/
/-- the cells of letters, notes, roads, a yard, behind their making -/
abbrev lL (cI : ClassId) (a : Nat → Nat) : va_W := [(a 0, .inr (1, [.ref (a 1), .ref (a 3), .int 0, .int 0]))] ++ gL cI (a 1) (a 2) 200 200 ++ gL cI (a 3) (a 4) 3 3
abbrev nL (cI : ClassId) (a : Nat → Nat) : va_W := [(a 0, .inr (2, [.ref (a 1), .int 0]))] ++ gL cI (a 1) (a 2) 3 18
abbrev rL (cI : ClassId) (a : Nat → Nat) : va_W := [(a 0, .inr (3, [.int 6, .ref (a 1), .ref (a 3)]))] ++ gL cI (a 1) (a 2) 8 64 ++ gL cI (a 3) (a 4) 8 64
abbrev yL (cI : ClassId) (a : Nat → Nat) : va_W := [(a 0, .inr (5, [.ref (a 1), .ref (a 6), .ref (a 8), .ref (a 10), .ref (a 12), .int 0, .int 0, .int 0, .int 0, .int 0]))] ++ rL cI (fun j => a (1 + j)) ++ gL cI (a 6) (a 7) 3 24 ++ gL cI (a 8) (a 9) 8 64 ++ gL cI (a 10) (a 11) 8 64 ++ gL cI (a 12) (a 13) 2 10
set_option maxHeartbeats 4000000 in
set_option maxRecDepth 100000 in
theorem c_X1_init (l : Launch) (D : va_G) (w : Wv) (h0 : Nat) : KM l D w yX1_init cX1_init 1 2 42 4 207 [.ref h0] [(h0, .inr (1, [.null, .null, .int 0, .int 0]))] (fun w1 => ∃ a : Nat → Nat, h0 = a 0 ∧ w1 = lL w.2.2.1 a) := by
  refine k_open (by decide +kernel) rfl (Nat.le_of_ble_eq_true rfl) ?_
  intro p e s m args below meth c ls A hx hb hml hr hlk hin hown hts hK hP hD hA hS hl
  have hown : s.vm.findClass RX1 = some m.cls := hown
  have hl : lv_has ls 1 [(0, .ref h0)] := hl
  refine lv_aload_n hx hb dX1_init_0 rfl (lv_at hl 0 rfl) ?_
  refine W.objInit hx hb hown (hts _ ty_47) (hts _ ty_40) (hts _ ty_41) rfl (by rw [hml]; exact hl.1) rfl dX1_init_1 (Nat.le_of_ble_eq_true rfl) (Nat.le_of_ble_eq_true rfl) ?_
  refine W.eq (g2 := F0 m 4 ls []) rfl ?_
  refine lv_aload_n hx hb dX1_init_4 rfl (lv_at hl 0 rfl) ?_
  refine va_new (ci := 0) (fs := [.int 0, .null]) (C := RX0) (T := TX0) (N := 2) hx hb hts inT0 tyX0 tyX0_ok hown (hts _ ty_48) (hts _ ty_49) (hts _ tw_22) hK.1.1 hP hD hS hA rfl (fun j hj => by rcases (show j = 0 ∨ j = 1 by omega) with rfl | rfl <;> rfl) (Nat.le_of_ble_eq_true rfl) (Nat.le_of_ble_eq_true rfl) dX1_init_5 (fun q1 H hP hD hS => ?_)
  refine lv_dup hx hb dX1_init_8 rfl ?_
  refine lv_iconst (v := (1 : Int32)) hx hb dX1_init_9 (by decide) ?_
  refine lv_sipush (v := (200 : Int32)) hx hb dX1_init_10 (by decide) ?_
  refine k_ctor hx hb hml hown hts hK (As := [.int 1, .int 200]) (rest := [.ref q1, .ref h0]) (c_X0_init l D w q1 1 200 200 (by omega) (by decide)) ⟨ty_50, ty_51, tw_22, ty_52⟩ rfl ⟨by decide +kernel, by decide +kernel, by decide +kernel⟩ rfl ⟨Nat.le_of_ble_eq_true rfl, Nat.le_of_ble_eq_true rfl⟩ ⟨Nat.le_of_ble_eq_true rfl, Nat.le_of_ble_eq_true rfl⟩ hl.1 rfl (Nat.le_of_ble_eq_true rfl) hP hD hS hA dX1_init_13 (fun w1 H locs hw hP hD hS => ?_)
  obtain ⟨a1, rfl⟩ := hw
  have hP : va_P D vwCl ([(h0, .inr (1, [.null, .null, .int 0, .int 0]))] ++ gL w.2.2.1 q1 a1 200 200) H := hP
  have hD : va_D A ([(h0, .inr (1, [.null, .null, .int 0, .int 0]))] ++ gL w.2.2.1 q1 a1 200 200) := hD
  refine va_putF hx hb hts inT1 tyX1 tyX1_ok nmX1 hown hK.1.1 hP hD hS 0 rfl rfl 0 (by decide) (hts _ tw_68) (fun _ h => h) rfl hin rfl (tyX1_ok 0 (by decide)) rfl rfl (Nat.le_of_ble_eq_true rfl) dX1_init_16 (fun H locs hP hD hS => ?_)
  have hP : va_P D vwCl ([(h0, .inr (1, [.ref q1, .null, .int 0, .int 0]))] ++ gL w.2.2.1 q1 a1 200 200) H := hP
  have hD : va_D A ([(h0, .inr (1, [.ref q1, .null, .int 0, .int 0]))] ++ gL w.2.2.1 q1 a1 200 200) := hD
  refine lv_aload_n hx hb dX1_init_19 rfl (lv_at hl 0 rfl) ?_
  refine va_new (ci := 0) (fs := [.int 0, .null]) (C := RX0) (T := TX0) (N := 2) hx hb hts inT0 tyX0 tyX0_ok hown (hts _ ty_48) (hts _ ty_49) (hts _ tw_22) hK.1.1 hP hD hS hA rfl (fun j hj => by rcases (show j = 0 ∨ j = 1 by omega) with rfl | rfl <;> rfl) (Nat.le_of_ble_eq_true rfl) (Nat.le_of_ble_eq_true rfl) dX1_init_20 (fun q2 H hP hD hS => ?_)
  refine lv_dup hx hb dX1_init_23 rfl ?_
  refine lv_iconst (v := (1 : Int32)) hx hb dX1_init_24 (by decide) ?_
  refine lv_iconst (v := (3 : Int32)) hx hb dX1_init_25 (by decide) ?_
  refine k_ctor hx hb hml hown hts hK (As := [.int 1, .int 3]) (rest := [.ref q2, .ref h0]) (c_X0_init l D w q2 1 3 3 (by omega) (by decide)) ⟨ty_50, ty_51, tw_22, ty_52⟩ rfl ⟨by decide +kernel, by decide +kernel, by decide +kernel⟩ rfl ⟨Nat.le_of_ble_eq_true rfl, Nat.le_of_ble_eq_true rfl⟩ ⟨Nat.le_of_ble_eq_true rfl, Nat.le_of_ble_eq_true rfl⟩ hl.1 rfl (Nat.le_of_ble_eq_true rfl) hP hD hS hA dX1_init_26 (fun w1 H locs hw hP hD hS => ?_)
  obtain ⟨a2, rfl⟩ := hw
  have hP : va_P D vwCl ([(h0, .inr (1, [.ref q1, .null, .int 0, .int 0]))] ++ gL w.2.2.1 q1 a1 200 200 ++ gL w.2.2.1 q2 a2 3 3) H := hP
  have hD : va_D A ([(h0, .inr (1, [.ref q1, .null, .int 0, .int 0]))] ++ gL w.2.2.1 q1 a1 200 200 ++ gL w.2.2.1 q2 a2 3 3) := hD
  refine va_putF hx hb hts inT1 tyX1 tyX1_ok nmX1 hown hK.1.1 hP hD hS 0 rfl rfl 1 (by decide) (hts _ tw_69) (fun _ h => h) rfl hin rfl (tyX1_ok 1 (by decide)) rfl rfl (Nat.le_of_ble_eq_true rfl) dX1_init_29 (fun H locs hP hD hS => ?_)
  have hP : va_P D vwCl ([(h0, .inr (1, [.ref q1, .ref q2, .int 0, .int 0]))] ++ gL w.2.2.1 q1 a1 200 200 ++ gL w.2.2.1 q2 a2 3 3) H := hP
  have hD : va_D A ([(h0, .inr (1, [.ref q1, .ref q2, .int 0, .int 0]))] ++ gL w.2.2.1 q1 a1 200 200 ++ gL w.2.2.1 q2 a2 3 3) := hD
  refine W.widen (k := 4) (n := 207) (Nat.le_of_ble_eq_true rfl) (Nat.le_of_ble_eq_true rfl) ?_
  exact W.vret hx hb hr (fun t ht hW => ⟨⟨lL w.2.2.1 (fun j => [h0, q1, a1, q2, a2].getD j 0), rfl, ⟨(fun j => [h0, q1, a1, q2, a2].getD j 0), rfl, rfl⟩, by rw [ht]; exact hP, hD⟩, hS.F ht⟩) hS.2.2 dX1_init_32 hlk
set_option maxHeartbeats 4000000 in
set_option maxRecDepth 100000 in
theorem c_X2_init (l : Launch) (D : va_G) (w : Wv) (h0 : Nat) : KM l D w yX2_init cX2_init 1 2 42 2 20 [.ref h0] [(h0, .inr (2, [.null, .int 0]))] (fun w1 => ∃ a : Nat → Nat, h0 = a 0 ∧ w1 = nL w.2.2.1 a) := by
  refine k_open (by decide +kernel) rfl (Nat.le_of_ble_eq_true rfl) ?_
  intro p e s m args below meth c ls A hx hb hml hr hlk hin hown hts hK hP hD hA hS hl
  have hown : s.vm.findClass RX2 = some m.cls := hown
  have hl : lv_has ls 1 [(0, .ref h0)] := hl
  refine lv_aload_n hx hb dX2_init_0 rfl (lv_at hl 0 rfl) ?_
  refine W.objInit hx hb hown (hts _ ty_164) (hts _ ty_40) (hts _ ty_41) rfl (by rw [hml]; exact hl.1) rfl dX2_init_1 (Nat.le_of_ble_eq_true rfl) (Nat.le_of_ble_eq_true rfl) ?_
  refine W.eq (g2 := F0 m 4 ls []) rfl ?_
  refine lv_aload_n hx hb dX2_init_4 rfl (lv_at hl 0 rfl) ?_
  refine va_new (ci := 0) (fs := [.int 0, .null]) (C := RX0) (T := TX0) (N := 2) hx hb hts inT0 tyX0 tyX0_ok hown (hts _ ty_165) (hts _ ty_49) (hts _ tw_22) hK.1.1 hP hD hS hA rfl (fun j hj => by rcases (show j = 0 ∨ j = 1 by omega) with rfl | rfl <;> rfl) (Nat.le_of_ble_eq_true rfl) (Nat.le_of_ble_eq_true rfl) dX2_init_5 (fun q1 H hP hD hS => ?_)
  refine lv_dup hx hb dX2_init_8 rfl ?_
  refine lv_bipush (v := (6 : Int32)) hx hb dX2_init_9 (by decide) ?_
  refine lv_iconst (v := (3 : Int32)) hx hb dX2_init_11 (by decide) ?_
  refine k_ctor hx hb hml hown hts hK (As := [.int 6, .int 3]) (rest := [.ref q1, .ref h0]) (c_X0_init l D w q1 6 3 18 (by omega) (by decide)) ⟨ty_166, ty_51, tw_22, ty_52⟩ rfl ⟨by decide +kernel, by decide +kernel, by decide +kernel⟩ rfl ⟨Nat.le_of_ble_eq_true rfl, Nat.le_of_ble_eq_true rfl⟩ ⟨Nat.le_of_ble_eq_true rfl, Nat.le_of_ble_eq_true rfl⟩ hl.1 rfl (Nat.le_of_ble_eq_true rfl) hP hD hS hA dX2_init_12 (fun w1 H locs hw hP hD hS => ?_)
  obtain ⟨a1, rfl⟩ := hw
  have hP : va_P D vwCl ([(h0, .inr (2, [.null, .int 0]))] ++ gL w.2.2.1 q1 a1 3 18) H := hP
  have hD : va_D A ([(h0, .inr (2, [.null, .int 0]))] ++ gL w.2.2.1 q1 a1 3 18) := hD
  refine va_putF hx hb hts inT2 tyX2 tyX2_ok nmX2 hown hK.1.1 hP hD hS 0 rfl rfl 0 (by decide) (hts _ tw_167) (fun _ h => h) rfl hin rfl (tyX2_ok 0 (by decide)) rfl rfl (Nat.le_of_ble_eq_true rfl) dX2_init_15 (fun H locs hP hD hS => ?_)
  have hP : va_P D vwCl ([(h0, .inr (2, [.ref q1, .int 0]))] ++ gL w.2.2.1 q1 a1 3 18) H := hP
  have hD : va_D A ([(h0, .inr (2, [.ref q1, .int 0]))] ++ gL w.2.2.1 q1 a1 3 18) := hD
  refine W.widen (k := 2) (n := 20) (Nat.le_of_ble_eq_true rfl) (Nat.le_of_ble_eq_true rfl) ?_
  exact W.vret hx hb hr (fun t ht hW => ⟨⟨nL w.2.2.1 (fun j => [h0, q1, a1].getD j 0), rfl, ⟨(fun j => [h0, q1, a1].getD j 0), rfl, rfl⟩, by rw [ht]; exact hP, hD⟩, hS.F ht⟩) hS.2.2 dX2_init_18 hlk
set_option maxHeartbeats 4000000 in
set_option maxRecDepth 100000 in
theorem c_X3_init (l : Launch) (D : va_G) (w : Wv) (h0 : Nat) : KM l D w yX3_init cX3_init 1 2 42 4 132 [.ref h0] [(h0, .inr (3, [.int 0, .null, .null]))] (fun w1 => ∃ a : Nat → Nat, h0 = a 0 ∧ w1 = rL w.2.2.1 a) := by
  refine k_open (by decide +kernel) rfl (Nat.le_of_ble_eq_true rfl) ?_
  intro p e s m args below meth c ls A hx hb hml hr hlk hin hown hts hK hP hD hA hS hl
  have hown : s.vm.findClass RX3 = some m.cls := hown
  have hl : lv_has ls 1 [(0, .ref h0)] := hl
  refine lv_aload_n hx hb dX3_init_0 rfl (lv_at hl 0 rfl) ?_
  refine W.objInit hx hb hown (hts _ ty_92) (hts _ ty_40) (hts _ ty_41) rfl (by rw [hml]; exact hl.1) rfl dX3_init_1 (Nat.le_of_ble_eq_true rfl) (Nat.le_of_ble_eq_true rfl) ?_
  refine W.eq (g2 := F0 m 4 ls []) rfl ?_
  refine lv_aload_n hx hb dX3_init_4 rfl (lv_at hl 0 rfl) ?_
  refine lv_bipush (v := (6 : Int32)) hx hb dX3_init_5 (by decide) ?_
  refine va_put hx hb hts inT3 tyX3 tyX3_ok nmX3 hown hK.1.1 hP hD hS 0 rfl rfl 0 (by decide) (hts _ tw_95) (fun _ h => h) rfl (tyX3_ok 0 (by decide)) rfl rfl (Nat.le_of_ble_eq_true rfl) dX3_init_7 (fun H locs hP hD hS => ?_)
  have hP : va_P D vwCl ([(h0, .inr (3, [.int 6, .null, .null]))]) H := hP
  have hD : va_D A ([(h0, .inr (3, [.int 6, .null, .null]))]) := hD
  refine lv_aload_n hx hb dX3_init_10 rfl (lv_at hl 0 rfl) ?_
  refine va_new (ci := 0) (fs := [.int 0, .null]) (C := RX0) (T := TX0) (N := 2) hx hb hts inT0 tyX0 tyX0_ok hown (hts _ ty_93) (hts _ ty_49) (hts _ tw_22) hK.1.1 hP hD hS hA rfl (fun j hj => by rcases (show j = 0 ∨ j = 1 by omega) with rfl | rfl <;> rfl) (Nat.le_of_ble_eq_true rfl) (Nat.le_of_ble_eq_true rfl) dX3_init_11 (fun q1 H hP hD hS => ?_)
  refine lv_dup hx hb dX3_init_14 rfl ?_
  refine lv_bipush (v := (8 : Int32)) hx hb dX3_init_15 (by decide) ?_
  refine lv_bipush (v := (8 : Int32)) hx hb dX3_init_17 (by decide) ?_
  refine k_ctor hx hb hml hown hts hK (As := [.int 8, .int 8]) (rest := [.ref q1, .ref h0]) (c_X0_init l D w q1 8 8 64 (by omega) (by decide)) ⟨ty_94, ty_51, tw_22, ty_52⟩ rfl ⟨by decide +kernel, by decide +kernel, by decide +kernel⟩ rfl ⟨Nat.le_of_ble_eq_true rfl, Nat.le_of_ble_eq_true rfl⟩ ⟨Nat.le_of_ble_eq_true rfl, Nat.le_of_ble_eq_true rfl⟩ hl.1 rfl (Nat.le_of_ble_eq_true rfl) hP hD hS hA dX3_init_19 (fun w1 H locs hw hP hD hS => ?_)
  obtain ⟨a1, rfl⟩ := hw
  have hP : va_P D vwCl ([(h0, .inr (3, [.int 6, .null, .null]))] ++ gL w.2.2.1 q1 a1 8 64) H := hP
  have hD : va_D A ([(h0, .inr (3, [.int 6, .null, .null]))] ++ gL w.2.2.1 q1 a1 8 64) := hD
  refine va_putF hx hb hts inT3 tyX3 tyX3_ok nmX3 hown hK.1.1 hP hD hS 0 rfl rfl 1 (by decide) (hts _ tw_96) (fun _ h => h) rfl hin rfl (tyX3_ok 1 (by decide)) rfl rfl (Nat.le_of_ble_eq_true rfl) dX3_init_22 (fun H locs hP hD hS => ?_)
  have hP : va_P D vwCl ([(h0, .inr (3, [.int 6, .ref q1, .null]))] ++ gL w.2.2.1 q1 a1 8 64) H := hP
  have hD : va_D A ([(h0, .inr (3, [.int 6, .ref q1, .null]))] ++ gL w.2.2.1 q1 a1 8 64) := hD
  refine lv_aload_n hx hb dX3_init_25 rfl (lv_at hl 0 rfl) ?_
  refine va_new (ci := 0) (fs := [.int 0, .null]) (C := RX0) (T := TX0) (N := 2) hx hb hts inT0 tyX0 tyX0_ok hown (hts _ ty_93) (hts _ ty_49) (hts _ tw_22) hK.1.1 hP hD hS hA rfl (fun j hj => by rcases (show j = 0 ∨ j = 1 by omega) with rfl | rfl <;> rfl) (Nat.le_of_ble_eq_true rfl) (Nat.le_of_ble_eq_true rfl) dX3_init_26 (fun q2 H hP hD hS => ?_)
  refine lv_dup hx hb dX3_init_29 rfl ?_
  refine lv_bipush (v := (8 : Int32)) hx hb dX3_init_30 (by decide) ?_
  refine lv_bipush (v := (8 : Int32)) hx hb dX3_init_32 (by decide) ?_
  refine k_ctor hx hb hml hown hts hK (As := [.int 8, .int 8]) (rest := [.ref q2, .ref h0]) (c_X0_init l D w q2 8 8 64 (by omega) (by decide)) ⟨ty_94, ty_51, tw_22, ty_52⟩ rfl ⟨by decide +kernel, by decide +kernel, by decide +kernel⟩ rfl ⟨Nat.le_of_ble_eq_true rfl, Nat.le_of_ble_eq_true rfl⟩ ⟨Nat.le_of_ble_eq_true rfl, Nat.le_of_ble_eq_true rfl⟩ hl.1 rfl (Nat.le_of_ble_eq_true rfl) hP hD hS hA dX3_init_34 (fun w1 H locs hw hP hD hS => ?_)
  obtain ⟨a2, rfl⟩ := hw
  have hP : va_P D vwCl ([(h0, .inr (3, [.int 6, .ref q1, .null]))] ++ gL w.2.2.1 q1 a1 8 64 ++ gL w.2.2.1 q2 a2 8 64) H := hP
  have hD : va_D A ([(h0, .inr (3, [.int 6, .ref q1, .null]))] ++ gL w.2.2.1 q1 a1 8 64 ++ gL w.2.2.1 q2 a2 8 64) := hD
  refine va_putF hx hb hts inT3 tyX3 tyX3_ok nmX3 hown hK.1.1 hP hD hS 0 rfl rfl 2 (by decide) (hts _ tw_97) (fun _ h => h) rfl hin rfl (tyX3_ok 2 (by decide)) rfl rfl (Nat.le_of_ble_eq_true rfl) dX3_init_37 (fun H locs hP hD hS => ?_)
  have hP : va_P D vwCl ([(h0, .inr (3, [.int 6, .ref q1, .ref q2]))] ++ gL w.2.2.1 q1 a1 8 64 ++ gL w.2.2.1 q2 a2 8 64) H := hP
  have hD : va_D A ([(h0, .inr (3, [.int 6, .ref q1, .ref q2]))] ++ gL w.2.2.1 q1 a1 8 64 ++ gL w.2.2.1 q2 a2 8 64) := hD
  refine W.widen (k := 4) (n := 132) (Nat.le_of_ble_eq_true rfl) (Nat.le_of_ble_eq_true rfl) ?_
  exact W.vret hx hb hr (fun t ht hW => ⟨⟨rL w.2.2.1 (fun j => [h0, q1, a1, q2, a2].getD j 0), rfl, ⟨(fun j => [h0, q1, a1, q2, a2].getD j 0), rfl, rfl⟩, by rw [ht]; exact hP, hD⟩, hS.F ht⟩) hS.2.2 dX3_init_40 hlk
set_option maxHeartbeats 4000000 in
set_option maxRecDepth 100000 in
theorem c_X5_init (l : Launch) (D : va_G) (w : Wv) (h0 : Nat) : KM l D w yX5_init cX5_init 1 3 64 13 305 [.ref h0] [(h0, .inr (5, [.null, .null, .null, .null, .null, .int 0, .int 0, .int 0, .int 0, .int 0]))] (fun w1 => ∃ a : Nat → Nat, h0 = a 0 ∧ w1 = yL w.2.2.1 a) := by
  refine k_open (by decide +kernel) rfl (Nat.le_of_ble_eq_true rfl) ?_
  intro p e s m args below meth c ls A hx hb hml hr hlk hin hown hts hK hP hD hA hS hl
  have hown : s.vm.findClass RX5 = some m.cls := hown
  have hl : lv_has ls 1 [(0, .ref h0)] := hl
  refine lv_aload_n hx hb dX5_init_0 rfl (lv_at hl 0 rfl) ?_
  refine W.objInit hx hb hown (hts _ ty_86) (hts _ ty_40) (hts _ ty_41) rfl (by rw [hml]; exact hl.1) rfl dX5_init_1 (Nat.le_of_ble_eq_true rfl) (Nat.le_of_ble_eq_true rfl) ?_
  refine W.eq (g2 := F0 m 4 ls []) rfl ?_
  refine lv_aload_n hx hb dX5_init_4 rfl (lv_at hl 0 rfl) ?_
  refine va_new (ci := 3) (fs := [.int 0, .null, .null]) (C := RX3) (T := TX3) (N := 3) hx hb hts inT3 tyX3 tyX3_ok hown (hts _ ty_87) (hts _ ty_88) (hts _ tw_25) hK.1.1 hP hD hS hA rfl (fun j hj => by rcases (show j = 0 ∨ j = 1 ∨ j = 2 by omega) with rfl | rfl | rfl <;> rfl) (Nat.le_of_ble_eq_true rfl) (Nat.le_of_ble_eq_true rfl) dX5_init_5 (fun q1 H hP hD hS => ?_)
  refine lv_dup hx hb dX5_init_8 rfl ?_
  refine k_ctor hx hb hml hown hts hK (As := []) (rest := [.ref q1, .ref h0]) (c_X3_init l D w q1) ⟨ty_89, ty_90, tw_25, ty_91⟩ rfl ⟨by decide +kernel, by decide +kernel, by decide +kernel⟩ rfl ⟨Nat.le_of_ble_eq_true rfl, Nat.le_of_ble_eq_true rfl⟩ ⟨Nat.le_of_ble_eq_true rfl, Nat.le_of_ble_eq_true rfl⟩ hl.1 rfl (Nat.le_of_ble_eq_true rfl) hP hD hS hA dX5_init_9 (fun w1 H locs hw hP hD hS => ?_)
  obtain ⟨b1, hb1, rfl⟩ := hw
  rw [hb1]
  have hP : va_P D vwCl ([(h0, .inr (5, [.null, .null, .null, .null, .null, .int 0, .int 0, .int 0, .int 0, .int 0]))] ++ rL w.2.2.1 b1) H := hP
  have hD : va_D A ([(h0, .inr (5, [.null, .null, .null, .null, .null, .int 0, .int 0, .int 0, .int 0, .int 0]))] ++ rL w.2.2.1 b1) := hD
  refine va_putF hx hb hts inT5 tyX5 tyX5_ok nmX5 hown hK.1.1 hP hD hS 0 rfl rfl 0 (by decide) (hts _ tw_107) (fun _ h => h) rfl hin rfl (tyX5_ok 0 (by decide)) rfl rfl (Nat.le_of_ble_eq_true rfl) dX5_init_12 (fun H locs hP hD hS => ?_)
  have hP : va_P D vwCl ([(h0, .inr (5, [.ref (b1 0), .null, .null, .null, .null, .int 0, .int 0, .int 0, .int 0, .int 0]))] ++ rL w.2.2.1 b1) H := hP
  have hD : va_D A ([(h0, .inr (5, [.ref (b1 0), .null, .null, .null, .null, .int 0, .int 0, .int 0, .int 0, .int 0]))] ++ rL w.2.2.1 b1) := hD
  refine lv_aload_n hx hb dX5_init_15 rfl (lv_at hl 0 rfl) ?_
  refine va_new (ci := 0) (fs := [.int 0, .null]) (C := RX0) (T := TX0) (N := 2) hx hb hts inT0 tyX0 tyX0_ok hown (hts _ ty_105) (hts _ ty_49) (hts _ tw_22) hK.1.1 hP hD hS hA rfl (fun j hj => by rcases (show j = 0 ∨ j = 1 by omega) with rfl | rfl <;> rfl) (Nat.le_of_ble_eq_true rfl) (Nat.le_of_ble_eq_true rfl) dX5_init_16 (fun q2 H hP hD hS => ?_)
  refine lv_dup hx hb dX5_init_19 rfl ?_
  refine lv_bipush (v := (8 : Int32)) hx hb dX5_init_20 (by decide) ?_
  refine lv_iconst (v := (3 : Int32)) hx hb dX5_init_22 (by decide) ?_
  refine k_ctor hx hb hml hown hts hK (As := [.int 8, .int 3]) (rest := [.ref q2, .ref h0]) (c_X0_init l D w q2 8 3 24 (by omega) (by decide)) ⟨ty_106, ty_51, tw_22, ty_52⟩ rfl ⟨by decide +kernel, by decide +kernel, by decide +kernel⟩ rfl ⟨Nat.le_of_ble_eq_true rfl, Nat.le_of_ble_eq_true rfl⟩ ⟨Nat.le_of_ble_eq_true rfl, Nat.le_of_ble_eq_true rfl⟩ hl.1 rfl (Nat.le_of_ble_eq_true rfl) hP hD hS hA dX5_init_23 (fun w1 H locs hw hP hD hS => ?_)
  obtain ⟨a2, rfl⟩ := hw
  have hP : va_P D vwCl ([(h0, .inr (5, [.ref (b1 0), .null, .null, .null, .null, .int 0, .int 0, .int 0, .int 0, .int 0]))] ++ rL w.2.2.1 b1 ++ gL w.2.2.1 q2 a2 3 24) H := hP
  have hD : va_D A ([(h0, .inr (5, [.ref (b1 0), .null, .null, .null, .null, .int 0, .int 0, .int 0, .int 0, .int 0]))] ++ rL w.2.2.1 b1 ++ gL w.2.2.1 q2 a2 3 24) := hD
  refine va_putF hx hb hts inT5 tyX5 tyX5_ok nmX5 hown hK.1.1 hP hD hS 0 rfl rfl 1 (by decide) (hts _ tw_108) (fun _ h => h) rfl hin rfl (tyX5_ok 1 (by decide)) rfl rfl (Nat.le_of_ble_eq_true rfl) dX5_init_26 (fun H locs hP hD hS => ?_)
  have hP : va_P D vwCl ([(h0, .inr (5, [.ref (b1 0), .ref q2, .null, .null, .null, .int 0, .int 0, .int 0, .int 0, .int 0]))] ++ rL w.2.2.1 b1 ++ gL w.2.2.1 q2 a2 3 24) H := hP
  have hD : va_D A ([(h0, .inr (5, [.ref (b1 0), .ref q2, .null, .null, .null, .int 0, .int 0, .int 0, .int 0, .int 0]))] ++ rL w.2.2.1 b1 ++ gL w.2.2.1 q2 a2 3 24) := hD
  refine lv_aload_n hx hb dX5_init_29 rfl (lv_at hl 0 rfl) ?_
  refine va_new (ci := 0) (fs := [.int 0, .null]) (C := RX0) (T := TX0) (N := 2) hx hb hts inT0 tyX0 tyX0_ok hown (hts _ ty_105) (hts _ ty_49) (hts _ tw_22) hK.1.1 hP hD hS hA rfl (fun j hj => by rcases (show j = 0 ∨ j = 1 by omega) with rfl | rfl <;> rfl) (Nat.le_of_ble_eq_true rfl) (Nat.le_of_ble_eq_true rfl) dX5_init_30 (fun q3 H hP hD hS => ?_)
  refine lv_dup hx hb dX5_init_33 rfl ?_
  refine lv_bipush (v := (8 : Int32)) hx hb dX5_init_34 (by decide) ?_
  refine lv_bipush (v := (8 : Int32)) hx hb dX5_init_36 (by decide) ?_
  refine k_ctor hx hb hml hown hts hK (As := [.int 8, .int 8]) (rest := [.ref q3, .ref h0]) (c_X0_init l D w q3 8 8 64 (by omega) (by decide)) ⟨ty_106, ty_51, tw_22, ty_52⟩ rfl ⟨by decide +kernel, by decide +kernel, by decide +kernel⟩ rfl ⟨Nat.le_of_ble_eq_true rfl, Nat.le_of_ble_eq_true rfl⟩ ⟨Nat.le_of_ble_eq_true rfl, Nat.le_of_ble_eq_true rfl⟩ hl.1 rfl (Nat.le_of_ble_eq_true rfl) hP hD hS hA dX5_init_38 (fun w1 H locs hw hP hD hS => ?_)
  obtain ⟨a3, rfl⟩ := hw
  have hP : va_P D vwCl ([(h0, .inr (5, [.ref (b1 0), .ref q2, .null, .null, .null, .int 0, .int 0, .int 0, .int 0, .int 0]))] ++ rL w.2.2.1 b1 ++ gL w.2.2.1 q2 a2 3 24 ++ gL w.2.2.1 q3 a3 8 64) H := hP
  have hD : va_D A ([(h0, .inr (5, [.ref (b1 0), .ref q2, .null, .null, .null, .int 0, .int 0, .int 0, .int 0, .int 0]))] ++ rL w.2.2.1 b1 ++ gL w.2.2.1 q2 a2 3 24 ++ gL w.2.2.1 q3 a3 8 64) := hD
  refine va_putF hx hb hts inT5 tyX5 tyX5_ok nmX5 hown hK.1.1 hP hD hS 0 rfl rfl 2 (by decide) (hts _ tw_109) (fun _ h => h) rfl hin rfl (tyX5_ok 2 (by decide)) rfl rfl (Nat.le_of_ble_eq_true rfl) dX5_init_41 (fun H locs hP hD hS => ?_)
  have hP : va_P D vwCl ([(h0, .inr (5, [.ref (b1 0), .ref q2, .ref q3, .null, .null, .int 0, .int 0, .int 0, .int 0, .int 0]))] ++ rL w.2.2.1 b1 ++ gL w.2.2.1 q2 a2 3 24 ++ gL w.2.2.1 q3 a3 8 64) H := hP
  have hD : va_D A ([(h0, .inr (5, [.ref (b1 0), .ref q2, .ref q3, .null, .null, .int 0, .int 0, .int 0, .int 0, .int 0]))] ++ rL w.2.2.1 b1 ++ gL w.2.2.1 q2 a2 3 24 ++ gL w.2.2.1 q3 a3 8 64) := hD
  refine lv_aload_n hx hb dX5_init_44 rfl (lv_at hl 0 rfl) ?_
  refine va_new (ci := 0) (fs := [.int 0, .null]) (C := RX0) (T := TX0) (N := 2) hx hb hts inT0 tyX0 tyX0_ok hown (hts _ ty_105) (hts _ ty_49) (hts _ tw_22) hK.1.1 hP hD hS hA rfl (fun j hj => by rcases (show j = 0 ∨ j = 1 by omega) with rfl | rfl <;> rfl) (Nat.le_of_ble_eq_true rfl) (Nat.le_of_ble_eq_true rfl) dX5_init_45 (fun q4 H hP hD hS => ?_)
  refine lv_dup hx hb dX5_init_48 rfl ?_
  refine lv_bipush (v := (8 : Int32)) hx hb dX5_init_49 (by decide) ?_
  refine lv_bipush (v := (8 : Int32)) hx hb dX5_init_51 (by decide) ?_
  refine k_ctor hx hb hml hown hts hK (As := [.int 8, .int 8]) (rest := [.ref q4, .ref h0]) (c_X0_init l D w q4 8 8 64 (by omega) (by decide)) ⟨ty_106, ty_51, tw_22, ty_52⟩ rfl ⟨by decide +kernel, by decide +kernel, by decide +kernel⟩ rfl ⟨Nat.le_of_ble_eq_true rfl, Nat.le_of_ble_eq_true rfl⟩ ⟨Nat.le_of_ble_eq_true rfl, Nat.le_of_ble_eq_true rfl⟩ hl.1 rfl (Nat.le_of_ble_eq_true rfl) hP hD hS hA dX5_init_53 (fun w1 H locs hw hP hD hS => ?_)
  obtain ⟨a4, rfl⟩ := hw
  have hP : va_P D vwCl ([(h0, .inr (5, [.ref (b1 0), .ref q2, .ref q3, .null, .null, .int 0, .int 0, .int 0, .int 0, .int 0]))] ++ rL w.2.2.1 b1 ++ gL w.2.2.1 q2 a2 3 24 ++ gL w.2.2.1 q3 a3 8 64 ++ gL w.2.2.1 q4 a4 8 64) H := hP
  have hD : va_D A ([(h0, .inr (5, [.ref (b1 0), .ref q2, .ref q3, .null, .null, .int 0, .int 0, .int 0, .int 0, .int 0]))] ++ rL w.2.2.1 b1 ++ gL w.2.2.1 q2 a2 3 24 ++ gL w.2.2.1 q3 a3 8 64 ++ gL w.2.2.1 q4 a4 8 64) := hD
  refine va_putF hx hb hts inT5 tyX5 tyX5_ok nmX5 hown hK.1.1 hP hD hS 0 rfl rfl 3 (by decide) (hts _ tw_110) (fun _ h => h) rfl hin rfl (tyX5_ok 3 (by decide)) rfl rfl (Nat.le_of_ble_eq_true rfl) dX5_init_56 (fun H locs hP hD hS => ?_)
  have hP : va_P D vwCl ([(h0, .inr (5, [.ref (b1 0), .ref q2, .ref q3, .ref q4, .null, .int 0, .int 0, .int 0, .int 0, .int 0]))] ++ rL w.2.2.1 b1 ++ gL w.2.2.1 q2 a2 3 24 ++ gL w.2.2.1 q3 a3 8 64 ++ gL w.2.2.1 q4 a4 8 64) H := hP
  have hD : va_D A ([(h0, .inr (5, [.ref (b1 0), .ref q2, .ref q3, .ref q4, .null, .int 0, .int 0, .int 0, .int 0, .int 0]))] ++ rL w.2.2.1 b1 ++ gL w.2.2.1 q2 a2 3 24 ++ gL w.2.2.1 q3 a3 8 64 ++ gL w.2.2.1 q4 a4 8 64) := hD
  refine lv_aload_n hx hb dX5_init_59 rfl (lv_at hl 0 rfl) ?_
  refine va_new (ci := 0) (fs := [.int 0, .null]) (C := RX0) (T := TX0) (N := 2) hx hb hts inT0 tyX0 tyX0_ok hown (hts _ ty_105) (hts _ ty_49) (hts _ tw_22) hK.1.1 hP hD hS hA rfl (fun j hj => by rcases (show j = 0 ∨ j = 1 by omega) with rfl | rfl <;> rfl) (Nat.le_of_ble_eq_true rfl) (Nat.le_of_ble_eq_true rfl) dX5_init_60 (fun q5 H hP hD hS => ?_)
  refine lv_dup hx hb dX5_init_63 rfl ?_
  refine lv_iconst (v := (5 : Int32)) hx hb dX5_init_64 (by decide) ?_
  refine lv_iconst (v := (2 : Int32)) hx hb dX5_init_65 (by decide) ?_
  refine k_ctor hx hb hml hown hts hK (As := [.int 5, .int 2]) (rest := [.ref q5, .ref h0]) (c_X0_init l D w q5 5 2 10 (by omega) (by decide)) ⟨ty_106, ty_51, tw_22, ty_52⟩ rfl ⟨by decide +kernel, by decide +kernel, by decide +kernel⟩ rfl ⟨Nat.le_of_ble_eq_true rfl, Nat.le_of_ble_eq_true rfl⟩ ⟨Nat.le_of_ble_eq_true rfl, Nat.le_of_ble_eq_true rfl⟩ hl.1 rfl (Nat.le_of_ble_eq_true rfl) hP hD hS hA dX5_init_66 (fun w1 H locs hw hP hD hS => ?_)
  obtain ⟨a5, rfl⟩ := hw
  have hP : va_P D vwCl ([(h0, .inr (5, [.ref (b1 0), .ref q2, .ref q3, .ref q4, .null, .int 0, .int 0, .int 0, .int 0, .int 0]))] ++ rL w.2.2.1 b1 ++ gL w.2.2.1 q2 a2 3 24 ++ gL w.2.2.1 q3 a3 8 64 ++ gL w.2.2.1 q4 a4 8 64 ++ gL w.2.2.1 q5 a5 2 10) H := hP
  have hD : va_D A ([(h0, .inr (5, [.ref (b1 0), .ref q2, .ref q3, .ref q4, .null, .int 0, .int 0, .int 0, .int 0, .int 0]))] ++ rL w.2.2.1 b1 ++ gL w.2.2.1 q2 a2 3 24 ++ gL w.2.2.1 q3 a3 8 64 ++ gL w.2.2.1 q4 a4 8 64 ++ gL w.2.2.1 q5 a5 2 10) := hD
  refine va_putF hx hb hts inT5 tyX5 tyX5_ok nmX5 hown hK.1.1 hP hD hS 0 rfl rfl 4 (by decide) (hts _ tw_111) (fun _ h => h) rfl hin rfl (tyX5_ok 4 (by decide)) rfl rfl (Nat.le_of_ble_eq_true rfl) dX5_init_69 (fun H locs hP hD hS => ?_)
  have hP : va_P D vwCl ([(h0, .inr (5, [.ref (b1 0), .ref q2, .ref q3, .ref q4, .ref q5, .int 0, .int 0, .int 0, .int 0, .int 0]))] ++ rL w.2.2.1 b1 ++ gL w.2.2.1 q2 a2 3 24 ++ gL w.2.2.1 q3 a3 8 64 ++ gL w.2.2.1 q4 a4 8 64 ++ gL w.2.2.1 q5 a5 2 10) H := hP
  have hD : va_D A ([(h0, .inr (5, [.ref (b1 0), .ref q2, .ref q3, .ref q4, .ref q5, .int 0, .int 0, .int 0, .int 0, .int 0]))] ++ rL w.2.2.1 b1 ++ gL w.2.2.1 q2 a2 3 24 ++ gL w.2.2.1 q3 a3 8 64 ++ gL w.2.2.1 q4 a4 8 64 ++ gL w.2.2.1 q5 a5 2 10) := hD
  refine W.widen (k := 13) (n := 305) (Nat.le_of_ble_eq_true rfl) (Nat.le_of_ble_eq_true rfl) ?_
  exact W.vret hx hb hr (fun t ht hW => ⟨⟨yL w.2.2.1 (fun j => if j = 0 then h0 else if j < 6 then b1 (j - 1) else [q2, a2, q3, a3, q4, a4, q5, a5].getD (j - 6) 0), rfl, ⟨(fun j => if j = 0 then h0 else if j < 6 then b1 (j - 1) else [q2, a2, q3, a3, q4, a4, q5, a5].getD (j - 6) 0), rfl, rfl⟩, by rw [ht]; exact hP, hD⟩, hS.F ht⟩) hS.2.2 dX5_init_72 hlk

