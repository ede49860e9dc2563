/-! Part 02: the world of the claim: 184 cells with ids 0..183, their contents a row of numbers by id; rows over it. -/
abbrev Sg : Type := Nat → Nat → Int32
abbrev Wv : Type := (Nat → Nat) × (ClassId × ClassId × ClassId)
def kdL : List Nat := [6, 1, 0, 9, 0, 9, 5, 3, 0, 9, 0, 9, 0, 9, 0, 9, 0, 9, 0, 9, 5, 3, 0, 9, 0, 9, 0, 9, 0, 9, 0, 9, 0, 9, 4, 10, 5, 3, 0, 9, 0, 9, 0, 9, 0, 9, 0, 9, 0, 9, 5, 3, 0, 9, 0, 9, 0, 9, 0, 9, 0, 9, 0, 9, 5, 3, 0, 9, 0, 9, 0, 9, 0, 9, 0, 9, 0, 9, 5, 3, 0, 9, 0, 9, 0, 9, 0, 9, 0, 9, 0, 9, 5, 3, 0, 9, 0, 9, 0, 9, 0, 9, 0, 9, 0, 9, 5, 3, 0, 9, 0, 9, 0, 9, 0, 9, 0, 9, 0, 9, 5, 3, 0, 9, 0, 9, 0, 9, 0, 9, 0, 9, 0, 9, 5, 3, 0, 9, 0, 9, 0, 9, 0, 9, 0, 9, 0, 9, 4, 10, 5, 3, 0, 9, 0, 9, 0, 9, 0, 9, 0, 9, 0, 9, 5, 3, 0, 9, 0, 9, 0, 9, 0, 9, 0, 9, 0, 9, 2, 0, 9, 2, 0, 9]
def lnL : List Nat := [0, 0, 0, 200, 0, 3, 0, 0, 0, 64, 0, 64, 0, 24, 0, 64, 0, 64, 0, 10, 0, 0, 0, 64, 0, 64, 0, 24, 0, 64, 0, 64, 0, 10, 0, 8, 0, 0, 0, 64, 0, 64, 0, 24, 0, 64, 0, 64, 0, 10, 0, 0, 0, 64, 0, 64, 0, 24, 0, 64, 0, 64, 0, 10, 0, 0, 0, 64, 0, 64, 0, 24, 0, 64, 0, 64, 0, 10, 0, 0, 0, 64, 0, 64, 0, 24, 0, 64, 0, 64, 0, 10, 0, 0, 0, 64, 0, 64, 0, 24, 0, 64, 0, 64, 0, 10, 0, 0, 0, 64, 0, 64, 0, 24, 0, 64, 0, 64, 0, 10, 0, 0, 0, 64, 0, 64, 0, 24, 0, 64, 0, 64, 0, 10, 0, 0, 0, 64, 0, 64, 0, 24, 0, 64, 0, 64, 0, 10, 0, 2, 0, 0, 0, 64, 0, 64, 0, 24, 0, 64, 0, 64, 0, 10, 0, 0, 0, 64, 0, 64, 0, 24, 0, 64, 0, 64, 0, 10, 0, 0, 18, 0, 0, 18]
def kd (i : Nat) : Nat := (kdL[i]?).getD 11
def ln (i : Nat) : Nat := (lnL[i]?).getD 0
def ce (w : Wv) (σ : Sg) (i : Nat) : va_E :=
  if kd i = 0 then .inr (0, [.int (σ i 0), .ref (w.1 (i + 1))]) else
  if kd i = 1 then .inr (1, [.ref (w.1 (i + 1)), .ref (w.1 (i + 3)), .int (σ i 2), .int (σ i 3)]) else
  if kd i = 2 then .inr (2, [.ref (w.1 (i + 1)), .int (σ i 1)]) else
  if kd i = 3 then .inr (3, [.int (σ i 0), .ref (w.1 (i + 1)), .ref (w.1 (i + 3))]) else
  if kd i = 4 then .inr (4, [.ref (w.1 (i + 1)), .int (σ i 1), .int (σ i 2)]) else
  if kd i = 5 then .inr (5, [.ref (w.1 (i + 1)), .ref (w.1 (i + 6)), .ref (w.1 (i + 8)), .ref (w.1 (i + 10)), .ref (w.1 (i + 12)), .int (σ i 5), .int (σ i 6), .int (σ i 7), .int (σ i 8), .int (σ i 9)]) else
  if kd i = 6 then .inr (6, [.ref (w.1 1), .ref (w.1 6), .ref (w.1 20), .ref (w.1 34), .ref (w.1 148), .ref (w.1 178), .ref (w.1 181)]) else
  if kd i = 8 then .inl (w.2.1, ln i, .inl (σ i)) else
  if kd i = 9 then .inl (w.2.2.1, ln i, .inl (σ i)) else
  .inl (w.2.2.2, ln i, .inr (.inr (.inr (.inr fun k => some (w.1 (i + 1 + 14 * k))))))
theorem ce0 {w : Wv} {σ : Sg} {i : Nat} (h : kd i = 0) : ce w σ i = .inr (0, [.int (σ i 0), .ref (w.1 (i + 1))]) := by unfold ce; rw [h]; rfl
theorem ce1 {w : Wv} {σ : Sg} {i : Nat} (h : kd i = 1) : ce w σ i = .inr (1, [.ref (w.1 (i + 1)), .ref (w.1 (i + 3)), .int (σ i 2), .int (σ i 3)]) := by unfold ce; rw [h]; rfl
theorem ce2 {w : Wv} {σ : Sg} {i : Nat} (h : kd i = 2) : ce w σ i = .inr (2, [.ref (w.1 (i + 1)), .int (σ i 1)]) := by unfold ce; rw [h]; rfl
theorem ce3 {w : Wv} {σ : Sg} {i : Nat} (h : kd i = 3) : ce w σ i = .inr (3, [.int (σ i 0), .ref (w.1 (i + 1)), .ref (w.1 (i + 3))]) := by unfold ce; rw [h]; rfl
theorem ce4 {w : Wv} {σ : Sg} {i : Nat} (h : kd i = 4) : ce w σ i = .inr (4, [.ref (w.1 (i + 1)), .int (σ i 1), .int (σ i 2)]) := by unfold ce; rw [h]; rfl
theorem ce5 {w : Wv} {σ : Sg} {i : Nat} (h : kd i = 5) : ce w σ i = .inr (5, [.ref (w.1 (i + 1)), .ref (w.1 (i + 6)), .ref (w.1 (i + 8)), .ref (w.1 (i + 10)), .ref (w.1 (i + 12)), .int (σ i 5), .int (σ i 6), .int (σ i 7), .int (σ i 8), .int (σ i 9)]) := by unfold ce; rw [h]; rfl
theorem ce6 {w : Wv} {σ : Sg} {i : Nat} (h : kd i = 6) : ce w σ i = .inr (6, [.ref (w.1 1), .ref (w.1 6), .ref (w.1 20), .ref (w.1 34), .ref (w.1 148), .ref (w.1 178), .ref (w.1 181)]) := by unfold ce; rw [h]; rfl
theorem ce8 {w : Wv} {σ : Sg} {i : Nat} (h : kd i = 8) : ce w σ i = .inl (w.2.1, ln i, .inl (σ i)) := by unfold ce; rw [h]; rfl
theorem ce9 {w : Wv} {σ : Sg} {i : Nat} (h : kd i = 9) : ce w σ i = .inl (w.2.2.1, ln i, .inl (σ i)) := by unfold ce; rw [h]; rfl
theorem ce10 {w : Wv} {σ : Sg} {i : Nat} (h : kd i = 10) : ce w σ i = .inl (w.2.2.2, ln i, .inr (.inr (.inr (.inr fun k => some (w.1 (i + 1 + 14 * k)))))) := by unfold ce; rw [h]; rfl
theorem ce_congr {w : Wv} {σ σ' : Sg} {i : Nat} (h : σ' i = σ i) : ce w σ' i = ce w σ i := by unfold ce; rw [h]
def WL (w : Wv) (σ : Sg) : va_W := (List.range 184).map fun i => (w.1 i, ce w σ i)
theorem WL_len {w : Wv} {σ : Sg} : (WL w σ).length = 184 := by unfold WL; rw [List.length_map, List.length_range]
theorem WL_get {w : Wv} {σ : Sg} {i : Nat} (hi : i < 184) : (WL w σ)[i]? = some (w.1 i, ce w σ i) := by
  unfold WL; rw [List.getElem?_map, List.getElem?_range hi]; rfl
theorem WL_set {w : Wv} {σ σ' : Sg} {i : Nat} {e : va_E} (hi : i < 184) (he : ce w σ' i = e) (ho : ∀ j, j ≠ i → σ' j = σ j) : (WL w σ).set i (w.1 i, e) = WL w σ' := by
  apply List.ext_getElem?
  intro j
  by_cases hj : j = i
  · subst hj
    rw [List.getElem?_set_self (by rw [WL_len]; exact hi), WL_get hi, he]
  · rw [List.getElem?_set_ne (Ne.symm hj)]
    by_cases h : j < 184
    · rw [WL_get h, WL_get h, ce_congr (ho j hj)]
    · rw [List.getElem?_eq_none (by rw [WL_len]; omega), List.getElem?_eq_none (by rw [WL_len]; omega)]
def AL (w : Wv) : Nat → Prop := fun q => ∃ i, i < 184 ∧ q = w.1 i
def Inj (w : Wv) : Prop := ∀ i j, i < 184 → j < 184 → w.1 i = w.1 j → i = j
theorem WL_D {w : Wv} {σ : Sg} (hJ : Inj w) : va_D (AL w) (WL w σ) := by
  have len : ∀ {k : Nat} {q : Nat × va_E}, (WL w σ)[k]? = some q → k < 184 := fun {k q} h => by
    have := (List.getElem?_eq_some_iff.mp h).1
    rwa [WL_len] at this
  refine ⟨fun i j p q hp hq h => ?_, fun k q hk => ?_⟩
  · have li := len hp
    have lj := len hq
    rw [WL_get li] at hp
    rw [WL_get lj] at hq
    cases hp; cases hq
    exact hJ i j li lj h
  · have lk := len hk
    rw [WL_get lk] at hk
    cases hk
    exact ⟨k, lk, rfl⟩
def tys (w : Wv) : List (ClassId × FieldType) := [(w.2.1, .byte), (w.2.2.1, .int), (w.2.2.2, .object "SignpostYard$Yard")]
def sf (σ : Sg) (i k : Nat) (v : Int32) : Sg := va_up σ i (upd (σ i) k v)
theorem sf_row {σ : Sg} {i k : Nat} {v : Int32} : sf σ i k v i = upd (σ i) k v := va_up_self ..
theorem sf_ne {σ : Sg} {i k : Nat} {v : Int32} {j : Nat} (h : j ≠ i) : sf σ i k v j = σ j := va_up_ne _ _ h
def ga (f : Nat → Int32) (n : Nat) (i : Int32) : Option Int32 := if (i < 0 ∨ n ≤ i.toNatClampNeg) then none else some (f i.toNatClampNeg)
def gb (n : Nat) (i : Int32) : Option Nat := if (i < 0 ∨ n ≤ i.toNatClampNeg) then none else some i.toNatClampNeg
def sa (σ : Sg) (i n : Nat) (k v : Int32) : Option Sg := if (k < 0 ∨ n ≤ k.toNatClampNeg) then none else some (sf σ i k.toNatClampNeg v)
def di (x y : Int32) : Option Int32 := if y = 0 then none else some (x / y)
def jrem (x y : Int32) : Int32 := x - x / y * y
def jreml (x y : Int64) : Int64 := x - x / y * y
def re (x y : Int32) : Option Int32 := if y = 0 then none else some (jrem x y)
def cp (σ : Sg) (a b : Nat) (sp dp n : Int32) : Option Sg := if (sp < 0 ∨ dp < 0 ∨ n < 0 ∨ ln a < sp.toNatClampNeg + n.toNatClampNeg ∨ ln b < dp.toNatClampNeg + n.toNatClampNeg) then none else some (va_up σ b (va_cpy (σ a) (σ b) sp.toNatClampNeg dp.toNatClampNeg n.toNatClampNeg))
def lp {S R : Type} (b : S → Option (S ⊕ R)) : Nat → S → Option R
  | 0, _ => none
  | n + 1, s => match b s with
    | none => none
    | some (.inl s') => lp b n s'
    | some (.inr r) => some r
def FU : Nat := 4096
theorem lp_ind {S R : Type} {b : S → Option (S ⊕ R)} {G : S → Prop} {X : R → Prop} (hstep : ∀ (s : S) (o : S ⊕ R), b s = some o → (∀ s', o = .inl s' → G s') → (∀ r, o = .inr r → X r) → G s) : ∀ (n : Nat) (s : S) (rr : R), lp b n s = some rr → X rr → G s
  | 0, s, rr, h, _ => by cases h
  | n + 1, s, rr, h, hX => by
    unfold lp at h
    cases hb : b s with
    | none => rw [hb] at h; cases h
    | some o =>
      rw [hb] at h
      cases o with
      | inl s' => exact hstep s _ hb (fun s2 e => by cases e; exact lp_ind hstep n s' rr h hX) (fun r e => by cases e)
      | inr r => cases h; exact hstep s _ hb (fun s2 e => by cases e) (fun r2 e => by cases e; exact hX)
theorem bnd {α β : Type} {o : Option α} {f : α → Option β} {b : β} (h : o.bind f = some b) : ∃ a, o = some a ∧ f a = some b := by
  cases o with
  | none => cases h
  | some a => exact ⟨a, rfl, h⟩
theorem ifp {c : Prop} [Decidable c] {α : Type} {a b x : α} (hc : c) (h : (if c then a else b) = x) : a = x := by rwa [if_pos hc] at h
theorem ifn {c : Prop} [Decidable c] {α : Type} {a b x : α} (hc : ¬ c) (h : (if c then a else b) = x) : b = x := by rwa [if_neg hc] at h
theorem ga_spec {f : Nat → Int32} {n : Nat} {i v : Int32} (h : ga f n i = some v) : vp_in i n ∧ f i.toNatClampNeg = v := by
  unfold ga at h
  by_cases hc : (i < 0 ∨ n ≤ i.toNatClampNeg)
  · rw [if_pos hc] at h; cases h
  · rw [if_neg hc] at h; cases h; exact ⟨hc, rfl⟩
theorem gb_spec {n : Nat} {i : Int32} {k : Nat} (h : gb n i = some k) : vp_in i n ∧ i.toNatClampNeg = k := by
  unfold gb at h
  by_cases hc : (i < 0 ∨ n ≤ i.toNatClampNeg)
  · rw [if_pos hc] at h; cases h
  · rw [if_neg hc] at h; cases h; exact ⟨hc, rfl⟩
theorem gb_lt {n : Nat} {i : Int32} {k : Nat} (h : gb n i = some k) : k < n := by
  obtain ⟨h1, rfl⟩ := gb_spec h
  exact Nat.not_le.mp fun q => h1 (Or.inr q)
theorem sa_spec {σ σ' : Sg} {i n : Nat} {k v : Int32} (h : sa σ i n k v = some σ') : vp_in k n ∧ sf σ i k.toNatClampNeg v = σ' := by
  unfold sa at h
  by_cases hc : (k < 0 ∨ n ≤ k.toNatClampNeg)
  · rw [if_pos hc] at h; cases h
  · rw [if_neg hc] at h; cases h; exact ⟨hc, rfl⟩
theorem di_spec {x y v : Int32} (h : di x y = some v) : ¬ y = 0 ∧ x / y = v := by
  unfold di at h
  by_cases hc : y = 0
  · rw [if_pos hc] at h; cases h
  · rw [if_neg hc] at h; cases h; exact ⟨hc, rfl⟩
theorem re_spec {x y v : Int32} (h : re x y = some v) : ¬ y = 0 ∧ jrem x y = v := by
  unfold re at h
  by_cases hc : y = 0
  · rw [if_pos hc] at h; cases h
  · rw [if_neg hc] at h; cases h; exact ⟨hc, rfl⟩
/-- the tables' words that a contract takes -/
def TB : List Cond := lw_tbl.filter goodWord
theorem TBm (i : Nat) {c : Cond} (h : lw_tbl[i]? = some c) (g : goodWord c = true) : c ∈ TB := List.mem_filter.mpr ⟨List.mem_of_getElem? h, g⟩
theorem TB_in : ∀ c ∈ TB, c ∈ lw_tbl := fun c h => (List.mem_filter.mp h).1
theorem TB_good : ∀ c ∈ TB, (c.onTables && c.keeps) = true ∨ ∃ ty, c = .arrayClass ty := fun c h => good_of_word (List.mem_filter.mp h).2
theorem good_code {y : MethodName} {b : ByteArray} {n : Nat} {r : Option FieldType} (h : Cond.code y b n r ∈ TB) : GoodIn TB (.code y b n r :: TB) := fun c hc => by
  rcases List.mem_cons.mp hc with rfl | hc
  · exact ⟨h, TB_good _ h⟩
  · exact ⟨hc, TB_good _ hc⟩
theorem good_V {own C : String} {idx : Nat} {y : MethodName} {b : ByteArray} {n : Nat} {r : Option FieldType} (hw : Cond.methodLink own idx y ∈ TB ∧ Cond.instanceMethod y ∈ TB ∧ Cond.selects C y y ∈ TB ∧ Cond.initialized C ∈ TB ∧ Cond.code y b n r ∈ TB) : GoodIn TB (wsV own idx C y (.code y b n r :: TB)) := fun c hc => by
  obtain ⟨h1, h2, h3, h4, h5⟩ := hw
  unfold wsV at hc
  rcases List.mem_append.mp hc with hc | hc
  · have hm : c ∈ TB := by
      rcases List.mem_cons.mp hc with rfl | hc
      · exact h1
      rcases List.mem_cons.mp hc with rfl | hc
      · exact h2
      rcases List.mem_cons.mp hc with rfl | hc
      · exact h3
      rcases List.mem_cons.mp hc with rfl | hc
      · exact h4
      · cases hc
    exact ⟨hm, TB_good _ hm⟩
  · exact good_code h5 c hc
def nst : Cond := .methodLinkNest RX5 93 yX6_hasBit "SignpostYard"
/-- the classes and the nest's link, as they stand all along -/
def KN (D : va_G) (w : Wv) (U : State) : Prop := va_K D vwCl (tys w) U ∧ va_Nw nst U
theorem KN.moved {D : va_G} {w : Wv} {s U : State} (hW : s.WarmedH U.vm) (h : KN D w s) : KN D w U := ⟨va_K.moved hW.alike h.1, va_Nw.warmM hW h.2⟩
def pcW (D : va_G) (w : Wv) (As : List Value) (σ : Sg) : Array Value → State → Prop := va_Pc As (fun U => va_P D vwCl (WL w σ) U.heap ∧ KN D w U)
theorem pcW_blind {D : va_G} {w : Wv} {As : List Value} {σ : Sg} : FrameBlind (pcW D w As σ) := fun a U g mk q => ⟨q.1, q.2.1, va_K.moved (u := U) (U := U.calling g mk a) (Vm.Alike.refl U.vm) q.2.2.1, va_tabs rfl (rfl : U.vm = (U.calling g mk a).vm) q.2.2.2⟩
theorem pcW_pre {D : va_G} {w : Wv} {As : List Value} {σ : Sg} {s : State} {H : Heap} (hP : va_P D vwCl (WL w σ) H) (hK : KN D w s) : ∀ U : State, U.heap = H → s.WarmedH U.vm → pcW D w As σ As.toArray U := fun U hU hW => ⟨rfl, by rw [hU]; exact hP, hK.moved hW⟩
def qiW (D : va_G) (w : Wv) (r : Int32) (σ : Sg) : Array Value → State → Outcome → State → Prop := va_Qi (fun r' (_ : Unit) => r' = r) (fun _ t => va_P D vwCl (WL w σ) t.heap) (AL w)
def qzW (D : va_G) (w : Wv) (r : Int32) (σ : Sg) : Array Value → State → Outcome → State → Prop := va_Qi (fun r' (_ : Unit) => r' = r ∧ narrow .boolean (.int r) = .int r) (fun _ t => va_P D vwCl (WL w σ) t.heap) (AL w)
def qvW (D : va_G) (w : Wv) (σ : Sg) : Array Value → State → Outcome → State → Prop := va_Qv (fun _ : Unit => True) (fun _ t => va_P D vwCl (WL w σ) t.heap) (AL w)
def qrW (D : va_G) (w : Wv) (i : Nat) (σ : Sg) : Array Value → State → Outcome → State → Prop := va_Qr (fun _ : Unit => True) (fun _ a t => a = w.1 i ∧ va_P D vwCl (WL w σ) t.heap) (AL w)
abbrev rmW (f l : Nat) : Room := { frames := f, cells := 0, slots := 0, locals := l }
/-- where a method's walk begins -/
theorem q_open {l : Launch} {D : va_G} {w : Wv} {σ : Sg} {y : MethodName} {b : ByteArray} {n : Nat} {ret : Option FieldType} {rm : Room} {As : List Value} {Qc : Array Value → State → Outcome → State → Prop} (hy : plainName y.cls = true) (hn : (lg_sl As).length ≤ n)
    (body : ∀ p e s m args below meth c ls, p.tables.exec = Jvm.exec → c.code = b → c.maxLocals = n → meth.sig.returnType = ret → meth.locks = false → s.vm.findClass y.cls = some m.cls → (∀ x ∈ TB, x.before args s = true) → KN D w s → va_P D vwCl (WL w σ) s.heap → va_S (AL w) s.heap s.heap [] → lv_has ls n (lv_args 0 As) → W p l e rm s m args below meth c s.heap [] 0 0 (MQ below Qc args s 0 0 (AL w)) (F0 m 0 ls [])) : Met l y (.code y b n ret :: TB) rm (pcW D w As σ) Qc 0 0 (AL w) := by
  refine Met.ofW (cc := b) (maxL := n) (ret := ret) hy rfl ?_
  intro p e s m args below meth c s₁ B hml hv
  obtain ⟨rfl, hP, hK⟩ := hv
  have hts : ∀ x ∈ TB, x.before As.toArray s = true := fun x hx => atoms_spec B.pre x (List.mem_cons_of_mem _ hx)
  have hl := lv_entry As (n := n) hn
  rw [lg_entry_eq]
  exact body p e s m _ below meth c _ B.exec B.bytes hml B.returns B.notSynchronized (findClass_of_methodNamed B.named) hts hK hP va_S.rf hl
section QR
variable {p : Program} {l : Launch} {e : Env} {R : Room} {s : State} {m : MethodId} {args : Array Value} {below : List Frame} {meth : Method} {c : Code} {H : Heap} {locs : List Loc} {cells slots : Nat} {Q : State → Prop} {cc : ByteArray} {pc : Nat} {ls : Array Slot} {rest : List Value} {D : va_G} {w : Wv} {σ : Sg} {H0 : Heap}
theorem q_get (hx : p.tables.exec = Jvm.exec) (hb : c.code = cc) (hts : ∀ x ∈ TB, x.before args s = true) {C : String} {T : u_T} {N ci index : Nat} (hin : ∀ x ∈ u_ws C T N, x ∈ TB) (hown : s.vm.findClass C = some m.cls) (hK : KN D w s) (hP : va_P D vwCl (WL w σ) H) {i : Nat} (hi : i < 184) {fs : List Value} (hce : ce w σ i = .inr (ci, fs)) (hc : vwCl[ci]? = some (C, T, N)) (k : Nat) (hk : k < N) (hTC : (T k).1 = C) (hlink : Cond.fieldLink C index C (T k).2.1 (T k).2.2.1 ∈ TB) {v : Value} (hv : fs[k]? = some v) (hdg : decode cc pc = .ok (.getfield index, 3))
    (kk : W p l e R s m args below meth c H locs cells slots Q (F0 m (pc + 3) ls (v :: rest))) : W p l e R s m args below meth c H locs cells slots Q (F0 m pc ls (.ref (w.1 i) :: rest)) :=
  va_get (own := C) (ref := C) hx hb hts hin hown hK.1 hP i ((WL_get hi).trans (by rw [hce])) hc k hk (hts _ hlink) (fun _ h => hTC ▸ h) hv hdg kk
theorem q_put (hx : p.tables.exec = Jvm.exec) (hb : c.code = cc) (hts : ∀ x ∈ TB, x.before args s = true) {C : String} {T : u_T} {N ci index : Nat} (hin : ∀ x ∈ u_ws C T N, x ∈ TB) (ty0 : Nat → FieldType) (hty : ∀ k, k < N → parseFieldDescriptor (T k).2.2.1 = some (ty0 k)) (hnm : ∀ a, a < N → ∀ b, b < N → a ≠ b → (T a).2.1 ≠ (T b).2.1) (hown : s.vm.findClass C = some m.cls) (hK : KN D w s) (hP : va_P D vwCl (WL w σ) H) (hJ : Inj w) (hS : va_S (AL w) H0 H locs) {i : Nat} (hi : i < 184) {fs : List Value} (hce : ce w σ i = .inr (ci, fs)) (hc : vwCl[ci]? = some (C, T, N)) (k : Nat) (hk : k < N) (hTC : (T k).1 = C) (hlink : Cond.fieldLink C index C (T k).2.1 (T k).2.2.1 ∈ TB) (hfin : (T k).2.2.2 = false) {v : Value} (hn : narrow (ty0 k) v = v) (hfit : fits (ty0 k) v = true) (hl : k < fs.length) {σ' : Sg} (hs : ∀ j, j ≠ i → σ' j = σ j) (he : ce w σ' i = .inr (ci, fs.set k v)) (hdg : decode cc pc = .ok (.putfield index, 3))
    (kk : ∀ (H : Heap) (locs : List Loc), va_P D vwCl (WL w σ') H → va_S (AL w) H0 H locs → W p l e R s m args below meth c H locs cells slots Q (F0 m (pc + 3) ls rest)) : W p l e R s m args below meth c H locs cells slots Q (F0 m pc ls (v :: .ref (w.1 i) :: rest)) := by
  refine va_put (own := C) (ref := C) hx hb hts hin ty0 hty hnm hown hK.1 hP (WL_D hJ) hS i ((WL_get hi).trans (by rw [hce])) hc k hk (hts _ hlink) (fun _ h => hTC ▸ h) hfin (hty k hk) hn hfit hl hdg (fun H1 locs1 hP1 hD1 hS1 => kk H1 locs1 ?_ hS1)
  rw [WL_set hi he hs] at hP1
  exact hP1
theorem q_iald (hx : p.tables.exec = Jvm.exec) (hb : c.code = cc) (hK : KN D w s) (hP : va_P D vwCl (WL w σ) H) {i : Nat} (hi : i < 184) (hk : kd i = 9) {j v : Int32} (hg : ga (σ i) (ln i) j = some v) (hdg : decode cc pc = .ok (.iaload, 1)) (kk : W p l e R s m args below meth c H locs cells slots Q (F0 m (pc + 1) ls (.int v :: rest))) : W p l e R s m args below meth c H locs cells slots Q (F0 m pc ls (.int j :: .ref (w.1 i) :: rest)) := by
  obtain ⟨h1, rfl⟩ := ga_spec hg
  exact va_iald hx hb hK.1 hP i 1 ((WL_get hi).trans (by rw [ce9 hk])) rfl h1 hdg kk
theorem q_bald (hx : p.tables.exec = Jvm.exec) (hb : c.code = cc) (hK : KN D w s) (hP : va_P D vwCl (WL w σ) H) {i : Nat} (hi : i < 184) (hk : kd i = 8) {j v : Int32} (hg : ga (σ i) (ln i) j = some v) (hdg : decode cc pc = .ok (.baload, 1)) (kk : W p l e R s m args below meth c H locs cells slots Q (F0 m (pc + 1) ls (.int v :: rest))) : W p l e R s m args below meth c H locs cells slots Q (F0 m pc ls (.int j :: .ref (w.1 i) :: rest)) := by
  obtain ⟨h1, rfl⟩ := ga_spec hg
  exact va_bald hx hb hK.1 hP i 0 ((WL_get hi).trans (by rw [ce8 hk])) rfl h1 hdg kk
theorem q_aald (hx : p.tables.exec = Jvm.exec) (hb : c.code = cc) (hK : KN D w s) (hP : va_P D vwCl (WL w σ) H) {i : Nat} (hi : i < 184) (hk : kd i = 10) {j : Int32} {v : Nat} (hg : gb (ln i) j = some v) (hdg : decode cc pc = .ok (.aaload, 1)) (kk : W p l e R s m args below meth c H locs cells slots Q (F0 m (pc + 1) ls (.ref (w.1 (i + 1 + 14 * v)) :: rest))) : W p l e R s m args below meth c H locs cells slots Q (F0 m pc ls (.int j :: .ref (w.1 i) :: rest)) := by
  obtain ⟨h1, rfl⟩ := gb_spec hg
  exact va_aldq (C := "SignpostYard$Yard") (f := fun k => some (w.1 (i + 1 + 14 * k))) hx hb hK.1 hP i 2 ((WL_get hi).trans (by rw [ce10 hk])) rfl h1 hdg kk
theorem q_alen9 (hx : p.tables.exec = Jvm.exec) (hb : c.code = cc) (hK : KN D w s) (hP : va_P D vwCl (WL w σ) H) {i : Nat} (hi : i < 184) (hk : kd i = 9) (hdg : decode cc pc = .ok (.arraylength, 1)) (kk : W p l e R s m args below meth c H locs cells slots Q (F0 m (pc + 1) ls (.int (Int32.ofNat (ln i)) :: rest))) : W p l e R s m args below meth c H locs cells slots Q (F0 m pc ls (.ref (w.1 i) :: rest)) :=
  va_alen hx hb hK.1 hP i 1 ((WL_get hi).trans (by rw [ce9 hk])) rfl rfl hdg kk
theorem q_alen10 (hx : p.tables.exec = Jvm.exec) (hb : c.code = cc) (hK : KN D w s) (hP : va_P D vwCl (WL w σ) H) {i : Nat} (hi : i < 184) (hk : kd i = 10) (hdg : decode cc pc = .ok (.arraylength, 1)) (kk : W p l e R s m args below meth c H locs cells slots Q (F0 m (pc + 1) ls (.int (Int32.ofNat (ln i)) :: rest))) : W p l e R s m args below meth c H locs cells slots Q (F0 m pc ls (.ref (w.1 i) :: rest)) :=
  va_alen hx hb hK.1 hP i 2 ((WL_get hi).trans (by rw [ce10 hk])) rfl rfl hdg kk
theorem q_iast (hx : p.tables.exec = Jvm.exec) (hb : c.code = cc) (hK : KN D w s) (hP : va_P D vwCl (WL w σ) H) (hJ : Inj w) (hS : va_S (AL w) H0 H locs) {i : Nat} (hi : i < 184) (hk : kd i = 9) {j v : Int32} {σ' : Sg} (hg : sa σ i (ln i) j v = some σ') (hdg : decode cc pc = .ok (.iastore, 1)) (kk : ∀ (H : Heap) (locs : List Loc), va_P D vwCl (WL w σ') H → va_S (AL w) H0 H locs → W p l e R s m args below meth c H locs cells slots Q (F0 m (pc + 1) ls rest)) : W p l e R s m args below meth c H locs cells slots Q (F0 m pc ls (.int v :: .int j :: .ref (w.1 i) :: rest)) := by
  obtain ⟨h1, rfl⟩ := sa_spec hg
  refine va_iast hx hb hK.1 hP (WL_D hJ) hS i 1 ((WL_get hi).trans (by rw [ce9 hk])) rfl h1 hdg (fun H1 locs1 hP1 hD1 hS1 => kk H1 locs1 ?_ hS1)
  rw [WL_set (σ' := sf σ i j.toNatClampNeg v) hi (by rw [ce9 hk, sf_row]) (fun q hq => sf_ne hq)] at hP1
  exact hP1
theorem q_bast (hx : p.tables.exec = Jvm.exec) (hb : c.code = cc) (hK : KN D w s) (hP : va_P D vwCl (WL w σ) H) (hJ : Inj w) (hS : va_S (AL w) H0 H locs) {i : Nat} (hi : i < 184) (hk : kd i = 8) {j v : Int32} {σ' : Sg} (hg : sa σ i (ln i) j (vp_nar .byte v) = some σ') (hdg : decode cc pc = .ok (.bastore, 1)) (kk : ∀ (H : Heap) (locs : List Loc), va_P D vwCl (WL w σ') H → va_S (AL w) H0 H locs → W p l e R s m args below meth c H locs cells slots Q (F0 m (pc + 1) ls rest)) : W p l e R s m args below meth c H locs cells slots Q (F0 m pc ls (.int v :: .int j :: .ref (w.1 i) :: rest)) := by
  obtain ⟨h1, rfl⟩ := sa_spec hg
  refine va_bast hx hb hK.1 hP (WL_D hJ) hS i 0 ((WL_get hi).trans (by rw [ce8 hk])) rfl h1 hdg (fun H1 locs1 hP1 hD1 hS1 => kk H1 locs1 ?_ hS1)
  rw [WL_set (σ' := sf σ i j.toNatClampNeg (vp_nar .byte v)) hi (by rw [ce8 hk, sf_row]) (fun q hq => sf_ne hq)] at hP1
  exact hP1
theorem q_idiv (hx : p.tables.exec = Jvm.exec) (hb : c.code = cc) {x y v : Int32} (hg : di x y = some v) (hdg : decode cc pc = .ok (.idiv, 1)) (kk : W p l e R s m args below meth c H locs cells slots Q (F0 m (pc + 1) ls (.int v :: rest))) : W p l e R s m args below meth c H locs cells slots Q (F0 m pc ls (.int y :: .int x :: rest)) := by
  obtain ⟨h1, rfl⟩ := di_spec hg
  exact lv_idiv hx hb hdg h1 kk
theorem q_irem (hx : p.tables.exec = Jvm.exec) (hb : c.code = cc) {x y v : Int32} (hg : re x y = some v) (hdg : decode cc pc = .ok (.irem, 1)) (kk : W p l e R s m args below meth c H locs cells slots Q (F0 m (pc + 1) ls (.int v :: rest))) : W p l e R s m args below meth c H locs cells slots Q (F0 m pc ls (.int y :: .int x :: rest)) := by
  obtain ⟨h1, rfl⟩ := re_spec hg
  exact lv_irem hx hb hdg h1 kk
theorem q_iremL (hx : p.tables.exec = Jvm.exec) (hb : c.code = cc) {x y : Int32} (hne : ¬ y = 0) (hdg : decode cc pc = .ok (.irem, 1)) (kk : W p l e R s m args below meth c H locs cells slots Q (F0 m (pc + 1) ls (.int (jrem x y) :: rest))) : W p l e R s m args below meth c H locs cells slots Q (F0 m pc ls (.int y :: .int x :: rest)) := lv_irem hx hb hdg hne kk
theorem q_lremL (hx : p.tables.exec = Jvm.exec) (hb : c.code = cc) {x y : Int64} (hne : ¬ y = 0) (hdg : decode cc pc = .ok (.lrem, 1)) (kk : W p l e R s m args below meth c H locs cells slots Q (F0 m (pc + 1) ls (.long (jreml x y) :: rest))) : W p l e R s m args below meth c H locs cells slots Q (F0 m pc ls (.long y :: .long x :: rest)) := lv_lrem hx hb hdg hne kk
theorem q_copy (hx : p.tables.exec = Jvm.exec) (hb : c.code = cc) (hml : c.maxLocals = ls.size) (hts : ∀ x ∈ TB, x.before args s = true) {own : String} {index : Nat} (hown : s.vm.findClass own = some m.cls) (hw : Cond.methodLink own index arraycopyName ∈ TB ∧ Cond.native arraycopyName ∈ TB ∧ Cond.static arraycopyName ∈ TB ∧ Cond.initialized "java/lang/System" ∈ TB) (hK : KN D w s) (hP : va_P D vwCl (WL w σ) H) (hJ : Inj w) (hS : va_S (AL w) H0 H locs) {a b : Nat} (ha : a < 184) (ka : kd a = 9) (hb2 : b < 184) (kb : kd b = 9) {sp dp n : Int32} {σ' : Sg} (hg : cp σ a b sp dp n = some σ') (hR : 1 ≤ R.frames) (hL : (rest.map fun v => v.category).sum + 18 ≤ R.locals) (hdg : decode cc pc = .ok (.invokestatic index, 3)) (kk : ∀ (H : Heap) (locs : List Loc), va_P D vwCl (WL w σ') H → va_S (AL w) H0 H locs → W p l e R s m args below meth c H locs cells slots Q (F0 m (pc + 3) ls rest)) : W p l e R s m args below meth c H locs cells slots Q (F0 m pc ls (.int n :: .int dp :: .ref (w.1 b) :: .int sp :: .ref (w.1 a) :: rest)) := by
  unfold cp at hg
  by_cases hc : (sp < 0 ∨ dp < 0 ∨ n < 0 ∨ ln a < sp.toNatClampNeg + n.toNatClampNeg ∨ ln b < dp.toNatClampNeg + n.toNatClampNeg)
  · rw [if_pos hc] at hg; cases hg
  rw [if_neg hc] at hg
  cases hg
  simp only [not_or] at hc
  obtain ⟨h1, h2, h3, h4, h5⟩ := hc
  obtain ⟨w1, w2, w3, w4⟩ := hw
  refine va_copyi hx hb hml hown (hts _ w1) (hts _ w2) (hts _ w3) (hts _ w4) hK.1 hP (WL_D hJ) hS a b 1 1 ((WL_get ha).trans (by rw [ce9 ka])) ((WL_get hb2).trans (by rw [ce9 kb])) rfl rfl rfl h1 h2 h3 (Nat.not_lt.mp h4) (Nat.not_lt.mp h5) (fun _ _ => rfl) hR hL hdg (fun H1 locs1 hP1 hD1 hS1 => kk H1 locs1 ?_ hS1)
  rw [WL_set (σ' := va_up σ b (va_cpy (σ a) (σ b) sp.toNatClampNeg dp.toNatClampNeg n.toNatClampNeg)) hb2 (by rw [ce9 kb, va_up_self]) (fun q hq => va_up_ne _ _ hq)] at hP1
  exact hP1
theorem q_cVi (hx : p.tables.exec = Jvm.exec) (hb : c.code = cc) (hts : ∀ x ∈ TB, x.before args s = true) {own C : String} {idx maxL nL n : Nat} {y : MethodName} {bytes : ByteArray} {rm : Room} {As : List Value} {σ' : Sg} {i ci N : Nat} {T : u_T} {fs : List Value} {r : Int32} (hml : c.maxLocals = nL) (hown : s.vm.findClass own = some m.cls) (hK : KN D w s) (hP : va_P D vwCl (WL w σ) H) (hS : va_S (AL w) H0 H locs) (hM : Met l y (.code y bytes maxL (some .int) :: TB) rm (pcW D w (.ref (w.1 i) :: As) σ) (qiW D w r σ') 0 0 (AL w))
    (hw : Cond.methodLink own idx y ∈ TB ∧ Cond.instanceMethod y ∈ TB ∧ Cond.selects C y y ∈ TB ∧ Cond.initialized C ∈ TB ∧ Cond.code y bytes maxL (some .int) ∈ TB)
    (hd : y.cls = C ∧ y.cls ≠ "java/lang/invoke/MethodHandle" ∧ y.cls ≠ "java/lang/invoke/VarHandle" ∧ (parseMethodDescriptor y.desc).map (fun d => d.parameters.length) = some n) (hrm : rm.cells = 0 ∧ rm.slots = 0 ∧ As.length = n) (hi : i < 184) (hce : ce w σ i = .inr (ci, fs)) (hc : vwCl[ci]? = some (C, T, N)) (hR : rm.frames + 1 ≤ R.frames ∧ 8 + (maxL + 11) + rm.locals ≤ R.locals) (hcs : cells ≤ R.cells ∧ slots ≤ R.slots) (hsz : ls.size = nL) {st : List Value} (hst : st = As.reverse ++ .ref (w.1 i) :: rest) (hrest : (rest.map fun v => v.category).sum ≤ 8) (hdg : decode cc pc = .ok (.invokevirtual idx, 3))
    (kk : ∀ (H : Heap) (locs : List Loc), va_P D vwCl (WL w σ') H → va_S (AL w) H0 H locs → W p l e R s m args below meth c H locs cells slots Q (F0 m (pc + 3) ls (.int r :: rest))) : W p l e R s m args below meth c H locs cells slots Q (F0 m pc ls st) := by
  subst hst
  refine va_calli (va_runV (As := As) (rest := rest) ⟨hx, hb, hml, hown, hts⟩ hM (cwV n hts (good_V hw) rfl hrm.1 hrm.2.1 hd hR) ⟨pcW_blind, va_recv hK.1 hP hc ((WL_get hi).trans (by rw [hce])), pcW_pre hP hK⟩ rfl hrm.2.2 hsz rfl (lv_room hrest) hdg hcs) hS (fun _ _ h => h) (fun _ h => h) (fun r' u t H1 locs1 ht hvm hpost hB hz hk hS1 => ?_)
  have hpost : r' = r := hpost
  subst hpost
  exact kk H1 locs1 (by rw [← ht]; exact hB) hS1
theorem q_cVz (hx : p.tables.exec = Jvm.exec) (hb : c.code = cc) (hts : ∀ x ∈ TB, x.before args s = true) {own C : String} {idx maxL nL n : Nat} {y : MethodName} {bytes : ByteArray} {rm : Room} {As : List Value} {σ' : Sg} {i ci N : Nat} {T : u_T} {fs : List Value} {r : Int32} (hml : c.maxLocals = nL) (hown : s.vm.findClass own = some m.cls) (hK : KN D w s) (hP : va_P D vwCl (WL w σ) H) (hS : va_S (AL w) H0 H locs) (hM : Met l y (.code y bytes maxL (some .boolean) :: TB) rm (pcW D w (.ref (w.1 i) :: As) σ) (qzW D w r σ') 0 0 (AL w))
    (hw : Cond.methodLink own idx y ∈ TB ∧ Cond.instanceMethod y ∈ TB ∧ Cond.selects C y y ∈ TB ∧ Cond.initialized C ∈ TB ∧ Cond.code y bytes maxL (some .boolean) ∈ TB)
    (hd : y.cls = C ∧ y.cls ≠ "java/lang/invoke/MethodHandle" ∧ y.cls ≠ "java/lang/invoke/VarHandle" ∧ (parseMethodDescriptor y.desc).map (fun d => d.parameters.length) = some n) (hrm : rm.cells = 0 ∧ rm.slots = 0 ∧ As.length = n) (hi : i < 184) (hce : ce w σ i = .inr (ci, fs)) (hc : vwCl[ci]? = some (C, T, N)) (hR : rm.frames + 1 ≤ R.frames ∧ 8 + (maxL + 11) + rm.locals ≤ R.locals) (hcs : cells ≤ R.cells ∧ slots ≤ R.slots) (hsz : ls.size = nL) {st : List Value} (hst : st = As.reverse ++ .ref (w.1 i) :: rest) (hrest : (rest.map fun v => v.category).sum ≤ 8) (hdg : decode cc pc = .ok (.invokevirtual idx, 3))
    (kk : narrow .boolean (.int r) = .int r → ∀ (H : Heap) (locs : List Loc), va_P D vwCl (WL w σ') H → va_S (AL w) H0 H locs → W p l e R s m args below meth c H locs cells slots Q (F0 m (pc + 3) ls (.int r :: rest))) : W p l e R s m args below meth c H locs cells slots Q (F0 m pc ls st) := by
  subst hst
  refine va_calli (va_runV (As := As) (rest := rest) ⟨hx, hb, hml, hown, hts⟩ hM (cwV n hts (good_V hw) rfl hrm.1 hrm.2.1 hd hR) ⟨pcW_blind, va_recv hK.1 hP hc ((WL_get hi).trans (by rw [hce])), pcW_pre hP hK⟩ rfl hrm.2.2 hsz rfl (lv_room hrest) hdg hcs) hS (fun _ _ h => h) (fun _ h => h) (fun r' u t H1 locs1 ht hvm hpost hB hz hk hS1 => ?_)
  obtain ⟨h1, h2⟩ : r' = r ∧ narrow .boolean (.int r) = .int r := hpost
  subst h1
  exact kk h2 H1 locs1 (by rw [← ht]; exact hB) hS1
theorem q_cVv (hx : p.tables.exec = Jvm.exec) (hb : c.code = cc) (hts : ∀ x ∈ TB, x.before args s = true) {own C : String} {idx maxL nL n : Nat} {y : MethodName} {bytes : ByteArray} {rm : Room} {As : List Value} {σ' : Sg} {i ci N : Nat} {T : u_T} {fs : List Value}  (hml : c.maxLocals = nL) (hown : s.vm.findClass own = some m.cls) (hK : KN D w s) (hP : va_P D vwCl (WL w σ) H) (hS : va_S (AL w) H0 H locs) (hM : Met l y (.code y bytes maxL none :: TB) rm (pcW D w (.ref (w.1 i) :: As) σ) (qvW D w σ') 0 0 (AL w))
    (hw : Cond.methodLink own idx y ∈ TB ∧ Cond.instanceMethod y ∈ TB ∧ Cond.selects C y y ∈ TB ∧ Cond.initialized C ∈ TB ∧ Cond.code y bytes maxL none ∈ TB)
    (hd : y.cls = C ∧ y.cls ≠ "java/lang/invoke/MethodHandle" ∧ y.cls ≠ "java/lang/invoke/VarHandle" ∧ (parseMethodDescriptor y.desc).map (fun d => d.parameters.length) = some n) (hrm : rm.cells = 0 ∧ rm.slots = 0 ∧ As.length = n) (hi : i < 184) (hce : ce w σ i = .inr (ci, fs)) (hc : vwCl[ci]? = some (C, T, N)) (hR : rm.frames + 1 ≤ R.frames ∧ 8 + (maxL + 11) + rm.locals ≤ R.locals) (hcs : cells ≤ R.cells ∧ slots ≤ R.slots) (hsz : ls.size = nL) {st : List Value} (hst : st = As.reverse ++ .ref (w.1 i) :: rest) (hrest : (rest.map fun v => v.category).sum ≤ 8) (hdg : decode cc pc = .ok (.invokevirtual idx, 3))
    (kk : ∀ (H : Heap) (locs : List Loc), va_P D vwCl (WL w σ') H → va_S (AL w) H0 H locs → W p l e R s m args below meth c H locs cells slots Q (F0 m (pc + 3) ls (rest))) : W p l e R s m args below meth c H locs cells slots Q (F0 m pc ls st) := by
  subst hst
  refine va_callv (va_runV (As := As) (rest := rest) ⟨hx, hb, hml, hown, hts⟩ hM (cwV n hts (good_V hw) rfl hrm.1 hrm.2.1 hd hR) ⟨pcW_blind, va_recv hK.1 hP hc ((WL_get hi).trans (by rw [hce])), pcW_pre hP hK⟩ rfl hrm.2.2 hsz rfl (lv_room hrest) hdg hcs) hS (fun _ _ h => h) (fun _ h => h) (fun u t H1 locs1 ht hvm hpost hB hz hk hS1 => ?_)
  exact kk H1 locs1 (by rw [← ht]; exact hB) hS1
theorem q_cVr (hx : p.tables.exec = Jvm.exec) (hb : c.code = cc) (hts : ∀ x ∈ TB, x.before args s = true) {own C : String} {idx maxL nL n : Nat} {y : MethodName} {bytes : ByteArray} {rm : Room} {As : List Value} {σ' : Sg} {i ci N : Nat} {T : u_T} {fs : List Value} {r : Nat} {rt : FieldType} (hml : c.maxLocals = nL) (hown : s.vm.findClass own = some m.cls) (hK : KN D w s) (hP : va_P D vwCl (WL w σ) H) (hS : va_S (AL w) H0 H locs) (hM : Met l y (.code y bytes maxL (some rt) :: TB) rm (pcW D w (.ref (w.1 i) :: As) σ) (qrW D w r σ') 0 0 (AL w))
    (hw : Cond.methodLink own idx y ∈ TB ∧ Cond.instanceMethod y ∈ TB ∧ Cond.selects C y y ∈ TB ∧ Cond.initialized C ∈ TB ∧ Cond.code y bytes maxL (some rt) ∈ TB)
    (hd : y.cls = C ∧ y.cls ≠ "java/lang/invoke/MethodHandle" ∧ y.cls ≠ "java/lang/invoke/VarHandle" ∧ (parseMethodDescriptor y.desc).map (fun d => d.parameters.length) = some n) (hrm : rm.cells = 0 ∧ rm.slots = 0 ∧ As.length = n) (hi : i < 184) (hce : ce w σ i = .inr (ci, fs)) (hc : vwCl[ci]? = some (C, T, N)) (hR : rm.frames + 1 ≤ R.frames ∧ 8 + (maxL + 11) + rm.locals ≤ R.locals) (hcs : cells ≤ R.cells ∧ slots ≤ R.slots) (hsz : ls.size = nL) {st : List Value} (hst : st = As.reverse ++ .ref (w.1 i) :: rest) (hrest : (rest.map fun v => v.category).sum ≤ 8) (hdg : decode cc pc = .ok (.invokevirtual idx, 3))
    (kk : ∀ (H : Heap) (locs : List Loc), va_P D vwCl (WL w σ') H → va_S (AL w) H0 H locs → W p l e R s m args below meth c H locs cells slots Q (F0 m (pc + 3) ls (.ref (w.1 r) :: rest))) : W p l e R s m args below meth c H locs cells slots Q (F0 m pc ls st) := by
  subst hst
  refine va_callr (va_runV (As := As) (rest := rest) ⟨hx, hb, hml, hown, hts⟩ hM (cwV n hts (good_V hw) rfl hrm.1 hrm.2.1 hd hR) ⟨pcW_blind, va_recv hK.1 hP hc ((WL_get hi).trans (by rw [hce])), pcW_pre hP hK⟩ rfl hrm.2.2 hsz rfl (lv_room hrest) hdg hcs) hS (fun _ _ h => h) (fun _ h => h) (fun u ra t H1 locs1 ht hvm hpost hB hz hk hS1 => ?_)
  obtain ⟨h1, h2⟩ : ra = w.1 r ∧ va_P D vwCl (WL w σ') t.heap := hB
  subst h1
  exact kk H1 locs1 (by rw [← ht]; exact h2) hS1
theorem q_cSi (hx : p.tables.exec = Jvm.exec) (hb : c.code = cc) (hts : ∀ x ∈ TB, x.before args s = true) {own : String} {idx maxL nL n : Nat} {y : MethodName} {bytes : ByteArray} {rm : Room} {As : List Value} {σ' : Sg} {r : Int32} (hml : c.maxLocals = nL) (hown : s.vm.findClass own = some m.cls) (hK : KN D w s) (hP : va_P D vwCl (WL w σ) H) (hS : va_S (AL w) H0 H locs) (hM : Met l y (.code y bytes maxL (some .int) :: TB) rm (pcW D w As σ) (qiW D w r σ') 0 0 (AL w))
    (hw : Cond.methodLink own idx y ∈ TB ∧ Cond.static y ∈ TB ∧ Cond.initialized y.cls ∈ TB ∧ Cond.code y bytes maxL (some .int) ∈ TB)
    (hd : y.cls ≠ "java/lang/invoke/MethodHandle" ∧ y.cls ≠ "java/lang/invoke/VarHandle" ∧ (parseMethodDescriptor y.desc).map (fun d => d.parameters.length) = some n) (hrm : rm.cells = 0 ∧ rm.slots = 0 ∧ As.length = n) (hR : rm.frames + 1 ≤ R.frames ∧ 8 + (maxL + 11) + rm.locals ≤ R.locals) (hcs : cells ≤ R.cells ∧ slots ≤ R.slots) (hsz : ls.size = nL) {st : List Value} (hst : st = As.reverse ++ rest) (hrest : (rest.map fun v => v.category).sum ≤ 8) (hdg : decode cc pc = .ok (.invokestatic idx, 3))
    (kk : ∀ (H : Heap) (locs : List Loc), va_P D vwCl (WL w σ') H → va_S (AL w) H0 H locs → W p l e R s m args below meth c H locs cells slots Q (F0 m (pc + 3) ls (.int r :: rest))) : W p l e R s m args below meth c H locs cells slots Q (F0 m pc ls st) := by
  subst hst
  obtain ⟨w1, w2, w3, w4⟩ := hw
  refine va_calli (va_runS (As := As) (rest := rest) ⟨hx, hb, hml, hown, hts⟩ hM ⟨callB_of n hts (good_code w4) rfl hrm.1 hrm.2.1 (hts _ w3) (hts _ w1) hd hR, hts _ w2⟩ ⟨pcW_blind, pcW_pre hP hK⟩ rfl hrm.2.2 hsz rfl (lv_room hrest) hdg hcs) hS (fun _ _ h => h) (fun _ h => h) (fun r' u t H1 locs1 ht hvm hpost hB hz hk hS1 => ?_)
  have hpost : r' = r := hpost
  subst hpost
  exact kk H1 locs1 (by rw [← ht]; exact hB) hS1
theorem q_cSz (hx : p.tables.exec = Jvm.exec) (hb : c.code = cc) (hts : ∀ x ∈ TB, x.before args s = true) {own : String} {idx maxL nL n : Nat} {y : MethodName} {bytes : ByteArray} {rm : Room} {As : List Value} {σ' : Sg} {r : Int32} (hml : c.maxLocals = nL) (hown : s.vm.findClass own = some m.cls) (hK : KN D w s) (hP : va_P D vwCl (WL w σ) H) (hS : va_S (AL w) H0 H locs) (hM : Met l y (.code y bytes maxL (some .boolean) :: TB) rm (pcW D w As σ) (qzW D w r σ') 0 0 (AL w))
    (hw : Cond.methodLink own idx y ∈ TB ∧ Cond.static y ∈ TB ∧ Cond.initialized y.cls ∈ TB ∧ Cond.code y bytes maxL (some .boolean) ∈ TB)
    (hd : y.cls ≠ "java/lang/invoke/MethodHandle" ∧ y.cls ≠ "java/lang/invoke/VarHandle" ∧ (parseMethodDescriptor y.desc).map (fun d => d.parameters.length) = some n) (hrm : rm.cells = 0 ∧ rm.slots = 0 ∧ As.length = n) (hR : rm.frames + 1 ≤ R.frames ∧ 8 + (maxL + 11) + rm.locals ≤ R.locals) (hcs : cells ≤ R.cells ∧ slots ≤ R.slots) (hsz : ls.size = nL) {st : List Value} (hst : st = As.reverse ++ rest) (hrest : (rest.map fun v => v.category).sum ≤ 8) (hdg : decode cc pc = .ok (.invokestatic idx, 3))
    (kk : narrow .boolean (.int r) = .int r → ∀ (H : Heap) (locs : List Loc), va_P D vwCl (WL w σ') H → va_S (AL w) H0 H locs → W p l e R s m args below meth c H locs cells slots Q (F0 m (pc + 3) ls (.int r :: rest))) : W p l e R s m args below meth c H locs cells slots Q (F0 m pc ls st) := by
  subst hst
  obtain ⟨w1, w2, w3, w4⟩ := hw
  refine va_calli (va_runS (As := As) (rest := rest) ⟨hx, hb, hml, hown, hts⟩ hM ⟨callB_of n hts (good_code w4) rfl hrm.1 hrm.2.1 (hts _ w3) (hts _ w1) hd hR, hts _ w2⟩ ⟨pcW_blind, pcW_pre hP hK⟩ rfl hrm.2.2 hsz rfl (lv_room hrest) hdg hcs) hS (fun _ _ h => h) (fun _ h => h) (fun r' u t H1 locs1 ht hvm hpost hB hz hk hS1 => ?_)
  obtain ⟨h1, h2⟩ : r' = r ∧ narrow .boolean (.int r) = .int r := hpost
  subst h1
  exact kk h2 H1 locs1 (by rw [← ht]; exact hB) hS1
theorem q_cSv (hx : p.tables.exec = Jvm.exec) (hb : c.code = cc) (hts : ∀ x ∈ TB, x.before args s = true) {own : String} {idx maxL nL n : Nat} {y : MethodName} {bytes : ByteArray} {rm : Room} {As : List Value} {σ' : Sg}  (hml : c.maxLocals = nL) (hown : s.vm.findClass own = some m.cls) (hK : KN D w s) (hP : va_P D vwCl (WL w σ) H) (hS : va_S (AL w) H0 H locs) (hM : Met l y (.code y bytes maxL none :: TB) rm (pcW D w As σ) (qvW D w σ') 0 0 (AL w))
    (hw : Cond.methodLink own idx y ∈ TB ∧ Cond.static y ∈ TB ∧ Cond.initialized y.cls ∈ TB ∧ Cond.code y bytes maxL none ∈ TB)
    (hd : y.cls ≠ "java/lang/invoke/MethodHandle" ∧ y.cls ≠ "java/lang/invoke/VarHandle" ∧ (parseMethodDescriptor y.desc).map (fun d => d.parameters.length) = some n) (hrm : rm.cells = 0 ∧ rm.slots = 0 ∧ As.length = n) (hR : rm.frames + 1 ≤ R.frames ∧ 8 + (maxL + 11) + rm.locals ≤ R.locals) (hcs : cells ≤ R.cells ∧ slots ≤ R.slots) (hsz : ls.size = nL) {st : List Value} (hst : st = As.reverse ++ rest) (hrest : (rest.map fun v => v.category).sum ≤ 8) (hdg : decode cc pc = .ok (.invokestatic idx, 3))
    (kk : ∀ (H : Heap) (locs : List Loc), va_P D vwCl (WL w σ') H → va_S (AL w) H0 H locs → W p l e R s m args below meth c H locs cells slots Q (F0 m (pc + 3) ls (rest))) : W p l e R s m args below meth c H locs cells slots Q (F0 m pc ls st) := by
  subst hst
  obtain ⟨w1, w2, w3, w4⟩ := hw
  refine va_callv (va_runS (As := As) (rest := rest) ⟨hx, hb, hml, hown, hts⟩ hM ⟨callB_of n hts (good_code w4) rfl hrm.1 hrm.2.1 (hts _ w3) (hts _ w1) hd hR, hts _ w2⟩ ⟨pcW_blind, pcW_pre hP hK⟩ rfl hrm.2.2 hsz rfl (lv_room hrest) hdg hcs) hS (fun _ _ h => h) (fun _ h => h) (fun u t H1 locs1 ht hvm hpost hB hz hk hS1 => ?_)
  exact kk H1 locs1 (by rw [← ht]; exact hB) hS1
theorem q_cNz (hx : p.tables.exec = Jvm.exec) (hb : c.code = cc) (hts : ∀ x ∈ TB, x.before args s = true) {own : String} {idx maxL nL n : Nat} {y : MethodName} {bytes : ByteArray} {rm : Room} {As : List Value} {σ' : Sg} {r : Int32} {host : String} (hnw : va_Nw (.methodLinkNest own idx y host) s) (hml : c.maxLocals = nL) (hown : s.vm.findClass own = some m.cls) (hK : KN D w s) (hP : va_P D vwCl (WL w σ) H) (hS : va_S (AL w) H0 H locs) (hM : Met l y (.code y bytes maxL (some .boolean) :: TB) rm (pcW D w As σ) (qzW D w r σ') 0 0 (AL w))
    (hw : Cond.static y ∈ TB ∧ Cond.initialized y.cls ∈ TB ∧ Cond.code y bytes maxL (some .boolean) ∈ TB)
    (hd : y.cls ≠ "java/lang/invoke/MethodHandle" ∧ y.cls ≠ "java/lang/invoke/VarHandle" ∧ (parseMethodDescriptor y.desc).map (fun d => d.parameters.length) = some n) (hrm : rm.cells = 0 ∧ rm.slots = 0 ∧ As.length = n) (hR : rm.frames + 1 ≤ R.frames ∧ 8 + (maxL + 11) + rm.locals ≤ R.locals) (hcs : cells ≤ R.cells ∧ slots ≤ R.slots) (hsz : ls.size = nL) {st : List Value} (hst : st = As.reverse ++ rest) (hrest : (rest.map fun v => v.category).sum ≤ 8) (hdg : decode cc pc = .ok (.invokestatic idx, 3))
    (kk : narrow .boolean (.int r) = .int r → ∀ (H : Heap) (locs : List Loc), va_P D vwCl (WL w σ') H → va_S (AL w) H0 H locs → W p l e R s m args below meth c H locs cells slots Q (F0 m (pc + 3) ls (.int r :: rest))) : W p l e R s m args below meth c H locs cells slots Q (F0 m pc ls st) := by
  subst hst
  obtain ⟨w2, w3, w4⟩ := hw
  refine va_calli (va_runSN (As := As) (rest := rest) ⟨hx, hb, hml, hown, hts⟩ hM ⟨va_cnB n hts (good_code w4) rfl hrm.1 hrm.2.1 hnw (hts _ w3) hd hR, hts _ w2, trivial⟩ ⟨pcW_blind, pcW_pre hP hK⟩ rfl hrm.2.2 hsz rfl (lv_room hrest) hdg hcs) hS (fun _ _ h => h) (fun _ h => h) (fun r' u t H1 locs1 ht hvm hpost hB hz hk hS1 => ?_)
  obtain ⟨h1, h2⟩ : r' = r ∧ narrow .boolean (.int r) = .int r := hpost
  subst h1
  exact kk h2 H1 locs1 (by rw [← ht]; exact hB) hS1
end QR
section QT
variable {p : Program} {l : Launch} {e : Env} {R : Room} {s : State} {m : MethodId} {args : Array Value} {below : List Frame} {meth : Method} {c : Code} {H : Heap} {locs : List Loc} {cells slots : Nat} {cc : ByteArray} {pc : Nat} {ls : Array Slot} {D : va_G} {w : Wv} {σ : Sg}
theorem q_iret (hx : p.tables.exec = Jvm.exec) (hb : c.code = cc) (hr : meth.sig.returnType = some .int) (hlk : meth.locks = false) (hP : va_P D vwCl (WL w σ) H) (hS : va_S (AL w) s.heap H locs) {v r : Int32} {σ' : Sg} (hv : v = r) (hσ : σ = σ') (hdg : decode cc pc = .ok (.ireturn, 1)) : W p l e R s m args below meth c H locs cells slots (MQ below (qiW D w r σ') args s cells slots (AL w)) (F0 m pc ls [.int v]) := by
  subst hv; subst hσ
  exact W.iret hx hb hr (fun t ht hW => ⟨⟨v, (), rfl, rfl, by show va_P D vwCl (WL w σ) t.heap; rw [ht]; exact hP⟩, hS.F ht⟩) hS.2.2 hdg hlk
theorem q_zret (hx : p.tables.exec = Jvm.exec) (hb : c.code = cc) (hr : meth.sig.returnType = some .boolean) (hlk : meth.locks = false) (hP : va_P D vwCl (WL w σ) H) (hS : va_S (AL w) s.heap H locs) {v r : Int32} {σ' : Sg} (hn : narrow .boolean (.int v) = .int v) (hv : v = r) (hσ : σ = σ') (hdg : decode cc pc = .ok (.ireturn, 1)) : W p l e R s m args below meth c H locs cells slots (MQ below (qzW D w r σ') args s cells slots (AL w)) (F0 m pc ls [.int v]) := by
  subst hv; subst hσ
  exact W.zret hx hb hr hn (fun t ht hW => ⟨⟨v, (), rfl, ⟨rfl, hn⟩, by show va_P D vwCl (WL w σ) t.heap; rw [ht]; exact hP⟩, hS.F ht⟩) hS.2.2 hdg hlk
theorem q_vret (hx : p.tables.exec = Jvm.exec) (hb : c.code = cc) (hr : meth.sig.returnType = none) (hlk : meth.locks = false) (hP : va_P D vwCl (WL w σ) H) (hS : va_S (AL w) s.heap H locs) {σ' : Sg} (hσ : σ = σ') (hdg : decode cc pc = .ok (.return_, 1)) : W p l e R s m args below meth c H locs cells slots (MQ below (qvW D w σ') args s cells slots (AL w)) (F0 m pc ls []) := by
  subst hσ
  exact W.vret hx hb hr (fun t ht hW => ⟨⟨(), rfl, trivial, by show va_P D vwCl (WL w σ) t.heap; rw [ht]; exact hP⟩, hS.F ht⟩) hS.2.2 hdg hlk
theorem q_aret (hx : p.tables.exec = Jvm.exec) (hb : c.code = cc) {C : String} (hr : meth.sig.returnType = some (.object C)) (hlk : meth.locks = false) (hP : va_P D vwCl (WL w σ) H) (hS : va_S (AL w) s.heap H locs) {i : Nat} {σ' : Sg} (hσ : σ = σ') (hdg : decode cc pc = .ok (.areturn, 1)) : W p l e R s m args below meth c H locs cells slots (MQ below (qrW D w i σ') args s cells slots (AL w)) (F0 m pc ls [.ref (w.1 i)]) := by
  subst hσ
  exact W.aret hx hb hr (Or.inl ⟨_, rfl⟩) (Or.inr ⟨_, rfl⟩) (fun t ht hW => ⟨⟨(), w.1 i, rfl, trivial, rfl, by show va_P D vwCl (WL w σ) t.heap; rw [ht]; exact hP⟩, hS.F ht⟩) hS.2.2 hdg hlk
end QT
def isG (g : Nat) : Prop := g + 1 < 184 ∧ kd g = 0 ∧ kd (g + 1) = 9
theorem isG.o {g : Nat} (h : isG g) : g < 184 := Nat.lt_of_succ_lt h.1
theorem isG.k {g : Nat} (h : isG g) : kd g = 0 := h.2.1
theorem isG.ao {g : Nat} (h : isG g) : g + 1 < 184 := h.1
theorem isG.ak {g : Nat} (h : isG g) : kd (g + 1) = 9 := h.2.2
def isR (r : Nat) : Prop := r < 184 ∧ kd r = 3 ∧ isG (r + 1) ∧ isG (r + 3)
theorem isR.o {r : Nat} (h : isR r) : r < 184 := h.1
theorem isR.k {r : Nat} (h : isR r) : kd r = 3 := h.2.1
theorem isR.f1 {r : Nat} (h : isR r) : isG (r + 1) := h.2.2.1
theorem isR.f2 {r : Nat} (h : isR r) : isG (r + 3) := h.2.2.2
def isY (y : Nat) : Prop := y < 184 ∧ kd y = 5 ∧ isR (y + 1) ∧ isG (y + 6) ∧ isG (y + 8) ∧ isG (y + 10) ∧ isG (y + 12)
theorem isY.o {y : Nat} (h : isY y) : y < 184 := h.1
theorem isY.k {y : Nat} (h : isY y) : kd y = 5 := h.2.1
theorem isY.f0 {y : Nat} (h : isY y) : isR (y + 1) := h.2.2.1
theorem isY.f1 {y : Nat} (h : isY y) : isG (y + 6) := h.2.2.2.1
theorem isY.f2 {y : Nat} (h : isY y) : isG (y + 8) := h.2.2.2.2.1
theorem isY.f3 {y : Nat} (h : isY y) : isG (y + 10) := h.2.2.2.2.2.1
theorem isY.f4 {y : Nat} (h : isY y) : isG (y + 12) := h.2.2.2.2.2.2
def isN (n : Nat) : Prop := n < 184 ∧ kd n = 2 ∧ isG (n + 1)
theorem isN.o {n : Nat} (h : isN n) : n < 184 := h.1
theorem isN.k {n : Nat} (h : isN n) : kd n = 2 := h.2.1
theorem isN.f0 {n : Nat} (h : isN n) : isG (n + 1) := h.2.2
def isL (t : Nat) : Prop := t < 184 ∧ kd t = 1 ∧ isG (t + 1) ∧ isG (t + 3)
theorem isL.o {t : Nat} (h : isL t) : t < 184 := h.1
theorem isL.k {t : Nat} (h : isL t) : kd t = 1 := h.2.1
theorem isL.f0 {t : Nat} (h : isL t) : isG (t + 1) := h.2.2.1
theorem isL.f1 {t : Nat} (h : isL t) : isG (t + 3) := h.2.2.2
def isS (a : Nat) : Prop := a + 1 < 184 ∧ kd a = 4 ∧ kd (a + 1) = 10 ∧ ∀ k, k < ln (a + 1) → isY (a + 1 + 1 + 14 * k)
theorem isS.o {a : Nat} (h : isS a) : a < 184 := Nat.lt_of_succ_lt h.1
theorem isS.k {a : Nat} (h : isS a) : kd a = 4 := h.2.1
theorem isS.ao {a : Nat} (h : isS a) : a + 1 < 184 := h.1
theorem isS.ak {a : Nat} (h : isS a) : kd (a + 1) = 10 := h.2.2.1
theorem isS.y {a : Nat} (h : isS a) {k : Nat} (hk : k < ln (a + 1)) : isY (a + 1 + 1 + 14 * k) := h.2.2.2 k hk
def isC (a : Nat) : Prop := a < 184 ∧ kd a = 9
theorem isC.o {a : Nat} (h : isC a) : a < 184 := h.1
theorem isC.k {a : Nat} (h : isC a) : kd a = 9 := h.2
theorem isG_of {g : Nat} (h : (decide (g + 1 < 184) && (kd g == 0) && (kd (g + 1) == 9)) = true) : isG g := by
  simp only [Bool.and_eq_true, decide_eq_true_eq, beq_iff_eq] at h
  exact ⟨h.1.1, h.1.2, h.2⟩
theorem isY_of {y : Nat} (h1 : y < 184) (h2 : kd y = 5) (h3 : kd (y + 1) = 3) (h : (List.all [y + 2, y + 4, y + 6, y + 8, y + 10, y + 12] fun g => decide (g + 1 < 184) && (kd g == 0) && (kd (g + 1) == 9)) = true) : isY y := by
  simp only [List.all_cons, List.all_nil, Bool.and_true, Bool.and_eq_true (a := _ && _ && _)] at h
  obtain ⟨a, b, c, d, e, f⟩ := h
  exact ⟨h1, h2, ⟨by have := (isG_of a).o; omega, h3, isG_of a, isG_of b⟩, isG_of c, isG_of d, isG_of e, isG_of f⟩
theorem isY6 : isY 6 := isY_of (by decide) (by decide) (by decide) (by decide)
theorem isY20 : isY 20 := isY_of (by decide) (by decide) (by decide) (by decide)
theorem isL1 : isL 1 := ⟨by decide, by decide, isG_of (by decide), isG_of (by decide)⟩
theorem isN178 : isN 178 := ⟨by decide, by decide, isG_of (by decide)⟩
theorem isN181 : isN 181 := ⟨by decide, by decide, isG_of (by decide)⟩
theorem isS34 : isS 34 := ⟨by decide, by decide, by decide, fun k hk => by
  have hk : k < 8 := hk
  rcases (show k = 0 ∨ k = 1 ∨ k = 2 ∨ k = 3 ∨ k = 4 ∨ k = 5 ∨ k = 6 ∨ k = 7 by omega) with rfl | rfl | rfl | rfl | rfl | rfl | rfl | rfl <;> exact isY_of (by decide) (by decide) (by decide) (by decide)⟩
theorem isS148 : isS 148 := ⟨by decide, by decide, by decide, fun k hk => by
  have hk : k < 2 := hk
  rcases (show k = 0 ∨ k = 1 by omega) with rfl | rfl <;> exact isY_of (by decide) (by decide) (by decide) (by decide)⟩
theorem kd0 : kd 0 = 6 := by decide
theorem o0 : 0 < 184 := by decide
