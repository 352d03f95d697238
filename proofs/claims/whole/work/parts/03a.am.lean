/-! THE ABSTRACT MACHINE. Cells by numbers (am_sh: what each is), memory a function of cell and place, ints as Int (an int of the machine is Int32.ofInt of it). AW: the machine inside a method, from a pc on; AC: a method's contract. -/
abbrev am_v : Type := Int ⊕ Nat
abbrev am_M : Type := Nat → Int → Int
abbrev am_S : Type := (Nat × Nat) ⊕ (Nat × List (Option Nat))
abbrev am_mm : Type := MethodName × ByteArray × Nat × Option FieldType
abbrev am_cl : List vw_C := [(RX0, TX0, 2), (RX1, TX1, 7), (RX2, TX2, 4), (RX3, TX3, 4), (RX4, TX4, 6), (RX5, TX5, 5), (RX6, TX6, 10), (RX7, TX7, 12), (RX8, TX8, 23)]
def am_T : List Cond := lw_tbl.filter goodWord
def am_w (mm : am_mm) : List Cond := .code mm.1 mm.2.1 mm.2.2.1 mm.2.2.2 :: am_T
def am_room (d : Nat) : Room := { frames := d, cells := 0, slots := 0, locals := 39 * d }
/-- array kinds: 0 int, 1 char, 2 boolean, 3 byte, 4 Scene -/
def am_sh : List am_S := [
  .inr (7, [some 1, some 4, some 7, some 9, some 29, some 30, some 31, some 36, some 41, some 51, none, none]),
  .inr (3, [none, none, some 2, some 3]), .inl (0, 3), .inl (0, 96),
  .inr (3, [none, none, some 5, some 6]), .inl (0, 3), .inl (0, 96),
  .inr (5, [none, some 8, none, none, none]), .inl (1, 140),
  .inr (0, [none, some 10]), .inl (4, 6),
  .inr (3, [none, none, some 12, some 13]), .inl (0, 3), .inl (0, 96),
  .inr (3, [none, none, some 15, some 16]), .inl (0, 3), .inl (0, 96),
  .inr (3, [none, none, some 18, some 19]), .inl (0, 3), .inl (0, 96),
  .inr (3, [none, none, some 21, some 22]), .inl (0, 3), .inl (0, 96),
  .inr (3, [none, none, some 24, some 25]), .inl (0, 3), .inl (0, 96),
  .inr (3, [none, none, some 27, some 28]), .inl (0, 3), .inl (0, 96),
  .inl (4, 2), .inl (2, 2),
  .inr (2, [some 32, some 33, some 34, some 35]), .inl (0, 8), .inl (0, 48), .inl (0, 48), .inl (0, 48),
  .inr (1, [some 37, some 38, some 39, some 40, none, none, none]), .inl (0, 6), .inl (0, 6), .inl (0, 6), .inl (0, 49),
  .inr (6, [none, some 42, some 43, some 44, some 45, some 46, some 47, some 48, some 49, some 50]), .inl (0, 48), .inl (0, 48), .inl (0, 48), .inl (0, 48), .inl (0, 48), .inl (0, 48), .inl (0, 384), .inl (0, 48), .inl (0, 48),
  .inr (4, [none, some 52, some 53, none, some 54, some 55]), .inl (0, 6), .inl (0, 6), .inl (0, 48), .inl (0, 55),
  .inr (3, [none, none, some 57, some 58]), .inl (0, 3), .inl (0, 96),
  .inr (3, [none, none, some 60, some 61]), .inl (0, 3), .inl (0, 96),
  .inr (8, [none, some 63, some 64, some 65, none, some 66, some 67, some 68, none, some 69, none, none, none, none, none, some 70, some 71, some 72, some 73, none, some 74, none, none]),
  .inl (0, 101), .inl (0, 101), .inl (0, 606), .inl (0, 202), .inl (2, 2), .inl (0, 12), .inl (3, 140), .inl (0, 8), .inl (0, 48), .inl (0, 48), .inl (0, 48), .inl (0, 49)]
def am_val (ad : Nat → Nat) : am_v → Value
  | .inl z => .int (Int32.ofInt z)
  | .inr a => .ref (ad a)
def am_fv (ad : Nat → Nat) (M : am_M) (a k : Nat) : Option Nat → Value
  | none => .int (Int32.ofInt (M a (k : Int)))
  | some b => .ref (ad b)
def am_cell (dA : Nat → ClassId) (ad : Nat → Nat) (M : am_M) (a : Nat) : am_S → va_E
  | .inl q => if q.1 = 4 then .inl (dA 4, q.2, .inr (.inr (.inr (.inr (fun j => some (ad (M a (j : Int)).toNat)))))) else .inl (dA q.1, q.2, .inl (fun j => Int32.ofInt (M a (j : Int))))
  | .inr q => .inr (q.1, q.2.mapIdx (fun k o => am_fv ad M a k o))
def am_ws (dA : Nat → ClassId) (ad : Nat → Nat) (M : am_M) : va_W := am_sh.mapIdx (fun a s => (ad a, am_cell dA ad M a s))
def am_tys (dA : Nat → ClassId) : List (ClassId × FieldType) := [(dA 0, .int), (dA 1, .char), (dA 2, .boolean), (dA 3, .byte), (dA 4, .object RX3)]
def am_A (ad : Nat → Nat) : Nat → Prop := fun q => ∃ a, a < am_sh.length ∧ q = ad a
def am_inj (ad : Nat → Nat) : Prop := ∀ a b, a < am_sh.length → b < am_sh.length → ad a = ad b → a = b
/-- memory with one place changed -/
def am_up (M : am_M) (a : Nat) (i z : Int) : am_M := fun b j => if b = a then (if j = i then z else M b j) else M b j
/-- a method's own list of what is known of its locals, at its start -/
def am_L : Nat → List am_v → List (Nat × am_v)
  | _, [] => []
  | i, v :: vs => (i, v) :: am_L (i + 1) vs
/-- static rows of ints -/
def am_tb (xs : List Int) : Nat → Value := fun j => .int (Int32.ofInt (xs.getD j 0))
def am_lo : List Int := [1, 0, 1]
def am_hi : List Int := [9, 20, 8]
def am_fi : List Int := [1, 4, 1]
def am_byt : List (List Int32) := [[102, 114, 97, 109, 101], [102, 108, 111, 111, 114], [114, 101, 97, 99, 104], [108, 101, 97, 115, 116]]
/-- what nobody changes: statics, String constants, nest words -/
def am_K (ad : Nat → Nat) (U : State) : Prop :=
  (va_Z "FollowedPeaks" "SETTING_LOWEST" "[I" (.ref (ad 100)) (am_A ad) U U.heap ∧ va_T .int (ad 100) 3 (am_tb am_lo) (am_A ad) U U.heap) ∧
  (va_Z "FollowedPeaks" "SETTING_HIGHEST" "[I" (.ref (ad 101)) (am_A ad) U U.heap ∧ va_T .int (ad 101) 3 (am_tb am_hi) (am_A ad) U U.heap) ∧
  (va_Z "FollowedPeaks" "SETTING_AT_FIRST" "[I" (.ref (ad 102)) (am_A ad) U U.heap ∧ va_T .int (ad 102) 3 (am_tb am_fi) (am_A ad) U U.heap) ∧
  (va_Nw (.fieldLinkNest "FollowedPeaks$Scene" 28 "FollowedPeaks" "SETTING_AT_FIRST" "[I" "FollowedPeaks") U ∧ va_Nw (.methodLinkNest "FollowedPeaks$Text" 71 yX7_isSetting "FollowedPeaks") U) ∧
  (vk_S 4 [5, 5, 5, 5] am_byt (fun i => ad (110 + i)) (fun i => ad (120 + i)) (am_A ad) U U.heap ∧ vk_R "FollowedPeaks$Text" 43 "frame" (ad 110) U ∧ vk_R "FollowedPeaks$Text" 79 "floor" (ad 111) U ∧ vk_R "FollowedPeaks$Text" 81 "reach" (ad 112) U ∧ vk_R "FollowedPeaks$Text" 83 "least" (ad 113) U) ∧
  (va_Z "java/lang/String" "COMPACT_STRINGS" "Z" (.int 1) (am_A ad) U U.heap ∧ va_Zq "jdk/internal/util/Preconditions" "SIOOBE_FORMATTER" "Ljava/util/function/BiFunction;" (am_A ad) U U.heap)
def am_Pre (D : va_G) (dA : Nat → ClassId) (ad : Nat → Nat) (M : am_M) (U : State) : Prop := va_P D am_cl (am_ws dA ad M) U.heap ∧ va_K D am_cl (am_tys dA) U ∧ am_K ad U
def am_iv (z : Int) : Value := .int (Int32.ofInt z)
def am_Qc (D : va_G) (dA : Nat → ClassId) (ad : Nat → Nat) (Q : Option Int → am_M → Prop) : Array Value → State → Outcome → State → Prop := fun _ st oc t =>
  (∃ (r : Option Int) (M' : am_M), oc = .returned (r.map am_iv) ∧ Q r M' ∧ va_P D am_cl (am_ws dA ad M') t.heap) ∧ va_F (am_A ad) st t
def am_Ctx (mm : am_mm) (p : Program) (s : State) (m : MethodId) (args : Array Value) (meth : Method) (c : Code) (D : va_G) (dA : Nat → ClassId) (ad : Nat → Nat) : Prop :=
  p.tables.exec = Jvm.exec ∧ c.code = mm.2.1 ∧ meth.sig.returnType = mm.2.2.2 ∧ c.maxLocals = mm.2.2.1 ∧ meth.locks = false ∧ s.vm.findClass mm.1.cls = some m.cls ∧ (∀ w ∈ am_w mm, w.before args s = true) ∧ va_K D am_cl (am_tys dA) s ∧ am_inj ad ∧ am_K ad s
/-- the machine inside method mm at pc, locals L, stack st, memory M: it comes to a return with Q -/
def AW (d : Nat) (mm : am_mm) (pc : Nat) (L : List (Nat × am_v)) (st : List am_v) (M : am_M) (Q : Option Int → am_M → Prop) : Prop :=
  ∀ (p : Program) (l : Launch) (e : Env) (s : State) (m : MethodId) (args : Array Value) (below : List Frame) (meth : Method) (c : Code) (D : va_G) (dA : Nat → ClassId) (ad : Nat → Nat) (H : Heap) (locs : List Loc) (ls : Array Slot),
    am_Ctx mm p s m args meth c D dA ad → va_P D am_cl (am_ws dA ad M) H → va_S (am_A ad) s.heap H locs → lv_has ls mm.2.2.1 (L.map (fun q => (q.1, am_val ad q.2))) →
    W p l e (am_room d) s m args below meth c H locs 0 0 (MQ below (am_Qc D dA ad Q) args s 0 0 (am_A ad)) (F0 m pc ls (st.map (am_val ad)))
/-- a method's contract: called with these arguments in memory M it returns with Q -/
def AC (d : Nat) (mm : am_mm) (as : List am_v) (M : am_M) (Q : Option Int → am_M → Prop) : Prop :=
  ∀ (l : Launch) (D : va_G) (dA : Nat → ClassId) (ad : Nat → Nat), am_inj ad → Met l mm.1 (am_w mm) (am_room d) (va_Pc (as.map (am_val ad)) (am_Pre D dA ad M)) (am_Qc D dA ad Q) 0 0 (am_A ad)
theorem am_ws_get {dA : Nat → ClassId} {ad : Nat → Nat} {M : am_M} {a : Nat} {s : am_S} (h : am_sh[a]? = some s) : (am_ws dA ad M)[a]? = some (ad a, am_cell dA ad M a s) := by
  simp [am_ws, List.getElem?_mapIdx, h]
theorem am_ws_at {dA : Nat → ClassId} {ad : Nat → Nat} {M : am_M} {a : Nat} {q : Nat × va_E} (h : (am_ws dA ad M)[a]? = some q) : a < am_sh.length ∧ q.1 = ad a := by
  have h1 : a < (am_ws dA ad M).length := (List.getElem?_eq_some_iff.mp h).1
  have h2 : a < am_sh.length := by simpa [am_ws] using h1
  refine ⟨h2, ?_⟩
  rw [am_ws_get (List.getElem?_eq_getElem h2)] at h
  cases h
  rfl
theorem am_cell_congr {dA : Nat → ClassId} {ad : Nat → Nat} {M M' : am_M} {a : Nat} (s : am_S) (h : M' a = M a) : am_cell dA ad M' a s = am_cell dA ad M a s := by
  cases s with
  | inl q => simp only [am_cell, h]
  | inr q =>
    simp only [am_cell]
    congr 2
    congr 1
    funext k o
    cases o <;> simp only [am_fv, h]
theorem am_ws_put {D : va_G} {dA : Nat → ClassId} {ad : Nat → Nat} {M M' : am_M} {a : Nat} {s : am_S} {e : va_E} {H : Heap} (h : am_sh[a]? = some s) (he : e = am_cell dA ad M' a s) (hM : ∀ b, b ≠ a → M' b = M b) (hP : va_P D am_cl ((am_ws dA ad M).set a (ad a, e)) H) : va_P D am_cl (am_ws dA ad M') H := by
  have hl : a < (am_ws dA ad M).length := (List.getElem?_eq_some_iff.mp (am_ws_get (dA := dA) (ad := ad) (M := M) h)).1
  have key : (am_ws dA ad M).set a (ad a, e) = am_ws dA ad M' := by
    apply List.ext_getElem?
    intro k
    by_cases hk : k = a
    · subst hk
      rw [List.getElem?_set_self hl, am_ws_get h, he]
    · rw [List.getElem?_set_ne (Ne.symm hk)]
      simp only [am_ws, List.getElem?_mapIdx]
      cases am_sh[k]? with
      | none => rfl
      | some q => simp only [Option.map_some, am_cell_congr q (hM k hk)]
  rw [← key]
  exact hP
theorem am_D {dA : Nat → ClassId} {ad : Nat → Nat} {M : am_M} (h : am_inj ad) : va_D (am_A ad) (am_ws dA ad M) := by
  refine ⟨fun i j p q hi hj hpq => ?_, fun k q hk => ?_⟩
  · obtain ⟨l1, e1⟩ := am_ws_at hi
    obtain ⟨l2, e2⟩ := am_ws_at hj
    exact h i j l1 l2 (by rw [← e1, ← e2]; exact hpq)
  · obtain ⟨l1, e1⟩ := am_ws_at hk
    exact ⟨k, l1, e1⟩
theorem am_up_ne (M : am_M) (a : Nat) (i z : Int) (b : Nat) (h : b ≠ a) : am_up M a i z b = M b := by
  funext j
  simp [am_up, h]
theorem am_small : ∀ (a k n : Nat), am_sh[a]? = some (Sum.inl (k, n)) → n < 1000 := by
  have h : am_sh.all (fun s => match s with | .inl q => decide (q.2 < 1000) | .inr _ => true) = true := by decide +kernel
  intro a k n ha
  have := List.all_eq_true.mp h _ (List.mem_of_getElem? ha)
  simpa using this
theorem am_in {i : Int} {n : Nat} (hn : n < 1000) (h : 0 ≤ i ∧ i < n) : vp_in (Int32.ofInt i) n ∧ (Int32.ofInt i).toNatClampNeg = i.toNat := by
  have e : (Int32.ofInt i).toInt = i := Int32.toInt_ofInt_of_le (by omega) (by omega)
  refine ⟨vp_in_iff.mpr ⟨by rw [e]; exact h.1, by rw [e]; exact h.2⟩, ?_⟩
  exact Int32.toNatClampNeg_ofInt_of_le (by omega) (by omega)
theorem am_lt {x y : Int} (hx : -2147483648 ≤ x ∧ x < 2147483648) (hy : -2147483648 ≤ y ∧ y < 2147483648) : Int32.ofInt x < Int32.ofInt y ↔ x < y := by
  rw [Int32.lt_iff_toInt_lt, Int32.toInt_ofInt_of_le (by omega) (by omega), Int32.toInt_ofInt_of_le (by omega) (by omega)]
theorem am_le {x y : Int} (hx : -2147483648 ≤ x ∧ x < 2147483648) (hy : -2147483648 ≤ y ∧ y < 2147483648) : Int32.ofInt x ≤ Int32.ofInt y ↔ x ≤ y := by
  rw [Int32.le_iff_toInt_le, Int32.toInt_ofInt_of_le (by omega) (by omega), Int32.toInt_ofInt_of_le (by omega) (by omega)]
theorem am_eq {x y : Int} (hx : -2147483648 ≤ x ∧ x < 2147483648) (hy : -2147483648 ≤ y ∧ y < 2147483648) : Int32.ofInt x = Int32.ofInt y ↔ x = y := by
  rw [← Int32.toInt_inj, Int32.toInt_ofInt_of_le (by omega) (by omega), Int32.toInt_ofInt_of_le (by omega) (by omega)]
theorem am_ofNat (n : Nat) : Int32.ofNat n = Int32.ofInt (n : Int) := Int32.ofInt_eq_ofNat.symm
/-- the constants of a state, in a state that differs by what was written in our cells -/
theorem am_K.go {ad : Nat → Nat} {s U : State} {H : Heap} {locs : List Loc} (h : am_K ad s) (hS : va_S (am_A ad) s.heap H locs) (hU : U.heap = H) (hW : s.WarmedH U.vm) : am_K ad U := by
  obtain ⟨⟨a1, a2⟩, ⟨b1, b2⟩, ⟨c1, c2⟩, ⟨d1, d2⟩, ⟨e1, e2, e3, e4, e5⟩, f1, f2⟩ := h
  have hq : ∀ a : Nat, a < s.heap.size → ¬ am_A ad a → U.heap[a]? = s.heap[a]? := fun a g1 g2 => by rw [hU]; exact hS.2.1 a g1 g2
  have hv := hW.alike
  exact ⟨⟨(a1.kept hq).moved hv, (a2.kept hq).moved hv⟩, ⟨(b1.kept hq).moved hv, (b2.kept hq).moved hv⟩, ⟨(c1.kept hq).moved hv, (c2.kept hq).moved hv⟩, ⟨va_Nw.warmF hW d1, va_Nw.warmM hW d2⟩, ⟨(e1.kept hq).moved hv, e2.warm hW, e3.warm hW, e4.warm hW, e5.warm hW⟩, (f1.kept hq).moved hv, (f2.kept hq).moved hv⟩
theorem am_K.frame {ad : Nat → Nat} {u U : State} (h : am_K ad u) (hh : U.heap = u.heap) (hv : U.vm = u.vm) : am_K ad U := by
  obtain ⟨⟨a1, a2⟩, ⟨b1, b2⟩, ⟨c1, c2⟩, ⟨d1, d2⟩, ⟨e1, e2, e3, e4, e5⟩, f1, f2⟩ := h
  have hal : u.vm.Alike U.vm := by rw [hv]; exact Vm.Alike.refl _
  refine ⟨?_, ?_, ?_, ⟨va_tabs rfl hv.symm d1, va_tabs rfl hv.symm d2⟩, ⟨?_, e2.same hv, e3.same hv, e4.same hv, e5.same hv⟩, ?_, ?_⟩
  all_goals rw [hh]
  · exact ⟨a1.moved hal, a2.moved hal⟩
  · exact ⟨b1.moved hal, b2.moved hal⟩
  · exact ⟨c1.moved hal, c2.moved hal⟩
  · exact e1.moved hal
  · exact f1.moved hal
  · exact f2.moved hal
theorem am_blind {D : va_G} {dA : Nat → ClassId} {ad : Nat → Nat} {M : am_M} {av : List Value} : FrameBlind (va_Pc av (am_Pre D dA ad M)) := by
  intro a U g mk h
  obtain ⟨h0, hP, hK, hC⟩ := h
  exact ⟨h0, hP, va_K.moved (u := U) (U := U.calling g mk a) (Vm.Alike.refl U.vm) hK, hC.frame rfl rfl⟩
theorem am_args (ad : Nat → Nat) : ∀ (i : Nat) (as : List am_v), lv_args i (as.map (am_val ad)) = (am_L i as).map (fun q => (q.1, am_val ad q.2))
  | _, [] => rfl
  | i, v :: vs => by
    have hc : (am_val ad v).category = 1 := by cases v <;> rfl
    simp only [List.map_cons, lv_args, am_L, hc]
    rw [if_neg (by decide), am_args ad (i + 1) vs]
theorem am_sl (ad : Nat → Nat) : ∀ (as : List am_v), (lg_sl (as.map (am_val ad))).length = as.length
  | [] => rfl
  | v :: vs => by
    have hc : (am_val ad v).category = 1 := by cases v <;> rfl
    have := am_sl ad vs
    simp only [lg_sl, List.map_cons, List.flatMap_cons, hc] at this ⊢
    rw [if_neg (by decide)]
    simp [this]
/-- a method's contract out of the walk of its body -/
theorem aw_body {d : Nat} {mm : am_mm} {as : List am_v} {M : am_M} {Q : Option Int → am_M → Prop} {L : List (Nat × am_v)} (hy : plainName mm.1.cls = true) (hn : as.length ≤ mm.2.2.1) (hL : am_L 0 as = L) (h : AW d mm 0 L [] M Q) : AC d mm as M Q := by
  intro l D dA ad hinj
  refine Met.ofW (cc := mm.2.1) (maxL := mm.2.2.1) (ret := mm.2.2.2) hy rfl ?_
  intro p e s m args below meth c s₁ B hml hv
  obtain ⟨rfl, hP, hK, hC⟩ := hv
  have hts := atoms_spec (ws := am_w mm) B.pre
  have hown : s.vm.findClass mm.1.cls = some m.cls := findClass_of_methodNamed B.named
  have hl := lv_entry (as.map (am_val ad)) (n := mm.2.2.1) (by rw [am_sl]; exact hn)
  rw [lg_entry_eq]
  generalize (lg_sl (as.map (am_val ad)) ++ List.replicate (mm.2.2.1 - (lg_sl (as.map (am_val ad))).length) Slot.unset).toArray = ls at hl ⊢
  rw [am_args, hL] at hl
  exact h p l e s m _ below meth c D dA ad s.heap [] ls ⟨B.exec, B.bytes, B.returns, hml, B.notSynchronized, hown, hts, hK, hinj, hC⟩ hP va_S.rf hl
/-- fewer locals -/
theorem aw_sub {d : Nat} {mm : am_mm} {pc : Nat} {L L' : List (Nat × am_v)} {st : List am_v} {M : am_M} {Q : Option Int → am_M → Prop} (ks : List Nat) (hL : ks.filterMap (fun k => L[k]?) = L') (h : AW d mm pc L' st M Q) : AW d mm pc L st M Q := by
  intro p l e s m args below meth c D dA ad H locs ls C hP hS hl
  refine h p l e s m args below meth c D dA ad H locs ls C hP hS (lv_sub hl ks ?_)
  rw [← hL]
  unfold lv_pick
  rw [List.map_filterMap]
  congr 1
  funext k
  simp
/-- a stronger end -/
theorem AW.mono {d : Nat} {mm : am_mm} {pc : Nat} {L : List (Nat × am_v)} {st : List am_v} {M : am_M} {Q Q' : Option Int → am_M → Prop} (hQ : ∀ r M', Q r M' → Q' r M') (h : AW d mm pc L st M Q) : AW d mm pc L st M Q' := by
  intro p l e s m args below meth c D dA ad H locs ls C hP hS hl T hT X
  obtain ⟨t, h1, o, h2, h3, ⟨⟨r, M', h4, h5, h6⟩, h7⟩, h8⟩ := h p l e s m args below meth c D dA ad H locs ls C hP hS hl T hT X
  exact ⟨t, h1, o, h2, h3, ⟨⟨r, M', h4, hQ r M' h5, h6⟩, h7⟩, h8⟩
