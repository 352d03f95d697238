/-! THE BUILDER: constructors, over a whole world that grows at its end -/
def nb_Cx (mm : am_mm) (E : State → Prop) (p : Program) (s : State) (m : MethodId) (args : Array Value) (meth : Method) (c : Code) (D : va_G) (dA : Nat → ClassId) : Prop :=
  p.tables.exec = Jvm.exec ∧ c.code = mm.2.1 ∧ meth.sig.returnType = none ∧ c.maxLocals = mm.2.2.1 ∧ meth.locks = false ∧ s.vm.findClass mm.1.cls = some m.cls ∧ (∀ w ∈ am_w mm, w.before args s = true) ∧ va_K D am_cl (am_tys dA) s ∧ meth.name = "<init>" ∧ E s
def nb_Q (D : va_G) (w0 : va_W) (sz : Nat) (Q : va_W → Prop) : Array Value → State → Outcome → State → Prop := fun _ st oc t => (oc = .returned none ∧ ∃ w1, Q w1 ∧ va_P D am_cl w1 t.heap ∧ va_D (va_A w0 sz) w1) ∧ va_F (va_A w0 sz) st t
def BW (D : va_G) (dA : Nat → ClassId) (E : State → Prop) (w0 : va_W) (sz : Nat) (R : Room) (mm : am_mm) (mc ms pc : Nat) (L : List (Nat × Value)) (st : List Value) (ws : va_W) (k n : Nat) (Q : va_W → Prop) : Prop :=
  ∀ (p : Program) (l : Launch) (e : Env) (s : State) (m : MethodId) (args : Array Value) (below : List Frame) (meth : Method) (c : Code) (H : Heap) (locs : List Loc) (ls : Array Slot),
    nb_Cx mm E p s m args meth c D dA → s.heap.size = sz → va_P D am_cl ws H → va_D (va_A w0 sz) ws → va_S (va_A w0 sz) s.heap H locs → lv_has ls mm.2.2.1 L →
    W p l e R s m args below meth c H locs k n (MQ below (nb_Q D w0 sz Q) args s mc ms (va_A w0 sz)) (F0 m pc ls st)
def nb_Pre (D : va_G) (dA : Nat → ClassId) (E : State → Prop) (w0 : va_W) (sz : Nat) (U : State) : Prop := U.heap.size = sz ∧ va_P D am_cl w0 U.heap ∧ va_K D am_cl (am_tys dA) U ∧ va_D (fun _ => True) w0 ∧ E U
def BC (D : va_G) (dA : Nat → ClassId) (E : State → Prop) (R : Room) (mm : am_mm) (mc ms : Nat) (h0 : Nat) (w0 : va_W) (Q : va_W → Prop) : Prop := ∀ (l : Launch) (sz : Nat), Met l mm.1 (am_w mm) R (va_Pc [.ref h0] (nb_Pre D dA E w0 sz)) (nb_Q D w0 sz Q) mc ms (va_A w0 sz)
section NB
variable {D : va_G} {dA : Nat → ClassId} {E : State → Prop} {w0 : va_W} {sz : Nat} {R : Room} {mm : am_mm} {mc ms pc : Nat} {L : List (Nat × Value)} {st : List Value} {ws : va_W} {k n : Nat} {Q : va_W → Prop}
theorem nb_body {h0 : Nat} (hy : plainName mm.1.cls = true) (hn : 1 ≤ mm.2.2.1) (hr : mm.2.2.2 = none) (hi : mm.1.name = "<init>") (h : ∀ sz, BW D dA E w0 sz R mm mc ms 0 [(0, .ref h0)] [] w0 0 0 Q) : BC D dA E R mm mc ms h0 w0 Q := by
  intro l sz
  refine Met.ofW (cc := mm.2.1) (maxL := mm.2.2.1) (ret := mm.2.2.2) hy rfl ?_
  intro p e s m args below meth c s₁ B hml hv
  obtain ⟨rfl, hsz, hP, hK, hD, hE⟩ := hv
  have hts := atoms_spec (ws := am_w mm) B.pre
  have hown : s.vm.findClass mm.1.cls = some m.cls := findClass_of_methodNamed B.named
  have hin : meth.name = "<init>" := ((name_of_methodNamed B.named B.method).1).trans hi
  have hl := lv_entry [Value.ref h0] (n := mm.2.2.1) (by exact hn)
  rw [lg_entry_eq]
  generalize (lg_sl [Value.ref h0] ++ List.replicate (mm.2.2.1 - (lg_sl [Value.ref h0]).length) Slot.unset).toArray = ls at hl ⊢
  exact h sz p l e s m _ below meth c s.heap [] ls ⟨B.exec, B.bytes, B.returns.trans hr, hml, B.notSynchronized, hown, hts, hK, hin, hE⟩ hsz hP (hD.self) va_S.rf hl
theorem nb_aload {a : Nat} {i : Fin 4} {j : Nat} (hd : decode mm.2.1 pc = .ok (.aload_n i, 1)) (hj : L[j]? = some ((i : Nat), .ref a)) (kk : BW D dA E w0 sz R mm mc ms (pc + 1) L (.ref a :: st) ws k n Q) : BW D dA E w0 sz R mm mc ms pc L st ws k n Q := by
  intro p l e s m args below meth c H locs ls C hz hP hD hS hl
  exact lv_aload_n C.1 C.2.1 hd rfl (lv_at hl j hj) (kk p l e s m args below meth c H locs ls C hz hP hD hS hl)
theorem nb_iload {a : Int32} {i : Fin 4} {j : Nat} (hd : decode mm.2.1 pc = .ok (.iload_n i, 1)) (hj : L[j]? = some ((i : Nat), .int a)) (kk : BW D dA E w0 sz R mm mc ms (pc + 1) L (.int a :: st) ws k n Q) : BW D dA E w0 sz R mm mc ms pc L st ws k n Q := by
  intro p l e s m args below meth c H locs ls C hz hP hD hS hl
  exact lv_iload_n C.1 C.2.1 hd rfl (lv_at hl j hj) (kk p l e s m args below meth c H locs ls C hz hP hD hS hl)
theorem nb_iconst {z : Int} (hd : decode mm.2.1 pc = .ok (.iconst z, 1)) (kk : BW D dA E w0 sz R mm mc ms (pc + 1) L (.int (Int32.ofInt z) :: st) ws k n Q) : BW D dA E w0 sz R mm mc ms pc L st ws k n Q := by
  intro p l e s m args below meth c H locs ls C hz hP hD hS hl
  exact lv_iconst C.1 C.2.1 hd rfl (kk p l e s m args below meth c H locs ls C hz hP hD hS hl)
theorem nb_bipush {z : Int} (hd : decode mm.2.1 pc = .ok (.bipush z, 2)) (hn : -128 ≤ z ∧ z < 128) (kk : BW D dA E w0 sz R mm mc ms (pc + 2) L (.int (Int32.ofInt z) :: st) ws k n Q) : BW D dA E w0 sz R mm mc ms pc L st ws k n Q := by
  intro p l e s m args below meth c H locs ls C hz hP hD hS hl
  exact lv_bipush C.1 C.2.1 hd (am_i8 hn) (kk p l e s m args below meth c H locs ls C hz hP hD hS hl)
theorem nb_sipush {z : Int} (hd : decode mm.2.1 pc = .ok (.sipush z, 3)) (hn : -32768 ≤ z ∧ z < 32768) (kk : BW D dA E w0 sz R mm mc ms (pc + 3) L (.int (Int32.ofInt z) :: st) ws k n Q) : BW D dA E w0 sz R mm mc ms pc L st ws k n Q := by
  intro p l e s m args below meth c H locs ls C hz hP hD hS hl
  exact lv_sipush C.1 C.2.1 hd (am_i16 hn) (kk p l e s m args below meth c H locs ls C hz hP hD hS hl)
theorem nb_dup {v : Value} (hd : decode mm.2.1 pc = .ok (.dup, 1)) (hv : v.category = 1) (kk : BW D dA E w0 sz R mm mc ms (pc + 1) L (v :: v :: st) ws k n Q) : BW D dA E w0 sz R mm mc ms pc L (v :: st) ws k n Q := by
  intro p l e s m args below meth c H locs ls C hz hP hD hS hl
  exact lv_dup C.1 C.2.1 hd hv (kk p l e s m args below meth c H locs ls C hz hP hD hS hl)
theorem nb_goto {off : Int} {tgt : Nat} (hd : decode mm.2.1 pc = .ok (.goto off, 3)) (ht : (pc : Int) + off = (tgt : Int)) (kk : BW D dA E w0 sz R mm mc ms tgt L st ws k n Q) : BW D dA E w0 sz R mm mc ms pc L st ws k n Q := by
  intro p l e s m args below meth c H locs ls C hz hP hD hS hl
  exact lv_goto C.1 C.2.1 hd ht (kk p l e s m args below meth c H locs ls C hz hP hD hS hl)
/-- Object's own constructor -/
theorem nb_obj {a idx : Nat} (hd : decode mm.2.1 pc = .ok (.invokespecial idx, 3)) (h1 : Cond.methodLink mm.1.cls idx objectInit ∈ am_T) (h2 : Cond.instanceMethod objectInit ∈ am_T) (h3 : Cond.code objectInit ⟨#[0xb1]⟩ 1 none ∈ am_T) (hR : 1 ≤ R.frames ∧ 12 ≤ R.locals) (kk : BW D dA E w0 sz R mm mc ms (pc + 3) L [] ws k n Q) : BW D dA E w0 sz R mm mc ms pc L [.ref a] ws k n Q := by
  intro p l e s m args below meth c H locs ls C hz hP hD hS hl
  have h := kk p l e s m args below meth c H locs ls C hz hP hD hS hl
  obtain ⟨hx, hb, hr, hml, hlk, hown, hts, hK, hin, hE⟩ := C
  exact W.objInit hx hb hown (hts _ (am_mem h1)) (hts _ (am_mem h2)) (hts _ (am_mem h3)) rfl (by rw [hml]; exact hl.1) rfl hd hR.1 (by simpa using hR.2) h
theorem nb_tys {i : Nat} {q : ClassId × FieldType} (h : (am_tys dA)[i]? = some q) {s : State} (hK : va_K D am_cl (am_tys dA) s) {cA : ClassId} {ty : FieldType} (hK2 : va_K D am_cl (am_tys dA ++ [(cA, ty)]) s) (ht : q.2 = ty) (hty : ty = .int ∨ ty = .char ∨ ty = .boolean ∨ ty = .byte) : cA = q.1 := by
  have a1 := (hK.2 i q h).2
  have a2 := (hK2.2 (am_tys dA).length (cA, ty) (by simp)).2
  subst ht
  unfold va_RA at a1 a2
  rcases hty with e | e | e | e <;> (rw [e] at a1; simp only [e] at a2; exact Option.some.inj (a2.symm.trans a1))
/-- a new array of ints, chars, booleans, bytes -/
theorem nb_newa {atype : ArrayType} {z : Int} {i N : Nat} {ty : FieldType} (hd : decode mm.2.1 pc = .ok (.newarray atype, 2)) (hty : newarray.typeOf atype = ty) (hi : (am_tys dA)[i]? = some (dA i, ty)) (h4 : ty = .int ∨ ty = .char ∨ ty = .boolean ∨ ty = .byte) (ha : Cond.arrayClass ty ∈ am_T) (hz : 0 ≤ z ∧ z < 1000) (hN : z.toNat = N) (hk : k + 1 ≤ R.cells) (hs : n + N ≤ R.slots)
    (kk : ∀ q, BW D dA E w0 sz R mm mc ms (pc + 2) L (.ref q :: st) (ws ++ [(q, .inl (dA i, N, .inl (fun _ => 0)))]) (k + 1) (n + N) Q) : BW D dA E w0 sz R mm mc ms pc L (.int (Int32.ofInt z) :: st) ws k n Q := by
  intro p l e s m args below meth c H locs ls C hsz hP hD hS hl
  obtain ⟨hx, hb, hr, hml, hlk, hown, hts, hK, hin, hE⟩ := id C
  subst hsz
  have hneg : ¬ Int32.ofInt z < 0 := fun h => by
    have := (am_lt (x := z) (y := 0) (by omega) (by decide)).mp h
    omega
  have hNN : (Int32.ofInt z).toNatClampNeg = N := by rw [Int32.toNatClampNeg_ofInt_of_le (by omega) (by omega)]; exact hN
  have hdv : ∀ cA : ClassId, vp_cell cA (N, .inl (fun _ => 0)) = arrV cA N (fun _ => defaultValue ty) := by
    intro cA
    rcases h4 with e | e | e | e <;> subst e <;> rfl
  have hbt : N * componentBytes ty ≤ 536870912 := by
    have hN2 : N < 1000 := by omega
    rcases h4 with e | e | e | e <;> subst e <;> simp only [componentBytes] <;> omega
  refine va_newa (a0 := (N, .inl (fun _ => 0))) hx hb (by rw [hty]; exact hts _ (am_mem ha)) hty hK hP hD hS (fun q h => Or.inr h) hdv hneg hNN hbt hk hs hd (fun q cA H1 hK2 hP1 hD1 hS1 => ?_)
  have e := nb_tys hi hK hK2 rfl h4
  subst e
  exact kk q p l e s m args below meth c H1 locs ls C rfl hP1 hD1 hS1 hl
/-- a final field is set -/
theorem nb_putF {idx ci j q0 a : Nat} {fs : List Value} {v : Value} {q : vw_C} {ty : FieldType} (hd : decode mm.2.1 pc = .ok (.putfield idx, 3)) (hq : am_cl[ci]? = some q) (hj : j < q.2.2) (hlink : Cond.fieldLink mm.1.cls idx (q.2.1 j).1 (q.2.1 j).2.1 (q.2.1 j).2.2.1 ∈ am_T) (hfin : (q.2.1 j).2.2.2 = true) (hdecl : (q.2.1 j).1 = mm.1.cls) (hty : parseFieldDescriptor (q.2.1 j).2.2.1 = some ty) (hnar : narrow ty v = v) (hfit : fits ty v = true) (he : ws[q0]? = some (a, .inr (ci, fs))) (hl : j < fs.length)
    (kk : BW D dA E w0 sz R mm mc ms (pc + 3) L st (ws.set q0 (a, .inr (ci, fs.set j v))) k n Q) : BW D dA E w0 sz R mm mc ms pc L (v :: .ref a :: st) ws k n Q := by
  intro p l e s m args below meth c H locs ls C hsz hP hD hS hl2
  obtain ⟨hx, hb, hr, hml, hlk, hown, hts, hK, hin, hE⟩ := id C
  obtain ⟨g1, ⟨ty0, g2⟩, g3⟩ := am_cls ci q hq
  exact va_putF (C := q.1) (T := q.2.1) (N := q.2.2) (ty := ty) hx hb hts (fun w hw => am_mem (g1 w hw)) ty0 g2 g3 hown hK hP hD hS q0 he hq j hj (hts _ (am_mem hlink)) (fun _ h => h) hfin hin hdecl hty hnar hfit hl hd (fun H1 locs1 hP1 hD1 hS1 => kk p l e s m args below meth c H1 locs1 ls C hsz hP1 hD1 hS1 hl2)
theorem nb_ret (hd : decode mm.2.1 pc = .ok (.return_, 1)) (hk : k ≤ mc) (hn : n ≤ ms) (hQ : Q ws) : BW D dA E w0 sz R mm mc ms pc L [] ws k n Q := by
  intro p l e s m args below meth c H locs ls C hsz hP hD hS hl
  obtain ⟨hx, hb, hr, hml, hlk, hown, hts, hK, hin, hE⟩ := id C
  refine W.widen hk hn ?_
  exact W.vret hx hb hr (fun t ht hW => ⟨⟨rfl, ws, hQ, by rw [ht]; exact hP, hD⟩, hS.F ht⟩) hS.2.2 hd hlk
/-- the object at place q0 of the world, what came behind it -/
def wq (w0 : va_W) (q0 h0 ci : Nat) (fs : List Value) (xs : va_W) : va_W := w0.set q0 (h0, .inr (ci, fs)) ++ xs
theorem wq_get {q0 h0 ci : Nat} {fs : List Value} {xs : va_W} (h : q0 < w0.length) : (wq w0 q0 h0 ci fs xs)[q0]? = some (h0, .inr (ci, fs)) := by
  unfold wq
  rw [List.getElem?_append_left (by simpa using h), List.getElem?_set_self h]
theorem wq_set {q0 h0 ci : Nat} {fs fs' : List Value} {xs : va_W} (h : q0 < w0.length) : (wq w0 q0 h0 ci fs xs).set q0 (h0, .inr (ci, fs')) = wq w0 q0 h0 ci fs' xs := by
  unfold wq
  rw [List.set_append_left _ _ (by simpa using h), List.set_set]
theorem wq_app {q0 h0 ci : Nat} {fs : List Value} {xs : va_W} (x : Nat × va_E) : wq w0 q0 h0 ci fs xs ++ [x] = wq w0 q0 h0 ci fs (xs ++ [x]) := by
  unfold wq
  rw [List.append_assoc]
theorem wq_0 {q0 h0 ci : Nat} {fs : List Value} (h : w0[q0]? = some (h0, .inr (ci, fs))) : w0 = wq w0 q0 h0 ci fs [] := by
  unfold wq
  rw [List.append_nil]
  obtain ⟨hl, e⟩ := List.getElem?_eq_some_iff.mp h
  rw [← e, List.set_getElem_self]
theorem BW.w {ws' : va_W} (e : ws = ws') (h : BW D dA E w0 sz R mm mc ms pc L st ws' k n Q) : BW D dA E w0 sz R mm mc ms pc L st ws k n Q := by
  subst e
  exact h
/-- a new array into a final field of the object -/
theorem nb_newF {atype : ArrayType} {z : Int} {i N idx ci j q0 h0 : Nat} {fs : List Value} {xs : va_W} {ty fty : FieldType} {q : vw_C} (hd : decode mm.2.1 pc = .ok (.newarray atype, 2)) (hd2 : decode mm.2.1 (pc + 2) = .ok (.putfield idx, 3)) (hq0 : q0 < w0.length) (hty : newarray.typeOf atype = ty) (hi : (am_tys dA)[i]? = some (dA i, ty)) (h4 : ty = .int ∨ ty = .char ∨ ty = .boolean ∨ ty = .byte) (ha : Cond.arrayClass ty ∈ am_T) (hz : 0 ≤ z ∧ z < 1000) (hN : z.toNat = N) (hk : k + 1 ≤ R.cells) (hs : n + N ≤ R.slots)
    (hq : am_cl[ci]? = some q) (hj : j < q.2.2) (hlink : Cond.fieldLink mm.1.cls idx (q.2.1 j).1 (q.2.1 j).2.1 (q.2.1 j).2.2.1 ∈ am_T) (hfin : (q.2.1 j).2.2.2 = true) (hdecl : (q.2.1 j).1 = mm.1.cls) (hfty : parseFieldDescriptor (q.2.1 j).2.2.1 = some fty) (hnar : ∀ a, narrow fty (.ref a) = .ref a) (hfit : ∀ a, fits fty (.ref a) = true) (hl : j < fs.length)
    (kk : ∀ a, BW D dA E w0 sz R mm mc ms (pc + 5) L [] (wq w0 q0 h0 ci (fs.set j (.ref a)) (xs ++ [(a, .inl (dA i, N, .inl (fun _ => 0)))])) (k + 1) (n + N) Q) : BW D dA E w0 sz R mm mc ms pc L [.int (Int32.ofInt z), .ref h0] (wq w0 q0 h0 ci fs xs) k n Q := by
  refine nb_newa hd hty hi h4 ha hz hN hk hs (fun a => ?_)
  refine BW.w (wq_app _) ?_
  refine nb_putF hd2 hq hj hlink hfin hdecl hfty (hnar a) (hfit a) (wq_get hq0) hl ?_
  exact BW.w (wq_set hq0) (kk a)
end NB
theorem tm_oi : Cond.instanceMethod objectInit ∈ am_T := am_tm 24 (by decide +kernel) rfl
theorem tm_oc : Cond.code objectInit ⟨#[0xb1]⟩ 1 none ∈ am_T := am_tm 25 (by decide +kernel) rfl
theorem tm_ai : Cond.arrayClass .int ∈ am_T := am_tm 53 (by decide +kernel) rfl
theorem tm_ac : Cond.arrayClass .char ∈ am_T := am_tm 77 (by decide +kernel) rfl
theorem tm_az : Cond.arrayClass .boolean ∈ am_T := am_tm 123 (by decide +kernel) rfl
theorem tm_ab : Cond.arrayClass .byte ∈ am_T := am_tm 496 (by decide +kernel) rfl
abbrev nb_R (f c s l : Nat) : Room := { frames := f, cells := c, slots := s, locals := l }
