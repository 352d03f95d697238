/-! the class alone: 03a over the cells 0..61 -/
/-- array kinds: 0 int, 1 char, 2 boolean, 3 byte, 4 Scene -/
def am_sh_q : List am_S := [
  .inr (7, [some 1, some 4, some 7, some 9, some 29, some 30, some 31, some 36, some 41, some 51, none, none]),
  .inr (3, [none, none, some 2, some 3]), .inl (0, 3), .inl (0, 96),
  .inr (3, [none, none, some 5, some 6]), .inl (0, 3), .inl (0, 96),
  .inr (5, [none, some 8, none, none, none]), .inl (1, 140),
  .inr (0, [none, some 10]), .inl (4, 6),
  .inr (3, [none, none, some 12, some 13]), .inl (0, 3), .inl (0, 96),
  .inr (3, [none, none, some 15, some 16]), .inl (0, 3), .inl (0, 96),
  .inr (3, [none, none, some 18, some 19]), .inl (0, 3), .inl (0, 96),
  .inr (3, [none, none, some 21, some 22]), .inl (0, 3), .inl (0, 96),
  .inr (3, [none, none, some 24, some 25]), .inl (0, 3), .inl (0, 96),
  .inr (3, [none, none, some 27, some 28]), .inl (0, 3), .inl (0, 96),
  .inl (4, 2), .inl (2, 2),
  .inr (2, [some 32, some 33, some 34, some 35]), .inl (0, 8), .inl (0, 48), .inl (0, 48), .inl (0, 48),
  .inr (1, [some 37, some 38, some 39, some 40, none, none, none]), .inl (0, 6), .inl (0, 6), .inl (0, 6), .inl (0, 49),
  .inr (6, [none, some 42, some 43, some 44, some 45, some 46, some 47, some 48, some 49, some 50]), .inl (0, 48), .inl (0, 48), .inl (0, 48), .inl (0, 48), .inl (0, 48), .inl (0, 48), .inl (0, 384), .inl (0, 48), .inl (0, 48),
  .inr (4, [none, some 52, some 53, none, some 54, some 55]), .inl (0, 6), .inl (0, 6), .inl (0, 48), .inl (0, 55),
  .inr (3, [none, none, some 57, some 58]), .inl (0, 3), .inl (0, 96),
  .inr (3, [none, none, some 60, some 61]), .inl (0, 3), .inl (0, 96)]
def am_ws_q (dA : Nat → ClassId) (ad : Nat → Nat) (M : am_M) : va_W := am_sh_q.mapIdx (fun a s => (ad a, am_cell dA ad M a s))
def am_A_q (ad : Nat → Nat) : Nat → Prop := fun q => ∃ a, a < am_sh_q.length ∧ q = ad a
def am_inj_q (ad : Nat → Nat) : Prop := ∀ a b, a < am_sh_q.length → b < am_sh_q.length → ad a = ad b → a = b
/-- what nobody changes: statics, String constants, nest words -/
def am_K_q (ad : Nat → Nat) (U : State) : Prop :=
  (va_Z "FollowedPeaks" "SETTING_LOWEST" "[I" (.ref (ad 100)) (am_A_q ad) U U.heap ∧ va_T .int (ad 100) 3 (am_tb am_lo) (am_A_q ad) U U.heap) ∧
  (va_Z "FollowedPeaks" "SETTING_HIGHEST" "[I" (.ref (ad 101)) (am_A_q ad) U U.heap ∧ va_T .int (ad 101) 3 (am_tb am_hi) (am_A_q ad) U U.heap) ∧
  (va_Z "FollowedPeaks" "SETTING_AT_FIRST" "[I" (.ref (ad 102)) (am_A_q ad) U U.heap ∧ va_T .int (ad 102) 3 (am_tb am_fi) (am_A_q ad) U U.heap) ∧
  (va_Nw (.fieldLinkNest "FollowedPeaks$Scene" 28 "FollowedPeaks" "SETTING_AT_FIRST" "[I" "FollowedPeaks") U ∧ va_Nw (.methodLinkNest "FollowedPeaks$Text" 71 yX7_isSetting "FollowedPeaks") U) ∧
  (vk_S 4 [5, 5, 5, 5] am_byt (fun i => ad (110 + i)) (fun i => ad (120 + i)) (am_A_q ad) U U.heap ∧ vk_R "FollowedPeaks$Text" 43 "frame" (ad 110) U ∧ vk_R "FollowedPeaks$Text" 79 "floor" (ad 111) U ∧ vk_R "FollowedPeaks$Text" 81 "reach" (ad 112) U ∧ vk_R "FollowedPeaks$Text" 83 "least" (ad 113) U) ∧
  (va_Z "java/lang/String" "COMPACT_STRINGS" "Z" (.int 1) (am_A_q ad) U U.heap ∧ va_Zq "jdk/internal/util/Preconditions" "SIOOBE_FORMATTER" "Ljava/util/function/BiFunction;" (am_A_q ad) U U.heap)
def am_Pre_q (D : va_G) (dA : Nat → ClassId) (ad : Nat → Nat) (M : am_M) (U : State) : Prop := va_P D am_cl (am_ws_q dA ad M) U.heap ∧ va_K D am_cl (am_tys dA) U ∧ am_K_q ad U
def am_Qc_q (D : va_G) (dA : Nat → ClassId) (ad : Nat → Nat) (Q : Option Int → am_M → Prop) : Array Value → State → Outcome → State → Prop := fun _ st oc t =>
  (∃ (r : Option Int) (M' : am_M), oc = .returned (r.map am_iv) ∧ Q r M' ∧ va_P D am_cl (am_ws_q dA ad M') t.heap) ∧ va_F (am_A_q ad) st t
def am_Ctx_q (mm : am_mm) (p : Program) (s : State) (m : MethodId) (args : Array Value) (meth : Method) (c : Code) (D : va_G) (dA : Nat → ClassId) (ad : Nat → Nat) : Prop :=
  p.tables.exec = Jvm.exec ∧ c.code = mm.2.1 ∧ meth.sig.returnType = mm.2.2.2 ∧ c.maxLocals = mm.2.2.1 ∧ meth.locks = false ∧ s.vm.findClass mm.1.cls = some m.cls ∧ (∀ w ∈ am_w mm, w.before args s = true) ∧ va_K D am_cl (am_tys dA) s ∧ am_inj_q ad ∧ am_K_q ad s
/-- the machine inside method mm at pc, locals L, stack st, memory M: it comes to a return with Q -/
def AW_q (d : Nat) (mm : am_mm) (pc : Nat) (L : List (Nat × am_v)) (st : List am_v) (M : am_M) (Q : Option Int → am_M → Prop) : Prop :=
  ∀ (p : Program) (l : Launch) (e : Env) (s : State) (m : MethodId) (args : Array Value) (below : List Frame) (meth : Method) (c : Code) (D : va_G) (dA : Nat → ClassId) (ad : Nat → Nat) (H : Heap) (locs : List Loc) (ls : Array Slot),
    am_Ctx_q mm p s m args meth c D dA ad → va_P D am_cl (am_ws_q dA ad M) H → va_S (am_A_q ad) s.heap H locs → lv_has ls mm.2.2.1 (L.map (fun q => (q.1, am_val ad q.2))) →
    W p l e (am_room d) s m args below meth c H locs 0 0 (MQ below (am_Qc_q D dA ad Q) args s 0 0 (am_A_q ad)) (F0 m pc ls (st.map (am_val ad)))
/-- a method's contract: called with these arguments in memory M it returns with Q -/
def AC_q (d : Nat) (mm : am_mm) (as : List am_v) (M : am_M) (Q : Option Int → am_M → Prop) : Prop :=
  ∀ (l : Launch) (D : va_G) (dA : Nat → ClassId) (ad : Nat → Nat), am_inj_q ad → Met l mm.1 (am_w mm) (am_room d) (va_Pc (as.map (am_val ad)) (am_Pre_q D dA ad M)) (am_Qc_q D dA ad Q) 0 0 (am_A_q ad)
theorem am_ws_get_q {dA : Nat → ClassId} {ad : Nat → Nat} {M : am_M} {a : Nat} {s : am_S} (h : am_sh_q[a]? = some s) : (am_ws_q dA ad M)[a]? = some (ad a, am_cell dA ad M a s) := by
  simp [am_ws_q, List.getElem?_mapIdx, h]
theorem am_ws_at_q {dA : Nat → ClassId} {ad : Nat → Nat} {M : am_M} {a : Nat} {q : Nat × va_E} (h : (am_ws_q dA ad M)[a]? = some q) : a < am_sh_q.length ∧ q.1 = ad a := by
  have h1 : a < (am_ws_q dA ad M).length := (List.getElem?_eq_some_iff.mp h).1
  have h2 : a < am_sh_q.length := by simpa [am_ws_q] using h1
  refine ⟨h2, ?_⟩
  rw [am_ws_get_q (List.getElem?_eq_getElem h2)] at h
  cases h
  rfl
theorem am_ws_put_q {D : va_G} {dA : Nat → ClassId} {ad : Nat → Nat} {M M' : am_M} {a : Nat} {s : am_S} {e : va_E} {H : Heap} (h : am_sh_q[a]? = some s) (he : e = am_cell dA ad M' a s) (hM : ∀ b, b ≠ a → M' b = M b) (hP : va_P D am_cl ((am_ws_q dA ad M).set a (ad a, e)) H) : va_P D am_cl (am_ws_q dA ad M') H := by
  have hl : a < (am_ws_q dA ad M).length := (List.getElem?_eq_some_iff.mp (am_ws_get_q (dA := dA) (ad := ad) (M := M) h)).1
  have key : (am_ws_q dA ad M).set a (ad a, e) = am_ws_q dA ad M' := by
    apply List.ext_getElem?
    intro k
    by_cases hk : k = a
    · subst hk
      rw [List.getElem?_set_self hl, am_ws_get_q h, he]
    · rw [List.getElem?_set_ne (Ne.symm hk)]
      simp only [am_ws_q, List.getElem?_mapIdx]
      cases am_sh_q[k]? with
      | none => rfl
      | some q => simp only [Option.map_some, am_cell_congr q (hM k hk)]
  rw [← key]
  exact hP
theorem am_D_q {dA : Nat → ClassId} {ad : Nat → Nat} {M : am_M} (h : am_inj_q ad) : va_D (am_A_q ad) (am_ws_q dA ad M) := by
  refine ⟨fun i j p q hi hj hpq => ?_, fun k q hk => ?_⟩
  · obtain ⟨l1, e1⟩ := am_ws_at_q hi
    obtain ⟨l2, e2⟩ := am_ws_at_q hj
    exact h i j l1 l2 (by rw [← e1, ← e2]; exact hpq)
  · obtain ⟨l1, e1⟩ := am_ws_at_q hk
    exact ⟨k, l1, e1⟩
theorem am_small_q : ∀ (a k n : Nat), am_sh_q[a]? = some (Sum.inl (k, n)) → n < 1000 := by
  have h : am_sh_q.all (fun s => match s with | .inl q => decide (q.2 < 1000) | .inr _ => true) = true := by decide +kernel
  intro a k n ha
  have := List.all_eq_true.mp h _ (List.mem_of_getElem? ha)
  simpa using this
/-- the constants of a state, in a state that differs by what was written in our cells -/
theorem am_K_q.go {ad : Nat → Nat} {s U : State} {H : Heap} {locs : List Loc} (h : am_K_q ad s) (hS : va_S (am_A_q ad) s.heap H locs) (hU : U.heap = H) (hW : s.WarmedH U.vm) : am_K_q ad U := by
  obtain ⟨⟨a1, a2⟩, ⟨b1, b2⟩, ⟨c1, c2⟩, ⟨d1, d2⟩, ⟨e1, e2, e3, e4, e5⟩, f1, f2⟩ := h
  have hq : ∀ a : Nat, a < s.heap.size → ¬ am_A_q ad a → U.heap[a]? = s.heap[a]? := fun a g1 g2 => by rw [hU]; exact hS.2.1 a g1 g2
  have hv := hW.alike
  exact ⟨⟨(a1.kept hq).moved hv, (a2.kept hq).moved hv⟩, ⟨(b1.kept hq).moved hv, (b2.kept hq).moved hv⟩, ⟨(c1.kept hq).moved hv, (c2.kept hq).moved hv⟩, ⟨va_Nw.warmF hW d1, va_Nw.warmM hW d2⟩, ⟨(e1.kept hq).moved hv, e2.warm hW, e3.warm hW, e4.warm hW, e5.warm hW⟩, (f1.kept hq).moved hv, (f2.kept hq).moved hv⟩
theorem am_K_q.frame {ad : Nat → Nat} {u U : State} (h : am_K_q ad u) (hh : U.heap = u.heap) (hv : U.vm = u.vm) : am_K_q ad U := by
  obtain ⟨⟨a1, a2⟩, ⟨b1, b2⟩, ⟨c1, c2⟩, ⟨d1, d2⟩, ⟨e1, e2, e3, e4, e5⟩, f1, f2⟩ := h
  have hal : u.vm.Alike U.vm := by rw [hv]; exact Vm.Alike.refl _
  refine ⟨?_, ?_, ?_, ⟨va_tabs rfl hv.symm d1, va_tabs rfl hv.symm d2⟩, ⟨?_, e2.same hv, e3.same hv, e4.same hv, e5.same hv⟩, ?_, ?_⟩
  all_goals rw [hh]
  · exact ⟨a1.moved hal, a2.moved hal⟩
  · exact ⟨b1.moved hal, b2.moved hal⟩
  · exact ⟨c1.moved hal, c2.moved hal⟩
  · exact e1.moved hal
  · exact f1.moved hal
  · exact f2.moved hal
theorem am_blind_q {D : va_G} {dA : Nat → ClassId} {ad : Nat → Nat} {M : am_M} {av : List Value} : FrameBlind (va_Pc av (am_Pre_q D dA ad M)) := by
  intro a U g mk h
  obtain ⟨h0, hP, hK, hC⟩ := h
  exact ⟨h0, hP, va_K.moved (u := U) (U := U.calling g mk a) (Vm.Alike.refl U.vm) hK, hC.frame rfl rfl⟩
/-- a method's contract out of the walk of its body -/
theorem aw_body_q {d : Nat} {mm : am_mm} {as : List am_v} {M : am_M} {Q : Option Int → am_M → Prop} {L : List (Nat × am_v)} (hy : plainName mm.1.cls = true) (hn : as.length ≤ mm.2.2.1) (hL : am_L 0 as = L) (h : AW_q d mm 0 L [] M Q) : AC_q d mm as M Q := by
  intro l D dA ad hinj
  refine Met.ofW (cc := mm.2.1) (maxL := mm.2.2.1) (ret := mm.2.2.2) hy rfl ?_
  intro p e s m args below meth c s₁ B hml hv
  obtain ⟨rfl, hP, hK, hC⟩ := hv
  have hts := atoms_spec (ws := am_w mm) B.pre
  have hown : s.vm.findClass mm.1.cls = some m.cls := findClass_of_methodNamed B.named
  have hl := lv_entry (as.map (am_val ad)) (n := mm.2.2.1) (by rw [am_sl]; exact hn)
  rw [lg_entry_eq]
  generalize (lg_sl (as.map (am_val ad)) ++ List.replicate (mm.2.2.1 - (lg_sl (as.map (am_val ad))).length) Slot.unset).toArray = ls at hl ⊢
  rw [am_args, hL] at hl
  exact h p l e s m _ below meth c D dA ad s.heap [] ls ⟨B.exec, B.bytes, B.returns, hml, B.notSynchronized, hown, hts, hK, hinj, hC⟩ hP va_S.rf hl
/-- fewer locals -/
theorem aw_sub_q {d : Nat} {mm : am_mm} {pc : Nat} {L L' : List (Nat × am_v)} {st : List am_v} {M : am_M} {Q : Option Int → am_M → Prop} (ks : List Nat) (hL : ks.filterMap (fun k => L[k]?) = L') (h : AW_q d mm pc L' st M Q) : AW_q d mm pc L st M Q := by
  intro p l e s m args below meth c D dA ad H locs ls C hP hS hl
  refine h p l e s m args below meth c D dA ad H locs ls C hP hS (lv_sub hl ks ?_)
  rw [← hL]
  unfold lv_pick
  rw [List.map_filterMap]
  congr 1
  funext k
  simp
/-- a stronger end -/
theorem AW_q.mono {d : Nat} {mm : am_mm} {pc : Nat} {L : List (Nat × am_v)} {st : List am_v} {M : am_M} {Q Q' : Option Int → am_M → Prop} (hQ : ∀ r M', Q r M' → Q' r M') (h : AW_q d mm pc L st M Q) : AW_q d mm pc L st M Q' := by
  intro p l e s m args below meth c D dA ad H locs ls C hP hS hl T hT X
  obtain ⟨t, h1, o, h2, h3, ⟨⟨r, M', h4, h5, h6⟩, h7⟩, h8⟩ := h p l e s m args below meth c D dA ad H locs ls C hP hS hl T hT X
  exact ⟨t, h1, o, h2, h3, ⟨⟨r, M', h4, hQ r M' h5, h6⟩, h7⟩, h8⟩

/-! the class alone: 03b over the cells 0..61 -/
section AMS
variable {d : Nat} {mm : am_mm} {pc : Nat} {L L' : List (Nat × am_v)} {st : List am_v} {M : am_M} {Q : Option Int → am_M → Prop}
theorem aw_iconst_q {n : Int} (hd : decode mm.2.1 pc = .ok (.iconst n, 1)) (k : AW_q d mm (pc + 1) L (.inl n :: st) M Q) : AW_q d mm pc L st M Q := by
  intro p l e s m args below meth c D dA ad H locs ls C hP hS hl
  exact lv_iconst C.1 C.2.1 hd rfl (k p l e s m args below meth c D dA ad H locs ls C hP hS hl)
theorem aw_bipush_q {n : Int} (hd : decode mm.2.1 pc = .ok (.bipush n, 2)) (hn : -128 ≤ n ∧ n < 128) (k : AW_q d mm (pc + 2) L (.inl n :: st) M Q) : AW_q d mm pc L st M Q := by
  intro p l e s m args below meth c D dA ad H locs ls C hP hS hl
  exact lv_bipush C.1 C.2.1 hd (am_i8 hn) (k p l e s m args below meth c D dA ad H locs ls C hP hS hl)
theorem aw_sipush_q {n : Int} (hd : decode mm.2.1 pc = .ok (.sipush n, 3)) (hn : -32768 ≤ n ∧ n < 32768) (k : AW_q d mm (pc + 3) L (.inl n :: st) M Q) : AW_q d mm pc L st M Q := by
  intro p l e s m args below meth c D dA ad H locs ls C hP hS hl
  exact lv_sipush C.1 C.2.1 hd (am_i16 hn) (k p l e s m args below meth c D dA ad H locs ls C hP hS hl)
theorem aw_iload_n_q {k : Fin 4} {i j : Nat} {x : Int} (hd : decode mm.2.1 pc = .ok (.iload_n k, 1)) (hi : (k : Nat) = i) (hj : L[j]? = some (i, .inl x)) (kk : AW_q d mm (pc + 1) L (.inl x :: st) M Q) : AW_q d mm pc L st M Q := by
  intro p l e s m args below meth c D dA ad H locs ls C hP hS hl
  exact lv_iload_n C.1 C.2.1 hd hi (am_lat hl hj) (kk p l e s m args below meth c D dA ad H locs ls C hP hS hl)
theorem aw_iload_q {i j : Nat} {x : Int} (hd : decode mm.2.1 pc = .ok (.iload i, 2)) (hj : L[j]? = some (i, .inl x)) (kk : AW_q d mm (pc + 2) L (.inl x :: st) M Q) : AW_q d mm pc L st M Q := by
  intro p l e s m args below meth c D dA ad H locs ls C hP hS hl
  exact lv_iload C.1 C.2.1 hd (am_lat hl hj) (kk p l e s m args below meth c D dA ad H locs ls C hP hS hl)
theorem aw_aload_n_q {k : Fin 4} {i j a : Nat} (hd : decode mm.2.1 pc = .ok (.aload_n k, 1)) (hi : (k : Nat) = i) (hj : L[j]? = some (i, .inr a)) (kk : AW_q d mm (pc + 1) L (.inr a :: st) M Q) : AW_q d mm pc L st M Q := by
  intro p l e s m args below meth c D dA ad H locs ls C hP hS hl
  exact lv_aload_n C.1 C.2.1 hd hi (am_lat hl hj) (kk p l e s m args below meth c D dA ad H locs ls C hP hS hl)
theorem aw_istore_n_q {k : Fin 4} {i : Nat} {x : Int} (hd : decode mm.2.1 pc = .ok (.istore_n k, 1)) (hi : (k : Nat) = i) (hn : i < mm.2.2.1) (hL : am_st i (.inl x) L = L') (kk : AW_q d mm (pc + 1) L' st M Q) : AW_q d mm pc L (.inl x :: st) M Q := by
  intro p l e s m args below meth c D dA ad H locs ls C hP hS hl
  exact lv_istore_n C.1 C.2.1 hd hi hl hn rfl (fun ls' hl' => kk p l e s m args below meth c D dA ad H locs ls' C hP hS (am_has hL hl'))
theorem aw_istore_q {i : Nat} {x : Int} (hd : decode mm.2.1 pc = .ok (.istore i, 2)) (hn : i < mm.2.2.1) (hL : am_st i (.inl x) L = L') (kk : AW_q d mm (pc + 2) L' st M Q) : AW_q d mm pc L (.inl x :: st) M Q := by
  intro p l e s m args below meth c D dA ad H locs ls C hP hS hl
  exact lv_istore C.1 C.2.1 hd hl hn rfl (fun ls' hl' => kk p l e s m args below meth c D dA ad H locs ls' C hP hS (am_has hL hl'))
theorem aw_iinc_q {i j : Nat} {n x : Int} (hd : decode mm.2.1 pc = .ok (.iinc i n, 3)) (hj : L[j]? = some (i, .inl x)) (hn : i < mm.2.2.1) (hL : am_st i (.inl (x + n)) L = L') (kk : AW_q d mm (pc + 3) L' st M Q) : AW_q d mm pc L st M Q := by
  intro p l e s m args below meth c D dA ad H locs ls C hP hS hl
  exact lv_iinc C.1 C.2.1 hd hl (k := j) (x := Int32.ofInt x) (v := Int32.ofInt (x + n)) (by simp [hj, am_val]) (Int32.ofInt_add x n).symm hn rfl (fun ls' hl' => kk p l e s m args below meth c D dA ad H locs ls' C hP hS (am_has hL hl'))
theorem aw_iadd_q {x y : Int} (hd : decode mm.2.1 pc = .ok (.iadd, 1)) (k : AW_q d mm (pc + 1) L (.inl (x + y) :: st) M Q) : AW_q d mm pc L (.inl y :: .inl x :: st) M Q := by
  intro p l e s m args below meth c D dA ad H locs ls C hP hS hl
  have kk := k p l e s m args below meth c D dA ad H locs ls C hP hS hl
  simp only [List.map_cons, am_val, Int32.ofInt_add] at kk
  exact lv_iadd C.1 C.2.1 hd kk
theorem aw_isub_q {x y : Int} (hd : decode mm.2.1 pc = .ok (.isub, 1)) (k : AW_q d mm (pc + 1) L (.inl (x - y) :: st) M Q) : AW_q d mm pc L (.inl y :: .inl x :: st) M Q := by
  intro p l e s m args below meth c D dA ad H locs ls C hP hS hl
  have kk := k p l e s m args below meth c D dA ad H locs ls C hP hS hl
  simp only [List.map_cons, am_val, Int32.ofInt_sub] at kk
  exact lv_isub C.1 C.2.1 hd kk
theorem aw_imul_q {x y : Int} (hd : decode mm.2.1 pc = .ok (.imul, 1)) (k : AW_q d mm (pc + 1) L (.inl (x * y) :: st) M Q) : AW_q d mm pc L (.inl y :: .inl x :: st) M Q := by
  intro p l e s m args below meth c D dA ad H locs ls C hP hS hl
  have kk := k p l e s m args below meth c D dA ad H locs ls C hP hS hl
  simp only [List.map_cons, am_val, Int32.ofInt_mul] at kk
  exact lv_imul C.1 C.2.1 hd kk
theorem aw_ineg_q {x : Int} (hd : decode mm.2.1 pc = .ok (.ineg, 1)) (k : AW_q d mm (pc + 1) L (.inl (-x) :: st) M Q) : AW_q d mm pc L (.inl x :: st) M Q := by
  intro p l e s m args below meth c D dA ad H locs ls C hP hS hl
  have kk := k p l e s m args below meth c D dA ad H locs ls C hP hS hl
  simp only [List.map_cons, am_val, Int32.ofInt_neg] at kk
  exact lv_ineg C.1 C.2.1 hd kk
theorem aw_dup_q {v : am_v} (hd : decode mm.2.1 pc = .ok (.dup, 1)) (k : AW_q d mm (pc + 1) L (v :: v :: st) M Q) : AW_q d mm pc L (v :: st) M Q := by
  intro p l e s m args below meth c D dA ad H locs ls C hP hS hl
  exact lv_dup C.1 C.2.1 hd (am_cat ad v) (k p l e s m args below meth c D dA ad H locs ls C hP hS hl)
theorem aw_dup2_q {v w : am_v} (hd : decode mm.2.1 pc = .ok (.dup2, 1)) (k : AW_q d mm (pc + 1) L (v :: w :: v :: w :: st) M Q) : AW_q d mm pc L (v :: w :: st) M Q := by
  intro p l e s m args below meth c D dA ad H locs ls C hP hS hl
  exact lv_dup2_11 C.1 C.2.1 hd (am_cat ad v) (am_cat ad w) (k p l e s m args below meth c D dA ad H locs ls C hP hS hl)
theorem aw_pop_q {v : am_v} (hd : decode mm.2.1 pc = .ok (.pop, 1)) (k : AW_q d mm (pc + 1) L st M Q) : AW_q d mm pc L (v :: st) M Q := by
  intro p l e s m args below meth c D dA ad H locs ls C hP hS hl
  exact lv_pop C.1 C.2.1 hd (am_cat ad v) (k p l e s m args below meth c D dA ad H locs ls C hP hS hl)
theorem aw_goto_q {off : Int} {tgt : Nat} (hd : decode mm.2.1 pc = .ok (.goto off, 3)) (ht : (pc : Int) + off = (tgt : Int)) (k : AW_q d mm tgt L st M Q) : AW_q d mm pc L st M Q := by
  intro p l e s m args below meth c D dA ad H locs ls C hP hS hl
  exact lv_goto C.1 C.2.1 hd ht (k p l e s m args below meth c D dA ad H locs ls C hP hS hl)
theorem aw_icmp_lt_q {x y off : Int} {tgt : Nat} (hd : decode mm.2.1 pc = .ok (.if_icmp .lt off, 3)) (ht : (pc : Int) + off = (tgt : Int)) (hx : -2147483648 ≤ x ∧ x < 2147483648) (hy : -2147483648 ≤ y ∧ y < 2147483648) (kt : x < y → AW_q d mm tgt L st M Q) (kf : y ≤ x → AW_q d mm (pc + 3) L st M Q) : AW_q d mm pc L (.inl y :: .inl x :: st) M Q := by
  intro p l e s m args below meth c D dA ad H locs ls C hP hS hl
  exact lv_icmp_lt C.1 C.2.1 hd ht (fun q => kt ((am_lt hx hy).mp q) p l e s m args below meth c D dA ad H locs ls C hP hS hl) (fun q => kf (Int.not_lt.mp fun z => q ((am_lt hx hy).mpr z)) p l e s m args below meth c D dA ad H locs ls C hP hS hl)
theorem aw_icmp_ge_q {x y off : Int} {tgt : Nat} (hd : decode mm.2.1 pc = .ok (.if_icmp .ge off, 3)) (ht : (pc : Int) + off = (tgt : Int)) (hx : -2147483648 ≤ x ∧ x < 2147483648) (hy : -2147483648 ≤ y ∧ y < 2147483648) (kt : y ≤ x → AW_q d mm tgt L st M Q) (kf : x < y → AW_q d mm (pc + 3) L st M Q) : AW_q d mm pc L (.inl y :: .inl x :: st) M Q := by
  intro p l e s m args below meth c D dA ad H locs ls C hP hS hl
  exact lv_icmp_ge C.1 C.2.1 hd ht (fun q => kt ((am_le hy hx).mp q) p l e s m args below meth c D dA ad H locs ls C hP hS hl) (fun q => kf (Int.not_le.mp fun z => q ((am_le hy hx).mpr z)) p l e s m args below meth c D dA ad H locs ls C hP hS hl)
theorem aw_icmp_gt_q {x y off : Int} {tgt : Nat} (hd : decode mm.2.1 pc = .ok (.if_icmp .gt off, 3)) (ht : (pc : Int) + off = (tgt : Int)) (hx : -2147483648 ≤ x ∧ x < 2147483648) (hy : -2147483648 ≤ y ∧ y < 2147483648) (kt : y < x → AW_q d mm tgt L st M Q) (kf : x ≤ y → AW_q d mm (pc + 3) L st M Q) : AW_q d mm pc L (.inl y :: .inl x :: st) M Q := by
  intro p l e s m args below meth c D dA ad H locs ls C hP hS hl
  exact lv_icmp_gt C.1 C.2.1 hd ht (fun q => kt ((am_lt hy hx).mp q) p l e s m args below meth c D dA ad H locs ls C hP hS hl) (fun q => kf (Int.not_lt.mp fun z => q ((am_lt hy hx).mpr z)) p l e s m args below meth c D dA ad H locs ls C hP hS hl)
theorem aw_icmp_le_q {x y off : Int} {tgt : Nat} (hd : decode mm.2.1 pc = .ok (.if_icmp .le off, 3)) (ht : (pc : Int) + off = (tgt : Int)) (hx : -2147483648 ≤ x ∧ x < 2147483648) (hy : -2147483648 ≤ y ∧ y < 2147483648) (kt : x ≤ y → AW_q d mm tgt L st M Q) (kf : y < x → AW_q d mm (pc + 3) L st M Q) : AW_q d mm pc L (.inl y :: .inl x :: st) M Q := by
  intro p l e s m args below meth c D dA ad H locs ls C hP hS hl
  exact lv_icmp_le C.1 C.2.1 hd ht (fun q => kt ((am_le hx hy).mp q) p l e s m args below meth c D dA ad H locs ls C hP hS hl) (fun q => kf (Int.not_le.mp fun z => q ((am_le hx hy).mpr z)) p l e s m args below meth c D dA ad H locs ls C hP hS hl)
theorem aw_icmp_eq_q {x y off : Int} {tgt : Nat} (hd : decode mm.2.1 pc = .ok (.if_icmp .eq off, 3)) (ht : (pc : Int) + off = (tgt : Int)) (hx : -2147483648 ≤ x ∧ x < 2147483648) (hy : -2147483648 ≤ y ∧ y < 2147483648) (kt : x = y → AW_q d mm tgt L st M Q) (kf : x ≠ y → AW_q d mm (pc + 3) L st M Q) : AW_q d mm pc L (.inl y :: .inl x :: st) M Q := by
  intro p l e s m args below meth c D dA ad H locs ls C hP hS hl
  exact lv_icmp_eq C.1 C.2.1 hd ht (fun q => kt ((am_eq hx hy).mp q) p l e s m args below meth c D dA ad H locs ls C hP hS hl) (fun q => kf (fun z => q ((am_eq hx hy).mpr z)) p l e s m args below meth c D dA ad H locs ls C hP hS hl)
theorem aw_icmp_ne_q {x y off : Int} {tgt : Nat} (hd : decode mm.2.1 pc = .ok (.if_icmp .ne off, 3)) (ht : (pc : Int) + off = (tgt : Int)) (hx : -2147483648 ≤ x ∧ x < 2147483648) (hy : -2147483648 ≤ y ∧ y < 2147483648) (kt : x ≠ y → AW_q d mm tgt L st M Q) (kf : x = y → AW_q d mm (pc + 3) L st M Q) : AW_q d mm pc L (.inl y :: .inl x :: st) M Q := by
  intro p l e s m args below meth c D dA ad H locs ls C hP hS hl
  exact lv_icmp_ne C.1 C.2.1 hd ht (fun q => kt (fun z => q ((am_eq hx hy).mpr z)) p l e s m args below meth c D dA ad H locs ls C hP hS hl) (fun q => kf ((am_eq hx hy).mp q) p l e s m args below meth c D dA ad H locs ls C hP hS hl)
theorem aw_if_lt_q {x off : Int} {tgt : Nat} (hd : decode mm.2.1 pc = .ok (.ifCond .lt off, 3)) (ht : (pc : Int) + off = (tgt : Int)) (hx : -2147483648 ≤ x ∧ x < 2147483648) (kt : x < 0 → AW_q d mm tgt L st M Q) (kf : 0 ≤ x → AW_q d mm (pc + 3) L st M Q) : AW_q d mm pc L (.inl x :: st) M Q := by
  intro p l e s m args below meth c D dA ad H locs ls C hP hS hl
  exact lv_if_lt C.1 C.2.1 hd ht (fun q => kt ((am_lt hx am_r0).mp q) p l e s m args below meth c D dA ad H locs ls C hP hS hl) (fun q => kf (Int.not_lt.mp fun z => q ((am_lt hx am_r0).mpr z)) p l e s m args below meth c D dA ad H locs ls C hP hS hl)
theorem aw_if_eq_q {x off : Int} {tgt : Nat} (hd : decode mm.2.1 pc = .ok (.ifCond .eq off, 3)) (ht : (pc : Int) + off = (tgt : Int)) (hx : -2147483648 ≤ x ∧ x < 2147483648) (kt : x = 0 → AW_q d mm tgt L st M Q) (kf : x ≠ 0 → AW_q d mm (pc + 3) L st M Q) : AW_q d mm pc L (.inl x :: st) M Q := by
  intro p l e s m args below meth c D dA ad H locs ls C hP hS hl
  exact lv_if_eq C.1 C.2.1 hd ht (fun q => kt ((am_eq hx am_r0).mp q) p l e s m args below meth c D dA ad H locs ls C hP hS hl) (fun q => kf (fun z => q ((am_eq hx am_r0).mpr z)) p l e s m args below meth c D dA ad H locs ls C hP hS hl)
theorem aw_if_ne_q {x off : Int} {tgt : Nat} (hd : decode mm.2.1 pc = .ok (.ifCond .ne off, 3)) (ht : (pc : Int) + off = (tgt : Int)) (hx : -2147483648 ≤ x ∧ x < 2147483648) (kt : x ≠ 0 → AW_q d mm tgt L st M Q) (kf : x = 0 → AW_q d mm (pc + 3) L st M Q) : AW_q d mm pc L (.inl x :: st) M Q := by
  intro p l e s m args below meth c D dA ad H locs ls C hP hS hl
  exact lv_if_ne C.1 C.2.1 hd ht (fun q => kt (fun z => q ((am_eq hx am_r0).mpr z)) p l e s m args below meth c D dA ad H locs ls C hP hS hl) (fun q => kf ((am_eq hx am_r0).mp q) p l e s m args below meth c D dA ad H locs ls C hP hS hl)
theorem aw_iret_q {z : Int} (hd : decode mm.2.1 pc = .ok (.ireturn, 1)) (hr : mm.2.2.2 = some .int) (h : Q (some z) M) : AW_q d mm pc L [.inl z] M Q := by
  intro p l e s m args below meth c D dA ad H locs ls C hP hS hl
  obtain ⟨hx, hb, hr', hml, hlk, hown, hts, hK, hinj, hC⟩ := id C
  exact W.iret (v := Int32.ofInt z) hx hb (hr'.trans hr) (fun t ht hW => ⟨⟨some z, M, rfl, h, by rw [ht]; exact hP⟩, hS.F ht⟩) hS.2.2 hd hlk
theorem aw_nret_q {z : Int} {ty : FieldType} (hd : decode mm.2.1 pc = .ok (.ireturn, 1)) (hr : mm.2.2.2 = some ty) (hn : narrow ty (.int (Int32.ofInt z)) = .int (Int32.ofInt z)) (h : Q (some z) M) : AW_q d mm pc L [.inl z] M Q := by
  intro p l e s m args below meth c D dA ad H locs ls C hP hS hl
  obtain ⟨hx, hb, hr', hml, hlk, hown, hts, hK, hinj, hC⟩ := id C
  exact W.zret (v := Int32.ofInt z) hx hb (hr'.trans hr) hn (fun t ht hW => ⟨⟨some z, M, rfl, h, by rw [ht]; exact hP⟩, hS.F ht⟩) hS.2.2 hd hlk
theorem aw_zret_q {z : Int} (hd : decode mm.2.1 pc = .ok (.ireturn, 1)) (hr : mm.2.2.2 = some .boolean) (hz : z = 0 ∨ z = 1) (h : Q (some z) M) : AW_q d mm pc L [.inl z] M Q :=
  aw_nret_q hd hr (by rcases hz with rfl | rfl <;> decide +kernel) h
theorem aw_vret_q (hd : decode mm.2.1 pc = .ok (.return_, 1)) (hr : mm.2.2.2 = none) (h : Q none M) : AW_q d mm pc L [] M Q := by
  intro p l e s m args below meth c D dA ad H locs ls C hP hS hl
  obtain ⟨hx, hb, hr', hml, hlk, hown, hts, hK, hinj, hC⟩ := id C
  exact W.vret hx hb (hr'.trans hr) (fun t ht hW => ⟨⟨none, M, rfl, h, by rw [ht]; exact hP⟩, hS.F ht⟩) hS.2.2 hd hlk
end AMS
/-! the class alone: 03c over the cells 0..61 -/
section AMM
variable {d : Nat} {mm : am_mm} {pc : Nat} {L L' : List (Nat × am_v)} {st : List am_v} {M : am_M} {Q : Option Int → am_M → Prop}
theorem aw_getf_q {a idx ci k : Nat} {fs : List (Option Nat)} {kz : Int} (hd : decode mm.2.1 pc = .ok (.getfield idx, 3)) (hf : am_flB mm.1.cls idx ci k = true) (hs : am_sh_q[a]? = some (.inr (ci, fs))) (hk : fs[k]? = some none) (hz : (k : Int) = kz) (kk : AW_q d mm (pc + 3) L (.inl (M a kz) :: st) M Q) : AW_q d mm pc L (.inr a :: st) M Q := by
  intro p l e s m args below meth c D dA ad H locs ls C hP hS hl
  obtain ⟨hx, hb, hr, hml, hlk, hown, hts, hK, hinj, hC⟩ := id C
  obtain ⟨q, h1, h2, h3⟩ := am_fl_spec hf
  obtain ⟨g1, -, -⟩ := am_cls ci q h1
  subst hz
  exact va_get (C := q.1) (T := q.2.1) (N := q.2.2) hx hb hts (fun w hw => am_mem (g1 w hw)) hown hK hP a (am_ws_get_q hs) h1 k h2 (hts _ (am_mem h3)) (fun _ h => h) (v := .int (Int32.ofInt (M a k))) (by simp [List.getElem?_mapIdx, hk, am_fv]) hd (kk p l e s m args below meth c D dA ad H locs ls C hP hS hl)
theorem aw_getr_q {a idx ci k b : Nat} {fs : List (Option Nat)} (hd : decode mm.2.1 pc = .ok (.getfield idx, 3)) (hf : am_flB mm.1.cls idx ci k = true) (hs : am_sh_q[a]? = some (.inr (ci, fs))) (hk : fs[k]? = some (some b)) (kk : AW_q d mm (pc + 3) L (.inr b :: st) M Q) : AW_q d mm pc L (.inr a :: st) M Q := by
  intro p l e s m args below meth c D dA ad H locs ls C hP hS hl
  obtain ⟨hx, hb, hr, hml, hlk, hown, hts, hK, hinj, hC⟩ := id C
  obtain ⟨q, h1, h2, h3⟩ := am_fl_spec hf
  obtain ⟨g1, -, -⟩ := am_cls ci q h1
  exact va_get (C := q.1) (T := q.2.1) (N := q.2.2) hx hb hts (fun w hw => am_mem (g1 w hw)) hown hK hP a (am_ws_get_q hs) h1 k h2 (hts _ (am_mem h3)) (fun _ h => h) (v := .ref (ad b)) (by simp [List.getElem?_mapIdx, hk, am_fv]) hd (kk p l e s m args below meth c D dA ad H locs ls C hP hS hl)
theorem aw_putf_q {a idx ci k : Nat} {fs : List (Option Nat)} {kz z : Int} (hd : decode mm.2.1 pc = .ok (.putfield idx, 3)) (hf : am_pfB mm.1.cls idx ci k = true) (hs : am_sh_q[a]? = some (.inr (ci, fs))) (hk : fs[k]? = some none) (hz : (k : Int) = kz) (kk : AW_q d mm (pc + 3) L st (am_up M a kz z) Q) : AW_q d mm pc L (.inl z :: .inr a :: st) M Q := by
  intro p l e s m args below meth c D dA ad H locs ls C hP hS hl
  obtain ⟨hx, hb, hr, hml, hlk, hown, hts, hK, hinj, hC⟩ := id C
  obtain ⟨q, h1, h2, h3, h4, h5⟩ := am_pf_spec hf
  obtain ⟨g1, ⟨ty0, g2⟩, g3⟩ := am_cls ci q h1
  subst hz
  have hlen : k < fs.length := (List.getElem?_eq_some_iff.mp hk).1
  refine va_put (C := q.1) (T := q.2.1) (N := q.2.2) (ty := .int) hx hb hts (fun w hw => am_mem (g1 w hw)) ty0 g2 g3 hown hK hP (am_D_q hinj) hS a (am_ws_get_q hs) h1 k h2 (hts _ (am_mem h3)) (fun _ h => h) h4 (v := .int (Int32.ofInt z)) h5 rfl rfl (by simpa using hlen) hd (fun H1 locs1 hP1 _ hS1 => ?_)
  refine kk p l e s m args below meth c D dA ad H1 locs1 ls C (am_ws_put_q hs ?_ (am_up_ne M a k z) hP1) hS1 hl
  simp only [am_cell]
  congr 2
  apply List.ext_getElem?
  intro j
  by_cases hj : j = k
  · subst hj
    rw [List.getElem?_set_self (by simpa using hlen)]
    simp [List.getElem?_mapIdx, hk, am_fv, am_up]
  · rw [List.getElem?_set_ne (Ne.symm hj)]
    simp only [List.getElem?_mapIdx]
    cases fs[j]? with
    | none => rfl
    | some o =>
      have hj' : ¬ (j : Int) = (k : Int) := by omega
      cases o <;> simp [am_fv, am_up, hj']
theorem aw_iaload_q {a n : Nat} {i : Int} (hd : decode mm.2.1 pc = .ok (.iaload, 1)) (hs : am_sh_q[a]? = some (.inl (0, n))) (hi : 0 ≤ i ∧ i < n) (kk : AW_q d mm (pc + 1) L (.inl (M a i) :: st) M Q) : AW_q d mm pc L (.inl i :: .inr a :: st) M Q := by
  intro p l e s m args below meth c D dA ad H locs ls C hP hS hl
  obtain ⟨hx, hb, hr, hml, hlk, hown, hts, hK, hinj, hC⟩ := id C
  obtain ⟨g1, g2⟩ := am_in (am_small_q a 0 n hs) hi
  have h := kk p l e s m args below meth c D dA ad H locs ls C hP hS hl
  refine va_iald hx hb hK hP a 0 (f := fun j => Int32.ofInt (M a (j : Int))) (am_ws_get_q hs) rfl g1 hd ?_
  rw [g2, show ((i.toNat : Nat) : Int) = i by omega]
  exact h
theorem aw_iastore_q {a n : Nat} {i z : Int} (hd : decode mm.2.1 pc = .ok (.iastore, 1)) (hs : am_sh_q[a]? = some (.inl (0, n))) (hi : 0 ≤ i ∧ i < n) (kk : AW_q d mm (pc + 1) L st (am_up M a i z) Q) : AW_q d mm pc L (.inl z :: .inl i :: .inr a :: st) M Q := by
  intro p l e s m args below meth c D dA ad H locs ls C hP hS hl
  obtain ⟨hx, hb, hr, hml, hlk, hown, hts, hK, hinj, hC⟩ := id C
  obtain ⟨g1, g2⟩ := am_in (am_small_q a 0 n hs) hi
  refine va_iast hx hb hK hP (am_D_q hinj) hS a 0 (f := fun j => Int32.ofInt (M a (j : Int))) (am_ws_get_q hs) rfl (x := Int32.ofInt z) g1 hd (fun H1 locs1 hP1 _ hS1 => ?_)
  refine kk p l e s m args below meth c D dA ad H1 locs1 ls C (am_ws_put_q hs ?_ (am_up_ne M a i z) hP1) hS1 hl
  rw [g2, am_upd hi]
  rfl
theorem aw_alen_q {a n : Nat} (hd : decode mm.2.1 pc = .ok (.arraylength, 1)) (hs : am_sh_q[a]? = some (.inl (0, n))) (kk : AW_q d mm (pc + 1) L (.inl (n : Int) :: st) M Q) : AW_q d mm pc L (.inr a :: st) M Q := by
  intro p l e s m args below meth c D dA ad H locs ls C hP hS hl
  obtain ⟨hx, hb, hr, hml, hlk, hown, hts, hK, hinj, hC⟩ := id C
  exact va_alen hx hb hK hP a 0 (am_ws_get_q hs) (ty := .int) rfl (am_ofNat n) hd (kk p l e s m args below meth c D dA ad H locs ls C hP hS hl)
theorem aw_gets102_q (hcls : mm.1.cls = "FollowedPeaks$Scene") (hd : decode mm.2.1 pc = .ok (.getstatic 28, 3)) (kk : AW_q d mm (pc + 3) L (.inr 102 :: st) M Q) : AW_q d mm pc L st M Q := by
  intro p l e s m args below meth c D dA ad H locs ls C hP hS hl
  obtain ⟨hx, hb, hr, hml, hlk, hown, hts, hK, hinj, hC⟩ := id C
  rw [hcls] at hown
  exact va_getsN hx hb hC.2.2.1.1 hS hown (va_Nw.use rfl hC.2.2.2.1.1) (fun _ h => h) hd (kk p l e s m args below meth c D dA ad H locs ls C hP hS hl)
end AMM
/-! the class alone: 03d over the cells 0..61 -/
theorem AC_q.mono {d : Nat} {mm : am_mm} {as : List am_v} {M : am_M} {Q Q' : Option Int → am_M → Prop} (hQ : ∀ r M', Q r M' → Q' r M') (h : AC_q d mm as M Q) : AC_q d mm as M Q' := by
  intro l D dA ad hinj p e ha hc hk s m args below hf happ hpre hk2
  obtain ⟨k, o, h1, h2, h3, ⟨⟨r, M', h4, h5, h6⟩, h7⟩, h8⟩ := h l D dA ad hinj p e ha hc hk s m args below hf happ hpre hk2
  exact ⟨k, o, h1, h2, h3, ⟨⟨r, M', h4, hQ r M' h5, h6⟩, h7⟩, h8⟩
section AMC
variable {d : Nat} {mm : am_mm} {pc : Nat} {L L' : List (Nat × am_v)} {st : List am_v} {M : am_M} {Q : Option Int → am_M → Prop}
theorem am_go_q {p : Program} {l : Launch} {e : Env} {R : Room} {s : State} {m : MethodId} {args : Array Value} {below : List Frame} {meth : Method} {c : Code} {H : Heap} {locs : List Loc} {Qs : State → Prop} {ls : Array Slot} {st0 rest : List Value} {a : Array Value} {D : va_G} {dA : Nat → ClassId} {ad : Nat → Nat} {Q' : Option Int → am_M → Prop}
    (hr : va_Run p l e R s m args below meth c H locs 0 0 0 0 (F0 m pc ls st0) rest (am_Qc_q D dA ad Q' a) (am_A_q ad)) (hS : va_S (am_A_q ad) s.heap H locs)
    (kk : ∀ (r : Option Int) (M' : am_M) (H1 : Heap) (locs1 : List Loc), Q' r M' → va_P D am_cl (am_ws_q dA ad M') H1 → va_S (am_A_q ad) s.heap H1 locs1 → W p l e R s m args below meth c H1 locs1 0 0 Qs (F0 m (pc + 3) ls ((r.map am_iv).toList ++ rest))) : W p l e R s m args below meth c H locs 0 0 Qs (F0 m pc ls st0) := by
  intro T hT X
  obtain ⟨v, st₀, t, T', L9, h0, X', hL, e1, e2, ⟨⟨r, M', hv, hq, hp⟩, hz, hk⟩, st⟩ := hr T hT X
  cases hv
  rw [h0] at hz hk
  obtain ⟨t2, a1, b1⟩ := kk r M' T'.heap (locs ++ L9) hq (by rw [e1]; exact hp)
    ⟨Nat.le_trans hS.1 (by rw [e1]; exact hz), fun q h1 h2 => by rw [e1, hk q (Nat.lt_of_lt_of_le h1 hS.1) h2]; exact hS.2.1 q h1 h2, fun q hq => by
      rcases List.mem_append.mp hq with h | h
      · exact hS.2.2 q h
      · exact hL q h⟩ T' rfl X'
  exact ⟨t2, st t2 a1, b1⟩
theorem am_pre_go_q {p : Program} {s : State} {m : MethodId} {args : Array Value} {meth : Method} {c : Code} {D : va_G} {dA : Nat → ClassId} {ad : Nat → Nat} {H : Heap} {locs : List Loc} {av : List Value} (C : am_Ctx_q mm p s m args meth c D dA ad) (hP : va_P D am_cl (am_ws_q dA ad M) H) (hS : va_S (am_A_q ad) s.heap H locs) : ∀ U : State, U.heap = H → s.WarmedH U.vm → va_Pc av (am_Pre_q D dA ad M) av.toArray U := by
  obtain ⟨hx, hb, hr, hml, hlk, hown, hts, hK, hinj, hC⟩ := C
  exact fun U hU hW => ⟨rfl, by rw [hU]; exact hP, va_K.moved hW.alike hK, hC.go hS hU hW⟩
theorem aw_invv_q {d' : Nat} {mm' : am_mm} {b ci n idx : Nat} {fs : List (Option Nat)} {as rest st0 : List am_v} {q : vw_C} (hd : decode mm.2.1 pc = .ok (.invokevirtual idx, 3)) (hw : am_cvB mm.1.cls idx mm' n = true) (hdd : d' < d) (hs : am_sh_q[b]? = some (.inr (ci, fs))) (hcl : am_cl[ci]? = some q) (hq : q.1 = mm'.1.cls) (hn : as.length = n) (hst : st0 = as.reverse ++ .inr b :: rest) (hrest : rest.length ≤ 8)
    (h : AC_q d' mm' (.inr b :: as) M (fun r M' => AW_q d mm (pc + 3) L ((r.map Sum.inl).toList ++ rest) M' Q)) : AW_q d mm pc L st0 M Q := by
  intro p l e s m args below meth c D dA ad H locs ls C hP hS hl
  obtain ⟨hx, hb, hr, hml, hlk, hown, hts, hK, hinj, hC⟩ := id C
  unfold am_cvB at hw
  simp only [Bool.and_eq_true, decide_eq_true_eq] at hw
  obtain ⟨⟨hw, w6⟩, w7⟩ := hw
  obtain ⟨w1, w2, w3, w4, w5⟩ := am_cB_spec hw
  subst hst
  have hG : GoodIn (am_w mm) (wsV mm.1.cls idx mm'.1.cls mm'.1 (am_w mm')) := by
    intro w hw
    rcases List.mem_append.mp hw with hw | hw
    · simp only [List.mem_cons, List.not_mem_nil, or_false] at hw
      rcases hw with rfl | rfl | rfl | rfl
      · exact ⟨am_mem w1, am_goodT w1⟩
      · exact ⟨am_mem w6, am_goodT w6⟩
      · exact ⟨am_mem w7, am_goodT w7⟩
      · exact ⟨am_mem w2, am_goodT w2⟩
    · exact am_good w3 w hw
  have hrun := va_runV (As := as.map (am_val ad)) (rest := rest.map (am_val ad)) (g := F0 m pc ls ((as.reverse ++ .inr b :: rest).map (am_val ad))) (locs := locs) (cells := 0) (slots := 0) (below := below) (e := e) (meth := meth) (R := am_room d) ⟨hx, hb, hml, hown, hts⟩ (h l D dA ad hinj) (cwV (R := am_room d) n hts hG rfl rfl rfl ⟨rfl, w4⟩ ⟨hdd, by show 8 + (_ + 11) + 39 * d' ≤ 39 * d; omega⟩)
    ⟨am_blind_q, by rw [← hq]; exact va_recv hK hP hcl (am_ws_get_q hs), am_pre_go_q (av := (.inr b :: as : List am_v).map (am_val ad)) C hP hS⟩ rfl (by simpa using hn) hl.1 (by simp [am_val]) (lv_room (by rw [am_cats]; exact hrest)) hd ⟨Nat.le_refl _, Nat.le_refl _⟩
  refine am_go_q hrun hS (fun r M' H1 locs1 hQ hP1 hS1 => ?_)
  rw [am_ret]
  exact hQ p l e s m args below meth c D dA ad H1 locs1 ls C hP1 hS1 hl
theorem aw_invs_q {d' : Nat} {mm' : am_mm} {n idx : Nat} {as rest st0 : List am_v} (hd : decode mm.2.1 pc = .ok (.invokestatic idx, 3)) (hw : am_csB mm.1.cls idx mm' n = true) (hdd : d' < d) (hn : as.length = n) (hst : st0 = as.reverse ++ rest) (hrest : rest.length ≤ 8)
    (h : AC_q d' mm' as M (fun r M' => AW_q d mm (pc + 3) L ((r.map Sum.inl).toList ++ rest) M' Q)) : AW_q d mm pc L st0 M Q := by
  intro p l e s m args below meth c D dA ad H locs ls C hP hS hl
  obtain ⟨hx, hb, hr, hml, hlk, hown, hts, hK, hinj, hC⟩ := id C
  unfold am_csB at hw
  simp only [Bool.and_eq_true, decide_eq_true_eq] at hw
  obtain ⟨hw, w6⟩ := hw
  obtain ⟨w1, w2, w3, w4, w5⟩ := am_cB_spec hw
  subst hst
  have hG : GoodIn (am_w mm) (va_wsS mm.1.cls idx mm'.1 (am_w mm')) := by
    intro w hw
    rcases List.mem_append.mp hw with hw | hw
    · simp only [List.mem_cons, List.not_mem_nil, or_false] at hw
      rcases hw with rfl | rfl | rfl
      · exact ⟨am_mem w1, am_goodT w1⟩
      · exact ⟨am_mem w6, am_goodT w6⟩
      · exact ⟨am_mem w2, am_goodT w2⟩
    · exact am_good w3 w hw
  have hrun := va_runS (As := as.map (am_val ad)) (rest := rest.map (am_val ad)) (g := F0 m pc ls ((as.reverse ++ rest).map (am_val ad))) (locs := locs) (cells := 0) (slots := 0) (below := below) (e := e) (meth := meth) (R := am_room d) ⟨hx, hb, hml, hown, hts⟩ (h l D dA ad hinj) (va_cwS (R := am_room d) n hts hG rfl rfl rfl w4 ⟨hdd, by show 8 + (_ + 11) + 39 * d' ≤ 39 * d; omega⟩)
    ⟨am_blind_q, am_pre_go_q (av := as.map (am_val ad)) C hP hS⟩ rfl (by simpa using hn) hl.1 (by simp) (lv_room (by rw [am_cats]; exact hrest)) hd ⟨Nat.le_refl _, Nat.le_refl _⟩
  refine am_go_q hrun hS (fun r M' H1 locs1 hQ hP1 hS1 => ?_)
  rw [am_ret]
  exact hQ p l e s m args below meth c D dA ad H1 locs1 ls C hP1 hS1 hl
end AMC
/-! the class alone: 03e over the cells 0..61 -/
section AME
variable {d : Nat} {mm : am_mm} {pc : Nat} {L L' : List (Nat × am_v)} {st : List am_v} {M : am_M} {Q : Option Int → am_M → Prop}
theorem aw_copy_q {idx a b na nb : Nat} {sp dp n : Int} {rest : List am_v} (hd : decode mm.2.1 pc = .ok (.invokestatic idx, 3)) (hw : am_cpB mm.1.cls idx = true) (hdd : 0 < d) (ha : am_sh_q[a]? = some (.inl (0, na))) (hb0 : am_sh_q[b]? = some (.inl (0, nb))) (hr : rest.length ≤ 8) (hz : 0 ≤ sp ∧ 0 ≤ dp ∧ 0 ≤ n ∧ sp + n ≤ na ∧ dp + n ≤ nb)
    (kk : AW_q d mm (pc + 3) L rest (am_cp M a sp b dp n) Q) : AW_q d mm pc L (.inl n :: .inl dp :: .inr b :: .inl sp :: .inr a :: rest) M Q := by
  intro p l e s m args below meth c D dA ad H locs ls C hP hS hl
  obtain ⟨hx, hb, hr', hml, hlk, hown, hts, hK, hinj, hC⟩ := id C
  unfold am_cpB at hw
  simp only [Bool.and_eq_true, decide_eq_true_eq] at hw
  obtain ⟨⟨⟨w1, w2⟩, w3⟩, w4⟩ := hw
  have sa := am_small_q a 0 na ha
  have sb := am_small_q b 0 nb hb0
  obtain ⟨e1, e2⟩ := am_nn (x := sp) sa ⟨by omega, by omega⟩
  obtain ⟨e3, e4⟩ := am_nn (x := dp) sb ⟨by omega, by omega⟩
  obtain ⟨e5, e6⟩ := am_nn (x := n) sa ⟨by omega, by omega⟩
  refine va_copyi hx hb (hml.trans hl.1.symm) hown (hts _ (am_mem w1)) (hts _ (am_mem w2)) (hts _ (am_mem w3)) (hts _ (am_mem w4)) hK hP (am_D_q hinj) hS a b 0 0 (f := fun j => Int32.ofInt (M a (j : Int))) (g := fun j => Int32.ofInt (M b (j : Int))) (am_ws_get_q ha) (am_ws_get_q hb0) rfl rfl rfl e1 e3 e5 (by show _ ≤ na; rw [e2, e6]; omega) (by show _ ≤ nb; rw [e4, e6]; omega) (fun i _ => rfl) (by show 1 ≤ d; omega) (by rw [am_cats]; show _ + (7 + 11) ≤ 39 * d; omega) hd (fun H1 locs1 hP1 _ hS1 => ?_)
  rw [e2, e4, e6, am_cpy (na := na) (nb := nb) (by omega)] at hP1
  exact kk p l e s m args below meth c D dA ad H1 locs1 ls C (am_ws_put_q hb0 rfl (am_cp_ne M a sp b dp n) hP1) hS1 hl
/-- System.arraycopy(SETTING_AT_FIRST, 0, b, 0, 3) -/
theorem aw_copyt_q {idx b : Nat} {rest : List am_v} (hd : decode mm.2.1 pc = .ok (.invokestatic idx, 3)) (hw : am_cpB mm.1.cls idx = true) (hdd : 0 < d) (hb0 : am_sh_q[b]? = some (.inl (0, 3))) (hr : rest.length ≤ 8)
    (kk : AW_q d mm (pc + 3) L rest (am_cpt M am_fi b 3) Q) : AW_q d mm pc L (.inl 3 :: .inl 0 :: .inr b :: .inl 0 :: .inr 102 :: rest) M Q := by
  intro p l e s m args below meth c D dA ad H locs ls C hP hS hl T hT X
  obtain ⟨hx, hb, hr', hml, hlk, hown, hts, hK, hinj, hC⟩ := id C
  unfold am_cpB at hw
  simp only [Bool.and_eq_true, decide_eq_true_eq] at hw
  obtain ⟨⟨⟨w1, w2⟩, w3⟩, w4⟩ := hw
  obtain ⟨scr, hs1, hs2, hs3, hs4, -, hs5, hs7⟩ := hC.2.2.1.2
  have hD := am_D_q (dA := dA) (M := M) hinj
  have hc0 : H[ad 102]? = some scr := by rw [hS.2.1 (ad 102) (Array.getElem?_eq_some_iff.mp hs1).1 hs7]; exact hs1
  have ha1 := am_ws_get_q (dA := dA) (ad := ad) (M := M) hb0
  have hc1 : H[ad b]? = some (vp_cell (dA 0) (3, .inl (fun j : Nat => Int32.ofInt (M b (j : Int))))) := hP b _ ha1
  obtain ⟨hs6, k0, hk0, cm0, hkk0⟩ := hs2
  obtain ⟨-, k1, hk1, cm1, hkk1⟩ := (hK.2 0 (dA 0, .int) rfl).1 3 (fun j : Nat => .int (Int32.ofInt (M b (j : Int))))
  obtain ⟨vm', X', step⟩ := X.arraycopy hx hown (hts _ (am_mem w1)) (hts _ (am_mem w2)) (hts _ (am_mem w3)) (hts _ (am_mem w4)) (src := ad 102) (dst := ad b) (cs := scr) (cd := vp_cell (dA 0) (3, .inl (fun j : Nat => Int32.ofInt (M b (j : Int))))) (srcPos := 0) (destPos := 0) (n := 3) (by rw [hT]; exact hc0) (by rw [hT]; exact hc1)
    hs6 (fun _ h => by cases h) hs3 (fun h => by cases h) hk0 hk1 hkk0 hkk1 (by simp [refKind]) (by decide) (by decide) (by decide)
    (by show ¬ (0 : Int) + 3 > _; omega)
    (by show ¬ (0 : Int) + 3 > ((arrV (dA 0) 3 (fun j : Nat => .int (Int32.ofInt (M b (j : Int))))).slots.size : Int); rw [arrV_size]; decide)
    (fun vm₁ _ i hi => by
      have hi3 : i < 3 := hi
      have e9 : scr.slots.getD ((0 : Int32).toNatClampNeg + i) .null = .int (Int32.ofInt (am_fi.getD i 0)) := by
        rw [Array.getD_eq_getD_getElem?, show (0 : Int32).toNatClampNeg + i = i from Nat.zero_add i, hs5 i hi3]
        rfl
      refine ⟨?_, ?_⟩
      · rw [e9]
        rfl
      · rw [e9]
        exact trivial)
    (g := F0 m pc ls (.int 3 :: .int 0 :: .ref (ad b) :: .int 0 :: .ref (ad 102) :: rest.map (am_val ad))) rfl (by rw [hml]; exact hl.1) (rest := rest.map (am_val ad)) rfl (by rw [hb]; exact hd) (by show 1 ≤ d; omega) (by show 2 * 0 + _ + (7 + 11) ≤ 39 * d; rw [am_cats]; omega)
  have e1 : copied scr (vp_cell (dA 0) (3, .inl (fun j : Nat => Int32.ofInt (M b (j : Int))))) 0 0 3 = vp_cell (dA 0) (3, .inl (va_cpy (fun j : Nat => Int32.ofInt (am_fi.getD j 0)) (fun j : Nat => Int32.ofInt (M b (j : Int))) 0 0 3)) := va_copiedX (fun z => .int z) scr (dA 0) (fun j : Nat => Int32.ofInt (am_fi.getD j 0)) (fun j : Nat => Int32.ofInt (M b (j : Int))) hs5 (Nat.le_refl 3)
  rw [am_cpyt] at e1
  rw [e1] at X' step
  have hl9 : ad b < H.size := (Array.getElem?_eq_some_iff.mp hc1).1
  generalize hcc : vp_cell (dA 0) (3, .inl (fun j : Nat => Int32.ofInt (am_cpt M am_fi b 3 b (j : Int)))) = cc9 at X' step
  have hheap : ((T.setVm vm').setCell (ad b) cc9).heap = H.setIfInBounds (ad b) cc9 := by rw [← hT]; rfl
  have oq : ∀ q : Nat, q ≠ ad b → (H.setIfInBounds (ad b) cc9)[q]? = H[q]? := fun q hq => by simp [Array.getElem?_setIfInBounds, Ne.symm hq]
  have hP1 : va_P D am_cl ((am_ws_q dA ad M).set b (ad b, am_cell dA ad (am_cpt M am_fi b 3) b (.inl (0, 3)))) (H.setIfInBounds (ad b) cc9) := hP.set hD ha1 (show (H.setIfInBounds (ad b) _)[ad b]? = some _ by rw [← hcc]; simp [Array.getElem?_setIfInBounds, hl9, am_cell]) oq
  obtain ⟨t, a1, b1⟩ := kk p l e s m args below meth c D dA ad _ _ ls C (am_ws_put_q hb0 rfl (am_cpt_ne M am_fi b 3) hP1) ⟨by simp; exact hS.1, fun q g1 g2 => by
      rw [oq q (fun e => g2 (by rw [e]; exact hD.2 b _ ha1))]
      exact hS.2.1 q g1 g2, fun q hq => by
      rcases List.mem_append.mp hq with h | h
      · exact hS.2.2 q h
      · obtain ⟨z, -, hz⟩ := List.mem_map.mp h
        rw [← hz]
        exact hD.2 b _ ha1⟩ hl _ hheap X'
  exact ⟨t, step t a1, b1⟩
end AME
