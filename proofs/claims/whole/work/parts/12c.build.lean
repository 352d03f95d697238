/-! the builder: new objects, calls of constructors, arrays of scenes -/
section NC
variable {D : va_G} {dA : Nat → ClassId} {E : State → Prop} {w0 : va_W} {sz : Nat} {R : Room} {mm : am_mm} {mc ms pc : Nat} {L : List (Nat × Value)} {st : List Value} {ws : va_W} {k n : Nat} {Q : va_W → Prop}
theorem nb_new {idx ci : Nat} {q : vw_C} {fs : List Value} (ty : Nat → FieldType) (hd : decode mm.2.1 pc = .ok (.new idx, 3)) (hq : am_cl[ci]? = some q) (hty : ∀ j, j < q.2.2 → parseFieldDescriptor (q.2.1 j).2.2.1 = some (ty j)) (h1 : Cond.classLink mm.1.cls idx q.1 ∈ am_T) (h2 : Cond.instantiable q.1 q.2.2 ∈ am_T) (h3 : Cond.initialized q.1 ∈ am_T) (hfs : ∀ j, j < q.2.2 → defaultValue (ty j) = vp_V fs j) (hk : k + 1 ≤ R.cells) (hs : n + q.2.2 ≤ R.slots)
    (kk : ∀ a, BW D dA E w0 sz R mm mc ms (pc + 3) L (.ref a :: st) (ws ++ [(a, .inr (ci, fs))]) (k + 1) (n + q.2.2) Q) : BW D dA E w0 sz R mm mc ms pc L st ws k n Q := by
  intro p l e s m args below meth c H locs ls C hsz hP hD hS hl
  obtain ⟨hx, hb, hr, hml, hlk, hown, hts, hK, hin, hE⟩ := id C
  subst hsz
  obtain ⟨g1, -, -⟩ := am_cls ci q hq
  exact va_new (C := q.1) (T := q.2.1) (N := q.2.2) hx hb hts (fun w hw => am_mem (g1 w hw)) ty hty hown (hts _ (am_mem h1)) (hts _ (am_mem h2)) (hts _ (am_mem h3)) hK hP hD hS (fun q h => Or.inr h) hq hfs hk hs hd (fun a H1 hP1 hD1 hS1 => kk a p l e s m args below meth c H1 locs ls C rfl hP1 hD1 hS1 hl)
theorem nb_go {p : Program} {l : Launch} {e : Env} {s : State} {m : MethodId} {args : Array Value} {below : List Frame} {meth : Method} {c : Code} {H : Heap} {locs : List Loc} {Qs : State → Prop} {ls : Array Slot} {st0 rest : List Value} {a : Array Value} {mc' ms' : Nat} {A : Nat → Prop} {Q' : va_W → Prop}
    (hr : va_Run p l e R s m args below meth c H locs k n mc' ms' (F0 m pc ls st0) rest (nb_Q D ws H.size Q' a) (va_A ws H.size)) (hS : va_S A s.heap H locs) (hF : ∀ q, va_A ws H.size q → A q)
    (kk : ∀ (w1 : va_W) (H1 : Heap) (locs1 : List Loc), Q' w1 → va_P D am_cl w1 H1 → va_D A w1 → va_S A s.heap H1 locs1 → W p l e R s m args below meth c H1 locs1 (k + mc') (n + ms') Qs (F0 m (pc + 3) ls rest)) : W p l e R s m args below meth c H locs k n Qs (F0 m pc ls st0) := by
  intro T hT X
  obtain ⟨v, st₀, t, T', L9, h0, X', hL, e1, e2, ⟨⟨hv, w1, hq, hp, hd⟩, hz, hk⟩, st⟩ := hr T hT X
  cases hv
  rw [h0] at hz hk
  obtain ⟨t2, a1, b1⟩ := kk w1 T'.heap (locs ++ L9) hq (by rw [e1]; exact hp) ⟨hd.1, fun k q hk => hF _ (hd.2 k q hk)⟩
    ⟨Nat.le_trans hS.1 (by rw [e1]; exact hz), fun q h1 h2 => by rw [e1, hk q (Nat.lt_of_lt_of_le h1 hS.1) (fun z => h2 (hF q z))]; exact hS.2.1 q h1 h2, fun q hq => by
      rcases List.mem_append.mp hq with h | h
      · exact hS.2.2 q h
      · exact hF _ (hL q h)⟩ T' rfl X'
  exact ⟨t2, st t2 a1, b1⟩
theorem nb_pre {E' : State → Prop} {h : Nat} {s : State} {H : Heap} (hB : ∀ a U g mk, E' U → E' (State.calling U g mk a)) (hP : va_P D am_cl ws H) (hD : va_D (va_A w0 sz) ws) (hK : va_K D am_cl (am_tys dA) s) (hE : ∀ U : State, U.heap = H → s.WarmedH U.vm → E' U) : PreS s H (va_Pc [.ref h] (nb_Pre D dA E' ws H.size)) [.ref h] := by
  refine ⟨fun a U g mk q => ?_, fun U hU hW => ⟨rfl, by rw [hU], by rw [hU]; exact hP, va_K.moved hW.alike hK, ⟨hD.1, fun _ _ _ => trivial⟩, hE U hU hW⟩⟩
  obtain ⟨q0, q1, qP, qK, qD, qE⟩ := q
  exact ⟨q0, q1, qP, va_K.moved (u := U) (U := U.calling g mk a) (Vm.Alike.refl U.vm) qK, qD, hB a U g mk qE⟩
theorem nb_free (hD : va_D (va_A w0 sz) ws) {s : State} {H : Heap} {locs : List Loc} (hsz : s.heap.size = sz) (hS : va_S (va_A w0 sz) s.heap H locs) : ∀ q, va_A ws H.size q → va_A w0 sz q := by
  intro q hq
  rcases hq with ⟨k, e, h⟩ | h
  · exact hD.2 k (q, e) h
  · have := hS.1
    exact Or.inr (by omega)
theorem nb_call {mm' : am_mm} {E' : State → Prop} {R' : Room} {mc' ms' h idx : Nat} {Q' : va_W → Prop} {rest : List Value} (hd : decode mm.2.1 pc = .ok (.invokespecial idx, 3)) (h1 : Cond.methodLink mm.1.cls idx mm'.1 ∈ am_T) (h2 : Cond.initialized mm'.1.cls ∈ am_T) (h3 : Cond.code mm'.1 mm'.2.1 mm'.2.2.1 mm'.2.2.2 ∈ am_T) (h4 : Cond.instanceMethod mm'.1 ∈ am_T) (h5 : mm'.1.name = "<init>") (h6 : mm'.2.2.2 = none) (h7 : mm'.1.cls ≠ "java/lang/invoke/MethodHandle" ∧ mm'.1.cls ≠ "java/lang/invoke/VarHandle" ∧ (parseMethodDescriptor mm'.1.desc).map (fun d => d.parameters.length) = some 0)
    (hR : R'.frames + 1 ≤ R.frames ∧ 8 + (mm'.2.2.1 + 11) + R'.locals ≤ R.locals) (hrc : R'.cells = mc') (hrs : R'.slots = ms') (hrest : (rest.map fun v => v.category).sum ≤ 8) (hk : k + mc' ≤ R.cells ∧ n + ms' ≤ R.slots) (hM : BC D dA E' R' mm' mc' ms' h ws Q') (hB : ∀ a U g mk, E' U → E' (State.calling U g mk a)) (hE : ∀ s U : State, E s → s.WarmedH U.vm → E' U)
    (kk : ∀ w1, Q' w1 → BW D dA E w0 sz R mm mc ms (pc + 3) L rest w1 (k + mc') (n + ms') Q) : BW D dA E w0 sz R mm mc ms pc L (.ref h :: rest) ws k n Q := by
  intro p l e s m args below meth c H locs ls C hsz hP hD hS hl
  obtain ⟨hx, hb, hr, hml, hlk, hown, hts, hK, hin, hEs⟩ := id C
  have hM' := hM l H.size
  obtain ⟨y', b', x', r'⟩ := mm'
  dsimp only at h6
  subst h6
  refine nb_go (va_runI (As := []) (rest := rest) ⟨hx, hb, hml, hown, hts⟩ hM' (cwI 0 hts (am_good h3) rfl hrc hrs (hts _ (am_mem h2)) (hts _ (am_mem h1)) (hts _ (am_mem h4)) h5 h7 hR) (nb_pre hB hP hD hK (fun U hU hW => hE s U hEs hW)) rfl rfl hl.1 rfl (lv_room hrest) hd hk) hS (nb_free hD hsz hS) (fun w1 H1 locs1 hq hP1 hD1 hS1 => kk w1 hq p l e s m args below meth c H1 locs1 ls C hsz hP1 hD1 hS1 hl)
/-- the same, of a private one of the nest -/
theorem nb_callN {mm' : am_mm} {E' : State → Prop} {R' : Room} {mc' ms' h idx : Nat} {host : String} {Q' : va_W → Prop} {rest : List Value} (hd : decode mm.2.1 pc = .ok (.invokespecial idx, 3)) (h1 : ∀ s, E s → va_Nw (.methodLinkNest mm.1.cls idx mm'.1 host) s) (h2 : Cond.initialized mm'.1.cls ∈ am_T) (h3 : Cond.code mm'.1 mm'.2.1 mm'.2.2.1 mm'.2.2.2 ∈ am_T) (h4 : Cond.instanceMethod mm'.1 ∈ am_T) (h5 : mm'.1.name = "<init>") (h6 : mm'.2.2.2 = none) (h7 : mm'.1.cls ≠ "java/lang/invoke/MethodHandle" ∧ mm'.1.cls ≠ "java/lang/invoke/VarHandle" ∧ (parseMethodDescriptor mm'.1.desc).map (fun d => d.parameters.length) = some 0)
    (hR : R'.frames + 1 ≤ R.frames ∧ 8 + (mm'.2.2.1 + 11) + R'.locals ≤ R.locals) (hrc : R'.cells = mc') (hrs : R'.slots = ms') (hrest : (rest.map fun v => v.category).sum ≤ 8) (hk : k + mc' ≤ R.cells ∧ n + ms' ≤ R.slots) (hM : BC D dA E' R' mm' mc' ms' h ws Q') (hB : ∀ a U g mk, E' U → E' (State.calling U g mk a)) (hE : ∀ s U : State, E s → s.WarmedH U.vm → E' U)
    (kk : ∀ w1, Q' w1 → BW D dA E w0 sz R mm mc ms (pc + 3) L rest w1 (k + mc') (n + ms') Q) : BW D dA E w0 sz R mm mc ms pc L (.ref h :: rest) ws k n Q := by
  intro p l e s m args below meth c H locs ls C hsz hP hD hS hl
  obtain ⟨hx, hb, hr, hml, hlk, hown, hts, hK, hin, hEs⟩ := id C
  have hM' := hM l H.size
  obtain ⟨y', b', x', r'⟩ := mm'
  dsimp only at h6
  subst h6
  refine nb_go (va_runIN (As := []) (rest := rest) ⟨hx, hb, hml, hown, hts⟩ hM' ⟨va_cnB 0 hts (am_good h3) rfl hrc hrs (h1 s hEs) (hts _ (am_mem h2)) h7 hR, h5, hts _ (am_mem h4)⟩ (nb_pre hB hP hD hK (fun U hU hW => hE s U hEs hW)) rfl rfl hl.1 rfl (lv_room hrest) hd hk) hS (nb_free hD hsz hS) (fun w1 H1 locs1 hq hP1 hD1 hS1 => kk w1 hq p l e s m args below meth c H1 locs1 ls C hsz hP1 hD1 hS1 hl)
end NC
