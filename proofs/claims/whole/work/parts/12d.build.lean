/-! the builder: locals, fields, arrays of scenes -/
section ND
variable {D : va_G} {dA : Nat → ClassId} {E : State → Prop} {w0 : va_W} {sz : Nat} {R : Room} {mm : am_mm} {mc ms pc : Nat} {L L' : List (Nat × Value)} {st : List Value} {ws : va_W} {k n : Nat} {Q : va_W → Prop}
theorem nb_istore {i : Fin 4} {x : Int32} (hd : decode mm.2.1 pc = .ok (.istore_n i, 1)) (hn : (i : Nat) < mm.2.2.1) (hL : ((i : Nat), Value.int x) :: L.filter (fun q => !(q.1 == (i : Nat)) && !(q.1 + 1 == (i : Nat) && q.2.category == 2)) = L') (kk : BW D dA E w0 sz R mm mc ms (pc + 1) L' st ws k n Q) : BW D dA E w0 sz R mm mc ms pc L (.int x :: st) ws k n Q := by
  intro p l e s m args below meth c H locs ls C hz hP hD hS hl
  exact lv_istore_n C.1 C.2.1 hd rfl hl hn hL (fun ls' hl' => kk p l e s m args below meth c H locs ls' C hz hP hD hS hl')
theorem nb_iinc {i j : Nat} {z : Int} {x v : Int32} (hd : decode mm.2.1 pc = .ok (.iinc i z, 3)) (hj : L[j]? = some (i, .int x)) (hv : x + Int32.ofInt z = v) (hn : i < mm.2.2.1) (hL : (i, Value.int v) :: L.filter (fun q => !(q.1 == i) && !(q.1 + 1 == i && q.2.category == 2)) = L') (kk : BW D dA E w0 sz R mm mc ms (pc + 3) L' st ws k n Q) : BW D dA E w0 sz R mm mc ms pc L st ws k n Q := by
  intro p l e s m args below meth c H locs ls C hz hP hD hS hl
  exact lv_iinc C.1 C.2.1 hd hl hj hv hn hL (fun ls' hl' => kk p l e s m args below meth c H locs ls' C hz hP hD hS hl')
theorem nb_ge_t {x y : Int32} {off : Int} {tgt : Nat} (hd : decode mm.2.1 pc = .ok (.if_icmp .ge off, 3)) (ht : (pc : Int) + off = (tgt : Int)) (h : y ≤ x) (kk : BW D dA E w0 sz R mm mc ms tgt L st ws k n Q) : BW D dA E w0 sz R mm mc ms pc L (.int y :: .int x :: st) ws k n Q := by
  intro p l e s m args below meth c H locs ls C hz hP hD hS hl
  exact lv_icmp_ge C.1 C.2.1 hd ht (fun _ => kk p l e s m args below meth c H locs ls C hz hP hD hS hl) (fun z => absurd h z)
theorem nb_ge_f {x y : Int32} {off : Int} {tgt : Nat} (hd : decode mm.2.1 pc = .ok (.if_icmp .ge off, 3)) (ht : (pc : Int) + off = (tgt : Int)) (h : ¬ y ≤ x) (kk : BW D dA E w0 sz R mm mc ms (pc + 3) L st ws k n Q) : BW D dA E w0 sz R mm mc ms pc L (.int y :: .int x :: st) ws k n Q := by
  intro p l e s m args below meth c H locs ls C hz hP hD hS hl
  exact lv_icmp_ge C.1 C.2.1 hd ht (fun z => absurd z h) (fun _ => kk p l e s m args below meth c H locs ls C hz hP hD hS hl)
theorem nb_get {idx ci j q0 a : Nat} {fs : List Value} {v : Value} {q : vw_C} (hd : decode mm.2.1 pc = .ok (.getfield idx, 3)) (hq : am_cl[ci]? = some q) (hj : j < q.2.2) (hlink : Cond.fieldLink mm.1.cls idx (q.2.1 j).1 (q.2.1 j).2.1 (q.2.1 j).2.2.1 ∈ am_T) (he : ws[q0]? = some (a, .inr (ci, fs))) (hv : fs[j]? = some v) (kk : BW D dA E w0 sz R mm mc ms (pc + 3) L (v :: st) ws k n Q) : BW D dA E w0 sz R mm mc ms pc L (.ref a :: st) ws k n Q := by
  intro p l e s m args below meth c H locs ls C hsz hP hD hS hl2
  obtain ⟨hx, hb, hr, hml, hlk, hown, hts, hK, hin, hE⟩ := id C
  obtain ⟨g1, -, -⟩ := am_cls ci q hq
  exact va_get (C := q.1) (T := q.2.1) (N := q.2.2) hx hb hts (fun w hw => am_mem (g1 w hw)) hown hK hP q0 he hq j hj (hts _ (am_mem hlink)) (fun _ h => h) hv hd (kk p l e s m args below meth c H locs ls C hsz hP hD hS hl2)
theorem nb_put {idx ci j q0 a : Nat} {fs : List Value} {v : Value} {q : vw_C} {ty : FieldType} (hd : decode mm.2.1 pc = .ok (.putfield idx, 3)) (hq : am_cl[ci]? = some q) (hj : j < q.2.2) (hlink : Cond.fieldLink mm.1.cls idx (q.2.1 j).1 (q.2.1 j).2.1 (q.2.1 j).2.2.1 ∈ am_T) (hfin : (q.2.1 j).2.2.2 = false) (hty : parseFieldDescriptor (q.2.1 j).2.2.1 = some ty) (hnar : narrow ty v = v) (hfit : fits ty v = true) (he : ws[q0]? = some (a, .inr (ci, fs))) (hl : j < fs.length)
    (kk : BW D dA E w0 sz R mm mc ms (pc + 3) L st (ws.set q0 (a, .inr (ci, fs.set j v))) k n Q) : BW D dA E w0 sz R mm mc ms pc L (v :: .ref a :: st) ws k n Q := by
  intro p l e s m args below meth c H locs ls C hsz hP hD hS hl2
  obtain ⟨hx, hb, hr, hml, hlk, hown, hts, hK, hin, hE⟩ := id C
  obtain ⟨g1, ⟨ty0, g2⟩, g3⟩ := am_cls ci q hq
  exact va_put (C := q.1) (T := q.2.1) (N := q.2.2) (ty := ty) hx hb hts (fun w hw => am_mem (g1 w hw)) ty0 g2 g3 hown hK hP hD hS q0 he hq j hj (hts _ (am_mem hlink)) (fun _ h => h) hfin hty hnar hfit hl hd (fun H1 locs1 hP1 hD1 hS1 => kk p l e s m args below meth c H1 locs1 ls C hsz hP1 hD1 hS1 hl2)
theorem nb_tyq {s : State} (hK : va_K D am_cl (am_tys dA) s) {cA : ClassId} (hK2 : va_K D am_cl (am_tys dA ++ [(cA, .object RX3)]) s) : cA = dA 4 := by
  obtain ⟨k1, c1, a1, a2, a3, a4⟩ := (hK.2 4 (dA 4, .object RX3) rfl).2
  obtain ⟨k2, c2, b1, b2, b3, b4⟩ := (hK2.2 (am_tys dA).length (cA, .object RX3) (by simp)).2
  exact Option.some.inj (b4.symm.trans a4)
/-- a new array of scenes -/
theorem nb_anew {z : Int} {idx N : Nat} (hd : decode mm.2.1 pc = .ok (.anewarray idx, 3)) (h1 : Cond.classLink mm.1.cls idx RX3 ∈ am_T) (h2 : ∀ s, E s → va_AO RX3 s) (hz : 0 ≤ z ∧ z < 1000) (hN : z.toNat = N) (hk : k + 1 ≤ R.cells) (hs : n + N ≤ R.slots)
    (kk : ∀ q, BW D dA E w0 sz R mm mc ms (pc + 3) L (.ref q :: st) (ws ++ [(q, .inl (dA 4, N, .inr (.inr (.inr (.inr (fun _ => none))))))]) (k + 1) (n + N) Q) : BW D dA E w0 sz R mm mc ms pc L (.int (Int32.ofInt z) :: st) ws k n Q := by
  intro p l e s m args below meth c H locs ls C hsz hP hD hS hl
  obtain ⟨hx, hb, hr, hml, hlk, hown, hts, hK, hin, hE⟩ := id C
  subst hsz
  have hneg : ¬ Int32.ofInt z < 0 := fun h => by
    have := (am_lt (x := z) (y := 0) (by omega) (by decide)).mp h
    omega
  have hNN : (Int32.ofInt z).toNatClampNeg = N := by rw [Int32.toNatClampNeg_ofInt_of_le (by omega) (by omega)]; exact hN
  refine va_newq hx hb hown (hts _ (am_mem h1)) (h2 s hE) hK hP hD hS (fun q h => Or.inr h) hneg hNN (by omega) hk hs hd (fun q cA H1 hK2 hP1 hD1 hS1 => ?_)
  have e := nb_tyq hK hK2
  subst e
  exact kk q p l e s m args below meth c H1 locs ls C rfl hP1 hD1 hS1 hl
theorem nb_aast {i : Int32} {q0 qk a v N : Nat} {vs : List Value} {f : Nat → Option Nat} (hd : decode mm.2.1 pc = .ok (.aastore, 1)) (ha : ws[q0]? = some (a, .inl (dA 4, N, .inr (.inr (.inr (.inr f)))))) (hv : ws[qk]? = some (v, .inr (3, vs))) (hi : vp_in i N) (kk : BW D dA E w0 sz R mm mc ms (pc + 1) L st (ws.set q0 (a, .inl (dA 4, N, .inr (.inr (.inr (.inr (va_up f i.toNatClampNeg (some v)))))))) k n Q) : BW D dA E w0 sz R mm mc ms pc L (.ref v :: .int i :: .ref a :: st) ws k n Q := by
  intro p l e s m args below meth c H locs ls C hsz hP hD hS hl
  obtain ⟨hx, hb, hr, hml, hlk, hown, hts, hK, hin, hE⟩ := id C
  exact va_astq hx hb hK hP hD hS q0 4 qk 3 (r := (RX3, TX3, 4)) ha rfl hv rfl hi hd (fun H1 locs1 hP1 hD1 hS1 => kk p l e s m args below meth c H1 locs1 ls C hsz hP1 hD1 hS1 hl)
end ND
theorem nw_calling {w : Cond} {U : State} {g : JFrame} {mk : MethodId} {a : Array Value} (hw : w.onTables = true) (h : va_Nw w U) : va_Nw w (U.calling g mk a) := va_tabs hw (rfl : U.vm = (U.calling g mk a).vm) h
