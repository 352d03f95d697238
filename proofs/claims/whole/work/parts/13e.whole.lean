/-! the law from its entry (by gen_start.py) -/
theorem lw_A0 (sz : Nat) : va_A [] sz = fun q => sz ≤ q := by
  funext q
  apply propext
  constructor
  · rintro (⟨k, e, h⟩ | h)
    · simp at h
    · exact h
  · exact Or.inr
theorem lw_good {mm' : am_mm} (h3 : Cond.code mm'.1 mm'.2.1 mm'.2.2.1 mm'.2.2.2 ∈ am_T) : GoodIn lw_tbl (am_w mm') := by
  intro w hw
  rcases List.mem_cons.mp hw with rfl | hw
  · exact ⟨lw_am h3, am_goodT h3⟩
  · exact ⟨lw_am hw, am_goodT hw⟩
def lw_CD (D : va_G) (dA : Nat → ClassId) (st : Nat → Nat) (b L : Nat) (xs : Nat → Int32) (p : Program) (s : State) (m : MethodId) (meth : Method) (c : Code) : Prop := lw_At p s m meth c b L xs ∧ L ≤ 2048 ∧ va_K D am_cl (am_tys dA) s ∧ am_KA (st_A s) st s ∧ nb_E7 (fun _ => True) s
section WST
variable {D : va_G} {dA : Nat → ClassId} {st : Nat → Nat} {b L : Nat} {xs : Nat → Int32} {p : Program} {l : Launch} {e : Env} {s : State} {m : MethodId} {below : List Frame} {meth : Method} {c : Code} {H : Heap} {locs : List Loc} {ls : Array Slot}
theorem lw_A00 {sz q : Nat} (h : va_A [] sz q) : sz ≤ q := by
  rw [lw_A0] at h
  exact h
theorem lw_KK (C : lw_CD D dA st b L xs p s m meth c) (hS : va_S (va_A [] s.heap.size) s.heap H locs) : ∀ U : State, U.heap = H → s.WarmedH U.vm → nb_KK s.heap.size st U := fun U hU hW =>
  ⟨by rw [hU]; exact hS.1, C.2.2.2.1.go (fun a ha hn => by rw [hU]; exact hS.2.1 a ha (fun z => hn (lw_A00 z))) hW⟩
theorem lw_s3 {ad : Nat → Nat} {M : am_M} (C : lw_CD D dA st b L xs p s m meth c) (hhi : ∀ a, 100 ≤ a → ad a = st a) (hI : INV M) (hP : va_P D am_cl (am_ws dA ad M) H) (hD : va_D (va_A [] s.heap.size) (am_ws dA ad M)) (hS : va_S (va_A [] s.heap.size) s.heap H locs) (hl : lv_has ls 4 [(1, .ref (ad 0)), (0, .ref b)]) : W p l e room_1 s m #[Value.ref b] below meth c H locs 75 3716 (lw_Z below #[Value.ref b] s) (F0 m 15 ls [.ref (ad 62)]) := by
  obtain ⟨C0, hL, hK, hKA, hE7⟩ := C
  obtain ⟨hx, hb, -⟩ := id C0
  refine lv_astore_n (lv' := [(2, .ref (ad 62)), (1, .ref (ad 0)), (0, .ref b)]) hx hb dL_15 rfl hl (by decide) rfl (fun ls hl => ?_)
  refine lv_iconst (v := Int32.ofInt 0) hx hb dL_16 rfl ?_
  refine lv_istore_n (lv' := lw_L ad b 0) hx hb dL_17 rfl hl (by decide) rfl (fun ls hl => ?_)
  rw [lw_A0] at hS
  exact lw_loop (b := b) (L := L) (xs := xs) L 0 M (Nat.zero_le L) (by omega) hI D dA ad p l e s m below meth c H locs ls ⟨C0, hL, hK, am_inj_of hD, fun q hq => lw_A00 (am_A_of hD q hq), hKA.re hhi⟩ hP hS hl
abbrev lw_z8 : List Value := [.int 0, .null, .null, .null, .int 0, .null, .null, .null, .int 0, .null, .int 0, .int 0, .int 0, .int 0, .int 0, .null, .null, .null, .null, .int 0, .null, .int 0, .int 0]
abbrev lw_z7 : List Value := [.null, .null, .null, .null, .null, .null, .null, .null, .null, .null, .int 0, .int 0]
theorem lw_f7 : ∀ j, j < 12 → defaultValue (tyX7 j) = vp_V lw_z7 j := fun j hj => by rcases (show j = 0 ∨ j = 1 ∨ j = 2 ∨ j = 3 ∨ j = 4 ∨ j = 5 ∨ j = 6 ∨ j = 7 ∨ j = 8 ∨ j = 9 ∨ j = 10 ∨ j = 11 by omega) with rfl | rfl | rfl | rfl | rfl | rfl | rfl | rfl | rfl | rfl | rfl | rfl <;> rfl
theorem lw_f8 : ∀ j, j < 23 → defaultValue (tyX8 j) = vp_V lw_z8 j := fun j hj => by rcases (show j = 0 ∨ j = 1 ∨ j = 2 ∨ j = 3 ∨ j = 4 ∨ j = 5 ∨ j = 6 ∨ j = 7 ∨ j = 8 ∨ j = 9 ∨ j = 10 ∨ j = 11 ∨ j = 12 ∨ j = 13 ∨ j = 14 ∨ j = 15 ∨ j = 16 ∨ j = 17 ∨ j = 18 ∨ j = 19 ∨ j = 20 ∨ j = 21 ∨ j = 22 by omega) with rfl | rfl | rfl | rfl | rfl | rfl | rfl | rfl | rfl | rfl | rfl | rfl | rfl | rfl | rfl | rfl | rfl | rfl | rfl | rfl | rfl | rfl | rfl <;> rfl
theorem lw_new {ws : va_W} {A0 : Nat → Prop} {k n pc idx ci : Nat} {q : vw_C} {fs : List Value} {rest : List Value} (ty : Nat → FieldType) (hd : decode code pc = .ok (.new idx, 3)) (hq : am_cl[ci]? = some q) (hty : ∀ j, j < q.2.2 → parseFieldDescriptor (q.2.1 j).2.2.1 = some (ty j)) (h1 : Cond.classLink R_law idx q.1 ∈ am_T) (h2 : Cond.instantiable q.1 q.2.2 ∈ am_T) (h3 : Cond.initialized q.1 ∈ am_T) (hfs : ∀ j, j < q.2.2 → defaultValue (ty j) = vp_V fs j) (hk : k + 1 ≤ 600000) (hs : n + q.2.2 ≤ 7302250) (C : lw_CD D dA st b L xs p s m meth c) (hP : va_P D am_cl ws H) (hD : va_D A0 ws) (hS : va_S A0 s.heap H locs) (hA : ∀ q, s.heap.size ≤ q → A0 q)
    (kk : ∀ (a : Nat) (H1 : Heap), va_P D am_cl (ws ++ [(a, .inr (ci, fs))]) H1 → va_D A0 (ws ++ [(a, .inr (ci, fs))]) → va_S A0 s.heap H1 locs → W p l e room_1 s m #[Value.ref b] below meth c H1 locs (k + 1) (n + q.2.2) (lw_Z below #[Value.ref b] s) (F0 m (pc + 3) ls (.ref a :: rest))) : W p l e room_1 s m #[Value.ref b] below meth c H locs k n (lw_Z below #[Value.ref b] s) (F0 m pc ls rest) := by
  obtain ⟨C0, hL, hK, hKA, hE7⟩ := id C
  obtain ⟨hx, hb, hr, hml, hown, hts, hX, hbl, hlk, hgv⟩ := id C0
  obtain ⟨g1, -, -⟩ := am_cls ci q hq
  exact va_new (C := q.1) (T := q.2.1) (N := q.2.2) hx hb hts (fun w hw => lw_am (g1 w hw)) ty hty hown (hts _ (lw_am h1)) (hts _ (lw_am h2)) (hts _ (lw_am h3)) hK hP hD hS hA hq hfs hk hs hd kk
theorem lw_init {mm' : am_mm} {E' : State → Prop} {R' : Room} {ws : va_W} {k n pc mc' ms' h idx : Nat} {Q' : va_W → Prop} {rest : List Value} (hd : decode code pc = .ok (.invokespecial idx, 3)) (h1 : Cond.methodLink R_law idx mm'.1 ∈ am_T) (h2 : Cond.initialized mm'.1.cls ∈ am_T) (h3 : Cond.code mm'.1 mm'.2.1 mm'.2.2.1 mm'.2.2.2 ∈ am_T) (h4 : Cond.instanceMethod mm'.1 ∈ am_T) (h5 : mm'.1.name = "<init>") (h6 : mm'.2.2.2 = none) (h7 : mm'.1.cls ≠ "java/lang/invoke/MethodHandle" ∧ mm'.1.cls ≠ "java/lang/invoke/VarHandle" ∧ (parseMethodDescriptor mm'.1.desc).map (fun d => d.parameters.length) = some 0)
    (hR : R'.frames + 1 ≤ 13 ∧ 8 + (mm'.2.2.1 + 11) + R'.locals ≤ 510) (hrc : R'.cells = mc') (hrs : R'.slots = ms') (hrest : (rest.map fun v => v.category).sum ≤ 8) (hk : k + mc' ≤ 600000 ∧ n + ms' ≤ 7302250) (hM : BC D dA E' R' mm' mc' ms' h ws Q') (hB : ∀ a U g mk, E' U → E' (State.calling U g mk a)) (hE : ∀ U : State, U.heap = H → s.WarmedH U.vm → E' U)
    (C : lw_CD D dA st b L xs p s m meth c) (hP : va_P D am_cl ws H) (hD : va_D (va_A [] s.heap.size) ws) (hS : va_S (va_A [] s.heap.size) s.heap H locs) (hl : ls.size = 4)
    (kk : ∀ (w1 : va_W) (H1 : Heap) (locs1 : List Loc), Q' w1 → va_P D am_cl w1 H1 → va_D (va_A [] s.heap.size) w1 → va_S (va_A [] s.heap.size) s.heap H1 locs1 → W p l e room_1 s m #[Value.ref b] below meth c H1 locs1 (k + mc') (n + ms') (lw_Z below #[Value.ref b] s) (F0 m (pc + 3) ls rest)) : W p l e room_1 s m #[Value.ref b] below meth c H locs k n (lw_Z below #[Value.ref b] s) (F0 m pc ls (.ref h :: rest)) := by
  obtain ⟨C0, hL, hK, hKA, hE7⟩ := id C
  obtain ⟨hx, hb, hr, hml, hown, hts, hX, hbl, hlk, hgv⟩ := id C0
  have hM' := hM l H.size
  have hG : GoodIn lw_tbl (am_w mm') := lw_good h3
  obtain ⟨y', b', x', r'⟩ := mm'
  dsimp only at h6
  subst h6
  exact nb_go (R := room_1) (va_runI (As := []) (rest := rest) ⟨hx, hb, hml, hown, hts⟩ hM' (cwI 0 hts hG rfl hrc hrs (hts _ (lw_am h2)) (hts _ (lw_am h1)) (hts _ (lw_am h4)) h5 h7 hR) (nb_pre hB hP hD hK hE) rfl rfl hl rfl (lv_room hrest) hd hk) hS (nb_free hD rfl hS) kk
theorem lw_s2c {lst : List Nat} {M : am_M} {h1 : Nat} (C : lw_CD D dA st b L xs p s m meth c) (hD : va_D (va_A [] s.heap.size) (am_ws_q dA (nb_ad lst st) M ++ [(h1, .inr (8, lw_z8))])) (hCI : CI sg0 (fun _ => 0) 0 0 (fun _ => sg0) (fun _ => 0) (fun _ => sg0) (fun _ => 0) (fun _ => 0) 0 M) : BC D dA (nb_KK s.heap.size st) (nb_R 12 12 1365 468) mX8_init 12 1365 h1 (am_ws_q dA (nb_ad lst st) M ++ [(h1, .inr (8, lw_z8))]) (fun w1 => ∃ ad M1, (∀ a, a < 62 → ad a = nb_ad lst st a) ∧ ad 62 = h1 ∧ (∀ a, 100 ≤ a → ad a = st a) ∧ w1 = am_ws dA ad M1 ∧ INV M1) := by
  refine b_FM ?_ (fun a ha => if_pos ha) hCI
  intro sz hs q hq
  rcases hq with ⟨k, e, h⟩ | h
  · exact lw_A00 (hD.2 k (q, e) h)
  · exact Nat.le_trans hs h
theorem lw_s2b {ws : va_W} {E' : State → Prop} {h1 : Nat} {Q' : va_W → Prop} (C : lw_CD D dA st b L xs p s m meth c) (hM : BC D dA E' (nb_R 12 12 1365 468) mX8_init 12 1365 h1 ws Q') (hB : ∀ a U g mk, E' U → E' (State.calling U g mk a)) (hE : ∀ U : State, U.heap = H → s.WarmedH U.vm → E' U) (hP : va_P D am_cl ws H) (hD : va_D (va_A [] s.heap.size) ws) (hS : va_S (va_A [] s.heap.size) s.heap H locs) (hl : ls.size = 4)
    (kk : ∀ (w1 : va_W) (H1 : Heap) (locs1 : List Loc), Q' w1 → va_P D am_cl w1 H1 → va_D (va_A [] s.heap.size) w1 → va_S (va_A [] s.heap.size) s.heap H1 locs1 → W p l e room_1 s m #[Value.ref b] below meth c H1 locs1 75 3716 (lw_Z below #[Value.ref b] s) (F0 m 15 ls [.ref h1])) : W p l e room_1 s m #[Value.ref b] below meth c H locs 63 2351 (lw_Z below #[Value.ref b] s) (F0 m 12 ls [.ref h1, .ref h1]) :=
  lw_init (mm' := mX8_init) dL_12 (am_tm 626 (by decide +kernel) rfl) (am_tm 13 (by decide +kernel) rfl) (am_tm 628 (by decide +kernel) rfl) (am_tm 627 (by decide +kernel) rfl) rfl rfl (by decide +kernel) (by decide) rfl rfl (Nat.le_of_ble_eq_true rfl) ⟨Nat.le_of_ble_eq_true rfl, Nat.le_of_ble_eq_true rfl⟩ hM hB hE C hP hD hS hl kk
theorem lw_s2a {ws : va_W} {A0 : Nat → Prop} {rest : List Value} (C : lw_CD D dA st b L xs p s m meth c) (hP : va_P D am_cl ws H) (hD : va_D A0 ws) (hS : va_S A0 s.heap H locs) (hA : ∀ q, s.heap.size ≤ q → A0 q)
    (kk : ∀ (a : Nat) (H1 : Heap), va_P D am_cl (ws ++ [(a, .inr (8, lw_z8))]) H1 → va_D A0 (ws ++ [(a, .inr (8, lw_z8))]) → va_S A0 s.heap H1 locs → W p l e room_1 s m #[Value.ref b] below meth c H1 locs 63 2351 (lw_Z below #[Value.ref b] s) (F0 m 11 ls (.ref a :: rest))) : W p l e room_1 s m #[Value.ref b] below meth c H locs 62 2328 (lw_Z below #[Value.ref b] s) (F0 m 8 ls rest) :=
  lw_new (ci := 8) (fs := lw_z8) (q := (RX8, TX8, 23)) tyX8 dL_8 rfl tyX8_ok (am_tm 624 (by decide +kernel) rfl) (am_tm 625 (by decide +kernel) rfl) (am_tm 13 (by decide +kernel) rfl) lw_f8 (Nat.le_of_ble_eq_true rfl) (Nat.le_of_ble_eq_true rfl) C hP hD hS hA kk
theorem lw_s2 {lst : List Nat} {M : am_M} (C : lw_CD D dA st b L xs p s m meth c) (hCI : CI sg0 (fun _ => 0) 0 0 (fun _ => sg0) (fun _ => 0) (fun _ => sg0) (fun _ => 0) (fun _ => 0) 0 M) (hP : va_P D am_cl (am_ws_q dA (nb_ad lst st) M) H) (hD : va_D (va_A [] s.heap.size) (am_ws_q dA (nb_ad lst st) M)) (hS : va_S (va_A [] s.heap.size) s.heap H locs) (hl : lv_has ls 4 [(1, .ref (nb_ad lst st 0)), (0, .ref b)]) : W p l e room_1 s m #[Value.ref b] below meth c H locs 62 2328 (lw_Z below #[Value.ref b] s) (F0 m 8 ls []) := by
  refine lw_s2a C hP hD hS (fun q h => Or.inr h) (fun h1 H2 hP2 hD2 hS2 => ?_)
  refine lv_dup C.1.1 C.1.2.1 dL_11 rfl ?_
  refine lw_s2b C (lw_s2c C hD2 hCI) KK_calling (lw_KK C hS2) hP2 hD2 hS2 hl.1 ?_
  intro w3 H3 locs3 hQ hP3 hD3 hS3
  obtain ⟨ad, M3, hlo, h62, hhi, hw3, hI⟩ := hQ
  rw [hw3] at hP3 hD3
  rw [← h62]
  rw [← hlo 0 (by decide)] at hl
  exact lw_s3 C hhi hI hP3 hD3 hS3 hl
theorem lw_s1b {ws : va_W} {E' : State → Prop} {h1 : Nat} {Q' : va_W → Prop} (C : lw_CD D dA st b L xs p s m meth c) (hM : BC D dA E' (nb_R 12 61 2316 468) mX7_init 61 2316 h1 ws Q') (hB : ∀ a U g mk, E' U → E' (State.calling U g mk a)) (hE : ∀ U : State, U.heap = H → s.WarmedH U.vm → E' U) (hP : va_P D am_cl ws H) (hD : va_D (va_A [] s.heap.size) ws) (hS : va_S (va_A [] s.heap.size) s.heap H locs) (hl : ls.size = 4)
    (kk : ∀ (w1 : va_W) (H1 : Heap) (locs1 : List Loc), Q' w1 → va_P D am_cl w1 H1 → va_D (va_A [] s.heap.size) w1 → va_S (va_A [] s.heap.size) s.heap H1 locs1 → W p l e room_1 s m #[Value.ref b] below meth c H1 locs1 62 2328 (lw_Z below #[Value.ref b] s) (F0 m 7 ls [.ref h1])) : W p l e room_1 s m #[Value.ref b] below meth c H locs 1 12 (lw_Z below #[Value.ref b] s) (F0 m 4 ls [.ref h1, .ref h1]) :=
  lw_init (mm' := mX7_init) dL_4 (am_tm 20 (by decide +kernel) rfl) (am_tm 1 (by decide +kernel) rfl) (am_tm 22 (by decide +kernel) rfl) (am_tm 21 (by decide +kernel) rfl) rfl rfl (by decide +kernel) (by decide) rfl rfl (Nat.le_of_ble_eq_true rfl) ⟨Nat.le_of_ble_eq_true rfl, Nat.le_of_ble_eq_true rfl⟩ hM hB hE C hP hD hS hl kk
theorem lw_s1a {ws : va_W} {A0 : Nat → Prop} {rest : List Value} (C : lw_CD D dA st b L xs p s m meth c) (hP : va_P D am_cl ws H) (hD : va_D A0 ws) (hS : va_S A0 s.heap H locs) (hA : ∀ q, s.heap.size ≤ q → A0 q)
    (kk : ∀ (a : Nat) (H1 : Heap), va_P D am_cl (ws ++ [(a, .inr (7, lw_z7))]) H1 → va_D A0 (ws ++ [(a, .inr (7, lw_z7))]) → va_S A0 s.heap H1 locs → W p l e room_1 s m #[Value.ref b] below meth c H1 locs 1 12 (lw_Z below #[Value.ref b] s) (F0 m 3 ls (.ref a :: rest))) : W p l e room_1 s m #[Value.ref b] below meth c H locs 0 0 (lw_Z below #[Value.ref b] s) (F0 m 0 ls rest) :=
  lw_new (ci := 7) (fs := lw_z7) (q := (RX7, TX7, 12)) tyX7 dL_0 rfl tyX7_ok (am_tm 18 (by decide +kernel) rfl) (am_tm 19 (by decide +kernel) rfl) (am_tm 1 (by decide +kernel) rfl) lw_f7 (Nat.le_of_ble_eq_true rfl) (Nat.le_of_ble_eq_true rfl) C hP hD hS hA kk
theorem lw_s1 (C : lw_CD D dA st b L xs p s m meth c) (hl : lv_has ls 4 [(0, .ref b)]) : W p l e room_1 s m #[Value.ref b] below meth c s.heap [] 0 0 (lw_Z below #[Value.ref b] s) (F0 m 0 ls []) := by
  have hS : va_S (va_A [] s.heap.size) s.heap s.heap [] := va_S.rf
  have hP : va_P D am_cl [] s.heap := fun k q h => by simp at h
  have hD : va_D (va_A [] s.heap.size) [] := ⟨fun i j p q h => by simp at h, fun k q h => by simp at h⟩
  refine lw_s1a C hP hD hS (fun q h => Or.inr h) (fun h0 H hP hD hS => ?_)
  have hP : va_P D am_cl [(h0, .inr (7, lw_z7))] H := hP
  have hD : va_D (va_A [] s.heap.size) [(h0, .inr (7, lw_z7))] := hD
  refine lv_dup C.1.1 C.1.2.1 dL_3 rfl ?_
  have hh0 : s.heap.size ≤ h0 := lw_A00 (hD.2 0 _ rfl)
  refine lw_s1b C (b_FP (D := D) (dA := dA) (st := st) hh0) (E7_calling KK_calling) (fun U hU hW => E7_warm (lw_KK C hS U hU hW) hW C.2.2.2.2) hP hD hS hl.1 ?_
  intro w1 H1 locs1 hQ hP1 hD1 hS1
  obtain ⟨lst, M, hlst, hlst0, hw1, hCI⟩ := hQ
  rw [hw1] at hP1 hD1
  have e0 : nb_ad lst st 0 = h0 := by
    rw [← hlst0]
    rfl
  refine lv_astore_n (lv' := [(1, .ref h0), (0, .ref b)]) C.1.1 C.1.2.1 dL_7 rfl hl (by decide) rfl (fun ls hl => ?_)
  rw [← e0] at hl
  exact lw_s2 C hCI hP1 hD1 hS1 hl
end WST
theorem whole_start {p : Program} {e : Env} {s : State} {m : MethodId} {below : List Frame} {meth : Method} {c : Code} (l : Launch) (hflags : l.flags = flags0) {b L : Nat} {xs : Nat → Int32} (hL : L ≤ 2048) (C0 : lw_At p s m meth c b L xs) : W p l e room_1 s m #[Value.ref b] below meth c s.heap [] 0 0 (lw_Z below #[Value.ref b] s) (entryFrame m ([Value.ref b] : List Value).toArray 4) := by
  obtain ⟨hx, hb, hr, hml, hown, hts, hX, hbl, hlk, hgv⟩ := id C0
  obtain ⟨D, dA, hK⟩ := st_K hts
  obtain ⟨st, hKA⟩ := st_KA hts hgv
  have hl := lv_entry ([.ref b]) (n := 4) (Nat.le_of_ble_eq_true rfl)
  rw [lg_entry_eq]
  generalize (lg_sl ([.ref b]) ++ List.replicate (4 - (lg_sl ([.ref b])).length) Slot.unset).toArray = ls at hl ⊢
  have hl : lv_has ls 4 [(0, .ref b)] := hl
  exact lw_s1 ⟨C0, hL, hK, hKA, st_E7 hts trivial⟩ hl
