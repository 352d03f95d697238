/-! FollowedPeaksModel's constructor, its end (by gen_fm.py) -/
section NS
variable {D : va_G} {dA : Nat → ClassId} {E : State → Prop} {w0 : va_W} {sz : Nat} {R : Room} {mm : am_mm} {mc ms pc : Nat} {L : List (Nat × Value)} {k n : Nat} {Q : va_W → Prop}
theorem am_inj_of {A : Nat → Prop} {ad : Nat → Nat} {M : am_M} (hD : va_D A (am_ws dA ad M)) : am_inj ad := by
  intro a b ha hb e
  exact hD.1 a b _ _ (am_ws_get (List.getElem?_eq_getElem ha)) (am_ws_get (List.getElem?_eq_getElem hb)) e
theorem am_A_of {A : Nat → Prop} {ad : Nat → Nat} {M : am_M} (hD : va_D A (am_ws dA ad M)) : ∀ q, am_A ad q → A q := by
  rintro q ⟨a, ha, rfl⟩
  exact hD.2 a _ (am_ws_get (List.getElem?_eq_getElem ha))
theorem am_D_re {A : Nat → Prop} {ad : Nat → Nat} {M : am_M} (hD : va_D A (am_ws dA ad M)) (M' : am_M) : va_D A (am_ws dA ad M') := ⟨(am_D (am_inj_of hD)).1, fun k q z => am_A_of hD _ ((am_D (am_inj_of hD)).2 k q z)⟩
theorem nb_sq {mm' : am_mm} {b idx d' sz0 : Nat} {ad st : Nat → Nat} {M : am_M} {rest : List Value} (hd : decode mm.2.1 pc = .ok (.invokestatic idx, 3)) (hw : am_csB mm.1.cls idx mm' 1 = true) (hR : d' + 1 ≤ R.frames ∧ 39 + 39 * d' ≤ R.locals) (hrest : (rest.map fun v => v.category).sum ≤ 8) (hE : ∀ s, E s → nb_KK sz0 st s) (hst : ∀ a, 100 ≤ a → ad a = st a) (hA : sz0 ≤ sz → ∀ q, va_A w0 sz q → sz0 ≤ q) (hk : k ≤ R.cells ∧ n ≤ R.slots)
    (h : AC d' mm' [.inr b] M (fun r M' => r = none ∧ BW D dA E w0 sz R mm mc ms (pc + 3) L rest (am_ws dA ad M') k n Q)) : BW D dA E w0 sz R mm mc ms pc L (.ref (ad b) :: rest) (am_ws dA ad M) k n Q := by
  intro p l e s m args below meth c H locs ls C hsz hP hD hS hl
  obtain ⟨hx, hb, hr, hml, hlk, hown, hts, hK, hin, hEs⟩ := id C
  unfold am_csB at hw
  simp only [Bool.and_eq_true, decide_eq_true_eq] at hw
  obtain ⟨hw, w6⟩ := hw
  obtain ⟨w1, w2, w3, w4, w5⟩ := am_cB_spec hw
  have hinj := am_inj_of hD
  have hAq := am_A_of hD
  have hG : GoodIn (am_w mm) (va_wsS mm.1.cls idx mm'.1 (am_w mm')) := by
    intro w hw
    rcases List.mem_append.mp hw with hw | hw
    · simp only [List.mem_cons, List.not_mem_nil, or_false] at hw
      rcases hw with rfl | rfl | rfl
      · exact ⟨am_mem w1, am_goodT w1⟩
      · exact ⟨am_mem w6, am_goodT w6⟩
      · exact ⟨am_mem w2, am_goodT w2⟩
    · exact am_good w3 w hw
  have hKK := hE s hEs
  have hA := hA (by rw [← hsz]; exact hKK.1)
  have hpre : ∀ U : State, U.heap = H → s.WarmedH U.vm → va_Pc ([.ref (ad b)] : List Value) (am_Pre D dA ad M) ([.ref (ad b)] : List Value).toArray U := fun U hU hW => by
    refine ⟨rfl, by rw [hU]; exact hP, va_K.moved hW.alike hK, am_KA_K.mp ?_⟩
    have h1 : am_KA (fun q => sz0 ≤ q) st U := hKK.2.go (fun a ha hn => by rw [hU]; exact hS.2.1 a ha (fun z => hn (hA a z))) hW
    exact (h1.re hst).ls (fun q z => hA q (hAq q z))
  have hrun := va_runS (As := [.ref (ad b)]) (rest := rest) (g := F0 m pc ls (.ref (ad b) :: rest)) (locs := locs) (cells := k) (slots := n) (below := below) (e := e) (meth := meth) (R := R) ⟨hx, hb, hml, hown, hts⟩ (h l D dA ad hinj) (va_cwS (R := R) 1 hts hG rfl rfl rfl w4 ⟨hR.1, by show 8 + (_ + 11) + 39 * d' ≤ R.locals; omega⟩)
    ⟨am_blind, hpre⟩ rfl rfl hl.1 rfl (lv_room hrest) hd hk
  intro T hT X
  obtain ⟨v, st₀, t, T', L9, h0, X', hL, e1, e2, ⟨⟨r, M', hv, ⟨hr9, hq9⟩, hp⟩, hz, hk9⟩, st9⟩ := hrun T hT X
  cases hv
  subst hr9
  rw [h0] at hz hk9
  obtain ⟨t2, a1, b1⟩ := hq9 p l e s m args below meth c T'.heap (locs ++ L9) ls C hsz (by rw [e1]; exact hp) (am_D_re hD M')
    ⟨Nat.le_trans hS.1 (by rw [e1]; exact hz), fun q h1 h2 => by rw [e1, hk9 q (Nat.lt_of_lt_of_le h1 hS.1) (fun z => h2 (hAq q z))]; exact hS.2.1 q h1 h2, fun q hq => by
      rcases List.mem_append.mp hq with h | h
      · exact hS.2.2 q h
      · exact hAq _ (hL q h)⟩ hl T' rfl X'
  exact ⟨t2, st9 t2 a1, b1⟩
theorem nb_iast {a N : Nat} {i z : Int} {ad : Nat → Nat} {M : am_M} {st : List Value} (hd : decode mm.2.1 pc = .ok (.iastore, 1)) (hs : am_sh[a]? = some (.inl (0, N))) (hi : 0 ≤ i ∧ i < N) (kk : BW D dA E w0 sz R mm mc ms (pc + 1) L st (am_ws dA ad (am_up M a i z)) k n Q) : BW D dA E w0 sz R mm mc ms pc L (.int (Int32.ofInt z) :: .int (Int32.ofInt i) :: .ref (ad a) :: st) (am_ws dA ad M) k n Q := by
  intro p l e s m args below meth c H locs ls C hsz hP hD hS hl
  obtain ⟨hx, hb, hr, hml, hlk, hown, hts, hK, hin, hE⟩ := id C
  obtain ⟨g1, g2⟩ := am_in (am_small a 0 N hs) hi
  refine va_iast hx hb hK hP hD hS a 0 (f := fun j => Int32.ofInt (M a (j : Int))) (am_ws_get hs) rfl (x := Int32.ofInt z) g1 hd (fun H1 locs1 hP1 _ hS1 => ?_)
  refine kk p l e s m args below meth c H1 locs1 ls C hsz (am_ws_put hs ?_ (am_up_ne M a i z) hP1) (am_D_re hD _) hS1 hl
  rw [g2, am_upd hi]
  rfl
end NS
theorem mi_first {M : am_M} (h63 : ∀ j, 0 ≤ j → j < 101 → M 63 j = sg0 j) (h : ∀ x, 62 ≤ x → x ≠ 63 → ∀ j, M x j = 0) : MI sg0 (fun _ => 0) 0 0 (fun _ => sg0) (fun _ => 0) (fun _ => sg0) (fun _ => 0) (fun _ => 0) 0 M := by
  refine ⟨h63, ⟨h 62 (by decide) (by decide) 10, fun k a b => absurd b (by omega)⟩, ⟨h 62 (by decide) (by decide) 4, fun i hi => absurd hi (by omega)⟩, fun i hi => ⟨h 67 (by decide) (by decide) _, fun z => absurd z (show ¬ ((0 : Int) = 1) by decide)⟩, h 62 (by decide) (by decide) 8, fun i hi => absurd hi (by omega)⟩
def x8_sh : List (Option Nat) := [none, some 63, some 64, some 65, none, some 66, some 67, some 68, none, some 69, none, none, none, none, none, some 70, some 71, some 72, some 73, none, some 74, none, none]
def x8_fs (ad : Nat → Nat) (M : am_M) : List Value := x8_sh.mapIdx (fun k o => am_fv ad M 62 k o)
theorem x8_get {dA : Nat → ClassId} {ad : Nat → Nat} {M : am_M} : (am_ws dA ad M)[62]? = some (ad 62, .inr (8, x8_fs ad M)) := by
  have h : am_sh[62]? = some (.inr (8, x8_sh)) := by decide +kernel
  exact am_ws_get h
theorem x8_1 {ad : Nat → Nat} {M : am_M} : (x8_fs ad M)[1]? = some (.ref (ad 63)) := by
  unfold x8_fs
  rw [List.getElem?_mapIdx]
  rfl
theorem b_FMt {D : va_G} {dA : Nat → ClassId} {sz0 sz : Nat} {st ad : Nat → Nat} {M : am_M} {w0 : va_W} {Q : va_W → Prop} (hw0 : sz0 ≤ sz → ∀ q, va_A w0 sz q → sz0 ≤ q) (hhi : ∀ a, 100 ≤ a → ad a = st a) (hQ : ∀ M1 : am_M, (∀ b, b ≠ 63 → M1 b = M b) → (∀ j, 0 ≤ j → j < 101 → M1 63 j = sg0 j) → Q (am_ws dA ad M1)) : BW D dA (nb_KK sz0 st) w0 sz (nb_R 12 12 1365 468) mX8_init 12 1365 102 [(0, .ref (ad 62))] [] (am_ws dA ad M) 12 1365 Q := by
  refine nb_aload (a := ad 62) dX8_init_102 (j := 0) rfl ?_
  refine nb_get (ci := 8) (j := 1) (q0 := 62) (v := .ref (ad 63)) (fs := x8_fs ad (M)) dX8_init_103 rfl (by decide) (am_tm 634 (by decide +kernel) rfl) x8_get x8_1 ?_
  refine nb_sq (b := 63) (d' := 0) (sz0 := sz0) (st := st) dX8_init_106 cs_X8_48 (by decide) (by decide) (fun s hs => hs) hhi hw0 (by decide) (c_plain rfl (fun M1 fr1 hd1 => ⟨rfl, ?_⟩))
  refine nb_aload (a := ad 62) dX8_init_109 (j := 0) rfl ?_
  refine nb_get (ci := 8) (j := 1) (q0 := 62) (v := .ref (ad 63)) (fs := x8_fs ad (M1)) dX8_init_110 rfl (by decide) (am_tm 634 (by decide +kernel) rfl) x8_get x8_1 ?_
  refine nb_iconst dX8_init_113 ?_
  refine nb_iconst dX8_init_114 ?_
  refine nb_iast (a := 63) (N := 101) dX8_init_115 rfl (by decide) ?_
  refine nb_aload (a := ad 62) dX8_init_116 (j := 0) rfl ?_
  refine nb_get (ci := 8) (j := 1) (q0 := 62) (v := .ref (ad 63)) (fs := x8_fs ad (am_up M1 63 0 1)) dX8_init_117 rfl (by decide) (am_tm 634 (by decide +kernel) rfl) x8_get x8_1 ?_
  refine nb_iconst dX8_init_120 ?_
  refine nb_iconst dX8_init_121 ?_
  refine nb_iast (a := 63) (N := 101) dX8_init_122 rfl (by decide) ?_
  refine nb_ret dX8_init_123 (by decide) (by decide) (hQ _ (fun b hb => ?_) (fun j j0 j1 => ?_))
  · rw [am_up_ne _ _ _ _ _ hb, am_up_ne _ _ _ _ _ hb, fr1 b hb]
  · unfold sg0
    by_cases h1 : j = 1
    · subst h1; rw [am_up_same, if_neg (by decide), if_pos rfl]
    · rw [am_up_idx _ _ h1]
      by_cases h0 : j = 0
      · subst h0; rw [am_up_same, if_pos rfl]
      · rw [am_up_idx _ _ h0, if_neg h0, if_neg h1]; exact hd1 j j0 j1
theorem b_FM {D : va_G} {dA : Nat → ClassId} {sz0 h0 : Nat} {st ad0 : Nat → Nat} {M : am_M} (hw0 : ∀ sz, sz0 ≤ sz → ∀ q, va_A (am_ws_q dA ad0 M ++ [(h0, .inr (8, [.int 0, .null, .null, .null, .int 0, .null, .null, .null, .int 0, .null, .int 0, .int 0, .int 0, .int 0, .int 0, .null, .null, .null, .null, .int 0, .null, .int 0, .int 0]))]) sz q → sz0 ≤ q) (hst : ∀ a, 100 ≤ a → ad0 a = st a) (hC : CI sg0 (fun _ => 0) 0 0 (fun _ => sg0) (fun _ => 0) (fun _ => sg0) (fun _ => 0) (fun _ => 0) 0 M) : BC D dA (nb_KK sz0 st) (nb_R 12 12 1365 468) mX8_init 12 1365 h0 (am_ws_q dA ad0 M ++ [(h0, .inr (8, [.int 0, .null, .null, .null, .int 0, .null, .null, .null, .int 0, .null, .int 0, .int 0, .int 0, .int 0, .int 0, .null, .null, .null, .null, .int 0, .null, .int 0, .int 0]))]) (fun w1 => ∃ ad M1, (∀ a, a < 62 → ad a = ad0 a) ∧ ad 62 = h0 ∧ (∀ a, 100 ≤ a → ad a = st a) ∧ w1 = am_ws dA ad M1 ∧ INV M1) := by
  have hq0 : (am_ws_q dA ad0 M ++ [(h0, .inr (8, [.int 0, .null, .null, .null, .int 0, .null, .null, .null, .int 0, .null, .int 0, .int 0, .int 0, .int 0, .int 0, .null, .null, .null, .null, .int 0, .null, .int 0, .int 0]))] : va_W)[62]? = some (h0, .inr (8, [.int 0, .null, .null, .null, .int 0, .null, .null, .null, .int 0, .null, .int 0, .int 0, .int 0, .int 0, .int 0, .null, .null, .null, .null, .int 0, .null, .int 0, .int 0])) := by
    rw [List.getElem?_append_right (by rw [am_ws_q_len]; exact Nat.le_refl _), am_ws_q_len]
    rfl
  refine nb_body (by decide) (by decide) rfl rfl (fun sz => b_X8 (q0 := 62) hq0 (fun a1 a2 a3 a4 a5 a6 a7 a8 a9 a10 a11 a12 => ?_))
  have hh0 : nb_ad2 ad0 [h0, a1, a2, a3, a4, a5, a6, a7, a8, a9, a10, a11, a12] 62 = h0 := rfl
  have hlo : ∀ a, a < 62 → nb_ad2 ad0 [h0, a1, a2, a3, a4, a5, a6, a7, a8, a9, a10, a11, a12] a = ad0 a := fun a ha => if_pos ha
  have hhi : ∀ a, 100 ≤ a → nb_ad2 ad0 [h0, a1, a2, a3, a4, a5, a6, a7, a8, a9, a10, a11, a12] a = st a := fun a ha => by
    unfold nb_ad2
    rw [if_neg (by omega), if_pos ha]
    exact hst a ha
  have key := b_FMt (D := D) (dA := dA) (sz := sz) (M := nb_M1 M) (Q := fun w1 => ∃ ad M1, (∀ a, a < 62 → ad a = ad0 a) ∧ ad 62 = h0 ∧ (∀ a, 100 ≤ a → ad a = st a) ∧ w1 = am_ws dA ad M1 ∧ INV M1) (hw0 sz) hhi (fun M1 fr hs => by
    refine ⟨_, M1, hlo, hh0, hhi, rfl, sg0, _, _, _, _, _, _, _, _, _, hC.congr (fun a ha => ?_), mi_first hs (fun x hx h63 j => ?_)⟩
    · rw [fr a (by omega)]
      funext j
      exact if_pos ha
    · rw [fr x h63]
      exact if_neg (by omega))
  rw [hh0] at key
  exact BW.conv (fun H hP => w75_P hP (ci_h4 hC)) (fun A hD => w75_D hD) key
