/-! the last two calls of FollowedPeaks's constructor -/
section NV
variable {D : va_G} {dA : Nat → ClassId} {E : State → Prop} {w0 : va_W} {sz : Nat} {R : Room} {mm : am_mm} {mc ms pc : Nat} {L : List (Nat × Value)} {k n : Nat} {Q : va_W → Prop}
theorem am_inj_of_q {A : Nat → Prop} {ad : Nat → Nat} {M : am_M} (hD : va_D A (am_ws_q dA ad M)) : am_inj_q ad := by
  intro a b ha hb e
  exact hD.1 a b _ _ (am_ws_get_q (List.getElem?_eq_getElem ha)) (am_ws_get_q (List.getElem?_eq_getElem hb)) e
theorem am_A_of_q {A : Nat → Prop} {ad : Nat → Nat} {M : am_M} (hD : va_D A (am_ws_q dA ad M)) : ∀ q, am_A_q ad q → A q := by
  rintro q ⟨a, ha, rfl⟩
  exact hD.2 a _ (am_ws_get_q (List.getElem?_eq_getElem ha))
theorem nb_vq {mm' : am_mm} {b ci idx d' sz0 : Nat} {fs : List (Option Nat)} {q : vw_C} {ad st : Nat → Nat} {M : am_M} {rest : List Value} (hd : decode mm.2.1 pc = .ok (.invokevirtual idx, 3)) (hw : am_cvB mm.1.cls idx mm' 0 = true) (hs : am_sh_q[b]? = some (.inr (ci, fs))) (hcl : am_cl[ci]? = some q) (hq : q.1 = mm'.1.cls) (hR : d' + 1 ≤ R.frames ∧ 39 + 39 * d' ≤ R.locals) (hrest : (rest.map fun v => v.category).sum ≤ 8) (hE : ∀ s, E s → nb_KK sz0 st s) (hst : ∀ a, 100 ≤ a → ad a = st a) (hA : sz0 ≤ sz → ∀ q, va_A w0 sz q → sz0 ≤ q) (hk : k ≤ R.cells ∧ n ≤ R.slots)
    (h : AC_q d' mm' [.inr b] M (fun r M' => r = none ∧ BW D dA E w0 sz R mm mc ms (pc + 3) L rest (am_ws_q dA ad M') k n Q)) : BW D dA E w0 sz R mm mc ms pc L (.ref (ad b) :: rest) (am_ws_q dA ad M) k n Q := by
  intro p l e s m args below meth c H locs ls C hsz hP hD hS hl
  obtain ⟨hx, hb, hr, hml, hlk, hown, hts, hK, hin, hEs⟩ := id C
  unfold am_cvB at hw
  simp only [Bool.and_eq_true, decide_eq_true_eq] at hw
  obtain ⟨⟨hw, w6⟩, w7⟩ := hw
  obtain ⟨w1, w2, w3, w4, w5⟩ := am_cB_spec hw
  have hinj := am_inj_of_q hD
  have hAq := am_A_of_q hD
  have hG : GoodIn (am_w mm) (wsV mm.1.cls idx mm'.1.cls mm'.1 (am_w mm')) := by
    intro w hw
    rcases List.mem_append.mp hw with hw | hw
    · simp only [List.mem_cons, List.not_mem_nil, or_false] at hw
      rcases hw with rfl | rfl | rfl | rfl
      · exact ⟨am_mem w1, am_goodT w1⟩
      · exact ⟨am_mem w6, am_goodT w6⟩
      · exact ⟨am_mem w7, am_goodT w7⟩
      · exact ⟨am_mem w2, am_goodT w2⟩
    · exact am_good w3 w hw
  have hKK := hE s hEs
  have hA := hA (by rw [← hsz]; exact hKK.1)
  have hpre : ∀ U : State, U.heap = H → s.WarmedH U.vm → va_Pc ([.ref (ad b)] : List Value) (am_Pre_q D dA ad M) ([.ref (ad b)] : List Value).toArray U := fun U hU hW => by
    refine ⟨rfl, by rw [hU]; exact hP, va_K.moved hW.alike hK, am_KA_q.mp ?_⟩
    have h1 : am_KA (fun q => sz0 ≤ q) st U := hKK.2.go (fun a ha hn => by rw [hU]; exact hS.2.1 a ha (fun z => hn (hA a z))) hW
    exact (h1.re hst).ls (fun q z => hA q (hAq q z))
  have hrun := va_runV (As := []) (rest := rest) (g := F0 m pc ls (.ref (ad b) :: rest)) (locs := locs) (cells := k) (slots := n) (below := below) (e := e) (meth := meth) (R := R) ⟨hx, hb, hml, hown, hts⟩ (h l D dA ad hinj) (cwV (R := R) 0 hts hG rfl rfl rfl ⟨rfl, w4⟩ ⟨hR.1, by show 8 + (_ + 11) + 39 * d' ≤ R.locals; omega⟩)
    ⟨am_blind_q, by rw [← hq]; exact va_recv hK hP hcl (am_ws_get_q hs), hpre⟩ rfl rfl hl.1 rfl (lv_room hrest) hd hk
  intro T hT X
  obtain ⟨v, st₀, t, T', L9, h0, X', hL, e1, e2, ⟨⟨r, M', hv, ⟨hr9, hq9⟩, hp⟩, hz, hk9⟩, st9⟩ := hrun T hT X
  cases hv
  subst hr9
  rw [h0] at hz hk9
  have hD' : va_D (va_A w0 sz) (am_ws_q dA ad M') := ⟨(am_D_q hinj).1, fun k q z => hAq _ ((am_D_q hinj).2 k q z)⟩
  obtain ⟨t2, a1, b1⟩ := hq9 p l e s m args below meth c T'.heap (locs ++ L9) ls C hsz (by rw [e1]; exact hp) hD'
    ⟨Nat.le_trans hS.1 (by rw [e1]; exact hz), fun q h1 h2 => by rw [e1, hk9 q (Nat.lt_of_lt_of_le h1 hS.1) (fun z => h2 (hAq q z))]; exact hS.2.1 q h1 h2, fun q hq => by
      rcases List.mem_append.mp hq with h | h
      · exact hS.2.2 q h
      · exact hAq _ (hL q h)⟩ hl T' rfl X'
  exact ⟨t2, st9 t2 a1, b1⟩
theorem BW.conv {ws ws' : va_W} {st : List Value} (h1 : ∀ H, va_P D am_cl ws H → va_P D am_cl ws' H) (h2 : ∀ A, va_D A ws → va_D A ws') (h : BW D dA E w0 sz R mm mc ms pc L st ws' k n Q) : BW D dA E w0 sz R mm mc ms pc L st ws k n Q := by
  intro p l e s m args below meth c H locs ls C hsz hP hD hS hl
  exact h p l e s m args below meth c H locs ls C hsz (h1 H hP) (h2 _ hD) hS hl
end NV
/-- the first scene -/
def sg0 (j : Int) : Int := if j = 0 then 1 else if j = 1 then 3 else d0 j
theorem sg0_ok : sp_ok sg0 := by
  refine ⟨by decide, by decide, by decide, by decide, by decide, fun j a b => ?_⟩
  unfold sg0
  rw [if_neg (by omega), if_neg (by omega)]
  exact d0_ok.2.2.2.2.2.1 j a b
theorem cv_X7_73 : am_cvB RX7 73 mX3_makeFirst 0 = true := by decide +kernel
theorem k_makeFirst_q {d : Nat} {M : am_M} {Q : Option Int → am_M → Prop} (hQ : ∀ M', (∀ x, x ≠ 1 → x ≠ 2 → x ≠ 3 → M' x = M x) → SC 1 sg0 M' → Q none M') : AC_q (d + 2) mX3_makeFirst [.inr 1] M Q := by
  refine sg_X3_makeFirst_q ⟨rfl, rfl, rfl⟩ (k_makeEmpty_q ⟨rfl, rfl, rfl⟩ (fun M1 fr hs => ⟨rfl, hQ _ (fun x h1 h2 h3 => ?_) ?_⟩))
  · rw [am_up_ne _ _ _ _ _ h1, am_up_ne _ _ _ _ _ h1]; exact fr x h1 h2 h3
  · obtain ⟨s0, s1, s2, s3, s4, s5⟩ := hs
    refine ⟨?_, ?_, ?_, ?_, ?_, fun j a b => ?_⟩
    · rw [am_up_idx _ _ (by decide), am_up_same]; rfl
    · rw [am_up_same]; rfl
    · rw [am_up_cell _ (by decide), am_up_cell _ (by decide)]; exact s2
    · rw [am_up_cell _ (by decide), am_up_cell _ (by decide)]; exact s3
    · rw [am_up_cell _ (by decide), am_up_cell _ (by decide)]; exact s4
    · rw [am_up_cell _ (by decide), am_up_cell _ (by decide)]
      unfold sg0
      rw [if_neg (by omega), if_neg (by omega)]
      exact s5 j a b
/-- the class's state at first -/
theorem ci_first {M : am_M} (hL : CL M sg0) (hb : M 0 10 = -9) (fr : ∀ x, x ≠ 0 → (3 < x ∧ x < 32) ∨ 50 < x → M x = nb_M0 x) : CI sg0 (fun _ => 0) 0 0 (fun _ => sg0) (fun _ => 0) (fun _ => sg0) (fun _ => 0) (fun _ => 0) 0 M := by
  refine ⟨sg0_ok, hL, Or.inl hb, ⟨by decide, fun k a b => absurd b (by omega)⟩, ⟨by rw [fr 7 (by decide) (by omega)]; rfl, fun k a b => absurd b (by omega)⟩, ⟨⟨by rw [fr 9 (by decide) (by omega)]; rfl, by omega⟩, (fun i => i), ⟨fun i hi => ⟨hi, by rw [fr 10 (by decide) (by omega)]; rfl⟩, fun i j _ _ e => e⟩, fun i hi => absurd hi (by omega)⟩, fun i hi => ⟨⟨by rw [fr 29 (by decide) (by omega)]; rfl, Or.inl rfl, by rw [fr 30 (by decide) (by omega)]; rfl⟩, fun z => absurd z (show ¬ ((0 : Int) = 1) by decide)⟩, ⟨by omega, fun i hi => absurd hi (by omega)⟩, ⟨by rw [fr 51 (by decide) (by omega)]; rfl, fun i hi => absurd hi (by omega)⟩⟩
