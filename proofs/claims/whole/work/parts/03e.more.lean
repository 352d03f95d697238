/-! the abstract machine: a nest mate's static method, System.arraycopy, String constants -/
abbrev mX7_isSetting : am_mm := (yX7_isSetting, cX7_isSetting, 2, some .boolean)
theorem am_isSetting_code : Cond.code mX7_isSetting.1 mX7_isSetting.2.1 mX7_isSetting.2.2.1 mX7_isSetting.2.2.2 ∈ am_T ∧ Cond.static yX7_isSetting ∈ am_T ∧ Cond.initialized yX7_isSetting.cls ∈ am_T := by decide +kernel
def am_cpB (own : String) (idx : Nat) : Bool := decide (Cond.methodLink own idx arraycopyName ∈ am_T) && decide (Cond.native arraycopyName ∈ am_T) && decide (Cond.static arraycopyName ∈ am_T) && decide (Cond.initialized "java/lang/System" ∈ am_T)
section AME
variable {d : Nat} {mm : am_mm} {pc : Nat} {L L' : List (Nat × am_v)} {st : List am_v} {M : am_M} {Q : Option Int → am_M → Prop}
theorem aw_isSetting {d' : Nat} {x y : Int} {rest : List am_v} (hcls : mm.1.cls = "FollowedPeaks$Text") (hd : decode mm.2.1 pc = .ok (.invokestatic 71, 3)) (hdd : d' < d) (hrest : rest.length ≤ 8)
    (h : AC d' mX7_isSetting [.inl x, .inl y] M (fun r M' => AW d mm (pc + 3) L ((r.map Sum.inl).toList ++ rest) M' Q)) : AW d mm pc L (.inl y :: .inl x :: rest) M Q := by
  intro p l e s m args below meth c D dA ad H locs ls C hP hS hl
  obtain ⟨hx, hb, hr, hml, hlk, hown, hts, hK, hinj, hC⟩ := id C
  obtain ⟨w3, w6, w2⟩ := am_isSetting_code
  rw [hcls] at hown
  have hrun := va_runSN (As := [am_val ad (.inl x), am_val ad (.inl y)]) (rest := rest.map (am_val ad)) (g := F0 m pc ls ((.inl y :: .inl x :: rest : List am_v).map (am_val ad))) (locs := locs) (cells := 0) (slots := 0) (below := below) (e := e) (meth := meth) (R := am_room d) ⟨hx, hb, hml, hown, hts⟩ (h l D dA ad hinj)
    ⟨va_cnB (R := am_room d) 2 hts (am_good w3) rfl rfl rfl hC.2.2.2.1.2 (hts _ (am_mem w2)) (by decide +kernel) ⟨hdd, by show 8 + (2 + 11) + 39 * d' ≤ 39 * d; omega⟩, hts _ (am_mem w6), trivial⟩
    ⟨am_blind, am_pre_go (av := [am_val ad (.inl x), am_val ad (.inl y)]) C hP hS⟩ rfl rfl hl.1 rfl (lv_room (by rw [am_cats]; exact hrest)) hd ⟨Nat.le_refl _, Nat.le_refl _⟩
  refine am_go hrun hS (fun r M' H1 locs1 hQ hP1 hS1 => ?_)
  rw [am_ret]
  exact hQ p l e s m args below meth c D dA ad H1 locs1 ls C hP1 hS1 hl
theorem am_nn {x : Int} {n : Nat} (hn : n < 1000) (h : 0 ≤ x ∧ x ≤ n) : ¬ Int32.ofInt x < 0 ∧ (Int32.ofInt x).toNatClampNeg = x.toNat := by
  refine ⟨fun q => ?_, Int32.toNatClampNeg_ofInt_of_le (by omega) (by omega)⟩
  have := (am_lt (x := x) (y := 0) (by omega) (by omega)).mp q
  omega
theorem am_cpy {M : am_M} {a b na nb : Nat} {sp dp n : Int} (h1 : 0 ≤ sp ∧ 0 ≤ dp ∧ 0 ≤ n) : va_cpy (fun j : Nat => Int32.ofInt (M a (j : Int))) (fun j : Nat => Int32.ofInt (M b (j : Int))) sp.toNat dp.toNat n.toNat = fun j : Nat => Int32.ofInt (am_cp M a sp b dp n b (j : Int)) := by
  funext j
  simp only [va_cpy, am_cp, if_true]
  by_cases hj : dp ≤ (j : Int) ∧ (j : Int) < dp + n
  · rw [if_pos (by omega), if_pos hj]
    congr 2
    omega
  · rw [if_neg (by omega), if_neg hj]
theorem am_cp_ne (M : am_M) (a : Nat) (sp : Int) (b : Nat) (dp n : Int) (x : Nat) (h : x ≠ b) : am_cp M a sp b dp n x = M x := by
  funext j
  simp [am_cp, h]
theorem aw_copy {idx a b na nb : Nat} {sp dp n : Int} {rest : List am_v} (hd : decode mm.2.1 pc = .ok (.invokestatic idx, 3)) (hw : am_cpB mm.1.cls idx = true) (hdd : 0 < d) (ha : am_sh[a]? = some (.inl (0, na))) (hb0 : am_sh[b]? = some (.inl (0, nb))) (hr : rest.length ≤ 8) (hz : 0 ≤ sp ∧ 0 ≤ dp ∧ 0 ≤ n ∧ sp + n ≤ na ∧ dp + n ≤ nb)
    (kk : AW d mm (pc + 3) L rest (am_cp M a sp b dp n) Q) : AW d mm pc L (.inl n :: .inl dp :: .inr b :: .inl sp :: .inr a :: rest) M Q := by
  intro p l e s m args below meth c D dA ad H locs ls C hP hS hl
  obtain ⟨hx, hb, hr', hml, hlk, hown, hts, hK, hinj, hC⟩ := id C
  unfold am_cpB at hw
  simp only [Bool.and_eq_true, decide_eq_true_eq] at hw
  obtain ⟨⟨⟨w1, w2⟩, w3⟩, w4⟩ := hw
  have sa := am_small a 0 na ha
  have sb := am_small b 0 nb hb0
  obtain ⟨e1, e2⟩ := am_nn (x := sp) sa ⟨by omega, by omega⟩
  obtain ⟨e3, e4⟩ := am_nn (x := dp) sb ⟨by omega, by omega⟩
  obtain ⟨e5, e6⟩ := am_nn (x := n) sa ⟨by omega, by omega⟩
  refine va_copyi hx hb (hml.trans hl.1.symm) hown (hts _ (am_mem w1)) (hts _ (am_mem w2)) (hts _ (am_mem w3)) (hts _ (am_mem w4)) hK hP (am_D hinj) hS a b 0 0 (f := fun j => Int32.ofInt (M a (j : Int))) (g := fun j => Int32.ofInt (M b (j : Int))) (am_ws_get ha) (am_ws_get hb0) rfl rfl rfl e1 e3 e5 (by show _ ≤ na; rw [e2, e6]; omega) (by show _ ≤ nb; rw [e4, e6]; omega) (fun i _ => rfl) (by show 1 ≤ d; omega) (by rw [am_cats]; show _ + (7 + 11) ≤ 39 * d; omega) hd (fun H1 locs1 hP1 _ hS1 => ?_)
  rw [e2, e4, e6, am_cpy (na := na) (nb := nb) (by omega)] at hP1
  exact kk p l e s m args below meth c D dA ad H1 locs1 ls C (am_ws_put hb0 rfl (am_cp_ne M a sp b dp n) hP1) hS1 hl
theorem am_cpyt {M : am_M} {b : Nat} (xs : List Int) : va_cpy (fun j : Nat => Int32.ofInt (xs.getD j 0)) (fun j : Nat => Int32.ofInt (M b (j : Int))) 0 0 3 = fun j : Nat => Int32.ofInt (am_cpt M xs b 3 b (j : Int)) := by
  funext j
  simp only [va_cpy, am_cpt, if_true]
  by_cases hj : j < 3
  · rw [if_pos (by omega), if_pos (by omega)]
    congr 2
    omega
  · rw [if_neg (by omega), if_neg (by omega)]
theorem am_cpt_ne (M : am_M) (xs : List Int) (b : Nat) (n : Int) (x : Nat) (h : x ≠ b) : am_cpt M xs b n x = M x := by
  funext j
  simp [am_cpt, h]
/-- System.arraycopy(SETTING_AT_FIRST, 0, b, 0, 3) -/
theorem aw_copyt {idx b : Nat} {rest : List am_v} (hd : decode mm.2.1 pc = .ok (.invokestatic idx, 3)) (hw : am_cpB mm.1.cls idx = true) (hdd : 0 < d) (hb0 : am_sh[b]? = some (.inl (0, 3))) (hr : rest.length ≤ 8)
    (kk : AW d mm (pc + 3) L rest (am_cpt M am_fi b 3) Q) : AW d mm pc L (.inl 3 :: .inl 0 :: .inr b :: .inl 0 :: .inr 102 :: rest) M Q := by
  intro p l e s m args below meth c D dA ad H locs ls C hP hS hl T hT X
  obtain ⟨hx, hb, hr', hml, hlk, hown, hts, hK, hinj, hC⟩ := id C
  unfold am_cpB at hw
  simp only [Bool.and_eq_true, decide_eq_true_eq] at hw
  obtain ⟨⟨⟨w1, w2⟩, w3⟩, w4⟩ := hw
  obtain ⟨scr, hs1, hs2, hs3, hs4, -, hs5, hs7⟩ := hC.2.2.1.2
  have hD := am_D (dA := dA) (M := M) hinj
  have hc0 : H[ad 102]? = some scr := by rw [hS.2.1 (ad 102) (Array.getElem?_eq_some_iff.mp hs1).1 hs7]; exact hs1
  have ha1 := am_ws_get (dA := dA) (ad := ad) (M := M) hb0
  have hc1 : H[ad b]? = some (vp_cell (dA 0) (3, .inl (fun j : Nat => Int32.ofInt (M b (j : Int))))) := hP b _ ha1
  obtain ⟨hs6, k0, hk0, cm0, hkk0⟩ := hs2
  obtain ⟨-, k1, hk1, cm1, hkk1⟩ := (hK.2 0 (dA 0, .int) rfl).1 3 (fun j : Nat => .int (Int32.ofInt (M b (j : Int))))
  obtain ⟨vm', X', step⟩ := X.arraycopy hx hown (hts _ (am_mem w1)) (hts _ (am_mem w2)) (hts _ (am_mem w3)) (hts _ (am_mem w4)) (src := ad 102) (dst := ad b) (cs := scr) (cd := vp_cell (dA 0) (3, .inl (fun j : Nat => Int32.ofInt (M b (j : Int))))) (srcPos := 0) (destPos := 0) (n := 3) (by rw [hT]; exact hc0) (by rw [hT]; exact hc1)
    hs6 (fun _ h => by cases h) hs3 (fun h => by cases h) hk0 hk1 hkk0 hkk1 (by simp [refKind]) (by decide) (by decide) (by decide)
    (by show ¬ (0 : Int) + 3 > _; omega)
    (by show ¬ (0 : Int) + 3 > ((arrV (dA 0) 3 (fun j : Nat => .int (Int32.ofInt (M b (j : Int))))).slots.size : Int); rw [arrV_size]; decide)
    (fun vm₁ _ i hi => by
      have hi3 : i < 3 := hi
      have e9 : scr.slots.getD ((0 : Int32).toNatClampNeg + i) .null = .int (Int32.ofInt (am_fi.getD i 0)) := by
        rw [Array.getD_eq_getD_getElem?, show (0 : Int32).toNatClampNeg + i = i from Nat.zero_add i, hs5 i hi3]
        rfl
      refine ⟨?_, ?_⟩
      · rw [e9]
        rfl
      · rw [e9]
        exact trivial)
    (g := F0 m pc ls (.int 3 :: .int 0 :: .ref (ad b) :: .int 0 :: .ref (ad 102) :: rest.map (am_val ad))) rfl (by rw [hml]; exact hl.1) (rest := rest.map (am_val ad)) rfl (by rw [hb]; exact hd) (by show 1 ≤ d; omega) (by show 2 * 0 + _ + (7 + 11) ≤ 39 * d; rw [am_cats]; omega)
  have e1 : copied scr (vp_cell (dA 0) (3, .inl (fun j : Nat => Int32.ofInt (M b (j : Int))))) 0 0 3 = vp_cell (dA 0) (3, .inl (va_cpy (fun j : Nat => Int32.ofInt (am_fi.getD j 0)) (fun j : Nat => Int32.ofInt (M b (j : Int))) 0 0 3)) := va_copiedX (fun z => .int z) scr (dA 0) (fun j : Nat => Int32.ofInt (am_fi.getD j 0)) (fun j : Nat => Int32.ofInt (M b (j : Int))) hs5 (Nat.le_refl 3)
  rw [am_cpyt] at e1
  rw [e1] at X' step
  have hl9 : ad b < H.size := (Array.getElem?_eq_some_iff.mp hc1).1
  generalize hcc : vp_cell (dA 0) (3, .inl (fun j : Nat => Int32.ofInt (am_cpt M am_fi b 3 b (j : Int)))) = cc9 at X' step
  have hheap : ((T.setVm vm').setCell (ad b) cc9).heap = H.setIfInBounds (ad b) cc9 := by rw [← hT]; rfl
  have oq : ∀ q : Nat, q ≠ ad b → (H.setIfInBounds (ad b) cc9)[q]? = H[q]? := fun q hq => by simp [Array.getElem?_setIfInBounds, Ne.symm hq]
  have hP1 : va_P D am_cl ((am_ws dA ad M).set b (ad b, am_cell dA ad (am_cpt M am_fi b 3) b (.inl (0, 3)))) (H.setIfInBounds (ad b) cc9) := hP.set hD ha1 (show (H.setIfInBounds (ad b) _)[ad b]? = some _ by rw [← hcc]; simp [Array.getElem?_setIfInBounds, hl9, am_cell]) oq
  obtain ⟨t, a1, b1⟩ := kk p l e s m args below meth c D dA ad _ _ ls C (am_ws_put hb0 rfl (am_cpt_ne M am_fi b 3) hP1) ⟨by simp; exact hS.1, fun q g1 g2 => by
      rw [oq q (fun e => g2 (by rw [e]; exact hD.2 b _ ha1))]
      exact hS.2.1 q g1 g2, fun q hq => by
      rcases List.mem_append.mp hq with h | h
      · exact hS.2.2 q h
      · obtain ⟨z, -, hz⟩ := List.mem_map.mp h
        rw [← hz]
        exact hD.2 b _ ha1⟩ hl _ hheap X'
  exact ⟨t, step t a1, b1⟩
end AME
