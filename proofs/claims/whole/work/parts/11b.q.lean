/-! the class alone: 05 over the cells 0..61 -/
section AMB
variable {d : Nat} {mm : am_mm} {pc : Nat} {L L' : List (Nat × am_v)} {st : List am_v} {M : am_M} {Q : Option Int → am_M → Prop}
theorem aw_ifb_eq_q {P : Prop} [Decidable P] {off : Int} {tgt : Nat} (hd : decode mm.2.1 pc = .ok (.ifCond .eq off, 3)) (ht : (pc : Int) + off = (tgt : Int)) (kt : ¬ P → AW_q d mm tgt L st M Q) (kf : P → AW_q d mm (pc + 3) L st M Q) : AW_q d mm pc L (.inl (am_b P) :: st) M Q := by
  refine aw_if_eq_q hd ht (am_b_r P) (fun c => kt (fun h => ?_)) (fun c => ?_)
  · rw [am_b_pos h] at c; exact absurd c (by decide)
  · by_cases h : P
    · exact kf h
    · exact absurd (am_b_neg h) c
theorem aw_bret_q {P : Prop} [Decidable P] (hd : decode mm.2.1 pc = .ok (.ireturn, 1)) (hr : mm.2.2.2 = some .boolean) (h : Q (some (am_b P)) M) : AW_q d mm pc L [.inl (am_b P)] M Q := aw_zret_q hd hr (am_b_01 P) h
end AMB
section AMJ
variable {d : Nat} {mm : am_mm} {pc : Nat} {L L' : List (Nat × am_v)} {st : List am_v} {M : am_M} {Q : Option Int → am_M → Prop}
theorem aw_max_q {idx : Nat} {x y : Int} {rest : List am_v} (hd : decode mm.2.1 pc = .ok (.invokestatic idx, 3)) (hw : am_csB mm.1.cls idx mJ9_max_7cf53 2 = true) (hdd : 0 < d) (hr : rest.length ≤ 8) (hx : am_r x ∧ am_r y) (kk : AW_q d mm (pc + 3) L (.inl (max x y) :: rest) M Q) : AW_q d mm pc L (.inl y :: .inl x :: rest) M Q := by
  intro p l e s m args below meth c D dA ad H locs ls C hP hS hl
  obtain ⟨hx', hb, hr', hml, hlk, hown, hts, hK, hinj, hC⟩ := id C
  unfold am_csB at hw
  simp only [Bool.and_eq_true, decide_eq_true_eq] at hw
  obtain ⟨hw, w6⟩ := hw
  obtain ⟨w1, w2, w3, -, -⟩ := am_cB_spec hw
  have h := kk p l e s m args below meth c D dA ad H locs ls C hP hS hl
  refine va_mmax hx' hb (hml.trans hl.1.symm) hown (hts _ (am_mem w1)) (hts _ (am_mem w6)) (hts _ (am_mem w2)) (hts _ (am_mem w3)) (by show 1 ≤ d; omega) (by rw [am_cats]; show _ + 13 ≤ 39 * d; omega) (Nat.zero_le _) (Nat.zero_le _) hd ?_
  have e9 : (if Int32.ofInt x < Int32.ofInt y then Int32.ofInt y else Int32.ofInt x) = Int32.ofInt (max x y) := by
    by_cases hq : x < y
    · rw [if_pos ((am_lt hx.1 hx.2).mpr hq), Int.max_eq_right (by omega)]
    · rw [if_neg (fun z => hq ((am_lt hx.1 hx.2).mp z)), Int.max_eq_left (by omega)]
  rw [e9]
  exact h
theorem aw_min_q {idx : Nat} {x y : Int} {rest : List am_v} (hd : decode mm.2.1 pc = .ok (.invokestatic idx, 3)) (hw : am_csB mm.1.cls idx mJ9_min_7cf53 2 = true) (hdd : 0 < d) (hr : rest.length ≤ 8) (hx : am_r x ∧ am_r y) (kk : AW_q d mm (pc + 3) L (.inl (min x y) :: rest) M Q) : AW_q d mm pc L (.inl y :: .inl x :: rest) M Q := by
  intro p l e s m args below meth c D dA ad H locs ls C hP hS hl
  obtain ⟨hx', hb, hr', hml, hlk, hown, hts, hK, hinj, hC⟩ := id C
  unfold am_csB at hw
  simp only [Bool.and_eq_true, decide_eq_true_eq] at hw
  obtain ⟨hw, w6⟩ := hw
  obtain ⟨w1, w2, w3, -, -⟩ := am_cB_spec hw
  have h := kk p l e s m args below meth c D dA ad H locs ls C hP hS hl
  refine va_mmin hx' hb (hml.trans hl.1.symm) hown (hts _ (am_mem w1)) (hts _ (am_mem w6)) (hts _ (am_mem w2)) (hts _ (am_mem w3)) (by show 1 ≤ d; omega) (by rw [am_cats]; show _ + 13 ≤ 39 * d; omega) (Nat.zero_le _) (Nat.zero_le _) hd ?_
  have e9 : (if Int32.ofInt y < Int32.ofInt x then Int32.ofInt y else Int32.ofInt x) = Int32.ofInt (min x y) := by
    by_cases hq : y < x
    · rw [if_pos ((am_lt hx.2 hx.1).mpr hq), Int.min_eq_right (by omega)]
    · rw [if_neg (fun z => hq ((am_lt hx.2 hx.1).mp z)), Int.min_eq_left (by omega)]
  rw [e9]
  exact h
theorem aw_abs_q {idx : Nat} {x : Int} {rest : List am_v} (hd : decode mm.2.1 pc = .ok (.invokestatic idx, 3)) (hw : am_csB mm.1.cls idx mJ9_abs_0f7a4 1 = true) (hdd : 0 < d) (hr : rest.length ≤ 8) (hx : am_r x) (kk : AW_q d mm (pc + 3) L (.inl (am_abs x) :: rest) M Q) : AW_q d mm pc L (.inl x :: rest) M Q := by
  intro p l e s m args below meth c D dA ad H locs ls C hP hS hl
  obtain ⟨hx', hb, hr', hml, hlk, hown, hts, hK, hinj, hC⟩ := id C
  unfold am_csB at hw
  simp only [Bool.and_eq_true, decide_eq_true_eq] at hw
  obtain ⟨hw, w6⟩ := hw
  obtain ⟨w1, w2, w3, -, -⟩ := am_cB_spec hw
  have h := kk p l e s m args below meth c D dA ad H locs ls C hP hS hl
  refine va_mabs hx' hb (hml.trans hl.1.symm) hown (hts _ (am_mem w1)) (hts _ (am_mem w6)) (hts _ (am_mem w2)) (hts _ (am_mem w3)) (by show 1 ≤ d; omega) (by rw [am_cats]; show _ + 13 ≤ 39 * d; omega) (Nat.zero_le _) (Nat.zero_le _) hd ?_
  have e9 : (if 0 ≤ Int32.ofInt x then Int32.ofInt x else 0 - Int32.ofInt x) = Int32.ofInt (am_abs x) := by
    by_cases hq : x < 0
    · rw [if_neg (fun z => by have := (am_le am_r0 hx).mp z; omega), show am_abs x = 0 - x by simp only [am_abs, hq, if_true]; omega, Int32.ofInt_sub]
      rfl
    · rw [if_pos (show (0 : Int32) ≤ Int32.ofInt x from (am_le am_r0 hx).mpr (by omega)), show am_abs x = x by simp only [am_abs, hq, if_false]]
  rw [e9]
  exact h
end AMJ
/-! the class alone: 06a over the cells 0..61 -/
theorem sg_J6_compare_7cf53_q {d : Nat} {M : am_M} {Q : Option Int → am_M → Prop} {x y : Int} (h : (((am_r x) ∧ (am_r y))) ∧
 ∀ (v5 : Int), (y ≤ x → x ≠ y → v5 = 1) →
 (y ≤ x → x = y → v5 = 0) →
 (x < y → v5 = (-1)) →
 Q (some v5) M) : AC_q (d) mJ6_compare_7cf53 [.inl x, .inl y] M Q := by
  refine aw_body_q (by decide) (Nat.le_of_ble_eq_true rfl) rfl ?_
  refine aw_iload_n_q dJ6_compare_7cf53_0 rfl (j := 0) rfl ?_
  refine aw_iload_n_q dJ6_compare_7cf53_1 rfl (j := 1) rfl ?_
  obtain ⟨g, h⟩ := h
  have K : ∀ (v5 : Int), (y ≤ x → x ≠ y → v5 = 1) → (y ≤ x → x = y → v5 = 0) → (x < y → v5 = (-1)) → AW_q (d) mJ6_compare_7cf53 19 [(0, .inl x), (1, .inl y)] [.inl v5] M Q := by
    intro v5 q6 q7 q8
    replace h := h v5 q6 q7 q8
    exact aw_iret_q dJ6_compare_7cf53_19 rfl h
  clear h
  obtain ⟨s1, g⟩ := g
  have s2 := g
  refine aw_icmp_ge_q dJ6_compare_7cf53_2 (tgt := 9) rfl s1 s2 (fun c3 => ?_) (fun c3 => ?_)
  · have c3 : y ≤ x := c3
    refine aw_iload_n_q dJ6_compare_7cf53_9 rfl (j := 0) rfl ?_
    refine aw_iload_n_q dJ6_compare_7cf53_10 rfl (j := 1) rfl ?_
    refine aw_icmp_ne_q dJ6_compare_7cf53_11 (tgt := 18) rfl s1 s2 (fun c4 => ?_) (fun c4 => ?_)
    · have c4 : x ≠ y := c4
      refine aw_iconst_q dJ6_compare_7cf53_18 ?_
      exact K 1 (fun _ _ => rfl) (fun q0 q1 => by first | omega | exact absurd c4 q1 | exact absurd q1 c4) (fun q0 => by first | omega | exact absurd c3 q0 | exact absurd q0 c3)
    · have c4 : x = y := c4
      refine aw_iconst_q dJ6_compare_7cf53_14 ?_
      refine aw_goto_q dJ6_compare_7cf53_15 (tgt := 19) rfl ?_
      exact K 0 (fun q0 q1 => by first | omega | exact absurd c4 q1 | exact absurd q1 c4) (fun _ _ => rfl) (fun q0 => by first | omega | exact absurd c3 q0 | exact absurd q0 c3)
  · have c3 : x < y := c3
    refine aw_iconst_q dJ6_compare_7cf53_5 ?_
    refine aw_goto_q dJ6_compare_7cf53_6 (tgt := 19) rfl ?_
    exact K (-1) (fun q0 q1 => by first | omega | exact absurd c3 q0 | exact absurd q0 c3) (fun q0 q1 => by first | omega | exact absurd c3 q0 | exact absurd q0 c3) (fun _ => rfl)
theorem sg_J7_fill_53178_q {d : Nat} {M : am_M} {Q : Option Int → am_M → Prop} {a n : Nat} (ha : am_sh_q[a]? = some (.inl (0, n))) {v : Int} (h : AW_q (d) mJ7_fill_53178 5 [(0, .inr a), (1, .inl v), (2, .inl 0), (3, .inl (n : Nat))] [] M Q) : AC_q (d) mJ7_fill_53178 [.inr a, .inl v] M Q := by
  refine aw_body_q (by decide) (Nat.le_of_ble_eq_true rfl) rfl ?_
  refine aw_iconst_q dJ7_fill_53178_0 ?_
  refine aw_istore_n_q (L' := [(0, .inr a), (1, .inl v), (2, .inl 0)]) dJ7_fill_53178_1 rfl (Nat.le_of_ble_eq_true rfl) rfl ?_
  refine aw_aload_n_q dJ7_fill_53178_2 rfl (j := 0) rfl ?_
  refine aw_alen_q dJ7_fill_53178_3 ha ?_
  refine aw_istore_n_q (L' := [(0, .inr a), (1, .inl v), (2, .inl 0), (3, .inl (n : Nat))]) dJ7_fill_53178_4 rfl (Nat.le_of_ble_eq_true rfl) rfl ?_
  exact h
theorem sg_J7_fill_53178_5_q {d : Nat} {M : am_M} {Q : Option Int → am_M → Prop} {a n : Nat} (ha : am_sh_q[a]? = some (.inl (0, n))) {v i m : Int} (h : (am_r i) ∧
 (am_r m) ∧
 ((m ≤ i →
 Q none M) ∧
 (i < m →
 (0 ≤ i ∧ i < n) ∧
 AW_q (d) mJ7_fill_53178 5 [(0, .inr a), (1, .inl v), (2, .inl (i + 1)), (3, .inl m)] [] (am_up M a i v) Q))) : AW_q (d) mJ7_fill_53178 5 [(0, .inr a), (1, .inl v), (2, .inl i), (3, .inl m)] [] M Q := by
  refine aw_iload_n_q dJ7_fill_53178_5 rfl (j := 2) rfl ?_
  refine aw_iload_n_q dJ7_fill_53178_6 rfl (j := 3) rfl ?_
  obtain ⟨s1, h⟩ := h
  obtain ⟨s2, h⟩ := h
  refine aw_icmp_ge_q dJ7_fill_53178_7 (tgt := 20) rfl s1 s2 (fun c3 => ?_) (fun c3 => ?_)
  · replace h := h.1 c3
    exact aw_vret_q dJ7_fill_53178_20 rfl h
  · replace h := h.2 c3
    refine aw_aload_n_q dJ7_fill_53178_10 rfl (j := 0) rfl ?_
    refine aw_iload_n_q dJ7_fill_53178_11 rfl (j := 2) rfl ?_
    refine aw_iload_n_q dJ7_fill_53178_12 rfl (j := 1) rfl ?_
    obtain ⟨s4, h⟩ := h
    refine aw_iastore_q dJ7_fill_53178_13 ha s4 ?_
    refine aw_iinc_q (L' := [(0, .inr a), (1, .inl v), (2, .inl (i + 1)), (3, .inl m)]) dJ7_fill_53178_14 (j := 2) rfl (Nat.le_of_ble_eq_true rfl) rfl ?_
    refine aw_goto_q dJ7_fill_53178_17 (tgt := 5) rfl ?_
    exact h
/-! the class alone: 06b over the cells 0..61 -/
theorem fc_compare_q {d : Nat} {M : am_M} {Q : Option Int → am_M → Prop} {x y : Int} (hr : am_r x ∧ am_r y) (h : Q (some (am_cmp x y)) M) : AC_q d mJ6_compare_7cf53 [.inl x, .inl y] M Q := by
  refine sg_J6_compare_7cf53_q ⟨hr, fun v h1 h2 h3 => ?_⟩
  have e : v = am_cmp x y := by
    unfold am_cmp
    split
    · omega
    · split <;> omega
  rw [e]
  exact h
theorem fc_fill_q {d : Nat} {M : am_M} {Q : Option Int → am_M → Prop} {a n : Nat} (ha : am_sh_q[a]? = some (.inl (0, n))) {v : Int} (h : Q none (am_fill M a n v)) : AC_q d mJ7_fill_53178 [.inr a, .inl v] M Q := by
  have hn := am_small_q a 0 n ha
  refine sg_J7_fill_53178_q ha ?_
  have key : ∀ (k : Nat) (i : Int) (M' : am_M), 0 ≤ i → i + k = n → (∀ c j, (c ≠ a ∨ j < 0 ∨ i ≤ j) → M' c j = M c j) → (∀ j, 0 ≤ j → j < i → M' a j = v) → AW_q d mJ7_fill_53178 5 [(0, .inr a), (1, .inl v), (2, .inl i), (3, .inl (n : Int))] [] M' Q := by
    intro k
    induction k with
    | zero =>
      intro i M' h0 h1 h2 h3
      refine sg_J7_fill_53178_5_q ha ⟨by omega, by omega, fun _ => ?_, fun c => absurd c (by omega)⟩
      have e : M' = am_fill M a n v := by
        funext c j
        unfold am_fill
        by_cases hc : c = a
        · subst hc
          by_cases hj : 0 ≤ j ∧ j < n
          · rw [if_pos rfl, if_pos hj]; exact h3 j hj.1 (by omega)
          · rw [if_pos rfl, if_neg hj]; exact h2 c j (by omega)
        · rw [if_neg hc]; exact h2 c j (Or.inl hc)
      rw [e]
      exact h
    | succ k ih =>
      intro i M' h0 h1 h2 h3
      refine sg_J7_fill_53178_5_q ha ⟨by omega, by omega, fun c => absurd c (by omega), fun _ => ⟨by omega, ?_⟩⟩
      refine ih (i + 1) _ (by omega) (by omega) (fun c j hcj => ?_) (fun j hj1 hj2 => ?_)
      · unfold am_up
        by_cases hc : c = a
        · subst hc
          rw [if_pos rfl, if_neg (by omega)]
          exact h2 c j (by omega)
        · rw [if_neg hc]; exact h2 c j (Or.inl hc)
      · by_cases hj : j = i
        · subst hj; exact am_up_same _ _ _ _
        · rw [am_up_idx _ _ hj]; exact h3 j hj1 (by omega)
  exact key n 0 M (by omega) (by omega) (fun _ _ _ => rfl) (fun j h1 h2 => absurd h1 (by omega))

/-! the class alone: 07a over the cells 0..61 -/
def am_sc_q (a : Nat) : Prop := am_sh_q[a]? = some (.inr (3, [none, none, some (a + 1), some (a + 2)])) ∧ am_sh_q[a + 1]? = some (.inl (0, 3)) ∧ am_sh_q[a + 2]? = some (.inl (0, 96))
theorem sg_X3_hasFrame_q {d : Nat} {M : am_M} {Q : Option Int → am_M → Prop} {a : Nat} (ha : am_sc_q a) {f : Int} (h : (((am_r f) ∧ (0 ≤ f → (am_r (M a 0))))) ∧
 Q (some (am_b ((0 ≤ f) ∧ (f < M a 0)))) M) : AC_q (d) mX3_hasFrame [.inr a, .inl f] M Q := by
  refine aw_body_q (by decide) (Nat.le_of_ble_eq_true rfl) rfl ?_
  refine aw_iload_n_q dX3_hasFrame_0 rfl (j := 1) rfl ?_
  obtain ⟨g, h⟩ := h
  have K : AW_q (d) mX3_hasFrame 17 [(0, .inr a), (1, .inl f)] [.inl (am_b ((0 ≤ f) ∧ (f < M a 0)))] M Q := by
    exact aw_bret_q dX3_hasFrame_17 rfl h
  clear h
  obtain ⟨s1, g⟩ := g
  refine aw_if_lt_q dX3_hasFrame_1 (tgt := 16) rfl s1 (fun c2 => ?_) (fun c2 => ?_)
  · have c2 : f < 0 := c2
    refine aw_iconst_q dX3_hasFrame_16 ?_
    have hp : ¬ ((0 ≤ f) ∧ (f < M a 0)) := by first | omega | simp_all
    have K1 := K
    rw [am_b_neg hp] at K1
    exact K1
  · have c2 : 0 ≤ f := c2
    replace g := g c2
    refine aw_iload_n_q dX3_hasFrame_4 rfl (j := 1) rfl ?_
    refine aw_aload_n_q dX3_hasFrame_5 rfl (j := 0) rfl ?_
    refine aw_getf_q dX3_hasFrame_6 fl_X3_21 ha.1 rfl rfl ?_
    have s3 := g
    refine aw_icmp_ge_q dX3_hasFrame_9 (tgt := 16) rfl s1 s3 (fun c4 => ?_) (fun c4 => ?_)
    · have c4 : M a 0 ≤ f := c4
      refine aw_iconst_q dX3_hasFrame_16 ?_
      have hp : ¬ ((0 ≤ f) ∧ (f < M a 0)) := by first | omega | simp_all
      have K1 := K
      rw [am_b_neg hp] at K1
      exact K1
    · have c4 : f < M a 0 := c4
      refine aw_iconst_q dX3_hasFrame_12 ?_
      refine aw_goto_q dX3_hasFrame_13 (tgt := 17) rfl ?_
      have hp : (0 ≤ f) ∧ (f < M a 0) := by first | omega | simp_all
      have K1 := K
      rw [am_b_pos hp] at K1
      exact K1
theorem sg_X6_pitchIn_q {d : Nat} {M : am_M} {Q : Option Int → am_M → Prop} {n f : Int} (h : (am_r n) ∧
 ((n < 0 →
 Q (some (-9)) M) ∧
 (0 ≤ n →
 (am_r (M 41 0)) ∧
 ((M 41 0 ≤ n →
 Q (some (-9)) M) ∧
 (n < M 41 0 →
 (am_r f) ∧
 ((f < 0 →
 Q (some (-9)) M) ∧
 (0 ≤ f →
 ((f < 8 →
 (0 ≤ (n * 8) + f ∧ (n * 8) + f < 384) ∧
 Q (some (M 48 ((n * 8) + f))) M) ∧
 (8 ≤ f →
 Q (some (-9)) M))))))))) : AC_q (d) mX6_pitchIn [.inr 41, .inl n, .inl f] M Q := by
  refine aw_body_q (by decide) (Nat.le_of_ble_eq_true rfl) rfl ?_
  refine aw_iload_n_q dX6_pitchIn_0 rfl (j := 1) rfl ?_
  obtain ⟨s1, h⟩ := h
  refine aw_if_lt_q dX6_pitchIn_1 (tgt := 22) rfl s1 (fun c2 => ?_) (fun c2 => ?_)
  · replace h := h.1 c2
    refine aw_bipush_q dX6_pitchIn_22 (by decide) ?_
    exact aw_iret_q dX6_pitchIn_24 rfl h
  · replace h := h.2 c2
    refine aw_iload_n_q dX6_pitchIn_4 rfl (j := 1) rfl ?_
    refine aw_aload_n_q dX6_pitchIn_5 rfl (j := 0) rfl ?_
    refine aw_getf_q dX6_pitchIn_6 fl_X6_39 rfl rfl rfl ?_
    obtain ⟨s3, h⟩ := h
    refine aw_icmp_ge_q dX6_pitchIn_9 (tgt := 22) rfl s1 s3 (fun c4 => ?_) (fun c4 => ?_)
    · replace h := h.1 c4
      refine aw_bipush_q dX6_pitchIn_22 (by decide) ?_
      exact aw_iret_q dX6_pitchIn_24 rfl h
    · replace h := h.2 c4
      refine aw_iload_n_q dX6_pitchIn_12 rfl (j := 2) rfl ?_
      obtain ⟨s5, h⟩ := h
      refine aw_if_lt_q dX6_pitchIn_13 (tgt := 22) rfl s5 (fun c6 => ?_) (fun c6 => ?_)
      · replace h := h.1 c6
        refine aw_bipush_q dX6_pitchIn_22 (by decide) ?_
        exact aw_iret_q dX6_pitchIn_24 rfl h
      · replace h := h.2 c6
        refine aw_iload_n_q dX6_pitchIn_16 rfl (j := 2) rfl ?_
        refine aw_bipush_q dX6_pitchIn_17 (by decide) ?_
        refine aw_icmp_lt_q dX6_pitchIn_19 (tgt := 25) rfl s5 (by decide) (fun c7 => ?_) (fun c7 => ?_)
        · replace h := h.1 c7
          refine aw_aload_n_q dX6_pitchIn_25 rfl (j := 0) rfl ?_
          refine aw_getr_q dX6_pitchIn_26 fl_X6_30 rfl rfl ?_
          refine aw_iload_n_q dX6_pitchIn_29 rfl (j := 1) rfl ?_
          refine aw_bipush_q dX6_pitchIn_30 (by decide) ?_
          refine aw_imul_q dX6_pitchIn_32 ?_
          refine aw_iload_n_q dX6_pitchIn_33 rfl (j := 2) rfl ?_
          refine aw_iadd_q dX6_pitchIn_34 ?_
          obtain ⟨s8, h⟩ := h
          refine aw_iaload_q dX6_pitchIn_35 rfl s8 ?_
          exact aw_iret_q dX6_pitchIn_36 rfl h
        · replace h := h.2 c7
          refine aw_bipush_q dX6_pitchIn_22 (by decide) ?_
          exact aw_iret_q dX6_pitchIn_24 rfl h
/-! the class alone: 07b over the cells 0..61 -/
section FC1
variable {d : Nat} {M : am_M} {Q : Option Int → am_M → Prop}
theorem fc_hasFrame_q {a : Nat} (ha : am_sc_q a) {f : Int} (hr : am_r f ∧ am_r (M a 0)) (h : Q (some (am_b (0 ≤ f ∧ f < M a 0))) M) : AC_q d mX3_hasFrame [.inr a, .inl f] M Q := sg_X3_hasFrame_q ha ⟨⟨hr.1, fun _ => hr.2⟩, h⟩
theorem fc_pitchIn_q {n f : Int} (hr : am_piok (M 41 0) n f) (h : Q (some (am_pi (M 41 0) (M 48) n f)) M) : AC_q d mX6_pitchIn [.inr 41, .inl n, .inl f] M Q := by
  obtain ⟨h1, h2, h3, h4⟩ := hr
  refine sg_X6_pitchIn_q ⟨h1, fun c => ?_, fun c => ⟨h2, fun c2 => ?_, fun c2 => ⟨h3, fun c3 => ?_, fun c3 => ⟨fun c4 => ⟨by omega, ?_⟩, fun c4 => ?_⟩⟩⟩⟩
  all_goals unfold am_pi at h
  · rw [if_neg (by omega)] at h; exact h
  · rw [if_neg (by omega)] at h; exact h
  · rw [if_neg (by omega)] at h; exact h
  · rw [if_pos (by omega)] at h; exact h
  · rw [if_neg (by omega)] at h; exact h
end FC1
/-! the class alone: 07c over the cells 0..61 -/
theorem sg_X3_hasPlace_q {d : Nat} {M : am_M} {Q : Option Int → am_M → Prop} {a : Nat} (ha : am_sc_q a) {f p : Int} (h : (am_r f ∧ am_r (M a 0)) ∧
 ((0 ≤ f ∧ f < M a 0 → ((am_r p) ∧ (0 ≤ p → (am_r (M a 1)))))) ∧
 Q (some (am_b ((0 ≤ f ∧ f < M a 0) ∧ (0 ≤ p) ∧ (p < M a 1)))) M) : AC_q (d + 1) mX3_hasPlace [.inr a, .inl f, .inl p] M Q := by
  refine aw_body_q (by decide) (Nat.le_of_ble_eq_true rfl) rfl ?_
  refine aw_aload_n_q dX3_hasPlace_0 rfl (j := 0) rfl ?_
  refine aw_iload_n_q dX3_hasPlace_1 rfl (j := 1) rfl ?_
  obtain ⟨s1, h⟩ := h
  refine aw_invv_q (d' := d) (as := [.inl f]) (rest := []) dX3_hasPlace_2 cv_X3_43 (Nat.lt_succ_self _) ha.1 rfl rfl rfl rfl (Nat.le_of_ble_eq_true rfl) (fc_hasFrame_q ha s1 ?_)
  show AW_q (d + 1) mX3_hasPlace 5 [(0, .inr a), (1, .inl f), (2, .inl p)] [.inl (am_b (0 ≤ f ∧ f < M a 0))] M Q
  obtain ⟨g, h⟩ := h
  have K : AW_q (d + 1) mX3_hasPlace 25 [(0, .inr a), (1, .inl f), (2, .inl p)] [.inl (am_b ((0 ≤ f ∧ f < M a 0) ∧ (0 ≤ p) ∧ (p < M a 1)))] M Q := by
    exact aw_bret_q dX3_hasPlace_25 rfl h
  clear h
  refine aw_ifb_eq_q dX3_hasPlace_5 (tgt := 24) rfl (fun c2 => ?_) (fun c2 => ?_)
  · have c2 : ¬ (0 ≤ f ∧ f < M a 0) := c2
    refine aw_iconst_q dX3_hasPlace_24 ?_
    have hp : ¬ ((0 ≤ f ∧ f < M a 0) ∧ (0 ≤ p) ∧ (p < M a 1)) := by first | omega | simp_all
    have K1 := K
    rw [am_b_neg hp] at K1
    exact K1
  · have c2 : 0 ≤ f ∧ f < M a 0 := c2
    replace g := g c2
    refine aw_iload_n_q dX3_hasPlace_8 rfl (j := 2) rfl ?_
    obtain ⟨s3, g⟩ := g
    refine aw_if_lt_q dX3_hasPlace_9 (tgt := 24) rfl s3 (fun c4 => ?_) (fun c4 => ?_)
    · have c4 : p < 0 := c4
      refine aw_iconst_q dX3_hasPlace_24 ?_
      have hp : ¬ ((0 ≤ f ∧ f < M a 0) ∧ (0 ≤ p) ∧ (p < M a 1)) := by first | omega | simp_all
      have K1 := K
      rw [am_b_neg hp] at K1
      exact K1
    · have c4 : 0 ≤ p := c4
      replace g := g c4
      refine aw_iload_n_q dX3_hasPlace_12 rfl (j := 2) rfl ?_
      refine aw_aload_n_q dX3_hasPlace_13 rfl (j := 0) rfl ?_
      refine aw_getf_q dX3_hasPlace_14 fl_X3_25 ha.1 rfl rfl ?_
      have s5 := g
      refine aw_icmp_ge_q dX3_hasPlace_17 (tgt := 24) rfl s3 s5 (fun c6 => ?_) (fun c6 => ?_)
      · have c6 : M a 1 ≤ p := c6
        refine aw_iconst_q dX3_hasPlace_24 ?_
        have hp : ¬ ((0 ≤ f ∧ f < M a 0) ∧ (0 ≤ p) ∧ (p < M a 1)) := by first | omega | simp_all
        have K1 := K
        rw [am_b_neg hp] at K1
        exact K1
      · have c6 : p < M a 1 := c6
        refine aw_iconst_q dX3_hasPlace_20 ?_
        refine aw_goto_q dX3_hasPlace_21 (tgt := 25) rfl ?_
        have hp : (0 ≤ f ∧ f < M a 0) ∧ (0 ≤ p) ∧ (p < M a 1) := by first | omega | simp_all
        have K1 := K
        rw [am_b_pos hp] at K1
        exact K1
/-! the class alone: 07d over the cells 0..61 -/
section FC2
variable {d : Nat} {M : am_M} {Q : Option Int → am_M → Prop}
theorem fc_hasPlace_q {a : Nat} (ha : am_sc_q a) {f p : Int} (hr : (am_r f ∧ am_r (M a 0)) ∧ am_r p ∧ am_r (M a 1)) (h : Q (some (am_b ((0 ≤ f ∧ f < M a 0) ∧ 0 ≤ p ∧ p < M a 1))) M) : AC_q (d + 1) mX3_hasPlace [.inr a, .inl f, .inl p] M Q :=
  sg_X3_hasPlace_q ha ⟨hr.1, fun _ => ⟨hr.2.1, fun _ => hr.2.2⟩, h⟩
end FC2
/-! the class alone: 07e over the cells 0..61 -/
theorem sg_X3_levelAt_q {d : Nat} {M : am_M} {Q : Option Int → am_M → Prop} {a : Nat} (ha : am_sc_q a) {f p : Int} (h : ((am_r f ∧ am_r (M a 0)) ∧ am_r p ∧ am_r (M a 1)) ∧
 (((0 ≤ f ∧ f < M a 0) ∧ 0 ≤ p ∧ p < M a 1 → (0 ≤ (f * 12) + p ∧ (f * 12) + p < 96))) ∧
 ∀ (v4 : Int), (¬ ((0 ≤ f ∧ f < M a 0) ∧ 0 ≤ p ∧ p < M a 1) → v4 = 0) →
 ((0 ≤ f ∧ f < M a 0) ∧ 0 ≤ p ∧ p < M a 1 → v4 = M (a + 2) ((f * 12) + p)) →
 Q (some v4) M) : AC_q (d + 2) mX3_levelAt [.inr a, .inl f, .inl p] M Q := by
  refine aw_body_q (by decide) (Nat.le_of_ble_eq_true rfl) rfl ?_
  refine aw_aload_n_q dX3_levelAt_0 rfl (j := 0) rfl ?_
  refine aw_iload_n_q dX3_levelAt_1 rfl (j := 1) rfl ?_
  refine aw_iload_n_q dX3_levelAt_2 rfl (j := 2) rfl ?_
  obtain ⟨s1, h⟩ := h
  refine aw_invv_q (d' := d + 1) (as := [.inl f, .inl p]) (rest := []) dX3_levelAt_3 cv_X3_47 (Nat.lt_succ_self _) ha.1 rfl rfl rfl rfl (Nat.le_of_ble_eq_true rfl) (fc_hasPlace_q ha s1 ?_)
  show AW_q (d + 2) mX3_levelAt 6 [(0, .inr a), (1, .inl f), (2, .inl p)] [.inl (am_b ((0 ≤ f ∧ f < M a 0) ∧ 0 ≤ p ∧ p < M a 1))] M Q
  obtain ⟨g, h⟩ := h
  have K : ∀ (v4 : Int), (¬ ((0 ≤ f ∧ f < M a 0) ∧ 0 ≤ p ∧ p < M a 1) → v4 = 0) → ((0 ≤ f ∧ f < M a 0) ∧ 0 ≤ p ∧ p < M a 1 → v4 = M (a + 2) ((f * 12) + p)) → AW_q (d + 2) mX3_levelAt 24 [(0, .inr a), (1, .inl f), (2, .inl p)] [.inl v4] M Q := by
    intro v4 q5 q6
    replace h := h v4 q5 q6
    exact aw_iret_q dX3_levelAt_24 rfl h
  clear h
  refine aw_ifb_eq_q dX3_levelAt_6 (tgt := 23) rfl (fun c2 => ?_) (fun c2 => ?_)
  · have c2 : ¬ ((0 ≤ f ∧ f < M a 0) ∧ 0 ≤ p ∧ p < M a 1) := c2
    refine aw_iconst_q dX3_levelAt_23 ?_
    exact K 0 (fun _ => rfl) (fun q0 => by first | omega | exact absurd c2 q0 | exact absurd q0 c2)
  · have c2 : (0 ≤ f ∧ f < M a 0) ∧ 0 ≤ p ∧ p < M a 1 := c2
    replace g := g c2
    refine aw_aload_n_q dX3_levelAt_9 rfl (j := 0) rfl ?_
    refine aw_getr_q dX3_levelAt_10 fl_X3_15 ha.1 rfl ?_
    refine aw_iload_n_q dX3_levelAt_13 rfl (j := 1) rfl ?_
    refine aw_bipush_q dX3_levelAt_14 (by decide) ?_
    refine aw_imul_q dX3_levelAt_16 ?_
    refine aw_iload_n_q dX3_levelAt_17 rfl (j := 2) rfl ?_
    refine aw_iadd_q dX3_levelAt_18 ?_
    have s3 := g
    refine aw_iaload_q dX3_levelAt_19 ha.2.2 s3 ?_
    refine aw_goto_q dX3_levelAt_20 (tgt := 24) rfl ?_
    exact K (M (a + 2) ((f * 12) + p)) (fun q0 => by first | omega | exact absurd c2 q0 | exact absurd q0 c2) (fun _ => rfl)
/-! the class alone: 07f over the cells 0..61 -/
section FC3
variable {d : Nat} {M : am_M} {Q : Option Int → am_M → Prop}
theorem fc_levelAt_q {a : Nat} (ha : am_sc_q a) {f p : Int} (hr : am_lvok (M a 0) (M a 1) f p) (h : Q (some (am_lv (M a 0) (M a 1) (M (a + 2)) f p)) M) : AC_q (d + 2) mX3_levelAt [.inr a, .inl f, .inl p] M Q := by
  obtain ⟨h1, h2, h3, h4, h5, h6⟩ := hr
  refine sg_X3_levelAt_q ha ⟨⟨⟨h1, h3⟩, h2, h4⟩, fun c => by omega, fun v q1 q2 => ?_⟩
  have e : v = am_lv (M a 0) (M a 1) (M (a + 2)) f p := by
    unfold am_lv
    split
    · rename_i hc; exact q2 hc
    · rename_i hc; exact q1 hc
  rw [e]; exact h
end FC3
/-! the class alone: 07g over the cells 0..61 -/
theorem sg_X1_pairedScore_q {d : Nat} {M : am_M} {Q : Option Int → am_M → Prop} {i j : Int} (h : (0 ≤ i ∧ i < 6) ∧
 (0 ≤ j ∧ j < 6) ∧
 (am_r ((M 38 i) - (M 39 j))) ∧
 (((am_r (am_abs ((M 38 i) - (M 39 j)))) ∧ (am_r (M 36 6)) ∧ (am_abs ((M 38 i) - (M 39 j)) ≤ M 36 6 → (0 ≤ (((i + 1) * 7) + j) + 1 ∧ (((i + 1) * 7) + j) + 1 < 49)))) ∧
 ∀ (v8 : Int), (am_abs ((M 38 i) - (M 39 j)) ≤ M 36 6 → v8 = (1000 - (am_abs ((M 38 i) - (M 39 j)))) + (M 40 ((((i + 1) * 7) + j) + 1))) →
 (M 36 6 < am_abs ((M 38 i) - (M 39 j)) → v8 = (-1)) →
 Q (some v8) M) : AC_q (d + 1) mX1_pairedScore [.inr 36, .inl i, .inl j] M Q := by
  refine aw_body_q (by decide) (Nat.le_of_ble_eq_true rfl) rfl ?_
  refine aw_aload_n_q dX1_pairedScore_0 rfl (j := 0) rfl ?_
  refine aw_getr_q dX1_pairedScore_1 fl_X1_15 rfl rfl ?_
  refine aw_iload_n_q dX1_pairedScore_4 rfl (j := 1) rfl ?_
  obtain ⟨s1, h⟩ := h
  refine aw_iaload_q dX1_pairedScore_5 rfl s1 ?_
  refine aw_aload_n_q dX1_pairedScore_6 rfl (j := 0) rfl ?_
  refine aw_getr_q dX1_pairedScore_7 fl_X1_18 rfl rfl ?_
  refine aw_iload_n_q dX1_pairedScore_10 rfl (j := 2) rfl ?_
  obtain ⟨s2, h⟩ := h
  refine aw_iaload_q dX1_pairedScore_11 rfl s2 ?_
  refine aw_isub_q dX1_pairedScore_12 ?_
  obtain ⟨s3, h⟩ := h
  refine aw_abs_q dX1_pairedScore_13 cs_X1_74 (Nat.succ_pos _) (Nat.le_of_ble_eq_true rfl) s3 ?_
  refine aw_istore_n_q (L' := [(0, .inr 36), (1, .inl i), (2, .inl j), (3, .inl (am_abs ((M 38 i) - (M 39 j))))]) dX1_pairedScore_16 rfl (Nat.le_of_ble_eq_true rfl) rfl ?_
  refine aw_iload_n_q dX1_pairedScore_17 rfl (j := 3) rfl ?_
  refine aw_aload_n_q dX1_pairedScore_18 rfl (j := 0) rfl ?_
  refine aw_getf_q dX1_pairedScore_19 fl_X1_24 rfl rfl rfl ?_
  obtain ⟨g, h⟩ := h
  have K : ∀ (v8 : Int), (am_abs ((M 38 i) - (M 39 j)) ≤ M 36 6 → v8 = (1000 - (am_abs ((M 38 i) - (M 39 j)))) + (M 40 ((((i + 1) * 7) + j) + 1))) → (M 36 6 < am_abs ((M 38 i) - (M 39 j)) → v8 = (-1)) → AW_q (d + 1) mX1_pairedScore 50 [(0, .inr 36), (1, .inl i), (2, .inl j), (3, .inl (am_abs ((M 38 i) - (M 39 j))))] [.inl v8] M Q := by
    intro v8 q9 q10
    replace h := h v8 q9 q10
    exact aw_iret_q dX1_pairedScore_50 rfl h
  clear h
  obtain ⟨s4, g⟩ := g
  obtain ⟨s5, g⟩ := g
  refine aw_icmp_le_q dX1_pairedScore_22 (tgt := 29) rfl s4 s5 (fun c6 => ?_) (fun c6 => ?_)
  · have c6 : am_abs ((M 38 i) - (M 39 j)) ≤ M 36 6 := c6
    replace g := g c6
    refine aw_sipush_q dX1_pairedScore_29 (by decide) ?_
    refine aw_iload_n_q dX1_pairedScore_32 rfl (j := 3) rfl ?_
    refine aw_isub_q dX1_pairedScore_33 ?_
    refine aw_aload_n_q dX1_pairedScore_34 rfl (j := 0) rfl ?_
    refine aw_getr_q dX1_pairedScore_35 fl_X1_21 rfl rfl ?_
    refine aw_iload_n_q dX1_pairedScore_38 rfl (j := 1) rfl ?_
    refine aw_iconst_q dX1_pairedScore_39 ?_
    refine aw_iadd_q dX1_pairedScore_40 ?_
    refine aw_bipush_q dX1_pairedScore_41 (by decide) ?_
    refine aw_imul_q dX1_pairedScore_43 ?_
    refine aw_iload_n_q dX1_pairedScore_44 rfl (j := 2) rfl ?_
    refine aw_iadd_q dX1_pairedScore_45 ?_
    refine aw_iconst_q dX1_pairedScore_46 ?_
    refine aw_iadd_q dX1_pairedScore_47 ?_
    have s7 := g
    refine aw_iaload_q dX1_pairedScore_48 rfl s7 ?_
    refine aw_iadd_q dX1_pairedScore_49 ?_
    exact K ((1000 - (am_abs ((M 38 i) - (M 39 j)))) + (M 40 ((((i + 1) * 7) + j) + 1))) (fun _ => rfl) (fun q0 => by first | omega | exact absurd c6 q0 | exact absurd q0 c6)
  · have c6 : M 36 6 < am_abs ((M 38 i) - (M 39 j)) := c6
    refine aw_iconst_q dX1_pairedScore_25 ?_
    refine aw_goto_q dX1_pairedScore_26 (tgt := 50) rfl ?_
    exact K (-1) (fun q0 => by first | omega | exact absurd c6 q0 | exact absurd q0 c6) (fun _ => rfl)
theorem sg_X6_kindBy_q {d : Nat} {M : am_M} {Q : Option Int → am_M → Prop} {dp tu mo : Int} (h : (am_r dp) ∧
 ((1 < dp →
 (am_r tu) ∧
 ((tu ≠ 0 →
 (((am_r (2 * tu)) ∧ (am_r mo))) ∧
 ∀ (v8 : Int), (2 * tu < mo → v8 = 3) →
 (mo ≤ 2 * tu → v8 = 2) →
 Q (some v8) M) ∧
 (tu = 0 →
 Q (some 1) M))) ∧
 (dp ≤ 1 →
 Q (some 0) M))) : AC_q (d) mX6_kindBy [.inl dp, .inl tu, .inl mo] M Q := by
  refine aw_body_q (by decide) (Nat.le_of_ble_eq_true rfl) rfl ?_
  refine aw_iload_n_q dX6_kindBy_0 rfl (j := 0) rfl ?_
  refine aw_iconst_q dX6_kindBy_1 ?_
  obtain ⟨s1, h⟩ := h
  refine aw_icmp_gt_q dX6_kindBy_2 (tgt := 7) rfl s1 (by decide) (fun c2 => ?_) (fun c2 => ?_)
  · replace h := h.1 c2
    refine aw_iload_n_q dX6_kindBy_7 rfl (j := 1) rfl ?_
    obtain ⟨s3, h⟩ := h
    refine aw_if_ne_q dX6_kindBy_8 (tgt := 13) rfl s3 (fun c4 => ?_) (fun c4 => ?_)
    · replace h := h.1 c4
      refine aw_iconst_q dX6_kindBy_13 ?_
      refine aw_iload_n_q dX6_kindBy_14 rfl (j := 1) rfl ?_
      refine aw_imul_q dX6_kindBy_15 ?_
      refine aw_iload_n_q dX6_kindBy_16 rfl (j := 2) rfl ?_
      obtain ⟨g, h⟩ := h
      have K : ∀ (v8 : Int), (2 * tu < mo → v8 = 3) → (mo ≤ 2 * tu → v8 = 2) → AW_q (d) mX6_kindBy 25 [(0, .inl dp), (1, .inl tu), (2, .inl mo)] [.inl v8] M Q := by
        intro v8 q9 q10
        replace h := h v8 q9 q10
        exact aw_iret_q dX6_kindBy_25 rfl h
      clear h
      obtain ⟨s5, g⟩ := g
      have s6 := g
      refine aw_icmp_lt_q dX6_kindBy_17 (tgt := 24) rfl s5 s6 (fun c7 => ?_) (fun c7 => ?_)
      · have c7 : 2 * tu < mo := c7
        refine aw_iconst_q dX6_kindBy_24 ?_
        exact K 3 (fun _ => rfl) (fun q0 => by first | omega | exact absurd c7 q0 | exact absurd q0 c7)
      · have c7 : mo ≤ 2 * tu := c7
        refine aw_iconst_q dX6_kindBy_20 ?_
        refine aw_goto_q dX6_kindBy_21 (tgt := 25) rfl ?_
        exact K 2 (fun q0 => by first | omega | exact absurd c7 q0 | exact absurd q0 c7) (fun _ => rfl)
    · replace h := h.2 c4
      refine aw_iconst_q dX6_kindBy_11 ?_
      exact aw_iret_q dX6_kindBy_12 rfl h
  · replace h := h.2 c2
    refine aw_iconst_q dX6_kindBy_5 ?_
    exact aw_iret_q dX6_kindBy_6 rfl h
/-! the class alone: 07h over the cells 0..61 -/
section FC4
variable {d : Nat} {M : am_M} {Q : Option Int → am_M → Prop}
theorem fc_pairedScore_q {i j : Int} (hr : am_psok (M 38) (M 39) (M 36 6) i j) (h : Q (some (am_ps (M 38) (M 39) (M 40) (M 36 6) i j)) M) : AC_q (d + 1) mX1_pairedScore [.inr 36, .inl i, .inl j] M Q := by
  obtain ⟨h1, h2, h3, h4, h5⟩ := hr
  refine sg_X1_pairedScore_q ⟨h1, h2, h3, ⟨h4, h5, fun _ => by omega⟩, fun v q1 q2 => ?_⟩
  have e : v = am_ps (M 38) (M 39) (M 40) (M 36 6) i j := by
    unfold am_ps
    split
    · rename_i hc; exact q2 hc
    · rename_i hc; exact q1 (by omega)
  rw [e]; exact h
theorem fc_kindBy_q {dp tu mo : Int} (hr : am_r dp ∧ am_r tu ∧ am_r (2 * tu) ∧ am_r mo) (h : Q (some (am_kb dp tu mo)) M) : AC_q d mX6_kindBy [.inl dp, .inl tu, .inl mo] M Q := by
  obtain ⟨h1, h2, h3, h4⟩ := hr
  unfold am_kb at h
  refine sg_X6_kindBy_q ⟨h1, fun c => ⟨h2, fun c2 => ⟨⟨h3, h4⟩, fun v q1 q2 => ?_⟩, fun c2 => ?_⟩, fun c => ?_⟩
  · rw [if_neg (by omega), if_neg c2] at h
    have e : v = if mo ≤ 2 * tu then 2 else 3 := by split <;> omega
    rw [e]; exact h
  · rw [if_neg (by omega), if_pos c2] at h; exact h
  · rw [if_pos c] at h; exact h
end FC4
