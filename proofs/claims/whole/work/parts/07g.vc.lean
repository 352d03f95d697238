theorem sg_X8_pairWorth {d : Nat} {M : am_M} {Q : Option Int → am_M → Prop} {f k m re : Int} (h : (am_apok (M 63) (M 71) f k m) ∧
 (((am_r (am_ap (M 63) (M 71) f k m)) ∧ (am_r re) ∧ (am_ap (M 63) (M 71) f k m ≤ re → (0 ≤ 7 * (k + 1) + (m + 1) ∧ 7 * (k + 1) + (m + 1) < 49)))) ∧
 ∀ (v6 : Int), (am_ap (M 63) (M 71) f k m ≤ re → v6 = (1000 - (am_ap (M 63) (M 71) f k m)) + (M 74 (7 * (k + 1) + (m + 1)))) →
 (re < am_ap (M 63) (M 71) f k m → v6 = (-1)) →
 Q (some v6) M) : AC (d + 4) mX8_pairWorth [.inr 62, .inl f, .inl k, .inl m, .inl re] M Q := by
  refine aw_body (by decide) (Nat.le_of_ble_eq_true rfl) rfl ?_
  refine aw_aload_n dX8_pairWorth_0 rfl (j := 0) rfl ?_
  refine aw_iload_n dX8_pairWorth_1 rfl (j := 1) rfl ?_
  refine aw_iload_n dX8_pairWorth_2 rfl (j := 2) rfl ?_
  refine aw_iload_n dX8_pairWorth_3 rfl (j := 3) rfl ?_
  obtain ⟨s1, h⟩ := h
  refine aw_invv (d' := d + 3) (as := [.inl f, .inl k, .inl m]) (rest := []) dX8_pairWorth_4 cv_X8_124 (Nat.lt_succ_self _) rfl rfl rfl rfl rfl (Nat.le_of_ble_eq_true rfl) (fc_apart s1 ?_)
  show AW (d + 4) mX8_pairWorth 7 [(0, .inr 62), (1, .inl f), (2, .inl k), (3, .inl m), (4, .inl re)] [.inl (am_ap (M 63) (M 71) f k m)] M Q
  refine aw_istore (L' := [(0, .inr 62), (1, .inl f), (2, .inl k), (3, .inl m), (4, .inl re), (5, .inl (am_ap (M 63) (M 71) f k m))]) dX8_pairWorth_7 (Nat.le_of_ble_eq_true rfl) rfl ?_
  refine aw_iload dX8_pairWorth_9 (j := 5) rfl ?_
  refine aw_iload dX8_pairWorth_11 (j := 4) rfl ?_
  obtain ⟨g, h⟩ := h
  have K : ∀ (v6 : Int), (am_ap (M 63) (M 71) f k m ≤ re → v6 = (1000 - (am_ap (M 63) (M 71) f k m)) + (M 74 (7 * (k + 1) + (m + 1)))) → (re < am_ap (M 63) (M 71) f k m → v6 = (-1)) → AW (d + 4) mX8_pairWorth 37 [(0, .inr 62), (1, .inl f), (2, .inl k), (3, .inl m), (4, .inl re), (5, .inl (am_ap (M 63) (M 71) f k m))] [.inl v6] M Q := by
    intro v6 q7 q8
    replace h := h v6 q7 q8
    exact aw_iret dX8_pairWorth_37 rfl h
  clear h
  obtain ⟨s2, g⟩ := g
  obtain ⟨s3, g⟩ := g
  refine aw_icmp_le dX8_pairWorth_13 (tgt := 20) rfl s2 s3 (fun c4 => ?_) (fun c4 => ?_)
  · have c4 : am_ap (M 63) (M 71) f k m ≤ re := c4
    replace g := g c4
    refine aw_sipush dX8_pairWorth_20 (by decide) ?_
    refine aw_iload dX8_pairWorth_23 (j := 5) rfl ?_
    refine aw_isub dX8_pairWorth_25 ?_
    refine aw_aload_n dX8_pairWorth_26 rfl (j := 0) rfl ?_
    refine aw_iload_n dX8_pairWorth_27 rfl (j := 2) rfl ?_
    refine aw_iconst dX8_pairWorth_28 ?_
    refine aw_iadd dX8_pairWorth_29 ?_
    refine aw_iload_n dX8_pairWorth_30 rfl (j := 3) rfl ?_
    refine aw_iconst dX8_pairWorth_31 ?_
    refine aw_iadd dX8_pairWorth_32 ?_
    have s5 := g
    refine aw_invv (d' := d + 3) (as := [.inl (k + 1), .inl (m + 1)]) (rest := [.inl (1000 - (am_ap (M 63) (M 71) f k m))]) dX8_pairWorth_33 cv_X8_128 (Nat.lt_succ_self _) rfl rfl rfl rfl rfl (Nat.le_of_ble_eq_true rfl) (fc_worthOf s5 ?_)
    show AW (d + 4) mX8_pairWorth 36 [(0, .inr 62), (1, .inl f), (2, .inl k), (3, .inl m), (4, .inl re), (5, .inl (am_ap (M 63) (M 71) f k m))] [.inl (M 74 (7 * (k + 1) + (m + 1))), .inl (1000 - (am_ap (M 63) (M 71) f k m))] M Q
    refine aw_iadd dX8_pairWorth_36 ?_
    exact K ((1000 - (am_ap (M 63) (M 71) f k m)) + (M 74 (7 * (k + 1) + (m + 1)))) (fun _ => rfl) (fun q0 => by first | omega | exact absurd c4 q0 | exact absurd q0 c4)
  · have c4 : re < am_ap (M 63) (M 71) f k m := c4
    refine aw_iconst dX8_pairWorth_16 ?_
    refine aw_goto dX8_pairWorth_17 (tgt := 37) rfl ?_
    exact K (-1) (fun q0 => by first | omega | exact absurd c4 q0 | exact absurd q0 c4) (fun _ => rfl)
theorem sg_X1_pairedScore {d : Nat} {M : am_M} {Q : Option Int → am_M → Prop} {i j : Int} (h : (0 ≤ i ∧ i < 6) ∧
 (0 ≤ j ∧ j < 6) ∧
 (am_r ((M 38 i) - (M 39 j))) ∧
 (((am_r (am_abs ((M 38 i) - (M 39 j)))) ∧ (am_r (M 36 6)) ∧ (am_abs ((M 38 i) - (M 39 j)) ≤ M 36 6 → (0 ≤ (((i + 1) * 7) + j) + 1 ∧ (((i + 1) * 7) + j) + 1 < 49)))) ∧
 ∀ (v8 : Int), (am_abs ((M 38 i) - (M 39 j)) ≤ M 36 6 → v8 = (1000 - (am_abs ((M 38 i) - (M 39 j)))) + (M 40 ((((i + 1) * 7) + j) + 1))) →
 (M 36 6 < am_abs ((M 38 i) - (M 39 j)) → v8 = (-1)) →
 Q (some v8) M) : AC (d + 1) mX1_pairedScore [.inr 36, .inl i, .inl j] M Q := by
  refine aw_body (by decide) (Nat.le_of_ble_eq_true rfl) rfl ?_
  refine aw_aload_n dX1_pairedScore_0 rfl (j := 0) rfl ?_
  refine aw_getr dX1_pairedScore_1 fl_X1_15 rfl rfl ?_
  refine aw_iload_n dX1_pairedScore_4 rfl (j := 1) rfl ?_
  obtain ⟨s1, h⟩ := h
  refine aw_iaload dX1_pairedScore_5 rfl s1 ?_
  refine aw_aload_n dX1_pairedScore_6 rfl (j := 0) rfl ?_
  refine aw_getr dX1_pairedScore_7 fl_X1_18 rfl rfl ?_
  refine aw_iload_n dX1_pairedScore_10 rfl (j := 2) rfl ?_
  obtain ⟨s2, h⟩ := h
  refine aw_iaload dX1_pairedScore_11 rfl s2 ?_
  refine aw_isub dX1_pairedScore_12 ?_
  obtain ⟨s3, h⟩ := h
  refine aw_abs dX1_pairedScore_13 cs_X1_74 (Nat.succ_pos _) (Nat.le_of_ble_eq_true rfl) s3 ?_
  refine aw_istore_n (L' := [(0, .inr 36), (1, .inl i), (2, .inl j), (3, .inl (am_abs ((M 38 i) - (M 39 j))))]) dX1_pairedScore_16 rfl (Nat.le_of_ble_eq_true rfl) rfl ?_
  refine aw_iload_n dX1_pairedScore_17 rfl (j := 3) rfl ?_
  refine aw_aload_n dX1_pairedScore_18 rfl (j := 0) rfl ?_
  refine aw_getf dX1_pairedScore_19 fl_X1_24 rfl rfl rfl ?_
  obtain ⟨g, h⟩ := h
  have K : ∀ (v8 : Int), (am_abs ((M 38 i) - (M 39 j)) ≤ M 36 6 → v8 = (1000 - (am_abs ((M 38 i) - (M 39 j)))) + (M 40 ((((i + 1) * 7) + j) + 1))) → (M 36 6 < am_abs ((M 38 i) - (M 39 j)) → v8 = (-1)) → AW (d + 1) mX1_pairedScore 50 [(0, .inr 36), (1, .inl i), (2, .inl j), (3, .inl (am_abs ((M 38 i) - (M 39 j))))] [.inl v8] M Q := by
    intro v8 q9 q10
    replace h := h v8 q9 q10
    exact aw_iret dX1_pairedScore_50 rfl h
  clear h
  obtain ⟨s4, g⟩ := g
  obtain ⟨s5, g⟩ := g
  refine aw_icmp_le dX1_pairedScore_22 (tgt := 29) rfl s4 s5 (fun c6 => ?_) (fun c6 => ?_)
  · have c6 : am_abs ((M 38 i) - (M 39 j)) ≤ M 36 6 := c6
    replace g := g c6
    refine aw_sipush dX1_pairedScore_29 (by decide) ?_
    refine aw_iload_n dX1_pairedScore_32 rfl (j := 3) rfl ?_
    refine aw_isub dX1_pairedScore_33 ?_
    refine aw_aload_n dX1_pairedScore_34 rfl (j := 0) rfl ?_
    refine aw_getr dX1_pairedScore_35 fl_X1_21 rfl rfl ?_
    refine aw_iload_n dX1_pairedScore_38 rfl (j := 1) rfl ?_
    refine aw_iconst dX1_pairedScore_39 ?_
    refine aw_iadd dX1_pairedScore_40 ?_
    refine aw_bipush dX1_pairedScore_41 (by decide) ?_
    refine aw_imul dX1_pairedScore_43 ?_
    refine aw_iload_n dX1_pairedScore_44 rfl (j := 2) rfl ?_
    refine aw_iadd dX1_pairedScore_45 ?_
    refine aw_iconst dX1_pairedScore_46 ?_
    refine aw_iadd dX1_pairedScore_47 ?_
    have s7 := g
    refine aw_iaload dX1_pairedScore_48 rfl s7 ?_
    refine aw_iadd dX1_pairedScore_49 ?_
    exact K ((1000 - (am_abs ((M 38 i) - (M 39 j)))) + (M 40 ((((i + 1) * 7) + j) + 1))) (fun _ => rfl) (fun q0 => by first | omega | exact absurd c6 q0 | exact absurd q0 c6)
  · have c6 : M 36 6 < am_abs ((M 38 i) - (M 39 j)) := c6
    refine aw_iconst dX1_pairedScore_25 ?_
    refine aw_goto dX1_pairedScore_26 (tgt := 50) rfl ?_
    exact K (-1) (fun q0 => by first | omega | exact absurd c6 q0 | exact absurd q0 c6) (fun _ => rfl)
theorem sg_X6_kindBy {d : Nat} {M : am_M} {Q : Option Int → am_M → Prop} {dp tu mo : Int} (h : (am_r dp) ∧
 ((1 < dp →
 (am_r tu) ∧
 ((tu ≠ 0 →
 (((am_r (2 * tu)) ∧ (am_r mo))) ∧
 ∀ (v8 : Int), (2 * tu < mo → v8 = 3) →
 (mo ≤ 2 * tu → v8 = 2) →
 Q (some v8) M) ∧
 (tu = 0 →
 Q (some 1) M))) ∧
 (dp ≤ 1 →
 Q (some 0) M))) : AC (d) mX6_kindBy [.inl dp, .inl tu, .inl mo] M Q := by
  refine aw_body (by decide) (Nat.le_of_ble_eq_true rfl) rfl ?_
  refine aw_iload_n dX6_kindBy_0 rfl (j := 0) rfl ?_
  refine aw_iconst dX6_kindBy_1 ?_
  obtain ⟨s1, h⟩ := h
  refine aw_icmp_gt dX6_kindBy_2 (tgt := 7) rfl s1 (by decide) (fun c2 => ?_) (fun c2 => ?_)
  · replace h := h.1 c2
    refine aw_iload_n dX6_kindBy_7 rfl (j := 1) rfl ?_
    obtain ⟨s3, h⟩ := h
    refine aw_if_ne dX6_kindBy_8 (tgt := 13) rfl s3 (fun c4 => ?_) (fun c4 => ?_)
    · replace h := h.1 c4
      refine aw_iconst dX6_kindBy_13 ?_
      refine aw_iload_n dX6_kindBy_14 rfl (j := 1) rfl ?_
      refine aw_imul dX6_kindBy_15 ?_
      refine aw_iload_n dX6_kindBy_16 rfl (j := 2) rfl ?_
      obtain ⟨g, h⟩ := h
      have K : ∀ (v8 : Int), (2 * tu < mo → v8 = 3) → (mo ≤ 2 * tu → v8 = 2) → AW (d) mX6_kindBy 25 [(0, .inl dp), (1, .inl tu), (2, .inl mo)] [.inl v8] M Q := by
        intro v8 q9 q10
        replace h := h v8 q9 q10
        exact aw_iret dX6_kindBy_25 rfl h
      clear h
      obtain ⟨s5, g⟩ := g
      have s6 := g
      refine aw_icmp_lt dX6_kindBy_17 (tgt := 24) rfl s5 s6 (fun c7 => ?_) (fun c7 => ?_)
      · have c7 : 2 * tu < mo := c7
        refine aw_iconst dX6_kindBy_24 ?_
        exact K 3 (fun _ => rfl) (fun q0 => by first | omega | exact absurd c7 q0 | exact absurd q0 c7)
      · have c7 : mo ≤ 2 * tu := c7
        refine aw_iconst dX6_kindBy_20 ?_
        refine aw_goto dX6_kindBy_21 (tgt := 25) rfl ?_
        exact K 2 (fun q0 => by first | omega | exact absurd c7 q0 | exact absurd q0 c7) (fun _ => rfl)
    · replace h := h.2 c4
      refine aw_iconst dX6_kindBy_11 ?_
      exact aw_iret dX6_kindBy_12 rfl h
  · replace h := h.2 c2
    refine aw_iconst dX6_kindBy_5 ?_
    exact aw_iret dX6_kindBy_6 rfl h
theorem sg_X6_worthOf {d : Nat} {M : am_M} {Q : Option Int → am_M → Prop} {n : Int} (h : (0 ≤ n ∧ n < 48) ∧
 Q (some (((M 47 n) * ((M 46 n) + 1)) - (M 44 n))) M) : AC (d) mX6_worthOf [.inr 41, .inl n] M Q := by
  refine aw_body (by decide) (Nat.le_of_ble_eq_true rfl) rfl ?_
  refine aw_aload_n dX6_worthOf_0 rfl (j := 0) rfl ?_
  refine aw_getr dX6_worthOf_1 fl_X6_27 rfl rfl ?_
  refine aw_iload_n dX6_worthOf_4 rfl (j := 1) rfl ?_
  obtain ⟨s1, h⟩ := h
  refine aw_iaload dX6_worthOf_5 rfl s1 ?_
  refine aw_aload_n dX6_worthOf_6 rfl (j := 0) rfl ?_
  refine aw_getr dX6_worthOf_7 fl_X6_24 rfl rfl ?_
  refine aw_iload_n dX6_worthOf_10 rfl (j := 1) rfl ?_
  refine aw_iaload dX6_worthOf_11 rfl s1 ?_
  refine aw_iconst dX6_worthOf_12 ?_
  refine aw_iadd dX6_worthOf_13 ?_
  refine aw_imul dX6_worthOf_14 ?_
  refine aw_aload_n dX6_worthOf_15 rfl (j := 0) rfl ?_
  refine aw_getr dX6_worthOf_16 fl_X6_18 rfl rfl ?_
  refine aw_iload_n dX6_worthOf_19 rfl (j := 1) rfl ?_
  refine aw_iaload dX6_worthOf_20 rfl s1 ?_
  refine aw_isub dX6_worthOf_21 ?_
  exact aw_iret dX6_worthOf_22 rfl h
theorem sg_X7_isKept {d : Nat} {M : am_M} {Q : Option Int → am_M → Prop} {n : Int} (h : (((am_r n) ∧ (0 ≤ n → ((am_r (M 41 0)) ∧ (n < M 41 0 → ((0 ≤ n ∧ n < 48) ∧ (am_r (M 43 n)) ∧ (am_r (M 2 2)))))))) ∧
 Q (some (am_b ((0 ≤ n) ∧ (n < M 41 0) ∧ (M 2 2 ≤ M 43 n)))) M) : AC (d) mX7_isKept [.inr 0, .inl n] M Q := by
  refine aw_body (by decide) (Nat.le_of_ble_eq_true rfl) rfl ?_
  refine aw_iload_n dX7_isKept_0 rfl (j := 1) rfl ?_
  obtain ⟨g, h⟩ := h
  have K : AW (d) mX7_isKept 41 [(0, .inr 0), (1, .inl n)] [.inl (am_b ((0 ≤ n) ∧ (n < M 41 0) ∧ (M 2 2 ≤ M 43 n)))] M Q := by
    exact aw_bret dX7_isKept_41 rfl h
  clear h
  obtain ⟨s1, g⟩ := g
  refine aw_if_lt dX7_isKept_1 (tgt := 40) rfl s1 (fun c2 => ?_) (fun c2 => ?_)
  · have c2 : n < 0 := c2
    refine aw_iconst dX7_isKept_40 ?_
    have hp : ¬ ((0 ≤ n) ∧ (n < M 41 0) ∧ (M 2 2 ≤ M 43 n)) := by first | omega | simp_all
    have K1 := K
    rw [am_b_neg hp] at K1
    exact K1
  · have c2 : 0 ≤ n := c2
    replace g := g c2
    refine aw_iload_n dX7_isKept_4 rfl (j := 1) rfl ?_
    refine aw_aload_n dX7_isKept_5 rfl (j := 0) rfl ?_
    refine aw_getr dX7_isKept_6 fl_X7_58 rfl rfl ?_
    refine aw_getf dX7_isKept_9 fl_X7_156 rfl rfl rfl ?_
    obtain ⟨s3, g⟩ := g
    refine aw_icmp_ge dX7_isKept_12 (tgt := 40) rfl s1 s3 (fun c4 => ?_) (fun c4 => ?_)
    · have c4 : M 41 0 ≤ n := c4
      refine aw_iconst dX7_isKept_40 ?_
      have hp : ¬ ((0 ≤ n) ∧ (n < M 41 0) ∧ (M 2 2 ≤ M 43 n)) := by first | omega | simp_all
      have K1 := K
      rw [am_b_neg hp] at K1
      exact K1
    · have c4 : n < M 41 0 := c4
      replace g := g c4
      refine aw_aload_n dX7_isKept_15 rfl (j := 0) rfl ?_
      refine aw_getr dX7_isKept_16 fl_X7_58 rfl rfl ?_
      refine aw_getr dX7_isKept_19 fl_X7_161 rfl rfl ?_
      refine aw_iload_n dX7_isKept_22 rfl (j := 1) rfl ?_
      obtain ⟨s5, g⟩ := g
      refine aw_iaload dX7_isKept_23 rfl s5 ?_
      refine aw_aload_n dX7_isKept_24 rfl (j := 0) rfl ?_
      refine aw_getr dX7_isKept_25 fl_X7_10 rfl rfl ?_
      refine aw_getr dX7_isKept_28 fl_X7_112 rfl rfl ?_
      refine aw_iconst dX7_isKept_31 ?_
      refine aw_iaload dX7_isKept_32 rfl (by decide) ?_
      obtain ⟨s6, g⟩ := g
      have s7 := g
      refine aw_icmp_lt dX7_isKept_33 (tgt := 40) rfl s6 s7 (fun c8 => ?_) (fun c8 => ?_)
      · have c8 : M 43 n < M 2 2 := c8
        refine aw_iconst dX7_isKept_40 ?_
        have hp : ¬ ((0 ≤ n) ∧ (n < M 41 0) ∧ (M 2 2 ≤ M 43 n)) := by first | omega | simp_all
        have K1 := K
        rw [am_b_neg hp] at K1
        exact K1
      · have c8 : M 2 2 ≤ M 43 n := c8
        refine aw_iconst dX7_isKept_36 ?_
        refine aw_goto dX7_isKept_37 (tgt := 41) rfl ?_
        have hp : (0 ≤ n) ∧ (n < M 41 0) ∧ (M 2 2 ≤ M 43 n) := by first | omega | simp_all
        have K1 := K
        rw [am_b_pos hp] at K1
        exact K1
