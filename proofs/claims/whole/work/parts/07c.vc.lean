theorem sg_X3_hasPlace {d : Nat} {M : am_M} {Q : Option Int → am_M → Prop} {a : Nat} (ha : am_sc a) {f p : Int} (h : (am_r f ∧ am_r (M a 0)) ∧
 ((0 ≤ f ∧ f < M a 0 → ((am_r p) ∧ (0 ≤ p → (am_r (M a 1)))))) ∧
 Q (some (am_b ((0 ≤ f ∧ f < M a 0) ∧ (0 ≤ p) ∧ (p < M a 1)))) M) : AC (d + 1) mX3_hasPlace [.inr a, .inl f, .inl p] M Q := by
  refine aw_body (by decide) (Nat.le_of_ble_eq_true rfl) rfl ?_
  refine aw_aload_n dX3_hasPlace_0 rfl (j := 0) rfl ?_
  refine aw_iload_n dX3_hasPlace_1 rfl (j := 1) rfl ?_
  obtain ⟨s1, h⟩ := h
  refine aw_invv (d' := d) (as := [.inl f]) (rest := []) dX3_hasPlace_2 cv_X3_43 (Nat.lt_succ_self _) ha.1 rfl rfl rfl rfl (Nat.le_of_ble_eq_true rfl) (fc_hasFrame ha s1 ?_)
  show AW (d + 1) mX3_hasPlace 5 [(0, .inr a), (1, .inl f), (2, .inl p)] [.inl (am_b (0 ≤ f ∧ f < M a 0))] M Q
  obtain ⟨g, h⟩ := h
  have K : AW (d + 1) mX3_hasPlace 25 [(0, .inr a), (1, .inl f), (2, .inl p)] [.inl (am_b ((0 ≤ f ∧ f < M a 0) ∧ (0 ≤ p) ∧ (p < M a 1)))] M Q := by
    exact aw_bret dX3_hasPlace_25 rfl h
  clear h
  refine aw_ifb_eq dX3_hasPlace_5 (tgt := 24) rfl (fun c2 => ?_) (fun c2 => ?_)
  · have c2 : ¬ (0 ≤ f ∧ f < M a 0) := c2
    refine aw_iconst dX3_hasPlace_24 ?_
    have hp : ¬ ((0 ≤ f ∧ f < M a 0) ∧ (0 ≤ p) ∧ (p < M a 1)) := by first | omega | simp_all
    have K1 := K
    rw [am_b_neg hp] at K1
    exact K1
  · have c2 : 0 ≤ f ∧ f < M a 0 := c2
    replace g := g c2
    refine aw_iload_n dX3_hasPlace_8 rfl (j := 2) rfl ?_
    obtain ⟨s3, g⟩ := g
    refine aw_if_lt dX3_hasPlace_9 (tgt := 24) rfl s3 (fun c4 => ?_) (fun c4 => ?_)
    · have c4 : p < 0 := c4
      refine aw_iconst dX3_hasPlace_24 ?_
      have hp : ¬ ((0 ≤ f ∧ f < M a 0) ∧ (0 ≤ p) ∧ (p < M a 1)) := by first | omega | simp_all
      have K1 := K
      rw [am_b_neg hp] at K1
      exact K1
    · have c4 : 0 ≤ p := c4
      replace g := g c4
      refine aw_iload_n dX3_hasPlace_12 rfl (j := 2) rfl ?_
      refine aw_aload_n dX3_hasPlace_13 rfl (j := 0) rfl ?_
      refine aw_getf dX3_hasPlace_14 fl_X3_25 ha.1 rfl rfl ?_
      have s5 := g
      refine aw_icmp_ge dX3_hasPlace_17 (tgt := 24) rfl s3 s5 (fun c6 => ?_) (fun c6 => ?_)
      · have c6 : M a 1 ≤ p := c6
        refine aw_iconst dX3_hasPlace_24 ?_
        have hp : ¬ ((0 ≤ f ∧ f < M a 0) ∧ (0 ≤ p) ∧ (p < M a 1)) := by first | omega | simp_all
        have K1 := K
        rw [am_b_neg hp] at K1
        exact K1
      · have c6 : p < M a 1 := c6
        refine aw_iconst dX3_hasPlace_20 ?_
        refine aw_goto dX3_hasPlace_21 (tgt := 25) rfl ?_
        have hp : (0 ≤ f ∧ f < M a 0) ∧ (0 ≤ p) ∧ (p < M a 1) := by first | omega | simp_all
        have K1 := K
        rw [am_b_pos hp] at K1
        exact K1
theorem sg_X5_figureAt {d : Nat} {M : am_M} {Q : Option Int → am_M → Prop} {k : Int} (h : (am_kdok (M 7 0) (M 8) k) ∧
 (((am_r (am_kd (M 7 0) (M 8) k)) ∧ (am_kd (M 7 0) (M 8) k = 2 → (0 ≤ k ∧ k < 140)))) ∧
 ∀ (v5 : Int), (am_kd (M 7 0) (M 8) k ≠ 2 → v5 = 0) →
 (am_kd (M 7 0) (M 8) k = 2 → v5 = (M 8 k) - 48) →
 Q (some v5) M) : AC (d + 1) mX5_figureAt [.inr 7, .inl k] M Q := by
  refine aw_body (by decide) (Nat.le_of_ble_eq_true rfl) rfl ?_
  refine aw_aload_n dX5_figureAt_0 rfl (j := 0) rfl ?_
  refine aw_iload_n dX5_figureAt_1 rfl (j := 1) rfl ?_
  obtain ⟨s1, h⟩ := h
  refine aw_invv (d' := d) (as := [.inl k]) (rest := []) dX5_figureAt_2 cv_X5_85 (Nat.lt_succ_self _) rfl rfl rfl rfl rfl (Nat.le_of_ble_eq_true rfl) (fc_kindAt s1 ?_)
  show AW (d + 1) mX5_figureAt 5 [(0, .inr 7), (1, .inl k)] [.inl (am_kd (M 7 0) (M 8) k)] M Q
  refine aw_iconst dX5_figureAt_5 ?_
  obtain ⟨g, h⟩ := h
  have K : ∀ (v5 : Int), (am_kd (M 7 0) (M 8) k ≠ 2 → v5 = 0) → (am_kd (M 7 0) (M 8) k = 2 → v5 = (M 8 k) - 48) → AW (d + 1) mX5_figureAt 22 [(0, .inr 7), (1, .inl k)] [.inl v5] M Q := by
    intro v5 q6 q7
    replace h := h v5 q6 q7
    exact aw_iret dX5_figureAt_22 rfl h
  clear h
  obtain ⟨s2, g⟩ := g
  refine aw_icmp_ne dX5_figureAt_6 (tgt := 21) rfl s2 (by decide) (fun c3 => ?_) (fun c3 => ?_)
  · have c3 : am_kd (M 7 0) (M 8) k ≠ 2 := c3
    refine aw_iconst dX5_figureAt_21 ?_
    exact K 0 (fun _ => rfl) (fun q0 => by first | omega | exact absurd c3 q0 | exact absurd q0 c3)
  · have c3 : am_kd (M 7 0) (M 8) k = 2 := c3
    replace g := g c3
    refine aw_aload_n dX5_figureAt_9 rfl (j := 0) rfl ?_
    refine aw_getr dX5_figureAt_10 fl_X5_9 rfl rfl ?_
    refine aw_iload_n dX5_figureAt_13 rfl (j := 1) rfl ?_
    have s4 := g
    refine aw_caload dX5_figureAt_14 rfl s4 ?_
    refine aw_bipush dX5_figureAt_15 (by decide) ?_
    refine aw_isub dX5_figureAt_17 ?_
    refine aw_goto dX5_figureAt_18 (tgt := 22) rfl ?_
    exact K ((M 8 k) - 48) (fun q0 => by first | omega | exact absurd c3 q0 | exact absurd q0 c3) (fun _ => rfl)
theorem sg_X8_isPlace {d : Nat} {M : am_M} {Q : Option Int → am_M → Prop} {f p : Int} (h : (am_r f ∧ am_r 0 ∧ am_r ((M 63 0) - 1)) ∧
 ((0 ≤ f ∧ f ≤ (M 63 0) - 1 → (am_r p ∧ am_r 0 ∧ am_r ((M 63 1) - 1)))) ∧
 Q (some (am_b ((0 ≤ f ∧ f ≤ (M 63 0) - 1) ∧ (0 ≤ p ∧ p ≤ (M 63 1) - 1)))) M) : AC (d + 1) mX8_isPlace [.inr 62, .inl f, .inl p] M Q := by
  refine aw_body (by decide) (Nat.le_of_ble_eq_true rfl) rfl ?_
  refine aw_iload_n dX8_isPlace_0 rfl (j := 1) rfl ?_
  refine aw_iconst dX8_isPlace_1 ?_
  refine aw_aload_n dX8_isPlace_2 rfl (j := 0) rfl ?_
  refine aw_getr dX8_isPlace_3 fl_X8_7 rfl rfl ?_
  refine aw_iconst dX8_isPlace_6 ?_
  refine aw_iaload dX8_isPlace_7 rfl (by decide) ?_
  refine aw_iconst dX8_isPlace_8 ?_
  refine aw_isub dX8_isPlace_9 ?_
  obtain ⟨s1, h⟩ := h
  refine aw_invs (d' := d) (as := [.inl f, .inl 0, .inl ((M 63 0) - 1)]) (rest := []) dX8_isPlace_10 cs_X8_56 (Nat.lt_succ_self _) rfl rfl (Nat.le_of_ble_eq_true rfl) (fc_in s1 ?_)
  show AW (d + 1) mX8_isPlace 13 [(0, .inr 62), (1, .inl f), (2, .inl p)] [.inl (am_b (0 ≤ f ∧ f ≤ (M 63 0) - 1))] M Q
  obtain ⟨g, h⟩ := h
  have K : AW (d + 1) mX8_isPlace 37 [(0, .inr 62), (1, .inl f), (2, .inl p)] [.inl (am_b ((0 ≤ f ∧ f ≤ (M 63 0) - 1) ∧ (0 ≤ p ∧ p ≤ (M 63 1) - 1)))] M Q := by
    exact aw_bret dX8_isPlace_37 rfl h
  clear h
  refine aw_ifb_eq dX8_isPlace_13 (tgt := 36) rfl (fun c2 => ?_) (fun c2 => ?_)
  · have c2 : ¬ (0 ≤ f ∧ f ≤ (M 63 0) - 1) := c2
    refine aw_iconst dX8_isPlace_36 ?_
    have hp : ¬ ((0 ≤ f ∧ f ≤ (M 63 0) - 1) ∧ (0 ≤ p ∧ p ≤ (M 63 1) - 1)) := by first | omega | simp_all
    have K1 := K
    rw [am_b_neg hp] at K1
    exact K1
  · have c2 : 0 ≤ f ∧ f ≤ (M 63 0) - 1 := c2
    replace g := g c2
    refine aw_iload_n dX8_isPlace_16 rfl (j := 2) rfl ?_
    refine aw_iconst dX8_isPlace_17 ?_
    refine aw_aload_n dX8_isPlace_18 rfl (j := 0) rfl ?_
    refine aw_getr dX8_isPlace_19 fl_X8_7 rfl rfl ?_
    refine aw_iconst dX8_isPlace_22 ?_
    refine aw_iaload dX8_isPlace_23 rfl (by decide) ?_
    refine aw_iconst dX8_isPlace_24 ?_
    refine aw_isub dX8_isPlace_25 ?_
    have s3 := g
    refine aw_invs (d' := d) (as := [.inl p, .inl 0, .inl ((M 63 1) - 1)]) (rest := []) dX8_isPlace_26 cs_X8_56 (Nat.lt_succ_self _) rfl rfl (Nat.le_of_ble_eq_true rfl) (fc_in s3 ?_)
    show AW (d + 1) mX8_isPlace 29 [(0, .inr 62), (1, .inl f), (2, .inl p)] [.inl (am_b (0 ≤ p ∧ p ≤ (M 63 1) - 1))] M Q
    refine aw_ifb_eq dX8_isPlace_29 (tgt := 36) rfl (fun c4 => ?_) (fun c4 => ?_)
    · have c4 : ¬ (0 ≤ p ∧ p ≤ (M 63 1) - 1) := c4
      refine aw_iconst dX8_isPlace_36 ?_
      have hp : ¬ ((0 ≤ f ∧ f ≤ (M 63 0) - 1) ∧ (0 ≤ p ∧ p ≤ (M 63 1) - 1)) := by first | omega | simp_all
      have K1 := K
      rw [am_b_neg hp] at K1
      exact K1
    · have c4 : 0 ≤ p ∧ p ≤ (M 63 1) - 1 := c4
      refine aw_iconst dX8_isPlace_32 ?_
      refine aw_goto dX8_isPlace_33 (tgt := 37) rfl ?_
      have hp : (0 ≤ f ∧ f ≤ (M 63 0) - 1) ∧ (0 ≤ p ∧ p ≤ (M 63 1) - 1) := by first | omega | simp_all
      have K1 := K
      rw [am_b_pos hp] at K1
      exact K1
theorem sg_X8_loudOf {d : Nat} {M : am_M} {Q : Option Int → am_M → Prop} {f k : Int} (h : (0 ≤ (6 * f) + k ∧ (6 * f) + k < 48) ∧
 (am_mlok (M 63) f (M 71 ((6 * f) + k))) ∧
 Q (some (am_ml (M 63) f (M 71 ((6 * f) + k)))) M) : AC (d + 2) mX8_loudOf [.inr 62, .inl f, .inl k] M Q := by
  refine aw_body (by decide) (Nat.le_of_ble_eq_true rfl) rfl ?_
  refine aw_aload_n dX8_loudOf_0 rfl (j := 0) rfl ?_
  refine aw_iload_n dX8_loudOf_1 rfl (j := 1) rfl ?_
  refine aw_aload_n dX8_loudOf_2 rfl (j := 0) rfl ?_
  refine aw_getr dX8_loudOf_3 fl_X8_36 rfl rfl ?_
  refine aw_bipush dX8_loudOf_6 (by decide) ?_
  refine aw_iload_n dX8_loudOf_8 rfl (j := 1) rfl ?_
  refine aw_imul dX8_loudOf_9 ?_
  refine aw_iload_n dX8_loudOf_10 rfl (j := 2) rfl ?_
  refine aw_iadd dX8_loudOf_11 ?_
  obtain ⟨s1, h⟩ := h
  refine aw_iaload dX8_loudOf_12 rfl s1 ?_
  obtain ⟨s2, h⟩ := h
  refine aw_invv (d' := d + 1) (as := [.inl f, .inl (M 71 ((6 * f) + k))]) (rest := []) dX8_loudOf_13 cv_X8_118 (Nat.lt_succ_self _) rfl rfl rfl rfl rfl (Nat.le_of_ble_eq_true rfl) (fc_mlevelAt s2 ?_)
  show AW (d + 2) mX8_loudOf 16 [(0, .inr 62), (1, .inl f), (2, .inl k)] [.inl (am_ml (M 63) f (M 71 ((6 * f) + k)))] M Q
  exact aw_iret dX8_loudOf_16 rfl h
theorem sg_X8_pitchOf {d : Nat} {M : am_M} {Q : Option Int → am_M → Prop} {f k : Int} (h : (0 ≤ (6 * f) + k ∧ (6 * f) + k < 48) ∧
 (am_mlok (M 63) f ((M 71 ((6 * f) + k)) - 1)) ∧
 (am_mlok (M 63) f ((M 71 ((6 * f) + k)) + 1)) ∧
 (((am_r (am_ml (M 63) f ((M 71 ((6 * f) + k)) + 1))) ∧ (am_r (am_ml (M 63) f ((M 71 ((6 * f) + k)) - 1))))) ∧
 ∀ (v8 : Int), (am_ml (M 63) f ((M 71 ((6 * f) + k)) + 1) ≤ am_ml (M 63) f ((M 71 ((6 * f) + k)) - 1) → am_ml (M 63) f ((M 71 ((6 * f) + k)) - 1) ≤ am_ml (M 63) f ((M 71 ((6 * f) + k)) + 1) → v8 = 0) →
 (am_ml (M 63) f ((M 71 ((6 * f) + k)) + 1) ≤ am_ml (M 63) f ((M 71 ((6 * f) + k)) - 1) → am_ml (M 63) f ((M 71 ((6 * f) + k)) + 1) < am_ml (M 63) f ((M 71 ((6 * f) + k)) - 1) → v8 = (-1)) →
 (am_ml (M 63) f ((M 71 ((6 * f) + k)) - 1) < am_ml (M 63) f ((M 71 ((6 * f) + k)) + 1) → v8 = 1) →
 Q (some ((4 * (M 71 ((6 * f) + k))) + v8)) M) : AC (d + 2) mX8_pitchOf [.inr 62, .inl f, .inl k] M Q := by
  refine aw_body (by decide) (Nat.le_of_ble_eq_true rfl) rfl ?_
  refine aw_aload_n dX8_pitchOf_0 rfl (j := 0) rfl ?_
  refine aw_getr dX8_pitchOf_1 fl_X8_36 rfl rfl ?_
  refine aw_bipush dX8_pitchOf_4 (by decide) ?_
  refine aw_iload_n dX8_pitchOf_6 rfl (j := 1) rfl ?_
  refine aw_imul dX8_pitchOf_7 ?_
  refine aw_iload_n dX8_pitchOf_8 rfl (j := 2) rfl ?_
  refine aw_iadd dX8_pitchOf_9 ?_
  obtain ⟨s1, h⟩ := h
  refine aw_iaload dX8_pitchOf_10 rfl s1 ?_
  refine aw_istore_n (L' := [(0, .inr 62), (1, .inl f), (2, .inl k), (3, .inl (M 71 ((6 * f) + k)))]) dX8_pitchOf_11 rfl (Nat.le_of_ble_eq_true rfl) rfl ?_
  refine aw_aload_n dX8_pitchOf_12 rfl (j := 0) rfl ?_
  refine aw_iload_n dX8_pitchOf_13 rfl (j := 1) rfl ?_
  refine aw_iload_n dX8_pitchOf_14 rfl (j := 3) rfl ?_
  refine aw_iconst dX8_pitchOf_15 ?_
  refine aw_isub dX8_pitchOf_16 ?_
  obtain ⟨s2, h⟩ := h
  refine aw_invv (d' := d + 1) (as := [.inl f, .inl ((M 71 ((6 * f) + k)) - 1)]) (rest := []) dX8_pitchOf_17 cv_X8_118 (Nat.lt_succ_self _) rfl rfl rfl rfl rfl (Nat.le_of_ble_eq_true rfl) (fc_mlevelAt s2 ?_)
  show AW (d + 2) mX8_pitchOf 20 [(0, .inr 62), (1, .inl f), (2, .inl k), (3, .inl (M 71 ((6 * f) + k)))] [.inl (am_ml (M 63) f ((M 71 ((6 * f) + k)) - 1))] M Q
  refine aw_istore (L' := [(0, .inr 62), (1, .inl f), (2, .inl k), (3, .inl (M 71 ((6 * f) + k))), (4, .inl (am_ml (M 63) f ((M 71 ((6 * f) + k)) - 1)))]) dX8_pitchOf_20 (Nat.le_of_ble_eq_true rfl) rfl ?_
  refine aw_aload_n dX8_pitchOf_22 rfl (j := 0) rfl ?_
  refine aw_iload_n dX8_pitchOf_23 rfl (j := 1) rfl ?_
  refine aw_iload_n dX8_pitchOf_24 rfl (j := 3) rfl ?_
  refine aw_iconst dX8_pitchOf_25 ?_
  refine aw_iadd dX8_pitchOf_26 ?_
  obtain ⟨s3, h⟩ := h
  refine aw_invv (d' := d + 1) (as := [.inl f, .inl ((M 71 ((6 * f) + k)) + 1)]) (rest := []) dX8_pitchOf_27 cv_X8_118 (Nat.lt_succ_self _) rfl rfl rfl rfl rfl (Nat.le_of_ble_eq_true rfl) (fc_mlevelAt s3 ?_)
  show AW (d + 2) mX8_pitchOf 30 [(0, .inr 62), (1, .inl f), (2, .inl k), (3, .inl (M 71 ((6 * f) + k))), (4, .inl (am_ml (M 63) f ((M 71 ((6 * f) + k)) - 1)))] [.inl (am_ml (M 63) f ((M 71 ((6 * f) + k)) + 1))] M Q
  refine aw_istore (L' := [(0, .inr 62), (1, .inl f), (2, .inl k), (3, .inl (M 71 ((6 * f) + k))), (4, .inl (am_ml (M 63) f ((M 71 ((6 * f) + k)) - 1))), (5, .inl (am_ml (M 63) f ((M 71 ((6 * f) + k)) + 1)))]) dX8_pitchOf_30 (Nat.le_of_ble_eq_true rfl) rfl ?_
  refine aw_iconst dX8_pitchOf_32 ?_
  refine aw_iload_n dX8_pitchOf_33 rfl (j := 3) rfl ?_
  refine aw_imul dX8_pitchOf_34 ?_
  refine aw_iload dX8_pitchOf_35 (j := 5) rfl ?_
  refine aw_iload dX8_pitchOf_37 (j := 4) rfl ?_
  obtain ⟨g, h⟩ := h
  have K : ∀ (v8 : Int), (am_ml (M 63) f ((M 71 ((6 * f) + k)) + 1) ≤ am_ml (M 63) f ((M 71 ((6 * f) + k)) - 1) → am_ml (M 63) f ((M 71 ((6 * f) + k)) - 1) ≤ am_ml (M 63) f ((M 71 ((6 * f) + k)) + 1) → v8 = 0) → (am_ml (M 63) f ((M 71 ((6 * f) + k)) + 1) ≤ am_ml (M 63) f ((M 71 ((6 * f) + k)) - 1) → am_ml (M 63) f ((M 71 ((6 * f) + k)) + 1) < am_ml (M 63) f ((M 71 ((6 * f) + k)) - 1) → v8 = (-1)) → (am_ml (M 63) f ((M 71 ((6 * f) + k)) - 1) < am_ml (M 63) f ((M 71 ((6 * f) + k)) + 1) → v8 = 1) → AW (d + 2) mX8_pitchOf 58 [(0, .inr 62), (1, .inl f), (2, .inl k), (3, .inl (M 71 ((6 * f) + k))), (4, .inl (am_ml (M 63) f ((M 71 ((6 * f) + k)) - 1))), (5, .inl (am_ml (M 63) f ((M 71 ((6 * f) + k)) + 1)))] [.inl v8, .inl (4 * (M 71 ((6 * f) + k)))] M Q := by
    intro v8 q9 q10 q11
    replace h := h v8 q9 q10 q11
    refine aw_iadd dX8_pitchOf_58 ?_
    exact aw_iret dX8_pitchOf_59 rfl h
  clear h
  obtain ⟨s4, g⟩ := g
  have s5 := g
  refine aw_icmp_le dX8_pitchOf_39 (tgt := 46) rfl s4 s5 (fun c6 => ?_) (fun c6 => ?_)
  · have c6 : am_ml (M 63) f ((M 71 ((6 * f) + k)) + 1) ≤ am_ml (M 63) f ((M 71 ((6 * f) + k)) - 1) := c6
    refine aw_iload dX8_pitchOf_46 (j := 5) rfl ?_
    refine aw_iload dX8_pitchOf_48 (j := 4) rfl ?_
    refine aw_icmp_ge dX8_pitchOf_50 (tgt := 57) rfl s4 s5 (fun c7 => ?_) (fun c7 => ?_)
    · have c7 : am_ml (M 63) f ((M 71 ((6 * f) + k)) - 1) ≤ am_ml (M 63) f ((M 71 ((6 * f) + k)) + 1) := c7
      refine aw_iconst dX8_pitchOf_57 ?_
      exact K 0 (fun _ _ => rfl) (fun q0 q1 => by first | omega | exact absurd c7 q1 | exact absurd q1 c7) (fun q0 => by first | omega | exact absurd c6 q0 | exact absurd q0 c6)
    · have c7 : am_ml (M 63) f ((M 71 ((6 * f) + k)) + 1) < am_ml (M 63) f ((M 71 ((6 * f) + k)) - 1) := c7
      refine aw_iconst dX8_pitchOf_53 ?_
      refine aw_goto dX8_pitchOf_54 (tgt := 58) rfl ?_
      exact K (-1) (fun q0 q1 => by first | omega | exact absurd c7 q1 | exact absurd q1 c7) (fun _ _ => rfl) (fun q0 => by first | omega | exact absurd c6 q0 | exact absurd q0 c6)
  · have c6 : am_ml (M 63) f ((M 71 ((6 * f) + k)) - 1) < am_ml (M 63) f ((M 71 ((6 * f) + k)) + 1) := c6
    refine aw_iconst dX8_pitchOf_42 ?_
    refine aw_goto dX8_pitchOf_43 (tgt := 58) rfl ?_
    exact K 1 (fun q0 q1 => by first | omega | exact absurd c6 q0 | exact absurd q0 c6) (fun q0 q1 => by first | omega | exact absurd c6 q0 | exact absurd q0 c6) (fun _ => rfl)
