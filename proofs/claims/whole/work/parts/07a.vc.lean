def am_sc (a : Nat) : Prop := am_sh[a]? = some (.inr (3, [none, none, some (a + 1), some (a + 2)])) ∧ am_sh[a + 1]? = some (.inl (0, 3)) ∧ am_sh[a + 2]? = some (.inl (0, 96))
theorem sg_X3_hasFrame {d : Nat} {M : am_M} {Q : Option Int → am_M → Prop} {a : Nat} (ha : am_sc a) {f : Int} (h : (((am_r f) ∧ (0 ≤ f → (am_r (M a 0))))) ∧
 Q (some (am_b ((0 ≤ f) ∧ (f < M a 0)))) M) : AC (d) mX3_hasFrame [.inr a, .inl f] M Q := by
  refine aw_body (by decide) (Nat.le_of_ble_eq_true rfl) rfl ?_
  refine aw_iload_n dX3_hasFrame_0 rfl (j := 1) rfl ?_
  obtain ⟨g, h⟩ := h
  have K : AW (d) mX3_hasFrame 17 [(0, .inr a), (1, .inl f)] [.inl (am_b ((0 ≤ f) ∧ (f < M a 0)))] M Q := by
    exact aw_bret dX3_hasFrame_17 rfl h
  clear h
  obtain ⟨s1, g⟩ := g
  refine aw_if_lt dX3_hasFrame_1 (tgt := 16) rfl s1 (fun c2 => ?_) (fun c2 => ?_)
  · have c2 : f < 0 := c2
    refine aw_iconst dX3_hasFrame_16 ?_
    have hp : ¬ ((0 ≤ f) ∧ (f < M a 0)) := by first | omega | simp_all
    have K1 := K
    rw [am_b_neg hp] at K1
    exact K1
  · have c2 : 0 ≤ f := c2
    replace g := g c2
    refine aw_iload_n dX3_hasFrame_4 rfl (j := 1) rfl ?_
    refine aw_aload_n dX3_hasFrame_5 rfl (j := 0) rfl ?_
    refine aw_getf dX3_hasFrame_6 fl_X3_21 ha.1 rfl rfl ?_
    have s3 := g
    refine aw_icmp_ge dX3_hasFrame_9 (tgt := 16) rfl s1 s3 (fun c4 => ?_) (fun c4 => ?_)
    · have c4 : M a 0 ≤ f := c4
      refine aw_iconst dX3_hasFrame_16 ?_
      have hp : ¬ ((0 ≤ f) ∧ (f < M a 0)) := by first | omega | simp_all
      have K1 := K
      rw [am_b_neg hp] at K1
      exact K1
    · have c4 : f < M a 0 := c4
      refine aw_iconst dX3_hasFrame_12 ?_
      refine aw_goto dX3_hasFrame_13 (tgt := 17) rfl ?_
      have hp : (0 ≤ f) ∧ (f < M a 0) := by first | omega | simp_all
      have K1 := K
      rw [am_b_pos hp] at K1
      exact K1
theorem sg_X8_at {d : Nat} {M : am_M} {Q : Option Int → am_M → Prop} {k : Int} (h : (((am_r k) ∧ (am_r (M 62 10)) ∧ (k < M 62 10 → ((0 ≤ k ∧ k < 140) ∧ (-128 ≤ M 69 k ∧ M 69 k < 128))))) ∧
 ∀ (v6 : Int), (M 62 10 ≤ k → v6 = (-1)) →
 (k < M 62 10 → v6 = (M 69 k) % 256) →
 Q (some v6) M) : AC (d) mX8_at [.inr 62, .inl k] M Q := by
  refine aw_body (by decide) (Nat.le_of_ble_eq_true rfl) rfl ?_
  refine aw_iload_n dX8_at_0 rfl (j := 1) rfl ?_
  refine aw_aload_n dX8_at_1 rfl (j := 0) rfl ?_
  refine aw_getf dX8_at_2 fl_X8_60 rfl rfl rfl ?_
  obtain ⟨g, h⟩ := h
  have K : ∀ (v6 : Int), (M 62 10 ≤ k → v6 = (-1)) → (k < M 62 10 → v6 = (M 69 k) % 256) → AW (d) mX8_at 22 [(0, .inr 62), (1, .inl k)] [.inl v6] M Q := by
    intro v6 q7 q8
    replace h := h v6 q7 q8
    exact aw_iret dX8_at_22 rfl h
  clear h
  obtain ⟨s1, g⟩ := g
  obtain ⟨s2, g⟩ := g
  refine aw_icmp_ge dX8_at_5 (tgt := 21) rfl s1 s2 (fun c3 => ?_) (fun c3 => ?_)
  · have c3 : M 62 10 ≤ k := c3
    refine aw_iconst dX8_at_21 ?_
    exact K (-1) (fun _ => rfl) (fun q0 => by first | omega | exact absurd c3 q0 | exact absurd q0 c3)
  · have c3 : k < M 62 10 := c3
    replace g := g c3
    refine aw_aload_n dX8_at_8 rfl (j := 0) rfl ?_
    refine aw_getr dX8_at_9 fl_X8_29 rfl rfl ?_
    refine aw_iload_n dX8_at_12 rfl (j := 1) rfl ?_
    obtain ⟨s4, g⟩ := g
    refine aw_baload dX8_at_13 rfl s4 ?_
    refine aw_sipush dX8_at_14 (by decide) ?_
    have s5 := g
    refine aw_iand255 dX8_at_17 s5 ?_
    refine aw_goto dX8_at_18 (tgt := 22) rfl ?_
    exact K ((M 69 k) % 256) (fun q0 => by first | omega | exact absurd c3 q0 | exact absurd q0 c3) (fun _ => rfl)
theorem sg_X8_levelAt {d : Nat} {M : am_M} {Q : Option Int → am_M → Prop} {f p : Int} (h : (am_r p ∧ am_r 0 ∧ am_r ((M 63 1) - 1)) ∧
 ((0 ≤ p ∧ p ≤ (M 63 1) - 1 → (0 ≤ (5 + (12 * f)) + p ∧ (5 + (12 * f)) + p < 101))) ∧
 ∀ (v4 : Int), (¬ (0 ≤ p ∧ p ≤ (M 63 1) - 1) → v4 = 0) →
 (0 ≤ p ∧ p ≤ (M 63 1) - 1 → v4 = M 63 ((5 + (12 * f)) + p)) →
 Q (some v4) M) : AC (d + 1) mX8_levelAt [.inr 62, .inl f, .inl p] M Q := by
  refine aw_body (by decide) (Nat.le_of_ble_eq_true rfl) rfl ?_
  refine aw_iload_n dX8_levelAt_0 rfl (j := 2) rfl ?_
  refine aw_iconst dX8_levelAt_1 ?_
  refine aw_aload_n dX8_levelAt_2 rfl (j := 0) rfl ?_
  refine aw_getr dX8_levelAt_3 fl_X8_7 rfl rfl ?_
  refine aw_iconst dX8_levelAt_6 ?_
  refine aw_iaload dX8_levelAt_7 rfl (by decide) ?_
  refine aw_iconst dX8_levelAt_8 ?_
  refine aw_isub dX8_levelAt_9 ?_
  obtain ⟨s1, h⟩ := h
  refine aw_invs (d' := d) (as := [.inl p, .inl 0, .inl ((M 63 1) - 1)]) (rest := []) dX8_levelAt_10 cs_X8_56 (Nat.lt_succ_self _) rfl rfl (Nat.le_of_ble_eq_true rfl) (fc_in s1 ?_)
  show AW (d + 1) mX8_levelAt 13 [(0, .inr 62), (1, .inl f), (2, .inl p)] [.inl (am_b (0 ≤ p ∧ p ≤ (M 63 1) - 1))] M Q
  obtain ⟨g, h⟩ := h
  have K : ∀ (v4 : Int), (¬ (0 ≤ p ∧ p ≤ (M 63 1) - 1) → v4 = 0) → (0 ≤ p ∧ p ≤ (M 63 1) - 1 → v4 = M 63 ((5 + (12 * f)) + p)) → AW (d + 1) mX8_levelAt 33 [(0, .inr 62), (1, .inl f), (2, .inl p)] [.inl v4] M Q := by
    intro v4 q5 q6
    replace h := h v4 q5 q6
    exact aw_iret dX8_levelAt_33 rfl h
  clear h
  refine aw_ifb_eq dX8_levelAt_13 (tgt := 32) rfl (fun c2 => ?_) (fun c2 => ?_)
  · have c2 : ¬ (0 ≤ p ∧ p ≤ (M 63 1) - 1) := c2
    refine aw_iconst dX8_levelAt_32 ?_
    exact K 0 (fun _ => rfl) (fun q0 => by first | omega | exact absurd c2 q0 | exact absurd q0 c2)
  · have c2 : 0 ≤ p ∧ p ≤ (M 63 1) - 1 := c2
    replace g := g c2
    refine aw_aload_n dX8_levelAt_16 rfl (j := 0) rfl ?_
    refine aw_getr dX8_levelAt_17 fl_X8_7 rfl rfl ?_
    refine aw_iconst dX8_levelAt_20 ?_
    refine aw_bipush dX8_levelAt_21 (by decide) ?_
    refine aw_iload_n dX8_levelAt_23 rfl (j := 1) rfl ?_
    refine aw_imul dX8_levelAt_24 ?_
    refine aw_iadd dX8_levelAt_25 ?_
    refine aw_iload_n dX8_levelAt_26 rfl (j := 2) rfl ?_
    refine aw_iadd dX8_levelAt_27 ?_
    have s3 := g
    refine aw_iaload dX8_levelAt_28 rfl s3 ?_
    refine aw_goto dX8_levelAt_29 (tgt := 33) rfl ?_
    exact K (M 63 ((5 + (12 * f)) + p)) (fun q0 => by first | omega | exact absurd c2 q0 | exact absurd q0 c2) (fun _ => rfl)
theorem sg_X5_kindAt {d : Nat} {M : am_M} {Q : Option Int → am_M → Prop} {k : Int} (h : (am_r k) ∧
 ((k < 0 →
 Q (some 0) M) ∧
 (0 ≤ k →
 (am_r (M 7 0)) ∧
 ((k < M 7 0 →
 (0 ≤ k ∧ k < 140) ∧
 (am_r (M 8 k)) ∧
 ((M 8 k < 97 →
 ((M 8 k < 48 →
 ∀ (v10 : Int), (M 8 k ≠ 59 → v10 = 4) →
 (M 8 k = 59 → v10 = 3) →
 Q (some v10) M) ∧
 (48 ≤ M 8 k →
 ((57 < M 8 k →
 ∀ (v15 : Int), (M 8 k ≠ 59 → v15 = 4) →
 (M 8 k = 59 → v15 = 3) →
 Q (some v15) M) ∧
 (M 8 k ≤ 57 →
 Q (some 2) M))))) ∧
 (97 ≤ M 8 k →
 ((122 < M 8 k →
 ((M 8 k < 48 →
 ∀ (v21 : Int), (M 8 k ≠ 59 → v21 = 4) →
 (M 8 k = 59 → v21 = 3) →
 Q (some v21) M) ∧
 (48 ≤ M 8 k →
 ((57 < M 8 k →
 ∀ (v26 : Int), (M 8 k ≠ 59 → v26 = 4) →
 (M 8 k = 59 → v26 = 3) →
 Q (some v26) M) ∧
 (M 8 k ≤ 57 →
 Q (some 2) M))))) ∧
 (M 8 k ≤ 122 →
 Q (some 1) M))))) ∧
 (M 7 0 ≤ k →
 Q (some 0) M))))) : AC (d) mX5_kindAt [.inr 7, .inl k] M Q := by
  refine aw_body (by decide) (Nat.le_of_ble_eq_true rfl) rfl ?_
  refine aw_iload_n dX5_kindAt_0 rfl (j := 1) rfl ?_
  obtain ⟨s1, h⟩ := h
  refine aw_if_lt dX5_kindAt_1 (tgt := 12) rfl s1 (fun c2 => ?_) (fun c2 => ?_)
  · replace h := h.1 c2
    refine aw_iconst dX5_kindAt_12 ?_
    exact aw_iret dX5_kindAt_13 rfl h
  · replace h := h.2 c2
    refine aw_iload_n dX5_kindAt_4 rfl (j := 1) rfl ?_
    refine aw_aload_n dX5_kindAt_5 rfl (j := 0) rfl ?_
    refine aw_getf dX5_kindAt_6 fl_X5_15 rfl rfl rfl ?_
    obtain ⟨s3, h⟩ := h
    refine aw_icmp_lt dX5_kindAt_9 (tgt := 14) rfl s1 s3 (fun c4 => ?_) (fun c4 => ?_)
    · replace h := h.1 c4
      refine aw_aload_n dX5_kindAt_14 rfl (j := 0) rfl ?_
      refine aw_getr dX5_kindAt_15 fl_X5_9 rfl rfl ?_
      refine aw_iload_n dX5_kindAt_18 rfl (j := 1) rfl ?_
      obtain ⟨s5, h⟩ := h
      refine aw_caload dX5_kindAt_19 rfl s5 ?_
      refine aw_istore_n (L' := [(0, .inr 7), (1, .inl k), (2, .inl (M 8 k))]) dX5_kindAt_20 rfl (Nat.le_of_ble_eq_true rfl) rfl ?_
      refine aw_iload_n dX5_kindAt_21 rfl (j := 2) rfl ?_
      refine aw_bipush dX5_kindAt_22 (by decide) ?_
      obtain ⟨s6, h⟩ := h
      refine aw_icmp_lt dX5_kindAt_24 (tgt := 35) rfl s6 (by decide) (fun c7 => ?_) (fun c7 => ?_)
      · replace h := h.1 c7
        refine aw_iload_n dX5_kindAt_35 rfl (j := 2) rfl ?_
        refine aw_bipush dX5_kindAt_36 (by decide) ?_
        refine aw_icmp_lt dX5_kindAt_38 (tgt := 49) rfl s6 (by decide) (fun c8 => ?_) (fun c8 => ?_)
        · replace h := h.1 c8
          refine aw_iload_n dX5_kindAt_49 rfl (j := 2) rfl ?_
          refine aw_bipush dX5_kindAt_50 (by decide) ?_
          have K : ∀ (v10 : Int), (M 8 k ≠ 59 → v10 = 4) → (M 8 k = 59 → v10 = 3) → AW (d) mX5_kindAt 60 [(0, .inr 7), (1, .inl k), (2, .inl (M 8 k))] [.inl v10] M Q := by
            intro v10 q11 q12
            replace h := h v10 q11 q12
            exact aw_iret dX5_kindAt_60 rfl h
          clear h
          refine aw_icmp_ne dX5_kindAt_52 (tgt := 59) rfl s6 (by decide) (fun c9 => ?_) (fun c9 => ?_)
          · have c9 : M 8 k ≠ 59 := c9
            refine aw_iconst dX5_kindAt_59 ?_
            exact K 4 (fun _ => rfl) (fun q0 => by first | omega | exact absurd c9 q0 | exact absurd q0 c9)
          · have c9 : M 8 k = 59 := c9
            refine aw_iconst dX5_kindAt_55 ?_
            refine aw_goto dX5_kindAt_56 (tgt := 60) rfl ?_
            exact K 3 (fun q0 => by first | omega | exact absurd c9 q0 | exact absurd q0 c9) (fun _ => rfl)
        · replace h := h.2 c8
          refine aw_iload_n dX5_kindAt_41 rfl (j := 2) rfl ?_
          refine aw_bipush dX5_kindAt_42 (by decide) ?_
          refine aw_icmp_gt dX5_kindAt_44 (tgt := 49) rfl s6 (by decide) (fun c13 => ?_) (fun c13 => ?_)
          · replace h := h.1 c13
            refine aw_iload_n dX5_kindAt_49 rfl (j := 2) rfl ?_
            refine aw_bipush dX5_kindAt_50 (by decide) ?_
            have K : ∀ (v15 : Int), (M 8 k ≠ 59 → v15 = 4) → (M 8 k = 59 → v15 = 3) → AW (d) mX5_kindAt 60 [(0, .inr 7), (1, .inl k), (2, .inl (M 8 k))] [.inl v15] M Q := by
              intro v15 q16 q17
              replace h := h v15 q16 q17
              exact aw_iret dX5_kindAt_60 rfl h
            clear h
            refine aw_icmp_ne dX5_kindAt_52 (tgt := 59) rfl s6 (by decide) (fun c14 => ?_) (fun c14 => ?_)
            · have c14 : M 8 k ≠ 59 := c14
              refine aw_iconst dX5_kindAt_59 ?_
              exact K 4 (fun _ => rfl) (fun q0 => by first | omega | exact absurd c14 q0 | exact absurd q0 c14)
            · have c14 : M 8 k = 59 := c14
              refine aw_iconst dX5_kindAt_55 ?_
              refine aw_goto dX5_kindAt_56 (tgt := 60) rfl ?_
              exact K 3 (fun q0 => by first | omega | exact absurd c14 q0 | exact absurd q0 c14) (fun _ => rfl)
          · replace h := h.2 c13
            refine aw_iconst dX5_kindAt_47 ?_
            exact aw_iret dX5_kindAt_48 rfl h
      · replace h := h.2 c7
        refine aw_iload_n dX5_kindAt_27 rfl (j := 2) rfl ?_
        refine aw_bipush dX5_kindAt_28 (by decide) ?_
        refine aw_icmp_gt dX5_kindAt_30 (tgt := 35) rfl s6 (by decide) (fun c18 => ?_) (fun c18 => ?_)
        · replace h := h.1 c18
          refine aw_iload_n dX5_kindAt_35 rfl (j := 2) rfl ?_
          refine aw_bipush dX5_kindAt_36 (by decide) ?_
          refine aw_icmp_lt dX5_kindAt_38 (tgt := 49) rfl s6 (by decide) (fun c19 => ?_) (fun c19 => ?_)
          · replace h := h.1 c19
            refine aw_iload_n dX5_kindAt_49 rfl (j := 2) rfl ?_
            refine aw_bipush dX5_kindAt_50 (by decide) ?_
            have K : ∀ (v21 : Int), (M 8 k ≠ 59 → v21 = 4) → (M 8 k = 59 → v21 = 3) → AW (d) mX5_kindAt 60 [(0, .inr 7), (1, .inl k), (2, .inl (M 8 k))] [.inl v21] M Q := by
              intro v21 q22 q23
              replace h := h v21 q22 q23
              exact aw_iret dX5_kindAt_60 rfl h
            clear h
            refine aw_icmp_ne dX5_kindAt_52 (tgt := 59) rfl s6 (by decide) (fun c20 => ?_) (fun c20 => ?_)
            · have c20 : M 8 k ≠ 59 := c20
              refine aw_iconst dX5_kindAt_59 ?_
              exact K 4 (fun _ => rfl) (fun q0 => by first | omega | exact absurd c20 q0 | exact absurd q0 c20)
            · have c20 : M 8 k = 59 := c20
              refine aw_iconst dX5_kindAt_55 ?_
              refine aw_goto dX5_kindAt_56 (tgt := 60) rfl ?_
              exact K 3 (fun q0 => by first | omega | exact absurd c20 q0 | exact absurd q0 c20) (fun _ => rfl)
          · replace h := h.2 c19
            refine aw_iload_n dX5_kindAt_41 rfl (j := 2) rfl ?_
            refine aw_bipush dX5_kindAt_42 (by decide) ?_
            refine aw_icmp_gt dX5_kindAt_44 (tgt := 49) rfl s6 (by decide) (fun c24 => ?_) (fun c24 => ?_)
            · replace h := h.1 c24
              refine aw_iload_n dX5_kindAt_49 rfl (j := 2) rfl ?_
              refine aw_bipush dX5_kindAt_50 (by decide) ?_
              have K : ∀ (v26 : Int), (M 8 k ≠ 59 → v26 = 4) → (M 8 k = 59 → v26 = 3) → AW (d) mX5_kindAt 60 [(0, .inr 7), (1, .inl k), (2, .inl (M 8 k))] [.inl v26] M Q := by
                intro v26 q27 q28
                replace h := h v26 q27 q28
                exact aw_iret dX5_kindAt_60 rfl h
              clear h
              refine aw_icmp_ne dX5_kindAt_52 (tgt := 59) rfl s6 (by decide) (fun c25 => ?_) (fun c25 => ?_)
              · have c25 : M 8 k ≠ 59 := c25
                refine aw_iconst dX5_kindAt_59 ?_
                exact K 4 (fun _ => rfl) (fun q0 => by first | omega | exact absurd c25 q0 | exact absurd q0 c25)
              · have c25 : M 8 k = 59 := c25
                refine aw_iconst dX5_kindAt_55 ?_
                refine aw_goto dX5_kindAt_56 (tgt := 60) rfl ?_
                exact K 3 (fun q0 => by first | omega | exact absurd c25 q0 | exact absurd q0 c25) (fun _ => rfl)
            · replace h := h.2 c24
              refine aw_iconst dX5_kindAt_47 ?_
              exact aw_iret dX5_kindAt_48 rfl h
        · replace h := h.2 c18
          refine aw_iconst dX5_kindAt_33 ?_
          exact aw_iret dX5_kindAt_34 rfl h
    · replace h := h.2 c4
      refine aw_iconst dX5_kindAt_12 ?_
      exact aw_iret dX5_kindAt_13 rfl h
theorem sg_X6_pitchIn {d : Nat} {M : am_M} {Q : Option Int → am_M → Prop} {n f : Int} (h : (am_r n) ∧
 ((n < 0 →
 Q (some (-9)) M) ∧
 (0 ≤ n →
 (am_r (M 41 0)) ∧
 ((M 41 0 ≤ n →
 Q (some (-9)) M) ∧
 (n < M 41 0 →
 (am_r f) ∧
 ((f < 0 →
 Q (some (-9)) M) ∧
 (0 ≤ f →
 ((f < 8 →
 (0 ≤ (n * 8) + f ∧ (n * 8) + f < 384) ∧
 Q (some (M 48 ((n * 8) + f))) M) ∧
 (8 ≤ f →
 Q (some (-9)) M))))))))) : AC (d) mX6_pitchIn [.inr 41, .inl n, .inl f] M Q := by
  refine aw_body (by decide) (Nat.le_of_ble_eq_true rfl) rfl ?_
  refine aw_iload_n dX6_pitchIn_0 rfl (j := 1) rfl ?_
  obtain ⟨s1, h⟩ := h
  refine aw_if_lt dX6_pitchIn_1 (tgt := 22) rfl s1 (fun c2 => ?_) (fun c2 => ?_)
  · replace h := h.1 c2
    refine aw_bipush dX6_pitchIn_22 (by decide) ?_
    exact aw_iret dX6_pitchIn_24 rfl h
  · replace h := h.2 c2
    refine aw_iload_n dX6_pitchIn_4 rfl (j := 1) rfl ?_
    refine aw_aload_n dX6_pitchIn_5 rfl (j := 0) rfl ?_
    refine aw_getf dX6_pitchIn_6 fl_X6_39 rfl rfl rfl ?_
    obtain ⟨s3, h⟩ := h
    refine aw_icmp_ge dX6_pitchIn_9 (tgt := 22) rfl s1 s3 (fun c4 => ?_) (fun c4 => ?_)
    · replace h := h.1 c4
      refine aw_bipush dX6_pitchIn_22 (by decide) ?_
      exact aw_iret dX6_pitchIn_24 rfl h
    · replace h := h.2 c4
      refine aw_iload_n dX6_pitchIn_12 rfl (j := 2) rfl ?_
      obtain ⟨s5, h⟩ := h
      refine aw_if_lt dX6_pitchIn_13 (tgt := 22) rfl s5 (fun c6 => ?_) (fun c6 => ?_)
      · replace h := h.1 c6
        refine aw_bipush dX6_pitchIn_22 (by decide) ?_
        exact aw_iret dX6_pitchIn_24 rfl h
      · replace h := h.2 c6
        refine aw_iload_n dX6_pitchIn_16 rfl (j := 2) rfl ?_
        refine aw_bipush dX6_pitchIn_17 (by decide) ?_
        refine aw_icmp_lt dX6_pitchIn_19 (tgt := 25) rfl s5 (by decide) (fun c7 => ?_) (fun c7 => ?_)
        · replace h := h.1 c7
          refine aw_aload_n dX6_pitchIn_25 rfl (j := 0) rfl ?_
          refine aw_getr dX6_pitchIn_26 fl_X6_30 rfl rfl ?_
          refine aw_iload_n dX6_pitchIn_29 rfl (j := 1) rfl ?_
          refine aw_bipush dX6_pitchIn_30 (by decide) ?_
          refine aw_imul dX6_pitchIn_32 ?_
          refine aw_iload_n dX6_pitchIn_33 rfl (j := 2) rfl ?_
          refine aw_iadd dX6_pitchIn_34 ?_
          obtain ⟨s8, h⟩ := h
          refine aw_iaload dX6_pitchIn_35 rfl s8 ?_
          exact aw_iret dX6_pitchIn_36 rfl h
        · replace h := h.2 c7
          refine aw_bipush dX6_pitchIn_22 (by decide) ?_
          exact aw_iret dX6_pitchIn_24 rfl h
theorem sg_X7_isSetting {d : Nat} {M : am_M} {Q : Option Int → am_M → Prop} {w n : Int} (h : (((am_r w) ∧ (0 ≤ w → (w < 3 → ((0 ≤ w ∧ w < 3) ∧ (am_r n) ∧ (am_r (am_lo.getD w.toNat 0)) ∧ (am_lo.getD w.toNat 0 ≤ n → (am_r (am_hi.getD w.toNat 0)))))))) ∧
 Q (some (am_b ((0 ≤ w) ∧ (w < 3) ∧ (am_lo.getD w.toNat 0 ≤ n) ∧ (n ≤ am_hi.getD w.toNat 0)))) M) : AC (d) mX7_isSetting [.inl w, .inl n] M Q := by
  refine aw_body (by decide) (Nat.le_of_ble_eq_true rfl) rfl ?_
  refine aw_iload_n dX7_isSetting_0 rfl (j := 0) rfl ?_
  obtain ⟨g, h⟩ := h
  have K : AW (d) mX7_isSetting 32 [(0, .inl w), (1, .inl n)] [.inl (am_b ((0 ≤ w) ∧ (w < 3) ∧ (am_lo.getD w.toNat 0 ≤ n) ∧ (n ≤ am_hi.getD w.toNat 0)))] M Q := by
    exact aw_bret dX7_isSetting_32 rfl h
  clear h
  obtain ⟨s1, g⟩ := g
  refine aw_if_lt dX7_isSetting_1 (tgt := 31) rfl s1 (fun c2 => ?_) (fun c2 => ?_)
  · have c2 : w < 0 := c2
    refine aw_iconst dX7_isSetting_31 ?_
    have hp : ¬ ((0 ≤ w) ∧ (w < 3) ∧ (am_lo.getD w.toNat 0 ≤ n) ∧ (n ≤ am_hi.getD w.toNat 0)) := by first | omega | simp_all
    have K1 := K
    rw [am_b_neg hp] at K1
    exact K1
  · have c2 : 0 ≤ w := c2
    replace g := g c2
    refine aw_iload_n dX7_isSetting_4 rfl (j := 0) rfl ?_
    refine aw_iconst dX7_isSetting_5 ?_
    refine aw_icmp_ge dX7_isSetting_6 (tgt := 31) rfl s1 (by decide) (fun c3 => ?_) (fun c3 => ?_)
    · have c3 : 3 ≤ w := c3
      refine aw_iconst dX7_isSetting_31 ?_
      have hp : ¬ ((0 ≤ w) ∧ (w < 3) ∧ (am_lo.getD w.toNat 0 ≤ n) ∧ (n ≤ am_hi.getD w.toNat 0)) := by first | omega | simp_all
      have K1 := K
      rw [am_b_neg hp] at K1
      exact K1
    · have c3 : w < 3 := c3
      replace g := g c3
      refine aw_iload_n dX7_isSetting_9 rfl (j := 1) rfl ?_
      refine aw_gets100 dX7_isSetting_10 gs_X7_185 ?_
      refine aw_iload_n dX7_isSetting_13 rfl (j := 0) rfl ?_
      obtain ⟨s4, g⟩ := g
      refine aw_iald100 dX7_isSetting_14 s4 ?_
      obtain ⟨s5, g⟩ := g
      obtain ⟨s6, g⟩ := g
      refine aw_icmp_lt dX7_isSetting_15 (tgt := 31) rfl s5 s6 (fun c7 => ?_) (fun c7 => ?_)
      · have c7 : n < am_lo.getD w.toNat 0 := c7
        refine aw_iconst dX7_isSetting_31 ?_
        have hp : ¬ ((0 ≤ w) ∧ (w < 3) ∧ (am_lo.getD w.toNat 0 ≤ n) ∧ (n ≤ am_hi.getD w.toNat 0)) := by first | omega | simp_all
        have K1 := K
        rw [am_b_neg hp] at K1
        exact K1
      · have c7 : am_lo.getD w.toNat 0 ≤ n := c7
        replace g := g c7
        refine aw_iload_n dX7_isSetting_18 rfl (j := 1) rfl ?_
        refine aw_gets101 dX7_isSetting_19 gs_X7_188 ?_
        refine aw_iload_n dX7_isSetting_22 rfl (j := 0) rfl ?_
        refine aw_iald101 dX7_isSetting_23 s4 ?_
        have s8 := g
        refine aw_icmp_gt dX7_isSetting_24 (tgt := 31) rfl s5 s8 (fun c9 => ?_) (fun c9 => ?_)
        · have c9 : am_hi.getD w.toNat 0 < n := c9
          refine aw_iconst dX7_isSetting_31 ?_
          have hp : ¬ ((0 ≤ w) ∧ (w < 3) ∧ (am_lo.getD w.toNat 0 ≤ n) ∧ (n ≤ am_hi.getD w.toNat 0)) := by first | omega | simp_all
          have K1 := K
          rw [am_b_neg hp] at K1
          exact K1
        · have c9 : n ≤ am_hi.getD w.toNat 0 := c9
          refine aw_iconst dX7_isSetting_27 ?_
          refine aw_goto dX7_isSetting_28 (tgt := 32) rfl ?_
          have hp : (0 ≤ w) ∧ (w < 3) ∧ (am_lo.getD w.toNat 0 ≤ n) ∧ (n ≤ am_hi.getD w.toNat 0) := by first | omega | simp_all
          have K1 := K
          rw [am_b_pos hp] at K1
          exact K1
