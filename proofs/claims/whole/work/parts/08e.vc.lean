theorem sg_X8_plain {d : Nat} {M : am_M} {Q : Option Int → am_M → Prop} {a : Nat} (ha : am_sh[a]? = some (.inl (0, 101))) (h : AW (d) mX8_plain 2 [(0, .inr a), (1, .inl 0)] [] M Q) : AC (d) mX8_plain [.inr a] M Q := by
  refine aw_body (by decide) (Nat.le_of_ble_eq_true rfl) rfl ?_
  refine aw_iconst dX8_plain_0 ?_
  refine aw_istore_n (L' := [(0, .inr a), (1, .inl 0)]) dX8_plain_1 rfl (Nat.le_of_ble_eq_true rfl) rfl ?_
  exact h
theorem sg_X8_plain_2 {d : Nat} {M : am_M} {Q : Option Int → am_M → Prop} {a : Nat} (ha : am_sh[a]? = some (.inl (0, 101))) {k : Int} (h : (am_r k) ∧
 ((101 ≤ k →
 Q none (am_up (am_up (am_up M a 2 1) a 3 4) a 4 1)) ∧
 (k < 101 →
 (0 ≤ k ∧ k < 101) ∧
 AW (d) mX8_plain 2 [(0, .inr a), (1, .inl (k + 1))] [] (am_up M a k 0) Q))) : AW (d) mX8_plain 2 [(0, .inr a), (1, .inl k)] [] M Q := by
  refine aw_iload_n dX8_plain_2 rfl (j := 1) rfl ?_
  refine aw_bipush dX8_plain_3 (by decide) ?_
  obtain ⟨s1, h⟩ := h
  refine aw_icmp_ge dX8_plain_5 (tgt := 18) rfl s1 (by decide) (fun c2 => ?_) (fun c2 => ?_)
  · replace h := h.1 c2
    refine aw_aload_n dX8_plain_18 rfl (j := 0) rfl ?_
    refine aw_iconst dX8_plain_19 ?_
    refine aw_iconst dX8_plain_20 ?_
    refine aw_iastore dX8_plain_21 ha (by decide) ?_
    refine aw_aload_n dX8_plain_22 rfl (j := 0) rfl ?_
    refine aw_iconst dX8_plain_23 ?_
    refine aw_iconst dX8_plain_24 ?_
    refine aw_iastore dX8_plain_25 ha (by decide) ?_
    refine aw_aload_n dX8_plain_26 rfl (j := 0) rfl ?_
    refine aw_iconst dX8_plain_27 ?_
    refine aw_iconst dX8_plain_28 ?_
    refine aw_iastore dX8_plain_29 ha (by decide) ?_
    exact aw_vret dX8_plain_30 rfl h
  · replace h := h.2 c2
    refine aw_aload_n dX8_plain_8 rfl (j := 0) rfl ?_
    refine aw_iload_n dX8_plain_9 rfl (j := 1) rfl ?_
    refine aw_iconst dX8_plain_10 ?_
    obtain ⟨s3, h⟩ := h
    refine aw_iastore dX8_plain_11 ha s3 ?_
    refine aw_iinc (L' := [(0, .inr a), (1, .inl (k + 1))]) dX8_plain_12 (j := 1) rfl (Nat.le_of_ble_eq_true rfl) rfl ?_
    refine aw_goto dX8_plain_15 (tgt := 2) rfl ?_
    exact h
theorem sg_X8_type {d : Nat} {M : am_M} {Q : Option Int → am_M → Prop} {c : Int} (h : (am_r c ∧ am_r 0 ∧ am_r 255) ∧
 ((0 ≤ c ∧ c ≤ 255 →
 (am_r (M 62 10)) ∧
 ((M 62 10 ≠ 140 →
 (0 ≤ c ∧ c < 256) ∧
 (0 ≤ M 62 10 ∧ M 62 10 < 140) ∧
 (-128 ≤ (if c < 128 then c else c - 256) ∧ (if c < 128 then c else c - 256) < 128) ∧
 Q (some ((M 62 10) + 1)) (am_up (am_up (am_up M 62 0 0) 69 (M 62 10) (if c < 128 then c else c - 256)) 62 10 ((M 62 10) + 1))) ∧
 (M 62 10 = 140 →
 Q (some (-3)) (am_up M 62 0 0)))) ∧
 (¬ (0 ≤ c ∧ c ≤ 255) →
 Q (some (-1)) (am_up M 62 0 0)))) : AC (d + 1) mX8_type [.inr 62, .inl c] M Q := by
  refine aw_body (by decide) (Nat.le_of_ble_eq_true rfl) rfl ?_
  refine aw_aload_n dX8_type_0 rfl (j := 0) rfl ?_
  refine aw_iconst dX8_type_1 ?_
  refine aw_putf dX8_type_2 pf_X8_52 rfl rfl rfl ?_
  refine aw_iload_n dX8_type_5 rfl (j := 1) rfl ?_
  refine aw_iconst dX8_type_6 ?_
  refine aw_sipush dX8_type_7 (by decide) ?_
  obtain ⟨s1, h⟩ := h
  refine aw_invs (d' := d) (as := [.inl c, .inl 0, .inl 255]) (rest := []) dX8_type_10 cs_X8_56 (Nat.lt_succ_self _) rfl rfl (Nat.le_of_ble_eq_true rfl) (fc_in s1 ?_)
  show AW (d + 1) mX8_type 13 [(0, .inr 62), (1, .inl c)] [.inl (am_b (0 ≤ c ∧ c ≤ 255))] (am_up M 62 0 0) Q
  refine aw_ifb_ne dX8_type_13 (tgt := 18) rfl (fun c2 => ?_) (fun c2 => ?_)
  · replace h := h.1 c2
    refine aw_aload_n dX8_type_18 rfl (j := 0) rfl ?_
    refine aw_getf dX8_type_19 fl_X8_60 rfl rfl rfl ?_
    refine aw_sipush dX8_type_22 (by decide) ?_
    obtain ⟨s3, h⟩ := h
    refine aw_icmp_ne dX8_type_25 (tgt := 31) rfl s3 (by decide) (fun c4 => ?_) (fun c4 => ?_)
    · replace h := h.1 c4
      refine aw_aload_n dX8_type_31 rfl (j := 0) rfl ?_
      refine aw_getr dX8_type_32 fl_X8_29 rfl rfl ?_
      refine aw_aload_n dX8_type_35 rfl (j := 0) rfl ?_
      refine aw_getf dX8_type_36 fl_X8_60 rfl rfl rfl ?_
      refine aw_iload_n dX8_type_39 rfl (j := 1) rfl ?_
      obtain ⟨s5, h⟩ := h
      refine aw_i2b dX8_type_40 s5 ?_
      obtain ⟨s6, h⟩ := h
      obtain ⟨s7, h⟩ := h
      refine aw_bastore dX8_type_41 rfl s6 s7 ?_
      refine aw_aload_n dX8_type_42 rfl (j := 0) rfl ?_
      refine aw_dup dX8_type_43 ?_
      refine aw_getf dX8_type_44 fl_X8_60 rfl rfl rfl ?_
      refine aw_iconst dX8_type_47 ?_
      refine aw_iadd dX8_type_48 ?_
      refine aw_putf dX8_type_49 pf_X8_60 rfl rfl rfl ?_
      refine aw_aload_n dX8_type_52 rfl (j := 0) rfl ?_
      refine aw_getf dX8_type_53 fl_X8_60 rfl rfl rfl ?_
      exact aw_iret dX8_type_56 rfl h
    · replace h := h.2 c4
      refine aw_bipush dX8_type_28 (by decide) ?_
      exact aw_iret dX8_type_30 rfl h
  · replace h := h.2 c2
    refine aw_iconst dX8_type_16 ?_
    exact aw_iret dX8_type_17 rfl h
theorem sg_X8_clear {d : Nat} {M : am_M} {Q : Option Int → am_M → Prop} (h : Q (some (M 62 10)) (am_up (am_up M 62 0 0) 62 10 0)) : AC (d) mX8_clear [.inr 62] M Q := by
  refine aw_body (by decide) (Nat.le_of_ble_eq_true rfl) rfl ?_
  refine aw_aload_n dX8_clear_0 rfl (j := 0) rfl ?_
  refine aw_iconst dX8_clear_1 ?_
  refine aw_putf dX8_clear_2 pf_X8_52 rfl rfl rfl ?_
  refine aw_aload_n dX8_clear_5 rfl (j := 0) rfl ?_
  refine aw_getf dX8_clear_6 fl_X8_60 rfl rfl rfl ?_
  refine aw_istore_n (L' := [(0, .inr 62), (1, .inl (M 62 10))]) dX8_clear_9 rfl (Nat.le_of_ble_eq_true rfl) rfl ?_
  refine aw_aload_n dX8_clear_10 rfl (j := 0) rfl ?_
  refine aw_iconst dX8_clear_11 ?_
  refine aw_putf dX8_clear_12 pf_X8_60 rfl rfl rfl ?_
  refine aw_iload_n dX8_clear_15 rfl (j := 1) rfl ?_
  exact aw_iret dX8_clear_16 rfl h
theorem sg_X8_isWord {d : Nat} {M : am_M} {Q : Option Int → am_M → Prop} {a1 a2 a3 a4 a5 : Int} (h : (((am_r ((M 62 12) - (M 62 11))) ∧ ((M 62 12) - (M 62 11) = 5 → ((am_atok (M 62 10) (M 69) (M 62 11)) ∧ (am_r (am_at (M 62 10) (M 69) (M 62 11))) ∧ (am_r a1) ∧ (am_at (M 62 10) (M 69) (M 62 11) = a1 → ((am_atok (M 62 10) (M 69) ((M 62 11) + 1)) ∧ (am_r (am_at (M 62 10) (M 69) ((M 62 11) + 1))) ∧ (am_r a2) ∧ (am_at (M 62 10) (M 69) ((M 62 11) + 1) = a2 → ((am_atok (M 62 10) (M 69) ((M 62 11) + 2)) ∧ (am_r (am_at (M 62 10) (M 69) ((M 62 11) + 2))) ∧ (am_r a3) ∧ (am_at (M 62 10) (M 69) ((M 62 11) + 2) = a3 → ((am_atok (M 62 10) (M 69) ((M 62 11) + 3)) ∧ (am_r (am_at (M 62 10) (M 69) ((M 62 11) + 3))) ∧ (am_r a4) ∧ (am_at (M 62 10) (M 69) ((M 62 11) + 3) = a4 → ((am_atok (M 62 10) (M 69) ((M 62 11) + 4)) ∧ (am_r (am_at (M 62 10) (M 69) ((M 62 11) + 4))) ∧ (am_r a5))))))))))))) ∧
 Q (some (am_b (((M 62 12) - (M 62 11) = 5) ∧ (am_at (M 62 10) (M 69) (M 62 11) = a1) ∧ (am_at (M 62 10) (M 69) ((M 62 11) + 1) = a2) ∧ (am_at (M 62 10) (M 69) ((M 62 11) + 2) = a3) ∧ (am_at (M 62 10) (M 69) ((M 62 11) + 3) = a4) ∧ (am_at (M 62 10) (M 69) ((M 62 11) + 4) = a5)))) M) : AC (d + 1) mX8_isWord [.inr 62, .inl a1, .inl a2, .inl a3, .inl a4, .inl a5] M Q := by
  refine aw_body (by decide) (Nat.le_of_ble_eq_true rfl) rfl ?_
  refine aw_aload_n dX8_isWord_0 rfl (j := 0) rfl ?_
  refine aw_getf dX8_isWord_1 fl_X8_63 rfl rfl rfl ?_
  refine aw_aload_n dX8_isWord_4 rfl (j := 0) rfl ?_
  refine aw_getf dX8_isWord_5 fl_X8_66 rfl rfl rfl ?_
  refine aw_isub dX8_isWord_8 ?_
  refine aw_iconst dX8_isWord_9 ?_
  obtain ⟨g, h⟩ := h
  have K : AW (d + 1) mX8_isWord 88 [(0, .inr 62), (1, .inl a1), (2, .inl a2), (3, .inl a3), (4, .inl a4), (5, .inl a5)] [.inl (am_b (((M 62 12) - (M 62 11) = 5) ∧ (am_at (M 62 10) (M 69) (M 62 11) = a1) ∧ (am_at (M 62 10) (M 69) ((M 62 11) + 1) = a2) ∧ (am_at (M 62 10) (M 69) ((M 62 11) + 2) = a3) ∧ (am_at (M 62 10) (M 69) ((M 62 11) + 3) = a4) ∧ (am_at (M 62 10) (M 69) ((M 62 11) + 4) = a5)))] M Q := by
    exact aw_bret dX8_isWord_88 rfl h
  clear h
  obtain ⟨s1, g⟩ := g
  refine aw_icmp_ne dX8_isWord_10 (tgt := 87) rfl s1 (by decide) (fun c2 => ?_) (fun c2 => ?_)
  · have c2 : (M 62 12) - (M 62 11) ≠ 5 := c2
    refine aw_iconst dX8_isWord_87 ?_
    have hp : ¬ (((M 62 12) - (M 62 11) = 5) ∧ (am_at (M 62 10) (M 69) (M 62 11) = a1) ∧ (am_at (M 62 10) (M 69) ((M 62 11) + 1) = a2) ∧ (am_at (M 62 10) (M 69) ((M 62 11) + 2) = a3) ∧ (am_at (M 62 10) (M 69) ((M 62 11) + 3) = a4) ∧ (am_at (M 62 10) (M 69) ((M 62 11) + 4) = a5)) := by first | omega | simp_all
    have K1 := K
    rw [am_b_neg hp] at K1
    exact K1
  · have c2 : (M 62 12) - (M 62 11) = 5 := c2
    replace g := g c2
    refine aw_aload_n dX8_isWord_13 rfl (j := 0) rfl ?_
    refine aw_aload_n dX8_isWord_14 rfl (j := 0) rfl ?_
    refine aw_getf dX8_isWord_15 fl_X8_66 rfl rfl rfl ?_
    obtain ⟨s3, g⟩ := g
    refine aw_invv (d' := d) (as := [.inl (M 62 11)]) (rest := []) dX8_isWord_18 cv_X8_69 (Nat.lt_succ_self _) rfl rfl rfl rfl rfl (Nat.le_of_ble_eq_true rfl) (fc_at s3 ?_)
    show AW (d + 1) mX8_isWord 21 [(0, .inr 62), (1, .inl a1), (2, .inl a2), (3, .inl a3), (4, .inl a4), (5, .inl a5)] [.inl (am_at (M 62 10) (M 69) (M 62 11))] M Q
    refine aw_iload_n dX8_isWord_21 rfl (j := 1) rfl ?_
    obtain ⟨s4, g⟩ := g
    obtain ⟨s5, g⟩ := g
    refine aw_icmp_ne dX8_isWord_22 (tgt := 87) rfl s4 s5 (fun c6 => ?_) (fun c6 => ?_)
    · have c6 : am_at (M 62 10) (M 69) (M 62 11) ≠ a1 := c6
      refine aw_iconst dX8_isWord_87 ?_
      have hp : ¬ (((M 62 12) - (M 62 11) = 5) ∧ (am_at (M 62 10) (M 69) (M 62 11) = a1) ∧ (am_at (M 62 10) (M 69) ((M 62 11) + 1) = a2) ∧ (am_at (M 62 10) (M 69) ((M 62 11) + 2) = a3) ∧ (am_at (M 62 10) (M 69) ((M 62 11) + 3) = a4) ∧ (am_at (M 62 10) (M 69) ((M 62 11) + 4) = a5)) := by first | omega | simp_all
      have K1 := K
      rw [am_b_neg hp] at K1
      exact K1
    · have c6 : am_at (M 62 10) (M 69) (M 62 11) = a1 := c6
      replace g := g c6
      refine aw_aload_n dX8_isWord_25 rfl (j := 0) rfl ?_
      refine aw_aload_n dX8_isWord_26 rfl (j := 0) rfl ?_
      refine aw_getf dX8_isWord_27 fl_X8_66 rfl rfl rfl ?_
      refine aw_iconst dX8_isWord_30 ?_
      refine aw_iadd dX8_isWord_31 ?_
      obtain ⟨s7, g⟩ := g
      refine aw_invv (d' := d) (as := [.inl ((M 62 11) + 1)]) (rest := []) dX8_isWord_32 cv_X8_69 (Nat.lt_succ_self _) rfl rfl rfl rfl rfl (Nat.le_of_ble_eq_true rfl) (fc_at s7 ?_)
      show AW (d + 1) mX8_isWord 35 [(0, .inr 62), (1, .inl a1), (2, .inl a2), (3, .inl a3), (4, .inl a4), (5, .inl a5)] [.inl (am_at (M 62 10) (M 69) ((M 62 11) + 1))] M Q
      refine aw_iload_n dX8_isWord_35 rfl (j := 2) rfl ?_
      obtain ⟨s8, g⟩ := g
      obtain ⟨s9, g⟩ := g
      refine aw_icmp_ne dX8_isWord_36 (tgt := 87) rfl s8 s9 (fun c10 => ?_) (fun c10 => ?_)
      · have c10 : am_at (M 62 10) (M 69) ((M 62 11) + 1) ≠ a2 := c10
        refine aw_iconst dX8_isWord_87 ?_
        have hp : ¬ (((M 62 12) - (M 62 11) = 5) ∧ (am_at (M 62 10) (M 69) (M 62 11) = a1) ∧ (am_at (M 62 10) (M 69) ((M 62 11) + 1) = a2) ∧ (am_at (M 62 10) (M 69) ((M 62 11) + 2) = a3) ∧ (am_at (M 62 10) (M 69) ((M 62 11) + 3) = a4) ∧ (am_at (M 62 10) (M 69) ((M 62 11) + 4) = a5)) := by first | omega | simp_all
        have K1 := K
        rw [am_b_neg hp] at K1
        exact K1
      · have c10 : am_at (M 62 10) (M 69) ((M 62 11) + 1) = a2 := c10
        replace g := g c10
        refine aw_aload_n dX8_isWord_39 rfl (j := 0) rfl ?_
        refine aw_aload_n dX8_isWord_40 rfl (j := 0) rfl ?_
        refine aw_getf dX8_isWord_41 fl_X8_66 rfl rfl rfl ?_
        refine aw_iconst dX8_isWord_44 ?_
        refine aw_iadd dX8_isWord_45 ?_
        obtain ⟨s11, g⟩ := g
        refine aw_invv (d' := d) (as := [.inl ((M 62 11) + 2)]) (rest := []) dX8_isWord_46 cv_X8_69 (Nat.lt_succ_self _) rfl rfl rfl rfl rfl (Nat.le_of_ble_eq_true rfl) (fc_at s11 ?_)
        show AW (d + 1) mX8_isWord 49 [(0, .inr 62), (1, .inl a1), (2, .inl a2), (3, .inl a3), (4, .inl a4), (5, .inl a5)] [.inl (am_at (M 62 10) (M 69) ((M 62 11) + 2))] M Q
        refine aw_iload_n dX8_isWord_49 rfl (j := 3) rfl ?_
        obtain ⟨s12, g⟩ := g
        obtain ⟨s13, g⟩ := g
        refine aw_icmp_ne dX8_isWord_50 (tgt := 87) rfl s12 s13 (fun c14 => ?_) (fun c14 => ?_)
        · have c14 : am_at (M 62 10) (M 69) ((M 62 11) + 2) ≠ a3 := c14
          refine aw_iconst dX8_isWord_87 ?_
          have hp : ¬ (((M 62 12) - (M 62 11) = 5) ∧ (am_at (M 62 10) (M 69) (M 62 11) = a1) ∧ (am_at (M 62 10) (M 69) ((M 62 11) + 1) = a2) ∧ (am_at (M 62 10) (M 69) ((M 62 11) + 2) = a3) ∧ (am_at (M 62 10) (M 69) ((M 62 11) + 3) = a4) ∧ (am_at (M 62 10) (M 69) ((M 62 11) + 4) = a5)) := by first | omega | simp_all
          have K1 := K
          rw [am_b_neg hp] at K1
          exact K1
        · have c14 : am_at (M 62 10) (M 69) ((M 62 11) + 2) = a3 := c14
          replace g := g c14
          refine aw_aload_n dX8_isWord_53 rfl (j := 0) rfl ?_
          refine aw_aload_n dX8_isWord_54 rfl (j := 0) rfl ?_
          refine aw_getf dX8_isWord_55 fl_X8_66 rfl rfl rfl ?_
          refine aw_iconst dX8_isWord_58 ?_
          refine aw_iadd dX8_isWord_59 ?_
          obtain ⟨s15, g⟩ := g
          refine aw_invv (d' := d) (as := [.inl ((M 62 11) + 3)]) (rest := []) dX8_isWord_60 cv_X8_69 (Nat.lt_succ_self _) rfl rfl rfl rfl rfl (Nat.le_of_ble_eq_true rfl) (fc_at s15 ?_)
          show AW (d + 1) mX8_isWord 63 [(0, .inr 62), (1, .inl a1), (2, .inl a2), (3, .inl a3), (4, .inl a4), (5, .inl a5)] [.inl (am_at (M 62 10) (M 69) ((M 62 11) + 3))] M Q
          refine aw_iload dX8_isWord_63 (j := 4) rfl ?_
          obtain ⟨s16, g⟩ := g
          obtain ⟨s17, g⟩ := g
          refine aw_icmp_ne dX8_isWord_65 (tgt := 87) rfl s16 s17 (fun c18 => ?_) (fun c18 => ?_)
          · have c18 : am_at (M 62 10) (M 69) ((M 62 11) + 3) ≠ a4 := c18
            refine aw_iconst dX8_isWord_87 ?_
            have hp : ¬ (((M 62 12) - (M 62 11) = 5) ∧ (am_at (M 62 10) (M 69) (M 62 11) = a1) ∧ (am_at (M 62 10) (M 69) ((M 62 11) + 1) = a2) ∧ (am_at (M 62 10) (M 69) ((M 62 11) + 2) = a3) ∧ (am_at (M 62 10) (M 69) ((M 62 11) + 3) = a4) ∧ (am_at (M 62 10) (M 69) ((M 62 11) + 4) = a5)) := by first | omega | simp_all
            have K1 := K
            rw [am_b_neg hp] at K1
            exact K1
          · have c18 : am_at (M 62 10) (M 69) ((M 62 11) + 3) = a4 := c18
            replace g := g c18
            refine aw_aload_n dX8_isWord_68 rfl (j := 0) rfl ?_
            refine aw_aload_n dX8_isWord_69 rfl (j := 0) rfl ?_
            refine aw_getf dX8_isWord_70 fl_X8_66 rfl rfl rfl ?_
            refine aw_iconst dX8_isWord_73 ?_
            refine aw_iadd dX8_isWord_74 ?_
            obtain ⟨s19, g⟩ := g
            refine aw_invv (d' := d) (as := [.inl ((M 62 11) + 4)]) (rest := []) dX8_isWord_75 cv_X8_69 (Nat.lt_succ_self _) rfl rfl rfl rfl rfl (Nat.le_of_ble_eq_true rfl) (fc_at s19 ?_)
            show AW (d + 1) mX8_isWord 78 [(0, .inr 62), (1, .inl a1), (2, .inl a2), (3, .inl a3), (4, .inl a4), (5, .inl a5)] [.inl (am_at (M 62 10) (M 69) ((M 62 11) + 4))] M Q
            refine aw_iload dX8_isWord_78 (j := 5) rfl ?_
            obtain ⟨s20, g⟩ := g
            have s21 := g
            refine aw_icmp_ne dX8_isWord_80 (tgt := 87) rfl s20 s21 (fun c22 => ?_) (fun c22 => ?_)
            · have c22 : am_at (M 62 10) (M 69) ((M 62 11) + 4) ≠ a5 := c22
              refine aw_iconst dX8_isWord_87 ?_
              have hp : ¬ (((M 62 12) - (M 62 11) = 5) ∧ (am_at (M 62 10) (M 69) (M 62 11) = a1) ∧ (am_at (M 62 10) (M 69) ((M 62 11) + 1) = a2) ∧ (am_at (M 62 10) (M 69) ((M 62 11) + 2) = a3) ∧ (am_at (M 62 10) (M 69) ((M 62 11) + 3) = a4) ∧ (am_at (M 62 10) (M 69) ((M 62 11) + 4) = a5)) := by first | omega | simp_all
              have K1 := K
              rw [am_b_neg hp] at K1
              exact K1
            · have c22 : am_at (M 62 10) (M 69) ((M 62 11) + 4) = a5 := c22
              refine aw_iconst dX8_isWord_83 ?_
              refine aw_goto dX8_isWord_84 (tgt := 88) rfl ?_
              have hp : ((M 62 12) - (M 62 11) = 5) ∧ (am_at (M 62 10) (M 69) (M 62 11) = a1) ∧ (am_at (M 62 10) (M 69) ((M 62 11) + 1) = a2) ∧ (am_at (M 62 10) (M 69) ((M 62 11) + 2) = a3) ∧ (am_at (M 62 10) (M 69) ((M 62 11) + 3) = a4) ∧ (am_at (M 62 10) (M 69) ((M 62 11) + 4) = a5) := by first | omega | simp_all
              have K1 := K
              rw [am_b_pos hp] at K1
              exact K1
theorem sg_X8_wordOf {d : Nat} {M : am_M} {Q : Option Int → am_M → Prop} (h : AC (d + 1) mX8_isWord [.inr 62, .inl 102, .inl 114, .inl 97, .inl 109, .inl 101] M (fun r M1 => ∃ z2, r = some z2 ∧
 (am_r z2) ∧
 ((z2 = 0 →
 AC (d + 1) mX8_isWord [.inr 62, .inl 102, .inl 108, .inl 111, .inl 111, .inl 114] M1 (fun r M5 => ∃ z6, r = some z6 ∧
 (am_r z6) ∧
 ((z6 = 0 →
 AC (d + 1) mX8_isWord [.inr 62, .inl 114, .inl 101, .inl 97, .inl 99, .inl 104] M5 (fun r M9 => ∃ z10, r = some z10 ∧
 (am_r z10) ∧
 ((z10 = 0 →
 AC (d + 1) mX8_isWord [.inr 62, .inl 108, .inl 101, .inl 97, .inl 115, .inl 116] M9 (fun r M13 => ∃ z14, r = some z14 ∧
 ((am_r z14)) ∧
 ∀ (v17 : Int), (z14 = 0 → v17 = 7) →
 (z14 ≠ 0 → v17 = 4) →
 Q (some v17) M13)) ∧
 (z10 ≠ 0 →
 Q (some 3) M9)))) ∧
 (z6 ≠ 0 →
 Q (some 2) M5)))) ∧
 (z2 ≠ 0 →
 Q (some 1) M1)))) : AC (d + 2) mX8_wordOf [.inr 62] M Q := by
  refine aw_body (by decide) (Nat.le_of_ble_eq_true rfl) rfl ?_
  refine aw_aload_n dX8_wordOf_0 rfl (j := 0) rfl ?_
  refine aw_bipush dX8_wordOf_1 (by decide) ?_
  refine aw_bipush dX8_wordOf_3 (by decide) ?_
  refine aw_bipush dX8_wordOf_5 (by decide) ?_
  refine aw_bipush dX8_wordOf_7 (by decide) ?_
  refine aw_bipush dX8_wordOf_9 (by decide) ?_
  refine aw_invv (d' := d + 1) (as := [.inl 102, .inl 114, .inl 97, .inl 109, .inl 101]) (rest := []) dX8_wordOf_11 cv_X8_73 (Nat.lt_succ_self _) rfl rfl rfl rfl rfl (Nat.le_of_ble_eq_true rfl) (AC.mono ?_ h)
  intro r M1 h
  obtain ⟨z2, rfl, h⟩ := h
  show AW (d + 2) mX8_wordOf 14 [(0, .inr 62)] [.inl z2] M1 Q
  obtain ⟨s3, h⟩ := h
  refine aw_if_eq dX8_wordOf_14 (tgt := 19) rfl s3 (fun c4 => ?_) (fun c4 => ?_)
  · replace h := h.1 c4
    refine aw_aload_n dX8_wordOf_19 rfl (j := 0) rfl ?_
    refine aw_bipush dX8_wordOf_20 (by decide) ?_
    refine aw_bipush dX8_wordOf_22 (by decide) ?_
    refine aw_bipush dX8_wordOf_24 (by decide) ?_
    refine aw_bipush dX8_wordOf_26 (by decide) ?_
    refine aw_bipush dX8_wordOf_28 (by decide) ?_
    refine aw_invv (d' := d + 1) (as := [.inl 102, .inl 108, .inl 111, .inl 111, .inl 114]) (rest := []) dX8_wordOf_30 cv_X8_73 (Nat.lt_succ_self _) rfl rfl rfl rfl rfl (Nat.le_of_ble_eq_true rfl) (AC.mono ?_ h)
    intro r M5 h
    obtain ⟨z6, rfl, h⟩ := h
    show AW (d + 2) mX8_wordOf 33 [(0, .inr 62)] [.inl z6] M5 Q
    obtain ⟨s7, h⟩ := h
    refine aw_if_eq dX8_wordOf_33 (tgt := 38) rfl s7 (fun c8 => ?_) (fun c8 => ?_)
    · replace h := h.1 c8
      refine aw_aload_n dX8_wordOf_38 rfl (j := 0) rfl ?_
      refine aw_bipush dX8_wordOf_39 (by decide) ?_
      refine aw_bipush dX8_wordOf_41 (by decide) ?_
      refine aw_bipush dX8_wordOf_43 (by decide) ?_
      refine aw_bipush dX8_wordOf_45 (by decide) ?_
      refine aw_bipush dX8_wordOf_47 (by decide) ?_
      refine aw_invv (d' := d + 1) (as := [.inl 114, .inl 101, .inl 97, .inl 99, .inl 104]) (rest := []) dX8_wordOf_49 cv_X8_73 (Nat.lt_succ_self _) rfl rfl rfl rfl rfl (Nat.le_of_ble_eq_true rfl) (AC.mono ?_ h)
      intro r M9 h
      obtain ⟨z10, rfl, h⟩ := h
      show AW (d + 2) mX8_wordOf 52 [(0, .inr 62)] [.inl z10] M9 Q
      obtain ⟨s11, h⟩ := h
      refine aw_if_eq dX8_wordOf_52 (tgt := 59) rfl s11 (fun c12 => ?_) (fun c12 => ?_)
      · replace h := h.1 c12
        refine aw_aload_n dX8_wordOf_59 rfl (j := 0) rfl ?_
        refine aw_bipush dX8_wordOf_60 (by decide) ?_
        refine aw_bipush dX8_wordOf_62 (by decide) ?_
        refine aw_bipush dX8_wordOf_64 (by decide) ?_
        refine aw_bipush dX8_wordOf_66 (by decide) ?_
        refine aw_bipush dX8_wordOf_68 (by decide) ?_
        refine aw_invv (d' := d + 1) (as := [.inl 108, .inl 101, .inl 97, .inl 115, .inl 116]) (rest := []) dX8_wordOf_70 cv_X8_73 (Nat.lt_succ_self _) rfl rfl rfl rfl rfl (Nat.le_of_ble_eq_true rfl) (AC.mono ?_ h)
        intro r M13 h
        obtain ⟨z14, rfl, h⟩ := h
        show AW (d + 2) mX8_wordOf 73 [(0, .inr 62)] [.inl z14] M13 Q
        obtain ⟨g, h⟩ := h
        have K : ∀ (v17 : Int), (z14 = 0 → v17 = 7) → (z14 ≠ 0 → v17 = 4) → AW (d + 2) mX8_wordOf 82 [(0, .inr 62)] [.inl v17] M13 Q := by
          intro v17 q18 q19
          replace h := h v17 q18 q19
          exact aw_iret dX8_wordOf_82 rfl h
        clear h
        have s15 := g
        refine aw_if_eq dX8_wordOf_73 (tgt := 80) rfl s15 (fun c16 => ?_) (fun c16 => ?_)
        · have c16 : z14 = 0 := c16
          refine aw_bipush dX8_wordOf_80 (by decide) ?_
          exact K 7 (fun _ => rfl) (fun q0 => by first | omega | exact absurd c16 q0 | exact absurd q0 c16)
        · have c16 : z14 ≠ 0 := c16
          refine aw_iconst dX8_wordOf_76 ?_
          refine aw_goto dX8_wordOf_77 (tgt := 82) rfl ?_
          exact K 4 (fun q0 => by first | omega | exact absurd c16 q0 | exact absurd q0 c16) (fun _ => rfl)
      · replace h := h.2 c12
        refine aw_iconst dX8_wordOf_55 ?_
        refine aw_goto dX8_wordOf_56 (tgt := 82) rfl ?_
        exact aw_iret dX8_wordOf_82 rfl h
    · replace h := h.2 c8
      refine aw_iconst dX8_wordOf_36 ?_
      exact aw_iret dX8_wordOf_37 rfl h
  · replace h := h.2 c4
    refine aw_iconst dX8_wordOf_17 ?_
    exact aw_iret dX8_wordOf_18 rfl h
theorem sg_X8_steps {d : Nat} {M : am_M} {Q : Option Int → am_M → Prop} (h : AW (d + 3) mX8_steps 8 [(0, .inr 62)] [] (am_up M 62 11 (M 62 12)) Q) : AC (d + 3) mX8_steps [.inr 62] M Q := by
  refine aw_body (by decide) (Nat.le_of_ble_eq_true rfl) rfl ?_
  refine aw_aload_n dX8_steps_0 rfl (j := 0) rfl ?_
  refine aw_aload_n dX8_steps_1 rfl (j := 0) rfl ?_
  refine aw_getf dX8_steps_2 fl_X8_63 rfl rfl rfl ?_
  refine aw_putf dX8_steps_5 pf_X8_66 rfl rfl rfl ?_
  exact h
theorem sg_X8_steps_8 {d : Nat} {M : am_M} {Q : Option Int → am_M → Prop} (h : (am_atok (M 62 10) (M 69) (M 62 11)) ∧
 (am_r (am_at (M 62 10) (M 69) (M 62 11))) ∧
 ((am_at (M 62 10) (M 69) (M 62 11) ≠ 32 →
 ((0 ≤ am_at (M 62 10) (M 69) (M 62 11) →
 (am_r (am_at (M 62 10) (M 69) (M 62 11)) ∧ am_r 48 ∧ am_r 57) ∧
 ((¬ (48 ≤ am_at (M 62 10) (M 69) (M 62 11) ∧ am_at (M 62 10) (M 69) (M 62 11) ≤ 57) →
 (am_r (am_at (M 62 10) (M 69) (M 62 11)) ∧ am_r 97 ∧ am_r 122) ∧
 ((¬ (97 ≤ am_at (M 62 10) (M 69) (M 62 11) ∧ am_at (M 62 10) (M 69) (M 62 11) ≤ 122) →
 ∀ (v10 : Int), (am_at (M 62 10) (M 69) (M 62 11) ≠ 59 → v10 = 7) →
 (am_at (M 62 10) (M 69) (M 62 11) = 59 → v10 = 6) →
 Q none (am_up (am_up (am_up M 62 12 (M 62 11)) 62 13 v10) 62 12 ((M 62 11) + 1))) ∧
 (97 ≤ am_at (M 62 10) (M 69) (M 62 11) ∧ am_at (M 62 10) (M 69) (M 62 11) ≤ 122 →
 AW (d + 3) mX8_steps 136 [(0, .inr 62)] [] (am_up M 62 12 (M 62 11)) Q))) ∧
 (48 ≤ am_at (M 62 10) (M 69) (M 62 11) ∧ am_at (M 62 10) (M 69) (M 62 11) ≤ 57 →
 AW (d + 3) mX8_steps 79 [(0, .inr 62)] [] (am_up M 62 12 (M 62 11)) Q))) ∧
 (am_at (M 62 10) (M 69) (M 62 11) < 0 →
 Q none (am_up (am_up M 62 12 (M 62 11)) 62 13 0)))) ∧
 (am_at (M 62 10) (M 69) (M 62 11) = 32 →
 AW (d + 3) mX8_steps 8 [(0, .inr 62)] [] (am_up M 62 11 ((M 62 11) + 1)) Q))) : AW (d + 3) mX8_steps 8 [(0, .inr 62)] [] M Q := by
  refine aw_aload_n dX8_steps_8 rfl (j := 0) rfl ?_
  refine aw_aload_n dX8_steps_9 rfl (j := 0) rfl ?_
  refine aw_getf dX8_steps_10 fl_X8_66 rfl rfl rfl ?_
  obtain ⟨s1, h⟩ := h
  refine aw_invv (d' := d + 2) (as := [.inl (M 62 11)]) (rest := []) dX8_steps_13 cv_X8_69 (Nat.lt_succ_self _) rfl rfl rfl rfl rfl (Nat.le_of_ble_eq_true rfl) (fc_at s1 ?_)
  show AW (d + 3) mX8_steps 16 [(0, .inr 62)] [.inl (am_at (M 62 10) (M 69) (M 62 11))] M Q
  refine aw_bipush dX8_steps_16 (by decide) ?_
  obtain ⟨s2, h⟩ := h
  refine aw_icmp_ne dX8_steps_18 (tgt := 34) rfl s2 (by decide) (fun c3 => ?_) (fun c3 => ?_)
  · replace h := h.1 c3
    refine aw_aload_n dX8_steps_34 rfl (j := 0) rfl ?_
    refine aw_aload_n dX8_steps_35 rfl (j := 0) rfl ?_
    refine aw_getf dX8_steps_36 fl_X8_66 rfl rfl rfl ?_
    refine aw_putf dX8_steps_39 pf_X8_63 rfl rfl rfl ?_
    refine aw_aload_n dX8_steps_42 rfl (j := 0) rfl ?_
    refine aw_aload_n dX8_steps_43 rfl (j := 0) rfl ?_
    refine aw_getf dX8_steps_44 fl_X8_63 rfl rfl rfl ?_
    refine aw_invv (d' := d + 2) (as := [.inl (M 62 11)]) (rest := []) dX8_steps_47 cv_X8_69 (Nat.lt_succ_self _) rfl rfl rfl rfl rfl (Nat.le_of_ble_eq_true rfl) (fc_at s1 ?_)
    show AW (d + 3) mX8_steps 50 [(0, .inr 62)] [.inl (am_at (M 62 10) (M 69) (M 62 11))] (am_up M 62 12 (M 62 11)) Q
    refine aw_if_ge dX8_steps_50 (tgt := 61) rfl s2 (fun c4 => ?_) (fun c4 => ?_)
    · replace h := h.1 c4
      refine aw_aload_n dX8_steps_61 rfl (j := 0) rfl ?_
      refine aw_aload_n dX8_steps_62 rfl (j := 0) rfl ?_
      refine aw_getf dX8_steps_63 fl_X8_63 rfl rfl rfl ?_
      refine aw_invv (d' := d + 2) (as := [.inl (M 62 11)]) (rest := []) dX8_steps_66 cv_X8_69 (Nat.lt_succ_self _) rfl rfl rfl rfl rfl (Nat.le_of_ble_eq_true rfl) (fc_at s1 ?_)
      show AW (d + 3) mX8_steps 69 [(0, .inr 62)] [.inl (am_at (M 62 10) (M 69) (M 62 11))] (am_up M 62 12 (M 62 11)) Q
      refine aw_bipush dX8_steps_69 (by decide) ?_
      refine aw_bipush dX8_steps_71 (by decide) ?_
      obtain ⟨s5, h⟩ := h
      refine aw_invs (d' := d + 2) (as := [.inl (am_at (M 62 10) (M 69) (M 62 11)), .inl 48, .inl 57]) (rest := []) dX8_steps_73 cs_X8_56 (Nat.lt_succ_self _) rfl rfl (Nat.le_of_ble_eq_true rfl) (fc_in s5 ?_)
      show AW (d + 3) mX8_steps 76 [(0, .inr 62)] [.inl (am_b (48 ≤ am_at (M 62 10) (M 69) (M 62 11) ∧ am_at (M 62 10) (M 69) (M 62 11) ≤ 57))] (am_up M 62 12 (M 62 11)) Q
      refine aw_ifb_eq dX8_steps_76 (tgt := 118) rfl (fun c6 => ?_) (fun c6 => ?_)
      · replace h := h.1 c6
        refine aw_aload_n dX8_steps_118 rfl (j := 0) rfl ?_
        refine aw_aload_n dX8_steps_119 rfl (j := 0) rfl ?_
        refine aw_getf dX8_steps_120 fl_X8_63 rfl rfl rfl ?_
        refine aw_invv (d' := d + 2) (as := [.inl (M 62 11)]) (rest := []) dX8_steps_123 cv_X8_69 (Nat.lt_succ_self _) rfl rfl rfl rfl rfl (Nat.le_of_ble_eq_true rfl) (fc_at s1 ?_)
        show AW (d + 3) mX8_steps 126 [(0, .inr 62)] [.inl (am_at (M 62 10) (M 69) (M 62 11))] (am_up M 62 12 (M 62 11)) Q
        refine aw_bipush dX8_steps_126 (by decide) ?_
        refine aw_bipush dX8_steps_128 (by decide) ?_
        obtain ⟨s7, h⟩ := h
        refine aw_invs (d' := d + 2) (as := [.inl (am_at (M 62 10) (M 69) (M 62 11)), .inl 97, .inl 122]) (rest := []) dX8_steps_130 cs_X8_56 (Nat.lt_succ_self _) rfl rfl (Nat.le_of_ble_eq_true rfl) (fc_in s7 ?_)
        show AW (d + 3) mX8_steps 133 [(0, .inr 62)] [.inl (am_b (97 ≤ am_at (M 62 10) (M 69) (M 62 11) ∧ am_at (M 62 10) (M 69) (M 62 11) ≤ 122))] (am_up M 62 12 (M 62 11)) Q
        refine aw_ifb_eq dX8_steps_133 (tgt := 178) rfl (fun c8 => ?_) (fun c8 => ?_)
        · replace h := h.1 c8
          refine aw_aload_n dX8_steps_178 rfl (j := 0) rfl ?_
          refine aw_aload_n dX8_steps_179 rfl (j := 0) rfl ?_
          refine aw_aload_n dX8_steps_180 rfl (j := 0) rfl ?_
          refine aw_getf dX8_steps_181 fl_X8_63 rfl rfl rfl ?_
          refine aw_invv (d' := d + 2) (as := [.inl (M 62 11)]) (rest := [.inr 62]) dX8_steps_184 cv_X8_69 (Nat.lt_succ_self _) rfl rfl rfl rfl rfl (Nat.le_of_ble_eq_true rfl) (fc_at s1 ?_)
          show AW (d + 3) mX8_steps 187 [(0, .inr 62)] [.inl (am_at (M 62 10) (M 69) (M 62 11)), .inr 62] (am_up M 62 12 (M 62 11)) Q
          refine aw_bipush dX8_steps_187 (by decide) ?_
          have K : ∀ (v10 : Int), (am_at (M 62 10) (M 69) (M 62 11) ≠ 59 → v10 = 7) → (am_at (M 62 10) (M 69) (M 62 11) = 59 → v10 = 6) → AW (d + 3) mX8_steps 199 [(0, .inr 62)] [.inl v10, .inr 62] (am_up M 62 12 (M 62 11)) Q := by
            intro v10 q11 q12
            replace h := h v10 q11 q12
            refine aw_putf dX8_steps_199 pf_X8_77 rfl rfl rfl ?_
            refine aw_aload_n dX8_steps_202 rfl (j := 0) rfl ?_
            refine aw_dup dX8_steps_203 ?_
            refine aw_getf dX8_steps_204 fl_X8_63 rfl rfl rfl ?_
            refine aw_iconst dX8_steps_207 ?_
            refine aw_iadd dX8_steps_208 ?_
            refine aw_putf dX8_steps_209 pf_X8_63 rfl rfl rfl ?_
            exact aw_vret dX8_steps_212 rfl h
          clear h
          refine aw_icmp_ne dX8_steps_189 (tgt := 197) rfl s2 (by decide) (fun c9 => ?_) (fun c9 => ?_)
          · have c9 : am_at (M 62 10) (M 69) (M 62 11) ≠ 59 := c9
            refine aw_bipush dX8_steps_197 (by decide) ?_
            exact K 7 (fun _ => rfl) (fun q0 => by first | omega | exact absurd c9 q0 | exact absurd q0 c9)
          · have c9 : am_at (M 62 10) (M 69) (M 62 11) = 59 := c9
            refine aw_bipush dX8_steps_192 (by decide) ?_
            refine aw_goto dX8_steps_194 (tgt := 199) rfl ?_
            exact K 6 (fun q0 => by first | omega | exact absurd c9 q0 | exact absurd q0 c9) (fun _ => rfl)
        · replace h := h.2 c8
          exact h
      · replace h := h.2 c6
        exact h
    · replace h := h.2 c4
      refine aw_aload_n dX8_steps_53 rfl (j := 0) rfl ?_
      refine aw_iconst dX8_steps_54 ?_
      refine aw_putf dX8_steps_55 pf_X8_77 rfl rfl rfl ?_
      refine aw_goto dX8_steps_58 (tgt := 212) rfl ?_
      exact aw_vret dX8_steps_212 rfl h
  · replace h := h.2 c3
    refine aw_aload_n dX8_steps_21 rfl (j := 0) rfl ?_
    refine aw_dup dX8_steps_22 ?_
    refine aw_getf dX8_steps_23 fl_X8_66 rfl rfl rfl ?_
    refine aw_iconst dX8_steps_26 ?_
    refine aw_iadd dX8_steps_27 ?_
    refine aw_putf dX8_steps_28 pf_X8_66 rfl rfl rfl ?_
    refine aw_goto dX8_steps_31 (tgt := 8) rfl ?_
    exact h
theorem sg_X8_steps_136 {d : Nat} {M : am_M} {Q : Option Int → am_M → Prop} (h : (am_atok (M 62 10) (M 69) (M 62 12)) ∧
 (am_r (am_at (M 62 10) (M 69) (M 62 12)) ∧ am_r 97 ∧ am_r 122) ∧
 ((¬ (97 ≤ am_at (M 62 10) (M 69) (M 62 12) ∧ am_at (M 62 10) (M 69) (M 62 12) ≤ 122) →
 AC (d + 2) mX8_wordOf [.inr 62] M (fun r M4 => ∃ z5, r = some z5 ∧
 Q none (am_up M4 62 13 z5))) ∧
 (97 ≤ am_at (M 62 10) (M 69) (M 62 12) ∧ am_at (M 62 10) (M 69) (M 62 12) ≤ 122 →
 AW (d + 3) mX8_steps 136 [(0, .inr 62)] [] (am_up M 62 12 ((M 62 12) + 1)) Q))) : AW (d + 3) mX8_steps 136 [(0, .inr 62)] [] M Q := by
  refine aw_aload_n dX8_steps_136 rfl (j := 0) rfl ?_
  refine aw_aload_n dX8_steps_137 rfl (j := 0) rfl ?_
  refine aw_getf dX8_steps_138 fl_X8_63 rfl rfl rfl ?_
  obtain ⟨s1, h⟩ := h
  refine aw_invv (d' := d + 2) (as := [.inl (M 62 12)]) (rest := []) dX8_steps_141 cv_X8_69 (Nat.lt_succ_self _) rfl rfl rfl rfl rfl (Nat.le_of_ble_eq_true rfl) (fc_at s1 ?_)
  show AW (d + 3) mX8_steps 144 [(0, .inr 62)] [.inl (am_at (M 62 10) (M 69) (M 62 12))] M Q
  refine aw_bipush dX8_steps_144 (by decide) ?_
  refine aw_bipush dX8_steps_146 (by decide) ?_
  obtain ⟨s2, h⟩ := h
  refine aw_invs (d' := d + 2) (as := [.inl (am_at (M 62 10) (M 69) (M 62 12)), .inl 97, .inl 122]) (rest := []) dX8_steps_148 cs_X8_56 (Nat.lt_succ_self _) rfl rfl (Nat.le_of_ble_eq_true rfl) (fc_in s2 ?_)
  show AW (d + 3) mX8_steps 151 [(0, .inr 62)] [.inl (am_b (97 ≤ am_at (M 62 10) (M 69) (M 62 12) ∧ am_at (M 62 10) (M 69) (M 62 12) ≤ 122))] M Q
  refine aw_ifb_eq dX8_steps_151 (tgt := 167) rfl (fun c3 => ?_) (fun c3 => ?_)
  · replace h := h.1 c3
    refine aw_aload_n dX8_steps_167 rfl (j := 0) rfl ?_
    refine aw_aload_n dX8_steps_168 rfl (j := 0) rfl ?_
    refine aw_invv (d' := d + 2) (as := []) (rest := [.inr 62]) dX8_steps_169 cv_X8_80 (Nat.lt_succ_self _) rfl rfl rfl rfl rfl (Nat.le_of_ble_eq_true rfl) (AC.mono ?_ h)
    intro r M4 h
    obtain ⟨z5, rfl, h⟩ := h
    show AW (d + 3) mX8_steps 172 [(0, .inr 62)] [.inl z5, .inr 62] M4 Q
    refine aw_putf dX8_steps_172 pf_X8_77 rfl rfl rfl ?_
    refine aw_goto dX8_steps_175 (tgt := 212) rfl ?_
    exact aw_vret dX8_steps_212 rfl h
  · replace h := h.2 c3
    refine aw_aload_n dX8_steps_154 rfl (j := 0) rfl ?_
    refine aw_dup dX8_steps_155 ?_
    refine aw_getf dX8_steps_156 fl_X8_63 rfl rfl rfl ?_
    refine aw_iconst dX8_steps_159 ?_
    refine aw_iadd dX8_steps_160 ?_
    refine aw_putf dX8_steps_161 pf_X8_63 rfl rfl rfl ?_
    refine aw_goto dX8_steps_164 (tgt := 136) rfl ?_
    exact h
theorem sg_X8_steps_79 {d : Nat} {M : am_M} {Q : Option Int → am_M → Prop} (h : (am_atok (M 62 10) (M 69) (M 62 12)) ∧
 (am_r (am_at (M 62 10) (M 69) (M 62 12)) ∧ am_r 48 ∧ am_r 57) ∧
 ((¬ (48 ≤ am_at (M 62 10) (M 69) (M 62 12) ∧ am_at (M 62 10) (M 69) (M 62 12) ≤ 57) →
 Q none (am_up M 62 13 5)) ∧
 (48 ≤ am_at (M 62 10) (M 69) (M 62 12) ∧ am_at (M 62 10) (M 69) (M 62 12) ≤ 57 →
 AW (d + 3) mX8_steps 79 [(0, .inr 62)] [] (am_up M 62 12 ((M 62 12) + 1)) Q))) : AW (d + 3) mX8_steps 79 [(0, .inr 62)] [] M Q := by
  refine aw_aload_n dX8_steps_79 rfl (j := 0) rfl ?_
  refine aw_aload_n dX8_steps_80 rfl (j := 0) rfl ?_
  refine aw_getf dX8_steps_81 fl_X8_63 rfl rfl rfl ?_
  obtain ⟨s1, h⟩ := h
  refine aw_invv (d' := d + 2) (as := [.inl (M 62 12)]) (rest := []) dX8_steps_84 cv_X8_69 (Nat.lt_succ_self _) rfl rfl rfl rfl rfl (Nat.le_of_ble_eq_true rfl) (fc_at s1 ?_)
  show AW (d + 3) mX8_steps 87 [(0, .inr 62)] [.inl (am_at (M 62 10) (M 69) (M 62 12))] M Q
  refine aw_bipush dX8_steps_87 (by decide) ?_
  refine aw_bipush dX8_steps_89 (by decide) ?_
  obtain ⟨s2, h⟩ := h
  refine aw_invs (d' := d + 2) (as := [.inl (am_at (M 62 10) (M 69) (M 62 12)), .inl 48, .inl 57]) (rest := []) dX8_steps_91 cs_X8_56 (Nat.lt_succ_self _) rfl rfl (Nat.le_of_ble_eq_true rfl) (fc_in s2 ?_)
  show AW (d + 3) mX8_steps 94 [(0, .inr 62)] [.inl (am_b (48 ≤ am_at (M 62 10) (M 69) (M 62 12) ∧ am_at (M 62 10) (M 69) (M 62 12) ≤ 57))] M Q
  refine aw_ifb_eq dX8_steps_94 (tgt := 110) rfl (fun c3 => ?_) (fun c3 => ?_)
  · replace h := h.1 c3
    refine aw_aload_n dX8_steps_110 rfl (j := 0) rfl ?_
    refine aw_iconst dX8_steps_111 ?_
    refine aw_putf dX8_steps_112 pf_X8_77 rfl rfl rfl ?_
    refine aw_goto dX8_steps_115 (tgt := 212) rfl ?_
    exact aw_vret dX8_steps_212 rfl h
  · replace h := h.2 c3
    refine aw_aload_n dX8_steps_97 rfl (j := 0) rfl ?_
    refine aw_dup dX8_steps_98 ?_
    refine aw_getf dX8_steps_99 fl_X8_63 rfl rfl rfl ?_
    refine aw_iconst dX8_steps_102 ?_
    refine aw_iadd dX8_steps_103 ?_
    refine aw_putf dX8_steps_104 pf_X8_63 rfl rfl rfl ?_
    refine aw_goto dX8_steps_107 (tgt := 79) rfl ?_
    exact h
theorem sg_X8_takes {d : Nat} {M : am_M} {Q : Option Int → am_M → Prop} {is : Int} (h : (am_r (M 62 14)) ∧
 ((M 62 14 ≠ (-9) →
 Q none M) ∧
 (M 62 14 = (-9) →
 (am_r is) ∧
 ((is = 0 →
 Q none (am_up M 62 14 (M 62 11))) ∧
 (is ≠ 0 →
 AC (d + 3) mX8_steps [.inr 62] M (fun r M5 => r = none ∧
 Q none M5)))))) : AC (d + 4) mX8_takes [.inr 62, .inl is] M Q := by
  refine aw_body (by decide) (Nat.le_of_ble_eq_true rfl) rfl ?_
  refine aw_aload_n dX8_takes_0 rfl (j := 0) rfl ?_
  refine aw_getf dX8_takes_1 fl_X8_84 rfl rfl rfl ?_
  refine aw_bipush dX8_takes_4 (by decide) ?_
  obtain ⟨s1, h⟩ := h
  refine aw_icmp_ne dX8_takes_6 (tgt := 28) rfl s1 (by decide) (fun c2 => ?_) (fun c2 => ?_)
  · replace h := h.1 c2
    exact aw_vret dX8_takes_28 rfl h
  · replace h := h.2 c2
    refine aw_iload_n dX8_takes_9 rfl (j := 1) rfl ?_
    obtain ⟨s3, h⟩ := h
    refine aw_if_eq dX8_takes_10 (tgt := 20) rfl s3 (fun c4 => ?_) (fun c4 => ?_)
    · replace h := h.1 c4
      refine aw_aload_n dX8_takes_20 rfl (j := 0) rfl ?_
      refine aw_aload_n dX8_takes_21 rfl (j := 0) rfl ?_
      refine aw_getf dX8_takes_22 fl_X8_66 rfl rfl rfl ?_
      refine aw_putf dX8_takes_25 pf_X8_84 rfl rfl rfl ?_
      exact aw_vret dX8_takes_28 rfl h
    · replace h := h.2 c4
      refine aw_aload_n dX8_takes_13 rfl (j := 0) rfl ?_
      refine aw_invv (d' := d + 3) (as := []) (rest := []) dX8_takes_14 cv_X8_87 (Nat.lt_succ_self _) rfl rfl rfl rfl rfl (Nat.le_of_ble_eq_true rfl) (AC.mono ?_ h)
      intro r M5 h
      obtain ⟨rfl, h⟩ := h
      show AW (d + 4) mX8_takes 17 [(0, .inr 62), (1, .inl is)] [] M5 Q
      refine aw_goto dX8_takes_17 (tgt := 28) rfl ?_
      exact aw_vret dX8_takes_28 rfl h
theorem sg_X8_readsFrame {d : Nat} {M : am_M} {Q : Option Int → am_M → Prop} (h : ((am_r (M 64 0))) ∧
 AC (d + 4) mX8_takes [.inr 62, .inl (am_b ((M 64 0 < 8)))] M (fun r M3 => r = none ∧
 (((am_r (M3 62 13)) ∧ (M3 62 13 = 5 → ((am_r ((M3 62 12) - (M3 62 11)) ∧ am_r 3 ∧ am_r 12) ∧ (3 ≤ (M3 62 12) - (M3 62 11) ∧ (M3 62 12) - (M3 62 11) ≤ 12 → ((am_r (M3 64 0)) ∧ (M3 64 0 ≠ 0 → ((am_r ((M3 62 12) - (M3 62 11))) ∧ (am_r (M3 64 1)))))))))) ∧
 (am_r (M3 62 14)) ∧
 ((M3 62 14 ≠ (-9) →
 AC (d + 4) mX8_takes [.inr 62, .inl (am_b (((M3 62 13 = 5) ∧ (3 ≤ (M3 62 12) - (M3 62 11) ∧ (M3 62 12) - (M3 62 11) ≤ 12) ∧ (M3 64 0 = 0)) ∨ ((M3 62 13 = 5) ∧ (3 ≤ (M3 62 12) - (M3 62 11) ∧ (M3 62 12) - (M3 62 11) ≤ 12) ∧ (M3 64 0 ≠ 0) ∧ ((M3 62 12) - (M3 62 11) = M3 64 1))))] M3 (fun r M15 => r = none ∧
 Q none M15)) ∧
 (M3 62 14 = (-9) →
 ((¬ (((M3 62 13 = 5) ∧ (3 ≤ (M3 62 12) - (M3 62 11) ∧ (M3 62 12) - (M3 62 11) ≤ 12) ∧ (M3 64 0 = 0)) ∨ ((M3 62 13 = 5) ∧ (3 ≤ (M3 62 12) - (M3 62 11) ∧ (M3 62 12) - (M3 62 11) ≤ 12) ∧ (M3 64 0 ≠ 0) ∧ ((M3 62 12) - (M3 62 11) = M3 64 1))) →
 AC (d + 4) mX8_takes [.inr 62, .inl (am_b (((M3 62 13 = 5) ∧ (3 ≤ (M3 62 12) - (M3 62 11) ∧ (M3 62 12) - (M3 62 11) ≤ 12) ∧ (M3 64 0 = 0)) ∨ ((M3 62 13 = 5) ∧ (3 ≤ (M3 62 12) - (M3 62 11) ∧ (M3 62 12) - (M3 62 11) ≤ 12) ∧ (M3 64 0 ≠ 0) ∧ ((M3 62 12) - (M3 62 11) = M3 64 1))))] M3 (fun r M17 => r = none ∧
 Q none M17)) ∧
 (((M3 62 13 = 5) ∧ (3 ≤ (M3 62 12) - (M3 62 11) ∧ (M3 62 12) - (M3 62 11) ≤ 12) ∧ (M3 64 0 = 0)) ∨ ((M3 62 13 = 5) ∧ (3 ≤ (M3 62 12) - (M3 62 11) ∧ (M3 62 12) - (M3 62 11) ≤ 12) ∧ (M3 64 0 ≠ 0) ∧ ((M3 62 12) - (M3 62 11) = M3 64 1)) →
 AW (d + 5) mX8_readsFrame 95 [(0, .inr 62), (1, .inl ((M3 62 12) - (M3 62 11))), (2, .inl (am_b (((M3 62 13 = 5) ∧ (3 ≤ (M3 62 12) - (M3 62 11) ∧ (M3 62 12) - (M3 62 11) ≤ 12) ∧ (M3 64 0 = 0)) ∨ ((M3 62 13 = 5) ∧ (3 ≤ (M3 62 12) - (M3 62 11) ∧ (M3 62 12) - (M3 62 11) ≤ 12) ∧ (M3 64 0 ≠ 0) ∧ ((M3 62 12) - (M3 62 11) = M3 64 1))))), (3, .inl 0)] [] (am_up M3 64 1 ((M3 62 12) - (M3 62 11))) Q)))))) : AC (d + 5) mX8_readsFrame [.inr 62] M Q := by
  refine aw_body (by decide) (Nat.le_of_ble_eq_true rfl) rfl ?_
  refine aw_aload_n dX8_readsFrame_0 rfl (j := 0) rfl ?_
  refine aw_aload_n dX8_readsFrame_1 rfl (j := 0) rfl ?_
  refine aw_getr dX8_readsFrame_2 fl_X8_13 rfl rfl ?_
  refine aw_iconst dX8_readsFrame_5 ?_
  refine aw_iaload dX8_readsFrame_6 rfl (by decide) ?_
  refine aw_bipush dX8_readsFrame_7 (by decide) ?_
  obtain ⟨g, h⟩ := h
  have K : AW (d + 5) mX8_readsFrame 17 [(0, .inr 62)] [.inl (am_b ((M 64 0 < 8))), .inr 62] M Q := by
    refine aw_invv (d' := d + 4) (as := [.inl (am_b ((M 64 0 < 8)))]) (rest := []) dX8_readsFrame_17 cv_X8_90 (Nat.lt_succ_self _) rfl rfl rfl rfl rfl (Nat.le_of_ble_eq_true rfl) (AC.mono ?_ h)
    intro r M3 h
    obtain ⟨rfl, h⟩ := h
    show AW (d + 5) mX8_readsFrame 20 [(0, .inr 62)] [] M3 Q
    refine aw_aload_n dX8_readsFrame_20 rfl (j := 0) rfl ?_
    refine aw_getf dX8_readsFrame_21 fl_X8_63 rfl rfl rfl ?_
    refine aw_aload_n dX8_readsFrame_24 rfl (j := 0) rfl ?_
    refine aw_getf dX8_readsFrame_25 fl_X8_66 rfl rfl rfl ?_
    refine aw_isub dX8_readsFrame_28 ?_
    refine aw_istore_n (L' := [(0, .inr 62), (1, .inl ((M3 62 12) - (M3 62 11)))]) dX8_readsFrame_29 rfl (Nat.le_of_ble_eq_true rfl) rfl ?_
    refine aw_aload_n dX8_readsFrame_30 rfl (j := 0) rfl ?_
    refine aw_getf dX8_readsFrame_31 fl_X8_77 rfl rfl rfl ?_
    refine aw_iconst dX8_readsFrame_34 ?_
    obtain ⟨g, h⟩ := h
    have K : AW (d + 5) mX8_readsFrame 72 [(0, .inr 62), (1, .inl ((M3 62 12) - (M3 62 11)))] [.inl (am_b (((M3 62 13 = 5) ∧ (3 ≤ (M3 62 12) - (M3 62 11) ∧ (M3 62 12) - (M3 62 11) ≤ 12) ∧ (M3 64 0 = 0)) ∨ ((M3 62 13 = 5) ∧ (3 ≤ (M3 62 12) - (M3 62 11) ∧ (M3 62 12) - (M3 62 11) ≤ 12) ∧ (M3 64 0 ≠ 0) ∧ ((M3 62 12) - (M3 62 11) = M3 64 1))))] M3 Q := by
      refine aw_istore_n (L' := [(0, .inr 62), (1, .inl ((M3 62 12) - (M3 62 11))), (2, .inl (am_b (((M3 62 13 = 5) ∧ (3 ≤ (M3 62 12) - (M3 62 11) ∧ (M3 62 12) - (M3 62 11) ≤ 12) ∧ (M3 64 0 = 0)) ∨ ((M3 62 13 = 5) ∧ (3 ≤ (M3 62 12) - (M3 62 11) ∧ (M3 62 12) - (M3 62 11) ≤ 12) ∧ (M3 64 0 ≠ 0) ∧ ((M3 62 12) - (M3 62 11) = M3 64 1)))))]) dX8_readsFrame_72 rfl (Nat.le_of_ble_eq_true rfl) rfl ?_
      refine aw_aload_n dX8_readsFrame_73 rfl (j := 0) rfl ?_
      refine aw_getf dX8_readsFrame_74 fl_X8_84 rfl rfl rfl ?_
      refine aw_bipush dX8_readsFrame_77 (by decide) ?_
      obtain ⟨s13, h⟩ := h
      refine aw_icmp_ne dX8_readsFrame_79 (tgt := 147) rfl s13 (by decide) (fun c14 => ?_) (fun c14 => ?_)
      · replace h := h.1 c14
        refine aw_aload_n dX8_readsFrame_147 rfl (j := 0) rfl ?_
        refine aw_iload_n dX8_readsFrame_148 rfl (j := 2) rfl ?_
        refine aw_invv (d' := d + 4) (as := [.inl (am_b (((M3 62 13 = 5) ∧ (3 ≤ (M3 62 12) - (M3 62 11) ∧ (M3 62 12) - (M3 62 11) ≤ 12) ∧ (M3 64 0 = 0)) ∨ ((M3 62 13 = 5) ∧ (3 ≤ (M3 62 12) - (M3 62 11) ∧ (M3 62 12) - (M3 62 11) ≤ 12) ∧ (M3 64 0 ≠ 0) ∧ ((M3 62 12) - (M3 62 11) = M3 64 1))))]) (rest := []) dX8_readsFrame_149 cv_X8_90 (Nat.lt_succ_self _) rfl rfl rfl rfl rfl (Nat.le_of_ble_eq_true rfl) (AC.mono ?_ h)
        intro r M15 h
        obtain ⟨rfl, h⟩ := h
        show AW (d + 5) mX8_readsFrame 152 [(0, .inr 62), (1, .inl ((M3 62 12) - (M3 62 11))), (2, .inl (am_b (((M3 62 13 = 5) ∧ (3 ≤ (M3 62 12) - (M3 62 11) ∧ (M3 62 12) - (M3 62 11) ≤ 12) ∧ (M3 64 0 = 0)) ∨ ((M3 62 13 = 5) ∧ (3 ≤ (M3 62 12) - (M3 62 11) ∧ (M3 62 12) - (M3 62 11) ≤ 12) ∧ (M3 64 0 ≠ 0) ∧ ((M3 62 12) - (M3 62 11) = M3 64 1)))))] [] M15 Q
        exact aw_vret dX8_readsFrame_152 rfl h
      · replace h := h.2 c14
        refine aw_iload_n dX8_readsFrame_82 rfl (j := 2) rfl ?_
        refine aw_ifb_eq dX8_readsFrame_83 (tgt := 147) rfl (fun c16 => ?_) (fun c16 => ?_)
        · replace h := h.1 c16
          refine aw_aload_n dX8_readsFrame_147 rfl (j := 0) rfl ?_
          refine aw_iload_n dX8_readsFrame_148 rfl (j := 2) rfl ?_
          refine aw_invv (d' := d + 4) (as := [.inl (am_b (((M3 62 13 = 5) ∧ (3 ≤ (M3 62 12) - (M3 62 11) ∧ (M3 62 12) - (M3 62 11) ≤ 12) ∧ (M3 64 0 = 0)) ∨ ((M3 62 13 = 5) ∧ (3 ≤ (M3 62 12) - (M3 62 11) ∧ (M3 62 12) - (M3 62 11) ≤ 12) ∧ (M3 64 0 ≠ 0) ∧ ((M3 62 12) - (M3 62 11) = M3 64 1))))]) (rest := []) dX8_readsFrame_149 cv_X8_90 (Nat.lt_succ_self _) rfl rfl rfl rfl rfl (Nat.le_of_ble_eq_true rfl) (AC.mono ?_ h)
          intro r M17 h
          obtain ⟨rfl, h⟩ := h
          show AW (d + 5) mX8_readsFrame 152 [(0, .inr 62), (1, .inl ((M3 62 12) - (M3 62 11))), (2, .inl (am_b (((M3 62 13 = 5) ∧ (3 ≤ (M3 62 12) - (M3 62 11) ∧ (M3 62 12) - (M3 62 11) ≤ 12) ∧ (M3 64 0 = 0)) ∨ ((M3 62 13 = 5) ∧ (3 ≤ (M3 62 12) - (M3 62 11) ∧ (M3 62 12) - (M3 62 11) ≤ 12) ∧ (M3 64 0 ≠ 0) ∧ ((M3 62 12) - (M3 62 11) = M3 64 1)))))] [] M17 Q
          exact aw_vret dX8_readsFrame_152 rfl h
        · replace h := h.2 c16
          refine aw_aload_n dX8_readsFrame_86 rfl (j := 0) rfl ?_
          refine aw_getr dX8_readsFrame_87 fl_X8_13 rfl rfl ?_
          refine aw_iconst dX8_readsFrame_90 ?_
          refine aw_iload_n dX8_readsFrame_91 rfl (j := 1) rfl ?_
          refine aw_iastore dX8_readsFrame_92 rfl (by decide) ?_
          refine aw_iconst dX8_readsFrame_93 ?_
          refine aw_istore_n (L' := [(0, .inr 62), (1, .inl ((M3 62 12) - (M3 62 11))), (2, .inl (am_b (((M3 62 13 = 5) ∧ (3 ≤ (M3 62 12) - (M3 62 11) ∧ (M3 62 12) - (M3 62 11) ≤ 12) ∧ (M3 64 0 = 0)) ∨ ((M3 62 13 = 5) ∧ (3 ≤ (M3 62 12) - (M3 62 11) ∧ (M3 62 12) - (M3 62 11) ≤ 12) ∧ (M3 64 0 ≠ 0) ∧ ((M3 62 12) - (M3 62 11) = M3 64 1))))), (3, .inl 0)]) dX8_readsFrame_94 rfl (Nat.le_of_ble_eq_true rfl) rfl ?_
          exact h
    clear h
    obtain ⟨s4, g⟩ := g
    refine aw_icmp_ne dX8_readsFrame_35 (tgt := 71) rfl s4 (by decide) (fun c5 => ?_) (fun c5 => ?_)
    · have c5 : M3 62 13 ≠ 5 := c5
      refine aw_iconst dX8_readsFrame_71 ?_
      have hp : ¬ (((M3 62 13 = 5) ∧ (3 ≤ (M3 62 12) - (M3 62 11) ∧ (M3 62 12) - (M3 62 11) ≤ 12) ∧ (M3 64 0 = 0)) ∨ ((M3 62 13 = 5) ∧ (3 ≤ (M3 62 12) - (M3 62 11) ∧ (M3 62 12) - (M3 62 11) ≤ 12) ∧ (M3 64 0 ≠ 0) ∧ ((M3 62 12) - (M3 62 11) = M3 64 1))) := by first | omega | simp_all
      have K1 := K
      rw [am_b_neg hp] at K1
      exact K1
    · have c5 : M3 62 13 = 5 := c5
      replace g := g c5
      refine aw_iload_n dX8_readsFrame_38 rfl (j := 1) rfl ?_
      refine aw_iconst dX8_readsFrame_39 ?_
      refine aw_bipush dX8_readsFrame_40 (by decide) ?_
      obtain ⟨s6, g⟩ := g
      refine aw_invs (d' := d + 4) (as := [.inl ((M3 62 12) - (M3 62 11)), .inl 3, .inl 12]) (rest := []) dX8_readsFrame_42 cs_X8_56 (Nat.lt_succ_self _) rfl rfl (Nat.le_of_ble_eq_true rfl) (fc_in s6 ?_)
      show AW (d + 5) mX8_readsFrame 45 [(0, .inr 62), (1, .inl ((M3 62 12) - (M3 62 11)))] [.inl (am_b (3 ≤ (M3 62 12) - (M3 62 11) ∧ (M3 62 12) - (M3 62 11) ≤ 12))] M3 Q
      refine aw_ifb_eq dX8_readsFrame_45 (tgt := 71) rfl (fun c7 => ?_) (fun c7 => ?_)
      · have c7 : ¬ (3 ≤ (M3 62 12) - (M3 62 11) ∧ (M3 62 12) - (M3 62 11) ≤ 12) := c7
        refine aw_iconst dX8_readsFrame_71 ?_
        have hp : ¬ (((M3 62 13 = 5) ∧ (3 ≤ (M3 62 12) - (M3 62 11) ∧ (M3 62 12) - (M3 62 11) ≤ 12) ∧ (M3 64 0 = 0)) ∨ ((M3 62 13 = 5) ∧ (3 ≤ (M3 62 12) - (M3 62 11) ∧ (M3 62 12) - (M3 62 11) ≤ 12) ∧ (M3 64 0 ≠ 0) ∧ ((M3 62 12) - (M3 62 11) = M3 64 1))) := by first | omega | simp_all
        have K1 := K
        rw [am_b_neg hp] at K1
        exact K1
      · have c7 : 3 ≤ (M3 62 12) - (M3 62 11) ∧ (M3 62 12) - (M3 62 11) ≤ 12 := c7
        replace g := g c7
        refine aw_aload_n dX8_readsFrame_48 rfl (j := 0) rfl ?_
        refine aw_getr dX8_readsFrame_49 fl_X8_13 rfl rfl ?_
        refine aw_iconst dX8_readsFrame_52 ?_
        refine aw_iaload dX8_readsFrame_53 rfl (by decide) ?_
        obtain ⟨s8, g⟩ := g
        refine aw_if_eq dX8_readsFrame_54 (tgt := 67) rfl s8 (fun c9 => ?_) (fun c9 => ?_)
        · have c9 : M3 64 0 = 0 := c9
          refine aw_iconst dX8_readsFrame_67 ?_
          refine aw_goto dX8_readsFrame_68 (tgt := 72) rfl ?_
          have hp : ((M3 62 13 = 5) ∧ (3 ≤ (M3 62 12) - (M3 62 11) ∧ (M3 62 12) - (M3 62 11) ≤ 12) ∧ (M3 64 0 = 0)) ∨ ((M3 62 13 = 5) ∧ (3 ≤ (M3 62 12) - (M3 62 11) ∧ (M3 62 12) - (M3 62 11) ≤ 12) ∧ (M3 64 0 ≠ 0) ∧ ((M3 62 12) - (M3 62 11) = M3 64 1)) := by first | omega | simp_all
          have K1 := K
          rw [am_b_pos hp] at K1
          exact K1
        · have c9 : M3 64 0 ≠ 0 := c9
          replace g := g c9
          refine aw_iload_n dX8_readsFrame_57 rfl (j := 1) rfl ?_
          refine aw_aload_n dX8_readsFrame_58 rfl (j := 0) rfl ?_
          refine aw_getr dX8_readsFrame_59 fl_X8_13 rfl rfl ?_
          refine aw_iconst dX8_readsFrame_62 ?_
          refine aw_iaload dX8_readsFrame_63 rfl (by decide) ?_
          obtain ⟨s10, g⟩ := g
          have s11 := g
          refine aw_icmp_ne dX8_readsFrame_64 (tgt := 71) rfl s10 s11 (fun c12 => ?_) (fun c12 => ?_)
          · have c12 : (M3 62 12) - (M3 62 11) ≠ M3 64 1 := c12
            refine aw_iconst dX8_readsFrame_71 ?_
            have hp : ¬ (((M3 62 13 = 5) ∧ (3 ≤ (M3 62 12) - (M3 62 11) ∧ (M3 62 12) - (M3 62 11) ≤ 12) ∧ (M3 64 0 = 0)) ∨ ((M3 62 13 = 5) ∧ (3 ≤ (M3 62 12) - (M3 62 11) ∧ (M3 62 12) - (M3 62 11) ≤ 12) ∧ (M3 64 0 ≠ 0) ∧ ((M3 62 12) - (M3 62 11) = M3 64 1))) := by first | omega | simp_all
            have K1 := K
            rw [am_b_neg hp] at K1
            exact K1
          · have c12 : (M3 62 12) - (M3 62 11) = M3 64 1 := c12
            refine aw_iconst dX8_readsFrame_67 ?_
            refine aw_goto dX8_readsFrame_68 (tgt := 72) rfl ?_
            have hp : ((M3 62 13 = 5) ∧ (3 ≤ (M3 62 12) - (M3 62 11) ∧ (M3 62 12) - (M3 62 11) ≤ 12) ∧ (M3 64 0 = 0)) ∨ ((M3 62 13 = 5) ∧ (3 ≤ (M3 62 12) - (M3 62 11) ∧ (M3 62 12) - (M3 62 11) ≤ 12) ∧ (M3 64 0 ≠ 0) ∧ ((M3 62 12) - (M3 62 11) = M3 64 1)) := by first | omega | simp_all
            have K1 := K
            rw [am_b_pos hp] at K1
            exact K1
  clear h
  have s1 := g
  refine aw_icmp_ge dX8_readsFrame_9 (tgt := 16) rfl s1 (by decide) (fun c2 => ?_) (fun c2 => ?_)
  · have c2 : 8 ≤ M 64 0 := c2
    refine aw_iconst dX8_readsFrame_16 ?_
    have hp : ¬ ((M 64 0 < 8)) := by first | omega | simp_all
    have K1 := K
    rw [am_b_neg hp] at K1
    exact K1
  · have c2 : M 64 0 < 8 := c2
    refine aw_iconst dX8_readsFrame_12 ?_
    refine aw_goto dX8_readsFrame_13 (tgt := 17) rfl ?_
    have hp : (M 64 0 < 8) := by first | omega | simp_all
    have K1 := K
    rw [am_b_pos hp] at K1
    exact K1
theorem sg_X8_readsFrame_95 {d : Nat} {M : am_M} {Q : Option Int → am_M → Prop} {n is k : Int} (h : (am_r k) ∧
 (am_r n) ∧
 ((n ≤ k →
 AC (d + 4) mX8_takes [.inr 62, .inl is] (am_up M 64 0 ((M 64 0) + 1)) (fun r M4 => r = none ∧
 Q none M4)) ∧
 (k < n →
 (am_atok (M 62 10) (M 69) ((M 62 11) + k)) ∧
 (0 ≤ (5 + (12 * (M 64 0))) + k ∧ (5 + (12 * (M 64 0))) + k < 101) ∧
 AW (d + 5) mX8_readsFrame 95 [(0, .inr 62), (1, .inl n), (2, .inl is), (3, .inl (k + 1))] [] (am_up M 64 ((5 + (12 * (M 64 0))) + k) ((am_at (M 62 10) (M 69) ((M 62 11) + k)) - 48)) Q))) : AW (d + 5) mX8_readsFrame 95 [(0, .inr 62), (1, .inl n), (2, .inl is), (3, .inl k)] [] M Q := by
  refine aw_iload_n dX8_readsFrame_95 rfl (j := 3) rfl ?_
  refine aw_iload_n dX8_readsFrame_96 rfl (j := 1) rfl ?_
  obtain ⟨s1, h⟩ := h
  obtain ⟨s2, h⟩ := h
  refine aw_icmp_ge dX8_readsFrame_97 (tgt := 137) rfl s1 s2 (fun c3 => ?_) (fun c3 => ?_)
  · replace h := h.1 c3
    refine aw_aload_n dX8_readsFrame_137 rfl (j := 0) rfl ?_
    refine aw_getr dX8_readsFrame_138 fl_X8_13 rfl rfl ?_
    refine aw_iconst dX8_readsFrame_141 ?_
    refine aw_dup2 dX8_readsFrame_142 ?_
    refine aw_iaload dX8_readsFrame_143 rfl (by decide) ?_
    refine aw_iconst dX8_readsFrame_144 ?_
    refine aw_iadd dX8_readsFrame_145 ?_
    refine aw_iastore dX8_readsFrame_146 rfl (by decide) ?_
    refine aw_aload_n dX8_readsFrame_147 rfl (j := 0) rfl ?_
    refine aw_iload_n dX8_readsFrame_148 rfl (j := 2) rfl ?_
    refine aw_invv (d' := d + 4) (as := [.inl is]) (rest := []) dX8_readsFrame_149 cv_X8_90 (Nat.lt_succ_self _) rfl rfl rfl rfl rfl (Nat.le_of_ble_eq_true rfl) (AC.mono ?_ h)
    intro r M4 h
    obtain ⟨rfl, h⟩ := h
    show AW (d + 5) mX8_readsFrame 152 [(0, .inr 62), (1, .inl n), (2, .inl is), (3, .inl k)] [] M4 Q
    exact aw_vret dX8_readsFrame_152 rfl h
  · replace h := h.2 c3
    refine aw_aload_n dX8_readsFrame_100 rfl (j := 0) rfl ?_
    refine aw_getr dX8_readsFrame_101 fl_X8_13 rfl rfl ?_
    refine aw_iconst dX8_readsFrame_104 ?_
    refine aw_bipush dX8_readsFrame_105 (by decide) ?_
    refine aw_aload_n dX8_readsFrame_107 rfl (j := 0) rfl ?_
    refine aw_getr dX8_readsFrame_108 fl_X8_13 rfl rfl ?_
    refine aw_iconst dX8_readsFrame_111 ?_
    refine aw_iaload dX8_readsFrame_112 rfl (by decide) ?_
    refine aw_imul dX8_readsFrame_113 ?_
    refine aw_iadd dX8_readsFrame_114 ?_
    refine aw_iload_n dX8_readsFrame_115 rfl (j := 3) rfl ?_
    refine aw_iadd dX8_readsFrame_116 ?_
    refine aw_aload_n dX8_readsFrame_117 rfl (j := 0) rfl ?_
    refine aw_aload_n dX8_readsFrame_118 rfl (j := 0) rfl ?_
    refine aw_getf dX8_readsFrame_119 fl_X8_66 rfl rfl rfl ?_
    refine aw_iload_n dX8_readsFrame_122 rfl (j := 3) rfl ?_
    refine aw_iadd dX8_readsFrame_123 ?_
    obtain ⟨s5, h⟩ := h
    refine aw_invv (d' := d + 4) (as := [.inl ((M 62 11) + k)]) (rest := [.inl ((5 + (12 * (M 64 0))) + k), .inr 64]) dX8_readsFrame_124 cv_X8_69 (Nat.lt_succ_self _) rfl rfl rfl rfl rfl (Nat.le_of_ble_eq_true rfl) (fc_at s5 ?_)
    show AW (d + 5) mX8_readsFrame 127 [(0, .inr 62), (1, .inl n), (2, .inl is), (3, .inl k)] [.inl (am_at (M 62 10) (M 69) ((M 62 11) + k)), .inl ((5 + (12 * (M 64 0))) + k), .inr 64] M Q
    refine aw_bipush dX8_readsFrame_127 (by decide) ?_
    refine aw_isub dX8_readsFrame_129 ?_
    obtain ⟨s6, h⟩ := h
    refine aw_iastore dX8_readsFrame_130 rfl s6 ?_
    refine aw_iinc (L' := [(0, .inr 62), (1, .inl n), (2, .inl is), (3, .inl (k + 1))]) dX8_readsFrame_131 (j := 3) rfl (Nat.le_of_ble_eq_true rfl) rfl ?_
    refine aw_goto dX8_readsFrame_134 (tgt := 95) rfl ?_
    exact h
theorem sg_X8_readsNumber {d : Nat} {M : am_M} {Q : Option Int → am_M → Prop} {pl lo hi : Int} (h : AC (d + 4) mX8_takes [.inr 62, .inl 1] M (fun r M1 => r = none ∧
 (((am_r ((M1 62 12) - (M1 62 11))) ∧ (((M1 62 12) - (M1 62 11) ≠ 1 → ((am_atok (M1 62 10) (M1 69) (M1 62 11)) ∧ (am_atok (M1 62 10) (M1 69) ((M1 62 11) + 1)))) ∧ ((M1 62 12) - (M1 62 11) = 1 → (am_atok (M1 62 10) (M1 69) (M1 62 11)))))) ∧
 ∀ (v7 : Int), ((M1 62 12) - (M1 62 11) ≠ 1 → v7 = ((10 * ((am_at (M1 62 10) (M1 69) (M1 62 11)) - 48)) + (am_at (M1 62 10) (M1 69) ((M1 62 11) + 1))) - 48) →
 ((M1 62 12) - (M1 62 11) = 1 → v7 = (am_at (M1 62 10) (M1 69) (M1 62 11)) - 48) →
 (((am_r (M1 62 13)) ∧ (M1 62 13 = 5 → ((am_r ((M1 62 12) - (M1 62 11)) ∧ am_r 1 ∧ am_r 2) ∧ (1 ≤ (M1 62 12) - (M1 62 11) ∧ (M1 62 12) - (M1 62 11) ≤ 2 → ((am_r ((M1 62 12) - (M1 62 11))) ∧ (((M1 62 12) - (M1 62 11) = 1 → (am_r v7 ∧ am_r lo ∧ am_r hi)) ∧ ((M1 62 12) - (M1 62 11) ≠ 1 → ((am_atok (M1 62 10) (M1 69) (M1 62 11)) ∧ (am_r (am_at (M1 62 10) (M1 69) (M1 62 11))) ∧ (am_at (M1 62 10) (M1 69) (M1 62 11) ≠ 48 → (am_r v7 ∧ am_r lo ∧ am_r hi))))))))))) ∧
 AC (d + 4) mX8_takes [.inr 62, .inl (am_b (((M1 62 13 = 5) ∧ (1 ≤ (M1 62 12) - (M1 62 11) ∧ (M1 62 12) - (M1 62 11) ≤ 2) ∧ ((M1 62 12) - (M1 62 11) = 1) ∧ (lo ≤ v7 ∧ v7 ≤ hi)) ∨ ((M1 62 13 = 5) ∧ (1 ≤ (M1 62 12) - (M1 62 11) ∧ (M1 62 12) - (M1 62 11) ≤ 2) ∧ ((M1 62 12) - (M1 62 11) ≠ 1) ∧ (am_at (M1 62 10) (M1 69) (M1 62 11) ≠ 48) ∧ (lo ≤ v7 ∧ v7 ≤ hi))))] M1 (fun r M21 => r = none ∧
 (0 ≤ pl ∧ pl < 101) ∧
 Q none (am_up M21 64 pl v7)))) : AC (d + 5) mX8_readsNumber [.inr 62, .inl pl, .inl lo, .inl hi] M Q := by
  refine aw_body (by decide) (Nat.le_of_ble_eq_true rfl) rfl ?_
  refine aw_aload_n dX8_readsNumber_0 rfl (j := 0) rfl ?_
  refine aw_iconst dX8_readsNumber_1 ?_
  refine aw_invv (d' := d + 4) (as := [.inl 1]) (rest := []) dX8_readsNumber_2 cv_X8_90 (Nat.lt_succ_self _) rfl rfl rfl rfl rfl (Nat.le_of_ble_eq_true rfl) (AC.mono ?_ h)
  intro r M1 h
  obtain ⟨rfl, h⟩ := h
  show AW (d + 5) mX8_readsNumber 5 [(0, .inr 62), (1, .inl pl), (2, .inl lo), (3, .inl hi)] [] M1 Q
  refine aw_aload_n dX8_readsNumber_5 rfl (j := 0) rfl ?_
  refine aw_getf dX8_readsNumber_6 fl_X8_63 rfl rfl rfl ?_
  refine aw_aload_n dX8_readsNumber_9 rfl (j := 0) rfl ?_
  refine aw_getf dX8_readsNumber_10 fl_X8_66 rfl rfl rfl ?_
  refine aw_isub dX8_readsNumber_13 ?_
  refine aw_istore (L' := [(0, .inr 62), (1, .inl pl), (2, .inl lo), (3, .inl hi), (4, .inl ((M1 62 12) - (M1 62 11)))]) dX8_readsNumber_14 (Nat.le_of_ble_eq_true rfl) rfl ?_
  refine aw_iload dX8_readsNumber_16 (j := 4) rfl ?_
  refine aw_iconst dX8_readsNumber_18 ?_
  obtain ⟨g, h⟩ := h
  have K : ∀ (v7 : Int), ((M1 62 12) - (M1 62 11) ≠ 1 → v7 = ((10 * ((am_at (M1 62 10) (M1 69) (M1 62 11)) - 48)) + (am_at (M1 62 10) (M1 69) ((M1 62 11) + 1))) - 48) → ((M1 62 12) - (M1 62 11) = 1 → v7 = (am_at (M1 62 10) (M1 69) (M1 62 11)) - 48) → AW (d + 5) mX8_readsNumber 64 [(0, .inr 62), (1, .inl pl), (2, .inl lo), (3, .inl hi), (4, .inl ((M1 62 12) - (M1 62 11)))] [.inl v7] M1 Q := by
    intro v7 q23 q24
    replace h := h v7 q23 q24
    refine aw_istore (L' := [(0, .inr 62), (1, .inl pl), (2, .inl lo), (3, .inl hi), (4, .inl ((M1 62 12) - (M1 62 11))), (5, .inl v7)]) dX8_readsNumber_64 (Nat.le_of_ble_eq_true rfl) rfl ?_
    refine aw_aload_n dX8_readsNumber_66 rfl (j := 0) rfl ?_
    refine aw_aload_n dX8_readsNumber_67 rfl (j := 0) rfl ?_
    refine aw_getf dX8_readsNumber_68 fl_X8_77 rfl rfl rfl ?_
    refine aw_iconst dX8_readsNumber_71 ?_
    obtain ⟨g, h⟩ := h
    have K : AW (d + 5) mX8_readsNumber 119 [(0, .inr 62), (1, .inl pl), (2, .inl lo), (3, .inl hi), (4, .inl ((M1 62 12) - (M1 62 11))), (5, .inl v7)] [.inl (am_b (((M1 62 13 = 5) ∧ (1 ≤ (M1 62 12) - (M1 62 11) ∧ (M1 62 12) - (M1 62 11) ≤ 2) ∧ ((M1 62 12) - (M1 62 11) = 1) ∧ (lo ≤ v7 ∧ v7 ≤ hi)) ∨ ((M1 62 13 = 5) ∧ (1 ≤ (M1 62 12) - (M1 62 11) ∧ (M1 62 12) - (M1 62 11) ≤ 2) ∧ ((M1 62 12) - (M1 62 11) ≠ 1) ∧ (am_at (M1 62 10) (M1 69) (M1 62 11) ≠ 48) ∧ (lo ≤ v7 ∧ v7 ≤ hi)))), .inr 62] M1 Q := by
      refine aw_invv (d' := d + 4) (as := [.inl (am_b (((M1 62 13 = 5) ∧ (1 ≤ (M1 62 12) - (M1 62 11) ∧ (M1 62 12) - (M1 62 11) ≤ 2) ∧ ((M1 62 12) - (M1 62 11) = 1) ∧ (lo ≤ v7 ∧ v7 ≤ hi)) ∨ ((M1 62 13 = 5) ∧ (1 ≤ (M1 62 12) - (M1 62 11) ∧ (M1 62 12) - (M1 62 11) ≤ 2) ∧ ((M1 62 12) - (M1 62 11) ≠ 1) ∧ (am_at (M1 62 10) (M1 69) (M1 62 11) ≠ 48) ∧ (lo ≤ v7 ∧ v7 ≤ hi))))]) (rest := []) dX8_readsNumber_119 cv_X8_90 (Nat.lt_succ_self _) rfl rfl rfl rfl rfl (Nat.le_of_ble_eq_true rfl) (AC.mono ?_ h)
      intro r M21 h
      obtain ⟨rfl, h⟩ := h
      show AW (d + 5) mX8_readsNumber 122 [(0, .inr 62), (1, .inl pl), (2, .inl lo), (3, .inl hi), (4, .inl ((M1 62 12) - (M1 62 11))), (5, .inl v7)] [] M21 Q
      refine aw_aload_n dX8_readsNumber_122 rfl (j := 0) rfl ?_
      refine aw_getr dX8_readsNumber_123 fl_X8_13 rfl rfl ?_
      refine aw_iload_n dX8_readsNumber_126 rfl (j := 1) rfl ?_
      refine aw_iload dX8_readsNumber_127 (j := 5) rfl ?_
      obtain ⟨s22, h⟩ := h
      refine aw_iastore dX8_readsNumber_129 rfl s22 ?_
      exact aw_vret dX8_readsNumber_130 rfl h
    clear h
    obtain ⟨s8, g⟩ := g
    refine aw_icmp_ne dX8_readsNumber_72 (tgt := 118) rfl s8 (by decide) (fun c9 => ?_) (fun c9 => ?_)
    · have c9 : M1 62 13 ≠ 5 := c9
      refine aw_iconst dX8_readsNumber_118 ?_
      have hp : ¬ (((M1 62 13 = 5) ∧ (1 ≤ (M1 62 12) - (M1 62 11) ∧ (M1 62 12) - (M1 62 11) ≤ 2) ∧ ((M1 62 12) - (M1 62 11) = 1) ∧ (lo ≤ v7 ∧ v7 ≤ hi)) ∨ ((M1 62 13 = 5) ∧ (1 ≤ (M1 62 12) - (M1 62 11) ∧ (M1 62 12) - (M1 62 11) ≤ 2) ∧ ((M1 62 12) - (M1 62 11) ≠ 1) ∧ (am_at (M1 62 10) (M1 69) (M1 62 11) ≠ 48) ∧ (lo ≤ v7 ∧ v7 ≤ hi))) := by first | omega | simp_all
      have K1 := K
      rw [am_b_neg hp] at K1
      exact K1
    · have c9 : M1 62 13 = 5 := c9
      replace g := g c9
      refine aw_iload dX8_readsNumber_75 (j := 4) rfl ?_
      refine aw_iconst dX8_readsNumber_77 ?_
      refine aw_iconst dX8_readsNumber_78 ?_
      obtain ⟨s10, g⟩ := g
      refine aw_invs (d' := d + 4) (as := [.inl ((M1 62 12) - (M1 62 11)), .inl 1, .inl 2]) (rest := [.inr 62]) dX8_readsNumber_79 cs_X8_56 (Nat.lt_succ_self _) rfl rfl (Nat.le_of_ble_eq_true rfl) (fc_in s10 ?_)
      show AW (d + 5) mX8_readsNumber 82 [(0, .inr 62), (1, .inl pl), (2, .inl lo), (3, .inl hi), (4, .inl ((M1 62 12) - (M1 62 11))), (5, .inl v7)] [.inl (am_b (1 ≤ (M1 62 12) - (M1 62 11) ∧ (M1 62 12) - (M1 62 11) ≤ 2)), .inr 62] M1 Q
      refine aw_ifb_eq dX8_readsNumber_82 (tgt := 118) rfl (fun c11 => ?_) (fun c11 => ?_)
      · have c11 : ¬ (1 ≤ (M1 62 12) - (M1 62 11) ∧ (M1 62 12) - (M1 62 11) ≤ 2) := c11
        refine aw_iconst dX8_readsNumber_118 ?_
        have hp : ¬ (((M1 62 13 = 5) ∧ (1 ≤ (M1 62 12) - (M1 62 11) ∧ (M1 62 12) - (M1 62 11) ≤ 2) ∧ ((M1 62 12) - (M1 62 11) = 1) ∧ (lo ≤ v7 ∧ v7 ≤ hi)) ∨ ((M1 62 13 = 5) ∧ (1 ≤ (M1 62 12) - (M1 62 11) ∧ (M1 62 12) - (M1 62 11) ≤ 2) ∧ ((M1 62 12) - (M1 62 11) ≠ 1) ∧ (am_at (M1 62 10) (M1 69) (M1 62 11) ≠ 48) ∧ (lo ≤ v7 ∧ v7 ≤ hi))) := by first | omega | simp_all
        have K1 := K
        rw [am_b_neg hp] at K1
        exact K1
      · have c11 : 1 ≤ (M1 62 12) - (M1 62 11) ∧ (M1 62 12) - (M1 62 11) ≤ 2 := c11
        replace g := g c11
        refine aw_iload dX8_readsNumber_85 (j := 4) rfl ?_
        refine aw_iconst dX8_readsNumber_87 ?_
        obtain ⟨s12, g⟩ := g
        refine aw_icmp_eq dX8_readsNumber_88 (tgt := 104) rfl s12 (by decide) (fun c13 => ?_) (fun c13 => ?_)
        · have c13 : (M1 62 12) - (M1 62 11) = 1 := c13
          replace g := g.1 c13
          refine aw_iload dX8_readsNumber_104 (j := 5) rfl ?_
          refine aw_iload_n dX8_readsNumber_106 rfl (j := 2) rfl ?_
          refine aw_iload_n dX8_readsNumber_107 rfl (j := 3) rfl ?_
          have s14 := g
          refine aw_invs (d' := d + 4) (as := [.inl v7, .inl lo, .inl hi]) (rest := [.inr 62]) dX8_readsNumber_108 cs_X8_56 (Nat.lt_succ_self _) rfl rfl (Nat.le_of_ble_eq_true rfl) (fc_in s14 ?_)
          show AW (d + 5) mX8_readsNumber 111 [(0, .inr 62), (1, .inl pl), (2, .inl lo), (3, .inl hi), (4, .inl ((M1 62 12) - (M1 62 11))), (5, .inl v7)] [.inl (am_b (lo ≤ v7 ∧ v7 ≤ hi)), .inr 62] M1 Q
          refine aw_ifb_eq dX8_readsNumber_111 (tgt := 118) rfl (fun c15 => ?_) (fun c15 => ?_)
          · have c15 : ¬ (lo ≤ v7 ∧ v7 ≤ hi) := c15
            refine aw_iconst dX8_readsNumber_118 ?_
            have hp : ¬ (((M1 62 13 = 5) ∧ (1 ≤ (M1 62 12) - (M1 62 11) ∧ (M1 62 12) - (M1 62 11) ≤ 2) ∧ ((M1 62 12) - (M1 62 11) = 1) ∧ (lo ≤ v7 ∧ v7 ≤ hi)) ∨ ((M1 62 13 = 5) ∧ (1 ≤ (M1 62 12) - (M1 62 11) ∧ (M1 62 12) - (M1 62 11) ≤ 2) ∧ ((M1 62 12) - (M1 62 11) ≠ 1) ∧ (am_at (M1 62 10) (M1 69) (M1 62 11) ≠ 48) ∧ (lo ≤ v7 ∧ v7 ≤ hi))) := by first | omega | simp_all
            have K1 := K
            rw [am_b_neg hp] at K1
            exact K1
          · have c15 : lo ≤ v7 ∧ v7 ≤ hi := c15
            refine aw_iconst dX8_readsNumber_114 ?_
            refine aw_goto dX8_readsNumber_115 (tgt := 119) rfl ?_
            have hp : ((M1 62 13 = 5) ∧ (1 ≤ (M1 62 12) - (M1 62 11) ∧ (M1 62 12) - (M1 62 11) ≤ 2) ∧ ((M1 62 12) - (M1 62 11) = 1) ∧ (lo ≤ v7 ∧ v7 ≤ hi)) ∨ ((M1 62 13 = 5) ∧ (1 ≤ (M1 62 12) - (M1 62 11) ∧ (M1 62 12) - (M1 62 11) ≤ 2) ∧ ((M1 62 12) - (M1 62 11) ≠ 1) ∧ (am_at (M1 62 10) (M1 69) (M1 62 11) ≠ 48) ∧ (lo ≤ v7 ∧ v7 ≤ hi)) := by first | omega | simp_all
            have K1 := K
            rw [am_b_pos hp] at K1
            exact K1
        · have c13 : (M1 62 12) - (M1 62 11) ≠ 1 := c13
          replace g := g.2 c13
          refine aw_aload_n dX8_readsNumber_91 rfl (j := 0) rfl ?_
          refine aw_aload_n dX8_readsNumber_92 rfl (j := 0) rfl ?_
          refine aw_getf dX8_readsNumber_93 fl_X8_66 rfl rfl rfl ?_
          obtain ⟨s16, g⟩ := g
          refine aw_invv (d' := d + 4) (as := [.inl (M1 62 11)]) (rest := [.inr 62]) dX8_readsNumber_96 cv_X8_69 (Nat.lt_succ_self _) rfl rfl rfl rfl rfl (Nat.le_of_ble_eq_true rfl) (fc_at s16 ?_)
          show AW (d + 5) mX8_readsNumber 99 [(0, .inr 62), (1, .inl pl), (2, .inl lo), (3, .inl hi), (4, .inl ((M1 62 12) - (M1 62 11))), (5, .inl v7)] [.inl (am_at (M1 62 10) (M1 69) (M1 62 11)), .inr 62] M1 Q
          refine aw_bipush dX8_readsNumber_99 (by decide) ?_
          obtain ⟨s17, g⟩ := g
          refine aw_icmp_eq dX8_readsNumber_101 (tgt := 118) rfl s17 (by decide) (fun c18 => ?_) (fun c18 => ?_)
          · have c18 : am_at (M1 62 10) (M1 69) (M1 62 11) = 48 := c18
            refine aw_iconst dX8_readsNumber_118 ?_
            have hp : ¬ (((M1 62 13 = 5) ∧ (1 ≤ (M1 62 12) - (M1 62 11) ∧ (M1 62 12) - (M1 62 11) ≤ 2) ∧ ((M1 62 12) - (M1 62 11) = 1) ∧ (lo ≤ v7 ∧ v7 ≤ hi)) ∨ ((M1 62 13 = 5) ∧ (1 ≤ (M1 62 12) - (M1 62 11) ∧ (M1 62 12) - (M1 62 11) ≤ 2) ∧ ((M1 62 12) - (M1 62 11) ≠ 1) ∧ (am_at (M1 62 10) (M1 69) (M1 62 11) ≠ 48) ∧ (lo ≤ v7 ∧ v7 ≤ hi))) := by first | omega | simp_all
            have K1 := K
            rw [am_b_neg hp] at K1
            exact K1
          · have c18 : am_at (M1 62 10) (M1 69) (M1 62 11) ≠ 48 := c18
            replace g := g c18
            refine aw_iload dX8_readsNumber_104 (j := 5) rfl ?_
            refine aw_iload_n dX8_readsNumber_106 rfl (j := 2) rfl ?_
            refine aw_iload_n dX8_readsNumber_107 rfl (j := 3) rfl ?_
            have s19 := g
            refine aw_invs (d' := d + 4) (as := [.inl v7, .inl lo, .inl hi]) (rest := [.inr 62]) dX8_readsNumber_108 cs_X8_56 (Nat.lt_succ_self _) rfl rfl (Nat.le_of_ble_eq_true rfl) (fc_in s19 ?_)
            show AW (d + 5) mX8_readsNumber 111 [(0, .inr 62), (1, .inl pl), (2, .inl lo), (3, .inl hi), (4, .inl ((M1 62 12) - (M1 62 11))), (5, .inl v7)] [.inl (am_b (lo ≤ v7 ∧ v7 ≤ hi)), .inr 62] M1 Q
            refine aw_ifb_eq dX8_readsNumber_111 (tgt := 118) rfl (fun c20 => ?_) (fun c20 => ?_)
            · have c20 : ¬ (lo ≤ v7 ∧ v7 ≤ hi) := c20
              refine aw_iconst dX8_readsNumber_118 ?_
              have hp : ¬ (((M1 62 13 = 5) ∧ (1 ≤ (M1 62 12) - (M1 62 11) ∧ (M1 62 12) - (M1 62 11) ≤ 2) ∧ ((M1 62 12) - (M1 62 11) = 1) ∧ (lo ≤ v7 ∧ v7 ≤ hi)) ∨ ((M1 62 13 = 5) ∧ (1 ≤ (M1 62 12) - (M1 62 11) ∧ (M1 62 12) - (M1 62 11) ≤ 2) ∧ ((M1 62 12) - (M1 62 11) ≠ 1) ∧ (am_at (M1 62 10) (M1 69) (M1 62 11) ≠ 48) ∧ (lo ≤ v7 ∧ v7 ≤ hi))) := by first | omega | simp_all
              have K1 := K
              rw [am_b_neg hp] at K1
              exact K1
            · have c20 : lo ≤ v7 ∧ v7 ≤ hi := c20
              refine aw_iconst dX8_readsNumber_114 ?_
              refine aw_goto dX8_readsNumber_115 (tgt := 119) rfl ?_
              have hp : ((M1 62 13 = 5) ∧ (1 ≤ (M1 62 12) - (M1 62 11) ∧ (M1 62 12) - (M1 62 11) ≤ 2) ∧ ((M1 62 12) - (M1 62 11) = 1) ∧ (lo ≤ v7 ∧ v7 ≤ hi)) ∨ ((M1 62 13 = 5) ∧ (1 ≤ (M1 62 12) - (M1 62 11) ∧ (M1 62 12) - (M1 62 11) ≤ 2) ∧ ((M1 62 12) - (M1 62 11) ≠ 1) ∧ (am_at (M1 62 10) (M1 69) (M1 62 11) ≠ 48) ∧ (lo ≤ v7 ∧ v7 ≤ hi)) := by first | omega | simp_all
              have K1 := K
              rw [am_b_pos hp] at K1
              exact K1
  clear h
  obtain ⟨s2, g⟩ := g
  refine aw_icmp_ne dX8_readsNumber_19 (tgt := 36) rfl s2 (by decide) (fun c3 => ?_) (fun c3 => ?_)
  · have c3 : (M1 62 12) - (M1 62 11) ≠ 1 := c3
    replace g := g.1 c3
    refine aw_bipush dX8_readsNumber_36 (by decide) ?_
    refine aw_aload_n dX8_readsNumber_38 rfl (j := 0) rfl ?_
    refine aw_aload_n dX8_readsNumber_39 rfl (j := 0) rfl ?_
    refine aw_getf dX8_readsNumber_40 fl_X8_66 rfl rfl rfl ?_
    obtain ⟨s4, g⟩ := g
    refine aw_invv (d' := d + 4) (as := [.inl (M1 62 11)]) (rest := [.inl 10]) dX8_readsNumber_43 cv_X8_69 (Nat.lt_succ_self _) rfl rfl rfl rfl rfl (Nat.le_of_ble_eq_true rfl) (fc_at s4 ?_)
    show AW (d + 5) mX8_readsNumber 46 [(0, .inr 62), (1, .inl pl), (2, .inl lo), (3, .inl hi), (4, .inl ((M1 62 12) - (M1 62 11)))] [.inl (am_at (M1 62 10) (M1 69) (M1 62 11)), .inl 10] M1 Q
    refine aw_bipush dX8_readsNumber_46 (by decide) ?_
    refine aw_isub dX8_readsNumber_48 ?_
    refine aw_imul dX8_readsNumber_49 ?_
    refine aw_aload_n dX8_readsNumber_50 rfl (j := 0) rfl ?_
    refine aw_aload_n dX8_readsNumber_51 rfl (j := 0) rfl ?_
    refine aw_getf dX8_readsNumber_52 fl_X8_66 rfl rfl rfl ?_
    refine aw_iconst dX8_readsNumber_55 ?_
    refine aw_iadd dX8_readsNumber_56 ?_
    have s5 := g
    refine aw_invv (d' := d + 4) (as := [.inl ((M1 62 11) + 1)]) (rest := [.inl (10 * ((am_at (M1 62 10) (M1 69) (M1 62 11)) - 48))]) dX8_readsNumber_57 cv_X8_69 (Nat.lt_succ_self _) rfl rfl rfl rfl rfl (Nat.le_of_ble_eq_true rfl) (fc_at s5 ?_)
    show AW (d + 5) mX8_readsNumber 60 [(0, .inr 62), (1, .inl pl), (2, .inl lo), (3, .inl hi), (4, .inl ((M1 62 12) - (M1 62 11)))] [.inl (am_at (M1 62 10) (M1 69) ((M1 62 11) + 1)), .inl (10 * ((am_at (M1 62 10) (M1 69) (M1 62 11)) - 48))] M1 Q
    refine aw_iadd dX8_readsNumber_60 ?_
    refine aw_bipush dX8_readsNumber_61 (by decide) ?_
    refine aw_isub dX8_readsNumber_63 ?_
    exact K (((10 * ((am_at (M1 62 10) (M1 69) (M1 62 11)) - 48)) + (am_at (M1 62 10) (M1 69) ((M1 62 11) + 1))) - 48) (fun _ => rfl) (fun q0 => by first | omega | exact absurd c3 q0 | exact absurd q0 c3)
  · have c3 : (M1 62 12) - (M1 62 11) = 1 := c3
    replace g := g.2 c3
    refine aw_aload_n dX8_readsNumber_22 rfl (j := 0) rfl ?_
    refine aw_aload_n dX8_readsNumber_23 rfl (j := 0) rfl ?_
    refine aw_getf dX8_readsNumber_24 fl_X8_66 rfl rfl rfl ?_
    have s6 := g
    refine aw_invv (d' := d + 4) (as := [.inl (M1 62 11)]) (rest := []) dX8_readsNumber_27 cv_X8_69 (Nat.lt_succ_self _) rfl rfl rfl rfl rfl (Nat.le_of_ble_eq_true rfl) (fc_at s6 ?_)
    show AW (d + 5) mX8_readsNumber 30 [(0, .inr 62), (1, .inl pl), (2, .inl lo), (3, .inl hi), (4, .inl ((M1 62 12) - (M1 62 11)))] [.inl (am_at (M1 62 10) (M1 69) (M1 62 11))] M1 Q
    refine aw_bipush dX8_readsNumber_30 (by decide) ?_
    refine aw_isub dX8_readsNumber_32 ?_
    refine aw_goto dX8_readsNumber_33 (tgt := 64) rfl ?_
    exact K ((am_at (M1 62 10) (M1 69) (M1 62 11)) - 48) (fun q0 => by first | omega | exact absurd c3 q0 | exact absurd q0 c3) (fun _ => rfl)
theorem sg_X8_reads {d : Nat} {M : am_M} {Q : Option Int → am_M → Prop} (h : AC (d + 5) mX8_plain [.inr 64] M (fun r M1 => r = none ∧
 AC (d + 5) mX8_steps [.inr 62] (am_up (am_up M1 62 14 (-9)) 62 12 0) (fun r M2 => r = none ∧
 AW (d + 6) mX8_reads 24 [(0, .inr 62), (1, .inl 0)] [] M2 Q))) : AC (d + 6) mX8_reads [.inr 62] M Q := by
  refine aw_body (by decide) (Nat.le_of_ble_eq_true rfl) rfl ?_
  refine aw_aload_n dX8_reads_0 rfl (j := 0) rfl ?_
  refine aw_getr dX8_reads_1 fl_X8_13 rfl rfl ?_
  refine aw_invs (d' := d + 5) (as := [.inr 64]) (rest := []) dX8_reads_4 cs_X8_48 (Nat.lt_succ_self _) rfl rfl (Nat.le_of_ble_eq_true rfl) (AC.mono ?_ h)
  intro r M1 h
  obtain ⟨rfl, h⟩ := h
  show AW (d + 6) mX8_reads 7 [(0, .inr 62)] [] M1 Q
  refine aw_aload_n dX8_reads_7 rfl (j := 0) rfl ?_
  refine aw_bipush dX8_reads_8 (by decide) ?_
  refine aw_putf dX8_reads_10 pf_X8_84 rfl rfl rfl ?_
  refine aw_aload_n dX8_reads_13 rfl (j := 0) rfl ?_
  refine aw_iconst dX8_reads_14 ?_
  refine aw_putf dX8_reads_15 pf_X8_63 rfl rfl rfl ?_
  refine aw_aload_n dX8_reads_18 rfl (j := 0) rfl ?_
  refine aw_invv (d' := d + 5) (as := []) (rest := []) dX8_reads_19 cv_X8_87 (Nat.lt_succ_self _) rfl rfl rfl rfl rfl (Nat.le_of_ble_eq_true rfl) (AC.mono ?_ h)
  intro r M2 h
  obtain ⟨rfl, h⟩ := h
  show AW (d + 6) mX8_reads 22 [(0, .inr 62)] [] M2 Q
  refine aw_iconst dX8_reads_22 ?_
  refine aw_istore_n (L' := [(0, .inr 62), (1, .inl 0)]) dX8_reads_23 rfl (Nat.le_of_ble_eq_true rfl) rfl ?_
  exact h
theorem sg_X8_reads_24 {d : Nat} {M : am_M} {Q : Option Int → am_M → Prop} {it : Int} (h : (am_r (M 62 14)) ∧
 ((M 62 14 ≠ (-9) →
 ((am_r (M 64 0))) ∧
 AC (d + 5) mX8_takes [.inr 62, .inl (am_b ((0 < M 64 0)))] M (fun r M5 => r = none ∧
 Q (some it) M5)) ∧
 (M 62 14 = (-9) →
 (am_r (M 62 13)) ∧
 ((M 62 13 = 0 →
 ((am_r (M 64 0))) ∧
 AC (d + 5) mX8_takes [.inr 62, .inl (am_b ((0 < M 64 0)))] M (fun r M10 => r = none ∧
 Q (some it) M10)) ∧
 (M 62 13 ≠ 0 →
 ((M 62 13 < 1 ∨ 4 < M 62 13 →
 AC (d + 5) mX8_takes [.inr 62, .inl 0] M (fun r M11 => r = none ∧
 ((am_r (M11 62 13))) ∧
 AC (d + 5) mX8_takes [.inr 62, .inl (am_b ((M11 62 13 = 6)))] M11 (fun r M14 => r = none ∧
 AW (d + 6) mX8_reads 24 [(0, .inr 62), (1, .inl (it + 1))] [] M14 Q))) ∧
 (M 62 13 = 1 →
 AC (d + 5) mX8_readsFrame [.inr 62] M (fun r M15 => r = none ∧
 ((am_r (M15 62 13))) ∧
 AC (d + 5) mX8_takes [.inr 62, .inl (am_b ((M15 62 13 = 6)))] M15 (fun r M18 => r = none ∧
 AW (d + 6) mX8_reads 24 [(0, .inr 62), (1, .inl (it + 1))] [] M18 Q))) ∧
 (M 62 13 = 2 →
 AC (d + 5) mX8_readsNumber [.inr 62, .inl 2, .inl 1, .inl 9] M (fun r M19 => r = none ∧
 ((am_r (M19 62 13))) ∧
 AC (d + 5) mX8_takes [.inr 62, .inl (am_b ((M19 62 13 = 6)))] M19 (fun r M22 => r = none ∧
 AW (d + 6) mX8_reads 24 [(0, .inr 62), (1, .inl (it + 1))] [] M22 Q))) ∧
 (M 62 13 = 3 →
 AC (d + 5) mX8_readsNumber [.inr 62, .inl 3, .inl 0, .inl 20] M (fun r M23 => r = none ∧
 ((am_r (M23 62 13))) ∧
 AC (d + 5) mX8_takes [.inr 62, .inl (am_b ((M23 62 13 = 6)))] M23 (fun r M26 => r = none ∧
 AW (d + 6) mX8_reads 24 [(0, .inr 62), (1, .inl (it + 1))] [] M26 Q))) ∧
 (M 62 13 = 4 →
 AC (d + 5) mX8_readsNumber [.inr 62, .inl 4, .inl 1, .inl 8] M (fun r M27 => r = none ∧
 ((am_r (M27 62 13))) ∧
 AC (d + 5) mX8_takes [.inr 62, .inl (am_b ((M27 62 13 = 6)))] M27 (fun r M30 => r = none ∧
 AW (d + 6) mX8_reads 24 [(0, .inr 62), (1, .inl (it + 1))] [] M30 Q))))))))) : AW (d + 6) mX8_reads 24 [(0, .inr 62), (1, .inl it)] [] M Q := by
  refine aw_aload_n dX8_reads_24 rfl (j := 0) rfl ?_
  refine aw_getf dX8_reads_25 fl_X8_84 rfl rfl rfl ?_
  refine aw_bipush dX8_reads_28 (by decide) ?_
  obtain ⟨s1, h⟩ := h
  refine aw_icmp_ne dX8_reads_30 (tgt := 145) rfl s1 (by decide) (fun c2 => ?_) (fun c2 => ?_)
  · replace h := h.1 c2
    refine aw_aload_n dX8_reads_145 rfl (j := 0) rfl ?_
    refine aw_aload_n dX8_reads_146 rfl (j := 0) rfl ?_
    refine aw_getr dX8_reads_147 fl_X8_13 rfl rfl ?_
    refine aw_iconst dX8_reads_150 ?_
    refine aw_iaload dX8_reads_151 rfl (by decide) ?_
    obtain ⟨g, h⟩ := h
    have K : AW (d + 6) mX8_reads 160 [(0, .inr 62), (1, .inl it)] [.inl (am_b ((0 < M 64 0))), .inr 62] M Q := by
      refine aw_invv (d' := d + 5) (as := [.inl (am_b ((0 < M 64 0)))]) (rest := []) dX8_reads_160 cv_X8_90 (Nat.lt_succ_self _) rfl rfl rfl rfl rfl (Nat.le_of_ble_eq_true rfl) (AC.mono ?_ h)
      intro r M5 h
      obtain ⟨rfl, h⟩ := h
      show AW (d + 6) mX8_reads 163 [(0, .inr 62), (1, .inl it)] [] M5 Q
      refine aw_iload_n dX8_reads_163 rfl (j := 1) rfl ?_
      exact aw_iret dX8_reads_164 rfl h
    clear h
    have s3 := g
    refine aw_if_le dX8_reads_152 (tgt := 159) rfl s3 (fun c4 => ?_) (fun c4 => ?_)
    · have c4 : M 64 0 ≤ 0 := c4
      refine aw_iconst dX8_reads_159 ?_
      have hp : ¬ ((0 < M 64 0)) := by first | omega | simp_all
      have K1 := K
      rw [am_b_neg hp] at K1
      exact K1
    · have c4 : 0 < M 64 0 := c4
      refine aw_iconst dX8_reads_155 ?_
      refine aw_goto dX8_reads_156 (tgt := 160) rfl ?_
      have hp : (0 < M 64 0) := by first | omega | simp_all
      have K1 := K
      rw [am_b_pos hp] at K1
      exact K1
  · replace h := h.2 c2
    refine aw_aload_n dX8_reads_33 rfl (j := 0) rfl ?_
    refine aw_getf dX8_reads_34 fl_X8_77 rfl rfl rfl ?_
    obtain ⟨s6, h⟩ := h
    refine aw_if_eq dX8_reads_37 (tgt := 145) rfl s6 (fun c7 => ?_) (fun c7 => ?_)
    · replace h := h.1 c7
      refine aw_aload_n dX8_reads_145 rfl (j := 0) rfl ?_
      refine aw_aload_n dX8_reads_146 rfl (j := 0) rfl ?_
      refine aw_getr dX8_reads_147 fl_X8_13 rfl rfl ?_
      refine aw_iconst dX8_reads_150 ?_
      refine aw_iaload dX8_reads_151 rfl (by decide) ?_
      obtain ⟨g, h⟩ := h
      have K : AW (d + 6) mX8_reads 160 [(0, .inr 62), (1, .inl it)] [.inl (am_b ((0 < M 64 0))), .inr 62] M Q := by
        refine aw_invv (d' := d + 5) (as := [.inl (am_b ((0 < M 64 0)))]) (rest := []) dX8_reads_160 cv_X8_90 (Nat.lt_succ_self _) rfl rfl rfl rfl rfl (Nat.le_of_ble_eq_true rfl) (AC.mono ?_ h)
        intro r M10 h
        obtain ⟨rfl, h⟩ := h
        show AW (d + 6) mX8_reads 163 [(0, .inr 62), (1, .inl it)] [] M10 Q
        refine aw_iload_n dX8_reads_163 rfl (j := 1) rfl ?_
        exact aw_iret dX8_reads_164 rfl h
      clear h
      have s8 := g
      refine aw_if_le dX8_reads_152 (tgt := 159) rfl s8 (fun c9 => ?_) (fun c9 => ?_)
      · have c9 : M 64 0 ≤ 0 := c9
        refine aw_iconst dX8_reads_159 ?_
        have hp : ¬ ((0 < M 64 0)) := by first | omega | simp_all
        have K1 := K
        rw [am_b_neg hp] at K1
        exact K1
      · have c9 : 0 < M 64 0 := c9
        refine aw_iconst dX8_reads_155 ?_
        refine aw_goto dX8_reads_156 (tgt := 160) rfl ?_
        have hp : (0 < M 64 0) := by first | omega | simp_all
        have K1 := K
        rw [am_b_pos hp] at K1
        exact K1
    · replace h := h.2 c7
      refine aw_aload_n dX8_reads_40 rfl (j := 0) rfl ?_
      refine aw_getf dX8_reads_41 fl_X8_77 rfl rfl rfl ?_
      refine aw_tsw [76, 83, 94, 105] dX8_reads_44 (tgt := 116) rfl (by decide) (by decide) s6 (fun c => ?_) (fun j t hj hx => ?_)
      · replace h := h.1 c
        refine aw_aload_n dX8_reads_116 rfl (j := 0) rfl ?_
        refine aw_iconst dX8_reads_117 ?_
        refine aw_invv (d' := d + 5) (as := [.inl 0]) (rest := []) dX8_reads_118 cv_X8_90 (Nat.lt_succ_self _) rfl rfl rfl rfl rfl (Nat.le_of_ble_eq_true rfl) (AC.mono ?_ h)
        intro r M11 h
        obtain ⟨rfl, h⟩ := h
        show AW (d + 6) mX8_reads 121 [(0, .inr 62), (1, .inl it)] [] M11 Q
        refine aw_aload_n dX8_reads_121 rfl (j := 0) rfl ?_
        refine aw_aload_n dX8_reads_122 rfl (j := 0) rfl ?_
        refine aw_getf dX8_reads_123 fl_X8_77 rfl rfl rfl ?_
        refine aw_bipush dX8_reads_126 (by decide) ?_
        obtain ⟨g, h⟩ := h
        have K : AW (d + 6) mX8_reads 136 [(0, .inr 62), (1, .inl it)] [.inl (am_b ((M11 62 13 = 6))), .inr 62] M11 Q := by
          refine aw_invv (d' := d + 5) (as := [.inl (am_b ((M11 62 13 = 6)))]) (rest := []) dX8_reads_136 cv_X8_90 (Nat.lt_succ_self _) rfl rfl rfl rfl rfl (Nat.le_of_ble_eq_true rfl) (AC.mono ?_ h)
          intro r M14 h
          obtain ⟨rfl, h⟩ := h
          show AW (d + 6) mX8_reads 139 [(0, .inr 62), (1, .inl it)] [] M14 Q
          refine aw_iinc (L' := [(0, .inr 62), (1, .inl (it + 1))]) dX8_reads_139 (j := 1) rfl (Nat.le_of_ble_eq_true rfl) rfl ?_
          refine aw_goto dX8_reads_142 (tgt := 24) rfl ?_
          exact h
        clear h
        have s12 := g
        refine aw_icmp_ne dX8_reads_128 (tgt := 135) rfl s12 (by decide) (fun c13 => ?_) (fun c13 => ?_)
        · have c13 : M11 62 13 ≠ 6 := c13
          refine aw_iconst dX8_reads_135 ?_
          have hp : ¬ ((M11 62 13 = 6)) := by first | omega | simp_all
          have K1 := K
          rw [am_b_neg hp] at K1
          exact K1
        · have c13 : M11 62 13 = 6 := c13
          refine aw_iconst dX8_reads_131 ?_
          refine aw_goto dX8_reads_132 (tgt := 136) rfl ?_
          have hp : (M11 62 13 = 6) := by first | omega | simp_all
          have K1 := K
          rw [am_b_pos hp] at K1
          exact K1
      · match j, hj, hx with
        | 0, hj, hx =>
          cases hj
          replace h := h.2.1 (hx.trans (by decide))
          refine aw_aload_n dX8_reads_76 rfl (j := 0) rfl ?_
          refine aw_invv (d' := d + 5) (as := []) (rest := []) dX8_reads_77 cv_X8_94 (Nat.lt_succ_self _) rfl rfl rfl rfl rfl (Nat.le_of_ble_eq_true rfl) (AC.mono ?_ h)
          intro r M15 h
          obtain ⟨rfl, h⟩ := h
          show AW (d + 6) mX8_reads 80 [(0, .inr 62), (1, .inl it)] [] M15 Q
          refine aw_goto dX8_reads_80 (tgt := 121) rfl ?_
          refine aw_aload_n dX8_reads_121 rfl (j := 0) rfl ?_
          refine aw_aload_n dX8_reads_122 rfl (j := 0) rfl ?_
          refine aw_getf dX8_reads_123 fl_X8_77 rfl rfl rfl ?_
          refine aw_bipush dX8_reads_126 (by decide) ?_
          obtain ⟨g, h⟩ := h
          have K : AW (d + 6) mX8_reads 136 [(0, .inr 62), (1, .inl it)] [.inl (am_b ((M15 62 13 = 6))), .inr 62] M15 Q := by
            refine aw_invv (d' := d + 5) (as := [.inl (am_b ((M15 62 13 = 6)))]) (rest := []) dX8_reads_136 cv_X8_90 (Nat.lt_succ_self _) rfl rfl rfl rfl rfl (Nat.le_of_ble_eq_true rfl) (AC.mono ?_ h)
            intro r M18 h
            obtain ⟨rfl, h⟩ := h
            show AW (d + 6) mX8_reads 139 [(0, .inr 62), (1, .inl it)] [] M18 Q
            refine aw_iinc (L' := [(0, .inr 62), (1, .inl (it + 1))]) dX8_reads_139 (j := 1) rfl (Nat.le_of_ble_eq_true rfl) rfl ?_
            refine aw_goto dX8_reads_142 (tgt := 24) rfl ?_
            exact h
          clear h
          have s16 := g
          refine aw_icmp_ne dX8_reads_128 (tgt := 135) rfl s16 (by decide) (fun c17 => ?_) (fun c17 => ?_)
          · have c17 : M15 62 13 ≠ 6 := c17
            refine aw_iconst dX8_reads_135 ?_
            have hp : ¬ ((M15 62 13 = 6)) := by first | omega | simp_all
            have K1 := K
            rw [am_b_neg hp] at K1
            exact K1
          · have c17 : M15 62 13 = 6 := c17
            refine aw_iconst dX8_reads_131 ?_
            refine aw_goto dX8_reads_132 (tgt := 136) rfl ?_
            have hp : (M15 62 13 = 6) := by first | omega | simp_all
            have K1 := K
            rw [am_b_pos hp] at K1
            exact K1
        | 1, hj, hx =>
          cases hj
          replace h := h.2.2.1 (hx.trans (by decide))
          refine aw_aload_n dX8_reads_83 rfl (j := 0) rfl ?_
          refine aw_iconst dX8_reads_84 ?_
          refine aw_iconst dX8_reads_85 ?_
          refine aw_bipush dX8_reads_86 (by decide) ?_
          refine aw_invv (d' := d + 5) (as := [.inl 2, .inl 1, .inl 9]) (rest := []) dX8_reads_88 cv_X8_97 (Nat.lt_succ_self _) rfl rfl rfl rfl rfl (Nat.le_of_ble_eq_true rfl) (AC.mono ?_ h)
          intro r M19 h
          obtain ⟨rfl, h⟩ := h
          show AW (d + 6) mX8_reads 91 [(0, .inr 62), (1, .inl it)] [] M19 Q
          refine aw_goto dX8_reads_91 (tgt := 121) rfl ?_
          refine aw_aload_n dX8_reads_121 rfl (j := 0) rfl ?_
          refine aw_aload_n dX8_reads_122 rfl (j := 0) rfl ?_
          refine aw_getf dX8_reads_123 fl_X8_77 rfl rfl rfl ?_
          refine aw_bipush dX8_reads_126 (by decide) ?_
          obtain ⟨g, h⟩ := h
          have K : AW (d + 6) mX8_reads 136 [(0, .inr 62), (1, .inl it)] [.inl (am_b ((M19 62 13 = 6))), .inr 62] M19 Q := by
            refine aw_invv (d' := d + 5) (as := [.inl (am_b ((M19 62 13 = 6)))]) (rest := []) dX8_reads_136 cv_X8_90 (Nat.lt_succ_self _) rfl rfl rfl rfl rfl (Nat.le_of_ble_eq_true rfl) (AC.mono ?_ h)
            intro r M22 h
            obtain ⟨rfl, h⟩ := h
            show AW (d + 6) mX8_reads 139 [(0, .inr 62), (1, .inl it)] [] M22 Q
            refine aw_iinc (L' := [(0, .inr 62), (1, .inl (it + 1))]) dX8_reads_139 (j := 1) rfl (Nat.le_of_ble_eq_true rfl) rfl ?_
            refine aw_goto dX8_reads_142 (tgt := 24) rfl ?_
            exact h
          clear h
          have s20 := g
          refine aw_icmp_ne dX8_reads_128 (tgt := 135) rfl s20 (by decide) (fun c21 => ?_) (fun c21 => ?_)
          · have c21 : M19 62 13 ≠ 6 := c21
            refine aw_iconst dX8_reads_135 ?_
            have hp : ¬ ((M19 62 13 = 6)) := by first | omega | simp_all
            have K1 := K
            rw [am_b_neg hp] at K1
            exact K1
          · have c21 : M19 62 13 = 6 := c21
            refine aw_iconst dX8_reads_131 ?_
            refine aw_goto dX8_reads_132 (tgt := 136) rfl ?_
            have hp : (M19 62 13 = 6) := by first | omega | simp_all
            have K1 := K
            rw [am_b_pos hp] at K1
            exact K1
        | 2, hj, hx =>
          cases hj
          replace h := h.2.2.2.1 (hx.trans (by decide))
          refine aw_aload_n dX8_reads_94 rfl (j := 0) rfl ?_
          refine aw_iconst dX8_reads_95 ?_
          refine aw_iconst dX8_reads_96 ?_
          refine aw_bipush dX8_reads_97 (by decide) ?_
          refine aw_invv (d' := d + 5) (as := [.inl 3, .inl 0, .inl 20]) (rest := []) dX8_reads_99 cv_X8_97 (Nat.lt_succ_self _) rfl rfl rfl rfl rfl (Nat.le_of_ble_eq_true rfl) (AC.mono ?_ h)
          intro r M23 h
          obtain ⟨rfl, h⟩ := h
          show AW (d + 6) mX8_reads 102 [(0, .inr 62), (1, .inl it)] [] M23 Q
          refine aw_goto dX8_reads_102 (tgt := 121) rfl ?_
          refine aw_aload_n dX8_reads_121 rfl (j := 0) rfl ?_
          refine aw_aload_n dX8_reads_122 rfl (j := 0) rfl ?_
          refine aw_getf dX8_reads_123 fl_X8_77 rfl rfl rfl ?_
          refine aw_bipush dX8_reads_126 (by decide) ?_
          obtain ⟨g, h⟩ := h
          have K : AW (d + 6) mX8_reads 136 [(0, .inr 62), (1, .inl it)] [.inl (am_b ((M23 62 13 = 6))), .inr 62] M23 Q := by
            refine aw_invv (d' := d + 5) (as := [.inl (am_b ((M23 62 13 = 6)))]) (rest := []) dX8_reads_136 cv_X8_90 (Nat.lt_succ_self _) rfl rfl rfl rfl rfl (Nat.le_of_ble_eq_true rfl) (AC.mono ?_ h)
            intro r M26 h
            obtain ⟨rfl, h⟩ := h
            show AW (d + 6) mX8_reads 139 [(0, .inr 62), (1, .inl it)] [] M26 Q
            refine aw_iinc (L' := [(0, .inr 62), (1, .inl (it + 1))]) dX8_reads_139 (j := 1) rfl (Nat.le_of_ble_eq_true rfl) rfl ?_
            refine aw_goto dX8_reads_142 (tgt := 24) rfl ?_
            exact h
          clear h
          have s24 := g
          refine aw_icmp_ne dX8_reads_128 (tgt := 135) rfl s24 (by decide) (fun c25 => ?_) (fun c25 => ?_)
          · have c25 : M23 62 13 ≠ 6 := c25
            refine aw_iconst dX8_reads_135 ?_
            have hp : ¬ ((M23 62 13 = 6)) := by first | omega | simp_all
            have K1 := K
            rw [am_b_neg hp] at K1
            exact K1
          · have c25 : M23 62 13 = 6 := c25
            refine aw_iconst dX8_reads_131 ?_
            refine aw_goto dX8_reads_132 (tgt := 136) rfl ?_
            have hp : (M23 62 13 = 6) := by first | omega | simp_all
            have K1 := K
            rw [am_b_pos hp] at K1
            exact K1
        | 3, hj, hx =>
          cases hj
          replace h := h.2.2.2.2 (hx.trans (by decide))
          refine aw_aload_n dX8_reads_105 rfl (j := 0) rfl ?_
          refine aw_iconst dX8_reads_106 ?_
          refine aw_iconst dX8_reads_107 ?_
          refine aw_bipush dX8_reads_108 (by decide) ?_
          refine aw_invv (d' := d + 5) (as := [.inl 4, .inl 1, .inl 8]) (rest := []) dX8_reads_110 cv_X8_97 (Nat.lt_succ_self _) rfl rfl rfl rfl rfl (Nat.le_of_ble_eq_true rfl) (AC.mono ?_ h)
          intro r M27 h
          obtain ⟨rfl, h⟩ := h
          show AW (d + 6) mX8_reads 113 [(0, .inr 62), (1, .inl it)] [] M27 Q
          refine aw_goto dX8_reads_113 (tgt := 121) rfl ?_
          refine aw_aload_n dX8_reads_121 rfl (j := 0) rfl ?_
          refine aw_aload_n dX8_reads_122 rfl (j := 0) rfl ?_
          refine aw_getf dX8_reads_123 fl_X8_77 rfl rfl rfl ?_
          refine aw_bipush dX8_reads_126 (by decide) ?_
          obtain ⟨g, h⟩ := h
          have K : AW (d + 6) mX8_reads 136 [(0, .inr 62), (1, .inl it)] [.inl (am_b ((M27 62 13 = 6))), .inr 62] M27 Q := by
            refine aw_invv (d' := d + 5) (as := [.inl (am_b ((M27 62 13 = 6)))]) (rest := []) dX8_reads_136 cv_X8_90 (Nat.lt_succ_self _) rfl rfl rfl rfl rfl (Nat.le_of_ble_eq_true rfl) (AC.mono ?_ h)
            intro r M30 h
            obtain ⟨rfl, h⟩ := h
            show AW (d + 6) mX8_reads 139 [(0, .inr 62), (1, .inl it)] [] M30 Q
            refine aw_iinc (L' := [(0, .inr 62), (1, .inl (it + 1))]) dX8_reads_139 (j := 1) rfl (Nat.le_of_ble_eq_true rfl) rfl ?_
            refine aw_goto dX8_reads_142 (tgt := 24) rfl ?_
            exact h
          clear h
          have s28 := g
          refine aw_icmp_ne dX8_reads_128 (tgt := 135) rfl s28 (by decide) (fun c29 => ?_) (fun c29 => ?_)
          · have c29 : M27 62 13 ≠ 6 := c29
            refine aw_iconst dX8_reads_135 ?_
            have hp : ¬ ((M27 62 13 = 6)) := by first | omega | simp_all
            have K1 := K
            rw [am_b_neg hp] at K1
            exact K1
          · have c29 : M27 62 13 = 6 := c29
            refine aw_iconst dX8_reads_131 ?_
            refine aw_goto dX8_reads_132 (tgt := 136) rfl ?_
            have hp : (M27 62 13 = 6) := by first | omega | simp_all
            have K1 := K
            rw [am_b_pos hp] at K1
            exact K1
        | n + 4, hj, hx => exact absurd hj (by simp)
theorem sg_X8_tells {d : Nat} {M : am_M} {Q : Option Int → am_M → Prop} (h : AC (d + 6) mX8_reads [.inr 62] (am_up M 62 0 0) (fun r M1 => ∃ z2, r = some z2 ∧
 (am_r (M1 62 14)) ∧
 ((M1 62 14 = (-9) →
 AC (d + 6) mX8_notes [.inr 62] M1 (fun r M5 => r = none ∧
 AW (d + 7) mX8_tells 33 [(0, .inr 62), (1, .inl z2), (2, .inl 0)] [] M5 Q)) ∧
 (M1 62 14 ≠ (-9) →
 Q (some ((-10) - (M1 62 14))) M1)))) : AC (d + 7) mX8_tells [.inr 62] M Q := by
  refine aw_body (by decide) (Nat.le_of_ble_eq_true rfl) rfl ?_
  refine aw_aload_n dX8_tells_0 rfl (j := 0) rfl ?_
  refine aw_iconst dX8_tells_1 ?_
  refine aw_putf dX8_tells_2 pf_X8_52 rfl rfl rfl ?_
  refine aw_aload_n dX8_tells_5 rfl (j := 0) rfl ?_
  refine aw_invv (d' := d + 6) (as := []) (rest := []) dX8_tells_6 cv_X8_101 (Nat.lt_succ_self _) rfl rfl rfl rfl rfl (Nat.le_of_ble_eq_true rfl) (AC.mono ?_ h)
  intro r M1 h
  obtain ⟨z2, rfl, h⟩ := h
  show AW (d + 7) mX8_tells 9 [(0, .inr 62)] [.inl z2] M1 Q
  refine aw_istore_n (L' := [(0, .inr 62), (1, .inl z2)]) dX8_tells_9 rfl (Nat.le_of_ble_eq_true rfl) rfl ?_
  refine aw_aload_n dX8_tells_10 rfl (j := 0) rfl ?_
  refine aw_getf dX8_tells_11 fl_X8_84 rfl rfl rfl ?_
  refine aw_bipush dX8_tells_14 (by decide) ?_
  obtain ⟨s3, h⟩ := h
  refine aw_icmp_eq dX8_tells_16 (tgt := 27) rfl s3 (by decide) (fun c4 => ?_) (fun c4 => ?_)
  · replace h := h.1 c4
    refine aw_aload_n dX8_tells_27 rfl (j := 0) rfl ?_
    refine aw_invv (d' := d + 6) (as := []) (rest := []) dX8_tells_28 cv_X8_104 (Nat.lt_succ_self _) rfl rfl rfl rfl rfl (Nat.le_of_ble_eq_true rfl) (AC.mono ?_ h)
    intro r M5 h
    obtain ⟨rfl, h⟩ := h
    show AW (d + 7) mX8_tells 31 [(0, .inr 62), (1, .inl z2)] [] M5 Q
    refine aw_iconst dX8_tells_31 ?_
    refine aw_istore_n (L' := [(0, .inr 62), (1, .inl z2), (2, .inl 0)]) dX8_tells_32 rfl (Nat.le_of_ble_eq_true rfl) rfl ?_
    exact h
  · replace h := h.2 c4
    refine aw_bipush dX8_tells_19 (by decide) ?_
    refine aw_aload_n dX8_tells_21 rfl (j := 0) rfl ?_
    refine aw_getf dX8_tells_22 fl_X8_84 rfl rfl rfl ?_
    refine aw_isub dX8_tells_25 ?_
    exact aw_iret dX8_tells_26 rfl h
theorem sg_X8_tells_33 {d : Nat} {M : am_M} {Q : Option Int → am_M → Prop} {it k : Int} (h : (am_r k) ∧
 ((101 ≤ k →
 Q (some it) (am_up M 62 10 0)) ∧
 (k < 101 →
 (0 ≤ k ∧ k < 101) ∧
 AW (d + 7) mX8_tells 33 [(0, .inr 62), (1, .inl it), (2, .inl (k + 1))] [] (am_up M 63 k (M 64 k)) Q))) : AW (d + 7) mX8_tells 33 [(0, .inr 62), (1, .inl it), (2, .inl k)] [] M Q := by
  refine aw_iload_n dX8_tells_33 rfl (j := 2) rfl ?_
  refine aw_bipush dX8_tells_34 (by decide) ?_
  obtain ⟨s1, h⟩ := h
  refine aw_icmp_ge dX8_tells_36 (tgt := 57) rfl s1 (by decide) (fun c2 => ?_) (fun c2 => ?_)
  · replace h := h.1 c2
    refine aw_aload_n dX8_tells_57 rfl (j := 0) rfl ?_
    refine aw_iconst dX8_tells_58 ?_
    refine aw_putf dX8_tells_59 pf_X8_60 rfl rfl rfl ?_
    refine aw_iload_n dX8_tells_62 rfl (j := 1) rfl ?_
    exact aw_iret dX8_tells_63 rfl h
  · replace h := h.2 c2
    refine aw_aload_n dX8_tells_39 rfl (j := 0) rfl ?_
    refine aw_getr dX8_tells_40 fl_X8_7 rfl rfl ?_
    refine aw_iload_n dX8_tells_43 rfl (j := 2) rfl ?_
    refine aw_aload_n dX8_tells_44 rfl (j := 0) rfl ?_
    refine aw_getr dX8_tells_45 fl_X8_13 rfl rfl ?_
    refine aw_iload_n dX8_tells_48 rfl (j := 2) rfl ?_
    obtain ⟨s3, h⟩ := h
    refine aw_iaload dX8_tells_49 rfl s3 ?_
    refine aw_iastore dX8_tells_50 rfl s3 ?_
    refine aw_iinc (L' := [(0, .inr 62), (1, .inl it), (2, .inl (k + 1))]) dX8_tells_51 (j := 2) rfl (Nat.le_of_ble_eq_true rfl) rfl ?_
    refine aw_goto dX8_tells_54 (tgt := 33) rfl ?_
    exact h
theorem sg_X8_notes {d : Nat} {M : am_M} {Q : Option Int → am_M → Prop} (h : (am_r (M 62 4)) ∧
 ((M 62 4 ≠ 6 →
 AW (d) mX8_notes 51 [(0, .inr 62), (1, .inl 0)] [] M Q) ∧
 (M 62 4 = 6 →
 AW (d) mX8_notes 11 [(0, .inr 62), (1, .inl 0)] [] M Q))) : AC (d) mX8_notes [.inr 62] M Q := by
  refine aw_body (by decide) (Nat.le_of_ble_eq_true rfl) rfl ?_
  refine aw_aload_n dX8_notes_0 rfl (j := 0) rfl ?_
  refine aw_getf dX8_notes_1 fl_X8_107 rfl rfl rfl ?_
  refine aw_bipush dX8_notes_4 (by decide) ?_
  obtain ⟨s1, h⟩ := h
  refine aw_icmp_ne dX8_notes_6 (tgt := 49) rfl s1 (by decide) (fun c2 => ?_) (fun c2 => ?_)
  · replace h := h.1 c2
    refine aw_iconst dX8_notes_49 ?_
    refine aw_istore_n (L' := [(0, .inr 62), (1, .inl 0)]) dX8_notes_50 rfl (Nat.le_of_ble_eq_true rfl) rfl ?_
    exact h
  · replace h := h.2 c2
    refine aw_iconst dX8_notes_9 ?_
    refine aw_istore_n (L' := [(0, .inr 62), (1, .inl 0)]) dX8_notes_10 rfl (Nat.le_of_ble_eq_true rfl) rfl ?_
    exact h
theorem sg_X8_notes_51 {d : Nat} {M : am_M} {Q : Option Int → am_M → Prop} {k : Int} (h : (am_r k) ∧
 ((101 ≤ k →
 Q none (am_up M 62 4 ((M 62 4) + 1))) ∧
 (k < 101 →
 (0 ≤ k ∧ k < 101) ∧
 (0 ≤ (101 * (M 62 4)) + k ∧ (101 * (M 62 4)) + k < 606) ∧
 AW (d) mX8_notes 51 [(0, .inr 62), (1, .inl (k + 1))] [] (am_up M 65 ((101 * (M 62 4)) + k) (M 63 k)) Q))) : AW (d) mX8_notes 51 [(0, .inr 62), (1, .inl k)] [] M Q := by
  refine aw_iload_n dX8_notes_51 rfl (j := 1) rfl ?_
  refine aw_bipush dX8_notes_52 (by decide) ?_
  obtain ⟨s1, h⟩ := h
  refine aw_icmp_ge dX8_notes_54 (tgt := 83) rfl s1 (by decide) (fun c2 => ?_) (fun c2 => ?_)
  · replace h := h.1 c2
    refine aw_aload_n dX8_notes_83 rfl (j := 0) rfl ?_
    refine aw_dup dX8_notes_84 ?_
    refine aw_getf dX8_notes_85 fl_X8_107 rfl rfl rfl ?_
    refine aw_iconst dX8_notes_88 ?_
    refine aw_iadd dX8_notes_89 ?_
    refine aw_putf dX8_notes_90 pf_X8_107 rfl rfl rfl ?_
    exact aw_vret dX8_notes_93 rfl h
  · replace h := h.2 c2
    refine aw_aload_n dX8_notes_57 rfl (j := 0) rfl ?_
    refine aw_getr dX8_notes_58 fl_X8_16 rfl rfl ?_
    refine aw_bipush dX8_notes_61 (by decide) ?_
    refine aw_aload_n dX8_notes_63 rfl (j := 0) rfl ?_
    refine aw_getf dX8_notes_64 fl_X8_107 rfl rfl rfl ?_
    refine aw_imul dX8_notes_67 ?_
    refine aw_iload_n dX8_notes_68 rfl (j := 1) rfl ?_
    refine aw_iadd dX8_notes_69 ?_
    refine aw_aload_n dX8_notes_70 rfl (j := 0) rfl ?_
    refine aw_getr dX8_notes_71 fl_X8_7 rfl rfl ?_
    refine aw_iload_n dX8_notes_74 rfl (j := 1) rfl ?_
    obtain ⟨s3, h⟩ := h
    refine aw_iaload dX8_notes_75 rfl s3 ?_
    obtain ⟨s4, h⟩ := h
    refine aw_iastore dX8_notes_76 rfl s4 ?_
    refine aw_iinc (L' := [(0, .inr 62), (1, .inl (k + 1))]) dX8_notes_77 (j := 1) rfl (Nat.le_of_ble_eq_true rfl) rfl ?_
    refine aw_goto dX8_notes_80 (tgt := 51) rfl ?_
    exact h
theorem sg_X8_notes_11 {d : Nat} {M : am_M} {Q : Option Int → am_M → Prop} {k : Int} (h : (am_r k) ∧
 ((505 ≤ k →
 AW (d) mX8_notes 51 [(0, .inr 62), (1, .inl 0)] [] (am_up M 62 4 ((M 62 4) - 1)) Q) ∧
 (k < 505 →
 (0 ≤ k + 101 ∧ k + 101 < 606) ∧
 (0 ≤ k ∧ k < 606) ∧
 AW (d) mX8_notes 11 [(0, .inr 62), (1, .inl (k + 1))] [] (am_up M 65 k (M 65 (k + 101))) Q))) : AW (d) mX8_notes 11 [(0, .inr 62), (1, .inl k)] [] M Q := by
  refine aw_iload_n dX8_notes_11 rfl (j := 1) rfl ?_
  refine aw_sipush dX8_notes_12 (by decide) ?_
  obtain ⟨s1, h⟩ := h
  refine aw_icmp_ge dX8_notes_15 (tgt := 39) rfl s1 (by decide) (fun c2 => ?_) (fun c2 => ?_)
  · replace h := h.1 c2
    refine aw_aload_n dX8_notes_39 rfl (j := 0) rfl ?_
    refine aw_dup dX8_notes_40 ?_
    refine aw_getf dX8_notes_41 fl_X8_107 rfl rfl rfl ?_
    refine aw_iconst dX8_notes_44 ?_
    refine aw_isub dX8_notes_45 ?_
    refine aw_putf dX8_notes_46 pf_X8_107 rfl rfl rfl ?_
    refine aw_iconst dX8_notes_49 ?_
    refine aw_istore_n (L' := [(0, .inr 62), (1, .inl 0)]) dX8_notes_50 rfl (Nat.le_of_ble_eq_true rfl) rfl ?_
    exact h
  · replace h := h.2 c2
    refine aw_aload_n dX8_notes_18 rfl (j := 0) rfl ?_
    refine aw_getr dX8_notes_19 fl_X8_16 rfl rfl ?_
    refine aw_iload_n dX8_notes_22 rfl (j := 1) rfl ?_
    refine aw_aload_n dX8_notes_23 rfl (j := 0) rfl ?_
    refine aw_getr dX8_notes_24 fl_X8_16 rfl rfl ?_
    refine aw_iload_n dX8_notes_27 rfl (j := 1) rfl ?_
    refine aw_bipush dX8_notes_28 (by decide) ?_
    refine aw_iadd dX8_notes_30 ?_
    obtain ⟨s3, h⟩ := h
    refine aw_iaload dX8_notes_31 rfl s3 ?_
    obtain ⟨s4, h⟩ := h
    refine aw_iastore dX8_notes_32 rfl s4 ?_
    refine aw_iinc (L' := [(0, .inr 62), (1, .inl (k + 1))]) dX8_notes_33 (j := 1) rfl (Nat.le_of_ble_eq_true rfl) rfl ?_
    refine aw_goto dX8_notes_36 (tgt := 11) rfl ?_
    exact h
theorem sg_X8_becomes {d : Nat} {M : am_M} {Q : Option Int → am_M → Prop} {pl v : Int} (h : (0 ≤ pl ∧ pl < 101) ∧
 (am_r (M 63 pl)) ∧
 (am_r v) ∧
 ((M 63 pl ≠ v →
 AC (d) mX8_notes [.inr 62] M (fun r M5 => r = none ∧
 Q (some (M 63 pl)) (am_up M5 63 pl v))) ∧
 (M 63 pl = v →
 Q (some (-2)) M))) : AC (d + 1) mX8_becomes [.inr 62, .inl pl, .inl v] M Q := by
  refine aw_body (by decide) (Nat.le_of_ble_eq_true rfl) rfl ?_
  refine aw_aload_n dX8_becomes_0 rfl (j := 0) rfl ?_
  refine aw_getr dX8_becomes_1 fl_X8_7 rfl rfl ?_
  refine aw_iload_n dX8_becomes_4 rfl (j := 1) rfl ?_
  obtain ⟨s1, h⟩ := h
  refine aw_iaload dX8_becomes_5 rfl s1 ?_
  refine aw_istore_n (L' := [(0, .inr 62), (1, .inl pl), (2, .inl v), (3, .inl (M 63 pl))]) dX8_becomes_6 rfl (Nat.le_of_ble_eq_true rfl) rfl ?_
  refine aw_iload_n dX8_becomes_7 rfl (j := 3) rfl ?_
  refine aw_iload_n dX8_becomes_8 rfl (j := 2) rfl ?_
  obtain ⟨s2, h⟩ := h
  obtain ⟨s3, h⟩ := h
  refine aw_icmp_ne dX8_becomes_9 (tgt := 15) rfl s2 s3 (fun c4 => ?_) (fun c4 => ?_)
  · replace h := h.1 c4
    refine aw_aload_n dX8_becomes_15 rfl (j := 0) rfl ?_
    refine aw_invv (d' := d) (as := []) (rest := []) dX8_becomes_16 cv_X8_104 (Nat.lt_succ_self _) rfl rfl rfl rfl rfl (Nat.le_of_ble_eq_true rfl) (AC.mono ?_ h)
    intro r M5 h
    obtain ⟨rfl, h⟩ := h
    show AW (d + 1) mX8_becomes 19 [(0, .inr 62), (1, .inl pl), (2, .inl v), (3, .inl (M 63 pl))] [] M5 Q
    refine aw_aload_n dX8_becomes_19 rfl (j := 0) rfl ?_
    refine aw_getr dX8_becomes_20 fl_X8_7 rfl rfl ?_
    refine aw_iload_n dX8_becomes_23 rfl (j := 1) rfl ?_
    refine aw_iload_n dX8_becomes_24 rfl (j := 2) rfl ?_
    refine aw_iastore dX8_becomes_25 rfl s1 ?_
    refine aw_iload_n dX8_becomes_26 rfl (j := 3) rfl ?_
    exact aw_iret dX8_becomes_27 rfl h
  · replace h := h.2 c4
    refine aw_bipush dX8_becomes_12 (by decide) ?_
    exact aw_iret dX8_becomes_14 rfl h
theorem sg_X8_levels {d : Nat} {M : am_M} {Q : Option Int → am_M → Prop} {f p n : Int} (h : ((am_r f ∧ am_r p) ∧ am_r (M 63 0 - 1) ∧ am_r (M 63 1 - 1)) ∧
 ((¬ ((0 ≤ f ∧ f ≤ M 63 0 - 1) ∧ 0 ≤ p ∧ p ≤ M 63 1 - 1) →
 Q (some (-1)) (am_up M 62 0 0)) ∧
 ((0 ≤ f ∧ f ≤ M 63 0 - 1) ∧ 0 ≤ p ∧ p ≤ M 63 1 - 1 →
 (am_r n ∧ am_r 0 ∧ am_r 9) ∧
 ((¬ (0 ≤ n ∧ n ≤ 9) →
 Q (some (-1)) (am_up M 62 0 0)) ∧
 (0 ≤ n ∧ n ≤ 9 →
 AC (d + 1) mX8_becomes [.inr 62, .inl ((5 + (12 * f)) + p), .inl n] (am_up M 62 0 0) (fun r M5 => ∃ z6, r = some z6 ∧
 Q (some z6) M5)))))) : AC (d + 2) mX8_levels [.inr 62, .inl f, .inl p, .inl n] M Q := by
  refine aw_body (by decide) (Nat.le_of_ble_eq_true rfl) rfl ?_
  refine aw_aload_n dX8_levels_0 rfl (j := 0) rfl ?_
  refine aw_iconst dX8_levels_1 ?_
  refine aw_putf dX8_levels_2 pf_X8_52 rfl rfl rfl ?_
  refine aw_aload_n dX8_levels_5 rfl (j := 0) rfl ?_
  refine aw_iload_n dX8_levels_6 rfl (j := 1) rfl ?_
  refine aw_iload_n dX8_levels_7 rfl (j := 2) rfl ?_
  obtain ⟨s1, h⟩ := h
  refine aw_invv (d' := d + 1) (as := [.inl f, .inl p]) (rest := []) dX8_levels_8 cv_X8_110 (Nat.lt_succ_self _) rfl rfl rfl rfl rfl (Nat.le_of_ble_eq_true rfl) (fc_isPlace s1 ?_)
  show AW (d + 2) mX8_levels 11 [(0, .inr 62), (1, .inl f), (2, .inl p), (3, .inl n)] [.inl (am_b ((0 ≤ f ∧ f ≤ M 63 0 - 1) ∧ 0 ≤ p ∧ p ≤ M 63 1 - 1))] (am_up M 62 0 0) Q
  refine aw_ifb_eq dX8_levels_11 (tgt := 40) rfl (fun c2 => ?_) (fun c2 => ?_)
  · replace h := h.1 c2
    refine aw_iconst dX8_levels_40 ?_
    exact aw_iret dX8_levels_41 rfl h
  · replace h := h.2 c2
    refine aw_iload_n dX8_levels_14 rfl (j := 3) rfl ?_
    refine aw_iconst dX8_levels_15 ?_
    refine aw_bipush dX8_levels_16 (by decide) ?_
    obtain ⟨s3, h⟩ := h
    refine aw_invs (d' := d + 1) (as := [.inl n, .inl 0, .inl 9]) (rest := []) dX8_levels_18 cs_X8_56 (Nat.lt_succ_self _) rfl rfl (Nat.le_of_ble_eq_true rfl) (fc_in s3 ?_)
    show AW (d + 2) mX8_levels 21 [(0, .inr 62), (1, .inl f), (2, .inl p), (3, .inl n)] [.inl (am_b (0 ≤ n ∧ n ≤ 9))] (am_up M 62 0 0) Q
    refine aw_ifb_eq dX8_levels_21 (tgt := 40) rfl (fun c4 => ?_) (fun c4 => ?_)
    · replace h := h.1 c4
      refine aw_iconst dX8_levels_40 ?_
      exact aw_iret dX8_levels_41 rfl h
    · replace h := h.2 c4
      refine aw_aload_n dX8_levels_24 rfl (j := 0) rfl ?_
      refine aw_iconst dX8_levels_25 ?_
      refine aw_bipush dX8_levels_26 (by decide) ?_
      refine aw_iload_n dX8_levels_28 rfl (j := 1) rfl ?_
      refine aw_imul dX8_levels_29 ?_
      refine aw_iadd dX8_levels_30 ?_
      refine aw_iload_n dX8_levels_31 rfl (j := 2) rfl ?_
      refine aw_iadd dX8_levels_32 ?_
      refine aw_iload_n dX8_levels_33 rfl (j := 3) rfl ?_
      refine aw_invv (d' := d + 1) (as := [.inl ((5 + (12 * f)) + p), .inl n]) (rest := []) dX8_levels_34 cv_X8_114 (Nat.lt_succ_self _) rfl rfl rfl rfl rfl (Nat.le_of_ble_eq_true rfl) (AC.mono ?_ h)
      intro r M5 h
      obtain ⟨z6, rfl, h⟩ := h
      show AW (d + 2) mX8_levels 37 [(0, .inr 62), (1, .inl f), (2, .inl p), (3, .inl n)] [.inl z6] M5 Q
      refine aw_goto dX8_levels_37 (tgt := 41) rfl ?_
      exact aw_iret dX8_levels_41 rfl h
theorem sg_X8_sets {d : Nat} {M : am_M} {Q : Option Int → am_M → Prop} {w n : Int} (h : (((am_r w) ∧ ((w ≠ 0 → ((w ≠ 1 → (w = 2 → (am_r n ∧ am_r 1 ∧ am_r 8))) ∧ (w = 1 → (am_r n ∧ am_r 0 ∧ am_r 20)))) ∧ (w = 0 → (am_r n ∧ am_r 1 ∧ am_r 9))))) ∧
 ((¬ (((w ≠ 0) ∧ (w ≠ 1) ∧ (w = 2) ∧ (1 ≤ n ∧ n ≤ 8)) ∨ ((w ≠ 0) ∧ (w = 1) ∧ (0 ≤ n ∧ n ≤ 20)) ∨ ((w = 0) ∧ (1 ≤ n ∧ n ≤ 9))) →
 Q (some (-1)) (am_up M 62 0 0)) ∧
 (((w ≠ 0) ∧ (w ≠ 1) ∧ (w = 2) ∧ (1 ≤ n ∧ n ≤ 8)) ∨ ((w ≠ 0) ∧ (w = 1) ∧ (0 ≤ n ∧ n ≤ 20)) ∨ ((w = 0) ∧ (1 ≤ n ∧ n ≤ 9)) →
 AC (d + 1) mX8_becomes [.inr 62, .inl (2 + w), .inl n] (am_up M 62 0 0) (fun r M10 => ∃ z11, r = some z11 ∧
 Q (some z11) M10)))) : AC (d + 2) mX8_sets [.inr 62, .inl w, .inl n] M Q := by
  refine aw_body (by decide) (Nat.le_of_ble_eq_true rfl) rfl ?_
  refine aw_aload_n dX8_sets_0 rfl (j := 0) rfl ?_
  refine aw_iconst dX8_sets_1 ?_
  refine aw_putf dX8_sets_2 pf_X8_52 rfl rfl rfl ?_
  refine aw_iload_n dX8_sets_5 rfl (j := 1) rfl ?_
  obtain ⟨g, h⟩ := h
  have K : AW (d + 2) mX8_sets 54 [(0, .inr 62), (1, .inl w), (2, .inl n)] [.inl (am_b (((w ≠ 0) ∧ (w ≠ 1) ∧ (w = 2) ∧ (1 ≤ n ∧ n ≤ 8)) ∨ ((w ≠ 0) ∧ (w = 1) ∧ (0 ≤ n ∧ n ≤ 20)) ∨ ((w = 0) ∧ (1 ≤ n ∧ n ≤ 9))))] (am_up M 62 0 0) Q := by
    refine aw_istore_n (L' := [(0, .inr 62), (1, .inl w), (2, .inl n), (3, .inl (am_b (((w ≠ 0) ∧ (w ≠ 1) ∧ (w = 2) ∧ (1 ≤ n ∧ n ≤ 8)) ∨ ((w ≠ 0) ∧ (w = 1) ∧ (0 ≤ n ∧ n ≤ 20)) ∨ ((w = 0) ∧ (1 ≤ n ∧ n ≤ 9)))))]) dX8_sets_54 rfl (Nat.le_of_ble_eq_true rfl) rfl ?_
    refine aw_iload_n dX8_sets_55 rfl (j := 3) rfl ?_
    refine aw_ifb_eq dX8_sets_56 (tgt := 70) rfl (fun c9 => ?_) (fun c9 => ?_)
    · replace h := h.1 c9
      refine aw_iconst dX8_sets_70 ?_
      exact aw_iret dX8_sets_71 rfl h
    · replace h := h.2 c9
      refine aw_aload_n dX8_sets_59 rfl (j := 0) rfl ?_
      refine aw_iconst dX8_sets_60 ?_
      refine aw_iload_n dX8_sets_61 rfl (j := 1) rfl ?_
      refine aw_iadd dX8_sets_62 ?_
      refine aw_iload_n dX8_sets_63 rfl (j := 2) rfl ?_
      refine aw_invv (d' := d + 1) (as := [.inl (2 + w), .inl n]) (rest := []) dX8_sets_64 cv_X8_114 (Nat.lt_succ_self _) rfl rfl rfl rfl rfl (Nat.le_of_ble_eq_true rfl) (AC.mono ?_ h)
      intro r M10 h
      obtain ⟨z11, rfl, h⟩ := h
      show AW (d + 2) mX8_sets 67 [(0, .inr 62), (1, .inl w), (2, .inl n), (3, .inl (am_b (((w ≠ 0) ∧ (w ≠ 1) ∧ (w = 2) ∧ (1 ≤ n ∧ n ≤ 8)) ∨ ((w ≠ 0) ∧ (w = 1) ∧ (0 ≤ n ∧ n ≤ 20)) ∨ ((w = 0) ∧ (1 ≤ n ∧ n ≤ 9)))))] [.inl z11] M10 Q
      refine aw_goto dX8_sets_67 (tgt := 71) rfl ?_
      exact aw_iret dX8_sets_71 rfl h
  clear h
  obtain ⟨s1, g⟩ := g
  refine aw_if_ne dX8_sets_6 (tgt := 19) rfl s1 (fun c2 => ?_) (fun c2 => ?_)
  · have c2 : w ≠ 0 := c2
    replace g := g.1 c2
    refine aw_iload_n dX8_sets_19 rfl (j := 1) rfl ?_
    refine aw_iconst dX8_sets_20 ?_
    refine aw_icmp_ne dX8_sets_21 (tgt := 34) rfl s1 (by decide) (fun c3 => ?_) (fun c3 => ?_)
    · have c3 : w ≠ 1 := c3
      replace g := g.1 c3
      refine aw_iload_n dX8_sets_34 rfl (j := 1) rfl ?_
      refine aw_iconst dX8_sets_35 ?_
      refine aw_icmp_ne dX8_sets_36 (tgt := 53) rfl s1 (by decide) (fun c4 => ?_) (fun c4 => ?_)
      · have c4 : w ≠ 2 := c4
        refine aw_iconst dX8_sets_53 ?_
        have hp : ¬ (((w ≠ 0) ∧ (w ≠ 1) ∧ (w = 2) ∧ (1 ≤ n ∧ n ≤ 8)) ∨ ((w ≠ 0) ∧ (w = 1) ∧ (0 ≤ n ∧ n ≤ 20)) ∨ ((w = 0) ∧ (1 ≤ n ∧ n ≤ 9))) := by first | omega | simp_all
        have K1 := K
        rw [am_b_neg hp] at K1
        exact K1
      · have c4 : w = 2 := c4
        replace g := g c4
        refine aw_iload_n dX8_sets_39 rfl (j := 2) rfl ?_
        refine aw_iconst dX8_sets_40 ?_
        refine aw_bipush dX8_sets_41 (by decide) ?_
        have s5 := g
        refine aw_invs (d' := d + 1) (as := [.inl n, .inl 1, .inl 8]) (rest := []) dX8_sets_43 cs_X8_56 (Nat.lt_succ_self _) rfl rfl (Nat.le_of_ble_eq_true rfl) (fc_in s5 ?_)
        show AW (d + 2) mX8_sets 46 [(0, .inr 62), (1, .inl w), (2, .inl n)] [.inl (am_b (1 ≤ n ∧ n ≤ 8))] (am_up M 62 0 0) Q
        refine aw_ifb_eq dX8_sets_46 (tgt := 53) rfl (fun c6 => ?_) (fun c6 => ?_)
        · have c6 : ¬ (1 ≤ n ∧ n ≤ 8) := c6
          refine aw_iconst dX8_sets_53 ?_
          have hp : ¬ (((w ≠ 0) ∧ (w ≠ 1) ∧ (w = 2) ∧ (1 ≤ n ∧ n ≤ 8)) ∨ ((w ≠ 0) ∧ (w = 1) ∧ (0 ≤ n ∧ n ≤ 20)) ∨ ((w = 0) ∧ (1 ≤ n ∧ n ≤ 9))) := by first | omega | simp_all
          have K1 := K
          rw [am_b_neg hp] at K1
          exact K1
        · have c6 : 1 ≤ n ∧ n ≤ 8 := c6
          refine aw_iconst dX8_sets_49 ?_
          refine aw_goto dX8_sets_50 (tgt := 54) rfl ?_
          have hp : ((w ≠ 0) ∧ (w ≠ 1) ∧ (w = 2) ∧ (1 ≤ n ∧ n ≤ 8)) ∨ ((w ≠ 0) ∧ (w = 1) ∧ (0 ≤ n ∧ n ≤ 20)) ∨ ((w = 0) ∧ (1 ≤ n ∧ n ≤ 9)) := by first | omega | simp_all
          have K1 := K
          rw [am_b_pos hp] at K1
          exact K1
    · have c3 : w = 1 := c3
      replace g := g.2 c3
      refine aw_iload_n dX8_sets_24 rfl (j := 2) rfl ?_
      refine aw_iconst dX8_sets_25 ?_
      refine aw_bipush dX8_sets_26 (by decide) ?_
      have s7 := g
      refine aw_invs (d' := d + 1) (as := [.inl n, .inl 0, .inl 20]) (rest := []) dX8_sets_28 cs_X8_56 (Nat.lt_succ_self _) rfl rfl (Nat.le_of_ble_eq_true rfl) (fc_in s7 ?_)
      show AW (d + 2) mX8_sets 31 [(0, .inr 62), (1, .inl w), (2, .inl n)] [.inl (am_b (0 ≤ n ∧ n ≤ 20))] (am_up M 62 0 0) Q
      refine aw_goto dX8_sets_31 (tgt := 54) rfl ?_
      have hp : (((w ≠ 0) ∧ (w ≠ 1) ∧ (w = 2) ∧ (1 ≤ n ∧ n ≤ 8)) ∨ ((w ≠ 0) ∧ (w = 1) ∧ (0 ≤ n ∧ n ≤ 20)) ∨ ((w = 0) ∧ (1 ≤ n ∧ n ≤ 9))) ↔ (0 ≤ n ∧ n ≤ 20) := by first | omega | simp_all
      have K1 := K
      rw [am_b_congr hp] at K1
      exact K1
  · have c2 : w = 0 := c2
    replace g := g.2 c2
    refine aw_iload_n dX8_sets_9 rfl (j := 2) rfl ?_
    refine aw_iconst dX8_sets_10 ?_
    refine aw_bipush dX8_sets_11 (by decide) ?_
    have s8 := g
    refine aw_invs (d' := d + 1) (as := [.inl n, .inl 1, .inl 9]) (rest := []) dX8_sets_13 cs_X8_56 (Nat.lt_succ_self _) rfl rfl (Nat.le_of_ble_eq_true rfl) (fc_in s8 ?_)
    show AW (d + 2) mX8_sets 16 [(0, .inr 62), (1, .inl w), (2, .inl n)] [.inl (am_b (1 ≤ n ∧ n ≤ 9))] (am_up M 62 0 0) Q
    refine aw_goto dX8_sets_16 (tgt := 54) rfl ?_
    have hp : (((w ≠ 0) ∧ (w ≠ 1) ∧ (w = 2) ∧ (1 ≤ n ∧ n ≤ 8)) ∨ ((w ≠ 0) ∧ (w = 1) ∧ (0 ≤ n ∧ n ≤ 20)) ∨ ((w = 0) ∧ (1 ≤ n ∧ n ≤ 9))) ↔ (1 ≤ n ∧ n ≤ 9) := by first | omega | simp_all
    have K1 := K
    rw [am_b_congr hp] at K1
    exact K1
theorem sg_X8_undo {d : Nat} {M : am_M} {Q : Option Int → am_M → Prop} (h : (am_r (M 62 4)) ∧
 ((M 62 4 ≠ 0 →
 AW (d) mX8_undo 27 [(0, .inr 62), (1, .inl 0)] [] (am_up (am_up M 62 0 0) 62 4 ((M 62 4) - 1)) Q) ∧
 (M 62 4 = 0 →
 Q (some (-2)) (am_up M 62 0 0)))) : AC (d) mX8_undo [.inr 62] M Q := by
  refine aw_body (by decide) (Nat.le_of_ble_eq_true rfl) rfl ?_
  refine aw_aload_n dX8_undo_0 rfl (j := 0) rfl ?_
  refine aw_iconst dX8_undo_1 ?_
  refine aw_putf dX8_undo_2 pf_X8_52 rfl rfl rfl ?_
  refine aw_aload_n dX8_undo_5 rfl (j := 0) rfl ?_
  refine aw_getf dX8_undo_6 fl_X8_107 rfl rfl rfl ?_
  obtain ⟨s1, h⟩ := h
  refine aw_if_ne dX8_undo_9 (tgt := 15) rfl s1 (fun c2 => ?_) (fun c2 => ?_)
  · replace h := h.1 c2
    refine aw_aload_n dX8_undo_15 rfl (j := 0) rfl ?_
    refine aw_dup dX8_undo_16 ?_
    refine aw_getf dX8_undo_17 fl_X8_107 rfl rfl rfl ?_
    refine aw_iconst dX8_undo_20 ?_
    refine aw_isub dX8_undo_21 ?_
    refine aw_putf dX8_undo_22 pf_X8_107 rfl rfl rfl ?_
    refine aw_iconst dX8_undo_25 ?_
    refine aw_istore_n (L' := [(0, .inr 62), (1, .inl 0)]) dX8_undo_26 rfl (Nat.le_of_ble_eq_true rfl) rfl ?_
    exact h
  · replace h := h.2 c2
    refine aw_bipush dX8_undo_12 (by decide) ?_
    exact aw_iret dX8_undo_14 rfl h
theorem sg_X8_undo_27 {d : Nat} {M : am_M} {Q : Option Int → am_M → Prop} {k : Int} (h : (am_r k) ∧
 ((101 ≤ k →
 Q (some (M 62 4)) M) ∧
 (k < 101 →
 (0 ≤ (101 * (M 62 4)) + k ∧ (101 * (M 62 4)) + k < 606) ∧
 (0 ≤ k ∧ k < 101) ∧
 AW (d) mX8_undo 27 [(0, .inr 62), (1, .inl (k + 1))] [] (am_up M 63 k (M 65 ((101 * (M 62 4)) + k))) Q))) : AW (d) mX8_undo 27 [(0, .inr 62), (1, .inl k)] [] M Q := by
  refine aw_iload_n dX8_undo_27 rfl (j := 1) rfl ?_
  refine aw_bipush dX8_undo_28 (by decide) ?_
  obtain ⟨s1, h⟩ := h
  refine aw_icmp_ge dX8_undo_30 (tgt := 59) rfl s1 (by decide) (fun c2 => ?_) (fun c2 => ?_)
  · replace h := h.1 c2
    refine aw_aload_n dX8_undo_59 rfl (j := 0) rfl ?_
    refine aw_getf dX8_undo_60 fl_X8_107 rfl rfl rfl ?_
    exact aw_iret dX8_undo_63 rfl h
  · replace h := h.2 c2
    refine aw_aload_n dX8_undo_33 rfl (j := 0) rfl ?_
    refine aw_getr dX8_undo_34 fl_X8_7 rfl rfl ?_
    refine aw_iload_n dX8_undo_37 rfl (j := 1) rfl ?_
    refine aw_aload_n dX8_undo_38 rfl (j := 0) rfl ?_
    refine aw_getr dX8_undo_39 fl_X8_16 rfl rfl ?_
    refine aw_bipush dX8_undo_42 (by decide) ?_
    refine aw_aload_n dX8_undo_44 rfl (j := 0) rfl ?_
    refine aw_getf dX8_undo_45 fl_X8_107 rfl rfl rfl ?_
    refine aw_imul dX8_undo_48 ?_
    refine aw_iload_n dX8_undo_49 rfl (j := 1) rfl ?_
    refine aw_iadd dX8_undo_50 ?_
    obtain ⟨s3, h⟩ := h
    refine aw_iaload dX8_undo_51 rfl s3 ?_
    obtain ⟨s4, h⟩ := h
    refine aw_iastore dX8_undo_52 rfl s4 ?_
    refine aw_iinc (L' := [(0, .inr 62), (1, .inl (k + 1))]) dX8_undo_53 (j := 1) rfl (Nat.le_of_ble_eq_true rfl) rfl ?_
    refine aw_goto dX8_undo_56 (tgt := 27) rfl ?_
    exact h
