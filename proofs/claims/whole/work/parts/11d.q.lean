/-! the class alone: 08b over the cells 0..61 -/
theorem sg_X6_begin_q {d : Nat} {M : am_M} {Q : Option Int → am_M → Prop} {x f : Int} (h : (am_r (M 41 0)) ∧
 ((48 ≤ M 41 0 →
 Q none M) ∧
 (M 41 0 < 48 →
 (0 ≤ x ∧ x < 48) ∧
 (0 ≤ M 41 0 ∧ M 41 0 < 48) ∧
 Q none (am_up (am_up (am_up (am_up (am_up M 49 x (M 41 0)) 42 (M 41 0) f) 43 (M 41 0) 0) 47 (M 41 0) 0) 41 0 ((M 41 0) + 1))))) : AC_q (d) mX6_begin [.inr 41, .inl x, .inl f] M Q := by
  refine aw_body_q (by decide) (Nat.le_of_ble_eq_true rfl) rfl ?_
  refine aw_aload_n_q dX6_begin_0 rfl (j := 0) rfl ?_
  refine aw_getf_q dX6_begin_1 fl_X6_39 rfl rfl rfl ?_
  refine aw_bipush_q dX6_begin_4 (by decide) ?_
  obtain ⟨s1, h⟩ := h
  refine aw_icmp_ge_q dX6_begin_6 (tgt := 59) rfl s1 (by decide) (fun c2 => ?_) (fun c2 => ?_)
  · replace h := h.1 c2
    exact aw_vret_q dX6_begin_59 rfl h
  · replace h := h.2 c2
    refine aw_aload_n_q dX6_begin_9 rfl (j := 0) rfl ?_
    refine aw_getr_q dX6_begin_10 fl_X6_33 rfl rfl ?_
    refine aw_iload_n_q dX6_begin_13 rfl (j := 1) rfl ?_
    refine aw_aload_n_q dX6_begin_14 rfl (j := 0) rfl ?_
    refine aw_getf_q dX6_begin_15 fl_X6_39 rfl rfl rfl ?_
    obtain ⟨s3, h⟩ := h
    refine aw_iastore_q dX6_begin_18 rfl s3 ?_
    refine aw_aload_n_q dX6_begin_19 rfl (j := 0) rfl ?_
    refine aw_getr_q dX6_begin_20 fl_X6_9 rfl rfl ?_
    refine aw_aload_n_q dX6_begin_23 rfl (j := 0) rfl ?_
    refine aw_getf_q dX6_begin_24 fl_X6_39 rfl rfl rfl ?_
    refine aw_iload_n_q dX6_begin_27 rfl (j := 2) rfl ?_
    obtain ⟨s4, h⟩ := h
    refine aw_iastore_q dX6_begin_28 rfl s4 ?_
    refine aw_aload_n_q dX6_begin_29 rfl (j := 0) rfl ?_
    refine aw_getr_q dX6_begin_30 fl_X6_15 rfl rfl ?_
    refine aw_aload_n_q dX6_begin_33 rfl (j := 0) rfl ?_
    refine aw_getf_q dX6_begin_34 fl_X6_39 rfl rfl rfl ?_
    refine aw_iconst_q dX6_begin_37 ?_
    refine aw_iastore_q dX6_begin_38 rfl s4 ?_
    refine aw_aload_n_q dX6_begin_39 rfl (j := 0) rfl ?_
    refine aw_getr_q dX6_begin_40 fl_X6_27 rfl rfl ?_
    refine aw_aload_n_q dX6_begin_43 rfl (j := 0) rfl ?_
    refine aw_getf_q dX6_begin_44 fl_X6_39 rfl rfl rfl ?_
    refine aw_iconst_q dX6_begin_47 ?_
    refine aw_iastore_q dX6_begin_48 rfl s4 ?_
    refine aw_aload_n_q dX6_begin_49 rfl (j := 0) rfl ?_
    refine aw_dup_q dX6_begin_50 ?_
    refine aw_getf_q dX6_begin_51 fl_X6_39 rfl rfl rfl ?_
    refine aw_iconst_q dX6_begin_54 ?_
    refine aw_iadd_q dX6_begin_55 ?_
    refine aw_putf_q dX6_begin_56 pf_X6_39 rfl rfl rfl ?_
    exact aw_vret_q dX6_begin_59 rfl h
theorem sg_X6_addPeak_q {d : Nat} {M : am_M} {Q : Option Int → am_M → Prop} {x f : Int} (h : (0 ≤ x ∧ x < 48) ∧
 (am_r (M 49 x)) ∧
 ((M 49 x < 0 →
 Q none M) ∧
 (0 ≤ M 49 x →
 (am_r (M 41 0)) ∧
 ((M 49 x < M 41 0 →
 (0 ≤ M 49 x ∧ M 49 x < 48) ∧
 (0 ≤ ((M 49 x) * 8) + f ∧ ((M 49 x) * 8) + f < 384) ∧
 (am_r (M 50 x)) ∧
 ((M 50 x = (-9) →
 Q none (am_up (am_up (am_up M 43 (M 49 x) ((M 43 (M 49 x)) + 1)) 47 (M 49 x) ((M 47 (M 49 x)) + (M 35 x))) 48 (((M 49 x) * 8) + f) (M 34 x))) ∧
 (M 50 x ≠ (-9) →
 (am_r (f + 1)) ∧
 ((8 ≤ f + 1 →
 Q none (am_up (am_up (am_up M 43 (M 49 x) ((M 43 (M 49 x)) + 1)) 47 (M 49 x) ((M 47 (M 49 x)) + (M 35 x))) 48 (((M 49 x) * 8) + f) (M 34 x))) ∧
 (f + 1 < 8 →
 (0 ≤ ((f + 1) * 6) + (M 50 x) ∧ ((f + 1) * 6) + (M 50 x) < 48) ∧
 Q none (am_up (am_up (am_up (am_up M 43 (M 49 x) ((M 43 (M 49 x)) + 1)) 47 (M 49 x) ((M 47 (M 49 x)) + (M 35 x))) 48 (((M 49 x) * 8) + f) (M 34 x)) 49 (((f + 1) * 6) + (M 50 x)) (M 49 x))))))) ∧
 (M 41 0 ≤ M 49 x →
 Q none M))))) : AC_q (d) mX6_addPeak [.inr 41, .inr 31, .inl x, .inl f] M Q := by
  refine aw_body_q (by decide) (Nat.le_of_ble_eq_true rfl) rfl ?_
  refine aw_aload_n_q dX6_addPeak_0 rfl (j := 0) rfl ?_
  refine aw_getr_q dX6_addPeak_1 fl_X6_33 rfl rfl ?_
  refine aw_iload_n_q dX6_addPeak_4 rfl (j := 2) rfl ?_
  obtain ⟨s1, h⟩ := h
  refine aw_iaload_q dX6_addPeak_5 rfl s1 ?_
  refine aw_istore_q (L' := [(0, .inr 41), (1, .inr 31), (2, .inl x), (3, .inl f), (4, .inl (M 49 x))]) dX6_addPeak_6 (Nat.le_of_ble_eq_true rfl) rfl ?_
  refine aw_iload_q dX6_addPeak_8 (j := 4) rfl ?_
  obtain ⟨s2, h⟩ := h
  refine aw_if_lt_q dX6_addPeak_10 (tgt := 22) rfl s2 (fun c3 => ?_) (fun c3 => ?_)
  · replace h := h.1 c3
    exact aw_vret_q dX6_addPeak_22 rfl h
  · replace h := h.2 c3
    refine aw_iload_q dX6_addPeak_13 (j := 4) rfl ?_
    refine aw_aload_n_q dX6_addPeak_15 rfl (j := 0) rfl ?_
    refine aw_getf_q dX6_addPeak_16 fl_X6_39 rfl rfl rfl ?_
    obtain ⟨s4, h⟩ := h
    refine aw_icmp_lt_q dX6_addPeak_19 (tgt := 23) rfl s2 s4 (fun c5 => ?_) (fun c5 => ?_)
    · replace h := h.1 c5
      refine aw_aload_n_q dX6_addPeak_23 rfl (j := 0) rfl ?_
      refine aw_getr_q dX6_addPeak_24 fl_X6_15 rfl rfl ?_
      refine aw_iload_q dX6_addPeak_27 (j := 4) rfl ?_
      refine aw_dup2_q dX6_addPeak_29 ?_
      obtain ⟨s6, h⟩ := h
      refine aw_iaload_q dX6_addPeak_30 rfl s6 ?_
      refine aw_iconst_q dX6_addPeak_31 ?_
      refine aw_iadd_q dX6_addPeak_32 ?_
      refine aw_iastore_q dX6_addPeak_33 rfl s6 ?_
      refine aw_aload_n_q dX6_addPeak_34 rfl (j := 0) rfl ?_
      refine aw_getr_q dX6_addPeak_35 fl_X6_27 rfl rfl ?_
      refine aw_iload_q dX6_addPeak_38 (j := 4) rfl ?_
      refine aw_dup2_q dX6_addPeak_40 ?_
      refine aw_iaload_q dX6_addPeak_41 rfl s6 ?_
      refine aw_aload_n_q dX6_addPeak_42 rfl (j := 1) rfl ?_
      refine aw_getr_q dX6_addPeak_43 fl_X6_74 rfl rfl ?_
      refine aw_iload_n_q dX6_addPeak_46 rfl (j := 2) rfl ?_
      refine aw_iaload_q dX6_addPeak_47 rfl s1 ?_
      refine aw_iadd_q dX6_addPeak_48 ?_
      refine aw_iastore_q dX6_addPeak_49 rfl s6 ?_
      refine aw_aload_n_q dX6_addPeak_50 rfl (j := 0) rfl ?_
      refine aw_getr_q dX6_addPeak_51 fl_X6_30 rfl rfl ?_
      refine aw_iload_q dX6_addPeak_54 (j := 4) rfl ?_
      refine aw_bipush_q dX6_addPeak_56 (by decide) ?_
      refine aw_imul_q dX6_addPeak_58 ?_
      refine aw_iload_n_q dX6_addPeak_59 rfl (j := 3) rfl ?_
      refine aw_iadd_q dX6_addPeak_60 ?_
      refine aw_aload_n_q dX6_addPeak_61 rfl (j := 1) rfl ?_
      refine aw_getr_q dX6_addPeak_62 fl_X6_75 rfl rfl ?_
      refine aw_iload_n_q dX6_addPeak_65 rfl (j := 2) rfl ?_
      refine aw_iaload_q dX6_addPeak_66 rfl s1 ?_
      obtain ⟨s7, h⟩ := h
      refine aw_iastore_q dX6_addPeak_67 rfl s7 ?_
      refine aw_aload_n_q dX6_addPeak_68 rfl (j := 0) rfl ?_
      refine aw_getr_q dX6_addPeak_69 fl_X6_36 rfl rfl ?_
      refine aw_iload_n_q dX6_addPeak_72 rfl (j := 2) rfl ?_
      refine aw_iaload_q dX6_addPeak_73 rfl s1 ?_
      refine aw_bipush_q dX6_addPeak_74 (by decide) ?_
      obtain ⟨s8, h⟩ := h
      refine aw_icmp_eq_q dX6_addPeak_76 (tgt := 107) rfl s8 (by decide) (fun c9 => ?_) (fun c9 => ?_)
      · replace h := h.1 c9
        exact aw_vret_q dX6_addPeak_107 rfl h
      · replace h := h.2 c9
        refine aw_iload_n_q dX6_addPeak_79 rfl (j := 3) rfl ?_
        refine aw_iconst_q dX6_addPeak_80 ?_
        refine aw_iadd_q dX6_addPeak_81 ?_
        refine aw_bipush_q dX6_addPeak_82 (by decide) ?_
        obtain ⟨s10, h⟩ := h
        refine aw_icmp_ge_q dX6_addPeak_84 (tgt := 107) rfl s10 (by decide) (fun c11 => ?_) (fun c11 => ?_)
        · replace h := h.1 c11
          exact aw_vret_q dX6_addPeak_107 rfl h
        · replace h := h.2 c11
          refine aw_aload_n_q dX6_addPeak_87 rfl (j := 0) rfl ?_
          refine aw_getr_q dX6_addPeak_88 fl_X6_33 rfl rfl ?_
          refine aw_iload_n_q dX6_addPeak_91 rfl (j := 3) rfl ?_
          refine aw_iconst_q dX6_addPeak_92 ?_
          refine aw_iadd_q dX6_addPeak_93 ?_
          refine aw_bipush_q dX6_addPeak_94 (by decide) ?_
          refine aw_imul_q dX6_addPeak_96 ?_
          refine aw_aload_n_q dX6_addPeak_97 rfl (j := 0) rfl ?_
          refine aw_getr_q dX6_addPeak_98 fl_X6_36 rfl rfl ?_
          refine aw_iload_n_q dX6_addPeak_101 rfl (j := 2) rfl ?_
          refine aw_iaload_q dX6_addPeak_102 rfl s1 ?_
          refine aw_iadd_q dX6_addPeak_103 ?_
          refine aw_iload_q dX6_addPeak_104 (j := 4) rfl ?_
          obtain ⟨s12, h⟩ := h
          refine aw_iastore_q dX6_addPeak_106 rfl s12 ?_
          exact aw_vret_q dX6_addPeak_107 rfl h
    · replace h := h.2 c5
      exact aw_vret_q dX6_addPeak_22 rfl h
theorem sg_X6_measure_q {d : Nat} {M : am_M} {Q : Option Int → am_M → Prop} {n : Int} (h : (0 ≤ n ∧ n < 48) ∧
 (am_piok (M 41 0) n (M 42 n)) ∧
 AW_q (d + 1) mX6_measure 40 [(0, .inr 41), (1, .inl n), (2, .inl (am_pi (M 41 0) (M 48) n (M 42 n))), (3, .inl (am_pi (M 41 0) (M 48) n (M 42 n))), (4, .inl (am_pi (M 41 0) (M 48) n (M 42 n))), (5, .inl 0), (6, .inl 0), (7, .inl ((M 42 n) + 1))] [] (am_up M 45 n 0) Q) : AC_q (d + 1) mX6_measure [.inr 41, .inl n] M Q := by
  refine aw_body_q (by decide) (Nat.le_of_ble_eq_true rfl) rfl ?_
  refine aw_aload_n_q dX6_measure_0 rfl (j := 0) rfl ?_
  refine aw_iload_n_q dX6_measure_1 rfl (j := 1) rfl ?_
  refine aw_aload_n_q dX6_measure_2 rfl (j := 0) rfl ?_
  refine aw_getr_q dX6_measure_3 fl_X6_9 rfl rfl ?_
  refine aw_iload_n_q dX6_measure_6 rfl (j := 1) rfl ?_
  obtain ⟨s1, h⟩ := h
  refine aw_iaload_q dX6_measure_7 rfl s1 ?_
  obtain ⟨s2, h⟩ := h
  refine aw_invv_q (d' := d) (as := [.inl n, .inl (M 42 n)]) (rest := []) dX6_measure_8 cv_X6_76 (Nat.lt_succ_self _) rfl rfl rfl rfl rfl (Nat.le_of_ble_eq_true rfl) (fc_pitchIn_q s2 ?_)
  show AW_q (d + 1) mX6_measure 11 [(0, .inr 41), (1, .inl n)] [.inl (am_pi (M 41 0) (M 48) n (M 42 n))] M Q
  refine aw_istore_n_q (L' := [(0, .inr 41), (1, .inl n), (2, .inl (am_pi (M 41 0) (M 48) n (M 42 n)))]) dX6_measure_11 rfl (Nat.le_of_ble_eq_true rfl) rfl ?_
  refine aw_iload_n_q dX6_measure_12 rfl (j := 2) rfl ?_
  refine aw_istore_n_q (L' := [(0, .inr 41), (1, .inl n), (2, .inl (am_pi (M 41 0) (M 48) n (M 42 n))), (3, .inl (am_pi (M 41 0) (M 48) n (M 42 n)))]) dX6_measure_13 rfl (Nat.le_of_ble_eq_true rfl) rfl ?_
  refine aw_iload_n_q dX6_measure_14 rfl (j := 2) rfl ?_
  refine aw_istore_q (L' := [(0, .inr 41), (1, .inl n), (2, .inl (am_pi (M 41 0) (M 48) n (M 42 n))), (3, .inl (am_pi (M 41 0) (M 48) n (M 42 n))), (4, .inl (am_pi (M 41 0) (M 48) n (M 42 n)))]) dX6_measure_15 (Nat.le_of_ble_eq_true rfl) rfl ?_
  refine aw_iconst_q dX6_measure_17 ?_
  refine aw_istore_q (L' := [(0, .inr 41), (1, .inl n), (2, .inl (am_pi (M 41 0) (M 48) n (M 42 n))), (3, .inl (am_pi (M 41 0) (M 48) n (M 42 n))), (4, .inl (am_pi (M 41 0) (M 48) n (M 42 n))), (5, .inl 0)]) dX6_measure_18 (Nat.le_of_ble_eq_true rfl) rfl ?_
  refine aw_iconst_q dX6_measure_20 ?_
  refine aw_istore_q (L' := [(0, .inr 41), (1, .inl n), (2, .inl (am_pi (M 41 0) (M 48) n (M 42 n))), (3, .inl (am_pi (M 41 0) (M 48) n (M 42 n))), (4, .inl (am_pi (M 41 0) (M 48) n (M 42 n))), (5, .inl 0), (6, .inl 0)]) dX6_measure_21 (Nat.le_of_ble_eq_true rfl) rfl ?_
  refine aw_aload_n_q dX6_measure_23 rfl (j := 0) rfl ?_
  refine aw_getr_q dX6_measure_24 fl_X6_21 rfl rfl ?_
  refine aw_iload_n_q dX6_measure_27 rfl (j := 1) rfl ?_
  refine aw_iconst_q dX6_measure_28 ?_
  refine aw_iastore_q dX6_measure_29 rfl s1 ?_
  refine aw_aload_n_q dX6_measure_30 rfl (j := 0) rfl ?_
  refine aw_getr_q dX6_measure_31 fl_X6_9 rfl rfl ?_
  refine aw_iload_n_q dX6_measure_34 rfl (j := 1) rfl ?_
  refine aw_iaload_q dX6_measure_35 rfl s1 ?_
  refine aw_iconst_q dX6_measure_36 ?_
  refine aw_iadd_q dX6_measure_37 ?_
  refine aw_istore_q (L' := [(0, .inr 41), (1, .inl n), (2, .inl (am_pi (M 41 0) (M 48) n (M 42 n))), (3, .inl (am_pi (M 41 0) (M 48) n (M 42 n))), (4, .inl (am_pi (M 41 0) (M 48) n (M 42 n))), (5, .inl 0), (6, .inl 0), (7, .inl ((M 42 n) + 1))]) dX6_measure_38 (Nat.le_of_ble_eq_true rfl) rfl ?_
  exact h
theorem sg_X6_measure_40_q {d : Nat} {M : am_M} {Q : Option Int → am_M → Prop} {n here lw hg mo la f : Int} (h : (0 ≤ n ∧ n < 48) ∧
 (am_r f) ∧
 (am_r ((M 42 n) + (M 43 n))) ∧
 (((M 42 n) + (M 43 n) ≤ f →
 (am_r ((am_up M 44 n (hg - lw)) 44 n) ∧ am_r (M 45 n) ∧ am_r (2 * (M 45 n)) ∧ am_r mo) ∧
 Q none (am_up (am_up M 44 n (hg - lw)) 46 n (am_kb ((am_up M 44 n (hg - lw)) 44 n) (M 45 n) mo))) ∧
 (f < (M 42 n) + (M 43 n) →
 (am_piok (M 41 0) n f) ∧
 (am_r (am_pi (M 41 0) (M 48) n f) ∧ am_r here) ∧
 (am_r lw ∧ am_r (am_pi (M 41 0) (M 48) n f)) ∧
 (am_r hg ∧ am_r (am_pi (M 41 0) (M 48) n f)) ∧
 (am_r (am_cmp (am_pi (M 41 0) (M 48) n f) here)) ∧
 ((am_cmp (am_pi (M 41 0) (M 48) n f) here = 0 →
 AW_q (d + 1) mX6_measure 40 [(0, .inr 41), (1, .inl n), (2, .inl (am_pi (M 41 0) (M 48) n f)), (3, .inl (min lw (am_pi (M 41 0) (M 48) n f))), (4, .inl (max hg (am_pi (M 41 0) (M 48) n f))), (5, .inl mo), (6, .inl la), (7, .inl (f + 1))] [] M Q) ∧
 (am_cmp (am_pi (M 41 0) (M 48) n f) here ≠ 0 →
 (am_r la) ∧
 (am_r (-(am_cmp (am_pi (M 41 0) (M 48) n f) here))) ∧
 ((la ≠ -(am_cmp (am_pi (M 41 0) (M 48) n f) here) →
 AW_q (d + 1) mX6_measure 40 [(0, .inr 41), (1, .inl n), (2, .inl (am_pi (M 41 0) (M 48) n f)), (3, .inl (min lw (am_pi (M 41 0) (M 48) n f))), (4, .inl (max hg (am_pi (M 41 0) (M 48) n f))), (5, .inl (mo + 1)), (6, .inl (am_cmp (am_pi (M 41 0) (M 48) n f) here)), (7, .inl (f + 1))] [] M Q) ∧
 (la = -(am_cmp (am_pi (M 41 0) (M 48) n f) here) →
 AW_q (d + 1) mX6_measure 40 [(0, .inr 41), (1, .inl n), (2, .inl (am_pi (M 41 0) (M 48) n f)), (3, .inl (min lw (am_pi (M 41 0) (M 48) n f))), (4, .inl (max hg (am_pi (M 41 0) (M 48) n f))), (5, .inl (mo + 1)), (6, .inl (am_cmp (am_pi (M 41 0) (M 48) n f) here)), (7, .inl (f + 1))] [] (am_up M 45 n ((M 45 n) + 1)) Q))))))) : AW_q (d + 1) mX6_measure 40 [(0, .inr 41), (1, .inl n), (2, .inl here), (3, .inl lw), (4, .inl hg), (5, .inl mo), (6, .inl la), (7, .inl f)] [] M Q := by
  refine aw_iload_q dX6_measure_40 (j := 7) rfl ?_
  refine aw_aload_n_q dX6_measure_42 rfl (j := 0) rfl ?_
  refine aw_getr_q dX6_measure_43 fl_X6_9 rfl rfl ?_
  refine aw_iload_n_q dX6_measure_46 rfl (j := 1) rfl ?_
  obtain ⟨s1, h⟩ := h
  refine aw_iaload_q dX6_measure_47 rfl s1 ?_
  refine aw_aload_n_q dX6_measure_48 rfl (j := 0) rfl ?_
  refine aw_getr_q dX6_measure_49 fl_X6_15 rfl rfl ?_
  refine aw_iload_n_q dX6_measure_52 rfl (j := 1) rfl ?_
  refine aw_iaload_q dX6_measure_53 rfl s1 ?_
  refine aw_iadd_q dX6_measure_54 ?_
  obtain ⟨s2, h⟩ := h
  obtain ⟨s3, h⟩ := h
  refine aw_icmp_ge_q dX6_measure_55 (tgt := 129) rfl s2 s3 (fun c4 => ?_) (fun c4 => ?_)
  · replace h := h.1 c4
    refine aw_aload_n_q dX6_measure_129 rfl (j := 0) rfl ?_
    refine aw_getr_q dX6_measure_130 fl_X6_18 rfl rfl ?_
    refine aw_iload_n_q dX6_measure_133 rfl (j := 1) rfl ?_
    refine aw_iload_q dX6_measure_134 (j := 4) rfl ?_
    refine aw_iload_n_q dX6_measure_136 rfl (j := 3) rfl ?_
    refine aw_isub_q dX6_measure_137 ?_
    refine aw_iastore_q dX6_measure_138 rfl s1 ?_
    refine aw_aload_n_q dX6_measure_139 rfl (j := 0) rfl ?_
    refine aw_getr_q dX6_measure_140 fl_X6_24 rfl rfl ?_
    refine aw_iload_n_q dX6_measure_143 rfl (j := 1) rfl ?_
    refine aw_aload_n_q dX6_measure_144 rfl (j := 0) rfl ?_
    refine aw_getr_q dX6_measure_145 fl_X6_18 rfl rfl ?_
    refine aw_iload_n_q dX6_measure_148 rfl (j := 1) rfl ?_
    refine aw_iaload_q dX6_measure_149 rfl s1 ?_
    refine aw_aload_n_q dX6_measure_150 rfl (j := 0) rfl ?_
    refine aw_getr_q dX6_measure_151 fl_X6_21 rfl rfl ?_
    refine aw_iload_n_q dX6_measure_154 rfl (j := 1) rfl ?_
    refine aw_iaload_q dX6_measure_155 rfl s1 ?_
    refine aw_iload_q dX6_measure_156 (j := 5) rfl ?_
    obtain ⟨s5, h⟩ := h
    refine aw_invs_q (d' := d) (as := [.inl ((am_up M 44 n (hg - lw)) 44 n), .inl (M 45 n), .inl mo]) (rest := [.inl n, .inr 46]) dX6_measure_158 cs_X6_93 (Nat.lt_succ_self _) rfl rfl (Nat.le_of_ble_eq_true rfl) (fc_kindBy_q s5 ?_)
    show AW_q (d + 1) mX6_measure 161 [(0, .inr 41), (1, .inl n), (2, .inl here), (3, .inl lw), (4, .inl hg), (5, .inl mo), (6, .inl la), (7, .inl f)] [.inl (am_kb ((am_up M 44 n (hg - lw)) 44 n) (M 45 n) mo), .inl n, .inr 46] (am_up M 44 n (hg - lw)) Q
    refine aw_iastore_q dX6_measure_161 rfl s1 ?_
    exact aw_vret_q dX6_measure_162 rfl h
  · replace h := h.2 c4
    refine aw_aload_n_q dX6_measure_58 rfl (j := 0) rfl ?_
    refine aw_iload_n_q dX6_measure_59 rfl (j := 1) rfl ?_
    refine aw_iload_q dX6_measure_60 (j := 7) rfl ?_
    obtain ⟨s6, h⟩ := h
    refine aw_invv_q (d' := d) (as := [.inl n, .inl f]) (rest := []) dX6_measure_62 cv_X6_76 (Nat.lt_succ_self _) rfl rfl rfl rfl rfl (Nat.le_of_ble_eq_true rfl) (fc_pitchIn_q s6 ?_)
    show AW_q (d + 1) mX6_measure 65 [(0, .inr 41), (1, .inl n), (2, .inl here), (3, .inl lw), (4, .inl hg), (5, .inl mo), (6, .inl la), (7, .inl f)] [.inl (am_pi (M 41 0) (M 48) n f)] M Q
    refine aw_iload_n_q dX6_measure_65 rfl (j := 2) rfl ?_
    obtain ⟨s7, h⟩ := h
    refine aw_invs_q (d' := d) (as := [.inl (am_pi (M 41 0) (M 48) n f), .inl here]) (rest := []) dX6_measure_66 cs_X6_80 (Nat.lt_succ_self _) rfl rfl (Nat.le_of_ble_eq_true rfl) (fc_compare_q s7 ?_)
    show AW_q (d + 1) mX6_measure 69 [(0, .inr 41), (1, .inl n), (2, .inl here), (3, .inl lw), (4, .inl hg), (5, .inl mo), (6, .inl la), (7, .inl f)] [.inl (am_cmp (am_pi (M 41 0) (M 48) n f) here)] M Q
    refine aw_istore_q (L' := [(0, .inr 41), (1, .inl n), (2, .inl here), (3, .inl lw), (4, .inl hg), (5, .inl mo), (6, .inl la), (7, .inl f), (8, .inl (am_cmp (am_pi (M 41 0) (M 48) n f) here))]) dX6_measure_69 (Nat.le_of_ble_eq_true rfl) rfl ?_
    refine aw_aload_n_q dX6_measure_71 rfl (j := 0) rfl ?_
    refine aw_iload_n_q dX6_measure_72 rfl (j := 1) rfl ?_
    refine aw_iload_q dX6_measure_73 (j := 7) rfl ?_
    refine aw_invv_q (d' := d) (as := [.inl n, .inl f]) (rest := []) dX6_measure_75 cv_X6_76 (Nat.lt_succ_self _) rfl rfl rfl rfl rfl (Nat.le_of_ble_eq_true rfl) (fc_pitchIn_q s6 ?_)
    show AW_q (d + 1) mX6_measure 78 [(0, .inr 41), (1, .inl n), (2, .inl here), (3, .inl lw), (4, .inl hg), (5, .inl mo), (6, .inl la), (7, .inl f), (8, .inl (am_cmp (am_pi (M 41 0) (M 48) n f) here))] [.inl (am_pi (M 41 0) (M 48) n f)] M Q
    refine aw_istore_n_q (L' := [(0, .inr 41), (1, .inl n), (2, .inl (am_pi (M 41 0) (M 48) n f)), (3, .inl lw), (4, .inl hg), (5, .inl mo), (6, .inl la), (7, .inl f), (8, .inl (am_cmp (am_pi (M 41 0) (M 48) n f) here))]) dX6_measure_78 rfl (Nat.le_of_ble_eq_true rfl) rfl ?_
    refine aw_iload_n_q dX6_measure_79 rfl (j := 3) rfl ?_
    refine aw_iload_n_q dX6_measure_80 rfl (j := 2) rfl ?_
    obtain ⟨s8, h⟩ := h
    refine aw_min_q dX6_measure_81 cs_X6_85 (Nat.succ_pos _) (Nat.le_of_ble_eq_true rfl) s8 ?_
    refine aw_istore_n_q (L' := [(0, .inr 41), (1, .inl n), (2, .inl (am_pi (M 41 0) (M 48) n f)), (3, .inl (min lw (am_pi (M 41 0) (M 48) n f))), (4, .inl hg), (5, .inl mo), (6, .inl la), (7, .inl f), (8, .inl (am_cmp (am_pi (M 41 0) (M 48) n f) here))]) dX6_measure_84 rfl (Nat.le_of_ble_eq_true rfl) rfl ?_
    refine aw_iload_q dX6_measure_85 (j := 4) rfl ?_
    refine aw_iload_n_q dX6_measure_87 rfl (j := 2) rfl ?_
    obtain ⟨s9, h⟩ := h
    refine aw_max_q dX6_measure_88 cs_X6_90 (Nat.succ_pos _) (Nat.le_of_ble_eq_true rfl) s9 ?_
    refine aw_istore_q (L' := [(0, .inr 41), (1, .inl n), (2, .inl (am_pi (M 41 0) (M 48) n f)), (3, .inl (min lw (am_pi (M 41 0) (M 48) n f))), (4, .inl (max hg (am_pi (M 41 0) (M 48) n f))), (5, .inl mo), (6, .inl la), (7, .inl f), (8, .inl (am_cmp (am_pi (M 41 0) (M 48) n f) here))]) dX6_measure_91 (Nat.le_of_ble_eq_true rfl) rfl ?_
    refine aw_iload_q dX6_measure_93 (j := 8) rfl ?_
    obtain ⟨s10, h⟩ := h
    refine aw_if_eq_q dX6_measure_95 (tgt := 123) rfl s10 (fun c11 => ?_) (fun c11 => ?_)
    · replace h := h.1 c11
      refine aw_iinc_q (L' := [(0, .inr 41), (1, .inl n), (2, .inl (am_pi (M 41 0) (M 48) n f)), (3, .inl (min lw (am_pi (M 41 0) (M 48) n f))), (4, .inl (max hg (am_pi (M 41 0) (M 48) n f))), (5, .inl mo), (6, .inl la), (7, .inl (f + 1)), (8, .inl (am_cmp (am_pi (M 41 0) (M 48) n f) here))]) dX6_measure_123 (j := 7) rfl (Nat.le_of_ble_eq_true rfl) rfl ?_
      refine aw_goto_q dX6_measure_126 (tgt := 40) rfl ?_
      exact aw_sub_q [0, 1, 2, 3, 4, 5, 6, 7] rfl h
    · replace h := h.2 c11
      refine aw_iinc_q (L' := [(0, .inr 41), (1, .inl n), (2, .inl (am_pi (M 41 0) (M 48) n f)), (3, .inl (min lw (am_pi (M 41 0) (M 48) n f))), (4, .inl (max hg (am_pi (M 41 0) (M 48) n f))), (5, .inl (mo + 1)), (6, .inl la), (7, .inl f), (8, .inl (am_cmp (am_pi (M 41 0) (M 48) n f) here))]) dX6_measure_98 (j := 5) rfl (Nat.le_of_ble_eq_true rfl) rfl ?_
      refine aw_iload_q dX6_measure_101 (j := 6) rfl ?_
      refine aw_iload_q dX6_measure_103 (j := 8) rfl ?_
      refine aw_ineg_q dX6_measure_105 ?_
      obtain ⟨s12, h⟩ := h
      obtain ⟨s13, h⟩ := h
      refine aw_icmp_ne_q dX6_measure_106 (tgt := 119) rfl s12 s13 (fun c14 => ?_) (fun c14 => ?_)
      · replace h := h.1 c14
        refine aw_iload_q dX6_measure_119 (j := 8) rfl ?_
        refine aw_istore_q (L' := [(0, .inr 41), (1, .inl n), (2, .inl (am_pi (M 41 0) (M 48) n f)), (3, .inl (min lw (am_pi (M 41 0) (M 48) n f))), (4, .inl (max hg (am_pi (M 41 0) (M 48) n f))), (5, .inl (mo + 1)), (6, .inl (am_cmp (am_pi (M 41 0) (M 48) n f) here)), (7, .inl f), (8, .inl (am_cmp (am_pi (M 41 0) (M 48) n f) here))]) dX6_measure_121 (Nat.le_of_ble_eq_true rfl) rfl ?_
        refine aw_iinc_q (L' := [(0, .inr 41), (1, .inl n), (2, .inl (am_pi (M 41 0) (M 48) n f)), (3, .inl (min lw (am_pi (M 41 0) (M 48) n f))), (4, .inl (max hg (am_pi (M 41 0) (M 48) n f))), (5, .inl (mo + 1)), (6, .inl (am_cmp (am_pi (M 41 0) (M 48) n f) here)), (7, .inl (f + 1)), (8, .inl (am_cmp (am_pi (M 41 0) (M 48) n f) here))]) dX6_measure_123 (j := 7) rfl (Nat.le_of_ble_eq_true rfl) rfl ?_
        refine aw_goto_q dX6_measure_126 (tgt := 40) rfl ?_
        exact aw_sub_q [0, 1, 2, 3, 4, 5, 6, 7] rfl h
      · replace h := h.2 c14
        refine aw_aload_n_q dX6_measure_109 rfl (j := 0) rfl ?_
        refine aw_getr_q dX6_measure_110 fl_X6_21 rfl rfl ?_
        refine aw_iload_n_q dX6_measure_113 rfl (j := 1) rfl ?_
        refine aw_dup2_q dX6_measure_114 ?_
        refine aw_iaload_q dX6_measure_115 rfl s1 ?_
        refine aw_iconst_q dX6_measure_116 ?_
        refine aw_iadd_q dX6_measure_117 ?_
        refine aw_iastore_q dX6_measure_118 rfl s1 ?_
        refine aw_iload_q dX6_measure_119 (j := 8) rfl ?_
        refine aw_istore_q (L' := [(0, .inr 41), (1, .inl n), (2, .inl (am_pi (M 41 0) (M 48) n f)), (3, .inl (min lw (am_pi (M 41 0) (M 48) n f))), (4, .inl (max hg (am_pi (M 41 0) (M 48) n f))), (5, .inl (mo + 1)), (6, .inl (am_cmp (am_pi (M 41 0) (M 48) n f) here)), (7, .inl f), (8, .inl (am_cmp (am_pi (M 41 0) (M 48) n f) here))]) dX6_measure_121 (Nat.le_of_ble_eq_true rfl) rfl ?_
        refine aw_iinc_q (L' := [(0, .inr 41), (1, .inl n), (2, .inl (am_pi (M 41 0) (M 48) n f)), (3, .inl (min lw (am_pi (M 41 0) (M 48) n f))), (4, .inl (max hg (am_pi (M 41 0) (M 48) n f))), (5, .inl (mo + 1)), (6, .inl (am_cmp (am_pi (M 41 0) (M 48) n f) here)), (7, .inl (f + 1)), (8, .inl (am_cmp (am_pi (M 41 0) (M 48) n f) here))]) dX6_measure_123 (j := 7) rfl (Nat.le_of_ble_eq_true rfl) rfl ?_
        refine aw_goto_q dX6_measure_126 (tgt := 40) rfl ?_
        exact aw_sub_q [0, 1, 2, 3, 4, 5, 6, 7] rfl h
theorem sg_X6_follow_q {d : Nat} {M : am_M} {Q : Option Int → am_M → Prop} {re : Int} (h : AW_q (d + 5) mX6_follow 26 [(0, .inr 41), (1, .inr 31), (2, .inr 36), (3, .inl re), (4, .inl 0)] [] (am_fill (am_fill (am_up M 41 0 0) 48 384 (-9)) 49 48 (-9)) Q) : AC_q (d + 5) mX6_follow [.inr 41, .inr 31, .inr 36, .inl re] M Q := by
  refine aw_body_q (by decide) (Nat.le_of_ble_eq_true rfl) rfl ?_
  refine aw_aload_n_q dX6_follow_0 rfl (j := 0) rfl ?_
  refine aw_iconst_q dX6_follow_1 ?_
  refine aw_putf_q dX6_follow_2 pf_X6_39 rfl rfl rfl ?_
  refine aw_aload_n_q dX6_follow_5 rfl (j := 0) rfl ?_
  refine aw_getr_q dX6_follow_6 fl_X6_30 rfl rfl ?_
  refine aw_bipush_q dX6_follow_9 (by decide) ?_
  refine aw_invs_q (d' := d + 4) (as := [.inr 48, .inl (-9)]) (rest := []) dX6_follow_11 cs_X6_43 (Nat.lt_succ_self _) rfl rfl (Nat.le_of_ble_eq_true rfl) (fc_fill_q rfl ?_)
  show AW_q (d + 5) mX6_follow 14 [(0, .inr 41), (1, .inr 31), (2, .inr 36), (3, .inl re)] [] (am_fill (am_up M 41 0 0) 48 384 (-9)) Q
  refine aw_aload_n_q dX6_follow_14 rfl (j := 0) rfl ?_
  refine aw_getr_q dX6_follow_15 fl_X6_33 rfl rfl ?_
  refine aw_bipush_q dX6_follow_18 (by decide) ?_
  refine aw_invs_q (d' := d + 4) (as := [.inr 49, .inl (-9)]) (rest := []) dX6_follow_20 cs_X6_43 (Nat.lt_succ_self _) rfl rfl (Nat.le_of_ble_eq_true rfl) (fc_fill_q rfl ?_)
  show AW_q (d + 5) mX6_follow 23 [(0, .inr 41), (1, .inr 31), (2, .inr 36), (3, .inl re)] [] (am_fill (am_fill (am_up M 41 0 0) 48 384 (-9)) 49 48 (-9)) Q
  refine aw_iconst_q dX6_follow_23 ?_
  refine aw_istore_q (L' := [(0, .inr 41), (1, .inr 31), (2, .inr 36), (3, .inl re), (4, .inl 0)]) dX6_follow_24 (Nat.le_of_ble_eq_true rfl) rfl ?_
  exact h
theorem sg_X6_follow_26_q {d : Nat} {M : am_M} {Q : Option Int → am_M → Prop} {re f : Int} (h : (am_r f) ∧
 ((8 ≤ f →
 AW_q (d + 5) mX6_follow 125 [(0, .inr 41), (4, .inl 0)] [] M Q) ∧
 (f < 8 →
 AC_q (d + 4) mX1_join [.inr 36, .inr 31, .inl f, .inl re] M (fun r M3 => ∃ z4, r = some z4 ∧
 AW_q (d + 5) mX6_follow 45 [(0, .inr 41), (1, .inr 31), (2, .inr 36), (3, .inl re), (4, .inl f), (5, .inl 0)] [] M3 Q)))) : AW_q (d + 5) mX6_follow 26 [(0, .inr 41), (1, .inr 31), (2, .inr 36), (3, .inl re), (4, .inl f)] [] M Q := by
  refine aw_iload_q dX6_follow_26 (j := 4) rfl ?_
  refine aw_bipush_q dX6_follow_28 (by decide) ?_
  obtain ⟨s1, h⟩ := h
  refine aw_icmp_ge_q dX6_follow_30 (tgt := 122) rfl s1 (by decide) (fun c2 => ?_) (fun c2 => ?_)
  · replace h := h.1 c2
    refine aw_iconst_q dX6_follow_122 ?_
    refine aw_istore_q (L' := [(0, .inr 41), (1, .inr 31), (2, .inr 36), (3, .inl re), (4, .inl 0)]) dX6_follow_123 (Nat.le_of_ble_eq_true rfl) rfl ?_
    exact aw_sub_q [0, 4] rfl h
  · replace h := h.2 c2
    refine aw_aload_n_q dX6_follow_33 rfl (j := 2) rfl ?_
    refine aw_aload_n_q dX6_follow_34 rfl (j := 1) rfl ?_
    refine aw_iload_q dX6_follow_35 (j := 4) rfl ?_
    refine aw_iload_n_q dX6_follow_37 rfl (j := 3) rfl ?_
    refine aw_invv_q (d' := d + 4) (as := [.inr 31, .inl f, .inl re]) (rest := []) dX6_follow_38 cv_X6_49 (Nat.lt_succ_self _) rfl rfl rfl rfl rfl (Nat.le_of_ble_eq_true rfl) (AC_q.mono ?_ h)
    intro r M3 h
    obtain ⟨z4, rfl, h⟩ := h
    show AW_q (d + 5) mX6_follow 41 [(0, .inr 41), (1, .inr 31), (2, .inr 36), (3, .inl re), (4, .inl f)] [.inl z4] M3 Q
    refine aw_pop_q dX6_follow_41 ?_
    refine aw_iconst_q dX6_follow_42 ?_
    refine aw_istore_q (L' := [(0, .inr 41), (1, .inr 31), (2, .inr 36), (3, .inl re), (4, .inl f), (5, .inl 0)]) dX6_follow_43 (Nat.le_of_ble_eq_true rfl) rfl ?_
    exact h
theorem sg_X6_follow_125_q {d : Nat} {M : am_M} {Q : Option Int → am_M → Prop} {f : Int} (h : (am_r f) ∧
 (am_r (M 41 0)) ∧
 ((M 41 0 ≤ f →
 Q none M) ∧
 (f < M 41 0 →
 AC_q (d + 4) mX6_measure [.inr 41, .inl f] M (fun r M4 => r = none ∧
 AW_q (d + 5) mX6_follow 125 [(0, .inr 41), (4, .inl (f + 1))] [] M4 Q)))) : AW_q (d + 5) mX6_follow 125 [(0, .inr 41), (4, .inl f)] [] M Q := by
  refine aw_iload_q dX6_follow_125 (j := 1) rfl ?_
  refine aw_aload_n_q dX6_follow_127 rfl (j := 0) rfl ?_
  refine aw_getf_q dX6_follow_128 fl_X6_39 rfl rfl rfl ?_
  obtain ⟨s1, h⟩ := h
  obtain ⟨s2, h⟩ := h
  refine aw_icmp_ge_q dX6_follow_131 (tgt := 146) rfl s1 s2 (fun c3 => ?_) (fun c3 => ?_)
  · replace h := h.1 c3
    exact aw_vret_q dX6_follow_146 rfl h
  · replace h := h.2 c3
    refine aw_aload_n_q dX6_follow_134 rfl (j := 0) rfl ?_
    refine aw_iload_q dX6_follow_135 (j := 1) rfl ?_
    refine aw_invv_q (d' := d + 4) (as := [.inl f]) (rest := []) dX6_follow_137 cv_X6_70 (Nat.lt_succ_self _) rfl rfl rfl rfl rfl (Nat.le_of_ble_eq_true rfl) (AC_q.mono ?_ h)
    intro r M4 h
    obtain ⟨rfl, h⟩ := h
    show AW_q (d + 5) mX6_follow 140 [(0, .inr 41), (4, .inl f)] [] M4 Q
    refine aw_iinc_q (L' := [(0, .inr 41), (4, .inl (f + 1))]) dX6_follow_140 (j := 1) rfl (Nat.le_of_ble_eq_true rfl) rfl ?_
    refine aw_goto_q dX6_follow_143 (tgt := 125) rfl ?_
    exact h
theorem sg_X6_follow_45_q {d : Nat} {M : am_M} {Q : Option Int → am_M → Prop} {re f k : Int} (h : (0 ≤ f ∧ f < 8) ∧
 (am_r k) ∧
 (am_r (M 32 f)) ∧
 ((M 32 f ≤ k →
 AW_q (d + 5) mX6_follow 26 [(0, .inr 41), (1, .inr 31), (2, .inr 36), (3, .inl re), (4, .inl (f + 1))] [] M Q) ∧
 (k < M 32 f →
 (0 ≤ (f * 6) + k ∧ (f * 6) + k < 48) ∧
 (am_r (M 49 ((f * 6) + k))) ∧
 ((M 49 ((f * 6) + k) ≠ (-9) →
 (0 ≤ k ∧ k < 6) ∧
 AC_q (d + 4) mX6_addPeak [.inr 41, .inr 31, .inl ((f * 6) + k), .inl f] (am_up M 50 ((f * 6) + k) (M 37 k)) (fun r M9 => r = none ∧
 AW_q (d + 5) mX6_follow 45 [(0, .inr 41), (1, .inr 31), (2, .inr 36), (3, .inl re), (4, .inl f), (5, .inl (k + 1))] [] M9 Q)) ∧
 (M 49 ((f * 6) + k) = (-9) →
 AC_q (d + 4) mX6_begin [.inr 41, .inl ((f * 6) + k), .inl f] M (fun r M10 => r = none ∧
 (0 ≤ k ∧ k < 6) ∧
 AC_q (d + 4) mX6_addPeak [.inr 41, .inr 31, .inl ((f * 6) + k), .inl f] (am_up M10 50 ((f * 6) + k) (M10 37 k)) (fun r M12 => r = none ∧
 AW_q (d + 5) mX6_follow 45 [(0, .inr 41), (1, .inr 31), (2, .inr 36), (3, .inl re), (4, .inl f), (5, .inl (k + 1))] [] M12 Q))))))) : AW_q (d + 5) mX6_follow 45 [(0, .inr 41), (1, .inr 31), (2, .inr 36), (3, .inl re), (4, .inl f), (5, .inl k)] [] M Q := by
  refine aw_iload_q dX6_follow_45 (j := 5) rfl ?_
  refine aw_aload_n_q dX6_follow_47 rfl (j := 1) rfl ?_
  refine aw_getr_q dX6_follow_48 fl_X6_55 rfl rfl ?_
  refine aw_iload_q dX6_follow_51 (j := 4) rfl ?_
  obtain ⟨s1, h⟩ := h
  refine aw_iaload_q dX6_follow_53 rfl s1 ?_
  obtain ⟨s2, h⟩ := h
  obtain ⟨s3, h⟩ := h
  refine aw_icmp_ge_q dX6_follow_54 (tgt := 116) rfl s2 s3 (fun c4 => ?_) (fun c4 => ?_)
  · replace h := h.1 c4
    refine aw_iinc_q (L' := [(0, .inr 41), (1, .inr 31), (2, .inr 36), (3, .inl re), (4, .inl (f + 1)), (5, .inl k)]) dX6_follow_116 (j := 4) rfl (Nat.le_of_ble_eq_true rfl) rfl ?_
    refine aw_goto_q dX6_follow_119 (tgt := 26) rfl ?_
    exact aw_sub_q [0, 1, 2, 3, 4] rfl h
  · replace h := h.2 c4
    refine aw_iload_q dX6_follow_57 (j := 4) rfl ?_
    refine aw_bipush_q dX6_follow_59 (by decide) ?_
    refine aw_imul_q dX6_follow_61 ?_
    refine aw_iload_q dX6_follow_62 (j := 5) rfl ?_
    refine aw_iadd_q dX6_follow_64 ?_
    refine aw_istore_q (L' := [(0, .inr 41), (1, .inr 31), (2, .inr 36), (3, .inl re), (4, .inl f), (5, .inl k), (6, .inl ((f * 6) + k))]) dX6_follow_65 (Nat.le_of_ble_eq_true rfl) rfl ?_
    refine aw_aload_n_q dX6_follow_67 rfl (j := 0) rfl ?_
    refine aw_getr_q dX6_follow_68 fl_X6_33 rfl rfl ?_
    refine aw_iload_q dX6_follow_71 (j := 6) rfl ?_
    obtain ⟨s5, h⟩ := h
    refine aw_iaload_q dX6_follow_73 rfl s5 ?_
    refine aw_bipush_q dX6_follow_74 (by decide) ?_
    obtain ⟨s6, h⟩ := h
    refine aw_icmp_ne_q dX6_follow_76 (tgt := 87) rfl s6 (by decide) (fun c7 => ?_) (fun c7 => ?_)
    · replace h := h.1 c7
      refine aw_aload_n_q dX6_follow_87 rfl (j := 0) rfl ?_
      refine aw_getr_q dX6_follow_88 fl_X6_36 rfl rfl ?_
      refine aw_iload_q dX6_follow_91 (j := 6) rfl ?_
      refine aw_aload_n_q dX6_follow_93 rfl (j := 2) rfl ?_
      refine aw_getr_q dX6_follow_94 fl_X6_63 rfl rfl ?_
      refine aw_iload_q dX6_follow_97 (j := 5) rfl ?_
      obtain ⟨s8, h⟩ := h
      refine aw_iaload_q dX6_follow_99 rfl s8 ?_
      refine aw_iastore_q dX6_follow_100 rfl s5 ?_
      refine aw_aload_n_q dX6_follow_101 rfl (j := 0) rfl ?_
      refine aw_aload_n_q dX6_follow_102 rfl (j := 1) rfl ?_
      refine aw_iload_q dX6_follow_103 (j := 6) rfl ?_
      refine aw_iload_q dX6_follow_105 (j := 4) rfl ?_
      refine aw_invv_q (d' := d + 4) (as := [.inr 31, .inl ((f * 6) + k), .inl f]) (rest := []) dX6_follow_107 cv_X6_66 (Nat.lt_succ_self _) rfl rfl rfl rfl rfl (Nat.le_of_ble_eq_true rfl) (AC_q.mono ?_ h)
      intro r M9 h
      obtain ⟨rfl, h⟩ := h
      show AW_q (d + 5) mX6_follow 110 [(0, .inr 41), (1, .inr 31), (2, .inr 36), (3, .inl re), (4, .inl f), (5, .inl k), (6, .inl ((f * 6) + k))] [] M9 Q
      refine aw_iinc_q (L' := [(0, .inr 41), (1, .inr 31), (2, .inr 36), (3, .inl re), (4, .inl f), (5, .inl (k + 1)), (6, .inl ((f * 6) + k))]) dX6_follow_110 (j := 5) rfl (Nat.le_of_ble_eq_true rfl) rfl ?_
      refine aw_goto_q dX6_follow_113 (tgt := 45) rfl ?_
      exact aw_sub_q [0, 1, 2, 3, 4, 5] rfl h
    · replace h := h.2 c7
      refine aw_aload_n_q dX6_follow_79 rfl (j := 0) rfl ?_
      refine aw_iload_q dX6_follow_80 (j := 6) rfl ?_
      refine aw_iload_q dX6_follow_82 (j := 4) rfl ?_
      refine aw_invv_q (d' := d + 4) (as := [.inl ((f * 6) + k), .inl f]) (rest := []) dX6_follow_84 cv_X6_59 (Nat.lt_succ_self _) rfl rfl rfl rfl rfl (Nat.le_of_ble_eq_true rfl) (AC_q.mono ?_ h)
      intro r M10 h
      obtain ⟨rfl, h⟩ := h
      show AW_q (d + 5) mX6_follow 87 [(0, .inr 41), (1, .inr 31), (2, .inr 36), (3, .inl re), (4, .inl f), (5, .inl k), (6, .inl ((f * 6) + k))] [] M10 Q
      refine aw_aload_n_q dX6_follow_87 rfl (j := 0) rfl ?_
      refine aw_getr_q dX6_follow_88 fl_X6_36 rfl rfl ?_
      refine aw_iload_q dX6_follow_91 (j := 6) rfl ?_
      refine aw_aload_n_q dX6_follow_93 rfl (j := 2) rfl ?_
      refine aw_getr_q dX6_follow_94 fl_X6_63 rfl rfl ?_
      refine aw_iload_q dX6_follow_97 (j := 5) rfl ?_
      obtain ⟨s11, h⟩ := h
      refine aw_iaload_q dX6_follow_99 rfl s11 ?_
      refine aw_iastore_q dX6_follow_100 rfl s5 ?_
      refine aw_aload_n_q dX6_follow_101 rfl (j := 0) rfl ?_
      refine aw_aload_n_q dX6_follow_102 rfl (j := 1) rfl ?_
      refine aw_iload_q dX6_follow_103 (j := 6) rfl ?_
      refine aw_iload_q dX6_follow_105 (j := 4) rfl ?_
      refine aw_invv_q (d' := d + 4) (as := [.inr 31, .inl ((f * 6) + k), .inl f]) (rest := []) dX6_follow_107 cv_X6_66 (Nat.lt_succ_self _) rfl rfl rfl rfl rfl (Nat.le_of_ble_eq_true rfl) (AC_q.mono ?_ h)
      intro r M12 h
      obtain ⟨rfl, h⟩ := h
      show AW_q (d + 5) mX6_follow 110 [(0, .inr 41), (1, .inr 31), (2, .inr 36), (3, .inl re), (4, .inl f), (5, .inl k), (6, .inl ((f * 6) + k))] [] M12 Q
      refine aw_iinc_q (L' := [(0, .inr 41), (1, .inr 31), (2, .inr 36), (3, .inl re), (4, .inl f), (5, .inl (k + 1)), (6, .inl ((f * 6) + k))]) dX6_follow_110 (j := 5) rfl (Nat.le_of_ble_eq_true rfl) rfl ?_
      refine aw_goto_q dX6_follow_113 (tgt := 45) rfl ?_
      exact aw_sub_q [0, 1, 2, 3, 4, 5] rfl h
/-! the class alone: 08d over the cells 0..61 -/
theorem sg_X7_followAnew_q {d : Nat} {M : am_M} {Q : Option Int → am_M → Prop} (h : AC_q (d + 5) mX2_find [.inr 31, .inr 1] M (fun r M1 => r = none ∧
 AC_q (d + 5) mX6_follow [.inr 41, .inr 31, .inr 36, .inl (M1 2 1)] M1 (fun r M2 => r = none ∧
 Q none (am_up M2 0 10 (-9))))) : AC_q (d + 6) mX7_followAnew [.inr 0] M Q := by
  refine aw_body_q (by decide) (Nat.le_of_ble_eq_true rfl) rfl ?_
  refine aw_aload_n_q dX7_followAnew_0 rfl (j := 0) rfl ?_
  refine aw_getr_q dX7_followAnew_1 fl_X7_44 rfl rfl ?_
  refine aw_aload_n_q dX7_followAnew_4 rfl (j := 0) rfl ?_
  refine aw_getr_q dX7_followAnew_5 fl_X7_10 rfl rfl ?_
  refine aw_invv_q (d' := d + 5) (as := [.inr 1]) (rest := []) dX7_followAnew_8 cv_X7_224 (Nat.lt_succ_self _) rfl rfl rfl rfl rfl (Nat.le_of_ble_eq_true rfl) (AC_q.mono ?_ h)
  intro r M1 h
  obtain ⟨rfl, h⟩ := h
  show AW_q (d + 6) mX7_followAnew 11 [(0, .inr 0)] [] M1 Q
  refine aw_aload_n_q dX7_followAnew_11 rfl (j := 0) rfl ?_
  refine aw_getr_q dX7_followAnew_12 fl_X7_58 rfl rfl ?_
  refine aw_aload_n_q dX7_followAnew_15 rfl (j := 0) rfl ?_
  refine aw_getr_q dX7_followAnew_16 fl_X7_44 rfl rfl ?_
  refine aw_aload_n_q dX7_followAnew_19 rfl (j := 0) rfl ?_
  refine aw_getr_q dX7_followAnew_20 fl_X7_51 rfl rfl ?_
  refine aw_aload_n_q dX7_followAnew_23 rfl (j := 0) rfl ?_
  refine aw_getr_q dX7_followAnew_24 fl_X7_10 rfl rfl ?_
  refine aw_getr_q dX7_followAnew_27 fl_X7_112 rfl rfl ?_
  refine aw_iconst_q dX7_followAnew_30 ?_
  refine aw_iaload_q dX7_followAnew_31 rfl (by decide) ?_
  refine aw_invv_q (d' := d + 5) (as := [.inr 31, .inr 36, .inl (M1 2 1)]) (rest := []) dX7_followAnew_32 cv_X7_227 (Nat.lt_succ_self _) rfl rfl rfl rfl rfl (Nat.le_of_ble_eq_true rfl) (AC_q.mono ?_ h)
  intro r M2 h
  obtain ⟨rfl, h⟩ := h
  show AW_q (d + 6) mX7_followAnew 35 [(0, .inr 0)] [] M2 Q
  refine aw_aload_n_q dX7_followAnew_35 rfl (j := 0) rfl ?_
  refine aw_bipush_q dX7_followAnew_36 (by decide) ?_
  refine aw_putf_q dX7_followAnew_38 pf_X7_69 rfl rfl rfl ?_
  exact aw_vret_q dX7_followAnew_41 rfl h
