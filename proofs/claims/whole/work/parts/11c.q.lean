/-! the class alone: 08a over the cells 0..61 -/
theorem sg_X3_makeEmpty_q {d : Nat} {M : am_M} {Q : Option Int → am_M → Prop} {a : Nat} (ha : am_sc_q a) (h : Q none (am_fill (am_cpt (am_up (am_up M a 0 0) a 1 0) am_fi (a + 1) 3) (a + 2) 96 0)) : AC_q (d + 1) mX3_makeEmpty [.inr a] M Q := by
  refine aw_body_q (by decide) (Nat.le_of_ble_eq_true rfl) rfl ?_
  refine aw_aload_n_q dX3_makeEmpty_0 rfl (j := 0) rfl ?_
  refine aw_iconst_q dX3_makeEmpty_1 ?_
  refine aw_putf_q dX3_makeEmpty_2 pf_X3_21 ha.1 rfl rfl ?_
  refine aw_aload_n_q dX3_makeEmpty_5 rfl (j := 0) rfl ?_
  refine aw_iconst_q dX3_makeEmpty_6 ?_
  refine aw_putf_q dX3_makeEmpty_7 pf_X3_25 ha.1 rfl rfl ?_
  refine aw_gets102_q rfl dX3_makeEmpty_10 ?_
  refine aw_iconst_q dX3_makeEmpty_13 ?_
  refine aw_aload_n_q dX3_makeEmpty_14 rfl (j := 0) rfl ?_
  refine aw_getr_q dX3_makeEmpty_15 fl_X3_9 ha.1 rfl ?_
  refine aw_iconst_q dX3_makeEmpty_18 ?_
  refine aw_iconst_q dX3_makeEmpty_19 ?_
  refine aw_copyt_q dX3_makeEmpty_20 cp_X3_31 (Nat.succ_pos _) ha.2.1 (Nat.le_of_ble_eq_true rfl) ?_
  refine aw_aload_n_q dX3_makeEmpty_23 rfl (j := 0) rfl ?_
  refine aw_getr_q dX3_makeEmpty_24 fl_X3_15 ha.1 rfl ?_
  refine aw_iconst_q dX3_makeEmpty_27 ?_
  refine aw_invs_q (d' := d) (as := [.inr (a + 2), .inl 0]) (rest := []) dX3_makeEmpty_28 cs_X3_37 (Nat.lt_succ_self _) rfl rfl (Nat.le_of_ble_eq_true rfl) (fc_fill_q ha.2.2 ?_)
  show AW_q (d + 1) mX3_makeEmpty 31 [(0, .inr a)] [] (am_fill (am_cpt (am_up (am_up M a 0 0) a 1 0) am_fi (a + 1) 3) (a + 2) 96 0) Q
  exact aw_vret_q dX3_makeEmpty_31 rfl h
theorem sg_X3_makeFirst_q {d : Nat} {M : am_M} {Q : Option Int → am_M → Prop} {a : Nat} (ha : am_sc_q a) (h : AC_q (d + 1) mX3_makeEmpty [.inr a] M (fun r M1 => r = none ∧
 Q none (am_up (am_up M1 a 0 1) a 1 3))) : AC_q (d + 2) mX3_makeFirst [.inr a] M Q := by
  refine aw_body_q (by decide) (Nat.le_of_ble_eq_true rfl) rfl ?_
  refine aw_aload_n_q dX3_makeFirst_0 rfl (j := 0) rfl ?_
  refine aw_invv_q (d' := d + 1) (as := []) (rest := []) dX3_makeFirst_1 cv_X3_18 (Nat.lt_succ_self _) ha.1 rfl rfl rfl rfl (Nat.le_of_ble_eq_true rfl) (AC_q.mono ?_ h)
  intro r M1 h
  obtain ⟨rfl, h⟩ := h
  show AW_q (d + 2) mX3_makeFirst 4 [(0, .inr a)] [] M1 Q
  refine aw_aload_n_q dX3_makeFirst_4 rfl (j := 0) rfl ?_
  refine aw_iconst_q dX3_makeFirst_5 ?_
  refine aw_putf_q dX3_makeFirst_6 pf_X3_21 ha.1 rfl rfl ?_
  refine aw_aload_n_q dX3_makeFirst_9 rfl (j := 0) rfl ?_
  refine aw_iconst_q dX3_makeFirst_10 ?_
  refine aw_putf_q dX3_makeFirst_11 pf_X3_25 ha.1 rfl rfl ?_
  exact aw_vret_q dX3_makeFirst_14 rfl h
theorem sg_X2_lookAt_q {d : Nat} {M : am_M} {Q : Option Int → am_M → Prop} {f p : Int} (h : (am_lvok (M 1 0) (M 1 1) f p) ∧
 (am_lvok (M 1 0) (M 1 1) f (p - 1)) ∧
 (am_lvok (M 1 0) (M 1 1) f (p + 1)) ∧
 (((am_r (am_lv (M 1 0) (M 1 1) (M 3) f p)) ∧ (am_r (M 2 0)) ∧ (M 2 0 ≤ am_lv (M 1 0) (M 1 1) (M 3) f p → ((am_r (am_lv (M 1 0) (M 1 1) (M 3) f (p - 1))) ∧ (am_lv (M 1 0) (M 1 1) (M 3) f (p - 1) < am_lv (M 1 0) (M 1 1) (M 3) f p → (am_r (am_lv (M 1 0) (M 1 1) (M 3) f (p + 1)))))))) ∧
 ((¬ ((M 2 0 ≤ am_lv (M 1 0) (M 1 1) (M 3) f p) ∧ (am_lv (M 1 0) (M 1 1) (M 3) f (p - 1) < am_lv (M 1 0) (M 1 1) (M 3) f p) ∧ (am_lv (M 1 0) (M 1 1) (M 3) f (p + 1) ≤ am_lv (M 1 0) (M 1 1) (M 3) f p)) →
 Q none M) ∧
 ((M 2 0 ≤ am_lv (M 1 0) (M 1 1) (M 3) f p) ∧ (am_lv (M 1 0) (M 1 1) (M 3) f (p - 1) < am_lv (M 1 0) (M 1 1) (M 3) f p) ∧ (am_lv (M 1 0) (M 1 1) (M 3) f (p + 1) ≤ am_lv (M 1 0) (M 1 1) (M 3) f p) →
 (0 ≤ f ∧ f < 8) ∧
 (am_r (M 32 f)) ∧
 ((6 ≤ M 32 f →
 Q none M) ∧
 (M 32 f < 6 →
 (0 ≤ (f * 6) + (M 32 f) ∧ (f * 6) + (M 32 f) < 48) ∧
 (am_r (am_lv (M 1 0) (M 1 1) (M 3) f (p + 1)) ∧ am_r (am_lv (M 1 0) (M 1 1) (M 3) f (p - 1))) ∧
 Q none (am_up (am_up (am_up (am_up M 33 ((f * 6) + (M 32 f)) p) 34 ((f * 6) + (M 32 f)) ((4 * p) + (am_cmp (am_lv (M 1 0) (M 1 1) (M 3) f (p + 1)) (am_lv (M 1 0) (M 1 1) (M 3) f (p - 1))))) 35 ((f * 6) + (M 32 f)) (am_lv (M 1 0) (M 1 1) (M 3) f p)) 32 f ((M 32 f) + 1))))))) : AC_q (d + 3) mX2_lookAt [.inr 31, .inr 1, .inl f, .inl p] M Q := by
  refine aw_body_q (by decide) (Nat.le_of_ble_eq_true rfl) rfl ?_
  refine aw_aload_n_q dX2_lookAt_0 rfl (j := 1) rfl ?_
  refine aw_iload_n_q dX2_lookAt_1 rfl (j := 2) rfl ?_
  refine aw_iload_n_q dX2_lookAt_2 rfl (j := 3) rfl ?_
  obtain ⟨s1, h⟩ := h
  refine aw_invv_q (d' := d + 2) (as := [.inl f, .inl p]) (rest := []) dX2_lookAt_3 cv_X2_33 (Nat.lt_succ_self _) rfl rfl rfl rfl rfl (Nat.le_of_ble_eq_true rfl) (fc_levelAt_q (a := 1) ⟨rfl, rfl, rfl⟩ s1 ?_)
  show AW_q (d + 3) mX2_lookAt 6 [(0, .inr 31), (1, .inr 1), (2, .inl f), (3, .inl p)] [.inl (am_lv (M 1 0) (M 1 1) (M 3) f p)] M Q
  refine aw_istore_q (L' := [(0, .inr 31), (1, .inr 1), (2, .inl f), (3, .inl p), (4, .inl (am_lv (M 1 0) (M 1 1) (M 3) f p))]) dX2_lookAt_6 (Nat.le_of_ble_eq_true rfl) rfl ?_
  refine aw_aload_n_q dX2_lookAt_8 rfl (j := 1) rfl ?_
  refine aw_iload_n_q dX2_lookAt_9 rfl (j := 2) rfl ?_
  refine aw_iload_n_q dX2_lookAt_10 rfl (j := 3) rfl ?_
  refine aw_iconst_q dX2_lookAt_11 ?_
  refine aw_isub_q dX2_lookAt_12 ?_
  obtain ⟨s2, h⟩ := h
  refine aw_invv_q (d' := d + 2) (as := [.inl f, .inl (p - 1)]) (rest := []) dX2_lookAt_13 cv_X2_33 (Nat.lt_succ_self _) rfl rfl rfl rfl rfl (Nat.le_of_ble_eq_true rfl) (fc_levelAt_q (a := 1) ⟨rfl, rfl, rfl⟩ s2 ?_)
  show AW_q (d + 3) mX2_lookAt 16 [(0, .inr 31), (1, .inr 1), (2, .inl f), (3, .inl p), (4, .inl (am_lv (M 1 0) (M 1 1) (M 3) f p))] [.inl (am_lv (M 1 0) (M 1 1) (M 3) f (p - 1))] M Q
  refine aw_istore_q (L' := [(0, .inr 31), (1, .inr 1), (2, .inl f), (3, .inl p), (4, .inl (am_lv (M 1 0) (M 1 1) (M 3) f p)), (5, .inl (am_lv (M 1 0) (M 1 1) (M 3) f (p - 1)))]) dX2_lookAt_16 (Nat.le_of_ble_eq_true rfl) rfl ?_
  refine aw_aload_n_q dX2_lookAt_18 rfl (j := 1) rfl ?_
  refine aw_iload_n_q dX2_lookAt_19 rfl (j := 2) rfl ?_
  refine aw_iload_n_q dX2_lookAt_20 rfl (j := 3) rfl ?_
  refine aw_iconst_q dX2_lookAt_21 ?_
  refine aw_iadd_q dX2_lookAt_22 ?_
  obtain ⟨s3, h⟩ := h
  refine aw_invv_q (d' := d + 2) (as := [.inl f, .inl (p + 1)]) (rest := []) dX2_lookAt_23 cv_X2_33 (Nat.lt_succ_self _) rfl rfl rfl rfl rfl (Nat.le_of_ble_eq_true rfl) (fc_levelAt_q (a := 1) ⟨rfl, rfl, rfl⟩ s3 ?_)
  show AW_q (d + 3) mX2_lookAt 26 [(0, .inr 31), (1, .inr 1), (2, .inl f), (3, .inl p), (4, .inl (am_lv (M 1 0) (M 1 1) (M 3) f p)), (5, .inl (am_lv (M 1 0) (M 1 1) (M 3) f (p - 1)))] [.inl (am_lv (M 1 0) (M 1 1) (M 3) f (p + 1))] M Q
  refine aw_istore_q (L' := [(0, .inr 31), (1, .inr 1), (2, .inl f), (3, .inl p), (4, .inl (am_lv (M 1 0) (M 1 1) (M 3) f p)), (5, .inl (am_lv (M 1 0) (M 1 1) (M 3) f (p - 1))), (6, .inl (am_lv (M 1 0) (M 1 1) (M 3) f (p + 1)))]) dX2_lookAt_26 (Nat.le_of_ble_eq_true rfl) rfl ?_
  refine aw_iload_q dX2_lookAt_28 (j := 4) rfl ?_
  refine aw_aload_n_q dX2_lookAt_30 rfl (j := 1) rfl ?_
  refine aw_getr_q dX2_lookAt_31 fl_X2_37 rfl rfl ?_
  refine aw_iconst_q dX2_lookAt_34 ?_
  refine aw_iaload_q dX2_lookAt_35 rfl (by decide) ?_
  obtain ⟨g, h⟩ := h
  have K : AW_q (d + 3) mX2_lookAt 58 [(0, .inr 31), (1, .inr 1), (2, .inl f), (3, .inl p), (4, .inl (am_lv (M 1 0) (M 1 1) (M 3) f p)), (5, .inl (am_lv (M 1 0) (M 1 1) (M 3) f (p - 1))), (6, .inl (am_lv (M 1 0) (M 1 1) (M 3) f (p + 1)))] [.inl (am_b ((M 2 0 ≤ am_lv (M 1 0) (M 1 1) (M 3) f p) ∧ (am_lv (M 1 0) (M 1 1) (M 3) f (p - 1) < am_lv (M 1 0) (M 1 1) (M 3) f p) ∧ (am_lv (M 1 0) (M 1 1) (M 3) f (p + 1) ≤ am_lv (M 1 0) (M 1 1) (M 3) f p)))] M Q := by
    refine aw_istore_q (L' := [(0, .inr 31), (1, .inr 1), (2, .inl f), (3, .inl p), (4, .inl (am_lv (M 1 0) (M 1 1) (M 3) f p)), (5, .inl (am_lv (M 1 0) (M 1 1) (M 3) f (p - 1))), (6, .inl (am_lv (M 1 0) (M 1 1) (M 3) f (p + 1))), (7, .inl (am_b ((M 2 0 ≤ am_lv (M 1 0) (M 1 1) (M 3) f p) ∧ (am_lv (M 1 0) (M 1 1) (M 3) f (p - 1) < am_lv (M 1 0) (M 1 1) (M 3) f p) ∧ (am_lv (M 1 0) (M 1 1) (M 3) f (p + 1) ≤ am_lv (M 1 0) (M 1 1) (M 3) f p))))]) dX2_lookAt_58 (Nat.le_of_ble_eq_true rfl) rfl ?_
    refine aw_iload_q dX2_lookAt_60 (j := 7) rfl ?_
    refine aw_ifb_eq_q dX2_lookAt_62 (tgt := 134) rfl (fun c11 => ?_) (fun c11 => ?_)
    · replace h := h.1 c11
      exact aw_vret_q dX2_lookAt_134 rfl h
    · replace h := h.2 c11
      refine aw_aload_n_q dX2_lookAt_65 rfl (j := 0) rfl ?_
      refine aw_getr_q dX2_lookAt_66 fl_X2_9 rfl rfl ?_
      refine aw_iload_n_q dX2_lookAt_69 rfl (j := 2) rfl ?_
      obtain ⟨s12, h⟩ := h
      refine aw_iaload_q dX2_lookAt_70 rfl s12 ?_
      refine aw_bipush_q dX2_lookAt_71 (by decide) ?_
      obtain ⟨s13, h⟩ := h
      refine aw_icmp_ge_q dX2_lookAt_73 (tgt := 134) rfl s13 (by decide) (fun c14 => ?_) (fun c14 => ?_)
      · replace h := h.1 c14
        exact aw_vret_q dX2_lookAt_134 rfl h
      · replace h := h.2 c14
        refine aw_iload_n_q dX2_lookAt_76 rfl (j := 2) rfl ?_
        refine aw_bipush_q dX2_lookAt_77 (by decide) ?_
        refine aw_imul_q dX2_lookAt_79 ?_
        refine aw_aload_n_q dX2_lookAt_80 rfl (j := 0) rfl ?_
        refine aw_getr_q dX2_lookAt_81 fl_X2_9 rfl rfl ?_
        refine aw_iload_n_q dX2_lookAt_84 rfl (j := 2) rfl ?_
        refine aw_iaload_q dX2_lookAt_85 rfl s12 ?_
        refine aw_iadd_q dX2_lookAt_86 ?_
        refine aw_istore_q (L' := [(0, .inr 31), (1, .inr 1), (2, .inl f), (3, .inl p), (4, .inl (am_lv (M 1 0) (M 1 1) (M 3) f p)), (5, .inl (am_lv (M 1 0) (M 1 1) (M 3) f (p - 1))), (6, .inl (am_lv (M 1 0) (M 1 1) (M 3) f (p + 1))), (7, .inl (am_b ((M 2 0 ≤ am_lv (M 1 0) (M 1 1) (M 3) f p) ∧ (am_lv (M 1 0) (M 1 1) (M 3) f (p - 1) < am_lv (M 1 0) (M 1 1) (M 3) f p) ∧ (am_lv (M 1 0) (M 1 1) (M 3) f (p + 1) ≤ am_lv (M 1 0) (M 1 1) (M 3) f p)))), (8, .inl ((f * 6) + (M 32 f)))]) dX2_lookAt_87 (Nat.le_of_ble_eq_true rfl) rfl ?_
        refine aw_aload_n_q dX2_lookAt_89 rfl (j := 0) rfl ?_
        refine aw_getr_q dX2_lookAt_90 fl_X2_15 rfl rfl ?_
        refine aw_iload_q dX2_lookAt_93 (j := 8) rfl ?_
        refine aw_iload_n_q dX2_lookAt_95 rfl (j := 3) rfl ?_
        obtain ⟨s15, h⟩ := h
        refine aw_iastore_q dX2_lookAt_96 rfl s15 ?_
        refine aw_aload_n_q dX2_lookAt_97 rfl (j := 0) rfl ?_
        refine aw_getr_q dX2_lookAt_98 fl_X2_18 rfl rfl ?_
        refine aw_iload_q dX2_lookAt_101 (j := 8) rfl ?_
        refine aw_iconst_q dX2_lookAt_103 ?_
        refine aw_iload_n_q dX2_lookAt_104 rfl (j := 3) rfl ?_
        refine aw_imul_q dX2_lookAt_105 ?_
        refine aw_iload_q dX2_lookAt_106 (j := 6) rfl ?_
        refine aw_iload_q dX2_lookAt_108 (j := 5) rfl ?_
        obtain ⟨s16, h⟩ := h
        refine aw_invs_q (d' := d + 2) (as := [.inl (am_lv (M 1 0) (M 1 1) (M 3) f (p + 1)), .inl (am_lv (M 1 0) (M 1 1) (M 3) f (p - 1))]) (rest := [.inl (4 * p), .inl ((f * 6) + (M 32 f)), .inr 34]) dX2_lookAt_110 cs_X2_40 (Nat.lt_succ_self _) rfl rfl (Nat.le_of_ble_eq_true rfl) (fc_compare_q s16 ?_)
        show AW_q (d + 3) mX2_lookAt 113 [(0, .inr 31), (1, .inr 1), (2, .inl f), (3, .inl p), (4, .inl (am_lv (M 1 0) (M 1 1) (M 3) f p)), (5, .inl (am_lv (M 1 0) (M 1 1) (M 3) f (p - 1))), (6, .inl (am_lv (M 1 0) (M 1 1) (M 3) f (p + 1))), (7, .inl (am_b ((M 2 0 ≤ am_lv (M 1 0) (M 1 1) (M 3) f p) ∧ (am_lv (M 1 0) (M 1 1) (M 3) f (p - 1) < am_lv (M 1 0) (M 1 1) (M 3) f p) ∧ (am_lv (M 1 0) (M 1 1) (M 3) f (p + 1) ≤ am_lv (M 1 0) (M 1 1) (M 3) f p)))), (8, .inl ((f * 6) + (M 32 f)))] [.inl (am_cmp (am_lv (M 1 0) (M 1 1) (M 3) f (p + 1)) (am_lv (M 1 0) (M 1 1) (M 3) f (p - 1))), .inl (4 * p), .inl ((f * 6) + (M 32 f)), .inr 34] (am_up M 33 ((f * 6) + (M 32 f)) p) Q
        refine aw_iadd_q dX2_lookAt_113 ?_
        refine aw_iastore_q dX2_lookAt_114 rfl s15 ?_
        refine aw_aload_n_q dX2_lookAt_115 rfl (j := 0) rfl ?_
        refine aw_getr_q dX2_lookAt_116 fl_X2_21 rfl rfl ?_
        refine aw_iload_q dX2_lookAt_119 (j := 8) rfl ?_
        refine aw_iload_q dX2_lookAt_121 (j := 4) rfl ?_
        refine aw_iastore_q dX2_lookAt_123 rfl s15 ?_
        refine aw_aload_n_q dX2_lookAt_124 rfl (j := 0) rfl ?_
        refine aw_getr_q dX2_lookAt_125 fl_X2_9 rfl rfl ?_
        refine aw_iload_n_q dX2_lookAt_128 rfl (j := 2) rfl ?_
        refine aw_dup2_q dX2_lookAt_129 ?_
        refine aw_iaload_q dX2_lookAt_130 rfl s12 ?_
        refine aw_iconst_q dX2_lookAt_131 ?_
        refine aw_iadd_q dX2_lookAt_132 ?_
        refine aw_iastore_q dX2_lookAt_133 rfl s12 ?_
        exact aw_vret_q dX2_lookAt_134 rfl h
  clear h
  obtain ⟨s4, g⟩ := g
  obtain ⟨s5, g⟩ := g
  refine aw_icmp_lt_q dX2_lookAt_36 (tgt := 57) rfl s4 s5 (fun c6 => ?_) (fun c6 => ?_)
  · have c6 : am_lv (M 1 0) (M 1 1) (M 3) f p < M 2 0 := c6
    refine aw_iconst_q dX2_lookAt_57 ?_
    have hp : ¬ ((M 2 0 ≤ am_lv (M 1 0) (M 1 1) (M 3) f p) ∧ (am_lv (M 1 0) (M 1 1) (M 3) f (p - 1) < am_lv (M 1 0) (M 1 1) (M 3) f p) ∧ (am_lv (M 1 0) (M 1 1) (M 3) f (p + 1) ≤ am_lv (M 1 0) (M 1 1) (M 3) f p)) := by first | omega | simp_all
    have K1 := K
    rw [am_b_neg hp] at K1
    exact K1
  · have c6 : M 2 0 ≤ am_lv (M 1 0) (M 1 1) (M 3) f p := c6
    replace g := g c6
    refine aw_iload_q dX2_lookAt_39 (j := 4) rfl ?_
    refine aw_iload_q dX2_lookAt_41 (j := 5) rfl ?_
    obtain ⟨s7, g⟩ := g
    refine aw_icmp_le_q dX2_lookAt_43 (tgt := 57) rfl s4 s7 (fun c8 => ?_) (fun c8 => ?_)
    · have c8 : am_lv (M 1 0) (M 1 1) (M 3) f p ≤ am_lv (M 1 0) (M 1 1) (M 3) f (p - 1) := c8
      refine aw_iconst_q dX2_lookAt_57 ?_
      have hp : ¬ ((M 2 0 ≤ am_lv (M 1 0) (M 1 1) (M 3) f p) ∧ (am_lv (M 1 0) (M 1 1) (M 3) f (p - 1) < am_lv (M 1 0) (M 1 1) (M 3) f p) ∧ (am_lv (M 1 0) (M 1 1) (M 3) f (p + 1) ≤ am_lv (M 1 0) (M 1 1) (M 3) f p)) := by first | omega | simp_all
      have K1 := K
      rw [am_b_neg hp] at K1
      exact K1
    · have c8 : am_lv (M 1 0) (M 1 1) (M 3) f (p - 1) < am_lv (M 1 0) (M 1 1) (M 3) f p := c8
      replace g := g c8
      refine aw_iload_q dX2_lookAt_46 (j := 4) rfl ?_
      refine aw_iload_q dX2_lookAt_48 (j := 6) rfl ?_
      have s9 := g
      refine aw_icmp_lt_q dX2_lookAt_50 (tgt := 57) rfl s4 s9 (fun c10 => ?_) (fun c10 => ?_)
      · have c10 : am_lv (M 1 0) (M 1 1) (M 3) f p < am_lv (M 1 0) (M 1 1) (M 3) f (p + 1) := c10
        refine aw_iconst_q dX2_lookAt_57 ?_
        have hp : ¬ ((M 2 0 ≤ am_lv (M 1 0) (M 1 1) (M 3) f p) ∧ (am_lv (M 1 0) (M 1 1) (M 3) f (p - 1) < am_lv (M 1 0) (M 1 1) (M 3) f p) ∧ (am_lv (M 1 0) (M 1 1) (M 3) f (p + 1) ≤ am_lv (M 1 0) (M 1 1) (M 3) f p)) := by first | omega | simp_all
        have K1 := K
        rw [am_b_neg hp] at K1
        exact K1
      · have c10 : am_lv (M 1 0) (M 1 1) (M 3) f (p + 1) ≤ am_lv (M 1 0) (M 1 1) (M 3) f p := c10
        refine aw_iconst_q dX2_lookAt_53 ?_
        refine aw_goto_q dX2_lookAt_54 (tgt := 58) rfl ?_
        have hp : (M 2 0 ≤ am_lv (M 1 0) (M 1 1) (M 3) f p) ∧ (am_lv (M 1 0) (M 1 1) (M 3) f (p - 1) < am_lv (M 1 0) (M 1 1) (M 3) f p) ∧ (am_lv (M 1 0) (M 1 1) (M 3) f (p + 1) ≤ am_lv (M 1 0) (M 1 1) (M 3) f p) := by first | omega | simp_all
        have K1 := K
        rw [am_b_pos hp] at K1
        exact K1
theorem sg_X2_find_q {d : Nat} {M : am_M} {Q : Option Int → am_M → Prop} (h : AW_q (d + 4) mX2_find 2 [(0, .inr 31), (1, .inr 1), (2, .inl 0)] [] M Q) : AC_q (d + 4) mX2_find [.inr 31, .inr 1] M Q := by
  refine aw_body_q (by decide) (Nat.le_of_ble_eq_true rfl) rfl ?_
  refine aw_iconst_q dX2_find_0 ?_
  refine aw_istore_n_q (L' := [(0, .inr 31), (1, .inr 1), (2, .inl 0)]) dX2_find_1 rfl (Nat.le_of_ble_eq_true rfl) rfl ?_
  exact h
theorem sg_X2_find_2_q {d : Nat} {M : am_M} {Q : Option Int → am_M → Prop} {f : Int} (h : (am_r f) ∧
 ((8 ≤ f →
 Q none M) ∧
 (f < 8 →
 (0 ≤ f ∧ f < 8) ∧
 AW_q (d + 4) mX2_find 17 [(0, .inr 31), (1, .inr 1), (2, .inl f), (3, .inl 0)] [] (am_up M 32 f 0) Q))) : AW_q (d + 4) mX2_find 2 [(0, .inr 31), (1, .inr 1), (2, .inl f)] [] M Q := by
  refine aw_iload_n_q dX2_find_2 rfl (j := 2) rfl ?_
  refine aw_bipush_q dX2_find_3 (by decide) ?_
  obtain ⟨s1, h⟩ := h
  refine aw_icmp_ge_q dX2_find_5 (tgt := 44) rfl s1 (by decide) (fun c2 => ?_) (fun c2 => ?_)
  · replace h := h.1 c2
    exact aw_vret_q dX2_find_44 rfl h
  · replace h := h.2 c2
    refine aw_aload_n_q dX2_find_8 rfl (j := 0) rfl ?_
    refine aw_getr_q dX2_find_9 fl_X2_9 rfl rfl ?_
    refine aw_iload_n_q dX2_find_12 rfl (j := 2) rfl ?_
    refine aw_iconst_q dX2_find_13 ?_
    obtain ⟨s3, h⟩ := h
    refine aw_iastore_q dX2_find_14 rfl s3 ?_
    refine aw_iconst_q dX2_find_15 ?_
    refine aw_istore_n_q (L' := [(0, .inr 31), (1, .inr 1), (2, .inl f), (3, .inl 0)]) dX2_find_16 rfl (Nat.le_of_ble_eq_true rfl) rfl ?_
    exact h
theorem sg_X2_find_17_q {d : Nat} {M : am_M} {Q : Option Int → am_M → Prop} {f p : Int} (h : (am_r p) ∧
 (am_r (M 1 1)) ∧
 ((M 1 1 ≤ p →
 AW_q (d + 4) mX2_find 2 [(0, .inr 31), (1, .inr 1), (2, .inl (f + 1))] [] M Q) ∧
 (p < M 1 1 →
 AC_q (d + 3) mX2_lookAt [.inr 31, .inr 1, .inl f, .inl p] M (fun r M4 => r = none ∧
 AW_q (d + 4) mX2_find 17 [(0, .inr 31), (1, .inr 1), (2, .inl f), (3, .inl (p + 1))] [] M4 Q)))) : AW_q (d + 4) mX2_find 17 [(0, .inr 31), (1, .inr 1), (2, .inl f), (3, .inl p)] [] M Q := by
  refine aw_iload_n_q dX2_find_17 rfl (j := 3) rfl ?_
  refine aw_aload_n_q dX2_find_18 rfl (j := 1) rfl ?_
  refine aw_getf_q dX2_find_19 fl_X2_24 rfl rfl rfl ?_
  obtain ⟨s1, h⟩ := h
  obtain ⟨s2, h⟩ := h
  refine aw_icmp_ge_q dX2_find_22 (tgt := 38) rfl s1 s2 (fun c3 => ?_) (fun c3 => ?_)
  · replace h := h.1 c3
    refine aw_iinc_q (L' := [(0, .inr 31), (1, .inr 1), (2, .inl (f + 1)), (3, .inl p)]) dX2_find_38 (j := 2) rfl (Nat.le_of_ble_eq_true rfl) rfl ?_
    refine aw_goto_q dX2_find_41 (tgt := 2) rfl ?_
    exact aw_sub_q [0, 1, 2] rfl h
  · replace h := h.2 c3
    refine aw_aload_n_q dX2_find_25 rfl (j := 0) rfl ?_
    refine aw_aload_n_q dX2_find_26 rfl (j := 1) rfl ?_
    refine aw_iload_n_q dX2_find_27 rfl (j := 2) rfl ?_
    refine aw_iload_n_q dX2_find_28 rfl (j := 3) rfl ?_
    refine aw_invv_q (d' := d + 3) (as := [.inr 1, .inl f, .inl p]) (rest := []) dX2_find_29 cv_X2_29 (Nat.lt_succ_self _) rfl rfl rfl rfl rfl (Nat.le_of_ble_eq_true rfl) (AC_q.mono ?_ h)
    intro r M4 h
    obtain ⟨rfl, h⟩ := h
    show AW_q (d + 4) mX2_find 32 [(0, .inr 31), (1, .inr 1), (2, .inl f), (3, .inl p)] [] M4 Q
    refine aw_iinc_q (L' := [(0, .inr 31), (1, .inr 1), (2, .inl f), (3, .inl (p + 1))]) dX2_find_32 (j := 3) rfl (Nat.le_of_ble_eq_true rfl) rfl ?_
    refine aw_goto_q dX2_find_35 (tgt := 17) rfl ?_
    exact h
theorem sg_X1_copyPitches_q {d : Nat} {M : am_M} {Q : Option Int → am_M → Prop} {c : Nat} (hc : am_sh_q[c]? = some (.inl (0, 6))) {f : Int} (h : (am_r f) ∧
 ((f < 0 →
 Q (some 0) M) ∧
 (0 ≤ f →
 ((f < 8 →
 (0 ≤ f ∧ f < 8) ∧
 (0 ≤ (f * 6) ∧ 0 ≤ (0 : Int) ∧ 0 ≤ (M 32 f) ∧ (f * 6) + (M 32 f) ≤ 48 ∧ (0 : Int) + (M 32 f) ≤ 6) ∧
 Q (some (M 32 f)) (am_cp M 34 (f * 6) c 0 (M 32 f))) ∧
 (8 ≤ f →
 Q (some 0) M))))) : AC_q (d + 1) mX1_copyPitches [.inr 31, .inl f, .inr c] M Q := by
  refine aw_body_q (by decide) (Nat.le_of_ble_eq_true rfl) rfl ?_
  refine aw_iload_n_q dX1_copyPitches_0 rfl (j := 1) rfl ?_
  obtain ⟨s1, h⟩ := h
  refine aw_if_lt_q dX1_copyPitches_1 (tgt := 10) rfl s1 (fun c2 => ?_) (fun c2 => ?_)
  · replace h := h.1 c2
    refine aw_iconst_q dX1_copyPitches_10 ?_
    exact aw_iret_q dX1_copyPitches_11 rfl h
  · replace h := h.2 c2
    refine aw_iload_n_q dX1_copyPitches_4 rfl (j := 1) rfl ?_
    refine aw_bipush_q dX1_copyPitches_5 (by decide) ?_
    refine aw_icmp_lt_q dX1_copyPitches_7 (tgt := 12) rfl s1 (by decide) (fun c3 => ?_) (fun c3 => ?_)
    · replace h := h.1 c3
      refine aw_aload_n_q dX1_copyPitches_12 rfl (j := 0) rfl ?_
      refine aw_getr_q dX1_copyPitches_13 fl_X1_45 rfl rfl ?_
      refine aw_iload_n_q dX1_copyPitches_16 rfl (j := 1) rfl ?_
      obtain ⟨s4, h⟩ := h
      refine aw_iaload_q dX1_copyPitches_17 rfl s4 ?_
      refine aw_istore_n_q (L' := [(0, .inr 31), (1, .inl f), (2, .inr c), (3, .inl (M 32 f))]) dX1_copyPitches_18 rfl (Nat.le_of_ble_eq_true rfl) rfl ?_
      refine aw_aload_n_q dX1_copyPitches_19 rfl (j := 0) rfl ?_
      refine aw_getr_q dX1_copyPitches_20 fl_X1_50 rfl rfl ?_
      refine aw_iload_n_q dX1_copyPitches_23 rfl (j := 1) rfl ?_
      refine aw_bipush_q dX1_copyPitches_24 (by decide) ?_
      refine aw_imul_q dX1_copyPitches_26 ?_
      refine aw_aload_n_q dX1_copyPitches_27 rfl (j := 2) rfl ?_
      refine aw_iconst_q dX1_copyPitches_28 ?_
      refine aw_iload_n_q dX1_copyPitches_29 rfl (j := 3) rfl ?_
      obtain ⟨s5, h⟩ := h
      refine aw_copy_q dX1_copyPitches_30 cp_X1_53 (Nat.succ_pos _) rfl hc (Nat.le_of_ble_eq_true rfl) s5 ?_
      refine aw_iload_n_q dX1_copyPitches_33 rfl (j := 3) rfl ?_
      exact aw_iret_q dX1_copyPitches_34 rfl h
    · replace h := h.2 c3
      refine aw_iconst_q dX1_copyPitches_10 ?_
      exact aw_iret_q dX1_copyPitches_11 rfl h
theorem sg_X1_scoreAll_q {d : Nat} {M : am_M} {Q : Option Int → am_M → Prop} (h : AW_q (d + 2) mX1_scoreAll 15 [(0, .inr 36), (1, .inl ((M 36 4) - 1))] [] (am_fill M 40 49 0) Q) : AC_q (d + 2) mX1_scoreAll [.inr 36] M Q := by
  refine aw_body_q (by decide) (Nat.le_of_ble_eq_true rfl) rfl ?_
  refine aw_aload_n_q dX1_scoreAll_0 rfl (j := 0) rfl ?_
  refine aw_getr_q dX1_scoreAll_1 fl_X1_21 rfl rfl ?_
  refine aw_iconst_q dX1_scoreAll_4 ?_
  refine aw_invs_q (d' := d + 1) (as := [.inr 40, .inl 0]) (rest := []) dX1_scoreAll_5 cs_X1_59 (Nat.lt_succ_self _) rfl rfl (Nat.le_of_ble_eq_true rfl) (fc_fill_q rfl ?_)
  show AW_q (d + 2) mX1_scoreAll 8 [(0, .inr 36)] [] (am_fill M 40 49 0) Q
  refine aw_aload_n_q dX1_scoreAll_8 rfl (j := 0) rfl ?_
  refine aw_getf_q dX1_scoreAll_9 fl_X1_32 rfl rfl rfl ?_
  refine aw_iconst_q dX1_scoreAll_12 ?_
  refine aw_isub_q dX1_scoreAll_13 ?_
  refine aw_istore_n_q (L' := [(0, .inr 36), (1, .inl ((M 36 4) - 1))]) dX1_scoreAll_14 rfl (Nat.le_of_ble_eq_true rfl) rfl ?_
  exact h
theorem sg_X1_scoreAll_15_q {d : Nat} {M : am_M} {Q : Option Int → am_M → Prop} {i : Int} (h : (am_r i) ∧
 ((i < 0 →
 Q none M) ∧
 (0 ≤ i →
 AW_q (d + 2) mX1_scoreAll 26 [(0, .inr 36), (1, .inl i), (2, .inl ((M 36 5) - 1))] [] M Q))) : AW_q (d + 2) mX1_scoreAll 15 [(0, .inr 36), (1, .inl i)] [] M Q := by
  refine aw_iload_n_q dX1_scoreAll_15 rfl (j := 1) rfl ?_
  obtain ⟨s1, h⟩ := h
  refine aw_if_lt_q dX1_scoreAll_16 (tgt := 93) rfl s1 (fun c2 => ?_) (fun c2 => ?_)
  · replace h := h.1 c2
    exact aw_vret_q dX1_scoreAll_93 rfl h
  · replace h := h.2 c2
    refine aw_aload_n_q dX1_scoreAll_19 rfl (j := 0) rfl ?_
    refine aw_getf_q dX1_scoreAll_20 fl_X1_35 rfl rfl rfl ?_
    refine aw_iconst_q dX1_scoreAll_23 ?_
    refine aw_isub_q dX1_scoreAll_24 ?_
    refine aw_istore_n_q (L' := [(0, .inr 36), (1, .inl i), (2, .inl ((M 36 5) - 1))]) dX1_scoreAll_25 rfl (Nat.le_of_ble_eq_true rfl) rfl ?_
    exact h
theorem sg_X1_scoreAll_26_q {d : Nat} {M : am_M} {Q : Option Int → am_M → Prop} {i j : Int} (h : (am_r j) ∧
 ((j < 0 →
 AW_q (d + 2) mX1_scoreAll 15 [(0, .inr 36), (1, .inl (i + (-1)))] [] M Q) ∧
 (0 ≤ j →
 (0 ≤ ((i + 1) * 7) + j ∧ ((i + 1) * 7) + j < 49) ∧
 (0 ≤ ((i * 7) + j) + 1 ∧ ((i * 7) + j) + 1 < 49) ∧
 (am_r (M 40 (((i + 1) * 7) + j)) ∧ am_r (M 40 (((i * 7) + j) + 1))) ∧
 (am_psok (M 38) (M 39) (M 36 6) i j) ∧
 (am_r (max (M 40 (((i + 1) * 7) + j)) (M 40 (((i * 7) + j) + 1))) ∧ am_r (am_ps (M 38) (M 39) (M 40) (M 36 6) i j)) ∧
 (0 ≤ (i * 7) + j ∧ (i * 7) + j < 49) ∧
 AW_q (d + 2) mX1_scoreAll 26 [(0, .inr 36), (1, .inl i), (2, .inl (j + (-1)))] [] (am_up M 40 ((i * 7) + j) (max (max (M 40 (((i + 1) * 7) + j)) (M 40 (((i * 7) + j) + 1))) (am_ps (M 38) (M 39) (M 40) (M 36 6) i j))) Q))) : AW_q (d + 2) mX1_scoreAll 26 [(0, .inr 36), (1, .inl i), (2, .inl j)] [] M Q := by
  refine aw_iload_n_q dX1_scoreAll_26 rfl (j := 2) rfl ?_
  obtain ⟨s1, h⟩ := h
  refine aw_if_lt_q dX1_scoreAll_27 (tgt := 87) rfl s1 (fun c2 => ?_) (fun c2 => ?_)
  · replace h := h.1 c2
    refine aw_iinc_q (L' := [(0, .inr 36), (1, .inl (i + (-1))), (2, .inl j)]) dX1_scoreAll_87 (j := 1) rfl (Nat.le_of_ble_eq_true rfl) rfl ?_
    refine aw_goto_q dX1_scoreAll_90 (tgt := 15) rfl ?_
    exact aw_sub_q [0, 1] rfl h
  · replace h := h.2 c2
    refine aw_aload_n_q dX1_scoreAll_30 rfl (j := 0) rfl ?_
    refine aw_getr_q dX1_scoreAll_31 fl_X1_21 rfl rfl ?_
    refine aw_iload_n_q dX1_scoreAll_34 rfl (j := 1) rfl ?_
    refine aw_iconst_q dX1_scoreAll_35 ?_
    refine aw_iadd_q dX1_scoreAll_36 ?_
    refine aw_bipush_q dX1_scoreAll_37 (by decide) ?_
    refine aw_imul_q dX1_scoreAll_39 ?_
    refine aw_iload_n_q dX1_scoreAll_40 rfl (j := 2) rfl ?_
    refine aw_iadd_q dX1_scoreAll_41 ?_
    obtain ⟨s3, h⟩ := h
    refine aw_iaload_q dX1_scoreAll_42 rfl s3 ?_
    refine aw_aload_n_q dX1_scoreAll_43 rfl (j := 0) rfl ?_
    refine aw_getr_q dX1_scoreAll_44 fl_X1_21 rfl rfl ?_
    refine aw_iload_n_q dX1_scoreAll_47 rfl (j := 1) rfl ?_
    refine aw_bipush_q dX1_scoreAll_48 (by decide) ?_
    refine aw_imul_q dX1_scoreAll_50 ?_
    refine aw_iload_n_q dX1_scoreAll_51 rfl (j := 2) rfl ?_
    refine aw_iadd_q dX1_scoreAll_52 ?_
    refine aw_iconst_q dX1_scoreAll_53 ?_
    refine aw_iadd_q dX1_scoreAll_54 ?_
    obtain ⟨s4, h⟩ := h
    refine aw_iaload_q dX1_scoreAll_55 rfl s4 ?_
    obtain ⟨s5, h⟩ := h
    refine aw_max_q dX1_scoreAll_56 cs_X1_65 (Nat.succ_pos _) (Nat.le_of_ble_eq_true rfl) s5 ?_
    refine aw_istore_n_q (L' := [(0, .inr 36), (1, .inl i), (2, .inl j), (3, .inl (max (M 40 (((i + 1) * 7) + j)) (M 40 (((i * 7) + j) + 1))))]) dX1_scoreAll_59 rfl (Nat.le_of_ble_eq_true rfl) rfl ?_
    refine aw_aload_n_q dX1_scoreAll_60 rfl (j := 0) rfl ?_
    refine aw_getr_q dX1_scoreAll_61 fl_X1_21 rfl rfl ?_
    refine aw_iload_n_q dX1_scoreAll_64 rfl (j := 1) rfl ?_
    refine aw_bipush_q dX1_scoreAll_65 (by decide) ?_
    refine aw_imul_q dX1_scoreAll_67 ?_
    refine aw_iload_n_q dX1_scoreAll_68 rfl (j := 2) rfl ?_
    refine aw_iadd_q dX1_scoreAll_69 ?_
    refine aw_iload_n_q dX1_scoreAll_70 rfl (j := 3) rfl ?_
    refine aw_aload_n_q dX1_scoreAll_71 rfl (j := 0) rfl ?_
    refine aw_iload_n_q dX1_scoreAll_72 rfl (j := 1) rfl ?_
    refine aw_iload_n_q dX1_scoreAll_73 rfl (j := 2) rfl ?_
    obtain ⟨s6, h⟩ := h
    refine aw_invv_q (d' := d + 1) (as := [.inl i, .inl j]) (rest := [.inl (max (M 40 (((i + 1) * 7) + j)) (M 40 (((i * 7) + j) + 1))), .inl ((i * 7) + j), .inr 40]) dX1_scoreAll_74 cv_X1_71 (Nat.lt_succ_self _) rfl rfl rfl rfl rfl (Nat.le_of_ble_eq_true rfl) (fc_pairedScore_q s6 ?_)
    show AW_q (d + 2) mX1_scoreAll 77 [(0, .inr 36), (1, .inl i), (2, .inl j), (3, .inl (max (M 40 (((i + 1) * 7) + j)) (M 40 (((i * 7) + j) + 1))))] [.inl (am_ps (M 38) (M 39) (M 40) (M 36 6) i j), .inl (max (M 40 (((i + 1) * 7) + j)) (M 40 (((i * 7) + j) + 1))), .inl ((i * 7) + j), .inr 40] M Q
    obtain ⟨s7, h⟩ := h
    refine aw_max_q dX1_scoreAll_77 cs_X1_65 (Nat.succ_pos _) (Nat.le_of_ble_eq_true rfl) s7 ?_
    obtain ⟨s8, h⟩ := h
    refine aw_iastore_q dX1_scoreAll_80 rfl s8 ?_
    refine aw_iinc_q (L' := [(0, .inr 36), (1, .inl i), (2, .inl (j + (-1))), (3, .inl (max (M 40 (((i + 1) * 7) + j)) (M 40 (((i * 7) + j) + 1))))]) dX1_scoreAll_81 (j := 2) rfl (Nat.le_of_ble_eq_true rfl) rfl ?_
    refine aw_goto_q dX1_scoreAll_84 (tgt := 26) rfl ?_
    exact aw_sub_q [0, 1, 2] rfl h
theorem sg_X1_lowestMate_q {d : Nat} {M : am_M} {Q : Option Int → am_M → Prop} {i fr : Int} (h : AW_q (d + 2) mX1_lowestMate 2 [(0, .inr 36), (1, .inl i), (2, .inl fr), (3, .inl fr)] [] M Q) : AC_q (d + 2) mX1_lowestMate [.inr 36, .inl i, .inl fr] M Q := by
  refine aw_body_q (by decide) (Nat.le_of_ble_eq_true rfl) rfl ?_
  refine aw_iload_n_q dX1_lowestMate_0 rfl (j := 2) rfl ?_
  refine aw_istore_n_q (L' := [(0, .inr 36), (1, .inl i), (2, .inl fr), (3, .inl fr)]) dX1_lowestMate_1 rfl (Nat.le_of_ble_eq_true rfl) rfl ?_
  exact h
theorem sg_X1_lowestMate_2_q {d : Nat} {M : am_M} {Q : Option Int → am_M → Prop} {i fr j : Int} (h : (am_r j) ∧
 (am_r (M 36 5)) ∧
 ((M 36 5 ≤ j →
 Q (some (-9)) M) ∧
 (j < M 36 5 →
 (am_psok (M 38) (M 39) (M 36 6) i j) ∧
 (0 ≤ (i * 7) + fr ∧ (i * 7) + fr < 49) ∧
 (am_r (am_ps (M 38) (M 39) (M 40) (M 36 6) i j)) ∧
 (am_r (M 40 ((i * 7) + fr))) ∧
 ((am_ps (M 38) (M 39) (M 40) (M 36 6) i j ≠ M 40 ((i * 7) + fr) →
 AW_q (d + 2) mX1_lowestMate 2 [(0, .inr 36), (1, .inl i), (2, .inl fr), (3, .inl (j + 1))] [] M Q) ∧
 (am_ps (M 38) (M 39) (M 40) (M 36 6) i j = M 40 ((i * 7) + fr) →
 Q (some j) M))))) : AW_q (d + 2) mX1_lowestMate 2 [(0, .inr 36), (1, .inl i), (2, .inl fr), (3, .inl j)] [] M Q := by
  refine aw_iload_n_q dX1_lowestMate_2 rfl (j := 3) rfl ?_
  refine aw_aload_n_q dX1_lowestMate_3 rfl (j := 0) rfl ?_
  refine aw_getf_q dX1_lowestMate_4 fl_X1_35 rfl rfl rfl ?_
  obtain ⟨s1, h⟩ := h
  obtain ⟨s2, h⟩ := h
  refine aw_icmp_ge_q dX1_lowestMate_7 (tgt := 38) rfl s1 s2 (fun c3 => ?_) (fun c3 => ?_)
  · replace h := h.1 c3
    refine aw_bipush_q dX1_lowestMate_38 (by decide) ?_
    exact aw_iret_q dX1_lowestMate_40 rfl h
  · replace h := h.2 c3
    refine aw_aload_n_q dX1_lowestMate_10 rfl (j := 0) rfl ?_
    refine aw_iload_n_q dX1_lowestMate_11 rfl (j := 1) rfl ?_
    refine aw_iload_n_q dX1_lowestMate_12 rfl (j := 3) rfl ?_
    obtain ⟨s4, h⟩ := h
    refine aw_invv_q (d' := d + 1) (as := [.inl i, .inl j]) (rest := []) dX1_lowestMate_13 cv_X1_71 (Nat.lt_succ_self _) rfl rfl rfl rfl rfl (Nat.le_of_ble_eq_true rfl) (fc_pairedScore_q s4 ?_)
    show AW_q (d + 2) mX1_lowestMate 16 [(0, .inr 36), (1, .inl i), (2, .inl fr), (3, .inl j)] [.inl (am_ps (M 38) (M 39) (M 40) (M 36 6) i j)] M Q
    refine aw_aload_n_q dX1_lowestMate_16 rfl (j := 0) rfl ?_
    refine aw_getr_q dX1_lowestMate_17 fl_X1_21 rfl rfl ?_
    refine aw_iload_n_q dX1_lowestMate_20 rfl (j := 1) rfl ?_
    refine aw_bipush_q dX1_lowestMate_21 (by decide) ?_
    refine aw_imul_q dX1_lowestMate_23 ?_
    refine aw_iload_n_q dX1_lowestMate_24 rfl (j := 2) rfl ?_
    refine aw_iadd_q dX1_lowestMate_25 ?_
    obtain ⟨s5, h⟩ := h
    refine aw_iaload_q dX1_lowestMate_26 rfl s5 ?_
    obtain ⟨s6, h⟩ := h
    obtain ⟨s7, h⟩ := h
    refine aw_icmp_ne_q dX1_lowestMate_27 (tgt := 32) rfl s6 s7 (fun c8 => ?_) (fun c8 => ?_)
    · replace h := h.1 c8
      refine aw_iinc_q (L' := [(0, .inr 36), (1, .inl i), (2, .inl fr), (3, .inl (j + 1))]) dX1_lowestMate_32 (j := 3) rfl (Nat.le_of_ble_eq_true rfl) rfl ?_
      refine aw_goto_q dX1_lowestMate_35 (tgt := 2) rfl ?_
      exact h
    · replace h := h.2 c8
      refine aw_iload_n_q dX1_lowestMate_30 rfl (j := 3) rfl ?_
      exact aw_iret_q dX1_lowestMate_31 rfl h
theorem sg_X1_chooseMates_q {d : Nat} {M : am_M} {Q : Option Int → am_M → Prop} (h : AW_q (d + 3) mX1_chooseMates 15 [(0, .inr 36), (1, .inl 0), (2, .inl 0), (3, .inl 0)] [] (am_fill M 37 6 (-9)) Q) : AC_q (d + 3) mX1_chooseMates [.inr 36] M Q := by
  refine aw_body_q (by decide) (Nat.le_of_ble_eq_true rfl) rfl ?_
  refine aw_aload_n_q dX1_chooseMates_0 rfl (j := 0) rfl ?_
  refine aw_getr_q dX1_chooseMates_1 fl_X1_9 rfl rfl ?_
  refine aw_bipush_q dX1_chooseMates_4 (by decide) ?_
  refine aw_invs_q (d' := d + 2) (as := [.inr 37, .inl (-9)]) (rest := []) dX1_chooseMates_6 cs_X1_59 (Nat.lt_succ_self _) rfl rfl (Nat.le_of_ble_eq_true rfl) (fc_fill_q rfl ?_)
  show AW_q (d + 3) mX1_chooseMates 9 [(0, .inr 36)] [] (am_fill M 37 6 (-9)) Q
  refine aw_iconst_q dX1_chooseMates_9 ?_
  refine aw_istore_n_q (L' := [(0, .inr 36), (1, .inl 0)]) dX1_chooseMates_10 rfl (Nat.le_of_ble_eq_true rfl) rfl ?_
  refine aw_iconst_q dX1_chooseMates_11 ?_
  refine aw_istore_n_q (L' := [(0, .inr 36), (1, .inl 0), (2, .inl 0)]) dX1_chooseMates_12 rfl (Nat.le_of_ble_eq_true rfl) rfl ?_
  refine aw_iconst_q dX1_chooseMates_13 ?_
  refine aw_istore_n_q (L' := [(0, .inr 36), (1, .inl 0), (2, .inl 0), (3, .inl 0)]) dX1_chooseMates_14 rfl (Nat.le_of_ble_eq_true rfl) rfl ?_
  exact h
theorem sg_X1_chooseMates_15_q {d : Nat} {M : am_M} {Q : Option Int → am_M → Prop} {pr fr i : Int} (h : (am_r i) ∧
 (am_r (M 36 4)) ∧
 ((M 36 4 ≤ i →
 Q (some pr) M) ∧
 (i < M 36 4 →
 AC_q (d + 2) mX1_lowestMate [.inr 36, .inl i, .inl fr] M (fun r M4 => ∃ z5, r = some z5 ∧
 (am_r z5) ∧
 ((z5 = (-9) →
 AW_q (d + 3) mX1_chooseMates 15 [(0, .inr 36), (1, .inl pr), (2, .inl fr), (3, .inl (i + 1))] [] M4 Q) ∧
 (z5 ≠ (-9) →
 (0 ≤ i ∧ i < 6) ∧
 AW_q (d + 3) mX1_chooseMates 15 [(0, .inr 36), (1, .inl (pr + 1)), (2, .inl (z5 + 1)), (3, .inl (i + 1))] [] (am_up M4 37 i z5) Q)))))) : AW_q (d + 3) mX1_chooseMates 15 [(0, .inr 36), (1, .inl pr), (2, .inl fr), (3, .inl i)] [] M Q := by
  refine aw_iload_n_q dX1_chooseMates_15 rfl (j := 3) rfl ?_
  refine aw_aload_n_q dX1_chooseMates_16 rfl (j := 0) rfl ?_
  refine aw_getf_q dX1_chooseMates_17 fl_X1_32 rfl rfl rfl ?_
  obtain ⟨s1, h⟩ := h
  obtain ⟨s2, h⟩ := h
  refine aw_icmp_ge_q dX1_chooseMates_20 (tgt := 60) rfl s1 s2 (fun c3 => ?_) (fun c3 => ?_)
  · replace h := h.1 c3
    refine aw_iload_n_q dX1_chooseMates_60 rfl (j := 1) rfl ?_
    exact aw_iret_q dX1_chooseMates_61 rfl h
  · replace h := h.2 c3
    refine aw_aload_n_q dX1_chooseMates_23 rfl (j := 0) rfl ?_
    refine aw_iload_n_q dX1_chooseMates_24 rfl (j := 3) rfl ?_
    refine aw_iload_n_q dX1_chooseMates_25 rfl (j := 2) rfl ?_
    refine aw_invv_q (d' := d + 2) (as := [.inl i, .inl fr]) (rest := []) dX1_chooseMates_26 cv_X1_78 (Nat.lt_succ_self _) rfl rfl rfl rfl rfl (Nat.le_of_ble_eq_true rfl) (AC_q.mono ?_ h)
    intro r M4 h
    obtain ⟨z5, rfl, h⟩ := h
    show AW_q (d + 3) mX1_chooseMates 29 [(0, .inr 36), (1, .inl pr), (2, .inl fr), (3, .inl i)] [.inl z5] M4 Q
    refine aw_istore_q (L' := [(0, .inr 36), (1, .inl pr), (2, .inl fr), (3, .inl i), (4, .inl z5)]) dX1_chooseMates_29 (Nat.le_of_ble_eq_true rfl) rfl ?_
    refine aw_iload_q dX1_chooseMates_31 (j := 4) rfl ?_
    refine aw_bipush_q dX1_chooseMates_33 (by decide) ?_
    obtain ⟨s6, h⟩ := h
    refine aw_icmp_eq_q dX1_chooseMates_35 (tgt := 54) rfl s6 (by decide) (fun c7 => ?_) (fun c7 => ?_)
    · replace h := h.1 c7
      refine aw_iinc_q (L' := [(0, .inr 36), (1, .inl pr), (2, .inl fr), (3, .inl (i + 1)), (4, .inl z5)]) dX1_chooseMates_54 (j := 3) rfl (Nat.le_of_ble_eq_true rfl) rfl ?_
      refine aw_goto_q dX1_chooseMates_57 (tgt := 15) rfl ?_
      exact aw_sub_q [0, 1, 2, 3] rfl h
    · replace h := h.2 c7
      refine aw_aload_n_q dX1_chooseMates_38 rfl (j := 0) rfl ?_
      refine aw_getr_q dX1_chooseMates_39 fl_X1_9 rfl rfl ?_
      refine aw_iload_n_q dX1_chooseMates_42 rfl (j := 3) rfl ?_
      refine aw_iload_q dX1_chooseMates_43 (j := 4) rfl ?_
      obtain ⟨s8, h⟩ := h
      refine aw_iastore_q dX1_chooseMates_45 rfl s8 ?_
      refine aw_iload_q dX1_chooseMates_46 (j := 4) rfl ?_
      refine aw_iconst_q dX1_chooseMates_48 ?_
      refine aw_iadd_q dX1_chooseMates_49 ?_
      refine aw_istore_n_q (L' := [(0, .inr 36), (1, .inl pr), (2, .inl (z5 + 1)), (3, .inl i), (4, .inl z5)]) dX1_chooseMates_50 rfl (Nat.le_of_ble_eq_true rfl) rfl ?_
      refine aw_iinc_q (L' := [(0, .inr 36), (1, .inl (pr + 1)), (2, .inl (z5 + 1)), (3, .inl i), (4, .inl z5)]) dX1_chooseMates_51 (j := 1) rfl (Nat.le_of_ble_eq_true rfl) rfl ?_
      refine aw_iinc_q (L' := [(0, .inr 36), (1, .inl (pr + 1)), (2, .inl (z5 + 1)), (3, .inl (i + 1)), (4, .inl z5)]) dX1_chooseMates_54 (j := 3) rfl (Nat.le_of_ble_eq_true rfl) rfl ?_
      refine aw_goto_q dX1_chooseMates_57 (tgt := 15) rfl ?_
      exact aw_sub_q [0, 1, 2, 3] rfl h
theorem sg_X1_join_q {d : Nat} {M : am_M} {Q : Option Int → am_M → Prop} {f re : Int} (h : AC_q (d + 3) mX1_copyPitches [.inr 31, .inl f, .inr 38] (am_up M 36 6 re) (fun r M1 => ∃ z2, r = some z2 ∧
 AC_q (d + 3) mX1_copyPitches [.inr 31, .inl (f + 1), .inr 39] (am_up M1 36 4 z2) (fun r M3 => ∃ z4, r = some z4 ∧
 AC_q (d + 3) mX1_scoreAll [.inr 36] (am_up M3 36 5 z4) (fun r M5 => r = none ∧
 AC_q (d + 3) mX1_chooseMates [.inr 36] M5 (fun r M6 => ∃ z7, r = some z7 ∧
 Q (some z7) M6))))) : AC_q (d + 4) mX1_join [.inr 36, .inr 31, .inl f, .inl re] M Q := by
  refine aw_body_q (by decide) (Nat.le_of_ble_eq_true rfl) rfl ?_
  refine aw_aload_n_q dX1_join_0 rfl (j := 0) rfl ?_
  refine aw_iload_n_q dX1_join_1 rfl (j := 3) rfl ?_
  refine aw_putf_q dX1_join_2 pf_X1_24 rfl rfl rfl ?_
  refine aw_aload_n_q dX1_join_5 rfl (j := 0) rfl ?_
  refine aw_aload_n_q dX1_join_6 rfl (j := 1) rfl ?_
  refine aw_iload_n_q dX1_join_7 rfl (j := 2) rfl ?_
  refine aw_aload_n_q dX1_join_8 rfl (j := 0) rfl ?_
  refine aw_getr_q dX1_join_9 fl_X1_15 rfl rfl ?_
  refine aw_invs_q (d' := d + 3) (as := [.inr 31, .inl f, .inr 38]) (rest := [.inr 36]) dX1_join_12 cs_X1_28 (Nat.lt_succ_self _) rfl rfl (Nat.le_of_ble_eq_true rfl) (AC_q.mono ?_ h)
  intro r M1 h
  obtain ⟨z2, rfl, h⟩ := h
  show AW_q (d + 4) mX1_join 15 [(0, .inr 36), (1, .inr 31), (2, .inl f), (3, .inl re)] [.inl z2, .inr 36] M1 Q
  refine aw_putf_q dX1_join_15 pf_X1_32 rfl rfl rfl ?_
  refine aw_aload_n_q dX1_join_18 rfl (j := 0) rfl ?_
  refine aw_aload_n_q dX1_join_19 rfl (j := 1) rfl ?_
  refine aw_iload_n_q dX1_join_20 rfl (j := 2) rfl ?_
  refine aw_iconst_q dX1_join_21 ?_
  refine aw_iadd_q dX1_join_22 ?_
  refine aw_aload_n_q dX1_join_23 rfl (j := 0) rfl ?_
  refine aw_getr_q dX1_join_24 fl_X1_18 rfl rfl ?_
  refine aw_invs_q (d' := d + 3) (as := [.inr 31, .inl (f + 1), .inr 39]) (rest := [.inr 36]) dX1_join_27 cs_X1_28 (Nat.lt_succ_self _) rfl rfl (Nat.le_of_ble_eq_true rfl) (AC_q.mono ?_ h)
  intro r M3 h
  obtain ⟨z4, rfl, h⟩ := h
  show AW_q (d + 4) mX1_join 30 [(0, .inr 36), (1, .inr 31), (2, .inl f), (3, .inl re)] [.inl z4, .inr 36] M3 Q
  refine aw_putf_q dX1_join_30 pf_X1_35 rfl rfl rfl ?_
  refine aw_aload_n_q dX1_join_33 rfl (j := 0) rfl ?_
  refine aw_invv_q (d' := d + 3) (as := []) (rest := []) dX1_join_34 cv_X1_38 (Nat.lt_succ_self _) rfl rfl rfl rfl rfl (Nat.le_of_ble_eq_true rfl) (AC_q.mono ?_ h)
  intro r M5 h
  obtain ⟨rfl, h⟩ := h
  show AW_q (d + 4) mX1_join 37 [(0, .inr 36), (1, .inr 31), (2, .inl f), (3, .inl re)] [] M5 Q
  refine aw_aload_n_q dX1_join_37 rfl (j := 0) rfl ?_
  refine aw_invv_q (d' := d + 3) (as := []) (rest := []) dX1_join_38 cv_X1_41 (Nat.lt_succ_self _) rfl rfl rfl rfl rfl (Nat.le_of_ble_eq_true rfl) (AC_q.mono ?_ h)
  intro r M6 h
  obtain ⟨z7, rfl, h⟩ := h
  show AW_q (d + 4) mX1_join 41 [(0, .inr 36), (1, .inr 31), (2, .inl f), (3, .inl re)] [.inl z7] M6 Q
  exact aw_iret_q dX1_join_41 rfl h

