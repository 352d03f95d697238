theorem sg_X8_laysPeaks {d : Nat} {M : am_M} {Q : Option Int → am_M → Prop} (h : AW (d + 2) mX8_laysPeaks 2 [(0, .inr 62), (1, .inl 0)] [] M Q) : AC (d + 2) mX8_laysPeaks [.inr 62] M Q := by
  refine aw_body (by decide) (Nat.le_of_ble_eq_true rfl) rfl ?_
  refine aw_iconst dX8_laysPeaks_0 ?_
  refine aw_istore_n (L' := [(0, .inr 62), (1, .inl 0)]) dX8_laysPeaks_1 rfl (Nat.le_of_ble_eq_true rfl) rfl ?_
  exact h
theorem sg_X8_laysPeaks_2 {d : Nat} {M : am_M} {Q : Option Int → am_M → Prop} {f : Int} (h : (am_r f) ∧
 (am_r (M 63 0)) ∧
 ((M 63 0 ≤ f →
 Q none M) ∧
 (f < M 63 0 →
 (0 ≤ f ∧ f < 8) ∧
 AW (d + 2) mX8_laysPeaks 21 [(0, .inr 62), (1, .inl f), (2, .inl 0)] [] (am_up M 70 f 0) Q))) : AW (d + 2) mX8_laysPeaks 2 [(0, .inr 62), (1, .inl f)] [] M Q := by
  refine aw_iload_n dX8_laysPeaks_2 rfl (j := 1) rfl ?_
  refine aw_aload_n dX8_laysPeaks_3 rfl (j := 0) rfl ?_
  refine aw_getr dX8_laysPeaks_4 fl_X8_7 rfl rfl ?_
  refine aw_iconst dX8_laysPeaks_7 ?_
  refine aw_iaload dX8_laysPeaks_8 rfl (by decide) ?_
  obtain ⟨s1, h⟩ := h
  obtain ⟨s2, h⟩ := h
  refine aw_icmp_ge dX8_laysPeaks_9 (tgt := 111) rfl s1 s2 (fun c3 => ?_) (fun c3 => ?_)
  · replace h := h.1 c3
    exact aw_vret dX8_laysPeaks_111 rfl h
  · replace h := h.2 c3
    refine aw_aload_n dX8_laysPeaks_12 rfl (j := 0) rfl ?_
    refine aw_getr dX8_laysPeaks_13 fl_X8_33 rfl rfl ?_
    refine aw_iload_n dX8_laysPeaks_16 rfl (j := 1) rfl ?_
    refine aw_iconst dX8_laysPeaks_17 ?_
    obtain ⟨s4, h⟩ := h
    refine aw_iastore dX8_laysPeaks_18 rfl s4 ?_
    refine aw_iconst dX8_laysPeaks_19 ?_
    refine aw_istore_n (L' := [(0, .inr 62), (1, .inl f), (2, .inl 0)]) dX8_laysPeaks_20 rfl (Nat.le_of_ble_eq_true rfl) rfl ?_
    exact h
theorem sg_X8_laysPeaks_21 {d : Nat} {M : am_M} {Q : Option Int → am_M → Prop} {f p : Int} (h : (am_r p) ∧
 (am_r (M 63 1)) ∧
 ((M 63 1 ≤ p →
 AW (d + 2) mX8_laysPeaks 2 [(0, .inr 62), (1, .inl (f + 1))] [] M Q) ∧
 (p < M 63 1 →
 (am_mlok (M 63) f p) ∧
 (am_r (am_ml (M 63) f p)) ∧
 (am_r (M 63 2)) ∧
 ((am_ml (M 63) f p < M 63 2 →
 AW (d + 2) mX8_laysPeaks 21 [(0, .inr 62), (1, .inl f), (2, .inl (p + 1))] [] M Q) ∧
 (M 63 2 ≤ am_ml (M 63) f p →
 (am_mlok (M 63) f (p - 1)) ∧
 (am_r (am_ml (M 63) f (p - 1))) ∧
 ((am_ml (M 63) f p ≤ am_ml (M 63) f (p - 1) →
 AW (d + 2) mX8_laysPeaks 21 [(0, .inr 62), (1, .inl f), (2, .inl (p + 1))] [] M Q) ∧
 (am_ml (M 63) f (p - 1) < am_ml (M 63) f p →
 (am_mlok (M 63) f (p + 1)) ∧
 (am_r (am_ml (M 63) f (p + 1))) ∧
 ((am_ml (M 63) f p < am_ml (M 63) f (p + 1) →
 AW (d + 2) mX8_laysPeaks 21 [(0, .inr 62), (1, .inl f), (2, .inl (p + 1))] [] M Q) ∧
 (am_ml (M 63) f (p + 1) ≤ am_ml (M 63) f p →
 (0 ≤ f ∧ f < 8) ∧
 (0 ≤ (6 * f) + (M 70 f) ∧ (6 * f) + (M 70 f) < 48) ∧
 AW (d + 2) mX8_laysPeaks 21 [(0, .inr 62), (1, .inl f), (2, .inl (p + 1))] [] (am_up (am_up M 71 ((6 * f) + (M 70 f)) p) 70 f ((M 70 f) + 1)) Q))))))))) : AW (d + 2) mX8_laysPeaks 21 [(0, .inr 62), (1, .inl f), (2, .inl p)] [] M Q := by
  refine aw_iload_n dX8_laysPeaks_21 rfl (j := 2) rfl ?_
  refine aw_aload_n dX8_laysPeaks_22 rfl (j := 0) rfl ?_
  refine aw_getr dX8_laysPeaks_23 fl_X8_7 rfl rfl ?_
  refine aw_iconst dX8_laysPeaks_26 ?_
  refine aw_iaload dX8_laysPeaks_27 rfl (by decide) ?_
  obtain ⟨s1, h⟩ := h
  obtain ⟨s2, h⟩ := h
  refine aw_icmp_ge dX8_laysPeaks_28 (tgt := 105) rfl s1 s2 (fun c3 => ?_) (fun c3 => ?_)
  · replace h := h.1 c3
    refine aw_iinc (L' := [(0, .inr 62), (1, .inl (f + 1)), (2, .inl p)]) dX8_laysPeaks_105 (j := 1) rfl (Nat.le_of_ble_eq_true rfl) rfl ?_
    refine aw_goto dX8_laysPeaks_108 (tgt := 2) rfl ?_
    exact aw_sub [0, 1] rfl h
  · replace h := h.2 c3
    refine aw_aload_n dX8_laysPeaks_31 rfl (j := 0) rfl ?_
    refine aw_iload_n dX8_laysPeaks_32 rfl (j := 1) rfl ?_
    refine aw_iload_n dX8_laysPeaks_33 rfl (j := 2) rfl ?_
    obtain ⟨s4, h⟩ := h
    refine aw_invv (d' := d + 1) (as := [.inl f, .inl p]) (rest := []) dX8_laysPeaks_34 cv_X8_118 (Nat.lt_succ_self _) rfl rfl rfl rfl rfl (Nat.le_of_ble_eq_true rfl) (fc_mlevelAt s4 ?_)
    show AW (d + 2) mX8_laysPeaks 37 [(0, .inr 62), (1, .inl f), (2, .inl p)] [.inl (am_ml (M 63) f p)] M Q
    refine aw_istore_n (L' := [(0, .inr 62), (1, .inl f), (2, .inl p), (3, .inl (am_ml (M 63) f p))]) dX8_laysPeaks_37 rfl (Nat.le_of_ble_eq_true rfl) rfl ?_
    refine aw_iload_n dX8_laysPeaks_38 rfl (j := 3) rfl ?_
    refine aw_aload_n dX8_laysPeaks_39 rfl (j := 0) rfl ?_
    refine aw_getr dX8_laysPeaks_40 fl_X8_7 rfl rfl ?_
    refine aw_iconst dX8_laysPeaks_43 ?_
    refine aw_iaload dX8_laysPeaks_44 rfl (by decide) ?_
    obtain ⟨s5, h⟩ := h
    obtain ⟨s6, h⟩ := h
    refine aw_icmp_lt dX8_laysPeaks_45 (tgt := 99) rfl s5 s6 (fun c7 => ?_) (fun c7 => ?_)
    · replace h := h.1 c7
      refine aw_iinc (L' := [(0, .inr 62), (1, .inl f), (2, .inl (p + 1)), (3, .inl (am_ml (M 63) f p))]) dX8_laysPeaks_99 (j := 2) rfl (Nat.le_of_ble_eq_true rfl) rfl ?_
      refine aw_goto dX8_laysPeaks_102 (tgt := 21) rfl ?_
      exact aw_sub [0, 1, 2] rfl h
    · replace h := h.2 c7
      refine aw_iload_n dX8_laysPeaks_48 rfl (j := 3) rfl ?_
      refine aw_aload_n dX8_laysPeaks_49 rfl (j := 0) rfl ?_
      refine aw_iload_n dX8_laysPeaks_50 rfl (j := 1) rfl ?_
      refine aw_iload_n dX8_laysPeaks_51 rfl (j := 2) rfl ?_
      refine aw_iconst dX8_laysPeaks_52 ?_
      refine aw_isub dX8_laysPeaks_53 ?_
      obtain ⟨s8, h⟩ := h
      refine aw_invv (d' := d + 1) (as := [.inl f, .inl (p - 1)]) (rest := [.inl (am_ml (M 63) f p)]) dX8_laysPeaks_54 cv_X8_118 (Nat.lt_succ_self _) rfl rfl rfl rfl rfl (Nat.le_of_ble_eq_true rfl) (fc_mlevelAt s8 ?_)
      show AW (d + 2) mX8_laysPeaks 57 [(0, .inr 62), (1, .inl f), (2, .inl p), (3, .inl (am_ml (M 63) f p))] [.inl (am_ml (M 63) f (p - 1)), .inl (am_ml (M 63) f p)] M Q
      obtain ⟨s9, h⟩ := h
      refine aw_icmp_le dX8_laysPeaks_57 (tgt := 99) rfl s5 s9 (fun c10 => ?_) (fun c10 => ?_)
      · replace h := h.1 c10
        refine aw_iinc (L' := [(0, .inr 62), (1, .inl f), (2, .inl (p + 1)), (3, .inl (am_ml (M 63) f p))]) dX8_laysPeaks_99 (j := 2) rfl (Nat.le_of_ble_eq_true rfl) rfl ?_
        refine aw_goto dX8_laysPeaks_102 (tgt := 21) rfl ?_
        exact aw_sub [0, 1, 2] rfl h
      · replace h := h.2 c10
        refine aw_iload_n dX8_laysPeaks_60 rfl (j := 3) rfl ?_
        refine aw_aload_n dX8_laysPeaks_61 rfl (j := 0) rfl ?_
        refine aw_iload_n dX8_laysPeaks_62 rfl (j := 1) rfl ?_
        refine aw_iload_n dX8_laysPeaks_63 rfl (j := 2) rfl ?_
        refine aw_iconst dX8_laysPeaks_64 ?_
        refine aw_iadd dX8_laysPeaks_65 ?_
        obtain ⟨s11, h⟩ := h
        refine aw_invv (d' := d + 1) (as := [.inl f, .inl (p + 1)]) (rest := [.inl (am_ml (M 63) f p)]) dX8_laysPeaks_66 cv_X8_118 (Nat.lt_succ_self _) rfl rfl rfl rfl rfl (Nat.le_of_ble_eq_true rfl) (fc_mlevelAt s11 ?_)
        show AW (d + 2) mX8_laysPeaks 69 [(0, .inr 62), (1, .inl f), (2, .inl p), (3, .inl (am_ml (M 63) f p))] [.inl (am_ml (M 63) f (p + 1)), .inl (am_ml (M 63) f p)] M Q
        obtain ⟨s12, h⟩ := h
        refine aw_icmp_lt dX8_laysPeaks_69 (tgt := 99) rfl s5 s12 (fun c13 => ?_) (fun c13 => ?_)
        · replace h := h.1 c13
          refine aw_iinc (L' := [(0, .inr 62), (1, .inl f), (2, .inl (p + 1)), (3, .inl (am_ml (M 63) f p))]) dX8_laysPeaks_99 (j := 2) rfl (Nat.le_of_ble_eq_true rfl) rfl ?_
          refine aw_goto dX8_laysPeaks_102 (tgt := 21) rfl ?_
          exact aw_sub [0, 1, 2] rfl h
        · replace h := h.2 c13
          refine aw_aload_n dX8_laysPeaks_72 rfl (j := 0) rfl ?_
          refine aw_getr dX8_laysPeaks_73 fl_X8_36 rfl rfl ?_
          refine aw_bipush dX8_laysPeaks_76 (by decide) ?_
          refine aw_iload_n dX8_laysPeaks_78 rfl (j := 1) rfl ?_
          refine aw_imul dX8_laysPeaks_79 ?_
          refine aw_aload_n dX8_laysPeaks_80 rfl (j := 0) rfl ?_
          refine aw_getr dX8_laysPeaks_81 fl_X8_33 rfl rfl ?_
          refine aw_iload_n dX8_laysPeaks_84 rfl (j := 1) rfl ?_
          obtain ⟨s14, h⟩ := h
          refine aw_iaload dX8_laysPeaks_85 rfl s14 ?_
          refine aw_iadd dX8_laysPeaks_86 ?_
          refine aw_iload_n dX8_laysPeaks_87 rfl (j := 2) rfl ?_
          obtain ⟨s15, h⟩ := h
          refine aw_iastore dX8_laysPeaks_88 rfl s15 ?_
          refine aw_aload_n dX8_laysPeaks_89 rfl (j := 0) rfl ?_
          refine aw_getr dX8_laysPeaks_90 fl_X8_33 rfl rfl ?_
          refine aw_iload_n dX8_laysPeaks_93 rfl (j := 1) rfl ?_
          refine aw_dup2 dX8_laysPeaks_94 ?_
          refine aw_iaload dX8_laysPeaks_95 rfl s14 ?_
          refine aw_iconst dX8_laysPeaks_96 ?_
          refine aw_iadd dX8_laysPeaks_97 ?_
          refine aw_iastore dX8_laysPeaks_98 rfl s14 ?_
          refine aw_iinc (L' := [(0, .inr 62), (1, .inl f), (2, .inl (p + 1)), (3, .inl (am_ml (M 63) f p))]) dX8_laysPeaks_99 (j := 2) rfl (Nat.le_of_ble_eq_true rfl) rfl ?_
          refine aw_goto dX8_laysPeaks_102 (tgt := 21) rfl ?_
          exact aw_sub [0, 1, 2] rfl h
theorem sg_X8_laysWorth {d : Nat} {M : am_M} {Q : Option Int → am_M → Prop} {f re : Int} (h : (0 ≤ f ∧ f < 8) ∧
 AW (d + 5) mX8_laysWorth 7 [(0, .inr 62), (1, .inl f), (2, .inl re), (3, .inl (M 70 f))] [] M Q) : AC (d + 5) mX8_laysWorth [.inr 62, .inl f, .inl re] M Q := by
  refine aw_body (by decide) (Nat.le_of_ble_eq_true rfl) rfl ?_
  refine aw_aload_n dX8_laysWorth_0 rfl (j := 0) rfl ?_
  refine aw_getr dX8_laysWorth_1 fl_X8_33 rfl rfl ?_
  refine aw_iload_n dX8_laysWorth_4 rfl (j := 1) rfl ?_
  obtain ⟨s1, h⟩ := h
  refine aw_iaload dX8_laysWorth_5 rfl s1 ?_
  refine aw_istore_n (L' := [(0, .inr 62), (1, .inl f), (2, .inl re), (3, .inl (M 70 f))]) dX8_laysWorth_6 rfl (Nat.le_of_ble_eq_true rfl) rfl ?_
  exact h
theorem sg_X8_laysWorth_7 {d : Nat} {M : am_M} {Q : Option Int → am_M → Prop} {f re k : Int} (h : (am_r k) ∧
 ((k < 0 →
 Q none M) ∧
 (0 ≤ k →
 (0 ≤ f + 1 ∧ f + 1 < 8) ∧
 AW (d + 5) mX8_laysWorth 21 [(0, .inr 62), (1, .inl f), (2, .inl re), (3, .inl k), (4, .inl (M 70 (f + 1)))] [] M Q))) : AW (d + 5) mX8_laysWorth 7 [(0, .inr 62), (1, .inl f), (2, .inl re), (3, .inl k)] [] M Q := by
  refine aw_iload_n dX8_laysWorth_7 rfl (j := 3) rfl ?_
  obtain ⟨s1, h⟩ := h
  refine aw_if_lt dX8_laysWorth_8 (tgt := 149) rfl s1 (fun c2 => ?_) (fun c2 => ?_)
  · replace h := h.1 c2
    exact aw_vret dX8_laysWorth_149 rfl h
  · replace h := h.2 c2
    refine aw_aload_n dX8_laysWorth_11 rfl (j := 0) rfl ?_
    refine aw_getr dX8_laysWorth_12 fl_X8_33 rfl rfl ?_
    refine aw_iload_n dX8_laysWorth_15 rfl (j := 1) rfl ?_
    refine aw_iconst dX8_laysWorth_16 ?_
    refine aw_iadd dX8_laysWorth_17 ?_
    obtain ⟨s3, h⟩ := h
    refine aw_iaload dX8_laysWorth_18 rfl s3 ?_
    refine aw_istore (L' := [(0, .inr 62), (1, .inl f), (2, .inl re), (3, .inl k), (4, .inl (M 70 (f + 1)))]) dX8_laysWorth_19 (Nat.le_of_ble_eq_true rfl) rfl ?_
    exact h
theorem sg_X8_laysWorth_21 {d : Nat} {M : am_M} {Q : Option Int → am_M → Prop} {f re k m : Int} (h : (am_r m) ∧
 ((m < 0 →
 AW (d + 5) mX8_laysWorth 7 [(0, .inr 62), (1, .inl f), (2, .inl re), (3, .inl (k + (-1)))] [] M Q) ∧
 (0 ≤ m →
 (0 ≤ f ∧ f < 8) ∧
 (am_r k) ∧
 (am_r (M 70 f)) ∧
 ((M 70 f ≤ k →
 (0 ≤ (7 * k) + m ∧ (7 * k) + m < 49) ∧
 AW (d + 5) mX8_laysWorth 21 [(0, .inr 62), (1, .inl f), (2, .inl re), (3, .inl k), (4, .inl (m + (-1)))] [] (am_up M 74 ((7 * k) + m) 0) Q) ∧
 (k < M 70 f →
 (0 ≤ f + 1 ∧ f + 1 < 8) ∧
 (am_r (M 70 (f + 1))) ∧
 ((M 70 (f + 1) ≤ m →
 (0 ≤ (7 * k) + m ∧ (7 * k) + m < 49) ∧
 AW (d + 5) mX8_laysWorth 21 [(0, .inr 62), (1, .inl f), (2, .inl re), (3, .inl k), (4, .inl (m + (-1)))] [] (am_up M 74 ((7 * k) + m) 0) Q) ∧
 (m < M 70 (f + 1) →
 (am_pwok (M 63) (M 71) f k m re) ∧
 (0 ≤ 7 * (k + 1) + m ∧ 7 * (k + 1) + m < 49) ∧
 (((am_r (M 74 (7 * (k + 1) + m))) ∧ (am_r (am_pw (M 63) (M 71) (M 74) f k m re)))) ∧
 ∀ (v17 : Int), (M 74 (7 * (k + 1) + m) ≤ am_pw (M 63) (M 71) (M 74) f k m re → v17 = am_pw (M 63) (M 71) (M 74) f k m re) →
 (am_pw (M 63) (M 71) (M 74) f k m re < M 74 (7 * (k + 1) + m) → v17 = M 74 (7 * (k + 1) + m)) →
 (0 ≤ 7 * k + (m + 1) ∧ 7 * k + (m + 1) < 49) ∧
 (((am_r (M 74 (7 * k + (m + 1)))) ∧ (am_r v17))) ∧
 ∀ (v22 : Int), (M 74 (7 * k + (m + 1)) ≤ v17 → v22 = v17) →
 (v17 < M 74 (7 * k + (m + 1)) → v22 = M 74 (7 * k + (m + 1))) →
 (0 ≤ (7 * k) + m ∧ (7 * k) + m < 49) ∧
 AW (d + 5) mX8_laysWorth 21 [(0, .inr 62), (1, .inl f), (2, .inl re), (3, .inl k), (4, .inl (m + (-1)))] [] (am_up M 74 ((7 * k) + m) v22) Q))))))) : AW (d + 5) mX8_laysWorth 21 [(0, .inr 62), (1, .inl f), (2, .inl re), (3, .inl k), (4, .inl m)] [] M Q := by
  refine aw_iload dX8_laysWorth_21 (j := 4) rfl ?_
  obtain ⟨s1, h⟩ := h
  refine aw_if_lt dX8_laysWorth_23 (tgt := 143) rfl s1 (fun c2 => ?_) (fun c2 => ?_)
  · replace h := h.1 c2
    refine aw_iinc (L' := [(0, .inr 62), (1, .inl f), (2, .inl re), (3, .inl (k + (-1))), (4, .inl m)]) dX8_laysWorth_143 (j := 3) rfl (Nat.le_of_ble_eq_true rfl) rfl ?_
    refine aw_goto dX8_laysWorth_146 (tgt := 7) rfl ?_
    exact aw_sub [0, 1, 2, 3] rfl h
  · replace h := h.2 c2
    refine aw_iconst dX8_laysWorth_26 ?_
    refine aw_istore (L' := [(0, .inr 62), (1, .inl f), (2, .inl re), (3, .inl k), (4, .inl m), (5, .inl 0)]) dX8_laysWorth_27 (Nat.le_of_ble_eq_true rfl) rfl ?_
    refine aw_iload_n dX8_laysWorth_29 rfl (j := 3) rfl ?_
    refine aw_aload_n dX8_laysWorth_30 rfl (j := 0) rfl ?_
    refine aw_getr dX8_laysWorth_31 fl_X8_33 rfl rfl ?_
    refine aw_iload_n dX8_laysWorth_34 rfl (j := 1) rfl ?_
    obtain ⟨s3, h⟩ := h
    refine aw_iaload dX8_laysWorth_35 rfl s3 ?_
    obtain ⟨s4, h⟩ := h
    obtain ⟨s5, h⟩ := h
    refine aw_icmp_ge dX8_laysWorth_36 (tgt := 123) rfl s4 s5 (fun c6 => ?_) (fun c6 => ?_)
    · replace h := h.1 c6
      refine aw_aload_n dX8_laysWorth_123 rfl (j := 0) rfl ?_
      refine aw_getr dX8_laysWorth_124 fl_X8_45 rfl rfl ?_
      refine aw_bipush dX8_laysWorth_127 (by decide) ?_
      refine aw_iload_n dX8_laysWorth_129 rfl (j := 3) rfl ?_
      refine aw_imul dX8_laysWorth_130 ?_
      refine aw_iload dX8_laysWorth_131 (j := 4) rfl ?_
      refine aw_iadd dX8_laysWorth_133 ?_
      refine aw_iload dX8_laysWorth_134 (j := 5) rfl ?_
      obtain ⟨s7, h⟩ := h
      refine aw_iastore dX8_laysWorth_136 rfl s7 ?_
      refine aw_iinc (L' := [(0, .inr 62), (1, .inl f), (2, .inl re), (3, .inl k), (4, .inl (m + (-1))), (5, .inl 0)]) dX8_laysWorth_137 (j := 4) rfl (Nat.le_of_ble_eq_true rfl) rfl ?_
      refine aw_goto dX8_laysWorth_140 (tgt := 21) rfl ?_
      exact aw_sub [0, 1, 2, 3, 4] rfl h
    · replace h := h.2 c6
      refine aw_iload dX8_laysWorth_39 (j := 4) rfl ?_
      refine aw_aload_n dX8_laysWorth_41 rfl (j := 0) rfl ?_
      refine aw_getr dX8_laysWorth_42 fl_X8_33 rfl rfl ?_
      refine aw_iload_n dX8_laysWorth_45 rfl (j := 1) rfl ?_
      refine aw_iconst dX8_laysWorth_46 ?_
      refine aw_iadd dX8_laysWorth_47 ?_
      obtain ⟨s8, h⟩ := h
      refine aw_iaload dX8_laysWorth_48 rfl s8 ?_
      obtain ⟨s9, h⟩ := h
      refine aw_icmp_ge dX8_laysWorth_49 (tgt := 123) rfl s1 s9 (fun c10 => ?_) (fun c10 => ?_)
      · replace h := h.1 c10
        refine aw_aload_n dX8_laysWorth_123 rfl (j := 0) rfl ?_
        refine aw_getr dX8_laysWorth_124 fl_X8_45 rfl rfl ?_
        refine aw_bipush dX8_laysWorth_127 (by decide) ?_
        refine aw_iload_n dX8_laysWorth_129 rfl (j := 3) rfl ?_
        refine aw_imul dX8_laysWorth_130 ?_
        refine aw_iload dX8_laysWorth_131 (j := 4) rfl ?_
        refine aw_iadd dX8_laysWorth_133 ?_
        refine aw_iload dX8_laysWorth_134 (j := 5) rfl ?_
        obtain ⟨s11, h⟩ := h
        refine aw_iastore dX8_laysWorth_136 rfl s11 ?_
        refine aw_iinc (L' := [(0, .inr 62), (1, .inl f), (2, .inl re), (3, .inl k), (4, .inl (m + (-1))), (5, .inl 0)]) dX8_laysWorth_137 (j := 4) rfl (Nat.le_of_ble_eq_true rfl) rfl ?_
        refine aw_goto dX8_laysWorth_140 (tgt := 21) rfl ?_
        exact aw_sub [0, 1, 2, 3, 4] rfl h
      · replace h := h.2 c10
        refine aw_aload_n dX8_laysWorth_52 rfl (j := 0) rfl ?_
        refine aw_iload_n dX8_laysWorth_53 rfl (j := 1) rfl ?_
        refine aw_iload_n dX8_laysWorth_54 rfl (j := 3) rfl ?_
        refine aw_iload dX8_laysWorth_55 (j := 4) rfl ?_
        refine aw_iload_n dX8_laysWorth_57 rfl (j := 2) rfl ?_
        obtain ⟨s12, h⟩ := h
        refine aw_invv (d' := d + 4) (as := [.inl f, .inl k, .inl m, .inl re]) (rest := []) dX8_laysWorth_58 cv_X8_131 (Nat.lt_succ_self _) rfl rfl rfl rfl rfl (Nat.le_of_ble_eq_true rfl) (fc_pairWorth s12 ?_)
        show AW (d + 5) mX8_laysWorth 61 [(0, .inr 62), (1, .inl f), (2, .inl re), (3, .inl k), (4, .inl m), (5, .inl 0)] [.inl (am_pw (M 63) (M 71) (M 74) f k m re)] M Q
        refine aw_istore (L' := [(0, .inr 62), (1, .inl f), (2, .inl re), (3, .inl k), (4, .inl m), (5, .inl (am_pw (M 63) (M 71) (M 74) f k m re))]) dX8_laysWorth_61 (Nat.le_of_ble_eq_true rfl) rfl ?_
        refine aw_aload_n dX8_laysWorth_63 rfl (j := 0) rfl ?_
        refine aw_iload_n dX8_laysWorth_64 rfl (j := 3) rfl ?_
        refine aw_iconst dX8_laysWorth_65 ?_
        refine aw_iadd dX8_laysWorth_66 ?_
        refine aw_iload dX8_laysWorth_67 (j := 4) rfl ?_
        obtain ⟨s13, h⟩ := h
        refine aw_invv (d' := d + 4) (as := [.inl (k + 1), .inl m]) (rest := []) dX8_laysWorth_69 cv_X8_128 (Nat.lt_succ_self _) rfl rfl rfl rfl rfl (Nat.le_of_ble_eq_true rfl) (fc_worthOf s13 ?_)
        show AW (d + 5) mX8_laysWorth 72 [(0, .inr 62), (1, .inl f), (2, .inl re), (3, .inl k), (4, .inl m), (5, .inl (am_pw (M 63) (M 71) (M 74) f k m re))] [.inl (M 74 (7 * (k + 1) + m))] M Q
        refine aw_iload dX8_laysWorth_72 (j := 5) rfl ?_
        obtain ⟨g, h⟩ := h
        have K : ∀ (v17 : Int), (M 74 (7 * (k + 1) + m) ≤ am_pw (M 63) (M 71) (M 74) f k m re → v17 = am_pw (M 63) (M 71) (M 74) f k m re) → (am_pw (M 63) (M 71) (M 74) f k m re < M 74 (7 * (k + 1) + m) → v17 = M 74 (7 * (k + 1) + m)) → AW (d + 5) mX8_laysWorth 91 [(0, .inr 62), (1, .inl f), (2, .inl re), (3, .inl k), (4, .inl m), (5, .inl (am_pw (M 63) (M 71) (M 74) f k m re))] [.inl v17] M Q := by
          intro v17 q26 q27
          replace h := h v17 q26 q27
          refine aw_istore (L' := [(0, .inr 62), (1, .inl f), (2, .inl re), (3, .inl k), (4, .inl m), (5, .inl v17)]) dX8_laysWorth_91 (Nat.le_of_ble_eq_true rfl) rfl ?_
          refine aw_aload_n dX8_laysWorth_93 rfl (j := 0) rfl ?_
          refine aw_iload_n dX8_laysWorth_94 rfl (j := 3) rfl ?_
          refine aw_iload dX8_laysWorth_95 (j := 4) rfl ?_
          refine aw_iconst dX8_laysWorth_97 ?_
          refine aw_iadd dX8_laysWorth_98 ?_
          obtain ⟨s18, h⟩ := h
          refine aw_invv (d' := d + 4) (as := [.inl k, .inl (m + 1)]) (rest := []) dX8_laysWorth_99 cv_X8_128 (Nat.lt_succ_self _) rfl rfl rfl rfl rfl (Nat.le_of_ble_eq_true rfl) (fc_worthOf s18 ?_)
          show AW (d + 5) mX8_laysWorth 102 [(0, .inr 62), (1, .inl f), (2, .inl re), (3, .inl k), (4, .inl m), (5, .inl v17)] [.inl (M 74 (7 * k + (m + 1)))] M Q
          refine aw_iload dX8_laysWorth_102 (j := 5) rfl ?_
          obtain ⟨g, h⟩ := h
          have K : ∀ (v22 : Int), (M 74 (7 * k + (m + 1)) ≤ v17 → v22 = v17) → (v17 < M 74 (7 * k + (m + 1)) → v22 = M 74 (7 * k + (m + 1))) → AW (d + 5) mX8_laysWorth 121 [(0, .inr 62), (1, .inl f), (2, .inl re), (3, .inl k), (4, .inl m), (5, .inl v17)] [.inl v22] M Q := by
            intro v22 q24 q25
            replace h := h v22 q24 q25
            refine aw_istore (L' := [(0, .inr 62), (1, .inl f), (2, .inl re), (3, .inl k), (4, .inl m), (5, .inl v22)]) dX8_laysWorth_121 (Nat.le_of_ble_eq_true rfl) rfl ?_
            refine aw_aload_n dX8_laysWorth_123 rfl (j := 0) rfl ?_
            refine aw_getr dX8_laysWorth_124 fl_X8_45 rfl rfl ?_
            refine aw_bipush dX8_laysWorth_127 (by decide) ?_
            refine aw_iload_n dX8_laysWorth_129 rfl (j := 3) rfl ?_
            refine aw_imul dX8_laysWorth_130 ?_
            refine aw_iload dX8_laysWorth_131 (j := 4) rfl ?_
            refine aw_iadd dX8_laysWorth_133 ?_
            refine aw_iload dX8_laysWorth_134 (j := 5) rfl ?_
            obtain ⟨s23, h⟩ := h
            refine aw_iastore dX8_laysWorth_136 rfl s23 ?_
            refine aw_iinc (L' := [(0, .inr 62), (1, .inl f), (2, .inl re), (3, .inl k), (4, .inl (m + (-1))), (5, .inl v22)]) dX8_laysWorth_137 (j := 4) rfl (Nat.le_of_ble_eq_true rfl) rfl ?_
            refine aw_goto dX8_laysWorth_140 (tgt := 21) rfl ?_
            exact aw_sub [0, 1, 2, 3, 4] rfl h
          clear h
          obtain ⟨s19, g⟩ := g
          have s20 := g
          refine aw_icmp_le dX8_laysWorth_104 (tgt := 119) rfl s19 s20 (fun c21 => ?_) (fun c21 => ?_)
          · have c21 : M 74 (7 * k + (m + 1)) ≤ v17 := c21
            refine aw_iload dX8_laysWorth_119 (j := 5) rfl ?_
            exact K v17 (fun _ => rfl) (fun q0 => by first | omega | exact absurd c21 q0 | exact absurd q0 c21)
          · have c21 : v17 < M 74 (7 * k + (m + 1)) := c21
            refine aw_aload_n dX8_laysWorth_107 rfl (j := 0) rfl ?_
            refine aw_iload_n dX8_laysWorth_108 rfl (j := 3) rfl ?_
            refine aw_iload dX8_laysWorth_109 (j := 4) rfl ?_
            refine aw_iconst dX8_laysWorth_111 ?_
            refine aw_iadd dX8_laysWorth_112 ?_
            refine aw_invv (d' := d + 4) (as := [.inl k, .inl (m + 1)]) (rest := []) dX8_laysWorth_113 cv_X8_128 (Nat.lt_succ_self _) rfl rfl rfl rfl rfl (Nat.le_of_ble_eq_true rfl) (fc_worthOf s18 ?_)
            show AW (d + 5) mX8_laysWorth 116 [(0, .inr 62), (1, .inl f), (2, .inl re), (3, .inl k), (4, .inl m), (5, .inl v17)] [.inl (M 74 (7 * k + (m + 1)))] M Q
            refine aw_goto dX8_laysWorth_116 (tgt := 121) rfl ?_
            exact K (M 74 (7 * k + (m + 1))) (fun q0 => by first | omega | exact absurd c21 q0 | exact absurd q0 c21) (fun _ => rfl)
        clear h
        obtain ⟨s14, g⟩ := g
        have s15 := g
        refine aw_icmp_le dX8_laysWorth_74 (tgt := 89) rfl s14 s15 (fun c16 => ?_) (fun c16 => ?_)
        · have c16 : M 74 (7 * (k + 1) + m) ≤ am_pw (M 63) (M 71) (M 74) f k m re := c16
          refine aw_iload dX8_laysWorth_89 (j := 5) rfl ?_
          exact K (am_pw (M 63) (M 71) (M 74) f k m re) (fun _ => rfl) (fun q0 => by first | omega | exact absurd c16 q0 | exact absurd q0 c16)
        · have c16 : am_pw (M 63) (M 71) (M 74) f k m re < M 74 (7 * (k + 1) + m) := c16
          refine aw_aload_n dX8_laysWorth_77 rfl (j := 0) rfl ?_
          refine aw_iload_n dX8_laysWorth_78 rfl (j := 3) rfl ?_
          refine aw_iconst dX8_laysWorth_79 ?_
          refine aw_iadd dX8_laysWorth_80 ?_
          refine aw_iload dX8_laysWorth_81 (j := 4) rfl ?_
          refine aw_invv (d' := d + 4) (as := [.inl (k + 1), .inl m]) (rest := []) dX8_laysWorth_83 cv_X8_128 (Nat.lt_succ_self _) rfl rfl rfl rfl rfl (Nat.le_of_ble_eq_true rfl) (fc_worthOf s13 ?_)
          show AW (d + 5) mX8_laysWorth 86 [(0, .inr 62), (1, .inl f), (2, .inl re), (3, .inl k), (4, .inl m), (5, .inl (am_pw (M 63) (M 71) (M 74) f k m re))] [.inl (M 74 (7 * (k + 1) + m))] M Q
          refine aw_goto dX8_laysWorth_86 (tgt := 91) rfl ?_
          exact K (M 74 (7 * (k + 1) + m)) (fun q0 => by first | omega | exact absurd c16 q0 | exact absurd q0 c16) (fun _ => rfl)
theorem sg_X8_joins {d : Nat} {M : am_M} {Q : Option Int → am_M → Prop} {f re : Int} (h : AC (d + 5) mX8_laysWorth [.inr 62, .inl f, .inl re] M (fun r M1 => r = none ∧
 AW (d + 6) mX8_joins 11 [(0, .inr 62), (1, .inl f), (2, .inl re), (3, .inl 0), (4, .inl 0)] [] M1 Q)) : AC (d + 6) mX8_joins [.inr 62, .inl f, .inl re] M Q := by
  refine aw_body (by decide) (Nat.le_of_ble_eq_true rfl) rfl ?_
  refine aw_aload_n dX8_joins_0 rfl (j := 0) rfl ?_
  refine aw_iload_n dX8_joins_1 rfl (j := 1) rfl ?_
  refine aw_iload_n dX8_joins_2 rfl (j := 2) rfl ?_
  refine aw_invv (d' := d + 5) (as := [.inl f, .inl re]) (rest := []) dX8_joins_3 cv_X8_135 (Nat.lt_succ_self _) rfl rfl rfl rfl rfl (Nat.le_of_ble_eq_true rfl) (AC.mono ?_ h)
  intro r M1 h
  obtain ⟨rfl, h⟩ := h
  show AW (d + 6) mX8_joins 6 [(0, .inr 62), (1, .inl f), (2, .inl re)] [] M1 Q
  refine aw_iconst dX8_joins_6 ?_
  refine aw_istore_n (L' := [(0, .inr 62), (1, .inl f), (2, .inl re), (3, .inl 0)]) dX8_joins_7 rfl (Nat.le_of_ble_eq_true rfl) rfl ?_
  refine aw_iconst dX8_joins_8 ?_
  refine aw_istore (L' := [(0, .inr 62), (1, .inl f), (2, .inl re), (3, .inl 0), (4, .inl 0)]) dX8_joins_9 (Nat.le_of_ble_eq_true rfl) rfl ?_
  exact h
theorem sg_X8_joins_11 {d : Nat} {M : am_M} {Q : Option Int → am_M → Prop} {f re nx k : Int} (h : (0 ≤ f ∧ f < 8) ∧
 (am_r k) ∧
 (am_r (M 70 f)) ∧
 ((M 70 f ≤ k →
 Q none M) ∧
 (k < M 70 f →
 (0 ≤ f + 1 ∧ f + 1 < 8) ∧
 AW (d + 6) mX8_joins 38 [(0, .inr 62), (1, .inl f), (2, .inl re), (3, .inl nx), (4, .inl k), (5, .inl (-9)), (6, .inl ((M 70 (f + 1)) - 1))] [] M Q))) : AW (d + 6) mX8_joins 11 [(0, .inr 62), (1, .inl f), (2, .inl re), (3, .inl nx), (4, .inl k)] [] M Q := by
  refine aw_iload dX8_joins_11 (j := 4) rfl ?_
  refine aw_aload_n dX8_joins_13 rfl (j := 0) rfl ?_
  refine aw_getr dX8_joins_14 fl_X8_33 rfl rfl ?_
  refine aw_iload_n dX8_joins_17 rfl (j := 1) rfl ?_
  obtain ⟨s1, h⟩ := h
  refine aw_iaload dX8_joins_18 rfl s1 ?_
  obtain ⟨s2, h⟩ := h
  obtain ⟨s3, h⟩ := h
  refine aw_icmp_ge dX8_joins_19 (tgt := 115) rfl s2 s3 (fun c4 => ?_) (fun c4 => ?_)
  · replace h := h.1 c4
    exact aw_vret dX8_joins_115 rfl h
  · replace h := h.2 c4
    refine aw_bipush dX8_joins_22 (by decide) ?_
    refine aw_istore (L' := [(0, .inr 62), (1, .inl f), (2, .inl re), (3, .inl nx), (4, .inl k), (5, .inl (-9))]) dX8_joins_24 (Nat.le_of_ble_eq_true rfl) rfl ?_
    refine aw_aload_n dX8_joins_26 rfl (j := 0) rfl ?_
    refine aw_getr dX8_joins_27 fl_X8_33 rfl rfl ?_
    refine aw_iload_n dX8_joins_30 rfl (j := 1) rfl ?_
    refine aw_iconst dX8_joins_31 ?_
    refine aw_iadd dX8_joins_32 ?_
    obtain ⟨s5, h⟩ := h
    refine aw_iaload dX8_joins_33 rfl s5 ?_
    refine aw_iconst dX8_joins_34 ?_
    refine aw_isub dX8_joins_35 ?_
    refine aw_istore (L' := [(0, .inr 62), (1, .inl f), (2, .inl re), (3, .inl nx), (4, .inl k), (5, .inl (-9)), (6, .inl ((M 70 (f + 1)) - 1))]) dX8_joins_36 (Nat.le_of_ble_eq_true rfl) rfl ?_
    exact h
theorem sg_X8_joins_38 {d : Nat} {M : am_M} {Q : Option Int → am_M → Prop} {f re nx k fd m : Int} (h : (am_r m) ∧
 (am_r nx) ∧
 ((m < nx →
 (0 ≤ (6 * f) + k ∧ (6 * f) + k < 48) ∧
 ((am_r fd)) ∧
 ∀ (v7 : Int), (fd ≠ (-9) → v7 = fd + 1) →
 (fd = (-9) → v7 = nx) →
 AW (d + 6) mX8_joins 11 [(0, .inr 62), (1, .inl f), (2, .inl re), (3, .inl v7), (4, .inl (k + 1))] [] (am_up M 72 ((6 * f) + k) fd) Q) ∧
 (nx ≤ m →
 (am_pwok (M 63) (M 71) f k m re) ∧
 (0 ≤ 7 * k + nx ∧ 7 * k + nx < 49) ∧
 (((am_r (am_pw (M 63) (M 71) (M 74) f k m re)) ∧ (am_r (M 74 (7 * k + nx))))) ∧
 ∀ (v15 : Int), (am_pw (M 63) (M 71) (M 74) f k m re ≠ M 74 (7 * k + nx) → v15 = fd) →
 (am_pw (M 63) (M 71) (M 74) f k m re = M 74 (7 * k + nx) → v15 = m) →
 AW (d + 6) mX8_joins 38 [(0, .inr 62), (1, .inl f), (2, .inl re), (3, .inl nx), (4, .inl k), (5, .inl v15), (6, .inl (m + (-1)))] [] M Q))) : AW (d + 6) mX8_joins 38 [(0, .inr 62), (1, .inl f), (2, .inl re), (3, .inl nx), (4, .inl k), (5, .inl fd), (6, .inl m)] [] M Q := by
  refine aw_iload dX8_joins_38 (j := 6) rfl ?_
  refine aw_iload_n dX8_joins_40 rfl (j := 3) rfl ?_
  obtain ⟨s1, h⟩ := h
  obtain ⟨s2, h⟩ := h
  refine aw_icmp_lt dX8_joins_41 (tgt := 79) rfl s1 s2 (fun c3 => ?_) (fun c3 => ?_)
  · replace h := h.1 c3
    refine aw_aload_n dX8_joins_79 rfl (j := 0) rfl ?_
    refine aw_getr dX8_joins_80 fl_X8_39 rfl rfl ?_
    refine aw_bipush dX8_joins_83 (by decide) ?_
    refine aw_iload_n dX8_joins_85 rfl (j := 1) rfl ?_
    refine aw_imul dX8_joins_86 ?_
    refine aw_iload dX8_joins_87 (j := 4) rfl ?_
    refine aw_iadd dX8_joins_89 ?_
    refine aw_iload dX8_joins_90 (j := 5) rfl ?_
    obtain ⟨s4, h⟩ := h
    refine aw_iastore dX8_joins_92 rfl s4 ?_
    refine aw_iload dX8_joins_93 (j := 5) rfl ?_
    refine aw_bipush dX8_joins_95 (by decide) ?_
    obtain ⟨g, h⟩ := h
    have K : ∀ (v7 : Int), (fd ≠ (-9) → v7 = fd + 1) → (fd = (-9) → v7 = nx) → AW (d + 6) mX8_joins 108 [(0, .inr 62), (1, .inl f), (2, .inl re), (3, .inl nx), (4, .inl k), (5, .inl fd), (6, .inl m)] [.inl v7] (am_up M 72 ((6 * f) + k) fd) Q := by
      intro v7 q8 q9
      replace h := h v7 q8 q9
      refine aw_istore_n (L' := [(0, .inr 62), (1, .inl f), (2, .inl re), (3, .inl v7), (4, .inl k), (5, .inl fd), (6, .inl m)]) dX8_joins_108 rfl (Nat.le_of_ble_eq_true rfl) rfl ?_
      refine aw_iinc (L' := [(0, .inr 62), (1, .inl f), (2, .inl re), (3, .inl v7), (4, .inl (k + 1)), (5, .inl fd), (6, .inl m)]) dX8_joins_109 (j := 4) rfl (Nat.le_of_ble_eq_true rfl) rfl ?_
      refine aw_goto dX8_joins_112 (tgt := 11) rfl ?_
      exact aw_sub [0, 1, 2, 3, 4] rfl h
    clear h
    have s5 := g
    refine aw_icmp_ne dX8_joins_97 (tgt := 104) rfl s5 (by decide) (fun c6 => ?_) (fun c6 => ?_)
    · have c6 : fd ≠ (-9) := c6
      refine aw_iload dX8_joins_104 (j := 5) rfl ?_
      refine aw_iconst dX8_joins_106 ?_
      refine aw_iadd dX8_joins_107 ?_
      exact K (fd + 1) (fun _ => rfl) (fun q0 => by first | omega | exact absurd c6 q0 | exact absurd q0 c6)
    · have c6 : fd = (-9) := c6
      refine aw_iload_n dX8_joins_100 rfl (j := 3) rfl ?_
      refine aw_goto dX8_joins_101 (tgt := 108) rfl ?_
      exact K nx (fun q0 => by first | omega | exact absurd c6 q0 | exact absurd q0 c6) (fun _ => rfl)
  · replace h := h.2 c3
    refine aw_aload_n dX8_joins_44 rfl (j := 0) rfl ?_
    refine aw_iload_n dX8_joins_45 rfl (j := 1) rfl ?_
    refine aw_iload dX8_joins_46 (j := 4) rfl ?_
    refine aw_iload dX8_joins_48 (j := 6) rfl ?_
    refine aw_iload_n dX8_joins_50 rfl (j := 2) rfl ?_
    obtain ⟨s10, h⟩ := h
    refine aw_invv (d' := d + 5) (as := [.inl f, .inl k, .inl m, .inl re]) (rest := []) dX8_joins_51 cv_X8_131 (Nat.lt_succ_self _) rfl rfl rfl rfl rfl (Nat.le_of_ble_eq_true rfl) (fc_pairWorth s10 ?_)
    show AW (d + 6) mX8_joins 54 [(0, .inr 62), (1, .inl f), (2, .inl re), (3, .inl nx), (4, .inl k), (5, .inl fd), (6, .inl m)] [.inl (am_pw (M 63) (M 71) (M 74) f k m re)] M Q
    refine aw_aload_n dX8_joins_54 rfl (j := 0) rfl ?_
    refine aw_iload dX8_joins_55 (j := 4) rfl ?_
    refine aw_iload_n dX8_joins_57 rfl (j := 3) rfl ?_
    obtain ⟨s11, h⟩ := h
    refine aw_invv (d' := d + 5) (as := [.inl k, .inl nx]) (rest := [.inl (am_pw (M 63) (M 71) (M 74) f k m re)]) dX8_joins_58 cv_X8_128 (Nat.lt_succ_self _) rfl rfl rfl rfl rfl (Nat.le_of_ble_eq_true rfl) (fc_worthOf s11 ?_)
    show AW (d + 6) mX8_joins 61 [(0, .inr 62), (1, .inl f), (2, .inl re), (3, .inl nx), (4, .inl k), (5, .inl fd), (6, .inl m)] [.inl (M 74 (7 * k + nx)), .inl (am_pw (M 63) (M 71) (M 74) f k m re)] M Q
    obtain ⟨g, h⟩ := h
    have K : ∀ (v15 : Int), (am_pw (M 63) (M 71) (M 74) f k m re ≠ M 74 (7 * k + nx) → v15 = fd) → (am_pw (M 63) (M 71) (M 74) f k m re = M 74 (7 * k + nx) → v15 = m) → AW (d + 6) mX8_joins 71 [(0, .inr 62), (1, .inl f), (2, .inl re), (3, .inl nx), (4, .inl k), (5, .inl fd), (6, .inl m)] [.inl v15] M Q := by
      intro v15 q16 q17
      replace h := h v15 q16 q17
      refine aw_istore (L' := [(0, .inr 62), (1, .inl f), (2, .inl re), (3, .inl nx), (4, .inl k), (5, .inl v15), (6, .inl m)]) dX8_joins_71 (Nat.le_of_ble_eq_true rfl) rfl ?_
      refine aw_iinc (L' := [(0, .inr 62), (1, .inl f), (2, .inl re), (3, .inl nx), (4, .inl k), (5, .inl v15), (6, .inl (m + (-1)))]) dX8_joins_73 (j := 6) rfl (Nat.le_of_ble_eq_true rfl) rfl ?_
      refine aw_goto dX8_joins_76 (tgt := 38) rfl ?_
      exact h
    clear h
    obtain ⟨s12, g⟩ := g
    have s13 := g
    refine aw_icmp_ne dX8_joins_61 (tgt := 69) rfl s12 s13 (fun c14 => ?_) (fun c14 => ?_)
    · have c14 : am_pw (M 63) (M 71) (M 74) f k m re ≠ M 74 (7 * k + nx) := c14
      refine aw_iload dX8_joins_69 (j := 5) rfl ?_
      exact K fd (fun _ => rfl) (fun q0 => by first | omega | exact absurd c14 q0 | exact absurd q0 c14)
    · have c14 : am_pw (M 63) (M 71) (M 74) f k m re = M 74 (7 * k + nx) := c14
      refine aw_iload dX8_joins_64 (j := 6) rfl ?_
      refine aw_goto dX8_joins_66 (tgt := 71) rfl ?_
      exact K m (fun q0 => by first | omega | exact absurd c14 q0 | exact absurd q0 c14) (fun _ => rfl)
theorem sg_X8_laysTracks {d : Nat} {M : am_M} {Q : Option Int → am_M → Prop} {re : Int} (h : AC (d + 6) mX8_laysPeaks [.inr 62] M (fun r M1 => r = none ∧
 AW (d + 7) mX8_laysTracks 6 [(0, .inr 62), (1, .inl re), (2, .inl 0)] [] M1 Q)) : AC (d + 7) mX8_laysTracks [.inr 62, .inl re] M Q := by
  refine aw_body (by decide) (Nat.le_of_ble_eq_true rfl) rfl ?_
  refine aw_aload_n dX8_laysTracks_0 rfl (j := 0) rfl ?_
  refine aw_invv (d' := d + 6) (as := []) (rest := []) dX8_laysTracks_1 cv_X8_139 (Nat.lt_succ_self _) rfl rfl rfl rfl rfl (Nat.le_of_ble_eq_true rfl) (AC.mono ?_ h)
  intro r M1 h
  obtain ⟨rfl, h⟩ := h
  show AW (d + 7) mX8_laysTracks 4 [(0, .inr 62), (1, .inl re)] [] M1 Q
  refine aw_iconst dX8_laysTracks_4 ?_
  refine aw_istore_n (L' := [(0, .inr 62), (1, .inl re), (2, .inl 0)]) dX8_laysTracks_5 rfl (Nat.le_of_ble_eq_true rfl) rfl ?_
  exact h
theorem sg_X8_laysTracks_6 {d : Nat} {M : am_M} {Q : Option Int → am_M → Prop} {re f : Int} (h : (am_r f) ∧
 ((48 ≤ f →
 AW (d + 7) mX8_laysTracks 36 [(0, .inr 62), (1, .inl re), (2, .inl 0)] [] M Q) ∧
 (f < 48 →
 (0 ≤ f ∧ f < 48) ∧
 AW (d + 7) mX8_laysTracks 6 [(0, .inr 62), (1, .inl re), (2, .inl (f + 1))] [] (am_up (am_up M 72 f (-9)) 73 f (-9)) Q))) : AW (d + 7) mX8_laysTracks 6 [(0, .inr 62), (1, .inl re), (2, .inl f)] [] M Q := by
  refine aw_iload_n dX8_laysTracks_6 rfl (j := 2) rfl ?_
  refine aw_bipush dX8_laysTracks_7 (by decide) ?_
  obtain ⟨s1, h⟩ := h
  refine aw_icmp_ge dX8_laysTracks_9 (tgt := 34) rfl s1 (by decide) (fun c2 => ?_) (fun c2 => ?_)
  · replace h := h.1 c2
    refine aw_iconst dX8_laysTracks_34 ?_
    refine aw_istore_n (L' := [(0, .inr 62), (1, .inl re), (2, .inl 0)]) dX8_laysTracks_35 rfl (Nat.le_of_ble_eq_true rfl) rfl ?_
    exact h
  · replace h := h.2 c2
    refine aw_aload_n dX8_laysTracks_12 rfl (j := 0) rfl ?_
    refine aw_getr dX8_laysTracks_13 fl_X8_39 rfl rfl ?_
    refine aw_iload_n dX8_laysTracks_16 rfl (j := 2) rfl ?_
    refine aw_bipush dX8_laysTracks_17 (by decide) ?_
    obtain ⟨s3, h⟩ := h
    refine aw_iastore dX8_laysTracks_19 rfl s3 ?_
    refine aw_aload_n dX8_laysTracks_20 rfl (j := 0) rfl ?_
    refine aw_getr dX8_laysTracks_21 fl_X8_42 rfl rfl ?_
    refine aw_iload_n dX8_laysTracks_24 rfl (j := 2) rfl ?_
    refine aw_bipush dX8_laysTracks_25 (by decide) ?_
    refine aw_iastore dX8_laysTracks_27 rfl s3 ?_
    refine aw_iinc (L' := [(0, .inr 62), (1, .inl re), (2, .inl (f + 1))]) dX8_laysTracks_28 (j := 2) rfl (Nat.le_of_ble_eq_true rfl) rfl ?_
    refine aw_goto dX8_laysTracks_31 (tgt := 6) rfl ?_
    exact h
theorem sg_X8_laysTracks_36 {d : Nat} {M : am_M} {Q : Option Int → am_M → Prop} {re f : Int} (h : (am_r (f + 1)) ∧
 (am_r (M 63 0)) ∧
 ((M 63 0 ≤ f + 1 →
 AW (d + 7) mX8_laysTracks 67 [(0, .inr 62), (2, .inl 0)] [] (am_up M 62 19 0) Q) ∧
 (f + 1 < M 63 0 →
 AC (d + 6) mX8_joins [.inr 62, .inl f, .inl re] M (fun r M4 => r = none ∧
 AW (d + 7) mX8_laysTracks 36 [(0, .inr 62), (1, .inl re), (2, .inl (f + 1))] [] M4 Q)))) : AW (d + 7) mX8_laysTracks 36 [(0, .inr 62), (1, .inl re), (2, .inl f)] [] M Q := by
  refine aw_iload_n dX8_laysTracks_36 rfl (j := 2) rfl ?_
  refine aw_iconst dX8_laysTracks_37 ?_
  refine aw_iadd dX8_laysTracks_38 ?_
  refine aw_aload_n dX8_laysTracks_39 rfl (j := 0) rfl ?_
  refine aw_getr dX8_laysTracks_40 fl_X8_7 rfl rfl ?_
  refine aw_iconst dX8_laysTracks_43 ?_
  refine aw_iaload dX8_laysTracks_44 rfl (by decide) ?_
  obtain ⟨s1, h⟩ := h
  obtain ⟨s2, h⟩ := h
  refine aw_icmp_ge dX8_laysTracks_45 (tgt := 60) rfl s1 s2 (fun c3 => ?_) (fun c3 => ?_)
  · replace h := h.1 c3
    refine aw_aload_n dX8_laysTracks_60 rfl (j := 0) rfl ?_
    refine aw_iconst dX8_laysTracks_61 ?_
    refine aw_putf dX8_laysTracks_62 pf_X8_145 rfl rfl rfl ?_
    refine aw_iconst dX8_laysTracks_65 ?_
    refine aw_istore_n (L' := [(0, .inr 62), (1, .inl re), (2, .inl 0)]) dX8_laysTracks_66 rfl (Nat.le_of_ble_eq_true rfl) rfl ?_
    exact aw_sub [0, 2] rfl h
  · replace h := h.2 c3
    refine aw_aload_n dX8_laysTracks_48 rfl (j := 0) rfl ?_
    refine aw_iload_n dX8_laysTracks_49 rfl (j := 2) rfl ?_
    refine aw_iload_n dX8_laysTracks_50 rfl (j := 1) rfl ?_
    refine aw_invv (d' := d + 6) (as := [.inl f, .inl re]) (rest := []) dX8_laysTracks_51 cv_X8_142 (Nat.lt_succ_self _) rfl rfl rfl rfl rfl (Nat.le_of_ble_eq_true rfl) (AC.mono ?_ h)
    intro r M4 h
    obtain ⟨rfl, h⟩ := h
    show AW (d + 7) mX8_laysTracks 54 [(0, .inr 62), (1, .inl re), (2, .inl f)] [] M4 Q
    refine aw_iinc (L' := [(0, .inr 62), (1, .inl re), (2, .inl (f + 1))]) dX8_laysTracks_54 (j := 2) rfl (Nat.le_of_ble_eq_true rfl) rfl ?_
    refine aw_goto dX8_laysTracks_57 (tgt := 36) rfl ?_
    exact h
theorem sg_X8_laysTracks_67 {d : Nat} {M : am_M} {Q : Option Int → am_M → Prop} {f : Int} (h : (am_r f) ∧
 (am_r (M 63 0)) ∧
 ((M 63 0 ≤ f →
 Q none M) ∧
 (f < M 63 0 →
 AW (d + 7) mX8_laysTracks 79 [(0, .inr 62), (2, .inl f), (3, .inl 0)] [] M Q))) : AW (d + 7) mX8_laysTracks 67 [(0, .inr 62), (2, .inl f)] [] M Q := by
  refine aw_iload_n dX8_laysTracks_67 rfl (j := 1) rfl ?_
  refine aw_aload_n dX8_laysTracks_68 rfl (j := 0) rfl ?_
  refine aw_getr dX8_laysTracks_69 fl_X8_7 rfl rfl ?_
  refine aw_iconst dX8_laysTracks_72 ?_
  refine aw_iaload dX8_laysTracks_73 rfl (by decide) ?_
  obtain ⟨s1, h⟩ := h
  obtain ⟨s2, h⟩ := h
  refine aw_icmp_ge dX8_laysTracks_74 (tgt := 133) rfl s1 s2 (fun c3 => ?_) (fun c3 => ?_)
  · replace h := h.1 c3
    exact aw_vret dX8_laysTracks_133 rfl h
  · replace h := h.2 c3
    refine aw_iconst dX8_laysTracks_77 ?_
    refine aw_istore_n (L' := [(0, .inr 62), (2, .inl f), (3, .inl 0)]) dX8_laysTracks_78 rfl (Nat.le_of_ble_eq_true rfl) rfl ?_
    exact h
theorem sg_X8_laysTracks_79 {d : Nat} {M : am_M} {Q : Option Int → am_M → Prop} {f k : Int} (h : (0 ≤ f ∧ f < 8) ∧
 (am_r k) ∧
 (am_r (M 70 f)) ∧
 ((M 70 f ≤ k →
 AW (d + 7) mX8_laysTracks 67 [(0, .inr 62), (2, .inl (f + 1))] [] M Q) ∧
 (k < M 70 f →
 (0 ≤ (6 * f) + k ∧ (6 * f) + k < 48) ∧
 (am_r (M 73 ((6 * f) + k))) ∧
 ((M 73 ((6 * f) + k) ≠ (-9) →
 AW (d + 7) mX8_laysTracks 79 [(0, .inr 62), (2, .inl f), (3, .inl (k + 1))] [] M Q) ∧
 (M 73 ((6 * f) + k) = (-9) →
 AC (d + 6) mX8_follows [.inr 62, .inl f, .inl k] M (fun r M8 => r = none ∧
 AW (d + 7) mX8_laysTracks 79 [(0, .inr 62), (2, .inl f), (3, .inl (k + 1))] [] (am_up M8 62 19 ((M8 62 19) + 1)) Q)))))) : AW (d + 7) mX8_laysTracks 79 [(0, .inr 62), (2, .inl f), (3, .inl k)] [] M Q := by
  refine aw_iload_n dX8_laysTracks_79 rfl (j := 2) rfl ?_
  refine aw_aload_n dX8_laysTracks_80 rfl (j := 0) rfl ?_
  refine aw_getr dX8_laysTracks_81 fl_X8_33 rfl rfl ?_
  refine aw_iload_n dX8_laysTracks_84 rfl (j := 1) rfl ?_
  obtain ⟨s1, h⟩ := h
  refine aw_iaload dX8_laysTracks_85 rfl s1 ?_
  obtain ⟨s2, h⟩ := h
  obtain ⟨s3, h⟩ := h
  refine aw_icmp_ge dX8_laysTracks_86 (tgt := 127) rfl s2 s3 (fun c4 => ?_) (fun c4 => ?_)
  · replace h := h.1 c4
    refine aw_iinc (L' := [(0, .inr 62), (2, .inl (f + 1)), (3, .inl k)]) dX8_laysTracks_127 (j := 1) rfl (Nat.le_of_ble_eq_true rfl) rfl ?_
    refine aw_goto dX8_laysTracks_130 (tgt := 67) rfl ?_
    exact aw_sub [0, 1] rfl h
  · replace h := h.2 c4
    refine aw_aload_n dX8_laysTracks_89 rfl (j := 0) rfl ?_
    refine aw_getr dX8_laysTracks_90 fl_X8_42 rfl rfl ?_
    refine aw_bipush dX8_laysTracks_93 (by decide) ?_
    refine aw_iload_n dX8_laysTracks_95 rfl (j := 1) rfl ?_
    refine aw_imul dX8_laysTracks_96 ?_
    refine aw_iload_n dX8_laysTracks_97 rfl (j := 2) rfl ?_
    refine aw_iadd dX8_laysTracks_98 ?_
    obtain ⟨s5, h⟩ := h
    refine aw_iaload dX8_laysTracks_99 rfl s5 ?_
    refine aw_bipush dX8_laysTracks_100 (by decide) ?_
    obtain ⟨s6, h⟩ := h
    refine aw_icmp_ne dX8_laysTracks_102 (tgt := 121) rfl s6 (by decide) (fun c7 => ?_) (fun c7 => ?_)
    · replace h := h.1 c7
      refine aw_iinc (L' := [(0, .inr 62), (2, .inl f), (3, .inl (k + 1))]) dX8_laysTracks_121 (j := 2) rfl (Nat.le_of_ble_eq_true rfl) rfl ?_
      refine aw_goto dX8_laysTracks_124 (tgt := 79) rfl ?_
      exact h
    · replace h := h.2 c7
      refine aw_aload_n dX8_laysTracks_105 rfl (j := 0) rfl ?_
      refine aw_iload_n dX8_laysTracks_106 rfl (j := 1) rfl ?_
      refine aw_iload_n dX8_laysTracks_107 rfl (j := 2) rfl ?_
      refine aw_invv (d' := d + 6) (as := [.inl f, .inl k]) (rest := []) dX8_laysTracks_108 cv_X8_148 (Nat.lt_succ_self _) rfl rfl rfl rfl rfl (Nat.le_of_ble_eq_true rfl) (AC.mono ?_ h)
      intro r M8 h
      obtain ⟨rfl, h⟩ := h
      show AW (d + 7) mX8_laysTracks 111 [(0, .inr 62), (2, .inl f), (3, .inl k)] [] M8 Q
      refine aw_aload_n dX8_laysTracks_111 rfl (j := 0) rfl ?_
      refine aw_dup dX8_laysTracks_112 ?_
      refine aw_getf dX8_laysTracks_113 fl_X8_145 rfl rfl rfl ?_
      refine aw_iconst dX8_laysTracks_116 ?_
      refine aw_iadd dX8_laysTracks_117 ?_
      refine aw_putf dX8_laysTracks_118 pf_X8_145 rfl rfl rfl ?_
      refine aw_iinc (L' := [(0, .inr 62), (2, .inl f), (3, .inl (k + 1))]) dX8_laysTracks_121 (j := 2) rfl (Nat.le_of_ble_eq_true rfl) rfl ?_
      refine aw_goto dX8_laysTracks_124 (tgt := 79) rfl ?_
      exact h
theorem sg_X8_follows {d : Nat} {M : am_M} {Q : Option Int → am_M → Prop} {f k : Int} (h : AW (d) mX8_follows 5 [(0, .inr 62), (3, .inl f), (4, .inl k)] [] M Q) : AC (d) mX8_follows [.inr 62, .inl f, .inl k] M Q := by
  refine aw_body (by decide) (Nat.le_of_ble_eq_true rfl) rfl ?_
  refine aw_iload_n dX8_follows_0 rfl (j := 1) rfl ?_
  refine aw_istore_n (L' := [(0, .inr 62), (1, .inl f), (2, .inl k), (3, .inl f)]) dX8_follows_1 rfl (Nat.le_of_ble_eq_true rfl) rfl ?_
  refine aw_iload_n dX8_follows_2 rfl (j := 2) rfl ?_
  refine aw_istore (L' := [(0, .inr 62), (1, .inl f), (2, .inl k), (3, .inl f), (4, .inl k)]) dX8_follows_3 (Nat.le_of_ble_eq_true rfl) rfl ?_
  exact aw_sub [0, 3, 4] rfl h
theorem sg_X8_follows_5 {d : Nat} {M : am_M} {Q : Option Int → am_M → Prop} {f k : Int} (h : (am_r k) ∧
 ((k = (-9) →
 Q none M) ∧
 (k ≠ (-9) →
 (0 ≤ (6 * f) + k ∧ (6 * f) + k < 48) ∧
 AW (d) mX8_follows 5 [(0, .inr 62), (3, .inl (f + 1)), (4, .inl (M 72 ((6 * f) + k)))] [] (am_up M 73 ((6 * f) + k) (M 62 19)) Q))) : AW (d) mX8_follows 5 [(0, .inr 62), (3, .inl f), (4, .inl k)] [] M Q := by
  refine aw_iload dX8_follows_5 (j := 2) rfl ?_
  refine aw_bipush dX8_follows_7 (by decide) ?_
  obtain ⟨s1, h⟩ := h
  refine aw_icmp_eq dX8_follows_9 (tgt := 48) rfl s1 (by decide) (fun c2 => ?_) (fun c2 => ?_)
  · replace h := h.1 c2
    exact aw_vret dX8_follows_48 rfl h
  · replace h := h.2 c2
    refine aw_aload_n dX8_follows_12 rfl (j := 0) rfl ?_
    refine aw_getr dX8_follows_13 fl_X8_42 rfl rfl ?_
    refine aw_bipush dX8_follows_16 (by decide) ?_
    refine aw_iload_n dX8_follows_18 rfl (j := 1) rfl ?_
    refine aw_imul dX8_follows_19 ?_
    refine aw_iload dX8_follows_20 (j := 2) rfl ?_
    refine aw_iadd dX8_follows_22 ?_
    refine aw_aload_n dX8_follows_23 rfl (j := 0) rfl ?_
    refine aw_getf dX8_follows_24 fl_X8_145 rfl rfl rfl ?_
    obtain ⟨s3, h⟩ := h
    refine aw_iastore dX8_follows_27 rfl s3 ?_
    refine aw_aload_n dX8_follows_28 rfl (j := 0) rfl ?_
    refine aw_getr dX8_follows_29 fl_X8_39 rfl rfl ?_
    refine aw_bipush dX8_follows_32 (by decide) ?_
    refine aw_iload_n dX8_follows_34 rfl (j := 1) rfl ?_
    refine aw_imul dX8_follows_35 ?_
    refine aw_iload dX8_follows_36 (j := 2) rfl ?_
    refine aw_iadd dX8_follows_38 ?_
    refine aw_iaload dX8_follows_39 rfl s3 ?_
    refine aw_istore (L' := [(0, .inr 62), (3, .inl f), (4, .inl (M 72 ((6 * f) + k)))]) dX8_follows_40 (Nat.le_of_ble_eq_true rfl) rfl ?_
    refine aw_iinc (L' := [(0, .inr 62), (3, .inl (f + 1)), (4, .inl (M 72 ((6 * f) + k)))]) dX8_follows_42 (j := 1) rfl (Nat.le_of_ble_eq_true rfl) rfl ?_
    refine aw_goto dX8_follows_45 (tgt := 5) rfl ?_
    exact h
theorem sg_X8_lays {d : Nat} {M : am_M} {Q : Option Int → am_M → Prop} (h : AC (d + 7) mX8_laysTracks [.inr 62, .inl (M 63 3)] M (fun r M1 => r = none ∧
 Q none M1)) : AC (d + 8) mX8_lays [.inr 62] M Q := by
  refine aw_body (by decide) (Nat.le_of_ble_eq_true rfl) rfl ?_
  refine aw_aload_n dX8_lays_0 rfl (j := 0) rfl ?_
  refine aw_aload_n dX8_lays_1 rfl (j := 0) rfl ?_
  refine aw_getr dX8_lays_2 fl_X8_7 rfl rfl ?_
  refine aw_iconst dX8_lays_5 ?_
  refine aw_iaload dX8_lays_6 rfl (by decide) ?_
  refine aw_invv (d' := d + 7) (as := [.inl (M 63 3)]) (rest := []) dX8_lays_7 cv_X8_151 (Nat.lt_succ_self _) rfl rfl rfl rfl rfl (Nat.le_of_ble_eq_true rfl) (AC.mono ?_ h)
  intro r M1 h
  obtain ⟨rfl, h⟩ := h
  show AW (d + 8) mX8_lays 10 [(0, .inr 62)] [] M1 Q
  exact aw_vret dX8_lays_10 rfl h
theorem sg_X8_peakOf {d : Nat} {M : am_M} {Q : Option Int → am_M → Prop} {n f : Int} (h : AW (d) mX8_peakOf 6 [(0, .inr 62), (1, .inl n), (2, .inl f), (3, .inl (-9)), (4, .inl 0)] [] M Q) : AC (d) mX8_peakOf [.inr 62, .inl n, .inl f] M Q := by
  refine aw_body (by decide) (Nat.le_of_ble_eq_true rfl) rfl ?_
  refine aw_bipush dX8_peakOf_0 (by decide) ?_
  refine aw_istore_n (L' := [(0, .inr 62), (1, .inl n), (2, .inl f), (3, .inl (-9))]) dX8_peakOf_2 rfl (Nat.le_of_ble_eq_true rfl) rfl ?_
  refine aw_iconst dX8_peakOf_3 ?_
  refine aw_istore (L' := [(0, .inr 62), (1, .inl n), (2, .inl f), (3, .inl (-9)), (4, .inl 0)]) dX8_peakOf_4 (Nat.le_of_ble_eq_true rfl) rfl ?_
  exact h
theorem sg_X8_peakOf_6 {d : Nat} {M : am_M} {Q : Option Int → am_M → Prop} {n f fd k : Int} (h : (0 ≤ f ∧ f < 8) ∧
 (am_r k) ∧
 (am_r (M 70 f)) ∧
 ((M 70 f ≤ k →
 Q (some fd) M) ∧
 (k < M 70 f →
 (0 ≤ (6 * f) + k ∧ (6 * f) + k < 48) ∧
 (((am_r (M 73 ((6 * f) + k))) ∧ (am_r n))) ∧
 ∀ (v9 : Int), (M 73 ((6 * f) + k) ≠ n → v9 = fd) →
 (M 73 ((6 * f) + k) = n → v9 = k) →
 AW (d) mX8_peakOf 6 [(0, .inr 62), (1, .inl n), (2, .inl f), (3, .inl v9), (4, .inl (k + 1))] [] M Q))) : AW (d) mX8_peakOf 6 [(0, .inr 62), (1, .inl n), (2, .inl f), (3, .inl fd), (4, .inl k)] [] M Q := by
  refine aw_iload dX8_peakOf_6 (j := 4) rfl ?_
  refine aw_aload_n dX8_peakOf_8 rfl (j := 0) rfl ?_
  refine aw_getr dX8_peakOf_9 fl_X8_33 rfl rfl ?_
  refine aw_iload_n dX8_peakOf_12 rfl (j := 2) rfl ?_
  obtain ⟨s1, h⟩ := h
  refine aw_iaload dX8_peakOf_13 rfl s1 ?_
  obtain ⟨s2, h⟩ := h
  obtain ⟨s3, h⟩ := h
  refine aw_icmp_ge dX8_peakOf_14 (tgt := 46) rfl s2 s3 (fun c4 => ?_) (fun c4 => ?_)
  · replace h := h.1 c4
    refine aw_iload_n dX8_peakOf_46 rfl (j := 3) rfl ?_
    exact aw_iret dX8_peakOf_47 rfl h
  · replace h := h.2 c4
    refine aw_aload_n dX8_peakOf_17 rfl (j := 0) rfl ?_
    refine aw_getr dX8_peakOf_18 fl_X8_42 rfl rfl ?_
    refine aw_bipush dX8_peakOf_21 (by decide) ?_
    refine aw_iload_n dX8_peakOf_23 rfl (j := 2) rfl ?_
    refine aw_imul dX8_peakOf_24 ?_
    refine aw_iload dX8_peakOf_25 (j := 4) rfl ?_
    refine aw_iadd dX8_peakOf_27 ?_
    obtain ⟨s5, h⟩ := h
    refine aw_iaload dX8_peakOf_28 rfl s5 ?_
    refine aw_iload_n dX8_peakOf_29 rfl (j := 1) rfl ?_
    obtain ⟨g, h⟩ := h
    have K : ∀ (v9 : Int), (M 73 ((6 * f) + k) ≠ n → v9 = fd) → (M 73 ((6 * f) + k) = n → v9 = k) → AW (d) mX8_peakOf 39 [(0, .inr 62), (1, .inl n), (2, .inl f), (3, .inl fd), (4, .inl k)] [.inl v9] M Q := by
      intro v9 q10 q11
      replace h := h v9 q10 q11
      refine aw_istore_n (L' := [(0, .inr 62), (1, .inl n), (2, .inl f), (3, .inl v9), (4, .inl k)]) dX8_peakOf_39 rfl (Nat.le_of_ble_eq_true rfl) rfl ?_
      refine aw_iinc (L' := [(0, .inr 62), (1, .inl n), (2, .inl f), (3, .inl v9), (4, .inl (k + 1))]) dX8_peakOf_40 (j := 4) rfl (Nat.le_of_ble_eq_true rfl) rfl ?_
      refine aw_goto dX8_peakOf_43 (tgt := 6) rfl ?_
      exact h
    clear h
    obtain ⟨s6, g⟩ := g
    have s7 := g
    refine aw_icmp_ne dX8_peakOf_30 (tgt := 38) rfl s6 s7 (fun c8 => ?_) (fun c8 => ?_)
    · have c8 : M 73 ((6 * f) + k) ≠ n := c8
      refine aw_iload_n dX8_peakOf_38 rfl (j := 3) rfl ?_
      exact K fd (fun _ => rfl) (fun q0 => by first | omega | exact absurd c8 q0 | exact absurd q0 c8)
    · have c8 : M 73 ((6 * f) + k) = n := c8
      refine aw_iload dX8_peakOf_33 (j := 4) rfl ?_
      refine aw_goto dX8_peakOf_35 (tgt := 39) rfl ?_
      exact K k (fun q0 => by first | omega | exact absurd c8 q0 | exact absurd q0 c8) (fun _ => rfl)
theorem sg_X8_bornOf {d : Nat} {M : am_M} {Q : Option Int → am_M → Prop} {n : Int} (h : AW (d + 1) mX8_bornOf 2 [(0, .inr 62), (1, .inl n), (2, .inl 0)] [] M Q) : AC (d + 1) mX8_bornOf [.inr 62, .inl n] M Q := by
  refine aw_body (by decide) (Nat.le_of_ble_eq_true rfl) rfl ?_
  refine aw_iconst dX8_bornOf_0 ?_
  refine aw_istore_n (L' := [(0, .inr 62), (1, .inl n), (2, .inl 0)]) dX8_bornOf_1 rfl (Nat.le_of_ble_eq_true rfl) rfl ?_
  exact h
theorem sg_X8_bornOf_2 {d : Nat} {M : am_M} {Q : Option Int → am_M → Prop} {n f : Int} (h : AC (d) mX8_peakOf [.inr 62, .inl n, .inl f] M (fun r M1 => ∃ z2, r = some z2 ∧
 (am_r z2) ∧
 ((z2 ≠ (-9) →
 Q (some f) M1) ∧
 (z2 = (-9) →
 AW (d + 1) mX8_bornOf 2 [(0, .inr 62), (1, .inl n), (2, .inl (f + 1))] [] M1 Q)))) : AW (d + 1) mX8_bornOf 2 [(0, .inr 62), (1, .inl n), (2, .inl f)] [] M Q := by
  refine aw_aload_n dX8_bornOf_2 rfl (j := 0) rfl ?_
  refine aw_iload_n dX8_bornOf_3 rfl (j := 1) rfl ?_
  refine aw_iload_n dX8_bornOf_4 rfl (j := 2) rfl ?_
  refine aw_invv (d' := d) (as := [.inl n, .inl f]) (rest := []) dX8_bornOf_5 cv_X8_155 (Nat.lt_succ_self _) rfl rfl rfl rfl rfl (Nat.le_of_ble_eq_true rfl) (AC.mono ?_ h)
  intro r M1 h
  obtain ⟨z2, rfl, h⟩ := h
  show AW (d + 1) mX8_bornOf 8 [(0, .inr 62), (1, .inl n), (2, .inl f)] [.inl z2] M1 Q
  refine aw_bipush dX8_bornOf_8 (by decide) ?_
  obtain ⟨s3, h⟩ := h
  refine aw_icmp_ne dX8_bornOf_10 (tgt := 19) rfl s3 (by decide) (fun c4 => ?_) (fun c4 => ?_)
  · replace h := h.1 c4
    refine aw_iload_n dX8_bornOf_19 rfl (j := 2) rfl ?_
    exact aw_iret dX8_bornOf_20 rfl h
  · replace h := h.2 c4
    refine aw_iinc (L' := [(0, .inr 62), (1, .inl n), (2, .inl (f + 1))]) dX8_bornOf_13 (j := 2) rfl (Nat.le_of_ble_eq_true rfl) rfl ?_
    refine aw_goto dX8_bornOf_16 (tgt := 2) rfl ?_
    exact h
theorem sg_X8_longOf {d : Nat} {M : am_M} {Q : Option Int → am_M → Prop} {n : Int} (h : AW (d + 1) mX8_longOf 4 [(0, .inr 62), (1, .inl n), (2, .inl 0), (3, .inl 0)] [] M Q) : AC (d + 1) mX8_longOf [.inr 62, .inl n] M Q := by
  refine aw_body (by decide) (Nat.le_of_ble_eq_true rfl) rfl ?_
  refine aw_iconst dX8_longOf_0 ?_
  refine aw_istore_n (L' := [(0, .inr 62), (1, .inl n), (2, .inl 0)]) dX8_longOf_1 rfl (Nat.le_of_ble_eq_true rfl) rfl ?_
  refine aw_iconst dX8_longOf_2 ?_
  refine aw_istore_n (L' := [(0, .inr 62), (1, .inl n), (2, .inl 0), (3, .inl 0)]) dX8_longOf_3 rfl (Nat.le_of_ble_eq_true rfl) rfl ?_
  exact h
theorem sg_X8_longOf_4 {d : Nat} {M : am_M} {Q : Option Int → am_M → Prop} {n mn f : Int} (h : (am_r f) ∧
 (am_r (M 63 0)) ∧
 ((M 63 0 ≤ f →
 Q (some mn) M) ∧
 (f < M 63 0 →
 AC (d) mX8_peakOf [.inr 62, .inl n, .inl f] M (fun r M4 => ∃ z5, r = some z5 ∧
 ((am_r z5)) ∧
 AW (d + 1) mX8_longOf 4 [(0, .inr 62), (1, .inl n), (2, .inl (mn + (am_b ((z5 ≠ (-9)))))), (3, .inl (f + 1))] [] M4 Q)))) : AW (d + 1) mX8_longOf 4 [(0, .inr 62), (1, .inl n), (2, .inl mn), (3, .inl f)] [] M Q := by
  refine aw_iload_n dX8_longOf_4 rfl (j := 3) rfl ?_
  refine aw_aload_n dX8_longOf_5 rfl (j := 0) rfl ?_
  refine aw_getr dX8_longOf_6 fl_X8_7 rfl rfl ?_
  refine aw_iconst dX8_longOf_9 ?_
  refine aw_iaload dX8_longOf_10 rfl (by decide) ?_
  obtain ⟨s1, h⟩ := h
  obtain ⟨s2, h⟩ := h
  refine aw_icmp_ge dX8_longOf_11 (tgt := 39) rfl s1 s2 (fun c3 => ?_) (fun c3 => ?_)
  · replace h := h.1 c3
    refine aw_iload_n dX8_longOf_39 rfl (j := 2) rfl ?_
    exact aw_iret dX8_longOf_40 rfl h
  · replace h := h.2 c3
    refine aw_iload_n dX8_longOf_14 rfl (j := 2) rfl ?_
    refine aw_aload_n dX8_longOf_15 rfl (j := 0) rfl ?_
    refine aw_iload_n dX8_longOf_16 rfl (j := 1) rfl ?_
    refine aw_iload_n dX8_longOf_17 rfl (j := 3) rfl ?_
    refine aw_invv (d' := d) (as := [.inl n, .inl f]) (rest := [.inl mn]) dX8_longOf_18 cv_X8_155 (Nat.lt_succ_self _) rfl rfl rfl rfl rfl (Nat.le_of_ble_eq_true rfl) (AC.mono ?_ h)
    intro r M4 h
    obtain ⟨z5, rfl, h⟩ := h
    show AW (d + 1) mX8_longOf 21 [(0, .inr 62), (1, .inl n), (2, .inl mn), (3, .inl f)] [.inl z5, .inl mn] M4 Q
    refine aw_bipush dX8_longOf_21 (by decide) ?_
    obtain ⟨g, h⟩ := h
    have K : AW (d + 1) mX8_longOf 31 [(0, .inr 62), (1, .inl n), (2, .inl mn), (3, .inl f)] [.inl (am_b ((z5 ≠ (-9)))), .inl mn] M4 Q := by
      refine aw_iadd dX8_longOf_31 ?_
      refine aw_istore_n (L' := [(0, .inr 62), (1, .inl n), (2, .inl (mn + (am_b ((z5 ≠ (-9)))))), (3, .inl f)]) dX8_longOf_32 rfl (Nat.le_of_ble_eq_true rfl) rfl ?_
      refine aw_iinc (L' := [(0, .inr 62), (1, .inl n), (2, .inl (mn + (am_b ((z5 ≠ (-9)))))), (3, .inl (f + 1))]) dX8_longOf_33 (j := 3) rfl (Nat.le_of_ble_eq_true rfl) rfl ?_
      refine aw_goto dX8_longOf_36 (tgt := 4) rfl ?_
      exact h
    clear h
    have s6 := g
    refine aw_icmp_ne dX8_longOf_23 (tgt := 30) rfl s6 (by decide) (fun c7 => ?_) (fun c7 => ?_)
    · have c7 : z5 ≠ (-9) := c7
      refine aw_iconst dX8_longOf_30 ?_
      have hp : (z5 ≠ (-9)) := by first | omega | simp_all
      have K1 := K
      rw [am_b_pos hp] at K1
      exact K1
    · have c7 : z5 = (-9) := c7
      refine aw_iconst dX8_longOf_26 ?_
      refine aw_goto dX8_longOf_27 (tgt := 31) rfl ?_
      have hp : ¬ ((z5 ≠ (-9))) := by first | omega | simp_all
      have K1 := K
      rw [am_b_neg hp] at K1
      exact K1
theorem sg_X8_depthOf {d : Nat} {M : am_M} {Q : Option Int → am_M → Prop} {n : Int} (h : AW (d + 3) mX8_depthOf 11 [(0, .inr 62), (1, .inl n), (2, .inl 1000), (3, .inl (-1000)), (4, .inl 0)] [] M Q) : AC (d + 3) mX8_depthOf [.inr 62, .inl n] M Q := by
  refine aw_body (by decide) (Nat.le_of_ble_eq_true rfl) rfl ?_
  refine aw_sipush dX8_depthOf_0 (by decide) ?_
  refine aw_istore_n (L' := [(0, .inr 62), (1, .inl n), (2, .inl 1000)]) dX8_depthOf_3 rfl (Nat.le_of_ble_eq_true rfl) rfl ?_
  refine aw_sipush dX8_depthOf_4 (by decide) ?_
  refine aw_istore_n (L' := [(0, .inr 62), (1, .inl n), (2, .inl 1000), (3, .inl (-1000))]) dX8_depthOf_7 rfl (Nat.le_of_ble_eq_true rfl) rfl ?_
  refine aw_iconst dX8_depthOf_8 ?_
  refine aw_istore (L' := [(0, .inr 62), (1, .inl n), (2, .inl 1000), (3, .inl (-1000)), (4, .inl 0)]) dX8_depthOf_9 (Nat.le_of_ble_eq_true rfl) rfl ?_
  exact h
theorem sg_X8_depthOf_11 {d : Nat} {M : am_M} {Q : Option Int → am_M → Prop} {n le mo f : Int} (h : (am_r f) ∧
 (am_r (M 63 0)) ∧
 ((M 63 0 ≤ f →
 Q (some (mo - le)) M) ∧
 (f < M 63 0 →
 AC (d + 2) mX8_peakOf [.inr 62, .inl n, .inl f] M (fun r M4 => ∃ z5, r = some z5 ∧
 (am_r z5) ∧
 ((z5 = (-9) →
 AW (d + 3) mX8_depthOf 11 [(0, .inr 62), (1, .inl n), (2, .inl le), (3, .inl mo), (4, .inl (f + 1))] [] M4 Q) ∧
 (z5 ≠ (-9) →
 (am_ptok (M4 63) (M4 71) f z5) ∧
 (((am_r (am_pt (M4 63) (M4 71) f z5)) ∧ (am_r le))) ∧
 ∀ (v12 : Int), (le ≤ am_pt (M4 63) (M4 71) f z5 → v12 = le) →
 (am_pt (M4 63) (M4 71) f z5 < le → v12 = am_pt (M4 63) (M4 71) f z5) →
 (((am_r (am_pt (M4 63) (M4 71) f z5)) ∧ (am_r mo))) ∧
 ∀ (v16 : Int), (am_pt (M4 63) (M4 71) f z5 ≤ mo → v16 = mo) →
 (mo < am_pt (M4 63) (M4 71) f z5 → v16 = am_pt (M4 63) (M4 71) f z5) →
 AW (d + 3) mX8_depthOf 11 [(0, .inr 62), (1, .inl n), (2, .inl v12), (3, .inl v16), (4, .inl (f + 1))] [] M4 Q)))))) : AW (d + 3) mX8_depthOf 11 [(0, .inr 62), (1, .inl n), (2, .inl le), (3, .inl mo), (4, .inl f)] [] M Q := by
  refine aw_iload dX8_depthOf_11 (j := 4) rfl ?_
  refine aw_aload_n dX8_depthOf_13 rfl (j := 0) rfl ?_
  refine aw_getr dX8_depthOf_14 fl_X8_7 rfl rfl ?_
  refine aw_iconst dX8_depthOf_17 ?_
  refine aw_iaload dX8_depthOf_18 rfl (by decide) ?_
  obtain ⟨s1, h⟩ := h
  obtain ⟨s2, h⟩ := h
  refine aw_icmp_ge dX8_depthOf_19 (tgt := 80) rfl s1 s2 (fun c3 => ?_) (fun c3 => ?_)
  · replace h := h.1 c3
    refine aw_iload_n dX8_depthOf_80 rfl (j := 3) rfl ?_
    refine aw_iload_n dX8_depthOf_81 rfl (j := 2) rfl ?_
    refine aw_isub dX8_depthOf_82 ?_
    exact aw_iret dX8_depthOf_83 rfl h
  · replace h := h.2 c3
    refine aw_aload_n dX8_depthOf_22 rfl (j := 0) rfl ?_
    refine aw_iload_n dX8_depthOf_23 rfl (j := 1) rfl ?_
    refine aw_iload dX8_depthOf_24 (j := 4) rfl ?_
    refine aw_invv (d' := d + 2) (as := [.inl n, .inl f]) (rest := []) dX8_depthOf_26 cv_X8_155 (Nat.lt_succ_self _) rfl rfl rfl rfl rfl (Nat.le_of_ble_eq_true rfl) (AC.mono ?_ h)
    intro r M4 h
    obtain ⟨z5, rfl, h⟩ := h
    show AW (d + 3) mX8_depthOf 29 [(0, .inr 62), (1, .inl n), (2, .inl le), (3, .inl mo), (4, .inl f)] [.inl z5] M4 Q
    refine aw_istore (L' := [(0, .inr 62), (1, .inl n), (2, .inl le), (3, .inl mo), (4, .inl f), (5, .inl z5)]) dX8_depthOf_29 (Nat.le_of_ble_eq_true rfl) rfl ?_
    refine aw_iload dX8_depthOf_31 (j := 5) rfl ?_
    refine aw_bipush dX8_depthOf_33 (by decide) ?_
    obtain ⟨s6, h⟩ := h
    refine aw_icmp_eq dX8_depthOf_35 (tgt := 74) rfl s6 (by decide) (fun c7 => ?_) (fun c7 => ?_)
    · replace h := h.1 c7
      refine aw_iinc (L' := [(0, .inr 62), (1, .inl n), (2, .inl le), (3, .inl mo), (4, .inl (f + 1)), (5, .inl z5)]) dX8_depthOf_74 (j := 4) rfl (Nat.le_of_ble_eq_true rfl) rfl ?_
      refine aw_goto dX8_depthOf_77 (tgt := 11) rfl ?_
      exact aw_sub [0, 1, 2, 3, 4] rfl h
    · replace h := h.2 c7
      refine aw_aload_n dX8_depthOf_38 rfl (j := 0) rfl ?_
      refine aw_iload dX8_depthOf_39 (j := 4) rfl ?_
      refine aw_iload dX8_depthOf_41 (j := 5) rfl ?_
      obtain ⟨s8, h⟩ := h
      refine aw_invv (d' := d + 2) (as := [.inl f, .inl z5]) (rest := []) dX8_depthOf_43 cv_X8_121 (Nat.lt_succ_self _) rfl rfl rfl rfl rfl (Nat.le_of_ble_eq_true rfl) (fc_pitchOf s8 ?_)
      show AW (d + 3) mX8_depthOf 46 [(0, .inr 62), (1, .inl n), (2, .inl le), (3, .inl mo), (4, .inl f), (5, .inl z5)] [.inl (am_pt (M4 63) (M4 71) f z5)] M4 Q
      refine aw_istore (L' := [(0, .inr 62), (1, .inl n), (2, .inl le), (3, .inl mo), (4, .inl f), (5, .inl z5), (6, .inl (am_pt (M4 63) (M4 71) f z5))]) dX8_depthOf_46 (Nat.le_of_ble_eq_true rfl) rfl ?_
      refine aw_iload dX8_depthOf_48 (j := 6) rfl ?_
      refine aw_iload_n dX8_depthOf_50 rfl (j := 2) rfl ?_
      obtain ⟨g, h⟩ := h
      have K : ∀ (v12 : Int), (le ≤ am_pt (M4 63) (M4 71) f z5 → v12 = le) → (am_pt (M4 63) (M4 71) f z5 < le → v12 = am_pt (M4 63) (M4 71) f z5) → AW (d + 3) mX8_depthOf 60 [(0, .inr 62), (1, .inl n), (2, .inl le), (3, .inl mo), (4, .inl f), (5, .inl z5), (6, .inl (am_pt (M4 63) (M4 71) f z5))] [.inl v12] M4 Q := by
        intro v12 q19 q20
        replace h := h v12 q19 q20
        refine aw_istore_n (L' := [(0, .inr 62), (1, .inl n), (2, .inl v12), (3, .inl mo), (4, .inl f), (5, .inl z5), (6, .inl (am_pt (M4 63) (M4 71) f z5))]) dX8_depthOf_60 rfl (Nat.le_of_ble_eq_true rfl) rfl ?_
        refine aw_iload dX8_depthOf_61 (j := 6) rfl ?_
        refine aw_iload_n dX8_depthOf_63 rfl (j := 3) rfl ?_
        obtain ⟨g, h⟩ := h
        have K : ∀ (v16 : Int), (am_pt (M4 63) (M4 71) f z5 ≤ mo → v16 = mo) → (mo < am_pt (M4 63) (M4 71) f z5 → v16 = am_pt (M4 63) (M4 71) f z5) → AW (d + 3) mX8_depthOf 73 [(0, .inr 62), (1, .inl n), (2, .inl v12), (3, .inl mo), (4, .inl f), (5, .inl z5), (6, .inl (am_pt (M4 63) (M4 71) f z5))] [.inl v16] M4 Q := by
          intro v16 q17 q18
          replace h := h v16 q17 q18
          refine aw_istore_n (L' := [(0, .inr 62), (1, .inl n), (2, .inl v12), (3, .inl v16), (4, .inl f), (5, .inl z5), (6, .inl (am_pt (M4 63) (M4 71) f z5))]) dX8_depthOf_73 rfl (Nat.le_of_ble_eq_true rfl) rfl ?_
          refine aw_iinc (L' := [(0, .inr 62), (1, .inl n), (2, .inl v12), (3, .inl v16), (4, .inl (f + 1)), (5, .inl z5), (6, .inl (am_pt (M4 63) (M4 71) f z5))]) dX8_depthOf_74 (j := 4) rfl (Nat.le_of_ble_eq_true rfl) rfl ?_
          refine aw_goto dX8_depthOf_77 (tgt := 11) rfl ?_
          exact aw_sub [0, 1, 2, 3, 4] rfl h
        clear h
        obtain ⟨s13, g⟩ := g
        have s14 := g
        refine aw_icmp_le dX8_depthOf_64 (tgt := 72) rfl s13 s14 (fun c15 => ?_) (fun c15 => ?_)
        · have c15 : am_pt (M4 63) (M4 71) f z5 ≤ mo := c15
          refine aw_iload_n dX8_depthOf_72 rfl (j := 3) rfl ?_
          exact K mo (fun _ => rfl) (fun q0 => by first | omega | exact absurd c15 q0 | exact absurd q0 c15)
        · have c15 : mo < am_pt (M4 63) (M4 71) f z5 := c15
          refine aw_iload dX8_depthOf_67 (j := 6) rfl ?_
          refine aw_goto dX8_depthOf_69 (tgt := 73) rfl ?_
          exact K (am_pt (M4 63) (M4 71) f z5) (fun q0 => by first | omega | exact absurd c15 q0 | exact absurd q0 c15) (fun _ => rfl)
      clear h
      obtain ⟨s9, g⟩ := g
      have s10 := g
      refine aw_icmp_ge dX8_depthOf_51 (tgt := 59) rfl s9 s10 (fun c11 => ?_) (fun c11 => ?_)
      · have c11 : le ≤ am_pt (M4 63) (M4 71) f z5 := c11
        refine aw_iload_n dX8_depthOf_59 rfl (j := 2) rfl ?_
        exact K le (fun _ => rfl) (fun q0 => by first | omega | exact absurd c11 q0 | exact absurd q0 c11)
      · have c11 : am_pt (M4 63) (M4 71) f z5 < le := c11
        refine aw_iload dX8_depthOf_54 (j := 6) rfl ?_
        refine aw_goto dX8_depthOf_56 (tgt := 60) rfl ?_
        exact K (am_pt (M4 63) (M4 71) f z5) (fun q0 => by first | omega | exact absurd c11 q0 | exact absurd q0 c11) (fun _ => rfl)
theorem sg_X8_laysSteps {d : Nat} {M : am_M} {Q : Option Int → am_M → Prop} {n : Int} (h : AC (d + 2) mX8_bornOf [.inr 62, .inl n] M (fun r M1 => ∃ z2, r = some z2 ∧
 AC (d + 2) mX8_longOf [.inr 62, .inl n] M1 (fun r M3 => ∃ z4, r = some z4 ∧
 AW (d + 3) mX8_laysSteps 32 [(0, .inr 62), (1, .inl n), (3, .inl ((z2 + z4) - 1)), (4, .inl 0), (5, .inl z2)] [] (am_up (am_up M3 62 21 0) 62 22 0) Q))) : AC (d + 3) mX8_laysSteps [.inr 62, .inl n] M Q := by
  refine aw_body (by decide) (Nat.le_of_ble_eq_true rfl) rfl ?_
  refine aw_aload_n dX8_laysSteps_0 rfl (j := 0) rfl ?_
  refine aw_iload_n dX8_laysSteps_1 rfl (j := 1) rfl ?_
  refine aw_invv (d' := d + 2) (as := [.inl n]) (rest := []) dX8_laysSteps_2 cv_X8_158 (Nat.lt_succ_self _) rfl rfl rfl rfl rfl (Nat.le_of_ble_eq_true rfl) (AC.mono ?_ h)
  intro r M1 h
  obtain ⟨z2, rfl, h⟩ := h
  show AW (d + 3) mX8_laysSteps 5 [(0, .inr 62), (1, .inl n)] [.inl z2] M1 Q
  refine aw_istore_n (L' := [(0, .inr 62), (1, .inl n), (2, .inl z2)]) dX8_laysSteps_5 rfl (Nat.le_of_ble_eq_true rfl) rfl ?_
  refine aw_iload_n dX8_laysSteps_6 rfl (j := 2) rfl ?_
  refine aw_aload_n dX8_laysSteps_7 rfl (j := 0) rfl ?_
  refine aw_iload_n dX8_laysSteps_8 rfl (j := 1) rfl ?_
  refine aw_invv (d' := d + 2) (as := [.inl n]) (rest := [.inl z2]) dX8_laysSteps_9 cv_X8_161 (Nat.lt_succ_self _) rfl rfl rfl rfl rfl (Nat.le_of_ble_eq_true rfl) (AC.mono ?_ h)
  intro r M3 h
  obtain ⟨z4, rfl, h⟩ := h
  show AW (d + 3) mX8_laysSteps 12 [(0, .inr 62), (1, .inl n), (2, .inl z2)] [.inl z4, .inl z2] M3 Q
  refine aw_iadd dX8_laysSteps_12 ?_
  refine aw_iconst dX8_laysSteps_13 ?_
  refine aw_isub dX8_laysSteps_14 ?_
  refine aw_istore_n (L' := [(0, .inr 62), (1, .inl n), (2, .inl z2), (3, .inl ((z2 + z4) - 1))]) dX8_laysSteps_15 rfl (Nat.le_of_ble_eq_true rfl) rfl ?_
  refine aw_iconst dX8_laysSteps_16 ?_
  refine aw_istore (L' := [(0, .inr 62), (1, .inl n), (2, .inl z2), (3, .inl ((z2 + z4) - 1)), (4, .inl 0)]) dX8_laysSteps_17 (Nat.le_of_ble_eq_true rfl) rfl ?_
  refine aw_aload_n dX8_laysSteps_19 rfl (j := 0) rfl ?_
  refine aw_iconst dX8_laysSteps_20 ?_
  refine aw_putf dX8_laysSteps_21 pf_X8_164 rfl rfl rfl ?_
  refine aw_aload_n dX8_laysSteps_24 rfl (j := 0) rfl ?_
  refine aw_iconst dX8_laysSteps_25 ?_
  refine aw_putf dX8_laysSteps_26 pf_X8_167 rfl rfl rfl ?_
  refine aw_iload_n dX8_laysSteps_29 rfl (j := 2) rfl ?_
  refine aw_istore (L' := [(0, .inr 62), (1, .inl n), (2, .inl z2), (3, .inl ((z2 + z4) - 1)), (4, .inl 0), (5, .inl z2)]) dX8_laysSteps_30 (Nat.le_of_ble_eq_true rfl) rfl ?_
  exact aw_sub [0, 1, 3, 4, 5] rfl h
theorem sg_X8_laysSteps_32 {d : Nat} {M : am_M} {Q : Option Int → am_M → Prop} {n la ah f : Int} (h : (am_r f) ∧
 (am_r la) ∧
 ((la ≤ f →
 Q none M) ∧
 (f < la →
 AC (d + 2) mX8_peakOf [.inr 62, .inl n, .inl (f + 1)] M (fun r M4 => ∃ z5, r = some z5 ∧
 (am_ptok (M4 63) (M4 71) (f + 1) z5) ∧
 AC (d + 2) mX8_peakOf [.inr 62, .inl n, .inl f] M4 (fun r M7 => ∃ z8, r = some z8 ∧
 (am_ptok (M7 63) (M7 71) f z8) ∧
 (am_r ((am_pt (M4 63) (M4 71) (f + 1) z5) - (am_pt (M7 63) (M7 71) f z8))) ∧
 (((am_pt (M4 63) (M4 71) (f + 1) z5) - (am_pt (M7 63) (M7 71) f z8) = 0 →
 AW (d + 3) mX8_laysSteps 32 [(0, .inr 62), (1, .inl n), (3, .inl la), (4, .inl ah), (5, .inl (f + 1))] [] M7 Q) ∧
 ((am_pt (M4 63) (M4 71) (f + 1) z5) - (am_pt (M7 63) (M7 71) f z8) ≠ 0 →
 ∀ (v13 : Int), ((am_pt (M4 63) (M4 71) (f + 1) z5) - (am_pt (M7 63) (M7 71) f z8) ≤ 0 → v13 = (-1)) →
 (0 < (am_pt (M4 63) (M4 71) (f + 1) z5) - (am_pt (M7 63) (M7 71) f z8) → v13 = 1) →
 ((am_r (v13 + ah))) ∧
 AW (d + 3) mX8_laysSteps 32 [(0, .inr 62), (1, .inl n), (3, .inl la), (4, .inl v13), (5, .inl (f + 1))] [] (am_up (am_up M7 62 22 ((M7 62 22) + (am_b ((v13 + ah = 0))))) 62 21 ((M7 62 21) + 1)) Q))))))) : AW (d + 3) mX8_laysSteps 32 [(0, .inr 62), (1, .inl n), (3, .inl la), (4, .inl ah), (5, .inl f)] [] M Q := by
  refine aw_iload dX8_laysSteps_32 (j := 4) rfl ?_
  refine aw_iload_n dX8_laysSteps_34 rfl (j := 2) rfl ?_
  obtain ⟨s1, h⟩ := h
  obtain ⟨s2, h⟩ := h
  refine aw_icmp_ge dX8_laysSteps_35 (tgt := 130) rfl s1 s2 (fun c3 => ?_) (fun c3 => ?_)
  · replace h := h.1 c3
    exact aw_vret dX8_laysSteps_130 rfl h
  · replace h := h.2 c3
    refine aw_aload_n dX8_laysSteps_38 rfl (j := 0) rfl ?_
    refine aw_iload dX8_laysSteps_39 (j := 4) rfl ?_
    refine aw_iconst dX8_laysSteps_41 ?_
    refine aw_iadd dX8_laysSteps_42 ?_
    refine aw_aload_n dX8_laysSteps_43 rfl (j := 0) rfl ?_
    refine aw_iload_n dX8_laysSteps_44 rfl (j := 1) rfl ?_
    refine aw_iload dX8_laysSteps_45 (j := 4) rfl ?_
    refine aw_iconst dX8_laysSteps_47 ?_
    refine aw_iadd dX8_laysSteps_48 ?_
    refine aw_invv (d' := d + 2) (as := [.inl n, .inl (f + 1)]) (rest := [.inl (f + 1), .inr 62]) dX8_laysSteps_49 cv_X8_155 (Nat.lt_succ_self _) rfl rfl rfl rfl rfl (Nat.le_of_ble_eq_true rfl) (AC.mono ?_ h)
    intro r M4 h
    obtain ⟨z5, rfl, h⟩ := h
    show AW (d + 3) mX8_laysSteps 52 [(0, .inr 62), (1, .inl n), (3, .inl la), (4, .inl ah), (5, .inl f)] [.inl z5, .inl (f + 1), .inr 62] M4 Q
    obtain ⟨s6, h⟩ := h
    refine aw_invv (d' := d + 2) (as := [.inl (f + 1), .inl z5]) (rest := []) dX8_laysSteps_52 cv_X8_121 (Nat.lt_succ_self _) rfl rfl rfl rfl rfl (Nat.le_of_ble_eq_true rfl) (fc_pitchOf s6 ?_)
    show AW (d + 3) mX8_laysSteps 55 [(0, .inr 62), (1, .inl n), (3, .inl la), (4, .inl ah), (5, .inl f)] [.inl (am_pt (M4 63) (M4 71) (f + 1) z5)] M4 Q
    refine aw_aload_n dX8_laysSteps_55 rfl (j := 0) rfl ?_
    refine aw_iload dX8_laysSteps_56 (j := 4) rfl ?_
    refine aw_aload_n dX8_laysSteps_58 rfl (j := 0) rfl ?_
    refine aw_iload_n dX8_laysSteps_59 rfl (j := 1) rfl ?_
    refine aw_iload dX8_laysSteps_60 (j := 4) rfl ?_
    refine aw_invv (d' := d + 2) (as := [.inl n, .inl f]) (rest := [.inl f, .inr 62, .inl (am_pt (M4 63) (M4 71) (f + 1) z5)]) dX8_laysSteps_62 cv_X8_155 (Nat.lt_succ_self _) rfl rfl rfl rfl rfl (Nat.le_of_ble_eq_true rfl) (AC.mono ?_ h)
    intro r M7 h
    obtain ⟨z8, rfl, h⟩ := h
    show AW (d + 3) mX8_laysSteps 65 [(0, .inr 62), (1, .inl n), (3, .inl la), (4, .inl ah), (5, .inl f)] [.inl z8, .inl f, .inr 62, .inl (am_pt (M4 63) (M4 71) (f + 1) z5)] M7 Q
    obtain ⟨s9, h⟩ := h
    refine aw_invv (d' := d + 2) (as := [.inl f, .inl z8]) (rest := [.inl (am_pt (M4 63) (M4 71) (f + 1) z5)]) dX8_laysSteps_65 cv_X8_121 (Nat.lt_succ_self _) rfl rfl rfl rfl rfl (Nat.le_of_ble_eq_true rfl) (fc_pitchOf s9 ?_)
    show AW (d + 3) mX8_laysSteps 68 [(0, .inr 62), (1, .inl n), (3, .inl la), (4, .inl ah), (5, .inl f)] [.inl (am_pt (M7 63) (M7 71) f z8), .inl (am_pt (M4 63) (M4 71) (f + 1) z5)] M7 Q
    refine aw_isub dX8_laysSteps_68 ?_
    refine aw_istore (L' := [(0, .inr 62), (1, .inl n), (3, .inl la), (4, .inl ah), (5, .inl f), (6, .inl ((am_pt (M4 63) (M4 71) (f + 1) z5) - (am_pt (M7 63) (M7 71) f z8)))]) dX8_laysSteps_69 (Nat.le_of_ble_eq_true rfl) rfl ?_
    refine aw_iload dX8_laysSteps_71 (j := 5) rfl ?_
    obtain ⟨s10, h⟩ := h
    refine aw_if_eq dX8_laysSteps_73 (tgt := 124) rfl s10 (fun c11 => ?_) (fun c11 => ?_)
    · replace h := h.1 c11
      refine aw_iinc (L' := [(0, .inr 62), (1, .inl n), (3, .inl la), (4, .inl ah), (5, .inl (f + 1)), (6, .inl ((am_pt (M4 63) (M4 71) (f + 1) z5) - (am_pt (M7 63) (M7 71) f z8)))]) dX8_laysSteps_124 (j := 4) rfl (Nat.le_of_ble_eq_true rfl) rfl ?_
      refine aw_goto dX8_laysSteps_127 (tgt := 32) rfl ?_
      exact aw_sub [0, 1, 2, 3, 4] rfl h
    · replace h := h.2 c11
      refine aw_iload dX8_laysSteps_76 (j := 5) rfl ?_
      have K : ∀ (v13 : Int), ((am_pt (M4 63) (M4 71) (f + 1) z5) - (am_pt (M7 63) (M7 71) f z8) ≤ 0 → v13 = (-1)) → (0 < (am_pt (M4 63) (M4 71) (f + 1) z5) - (am_pt (M7 63) (M7 71) f z8) → v13 = 1) → AW (d + 3) mX8_laysSteps 86 [(0, .inr 62), (1, .inl n), (3, .inl la), (4, .inl ah), (5, .inl f), (6, .inl ((am_pt (M4 63) (M4 71) (f + 1) z5) - (am_pt (M7 63) (M7 71) f z8)))] [.inl v13] M7 Q := by
        intro v13 q16 q17
        replace h := h v13 q16 q17
        refine aw_istore (L' := [(0, .inr 62), (1, .inl n), (3, .inl la), (4, .inl ah), (5, .inl f), (6, .inl ((am_pt (M4 63) (M4 71) (f + 1) z5) - (am_pt (M7 63) (M7 71) f z8))), (7, .inl v13)]) dX8_laysSteps_86 (Nat.le_of_ble_eq_true rfl) rfl ?_
        refine aw_aload_n dX8_laysSteps_88 rfl (j := 0) rfl ?_
        refine aw_dup dX8_laysSteps_89 ?_
        refine aw_getf dX8_laysSteps_90 fl_X8_167 rfl rfl rfl ?_
        refine aw_iload dX8_laysSteps_93 (j := 6) rfl ?_
        refine aw_iload dX8_laysSteps_95 (j := 3) rfl ?_
        refine aw_iadd dX8_laysSteps_97 ?_
        obtain ⟨g, h⟩ := h
        have K : AW (d + 3) mX8_laysSteps 106 [(0, .inr 62), (1, .inl n), (3, .inl la), (4, .inl ah), (5, .inl f), (6, .inl ((am_pt (M4 63) (M4 71) (f + 1) z5) - (am_pt (M7 63) (M7 71) f z8))), (7, .inl v13)] [.inl (am_b ((v13 + ah = 0))), .inl (M7 62 22), .inr 62] M7 Q := by
          refine aw_iadd dX8_laysSteps_106 ?_
          refine aw_putf dX8_laysSteps_107 pf_X8_167 rfl rfl rfl ?_
          refine aw_aload_n dX8_laysSteps_110 rfl (j := 0) rfl ?_
          refine aw_dup dX8_laysSteps_111 ?_
          refine aw_getf dX8_laysSteps_112 fl_X8_164 rfl rfl rfl ?_
          refine aw_iconst dX8_laysSteps_115 ?_
          refine aw_iadd dX8_laysSteps_116 ?_
          refine aw_putf dX8_laysSteps_117 pf_X8_164 rfl rfl rfl ?_
          refine aw_iload dX8_laysSteps_120 (j := 6) rfl ?_
          refine aw_istore (L' := [(0, .inr 62), (1, .inl n), (3, .inl la), (4, .inl v13), (5, .inl f), (6, .inl ((am_pt (M4 63) (M4 71) (f + 1) z5) - (am_pt (M7 63) (M7 71) f z8))), (7, .inl v13)]) dX8_laysSteps_122 (Nat.le_of_ble_eq_true rfl) rfl ?_
          refine aw_iinc (L' := [(0, .inr 62), (1, .inl n), (3, .inl la), (4, .inl v13), (5, .inl (f + 1)), (6, .inl ((am_pt (M4 63) (M4 71) (f + 1) z5) - (am_pt (M7 63) (M7 71) f z8))), (7, .inl v13)]) dX8_laysSteps_124 (j := 4) rfl (Nat.le_of_ble_eq_true rfl) rfl ?_
          refine aw_goto dX8_laysSteps_127 (tgt := 32) rfl ?_
          exact aw_sub [0, 1, 2, 3, 4] rfl h
        clear h
        have s14 := g
        refine aw_if_ne dX8_laysSteps_98 (tgt := 105) rfl s14 (fun c15 => ?_) (fun c15 => ?_)
        · have c15 : v13 + ah ≠ 0 := c15
          refine aw_iconst dX8_laysSteps_105 ?_
          have hp : ¬ ((v13 + ah = 0)) := by first | omega | simp_all
          have K1 := K
          rw [am_b_neg hp] at K1
          exact K1
        · have c15 : v13 + ah = 0 := c15
          refine aw_iconst dX8_laysSteps_101 ?_
          refine aw_goto dX8_laysSteps_102 (tgt := 106) rfl ?_
          have hp : (v13 + ah = 0) := by first | omega | simp_all
          have K1 := K
          rw [am_b_pos hp] at K1
          exact K1
      clear h
      refine aw_if_le dX8_laysSteps_78 (tgt := 85) rfl s10 (fun c12 => ?_) (fun c12 => ?_)
      · have c12 : (am_pt (M4 63) (M4 71) (f + 1) z5) - (am_pt (M7 63) (M7 71) f z8) ≤ 0 := c12
        refine aw_iconst dX8_laysSteps_85 ?_
        exact K (-1) (fun _ => rfl) (fun q0 => by first | omega | exact absurd c12 q0 | exact absurd q0 c12)
      · have c12 : 0 < (am_pt (M4 63) (M4 71) (f + 1) z5) - (am_pt (M7 63) (M7 71) f z8) := c12
        refine aw_iconst dX8_laysSteps_81 ?_
        refine aw_goto dX8_laysSteps_82 (tgt := 86) rfl ?_
        exact K 1 (fun q0 => by first | omega | exact absurd c12 q0 | exact absurd q0 c12) (fun _ => rfl)
theorem sg_X8_turnsOf {d : Nat} {M : am_M} {Q : Option Int → am_M → Prop} {n : Int} (h : AC (d + 3) mX8_laysSteps [.inr 62, .inl n] M (fun r M1 => r = none ∧
 Q (some (M1 62 22)) M1)) : AC (d + 4) mX8_turnsOf [.inr 62, .inl n] M Q := by
  refine aw_body (by decide) (Nat.le_of_ble_eq_true rfl) rfl ?_
  refine aw_aload_n dX8_turnsOf_0 rfl (j := 0) rfl ?_
  refine aw_iload_n dX8_turnsOf_1 rfl (j := 1) rfl ?_
  refine aw_invv (d' := d + 3) (as := [.inl n]) (rest := []) dX8_turnsOf_2 cv_X8_170 (Nat.lt_succ_self _) rfl rfl rfl rfl rfl (Nat.le_of_ble_eq_true rfl) (AC.mono ?_ h)
  intro r M1 h
  obtain ⟨rfl, h⟩ := h
  show AW (d + 4) mX8_turnsOf 5 [(0, .inr 62), (1, .inl n)] [] M1 Q
  refine aw_aload_n dX8_turnsOf_5 rfl (j := 0) rfl ?_
  refine aw_getf dX8_turnsOf_6 fl_X8_167 rfl rfl rfl ?_
  exact aw_iret dX8_turnsOf_9 rfl h
theorem sg_X8_kindOf {d : Nat} {M : am_M} {Q : Option Int → am_M → Prop} {n : Int} (h : AC (d + 3) mX8_depthOf [.inr 62, .inl n] M (fun r M1 => ∃ z2, r = some z2 ∧
 (am_r z2) ∧
 ((1 < z2 →
 AC (d + 3) mX8_laysSteps [.inr 62, .inl n] M1 (fun r M5 => r = none ∧
 (((am_r (M5 62 22)) ∧ (M5 62 22 ≠ 0 → ((am_r (2 * (M5 62 22))) ∧ (am_r (M5 62 21)))))) ∧
 ∀ (v11 : Int), (M5 62 22 ≠ 0 → 2 * (M5 62 22) < M5 62 21 → v11 = 3) →
 (M5 62 22 ≠ 0 → M5 62 21 ≤ 2 * (M5 62 22) → v11 = 2) →
 (M5 62 22 = 0 → v11 = 1) →
 Q (some v11) M5)) ∧
 (z2 ≤ 1 →
 Q (some 0) M1)))) : AC (d + 4) mX8_kindOf [.inr 62, .inl n] M Q := by
  refine aw_body (by decide) (Nat.le_of_ble_eq_true rfl) rfl ?_
  refine aw_aload_n dX8_kindOf_0 rfl (j := 0) rfl ?_
  refine aw_iload_n dX8_kindOf_1 rfl (j := 1) rfl ?_
  refine aw_invv (d' := d + 3) (as := [.inl n]) (rest := []) dX8_kindOf_2 cv_X8_173 (Nat.lt_succ_self _) rfl rfl rfl rfl rfl (Nat.le_of_ble_eq_true rfl) (AC.mono ?_ h)
  intro r M1 h
  obtain ⟨z2, rfl, h⟩ := h
  show AW (d + 4) mX8_kindOf 5 [(0, .inr 62), (1, .inl n)] [.inl z2] M1 Q
  refine aw_iconst dX8_kindOf_5 ?_
  obtain ⟨s3, h⟩ := h
  refine aw_icmp_gt dX8_kindOf_6 (tgt := 11) rfl s3 (by decide) (fun c4 => ?_) (fun c4 => ?_)
  · replace h := h.1 c4
    refine aw_aload_n dX8_kindOf_11 rfl (j := 0) rfl ?_
    refine aw_iload_n dX8_kindOf_12 rfl (j := 1) rfl ?_
    refine aw_invv (d' := d + 3) (as := [.inl n]) (rest := []) dX8_kindOf_13 cv_X8_170 (Nat.lt_succ_self _) rfl rfl rfl rfl rfl (Nat.le_of_ble_eq_true rfl) (AC.mono ?_ h)
    intro r M5 h
    obtain ⟨rfl, h⟩ := h
    show AW (d + 4) mX8_kindOf 16 [(0, .inr 62), (1, .inl n)] [] M5 Q
    refine aw_aload_n dX8_kindOf_16 rfl (j := 0) rfl ?_
    refine aw_getf dX8_kindOf_17 fl_X8_167 rfl rfl rfl ?_
    obtain ⟨g, h⟩ := h
    have K : ∀ (v11 : Int), (M5 62 22 ≠ 0 → 2 * (M5 62 22) < M5 62 21 → v11 = 3) → (M5 62 22 ≠ 0 → M5 62 21 ≤ 2 * (M5 62 22) → v11 = 2) → (M5 62 22 = 0 → v11 = 1) → AW (d + 4) mX8_kindOf 45 [(0, .inr 62), (1, .inl n)] [.inl v11] M5 Q := by
      intro v11 q12 q13 q14
      replace h := h v11 q12 q13 q14
      exact aw_iret dX8_kindOf_45 rfl h
    clear h
    obtain ⟨s6, g⟩ := g
    refine aw_if_ne dX8_kindOf_20 (tgt := 27) rfl s6 (fun c7 => ?_) (fun c7 => ?_)
    · have c7 : M5 62 22 ≠ 0 := c7
      replace g := g c7
      refine aw_iconst dX8_kindOf_27 ?_
      refine aw_aload_n dX8_kindOf_28 rfl (j := 0) rfl ?_
      refine aw_getf dX8_kindOf_29 fl_X8_167 rfl rfl rfl ?_
      refine aw_imul dX8_kindOf_32 ?_
      refine aw_aload_n dX8_kindOf_33 rfl (j := 0) rfl ?_
      refine aw_getf dX8_kindOf_34 fl_X8_164 rfl rfl rfl ?_
      obtain ⟨s8, g⟩ := g
      have s9 := g
      refine aw_icmp_lt dX8_kindOf_37 (tgt := 44) rfl s8 s9 (fun c10 => ?_) (fun c10 => ?_)
      · have c10 : 2 * (M5 62 22) < M5 62 21 := c10
        refine aw_iconst dX8_kindOf_44 ?_
        exact K 3 (fun _ _ => rfl) (fun q0 q1 => by first | omega | exact absurd c10 q1 | exact absurd q1 c10) (fun q0 => by first | omega | exact absurd c7 q0 | exact absurd q0 c7)
      · have c10 : M5 62 21 ≤ 2 * (M5 62 22) := c10
        refine aw_iconst dX8_kindOf_40 ?_
        refine aw_goto dX8_kindOf_41 (tgt := 45) rfl ?_
        exact K 2 (fun q0 q1 => by first | omega | exact absurd c10 q1 | exact absurd q1 c10) (fun _ _ => rfl) (fun q0 => by first | omega | exact absurd c7 q0 | exact absurd q0 c7)
    · have c7 : M5 62 22 = 0 := c7
      refine aw_iconst dX8_kindOf_23 ?_
      refine aw_goto dX8_kindOf_24 (tgt := 45) rfl ?_
      exact K 1 (fun q0 q1 => by first | omega | exact absurd c7 q0 | exact absurd q0 c7) (fun q0 q1 => by first | omega | exact absurd c7 q0 | exact absurd q0 c7) (fun _ => rfl)
  · replace h := h.2 c4
    refine aw_iconst dX8_kindOf_9 ?_
    exact aw_iret dX8_kindOf_10 rfl h
theorem sg_X8_worthOfTrack {d : Nat} {M : am_M} {Q : Option Int → am_M → Prop} {n : Int} (h : AW (d + 5) mX8_worthOfTrack 4 [(0, .inr 62), (1, .inl n), (2, .inl 0), (3, .inl 0)] [] M Q) : AC (d + 5) mX8_worthOfTrack [.inr 62, .inl n] M Q := by
  refine aw_body (by decide) (Nat.le_of_ble_eq_true rfl) rfl ?_
  refine aw_iconst dX8_worthOfTrack_0 ?_
  refine aw_istore_n (L' := [(0, .inr 62), (1, .inl n), (2, .inl 0)]) dX8_worthOfTrack_1 rfl (Nat.le_of_ble_eq_true rfl) rfl ?_
  refine aw_iconst dX8_worthOfTrack_2 ?_
  refine aw_istore_n (L' := [(0, .inr 62), (1, .inl n), (2, .inl 0), (3, .inl 0)]) dX8_worthOfTrack_3 rfl (Nat.le_of_ble_eq_true rfl) rfl ?_
  exact h
theorem sg_X8_worthOfTrack_4 {d : Nat} {M : am_M} {Q : Option Int → am_M → Prop} {n sm f : Int} (h : (am_r f) ∧
 (am_r (M 63 0)) ∧
 ((M 63 0 ≤ f →
 AC (d + 4) mX8_kindOf [.inr 62, .inl n] M (fun r M4 => ∃ z5, r = some z5 ∧
 AC (d + 4) mX8_depthOf [.inr 62, .inl n] M4 (fun r M6 => ∃ z7, r = some z7 ∧
 Q (some ((sm * (z5 + 1)) - z7)) M6))) ∧
 (f < M 63 0 →
 AC (d + 4) mX8_peakOf [.inr 62, .inl n, .inl f] M (fun r M8 => ∃ z9, r = some z9 ∧
 (((am_r z9) ∧ (z9 ≠ (-9) → (am_look (M8 63) (M8 71) f z9)))) ∧
 ∀ (v13 : Int), (z9 ≠ (-9) → v13 = am_lo2 (M8 63) (M8 71) f z9) →
 (z9 = (-9) → v13 = 0) →
 AW (d + 5) mX8_worthOfTrack 4 [(0, .inr 62), (1, .inl n), (2, .inl (sm + v13)), (3, .inl (f + 1))] [] M8 Q)))) : AW (d + 5) mX8_worthOfTrack 4 [(0, .inr 62), (1, .inl n), (2, .inl sm), (3, .inl f)] [] M Q := by
  refine aw_iload_n dX8_worthOfTrack_4 rfl (j := 3) rfl ?_
  refine aw_aload_n dX8_worthOfTrack_5 rfl (j := 0) rfl ?_
  refine aw_getr dX8_worthOfTrack_6 fl_X8_7 rfl rfl ?_
  refine aw_iconst dX8_worthOfTrack_9 ?_
  refine aw_iaload dX8_worthOfTrack_10 rfl (by decide) ?_
  obtain ⟨s1, h⟩ := h
  obtain ⟨s2, h⟩ := h
  refine aw_icmp_ge dX8_worthOfTrack_11 (tgt := 49) rfl s1 s2 (fun c3 => ?_) (fun c3 => ?_)
  · replace h := h.1 c3
    refine aw_iload_n dX8_worthOfTrack_49 rfl (j := 2) rfl ?_
    refine aw_aload_n dX8_worthOfTrack_50 rfl (j := 0) rfl ?_
    refine aw_iload_n dX8_worthOfTrack_51 rfl (j := 1) rfl ?_
    refine aw_invv (d' := d + 4) (as := [.inl n]) (rest := [.inl sm]) dX8_worthOfTrack_52 cv_X8_179 (Nat.lt_succ_self _) rfl rfl rfl rfl rfl (Nat.le_of_ble_eq_true rfl) (AC.mono ?_ h)
    intro r M4 h
    obtain ⟨z5, rfl, h⟩ := h
    show AW (d + 5) mX8_worthOfTrack 55 [(0, .inr 62), (1, .inl n), (2, .inl sm), (3, .inl f)] [.inl z5, .inl sm] M4 Q
    refine aw_iconst dX8_worthOfTrack_55 ?_
    refine aw_iadd dX8_worthOfTrack_56 ?_
    refine aw_imul dX8_worthOfTrack_57 ?_
    refine aw_aload_n dX8_worthOfTrack_58 rfl (j := 0) rfl ?_
    refine aw_iload_n dX8_worthOfTrack_59 rfl (j := 1) rfl ?_
    refine aw_invv (d' := d + 4) (as := [.inl n]) (rest := [.inl (sm * (z5 + 1))]) dX8_worthOfTrack_60 cv_X8_173 (Nat.lt_succ_self _) rfl rfl rfl rfl rfl (Nat.le_of_ble_eq_true rfl) (AC.mono ?_ h)
    intro r M6 h
    obtain ⟨z7, rfl, h⟩ := h
    show AW (d + 5) mX8_worthOfTrack 63 [(0, .inr 62), (1, .inl n), (2, .inl sm), (3, .inl f)] [.inl z7, .inl (sm * (z5 + 1))] M6 Q
    refine aw_isub dX8_worthOfTrack_63 ?_
    exact aw_iret dX8_worthOfTrack_64 rfl h
  · replace h := h.2 c3
    refine aw_aload_n dX8_worthOfTrack_14 rfl (j := 0) rfl ?_
    refine aw_iload_n dX8_worthOfTrack_15 rfl (j := 1) rfl ?_
    refine aw_iload_n dX8_worthOfTrack_16 rfl (j := 3) rfl ?_
    refine aw_invv (d' := d + 4) (as := [.inl n, .inl f]) (rest := []) dX8_worthOfTrack_17 cv_X8_155 (Nat.lt_succ_self _) rfl rfl rfl rfl rfl (Nat.le_of_ble_eq_true rfl) (AC.mono ?_ h)
    intro r M8 h
    obtain ⟨z9, rfl, h⟩ := h
    show AW (d + 5) mX8_worthOfTrack 20 [(0, .inr 62), (1, .inl n), (2, .inl sm), (3, .inl f)] [.inl z9] M8 Q
    refine aw_istore (L' := [(0, .inr 62), (1, .inl n), (2, .inl sm), (3, .inl f), (4, .inl z9)]) dX8_worthOfTrack_20 (Nat.le_of_ble_eq_true rfl) rfl ?_
    refine aw_iload_n dX8_worthOfTrack_22 rfl (j := 2) rfl ?_
    refine aw_iload dX8_worthOfTrack_23 (j := 4) rfl ?_
    refine aw_bipush dX8_worthOfTrack_25 (by decide) ?_
    obtain ⟨g, h⟩ := h
    have K : ∀ (v13 : Int), (z9 ≠ (-9) → v13 = am_lo2 (M8 63) (M8 71) f z9) → (z9 = (-9) → v13 = 0) → AW (d + 5) mX8_worthOfTrack 41 [(0, .inr 62), (1, .inl n), (2, .inl sm), (3, .inl f), (4, .inl z9)] [.inl v13, .inl sm] M8 Q := by
      intro v13 q14 q15
      replace h := h v13 q14 q15
      refine aw_iadd dX8_worthOfTrack_41 ?_
      refine aw_istore_n (L' := [(0, .inr 62), (1, .inl n), (2, .inl (sm + v13)), (3, .inl f), (4, .inl z9)]) dX8_worthOfTrack_42 rfl (Nat.le_of_ble_eq_true rfl) rfl ?_
      refine aw_iinc (L' := [(0, .inr 62), (1, .inl n), (2, .inl (sm + v13)), (3, .inl (f + 1)), (4, .inl z9)]) dX8_worthOfTrack_43 (j := 3) rfl (Nat.le_of_ble_eq_true rfl) rfl ?_
      refine aw_goto dX8_worthOfTrack_46 (tgt := 4) rfl ?_
      exact aw_sub [0, 1, 2, 3] rfl h
    clear h
    obtain ⟨s10, g⟩ := g
    refine aw_icmp_ne dX8_worthOfTrack_27 (tgt := 34) rfl s10 (by decide) (fun c11 => ?_) (fun c11 => ?_)
    · have c11 : z9 ≠ (-9) := c11
      replace g := g c11
      refine aw_aload_n dX8_worthOfTrack_34 rfl (j := 0) rfl ?_
      refine aw_iload_n dX8_worthOfTrack_35 rfl (j := 3) rfl ?_
      refine aw_iload dX8_worthOfTrack_36 (j := 4) rfl ?_
      have s12 := g
      refine aw_invv (d' := d + 4) (as := [.inl f, .inl z9]) (rest := [.inl sm]) dX8_worthOfTrack_38 cv_X8_176 (Nat.lt_succ_self _) rfl rfl rfl rfl rfl (Nat.le_of_ble_eq_true rfl) (fc_loudOf s12 ?_)
      show AW (d + 5) mX8_worthOfTrack 41 [(0, .inr 62), (1, .inl n), (2, .inl sm), (3, .inl f), (4, .inl z9)] [.inl (am_lo2 (M8 63) (M8 71) f z9), .inl sm] M8 Q
      exact K (am_lo2 (M8 63) (M8 71) f z9) (fun _ => rfl) (fun q0 => by first | omega | exact absurd c11 q0 | exact absurd q0 c11)
    · have c11 : z9 = (-9) := c11
      refine aw_iconst dX8_worthOfTrack_30 ?_
      refine aw_goto dX8_worthOfTrack_31 (tgt := 41) rfl ?_
      exact K 0 (fun q0 => by first | omega | exact absurd c11 q0 | exact absurd q0 c11) (fun _ => rfl)
