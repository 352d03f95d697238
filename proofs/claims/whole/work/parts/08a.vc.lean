theorem sg_X3_makeEmpty {d : Nat} {M : am_M} {Q : Option Int → am_M → Prop} {a : Nat} (ha : am_sc a) (h : Q none (am_fill (am_cpt (am_up (am_up M a 0 0) a 1 0) am_fi (a + 1) 3) (a + 2) 96 0)) : AC (d + 1) mX3_makeEmpty [.inr a] M Q := by
  refine aw_body (by decide) (Nat.le_of_ble_eq_true rfl) rfl ?_
  refine aw_aload_n dX3_makeEmpty_0 rfl (j := 0) rfl ?_
  refine aw_iconst dX3_makeEmpty_1 ?_
  refine aw_putf dX3_makeEmpty_2 pf_X3_21 ha.1 rfl rfl ?_
  refine aw_aload_n dX3_makeEmpty_5 rfl (j := 0) rfl ?_
  refine aw_iconst dX3_makeEmpty_6 ?_
  refine aw_putf dX3_makeEmpty_7 pf_X3_25 ha.1 rfl rfl ?_
  refine aw_gets102 rfl dX3_makeEmpty_10 ?_
  refine aw_iconst dX3_makeEmpty_13 ?_
  refine aw_aload_n dX3_makeEmpty_14 rfl (j := 0) rfl ?_
  refine aw_getr dX3_makeEmpty_15 fl_X3_9 ha.1 rfl ?_
  refine aw_iconst dX3_makeEmpty_18 ?_
  refine aw_iconst dX3_makeEmpty_19 ?_
  refine aw_copyt dX3_makeEmpty_20 cp_X3_31 (Nat.succ_pos _) ha.2.1 (Nat.le_of_ble_eq_true rfl) ?_
  refine aw_aload_n dX3_makeEmpty_23 rfl (j := 0) rfl ?_
  refine aw_getr dX3_makeEmpty_24 fl_X3_15 ha.1 rfl ?_
  refine aw_iconst dX3_makeEmpty_27 ?_
  refine aw_invs (d' := d) (as := [.inr (a + 2), .inl 0]) (rest := []) dX3_makeEmpty_28 cs_X3_37 (Nat.lt_succ_self _) rfl rfl (Nat.le_of_ble_eq_true rfl) (fc_fill ha.2.2 ?_)
  show AW (d + 1) mX3_makeEmpty 31 [(0, .inr a)] [] (am_fill (am_cpt (am_up (am_up M a 0 0) a 1 0) am_fi (a + 1) 3) (a + 2) 96 0) Q
  exact aw_vret dX3_makeEmpty_31 rfl h
theorem sg_X3_makeFirst {d : Nat} {M : am_M} {Q : Option Int → am_M → Prop} {a : Nat} (ha : am_sc a) (h : AC (d + 1) mX3_makeEmpty [.inr a] M (fun r M1 => r = none ∧
 Q none (am_up (am_up M1 a 0 1) a 1 3))) : AC (d + 2) mX3_makeFirst [.inr a] M Q := by
  refine aw_body (by decide) (Nat.le_of_ble_eq_true rfl) rfl ?_
  refine aw_aload_n dX3_makeFirst_0 rfl (j := 0) rfl ?_
  refine aw_invv (d' := d + 1) (as := []) (rest := []) dX3_makeFirst_1 cv_X3_18 (Nat.lt_succ_self _) ha.1 rfl rfl rfl rfl (Nat.le_of_ble_eq_true rfl) (AC.mono ?_ h)
  intro r M1 h
  obtain ⟨rfl, h⟩ := h
  show AW (d + 2) mX3_makeFirst 4 [(0, .inr a)] [] M1 Q
  refine aw_aload_n dX3_makeFirst_4 rfl (j := 0) rfl ?_
  refine aw_iconst dX3_makeFirst_5 ?_
  refine aw_putf dX3_makeFirst_6 pf_X3_21 ha.1 rfl rfl ?_
  refine aw_aload_n dX3_makeFirst_9 rfl (j := 0) rfl ?_
  refine aw_iconst dX3_makeFirst_10 ?_
  refine aw_putf dX3_makeFirst_11 pf_X3_25 ha.1 rfl rfl ?_
  exact aw_vret dX3_makeFirst_14 rfl h
theorem sg_X3_takeFrom {d : Nat} {M : am_M} {Q : Option Int → am_M → Prop} {a b : Nat} (ha : am_sc a) (hb : am_sc b) (h : Q none (am_cp (am_cp (am_up (am_up M a 0 (M b 0)) a 1 ((am_up M a 0 (M b 0)) b 1)) (b + 1) 0 (a + 1) 0 3) (b + 2) 0 (a + 2) 0 96)) : AC (d + 1) mX3_takeFrom [.inr a, .inr b] M Q := by
  refine aw_body (by decide) (Nat.le_of_ble_eq_true rfl) rfl ?_
  refine aw_aload_n dX3_takeFrom_0 rfl (j := 0) rfl ?_
  refine aw_aload_n dX3_takeFrom_1 rfl (j := 1) rfl ?_
  refine aw_getf dX3_takeFrom_2 fl_X3_21 hb.1 rfl rfl ?_
  refine aw_putf dX3_takeFrom_5 pf_X3_21 ha.1 rfl rfl ?_
  refine aw_aload_n dX3_takeFrom_8 rfl (j := 0) rfl ?_
  refine aw_aload_n dX3_takeFrom_9 rfl (j := 1) rfl ?_
  refine aw_getf dX3_takeFrom_10 fl_X3_25 hb.1 rfl rfl ?_
  refine aw_putf dX3_takeFrom_13 pf_X3_25 ha.1 rfl rfl ?_
  refine aw_aload_n dX3_takeFrom_16 rfl (j := 1) rfl ?_
  refine aw_getr dX3_takeFrom_17 fl_X3_9 hb.1 rfl ?_
  refine aw_iconst dX3_takeFrom_20 ?_
  refine aw_aload_n dX3_takeFrom_21 rfl (j := 0) rfl ?_
  refine aw_getr dX3_takeFrom_22 fl_X3_9 ha.1 rfl ?_
  refine aw_iconst dX3_takeFrom_25 ?_
  refine aw_iconst dX3_takeFrom_26 ?_
  refine aw_copy dX3_takeFrom_27 cp_X3_31 (Nat.succ_pos _) hb.2.1 ha.2.1 (Nat.le_of_ble_eq_true rfl) (by decide) ?_
  refine aw_aload_n dX3_takeFrom_30 rfl (j := 1) rfl ?_
  refine aw_getr dX3_takeFrom_31 fl_X3_15 hb.1 rfl ?_
  refine aw_iconst dX3_takeFrom_34 ?_
  refine aw_aload_n dX3_takeFrom_35 rfl (j := 0) rfl ?_
  refine aw_getr dX3_takeFrom_36 fl_X3_15 ha.1 rfl ?_
  refine aw_iconst dX3_takeFrom_39 ?_
  refine aw_bipush dX3_takeFrom_40 (by decide) ?_
  refine aw_copy dX3_takeFrom_42 cp_X3_31 (Nat.succ_pos _) hb.2.2 ha.2.2 (Nat.le_of_ble_eq_true rfl) (by decide) ?_
  exact aw_vret dX3_takeFrom_45 rfl h
theorem sg_X0_loseOldest {d : Nat} {M : am_M} {Q : Option Int → am_M → Prop} (h : AW (d) mX0_loseOldest 9 [(0, .inr 9), (1, .inr ((M 10 0).toNat)), (2, .inl 1)] [] M Q) : AC (d) mX0_loseOldest [.inr 9] M Q := by
  refine aw_body (by decide) (Nat.le_of_ble_eq_true rfl) rfl ?_
  refine aw_aload_n dX0_loseOldest_0 rfl (j := 0) rfl ?_
  refine aw_getr dX0_loseOldest_1 fl_X0_11 rfl rfl ?_
  refine aw_iconst dX0_loseOldest_4 ?_
  refine aw_aaload dX0_loseOldest_5 rfl (by decide) ?_
  refine aw_astore_n (L' := [(0, .inr 9), (1, .inr ((M 10 0).toNat))]) dX0_loseOldest_6 rfl (Nat.le_of_ble_eq_true rfl) rfl ?_
  refine aw_iconst dX0_loseOldest_7 ?_
  refine aw_istore_n (L' := [(0, .inr 9), (1, .inr ((M 10 0).toNat)), (2, .inl 1)]) dX0_loseOldest_8 rfl (Nat.le_of_ble_eq_true rfl) rfl ?_
  exact h
theorem sg_X0_loseOldest_9 {d : Nat} {M : am_M} {Q : Option Int → am_M → Prop} {i : Int} {r1 : Nat} (h : (am_r i) ∧
 ((6 ≤ i →
 (am_sc r1) ∧
 Q none (am_up (am_up M 10 5 ((r1 : Nat) : Int)) 9 0 5)) ∧
 (i < 6 →
 (0 ≤ i ∧ i < 6) ∧
 (am_sc ((M 10 i).toNat)) ∧
 (0 ≤ i - 1 ∧ i - 1 < 6) ∧
 AW (d) mX0_loseOldest 9 [(0, .inr 9), (1, .inr r1), (2, .inl (i + 1))] [] (am_up M 10 (i - 1) (((M 10 i).toNat : Nat) : Int)) Q))) : AW (d) mX0_loseOldest 9 [(0, .inr 9), (1, .inr r1), (2, .inl i)] [] M Q := by
  refine aw_iload_n dX0_loseOldest_9 rfl (j := 2) rfl ?_
  refine aw_bipush dX0_loseOldest_10 (by decide) ?_
  obtain ⟨s1, h⟩ := h
  refine aw_icmp_ge dX0_loseOldest_12 (tgt := 35) rfl s1 (by decide) (fun c2 => ?_) (fun c2 => ?_)
  · replace h := h.1 c2
    refine aw_aload_n dX0_loseOldest_35 rfl (j := 0) rfl ?_
    refine aw_getr dX0_loseOldest_36 fl_X0_11 rfl rfl ?_
    refine aw_iconst dX0_loseOldest_39 ?_
    refine aw_aload_n dX0_loseOldest_40 rfl (j := 1) rfl ?_
    obtain ⟨s3, h⟩ := h
    refine aw_aastore dX0_loseOldest_41 rfl s3.1 (by decide) ?_
    refine aw_aload_n dX0_loseOldest_42 rfl (j := 0) rfl ?_
    refine aw_iconst dX0_loseOldest_43 ?_
    refine aw_putf dX0_loseOldest_44 pf_X0_18 rfl rfl rfl ?_
    exact aw_vret dX0_loseOldest_47 rfl h
  · replace h := h.2 c2
    refine aw_aload_n dX0_loseOldest_15 rfl (j := 0) rfl ?_
    refine aw_getr dX0_loseOldest_16 fl_X0_11 rfl rfl ?_
    refine aw_iload_n dX0_loseOldest_19 rfl (j := 2) rfl ?_
    refine aw_iconst dX0_loseOldest_20 ?_
    refine aw_isub dX0_loseOldest_21 ?_
    refine aw_aload_n dX0_loseOldest_22 rfl (j := 0) rfl ?_
    refine aw_getr dX0_loseOldest_23 fl_X0_11 rfl rfl ?_
    refine aw_iload_n dX0_loseOldest_26 rfl (j := 2) rfl ?_
    obtain ⟨s4, h⟩ := h
    refine aw_aaload dX0_loseOldest_27 rfl s4 ?_
    obtain ⟨s5, h⟩ := h
    obtain ⟨s6, h⟩ := h
    refine aw_aastore dX0_loseOldest_28 rfl s5.1 s6 ?_
    refine aw_iinc (L' := [(0, .inr 9), (1, .inr r1), (2, .inl (i + 1))]) dX0_loseOldest_29 (j := 2) rfl (Nat.le_of_ble_eq_true rfl) rfl ?_
    refine aw_goto dX0_loseOldest_32 (tgt := 9) rfl ?_
    exact h
theorem sg_X0_remember {d : Nat} {M : am_M} {Q : Option Int → am_M → Prop} (h : (am_r (M 9 0)) ∧
 ((M 9 0 < 6 →
 (0 ≤ M 9 0 ∧ M 9 0 < 6) ∧
 (am_sc ((M 10 (M 9 0)).toNat)) ∧
 AC (d + 1) mX3_takeFrom [.inr ((M 10 (M 9 0)).toNat), .inr 1] M (fun r M4 => r = none ∧
 Q none (am_up M4 9 0 ((M4 9 0) + 1)))) ∧
 (6 ≤ M 9 0 →
 AC (d + 1) mX0_loseOldest [.inr 9] M (fun r M6 => r = none ∧
 (0 ≤ M6 9 0 ∧ M6 9 0 < 6) ∧
 (am_sc ((M6 10 (M6 9 0)).toNat)) ∧
 AC (d + 1) mX3_takeFrom [.inr ((M6 10 (M6 9 0)).toNat), .inr 1] M6 (fun r M8 => r = none ∧
 Q none (am_up M8 9 0 ((M8 9 0) + 1))))))) : AC (d + 2) mX0_remember [.inr 9, .inr 1] M Q := by
  refine aw_body (by decide) (Nat.le_of_ble_eq_true rfl) rfl ?_
  refine aw_aload_n dX0_remember_0 rfl (j := 0) rfl ?_
  refine aw_getf dX0_remember_1 fl_X0_18 rfl rfl rfl ?_
  refine aw_bipush dX0_remember_4 (by decide) ?_
  obtain ⟨s1, h⟩ := h
  refine aw_icmp_lt dX0_remember_6 (tgt := 13) rfl s1 (by decide) (fun c2 => ?_) (fun c2 => ?_)
  · replace h := h.1 c2
    refine aw_aload_n dX0_remember_13 rfl (j := 0) rfl ?_
    refine aw_getr dX0_remember_14 fl_X0_11 rfl rfl ?_
    refine aw_aload_n dX0_remember_17 rfl (j := 0) rfl ?_
    refine aw_getf dX0_remember_18 fl_X0_18 rfl rfl rfl ?_
    obtain ⟨s3, h⟩ := h
    refine aw_aaload dX0_remember_21 rfl s3 ?_
    refine aw_aload_n dX0_remember_22 rfl (j := 1) rfl ?_
    obtain ⟨s5, h⟩ := h
    refine aw_invv (d' := d + 1) (as := [.inr 1]) (rest := []) dX0_remember_23 cv_X0_25 (Nat.lt_succ_self _) s5.1 rfl rfl rfl rfl (Nat.le_of_ble_eq_true rfl) (AC.mono ?_ h)
    intro r M4 h
    obtain ⟨rfl, h⟩ := h
    show AW (d + 2) mX0_remember 26 [(0, .inr 9), (1, .inr 1)] [] M4 Q
    refine aw_aload_n dX0_remember_26 rfl (j := 0) rfl ?_
    refine aw_dup dX0_remember_27 ?_
    refine aw_getf dX0_remember_28 fl_X0_18 rfl rfl rfl ?_
    refine aw_iconst dX0_remember_31 ?_
    refine aw_iadd dX0_remember_32 ?_
    refine aw_putf dX0_remember_33 pf_X0_18 rfl rfl rfl ?_
    exact aw_vret dX0_remember_36 rfl h
  · replace h := h.2 c2
    refine aw_aload_n dX0_remember_9 rfl (j := 0) rfl ?_
    refine aw_invv (d' := d + 1) (as := []) (rest := []) dX0_remember_10 cv_X0_22 (Nat.lt_succ_self _) rfl rfl rfl rfl rfl (Nat.le_of_ble_eq_true rfl) (AC.mono ?_ h)
    intro r M6 h
    obtain ⟨rfl, h⟩ := h
    show AW (d + 2) mX0_remember 13 [(0, .inr 9), (1, .inr 1)] [] M6 Q
    refine aw_aload_n dX0_remember_13 rfl (j := 0) rfl ?_
    refine aw_getr dX0_remember_14 fl_X0_11 rfl rfl ?_
    refine aw_aload_n dX0_remember_17 rfl (j := 0) rfl ?_
    refine aw_getf dX0_remember_18 fl_X0_18 rfl rfl rfl ?_
    obtain ⟨s7, h⟩ := h
    refine aw_aaload dX0_remember_21 rfl s7 ?_
    refine aw_aload_n dX0_remember_22 rfl (j := 1) rfl ?_
    obtain ⟨s9, h⟩ := h
    refine aw_invv (d' := d + 1) (as := [.inr 1]) (rest := []) dX0_remember_23 cv_X0_25 (Nat.lt_succ_self _) s9.1 rfl rfl rfl rfl (Nat.le_of_ble_eq_true rfl) (AC.mono ?_ h)
    intro r M8 h
    obtain ⟨rfl, h⟩ := h
    show AW (d + 2) mX0_remember 26 [(0, .inr 9), (1, .inr 1)] [] M8 Q
    refine aw_aload_n dX0_remember_26 rfl (j := 0) rfl ?_
    refine aw_dup dX0_remember_27 ?_
    refine aw_getf dX0_remember_28 fl_X0_18 rfl rfl rfl ?_
    refine aw_iconst dX0_remember_31 ?_
    refine aw_iadd dX0_remember_32 ?_
    refine aw_putf dX0_remember_33 pf_X0_18 rfl rfl rfl ?_
    exact aw_vret dX0_remember_36 rfl h
theorem sg_X0_giveLatest {d : Nat} {M : am_M} {Q : Option Int → am_M → Prop} (h : (am_r (M 9 0)) ∧
 ((M 9 0 ≤ 0 →
 Q none M) ∧
 (0 < M 9 0 →
 (0 ≤ (M 9 0) - 1 ∧ (M 9 0) - 1 < 6) ∧
 AC (d + 1) mX3_takeFrom [.inr 1, .inr ((M 10 ((M 9 0) - 1)).toNat)] (am_up M 9 0 ((M 9 0) - 1)) (fun r M4 => r = none ∧
 Q none M4)))) : AC (d + 2) mX0_giveLatest [.inr 9, .inr 1] M Q := by
  refine aw_body (by decide) (Nat.le_of_ble_eq_true rfl) rfl ?_
  refine aw_aload_n dX0_giveLatest_0 rfl (j := 0) rfl ?_
  refine aw_getf dX0_giveLatest_1 fl_X0_18 rfl rfl rfl ?_
  obtain ⟨s1, h⟩ := h
  refine aw_if_le dX0_giveLatest_4 (tgt := 30) rfl s1 (fun c2 => ?_) (fun c2 => ?_)
  · replace h := h.1 c2
    exact aw_vret dX0_giveLatest_30 rfl h
  · replace h := h.2 c2
    refine aw_aload_n dX0_giveLatest_7 rfl (j := 0) rfl ?_
    refine aw_dup dX0_giveLatest_8 ?_
    refine aw_getf dX0_giveLatest_9 fl_X0_18 rfl rfl rfl ?_
    refine aw_iconst dX0_giveLatest_12 ?_
    refine aw_isub dX0_giveLatest_13 ?_
    refine aw_putf dX0_giveLatest_14 pf_X0_18 rfl rfl rfl ?_
    refine aw_aload_n dX0_giveLatest_17 rfl (j := 1) rfl ?_
    refine aw_aload_n dX0_giveLatest_18 rfl (j := 0) rfl ?_
    refine aw_getr dX0_giveLatest_19 fl_X0_11 rfl rfl ?_
    refine aw_aload_n dX0_giveLatest_22 rfl (j := 0) rfl ?_
    refine aw_getf dX0_giveLatest_23 fl_X0_18 rfl rfl rfl ?_
    obtain ⟨s3, h⟩ := h
    refine aw_aaload dX0_giveLatest_26 rfl s3 ?_
    refine aw_invv (d' := d + 1) (as := [.inr ((M 10 ((M 9 0) - 1)).toNat)]) (rest := []) dX0_giveLatest_27 cv_X0_25 (Nat.lt_succ_self _) rfl rfl rfl rfl rfl (Nat.le_of_ble_eq_true rfl) (AC.mono ?_ h)
    intro r M4 h
    obtain ⟨rfl, h⟩ := h
    show AW (d + 2) mX0_giveLatest 30 [(0, .inr 9), (1, .inr 1)] [] M4 Q
    exact aw_vret dX0_giveLatest_30 rfl h
theorem sg_X2_lookAt {d : Nat} {M : am_M} {Q : Option Int → am_M → Prop} {f p : Int} (h : (am_lvok (M 1 0) (M 1 1) f p) ∧
 (am_lvok (M 1 0) (M 1 1) f (p - 1)) ∧
 (am_lvok (M 1 0) (M 1 1) f (p + 1)) ∧
 (((am_r (am_lv (M 1 0) (M 1 1) (M 3) f p)) ∧ (am_r (M 2 0)) ∧ (M 2 0 ≤ am_lv (M 1 0) (M 1 1) (M 3) f p → ((am_r (am_lv (M 1 0) (M 1 1) (M 3) f (p - 1))) ∧ (am_lv (M 1 0) (M 1 1) (M 3) f (p - 1) < am_lv (M 1 0) (M 1 1) (M 3) f p → (am_r (am_lv (M 1 0) (M 1 1) (M 3) f (p + 1)))))))) ∧
 ((¬ ((M 2 0 ≤ am_lv (M 1 0) (M 1 1) (M 3) f p) ∧ (am_lv (M 1 0) (M 1 1) (M 3) f (p - 1) < am_lv (M 1 0) (M 1 1) (M 3) f p) ∧ (am_lv (M 1 0) (M 1 1) (M 3) f (p + 1) ≤ am_lv (M 1 0) (M 1 1) (M 3) f p)) →
 Q none M) ∧
 ((M 2 0 ≤ am_lv (M 1 0) (M 1 1) (M 3) f p) ∧ (am_lv (M 1 0) (M 1 1) (M 3) f (p - 1) < am_lv (M 1 0) (M 1 1) (M 3) f p) ∧ (am_lv (M 1 0) (M 1 1) (M 3) f (p + 1) ≤ am_lv (M 1 0) (M 1 1) (M 3) f p) →
 (0 ≤ f ∧ f < 8) ∧
 (am_r (M 32 f)) ∧
 ((6 ≤ M 32 f →
 Q none M) ∧
 (M 32 f < 6 →
 (0 ≤ (f * 6) + (M 32 f) ∧ (f * 6) + (M 32 f) < 48) ∧
 (am_r (am_lv (M 1 0) (M 1 1) (M 3) f (p + 1)) ∧ am_r (am_lv (M 1 0) (M 1 1) (M 3) f (p - 1))) ∧
 Q none (am_up (am_up (am_up (am_up M 33 ((f * 6) + (M 32 f)) p) 34 ((f * 6) + (M 32 f)) ((4 * p) + (am_cmp (am_lv (M 1 0) (M 1 1) (M 3) f (p + 1)) (am_lv (M 1 0) (M 1 1) (M 3) f (p - 1))))) 35 ((f * 6) + (M 32 f)) (am_lv (M 1 0) (M 1 1) (M 3) f p)) 32 f ((M 32 f) + 1))))))) : AC (d + 3) mX2_lookAt [.inr 31, .inr 1, .inl f, .inl p] M Q := by
  refine aw_body (by decide) (Nat.le_of_ble_eq_true rfl) rfl ?_
  refine aw_aload_n dX2_lookAt_0 rfl (j := 1) rfl ?_
  refine aw_iload_n dX2_lookAt_1 rfl (j := 2) rfl ?_
  refine aw_iload_n dX2_lookAt_2 rfl (j := 3) rfl ?_
  obtain ⟨s1, h⟩ := h
  refine aw_invv (d' := d + 2) (as := [.inl f, .inl p]) (rest := []) dX2_lookAt_3 cv_X2_33 (Nat.lt_succ_self _) rfl rfl rfl rfl rfl (Nat.le_of_ble_eq_true rfl) (fc_levelAt (a := 1) ⟨rfl, rfl, rfl⟩ s1 ?_)
  show AW (d + 3) mX2_lookAt 6 [(0, .inr 31), (1, .inr 1), (2, .inl f), (3, .inl p)] [.inl (am_lv (M 1 0) (M 1 1) (M 3) f p)] M Q
  refine aw_istore (L' := [(0, .inr 31), (1, .inr 1), (2, .inl f), (3, .inl p), (4, .inl (am_lv (M 1 0) (M 1 1) (M 3) f p))]) dX2_lookAt_6 (Nat.le_of_ble_eq_true rfl) rfl ?_
  refine aw_aload_n dX2_lookAt_8 rfl (j := 1) rfl ?_
  refine aw_iload_n dX2_lookAt_9 rfl (j := 2) rfl ?_
  refine aw_iload_n dX2_lookAt_10 rfl (j := 3) rfl ?_
  refine aw_iconst dX2_lookAt_11 ?_
  refine aw_isub dX2_lookAt_12 ?_
  obtain ⟨s2, h⟩ := h
  refine aw_invv (d' := d + 2) (as := [.inl f, .inl (p - 1)]) (rest := []) dX2_lookAt_13 cv_X2_33 (Nat.lt_succ_self _) rfl rfl rfl rfl rfl (Nat.le_of_ble_eq_true rfl) (fc_levelAt (a := 1) ⟨rfl, rfl, rfl⟩ s2 ?_)
  show AW (d + 3) mX2_lookAt 16 [(0, .inr 31), (1, .inr 1), (2, .inl f), (3, .inl p), (4, .inl (am_lv (M 1 0) (M 1 1) (M 3) f p))] [.inl (am_lv (M 1 0) (M 1 1) (M 3) f (p - 1))] M Q
  refine aw_istore (L' := [(0, .inr 31), (1, .inr 1), (2, .inl f), (3, .inl p), (4, .inl (am_lv (M 1 0) (M 1 1) (M 3) f p)), (5, .inl (am_lv (M 1 0) (M 1 1) (M 3) f (p - 1)))]) dX2_lookAt_16 (Nat.le_of_ble_eq_true rfl) rfl ?_
  refine aw_aload_n dX2_lookAt_18 rfl (j := 1) rfl ?_
  refine aw_iload_n dX2_lookAt_19 rfl (j := 2) rfl ?_
  refine aw_iload_n dX2_lookAt_20 rfl (j := 3) rfl ?_
  refine aw_iconst dX2_lookAt_21 ?_
  refine aw_iadd dX2_lookAt_22 ?_
  obtain ⟨s3, h⟩ := h
  refine aw_invv (d' := d + 2) (as := [.inl f, .inl (p + 1)]) (rest := []) dX2_lookAt_23 cv_X2_33 (Nat.lt_succ_self _) rfl rfl rfl rfl rfl (Nat.le_of_ble_eq_true rfl) (fc_levelAt (a := 1) ⟨rfl, rfl, rfl⟩ s3 ?_)
  show AW (d + 3) mX2_lookAt 26 [(0, .inr 31), (1, .inr 1), (2, .inl f), (3, .inl p), (4, .inl (am_lv (M 1 0) (M 1 1) (M 3) f p)), (5, .inl (am_lv (M 1 0) (M 1 1) (M 3) f (p - 1)))] [.inl (am_lv (M 1 0) (M 1 1) (M 3) f (p + 1))] M Q
  refine aw_istore (L' := [(0, .inr 31), (1, .inr 1), (2, .inl f), (3, .inl p), (4, .inl (am_lv (M 1 0) (M 1 1) (M 3) f p)), (5, .inl (am_lv (M 1 0) (M 1 1) (M 3) f (p - 1))), (6, .inl (am_lv (M 1 0) (M 1 1) (M 3) f (p + 1)))]) dX2_lookAt_26 (Nat.le_of_ble_eq_true rfl) rfl ?_
  refine aw_iload dX2_lookAt_28 (j := 4) rfl ?_
  refine aw_aload_n dX2_lookAt_30 rfl (j := 1) rfl ?_
  refine aw_getr dX2_lookAt_31 fl_X2_37 rfl rfl ?_
  refine aw_iconst dX2_lookAt_34 ?_
  refine aw_iaload dX2_lookAt_35 rfl (by decide) ?_
  obtain ⟨g, h⟩ := h
  have K : AW (d + 3) mX2_lookAt 58 [(0, .inr 31), (1, .inr 1), (2, .inl f), (3, .inl p), (4, .inl (am_lv (M 1 0) (M 1 1) (M 3) f p)), (5, .inl (am_lv (M 1 0) (M 1 1) (M 3) f (p - 1))), (6, .inl (am_lv (M 1 0) (M 1 1) (M 3) f (p + 1)))] [.inl (am_b ((M 2 0 ≤ am_lv (M 1 0) (M 1 1) (M 3) f p) ∧ (am_lv (M 1 0) (M 1 1) (M 3) f (p - 1) < am_lv (M 1 0) (M 1 1) (M 3) f p) ∧ (am_lv (M 1 0) (M 1 1) (M 3) f (p + 1) ≤ am_lv (M 1 0) (M 1 1) (M 3) f p)))] M Q := by
    refine aw_istore (L' := [(0, .inr 31), (1, .inr 1), (2, .inl f), (3, .inl p), (4, .inl (am_lv (M 1 0) (M 1 1) (M 3) f p)), (5, .inl (am_lv (M 1 0) (M 1 1) (M 3) f (p - 1))), (6, .inl (am_lv (M 1 0) (M 1 1) (M 3) f (p + 1))), (7, .inl (am_b ((M 2 0 ≤ am_lv (M 1 0) (M 1 1) (M 3) f p) ∧ (am_lv (M 1 0) (M 1 1) (M 3) f (p - 1) < am_lv (M 1 0) (M 1 1) (M 3) f p) ∧ (am_lv (M 1 0) (M 1 1) (M 3) f (p + 1) ≤ am_lv (M 1 0) (M 1 1) (M 3) f p))))]) dX2_lookAt_58 (Nat.le_of_ble_eq_true rfl) rfl ?_
    refine aw_iload dX2_lookAt_60 (j := 7) rfl ?_
    refine aw_ifb_eq dX2_lookAt_62 (tgt := 134) rfl (fun c11 => ?_) (fun c11 => ?_)
    · replace h := h.1 c11
      exact aw_vret dX2_lookAt_134 rfl h
    · replace h := h.2 c11
      refine aw_aload_n dX2_lookAt_65 rfl (j := 0) rfl ?_
      refine aw_getr dX2_lookAt_66 fl_X2_9 rfl rfl ?_
      refine aw_iload_n dX2_lookAt_69 rfl (j := 2) rfl ?_
      obtain ⟨s12, h⟩ := h
      refine aw_iaload dX2_lookAt_70 rfl s12 ?_
      refine aw_bipush dX2_lookAt_71 (by decide) ?_
      obtain ⟨s13, h⟩ := h
      refine aw_icmp_ge dX2_lookAt_73 (tgt := 134) rfl s13 (by decide) (fun c14 => ?_) (fun c14 => ?_)
      · replace h := h.1 c14
        exact aw_vret dX2_lookAt_134 rfl h
      · replace h := h.2 c14
        refine aw_iload_n dX2_lookAt_76 rfl (j := 2) rfl ?_
        refine aw_bipush dX2_lookAt_77 (by decide) ?_
        refine aw_imul dX2_lookAt_79 ?_
        refine aw_aload_n dX2_lookAt_80 rfl (j := 0) rfl ?_
        refine aw_getr dX2_lookAt_81 fl_X2_9 rfl rfl ?_
        refine aw_iload_n dX2_lookAt_84 rfl (j := 2) rfl ?_
        refine aw_iaload dX2_lookAt_85 rfl s12 ?_
        refine aw_iadd dX2_lookAt_86 ?_
        refine aw_istore (L' := [(0, .inr 31), (1, .inr 1), (2, .inl f), (3, .inl p), (4, .inl (am_lv (M 1 0) (M 1 1) (M 3) f p)), (5, .inl (am_lv (M 1 0) (M 1 1) (M 3) f (p - 1))), (6, .inl (am_lv (M 1 0) (M 1 1) (M 3) f (p + 1))), (7, .inl (am_b ((M 2 0 ≤ am_lv (M 1 0) (M 1 1) (M 3) f p) ∧ (am_lv (M 1 0) (M 1 1) (M 3) f (p - 1) < am_lv (M 1 0) (M 1 1) (M 3) f p) ∧ (am_lv (M 1 0) (M 1 1) (M 3) f (p + 1) ≤ am_lv (M 1 0) (M 1 1) (M 3) f p)))), (8, .inl ((f * 6) + (M 32 f)))]) dX2_lookAt_87 (Nat.le_of_ble_eq_true rfl) rfl ?_
        refine aw_aload_n dX2_lookAt_89 rfl (j := 0) rfl ?_
        refine aw_getr dX2_lookAt_90 fl_X2_15 rfl rfl ?_
        refine aw_iload dX2_lookAt_93 (j := 8) rfl ?_
        refine aw_iload_n dX2_lookAt_95 rfl (j := 3) rfl ?_
        obtain ⟨s15, h⟩ := h
        refine aw_iastore dX2_lookAt_96 rfl s15 ?_
        refine aw_aload_n dX2_lookAt_97 rfl (j := 0) rfl ?_
        refine aw_getr dX2_lookAt_98 fl_X2_18 rfl rfl ?_
        refine aw_iload dX2_lookAt_101 (j := 8) rfl ?_
        refine aw_iconst dX2_lookAt_103 ?_
        refine aw_iload_n dX2_lookAt_104 rfl (j := 3) rfl ?_
        refine aw_imul dX2_lookAt_105 ?_
        refine aw_iload dX2_lookAt_106 (j := 6) rfl ?_
        refine aw_iload dX2_lookAt_108 (j := 5) rfl ?_
        obtain ⟨s16, h⟩ := h
        refine aw_invs (d' := d + 2) (as := [.inl (am_lv (M 1 0) (M 1 1) (M 3) f (p + 1)), .inl (am_lv (M 1 0) (M 1 1) (M 3) f (p - 1))]) (rest := [.inl (4 * p), .inl ((f * 6) + (M 32 f)), .inr 34]) dX2_lookAt_110 cs_X2_40 (Nat.lt_succ_self _) rfl rfl (Nat.le_of_ble_eq_true rfl) (fc_compare s16 ?_)
        show AW (d + 3) mX2_lookAt 113 [(0, .inr 31), (1, .inr 1), (2, .inl f), (3, .inl p), (4, .inl (am_lv (M 1 0) (M 1 1) (M 3) f p)), (5, .inl (am_lv (M 1 0) (M 1 1) (M 3) f (p - 1))), (6, .inl (am_lv (M 1 0) (M 1 1) (M 3) f (p + 1))), (7, .inl (am_b ((M 2 0 ≤ am_lv (M 1 0) (M 1 1) (M 3) f p) ∧ (am_lv (M 1 0) (M 1 1) (M 3) f (p - 1) < am_lv (M 1 0) (M 1 1) (M 3) f p) ∧ (am_lv (M 1 0) (M 1 1) (M 3) f (p + 1) ≤ am_lv (M 1 0) (M 1 1) (M 3) f p)))), (8, .inl ((f * 6) + (M 32 f)))] [.inl (am_cmp (am_lv (M 1 0) (M 1 1) (M 3) f (p + 1)) (am_lv (M 1 0) (M 1 1) (M 3) f (p - 1))), .inl (4 * p), .inl ((f * 6) + (M 32 f)), .inr 34] (am_up M 33 ((f * 6) + (M 32 f)) p) Q
        refine aw_iadd dX2_lookAt_113 ?_
        refine aw_iastore dX2_lookAt_114 rfl s15 ?_
        refine aw_aload_n dX2_lookAt_115 rfl (j := 0) rfl ?_
        refine aw_getr dX2_lookAt_116 fl_X2_21 rfl rfl ?_
        refine aw_iload dX2_lookAt_119 (j := 8) rfl ?_
        refine aw_iload dX2_lookAt_121 (j := 4) rfl ?_
        refine aw_iastore dX2_lookAt_123 rfl s15 ?_
        refine aw_aload_n dX2_lookAt_124 rfl (j := 0) rfl ?_
        refine aw_getr dX2_lookAt_125 fl_X2_9 rfl rfl ?_
        refine aw_iload_n dX2_lookAt_128 rfl (j := 2) rfl ?_
        refine aw_dup2 dX2_lookAt_129 ?_
        refine aw_iaload dX2_lookAt_130 rfl s12 ?_
        refine aw_iconst dX2_lookAt_131 ?_
        refine aw_iadd dX2_lookAt_132 ?_
        refine aw_iastore dX2_lookAt_133 rfl s12 ?_
        exact aw_vret dX2_lookAt_134 rfl h
  clear h
  obtain ⟨s4, g⟩ := g
  obtain ⟨s5, g⟩ := g
  refine aw_icmp_lt dX2_lookAt_36 (tgt := 57) rfl s4 s5 (fun c6 => ?_) (fun c6 => ?_)
  · have c6 : am_lv (M 1 0) (M 1 1) (M 3) f p < M 2 0 := c6
    refine aw_iconst dX2_lookAt_57 ?_
    have hp : ¬ ((M 2 0 ≤ am_lv (M 1 0) (M 1 1) (M 3) f p) ∧ (am_lv (M 1 0) (M 1 1) (M 3) f (p - 1) < am_lv (M 1 0) (M 1 1) (M 3) f p) ∧ (am_lv (M 1 0) (M 1 1) (M 3) f (p + 1) ≤ am_lv (M 1 0) (M 1 1) (M 3) f p)) := by first | omega | simp_all
    have K1 := K
    rw [am_b_neg hp] at K1
    exact K1
  · have c6 : M 2 0 ≤ am_lv (M 1 0) (M 1 1) (M 3) f p := c6
    replace g := g c6
    refine aw_iload dX2_lookAt_39 (j := 4) rfl ?_
    refine aw_iload dX2_lookAt_41 (j := 5) rfl ?_
    obtain ⟨s7, g⟩ := g
    refine aw_icmp_le dX2_lookAt_43 (tgt := 57) rfl s4 s7 (fun c8 => ?_) (fun c8 => ?_)
    · have c8 : am_lv (M 1 0) (M 1 1) (M 3) f p ≤ am_lv (M 1 0) (M 1 1) (M 3) f (p - 1) := c8
      refine aw_iconst dX2_lookAt_57 ?_
      have hp : ¬ ((M 2 0 ≤ am_lv (M 1 0) (M 1 1) (M 3) f p) ∧ (am_lv (M 1 0) (M 1 1) (M 3) f (p - 1) < am_lv (M 1 0) (M 1 1) (M 3) f p) ∧ (am_lv (M 1 0) (M 1 1) (M 3) f (p + 1) ≤ am_lv (M 1 0) (M 1 1) (M 3) f p)) := by first | omega | simp_all
      have K1 := K
      rw [am_b_neg hp] at K1
      exact K1
    · have c8 : am_lv (M 1 0) (M 1 1) (M 3) f (p - 1) < am_lv (M 1 0) (M 1 1) (M 3) f p := c8
      replace g := g c8
      refine aw_iload dX2_lookAt_46 (j := 4) rfl ?_
      refine aw_iload dX2_lookAt_48 (j := 6) rfl ?_
      have s9 := g
      refine aw_icmp_lt dX2_lookAt_50 (tgt := 57) rfl s4 s9 (fun c10 => ?_) (fun c10 => ?_)
      · have c10 : am_lv (M 1 0) (M 1 1) (M 3) f p < am_lv (M 1 0) (M 1 1) (M 3) f (p + 1) := c10
        refine aw_iconst dX2_lookAt_57 ?_
        have hp : ¬ ((M 2 0 ≤ am_lv (M 1 0) (M 1 1) (M 3) f p) ∧ (am_lv (M 1 0) (M 1 1) (M 3) f (p - 1) < am_lv (M 1 0) (M 1 1) (M 3) f p) ∧ (am_lv (M 1 0) (M 1 1) (M 3) f (p + 1) ≤ am_lv (M 1 0) (M 1 1) (M 3) f p)) := by first | omega | simp_all
        have K1 := K
        rw [am_b_neg hp] at K1
        exact K1
      · have c10 : am_lv (M 1 0) (M 1 1) (M 3) f (p + 1) ≤ am_lv (M 1 0) (M 1 1) (M 3) f p := c10
        refine aw_iconst dX2_lookAt_53 ?_
        refine aw_goto dX2_lookAt_54 (tgt := 58) rfl ?_
        have hp : (M 2 0 ≤ am_lv (M 1 0) (M 1 1) (M 3) f p) ∧ (am_lv (M 1 0) (M 1 1) (M 3) f (p - 1) < am_lv (M 1 0) (M 1 1) (M 3) f p) ∧ (am_lv (M 1 0) (M 1 1) (M 3) f (p + 1) ≤ am_lv (M 1 0) (M 1 1) (M 3) f p) := by first | omega | simp_all
        have K1 := K
        rw [am_b_pos hp] at K1
        exact K1
theorem sg_X2_find {d : Nat} {M : am_M} {Q : Option Int → am_M → Prop} (h : AW (d + 4) mX2_find 2 [(0, .inr 31), (1, .inr 1), (2, .inl 0)] [] M Q) : AC (d + 4) mX2_find [.inr 31, .inr 1] M Q := by
  refine aw_body (by decide) (Nat.le_of_ble_eq_true rfl) rfl ?_
  refine aw_iconst dX2_find_0 ?_
  refine aw_istore_n (L' := [(0, .inr 31), (1, .inr 1), (2, .inl 0)]) dX2_find_1 rfl (Nat.le_of_ble_eq_true rfl) rfl ?_
  exact h
theorem sg_X2_find_2 {d : Nat} {M : am_M} {Q : Option Int → am_M → Prop} {f : Int} (h : (am_r f) ∧
 ((8 ≤ f →
 Q none M) ∧
 (f < 8 →
 (0 ≤ f ∧ f < 8) ∧
 AW (d + 4) mX2_find 17 [(0, .inr 31), (1, .inr 1), (2, .inl f), (3, .inl 0)] [] (am_up M 32 f 0) Q))) : AW (d + 4) mX2_find 2 [(0, .inr 31), (1, .inr 1), (2, .inl f)] [] M Q := by
  refine aw_iload_n dX2_find_2 rfl (j := 2) rfl ?_
  refine aw_bipush dX2_find_3 (by decide) ?_
  obtain ⟨s1, h⟩ := h
  refine aw_icmp_ge dX2_find_5 (tgt := 44) rfl s1 (by decide) (fun c2 => ?_) (fun c2 => ?_)
  · replace h := h.1 c2
    exact aw_vret dX2_find_44 rfl h
  · replace h := h.2 c2
    refine aw_aload_n dX2_find_8 rfl (j := 0) rfl ?_
    refine aw_getr dX2_find_9 fl_X2_9 rfl rfl ?_
    refine aw_iload_n dX2_find_12 rfl (j := 2) rfl ?_
    refine aw_iconst dX2_find_13 ?_
    obtain ⟨s3, h⟩ := h
    refine aw_iastore dX2_find_14 rfl s3 ?_
    refine aw_iconst dX2_find_15 ?_
    refine aw_istore_n (L' := [(0, .inr 31), (1, .inr 1), (2, .inl f), (3, .inl 0)]) dX2_find_16 rfl (Nat.le_of_ble_eq_true rfl) rfl ?_
    exact h
theorem sg_X2_find_17 {d : Nat} {M : am_M} {Q : Option Int → am_M → Prop} {f p : Int} (h : (am_r p) ∧
 (am_r (M 1 1)) ∧
 ((M 1 1 ≤ p →
 AW (d + 4) mX2_find 2 [(0, .inr 31), (1, .inr 1), (2, .inl (f + 1))] [] M Q) ∧
 (p < M 1 1 →
 AC (d + 3) mX2_lookAt [.inr 31, .inr 1, .inl f, .inl p] M (fun r M4 => r = none ∧
 AW (d + 4) mX2_find 17 [(0, .inr 31), (1, .inr 1), (2, .inl f), (3, .inl (p + 1))] [] M4 Q)))) : AW (d + 4) mX2_find 17 [(0, .inr 31), (1, .inr 1), (2, .inl f), (3, .inl p)] [] M Q := by
  refine aw_iload_n dX2_find_17 rfl (j := 3) rfl ?_
  refine aw_aload_n dX2_find_18 rfl (j := 1) rfl ?_
  refine aw_getf dX2_find_19 fl_X2_24 rfl rfl rfl ?_
  obtain ⟨s1, h⟩ := h
  obtain ⟨s2, h⟩ := h
  refine aw_icmp_ge dX2_find_22 (tgt := 38) rfl s1 s2 (fun c3 => ?_) (fun c3 => ?_)
  · replace h := h.1 c3
    refine aw_iinc (L' := [(0, .inr 31), (1, .inr 1), (2, .inl (f + 1)), (3, .inl p)]) dX2_find_38 (j := 2) rfl (Nat.le_of_ble_eq_true rfl) rfl ?_
    refine aw_goto dX2_find_41 (tgt := 2) rfl ?_
    exact aw_sub [0, 1, 2] rfl h
  · replace h := h.2 c3
    refine aw_aload_n dX2_find_25 rfl (j := 0) rfl ?_
    refine aw_aload_n dX2_find_26 rfl (j := 1) rfl ?_
    refine aw_iload_n dX2_find_27 rfl (j := 2) rfl ?_
    refine aw_iload_n dX2_find_28 rfl (j := 3) rfl ?_
    refine aw_invv (d' := d + 3) (as := [.inr 1, .inl f, .inl p]) (rest := []) dX2_find_29 cv_X2_29 (Nat.lt_succ_self _) rfl rfl rfl rfl rfl (Nat.le_of_ble_eq_true rfl) (AC.mono ?_ h)
    intro r M4 h
    obtain ⟨rfl, h⟩ := h
    show AW (d + 4) mX2_find 32 [(0, .inr 31), (1, .inr 1), (2, .inl f), (3, .inl p)] [] M4 Q
    refine aw_iinc (L' := [(0, .inr 31), (1, .inr 1), (2, .inl f), (3, .inl (p + 1))]) dX2_find_32 (j := 3) rfl (Nat.le_of_ble_eq_true rfl) rfl ?_
    refine aw_goto dX2_find_35 (tgt := 17) rfl ?_
    exact h
theorem sg_X1_copyPitches {d : Nat} {M : am_M} {Q : Option Int → am_M → Prop} {c : Nat} (hc : am_sh[c]? = some (.inl (0, 6))) {f : Int} (h : (am_r f) ∧
 ((f < 0 →
 Q (some 0) M) ∧
 (0 ≤ f →
 ((f < 8 →
 (0 ≤ f ∧ f < 8) ∧
 (0 ≤ (f * 6) ∧ 0 ≤ (0 : Int) ∧ 0 ≤ (M 32 f) ∧ (f * 6) + (M 32 f) ≤ 48 ∧ (0 : Int) + (M 32 f) ≤ 6) ∧
 Q (some (M 32 f)) (am_cp M 34 (f * 6) c 0 (M 32 f))) ∧
 (8 ≤ f →
 Q (some 0) M))))) : AC (d + 1) mX1_copyPitches [.inr 31, .inl f, .inr c] M Q := by
  refine aw_body (by decide) (Nat.le_of_ble_eq_true rfl) rfl ?_
  refine aw_iload_n dX1_copyPitches_0 rfl (j := 1) rfl ?_
  obtain ⟨s1, h⟩ := h
  refine aw_if_lt dX1_copyPitches_1 (tgt := 10) rfl s1 (fun c2 => ?_) (fun c2 => ?_)
  · replace h := h.1 c2
    refine aw_iconst dX1_copyPitches_10 ?_
    exact aw_iret dX1_copyPitches_11 rfl h
  · replace h := h.2 c2
    refine aw_iload_n dX1_copyPitches_4 rfl (j := 1) rfl ?_
    refine aw_bipush dX1_copyPitches_5 (by decide) ?_
    refine aw_icmp_lt dX1_copyPitches_7 (tgt := 12) rfl s1 (by decide) (fun c3 => ?_) (fun c3 => ?_)
    · replace h := h.1 c3
      refine aw_aload_n dX1_copyPitches_12 rfl (j := 0) rfl ?_
      refine aw_getr dX1_copyPitches_13 fl_X1_45 rfl rfl ?_
      refine aw_iload_n dX1_copyPitches_16 rfl (j := 1) rfl ?_
      obtain ⟨s4, h⟩ := h
      refine aw_iaload dX1_copyPitches_17 rfl s4 ?_
      refine aw_istore_n (L' := [(0, .inr 31), (1, .inl f), (2, .inr c), (3, .inl (M 32 f))]) dX1_copyPitches_18 rfl (Nat.le_of_ble_eq_true rfl) rfl ?_
      refine aw_aload_n dX1_copyPitches_19 rfl (j := 0) rfl ?_
      refine aw_getr dX1_copyPitches_20 fl_X1_50 rfl rfl ?_
      refine aw_iload_n dX1_copyPitches_23 rfl (j := 1) rfl ?_
      refine aw_bipush dX1_copyPitches_24 (by decide) ?_
      refine aw_imul dX1_copyPitches_26 ?_
      refine aw_aload_n dX1_copyPitches_27 rfl (j := 2) rfl ?_
      refine aw_iconst dX1_copyPitches_28 ?_
      refine aw_iload_n dX1_copyPitches_29 rfl (j := 3) rfl ?_
      obtain ⟨s5, h⟩ := h
      refine aw_copy dX1_copyPitches_30 cp_X1_53 (Nat.succ_pos _) rfl hc (Nat.le_of_ble_eq_true rfl) s5 ?_
      refine aw_iload_n dX1_copyPitches_33 rfl (j := 3) rfl ?_
      exact aw_iret dX1_copyPitches_34 rfl h
    · replace h := h.2 c3
      refine aw_iconst dX1_copyPitches_10 ?_
      exact aw_iret dX1_copyPitches_11 rfl h
theorem sg_X1_scoreAll {d : Nat} {M : am_M} {Q : Option Int → am_M → Prop} (h : AW (d + 2) mX1_scoreAll 15 [(0, .inr 36), (1, .inl ((M 36 4) - 1))] [] (am_fill M 40 49 0) Q) : AC (d + 2) mX1_scoreAll [.inr 36] M Q := by
  refine aw_body (by decide) (Nat.le_of_ble_eq_true rfl) rfl ?_
  refine aw_aload_n dX1_scoreAll_0 rfl (j := 0) rfl ?_
  refine aw_getr dX1_scoreAll_1 fl_X1_21 rfl rfl ?_
  refine aw_iconst dX1_scoreAll_4 ?_
  refine aw_invs (d' := d + 1) (as := [.inr 40, .inl 0]) (rest := []) dX1_scoreAll_5 cs_X1_59 (Nat.lt_succ_self _) rfl rfl (Nat.le_of_ble_eq_true rfl) (fc_fill rfl ?_)
  show AW (d + 2) mX1_scoreAll 8 [(0, .inr 36)] [] (am_fill M 40 49 0) Q
  refine aw_aload_n dX1_scoreAll_8 rfl (j := 0) rfl ?_
  refine aw_getf dX1_scoreAll_9 fl_X1_32 rfl rfl rfl ?_
  refine aw_iconst dX1_scoreAll_12 ?_
  refine aw_isub dX1_scoreAll_13 ?_
  refine aw_istore_n (L' := [(0, .inr 36), (1, .inl ((M 36 4) - 1))]) dX1_scoreAll_14 rfl (Nat.le_of_ble_eq_true rfl) rfl ?_
  exact h
theorem sg_X1_scoreAll_15 {d : Nat} {M : am_M} {Q : Option Int → am_M → Prop} {i : Int} (h : (am_r i) ∧
 ((i < 0 →
 Q none M) ∧
 (0 ≤ i →
 AW (d + 2) mX1_scoreAll 26 [(0, .inr 36), (1, .inl i), (2, .inl ((M 36 5) - 1))] [] M Q))) : AW (d + 2) mX1_scoreAll 15 [(0, .inr 36), (1, .inl i)] [] M Q := by
  refine aw_iload_n dX1_scoreAll_15 rfl (j := 1) rfl ?_
  obtain ⟨s1, h⟩ := h
  refine aw_if_lt dX1_scoreAll_16 (tgt := 93) rfl s1 (fun c2 => ?_) (fun c2 => ?_)
  · replace h := h.1 c2
    exact aw_vret dX1_scoreAll_93 rfl h
  · replace h := h.2 c2
    refine aw_aload_n dX1_scoreAll_19 rfl (j := 0) rfl ?_
    refine aw_getf dX1_scoreAll_20 fl_X1_35 rfl rfl rfl ?_
    refine aw_iconst dX1_scoreAll_23 ?_
    refine aw_isub dX1_scoreAll_24 ?_
    refine aw_istore_n (L' := [(0, .inr 36), (1, .inl i), (2, .inl ((M 36 5) - 1))]) dX1_scoreAll_25 rfl (Nat.le_of_ble_eq_true rfl) rfl ?_
    exact h
theorem sg_X1_scoreAll_26 {d : Nat} {M : am_M} {Q : Option Int → am_M → Prop} {i j : Int} (h : (am_r j) ∧
 ((j < 0 →
 AW (d + 2) mX1_scoreAll 15 [(0, .inr 36), (1, .inl (i + (-1)))] [] M Q) ∧
 (0 ≤ j →
 (0 ≤ ((i + 1) * 7) + j ∧ ((i + 1) * 7) + j < 49) ∧
 (0 ≤ ((i * 7) + j) + 1 ∧ ((i * 7) + j) + 1 < 49) ∧
 (am_r (M 40 (((i + 1) * 7) + j)) ∧ am_r (M 40 (((i * 7) + j) + 1))) ∧
 (am_psok (M 38) (M 39) (M 36 6) i j) ∧
 (am_r (max (M 40 (((i + 1) * 7) + j)) (M 40 (((i * 7) + j) + 1))) ∧ am_r (am_ps (M 38) (M 39) (M 40) (M 36 6) i j)) ∧
 (0 ≤ (i * 7) + j ∧ (i * 7) + j < 49) ∧
 AW (d + 2) mX1_scoreAll 26 [(0, .inr 36), (1, .inl i), (2, .inl (j + (-1)))] [] (am_up M 40 ((i * 7) + j) (max (max (M 40 (((i + 1) * 7) + j)) (M 40 (((i * 7) + j) + 1))) (am_ps (M 38) (M 39) (M 40) (M 36 6) i j))) Q))) : AW (d + 2) mX1_scoreAll 26 [(0, .inr 36), (1, .inl i), (2, .inl j)] [] M Q := by
  refine aw_iload_n dX1_scoreAll_26 rfl (j := 2) rfl ?_
  obtain ⟨s1, h⟩ := h
  refine aw_if_lt dX1_scoreAll_27 (tgt := 87) rfl s1 (fun c2 => ?_) (fun c2 => ?_)
  · replace h := h.1 c2
    refine aw_iinc (L' := [(0, .inr 36), (1, .inl (i + (-1))), (2, .inl j)]) dX1_scoreAll_87 (j := 1) rfl (Nat.le_of_ble_eq_true rfl) rfl ?_
    refine aw_goto dX1_scoreAll_90 (tgt := 15) rfl ?_
    exact aw_sub [0, 1] rfl h
  · replace h := h.2 c2
    refine aw_aload_n dX1_scoreAll_30 rfl (j := 0) rfl ?_
    refine aw_getr dX1_scoreAll_31 fl_X1_21 rfl rfl ?_
    refine aw_iload_n dX1_scoreAll_34 rfl (j := 1) rfl ?_
    refine aw_iconst dX1_scoreAll_35 ?_
    refine aw_iadd dX1_scoreAll_36 ?_
    refine aw_bipush dX1_scoreAll_37 (by decide) ?_
    refine aw_imul dX1_scoreAll_39 ?_
    refine aw_iload_n dX1_scoreAll_40 rfl (j := 2) rfl ?_
    refine aw_iadd dX1_scoreAll_41 ?_
    obtain ⟨s3, h⟩ := h
    refine aw_iaload dX1_scoreAll_42 rfl s3 ?_
    refine aw_aload_n dX1_scoreAll_43 rfl (j := 0) rfl ?_
    refine aw_getr dX1_scoreAll_44 fl_X1_21 rfl rfl ?_
    refine aw_iload_n dX1_scoreAll_47 rfl (j := 1) rfl ?_
    refine aw_bipush dX1_scoreAll_48 (by decide) ?_
    refine aw_imul dX1_scoreAll_50 ?_
    refine aw_iload_n dX1_scoreAll_51 rfl (j := 2) rfl ?_
    refine aw_iadd dX1_scoreAll_52 ?_
    refine aw_iconst dX1_scoreAll_53 ?_
    refine aw_iadd dX1_scoreAll_54 ?_
    obtain ⟨s4, h⟩ := h
    refine aw_iaload dX1_scoreAll_55 rfl s4 ?_
    obtain ⟨s5, h⟩ := h
    refine aw_max dX1_scoreAll_56 cs_X1_65 (Nat.succ_pos _) (Nat.le_of_ble_eq_true rfl) s5 ?_
    refine aw_istore_n (L' := [(0, .inr 36), (1, .inl i), (2, .inl j), (3, .inl (max (M 40 (((i + 1) * 7) + j)) (M 40 (((i * 7) + j) + 1))))]) dX1_scoreAll_59 rfl (Nat.le_of_ble_eq_true rfl) rfl ?_
    refine aw_aload_n dX1_scoreAll_60 rfl (j := 0) rfl ?_
    refine aw_getr dX1_scoreAll_61 fl_X1_21 rfl rfl ?_
    refine aw_iload_n dX1_scoreAll_64 rfl (j := 1) rfl ?_
    refine aw_bipush dX1_scoreAll_65 (by decide) ?_
    refine aw_imul dX1_scoreAll_67 ?_
    refine aw_iload_n dX1_scoreAll_68 rfl (j := 2) rfl ?_
    refine aw_iadd dX1_scoreAll_69 ?_
    refine aw_iload_n dX1_scoreAll_70 rfl (j := 3) rfl ?_
    refine aw_aload_n dX1_scoreAll_71 rfl (j := 0) rfl ?_
    refine aw_iload_n dX1_scoreAll_72 rfl (j := 1) rfl ?_
    refine aw_iload_n dX1_scoreAll_73 rfl (j := 2) rfl ?_
    obtain ⟨s6, h⟩ := h
    refine aw_invv (d' := d + 1) (as := [.inl i, .inl j]) (rest := [.inl (max (M 40 (((i + 1) * 7) + j)) (M 40 (((i * 7) + j) + 1))), .inl ((i * 7) + j), .inr 40]) dX1_scoreAll_74 cv_X1_71 (Nat.lt_succ_self _) rfl rfl rfl rfl rfl (Nat.le_of_ble_eq_true rfl) (fc_pairedScore s6 ?_)
    show AW (d + 2) mX1_scoreAll 77 [(0, .inr 36), (1, .inl i), (2, .inl j), (3, .inl (max (M 40 (((i + 1) * 7) + j)) (M 40 (((i * 7) + j) + 1))))] [.inl (am_ps (M 38) (M 39) (M 40) (M 36 6) i j), .inl (max (M 40 (((i + 1) * 7) + j)) (M 40 (((i * 7) + j) + 1))), .inl ((i * 7) + j), .inr 40] M Q
    obtain ⟨s7, h⟩ := h
    refine aw_max dX1_scoreAll_77 cs_X1_65 (Nat.succ_pos _) (Nat.le_of_ble_eq_true rfl) s7 ?_
    obtain ⟨s8, h⟩ := h
    refine aw_iastore dX1_scoreAll_80 rfl s8 ?_
    refine aw_iinc (L' := [(0, .inr 36), (1, .inl i), (2, .inl (j + (-1))), (3, .inl (max (M 40 (((i + 1) * 7) + j)) (M 40 (((i * 7) + j) + 1))))]) dX1_scoreAll_81 (j := 2) rfl (Nat.le_of_ble_eq_true rfl) rfl ?_
    refine aw_goto dX1_scoreAll_84 (tgt := 26) rfl ?_
    exact aw_sub [0, 1, 2] rfl h
theorem sg_X1_lowestMate {d : Nat} {M : am_M} {Q : Option Int → am_M → Prop} {i fr : Int} (h : AW (d + 2) mX1_lowestMate 2 [(0, .inr 36), (1, .inl i), (2, .inl fr), (3, .inl fr)] [] M Q) : AC (d + 2) mX1_lowestMate [.inr 36, .inl i, .inl fr] M Q := by
  refine aw_body (by decide) (Nat.le_of_ble_eq_true rfl) rfl ?_
  refine aw_iload_n dX1_lowestMate_0 rfl (j := 2) rfl ?_
  refine aw_istore_n (L' := [(0, .inr 36), (1, .inl i), (2, .inl fr), (3, .inl fr)]) dX1_lowestMate_1 rfl (Nat.le_of_ble_eq_true rfl) rfl ?_
  exact h
theorem sg_X1_lowestMate_2 {d : Nat} {M : am_M} {Q : Option Int → am_M → Prop} {i fr j : Int} (h : (am_r j) ∧
 (am_r (M 36 5)) ∧
 ((M 36 5 ≤ j →
 Q (some (-9)) M) ∧
 (j < M 36 5 →
 (am_psok (M 38) (M 39) (M 36 6) i j) ∧
 (0 ≤ (i * 7) + fr ∧ (i * 7) + fr < 49) ∧
 (am_r (am_ps (M 38) (M 39) (M 40) (M 36 6) i j)) ∧
 (am_r (M 40 ((i * 7) + fr))) ∧
 ((am_ps (M 38) (M 39) (M 40) (M 36 6) i j ≠ M 40 ((i * 7) + fr) →
 AW (d + 2) mX1_lowestMate 2 [(0, .inr 36), (1, .inl i), (2, .inl fr), (3, .inl (j + 1))] [] M Q) ∧
 (am_ps (M 38) (M 39) (M 40) (M 36 6) i j = M 40 ((i * 7) + fr) →
 Q (some j) M))))) : AW (d + 2) mX1_lowestMate 2 [(0, .inr 36), (1, .inl i), (2, .inl fr), (3, .inl j)] [] M Q := by
  refine aw_iload_n dX1_lowestMate_2 rfl (j := 3) rfl ?_
  refine aw_aload_n dX1_lowestMate_3 rfl (j := 0) rfl ?_
  refine aw_getf dX1_lowestMate_4 fl_X1_35 rfl rfl rfl ?_
  obtain ⟨s1, h⟩ := h
  obtain ⟨s2, h⟩ := h
  refine aw_icmp_ge dX1_lowestMate_7 (tgt := 38) rfl s1 s2 (fun c3 => ?_) (fun c3 => ?_)
  · replace h := h.1 c3
    refine aw_bipush dX1_lowestMate_38 (by decide) ?_
    exact aw_iret dX1_lowestMate_40 rfl h
  · replace h := h.2 c3
    refine aw_aload_n dX1_lowestMate_10 rfl (j := 0) rfl ?_
    refine aw_iload_n dX1_lowestMate_11 rfl (j := 1) rfl ?_
    refine aw_iload_n dX1_lowestMate_12 rfl (j := 3) rfl ?_
    obtain ⟨s4, h⟩ := h
    refine aw_invv (d' := d + 1) (as := [.inl i, .inl j]) (rest := []) dX1_lowestMate_13 cv_X1_71 (Nat.lt_succ_self _) rfl rfl rfl rfl rfl (Nat.le_of_ble_eq_true rfl) (fc_pairedScore s4 ?_)
    show AW (d + 2) mX1_lowestMate 16 [(0, .inr 36), (1, .inl i), (2, .inl fr), (3, .inl j)] [.inl (am_ps (M 38) (M 39) (M 40) (M 36 6) i j)] M Q
    refine aw_aload_n dX1_lowestMate_16 rfl (j := 0) rfl ?_
    refine aw_getr dX1_lowestMate_17 fl_X1_21 rfl rfl ?_
    refine aw_iload_n dX1_lowestMate_20 rfl (j := 1) rfl ?_
    refine aw_bipush dX1_lowestMate_21 (by decide) ?_
    refine aw_imul dX1_lowestMate_23 ?_
    refine aw_iload_n dX1_lowestMate_24 rfl (j := 2) rfl ?_
    refine aw_iadd dX1_lowestMate_25 ?_
    obtain ⟨s5, h⟩ := h
    refine aw_iaload dX1_lowestMate_26 rfl s5 ?_
    obtain ⟨s6, h⟩ := h
    obtain ⟨s7, h⟩ := h
    refine aw_icmp_ne dX1_lowestMate_27 (tgt := 32) rfl s6 s7 (fun c8 => ?_) (fun c8 => ?_)
    · replace h := h.1 c8
      refine aw_iinc (L' := [(0, .inr 36), (1, .inl i), (2, .inl fr), (3, .inl (j + 1))]) dX1_lowestMate_32 (j := 3) rfl (Nat.le_of_ble_eq_true rfl) rfl ?_
      refine aw_goto dX1_lowestMate_35 (tgt := 2) rfl ?_
      exact h
    · replace h := h.2 c8
      refine aw_iload_n dX1_lowestMate_30 rfl (j := 3) rfl ?_
      exact aw_iret dX1_lowestMate_31 rfl h
theorem sg_X1_chooseMates {d : Nat} {M : am_M} {Q : Option Int → am_M → Prop} (h : AW (d + 3) mX1_chooseMates 15 [(0, .inr 36), (1, .inl 0), (2, .inl 0), (3, .inl 0)] [] (am_fill M 37 6 (-9)) Q) : AC (d + 3) mX1_chooseMates [.inr 36] M Q := by
  refine aw_body (by decide) (Nat.le_of_ble_eq_true rfl) rfl ?_
  refine aw_aload_n dX1_chooseMates_0 rfl (j := 0) rfl ?_
  refine aw_getr dX1_chooseMates_1 fl_X1_9 rfl rfl ?_
  refine aw_bipush dX1_chooseMates_4 (by decide) ?_
  refine aw_invs (d' := d + 2) (as := [.inr 37, .inl (-9)]) (rest := []) dX1_chooseMates_6 cs_X1_59 (Nat.lt_succ_self _) rfl rfl (Nat.le_of_ble_eq_true rfl) (fc_fill rfl ?_)
  show AW (d + 3) mX1_chooseMates 9 [(0, .inr 36)] [] (am_fill M 37 6 (-9)) Q
  refine aw_iconst dX1_chooseMates_9 ?_
  refine aw_istore_n (L' := [(0, .inr 36), (1, .inl 0)]) dX1_chooseMates_10 rfl (Nat.le_of_ble_eq_true rfl) rfl ?_
  refine aw_iconst dX1_chooseMates_11 ?_
  refine aw_istore_n (L' := [(0, .inr 36), (1, .inl 0), (2, .inl 0)]) dX1_chooseMates_12 rfl (Nat.le_of_ble_eq_true rfl) rfl ?_
  refine aw_iconst dX1_chooseMates_13 ?_
  refine aw_istore_n (L' := [(0, .inr 36), (1, .inl 0), (2, .inl 0), (3, .inl 0)]) dX1_chooseMates_14 rfl (Nat.le_of_ble_eq_true rfl) rfl ?_
  exact h
theorem sg_X1_chooseMates_15 {d : Nat} {M : am_M} {Q : Option Int → am_M → Prop} {pr fr i : Int} (h : (am_r i) ∧
 (am_r (M 36 4)) ∧
 ((M 36 4 ≤ i →
 Q (some pr) M) ∧
 (i < M 36 4 →
 AC (d + 2) mX1_lowestMate [.inr 36, .inl i, .inl fr] M (fun r M4 => ∃ z5, r = some z5 ∧
 (am_r z5) ∧
 ((z5 = (-9) →
 AW (d + 3) mX1_chooseMates 15 [(0, .inr 36), (1, .inl pr), (2, .inl fr), (3, .inl (i + 1))] [] M4 Q) ∧
 (z5 ≠ (-9) →
 (0 ≤ i ∧ i < 6) ∧
 AW (d + 3) mX1_chooseMates 15 [(0, .inr 36), (1, .inl (pr + 1)), (2, .inl (z5 + 1)), (3, .inl (i + 1))] [] (am_up M4 37 i z5) Q)))))) : AW (d + 3) mX1_chooseMates 15 [(0, .inr 36), (1, .inl pr), (2, .inl fr), (3, .inl i)] [] M Q := by
  refine aw_iload_n dX1_chooseMates_15 rfl (j := 3) rfl ?_
  refine aw_aload_n dX1_chooseMates_16 rfl (j := 0) rfl ?_
  refine aw_getf dX1_chooseMates_17 fl_X1_32 rfl rfl rfl ?_
  obtain ⟨s1, h⟩ := h
  obtain ⟨s2, h⟩ := h
  refine aw_icmp_ge dX1_chooseMates_20 (tgt := 60) rfl s1 s2 (fun c3 => ?_) (fun c3 => ?_)
  · replace h := h.1 c3
    refine aw_iload_n dX1_chooseMates_60 rfl (j := 1) rfl ?_
    exact aw_iret dX1_chooseMates_61 rfl h
  · replace h := h.2 c3
    refine aw_aload_n dX1_chooseMates_23 rfl (j := 0) rfl ?_
    refine aw_iload_n dX1_chooseMates_24 rfl (j := 3) rfl ?_
    refine aw_iload_n dX1_chooseMates_25 rfl (j := 2) rfl ?_
    refine aw_invv (d' := d + 2) (as := [.inl i, .inl fr]) (rest := []) dX1_chooseMates_26 cv_X1_78 (Nat.lt_succ_self _) rfl rfl rfl rfl rfl (Nat.le_of_ble_eq_true rfl) (AC.mono ?_ h)
    intro r M4 h
    obtain ⟨z5, rfl, h⟩ := h
    show AW (d + 3) mX1_chooseMates 29 [(0, .inr 36), (1, .inl pr), (2, .inl fr), (3, .inl i)] [.inl z5] M4 Q
    refine aw_istore (L' := [(0, .inr 36), (1, .inl pr), (2, .inl fr), (3, .inl i), (4, .inl z5)]) dX1_chooseMates_29 (Nat.le_of_ble_eq_true rfl) rfl ?_
    refine aw_iload dX1_chooseMates_31 (j := 4) rfl ?_
    refine aw_bipush dX1_chooseMates_33 (by decide) ?_
    obtain ⟨s6, h⟩ := h
    refine aw_icmp_eq dX1_chooseMates_35 (tgt := 54) rfl s6 (by decide) (fun c7 => ?_) (fun c7 => ?_)
    · replace h := h.1 c7
      refine aw_iinc (L' := [(0, .inr 36), (1, .inl pr), (2, .inl fr), (3, .inl (i + 1)), (4, .inl z5)]) dX1_chooseMates_54 (j := 3) rfl (Nat.le_of_ble_eq_true rfl) rfl ?_
      refine aw_goto dX1_chooseMates_57 (tgt := 15) rfl ?_
      exact aw_sub [0, 1, 2, 3] rfl h
    · replace h := h.2 c7
      refine aw_aload_n dX1_chooseMates_38 rfl (j := 0) rfl ?_
      refine aw_getr dX1_chooseMates_39 fl_X1_9 rfl rfl ?_
      refine aw_iload_n dX1_chooseMates_42 rfl (j := 3) rfl ?_
      refine aw_iload dX1_chooseMates_43 (j := 4) rfl ?_
      obtain ⟨s8, h⟩ := h
      refine aw_iastore dX1_chooseMates_45 rfl s8 ?_
      refine aw_iload dX1_chooseMates_46 (j := 4) rfl ?_
      refine aw_iconst dX1_chooseMates_48 ?_
      refine aw_iadd dX1_chooseMates_49 ?_
      refine aw_istore_n (L' := [(0, .inr 36), (1, .inl pr), (2, .inl (z5 + 1)), (3, .inl i), (4, .inl z5)]) dX1_chooseMates_50 rfl (Nat.le_of_ble_eq_true rfl) rfl ?_
      refine aw_iinc (L' := [(0, .inr 36), (1, .inl (pr + 1)), (2, .inl (z5 + 1)), (3, .inl i), (4, .inl z5)]) dX1_chooseMates_51 (j := 1) rfl (Nat.le_of_ble_eq_true rfl) rfl ?_
      refine aw_iinc (L' := [(0, .inr 36), (1, .inl (pr + 1)), (2, .inl (z5 + 1)), (3, .inl (i + 1)), (4, .inl z5)]) dX1_chooseMates_54 (j := 3) rfl (Nat.le_of_ble_eq_true rfl) rfl ?_
      refine aw_goto dX1_chooseMates_57 (tgt := 15) rfl ?_
      exact aw_sub [0, 1, 2, 3] rfl h
theorem sg_X1_join {d : Nat} {M : am_M} {Q : Option Int → am_M → Prop} {f re : Int} (h : AC (d + 3) mX1_copyPitches [.inr 31, .inl f, .inr 38] (am_up M 36 6 re) (fun r M1 => ∃ z2, r = some z2 ∧
 AC (d + 3) mX1_copyPitches [.inr 31, .inl (f + 1), .inr 39] (am_up M1 36 4 z2) (fun r M3 => ∃ z4, r = some z4 ∧
 AC (d + 3) mX1_scoreAll [.inr 36] (am_up M3 36 5 z4) (fun r M5 => r = none ∧
 AC (d + 3) mX1_chooseMates [.inr 36] M5 (fun r M6 => ∃ z7, r = some z7 ∧
 Q (some z7) M6))))) : AC (d + 4) mX1_join [.inr 36, .inr 31, .inl f, .inl re] M Q := by
  refine aw_body (by decide) (Nat.le_of_ble_eq_true rfl) rfl ?_
  refine aw_aload_n dX1_join_0 rfl (j := 0) rfl ?_
  refine aw_iload_n dX1_join_1 rfl (j := 3) rfl ?_
  refine aw_putf dX1_join_2 pf_X1_24 rfl rfl rfl ?_
  refine aw_aload_n dX1_join_5 rfl (j := 0) rfl ?_
  refine aw_aload_n dX1_join_6 rfl (j := 1) rfl ?_
  refine aw_iload_n dX1_join_7 rfl (j := 2) rfl ?_
  refine aw_aload_n dX1_join_8 rfl (j := 0) rfl ?_
  refine aw_getr dX1_join_9 fl_X1_15 rfl rfl ?_
  refine aw_invs (d' := d + 3) (as := [.inr 31, .inl f, .inr 38]) (rest := [.inr 36]) dX1_join_12 cs_X1_28 (Nat.lt_succ_self _) rfl rfl (Nat.le_of_ble_eq_true rfl) (AC.mono ?_ h)
  intro r M1 h
  obtain ⟨z2, rfl, h⟩ := h
  show AW (d + 4) mX1_join 15 [(0, .inr 36), (1, .inr 31), (2, .inl f), (3, .inl re)] [.inl z2, .inr 36] M1 Q
  refine aw_putf dX1_join_15 pf_X1_32 rfl rfl rfl ?_
  refine aw_aload_n dX1_join_18 rfl (j := 0) rfl ?_
  refine aw_aload_n dX1_join_19 rfl (j := 1) rfl ?_
  refine aw_iload_n dX1_join_20 rfl (j := 2) rfl ?_
  refine aw_iconst dX1_join_21 ?_
  refine aw_iadd dX1_join_22 ?_
  refine aw_aload_n dX1_join_23 rfl (j := 0) rfl ?_
  refine aw_getr dX1_join_24 fl_X1_18 rfl rfl ?_
  refine aw_invs (d' := d + 3) (as := [.inr 31, .inl (f + 1), .inr 39]) (rest := [.inr 36]) dX1_join_27 cs_X1_28 (Nat.lt_succ_self _) rfl rfl (Nat.le_of_ble_eq_true rfl) (AC.mono ?_ h)
  intro r M3 h
  obtain ⟨z4, rfl, h⟩ := h
  show AW (d + 4) mX1_join 30 [(0, .inr 36), (1, .inr 31), (2, .inl f), (3, .inl re)] [.inl z4, .inr 36] M3 Q
  refine aw_putf dX1_join_30 pf_X1_35 rfl rfl rfl ?_
  refine aw_aload_n dX1_join_33 rfl (j := 0) rfl ?_
  refine aw_invv (d' := d + 3) (as := []) (rest := []) dX1_join_34 cv_X1_38 (Nat.lt_succ_self _) rfl rfl rfl rfl rfl (Nat.le_of_ble_eq_true rfl) (AC.mono ?_ h)
  intro r M5 h
  obtain ⟨rfl, h⟩ := h
  show AW (d + 4) mX1_join 37 [(0, .inr 36), (1, .inr 31), (2, .inl f), (3, .inl re)] [] M5 Q
  refine aw_aload_n dX1_join_37 rfl (j := 0) rfl ?_
  refine aw_invv (d' := d + 3) (as := []) (rest := []) dX1_join_38 cv_X1_41 (Nat.lt_succ_self _) rfl rfl rfl rfl rfl (Nat.le_of_ble_eq_true rfl) (AC.mono ?_ h)
  intro r M6 h
  obtain ⟨z7, rfl, h⟩ := h
  show AW (d + 4) mX1_join 41 [(0, .inr 36), (1, .inr 31), (2, .inl f), (3, .inl re)] [.inl z7] M6 Q
  exact aw_iret dX1_join_41 rfl h
