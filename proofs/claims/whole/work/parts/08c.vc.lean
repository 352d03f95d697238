theorem sg_X5_append {d : Nat} {M : am_M} {Q : Option Int → am_M → Prop} {c : Int} (h : (am_r (M 7 0)) ∧
 ((140 ≤ M 7 0 →
 Q none M) ∧
 (M 7 0 < 140 →
 (0 ≤ M 7 0 ∧ M 7 0 < 140) ∧
 (0 ≤ c ∧ c < 256) ∧
 Q none (am_up (am_up M 8 (M 7 0) c) 7 0 ((M 7 0) + 1))))) : AC (d) mX5_append [.inr 7, .inl c] M Q := by
  refine aw_body (by decide) (Nat.le_of_ble_eq_true rfl) rfl ?_
  refine aw_aload_n dX5_append_0 rfl (j := 0) rfl ?_
  refine aw_getf dX5_append_1 fl_X5_15 rfl rfl rfl ?_
  refine aw_sipush dX5_append_4 (by decide) ?_
  obtain ⟨s1, h⟩ := h
  refine aw_icmp_ge dX5_append_7 (tgt := 30) rfl s1 (by decide) (fun c2 => ?_) (fun c2 => ?_)
  · replace h := h.1 c2
    exact aw_vret dX5_append_30 rfl h
  · replace h := h.2 c2
    refine aw_aload_n dX5_append_10 rfl (j := 0) rfl ?_
    refine aw_getr dX5_append_11 fl_X5_9 rfl rfl ?_
    refine aw_aload_n dX5_append_14 rfl (j := 0) rfl ?_
    refine aw_getf dX5_append_15 fl_X5_15 rfl rfl rfl ?_
    refine aw_iload_n dX5_append_18 rfl (j := 1) rfl ?_
    obtain ⟨s3, h⟩ := h
    obtain ⟨s4, h⟩ := h
    refine aw_castore dX5_append_19 rfl s3 s4 ?_
    refine aw_aload_n dX5_append_20 rfl (j := 0) rfl ?_
    refine aw_dup dX5_append_21 ?_
    refine aw_getf dX5_append_22 fl_X5_15 rfl rfl rfl ?_
    refine aw_iconst dX5_append_25 ?_
    refine aw_iadd dX5_append_26 ?_
    refine aw_putf dX5_append_27 pf_X5_15 rfl rfl rfl ?_
    exact aw_vret dX5_append_30 rfl h
theorem sg_X5_nextToken {d : Nat} {M : am_M} {Q : Option Int → am_M → Prop} (h : AW (d + 1) mX5_nextToken 5 [(0, .inr 7), (1, .inl (M 7 4))] [] M Q) : AC (d + 1) mX5_nextToken [.inr 7] M Q := by
  refine aw_body (by decide) (Nat.le_of_ble_eq_true rfl) rfl ?_
  refine aw_aload_n dX5_nextToken_0 rfl (j := 0) rfl ?_
  refine aw_getf dX5_nextToken_1 fl_X5_24 rfl rfl rfl ?_
  refine aw_istore_n (L' := [(0, .inr 7), (1, .inl (M 7 4))]) dX5_nextToken_4 rfl (Nat.le_of_ble_eq_true rfl) rfl ?_
  exact h
theorem sg_X5_nextToken_5 {d : Nat} {M : am_M} {Q : Option Int → am_M → Prop} {x : Int} (h : (am_r x) ∧
 (am_r (M 7 0)) ∧
 ((M 7 0 ≤ x →
 (am_kdok (M 7 0) (M 8) x) ∧
 (am_r (am_kd (M 7 0) (M 8) x)) ∧
 ((am_kd (M 7 0) (M 8) x = 0 →
 ((am_kd (M 7 0) (M 8) x = 1 →
 AW (d + 1) mX5_nextToken 70 [(0, .inr 7), (1, .inl x)] [] (am_up (am_up M 7 3 x) 7 2 (am_kd (M 7 0) (M 8) x)) Q) ∧
 (am_kd (M 7 0) (M 8) x ≠ 1 →
 ((am_kd (M 7 0) (M 8) x ≠ 2 →
 Q none (am_up (am_up (am_up M 7 3 x) 7 2 (am_kd (M 7 0) (M 8) x)) 7 4 x)) ∧
 (am_kd (M 7 0) (M 8) x = 2 →
 AW (d + 1) mX5_nextToken 70 [(0, .inr 7), (1, .inl x)] [] (am_up (am_up M 7 3 x) 7 2 (am_kd (M 7 0) (M 8) x)) Q))))) ∧
 (am_kd (M 7 0) (M 8) x ≠ 0 →
 ((am_kd (M 7 0) (M 8) x = 1 →
 AW (d + 1) mX5_nextToken 70 [(0, .inr 7), (1, .inl (x + 1))] [] (am_up (am_up M 7 3 x) 7 2 (am_kd (M 7 0) (M 8) x)) Q) ∧
 (am_kd (M 7 0) (M 8) x ≠ 1 →
 ((am_kd (M 7 0) (M 8) x ≠ 2 →
 Q none (am_up (am_up (am_up M 7 3 x) 7 2 (am_kd (M 7 0) (M 8) x)) 7 4 (x + 1))) ∧
 (am_kd (M 7 0) (M 8) x = 2 →
 AW (d + 1) mX5_nextToken 70 [(0, .inr 7), (1, .inl (x + 1))] [] (am_up (am_up M 7 3 x) 7 2 (am_kd (M 7 0) (M 8) x)) Q))))))) ∧
 (x < M 7 0 →
 (0 ≤ x ∧ x < 140) ∧
 (am_r (M 8 x)) ∧
 ((M 8 x ≠ 32 →
 (am_kdok (M 7 0) (M 8) x) ∧
 (am_r (am_kd (M 7 0) (M 8) x)) ∧
 ((am_kd (M 7 0) (M 8) x = 0 →
 ((am_kd (M 7 0) (M 8) x = 1 →
 AW (d + 1) mX5_nextToken 70 [(0, .inr 7), (1, .inl x)] [] (am_up (am_up M 7 3 x) 7 2 (am_kd (M 7 0) (M 8) x)) Q) ∧
 (am_kd (M 7 0) (M 8) x ≠ 1 →
 ((am_kd (M 7 0) (M 8) x ≠ 2 →
 Q none (am_up (am_up (am_up M 7 3 x) 7 2 (am_kd (M 7 0) (M 8) x)) 7 4 x)) ∧
 (am_kd (M 7 0) (M 8) x = 2 →
 AW (d + 1) mX5_nextToken 70 [(0, .inr 7), (1, .inl x)] [] (am_up (am_up M 7 3 x) 7 2 (am_kd (M 7 0) (M 8) x)) Q))))) ∧
 (am_kd (M 7 0) (M 8) x ≠ 0 →
 ((am_kd (M 7 0) (M 8) x = 1 →
 AW (d + 1) mX5_nextToken 70 [(0, .inr 7), (1, .inl (x + 1))] [] (am_up (am_up M 7 3 x) 7 2 (am_kd (M 7 0) (M 8) x)) Q) ∧
 (am_kd (M 7 0) (M 8) x ≠ 1 →
 ((am_kd (M 7 0) (M 8) x ≠ 2 →
 Q none (am_up (am_up (am_up M 7 3 x) 7 2 (am_kd (M 7 0) (M 8) x)) 7 4 (x + 1))) ∧
 (am_kd (M 7 0) (M 8) x = 2 →
 AW (d + 1) mX5_nextToken 70 [(0, .inr 7), (1, .inl (x + 1))] [] (am_up (am_up M 7 3 x) 7 2 (am_kd (M 7 0) (M 8) x)) Q))))))) ∧
 (M 8 x = 32 →
 AW (d + 1) mX5_nextToken 5 [(0, .inr 7), (1, .inl (x + 1))] [] M Q))))) : AW (d + 1) mX5_nextToken 5 [(0, .inr 7), (1, .inl x)] [] M Q := by
  refine aw_iload_n dX5_nextToken_5 rfl (j := 1) rfl ?_
  refine aw_aload_n dX5_nextToken_6 rfl (j := 0) rfl ?_
  refine aw_getf dX5_nextToken_7 fl_X5_15 rfl rfl rfl ?_
  obtain ⟨s1, h⟩ := h
  obtain ⟨s2, h⟩ := h
  refine aw_icmp_ge dX5_nextToken_10 (tgt := 30) rfl s1 s2 (fun c3 => ?_) (fun c3 => ?_)
  · replace h := h.1 c3
    refine aw_aload_n dX5_nextToken_30 rfl (j := 0) rfl ?_
    refine aw_iload_n dX5_nextToken_31 rfl (j := 1) rfl ?_
    refine aw_putf dX5_nextToken_32 pf_X5_40 rfl rfl rfl ?_
    refine aw_aload_n dX5_nextToken_35 rfl (j := 0) rfl ?_
    refine aw_aload_n dX5_nextToken_36 rfl (j := 0) rfl ?_
    refine aw_iload_n dX5_nextToken_37 rfl (j := 1) rfl ?_
    obtain ⟨s4, h⟩ := h
    refine aw_invv (d' := d) (as := [.inl x]) (rest := [.inr 7]) dX5_nextToken_38 cv_X5_85 (Nat.lt_succ_self _) rfl rfl rfl rfl rfl (Nat.le_of_ble_eq_true rfl) (fc_kindAt s4 ?_)
    show AW (d + 1) mX5_nextToken 41 [(0, .inr 7), (1, .inl x)] [.inl (am_kd (M 7 0) (M 8) x), .inr 7] (am_up M 7 3 x) Q
    refine aw_putf dX5_nextToken_41 pf_X5_30 rfl rfl rfl ?_
    refine aw_aload_n dX5_nextToken_44 rfl (j := 0) rfl ?_
    refine aw_getf dX5_nextToken_45 fl_X5_30 rfl rfl rfl ?_
    obtain ⟨s5, h⟩ := h
    refine aw_if_eq dX5_nextToken_48 (tgt := 54) rfl s5 (fun c6 => ?_) (fun c6 => ?_)
    · replace h := h.1 c6
      refine aw_aload_n dX5_nextToken_54 rfl (j := 0) rfl ?_
      refine aw_getf dX5_nextToken_55 fl_X5_30 rfl rfl rfl ?_
      refine aw_iconst dX5_nextToken_58 ?_
      refine aw_icmp_eq dX5_nextToken_59 (tgt := 70) rfl s5 (by decide) (fun c7 => ?_) (fun c7 => ?_)
      · replace h := h.1 c7
        exact h
      · replace h := h.2 c7
        refine aw_aload_n dX5_nextToken_62 rfl (j := 0) rfl ?_
        refine aw_getf dX5_nextToken_63 fl_X5_30 rfl rfl rfl ?_
        refine aw_iconst dX5_nextToken_66 ?_
        refine aw_icmp_ne dX5_nextToken_67 (tgt := 96) rfl s5 (by decide) (fun c8 => ?_) (fun c8 => ?_)
        · replace h := h.1 c8
          refine aw_aload_n dX5_nextToken_96 rfl (j := 0) rfl ?_
          refine aw_iload_n dX5_nextToken_97 rfl (j := 1) rfl ?_
          refine aw_putf dX5_nextToken_98 pf_X5_24 rfl rfl rfl ?_
          exact aw_vret dX5_nextToken_101 rfl h
        · replace h := h.2 c8
          exact h
    · replace h := h.2 c6
      refine aw_iinc (L' := [(0, .inr 7), (1, .inl (x + 1))]) dX5_nextToken_51 (j := 1) rfl (Nat.le_of_ble_eq_true rfl) rfl ?_
      refine aw_aload_n dX5_nextToken_54 rfl (j := 0) rfl ?_
      refine aw_getf dX5_nextToken_55 fl_X5_30 rfl rfl rfl ?_
      refine aw_iconst dX5_nextToken_58 ?_
      refine aw_icmp_eq dX5_nextToken_59 (tgt := 70) rfl s5 (by decide) (fun c9 => ?_) (fun c9 => ?_)
      · replace h := h.1 c9
        exact h
      · replace h := h.2 c9
        refine aw_aload_n dX5_nextToken_62 rfl (j := 0) rfl ?_
        refine aw_getf dX5_nextToken_63 fl_X5_30 rfl rfl rfl ?_
        refine aw_iconst dX5_nextToken_66 ?_
        refine aw_icmp_ne dX5_nextToken_67 (tgt := 96) rfl s5 (by decide) (fun c10 => ?_) (fun c10 => ?_)
        · replace h := h.1 c10
          refine aw_aload_n dX5_nextToken_96 rfl (j := 0) rfl ?_
          refine aw_iload_n dX5_nextToken_97 rfl (j := 1) rfl ?_
          refine aw_putf dX5_nextToken_98 pf_X5_24 rfl rfl rfl ?_
          exact aw_vret dX5_nextToken_101 rfl h
        · replace h := h.2 c10
          exact h
  · replace h := h.2 c3
    refine aw_aload_n dX5_nextToken_13 rfl (j := 0) rfl ?_
    refine aw_getr dX5_nextToken_14 fl_X5_9 rfl rfl ?_
    refine aw_iload_n dX5_nextToken_17 rfl (j := 1) rfl ?_
    obtain ⟨s11, h⟩ := h
    refine aw_caload dX5_nextToken_18 rfl s11 ?_
    refine aw_bipush dX5_nextToken_19 (by decide) ?_
    obtain ⟨s12, h⟩ := h
    refine aw_icmp_ne dX5_nextToken_21 (tgt := 30) rfl s12 (by decide) (fun c13 => ?_) (fun c13 => ?_)
    · replace h := h.1 c13
      refine aw_aload_n dX5_nextToken_30 rfl (j := 0) rfl ?_
      refine aw_iload_n dX5_nextToken_31 rfl (j := 1) rfl ?_
      refine aw_putf dX5_nextToken_32 pf_X5_40 rfl rfl rfl ?_
      refine aw_aload_n dX5_nextToken_35 rfl (j := 0) rfl ?_
      refine aw_aload_n dX5_nextToken_36 rfl (j := 0) rfl ?_
      refine aw_iload_n dX5_nextToken_37 rfl (j := 1) rfl ?_
      obtain ⟨s14, h⟩ := h
      refine aw_invv (d' := d) (as := [.inl x]) (rest := [.inr 7]) dX5_nextToken_38 cv_X5_85 (Nat.lt_succ_self _) rfl rfl rfl rfl rfl (Nat.le_of_ble_eq_true rfl) (fc_kindAt s14 ?_)
      show AW (d + 1) mX5_nextToken 41 [(0, .inr 7), (1, .inl x)] [.inl (am_kd (M 7 0) (M 8) x), .inr 7] (am_up M 7 3 x) Q
      refine aw_putf dX5_nextToken_41 pf_X5_30 rfl rfl rfl ?_
      refine aw_aload_n dX5_nextToken_44 rfl (j := 0) rfl ?_
      refine aw_getf dX5_nextToken_45 fl_X5_30 rfl rfl rfl ?_
      obtain ⟨s15, h⟩ := h
      refine aw_if_eq dX5_nextToken_48 (tgt := 54) rfl s15 (fun c16 => ?_) (fun c16 => ?_)
      · replace h := h.1 c16
        refine aw_aload_n dX5_nextToken_54 rfl (j := 0) rfl ?_
        refine aw_getf dX5_nextToken_55 fl_X5_30 rfl rfl rfl ?_
        refine aw_iconst dX5_nextToken_58 ?_
        refine aw_icmp_eq dX5_nextToken_59 (tgt := 70) rfl s15 (by decide) (fun c17 => ?_) (fun c17 => ?_)
        · replace h := h.1 c17
          exact h
        · replace h := h.2 c17
          refine aw_aload_n dX5_nextToken_62 rfl (j := 0) rfl ?_
          refine aw_getf dX5_nextToken_63 fl_X5_30 rfl rfl rfl ?_
          refine aw_iconst dX5_nextToken_66 ?_
          refine aw_icmp_ne dX5_nextToken_67 (tgt := 96) rfl s15 (by decide) (fun c18 => ?_) (fun c18 => ?_)
          · replace h := h.1 c18
            refine aw_aload_n dX5_nextToken_96 rfl (j := 0) rfl ?_
            refine aw_iload_n dX5_nextToken_97 rfl (j := 1) rfl ?_
            refine aw_putf dX5_nextToken_98 pf_X5_24 rfl rfl rfl ?_
            exact aw_vret dX5_nextToken_101 rfl h
          · replace h := h.2 c18
            exact h
      · replace h := h.2 c16
        refine aw_iinc (L' := [(0, .inr 7), (1, .inl (x + 1))]) dX5_nextToken_51 (j := 1) rfl (Nat.le_of_ble_eq_true rfl) rfl ?_
        refine aw_aload_n dX5_nextToken_54 rfl (j := 0) rfl ?_
        refine aw_getf dX5_nextToken_55 fl_X5_30 rfl rfl rfl ?_
        refine aw_iconst dX5_nextToken_58 ?_
        refine aw_icmp_eq dX5_nextToken_59 (tgt := 70) rfl s15 (by decide) (fun c19 => ?_) (fun c19 => ?_)
        · replace h := h.1 c19
          exact h
        · replace h := h.2 c19
          refine aw_aload_n dX5_nextToken_62 rfl (j := 0) rfl ?_
          refine aw_getf dX5_nextToken_63 fl_X5_30 rfl rfl rfl ?_
          refine aw_iconst dX5_nextToken_66 ?_
          refine aw_icmp_ne dX5_nextToken_67 (tgt := 96) rfl s15 (by decide) (fun c20 => ?_) (fun c20 => ?_)
          · replace h := h.1 c20
            refine aw_aload_n dX5_nextToken_96 rfl (j := 0) rfl ?_
            refine aw_iload_n dX5_nextToken_97 rfl (j := 1) rfl ?_
            refine aw_putf dX5_nextToken_98 pf_X5_24 rfl rfl rfl ?_
            exact aw_vret dX5_nextToken_101 rfl h
          · replace h := h.2 c20
            exact h
    · replace h := h.2 c13
      refine aw_iinc (L' := [(0, .inr 7), (1, .inl (x + 1))]) dX5_nextToken_24 (j := 1) rfl (Nat.le_of_ble_eq_true rfl) rfl ?_
      refine aw_goto dX5_nextToken_27 (tgt := 5) rfl ?_
      exact h
theorem sg_X5_nextToken_70 {d : Nat} {M : am_M} {Q : Option Int → am_M → Prop} {x : Int} (h : (am_r x) ∧
 (am_r (M 7 0)) ∧
 ((M 7 0 ≤ x →
 Q none (am_up M 7 4 x)) ∧
 (x < M 7 0 →
 (am_kdok (M 7 0) (M 8) x) ∧
 (am_r (am_kd (M 7 0) (M 8) x)) ∧
 (am_r (M 7 2)) ∧
 ((am_kd (M 7 0) (M 8) x ≠ M 7 2 →
 Q none (am_up M 7 4 x)) ∧
 (am_kd (M 7 0) (M 8) x = M 7 2 →
 AW (d + 1) mX5_nextToken 70 [(0, .inr 7), (1, .inl (x + 1))] [] M Q))))) : AW (d + 1) mX5_nextToken 70 [(0, .inr 7), (1, .inl x)] [] M Q := by
  refine aw_iload_n dX5_nextToken_70 rfl (j := 1) rfl ?_
  refine aw_aload_n dX5_nextToken_71 rfl (j := 0) rfl ?_
  refine aw_getf dX5_nextToken_72 fl_X5_15 rfl rfl rfl ?_
  obtain ⟨s1, h⟩ := h
  obtain ⟨s2, h⟩ := h
  refine aw_icmp_ge dX5_nextToken_75 (tgt := 96) rfl s1 s2 (fun c3 => ?_) (fun c3 => ?_)
  · replace h := h.1 c3
    refine aw_aload_n dX5_nextToken_96 rfl (j := 0) rfl ?_
    refine aw_iload_n dX5_nextToken_97 rfl (j := 1) rfl ?_
    refine aw_putf dX5_nextToken_98 pf_X5_24 rfl rfl rfl ?_
    exact aw_vret dX5_nextToken_101 rfl h
  · replace h := h.2 c3
    refine aw_aload_n dX5_nextToken_78 rfl (j := 0) rfl ?_
    refine aw_iload_n dX5_nextToken_79 rfl (j := 1) rfl ?_
    obtain ⟨s4, h⟩ := h
    refine aw_invv (d' := d) (as := [.inl x]) (rest := []) dX5_nextToken_80 cv_X5_85 (Nat.lt_succ_self _) rfl rfl rfl rfl rfl (Nat.le_of_ble_eq_true rfl) (fc_kindAt s4 ?_)
    show AW (d + 1) mX5_nextToken 83 [(0, .inr 7), (1, .inl x)] [.inl (am_kd (M 7 0) (M 8) x)] M Q
    refine aw_aload_n dX5_nextToken_83 rfl (j := 0) rfl ?_
    refine aw_getf dX5_nextToken_84 fl_X5_30 rfl rfl rfl ?_
    obtain ⟨s5, h⟩ := h
    obtain ⟨s6, h⟩ := h
    refine aw_icmp_ne dX5_nextToken_87 (tgt := 96) rfl s5 s6 (fun c7 => ?_) (fun c7 => ?_)
    · replace h := h.1 c7
      refine aw_aload_n dX5_nextToken_96 rfl (j := 0) rfl ?_
      refine aw_iload_n dX5_nextToken_97 rfl (j := 1) rfl ?_
      refine aw_putf dX5_nextToken_98 pf_X5_24 rfl rfl rfl ?_
      exact aw_vret dX5_nextToken_101 rfl h
    · replace h := h.2 c7
      refine aw_iinc (L' := [(0, .inr 7), (1, .inl (x + 1))]) dX5_nextToken_90 (j := 1) rfl (Nat.le_of_ble_eq_true rfl) rfl ?_
      refine aw_goto dX5_nextToken_93 (tgt := 70) rfl ?_
      exact h
theorem sg_X5_isWord {d : Nat} {M : am_M} {Q : Option Int → am_M → Prop} {w : Nat} (hw : w < 4) (h : (am_r (M 7 2)) ∧
 ((M 7 2 ≠ 1 →
 Q (some 0) M) ∧
 (M 7 2 = 1 →
 AC (d + 3) mJ0_length [.inr (110 + w)] M (fun r M3 => ∃ z4, r = some z4 ∧
 (am_r ((M 7 4) - (M 7 3))) ∧
 (am_r z4) ∧
 (((M 7 4) - (M 7 3) = z4 →
 AW (d + 4) mX5_isWord 28 [(0, .inr 7), (1, .inr (110 + w)), (2, .inl 0)] [] M3 Q) ∧
 ((M 7 4) - (M 7 3) ≠ z4 →
 Q (some 0) M3)))))) : AC (d + 4) mX5_isWord [.inr 7, .inr (110 + w)] M Q := by
  refine aw_body (by decide) (Nat.le_of_ble_eq_true rfl) rfl ?_
  refine aw_aload_n dX5_isWord_0 rfl (j := 0) rfl ?_
  refine aw_getf dX5_isWord_1 fl_X5_30 rfl rfl rfl ?_
  refine aw_iconst dX5_isWord_4 ?_
  obtain ⟨s1, h⟩ := h
  refine aw_icmp_ne dX5_isWord_5 (tgt := 24) rfl s1 (by decide) (fun c2 => ?_) (fun c2 => ?_)
  · replace h := h.1 c2
    refine aw_iconst dX5_isWord_24 ?_
    exact aw_zret dX5_isWord_25 rfl (Or.inl rfl) h
  · replace h := h.2 c2
    refine aw_aload_n dX5_isWord_8 rfl (j := 0) rfl ?_
    refine aw_getf dX5_isWord_9 fl_X5_24 rfl rfl rfl ?_
    refine aw_aload_n dX5_isWord_12 rfl (j := 0) rfl ?_
    refine aw_getf dX5_isWord_13 fl_X5_40 rfl rfl rfl ?_
    refine aw_isub dX5_isWord_16 ?_
    refine aw_aload_n dX5_isWord_17 rfl (j := 1) rfl ?_
    refine aw_invvS (d' := d + 3) (i := w) (as := []) (rest := [.inl ((M 7 4) - (M 7 3))]) dX5_isWord_18 cv_X5_88 (Nat.lt_succ_self _) hw rfl rfl rfl rfl (Nat.le_of_ble_eq_true rfl) (AC.mono ?_ h)
    intro r M3 h
    obtain ⟨z4, rfl, h⟩ := h
    show AW (d + 4) mX5_isWord 21 [(0, .inr 7), (1, .inr (110 + w))] [.inl z4, .inl ((M 7 4) - (M 7 3))] M3 Q
    obtain ⟨s5, h⟩ := h
    obtain ⟨s6, h⟩ := h
    refine aw_icmp_eq dX5_isWord_21 (tgt := 26) rfl s5 s6 (fun c7 => ?_) (fun c7 => ?_)
    · replace h := h.1 c7
      refine aw_iconst dX5_isWord_26 ?_
      refine aw_istore_n (L' := [(0, .inr 7), (1, .inr (110 + w)), (2, .inl 0)]) dX5_isWord_27 rfl (Nat.le_of_ble_eq_true rfl) rfl ?_
      exact h
    · replace h := h.2 c7
      refine aw_iconst dX5_isWord_24 ?_
      exact aw_zret dX5_isWord_25 rfl (Or.inl rfl) h
theorem sg_X5_isWord_28 {d : Nat} {M : am_M} {Q : Option Int → am_M → Prop} {w : Nat} (hw : w < 4) {i : Int} (h : AC (d + 3) mJ0_length [.inr (110 + w)] M (fun r M1 => ∃ z2, r = some z2 ∧
 (am_r i) ∧
 (am_r z2) ∧
 ((z2 ≤ i →
 Q (some 1) M1) ∧
 (i < z2 →
 (0 ≤ (M1 7 3) + i ∧ (M1 7 3) + i < 140) ∧
 AC (d + 3) mJ0_charAt [.inr (110 + w), .inl i] M1 (fun r M7 => ∃ z8, r = some z8 ∧
 (am_r (M1 8 ((M1 7 3) + i))) ∧
 (am_r z8) ∧
 ((M1 8 ((M1 7 3) + i) = z8 →
 AW (d + 4) mX5_isWord 28 [(0, .inr 7), (1, .inr (110 + w)), (2, .inl (i + 1))] [] M7 Q) ∧
 (M1 8 ((M1 7 3) + i) ≠ z8 →
 Q (some 0) M7))))))) : AW (d + 4) mX5_isWord 28 [(0, .inr 7), (1, .inr (110 + w)), (2, .inl i)] [] M Q := by
  refine aw_iload_n dX5_isWord_28 rfl (j := 2) rfl ?_
  refine aw_aload_n dX5_isWord_29 rfl (j := 1) rfl ?_
  refine aw_invvS (d' := d + 3) (i := w) (as := []) (rest := [.inl i]) dX5_isWord_30 cv_X5_88 (Nat.lt_succ_self _) hw rfl rfl rfl rfl (Nat.le_of_ble_eq_true rfl) (AC.mono ?_ h)
  intro r M1 h
  obtain ⟨z2, rfl, h⟩ := h
  show AW (d + 4) mX5_isWord 33 [(0, .inr 7), (1, .inr (110 + w)), (2, .inl i)] [.inl z2, .inl i] M1 Q
  obtain ⟨s3, h⟩ := h
  obtain ⟨s4, h⟩ := h
  refine aw_icmp_ge dX5_isWord_33 (tgt := 63) rfl s3 s4 (fun c5 => ?_) (fun c5 => ?_)
  · replace h := h.1 c5
    refine aw_iconst dX5_isWord_63 ?_
    exact aw_zret dX5_isWord_64 rfl (Or.inr rfl) h
  · replace h := h.2 c5
    refine aw_aload_n dX5_isWord_36 rfl (j := 0) rfl ?_
    refine aw_getr dX5_isWord_37 fl_X5_9 rfl rfl ?_
    refine aw_aload_n dX5_isWord_40 rfl (j := 0) rfl ?_
    refine aw_getf dX5_isWord_41 fl_X5_40 rfl rfl rfl ?_
    refine aw_iload_n dX5_isWord_44 rfl (j := 2) rfl ?_
    refine aw_iadd dX5_isWord_45 ?_
    obtain ⟨s6, h⟩ := h
    refine aw_caload dX5_isWord_46 rfl s6 ?_
    refine aw_aload_n dX5_isWord_47 rfl (j := 1) rfl ?_
    refine aw_iload_n dX5_isWord_48 rfl (j := 2) rfl ?_
    refine aw_invvS (d' := d + 3) (i := w) (as := [.inl i]) (rest := [.inl (M1 8 ((M1 7 3) + i))]) dX5_isWord_49 cv_X5_92 (Nat.lt_succ_self _) hw rfl rfl rfl rfl (Nat.le_of_ble_eq_true rfl) (AC.mono ?_ h)
    intro r M7 h
    obtain ⟨z8, rfl, h⟩ := h
    show AW (d + 4) mX5_isWord 52 [(0, .inr 7), (1, .inr (110 + w)), (2, .inl i)] [.inl z8, .inl (M1 8 ((M1 7 3) + i))] M7 Q
    obtain ⟨s9, h⟩ := h
    obtain ⟨s10, h⟩ := h
    refine aw_icmp_eq dX5_isWord_52 (tgt := 57) rfl s9 s10 (fun c11 => ?_) (fun c11 => ?_)
    · replace h := h.1 c11
      refine aw_iinc (L' := [(0, .inr 7), (1, .inr (110 + w)), (2, .inl (i + 1))]) dX5_isWord_57 (j := 2) rfl (Nat.le_of_ble_eq_true rfl) rfl ?_
      refine aw_goto dX5_isWord_60 (tgt := 28) rfl ?_
      exact h
    · replace h := h.2 c11
      refine aw_iconst dX5_isWord_55 ?_
      exact aw_zret dX5_isWord_56 rfl (Or.inl rfl) h
theorem sg_X5_namedSetting {d : Nat} {M : am_M} {Q : Option Int → am_M → Prop} (h : AC (d + 4) mX5_isWord [.inr 7, .inr 111] M (fun r M1 => ∃ z2, r = some z2 ∧
 (am_r z2) ∧
 ((z2 = 0 →
 AC (d + 4) mX5_isWord [.inr 7, .inr 112] M1 (fun r M5 => ∃ z6, r = some z6 ∧
 (am_r z6) ∧
 ((z6 = 0 →
 AC (d + 4) mX5_isWord [.inr 7, .inr 113] M5 (fun r M9 => ∃ z10, r = some z10 ∧
 ((am_r z10)) ∧
 ∀ (v13 : Int), (z10 = 0 → v13 = (-9)) →
 (z10 ≠ 0 → v13 = 2) →
 Q (some v13) M9)) ∧
 (z6 ≠ 0 →
 Q (some 1) M5)))) ∧
 (z2 ≠ 0 →
 Q (some 0) M1)))) : AC (d + 5) mX5_namedSetting [.inr 7] M Q := by
  refine aw_body (by decide) (Nat.le_of_ble_eq_true rfl) rfl ?_
  refine aw_aload_n dX5_namedSetting_0 rfl (j := 0) rfl ?_
  refine aw_ldcS (a := 111) (fun ad s hK => ⟨_, hK.2.2.2.2.1.2.2.1⟩) dX5_namedSetting_1 ?_
  refine aw_invv (d' := d + 4) (as := [.inr 111]) (rest := []) dX5_namedSetting_3 cv_X5_45 (Nat.lt_succ_self _) rfl rfl rfl rfl rfl (Nat.le_of_ble_eq_true rfl) (AC.mono ?_ h)
  intro r M1 h
  obtain ⟨z2, rfl, h⟩ := h
  show AW (d + 5) mX5_namedSetting 6 [(0, .inr 7)] [.inl z2] M1 Q
  obtain ⟨s3, h⟩ := h
  refine aw_if_eq dX5_namedSetting_6 (tgt := 11) rfl s3 (fun c4 => ?_) (fun c4 => ?_)
  · replace h := h.1 c4
    refine aw_aload_n dX5_namedSetting_11 rfl (j := 0) rfl ?_
    refine aw_ldcS (a := 112) (fun ad s hK => ⟨_, hK.2.2.2.2.1.2.2.2.1⟩) dX5_namedSetting_12 ?_
    refine aw_invv (d' := d + 4) (as := [.inr 112]) (rest := []) dX5_namedSetting_14 cv_X5_45 (Nat.lt_succ_self _) rfl rfl rfl rfl rfl (Nat.le_of_ble_eq_true rfl) (AC.mono ?_ h)
    intro r M5 h
    obtain ⟨z6, rfl, h⟩ := h
    show AW (d + 5) mX5_namedSetting 17 [(0, .inr 7)] [.inl z6] M5 Q
    obtain ⟨s7, h⟩ := h
    refine aw_if_eq dX5_namedSetting_17 (tgt := 22) rfl s7 (fun c8 => ?_) (fun c8 => ?_)
    · replace h := h.1 c8
      refine aw_aload_n dX5_namedSetting_22 rfl (j := 0) rfl ?_
      refine aw_ldcS (a := 113) (fun ad s hK => ⟨_, hK.2.2.2.2.1.2.2.2.2⟩) dX5_namedSetting_23 ?_
      refine aw_invv (d' := d + 4) (as := [.inr 113]) (rest := []) dX5_namedSetting_25 cv_X5_45 (Nat.lt_succ_self _) rfl rfl rfl rfl rfl (Nat.le_of_ble_eq_true rfl) (AC.mono ?_ h)
      intro r M9 h
      obtain ⟨z10, rfl, h⟩ := h
      show AW (d + 5) mX5_namedSetting 28 [(0, .inr 7)] [.inl z10] M9 Q
      obtain ⟨g, h⟩ := h
      have K : ∀ (v13 : Int), (z10 = 0 → v13 = (-9)) → (z10 ≠ 0 → v13 = 2) → AW (d + 5) mX5_namedSetting 37 [(0, .inr 7)] [.inl v13] M9 Q := by
        intro v13 q14 q15
        replace h := h v13 q14 q15
        exact aw_iret dX5_namedSetting_37 rfl h
      clear h
      have s11 := g
      refine aw_if_eq dX5_namedSetting_28 (tgt := 35) rfl s11 (fun c12 => ?_) (fun c12 => ?_)
      · have c12 : z10 = 0 := c12
        refine aw_bipush dX5_namedSetting_35 (by decide) ?_
        exact K (-9) (fun _ => rfl) (fun q0 => by first | omega | exact absurd c12 q0 | exact absurd q0 c12)
      · have c12 : z10 ≠ 0 := c12
        refine aw_iconst dX5_namedSetting_31 ?_
        refine aw_goto dX5_namedSetting_32 (tgt := 37) rfl ?_
        exact K 2 (fun q0 => by first | omega | exact absurd c12 q0 | exact absurd q0 c12) (fun _ => rfl)
    · replace h := h.2 c8
      refine aw_iconst dX5_namedSetting_20 ?_
      exact aw_iret dX5_namedSetting_21 rfl h
  · replace h := h.2 c4
    refine aw_iconst dX5_namedSetting_9 ?_
    exact aw_iret dX5_namedSetting_10 rfl h
theorem sg_X5_readSetting {d : Nat} {M : am_M} {Q : Option Int → am_M → Prop} {st : Int} (h : (am_r (M 7 2)) ∧
 ((M 7 2 ≠ 2 →
 Q (some 0) M) ∧
 (M 7 2 = 2 →
 (am_r ((M 7 4) - (M 7 3))) ∧
 (((M 7 4) - (M 7 3) ≤ 2 →
 (am_kdok (M 7 0) (M 8) (M 7 3)) ∧
 (((M 7 4) - (M 7 3) ≠ 2 →
 (am_r st ∧ am_r (am_fg (M 7 0) (M 8) (M 7 3))) ∧
 ((am_isS st (am_fg (M 7 0) (M 8) (M 7 3)) →
 (0 ≤ st ∧ st < 3) ∧
 Q (some 1) (am_up M 5 st (am_fg (M 7 0) (M 8) (M 7 3)))) ∧
 (¬ (am_isS st (am_fg (M 7 0) (M 8) (M 7 3))) →
 Q (some 0) M))) ∧
 ((M 7 4) - (M 7 3) = 2 →
 (am_r (am_fg (M 7 0) (M 8) (M 7 3))) ∧
 ((am_fg (M 7 0) (M 8) (M 7 3) ≠ 0 →
 (am_kdok (M 7 0) (M 8) ((M 7 3) + 1)) ∧
 (am_r st ∧ am_r ((10 * (am_fg (M 7 0) (M 8) (M 7 3))) + (am_fg (M 7 0) (M 8) ((M 7 3) + 1)))) ∧
 ((am_isS st ((10 * (am_fg (M 7 0) (M 8) (M 7 3))) + (am_fg (M 7 0) (M 8) ((M 7 3) + 1))) →
 (0 ≤ st ∧ st < 3) ∧
 Q (some 1) (am_up M 5 st ((10 * (am_fg (M 7 0) (M 8) (M 7 3))) + (am_fg (M 7 0) (M 8) ((M 7 3) + 1))))) ∧
 (¬ (am_isS st ((10 * (am_fg (M 7 0) (M 8) (M 7 3))) + (am_fg (M 7 0) (M 8) ((M 7 3) + 1)))) →
 Q (some 0) M))) ∧
 (am_fg (M 7 0) (M 8) (M 7 3) = 0 →
 Q (some 0) M))))) ∧
 (2 < (M 7 4) - (M 7 3) →
 Q (some 0) M))))) : AC (d + 2) mX5_readSetting [.inr 7, .inr 4, .inl st] M Q := by
  refine aw_body (by decide) (Nat.le_of_ble_eq_true rfl) rfl ?_
  refine aw_aload_n dX5_readSetting_0 rfl (j := 0) rfl ?_
  refine aw_getf dX5_readSetting_1 fl_X5_24 rfl rfl rfl ?_
  refine aw_aload_n dX5_readSetting_4 rfl (j := 0) rfl ?_
  refine aw_getf dX5_readSetting_5 fl_X5_40 rfl rfl rfl ?_
  refine aw_isub dX5_readSetting_8 ?_
  refine aw_istore_n (L' := [(0, .inr 7), (1, .inr 4), (2, .inl st), (3, .inl ((M 7 4) - (M 7 3)))]) dX5_readSetting_9 rfl (Nat.le_of_ble_eq_true rfl) rfl ?_
  refine aw_aload_n dX5_readSetting_10 rfl (j := 0) rfl ?_
  refine aw_getf dX5_readSetting_11 fl_X5_30 rfl rfl rfl ?_
  refine aw_iconst dX5_readSetting_14 ?_
  obtain ⟨s1, h⟩ := h
  refine aw_icmp_ne dX5_readSetting_15 (tgt := 23) rfl s1 (by decide) (fun c2 => ?_) (fun c2 => ?_)
  · replace h := h.1 c2
    refine aw_iconst dX5_readSetting_23 ?_
    exact aw_zret dX5_readSetting_24 rfl (Or.inl rfl) h
  · replace h := h.2 c2
    refine aw_iload_n dX5_readSetting_18 rfl (j := 3) rfl ?_
    refine aw_iconst dX5_readSetting_19 ?_
    obtain ⟨s3, h⟩ := h
    refine aw_icmp_le dX5_readSetting_20 (tgt := 25) rfl s3 (by decide) (fun c4 => ?_) (fun c4 => ?_)
    · replace h := h.1 c4
      refine aw_aload_n dX5_readSetting_25 rfl (j := 0) rfl ?_
      refine aw_aload_n dX5_readSetting_26 rfl (j := 0) rfl ?_
      refine aw_getf dX5_readSetting_27 fl_X5_40 rfl rfl rfl ?_
      obtain ⟨s5, h⟩ := h
      refine aw_invv (d' := d + 1) (as := [.inl (M 7 3)]) (rest := []) dX5_readSetting_30 cv_X5_63 (Nat.lt_succ_self _) rfl rfl rfl rfl rfl (Nat.le_of_ble_eq_true rfl) (fc_figureAt s5 ?_)
      show AW (d + 2) mX5_readSetting 33 [(0, .inr 7), (1, .inr 4), (2, .inl st), (3, .inl ((M 7 4) - (M 7 3)))] [.inl (am_fg (M 7 0) (M 8) (M 7 3))] M Q
      refine aw_istore (L' := [(0, .inr 7), (1, .inr 4), (2, .inl st), (3, .inl ((M 7 4) - (M 7 3))), (4, .inl (am_fg (M 7 0) (M 8) (M 7 3)))]) dX5_readSetting_33 (Nat.le_of_ble_eq_true rfl) rfl ?_
      refine aw_iload_n dX5_readSetting_35 rfl (j := 3) rfl ?_
      refine aw_iconst dX5_readSetting_36 ?_
      refine aw_icmp_ne dX5_readSetting_37 (tgt := 65) rfl s3 (by decide) (fun c6 => ?_) (fun c6 => ?_)
      · replace h := h.1 c6
        refine aw_iload_n dX5_readSetting_65 rfl (j := 2) rfl ?_
        refine aw_iload dX5_readSetting_66 (j := 4) rfl ?_
        obtain ⟨s7, h⟩ := h
        refine aw_isSetting (d' := d + 1) (rest := []) rfl dX5_readSetting_68 (Nat.lt_succ_self _) (Nat.le_of_ble_eq_true rfl) (fc_isSetting s7 ?_)
        show AW (d + 2) mX5_readSetting 71 [(0, .inr 7), (1, .inr 4), (2, .inl st), (3, .inl ((M 7 4) - (M 7 3))), (4, .inl (am_fg (M 7 0) (M 8) (M 7 3)))] [.inl (am_b (am_isS st (am_fg (M 7 0) (M 8) (M 7 3))))] M Q
        refine aw_ifb_ne dX5_readSetting_71 (tgt := 76) rfl (fun c8 => ?_) (fun c8 => ?_)
        · replace h := h.1 c8
          refine aw_aload_n dX5_readSetting_76 rfl (j := 1) rfl ?_
          refine aw_getr dX5_readSetting_77 fl_X5_75 rfl rfl ?_
          refine aw_iload_n dX5_readSetting_80 rfl (j := 2) rfl ?_
          refine aw_iload dX5_readSetting_81 (j := 4) rfl ?_
          obtain ⟨s9, h⟩ := h
          refine aw_iastore dX5_readSetting_83 rfl s9 ?_
          refine aw_iconst dX5_readSetting_84 ?_
          exact aw_zret dX5_readSetting_85 rfl (Or.inr rfl) h
        · replace h := h.2 c8
          refine aw_iconst dX5_readSetting_74 ?_
          exact aw_zret dX5_readSetting_75 rfl (Or.inl rfl) h
      · replace h := h.2 c6
        refine aw_iload dX5_readSetting_40 (j := 4) rfl ?_
        obtain ⟨s10, h⟩ := h
        refine aw_if_ne dX5_readSetting_42 (tgt := 47) rfl s10 (fun c11 => ?_) (fun c11 => ?_)
        · replace h := h.1 c11
          refine aw_bipush dX5_readSetting_47 (by decide) ?_
          refine aw_iload dX5_readSetting_49 (j := 4) rfl ?_
          refine aw_imul dX5_readSetting_51 ?_
          refine aw_aload_n dX5_readSetting_52 rfl (j := 0) rfl ?_
          refine aw_aload_n dX5_readSetting_53 rfl (j := 0) rfl ?_
          refine aw_getf dX5_readSetting_54 fl_X5_40 rfl rfl rfl ?_
          refine aw_iconst dX5_readSetting_57 ?_
          refine aw_iadd dX5_readSetting_58 ?_
          obtain ⟨s12, h⟩ := h
          refine aw_invv (d' := d + 1) (as := [.inl ((M 7 3) + 1)]) (rest := [.inl (10 * (am_fg (M 7 0) (M 8) (M 7 3)))]) dX5_readSetting_59 cv_X5_63 (Nat.lt_succ_self _) rfl rfl rfl rfl rfl (Nat.le_of_ble_eq_true rfl) (fc_figureAt s12 ?_)
          show AW (d + 2) mX5_readSetting 62 [(0, .inr 7), (1, .inr 4), (2, .inl st), (3, .inl ((M 7 4) - (M 7 3))), (4, .inl (am_fg (M 7 0) (M 8) (M 7 3)))] [.inl (am_fg (M 7 0) (M 8) ((M 7 3) + 1)), .inl (10 * (am_fg (M 7 0) (M 8) (M 7 3)))] M Q
          refine aw_iadd dX5_readSetting_62 ?_
          refine aw_istore (L' := [(0, .inr 7), (1, .inr 4), (2, .inl st), (3, .inl ((M 7 4) - (M 7 3))), (4, .inl ((10 * (am_fg (M 7 0) (M 8) (M 7 3))) + (am_fg (M 7 0) (M 8) ((M 7 3) + 1))))]) dX5_readSetting_63 (Nat.le_of_ble_eq_true rfl) rfl ?_
          refine aw_iload_n dX5_readSetting_65 rfl (j := 2) rfl ?_
          refine aw_iload dX5_readSetting_66 (j := 4) rfl ?_
          obtain ⟨s13, h⟩ := h
          refine aw_isSetting (d' := d + 1) (rest := []) rfl dX5_readSetting_68 (Nat.lt_succ_self _) (Nat.le_of_ble_eq_true rfl) (fc_isSetting s13 ?_)
          show AW (d + 2) mX5_readSetting 71 [(0, .inr 7), (1, .inr 4), (2, .inl st), (3, .inl ((M 7 4) - (M 7 3))), (4, .inl ((10 * (am_fg (M 7 0) (M 8) (M 7 3))) + (am_fg (M 7 0) (M 8) ((M 7 3) + 1))))] [.inl (am_b (am_isS st ((10 * (am_fg (M 7 0) (M 8) (M 7 3))) + (am_fg (M 7 0) (M 8) ((M 7 3) + 1)))))] M Q
          refine aw_ifb_ne dX5_readSetting_71 (tgt := 76) rfl (fun c14 => ?_) (fun c14 => ?_)
          · replace h := h.1 c14
            refine aw_aload_n dX5_readSetting_76 rfl (j := 1) rfl ?_
            refine aw_getr dX5_readSetting_77 fl_X5_75 rfl rfl ?_
            refine aw_iload_n dX5_readSetting_80 rfl (j := 2) rfl ?_
            refine aw_iload dX5_readSetting_81 (j := 4) rfl ?_
            obtain ⟨s15, h⟩ := h
            refine aw_iastore dX5_readSetting_83 rfl s15 ?_
            refine aw_iconst dX5_readSetting_84 ?_
            exact aw_zret dX5_readSetting_85 rfl (Or.inr rfl) h
          · replace h := h.2 c14
            refine aw_iconst dX5_readSetting_74 ?_
            exact aw_zret dX5_readSetting_75 rfl (Or.inl rfl) h
        · replace h := h.2 c11
          refine aw_iconst dX5_readSetting_45 ?_
          exact aw_zret dX5_readSetting_46 rfl (Or.inl rfl) h
    · replace h := h.2 c4
      refine aw_iconst dX5_readSetting_23 ?_
      exact aw_zret dX5_readSetting_24 rfl (Or.inl rfl) h
theorem sg_X5_readFrame {d : Nat} {M : am_M} {Q : Option Int → am_M → Prop} (h : (am_r (M 7 2)) ∧
 ((M 7 2 ≠ 2 →
 Q (some 0) M) ∧
 (M 7 2 = 2 →
 (am_r ((M 7 4) - (M 7 3))) ∧
 (((M 7 4) - (M 7 3) < 3 →
 Q (some 0) M) ∧
 (3 ≤ (M 7 4) - (M 7 3) →
 (((M 7 4) - (M 7 3) ≤ 12 →
 (am_r (M 4 0)) ∧
 ((M 4 0 ≤ 0 →
 AW (d + 3) mX5_readFrame 65 [(0, .inr 7), (1, .inr 4), (2, .inl ((M 7 4) - (M 7 3))), (3, .inl 0)] [] (am_up (am_up M 4 1 ((M 7 4) - (M 7 3))) 4 0 ((M 4 0) + 1)) Q) ∧
 (0 < M 4 0 →
 (am_r (M 4 1)) ∧
 (((M 7 4) - (M 7 3) = M 4 1 →
 AW (d + 3) mX5_readFrame 65 [(0, .inr 7), (1, .inr 4), (2, .inl ((M 7 4) - (M 7 3))), (3, .inl 0)] [] (am_up (am_up M 4 1 ((M 7 4) - (M 7 3))) 4 0 ((M 4 0) + 1)) Q) ∧
 ((M 7 4) - (M 7 3) ≠ M 4 1 →
 Q (some 0) M))))) ∧
 (12 < (M 7 4) - (M 7 3) →
 Q (some 0) M))))))) : AC (d + 3) mX5_readFrame [.inr 7, .inr 4] M Q := by
  refine aw_body (by decide) (Nat.le_of_ble_eq_true rfl) rfl ?_
  refine aw_aload_n dX5_readFrame_0 rfl (j := 0) rfl ?_
  refine aw_getf dX5_readFrame_1 fl_X5_24 rfl rfl rfl ?_
  refine aw_aload_n dX5_readFrame_4 rfl (j := 0) rfl ?_
  refine aw_getf dX5_readFrame_5 fl_X5_40 rfl rfl rfl ?_
  refine aw_isub dX5_readFrame_8 ?_
  refine aw_istore_n (L' := [(0, .inr 7), (1, .inr 4), (2, .inl ((M 7 4) - (M 7 3)))]) dX5_readFrame_9 rfl (Nat.le_of_ble_eq_true rfl) rfl ?_
  refine aw_aload_n dX5_readFrame_10 rfl (j := 0) rfl ?_
  refine aw_getf dX5_readFrame_11 fl_X5_30 rfl rfl rfl ?_
  refine aw_iconst dX5_readFrame_14 ?_
  obtain ⟨s1, h⟩ := h
  refine aw_icmp_ne dX5_readFrame_15 (tgt := 29) rfl s1 (by decide) (fun c2 => ?_) (fun c2 => ?_)
  · replace h := h.1 c2
    refine aw_iconst dX5_readFrame_29 ?_
    exact aw_zret dX5_readFrame_30 rfl (Or.inl rfl) h
  · replace h := h.2 c2
    refine aw_iload_n dX5_readFrame_18 rfl (j := 2) rfl ?_
    refine aw_iconst dX5_readFrame_19 ?_
    obtain ⟨s3, h⟩ := h
    refine aw_icmp_lt dX5_readFrame_20 (tgt := 29) rfl s3 (by decide) (fun c4 => ?_) (fun c4 => ?_)
    · replace h := h.1 c4
      refine aw_iconst dX5_readFrame_29 ?_
      exact aw_zret dX5_readFrame_30 rfl (Or.inl rfl) h
    · replace h := h.2 c4
      refine aw_iload_n dX5_readFrame_23 rfl (j := 2) rfl ?_
      refine aw_bipush dX5_readFrame_24 (by decide) ?_
      refine aw_icmp_le dX5_readFrame_26 (tgt := 31) rfl s3 (by decide) (fun c5 => ?_) (fun c5 => ?_)
      · replace h := h.1 c5
        refine aw_aload_n dX5_readFrame_31 rfl (j := 1) rfl ?_
        refine aw_getf dX5_readFrame_32 fl_X5_33 rfl rfl rfl ?_
        obtain ⟨s6, h⟩ := h
        refine aw_if_le dX5_readFrame_35 (tgt := 48) rfl s6 (fun c7 => ?_) (fun c7 => ?_)
        · replace h := h.1 c7
          refine aw_aload_n dX5_readFrame_48 rfl (j := 1) rfl ?_
          refine aw_iload_n dX5_readFrame_49 rfl (j := 2) rfl ?_
          refine aw_putf dX5_readFrame_50 pf_X5_60 rfl rfl rfl ?_
          refine aw_aload_n dX5_readFrame_53 rfl (j := 1) rfl ?_
          refine aw_dup dX5_readFrame_54 ?_
          refine aw_getf dX5_readFrame_55 fl_X5_33 rfl rfl rfl ?_
          refine aw_iconst dX5_readFrame_58 ?_
          refine aw_iadd dX5_readFrame_59 ?_
          refine aw_putf dX5_readFrame_60 pf_X5_33 rfl rfl rfl ?_
          refine aw_iconst dX5_readFrame_63 ?_
          refine aw_istore_n (L' := [(0, .inr 7), (1, .inr 4), (2, .inl ((M 7 4) - (M 7 3))), (3, .inl 0)]) dX5_readFrame_64 rfl (Nat.le_of_ble_eq_true rfl) rfl ?_
          exact h
        · replace h := h.2 c7
          refine aw_iload_n dX5_readFrame_38 rfl (j := 2) rfl ?_
          refine aw_aload_n dX5_readFrame_39 rfl (j := 1) rfl ?_
          refine aw_getf dX5_readFrame_40 fl_X5_60 rfl rfl rfl ?_
          obtain ⟨s8, h⟩ := h
          refine aw_icmp_eq dX5_readFrame_43 (tgt := 48) rfl s3 s8 (fun c9 => ?_) (fun c9 => ?_)
          · replace h := h.1 c9
            refine aw_aload_n dX5_readFrame_48 rfl (j := 1) rfl ?_
            refine aw_iload_n dX5_readFrame_49 rfl (j := 2) rfl ?_
            refine aw_putf dX5_readFrame_50 pf_X5_60 rfl rfl rfl ?_
            refine aw_aload_n dX5_readFrame_53 rfl (j := 1) rfl ?_
            refine aw_dup dX5_readFrame_54 ?_
            refine aw_getf dX5_readFrame_55 fl_X5_33 rfl rfl rfl ?_
            refine aw_iconst dX5_readFrame_58 ?_
            refine aw_iadd dX5_readFrame_59 ?_
            refine aw_putf dX5_readFrame_60 pf_X5_33 rfl rfl rfl ?_
            refine aw_iconst dX5_readFrame_63 ?_
            refine aw_istore_n (L' := [(0, .inr 7), (1, .inr 4), (2, .inl ((M 7 4) - (M 7 3))), (3, .inl 0)]) dX5_readFrame_64 rfl (Nat.le_of_ble_eq_true rfl) rfl ?_
            exact h
          · replace h := h.2 c9
            refine aw_iconst dX5_readFrame_46 ?_
            exact aw_zret dX5_readFrame_47 rfl (Or.inl rfl) h
      · replace h := h.2 c5
        refine aw_iconst dX5_readFrame_29 ?_
        exact aw_zret dX5_readFrame_30 rfl (Or.inl rfl) h
theorem sg_X5_readFrame_65 {d : Nat} {M : am_M} {Q : Option Int → am_M → Prop} {n p : Int} (h : (am_r p) ∧
 (am_r n) ∧
 ((n ≤ p →
 Q (some 1) M) ∧
 (p < n →
 (am_kdok (M 7 0) (M 8) ((M 7 3) + p)) ∧
 AC (d + 2) mX3_putLevel [.inr 4, .inl ((M 4 0) - 1), .inl p, .inl (am_fg (M 7 0) (M 8) ((M 7 3) + p))] M (fun r M5 => r = none ∧
 AW (d + 3) mX5_readFrame 65 [(0, .inr 7), (1, .inr 4), (2, .inl n), (3, .inl (p + 1))] [] M5 Q)))) : AW (d + 3) mX5_readFrame 65 [(0, .inr 7), (1, .inr 4), (2, .inl n), (3, .inl p)] [] M Q := by
  refine aw_iload_n dX5_readFrame_65 rfl (j := 3) rfl ?_
  refine aw_iload_n dX5_readFrame_66 rfl (j := 2) rfl ?_
  obtain ⟨s1, h⟩ := h
  obtain ⟨s2, h⟩ := h
  refine aw_icmp_ge dX5_readFrame_67 (tgt := 97) rfl s1 s2 (fun c3 => ?_) (fun c3 => ?_)
  · replace h := h.1 c3
    refine aw_iconst dX5_readFrame_97 ?_
    exact aw_zret dX5_readFrame_98 rfl (Or.inr rfl) h
  · replace h := h.2 c3
    refine aw_aload_n dX5_readFrame_70 rfl (j := 1) rfl ?_
    refine aw_aload_n dX5_readFrame_71 rfl (j := 1) rfl ?_
    refine aw_getf dX5_readFrame_72 fl_X5_33 rfl rfl rfl ?_
    refine aw_iconst dX5_readFrame_75 ?_
    refine aw_isub dX5_readFrame_76 ?_
    refine aw_iload_n dX5_readFrame_77 rfl (j := 3) rfl ?_
    refine aw_aload_n dX5_readFrame_78 rfl (j := 0) rfl ?_
    refine aw_aload_n dX5_readFrame_79 rfl (j := 0) rfl ?_
    refine aw_getf dX5_readFrame_80 fl_X5_40 rfl rfl rfl ?_
    refine aw_iload_n dX5_readFrame_83 rfl (j := 3) rfl ?_
    refine aw_iadd dX5_readFrame_84 ?_
    obtain ⟨s4, h⟩ := h
    refine aw_invv (d' := d + 2) (as := [.inl ((M 7 3) + p)]) (rest := [.inl p, .inl ((M 4 0) - 1), .inr 4]) dX5_readFrame_85 cv_X5_63 (Nat.lt_succ_self _) rfl rfl rfl rfl rfl (Nat.le_of_ble_eq_true rfl) (fc_figureAt s4 ?_)
    show AW (d + 3) mX5_readFrame 88 [(0, .inr 7), (1, .inr 4), (2, .inl n), (3, .inl p)] [.inl (am_fg (M 7 0) (M 8) ((M 7 3) + p)), .inl p, .inl ((M 4 0) - 1), .inr 4] M Q
    refine aw_invv (d' := d + 2) (as := [.inl ((M 4 0) - 1), .inl p, .inl (am_fg (M 7 0) (M 8) ((M 7 3) + p))]) (rest := []) dX5_readFrame_88 cv_X5_67 (Nat.lt_succ_self _) rfl rfl rfl rfl rfl (Nat.le_of_ble_eq_true rfl) (AC.mono ?_ h)
    intro r M5 h
    obtain ⟨rfl, h⟩ := h
    show AW (d + 3) mX5_readFrame 91 [(0, .inr 7), (1, .inr 4), (2, .inl n), (3, .inl p)] [] M5 Q
    refine aw_iinc (L' := [(0, .inr 7), (1, .inr 4), (2, .inl n), (3, .inl (p + 1))]) dX5_readFrame_91 (j := 3) rfl (Nat.le_of_ble_eq_true rfl) rfl ?_
    refine aw_goto dX5_readFrame_94 (tgt := 65) rfl ?_
    exact h
theorem sg_X5_readItem {d : Nat} {M : am_M} {Q : Option Int → am_M → Prop} (h : AC (d + 5) mX5_isWord [.inr 7, .inr 110] M (fun r M1 => ∃ z2, r = some z2 ∧
 (am_r z2) ∧
 ((z2 = 0 →
 AC (d + 5) mX5_namedSetting [.inr 7] M1 (fun r M5 => ∃ z6, r = some z6 ∧
 (am_r z6) ∧
 ((z6 ≠ (-9) →
 AC (d + 5) mX5_nextToken [.inr 7] M5 (fun r M9 => r = none ∧
 AC (d + 5) mX5_readSetting [.inr 7, .inr 4, .inl z6] M9 (fun r M10 => ∃ z11, r = some z11 ∧
 (am_r z11) ∧
 ((z11 ≠ 0 →
 AC (d + 5) mX5_nextToken [.inr 7] M10 (fun r M14 => r = none ∧
 ((am_r (M14 7 2))) ∧
 Q (some (am_b ((M14 7 2 = 3)))) M14)) ∧
 (z11 = 0 →
 Q (some 0) M10))))) ∧
 (z6 = (-9) →
 Q (some 0) M5)))) ∧
 (z2 ≠ 0 →
 (am_r (M1 4 0)) ∧
 ((M1 4 0 < 8 →
 AC (d + 5) mX5_nextToken [.inr 7] M1 (fun r M19 => r = none ∧
 AC (d + 5) mX5_readFrame [.inr 7, .inr 4] M19 (fun r M20 => ∃ z21, r = some z21 ∧
 (am_r z21) ∧
 ((z21 ≠ 0 →
 AC (d + 5) mX5_nextToken [.inr 7] M20 (fun r M24 => r = none ∧
 ((am_r (M24 7 2))) ∧
 Q (some (am_b ((M24 7 2 = 3)))) M24)) ∧
 (z21 = 0 →
 Q (some 0) M20))))) ∧
 (8 ≤ M1 4 0 →
 Q (some 0) M1)))))) : AC (d + 6) mX5_readItem [.inr 7, .inr 4] M Q := by
  refine aw_body (by decide) (Nat.le_of_ble_eq_true rfl) rfl ?_
  refine aw_aload_n dX5_readItem_0 rfl (j := 0) rfl ?_
  refine aw_ldcS (a := 110) (fun ad s hK => ⟨_, hK.2.2.2.2.1.2.1⟩) dX5_readItem_1 ?_
  refine aw_invv (d' := d + 5) (as := [.inr 110]) (rest := []) dX5_readItem_3 cv_X5_45 (Nat.lt_succ_self _) rfl rfl rfl rfl rfl (Nat.le_of_ble_eq_true rfl) (AC.mono ?_ h)
  intro r M1 h
  obtain ⟨z2, rfl, h⟩ := h
  show AW (d + 6) mX5_readItem 6 [(0, .inr 7), (1, .inr 4)] [.inl z2] M1 Q
  obtain ⟨s3, h⟩ := h
  refine aw_if_eq dX5_readItem_6 (tgt := 34) rfl s3 (fun c4 => ?_) (fun c4 => ?_)
  · replace h := h.1 c4
    refine aw_aload_n dX5_readItem_34 rfl (j := 0) rfl ?_
    refine aw_invv (d' := d + 5) (as := []) (rest := []) dX5_readItem_35 cv_X5_52 (Nat.lt_succ_self _) rfl rfl rfl rfl rfl (Nat.le_of_ble_eq_true rfl) (AC.mono ?_ h)
    intro r M5 h
    obtain ⟨z6, rfl, h⟩ := h
    show AW (d + 6) mX5_readItem 38 [(0, .inr 7), (1, .inr 4)] [.inl z6] M5 Q
    refine aw_istore_n (L' := [(0, .inr 7), (1, .inr 4), (2, .inl z6)]) dX5_readItem_38 rfl (Nat.le_of_ble_eq_true rfl) rfl ?_
    refine aw_iload_n dX5_readItem_39 rfl (j := 2) rfl ?_
    refine aw_bipush dX5_readItem_40 (by decide) ?_
    obtain ⟨s7, h⟩ := h
    refine aw_icmp_ne dX5_readItem_42 (tgt := 47) rfl s7 (by decide) (fun c8 => ?_) (fun c8 => ?_)
    · replace h := h.1 c8
      refine aw_aload_n dX5_readItem_47 rfl (j := 0) rfl ?_
      refine aw_invv (d' := d + 5) (as := []) (rest := []) dX5_readItem_48 cv_X5_27 (Nat.lt_succ_self _) rfl rfl rfl rfl rfl (Nat.le_of_ble_eq_true rfl) (AC.mono ?_ h)
      intro r M9 h
      obtain ⟨rfl, h⟩ := h
      show AW (d + 6) mX5_readItem 51 [(0, .inr 7), (1, .inr 4), (2, .inl z6)] [] M9 Q
      refine aw_aload_n dX5_readItem_51 rfl (j := 0) rfl ?_
      refine aw_aload_n dX5_readItem_52 rfl (j := 1) rfl ?_
      refine aw_iload_n dX5_readItem_53 rfl (j := 2) rfl ?_
      refine aw_invv (d' := d + 5) (as := [.inr 4, .inl z6]) (rest := []) dX5_readItem_54 cv_X5_56 (Nat.lt_succ_self _) rfl rfl rfl rfl rfl (Nat.le_of_ble_eq_true rfl) (AC.mono ?_ h)
      intro r M10 h
      obtain ⟨z11, rfl, h⟩ := h
      show AW (d + 6) mX5_readItem 57 [(0, .inr 7), (1, .inr 4), (2, .inl z6)] [.inl z11] M10 Q
      obtain ⟨s12, h⟩ := h
      refine aw_if_ne dX5_readItem_57 (tgt := 62) rfl s12 (fun c13 => ?_) (fun c13 => ?_)
      · replace h := h.1 c13
        refine aw_aload_n dX5_readItem_62 rfl (j := 0) rfl ?_
        refine aw_invv (d' := d + 5) (as := []) (rest := []) dX5_readItem_63 cv_X5_27 (Nat.lt_succ_self _) rfl rfl rfl rfl rfl (Nat.le_of_ble_eq_true rfl) (AC.mono ?_ h)
        intro r M14 h
        obtain ⟨rfl, h⟩ := h
        show AW (d + 6) mX5_readItem 66 [(0, .inr 7), (1, .inr 4), (2, .inl z6)] [] M14 Q
        refine aw_aload_n dX5_readItem_66 rfl (j := 0) rfl ?_
        refine aw_getf dX5_readItem_67 fl_X5_30 rfl rfl rfl ?_
        refine aw_iconst dX5_readItem_70 ?_
        obtain ⟨g, h⟩ := h
        have K : AW (d + 6) mX5_readItem 79 [(0, .inr 7), (1, .inr 4), (2, .inl z6)] [.inl (am_b ((M14 7 2 = 3)))] M14 Q := by
          exact aw_bret dX5_readItem_79 rfl h
        clear h
        have s15 := g
        refine aw_icmp_ne dX5_readItem_71 (tgt := 78) rfl s15 (by decide) (fun c16 => ?_) (fun c16 => ?_)
        · have c16 : M14 7 2 ≠ 3 := c16
          refine aw_iconst dX5_readItem_78 ?_
          have hp : ¬ ((M14 7 2 = 3)) := by first | omega | simp_all
          have K1 := K
          rw [am_b_neg hp] at K1
          exact K1
        · have c16 : M14 7 2 = 3 := c16
          refine aw_iconst dX5_readItem_74 ?_
          refine aw_goto dX5_readItem_75 (tgt := 79) rfl ?_
          have hp : (M14 7 2 = 3) := by first | omega | simp_all
          have K1 := K
          rw [am_b_pos hp] at K1
          exact K1
      · replace h := h.2 c13
        refine aw_iconst dX5_readItem_60 ?_
        exact aw_zret dX5_readItem_61 rfl (Or.inl rfl) h
    · replace h := h.2 c8
      refine aw_iconst dX5_readItem_45 ?_
      exact aw_zret dX5_readItem_46 rfl (Or.inl rfl) h
  · replace h := h.2 c4
    refine aw_aload_n dX5_readItem_9 rfl (j := 1) rfl ?_
    refine aw_getf dX5_readItem_10 fl_X5_33 rfl rfl rfl ?_
    refine aw_bipush dX5_readItem_13 (by decide) ?_
    obtain ⟨s17, h⟩ := h
    refine aw_icmp_lt dX5_readItem_15 (tgt := 20) rfl s17 (by decide) (fun c18 => ?_) (fun c18 => ?_)
    · replace h := h.1 c18
      refine aw_aload_n dX5_readItem_20 rfl (j := 0) rfl ?_
      refine aw_invv (d' := d + 5) (as := []) (rest := []) dX5_readItem_21 cv_X5_27 (Nat.lt_succ_self _) rfl rfl rfl rfl rfl (Nat.le_of_ble_eq_true rfl) (AC.mono ?_ h)
      intro r M19 h
      obtain ⟨rfl, h⟩ := h
      show AW (d + 6) mX5_readItem 24 [(0, .inr 7), (1, .inr 4)] [] M19 Q
      refine aw_aload_n dX5_readItem_24 rfl (j := 0) rfl ?_
      refine aw_aload_n dX5_readItem_25 rfl (j := 1) rfl ?_
      refine aw_invv (d' := d + 5) (as := [.inr 4]) (rest := []) dX5_readItem_26 cv_X5_49 (Nat.lt_succ_self _) rfl rfl rfl rfl rfl (Nat.le_of_ble_eq_true rfl) (AC.mono ?_ h)
      intro r M20 h
      obtain ⟨z21, rfl, h⟩ := h
      show AW (d + 6) mX5_readItem 29 [(0, .inr 7), (1, .inr 4)] [.inl z21] M20 Q
      obtain ⟨s22, h⟩ := h
      refine aw_if_ne dX5_readItem_29 (tgt := 62) rfl s22 (fun c23 => ?_) (fun c23 => ?_)
      · replace h := h.1 c23
        refine aw_aload_n dX5_readItem_62 rfl (j := 0) rfl ?_
        refine aw_invv (d' := d + 5) (as := []) (rest := []) dX5_readItem_63 cv_X5_27 (Nat.lt_succ_self _) rfl rfl rfl rfl rfl (Nat.le_of_ble_eq_true rfl) (AC.mono ?_ h)
        intro r M24 h
        obtain ⟨rfl, h⟩ := h
        show AW (d + 6) mX5_readItem 66 [(0, .inr 7), (1, .inr 4)] [] M24 Q
        refine aw_aload_n dX5_readItem_66 rfl (j := 0) rfl ?_
        refine aw_getf dX5_readItem_67 fl_X5_30 rfl rfl rfl ?_
        refine aw_iconst dX5_readItem_70 ?_
        obtain ⟨g, h⟩ := h
        have K : AW (d + 6) mX5_readItem 79 [(0, .inr 7), (1, .inr 4)] [.inl (am_b ((M24 7 2 = 3)))] M24 Q := by
          exact aw_bret dX5_readItem_79 rfl h
        clear h
        have s25 := g
        refine aw_icmp_ne dX5_readItem_71 (tgt := 78) rfl s25 (by decide) (fun c26 => ?_) (fun c26 => ?_)
        · have c26 : M24 7 2 ≠ 3 := c26
          refine aw_iconst dX5_readItem_78 ?_
          have hp : ¬ ((M24 7 2 = 3)) := by first | omega | simp_all
          have K1 := K
          rw [am_b_neg hp] at K1
          exact K1
        · have c26 : M24 7 2 = 3 := c26
          refine aw_iconst dX5_readItem_74 ?_
          refine aw_goto dX5_readItem_75 (tgt := 79) rfl ?_
          have hp : (M24 7 2 = 3) := by first | omega | simp_all
          have K1 := K
          rw [am_b_pos hp] at K1
          exact K1
      · replace h := h.2 c23
        refine aw_iconst dX5_readItem_32 ?_
        exact aw_zret dX5_readItem_33 rfl (Or.inl rfl) h
    · replace h := h.2 c18
      refine aw_iconst dX5_readItem_18 ?_
      exact aw_zret dX5_readItem_19 rfl (Or.inl rfl) h
theorem sg_X5_readAll {d : Nat} {M : am_M} {Q : Option Int → am_M → Prop} (h : AC (d + 6) mX3_makeEmpty [.inr 4] M (fun r M1 => r = none ∧
 AW (d + 7) mX5_readAll 13 [(0, .inr 7), (1, .inr 4), (2, .inl 0), (3, .inl 0)] [] (am_up M1 7 4 0) Q)) : AC (d + 7) mX5_readAll [.inr 7, .inr 4] M Q := by
  refine aw_body (by decide) (Nat.le_of_ble_eq_true rfl) rfl ?_
  refine aw_aload_n dX5_readAll_0 rfl (j := 1) rfl ?_
  refine aw_invv (d' := d + 6) (as := []) (rest := []) dX5_readAll_1 cv_X5_19 (Nat.lt_succ_self _) rfl rfl rfl rfl rfl (Nat.le_of_ble_eq_true rfl) (AC.mono ?_ h)
  intro r M1 h
  obtain ⟨rfl, h⟩ := h
  show AW (d + 7) mX5_readAll 4 [(0, .inr 7), (1, .inr 4)] [] M1 Q
  refine aw_aload_n dX5_readAll_4 rfl (j := 0) rfl ?_
  refine aw_iconst dX5_readAll_5 ?_
  refine aw_putf dX5_readAll_6 pf_X5_24 rfl rfl rfl ?_
  refine aw_iconst dX5_readAll_9 ?_
  refine aw_istore_n (L' := [(0, .inr 7), (1, .inr 4), (2, .inl 0)]) dX5_readAll_10 rfl (Nat.le_of_ble_eq_true rfl) rfl ?_
  refine aw_iconst dX5_readAll_11 ?_
  refine aw_istore_n (L' := [(0, .inr 7), (1, .inr 4), (2, .inl 0), (3, .inl 0)]) dX5_readAll_12 rfl (Nat.le_of_ble_eq_true rfl) rfl ?_
  exact h
theorem sg_X5_readAll_13 {d : Nat} {M : am_M} {Q : Option Int → am_M → Prop} {it tu : Int} (h : (am_r tu) ∧
 ((140 ≤ tu →
 Q (some ((-10) - (M 7 3))) M) ∧
 (tu < 140 →
 AC (d + 6) mX5_nextToken [.inr 7] M (fun r M3 => r = none ∧
 (am_r (M3 7 2)) ∧
 ((M3 7 2 ≠ 0 →
 AC (d + 6) mX5_readItem [.inr 7, .inr 4] M3 (fun r M6 => ∃ z7, r = some z7 ∧
 (am_r z7) ∧
 ((z7 ≠ 0 →
 AW (d + 7) mX5_readAll 13 [(0, .inr 7), (1, .inr 4), (2, .inl (it + 1)), (3, .inl (tu + 1))] [] M6 Q) ∧
 (z7 = 0 →
 Q (some ((-10) - (M6 7 3))) M6)))) ∧
 (M3 7 2 = 0 →
 (am_r (M3 4 0)) ∧
 ((M3 4 0 ≤ 0 →
 AC (d + 6) mX5_readItem [.inr 7, .inr 4] M3 (fun r M12 => ∃ z13, r = some z13 ∧
 (am_r z13) ∧
 ((z13 ≠ 0 →
 AW (d + 7) mX5_readAll 13 [(0, .inr 7), (1, .inr 4), (2, .inl (it + 1)), (3, .inl (tu + 1))] [] M12 Q) ∧
 (z13 = 0 →
 Q (some ((-10) - (M12 7 3))) M12)))) ∧
 (0 < M3 4 0 →
 Q (some it) M3)))))))) : AW (d + 7) mX5_readAll 13 [(0, .inr 7), (1, .inr 4), (2, .inl it), (3, .inl tu)] [] M Q := by
  refine aw_iload_n dX5_readAll_13 rfl (j := 3) rfl ?_
  refine aw_sipush dX5_readAll_14 (by decide) ?_
  obtain ⟨s1, h⟩ := h
  refine aw_icmp_ge dX5_readAll_17 (tgt := 65) rfl s1 (by decide) (fun c2 => ?_) (fun c2 => ?_)
  · replace h := h.1 c2
    refine aw_bipush dX5_readAll_65 (by decide) ?_
    refine aw_aload_n dX5_readAll_67 rfl (j := 0) rfl ?_
    refine aw_getf dX5_readAll_68 fl_X5_40 rfl rfl rfl ?_
    refine aw_isub dX5_readAll_71 ?_
    exact aw_iret dX5_readAll_72 rfl h
  · replace h := h.2 c2
    refine aw_aload_n dX5_readAll_20 rfl (j := 0) rfl ?_
    refine aw_invv (d' := d + 6) (as := []) (rest := []) dX5_readAll_21 cv_X5_27 (Nat.lt_succ_self _) rfl rfl rfl rfl rfl (Nat.le_of_ble_eq_true rfl) (AC.mono ?_ h)
    intro r M3 h
    obtain ⟨rfl, h⟩ := h
    show AW (d + 7) mX5_readAll 24 [(0, .inr 7), (1, .inr 4), (2, .inl it), (3, .inl tu)] [] M3 Q
    refine aw_aload_n dX5_readAll_24 rfl (j := 0) rfl ?_
    refine aw_getf dX5_readAll_25 fl_X5_30 rfl rfl rfl ?_
    obtain ⟨s4, h⟩ := h
    refine aw_if_ne dX5_readAll_28 (tgt := 40) rfl s4 (fun c5 => ?_) (fun c5 => ?_)
    · replace h := h.1 c5
      refine aw_aload_n dX5_readAll_40 rfl (j := 0) rfl ?_
      refine aw_aload_n dX5_readAll_41 rfl (j := 1) rfl ?_
      refine aw_invv (d' := d + 6) (as := [.inr 4]) (rest := []) dX5_readAll_42 cv_X5_36 (Nat.lt_succ_self _) rfl rfl rfl rfl rfl (Nat.le_of_ble_eq_true rfl) (AC.mono ?_ h)
      intro r M6 h
      obtain ⟨z7, rfl, h⟩ := h
      show AW (d + 7) mX5_readAll 45 [(0, .inr 7), (1, .inr 4), (2, .inl it), (3, .inl tu)] [.inl z7] M6 Q
      obtain ⟨s8, h⟩ := h
      refine aw_if_ne dX5_readAll_45 (tgt := 56) rfl s8 (fun c9 => ?_) (fun c9 => ?_)
      · replace h := h.1 c9
        refine aw_iinc (L' := [(0, .inr 7), (1, .inr 4), (2, .inl (it + 1)), (3, .inl tu)]) dX5_readAll_56 (j := 2) rfl (Nat.le_of_ble_eq_true rfl) rfl ?_
        refine aw_iinc (L' := [(0, .inr 7), (1, .inr 4), (2, .inl (it + 1)), (3, .inl (tu + 1))]) dX5_readAll_59 (j := 3) rfl (Nat.le_of_ble_eq_true rfl) rfl ?_
        refine aw_goto dX5_readAll_62 (tgt := 13) rfl ?_
        exact h
      · replace h := h.2 c9
        refine aw_bipush dX5_readAll_48 (by decide) ?_
        refine aw_aload_n dX5_readAll_50 rfl (j := 0) rfl ?_
        refine aw_getf dX5_readAll_51 fl_X5_40 rfl rfl rfl ?_
        refine aw_isub dX5_readAll_54 ?_
        exact aw_iret dX5_readAll_55 rfl h
    · replace h := h.2 c5
      refine aw_aload_n dX5_readAll_31 rfl (j := 1) rfl ?_
      refine aw_getf dX5_readAll_32 fl_X5_33 rfl rfl rfl ?_
      obtain ⟨s10, h⟩ := h
      refine aw_if_le dX5_readAll_35 (tgt := 40) rfl s10 (fun c11 => ?_) (fun c11 => ?_)
      · replace h := h.1 c11
        refine aw_aload_n dX5_readAll_40 rfl (j := 0) rfl ?_
        refine aw_aload_n dX5_readAll_41 rfl (j := 1) rfl ?_
        refine aw_invv (d' := d + 6) (as := [.inr 4]) (rest := []) dX5_readAll_42 cv_X5_36 (Nat.lt_succ_self _) rfl rfl rfl rfl rfl (Nat.le_of_ble_eq_true rfl) (AC.mono ?_ h)
        intro r M12 h
        obtain ⟨z13, rfl, h⟩ := h
        show AW (d + 7) mX5_readAll 45 [(0, .inr 7), (1, .inr 4), (2, .inl it), (3, .inl tu)] [.inl z13] M12 Q
        obtain ⟨s14, h⟩ := h
        refine aw_if_ne dX5_readAll_45 (tgt := 56) rfl s14 (fun c15 => ?_) (fun c15 => ?_)
        · replace h := h.1 c15
          refine aw_iinc (L' := [(0, .inr 7), (1, .inr 4), (2, .inl (it + 1)), (3, .inl tu)]) dX5_readAll_56 (j := 2) rfl (Nat.le_of_ble_eq_true rfl) rfl ?_
          refine aw_iinc (L' := [(0, .inr 7), (1, .inr 4), (2, .inl (it + 1)), (3, .inl (tu + 1))]) dX5_readAll_59 (j := 3) rfl (Nat.le_of_ble_eq_true rfl) rfl ?_
          refine aw_goto dX5_readAll_62 (tgt := 13) rfl ?_
          exact h
        · replace h := h.2 c15
          refine aw_bipush dX5_readAll_48 (by decide) ?_
          refine aw_aload_n dX5_readAll_50 rfl (j := 0) rfl ?_
          refine aw_getf dX5_readAll_51 fl_X5_40 rfl rfl rfl ?_
          refine aw_isub dX5_readAll_54 ?_
          exact aw_iret dX5_readAll_55 rfl h
      · replace h := h.2 c11
        refine aw_iload_n dX5_readAll_38 rfl (j := 2) rfl ?_
        exact aw_iret dX5_readAll_39 rfl h
