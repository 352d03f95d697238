theorem sg_X7_followAnew {d : Nat} {M : am_M} {Q : Option Int → am_M → Prop} (h : AC (d + 5) mX2_find [.inr 31, .inr 1] M (fun r M1 => r = none ∧
 AC (d + 5) mX6_follow [.inr 41, .inr 31, .inr 36, .inl (M1 2 1)] M1 (fun r M2 => r = none ∧
 Q none (am_up M2 0 10 (-9))))) : AC (d + 6) mX7_followAnew [.inr 0] M Q := by
  refine aw_body (by decide) (Nat.le_of_ble_eq_true rfl) rfl ?_
  refine aw_aload_n dX7_followAnew_0 rfl (j := 0) rfl ?_
  refine aw_getr dX7_followAnew_1 fl_X7_44 rfl rfl ?_
  refine aw_aload_n dX7_followAnew_4 rfl (j := 0) rfl ?_
  refine aw_getr dX7_followAnew_5 fl_X7_10 rfl rfl ?_
  refine aw_invv (d' := d + 5) (as := [.inr 1]) (rest := []) dX7_followAnew_8 cv_X7_224 (Nat.lt_succ_self _) rfl rfl rfl rfl rfl (Nat.le_of_ble_eq_true rfl) (AC.mono ?_ h)
  intro r M1 h
  obtain ⟨rfl, h⟩ := h
  show AW (d + 6) mX7_followAnew 11 [(0, .inr 0)] [] M1 Q
  refine aw_aload_n dX7_followAnew_11 rfl (j := 0) rfl ?_
  refine aw_getr dX7_followAnew_12 fl_X7_58 rfl rfl ?_
  refine aw_aload_n dX7_followAnew_15 rfl (j := 0) rfl ?_
  refine aw_getr dX7_followAnew_16 fl_X7_44 rfl rfl ?_
  refine aw_aload_n dX7_followAnew_19 rfl (j := 0) rfl ?_
  refine aw_getr dX7_followAnew_20 fl_X7_51 rfl rfl ?_
  refine aw_aload_n dX7_followAnew_23 rfl (j := 0) rfl ?_
  refine aw_getr dX7_followAnew_24 fl_X7_10 rfl rfl ?_
  refine aw_getr dX7_followAnew_27 fl_X7_112 rfl rfl ?_
  refine aw_iconst dX7_followAnew_30 ?_
  refine aw_iaload dX7_followAnew_31 rfl (by decide) ?_
  refine aw_invv (d' := d + 5) (as := [.inr 31, .inr 36, .inl (M1 2 1)]) (rest := []) dX7_followAnew_32 cv_X7_227 (Nat.lt_succ_self _) rfl rfl rfl rfl rfl (Nat.le_of_ble_eq_true rfl) (AC.mono ?_ h)
  intro r M2 h
  obtain ⟨rfl, h⟩ := h
  show AW (d + 6) mX7_followAnew 35 [(0, .inr 0)] [] M2 Q
  refine aw_aload_n dX7_followAnew_35 rfl (j := 0) rfl ?_
  refine aw_bipush dX7_followAnew_36 (by decide) ?_
  refine aw_putf dX7_followAnew_38 pf_X7_69 rfl rfl rfl ?_
  exact aw_vret dX7_followAnew_41 rfl h
theorem sg_X7_keptTracks {d : Nat} {M : am_M} {Q : Option Int → am_M → Prop} (h : AW (d + 1) mX7_keptTracks 4 [(0, .inr 0), (1, .inl 0), (2, .inl 0)] [] M Q) : AC (d + 1) mX7_keptTracks [.inr 0] M Q := by
  refine aw_body (by decide) (Nat.le_of_ble_eq_true rfl) rfl ?_
  refine aw_iconst dX7_keptTracks_0 ?_
  refine aw_istore_n (L' := [(0, .inr 0), (1, .inl 0)]) dX7_keptTracks_1 rfl (Nat.le_of_ble_eq_true rfl) rfl ?_
  refine aw_iconst dX7_keptTracks_2 ?_
  refine aw_istore_n (L' := [(0, .inr 0), (1, .inl 0), (2, .inl 0)]) dX7_keptTracks_3 rfl (Nat.le_of_ble_eq_true rfl) rfl ?_
  exact h
theorem sg_X7_keptTracks_4 {d : Nat} {M : am_M} {Q : Option Int → am_M → Prop} {kt n : Int} (h : (am_r n) ∧
 (am_r (M 41 0)) ∧
 ((M 41 0 ≤ n →
 Q (some kt) M) ∧
 (n < M 41 0 →
 (am_r n ∧ am_r (M 41 0) ∧ M 41 0 ≤ 48 ∧ (0 ≤ n → n < M 41 0 → am_r (M 43 n)) ∧ am_r (M 2 2)) ∧
 ((¬ (0 ≤ n ∧ n < M 41 0 ∧ M 2 2 ≤ M 43 n) →
 AW (d + 1) mX7_keptTracks 4 [(0, .inr 0), (1, .inl kt), (2, .inl (n + 1))] [] M Q) ∧
 (0 ≤ n ∧ n < M 41 0 ∧ M 2 2 ≤ M 43 n →
 AW (d + 1) mX7_keptTracks 4 [(0, .inr 0), (1, .inl (kt + 1)), (2, .inl (n + 1))] [] M Q))))) : AW (d + 1) mX7_keptTracks 4 [(0, .inr 0), (1, .inl kt), (2, .inl n)] [] M Q := by
  refine aw_iload_n dX7_keptTracks_4 rfl (j := 2) rfl ?_
  refine aw_aload_n dX7_keptTracks_5 rfl (j := 0) rfl ?_
  refine aw_getr dX7_keptTracks_6 fl_X7_58 rfl rfl ?_
  refine aw_getf dX7_keptTracks_9 fl_X7_156 rfl rfl rfl ?_
  obtain ⟨s1, h⟩ := h
  obtain ⟨s2, h⟩ := h
  refine aw_icmp_ge dX7_keptTracks_12 (tgt := 32) rfl s1 s2 (fun c3 => ?_) (fun c3 => ?_)
  · replace h := h.1 c3
    refine aw_iload_n dX7_keptTracks_32 rfl (j := 1) rfl ?_
    exact aw_iret dX7_keptTracks_33 rfl h
  · replace h := h.2 c3
    refine aw_aload_n dX7_keptTracks_15 rfl (j := 0) rfl ?_
    refine aw_iload_n dX7_keptTracks_16 rfl (j := 2) rfl ?_
    obtain ⟨s4, h⟩ := h
    refine aw_invv (d' := d) (as := [.inl n]) (rest := []) dX7_keptTracks_17 cv_X7_164 (Nat.lt_succ_self _) rfl rfl rfl rfl rfl (Nat.le_of_ble_eq_true rfl) (fc_isKept s4 ?_)
    show AW (d + 1) mX7_keptTracks 20 [(0, .inr 0), (1, .inl kt), (2, .inl n)] [.inl (am_b (0 ≤ n ∧ n < M 41 0 ∧ M 2 2 ≤ M 43 n))] M Q
    refine aw_ifb_eq dX7_keptTracks_20 (tgt := 26) rfl (fun c5 => ?_) (fun c5 => ?_)
    · replace h := h.1 c5
      refine aw_iinc (L' := [(0, .inr 0), (1, .inl kt), (2, .inl (n + 1))]) dX7_keptTracks_26 (j := 2) rfl (Nat.le_of_ble_eq_true rfl) rfl ?_
      refine aw_goto dX7_keptTracks_29 (tgt := 4) rfl ?_
      exact h
    · replace h := h.2 c5
      refine aw_iinc (L' := [(0, .inr 0), (1, .inl (kt + 1)), (2, .inl n)]) dX7_keptTracks_23 (j := 1) rfl (Nat.le_of_ble_eq_true rfl) rfl ?_
      refine aw_iinc (L' := [(0, .inr 0), (1, .inl (kt + 1)), (2, .inl (n + 1))]) dX7_keptTracks_26 (j := 2) rfl (Nat.le_of_ble_eq_true rfl) rfl ?_
      refine aw_goto dX7_keptTracks_29 (tgt := 4) rfl ?_
      exact h
theorem sg_X7_loudTogether {d : Nat} {M : am_M} {Q : Option Int → am_M → Prop} {f ok : Int} (h : AW (d + 1) mX7_loudTogether 5 [(0, .inr 0), (1, .inl f), (2, .inl ok), (3, .inl 0), (4, .inl 0)] [] M Q) : AC (d + 1) mX7_loudTogether [.inr 0, .inl f, .inl ok] M Q := by
  refine aw_body (by decide) (Nat.le_of_ble_eq_true rfl) rfl ?_
  refine aw_iconst dX7_loudTogether_0 ?_
  refine aw_istore_n (L' := [(0, .inr 0), (1, .inl f), (2, .inl ok), (3, .inl 0)]) dX7_loudTogether_1 rfl (Nat.le_of_ble_eq_true rfl) rfl ?_
  refine aw_iconst dX7_loudTogether_2 ?_
  refine aw_istore (L' := [(0, .inr 0), (1, .inl f), (2, .inl ok), (3, .inl 0), (4, .inl 0)]) dX7_loudTogether_3 (Nat.le_of_ble_eq_true rfl) rfl ?_
  exact h
theorem sg_X7_loudTogether_5 {d : Nat} {M : am_M} {Q : Option Int → am_M → Prop} {f ok sm k : Int} (h : (0 ≤ f ∧ f < 8) ∧
 (am_r k) ∧
 (am_r (M 32 f)) ∧
 ((M 32 f ≤ k →
 Q (some sm) M) ∧
 (k < M 32 f →
 (0 ≤ (f * 6) + k ∧ (f * 6) + k < 48) ∧
 (am_r (M 49 ((f * 6) + k)) ∧ am_r (M 41 0) ∧ M 41 0 ≤ 48 ∧ (0 ≤ M 49 ((f * 6) + k) → M 49 ((f * 6) + k) < M 41 0 → am_r (M 43 (M 49 ((f * 6) + k)))) ∧ am_r (M 2 2)) ∧
 (am_r ok) ∧
 ((am_b (0 ≤ M 49 ((f * 6) + k) ∧ M 49 ((f * 6) + k) < M 41 0 ∧ M 2 2 ≤ M 43 (M 49 ((f * 6) + k))) ≠ ok →
 AW (d + 1) mX7_loudTogether 5 [(0, .inr 0), (1, .inl f), (2, .inl ok), (3, .inl sm), (4, .inl (k + 1))] [] M Q) ∧
 (am_b (0 ≤ M 49 ((f * 6) + k) ∧ M 49 ((f * 6) + k) < M 41 0 ∧ M 2 2 ≤ M 43 (M 49 ((f * 6) + k))) = ok →
 AW (d + 1) mX7_loudTogether 5 [(0, .inr 0), (1, .inl f), (2, .inl ok), (3, .inl (sm + (M 35 ((f * 6) + k)))), (4, .inl (k + 1))] [] M Q))))) : AW (d + 1) mX7_loudTogether 5 [(0, .inr 0), (1, .inl f), (2, .inl ok), (3, .inl sm), (4, .inl k)] [] M Q := by
  refine aw_iload dX7_loudTogether_5 (j := 4) rfl ?_
  refine aw_aload_n dX7_loudTogether_7 rfl (j := 0) rfl ?_
  refine aw_getr dX7_loudTogether_8 fl_X7_44 rfl rfl ?_
  refine aw_getr dX7_loudTogether_11 fl_X7_127 rfl rfl ?_
  refine aw_iload_n dX7_loudTogether_14 rfl (j := 1) rfl ?_
  obtain ⟨s1, h⟩ := h
  refine aw_iaload dX7_loudTogether_15 rfl s1 ?_
  obtain ⟨s2, h⟩ := h
  obtain ⟨s3, h⟩ := h
  refine aw_icmp_ge dX7_loudTogether_16 (tgt := 65) rfl s2 s3 (fun c4 => ?_) (fun c4 => ?_)
  · replace h := h.1 c4
    refine aw_iload_n dX7_loudTogether_65 rfl (j := 3) rfl ?_
    exact aw_iret dX7_loudTogether_66 rfl h
  · replace h := h.2 c4
    refine aw_iload_n dX7_loudTogether_19 rfl (j := 1) rfl ?_
    refine aw_bipush dX7_loudTogether_20 (by decide) ?_
    refine aw_imul dX7_loudTogether_22 ?_
    refine aw_iload dX7_loudTogether_23 (j := 4) rfl ?_
    refine aw_iadd dX7_loudTogether_25 ?_
    refine aw_istore (L' := [(0, .inr 0), (1, .inl f), (2, .inl ok), (3, .inl sm), (4, .inl k), (5, .inl ((f * 6) + k))]) dX7_loudTogether_26 (Nat.le_of_ble_eq_true rfl) rfl ?_
    refine aw_aload_n dX7_loudTogether_28 rfl (j := 0) rfl ?_
    refine aw_aload_n dX7_loudTogether_29 rfl (j := 0) rfl ?_
    refine aw_getr dX7_loudTogether_30 fl_X7_58 rfl rfl ?_
    refine aw_getr dX7_loudTogether_33 fl_X7_139 rfl rfl ?_
    refine aw_iload dX7_loudTogether_36 (j := 5) rfl ?_
    obtain ⟨s5, h⟩ := h
    refine aw_iaload dX7_loudTogether_38 rfl s5 ?_
    obtain ⟨s6, h⟩ := h
    refine aw_invv (d' := d) (as := [.inl (M 49 ((f * 6) + k))]) (rest := []) dX7_loudTogether_39 cv_X7_164 (Nat.lt_succ_self _) rfl rfl rfl rfl rfl (Nat.le_of_ble_eq_true rfl) (fc_isKept s6 ?_)
    show AW (d + 1) mX7_loudTogether 42 [(0, .inr 0), (1, .inl f), (2, .inl ok), (3, .inl sm), (4, .inl k), (5, .inl ((f * 6) + k))] [.inl (am_b (0 ≤ M 49 ((f * 6) + k) ∧ M 49 ((f * 6) + k) < M 41 0 ∧ M 2 2 ≤ M 43 (M 49 ((f * 6) + k))))] M Q
    refine aw_iload_n dX7_loudTogether_42 rfl (j := 2) rfl ?_
    obtain ⟨s7, h⟩ := h
    refine aw_icmp_ne dX7_loudTogether_43 (tgt := 59) rfl (am_b_r _) s7 (fun c8 => ?_) (fun c8 => ?_)
    · replace h := h.1 c8
      refine aw_iinc (L' := [(0, .inr 0), (1, .inl f), (2, .inl ok), (3, .inl sm), (4, .inl (k + 1)), (5, .inl ((f * 6) + k))]) dX7_loudTogether_59 (j := 4) rfl (Nat.le_of_ble_eq_true rfl) rfl ?_
      refine aw_goto dX7_loudTogether_62 (tgt := 5) rfl ?_
      exact aw_sub [0, 1, 2, 3, 4] rfl h
    · replace h := h.2 c8
      refine aw_iload_n dX7_loudTogether_46 rfl (j := 3) rfl ?_
      refine aw_aload_n dX7_loudTogether_47 rfl (j := 0) rfl ?_
      refine aw_getr dX7_loudTogether_48 fl_X7_44 rfl rfl ?_
      refine aw_getr dX7_loudTogether_51 fl_X7_136 rfl rfl ?_
      refine aw_iload dX7_loudTogether_54 (j := 5) rfl ?_
      refine aw_iaload dX7_loudTogether_56 rfl s5 ?_
      refine aw_iadd dX7_loudTogether_57 ?_
      refine aw_istore_n (L' := [(0, .inr 0), (1, .inl f), (2, .inl ok), (3, .inl (sm + (M 35 ((f * 6) + k)))), (4, .inl k), (5, .inl ((f * 6) + k))]) dX7_loudTogether_58 rfl (Nat.le_of_ble_eq_true rfl) rfl ?_
      refine aw_iinc (L' := [(0, .inr 0), (1, .inl f), (2, .inl ok), (3, .inl (sm + (M 35 ((f * 6) + k)))), (4, .inl (k + 1)), (5, .inl ((f * 6) + k))]) dX7_loudTogether_59 (j := 4) rfl (Nat.le_of_ble_eq_true rfl) rfl ?_
      refine aw_goto dX7_loudTogether_62 (tgt := 5) rfl ?_
      exact aw_sub [0, 1, 2, 3, 4] rfl h
theorem sg_X7_tracksByReach {d : Nat} {M : am_M} {Q : Option Int → am_M → Prop} {re : Int} (h : AW (d + 5) mX7_tracksByReach 4 [(0, .inr 0), (1, .inl re), (2, .inl 0), (3, .inl 0)] [] M Q) : AC (d + 5) mX7_tracksByReach [.inr 0, .inl re] M Q := by
  refine aw_body (by decide) (Nat.le_of_ble_eq_true rfl) rfl ?_
  refine aw_iconst dX7_tracksByReach_0 ?_
  refine aw_istore_n (L' := [(0, .inr 0), (1, .inl re), (2, .inl 0)]) dX7_tracksByReach_1 rfl (Nat.le_of_ble_eq_true rfl) rfl ?_
  refine aw_iconst dX7_tracksByReach_2 ?_
  refine aw_istore_n (L' := [(0, .inr 0), (1, .inl re), (2, .inl 0), (3, .inl 0)]) dX7_tracksByReach_3 rfl (Nat.le_of_ble_eq_true rfl) rfl ?_
  exact h
theorem sg_X7_tracksByReach_4 {d : Nat} {M : am_M} {Q : Option Int → am_M → Prop} {re mn f : Int} (h : (am_r f) ∧
 ((8 ≤ f →
 Q (some mn) M) ∧
 (f < 8 →
 (0 ≤ f ∧ f < 8) ∧
 AC (d + 4) mX1_join [.inr 36, .inr 31, .inl f, .inl re] M (fun r M4 => ∃ z5, r = some z5 ∧
 AW (d + 5) mX7_tracksByReach 4 [(0, .inr 0), (1, .inl re), (2, .inl (mn + ((M 32 f) - z5))), (3, .inl (f + 1))] [] M4 Q)))) : AW (d + 5) mX7_tracksByReach 4 [(0, .inr 0), (1, .inl re), (2, .inl mn), (3, .inl f)] [] M Q := by
  refine aw_iload_n dX7_tracksByReach_4 rfl (j := 3) rfl ?_
  refine aw_bipush dX7_tracksByReach_5 (by decide) ?_
  obtain ⟨s1, h⟩ := h
  refine aw_icmp_ge dX7_tracksByReach_7 (tgt := 42) rfl s1 (by decide) (fun c2 => ?_) (fun c2 => ?_)
  · replace h := h.1 c2
    refine aw_iload_n dX7_tracksByReach_42 rfl (j := 2) rfl ?_
    exact aw_iret dX7_tracksByReach_43 rfl h
  · replace h := h.2 c2
    refine aw_iload_n dX7_tracksByReach_10 rfl (j := 2) rfl ?_
    refine aw_aload_n dX7_tracksByReach_11 rfl (j := 0) rfl ?_
    refine aw_getr dX7_tracksByReach_12 fl_X7_44 rfl rfl ?_
    refine aw_getr dX7_tracksByReach_15 fl_X7_127 rfl rfl ?_
    refine aw_iload_n dX7_tracksByReach_18 rfl (j := 3) rfl ?_
    obtain ⟨s3, h⟩ := h
    refine aw_iaload dX7_tracksByReach_19 rfl s3 ?_
    refine aw_aload_n dX7_tracksByReach_20 rfl (j := 0) rfl ?_
    refine aw_getr dX7_tracksByReach_21 fl_X7_51 rfl rfl ?_
    refine aw_aload_n dX7_tracksByReach_24 rfl (j := 0) rfl ?_
    refine aw_getr dX7_tracksByReach_25 fl_X7_44 rfl rfl ?_
    refine aw_iload_n dX7_tracksByReach_28 rfl (j := 3) rfl ?_
    refine aw_iload_n dX7_tracksByReach_29 rfl (j := 1) rfl ?_
    refine aw_invv (d' := d + 4) (as := [.inr 31, .inl f, .inl re]) (rest := [.inl (M 32 f), .inl mn]) dX7_tracksByReach_30 cv_X7_231 (Nat.lt_succ_self _) rfl rfl rfl rfl rfl (Nat.le_of_ble_eq_true rfl) (AC.mono ?_ h)
    intro r M4 h
    obtain ⟨z5, rfl, h⟩ := h
    show AW (d + 5) mX7_tracksByReach 33 [(0, .inr 0), (1, .inl re), (2, .inl mn), (3, .inl f)] [.inl z5, .inl (M 32 f), .inl mn] M4 Q
    refine aw_isub dX7_tracksByReach_33 ?_
    refine aw_iadd dX7_tracksByReach_34 ?_
    refine aw_istore_n (L' := [(0, .inr 0), (1, .inl re), (2, .inl (mn + ((M 32 f) - z5))), (3, .inl f)]) dX7_tracksByReach_35 rfl (Nat.le_of_ble_eq_true rfl) rfl ?_
    refine aw_iinc (L' := [(0, .inr 0), (1, .inl re), (2, .inl (mn + ((M 32 f) - z5))), (3, .inl (f + 1))]) dX7_tracksByReach_36 (j := 3) rfl (Nat.le_of_ble_eq_true rfl) rfl ?_
    refine aw_goto dX7_tracksByReach_39 (tgt := 4) rfl ?_
    exact h
theorem sg_X7_type {d : Nat} {M : am_M} {Q : Option Int → am_M → Prop} {c : Int} (h : (am_r c) ∧
 ((c < 0 →
 Q (some (-1)) M) ∧
 (0 ≤ c →
 ((c ≤ 255 →
 (am_r (M 7 0)) ∧
 ((M 7 0 < 140 →
 (0 ≤ c ∧ c < 256) ∧
 AC (d) mX5_append [.inr 7, .inl c] M (fun r M7 => r = none ∧
 Q (some (M7 7 0)) M7)) ∧
 (140 ≤ M 7 0 →
 Q (some (-3)) M))) ∧
 (255 < c →
 Q (some (-1)) M))))) : AC (d + 1) mX7_type [.inr 0, .inl c] M Q := by
  refine aw_body (by decide) (Nat.le_of_ble_eq_true rfl) rfl ?_
  refine aw_iload_n dX7_type_0 rfl (j := 1) rfl ?_
  obtain ⟨s1, h⟩ := h
  refine aw_if_lt dX7_type_1 (tgt := 11) rfl s1 (fun c2 => ?_) (fun c2 => ?_)
  · replace h := h.1 c2
    refine aw_iconst dX7_type_11 ?_
    exact aw_iret dX7_type_12 rfl h
  · replace h := h.2 c2
    refine aw_iload_n dX7_type_4 rfl (j := 1) rfl ?_
    refine aw_sipush dX7_type_5 (by decide) ?_
    refine aw_icmp_le dX7_type_8 (tgt := 13) rfl s1 (by decide) (fun c3 => ?_) (fun c3 => ?_)
    · replace h := h.1 c3
      refine aw_aload_n dX7_type_13 rfl (j := 0) rfl ?_
      refine aw_getr dX7_type_14 fl_X7_22 rfl rfl ?_
      refine aw_getf dX7_type_17 fl_X7_79 rfl rfl rfl ?_
      refine aw_sipush dX7_type_20 (by decide) ?_
      obtain ⟨s4, h⟩ := h
      refine aw_icmp_lt dX7_type_23 (tgt := 29) rfl s4 (by decide) (fun c5 => ?_) (fun c5 => ?_)
      · replace h := h.1 c5
        refine aw_aload_n dX7_type_29 rfl (j := 0) rfl ?_
        refine aw_getr dX7_type_30 fl_X7_22 rfl rfl ?_
        refine aw_iload_n dX7_type_33 rfl (j := 1) rfl ?_
        obtain ⟨s6, h⟩ := h
        refine aw_i2c dX7_type_34 s6 ?_
        refine aw_invv (d' := d) (as := [.inl c]) (rest := []) dX7_type_35 cv_X7_82 (Nat.lt_succ_self _) rfl rfl rfl rfl rfl (Nat.le_of_ble_eq_true rfl) (AC.mono ?_ h)
        intro r M7 h
        obtain ⟨rfl, h⟩ := h
        show AW (d + 1) mX7_type 38 [(0, .inr 0), (1, .inl c)] [] M7 Q
        refine aw_aload_n dX7_type_38 rfl (j := 0) rfl ?_
        refine aw_getr dX7_type_39 fl_X7_22 rfl rfl ?_
        refine aw_getf dX7_type_42 fl_X7_79 rfl rfl rfl ?_
        exact aw_iret dX7_type_45 rfl h
      · replace h := h.2 c5
        refine aw_bipush dX7_type_26 (by decide) ?_
        exact aw_iret dX7_type_28 rfl h
    · replace h := h.2 c3
      refine aw_iconst dX7_type_11 ?_
      exact aw_iret dX7_type_12 rfl h
theorem sg_X7_clear {d : Nat} {M : am_M} {Q : Option Int → am_M → Prop} (h : Q (some (M 7 0)) (am_up M 7 0 0)) : AC (d) mX7_clear [.inr 0] M Q := by
  refine aw_body (by decide) (Nat.le_of_ble_eq_true rfl) rfl ?_
  refine aw_aload_n dX7_clear_0 rfl (j := 0) rfl ?_
  refine aw_getr dX7_clear_1 fl_X7_22 rfl rfl ?_
  refine aw_getf dX7_clear_4 fl_X7_79 rfl rfl rfl ?_
  refine aw_istore_n (L' := [(0, .inr 0), (1, .inl (M 7 0))]) dX7_clear_7 rfl (Nat.le_of_ble_eq_true rfl) rfl ?_
  refine aw_aload_n dX7_clear_8 rfl (j := 0) rfl ?_
  refine aw_getr dX7_clear_9 fl_X7_22 rfl rfl ?_
  refine aw_iconst dX7_clear_12 ?_
  refine aw_putf dX7_clear_13 pf_X7_79 rfl rfl rfl ?_
  refine aw_iload_n dX7_clear_16 rfl (j := 1) rfl ?_
  exact aw_iret dX7_clear_17 rfl h
theorem sg_X7_tells {d : Nat} {M : am_M} {Q : Option Int → am_M → Prop} (h : AC (d + 7) mX5_readAll [.inr 7, .inr 4] M (fun r M1 => ∃ z2, r = some z2 ∧
 (am_r z2) ∧
 ((0 ≤ z2 →
 AC (d + 7) mX0_remember [.inr 9, .inr 1] M1 (fun r M5 => r = none ∧
 AC (d + 7) mX3_takeFrom [.inr 1, .inr 4] M5 (fun r M6 => r = none ∧
 AC (d + 7) mX7_followAnew [.inr 0] (am_up M6 7 0 0) (fun r M7 => r = none ∧
 Q (some z2) M7)))) ∧
 (z2 < 0 →
 Q (some z2) M1)))) : AC (d + 8) mX7_tells [.inr 0] M Q := by
  refine aw_body (by decide) (Nat.le_of_ble_eq_true rfl) rfl ?_
  refine aw_aload_n dX7_tells_0 rfl (j := 0) rfl ?_
  refine aw_getr dX7_tells_1 fl_X7_22 rfl rfl ?_
  refine aw_aload_n dX7_tells_4 rfl (j := 0) rfl ?_
  refine aw_getr dX7_tells_5 fl_X7_16 rfl rfl ?_
  refine aw_invv (d' := d + 7) (as := [.inr 4]) (rest := []) dX7_tells_8 cv_X7_86 (Nat.lt_succ_self _) rfl rfl rfl rfl rfl (Nat.le_of_ble_eq_true rfl) (AC.mono ?_ h)
  intro r M1 h
  obtain ⟨z2, rfl, h⟩ := h
  show AW (d + 8) mX7_tells 11 [(0, .inr 0)] [.inl z2] M1 Q
  refine aw_istore_n (L' := [(0, .inr 0), (1, .inl z2)]) dX7_tells_11 rfl (Nat.le_of_ble_eq_true rfl) rfl ?_
  refine aw_iload_n dX7_tells_12 rfl (j := 1) rfl ?_
  obtain ⟨s3, h⟩ := h
  refine aw_if_ge dX7_tells_13 (tgt := 18) rfl s3 (fun c4 => ?_) (fun c4 => ?_)
  · replace h := h.1 c4
    refine aw_aload_n dX7_tells_18 rfl (j := 0) rfl ?_
    refine aw_getr dX7_tells_19 fl_X7_29 rfl rfl ?_
    refine aw_aload_n dX7_tells_22 rfl (j := 0) rfl ?_
    refine aw_getr dX7_tells_23 fl_X7_10 rfl rfl ?_
    refine aw_invv (d' := d + 7) (as := [.inr 1]) (rest := []) dX7_tells_26 cv_X7_90 (Nat.lt_succ_self _) rfl rfl rfl rfl rfl (Nat.le_of_ble_eq_true rfl) (AC.mono ?_ h)
    intro r M5 h
    obtain ⟨rfl, h⟩ := h
    show AW (d + 8) mX7_tells 29 [(0, .inr 0), (1, .inl z2)] [] M5 Q
    refine aw_aload_n dX7_tells_29 rfl (j := 0) rfl ?_
    refine aw_getr dX7_tells_30 fl_X7_10 rfl rfl ?_
    refine aw_aload_n dX7_tells_33 rfl (j := 0) rfl ?_
    refine aw_getr dX7_tells_34 fl_X7_16 rfl rfl ?_
    refine aw_invv (d' := d + 7) (as := [.inr 4]) (rest := []) dX7_tells_37 cv_X7_94 (Nat.lt_succ_self _) rfl rfl rfl rfl rfl (Nat.le_of_ble_eq_true rfl) (AC.mono ?_ h)
    intro r M6 h
    obtain ⟨rfl, h⟩ := h
    show AW (d + 8) mX7_tells 40 [(0, .inr 0), (1, .inl z2)] [] M6 Q
    refine aw_aload_n dX7_tells_40 rfl (j := 0) rfl ?_
    refine aw_getr dX7_tells_41 fl_X7_22 rfl rfl ?_
    refine aw_iconst dX7_tells_44 ?_
    refine aw_putf dX7_tells_45 pf_X7_79 rfl rfl rfl ?_
    refine aw_aload_n dX7_tells_48 rfl (j := 0) rfl ?_
    refine aw_invv (d' := d + 7) (as := []) (rest := []) dX7_tells_49 cv_X7_76 (Nat.lt_succ_self _) rfl rfl rfl rfl rfl (Nat.le_of_ble_eq_true rfl) (AC.mono ?_ h)
    intro r M7 h
    obtain ⟨rfl, h⟩ := h
    show AW (d + 8) mX7_tells 52 [(0, .inr 0), (1, .inl z2)] [] M7 Q
    refine aw_iload_n dX7_tells_52 rfl (j := 1) rfl ?_
    exact aw_iret dX7_tells_53 rfl h
  · replace h := h.2 c4
    refine aw_iload_n dX7_tells_16 rfl (j := 1) rfl ?_
    exact aw_iret dX7_tells_17 rfl h
theorem sg_X7_levels {d : Nat} {M : am_M} {Q : Option Int → am_M → Prop} {f p n : Int} (h : ((am_r f ∧ am_r (M 1 0)) ∧ am_r p ∧ am_r (M 1 1)) ∧
 ((¬ ((0 ≤ f ∧ f < M 1 0) ∧ 0 ≤ p ∧ p < M 1 1) →
 Q (some (-1)) M) ∧
 ((0 ≤ f ∧ f < M 1 0) ∧ 0 ≤ p ∧ p < M 1 1 →
 (am_r n) ∧
 ((n < 0 →
 Q (some (-1)) M) ∧
 (0 ≤ n →
 ((n ≤ 9 →
 (am_lvok (M 1 0) (M 1 1) f p) ∧
 (am_r (am_lv (M 1 0) (M 1 1) (M 3) f p)) ∧
 ((am_lv (M 1 0) (M 1 1) (M 3) f p ≠ n →
 AC (d + 6) mX0_remember [.inr 9, .inr 1] M (fun r M9 => r = none ∧
 AC (d + 6) mX3_putLevel [.inr 1, .inl f, .inl p, .inl n] M9 (fun r M10 => r = none ∧
 AC (d + 6) mX7_followAnew [.inr 0] M10 (fun r M11 => r = none ∧
 Q (some (am_lv (M 1 0) (M 1 1) (M 3) f p)) M11)))) ∧
 (am_lv (M 1 0) (M 1 1) (M 3) f p = n →
 Q (some (-2)) M))) ∧
 (9 < n →
 Q (some (-1)) M))))))) : AC (d + 7) mX7_levels [.inr 0, .inl f, .inl p, .inl n] M Q := by
  refine aw_body (by decide) (Nat.le_of_ble_eq_true rfl) rfl ?_
  refine aw_aload_n dX7_levels_0 rfl (j := 0) rfl ?_
  refine aw_getr dX7_levels_1 fl_X7_10 rfl rfl ?_
  refine aw_iload_n dX7_levels_4 rfl (j := 1) rfl ?_
  refine aw_iload_n dX7_levels_5 rfl (j := 2) rfl ?_
  obtain ⟨s1, h⟩ := h
  refine aw_invv (d' := d + 6) (as := [.inl f, .inl p]) (rest := []) dX7_levels_6 cv_X7_97 (Nat.lt_succ_self _) rfl rfl rfl rfl rfl (Nat.le_of_ble_eq_true rfl) (fc_hasPlace (a := 1) ⟨rfl, rfl, rfl⟩ s1 ?_)
  show AW (d + 7) mX7_levels 9 [(0, .inr 0), (1, .inl f), (2, .inl p), (3, .inl n)] [.inl (am_b ((0 ≤ f ∧ f < M 1 0) ∧ 0 ≤ p ∧ p < M 1 1))] M Q
  refine aw_ifb_eq dX7_levels_9 (tgt := 22) rfl (fun c2 => ?_) (fun c2 => ?_)
  · replace h := h.1 c2
    refine aw_iconst dX7_levels_22 ?_
    exact aw_iret dX7_levels_23 rfl h
  · replace h := h.2 c2
    refine aw_iload_n dX7_levels_12 rfl (j := 3) rfl ?_
    obtain ⟨s3, h⟩ := h
    refine aw_if_lt dX7_levels_13 (tgt := 22) rfl s3 (fun c4 => ?_) (fun c4 => ?_)
    · replace h := h.1 c4
      refine aw_iconst dX7_levels_22 ?_
      exact aw_iret dX7_levels_23 rfl h
    · replace h := h.2 c4
      refine aw_iload_n dX7_levels_16 rfl (j := 3) rfl ?_
      refine aw_bipush dX7_levels_17 (by decide) ?_
      refine aw_icmp_le dX7_levels_19 (tgt := 24) rfl s3 (by decide) (fun c5 => ?_) (fun c5 => ?_)
      · replace h := h.1 c5
        refine aw_aload_n dX7_levels_24 rfl (j := 0) rfl ?_
        refine aw_getr dX7_levels_25 fl_X7_10 rfl rfl ?_
        refine aw_iload_n dX7_levels_28 rfl (j := 1) rfl ?_
        refine aw_iload_n dX7_levels_29 rfl (j := 2) rfl ?_
        obtain ⟨s6, h⟩ := h
        refine aw_invv (d' := d + 6) (as := [.inl f, .inl p]) (rest := []) dX7_levels_30 cv_X7_101 (Nat.lt_succ_self _) rfl rfl rfl rfl rfl (Nat.le_of_ble_eq_true rfl) (fc_levelAt (a := 1) ⟨rfl, rfl, rfl⟩ s6 ?_)
        show AW (d + 7) mX7_levels 33 [(0, .inr 0), (1, .inl f), (2, .inl p), (3, .inl n)] [.inl (am_lv (M 1 0) (M 1 1) (M 3) f p)] M Q
        refine aw_istore (L' := [(0, .inr 0), (1, .inl f), (2, .inl p), (3, .inl n), (4, .inl (am_lv (M 1 0) (M 1 1) (M 3) f p))]) dX7_levels_33 (Nat.le_of_ble_eq_true rfl) rfl ?_
        refine aw_iload dX7_levels_35 (j := 4) rfl ?_
        refine aw_iload_n dX7_levels_37 rfl (j := 3) rfl ?_
        obtain ⟨s7, h⟩ := h
        refine aw_icmp_ne dX7_levels_38 (tgt := 44) rfl s7 s3 (fun c8 => ?_) (fun c8 => ?_)
        · replace h := h.1 c8
          refine aw_aload_n dX7_levels_44 rfl (j := 0) rfl ?_
          refine aw_getr dX7_levels_45 fl_X7_29 rfl rfl ?_
          refine aw_aload_n dX7_levels_48 rfl (j := 0) rfl ?_
          refine aw_getr dX7_levels_49 fl_X7_10 rfl rfl ?_
          refine aw_invv (d' := d + 6) (as := [.inr 1]) (rest := []) dX7_levels_52 cv_X7_90 (Nat.lt_succ_self _) rfl rfl rfl rfl rfl (Nat.le_of_ble_eq_true rfl) (AC.mono ?_ h)
          intro r M9 h
          obtain ⟨rfl, h⟩ := h
          show AW (d + 7) mX7_levels 55 [(0, .inr 0), (1, .inl f), (2, .inl p), (3, .inl n), (4, .inl (am_lv (M 1 0) (M 1 1) (M 3) f p))] [] M9 Q
          refine aw_aload_n dX7_levels_55 rfl (j := 0) rfl ?_
          refine aw_getr dX7_levels_56 fl_X7_10 rfl rfl ?_
          refine aw_iload_n dX7_levels_59 rfl (j := 1) rfl ?_
          refine aw_iload_n dX7_levels_60 rfl (j := 2) rfl ?_
          refine aw_iload_n dX7_levels_61 rfl (j := 3) rfl ?_
          refine aw_invv (d' := d + 6) (as := [.inl f, .inl p, .inl n]) (rest := []) dX7_levels_62 cv_X7_105 (Nat.lt_succ_self _) rfl rfl rfl rfl rfl (Nat.le_of_ble_eq_true rfl) (AC.mono ?_ h)
          intro r M10 h
          obtain ⟨rfl, h⟩ := h
          show AW (d + 7) mX7_levels 65 [(0, .inr 0), (1, .inl f), (2, .inl p), (3, .inl n), (4, .inl (am_lv (M 1 0) (M 1 1) (M 3) f p))] [] M10 Q
          refine aw_aload_n dX7_levels_65 rfl (j := 0) rfl ?_
          refine aw_invv (d' := d + 6) (as := []) (rest := []) dX7_levels_66 cv_X7_76 (Nat.lt_succ_self _) rfl rfl rfl rfl rfl (Nat.le_of_ble_eq_true rfl) (AC.mono ?_ h)
          intro r M11 h
          obtain ⟨rfl, h⟩ := h
          show AW (d + 7) mX7_levels 69 [(0, .inr 0), (1, .inl f), (2, .inl p), (3, .inl n), (4, .inl (am_lv (M 1 0) (M 1 1) (M 3) f p))] [] M11 Q
          refine aw_iload dX7_levels_69 (j := 4) rfl ?_
          exact aw_iret dX7_levels_71 rfl h
        · replace h := h.2 c8
          refine aw_bipush dX7_levels_41 (by decide) ?_
          exact aw_iret dX7_levels_43 rfl h
      · replace h := h.2 c5
        refine aw_iconst dX7_levels_22 ?_
        exact aw_iret dX7_levels_23 rfl h
theorem sg_X7_sets {d : Nat} {M : am_M} {Q : Option Int → am_M → Prop} {w n : Int} (h : (am_r w ∧ am_r n) ∧
 ((am_isS w n →
 (0 ≤ w ∧ w < 3) ∧
 (am_r (M 2 w)) ∧
 (am_r n) ∧
 ((M 2 w ≠ n →
 AC (d + 6) mX0_remember [.inr 9, .inr 1] M (fun r M7 => r = none ∧
 AC (d + 6) mX7_followAnew [.inr 0] (am_up M7 2 w n) (fun r M8 => r = none ∧
 Q (some (M 2 w)) M8))) ∧
 (M 2 w = n →
 Q (some (-2)) M))) ∧
 (¬ (am_isS w n) →
 Q (some (-1)) M))) : AC (d + 7) mX7_sets [.inr 0, .inl w, .inl n] M Q := by
  refine aw_body (by decide) (Nat.le_of_ble_eq_true rfl) rfl ?_
  refine aw_iload_n dX7_sets_0 rfl (j := 1) rfl ?_
  refine aw_iload_n dX7_sets_1 rfl (j := 2) rfl ?_
  obtain ⟨s1, h⟩ := h
  refine aw_invs (d' := d + 6) (as := [.inl w, .inl n]) (rest := []) dX7_sets_2 cs_X7_109 (Nat.lt_succ_self _) rfl rfl (Nat.le_of_ble_eq_true rfl) (fc_isSetting s1 ?_)
  show AW (d + 7) mX7_sets 5 [(0, .inr 0), (1, .inl w), (2, .inl n)] [.inl (am_b (am_isS w n))] M Q
  refine aw_ifb_ne dX7_sets_5 (tgt := 10) rfl (fun c2 => ?_) (fun c2 => ?_)
  · replace h := h.1 c2
    refine aw_aload_n dX7_sets_10 rfl (j := 0) rfl ?_
    refine aw_getr dX7_sets_11 fl_X7_10 rfl rfl ?_
    refine aw_getr dX7_sets_14 fl_X7_112 rfl rfl ?_
    refine aw_iload_n dX7_sets_17 rfl (j := 1) rfl ?_
    obtain ⟨s3, h⟩ := h
    refine aw_iaload dX7_sets_18 rfl s3 ?_
    refine aw_istore_n (L' := [(0, .inr 0), (1, .inl w), (2, .inl n), (3, .inl (M 2 w))]) dX7_sets_19 rfl (Nat.le_of_ble_eq_true rfl) rfl ?_
    refine aw_iload_n dX7_sets_20 rfl (j := 3) rfl ?_
    refine aw_iload_n dX7_sets_21 rfl (j := 2) rfl ?_
    obtain ⟨s4, h⟩ := h
    obtain ⟨s5, h⟩ := h
    refine aw_icmp_ne dX7_sets_22 (tgt := 28) rfl s4 s5 (fun c6 => ?_) (fun c6 => ?_)
    · replace h := h.1 c6
      refine aw_aload_n dX7_sets_28 rfl (j := 0) rfl ?_
      refine aw_getr dX7_sets_29 fl_X7_29 rfl rfl ?_
      refine aw_aload_n dX7_sets_32 rfl (j := 0) rfl ?_
      refine aw_getr dX7_sets_33 fl_X7_10 rfl rfl ?_
      refine aw_invv (d' := d + 6) (as := [.inr 1]) (rest := []) dX7_sets_36 cv_X7_90 (Nat.lt_succ_self _) rfl rfl rfl rfl rfl (Nat.le_of_ble_eq_true rfl) (AC.mono ?_ h)
      intro r M7 h
      obtain ⟨rfl, h⟩ := h
      show AW (d + 7) mX7_sets 39 [(0, .inr 0), (1, .inl w), (2, .inl n), (3, .inl (M 2 w))] [] M7 Q
      refine aw_aload_n dX7_sets_39 rfl (j := 0) rfl ?_
      refine aw_getr dX7_sets_40 fl_X7_10 rfl rfl ?_
      refine aw_getr dX7_sets_43 fl_X7_112 rfl rfl ?_
      refine aw_iload_n dX7_sets_46 rfl (j := 1) rfl ?_
      refine aw_iload_n dX7_sets_47 rfl (j := 2) rfl ?_
      refine aw_iastore dX7_sets_48 rfl s3 ?_
      refine aw_aload_n dX7_sets_49 rfl (j := 0) rfl ?_
      refine aw_invv (d' := d + 6) (as := []) (rest := []) dX7_sets_50 cv_X7_76 (Nat.lt_succ_self _) rfl rfl rfl rfl rfl (Nat.le_of_ble_eq_true rfl) (AC.mono ?_ h)
      intro r M8 h
      obtain ⟨rfl, h⟩ := h
      show AW (d + 7) mX7_sets 53 [(0, .inr 0), (1, .inl w), (2, .inl n), (3, .inl (M 2 w))] [] M8 Q
      refine aw_iload_n dX7_sets_53 rfl (j := 3) rfl ?_
      exact aw_iret dX7_sets_54 rfl h
    · replace h := h.2 c6
      refine aw_bipush dX7_sets_25 (by decide) ?_
      exact aw_iret dX7_sets_27 rfl h
  · replace h := h.2 c2
    refine aw_iconst dX7_sets_8 ?_
    exact aw_iret dX7_sets_9 rfl h
theorem sg_X7_undo {d : Nat} {M : am_M} {Q : Option Int → am_M → Prop} (h : (am_r (M 9 0)) ∧
 ((M 9 0 ≠ 0 →
 AC (d + 6) mX0_giveLatest [.inr 9, .inr 1] M (fun r M3 => r = none ∧
 AC (d + 6) mX7_followAnew [.inr 0] M3 (fun r M4 => r = none ∧
 Q (some (M4 9 0)) M4))) ∧
 (M 9 0 = 0 →
 Q (some (-2)) M))) : AC (d + 7) mX7_undo [.inr 0] M Q := by
  refine aw_body (by decide) (Nat.le_of_ble_eq_true rfl) rfl ?_
  refine aw_aload_n dX7_undo_0 rfl (j := 0) rfl ?_
  refine aw_getr dX7_undo_1 fl_X7_29 rfl rfl ?_
  refine aw_getf dX7_undo_4 fl_X7_116 rfl rfl rfl ?_
  obtain ⟨s1, h⟩ := h
  refine aw_if_ne dX7_undo_7 (tgt := 13) rfl s1 (fun c2 => ?_) (fun c2 => ?_)
  · replace h := h.1 c2
    refine aw_aload_n dX7_undo_13 rfl (j := 0) rfl ?_
    refine aw_getr dX7_undo_14 fl_X7_29 rfl rfl ?_
    refine aw_aload_n dX7_undo_17 rfl (j := 0) rfl ?_
    refine aw_getr dX7_undo_18 fl_X7_10 rfl rfl ?_
    refine aw_invv (d' := d + 6) (as := [.inr 1]) (rest := []) dX7_undo_21 cv_X7_119 (Nat.lt_succ_self _) rfl rfl rfl rfl rfl (Nat.le_of_ble_eq_true rfl) (AC.mono ?_ h)
    intro r M3 h
    obtain ⟨rfl, h⟩ := h
    show AW (d + 7) mX7_undo 24 [(0, .inr 0)] [] M3 Q
    refine aw_aload_n dX7_undo_24 rfl (j := 0) rfl ?_
    refine aw_invv (d' := d + 6) (as := []) (rest := []) dX7_undo_25 cv_X7_76 (Nat.lt_succ_self _) rfl rfl rfl rfl rfl (Nat.le_of_ble_eq_true rfl) (AC.mono ?_ h)
    intro r M4 h
    obtain ⟨rfl, h⟩ := h
    show AW (d + 7) mX7_undo 28 [(0, .inr 0)] [] M4 Q
    refine aw_aload_n dX7_undo_28 rfl (j := 0) rfl ?_
    refine aw_getr dX7_undo_29 fl_X7_29 rfl rfl ?_
    refine aw_getf dX7_undo_32 fl_X7_116 rfl rfl rfl ?_
    exact aw_iret dX7_undo_35 rfl h
  · replace h := h.2 c2
    refine aw_bipush dX7_undo_10 (by decide) ?_
    exact aw_iret dX7_undo_12 rfl h
theorem sg_X7_level {d : Nat} {M : am_M} {Q : Option Int → am_M → Prop} {f p : Int} (h : ((am_r f ∧ am_r (M 1 0)) ∧ am_r p ∧ am_r (M 1 1)) ∧
 (((0 ≤ f ∧ f < M 1 0) ∧ 0 ≤ p ∧ p < M 1 1 → (am_lvok (M 1 0) (M 1 1) f p))) ∧
 ∀ (v4 : Int), (¬ ((0 ≤ f ∧ f < M 1 0) ∧ 0 ≤ p ∧ p < M 1 1) → v4 = (-1)) →
 ((0 ≤ f ∧ f < M 1 0) ∧ 0 ≤ p ∧ p < M 1 1 → v4 = am_lv (M 1 0) (M 1 1) (M 3) f p) →
 Q (some v4) M) : AC (d + 3) mX7_level [.inr 0, .inl f, .inl p] M Q := by
  refine aw_body (by decide) (Nat.le_of_ble_eq_true rfl) rfl ?_
  refine aw_aload_n dX7_level_0 rfl (j := 0) rfl ?_
  refine aw_getr dX7_level_1 fl_X7_10 rfl rfl ?_
  refine aw_iload_n dX7_level_4 rfl (j := 1) rfl ?_
  refine aw_iload_n dX7_level_5 rfl (j := 2) rfl ?_
  obtain ⟨s1, h⟩ := h
  refine aw_invv (d' := d + 2) (as := [.inl f, .inl p]) (rest := []) dX7_level_6 cv_X7_97 (Nat.lt_succ_self _) rfl rfl rfl rfl rfl (Nat.le_of_ble_eq_true rfl) (fc_hasPlace (a := 1) ⟨rfl, rfl, rfl⟩ s1 ?_)
  show AW (d + 3) mX7_level 9 [(0, .inr 0), (1, .inl f), (2, .inl p)] [.inl (am_b ((0 ≤ f ∧ f < M 1 0) ∧ 0 ≤ p ∧ p < M 1 1))] M Q
  obtain ⟨g, h⟩ := h
  have K : ∀ (v4 : Int), (¬ ((0 ≤ f ∧ f < M 1 0) ∧ 0 ≤ p ∧ p < M 1 1) → v4 = (-1)) → ((0 ≤ f ∧ f < M 1 0) ∧ 0 ≤ p ∧ p < M 1 1 → v4 = am_lv (M 1 0) (M 1 1) (M 3) f p) → AW (d + 3) mX7_level 25 [(0, .inr 0), (1, .inl f), (2, .inl p)] [.inl v4] M Q := by
    intro v4 q5 q6
    replace h := h v4 q5 q6
    exact aw_iret dX7_level_25 rfl h
  clear h
  refine aw_ifb_eq dX7_level_9 (tgt := 24) rfl (fun c2 => ?_) (fun c2 => ?_)
  · have c2 : ¬ ((0 ≤ f ∧ f < M 1 0) ∧ 0 ≤ p ∧ p < M 1 1) := c2
    refine aw_iconst dX7_level_24 ?_
    exact K (-1) (fun _ => rfl) (fun q0 => by first | omega | exact absurd c2 q0 | exact absurd q0 c2)
  · have c2 : (0 ≤ f ∧ f < M 1 0) ∧ 0 ≤ p ∧ p < M 1 1 := c2
    replace g := g c2
    refine aw_aload_n dX7_level_12 rfl (j := 0) rfl ?_
    refine aw_getr dX7_level_13 fl_X7_10 rfl rfl ?_
    refine aw_iload_n dX7_level_16 rfl (j := 1) rfl ?_
    refine aw_iload_n dX7_level_17 rfl (j := 2) rfl ?_
    have s3 := g
    refine aw_invv (d' := d + 2) (as := [.inl f, .inl p]) (rest := []) dX7_level_18 cv_X7_101 (Nat.lt_succ_self _) rfl rfl rfl rfl rfl (Nat.le_of_ble_eq_true rfl) (fc_levelAt (a := 1) ⟨rfl, rfl, rfl⟩ s3 ?_)
    show AW (d + 3) mX7_level 21 [(0, .inr 0), (1, .inl f), (2, .inl p)] [.inl (am_lv (M 1 0) (M 1 1) (M 3) f p)] M Q
    refine aw_goto dX7_level_21 (tgt := 25) rfl ?_
    exact K (am_lv (M 1 0) (M 1 1) (M 3) f p) (fun q0 => by first | omega | exact absurd c2 q0 | exact absurd q0 c2) (fun _ => rfl)
theorem sg_X7_peak {d : Nat} {M : am_M} {Q : Option Int → am_M → Prop} {f k w : Int} (h : (am_r f ∧ am_r (M 1 0)) ∧
 ((¬ (0 ≤ f ∧ f < M 1 0) →
 Q (some (-1000000)) M) ∧
 (0 ≤ f ∧ f < M 1 0 →
 (am_r k) ∧
 ((k < 0 →
 Q (some (-1000000)) M) ∧
 (0 ≤ k →
 (am_r w) ∧
 ((w < 0 →
 Q (some (-1000000)) M) ∧
 (0 ≤ w →
 ((w ≤ 4 →
 (0 ≤ f ∧ f < 8) ∧
 (am_r (M 32 f)) ∧
 ((k < M 32 f →
 ((w < 0 ∨ 3 < w →
 (0 ≤ (f * 6) + k ∧ (f * 6) + k < 48) ∧
 Q (some (M 50 ((f * 6) + k))) M) ∧
 (w = 0 →
 (0 ≤ (f * 6) + k ∧ (f * 6) + k < 48) ∧
 Q (some (M 33 ((f * 6) + k))) M) ∧
 (w = 1 →
 (0 ≤ (f * 6) + k ∧ (f * 6) + k < 48) ∧
 Q (some (M 34 ((f * 6) + k))) M) ∧
 (w = 2 →
 (0 ≤ (f * 6) + k ∧ (f * 6) + k < 48) ∧
 Q (some (M 35 ((f * 6) + k))) M) ∧
 (w = 3 →
 (0 ≤ (f * 6) + k ∧ (f * 6) + k < 48) ∧
 Q (some (M 49 ((f * 6) + k))) M))) ∧
 (M 32 f ≤ k →
 Q (some (-9)) M))) ∧
 (4 < w →
 Q (some (-1000000)) M))))))))) : AC (d + 1) mX7_peak [.inr 0, .inl f, .inl k, .inl w] M Q := by
  refine aw_body (by decide) (Nat.le_of_ble_eq_true rfl) rfl ?_
  refine aw_aload_n dX7_peak_0 rfl (j := 0) rfl ?_
  refine aw_getr dX7_peak_1 fl_X7_10 rfl rfl ?_
  refine aw_iload_n dX7_peak_4 rfl (j := 1) rfl ?_
  obtain ⟨s1, h⟩ := h
  refine aw_invv (d' := d) (as := [.inl f]) (rest := []) dX7_peak_5 cv_X7_122 (Nat.lt_succ_self _) rfl rfl rfl rfl rfl (Nat.le_of_ble_eq_true rfl) (fc_hasFrame (a := 1) ⟨rfl, rfl, rfl⟩ s1 ?_)
  show AW (d + 1) mX7_peak 8 [(0, .inr 0), (1, .inl f), (2, .inl k), (3, .inl w)] [.inl (am_b (0 ≤ f ∧ f < M 1 0))] M Q
  refine aw_ifb_eq dX7_peak_8 (tgt := 24) rfl (fun c2 => ?_) (fun c2 => ?_)
  · replace h := h.1 c2
    refine aw_ldc (z := (-1000000)) dX7_peak_24 lc_X7_126 ?_
    exact aw_iret dX7_peak_26 rfl h
  · replace h := h.2 c2
    refine aw_iload_n dX7_peak_11 rfl (j := 2) rfl ?_
    obtain ⟨s3, h⟩ := h
    refine aw_if_lt dX7_peak_12 (tgt := 24) rfl s3 (fun c4 => ?_) (fun c4 => ?_)
    · replace h := h.1 c4
      refine aw_ldc (z := (-1000000)) dX7_peak_24 lc_X7_126 ?_
      exact aw_iret dX7_peak_26 rfl h
    · replace h := h.2 c4
      refine aw_iload_n dX7_peak_15 rfl (j := 3) rfl ?_
      obtain ⟨s5, h⟩ := h
      refine aw_if_lt dX7_peak_16 (tgt := 24) rfl s5 (fun c6 => ?_) (fun c6 => ?_)
      · replace h := h.1 c6
        refine aw_ldc (z := (-1000000)) dX7_peak_24 lc_X7_126 ?_
        exact aw_iret dX7_peak_26 rfl h
      · replace h := h.2 c6
        refine aw_iload_n dX7_peak_19 rfl (j := 3) rfl ?_
        refine aw_iconst dX7_peak_20 ?_
        refine aw_icmp_le dX7_peak_21 (tgt := 27) rfl s5 (by decide) (fun c7 => ?_) (fun c7 => ?_)
        · replace h := h.1 c7
          refine aw_iload_n dX7_peak_27 rfl (j := 2) rfl ?_
          refine aw_aload_n dX7_peak_28 rfl (j := 0) rfl ?_
          refine aw_getr dX7_peak_29 fl_X7_44 rfl rfl ?_
          refine aw_getr dX7_peak_32 fl_X7_127 rfl rfl ?_
          refine aw_iload_n dX7_peak_35 rfl (j := 1) rfl ?_
          obtain ⟨s8, h⟩ := h
          refine aw_iaload dX7_peak_36 rfl s8 ?_
          obtain ⟨s9, h⟩ := h
          refine aw_icmp_lt dX7_peak_37 (tgt := 43) rfl s3 s9 (fun c10 => ?_) (fun c10 => ?_)
          · replace h := h.1 c10
            refine aw_iload_n dX7_peak_43 rfl (j := 1) rfl ?_
            refine aw_bipush dX7_peak_44 (by decide) ?_
            refine aw_imul dX7_peak_46 ?_
            refine aw_iload_n dX7_peak_47 rfl (j := 2) rfl ?_
            refine aw_iadd dX7_peak_48 ?_
            refine aw_istore (L' := [(0, .inr 0), (1, .inl f), (2, .inl k), (3, .inl w), (4, .inl ((f * 6) + k))]) dX7_peak_49 (Nat.le_of_ble_eq_true rfl) rfl ?_
            refine aw_iload_n dX7_peak_51 rfl (j := 3) rfl ?_
            refine aw_tsw [84, 95, 106, 117] dX7_peak_52 (tgt := 128) rfl (by decide) (by decide) s5 (fun c => ?_) (fun j t hj hx => ?_)
            · replace h := h.1 c
              refine aw_aload_n dX7_peak_128 rfl (j := 0) rfl ?_
              refine aw_getr dX7_peak_129 fl_X7_58 rfl rfl ?_
              refine aw_getr dX7_peak_132 fl_X7_142 rfl rfl ?_
              refine aw_iload dX7_peak_135 (j := 4) rfl ?_
              obtain ⟨s11, h⟩ := h
              refine aw_iaload dX7_peak_137 rfl s11 ?_
              exact aw_iret dX7_peak_138 rfl h
            · match j, hj, hx with
              | 0, hj, hx =>
                cases hj
                replace h := h.2.1 (hx.trans (by decide))
                refine aw_aload_n dX7_peak_84 rfl (j := 0) rfl ?_
                refine aw_getr dX7_peak_85 fl_X7_44 rfl rfl ?_
                refine aw_getr dX7_peak_88 fl_X7_130 rfl rfl ?_
                refine aw_iload dX7_peak_91 (j := 4) rfl ?_
                obtain ⟨s12, h⟩ := h
                refine aw_iaload dX7_peak_93 rfl s12 ?_
                exact aw_iret dX7_peak_94 rfl h
              | 1, hj, hx =>
                cases hj
                replace h := h.2.2.1 (hx.trans (by decide))
                refine aw_aload_n dX7_peak_95 rfl (j := 0) rfl ?_
                refine aw_getr dX7_peak_96 fl_X7_44 rfl rfl ?_
                refine aw_getr dX7_peak_99 fl_X7_133 rfl rfl ?_
                refine aw_iload dX7_peak_102 (j := 4) rfl ?_
                obtain ⟨s13, h⟩ := h
                refine aw_iaload dX7_peak_104 rfl s13 ?_
                exact aw_iret dX7_peak_105 rfl h
              | 2, hj, hx =>
                cases hj
                replace h := h.2.2.2.1 (hx.trans (by decide))
                refine aw_aload_n dX7_peak_106 rfl (j := 0) rfl ?_
                refine aw_getr dX7_peak_107 fl_X7_44 rfl rfl ?_
                refine aw_getr dX7_peak_110 fl_X7_136 rfl rfl ?_
                refine aw_iload dX7_peak_113 (j := 4) rfl ?_
                obtain ⟨s14, h⟩ := h
                refine aw_iaload dX7_peak_115 rfl s14 ?_
                exact aw_iret dX7_peak_116 rfl h
              | 3, hj, hx =>
                cases hj
                replace h := h.2.2.2.2 (hx.trans (by decide))
                refine aw_aload_n dX7_peak_117 rfl (j := 0) rfl ?_
                refine aw_getr dX7_peak_118 fl_X7_58 rfl rfl ?_
                refine aw_getr dX7_peak_121 fl_X7_139 rfl rfl ?_
                refine aw_iload dX7_peak_124 (j := 4) rfl ?_
                obtain ⟨s15, h⟩ := h
                refine aw_iaload dX7_peak_126 rfl s15 ?_
                exact aw_iret dX7_peak_127 rfl h
              | n + 4, hj, hx => exact absurd hj (by simp)
          · replace h := h.2 c10
            refine aw_bipush dX7_peak_40 (by decide) ?_
            exact aw_iret dX7_peak_42 rfl h
        · replace h := h.2 c7
          refine aw_ldc (z := (-1000000)) dX7_peak_24 lc_X7_126 ?_
          exact aw_iret dX7_peak_26 rfl h
theorem sg_X7_frame {d : Nat} {M : am_M} {Q : Option Int → am_M → Prop} {f w : Int} (h : (am_r f ∧ am_r (M 1 0)) ∧
 ((0 ≤ f ∧ f < M 1 0 →
 (am_r w) ∧
 ((w < 0 ∨ 4 < w →
 Q (some (-1)) M) ∧
 (w = 0 →
 (0 ≤ f ∧ f < 8) ∧
 Q (some (M 32 f)) M) ∧
 (w = 1 →
 AC (d + 1) mX7_loudTogether [.inr 0, .inl f, .inl 1] M (fun r M5 => ∃ z6, r = some z6 ∧
 Q (some z6) M5)) ∧
 (w = 2 →
 AC (d + 1) mX7_loudTogether [.inr 0, .inl f, .inl 0] M (fun r M7 => ∃ z8, r = some z8 ∧
 Q (some z8) M7)) ∧
 (w = 3 →
 AC (d + 1) mX6_bornIn [.inr 41, .inl f] M (fun r M9 => ∃ z10, r = some z10 ∧
 Q (some z10) M9)) ∧
 (w = 4 →
 AC (d + 1) mX6_endingIn [.inr 41, .inl f] M (fun r M11 => ∃ z12, r = some z12 ∧
 Q (some z12) M11)))) ∧
 (¬ (0 ≤ f ∧ f < M 1 0) →
 Q (some (-1)) M))) : AC (d + 2) mX7_frame [.inr 0, .inl f, .inl w] M Q := by
  refine aw_body (by decide) (Nat.le_of_ble_eq_true rfl) rfl ?_
  refine aw_aload_n dX7_frame_0 rfl (j := 0) rfl ?_
  refine aw_getr dX7_frame_1 fl_X7_10 rfl rfl ?_
  refine aw_iload_n dX7_frame_4 rfl (j := 1) rfl ?_
  obtain ⟨s1, h⟩ := h
  refine aw_invv (d' := d + 1) (as := [.inl f]) (rest := []) dX7_frame_5 cv_X7_122 (Nat.lt_succ_self _) rfl rfl rfl rfl rfl (Nat.le_of_ble_eq_true rfl) (fc_hasFrame (a := 1) ⟨rfl, rfl, rfl⟩ s1 ?_)
  show AW (d + 2) mX7_frame 8 [(0, .inr 0), (1, .inl f), (2, .inl w)] [.inl (am_b (0 ≤ f ∧ f < M 1 0))] M Q
  refine aw_ifb_ne dX7_frame_8 (tgt := 13) rfl (fun c2 => ?_) (fun c2 => ?_)
  · replace h := h.1 c2
    refine aw_iload_n dX7_frame_13 rfl (j := 2) rfl ?_
    obtain ⟨s3, h⟩ := h
    refine aw_tsw [48, 58, 65, 72, 81] dX7_frame_14 (tgt := 90) rfl (by decide) (by decide) s3 (fun c => ?_) (fun j t hj hx => ?_)
    · replace h := h.1 c
      refine aw_iconst dX7_frame_90 ?_
      exact aw_iret dX7_frame_91 rfl h
    · match j, hj, hx with
      | 0, hj, hx =>
        cases hj
        replace h := h.2.1 (hx.trans (by decide))
        refine aw_aload_n dX7_frame_48 rfl (j := 0) rfl ?_
        refine aw_getr dX7_frame_49 fl_X7_44 rfl rfl ?_
        refine aw_getr dX7_frame_52 fl_X7_127 rfl rfl ?_
        refine aw_iload_n dX7_frame_55 rfl (j := 1) rfl ?_
        obtain ⟨s4, h⟩ := h
        refine aw_iaload dX7_frame_56 rfl s4 ?_
        exact aw_iret dX7_frame_57 rfl h
      | 1, hj, hx =>
        cases hj
        replace h := h.2.2.1 (hx.trans (by decide))
        refine aw_aload_n dX7_frame_58 rfl (j := 0) rfl ?_
        refine aw_iload_n dX7_frame_59 rfl (j := 1) rfl ?_
        refine aw_iconst dX7_frame_60 ?_
        refine aw_invv (d' := d + 1) (as := [.inl f, .inl 1]) (rest := []) dX7_frame_61 cv_X7_145 (Nat.lt_succ_self _) rfl rfl rfl rfl rfl (Nat.le_of_ble_eq_true rfl) (AC.mono ?_ h)
        intro r M5 h
        obtain ⟨z6, rfl, h⟩ := h
        show AW (d + 2) mX7_frame 64 [(0, .inr 0), (1, .inl f), (2, .inl w)] [.inl z6] M5 Q
        exact aw_iret dX7_frame_64 rfl h
      | 2, hj, hx =>
        cases hj
        replace h := h.2.2.2.1 (hx.trans (by decide))
        refine aw_aload_n dX7_frame_65 rfl (j := 0) rfl ?_
        refine aw_iload_n dX7_frame_66 rfl (j := 1) rfl ?_
        refine aw_iconst dX7_frame_67 ?_
        refine aw_invv (d' := d + 1) (as := [.inl f, .inl 0]) (rest := []) dX7_frame_68 cv_X7_145 (Nat.lt_succ_self _) rfl rfl rfl rfl rfl (Nat.le_of_ble_eq_true rfl) (AC.mono ?_ h)
        intro r M7 h
        obtain ⟨z8, rfl, h⟩ := h
        show AW (d + 2) mX7_frame 71 [(0, .inr 0), (1, .inl f), (2, .inl w)] [.inl z8] M7 Q
        exact aw_iret dX7_frame_71 rfl h
      | 3, hj, hx =>
        cases hj
        replace h := h.2.2.2.2.1 (hx.trans (by decide))
        refine aw_aload_n dX7_frame_72 rfl (j := 0) rfl ?_
        refine aw_getr dX7_frame_73 fl_X7_58 rfl rfl ?_
        refine aw_iload_n dX7_frame_76 rfl (j := 1) rfl ?_
        refine aw_invv (d' := d + 1) (as := [.inl f]) (rest := []) dX7_frame_77 cv_X7_149 (Nat.lt_succ_self _) rfl rfl rfl rfl rfl (Nat.le_of_ble_eq_true rfl) (AC.mono ?_ h)
        intro r M9 h
        obtain ⟨z10, rfl, h⟩ := h
        show AW (d + 2) mX7_frame 80 [(0, .inr 0), (1, .inl f), (2, .inl w)] [.inl z10] M9 Q
        exact aw_iret dX7_frame_80 rfl h
      | 4, hj, hx =>
        cases hj
        replace h := h.2.2.2.2.2 (hx.trans (by decide))
        refine aw_aload_n dX7_frame_81 rfl (j := 0) rfl ?_
        refine aw_getr dX7_frame_82 fl_X7_58 rfl rfl ?_
        refine aw_iload_n dX7_frame_85 rfl (j := 1) rfl ?_
        refine aw_invv (d' := d + 1) (as := [.inl f]) (rest := []) dX7_frame_86 cv_X7_153 (Nat.lt_succ_self _) rfl rfl rfl rfl rfl (Nat.le_of_ble_eq_true rfl) (AC.mono ?_ h)
        intro r M11 h
        obtain ⟨z12, rfl, h⟩ := h
        show AW (d + 2) mX7_frame 89 [(0, .inr 0), (1, .inl f), (2, .inl w)] [.inl z12] M11 Q
        exact aw_iret dX7_frame_89 rfl h
      | n + 5, hj, hx => exact absurd hj (by simp)
  · replace h := h.2 c2
    refine aw_iconst dX7_frame_11 ?_
    exact aw_iret dX7_frame_12 rfl h
theorem sg_X7_track {d : Nat} {M : am_M} {Q : Option Int → am_M → Prop} {n w : Int} (h : (am_r n) ∧
 ((n < 0 →
 Q (some (-1000000)) M) ∧
 (0 ≤ n →
 (am_r (M 41 0)) ∧
 ((n < M 41 0 →
 (am_r w) ∧
 ((w < 0 ∨ 7 < w →
 Q (some (-1000000)) M) ∧
 (w = 0 →
 (0 ≤ n ∧ n < 48) ∧
 Q (some (M 42 n)) M) ∧
 (w = 1 →
 (0 ≤ n ∧ n < 48) ∧
 Q (some (M 43 n)) M) ∧
 (w = 2 →
 (am_r n ∧ am_r (M 41 0) ∧ M 41 0 ≤ 48 ∧ (0 ≤ n → n < M 41 0 → am_r (M 43 n)) ∧ am_r (M 2 2)) ∧
 Q (some (am_b ((0 ≤ n ∧ n < M 41 0 ∧ M 2 2 ≤ M 43 n)))) M) ∧
 (w = 3 →
 (0 ≤ n ∧ n < 48) ∧
 Q (some (M 44 n)) M) ∧
 (w = 4 →
 (0 ≤ n ∧ n < 48) ∧
 Q (some (M 45 n)) M) ∧
 (w = 5 →
 (0 ≤ n ∧ n < 48) ∧
 Q (some (M 46 n)) M) ∧
 (w = 6 →
 (0 ≤ n ∧ n < 48) ∧
 Q (some ((M 47 n) * (M 46 n + 1) - M 44 n)) M) ∧
 (w = 7 →
 (0 ≤ n ∧ n < 48) ∧
 (am_piok (M 41 0) n (M 42 n)) ∧
 Q (some (am_pi (M 41 0) (M 48) n (M 42 n))) M))) ∧
 (M 41 0 ≤ n →
 Q (some (-1000000)) M))))) : AC (d + 1) mX7_track [.inr 0, .inl n, .inl w] M Q := by
  refine aw_body (by decide) (Nat.le_of_ble_eq_true rfl) rfl ?_
  refine aw_iload_n dX7_track_0 rfl (j := 1) rfl ?_
  obtain ⟨s1, h⟩ := h
  refine aw_if_lt dX7_track_1 (tgt := 15) rfl s1 (fun c2 => ?_) (fun c2 => ?_)
  · replace h := h.1 c2
    refine aw_ldc (z := (-1000000)) dX7_track_15 lc_X7_126 ?_
    exact aw_iret dX7_track_17 rfl h
  · replace h := h.2 c2
    refine aw_iload_n dX7_track_4 rfl (j := 1) rfl ?_
    refine aw_aload_n dX7_track_5 rfl (j := 0) rfl ?_
    refine aw_getr dX7_track_6 fl_X7_58 rfl rfl ?_
    refine aw_getf dX7_track_9 fl_X7_156 rfl rfl rfl ?_
    obtain ⟨s3, h⟩ := h
    refine aw_icmp_lt dX7_track_12 (tgt := 18) rfl s1 s3 (fun c4 => ?_) (fun c4 => ?_)
    · replace h := h.1 c4
      refine aw_iload_n dX7_track_18 rfl (j := 2) rfl ?_
      obtain ⟨s5, h⟩ := h
      refine aw_tsw [64, 74, 84, 98, 108, 118, 128, 137] dX7_track_19 (tgt := 155) rfl (by decide) (by decide) s5 (fun c => ?_) (fun j t hj hx => ?_)
      · replace h := h.1 c
        refine aw_ldc (z := (-1000000)) dX7_track_155 lc_X7_126 ?_
        exact aw_iret dX7_track_157 rfl h
      · match j, hj, hx with
        | 0, hj, hx =>
          cases hj
          replace h := h.2.1 (hx.trans (by decide))
          refine aw_aload_n dX7_track_64 rfl (j := 0) rfl ?_
          refine aw_getr dX7_track_65 fl_X7_58 rfl rfl ?_
          refine aw_getr dX7_track_68 fl_X7_158 rfl rfl ?_
          refine aw_iload_n dX7_track_71 rfl (j := 1) rfl ?_
          obtain ⟨s6, h⟩ := h
          refine aw_iaload dX7_track_72 rfl s6 ?_
          exact aw_iret dX7_track_73 rfl h
        | 1, hj, hx =>
          cases hj
          replace h := h.2.2.1 (hx.trans (by decide))
          refine aw_aload_n dX7_track_74 rfl (j := 0) rfl ?_
          refine aw_getr dX7_track_75 fl_X7_58 rfl rfl ?_
          refine aw_getr dX7_track_78 fl_X7_161 rfl rfl ?_
          refine aw_iload_n dX7_track_81 rfl (j := 1) rfl ?_
          obtain ⟨s7, h⟩ := h
          refine aw_iaload dX7_track_82 rfl s7 ?_
          exact aw_iret dX7_track_83 rfl h
        | 2, hj, hx =>
          cases hj
          replace h := h.2.2.2.1 (hx.trans (by decide))
          refine aw_aload_n dX7_track_84 rfl (j := 0) rfl ?_
          refine aw_iload_n dX7_track_85 rfl (j := 1) rfl ?_
          obtain ⟨s8, h⟩ := h
          refine aw_invv (d' := d) (as := [.inl n]) (rest := []) dX7_track_86 cv_X7_164 (Nat.lt_succ_self _) rfl rfl rfl rfl rfl (Nat.le_of_ble_eq_true rfl) (fc_isKept s8 ?_)
          show AW (d + 1) mX7_track 89 [(0, .inr 0), (1, .inl n), (2, .inl w)] [.inl (am_b (0 ≤ n ∧ n < M 41 0 ∧ M 2 2 ≤ M 43 n))] M Q
          have K : AW (d + 1) mX7_track 97 [(0, .inr 0), (1, .inl n), (2, .inl w)] [.inl (am_b ((0 ≤ n ∧ n < M 41 0 ∧ M 2 2 ≤ M 43 n)))] M Q := by
            exact aw_iret dX7_track_97 rfl h
          clear h
          refine aw_ifb_eq dX7_track_89 (tgt := 96) rfl (fun c9 => ?_) (fun c9 => ?_)
          · have c9 : ¬ (0 ≤ n ∧ n < M 41 0 ∧ M 2 2 ≤ M 43 n) := c9
            refine aw_iconst dX7_track_96 ?_
            have hp : ¬ ((0 ≤ n ∧ n < M 41 0 ∧ M 2 2 ≤ M 43 n)) := by first | omega | simp_all
            have K1 := K
            rw [am_b_neg hp] at K1
            exact K1
          · have c9 : 0 ≤ n ∧ n < M 41 0 ∧ M 2 2 ≤ M 43 n := c9
            refine aw_iconst dX7_track_92 ?_
            refine aw_goto dX7_track_93 (tgt := 97) rfl ?_
            have hp : (0 ≤ n ∧ n < M 41 0 ∧ M 2 2 ≤ M 43 n) := by first | omega | simp_all
            have K1 := K
            rw [am_b_pos hp] at K1
            exact K1
        | 3, hj, hx =>
          cases hj
          replace h := h.2.2.2.2.1 (hx.trans (by decide))
          refine aw_aload_n dX7_track_98 rfl (j := 0) rfl ?_
          refine aw_getr dX7_track_99 fl_X7_58 rfl rfl ?_
          refine aw_getr dX7_track_102 fl_X7_167 rfl rfl ?_
          refine aw_iload_n dX7_track_105 rfl (j := 1) rfl ?_
          obtain ⟨s10, h⟩ := h
          refine aw_iaload dX7_track_106 rfl s10 ?_
          exact aw_iret dX7_track_107 rfl h
        | 4, hj, hx =>
          cases hj
          replace h := h.2.2.2.2.2.1 (hx.trans (by decide))
          refine aw_aload_n dX7_track_108 rfl (j := 0) rfl ?_
          refine aw_getr dX7_track_109 fl_X7_58 rfl rfl ?_
          refine aw_getr dX7_track_112 fl_X7_170 rfl rfl ?_
          refine aw_iload_n dX7_track_115 rfl (j := 1) rfl ?_
          obtain ⟨s11, h⟩ := h
          refine aw_iaload dX7_track_116 rfl s11 ?_
          exact aw_iret dX7_track_117 rfl h
        | 5, hj, hx =>
          cases hj
          replace h := h.2.2.2.2.2.2.1 (hx.trans (by decide))
          refine aw_aload_n dX7_track_118 rfl (j := 0) rfl ?_
          refine aw_getr dX7_track_119 fl_X7_58 rfl rfl ?_
          refine aw_getr dX7_track_122 fl_X7_173 rfl rfl ?_
          refine aw_iload_n dX7_track_125 rfl (j := 1) rfl ?_
          obtain ⟨s12, h⟩ := h
          refine aw_iaload dX7_track_126 rfl s12 ?_
          exact aw_iret dX7_track_127 rfl h
        | 6, hj, hx =>
          cases hj
          replace h := h.2.2.2.2.2.2.2.1 (hx.trans (by decide))
          refine aw_aload_n dX7_track_128 rfl (j := 0) rfl ?_
          refine aw_getr dX7_track_129 fl_X7_58 rfl rfl ?_
          refine aw_iload_n dX7_track_132 rfl (j := 1) rfl ?_
          obtain ⟨s13, h⟩ := h
          refine aw_invv (d' := d) (as := [.inl n]) (rest := []) dX7_track_133 cv_X7_176 (Nat.lt_succ_self _) rfl rfl rfl rfl rfl (Nat.le_of_ble_eq_true rfl) (fc_cworthOf s13 ?_)
          show AW (d + 1) mX7_track 136 [(0, .inr 0), (1, .inl n), (2, .inl w)] [.inl ((M 47 n) * (M 46 n + 1) - M 44 n)] M Q
          exact aw_iret dX7_track_136 rfl h
        | 7, hj, hx =>
          cases hj
          replace h := h.2.2.2.2.2.2.2.2 (hx.trans (by decide))
          refine aw_aload_n dX7_track_137 rfl (j := 0) rfl ?_
          refine aw_getr dX7_track_138 fl_X7_58 rfl rfl ?_
          refine aw_iload_n dX7_track_141 rfl (j := 1) rfl ?_
          refine aw_aload_n dX7_track_142 rfl (j := 0) rfl ?_
          refine aw_getr dX7_track_143 fl_X7_58 rfl rfl ?_
          refine aw_getr dX7_track_146 fl_X7_158 rfl rfl ?_
          refine aw_iload_n dX7_track_149 rfl (j := 1) rfl ?_
          obtain ⟨s14, h⟩ := h
          refine aw_iaload dX7_track_150 rfl s14 ?_
          obtain ⟨s15, h⟩ := h
          refine aw_invv (d' := d) (as := [.inl n, .inl (M 42 n)]) (rest := []) dX7_track_151 cv_X7_179 (Nat.lt_succ_self _) rfl rfl rfl rfl rfl (Nat.le_of_ble_eq_true rfl) (fc_pitchIn s15 ?_)
          show AW (d + 1) mX7_track 154 [(0, .inr 0), (1, .inl n), (2, .inl w)] [.inl (am_pi (M 41 0) (M 48) n (M 42 n))] M Q
          exact aw_iret dX7_track_154 rfl h
        | n + 8, hj, hx => exact absurd hj (by simp)
    · replace h := h.2 c4
      refine aw_ldc (z := (-1000000)) dX7_track_15 lc_X7_126 ?_
      exact aw_iret dX7_track_17 rfl h
theorem sg_X7_pitch {d : Nat} {M : am_M} {Q : Option Int → am_M → Prop} {n f : Int} (h : (am_r n) ∧
 ((n < 0 →
 Q (some (-1000000)) M) ∧
 (0 ≤ n →
 (am_r (M 41 0)) ∧
 ((M 41 0 ≤ n →
 Q (some (-1000000)) M) ∧
 (n < M 41 0 →
 (am_r f ∧ am_r (M 1 0)) ∧
 ((0 ≤ f ∧ f < M 1 0 →
 (am_piok (M 41 0) n f) ∧
 Q (some (am_pi (M 41 0) (M 48) n f)) M) ∧
 (¬ (0 ≤ f ∧ f < M 1 0) →
 Q (some (-1000000)) M))))))) : AC (d + 1) mX7_pitch [.inr 0, .inl n, .inl f] M Q := by
  refine aw_body (by decide) (Nat.le_of_ble_eq_true rfl) rfl ?_
  refine aw_iload_n dX7_pitch_0 rfl (j := 1) rfl ?_
  obtain ⟨s1, h⟩ := h
  refine aw_if_lt dX7_pitch_1 (tgt := 26) rfl s1 (fun c2 => ?_) (fun c2 => ?_)
  · replace h := h.1 c2
    refine aw_ldc (z := (-1000000)) dX7_pitch_26 lc_X7_126 ?_
    exact aw_iret dX7_pitch_28 rfl h
  · replace h := h.2 c2
    refine aw_iload_n dX7_pitch_4 rfl (j := 1) rfl ?_
    refine aw_aload_n dX7_pitch_5 rfl (j := 0) rfl ?_
    refine aw_getr dX7_pitch_6 fl_X7_58 rfl rfl ?_
    refine aw_getf dX7_pitch_9 fl_X7_156 rfl rfl rfl ?_
    obtain ⟨s3, h⟩ := h
    refine aw_icmp_ge dX7_pitch_12 (tgt := 26) rfl s1 s3 (fun c4 => ?_) (fun c4 => ?_)
    · replace h := h.1 c4
      refine aw_ldc (z := (-1000000)) dX7_pitch_26 lc_X7_126 ?_
      exact aw_iret dX7_pitch_28 rfl h
    · replace h := h.2 c4
      refine aw_aload_n dX7_pitch_15 rfl (j := 0) rfl ?_
      refine aw_getr dX7_pitch_16 fl_X7_10 rfl rfl ?_
      refine aw_iload_n dX7_pitch_19 rfl (j := 2) rfl ?_
      obtain ⟨s5, h⟩ := h
      refine aw_invv (d' := d) (as := [.inl f]) (rest := []) dX7_pitch_20 cv_X7_122 (Nat.lt_succ_self _) rfl rfl rfl rfl rfl (Nat.le_of_ble_eq_true rfl) (fc_hasFrame (a := 1) ⟨rfl, rfl, rfl⟩ s5 ?_)
      show AW (d + 1) mX7_pitch 23 [(0, .inr 0), (1, .inl n), (2, .inl f)] [.inl (am_b (0 ≤ f ∧ f < M 1 0))] M Q
      refine aw_ifb_ne dX7_pitch_23 (tgt := 29) rfl (fun c6 => ?_) (fun c6 => ?_)
      · replace h := h.1 c6
        refine aw_aload_n dX7_pitch_29 rfl (j := 0) rfl ?_
        refine aw_getr dX7_pitch_30 fl_X7_58 rfl rfl ?_
        refine aw_iload_n dX7_pitch_33 rfl (j := 1) rfl ?_
        refine aw_iload_n dX7_pitch_34 rfl (j := 2) rfl ?_
        obtain ⟨s7, h⟩ := h
        refine aw_invv (d' := d) (as := [.inl n, .inl f]) (rest := []) dX7_pitch_35 cv_X7_179 (Nat.lt_succ_self _) rfl rfl rfl rfl rfl (Nat.le_of_ble_eq_true rfl) (fc_pitchIn s7 ?_)
        show AW (d + 1) mX7_pitch 38 [(0, .inr 0), (1, .inl n), (2, .inl f)] [.inl (am_pi (M 41 0) (M 48) n f)] M Q
        exact aw_iret dX7_pitch_38 rfl h
      · replace h := h.2 c6
        refine aw_ldc (z := (-1000000)) dX7_pitch_26 lc_X7_126 ?_
        exact aw_iret dX7_pitch_28 rfl h
theorem sg_X7_best {d : Nat} {M : am_M} {Q : Option Int → am_M → Prop} {w : Int} (h : (am_r w) ∧
 ((w < 0 →
 Q (some (-1)) M) ∧
 (0 ≤ w →
 ((w ≤ 1 →
 (am_r (M 0 10)) ∧
 ((M 0 10 ≠ (-9) →
 ∀ (v7 : Int), (w ≠ 0 → v7 = M 0 11) →
 (w = 0 → v7 = M 0 10) →
 Q (some v7) M) ∧
 (M 0 10 = (-9) →
 AW (d + 6) mX7_best 32 [(0, .inr 0), (1, .inl w), (2, .inl 0)] [] (am_up M 0 11 49) Q))) ∧
 (1 < w →
 Q (some (-1)) M))))) : AC (d + 6) mX7_best [.inr 0, .inl w] M Q := by
  refine aw_body (by decide) (Nat.le_of_ble_eq_true rfl) rfl ?_
  refine aw_iload_n dX7_best_0 rfl (j := 1) rfl ?_
  obtain ⟨s1, h⟩ := h
  refine aw_if_lt dX7_best_1 (tgt := 9) rfl s1 (fun c2 => ?_) (fun c2 => ?_)
  · replace h := h.1 c2
    refine aw_iconst dX7_best_9 ?_
    exact aw_iret dX7_best_10 rfl h
  · replace h := h.2 c2
    refine aw_iload_n dX7_best_4 rfl (j := 1) rfl ?_
    refine aw_iconst dX7_best_5 ?_
    refine aw_icmp_le dX7_best_6 (tgt := 11) rfl s1 (by decide) (fun c3 => ?_) (fun c3 => ?_)
    · replace h := h.1 c3
      refine aw_aload_n dX7_best_11 rfl (j := 0) rfl ?_
      refine aw_getf dX7_best_12 fl_X7_69 rfl rfl rfl ?_
      refine aw_bipush dX7_best_15 (by decide) ?_
      obtain ⟨s4, h⟩ := h
      refine aw_icmp_ne dX7_best_17 (tgt := 71) rfl s4 (by decide) (fun c5 => ?_) (fun c5 => ?_)
      · replace h := h.1 c5
        refine aw_iload_n dX7_best_71 rfl (j := 1) rfl ?_
        have K : ∀ (v7 : Int), (w ≠ 0 → v7 = M 0 11) → (w = 0 → v7 = M 0 10) → AW (d + 6) mX7_best 86 [(0, .inr 0), (1, .inl w)] [.inl v7] M Q := by
          intro v7 q8 q9
          replace h := h v7 q8 q9
          exact aw_iret dX7_best_86 rfl h
        clear h
        refine aw_if_ne dX7_best_72 (tgt := 82) rfl s1 (fun c6 => ?_) (fun c6 => ?_)
        · have c6 : w ≠ 0 := c6
          refine aw_aload_n dX7_best_82 rfl (j := 0) rfl ?_
          refine aw_getf dX7_best_83 fl_X7_182 rfl rfl rfl ?_
          exact K (M 0 11) (fun _ => rfl) (fun q0 => by first | omega | exact absurd c6 q0 | exact absurd q0 c6)
        · have c6 : w = 0 := c6
          refine aw_aload_n dX7_best_75 rfl (j := 0) rfl ?_
          refine aw_getf dX7_best_76 fl_X7_69 rfl rfl rfl ?_
          refine aw_goto dX7_best_79 (tgt := 86) rfl ?_
          exact K (M 0 10) (fun q0 => by first | omega | exact absurd c6 q0 | exact absurd q0 c6) (fun _ => rfl)
      · replace h := h.2 c5
        refine aw_aload_n dX7_best_20 rfl (j := 0) rfl ?_
        refine aw_bipush dX7_best_21 (by decide) ?_
        refine aw_putf dX7_best_23 pf_X7_182 rfl rfl rfl ?_
        refine aw_gets100 dX7_best_26 gs_X7_185 ?_
        refine aw_iconst dX7_best_29 ?_
        refine aw_iald100 dX7_best_30 (by decide) ?_
        refine aw_istore_n (L' := [(0, .inr 0), (1, .inl w), (2, .inl 0)]) dX7_best_31 rfl (Nat.le_of_ble_eq_true rfl) rfl ?_
        exact h
    · replace h := h.2 c3
      refine aw_iconst dX7_best_9 ?_
      exact aw_iret dX7_best_10 rfl h
theorem sg_X7_best_32 {d : Nat} {M : am_M} {Q : Option Int → am_M → Prop} {w re : Int} (h : (am_r re) ∧
 ((20 < re →
 ((am_r w)) ∧
 ∀ (v5 : Int), (w ≠ 0 → v5 = M 0 11) →
 (w = 0 → v5 = M 0 10) →
 Q (some v5) M) ∧
 (re ≤ 20 →
 AC (d + 5) mX7_tracksByReach [.inr 0, .inl re] M (fun r M8 => ∃ z9, r = some z9 ∧
 (am_r z9) ∧
 (am_r (M8 0 11)) ∧
 ((M8 0 11 ≤ z9 →
 AW (d + 6) mX7_best 32 [(0, .inr 0), (1, .inl w), (2, .inl (re + 1))] [] M8 Q) ∧
 (z9 < M8 0 11 →
 AW (d + 6) mX7_best 32 [(0, .inr 0), (1, .inl w), (2, .inl (re + 1))] [] (am_up (am_up M8 0 11 z9) 0 10 re) Q)))))) : AW (d + 6) mX7_best 32 [(0, .inr 0), (1, .inl w), (2, .inl re)] [] M Q := by
  refine aw_iload_n dX7_best_32 rfl (j := 2) rfl ?_
  refine aw_gets101 dX7_best_33 gs_X7_188 ?_
  refine aw_iconst dX7_best_36 ?_
  refine aw_iald101 dX7_best_37 (by decide) ?_
  obtain ⟨s1, h⟩ := h
  refine aw_icmp_gt dX7_best_38 (tgt := 71) rfl s1 (by decide) (fun c2 => ?_) (fun c2 => ?_)
  · replace h := h.1 c2
    refine aw_iload_n dX7_best_71 rfl (j := 1) rfl ?_
    obtain ⟨g, h⟩ := h
    have K : ∀ (v5 : Int), (w ≠ 0 → v5 = M 0 11) → (w = 0 → v5 = M 0 10) → AW (d + 6) mX7_best 86 [(0, .inr 0), (1, .inl w), (2, .inl re)] [.inl v5] M Q := by
      intro v5 q6 q7
      replace h := h v5 q6 q7
      exact aw_iret dX7_best_86 rfl h
    clear h
    have s3 := g
    refine aw_if_ne dX7_best_72 (tgt := 82) rfl s3 (fun c4 => ?_) (fun c4 => ?_)
    · have c4 : w ≠ 0 := c4
      refine aw_aload_n dX7_best_82 rfl (j := 0) rfl ?_
      refine aw_getf dX7_best_83 fl_X7_182 rfl rfl rfl ?_
      exact K (M 0 11) (fun _ => rfl) (fun q0 => by first | omega | exact absurd c4 q0 | exact absurd q0 c4)
    · have c4 : w = 0 := c4
      refine aw_aload_n dX7_best_75 rfl (j := 0) rfl ?_
      refine aw_getf dX7_best_76 fl_X7_69 rfl rfl rfl ?_
      refine aw_goto dX7_best_79 (tgt := 86) rfl ?_
      exact K (M 0 10) (fun q0 => by first | omega | exact absurd c4 q0 | exact absurd q0 c4) (fun _ => rfl)
  · replace h := h.2 c2
    refine aw_aload_n dX7_best_41 rfl (j := 0) rfl ?_
    refine aw_iload_n dX7_best_42 rfl (j := 2) rfl ?_
    refine aw_invv (d' := d + 5) (as := [.inl re]) (rest := []) dX7_best_43 cv_X7_191 (Nat.lt_succ_self _) rfl rfl rfl rfl rfl (Nat.le_of_ble_eq_true rfl) (AC.mono ?_ h)
    intro r M8 h
    obtain ⟨z9, rfl, h⟩ := h
    show AW (d + 6) mX7_best 46 [(0, .inr 0), (1, .inl w), (2, .inl re)] [.inl z9] M8 Q
    refine aw_istore_n (L' := [(0, .inr 0), (1, .inl w), (2, .inl re), (3, .inl z9)]) dX7_best_46 rfl (Nat.le_of_ble_eq_true rfl) rfl ?_
    refine aw_iload_n dX7_best_47 rfl (j := 3) rfl ?_
    refine aw_aload_n dX7_best_48 rfl (j := 0) rfl ?_
    refine aw_getf dX7_best_49 fl_X7_182 rfl rfl rfl ?_
    obtain ⟨s10, h⟩ := h
    obtain ⟨s11, h⟩ := h
    refine aw_icmp_ge dX7_best_52 (tgt := 65) rfl s10 s11 (fun c12 => ?_) (fun c12 => ?_)
    · replace h := h.1 c12
      refine aw_iinc (L' := [(0, .inr 0), (1, .inl w), (2, .inl (re + 1)), (3, .inl z9)]) dX7_best_65 (j := 2) rfl (Nat.le_of_ble_eq_true rfl) rfl ?_
      refine aw_goto dX7_best_68 (tgt := 32) rfl ?_
      exact aw_sub [0, 1, 2] rfl h
    · replace h := h.2 c12
      refine aw_aload_n dX7_best_55 rfl (j := 0) rfl ?_
      refine aw_iload_n dX7_best_56 rfl (j := 3) rfl ?_
      refine aw_putf dX7_best_57 pf_X7_182 rfl rfl rfl ?_
      refine aw_aload_n dX7_best_60 rfl (j := 0) rfl ?_
      refine aw_iload_n dX7_best_61 rfl (j := 2) rfl ?_
      refine aw_putf dX7_best_62 pf_X7_69 rfl rfl rfl ?_
      refine aw_iinc (L' := [(0, .inr 0), (1, .inl w), (2, .inl (re + 1)), (3, .inl z9)]) dX7_best_65 (j := 2) rfl (Nat.le_of_ble_eq_true rfl) rfl ?_
      refine aw_goto dX7_best_68 (tgt := 32) rfl ?_
      exact aw_sub [0, 1, 2] rfl h
theorem sg_X7_sees {d : Nat} {M : am_M} {Q : Option Int → am_M → Prop} {f p : Int} (h : ((am_r p)) ∧
 (am_r f) ∧
 ((f < 0 →
 Q (some (-1)) M) ∧
 (0 ≤ f →
 ((8 ≤ f →
 Q (some (-1)) M) ∧
 (f < 8 →
 ((((-1) ≤ p) ∧ (p ≤ 45) →
 (am_r (M 51 0)) ∧
 ((M 51 0 < 6 →
 AC (d) mX4_append [.inr 51, .inl f, .inl p] M (fun r M10 => r = none ∧
 Q (some (M10 51 0)) M10)) ∧
 (6 ≤ M 51 0 →
 Q (some (-3)) M))) ∧
 (¬ (((-1) ≤ p) ∧ (p ≤ 45)) →
 (am_r p) ∧
 ((p = (-9) →
 (am_r (M 51 0)) ∧
 ((M 51 0 < 6 →
 AC (d) mX4_append [.inr 51, .inl f, .inl p] M (fun r M15 => r = none ∧
 Q (some (M15 51 0)) M15)) ∧
 (6 ≤ M 51 0 →
 Q (some (-3)) M))) ∧
 (p ≠ (-9) →
 Q (some (-1)) M))))))))) : AC (d + 1) mX7_sees [.inr 0, .inl f, .inl p] M Q := by
  refine aw_body (by decide) (Nat.le_of_ble_eq_true rfl) rfl ?_
  refine aw_iload_n dX7_sees_0 rfl (j := 2) rfl ?_
  refine aw_iconst dX7_sees_1 ?_
  obtain ⟨g, h⟩ := h
  have K : AW (d + 1) mX7_sees 16 [(0, .inr 0), (1, .inl f), (2, .inl p)] [.inl (am_b (((-1) ≤ p) ∧ (p ≤ 45)))] M Q := by
    refine aw_istore_n (L' := [(0, .inr 0), (1, .inl f), (2, .inl p), (3, .inl (am_b (((-1) ≤ p) ∧ (p ≤ 45))))]) dX7_sees_16 rfl (Nat.le_of_ble_eq_true rfl) rfl ?_
    refine aw_iload_n dX7_sees_17 rfl (j := 1) rfl ?_
    obtain ⟨s4, h⟩ := h
    refine aw_if_lt dX7_sees_18 (tgt := 37) rfl s4 (fun c5 => ?_) (fun c5 => ?_)
    · replace h := h.1 c5
      refine aw_iconst dX7_sees_37 ?_
      exact aw_iret dX7_sees_38 rfl h
    · replace h := h.2 c5
      refine aw_iload_n dX7_sees_21 rfl (j := 1) rfl ?_
      refine aw_bipush dX7_sees_22 (by decide) ?_
      refine aw_icmp_ge dX7_sees_24 (tgt := 37) rfl s4 (by decide) (fun c6 => ?_) (fun c6 => ?_)
      · replace h := h.1 c6
        refine aw_iconst dX7_sees_37 ?_
        exact aw_iret dX7_sees_38 rfl h
      · replace h := h.2 c6
        refine aw_iload_n dX7_sees_27 rfl (j := 3) rfl ?_
        refine aw_ifb_ne dX7_sees_28 (tgt := 39) rfl (fun c7 => ?_) (fun c7 => ?_)
        · replace h := h.1 c7
          refine aw_aload_n dX7_sees_39 rfl (j := 0) rfl ?_
          refine aw_getr dX7_sees_40 fl_X7_65 rfl rfl ?_
          refine aw_getf dX7_sees_43 fl_X7_194 rfl rfl rfl ?_
          refine aw_bipush dX7_sees_46 (by decide) ?_
          obtain ⟨s8, h⟩ := h
          refine aw_icmp_lt dX7_sees_48 (tgt := 54) rfl s8 (by decide) (fun c9 => ?_) (fun c9 => ?_)
          · replace h := h.1 c9
            refine aw_aload_n dX7_sees_54 rfl (j := 0) rfl ?_
            refine aw_getr dX7_sees_55 fl_X7_65 rfl rfl ?_
            refine aw_iload_n dX7_sees_58 rfl (j := 1) rfl ?_
            refine aw_iload_n dX7_sees_59 rfl (j := 2) rfl ?_
            refine aw_invv (d' := d) (as := [.inl f, .inl p]) (rest := []) dX7_sees_60 cv_X7_195 (Nat.lt_succ_self _) rfl rfl rfl rfl rfl (Nat.le_of_ble_eq_true rfl) (AC.mono ?_ h)
            intro r M10 h
            obtain ⟨rfl, h⟩ := h
            show AW (d + 1) mX7_sees 63 [(0, .inr 0), (1, .inl f), (2, .inl p), (3, .inl (am_b (((-1) ≤ p) ∧ (p ≤ 45))))] [] M10 Q
            refine aw_aload_n dX7_sees_63 rfl (j := 0) rfl ?_
            refine aw_getr dX7_sees_64 fl_X7_65 rfl rfl ?_
            refine aw_getf dX7_sees_67 fl_X7_194 rfl rfl rfl ?_
            exact aw_iret dX7_sees_70 rfl h
          · replace h := h.2 c9
            refine aw_bipush dX7_sees_51 (by decide) ?_
            exact aw_iret dX7_sees_53 rfl h
        · replace h := h.2 c7
          refine aw_iload_n dX7_sees_31 rfl (j := 2) rfl ?_
          refine aw_bipush dX7_sees_32 (by decide) ?_
          obtain ⟨s11, h⟩ := h
          refine aw_icmp_eq dX7_sees_34 (tgt := 39) rfl s11 (by decide) (fun c12 => ?_) (fun c12 => ?_)
          · replace h := h.1 c12
            refine aw_aload_n dX7_sees_39 rfl (j := 0) rfl ?_
            refine aw_getr dX7_sees_40 fl_X7_65 rfl rfl ?_
            refine aw_getf dX7_sees_43 fl_X7_194 rfl rfl rfl ?_
            refine aw_bipush dX7_sees_46 (by decide) ?_
            obtain ⟨s13, h⟩ := h
            refine aw_icmp_lt dX7_sees_48 (tgt := 54) rfl s13 (by decide) (fun c14 => ?_) (fun c14 => ?_)
            · replace h := h.1 c14
              refine aw_aload_n dX7_sees_54 rfl (j := 0) rfl ?_
              refine aw_getr dX7_sees_55 fl_X7_65 rfl rfl ?_
              refine aw_iload_n dX7_sees_58 rfl (j := 1) rfl ?_
              refine aw_iload_n dX7_sees_59 rfl (j := 2) rfl ?_
              refine aw_invv (d' := d) (as := [.inl f, .inl p]) (rest := []) dX7_sees_60 cv_X7_195 (Nat.lt_succ_self _) rfl rfl rfl rfl rfl (Nat.le_of_ble_eq_true rfl) (AC.mono ?_ h)
              intro r M15 h
              obtain ⟨rfl, h⟩ := h
              show AW (d + 1) mX7_sees 63 [(0, .inr 0), (1, .inl f), (2, .inl p), (3, .inl (am_b (((-1) ≤ p) ∧ (p ≤ 45))))] [] M15 Q
              refine aw_aload_n dX7_sees_63 rfl (j := 0) rfl ?_
              refine aw_getr dX7_sees_64 fl_X7_65 rfl rfl ?_
              refine aw_getf dX7_sees_67 fl_X7_194 rfl rfl rfl ?_
              exact aw_iret dX7_sees_70 rfl h
            · replace h := h.2 c14
              refine aw_bipush dX7_sees_51 (by decide) ?_
              exact aw_iret dX7_sees_53 rfl h
          · replace h := h.2 c12
            refine aw_iconst dX7_sees_37 ?_
            exact aw_iret dX7_sees_38 rfl h
  clear h
  have s1 := g
  refine aw_icmp_lt dX7_sees_2 (tgt := 15) rfl s1 (by decide) (fun c2 => ?_) (fun c2 => ?_)
  · have c2 : p < (-1) := c2
    refine aw_iconst dX7_sees_15 ?_
    have hp : ¬ (((-1) ≤ p) ∧ (p ≤ 45)) := by first | omega | simp_all
    have K1 := K
    rw [am_b_neg hp] at K1
    exact K1
  · have c2 : (-1) ≤ p := c2
    refine aw_iload_n dX7_sees_5 rfl (j := 2) rfl ?_
    refine aw_bipush dX7_sees_6 (by decide) ?_
    refine aw_icmp_gt dX7_sees_8 (tgt := 15) rfl s1 (by decide) (fun c3 => ?_) (fun c3 => ?_)
    · have c3 : 45 < p := c3
      refine aw_iconst dX7_sees_15 ?_
      have hp : ¬ (((-1) ≤ p) ∧ (p ≤ 45)) := by first | omega | simp_all
      have K1 := K
      rw [am_b_neg hp] at K1
      exact K1
    · have c3 : p ≤ 45 := c3
      refine aw_iconst dX7_sees_11 ?_
      refine aw_goto dX7_sees_12 (tgt := 16) rfl ?_
      have hp : ((-1) ≤ p) ∧ (p ≤ 45) := by first | omega | simp_all
      have K1 := K
      rw [am_b_pos hp] at K1
      exact K1
theorem sg_X7_forget {d : Nat} {M : am_M} {Q : Option Int → am_M → Prop} (h : Q (some (M 51 0)) (am_up M 51 0 0)) : AC (d) mX7_forget [.inr 0] M Q := by
  refine aw_body (by decide) (Nat.le_of_ble_eq_true rfl) rfl ?_
  refine aw_aload_n dX7_forget_0 rfl (j := 0) rfl ?_
  refine aw_getr dX7_forget_1 fl_X7_65 rfl rfl ?_
  refine aw_getf dX7_forget_4 fl_X7_194 rfl rfl rfl ?_
  refine aw_istore_n (L' := [(0, .inr 0), (1, .inl (M 51 0))]) dX7_forget_7 rfl (Nat.le_of_ble_eq_true rfl) rfl ?_
  refine aw_aload_n dX7_forget_8 rfl (j := 0) rfl ?_
  refine aw_getr dX7_forget_9 fl_X7_65 rfl rfl ?_
  refine aw_iconst dX7_forget_12 ?_
  refine aw_putf dX7_forget_13 pf_X7_194 rfl rfl rfl ?_
  refine aw_iload_n dX7_forget_16 rfl (j := 1) rfl ?_
  exact aw_iret dX7_forget_17 rfl h
theorem sg_X7_which {d : Nat} {M : am_M} {Q : Option Int → am_M → Prop} {w : Int} (h : (am_r w) ∧
 ((w < 0 →
 Q (some (-1)) M) ∧
 (0 ≤ w →
 ((w ≤ 1 →
 AC (d + 2) mX4_gather [.inr 51, .inr 41] M (fun r M4 => r = none ∧
 ((w ≠ 0 →
 ((am_r (M4 51 3))) ∧
 ∀ (v8 : Int), (M4 51 3 ≤ 0 → v8 = (-9)) →
 (0 < M4 51 3 → v8 = M4 54 0) →
 Q (some v8) M4) ∧
 (w = 0 →
 Q (some (M4 51 3)) M4)))) ∧
 (1 < w →
 Q (some (-1)) M))))) : AC (d + 3) mX7_which [.inr 0, .inl w] M Q := by
  refine aw_body (by decide) (Nat.le_of_ble_eq_true rfl) rfl ?_
  refine aw_iload_n dX7_which_0 rfl (j := 1) rfl ?_
  obtain ⟨s1, h⟩ := h
  refine aw_if_lt dX7_which_1 (tgt := 9) rfl s1 (fun c2 => ?_) (fun c2 => ?_)
  · replace h := h.1 c2
    refine aw_iconst dX7_which_9 ?_
    exact aw_iret dX7_which_10 rfl h
  · replace h := h.2 c2
    refine aw_iload_n dX7_which_4 rfl (j := 1) rfl ?_
    refine aw_iconst dX7_which_5 ?_
    refine aw_icmp_le dX7_which_6 (tgt := 11) rfl s1 (by decide) (fun c3 => ?_) (fun c3 => ?_)
    · replace h := h.1 c3
      refine aw_aload_n dX7_which_11 rfl (j := 0) rfl ?_
      refine aw_getr dX7_which_12 fl_X7_65 rfl rfl ?_
      refine aw_aload_n dX7_which_15 rfl (j := 0) rfl ?_
      refine aw_getr dX7_which_16 fl_X7_58 rfl rfl ?_
      refine aw_invv (d' := d + 2) (as := [.inr 41]) (rest := []) dX7_which_19 cv_X7_198 (Nat.lt_succ_self _) rfl rfl rfl rfl rfl (Nat.le_of_ble_eq_true rfl) (AC.mono ?_ h)
      intro r M4 h
      obtain ⟨rfl, h⟩ := h
      show AW (d + 3) mX7_which 22 [(0, .inr 0), (1, .inl w)] [] M4 Q
      refine aw_iload_n dX7_which_22 rfl (j := 1) rfl ?_
      refine aw_if_ne dX7_which_23 (tgt := 34) rfl s1 (fun c5 => ?_) (fun c5 => ?_)
      · replace h := h.1 c5
        refine aw_aload_n dX7_which_34 rfl (j := 0) rfl ?_
        refine aw_getr dX7_which_35 fl_X7_65 rfl rfl ?_
        refine aw_getf dX7_which_38 fl_X7_202 rfl rfl rfl ?_
        obtain ⟨g, h⟩ := h
        have K : ∀ (v8 : Int), (M4 51 3 ≤ 0 → v8 = (-9)) → (0 < M4 51 3 → v8 = M4 54 0) → AW (d + 3) mX7_which 58 [(0, .inr 0), (1, .inl w)] [.inl v8] M4 Q := by
          intro v8 q9 q10
          replace h := h v8 q9 q10
          exact aw_iret dX7_which_58 rfl h
        clear h
        have s6 := g
        refine aw_if_le dX7_which_41 (tgt := 56) rfl s6 (fun c7 => ?_) (fun c7 => ?_)
        · have c7 : M4 51 3 ≤ 0 := c7
          refine aw_bipush dX7_which_56 (by decide) ?_
          exact K (-9) (fun _ => rfl) (fun q0 => by first | omega | exact absurd c7 q0 | exact absurd q0 c7)
        · have c7 : 0 < M4 51 3 := c7
          refine aw_aload_n dX7_which_44 rfl (j := 0) rfl ?_
          refine aw_getr dX7_which_45 fl_X7_65 rfl rfl ?_
          refine aw_getr dX7_which_48 fl_X7_205 rfl rfl ?_
          refine aw_iconst dX7_which_51 ?_
          refine aw_iaload dX7_which_52 rfl (by decide) ?_
          refine aw_goto dX7_which_53 (tgt := 58) rfl ?_
          exact K (M4 54 0) (fun q0 => by first | omega | exact absurd c7 q0 | exact absurd q0 c7) (fun _ => rfl)
      · replace h := h.2 c5
        refine aw_aload_n dX7_which_26 rfl (j := 0) rfl ?_
        refine aw_getr dX7_which_27 fl_X7_65 rfl rfl ?_
        refine aw_getf dX7_which_30 fl_X7_202 rfl rfl rfl ?_
        exact aw_iret dX7_which_33 rfl h
    · replace h := h.2 c3
      refine aw_iconst dX7_which_9 ?_
      exact aw_iret dX7_which_10 rfl h
theorem sg_X7_listen {d : Nat} {M : am_M} {Q : Option Int → am_M → Prop} (h : AC (d + 2) mX4_gather [.inr 51, .inr 41] M (fun r M1 => r = none ∧
 (am_r (M1 51 3)) ∧
 ((1 < M1 51 3 →
 AC (d + 2) mX4_mostAlike [.inr 51, .inr 41, .inl 0] M1 (fun r M4 => ∃ z5, r = some z5 ∧
 AW (d + 3) mX7_listen 42 [(0, .inr 0), (1, .inl 0), (2, .inl z5), (3, .inl 1)] [] M4 Q)) ∧
 (M1 51 3 ≤ 1 →
 Q (some (-9)) M1)))) : AC (d + 3) mX7_listen [.inr 0] M Q := by
  refine aw_body (by decide) (Nat.le_of_ble_eq_true rfl) rfl ?_
  refine aw_aload_n dX7_listen_0 rfl (j := 0) rfl ?_
  refine aw_getr dX7_listen_1 fl_X7_65 rfl rfl ?_
  refine aw_aload_n dX7_listen_4 rfl (j := 0) rfl ?_
  refine aw_getr dX7_listen_5 fl_X7_58 rfl rfl ?_
  refine aw_invv (d' := d + 2) (as := [.inr 41]) (rest := []) dX7_listen_8 cv_X7_198 (Nat.lt_succ_self _) rfl rfl rfl rfl rfl (Nat.le_of_ble_eq_true rfl) (AC.mono ?_ h)
  intro r M1 h
  obtain ⟨rfl, h⟩ := h
  show AW (d + 3) mX7_listen 11 [(0, .inr 0)] [] M1 Q
  refine aw_aload_n dX7_listen_11 rfl (j := 0) rfl ?_
  refine aw_getr dX7_listen_12 fl_X7_65 rfl rfl ?_
  refine aw_getf dX7_listen_15 fl_X7_202 rfl rfl rfl ?_
  refine aw_iconst dX7_listen_18 ?_
  obtain ⟨s2, h⟩ := h
  refine aw_icmp_gt dX7_listen_19 (tgt := 25) rfl s2 (by decide) (fun c3 => ?_) (fun c3 => ?_)
  · replace h := h.1 c3
    refine aw_iconst dX7_listen_25 ?_
    refine aw_istore_n (L' := [(0, .inr 0), (1, .inl 0)]) dX7_listen_26 rfl (Nat.le_of_ble_eq_true rfl) rfl ?_
    refine aw_aload_n dX7_listen_27 rfl (j := 0) rfl ?_
    refine aw_getr dX7_listen_28 fl_X7_65 rfl rfl ?_
    refine aw_aload_n dX7_listen_31 rfl (j := 0) rfl ?_
    refine aw_getr dX7_listen_32 fl_X7_58 rfl rfl ?_
    refine aw_iconst dX7_listen_35 ?_
    refine aw_invv (d' := d + 2) (as := [.inr 41, .inl 0]) (rest := []) dX7_listen_36 cv_X7_208 (Nat.lt_succ_self _) rfl rfl rfl rfl rfl (Nat.le_of_ble_eq_true rfl) (AC.mono ?_ h)
    intro r M4 h
    obtain ⟨z5, rfl, h⟩ := h
    show AW (d + 3) mX7_listen 39 [(0, .inr 0), (1, .inl 0)] [.inl z5] M4 Q
    refine aw_istore_n (L' := [(0, .inr 0), (1, .inl 0), (2, .inl z5)]) dX7_listen_39 rfl (Nat.le_of_ble_eq_true rfl) rfl ?_
    refine aw_iconst dX7_listen_40 ?_
    refine aw_istore_n (L' := [(0, .inr 0), (1, .inl 0), (2, .inl z5), (3, .inl 1)]) dX7_listen_41 rfl (Nat.le_of_ble_eq_true rfl) rfl ?_
    exact h
  · replace h := h.2 c3
    refine aw_bipush dX7_listen_22 (by decide) ?_
    exact aw_iret dX7_listen_24 rfl h
theorem sg_X7_listen_42 {d : Nat} {M : am_M} {Q : Option Int → am_M → Prop} {bf le f : Int} (h : (am_r f) ∧
 (am_r (M 1 0)) ∧
 ((M 1 0 ≤ f →
 Q (some bf) M) ∧
 (f < M 1 0 →
 AC (d + 2) mX4_mostAlike [.inr 51, .inr 41, .inl f] M (fun r M4 => ∃ z5, r = some z5 ∧
 (am_r z5) ∧
 (am_r le) ∧
 ((le ≤ z5 →
 AW (d + 3) mX7_listen 42 [(0, .inr 0), (1, .inl bf), (2, .inl le), (3, .inl (f + 1))] [] M4 Q) ∧
 (z5 < le →
 AW (d + 3) mX7_listen 42 [(0, .inr 0), (1, .inl f), (2, .inl z5), (3, .inl (f + 1))] [] M4 Q)))))) : AW (d + 3) mX7_listen 42 [(0, .inr 0), (1, .inl bf), (2, .inl le), (3, .inl f)] [] M Q := by
  refine aw_iload_n dX7_listen_42 rfl (j := 3) rfl ?_
  refine aw_aload_n dX7_listen_43 rfl (j := 0) rfl ?_
  refine aw_getr dX7_listen_44 fl_X7_10 rfl rfl ?_
  refine aw_getf dX7_listen_47 fl_X7_212 rfl rfl rfl ?_
  obtain ⟨s1, h⟩ := h
  obtain ⟨s2, h⟩ := h
  refine aw_icmp_ge dX7_listen_50 (tgt := 84) rfl s1 s2 (fun c3 => ?_) (fun c3 => ?_)
  · replace h := h.1 c3
    refine aw_iload_n dX7_listen_84 rfl (j := 1) rfl ?_
    exact aw_iret dX7_listen_85 rfl h
  · replace h := h.2 c3
    refine aw_aload_n dX7_listen_53 rfl (j := 0) rfl ?_
    refine aw_getr dX7_listen_54 fl_X7_65 rfl rfl ?_
    refine aw_aload_n dX7_listen_57 rfl (j := 0) rfl ?_
    refine aw_getr dX7_listen_58 fl_X7_58 rfl rfl ?_
    refine aw_iload_n dX7_listen_61 rfl (j := 3) rfl ?_
    refine aw_invv (d' := d + 2) (as := [.inr 41, .inl f]) (rest := []) dX7_listen_62 cv_X7_208 (Nat.lt_succ_self _) rfl rfl rfl rfl rfl (Nat.le_of_ble_eq_true rfl) (AC.mono ?_ h)
    intro r M4 h
    obtain ⟨z5, rfl, h⟩ := h
    show AW (d + 3) mX7_listen 65 [(0, .inr 0), (1, .inl bf), (2, .inl le), (3, .inl f)] [.inl z5] M4 Q
    refine aw_istore (L' := [(0, .inr 0), (1, .inl bf), (2, .inl le), (3, .inl f), (4, .inl z5)]) dX7_listen_65 (Nat.le_of_ble_eq_true rfl) rfl ?_
    refine aw_iload dX7_listen_67 (j := 4) rfl ?_
    refine aw_iload_n dX7_listen_69 rfl (j := 2) rfl ?_
    obtain ⟨s6, h⟩ := h
    obtain ⟨s7, h⟩ := h
    refine aw_icmp_ge dX7_listen_70 (tgt := 78) rfl s6 s7 (fun c8 => ?_) (fun c8 => ?_)
    · replace h := h.1 c8
      refine aw_iinc (L' := [(0, .inr 0), (1, .inl bf), (2, .inl le), (3, .inl (f + 1)), (4, .inl z5)]) dX7_listen_78 (j := 3) rfl (Nat.le_of_ble_eq_true rfl) rfl ?_
      refine aw_goto dX7_listen_81 (tgt := 42) rfl ?_
      exact aw_sub [0, 1, 2, 3] rfl h
    · replace h := h.2 c8
      refine aw_iload dX7_listen_73 (j := 4) rfl ?_
      refine aw_istore_n (L' := [(0, .inr 0), (1, .inl bf), (2, .inl z5), (3, .inl f), (4, .inl z5)]) dX7_listen_75 rfl (Nat.le_of_ble_eq_true rfl) rfl ?_
      refine aw_iload_n dX7_listen_76 rfl (j := 3) rfl ?_
      refine aw_istore_n (L' := [(0, .inr 0), (1, .inl f), (2, .inl z5), (3, .inl f), (4, .inl z5)]) dX7_listen_77 rfl (Nat.le_of_ble_eq_true rfl) rfl ?_
      refine aw_iinc (L' := [(0, .inr 0), (1, .inl f), (2, .inl z5), (3, .inl (f + 1)), (4, .inl z5)]) dX7_listen_78 (j := 3) rfl (Nat.le_of_ble_eq_true rfl) rfl ?_
      refine aw_goto dX7_listen_81 (tgt := 42) rfl ?_
      exact aw_sub [0, 1, 2, 3] rfl h
theorem sg_X7_keep {d : Nat} {M : am_M} {Q : Option Int → am_M → Prop} {i : Int} (h : (am_r i) ∧
 ((i < 0 →
 Q (some (-1)) M) ∧
 (0 ≤ i →
 ((i < 2 →
 (0 ≤ i ∧ i < 2) ∧
 (am_sc ((M 29 i).toNat)) ∧
 AC (d + 1) mX3_takeFrom [.inr ((M 29 i).toNat), .inr 1] M (fun r M5 => r = none ∧
 Q (some (M5 1 0)) (am_up M5 30 i 1))) ∧
 (2 ≤ i →
 Q (some (-1)) M))))) : AC (d + 2) mX7_keep [.inr 0, .inl i] M Q := by
  refine aw_body (by decide) (Nat.le_of_ble_eq_true rfl) rfl ?_
  refine aw_iload_n dX7_keep_0 rfl (j := 1) rfl ?_
  obtain ⟨s1, h⟩ := h
  refine aw_if_lt dX7_keep_1 (tgt := 9) rfl s1 (fun c2 => ?_) (fun c2 => ?_)
  · replace h := h.1 c2
    refine aw_iconst dX7_keep_9 ?_
    exact aw_iret dX7_keep_10 rfl h
  · replace h := h.2 c2
    refine aw_iload_n dX7_keep_4 rfl (j := 1) rfl ?_
    refine aw_iconst dX7_keep_5 ?_
    refine aw_icmp_lt dX7_keep_6 (tgt := 11) rfl s1 (by decide) (fun c3 => ?_) (fun c3 => ?_)
    · replace h := h.1 c3
      refine aw_aload_n dX7_keep_11 rfl (j := 0) rfl ?_
      refine aw_getr dX7_keep_12 fl_X7_33 rfl rfl ?_
      refine aw_iload_n dX7_keep_15 rfl (j := 1) rfl ?_
      obtain ⟨s4, h⟩ := h
      refine aw_aaload dX7_keep_16 rfl s4 ?_
      refine aw_aload_n dX7_keep_17 rfl (j := 0) rfl ?_
      refine aw_getr dX7_keep_18 fl_X7_10 rfl rfl ?_
      obtain ⟨s6, h⟩ := h
      refine aw_invv (d' := d + 1) (as := [.inr 1]) (rest := []) dX7_keep_21 cv_X7_94 (Nat.lt_succ_self _) s6.1 rfl rfl rfl rfl (Nat.le_of_ble_eq_true rfl) (AC.mono ?_ h)
      intro r M5 h
      obtain ⟨rfl, h⟩ := h
      show AW (d + 2) mX7_keep 24 [(0, .inr 0), (1, .inl i)] [] M5 Q
      refine aw_aload_n dX7_keep_24 rfl (j := 0) rfl ?_
      refine aw_getr dX7_keep_25 fl_X7_37 rfl rfl ?_
      refine aw_iload_n dX7_keep_28 rfl (j := 1) rfl ?_
      refine aw_iconst dX7_keep_29 ?_
      refine aw_zastore dX7_keep_30 rfl s4 ?_
      refine aw_aload_n dX7_keep_31 rfl (j := 0) rfl ?_
      refine aw_getr dX7_keep_32 fl_X7_10 rfl rfl ?_
      refine aw_getf dX7_keep_35 fl_X7_212 rfl rfl rfl ?_
      exact aw_iret dX7_keep_38 rfl h
    · replace h := h.2 c3
      refine aw_iconst dX7_keep_9 ?_
      exact aw_iret dX7_keep_10 rfl h
theorem sg_X7_back {d : Nat} {M : am_M} {Q : Option Int → am_M → Prop} {i : Int} (h : (am_r i) ∧
 ((i < 0 →
 Q (some (-1)) M) ∧
 (0 ≤ i →
 ((i < 2 →
 (0 ≤ i ∧ i < 2) ∧
 (am_r (M 30 i)) ∧
 ((M 30 i ≠ 0 →
 AC (d + 6) mX3_takeFrom [.inr 1, .inr ((M 29 i).toNat)] M (fun r M7 => r = none ∧
 AC (d + 6) mX7_followAnew [.inr 0] (am_up M7 9 0 0) (fun r M8 => r = none ∧
 Q (some (M8 1 0)) M8))) ∧
 (M 30 i = 0 →
 Q (some (-2)) M))) ∧
 (2 ≤ i →
 Q (some (-1)) M))))) : AC (d + 7) mX7_back [.inr 0, .inl i] M Q := by
  refine aw_body (by decide) (Nat.le_of_ble_eq_true rfl) rfl ?_
  refine aw_iload_n dX7_back_0 rfl (j := 1) rfl ?_
  obtain ⟨s1, h⟩ := h
  refine aw_if_lt dX7_back_1 (tgt := 9) rfl s1 (fun c2 => ?_) (fun c2 => ?_)
  · replace h := h.1 c2
    refine aw_iconst dX7_back_9 ?_
    exact aw_iret dX7_back_10 rfl h
  · replace h := h.2 c2
    refine aw_iload_n dX7_back_4 rfl (j := 1) rfl ?_
    refine aw_iconst dX7_back_5 ?_
    refine aw_icmp_lt dX7_back_6 (tgt := 11) rfl s1 (by decide) (fun c3 => ?_) (fun c3 => ?_)
    · replace h := h.1 c3
      refine aw_aload_n dX7_back_11 rfl (j := 0) rfl ?_
      refine aw_getr dX7_back_12 fl_X7_37 rfl rfl ?_
      refine aw_iload_n dX7_back_15 rfl (j := 1) rfl ?_
      obtain ⟨s4, h⟩ := h
      refine aw_zaload dX7_back_16 rfl s4 ?_
      obtain ⟨s5, h⟩ := h
      refine aw_if_ne dX7_back_17 (tgt := 23) rfl s5 (fun c6 => ?_) (fun c6 => ?_)
      · replace h := h.1 c6
        refine aw_aload_n dX7_back_23 rfl (j := 0) rfl ?_
        refine aw_getr dX7_back_24 fl_X7_10 rfl rfl ?_
        refine aw_aload_n dX7_back_27 rfl (j := 0) rfl ?_
        refine aw_getr dX7_back_28 fl_X7_33 rfl rfl ?_
        refine aw_iload_n dX7_back_31 rfl (j := 1) rfl ?_
        refine aw_aaload dX7_back_32 rfl s4 ?_
        refine aw_invv (d' := d + 6) (as := [.inr ((M 29 i).toNat)]) (rest := []) dX7_back_33 cv_X7_94 (Nat.lt_succ_self _) rfl rfl rfl rfl rfl (Nat.le_of_ble_eq_true rfl) (AC.mono ?_ h)
        intro r M7 h
        obtain ⟨rfl, h⟩ := h
        show AW (d + 7) mX7_back 36 [(0, .inr 0), (1, .inl i)] [] M7 Q
        refine aw_aload_n dX7_back_36 rfl (j := 0) rfl ?_
        refine aw_getr dX7_back_37 fl_X7_29 rfl rfl ?_
        refine aw_iconst dX7_back_40 ?_
        refine aw_putf dX7_back_41 pf_X7_116 rfl rfl rfl ?_
        refine aw_aload_n dX7_back_44 rfl (j := 0) rfl ?_
        refine aw_invv (d' := d + 6) (as := []) (rest := []) dX7_back_45 cv_X7_76 (Nat.lt_succ_self _) rfl rfl rfl rfl rfl (Nat.le_of_ble_eq_true rfl) (AC.mono ?_ h)
        intro r M8 h
        obtain ⟨rfl, h⟩ := h
        show AW (d + 7) mX7_back 48 [(0, .inr 0), (1, .inl i)] [] M8 Q
        refine aw_aload_n dX7_back_48 rfl (j := 0) rfl ?_
        refine aw_getr dX7_back_49 fl_X7_10 rfl rfl ?_
        refine aw_getf dX7_back_52 fl_X7_212 rfl rfl rfl ?_
        exact aw_iret dX7_back_55 rfl h
      · replace h := h.2 c6
        refine aw_bipush dX7_back_20 (by decide) ?_
        exact aw_iret dX7_back_22 rfl h
    · replace h := h.2 c3
      refine aw_iconst dX7_back_9 ?_
      exact aw_iret dX7_back_10 rfl h
theorem sg_X7_count {d : Nat} {M : am_M} {Q : Option Int → am_M → Prop} {w : Int} (h : (am_r w) ∧
 ((w < 0 ∨ 10 < w →
 Q (some (-1)) M) ∧
 (w = 0 →
 Q (some (M 1 0)) M) ∧
 (w = 1 →
 Q (some (M 1 1)) M) ∧
 (w = 2 →
 Q (some (M 2 0)) M) ∧
 (w = 3 →
 Q (some (M 2 1)) M) ∧
 (w = 4 →
 Q (some (M 2 2)) M) ∧
 (w = 5 →
 Q (some (M 41 0)) M) ∧
 (w = 6 →
 AC (d + 1) mX7_keptTracks [.inr 0] M (fun r M2 => ∃ z3, r = some z3 ∧
 Q (some z3) M2)) ∧
 (w = 7 →
 AC (d + 1) mX6_longest [.inr 41] M (fun r M4 => ∃ z5, r = some z5 ∧
 Q (some z5) M4)) ∧
 (w = 8 →
 Q (some (M 51 0)) M) ∧
 (w = 9 →
 Q (some (M 7 0)) M) ∧
 (w = 10 →
 Q (some (M 9 0)) M))) : AC (d + 2) mX7_count [.inr 0, .inl w] M Q := by
  refine aw_body (by decide) (Nat.le_of_ble_eq_true rfl) rfl ?_
  refine aw_iload_n dX7_count_0 rfl (j := 1) rfl ?_
  obtain ⟨s1, h⟩ := h
  refine aw_tsw [60, 68, 76, 86, 96, 106, 114, 119, 127, 135, 143] dX7_count_1 (tgt := 151) rfl (by decide) (by decide) s1 (fun c => ?_) (fun j t hj hx => ?_)
  · replace h := h.1 c
    refine aw_iconst dX7_count_151 ?_
    exact aw_iret dX7_count_152 rfl h
  · match j, hj, hx with
    | 0, hj, hx =>
      cases hj
      replace h := h.2.1 (hx.trans (by decide))
      refine aw_aload_n dX7_count_60 rfl (j := 0) rfl ?_
      refine aw_getr dX7_count_61 fl_X7_10 rfl rfl ?_
      refine aw_getf dX7_count_64 fl_X7_212 rfl rfl rfl ?_
      exact aw_iret dX7_count_67 rfl h
    | 1, hj, hx =>
      cases hj
      replace h := h.2.2.1 (hx.trans (by decide))
      refine aw_aload_n dX7_count_68 rfl (j := 0) rfl ?_
      refine aw_getr dX7_count_69 fl_X7_10 rfl rfl ?_
      refine aw_getf dX7_count_72 fl_X7_215 rfl rfl rfl ?_
      exact aw_iret dX7_count_75 rfl h
    | 2, hj, hx =>
      cases hj
      replace h := h.2.2.2.1 (hx.trans (by decide))
      refine aw_aload_n dX7_count_76 rfl (j := 0) rfl ?_
      refine aw_getr dX7_count_77 fl_X7_10 rfl rfl ?_
      refine aw_getr dX7_count_80 fl_X7_112 rfl rfl ?_
      refine aw_iconst dX7_count_83 ?_
      refine aw_iaload dX7_count_84 rfl (by decide) ?_
      exact aw_iret dX7_count_85 rfl h
    | 3, hj, hx =>
      cases hj
      replace h := h.2.2.2.2.1 (hx.trans (by decide))
      refine aw_aload_n dX7_count_86 rfl (j := 0) rfl ?_
      refine aw_getr dX7_count_87 fl_X7_10 rfl rfl ?_
      refine aw_getr dX7_count_90 fl_X7_112 rfl rfl ?_
      refine aw_iconst dX7_count_93 ?_
      refine aw_iaload dX7_count_94 rfl (by decide) ?_
      exact aw_iret dX7_count_95 rfl h
    | 4, hj, hx =>
      cases hj
      replace h := h.2.2.2.2.2.1 (hx.trans (by decide))
      refine aw_aload_n dX7_count_96 rfl (j := 0) rfl ?_
      refine aw_getr dX7_count_97 fl_X7_10 rfl rfl ?_
      refine aw_getr dX7_count_100 fl_X7_112 rfl rfl ?_
      refine aw_iconst dX7_count_103 ?_
      refine aw_iaload dX7_count_104 rfl (by decide) ?_
      exact aw_iret dX7_count_105 rfl h
    | 5, hj, hx =>
      cases hj
      replace h := h.2.2.2.2.2.2.1 (hx.trans (by decide))
      refine aw_aload_n dX7_count_106 rfl (j := 0) rfl ?_
      refine aw_getr dX7_count_107 fl_X7_58 rfl rfl ?_
      refine aw_getf dX7_count_110 fl_X7_156 rfl rfl rfl ?_
      exact aw_iret dX7_count_113 rfl h
    | 6, hj, hx =>
      cases hj
      replace h := h.2.2.2.2.2.2.2.1 (hx.trans (by decide))
      refine aw_aload_n dX7_count_114 rfl (j := 0) rfl ?_
      refine aw_invv (d' := d + 1) (as := []) (rest := []) dX7_count_115 cv_X7_217 (Nat.lt_succ_self _) rfl rfl rfl rfl rfl (Nat.le_of_ble_eq_true rfl) (AC.mono ?_ h)
      intro r M2 h
      obtain ⟨z3, rfl, h⟩ := h
      show AW (d + 2) mX7_count 118 [(0, .inr 0), (1, .inl w)] [.inl z3] M2 Q
      exact aw_iret dX7_count_118 rfl h
    | 7, hj, hx =>
      cases hj
      replace h := h.2.2.2.2.2.2.2.2.1 (hx.trans (by decide))
      refine aw_aload_n dX7_count_119 rfl (j := 0) rfl ?_
      refine aw_getr dX7_count_120 fl_X7_58 rfl rfl ?_
      refine aw_invv (d' := d + 1) (as := []) (rest := []) dX7_count_123 cv_X7_221 (Nat.lt_succ_self _) rfl rfl rfl rfl rfl (Nat.le_of_ble_eq_true rfl) (AC.mono ?_ h)
      intro r M4 h
      obtain ⟨z5, rfl, h⟩ := h
      show AW (d + 2) mX7_count 126 [(0, .inr 0), (1, .inl w)] [.inl z5] M4 Q
      exact aw_iret dX7_count_126 rfl h
    | 8, hj, hx =>
      cases hj
      replace h := h.2.2.2.2.2.2.2.2.2.1 (hx.trans (by decide))
      refine aw_aload_n dX7_count_127 rfl (j := 0) rfl ?_
      refine aw_getr dX7_count_128 fl_X7_65 rfl rfl ?_
      refine aw_getf dX7_count_131 fl_X7_194 rfl rfl rfl ?_
      exact aw_iret dX7_count_134 rfl h
    | 9, hj, hx =>
      cases hj
      replace h := h.2.2.2.2.2.2.2.2.2.2.1 (hx.trans (by decide))
      refine aw_aload_n dX7_count_135 rfl (j := 0) rfl ?_
      refine aw_getr dX7_count_136 fl_X7_22 rfl rfl ?_
      refine aw_getf dX7_count_139 fl_X7_79 rfl rfl rfl ?_
      exact aw_iret dX7_count_142 rfl h
    | 10, hj, hx =>
      cases hj
      replace h := h.2.2.2.2.2.2.2.2.2.2.2 (hx.trans (by decide))
      refine aw_aload_n dX7_count_143 rfl (j := 0) rfl ?_
      refine aw_getr dX7_count_144 fl_X7_29 rfl rfl ?_
      refine aw_getf dX7_count_147 fl_X7_116 rfl rfl rfl ?_
      exact aw_iret dX7_count_150 rfl h
    | n + 11, hj, hx => exact absurd hj (by simp)
