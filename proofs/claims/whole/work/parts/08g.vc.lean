theorem sg_X8_level {d : Nat} {M : am_M} {Q : Option Int → am_M → Prop} {f p : Int} (h : ((am_r f ∧ am_r p) ∧ am_r (M 63 0 - 1) ∧ am_r (M 63 1 - 1)) ∧
 (((0 ≤ f ∧ f ≤ M 63 0 - 1) ∧ 0 ≤ p ∧ p ≤ M 63 1 - 1 → (am_mlok (M 63) f p))) ∧
 ∀ (v4 : Int), (¬ ((0 ≤ f ∧ f ≤ M 63 0 - 1) ∧ 0 ≤ p ∧ p ≤ M 63 1 - 1) → v4 = (-1)) →
 ((0 ≤ f ∧ f ≤ M 63 0 - 1) ∧ 0 ≤ p ∧ p ≤ M 63 1 - 1 → v4 = am_ml (M 63) f p) →
 Q (some v4) (am_up M 62 0 0)) : AC (d + 2) mX8_level [.inr 62, .inl f, .inl p] M Q := by
  refine aw_body (by decide) (Nat.le_of_ble_eq_true rfl) rfl ?_
  refine aw_aload_n dX8_level_0 rfl (j := 0) rfl ?_
  refine aw_iconst dX8_level_1 ?_
  refine aw_putf dX8_level_2 pf_X8_52 rfl rfl rfl ?_
  refine aw_aload_n dX8_level_5 rfl (j := 0) rfl ?_
  refine aw_iload_n dX8_level_6 rfl (j := 1) rfl ?_
  refine aw_iload_n dX8_level_7 rfl (j := 2) rfl ?_
  obtain ⟨s1, h⟩ := h
  refine aw_invv (d' := d + 1) (as := [.inl f, .inl p]) (rest := []) dX8_level_8 cv_X8_110 (Nat.lt_succ_self _) rfl rfl rfl rfl rfl (Nat.le_of_ble_eq_true rfl) (fc_isPlace s1 ?_)
  show AW (d + 2) mX8_level 11 [(0, .inr 62), (1, .inl f), (2, .inl p)] [.inl (am_b ((0 ≤ f ∧ f ≤ M 63 0 - 1) ∧ 0 ≤ p ∧ p ≤ M 63 1 - 1))] (am_up M 62 0 0) Q
  obtain ⟨g, h⟩ := h
  have K : ∀ (v4 : Int), (¬ ((0 ≤ f ∧ f ≤ M 63 0 - 1) ∧ 0 ≤ p ∧ p ≤ M 63 1 - 1) → v4 = (-1)) → ((0 ≤ f ∧ f ≤ M 63 0 - 1) ∧ 0 ≤ p ∧ p ≤ M 63 1 - 1 → v4 = am_ml (M 63) f p) → AW (d + 2) mX8_level 24 [(0, .inr 62), (1, .inl f), (2, .inl p)] [.inl v4] (am_up M 62 0 0) Q := by
    intro v4 q5 q6
    replace h := h v4 q5 q6
    exact aw_iret dX8_level_24 rfl h
  clear h
  refine aw_ifb_eq dX8_level_11 (tgt := 23) rfl (fun c2 => ?_) (fun c2 => ?_)
  · have c2 : ¬ ((0 ≤ f ∧ f ≤ M 63 0 - 1) ∧ 0 ≤ p ∧ p ≤ M 63 1 - 1) := c2
    refine aw_iconst dX8_level_23 ?_
    exact K (-1) (fun _ => rfl) (fun q0 => by first | omega | exact absurd c2 q0 | exact absurd q0 c2)
  · have c2 : (0 ≤ f ∧ f ≤ M 63 0 - 1) ∧ 0 ≤ p ∧ p ≤ M 63 1 - 1 := c2
    replace g := g c2
    refine aw_aload_n dX8_level_14 rfl (j := 0) rfl ?_
    refine aw_iload_n dX8_level_15 rfl (j := 1) rfl ?_
    refine aw_iload_n dX8_level_16 rfl (j := 2) rfl ?_
    have s3 := g
    refine aw_invv (d' := d + 1) (as := [.inl f, .inl p]) (rest := []) dX8_level_17 cv_X8_118 (Nat.lt_succ_self _) rfl rfl rfl rfl rfl (Nat.le_of_ble_eq_true rfl) (fc_mlevelAt s3 ?_)
    show AW (d + 2) mX8_level 20 [(0, .inr 62), (1, .inl f), (2, .inl p)] [.inl (am_ml (M 63) f p)] (am_up M 62 0 0) Q
    refine aw_goto dX8_level_20 (tgt := 24) rfl ?_
    exact K (am_ml (M 63) f p) (fun q0 => by first | omega | exact absurd c2 q0 | exact absurd q0 c2) (fun _ => rfl)
theorem sg_X8_peak {d : Nat} {M : am_M} {Q : Option Int → am_M → Prop} {f k w : Int} (h : (am_r f ∧ am_r 0 ∧ am_r ((M 63 0) - 1)) ∧
 ((¬ (0 ≤ f ∧ f ≤ (M 63 0) - 1) →
 Q (some (-1000000)) (am_up M 62 0 0)) ∧
 (0 ≤ f ∧ f ≤ (M 63 0) - 1 →
 (am_r k) ∧
 ((k < 0 →
 Q (some (-1000000)) (am_up M 62 0 0)) ∧
 (0 ≤ k →
 (am_r w ∧ am_r 0 ∧ am_r 4) ∧
 ((0 ≤ w ∧ w ≤ 4 →
 AC (d + 8) mX8_lays [.inr 62] (am_up M 62 0 0) (fun r M7 => r = none ∧
 (0 ≤ f ∧ f < 8) ∧
 (am_r (M7 70 f)) ∧
 ((k < M7 70 f →
 (am_r w) ∧
 ((w < 0 ∨ 3 < w →
 (0 ≤ (6 * f) + k ∧ (6 * f) + k < 48) ∧
 Q (some (M7 72 ((6 * f) + k))) M7) ∧
 (w = 0 →
 (0 ≤ (6 * f) + k ∧ (6 * f) + k < 48) ∧
 Q (some (M7 71 ((6 * f) + k))) M7) ∧
 (w = 1 →
 (am_ptok (M7 63) (M7 71) f k) ∧
 Q (some (am_pt (M7 63) (M7 71) f k)) M7) ∧
 (w = 2 →
 (am_look (M7 63) (M7 71) f k) ∧
 Q (some (am_lo2 (M7 63) (M7 71) f k)) M7) ∧
 (w = 3 →
 (0 ≤ (6 * f) + k ∧ (6 * f) + k < 48) ∧
 Q (some (M7 73 ((6 * f) + k))) M7))) ∧
 (M7 70 f ≤ k →
 Q (some (-9)) M7)))) ∧
 (¬ (0 ≤ w ∧ w ≤ 4) →
 Q (some (-1000000)) (am_up M 62 0 0)))))))) : AC (d + 9) mX8_peak [.inr 62, .inl f, .inl k, .inl w] M Q := by
  refine aw_body (by decide) (Nat.le_of_ble_eq_true rfl) rfl ?_
  refine aw_aload_n dX8_peak_0 rfl (j := 0) rfl ?_
  refine aw_iconst dX8_peak_1 ?_
  refine aw_putf dX8_peak_2 pf_X8_52 rfl rfl rfl ?_
  refine aw_iload_n dX8_peak_5 rfl (j := 1) rfl ?_
  refine aw_iconst dX8_peak_6 ?_
  refine aw_aload_n dX8_peak_7 rfl (j := 0) rfl ?_
  refine aw_getr dX8_peak_8 fl_X8_7 rfl rfl ?_
  refine aw_iconst dX8_peak_11 ?_
  refine aw_iaload dX8_peak_12 rfl (by decide) ?_
  refine aw_iconst dX8_peak_13 ?_
  refine aw_isub dX8_peak_14 ?_
  obtain ⟨s1, h⟩ := h
  refine aw_invs (d' := d + 8) (as := [.inl f, .inl 0, .inl ((M 63 0) - 1)]) (rest := []) dX8_peak_15 cs_X8_56 (Nat.lt_succ_self _) rfl rfl (Nat.le_of_ble_eq_true rfl) (fc_in s1 ?_)
  show AW (d + 9) mX8_peak 18 [(0, .inr 62), (1, .inl f), (2, .inl k), (3, .inl w)] [.inl (am_b (0 ≤ f ∧ f ≤ (M 63 0) - 1))] (am_up M 62 0 0) Q
  refine aw_ifb_eq dX8_peak_18 (tgt := 34) rfl (fun c2 => ?_) (fun c2 => ?_)
  · replace h := h.1 c2
    refine aw_ldc (z := (-1000000)) dX8_peak_34 lc_X8_182 ?_
    exact aw_iret dX8_peak_36 rfl h
  · replace h := h.2 c2
    refine aw_iload_n dX8_peak_21 rfl (j := 2) rfl ?_
    obtain ⟨s3, h⟩ := h
    refine aw_if_lt dX8_peak_22 (tgt := 34) rfl s3 (fun c4 => ?_) (fun c4 => ?_)
    · replace h := h.1 c4
      refine aw_ldc (z := (-1000000)) dX8_peak_34 lc_X8_182 ?_
      exact aw_iret dX8_peak_36 rfl h
    · replace h := h.2 c4
      refine aw_iload_n dX8_peak_25 rfl (j := 3) rfl ?_
      refine aw_iconst dX8_peak_26 ?_
      refine aw_iconst dX8_peak_27 ?_
      obtain ⟨s5, h⟩ := h
      refine aw_invs (d' := d + 8) (as := [.inl w, .inl 0, .inl 4]) (rest := []) dX8_peak_28 cs_X8_56 (Nat.lt_succ_self _) rfl rfl (Nat.le_of_ble_eq_true rfl) (fc_in s5 ?_)
      show AW (d + 9) mX8_peak 31 [(0, .inr 62), (1, .inl f), (2, .inl k), (3, .inl w)] [.inl (am_b (0 ≤ w ∧ w ≤ 4))] (am_up M 62 0 0) Q
      refine aw_ifb_ne dX8_peak_31 (tgt := 37) rfl (fun c6 => ?_) (fun c6 => ?_)
      · replace h := h.1 c6
        refine aw_aload_n dX8_peak_37 rfl (j := 0) rfl ?_
        refine aw_invv (d' := d + 8) (as := []) (rest := []) dX8_peak_38 cv_X8_183 (Nat.lt_succ_self _) rfl rfl rfl rfl rfl (Nat.le_of_ble_eq_true rfl) (AC.mono ?_ h)
        intro r M7 h
        obtain ⟨rfl, h⟩ := h
        show AW (d + 9) mX8_peak 41 [(0, .inr 62), (1, .inl f), (2, .inl k), (3, .inl w)] [] M7 Q
        refine aw_iload_n dX8_peak_41 rfl (j := 2) rfl ?_
        refine aw_aload_n dX8_peak_42 rfl (j := 0) rfl ?_
        refine aw_getr dX8_peak_43 fl_X8_33 rfl rfl ?_
        refine aw_iload_n dX8_peak_46 rfl (j := 1) rfl ?_
        obtain ⟨s8, h⟩ := h
        refine aw_iaload dX8_peak_47 rfl s8 ?_
        obtain ⟨s9, h⟩ := h
        refine aw_icmp_lt dX8_peak_48 (tgt := 54) rfl s3 s9 (fun c10 => ?_) (fun c10 => ?_)
        · replace h := h.1 c10
          refine aw_iload_n dX8_peak_54 rfl (j := 3) rfl ?_
          obtain ⟨s11, h⟩ := h
          refine aw_tsw [84, 96, 103, 110] dX8_peak_55 (tgt := 122) rfl (by decide) (by decide) s11 (fun c => ?_) (fun j t hj hx => ?_)
          · replace h := h.1 c
            refine aw_aload_n dX8_peak_122 rfl (j := 0) rfl ?_
            refine aw_getr dX8_peak_123 fl_X8_39 rfl rfl ?_
            refine aw_bipush dX8_peak_126 (by decide) ?_
            refine aw_iload_n dX8_peak_128 rfl (j := 1) rfl ?_
            refine aw_imul dX8_peak_129 ?_
            refine aw_iload_n dX8_peak_130 rfl (j := 2) rfl ?_
            refine aw_iadd dX8_peak_131 ?_
            obtain ⟨s12, h⟩ := h
            refine aw_iaload dX8_peak_132 rfl s12 ?_
            exact aw_iret dX8_peak_133 rfl h
          · match j, hj, hx with
            | 0, hj, hx =>
              cases hj
              replace h := h.2.1 (hx.trans (by decide))
              refine aw_aload_n dX8_peak_84 rfl (j := 0) rfl ?_
              refine aw_getr dX8_peak_85 fl_X8_36 rfl rfl ?_
              refine aw_bipush dX8_peak_88 (by decide) ?_
              refine aw_iload_n dX8_peak_90 rfl (j := 1) rfl ?_
              refine aw_imul dX8_peak_91 ?_
              refine aw_iload_n dX8_peak_92 rfl (j := 2) rfl ?_
              refine aw_iadd dX8_peak_93 ?_
              obtain ⟨s13, h⟩ := h
              refine aw_iaload dX8_peak_94 rfl s13 ?_
              exact aw_iret dX8_peak_95 rfl h
            | 1, hj, hx =>
              cases hj
              replace h := h.2.2.1 (hx.trans (by decide))
              refine aw_aload_n dX8_peak_96 rfl (j := 0) rfl ?_
              refine aw_iload_n dX8_peak_97 rfl (j := 1) rfl ?_
              refine aw_iload_n dX8_peak_98 rfl (j := 2) rfl ?_
              obtain ⟨s14, h⟩ := h
              refine aw_invv (d' := d + 8) (as := [.inl f, .inl k]) (rest := []) dX8_peak_99 cv_X8_121 (Nat.lt_succ_self _) rfl rfl rfl rfl rfl (Nat.le_of_ble_eq_true rfl) (fc_pitchOf s14 ?_)
              show AW (d + 9) mX8_peak 102 [(0, .inr 62), (1, .inl f), (2, .inl k), (3, .inl w)] [.inl (am_pt (M7 63) (M7 71) f k)] M7 Q
              exact aw_iret dX8_peak_102 rfl h
            | 2, hj, hx =>
              cases hj
              replace h := h.2.2.2.1 (hx.trans (by decide))
              refine aw_aload_n dX8_peak_103 rfl (j := 0) rfl ?_
              refine aw_iload_n dX8_peak_104 rfl (j := 1) rfl ?_
              refine aw_iload_n dX8_peak_105 rfl (j := 2) rfl ?_
              obtain ⟨s15, h⟩ := h
              refine aw_invv (d' := d + 8) (as := [.inl f, .inl k]) (rest := []) dX8_peak_106 cv_X8_176 (Nat.lt_succ_self _) rfl rfl rfl rfl rfl (Nat.le_of_ble_eq_true rfl) (fc_loudOf s15 ?_)
              show AW (d + 9) mX8_peak 109 [(0, .inr 62), (1, .inl f), (2, .inl k), (3, .inl w)] [.inl (am_lo2 (M7 63) (M7 71) f k)] M7 Q
              exact aw_iret dX8_peak_109 rfl h
            | 3, hj, hx =>
              cases hj
              replace h := h.2.2.2.2 (hx.trans (by decide))
              refine aw_aload_n dX8_peak_110 rfl (j := 0) rfl ?_
              refine aw_getr dX8_peak_111 fl_X8_42 rfl rfl ?_
              refine aw_bipush dX8_peak_114 (by decide) ?_
              refine aw_iload_n dX8_peak_116 rfl (j := 1) rfl ?_
              refine aw_imul dX8_peak_117 ?_
              refine aw_iload_n dX8_peak_118 rfl (j := 2) rfl ?_
              refine aw_iadd dX8_peak_119 ?_
              obtain ⟨s16, h⟩ := h
              refine aw_iaload dX8_peak_120 rfl s16 ?_
              exact aw_iret dX8_peak_121 rfl h
            | n + 4, hj, hx => exact absurd hj (by simp)
        · replace h := h.2 c10
          refine aw_bipush dX8_peak_51 (by decide) ?_
          exact aw_iret dX8_peak_53 rfl h
      · replace h := h.2 c6
        refine aw_ldc (z := (-1000000)) dX8_peak_34 lc_X8_182 ?_
        exact aw_iret dX8_peak_36 rfl h
theorem sg_X8_sumOf {d : Nat} {M : am_M} {Q : Option Int → am_M → Prop} {f ok : Int} (h : AW (d + 3) mX8_sumOf 5 [(0, .inr 62), (1, .inl f), (2, .inl ok), (3, .inl 0), (4, .inl 0)] [] M Q) : AC (d + 3) mX8_sumOf [.inr 62, .inl f, .inl ok] M Q := by
  refine aw_body (by decide) (Nat.le_of_ble_eq_true rfl) rfl ?_
  refine aw_iconst dX8_sumOf_0 ?_
  refine aw_istore_n (L' := [(0, .inr 62), (1, .inl f), (2, .inl ok), (3, .inl 0)]) dX8_sumOf_1 rfl (Nat.le_of_ble_eq_true rfl) rfl ?_
  refine aw_iconst dX8_sumOf_2 ?_
  refine aw_istore (L' := [(0, .inr 62), (1, .inl f), (2, .inl ok), (3, .inl 0), (4, .inl 0)]) dX8_sumOf_3 (Nat.le_of_ble_eq_true rfl) rfl ?_
  exact h
theorem sg_X8_sumOf_5 {d : Nat} {M : am_M} {Q : Option Int → am_M → Prop} {f ok sm k : Int} (h : (0 ≤ f ∧ f < 8) ∧
 (am_r k) ∧
 (am_r (M 70 f)) ∧
 ((M 70 f ≤ k →
 Q (some sm) M) ∧
 (k < M 70 f →
 (0 ≤ (6 * f) + k ∧ (6 * f) + k < 48) ∧
 AC (d + 2) mX8_longOf [.inr 62, .inl (M 73 ((6 * f) + k))] M (fun r M6 => ∃ z7, r = some z7 ∧
 (((am_r z7) ∧ (am_r (M6 63 4)))) ∧
 (((am_r ok) ∧ (am_b ((M6 63 4 ≤ z7)) = ok → (am_look (M6 63) (M6 71) f k)))) ∧
 ∀ (v14 : Int), (am_b ((M6 63 4 ≤ z7)) ≠ ok → v14 = 0) →
 (am_b ((M6 63 4 ≤ z7)) = ok → v14 = am_lo2 (M6 63) (M6 71) f k) →
 AW (d + 3) mX8_sumOf 5 [(0, .inr 62), (1, .inl f), (2, .inl ok), (3, .inl (sm + v14)), (4, .inl (k + 1))] [] M6 Q)))) : AW (d + 3) mX8_sumOf 5 [(0, .inr 62), (1, .inl f), (2, .inl ok), (3, .inl sm), (4, .inl k)] [] M Q := by
  refine aw_iload dX8_sumOf_5 (j := 4) rfl ?_
  refine aw_aload_n dX8_sumOf_7 rfl (j := 0) rfl ?_
  refine aw_getr dX8_sumOf_8 fl_X8_33 rfl rfl ?_
  refine aw_iload_n dX8_sumOf_11 rfl (j := 1) rfl ?_
  obtain ⟨s1, h⟩ := h
  refine aw_iaload dX8_sumOf_12 rfl s1 ?_
  obtain ⟨s2, h⟩ := h
  obtain ⟨s3, h⟩ := h
  refine aw_icmp_ge dX8_sumOf_13 (tgt := 74) rfl s2 s3 (fun c4 => ?_) (fun c4 => ?_)
  · replace h := h.1 c4
    refine aw_iload_n dX8_sumOf_74 rfl (j := 3) rfl ?_
    exact aw_iret dX8_sumOf_75 rfl h
  · replace h := h.2 c4
    refine aw_aload_n dX8_sumOf_16 rfl (j := 0) rfl ?_
    refine aw_aload_n dX8_sumOf_17 rfl (j := 0) rfl ?_
    refine aw_getr dX8_sumOf_18 fl_X8_42 rfl rfl ?_
    refine aw_bipush dX8_sumOf_21 (by decide) ?_
    refine aw_iload_n dX8_sumOf_23 rfl (j := 1) rfl ?_
    refine aw_imul dX8_sumOf_24 ?_
    refine aw_iload dX8_sumOf_25 (j := 4) rfl ?_
    refine aw_iadd dX8_sumOf_27 ?_
    obtain ⟨s5, h⟩ := h
    refine aw_iaload dX8_sumOf_28 rfl s5 ?_
    refine aw_invv (d' := d + 2) (as := [.inl (M 73 ((6 * f) + k))]) (rest := []) dX8_sumOf_29 cv_X8_161 (Nat.lt_succ_self _) rfl rfl rfl rfl rfl (Nat.le_of_ble_eq_true rfl) (AC.mono ?_ h)
    intro r M6 h
    obtain ⟨z7, rfl, h⟩ := h
    show AW (d + 3) mX8_sumOf 32 [(0, .inr 62), (1, .inl f), (2, .inl ok), (3, .inl sm), (4, .inl k)] [.inl z7] M6 Q
    refine aw_aload_n dX8_sumOf_32 rfl (j := 0) rfl ?_
    refine aw_getr dX8_sumOf_33 fl_X8_7 rfl rfl ?_
    refine aw_iconst dX8_sumOf_36 ?_
    refine aw_iaload dX8_sumOf_37 rfl (by decide) ?_
    obtain ⟨g, h⟩ := h
    have K : AW (d + 3) mX8_sumOf 46 [(0, .inr 62), (1, .inl f), (2, .inl ok), (3, .inl sm), (4, .inl k)] [.inl (am_b ((M6 63 4 ≤ z7)))] M6 Q := by
      refine aw_istore (L' := [(0, .inr 62), (1, .inl f), (2, .inl ok), (3, .inl sm), (4, .inl k), (5, .inl (am_b ((M6 63 4 ≤ z7))))]) dX8_sumOf_46 (Nat.le_of_ble_eq_true rfl) rfl ?_
      refine aw_iload_n dX8_sumOf_48 rfl (j := 3) rfl ?_
      refine aw_iload dX8_sumOf_49 (j := 5) rfl ?_
      refine aw_iload_n dX8_sumOf_51 rfl (j := 2) rfl ?_
      obtain ⟨g, h⟩ := h
      have K : ∀ (v14 : Int), (am_b ((M6 63 4 ≤ z7)) ≠ ok → v14 = 0) → (am_b ((M6 63 4 ≤ z7)) = ok → v14 = am_lo2 (M6 63) (M6 71) f k) → AW (d + 3) mX8_sumOf 66 [(0, .inr 62), (1, .inl f), (2, .inl ok), (3, .inl sm), (4, .inl k), (5, .inl (am_b ((M6 63 4 ≤ z7))))] [.inl v14, .inl sm] M6 Q := by
        intro v14 q15 q16
        replace h := h v14 q15 q16
        refine aw_iadd dX8_sumOf_66 ?_
        refine aw_istore_n (L' := [(0, .inr 62), (1, .inl f), (2, .inl ok), (3, .inl (sm + v14)), (4, .inl k), (5, .inl (am_b ((M6 63 4 ≤ z7))))]) dX8_sumOf_67 rfl (Nat.le_of_ble_eq_true rfl) rfl ?_
        refine aw_iinc (L' := [(0, .inr 62), (1, .inl f), (2, .inl ok), (3, .inl (sm + v14)), (4, .inl (k + 1)), (5, .inl (am_b ((M6 63 4 ≤ z7))))]) dX8_sumOf_68 (j := 4) rfl (Nat.le_of_ble_eq_true rfl) rfl ?_
        refine aw_goto dX8_sumOf_71 (tgt := 5) rfl ?_
        exact aw_sub [0, 1, 2, 3, 4] rfl h
      clear h
      obtain ⟨s11, g⟩ := g
      refine aw_icmp_ne dX8_sumOf_52 (tgt := 65) rfl (am_b_r _) s11 (fun c12 => ?_) (fun c12 => ?_)
      · have c12 : am_b ((M6 63 4 ≤ z7)) ≠ ok := c12
        refine aw_iconst dX8_sumOf_65 ?_
        exact K 0 (fun _ => rfl) (fun q0 => by first | omega | exact absurd c12 q0 | exact absurd q0 c12)
      · have c12 : am_b ((M6 63 4 ≤ z7)) = ok := c12
        replace g := g c12
        refine aw_aload_n dX8_sumOf_55 rfl (j := 0) rfl ?_
        refine aw_iload_n dX8_sumOf_56 rfl (j := 1) rfl ?_
        refine aw_iload dX8_sumOf_57 (j := 4) rfl ?_
        have s13 := g
        refine aw_invv (d' := d + 2) (as := [.inl f, .inl k]) (rest := [.inl sm]) dX8_sumOf_59 cv_X8_176 (Nat.lt_succ_self _) rfl rfl rfl rfl rfl (Nat.le_of_ble_eq_true rfl) (fc_loudOf s13 ?_)
        show AW (d + 3) mX8_sumOf 62 [(0, .inr 62), (1, .inl f), (2, .inl ok), (3, .inl sm), (4, .inl k), (5, .inl (am_b ((M6 63 4 ≤ z7))))] [.inl (am_lo2 (M6 63) (M6 71) f k), .inl sm] M6 Q
        refine aw_goto dX8_sumOf_62 (tgt := 66) rfl ?_
        exact K (am_lo2 (M6 63) (M6 71) f k) (fun q0 => by first | omega | exact absurd c12 q0 | exact absurd q0 c12) (fun _ => rfl)
    clear h
    obtain ⟨s8, g⟩ := g
    have s9 := g
    refine aw_icmp_lt dX8_sumOf_38 (tgt := 45) rfl s8 s9 (fun c10 => ?_) (fun c10 => ?_)
    · have c10 : z7 < M6 63 4 := c10
      refine aw_iconst dX8_sumOf_45 ?_
      have hp : ¬ ((M6 63 4 ≤ z7)) := by first | omega | simp_all
      have K1 := K
      rw [am_b_neg hp] at K1
      exact K1
    · have c10 : M6 63 4 ≤ z7 := c10
      refine aw_iconst dX8_sumOf_41 ?_
      refine aw_goto dX8_sumOf_42 (tgt := 46) rfl ?_
      have hp : (M6 63 4 ≤ z7) := by first | omega | simp_all
      have K1 := K
      rw [am_b_pos hp] at K1
      exact K1
theorem sg_X8_bornIn {d : Nat} {M : am_M} {Q : Option Int → am_M → Prop} {f ie : Int} (h : AW (d + 2) mX8_bornIn 5 [(0, .inr 62), (1, .inl f), (2, .inl ie), (3, .inl 0), (4, .inl 0)] [] M Q) : AC (d + 2) mX8_bornIn [.inr 62, .inl f, .inl ie] M Q := by
  refine aw_body (by decide) (Nat.le_of_ble_eq_true rfl) rfl ?_
  refine aw_iconst dX8_bornIn_0 ?_
  refine aw_istore_n (L' := [(0, .inr 62), (1, .inl f), (2, .inl ie), (3, .inl 0)]) dX8_bornIn_1 rfl (Nat.le_of_ble_eq_true rfl) rfl ?_
  refine aw_iconst dX8_bornIn_2 ?_
  refine aw_istore (L' := [(0, .inr 62), (1, .inl f), (2, .inl ie), (3, .inl 0), (4, .inl 0)]) dX8_bornIn_3 (Nat.le_of_ble_eq_true rfl) rfl ?_
  exact h
theorem sg_X8_bornIn_5 {d : Nat} {M : am_M} {Q : Option Int → am_M → Prop} {f ie mn n : Int} (h : (am_r n) ∧
 (am_r (M 62 19)) ∧
 ((M 62 19 ≤ n →
 Q (some mn) M) ∧
 (n < M 62 19 →
 AC (d + 1) mX8_bornOf [.inr 62, .inl n] M (fun r M4 => ∃ z5, r = some z5 ∧
 (am_r ie) ∧
 ((ie = 0 →
 (((am_r (z5 + 0)) ∧ (am_r f))) ∧
 AW (d + 2) mX8_bornIn 5 [(0, .inr 62), (1, .inl f), (2, .inl ie), (3, .inl (mn + (am_b ((z5 + 0 = f))))), (4, .inl (n + 1))] [] M4 Q) ∧
 (ie ≠ 0 →
 AC (d + 1) mX8_longOf [.inr 62, .inl n] M4 (fun r M11 => ∃ z12, r = some z12 ∧
 (((am_r (z5 + (z12 - 1))) ∧ (am_r f))) ∧
 AW (d + 2) mX8_bornIn 5 [(0, .inr 62), (1, .inl f), (2, .inl ie), (3, .inl (mn + (am_b ((z5 + (z12 - 1) = f))))), (4, .inl (n + 1))] [] M11 Q))))))) : AW (d + 2) mX8_bornIn 5 [(0, .inr 62), (1, .inl f), (2, .inl ie), (3, .inl mn), (4, .inl n)] [] M Q := by
  refine aw_iload dX8_bornIn_5 (j := 4) rfl ?_
  refine aw_aload_n dX8_bornIn_7 rfl (j := 0) rfl ?_
  refine aw_getf dX8_bornIn_8 fl_X8_145 rfl rfl rfl ?_
  obtain ⟨s1, h⟩ := h
  obtain ⟨s2, h⟩ := h
  refine aw_icmp_ge dX8_bornIn_11 (tgt := 59) rfl s1 s2 (fun c3 => ?_) (fun c3 => ?_)
  · replace h := h.1 c3
    refine aw_iload_n dX8_bornIn_59 rfl (j := 3) rfl ?_
    exact aw_iret dX8_bornIn_60 rfl h
  · replace h := h.2 c3
    refine aw_aload_n dX8_bornIn_14 rfl (j := 0) rfl ?_
    refine aw_iload dX8_bornIn_15 (j := 4) rfl ?_
    refine aw_invv (d' := d + 1) (as := [.inl n]) (rest := []) dX8_bornIn_17 cv_X8_158 (Nat.lt_succ_self _) rfl rfl rfl rfl rfl (Nat.le_of_ble_eq_true rfl) (AC.mono ?_ h)
    intro r M4 h
    obtain ⟨z5, rfl, h⟩ := h
    show AW (d + 2) mX8_bornIn 20 [(0, .inr 62), (1, .inl f), (2, .inl ie), (3, .inl mn), (4, .inl n)] [.inl z5] M4 Q
    refine aw_iload_n dX8_bornIn_20 rfl (j := 2) rfl ?_
    obtain ⟨s6, h⟩ := h
    refine aw_if_eq dX8_bornIn_21 (tgt := 35) rfl s6 (fun c7 => ?_) (fun c7 => ?_)
    · replace h := h.1 c7
      refine aw_iconst dX8_bornIn_35 ?_
      refine aw_iadd dX8_bornIn_36 ?_
      refine aw_istore (L' := [(0, .inr 62), (1, .inl f), (2, .inl ie), (3, .inl mn), (4, .inl n), (5, .inl (z5 + 0))]) dX8_bornIn_37 (Nat.le_of_ble_eq_true rfl) rfl ?_
      refine aw_iload_n dX8_bornIn_39 rfl (j := 3) rfl ?_
      refine aw_iload dX8_bornIn_40 (j := 5) rfl ?_
      refine aw_iload_n dX8_bornIn_42 rfl (j := 1) rfl ?_
      obtain ⟨g, h⟩ := h
      have K : AW (d + 2) mX8_bornIn 51 [(0, .inr 62), (1, .inl f), (2, .inl ie), (3, .inl mn), (4, .inl n), (5, .inl (z5 + 0))] [.inl (am_b ((z5 + 0 = f))), .inl mn] M4 Q := by
        refine aw_iadd dX8_bornIn_51 ?_
        refine aw_istore_n (L' := [(0, .inr 62), (1, .inl f), (2, .inl ie), (3, .inl (mn + (am_b ((z5 + 0 = f))))), (4, .inl n), (5, .inl (z5 + 0))]) dX8_bornIn_52 rfl (Nat.le_of_ble_eq_true rfl) rfl ?_
        refine aw_iinc (L' := [(0, .inr 62), (1, .inl f), (2, .inl ie), (3, .inl (mn + (am_b ((z5 + 0 = f))))), (4, .inl (n + 1)), (5, .inl (z5 + 0))]) dX8_bornIn_53 (j := 4) rfl (Nat.le_of_ble_eq_true rfl) rfl ?_
        refine aw_goto dX8_bornIn_56 (tgt := 5) rfl ?_
        exact aw_sub [0, 1, 2, 3, 4] rfl h
      clear h
      obtain ⟨s8, g⟩ := g
      have s9 := g
      refine aw_icmp_ne dX8_bornIn_43 (tgt := 50) rfl s8 s9 (fun c10 => ?_) (fun c10 => ?_)
      · have c10 : z5 + 0 ≠ f := c10
        refine aw_iconst dX8_bornIn_50 ?_
        have hp : ¬ ((z5 + 0 = f)) := by first | omega | simp_all
        have K1 := K
        rw [am_b_neg hp] at K1
        exact K1
      · have c10 : z5 + 0 = f := c10
        refine aw_iconst dX8_bornIn_46 ?_
        refine aw_goto dX8_bornIn_47 (tgt := 51) rfl ?_
        have hp : (z5 + 0 = f) := by first | omega | simp_all
        have K1 := K
        rw [am_b_pos hp] at K1
        exact K1
    · replace h := h.2 c7
      refine aw_aload_n dX8_bornIn_24 rfl (j := 0) rfl ?_
      refine aw_iload dX8_bornIn_25 (j := 4) rfl ?_
      refine aw_invv (d' := d + 1) (as := [.inl n]) (rest := [.inl z5]) dX8_bornIn_27 cv_X8_161 (Nat.lt_succ_self _) rfl rfl rfl rfl rfl (Nat.le_of_ble_eq_true rfl) (AC.mono ?_ h)
      intro r M11 h
      obtain ⟨z12, rfl, h⟩ := h
      show AW (d + 2) mX8_bornIn 30 [(0, .inr 62), (1, .inl f), (2, .inl ie), (3, .inl mn), (4, .inl n)] [.inl z12, .inl z5] M11 Q
      refine aw_iconst dX8_bornIn_30 ?_
      refine aw_isub dX8_bornIn_31 ?_
      refine aw_goto dX8_bornIn_32 (tgt := 36) rfl ?_
      refine aw_iadd dX8_bornIn_36 ?_
      refine aw_istore (L' := [(0, .inr 62), (1, .inl f), (2, .inl ie), (3, .inl mn), (4, .inl n), (5, .inl (z5 + (z12 - 1)))]) dX8_bornIn_37 (Nat.le_of_ble_eq_true rfl) rfl ?_
      refine aw_iload_n dX8_bornIn_39 rfl (j := 3) rfl ?_
      refine aw_iload dX8_bornIn_40 (j := 5) rfl ?_
      refine aw_iload_n dX8_bornIn_42 rfl (j := 1) rfl ?_
      obtain ⟨g, h⟩ := h
      have K : AW (d + 2) mX8_bornIn 51 [(0, .inr 62), (1, .inl f), (2, .inl ie), (3, .inl mn), (4, .inl n), (5, .inl (z5 + (z12 - 1)))] [.inl (am_b ((z5 + (z12 - 1) = f))), .inl mn] M11 Q := by
        refine aw_iadd dX8_bornIn_51 ?_
        refine aw_istore_n (L' := [(0, .inr 62), (1, .inl f), (2, .inl ie), (3, .inl (mn + (am_b ((z5 + (z12 - 1) = f))))), (4, .inl n), (5, .inl (z5 + (z12 - 1)))]) dX8_bornIn_52 rfl (Nat.le_of_ble_eq_true rfl) rfl ?_
        refine aw_iinc (L' := [(0, .inr 62), (1, .inl f), (2, .inl ie), (3, .inl (mn + (am_b ((z5 + (z12 - 1) = f))))), (4, .inl (n + 1)), (5, .inl (z5 + (z12 - 1)))]) dX8_bornIn_53 (j := 4) rfl (Nat.le_of_ble_eq_true rfl) rfl ?_
        refine aw_goto dX8_bornIn_56 (tgt := 5) rfl ?_
        exact aw_sub [0, 1, 2, 3, 4] rfl h
      clear h
      obtain ⟨s13, g⟩ := g
      have s14 := g
      refine aw_icmp_ne dX8_bornIn_43 (tgt := 50) rfl s13 s14 (fun c15 => ?_) (fun c15 => ?_)
      · have c15 : z5 + (z12 - 1) ≠ f := c15
        refine aw_iconst dX8_bornIn_50 ?_
        have hp : ¬ ((z5 + (z12 - 1) = f)) := by first | omega | simp_all
        have K1 := K
        rw [am_b_neg hp] at K1
        exact K1
      · have c15 : z5 + (z12 - 1) = f := c15
        refine aw_iconst dX8_bornIn_46 ?_
        refine aw_goto dX8_bornIn_47 (tgt := 51) rfl ?_
        have hp : (z5 + (z12 - 1) = f) := by first | omega | simp_all
        have K1 := K
        rw [am_b_pos hp] at K1
        exact K1
theorem sg_X8_frame {d : Nat} {M : am_M} {Q : Option Int → am_M → Prop} {f w : Int} (h : (am_r f ∧ am_r 0 ∧ am_r ((M 63 0) - 1)) ∧
 ((¬ (0 ≤ f ∧ f ≤ (M 63 0) - 1) →
 Q (some (-1)) (am_up M 62 0 0)) ∧
 (0 ≤ f ∧ f ≤ (M 63 0) - 1 →
 (am_r w ∧ am_r 0 ∧ am_r 4) ∧
 ((0 ≤ w ∧ w ≤ 4 →
 AC (d + 8) mX8_lays [.inr 62] (am_up M 62 0 0) (fun r M5 => r = none ∧
 (am_r w) ∧
 ((w ≠ 0 →
 ((3 ≤ w →
 AC (d + 8) mX8_bornIn [.inr 62, .inl f, .inl (am_b ((w = 4)))] M5 (fun r M10 => ∃ z11, r = some z11 ∧
 Q (some z11) M10)) ∧
 (w < 3 →
 AC (d + 8) mX8_sumOf [.inr 62, .inl f, .inl (am_b ((w = 1)))] M5 (fun r M13 => ∃ z14, r = some z14 ∧
 Q (some z14) M13)))) ∧
 (w = 0 →
 (0 ≤ f ∧ f < 8) ∧
 Q (some (M5 70 f)) M5)))) ∧
 (¬ (0 ≤ w ∧ w ≤ 4) →
 Q (some (-1)) (am_up M 62 0 0)))))) : AC (d + 9) mX8_frame [.inr 62, .inl f, .inl w] M Q := by
  refine aw_body (by decide) (Nat.le_of_ble_eq_true rfl) rfl ?_
  refine aw_aload_n dX8_frame_0 rfl (j := 0) rfl ?_
  refine aw_iconst dX8_frame_1 ?_
  refine aw_putf dX8_frame_2 pf_X8_52 rfl rfl rfl ?_
  refine aw_iload_n dX8_frame_5 rfl (j := 1) rfl ?_
  refine aw_iconst dX8_frame_6 ?_
  refine aw_aload_n dX8_frame_7 rfl (j := 0) rfl ?_
  refine aw_getr dX8_frame_8 fl_X8_7 rfl rfl ?_
  refine aw_iconst dX8_frame_11 ?_
  refine aw_iaload dX8_frame_12 rfl (by decide) ?_
  refine aw_iconst dX8_frame_13 ?_
  refine aw_isub dX8_frame_14 ?_
  obtain ⟨s1, h⟩ := h
  refine aw_invs (d' := d + 8) (as := [.inl f, .inl 0, .inl ((M 63 0) - 1)]) (rest := []) dX8_frame_15 cs_X8_56 (Nat.lt_succ_self _) rfl rfl (Nat.le_of_ble_eq_true rfl) (fc_in s1 ?_)
  show AW (d + 9) mX8_frame 18 [(0, .inr 62), (1, .inl f), (2, .inl w)] [.inl (am_b (0 ≤ f ∧ f ≤ (M 63 0) - 1))] (am_up M 62 0 0) Q
  refine aw_ifb_eq dX8_frame_18 (tgt := 30) rfl (fun c2 => ?_) (fun c2 => ?_)
  · replace h := h.1 c2
    refine aw_iconst dX8_frame_30 ?_
    exact aw_iret dX8_frame_31 rfl h
  · replace h := h.2 c2
    refine aw_iload_n dX8_frame_21 rfl (j := 2) rfl ?_
    refine aw_iconst dX8_frame_22 ?_
    refine aw_iconst dX8_frame_23 ?_
    obtain ⟨s3, h⟩ := h
    refine aw_invs (d' := d + 8) (as := [.inl w, .inl 0, .inl 4]) (rest := []) dX8_frame_24 cs_X8_56 (Nat.lt_succ_self _) rfl rfl (Nat.le_of_ble_eq_true rfl) (fc_in s3 ?_)
    show AW (d + 9) mX8_frame 27 [(0, .inr 62), (1, .inl f), (2, .inl w)] [.inl (am_b (0 ≤ w ∧ w ≤ 4))] (am_up M 62 0 0) Q
    refine aw_ifb_ne dX8_frame_27 (tgt := 32) rfl (fun c4 => ?_) (fun c4 => ?_)
    · replace h := h.1 c4
      refine aw_aload_n dX8_frame_32 rfl (j := 0) rfl ?_
      refine aw_invv (d' := d + 8) (as := []) (rest := []) dX8_frame_33 cv_X8_183 (Nat.lt_succ_self _) rfl rfl rfl rfl rfl (Nat.le_of_ble_eq_true rfl) (AC.mono ?_ h)
      intro r M5 h
      obtain ⟨rfl, h⟩ := h
      show AW (d + 9) mX8_frame 36 [(0, .inr 62), (1, .inl f), (2, .inl w)] [] M5 Q
      refine aw_iload_n dX8_frame_36 rfl (j := 2) rfl ?_
      obtain ⟨s6, h⟩ := h
      refine aw_if_ne dX8_frame_37 (tgt := 49) rfl s6 (fun c7 => ?_) (fun c7 => ?_)
      · replace h := h.1 c7
        refine aw_iload_n dX8_frame_49 rfl (j := 2) rfl ?_
        refine aw_iconst dX8_frame_50 ?_
        refine aw_icmp_ge dX8_frame_51 (tgt := 72) rfl s6 (by decide) (fun c8 => ?_) (fun c8 => ?_)
        · replace h := h.1 c8
          refine aw_aload_n dX8_frame_72 rfl (j := 0) rfl ?_
          refine aw_iload_n dX8_frame_73 rfl (j := 1) rfl ?_
          refine aw_iload_n dX8_frame_74 rfl (j := 2) rfl ?_
          refine aw_iconst dX8_frame_75 ?_
          have K : AW (d + 9) mX8_frame 84 [(0, .inr 62), (1, .inl f), (2, .inl w)] [.inl (am_b ((w = 4))), .inl f, .inr 62] M5 Q := by
            refine aw_invv (d' := d + 8) (as := [.inl f, .inl (am_b ((w = 4)))]) (rest := []) dX8_frame_84 cv_X8_190 (Nat.lt_succ_self _) rfl rfl rfl rfl rfl (Nat.le_of_ble_eq_true rfl) (AC.mono ?_ h)
            intro r M10 h
            obtain ⟨z11, rfl, h⟩ := h
            show AW (d + 9) mX8_frame 87 [(0, .inr 62), (1, .inl f), (2, .inl w)] [.inl z11] M10 Q
            exact aw_iret dX8_frame_87 rfl h
          clear h
          refine aw_icmp_ne dX8_frame_76 (tgt := 83) rfl s6 (by decide) (fun c9 => ?_) (fun c9 => ?_)
          · have c9 : w ≠ 4 := c9
            refine aw_iconst dX8_frame_83 ?_
            have hp : ¬ ((w = 4)) := by first | omega | simp_all
            have K1 := K
            rw [am_b_neg hp] at K1
            exact K1
          · have c9 : w = 4 := c9
            refine aw_iconst dX8_frame_79 ?_
            refine aw_goto dX8_frame_80 (tgt := 84) rfl ?_
            have hp : (w = 4) := by first | omega | simp_all
            have K1 := K
            rw [am_b_pos hp] at K1
            exact K1
        · replace h := h.2 c8
          refine aw_aload_n dX8_frame_54 rfl (j := 0) rfl ?_
          refine aw_iload_n dX8_frame_55 rfl (j := 1) rfl ?_
          refine aw_iload_n dX8_frame_56 rfl (j := 2) rfl ?_
          refine aw_iconst dX8_frame_57 ?_
          have K : AW (d + 9) mX8_frame 66 [(0, .inr 62), (1, .inl f), (2, .inl w)] [.inl (am_b ((w = 1))), .inl f, .inr 62] M5 Q := by
            refine aw_invv (d' := d + 8) (as := [.inl f, .inl (am_b ((w = 1)))]) (rest := []) dX8_frame_66 cv_X8_186 (Nat.lt_succ_self _) rfl rfl rfl rfl rfl (Nat.le_of_ble_eq_true rfl) (AC.mono ?_ h)
            intro r M13 h
            obtain ⟨z14, rfl, h⟩ := h
            show AW (d + 9) mX8_frame 69 [(0, .inr 62), (1, .inl f), (2, .inl w)] [.inl z14] M13 Q
            refine aw_goto dX8_frame_69 (tgt := 87) rfl ?_
            exact aw_iret dX8_frame_87 rfl h
          clear h
          refine aw_icmp_ne dX8_frame_58 (tgt := 65) rfl s6 (by decide) (fun c12 => ?_) (fun c12 => ?_)
          · have c12 : w ≠ 1 := c12
            refine aw_iconst dX8_frame_65 ?_
            have hp : ¬ ((w = 1)) := by first | omega | simp_all
            have K1 := K
            rw [am_b_neg hp] at K1
            exact K1
          · have c12 : w = 1 := c12
            refine aw_iconst dX8_frame_61 ?_
            refine aw_goto dX8_frame_62 (tgt := 66) rfl ?_
            have hp : (w = 1) := by first | omega | simp_all
            have K1 := K
            rw [am_b_pos hp] at K1
            exact K1
      · replace h := h.2 c7
        refine aw_aload_n dX8_frame_40 rfl (j := 0) rfl ?_
        refine aw_getr dX8_frame_41 fl_X8_33 rfl rfl ?_
        refine aw_iload_n dX8_frame_44 rfl (j := 1) rfl ?_
        obtain ⟨s15, h⟩ := h
        refine aw_iaload dX8_frame_45 rfl s15 ?_
        refine aw_goto dX8_frame_46 (tgt := 87) rfl ?_
        exact aw_iret dX8_frame_87 rfl h
    · replace h := h.2 c4
      refine aw_iconst dX8_frame_30 ?_
      exact aw_iret dX8_frame_31 rfl h
theorem sg_X8_track {d : Nat} {M : am_M} {Q : Option Int → am_M → Prop} {n w : Int} (h : AC (d + 8) mX8_lays [.inr 62] (am_up M 62 0 0) (fun r M1 => r = none ∧
 (am_r n ∧ am_r 0 ∧ am_r ((M1 62 19) - 1)) ∧
 ((¬ (0 ≤ n ∧ n ≤ (M1 62 19) - 1) →
 Q (some (-1000000)) M1) ∧
 (0 ≤ n ∧ n ≤ (M1 62 19) - 1 →
 (am_r w ∧ am_r 0 ∧ am_r 7) ∧
 ((0 ≤ w ∧ w ≤ 7 →
 AC (d + 8) mX8_bornOf [.inr 62, .inl n] M1 (fun r M6 => ∃ z7, r = some z7 ∧
 (am_r w) ∧
 ((w < 0 ∨ 6 < w →
 AC (d + 8) mX8_peakOf [.inr 62, .inl n, .inl z7] M6 (fun r M9 => ∃ z10, r = some z10 ∧
 (am_ptok (M9 63) (M9 71) z7 z10) ∧
 Q (some (am_pt (M9 63) (M9 71) z7 z10)) M9)) ∧
 (w = 0 →
 Q (some z7) M6) ∧
 (w = 1 →
 AC (d + 8) mX8_longOf [.inr 62, .inl n] M6 (fun r M12 => ∃ z13, r = some z13 ∧
 Q (some z13) M12)) ∧
 (w = 2 →
 AC (d + 8) mX8_longOf [.inr 62, .inl n] M6 (fun r M14 => ∃ z15, r = some z15 ∧
 (((am_r z15) ∧ (am_r (M14 63 4)))) ∧
 Q (some (am_b ((M14 63 4 ≤ z15)))) M14)) ∧
 (w = 3 →
 AC (d + 8) mX8_depthOf [.inr 62, .inl n] M6 (fun r M19 => ∃ z20, r = some z20 ∧
 Q (some z20) M19)) ∧
 (w = 4 →
 AC (d + 8) mX8_turnsOf [.inr 62, .inl n] M6 (fun r M21 => ∃ z22, r = some z22 ∧
 Q (some z22) M21)) ∧
 (w = 5 →
 AC (d + 8) mX8_kindOf [.inr 62, .inl n] M6 (fun r M23 => ∃ z24, r = some z24 ∧
 Q (some z24) M23)) ∧
 (w = 6 →
 AC (d + 8) mX8_worthOfTrack [.inr 62, .inl n] M6 (fun r M25 => ∃ z26, r = some z26 ∧
 Q (some z26) M25))))) ∧
 (¬ (0 ≤ w ∧ w ≤ 7) →
 Q (some (-1000000)) M1)))))) : AC (d + 9) mX8_track [.inr 62, .inl n, .inl w] M Q := by
  refine aw_body (by decide) (Nat.le_of_ble_eq_true rfl) rfl ?_
  refine aw_aload_n dX8_track_0 rfl (j := 0) rfl ?_
  refine aw_iconst dX8_track_1 ?_
  refine aw_putf dX8_track_2 pf_X8_52 rfl rfl rfl ?_
  refine aw_aload_n dX8_track_5 rfl (j := 0) rfl ?_
  refine aw_invv (d' := d + 8) (as := []) (rest := []) dX8_track_6 cv_X8_183 (Nat.lt_succ_self _) rfl rfl rfl rfl rfl (Nat.le_of_ble_eq_true rfl) (AC.mono ?_ h)
  intro r M1 h
  obtain ⟨rfl, h⟩ := h
  show AW (d + 9) mX8_track 9 [(0, .inr 62), (1, .inl n), (2, .inl w)] [] M1 Q
  refine aw_iload_n dX8_track_9 rfl (j := 1) rfl ?_
  refine aw_iconst dX8_track_10 ?_
  refine aw_aload_n dX8_track_11 rfl (j := 0) rfl ?_
  refine aw_getf dX8_track_12 fl_X8_145 rfl rfl rfl ?_
  refine aw_iconst dX8_track_15 ?_
  refine aw_isub dX8_track_16 ?_
  obtain ⟨s2, h⟩ := h
  refine aw_invs (d' := d + 8) (as := [.inl n, .inl 0, .inl ((M1 62 19) - 1)]) (rest := []) dX8_track_17 cs_X8_56 (Nat.lt_succ_self _) rfl rfl (Nat.le_of_ble_eq_true rfl) (fc_in s2 ?_)
  show AW (d + 9) mX8_track 20 [(0, .inr 62), (1, .inl n), (2, .inl w)] [.inl (am_b (0 ≤ n ∧ n ≤ (M1 62 19) - 1))] M1 Q
  refine aw_ifb_eq dX8_track_20 (tgt := 33) rfl (fun c3 => ?_) (fun c3 => ?_)
  · replace h := h.1 c3
    refine aw_ldc (z := (-1000000)) dX8_track_33 lc_X8_182 ?_
    exact aw_iret dX8_track_35 rfl h
  · replace h := h.2 c3
    refine aw_iload_n dX8_track_23 rfl (j := 2) rfl ?_
    refine aw_iconst dX8_track_24 ?_
    refine aw_bipush dX8_track_25 (by decide) ?_
    obtain ⟨s4, h⟩ := h
    refine aw_invs (d' := d + 8) (as := [.inl w, .inl 0, .inl 7]) (rest := []) dX8_track_27 cs_X8_56 (Nat.lt_succ_self _) rfl rfl (Nat.le_of_ble_eq_true rfl) (fc_in s4 ?_)
    show AW (d + 9) mX8_track 30 [(0, .inr 62), (1, .inl n), (2, .inl w)] [.inl (am_b (0 ≤ w ∧ w ≤ 7))] M1 Q
    refine aw_ifb_ne dX8_track_30 (tgt := 36) rfl (fun c5 => ?_) (fun c5 => ?_)
    · replace h := h.1 c5
      refine aw_aload_n dX8_track_36 rfl (j := 0) rfl ?_
      refine aw_iload_n dX8_track_37 rfl (j := 1) rfl ?_
      refine aw_invv (d' := d + 8) (as := [.inl n]) (rest := []) dX8_track_38 cv_X8_158 (Nat.lt_succ_self _) rfl rfl rfl rfl rfl (Nat.le_of_ble_eq_true rfl) (AC.mono ?_ h)
      intro r M6 h
      obtain ⟨z7, rfl, h⟩ := h
      show AW (d + 9) mX8_track 41 [(0, .inr 62), (1, .inl n), (2, .inl w)] [.inl z7] M6 Q
      refine aw_istore_n (L' := [(0, .inr 62), (1, .inl n), (2, .inl w), (3, .inl z7)]) dX8_track_41 rfl (Nat.le_of_ble_eq_true rfl) rfl ?_
      refine aw_iload_n dX8_track_42 rfl (j := 2) rfl ?_
      obtain ⟨s8, h⟩ := h
      refine aw_tsw [84, 86, 92, 112, 118, 124, 130] dX8_track_43 (tgt := 136) rfl (by decide) (by decide) s8 (fun c => ?_) (fun j t hj hx => ?_)
      · replace h := h.1 c
        refine aw_aload_n dX8_track_136 rfl (j := 0) rfl ?_
        refine aw_iload_n dX8_track_137 rfl (j := 3) rfl ?_
        refine aw_aload_n dX8_track_138 rfl (j := 0) rfl ?_
        refine aw_iload_n dX8_track_139 rfl (j := 1) rfl ?_
        refine aw_iload_n dX8_track_140 rfl (j := 3) rfl ?_
        refine aw_invv (d' := d + 8) (as := [.inl n, .inl z7]) (rest := [.inl z7, .inr 62]) dX8_track_141 cv_X8_155 (Nat.lt_succ_self _) rfl rfl rfl rfl rfl (Nat.le_of_ble_eq_true rfl) (AC.mono ?_ h)
        intro r M9 h
        obtain ⟨z10, rfl, h⟩ := h
        show AW (d + 9) mX8_track 144 [(0, .inr 62), (1, .inl n), (2, .inl w), (3, .inl z7)] [.inl z10, .inl z7, .inr 62] M9 Q
        obtain ⟨s11, h⟩ := h
        refine aw_invv (d' := d + 8) (as := [.inl z7, .inl z10]) (rest := []) dX8_track_144 cv_X8_121 (Nat.lt_succ_self _) rfl rfl rfl rfl rfl (Nat.le_of_ble_eq_true rfl) (fc_pitchOf s11 ?_)
        show AW (d + 9) mX8_track 147 [(0, .inr 62), (1, .inl n), (2, .inl w), (3, .inl z7)] [.inl (am_pt (M9 63) (M9 71) z7 z10)] M9 Q
        exact aw_iret dX8_track_147 rfl h
      · match j, hj, hx with
        | 0, hj, hx =>
          cases hj
          replace h := h.2.1 (hx.trans (by decide))
          refine aw_iload_n dX8_track_84 rfl (j := 3) rfl ?_
          exact aw_iret dX8_track_85 rfl h
        | 1, hj, hx =>
          cases hj
          replace h := h.2.2.1 (hx.trans (by decide))
          refine aw_aload_n dX8_track_86 rfl (j := 0) rfl ?_
          refine aw_iload_n dX8_track_87 rfl (j := 1) rfl ?_
          refine aw_invv (d' := d + 8) (as := [.inl n]) (rest := []) dX8_track_88 cv_X8_161 (Nat.lt_succ_self _) rfl rfl rfl rfl rfl (Nat.le_of_ble_eq_true rfl) (AC.mono ?_ h)
          intro r M12 h
          obtain ⟨z13, rfl, h⟩ := h
          show AW (d + 9) mX8_track 91 [(0, .inr 62), (1, .inl n), (2, .inl w), (3, .inl z7)] [.inl z13] M12 Q
          exact aw_iret dX8_track_91 rfl h
        | 2, hj, hx =>
          cases hj
          replace h := h.2.2.2.1 (hx.trans (by decide))
          refine aw_aload_n dX8_track_92 rfl (j := 0) rfl ?_
          refine aw_iload_n dX8_track_93 rfl (j := 1) rfl ?_
          refine aw_invv (d' := d + 8) (as := [.inl n]) (rest := []) dX8_track_94 cv_X8_161 (Nat.lt_succ_self _) rfl rfl rfl rfl rfl (Nat.le_of_ble_eq_true rfl) (AC.mono ?_ h)
          intro r M14 h
          obtain ⟨z15, rfl, h⟩ := h
          show AW (d + 9) mX8_track 97 [(0, .inr 62), (1, .inl n), (2, .inl w), (3, .inl z7)] [.inl z15] M14 Q
          refine aw_aload_n dX8_track_97 rfl (j := 0) rfl ?_
          refine aw_getr dX8_track_98 fl_X8_7 rfl rfl ?_
          refine aw_iconst dX8_track_101 ?_
          refine aw_iaload dX8_track_102 rfl (by decide) ?_
          obtain ⟨g, h⟩ := h
          have K : AW (d + 9) mX8_track 111 [(0, .inr 62), (1, .inl n), (2, .inl w), (3, .inl z7)] [.inl (am_b ((M14 63 4 ≤ z15)))] M14 Q := by
            exact aw_iret dX8_track_111 rfl h
          clear h
          obtain ⟨s16, g⟩ := g
          have s17 := g
          refine aw_icmp_lt dX8_track_103 (tgt := 110) rfl s16 s17 (fun c18 => ?_) (fun c18 => ?_)
          · have c18 : z15 < M14 63 4 := c18
            refine aw_iconst dX8_track_110 ?_
            have hp : ¬ ((M14 63 4 ≤ z15)) := by first | omega | simp_all
            have K1 := K
            rw [am_b_neg hp] at K1
            exact K1
          · have c18 : M14 63 4 ≤ z15 := c18
            refine aw_iconst dX8_track_106 ?_
            refine aw_goto dX8_track_107 (tgt := 111) rfl ?_
            have hp : (M14 63 4 ≤ z15) := by first | omega | simp_all
            have K1 := K
            rw [am_b_pos hp] at K1
            exact K1
        | 3, hj, hx =>
          cases hj
          replace h := h.2.2.2.2.1 (hx.trans (by decide))
          refine aw_aload_n dX8_track_112 rfl (j := 0) rfl ?_
          refine aw_iload_n dX8_track_113 rfl (j := 1) rfl ?_
          refine aw_invv (d' := d + 8) (as := [.inl n]) (rest := []) dX8_track_114 cv_X8_173 (Nat.lt_succ_self _) rfl rfl rfl rfl rfl (Nat.le_of_ble_eq_true rfl) (AC.mono ?_ h)
          intro r M19 h
          obtain ⟨z20, rfl, h⟩ := h
          show AW (d + 9) mX8_track 117 [(0, .inr 62), (1, .inl n), (2, .inl w), (3, .inl z7)] [.inl z20] M19 Q
          exact aw_iret dX8_track_117 rfl h
        | 4, hj, hx =>
          cases hj
          replace h := h.2.2.2.2.2.1 (hx.trans (by decide))
          refine aw_aload_n dX8_track_118 rfl (j := 0) rfl ?_
          refine aw_iload_n dX8_track_119 rfl (j := 1) rfl ?_
          refine aw_invv (d' := d + 8) (as := [.inl n]) (rest := []) dX8_track_120 cv_X8_193 (Nat.lt_succ_self _) rfl rfl rfl rfl rfl (Nat.le_of_ble_eq_true rfl) (AC.mono ?_ h)
          intro r M21 h
          obtain ⟨z22, rfl, h⟩ := h
          show AW (d + 9) mX8_track 123 [(0, .inr 62), (1, .inl n), (2, .inl w), (3, .inl z7)] [.inl z22] M21 Q
          exact aw_iret dX8_track_123 rfl h
        | 5, hj, hx =>
          cases hj
          replace h := h.2.2.2.2.2.2.1 (hx.trans (by decide))
          refine aw_aload_n dX8_track_124 rfl (j := 0) rfl ?_
          refine aw_iload_n dX8_track_125 rfl (j := 1) rfl ?_
          refine aw_invv (d' := d + 8) (as := [.inl n]) (rest := []) dX8_track_126 cv_X8_179 (Nat.lt_succ_self _) rfl rfl rfl rfl rfl (Nat.le_of_ble_eq_true rfl) (AC.mono ?_ h)
          intro r M23 h
          obtain ⟨z24, rfl, h⟩ := h
          show AW (d + 9) mX8_track 129 [(0, .inr 62), (1, .inl n), (2, .inl w), (3, .inl z7)] [.inl z24] M23 Q
          exact aw_iret dX8_track_129 rfl h
        | 6, hj, hx =>
          cases hj
          replace h := h.2.2.2.2.2.2.2 (hx.trans (by decide))
          refine aw_aload_n dX8_track_130 rfl (j := 0) rfl ?_
          refine aw_iload_n dX8_track_131 rfl (j := 1) rfl ?_
          refine aw_invv (d' := d + 8) (as := [.inl n]) (rest := []) dX8_track_132 cv_X8_196 (Nat.lt_succ_self _) rfl rfl rfl rfl rfl (Nat.le_of_ble_eq_true rfl) (AC.mono ?_ h)
          intro r M25 h
          obtain ⟨z26, rfl, h⟩ := h
          show AW (d + 9) mX8_track 135 [(0, .inr 62), (1, .inl n), (2, .inl w), (3, .inl z7)] [.inl z26] M25 Q
          exact aw_iret dX8_track_135 rfl h
        | n + 7, hj, hx => exact absurd hj (by simp)
    · replace h := h.2 c5
      refine aw_ldc (z := (-1000000)) dX8_track_33 lc_X8_182 ?_
      exact aw_iret dX8_track_35 rfl h
theorem sg_X8_pitchIn {d : Nat} {M : am_M} {Q : Option Int → am_M → Prop} {n f : Int} (h : (am_r f) ∧
 (am_r (M 63 0)) ∧
 ((M 63 0 ≤ f →
 (((-9) ≠ (-9) → (am_ptok (M 63) (M 71) f (-9)))) ∧
 ∀ (v6 : Int), ((-9) ≠ (-9) → v6 = am_pt (M 63) (M 71) f (-9)) →
 ((-9) = (-9) → v6 = (-9)) →
 Q (some v6) M) ∧
 (f < M 63 0 →
 AC (d + 2) mX8_peakOf [.inr 62, .inl n, .inl f] M (fun r M9 => ∃ z10, r = some z10 ∧
 (((am_r z10) ∧ (z10 ≠ (-9) → (am_ptok (M9 63) (M9 71) f z10)))) ∧
 ∀ (v14 : Int), (z10 ≠ (-9) → v14 = am_pt (M9 63) (M9 71) f z10) →
 (z10 = (-9) → v14 = (-9)) →
 Q (some v14) M9)))) : AC (d + 3) mX8_pitchIn [.inr 62, .inl n, .inl f] M Q := by
  refine aw_body (by decide) (Nat.le_of_ble_eq_true rfl) rfl ?_
  refine aw_iload_n dX8_pitchIn_0 rfl (j := 2) rfl ?_
  refine aw_aload_n dX8_pitchIn_1 rfl (j := 0) rfl ?_
  refine aw_getr dX8_pitchIn_2 fl_X8_7 rfl rfl ?_
  refine aw_iconst dX8_pitchIn_5 ?_
  refine aw_iaload dX8_pitchIn_6 rfl (by decide) ?_
  obtain ⟨s1, h⟩ := h
  obtain ⟨s2, h⟩ := h
  refine aw_icmp_ge dX8_pitchIn_7 (tgt := 19) rfl s1 s2 (fun c3 => ?_) (fun c3 => ?_)
  · replace h := h.1 c3
    refine aw_bipush dX8_pitchIn_19 (by decide) ?_
    refine aw_istore_n (L' := [(0, .inr 62), (1, .inl n), (2, .inl f), (3, .inl (-9))]) dX8_pitchIn_21 rfl (Nat.le_of_ble_eq_true rfl) rfl ?_
    refine aw_iload_n dX8_pitchIn_22 rfl (j := 3) rfl ?_
    refine aw_bipush dX8_pitchIn_23 (by decide) ?_
    obtain ⟨g, h⟩ := h
    have K : ∀ (v6 : Int), ((-9) ≠ (-9) → v6 = am_pt (M 63) (M 71) f (-9)) → ((-9) = (-9) → v6 = (-9)) → AW (d + 3) mX8_pitchIn 39 [(0, .inr 62), (1, .inl n), (2, .inl f), (3, .inl (-9))] [.inl v6] M Q := by
      intro v6 q7 q8
      replace h := h v6 q7 q8
      exact aw_iret dX8_pitchIn_39 rfl h
    clear h
    refine aw_icmp_ne dX8_pitchIn_25 (tgt := 33) rfl (by decide) (by decide) (fun c4 => ?_) (fun c4 => ?_)
    · have c4 : (-9) ≠ (-9) := c4
      replace g := g c4
      refine aw_aload_n dX8_pitchIn_33 rfl (j := 0) rfl ?_
      refine aw_iload_n dX8_pitchIn_34 rfl (j := 2) rfl ?_
      refine aw_iload_n dX8_pitchIn_35 rfl (j := 3) rfl ?_
      have s5 := g
      refine aw_invv (d' := d + 2) (as := [.inl f, .inl (-9)]) (rest := []) dX8_pitchIn_36 cv_X8_121 (Nat.lt_succ_self _) rfl rfl rfl rfl rfl (Nat.le_of_ble_eq_true rfl) (fc_pitchOf s5 ?_)
      show AW (d + 3) mX8_pitchIn 39 [(0, .inr 62), (1, .inl n), (2, .inl f), (3, .inl (-9))] [.inl (am_pt (M 63) (M 71) f (-9))] M Q
      exact K (am_pt (M 63) (M 71) f (-9)) (fun _ => rfl) (fun q0 => by first | omega | exact absurd c4 q0 | exact absurd q0 c4)
    · have c4 : (-9) = (-9) := c4
      refine aw_bipush dX8_pitchIn_28 (by decide) ?_
      refine aw_goto dX8_pitchIn_30 (tgt := 39) rfl ?_
      exact K (-9) (fun q0 => by first | omega | exact absurd c4 q0 | exact absurd q0 c4) (fun _ => rfl)
  · replace h := h.2 c3
    refine aw_aload_n dX8_pitchIn_10 rfl (j := 0) rfl ?_
    refine aw_iload_n dX8_pitchIn_11 rfl (j := 1) rfl ?_
    refine aw_iload_n dX8_pitchIn_12 rfl (j := 2) rfl ?_
    refine aw_invv (d' := d + 2) (as := [.inl n, .inl f]) (rest := []) dX8_pitchIn_13 cv_X8_155 (Nat.lt_succ_self _) rfl rfl rfl rfl rfl (Nat.le_of_ble_eq_true rfl) (AC.mono ?_ h)
    intro r M9 h
    obtain ⟨z10, rfl, h⟩ := h
    show AW (d + 3) mX8_pitchIn 16 [(0, .inr 62), (1, .inl n), (2, .inl f)] [.inl z10] M9 Q
    refine aw_goto dX8_pitchIn_16 (tgt := 21) rfl ?_
    refine aw_istore_n (L' := [(0, .inr 62), (1, .inl n), (2, .inl f), (3, .inl z10)]) dX8_pitchIn_21 rfl (Nat.le_of_ble_eq_true rfl) rfl ?_
    refine aw_iload_n dX8_pitchIn_22 rfl (j := 3) rfl ?_
    refine aw_bipush dX8_pitchIn_23 (by decide) ?_
    obtain ⟨g, h⟩ := h
    have K : ∀ (v14 : Int), (z10 ≠ (-9) → v14 = am_pt (M9 63) (M9 71) f z10) → (z10 = (-9) → v14 = (-9)) → AW (d + 3) mX8_pitchIn 39 [(0, .inr 62), (1, .inl n), (2, .inl f), (3, .inl z10)] [.inl v14] M9 Q := by
      intro v14 q15 q16
      replace h := h v14 q15 q16
      exact aw_iret dX8_pitchIn_39 rfl h
    clear h
    obtain ⟨s11, g⟩ := g
    refine aw_icmp_ne dX8_pitchIn_25 (tgt := 33) rfl s11 (by decide) (fun c12 => ?_) (fun c12 => ?_)
    · have c12 : z10 ≠ (-9) := c12
      replace g := g c12
      refine aw_aload_n dX8_pitchIn_33 rfl (j := 0) rfl ?_
      refine aw_iload_n dX8_pitchIn_34 rfl (j := 2) rfl ?_
      refine aw_iload_n dX8_pitchIn_35 rfl (j := 3) rfl ?_
      have s13 := g
      refine aw_invv (d' := d + 2) (as := [.inl f, .inl z10]) (rest := []) dX8_pitchIn_36 cv_X8_121 (Nat.lt_succ_self _) rfl rfl rfl rfl rfl (Nat.le_of_ble_eq_true rfl) (fc_pitchOf s13 ?_)
      show AW (d + 3) mX8_pitchIn 39 [(0, .inr 62), (1, .inl n), (2, .inl f), (3, .inl z10)] [.inl (am_pt (M9 63) (M9 71) f z10)] M9 Q
      exact K (am_pt (M9 63) (M9 71) f z10) (fun _ => rfl) (fun q0 => by first | omega | exact absurd c12 q0 | exact absurd q0 c12)
    · have c12 : z10 = (-9) := c12
      refine aw_bipush dX8_pitchIn_28 (by decide) ?_
      refine aw_goto dX8_pitchIn_30 (tgt := 39) rfl ?_
      exact K (-9) (fun q0 => by first | omega | exact absurd c12 q0 | exact absurd q0 c12) (fun _ => rfl)
theorem sg_X8_pitch {d : Nat} {M : am_M} {Q : Option Int → am_M → Prop} {n f : Int} (h : AC (d + 8) mX8_lays [.inr 62] (am_up M 62 0 0) (fun r M1 => r = none ∧
 (am_r n ∧ am_r 0 ∧ am_r ((M1 62 19) - 1)) ∧
 ((¬ (0 ≤ n ∧ n ≤ (M1 62 19) - 1) →
 Q (some (-1000000)) M1) ∧
 (0 ≤ n ∧ n ≤ (M1 62 19) - 1 →
 (am_r f ∧ am_r 0 ∧ am_r ((M1 63 0) - 1)) ∧
 ((¬ (0 ≤ f ∧ f ≤ (M1 63 0) - 1) →
 Q (some (-1000000)) M1) ∧
 (0 ≤ f ∧ f ≤ (M1 63 0) - 1 →
 AC (d + 8) mX8_pitchIn [.inr 62, .inl n, .inl f] M1 (fun r M6 => ∃ z7, r = some z7 ∧
 Q (some z7) M6))))))) : AC (d + 9) mX8_pitch [.inr 62, .inl n, .inl f] M Q := by
  refine aw_body (by decide) (Nat.le_of_ble_eq_true rfl) rfl ?_
  refine aw_aload_n dX8_pitch_0 rfl (j := 0) rfl ?_
  refine aw_iconst dX8_pitch_1 ?_
  refine aw_putf dX8_pitch_2 pf_X8_52 rfl rfl rfl ?_
  refine aw_aload_n dX8_pitch_5 rfl (j := 0) rfl ?_
  refine aw_invv (d' := d + 8) (as := []) (rest := []) dX8_pitch_6 cv_X8_183 (Nat.lt_succ_self _) rfl rfl rfl rfl rfl (Nat.le_of_ble_eq_true rfl) (AC.mono ?_ h)
  intro r M1 h
  obtain ⟨rfl, h⟩ := h
  show AW (d + 9) mX8_pitch 9 [(0, .inr 62), (1, .inl n), (2, .inl f)] [] M1 Q
  refine aw_iload_n dX8_pitch_9 rfl (j := 1) rfl ?_
  refine aw_iconst dX8_pitch_10 ?_
  refine aw_aload_n dX8_pitch_11 rfl (j := 0) rfl ?_
  refine aw_getf dX8_pitch_12 fl_X8_145 rfl rfl rfl ?_
  refine aw_iconst dX8_pitch_15 ?_
  refine aw_isub dX8_pitch_16 ?_
  obtain ⟨s2, h⟩ := h
  refine aw_invs (d' := d + 8) (as := [.inl n, .inl 0, .inl ((M1 62 19) - 1)]) (rest := []) dX8_pitch_17 cs_X8_56 (Nat.lt_succ_self _) rfl rfl (Nat.le_of_ble_eq_true rfl) (fc_in s2 ?_)
  show AW (d + 9) mX8_pitch 20 [(0, .inr 62), (1, .inl n), (2, .inl f)] [.inl (am_b (0 ≤ n ∧ n ≤ (M1 62 19) - 1))] M1 Q
  refine aw_ifb_eq dX8_pitch_20 (tgt := 48) rfl (fun c3 => ?_) (fun c3 => ?_)
  · replace h := h.1 c3
    refine aw_ldc (z := (-1000000)) dX8_pitch_48 lc_X8_182 ?_
    exact aw_iret dX8_pitch_50 rfl h
  · replace h := h.2 c3
    refine aw_iload_n dX8_pitch_23 rfl (j := 2) rfl ?_
    refine aw_iconst dX8_pitch_24 ?_
    refine aw_aload_n dX8_pitch_25 rfl (j := 0) rfl ?_
    refine aw_getr dX8_pitch_26 fl_X8_7 rfl rfl ?_
    refine aw_iconst dX8_pitch_29 ?_
    refine aw_iaload dX8_pitch_30 rfl (by decide) ?_
    refine aw_iconst dX8_pitch_31 ?_
    refine aw_isub dX8_pitch_32 ?_
    obtain ⟨s4, h⟩ := h
    refine aw_invs (d' := d + 8) (as := [.inl f, .inl 0, .inl ((M1 63 0) - 1)]) (rest := []) dX8_pitch_33 cs_X8_56 (Nat.lt_succ_self _) rfl rfl (Nat.le_of_ble_eq_true rfl) (fc_in s4 ?_)
    show AW (d + 9) mX8_pitch 36 [(0, .inr 62), (1, .inl n), (2, .inl f)] [.inl (am_b (0 ≤ f ∧ f ≤ (M1 63 0) - 1))] M1 Q
    refine aw_ifb_eq dX8_pitch_36 (tgt := 48) rfl (fun c5 => ?_) (fun c5 => ?_)
    · replace h := h.1 c5
      refine aw_ldc (z := (-1000000)) dX8_pitch_48 lc_X8_182 ?_
      exact aw_iret dX8_pitch_50 rfl h
    · replace h := h.2 c5
      refine aw_aload_n dX8_pitch_39 rfl (j := 0) rfl ?_
      refine aw_iload_n dX8_pitch_40 rfl (j := 1) rfl ?_
      refine aw_iload_n dX8_pitch_41 rfl (j := 2) rfl ?_
      refine aw_invv (d' := d + 8) (as := [.inl n, .inl f]) (rest := []) dX8_pitch_42 cv_X8_199 (Nat.lt_succ_self _) rfl rfl rfl rfl rfl (Nat.le_of_ble_eq_true rfl) (AC.mono ?_ h)
      intro r M6 h
      obtain ⟨z7, rfl, h⟩ := h
      show AW (d + 9) mX8_pitch 45 [(0, .inr 62), (1, .inl n), (2, .inl f)] [.inl z7] M6 Q
      refine aw_goto dX8_pitch_45 (tgt := 50) rfl ?_
      exact aw_iret dX8_pitch_50 rfl h
theorem sg_X8_best {d : Nat} {M : am_M} {Q : Option Int → am_M → Prop} {w : Int} (h : (am_r w ∧ am_r 0 ∧ am_r 1) ∧
 ((0 ≤ w ∧ w ≤ 1 →
 AW (d + 8) mX8_best 25 [(0, .inr 62), (1, .inl w), (2, .inl 0), (3, .inl 1000), (4, .inl 0)] [] (am_up M 62 0 0) Q) ∧
 (¬ (0 ≤ w ∧ w ≤ 1) →
 Q (some (-1)) (am_up M 62 0 0)))) : AC (d + 8) mX8_best [.inr 62, .inl w] M Q := by
  refine aw_body (by decide) (Nat.le_of_ble_eq_true rfl) rfl ?_
  refine aw_aload_n dX8_best_0 rfl (j := 0) rfl ?_
  refine aw_iconst dX8_best_1 ?_
  refine aw_putf dX8_best_2 pf_X8_52 rfl rfl rfl ?_
  refine aw_iload_n dX8_best_5 rfl (j := 1) rfl ?_
  refine aw_iconst dX8_best_6 ?_
  refine aw_iconst dX8_best_7 ?_
  obtain ⟨s1, h⟩ := h
  refine aw_invs (d' := d + 7) (as := [.inl w, .inl 0, .inl 1]) (rest := []) dX8_best_8 cs_X8_56 (Nat.lt_succ_self _) rfl rfl (Nat.le_of_ble_eq_true rfl) (fc_in s1 ?_)
  show AW (d + 8) mX8_best 11 [(0, .inr 62), (1, .inl w)] [.inl (am_b (0 ≤ w ∧ w ≤ 1))] (am_up M 62 0 0) Q
  refine aw_ifb_ne dX8_best_11 (tgt := 16) rfl (fun c2 => ?_) (fun c2 => ?_)
  · replace h := h.1 c2
    refine aw_iconst dX8_best_16 ?_
    refine aw_istore_n (L' := [(0, .inr 62), (1, .inl w), (2, .inl 0)]) dX8_best_17 rfl (Nat.le_of_ble_eq_true rfl) rfl ?_
    refine aw_sipush dX8_best_18 (by decide) ?_
    refine aw_istore_n (L' := [(0, .inr 62), (1, .inl w), (2, .inl 0), (3, .inl 1000)]) dX8_best_21 rfl (Nat.le_of_ble_eq_true rfl) rfl ?_
    refine aw_iconst dX8_best_22 ?_
    refine aw_istore (L' := [(0, .inr 62), (1, .inl w), (2, .inl 0), (3, .inl 1000), (4, .inl 0)]) dX8_best_23 (Nat.le_of_ble_eq_true rfl) rfl ?_
    exact h
  · replace h := h.2 c2
    refine aw_iconst dX8_best_14 ?_
    exact aw_iret dX8_best_15 rfl h
theorem sg_X8_best_25 {d : Nat} {M : am_M} {Q : Option Int → am_M → Prop} {w fd le re : Int} (h : (am_r re) ∧
 ((20 < re →
 ((am_r w)) ∧
 ∀ (v5 : Int), (w ≠ 0 → v5 = le) →
 (w = 0 → v5 = fd) →
 Q (some v5) M) ∧
 (re ≤ 20 →
 AC (d + 7) mX8_laysTracks [.inr 62, .inl re] M (fun r M8 => r = none ∧
 (((am_r (M8 62 19)) ∧ (am_r le))) ∧
 ∀ (v12 : Int), (le ≤ M8 62 19 → v12 = fd) →
 (M8 62 19 < le → v12 = re) →
 (((am_r (M8 62 19)) ∧ (am_r le))) ∧
 ∀ (v16 : Int), (le ≤ M8 62 19 → v16 = le) →
 (M8 62 19 < le → v16 = M8 62 19) →
 AW (d + 8) mX8_best 25 [(0, .inr 62), (1, .inl w), (2, .inl v12), (3, .inl v16), (4, .inl (re + 1))] [] M8 Q)))) : AW (d + 8) mX8_best 25 [(0, .inr 62), (1, .inl w), (2, .inl fd), (3, .inl le), (4, .inl re)] [] M Q := by
  refine aw_iload dX8_best_25 (j := 4) rfl ?_
  refine aw_bipush dX8_best_27 (by decide) ?_
  obtain ⟨s1, h⟩ := h
  refine aw_icmp_gt dX8_best_29 (tgt := 76) rfl s1 (by decide) (fun c2 => ?_) (fun c2 => ?_)
  · replace h := h.1 c2
    refine aw_iload_n dX8_best_76 rfl (j := 1) rfl ?_
    obtain ⟨g, h⟩ := h
    have K : ∀ (v5 : Int), (w ≠ 0 → v5 = le) → (w = 0 → v5 = fd) → AW (d + 8) mX8_best 85 [(0, .inr 62), (1, .inl w), (2, .inl fd), (3, .inl le), (4, .inl re)] [.inl v5] M Q := by
      intro v5 q6 q7
      replace h := h v5 q6 q7
      exact aw_iret dX8_best_85 rfl h
    clear h
    have s3 := g
    refine aw_if_ne dX8_best_77 (tgt := 84) rfl s3 (fun c4 => ?_) (fun c4 => ?_)
    · have c4 : w ≠ 0 := c4
      refine aw_iload_n dX8_best_84 rfl (j := 3) rfl ?_
      exact K le (fun _ => rfl) (fun q0 => by first | omega | exact absurd c4 q0 | exact absurd q0 c4)
    · have c4 : w = 0 := c4
      refine aw_iload_n dX8_best_80 rfl (j := 2) rfl ?_
      refine aw_goto dX8_best_81 (tgt := 85) rfl ?_
      exact K fd (fun q0 => by first | omega | exact absurd c4 q0 | exact absurd q0 c4) (fun _ => rfl)
  · replace h := h.2 c2
    refine aw_aload_n dX8_best_32 rfl (j := 0) rfl ?_
    refine aw_iload dX8_best_33 (j := 4) rfl ?_
    refine aw_invv (d' := d + 7) (as := [.inl re]) (rest := []) dX8_best_35 cv_X8_151 (Nat.lt_succ_self _) rfl rfl rfl rfl rfl (Nat.le_of_ble_eq_true rfl) (AC.mono ?_ h)
    intro r M8 h
    obtain ⟨rfl, h⟩ := h
    show AW (d + 8) mX8_best 38 [(0, .inr 62), (1, .inl w), (2, .inl fd), (3, .inl le), (4, .inl re)] [] M8 Q
    refine aw_aload_n dX8_best_38 rfl (j := 0) rfl ?_
    refine aw_getf dX8_best_39 fl_X8_145 rfl rfl rfl ?_
    refine aw_iload_n dX8_best_42 rfl (j := 3) rfl ?_
    obtain ⟨g, h⟩ := h
    have K : ∀ (v12 : Int), (le ≤ M8 62 19 → v12 = fd) → (M8 62 19 < le → v12 = re) → AW (d + 8) mX8_best 52 [(0, .inr 62), (1, .inl w), (2, .inl fd), (3, .inl le), (4, .inl re)] [.inl v12] M8 Q := by
      intro v12 q19 q20
      replace h := h v12 q19 q20
      refine aw_istore_n (L' := [(0, .inr 62), (1, .inl w), (2, .inl v12), (3, .inl le), (4, .inl re)]) dX8_best_52 rfl (Nat.le_of_ble_eq_true rfl) rfl ?_
      refine aw_aload_n dX8_best_53 rfl (j := 0) rfl ?_
      refine aw_getf dX8_best_54 fl_X8_145 rfl rfl rfl ?_
      refine aw_iload_n dX8_best_57 rfl (j := 3) rfl ?_
      obtain ⟨g, h⟩ := h
      have K : ∀ (v16 : Int), (le ≤ M8 62 19 → v16 = le) → (M8 62 19 < le → v16 = M8 62 19) → AW (d + 8) mX8_best 69 [(0, .inr 62), (1, .inl w), (2, .inl v12), (3, .inl le), (4, .inl re)] [.inl v16] M8 Q := by
        intro v16 q17 q18
        replace h := h v16 q17 q18
        refine aw_istore_n (L' := [(0, .inr 62), (1, .inl w), (2, .inl v12), (3, .inl v16), (4, .inl re)]) dX8_best_69 rfl (Nat.le_of_ble_eq_true rfl) rfl ?_
        refine aw_iinc (L' := [(0, .inr 62), (1, .inl w), (2, .inl v12), (3, .inl v16), (4, .inl (re + 1))]) dX8_best_70 (j := 4) rfl (Nat.le_of_ble_eq_true rfl) rfl ?_
        refine aw_goto dX8_best_73 (tgt := 25) rfl ?_
        exact h
      clear h
      obtain ⟨s13, g⟩ := g
      have s14 := g
      refine aw_icmp_ge dX8_best_58 (tgt := 68) rfl s13 s14 (fun c15 => ?_) (fun c15 => ?_)
      · have c15 : le ≤ M8 62 19 := c15
        refine aw_iload_n dX8_best_68 rfl (j := 3) rfl ?_
        exact K le (fun _ => rfl) (fun q0 => by first | omega | exact absurd c15 q0 | exact absurd q0 c15)
      · have c15 : M8 62 19 < le := c15
        refine aw_aload_n dX8_best_61 rfl (j := 0) rfl ?_
        refine aw_getf dX8_best_62 fl_X8_145 rfl rfl rfl ?_
        refine aw_goto dX8_best_65 (tgt := 69) rfl ?_
        exact K (M8 62 19) (fun q0 => by first | omega | exact absurd c15 q0 | exact absurd q0 c15) (fun _ => rfl)
    clear h
    obtain ⟨s9, g⟩ := g
    have s10 := g
    refine aw_icmp_ge dX8_best_43 (tgt := 51) rfl s9 s10 (fun c11 => ?_) (fun c11 => ?_)
    · have c11 : le ≤ M8 62 19 := c11
      refine aw_iload_n dX8_best_51 rfl (j := 2) rfl ?_
      exact K fd (fun _ => rfl) (fun q0 => by first | omega | exact absurd c11 q0 | exact absurd q0 c11)
    · have c11 : M8 62 19 < le := c11
      refine aw_iload dX8_best_46 (j := 4) rfl ?_
      refine aw_goto dX8_best_48 (tgt := 52) rfl ?_
      exact K re (fun q0 => by first | omega | exact absurd c11 q0 | exact absurd q0 c11) (fun _ => rfl)
theorem sg_X8_sees {d : Nat} {M : am_M} {Q : Option Int → am_M → Prop} {f p : Int} (h : (am_r f ∧ am_r 0 ∧ am_r 7) ∧
 ((¬ (0 ≤ f ∧ f ≤ 7) →
 Q (some (-1)) (am_up M 62 0 0)) ∧
 (0 ≤ f ∧ f ≤ 7 →
 (am_r p ∧ am_r (-1) ∧ am_r 45) ∧
 (((-1) ≤ p ∧ p ≤ 45 →
 (am_r (M 62 8)) ∧
 ((M 62 8 ≠ 6 →
 (0 ≤ 2 * (M 62 8) ∧ 2 * (M 62 8) < 12) ∧
 (0 ≤ (2 * (M 62 8)) + 1 ∧ (2 * (M 62 8)) + 1 < 12) ∧
 Q (some ((M 62 8) + 1)) (am_up (am_up (am_up (am_up M 62 0 0) 68 (2 * (M 62 8)) f) 68 ((2 * (M 62 8)) + 1) p) 62 8 ((M 62 8) + 1))) ∧
 (M 62 8 = 6 →
 Q (some (-3)) (am_up M 62 0 0)))) ∧
 (¬ ((-1) ≤ p ∧ p ≤ 45) →
 (am_r p) ∧
 ((p = (-9) →
 (am_r (M 62 8)) ∧
 ((M 62 8 ≠ 6 →
 (0 ≤ 2 * (M 62 8) ∧ 2 * (M 62 8) < 12) ∧
 (0 ≤ (2 * (M 62 8)) + 1 ∧ (2 * (M 62 8)) + 1 < 12) ∧
 Q (some ((M 62 8) + 1)) (am_up (am_up (am_up (am_up M 62 0 0) 68 (2 * (M 62 8)) f) 68 ((2 * (M 62 8)) + 1) p) 62 8 ((M 62 8) + 1))) ∧
 (M 62 8 = 6 →
 Q (some (-3)) (am_up M 62 0 0)))) ∧
 (p ≠ (-9) →
 Q (some (-1)) (am_up M 62 0 0)))))))) : AC (d + 1) mX8_sees [.inr 62, .inl f, .inl p] M Q := by
  refine aw_body (by decide) (Nat.le_of_ble_eq_true rfl) rfl ?_
  refine aw_aload_n dX8_sees_0 rfl (j := 0) rfl ?_
  refine aw_iconst dX8_sees_1 ?_
  refine aw_putf dX8_sees_2 pf_X8_52 rfl rfl rfl ?_
  refine aw_iload_n dX8_sees_5 rfl (j := 1) rfl ?_
  refine aw_iconst dX8_sees_6 ?_
  refine aw_bipush dX8_sees_7 (by decide) ?_
  obtain ⟨s1, h⟩ := h
  refine aw_invs (d' := d) (as := [.inl f, .inl 0, .inl 7]) (rest := []) dX8_sees_9 cs_X8_56 (Nat.lt_succ_self _) rfl rfl (Nat.le_of_ble_eq_true rfl) (fc_in s1 ?_)
  show AW (d + 1) mX8_sees 12 [(0, .inr 62), (1, .inl f), (2, .inl p)] [.inl (am_b (0 ≤ f ∧ f ≤ 7))] (am_up M 62 0 0) Q
  refine aw_ifb_eq dX8_sees_12 (tgt := 31) rfl (fun c2 => ?_) (fun c2 => ?_)
  · replace h := h.1 c2
    refine aw_iconst dX8_sees_31 ?_
    exact aw_iret dX8_sees_32 rfl h
  · replace h := h.2 c2
    refine aw_iload_n dX8_sees_15 rfl (j := 2) rfl ?_
    refine aw_iconst dX8_sees_16 ?_
    refine aw_bipush dX8_sees_17 (by decide) ?_
    obtain ⟨s3, h⟩ := h
    refine aw_invs (d' := d) (as := [.inl p, .inl (-1), .inl 45]) (rest := []) dX8_sees_19 cs_X8_56 (Nat.lt_succ_self _) rfl rfl (Nat.le_of_ble_eq_true rfl) (fc_in s3 ?_)
    show AW (d + 1) mX8_sees 22 [(0, .inr 62), (1, .inl f), (2, .inl p)] [.inl (am_b ((-1) ≤ p ∧ p ≤ 45))] (am_up M 62 0 0) Q
    refine aw_ifb_ne dX8_sees_22 (tgt := 33) rfl (fun c4 => ?_) (fun c4 => ?_)
    · replace h := h.1 c4
      refine aw_aload_n dX8_sees_33 rfl (j := 0) rfl ?_
      refine aw_getf dX8_sees_34 fl_X8_202 rfl rfl rfl ?_
      refine aw_bipush dX8_sees_37 (by decide) ?_
      obtain ⟨s5, h⟩ := h
      refine aw_icmp_ne dX8_sees_39 (tgt := 45) rfl s5 (by decide) (fun c6 => ?_) (fun c6 => ?_)
      · replace h := h.1 c6
        refine aw_aload_n dX8_sees_45 rfl (j := 0) rfl ?_
        refine aw_getr dX8_sees_46 fl_X8_26 rfl rfl ?_
        refine aw_iconst dX8_sees_49 ?_
        refine aw_aload_n dX8_sees_50 rfl (j := 0) rfl ?_
        refine aw_getf dX8_sees_51 fl_X8_202 rfl rfl rfl ?_
        refine aw_imul dX8_sees_54 ?_
        refine aw_iload_n dX8_sees_55 rfl (j := 1) rfl ?_
        obtain ⟨s7, h⟩ := h
        refine aw_iastore dX8_sees_56 rfl s7 ?_
        refine aw_aload_n dX8_sees_57 rfl (j := 0) rfl ?_
        refine aw_getr dX8_sees_58 fl_X8_26 rfl rfl ?_
        refine aw_iconst dX8_sees_61 ?_
        refine aw_aload_n dX8_sees_62 rfl (j := 0) rfl ?_
        refine aw_getf dX8_sees_63 fl_X8_202 rfl rfl rfl ?_
        refine aw_imul dX8_sees_66 ?_
        refine aw_iconst dX8_sees_67 ?_
        refine aw_iadd dX8_sees_68 ?_
        refine aw_iload_n dX8_sees_69 rfl (j := 2) rfl ?_
        obtain ⟨s8, h⟩ := h
        refine aw_iastore dX8_sees_70 rfl s8 ?_
        refine aw_aload_n dX8_sees_71 rfl (j := 0) rfl ?_
        refine aw_dup dX8_sees_72 ?_
        refine aw_getf dX8_sees_73 fl_X8_202 rfl rfl rfl ?_
        refine aw_iconst dX8_sees_76 ?_
        refine aw_iadd dX8_sees_77 ?_
        refine aw_putf dX8_sees_78 pf_X8_202 rfl rfl rfl ?_
        refine aw_aload_n dX8_sees_81 rfl (j := 0) rfl ?_
        refine aw_getf dX8_sees_82 fl_X8_202 rfl rfl rfl ?_
        exact aw_iret dX8_sees_85 rfl h
      · replace h := h.2 c6
        refine aw_bipush dX8_sees_42 (by decide) ?_
        exact aw_iret dX8_sees_44 rfl h
    · replace h := h.2 c4
      refine aw_iload_n dX8_sees_25 rfl (j := 2) rfl ?_
      refine aw_bipush dX8_sees_26 (by decide) ?_
      obtain ⟨s9, h⟩ := h
      refine aw_icmp_eq dX8_sees_28 (tgt := 33) rfl s9 (by decide) (fun c10 => ?_) (fun c10 => ?_)
      · replace h := h.1 c10
        refine aw_aload_n dX8_sees_33 rfl (j := 0) rfl ?_
        refine aw_getf dX8_sees_34 fl_X8_202 rfl rfl rfl ?_
        refine aw_bipush dX8_sees_37 (by decide) ?_
        obtain ⟨s11, h⟩ := h
        refine aw_icmp_ne dX8_sees_39 (tgt := 45) rfl s11 (by decide) (fun c12 => ?_) (fun c12 => ?_)
        · replace h := h.1 c12
          refine aw_aload_n dX8_sees_45 rfl (j := 0) rfl ?_
          refine aw_getr dX8_sees_46 fl_X8_26 rfl rfl ?_
          refine aw_iconst dX8_sees_49 ?_
          refine aw_aload_n dX8_sees_50 rfl (j := 0) rfl ?_
          refine aw_getf dX8_sees_51 fl_X8_202 rfl rfl rfl ?_
          refine aw_imul dX8_sees_54 ?_
          refine aw_iload_n dX8_sees_55 rfl (j := 1) rfl ?_
          obtain ⟨s13, h⟩ := h
          refine aw_iastore dX8_sees_56 rfl s13 ?_
          refine aw_aload_n dX8_sees_57 rfl (j := 0) rfl ?_
          refine aw_getr dX8_sees_58 fl_X8_26 rfl rfl ?_
          refine aw_iconst dX8_sees_61 ?_
          refine aw_aload_n dX8_sees_62 rfl (j := 0) rfl ?_
          refine aw_getf dX8_sees_63 fl_X8_202 rfl rfl rfl ?_
          refine aw_imul dX8_sees_66 ?_
          refine aw_iconst dX8_sees_67 ?_
          refine aw_iadd dX8_sees_68 ?_
          refine aw_iload_n dX8_sees_69 rfl (j := 2) rfl ?_
          obtain ⟨s14, h⟩ := h
          refine aw_iastore dX8_sees_70 rfl s14 ?_
          refine aw_aload_n dX8_sees_71 rfl (j := 0) rfl ?_
          refine aw_dup dX8_sees_72 ?_
          refine aw_getf dX8_sees_73 fl_X8_202 rfl rfl rfl ?_
          refine aw_iconst dX8_sees_76 ?_
          refine aw_iadd dX8_sees_77 ?_
          refine aw_putf dX8_sees_78 pf_X8_202 rfl rfl rfl ?_
          refine aw_aload_n dX8_sees_81 rfl (j := 0) rfl ?_
          refine aw_getf dX8_sees_82 fl_X8_202 rfl rfl rfl ?_
          exact aw_iret dX8_sees_85 rfl h
        · replace h := h.2 c12
          refine aw_bipush dX8_sees_42 (by decide) ?_
          exact aw_iret dX8_sees_44 rfl h
      · replace h := h.2 c10
        refine aw_iconst dX8_sees_31 ?_
        exact aw_iret dX8_sees_32 rfl h
theorem sg_X8_forget {d : Nat} {M : am_M} {Q : Option Int → am_M → Prop} (h : Q (some (M 62 8)) (am_up (am_up M 62 0 0) 62 8 0)) : AC (d) mX8_forget [.inr 62] M Q := by
  refine aw_body (by decide) (Nat.le_of_ble_eq_true rfl) rfl ?_
  refine aw_aload_n dX8_forget_0 rfl (j := 0) rfl ?_
  refine aw_iconst dX8_forget_1 ?_
  refine aw_putf dX8_forget_2 pf_X8_52 rfl rfl rfl ?_
  refine aw_aload_n dX8_forget_5 rfl (j := 0) rfl ?_
  refine aw_getf dX8_forget_6 fl_X8_202 rfl rfl rfl ?_
  refine aw_istore_n (L' := [(0, .inr 62), (1, .inl (M 62 8))]) dX8_forget_9 rfl (Nat.le_of_ble_eq_true rfl) rfl ?_
  refine aw_aload_n dX8_forget_10 rfl (j := 0) rfl ?_
  refine aw_iconst dX8_forget_11 ?_
  refine aw_putf dX8_forget_12 pf_X8_202 rfl rfl rfl ?_
  refine aw_iload_n dX8_forget_15 rfl (j := 1) rfl ?_
  exact aw_iret dX8_forget_16 rfl h
theorem sg_X8_isSo {d : Nat} {M : am_M} {Q : Option Int → am_M → Prop} {n : Int} (h : AW (d + 4) mX8_isSo 4 [(0, .inr 62), (1, .inl n), (2, .inl 1), (3, .inl 0)] [] M Q) : AC (d + 4) mX8_isSo [.inr 62, .inl n] M Q := by
  refine aw_body (by decide) (Nat.le_of_ble_eq_true rfl) rfl ?_
  refine aw_iconst dX8_isSo_0 ?_
  refine aw_istore_n (L' := [(0, .inr 62), (1, .inl n), (2, .inl 1)]) dX8_isSo_1 rfl (Nat.le_of_ble_eq_true rfl) rfl ?_
  refine aw_iconst dX8_isSo_2 ?_
  refine aw_istore_n (L' := [(0, .inr 62), (1, .inl n), (2, .inl 1), (3, .inl 0)]) dX8_isSo_3 rfl (Nat.le_of_ble_eq_true rfl) rfl ?_
  exact h
theorem sg_X8_isSo_4 {d : Nat} {M : am_M} {Q : Option Int → am_M → Prop} {n is k : Int} (h : (am_r k) ∧
 (am_r (M 62 8)) ∧
 ((M 62 8 ≤ k →
 (is = 0 ∨ is = 1) ∧
 Q (some is) M) ∧
 (k < M 62 8 →
 (am_r is) ∧
 ((is = 0 →
 AW (d + 4) mX8_isSo 4 [(0, .inr 62), (1, .inl n), (2, .inl 0), (3, .inl (k + 1))] [] M Q) ∧
 (is ≠ 0 →
 (0 ≤ 2 * k ∧ 2 * k < 12) ∧
 AC (d + 3) mX8_pitchIn [.inr 62, .inl n, .inl (M 68 (2 * k))] M (fun r M8 => ∃ z9, r = some z9 ∧
 (0 ≤ (2 * k) + 1 ∧ (2 * k) + 1 < 12) ∧
 (((am_r z9) ∧ (am_r (M8 68 ((2 * k) + 1))))) ∧
 AW (d + 4) mX8_isSo 4 [(0, .inr 62), (1, .inl n), (2, .inl (am_b ((z9 = M8 68 ((2 * k) + 1))))), (3, .inl (k + 1))] [] M8 Q)))))) : AW (d + 4) mX8_isSo 4 [(0, .inr 62), (1, .inl n), (2, .inl is), (3, .inl k)] [] M Q := by
  refine aw_iload_n dX8_isSo_4 rfl (j := 3) rfl ?_
  refine aw_aload_n dX8_isSo_5 rfl (j := 0) rfl ?_
  refine aw_getf dX8_isSo_6 fl_X8_202 rfl rfl rfl ?_
  obtain ⟨s1, h⟩ := h
  obtain ⟨s2, h⟩ := h
  refine aw_icmp_ge dX8_isSo_9 (tgt := 54) rfl s1 s2 (fun c3 => ?_) (fun c3 => ?_)
  · replace h := h.1 c3
    refine aw_iload_n dX8_isSo_54 rfl (j := 2) rfl ?_
    obtain ⟨s4, h⟩ := h
    exact aw_zret dX8_isSo_55 rfl s4 h
  · replace h := h.2 c3
    refine aw_iload_n dX8_isSo_12 rfl (j := 2) rfl ?_
    obtain ⟨s5, h⟩ := h
    refine aw_if_eq dX8_isSo_13 (tgt := 46) rfl s5 (fun c6 => ?_) (fun c6 => ?_)
    · replace h := h.1 c6
      refine aw_iconst dX8_isSo_46 ?_
      refine aw_istore_n (L' := [(0, .inr 62), (1, .inl n), (2, .inl 0), (3, .inl k)]) dX8_isSo_47 rfl (Nat.le_of_ble_eq_true rfl) rfl ?_
      refine aw_iinc (L' := [(0, .inr 62), (1, .inl n), (2, .inl 0), (3, .inl (k + 1))]) dX8_isSo_48 (j := 3) rfl (Nat.le_of_ble_eq_true rfl) rfl ?_
      refine aw_goto dX8_isSo_51 (tgt := 4) rfl ?_
      exact h
    · replace h := h.2 c6
      refine aw_aload_n dX8_isSo_16 rfl (j := 0) rfl ?_
      refine aw_iload_n dX8_isSo_17 rfl (j := 1) rfl ?_
      refine aw_aload_n dX8_isSo_18 rfl (j := 0) rfl ?_
      refine aw_getr dX8_isSo_19 fl_X8_26 rfl rfl ?_
      refine aw_iconst dX8_isSo_22 ?_
      refine aw_iload_n dX8_isSo_23 rfl (j := 3) rfl ?_
      refine aw_imul dX8_isSo_24 ?_
      obtain ⟨s7, h⟩ := h
      refine aw_iaload dX8_isSo_25 rfl s7 ?_
      refine aw_invv (d' := d + 3) (as := [.inl n, .inl (M 68 (2 * k))]) (rest := []) dX8_isSo_26 cv_X8_199 (Nat.lt_succ_self _) rfl rfl rfl rfl rfl (Nat.le_of_ble_eq_true rfl) (AC.mono ?_ h)
      intro r M8 h
      obtain ⟨z9, rfl, h⟩ := h
      show AW (d + 4) mX8_isSo 29 [(0, .inr 62), (1, .inl n), (2, .inl is), (3, .inl k)] [.inl z9] M8 Q
      refine aw_aload_n dX8_isSo_29 rfl (j := 0) rfl ?_
      refine aw_getr dX8_isSo_30 fl_X8_26 rfl rfl ?_
      refine aw_iconst dX8_isSo_33 ?_
      refine aw_iload_n dX8_isSo_34 rfl (j := 3) rfl ?_
      refine aw_imul dX8_isSo_35 ?_
      refine aw_iconst dX8_isSo_36 ?_
      refine aw_iadd dX8_isSo_37 ?_
      obtain ⟨s10, h⟩ := h
      refine aw_iaload dX8_isSo_38 rfl s10 ?_
      obtain ⟨g, h⟩ := h
      have K : AW (d + 4) mX8_isSo 47 [(0, .inr 62), (1, .inl n), (2, .inl is), (3, .inl k)] [.inl (am_b ((z9 = M8 68 ((2 * k) + 1))))] M8 Q := by
        refine aw_istore_n (L' := [(0, .inr 62), (1, .inl n), (2, .inl (am_b ((z9 = M8 68 ((2 * k) + 1))))), (3, .inl k)]) dX8_isSo_47 rfl (Nat.le_of_ble_eq_true rfl) rfl ?_
        refine aw_iinc (L' := [(0, .inr 62), (1, .inl n), (2, .inl (am_b ((z9 = M8 68 ((2 * k) + 1))))), (3, .inl (k + 1))]) dX8_isSo_48 (j := 3) rfl (Nat.le_of_ble_eq_true rfl) rfl ?_
        refine aw_goto dX8_isSo_51 (tgt := 4) rfl ?_
        exact h
      clear h
      obtain ⟨s11, g⟩ := g
      have s12 := g
      refine aw_icmp_ne dX8_isSo_39 (tgt := 46) rfl s11 s12 (fun c13 => ?_) (fun c13 => ?_)
      · have c13 : z9 ≠ M8 68 ((2 * k) + 1) := c13
        refine aw_iconst dX8_isSo_46 ?_
        have hp : ¬ ((z9 = M8 68 ((2 * k) + 1))) := by first | omega | simp_all
        have K1 := K
        rw [am_b_neg hp] at K1
        exact K1
      · have c13 : z9 = M8 68 ((2 * k) + 1) := c13
        refine aw_iconst dX8_isSo_42 ?_
        refine aw_goto dX8_isSo_43 (tgt := 47) rfl ?_
        have hp : (z9 = M8 68 ((2 * k) + 1)) := by first | omega | simp_all
        have K1 := K
        rw [am_b_pos hp] at K1
        exact K1
theorem sg_X8_which {d : Nat} {M : am_M} {Q : Option Int → am_M → Prop} {w : Int} (h : (am_r w ∧ am_r 0 ∧ am_r 1) ∧
 ((0 ≤ w ∧ w ≤ 1 →
 AC (d + 8) mX8_lays [.inr 62] (am_up M 62 0 0) (fun r M3 => r = none ∧
 AW (d + 9) mX8_which 28 [(0, .inr 62), (1, .inl w), (2, .inl 0), (3, .inl (-9)), (4, .inl 0)] [] M3 Q)) ∧
 (¬ (0 ≤ w ∧ w ≤ 1) →
 Q (some (-1)) (am_up M 62 0 0)))) : AC (d + 9) mX8_which [.inr 62, .inl w] M Q := by
  refine aw_body (by decide) (Nat.le_of_ble_eq_true rfl) rfl ?_
  refine aw_aload_n dX8_which_0 rfl (j := 0) rfl ?_
  refine aw_iconst dX8_which_1 ?_
  refine aw_putf dX8_which_2 pf_X8_52 rfl rfl rfl ?_
  refine aw_iload_n dX8_which_5 rfl (j := 1) rfl ?_
  refine aw_iconst dX8_which_6 ?_
  refine aw_iconst dX8_which_7 ?_
  obtain ⟨s1, h⟩ := h
  refine aw_invs (d' := d + 8) (as := [.inl w, .inl 0, .inl 1]) (rest := []) dX8_which_8 cs_X8_56 (Nat.lt_succ_self _) rfl rfl (Nat.le_of_ble_eq_true rfl) (fc_in s1 ?_)
  show AW (d + 9) mX8_which 11 [(0, .inr 62), (1, .inl w)] [.inl (am_b (0 ≤ w ∧ w ≤ 1))] (am_up M 62 0 0) Q
  refine aw_ifb_ne dX8_which_11 (tgt := 16) rfl (fun c2 => ?_) (fun c2 => ?_)
  · replace h := h.1 c2
    refine aw_aload_n dX8_which_16 rfl (j := 0) rfl ?_
    refine aw_invv (d' := d + 8) (as := []) (rest := []) dX8_which_17 cv_X8_183 (Nat.lt_succ_self _) rfl rfl rfl rfl rfl (Nat.le_of_ble_eq_true rfl) (AC.mono ?_ h)
    intro r M3 h
    obtain ⟨rfl, h⟩ := h
    show AW (d + 9) mX8_which 20 [(0, .inr 62), (1, .inl w)] [] M3 Q
    refine aw_iconst dX8_which_20 ?_
    refine aw_istore_n (L' := [(0, .inr 62), (1, .inl w), (2, .inl 0)]) dX8_which_21 rfl (Nat.le_of_ble_eq_true rfl) rfl ?_
    refine aw_bipush dX8_which_22 (by decide) ?_
    refine aw_istore_n (L' := [(0, .inr 62), (1, .inl w), (2, .inl 0), (3, .inl (-9))]) dX8_which_24 rfl (Nat.le_of_ble_eq_true rfl) rfl ?_
    refine aw_iconst dX8_which_25 ?_
    refine aw_istore (L' := [(0, .inr 62), (1, .inl w), (2, .inl 0), (3, .inl (-9)), (4, .inl 0)]) dX8_which_26 (Nat.le_of_ble_eq_true rfl) rfl ?_
    exact h
  · replace h := h.2 c2
    refine aw_iconst dX8_which_14 ?_
    exact aw_iret dX8_which_15 rfl h
theorem sg_X8_which_28 {d : Nat} {M : am_M} {Q : Option Int → am_M → Prop} {w mn fi n : Int} (h : (am_r n) ∧
 (am_r (M 62 19)) ∧
 ((M 62 19 ≤ n →
 ((am_r w)) ∧
 ∀ (v6 : Int), (w ≠ 0 → v6 = fi) →
 (w = 0 → v6 = mn) →
 Q (some v6) M) ∧
 (n < M 62 19 →
 AC (d + 8) mX8_isSo [.inr 62, .inl n] M (fun r M9 => ∃ z10, r = some z10 ∧
 (am_r z10) ∧
 ((z10 = 0 →
 AW (d + 9) mX8_which 28 [(0, .inr 62), (1, .inl w), (2, .inl mn), (3, .inl fi), (4, .inl (n + 1))] [] M9 Q) ∧
 (z10 ≠ 0 →
 ((am_r mn)) ∧
 ∀ (v15 : Int), (mn ≠ 0 → v15 = fi) →
 (mn = 0 → v15 = n) →
 AW (d + 9) mX8_which 28 [(0, .inr 62), (1, .inl w), (2, .inl (mn + 1)), (3, .inl v15), (4, .inl (n + 1))] [] M9 Q)))))) : AW (d + 9) mX8_which 28 [(0, .inr 62), (1, .inl w), (2, .inl mn), (3, .inl fi), (4, .inl n)] [] M Q := by
  refine aw_iload dX8_which_28 (j := 4) rfl ?_
  refine aw_aload_n dX8_which_30 rfl (j := 0) rfl ?_
  refine aw_getf dX8_which_31 fl_X8_145 rfl rfl rfl ?_
  obtain ⟨s1, h⟩ := h
  obtain ⟨s2, h⟩ := h
  refine aw_icmp_ge dX8_which_34 (tgt := 66) rfl s1 s2 (fun c3 => ?_) (fun c3 => ?_)
  · replace h := h.1 c3
    refine aw_iload_n dX8_which_66 rfl (j := 1) rfl ?_
    obtain ⟨g, h⟩ := h
    have K : ∀ (v6 : Int), (w ≠ 0 → v6 = fi) → (w = 0 → v6 = mn) → AW (d + 9) mX8_which 75 [(0, .inr 62), (1, .inl w), (2, .inl mn), (3, .inl fi), (4, .inl n)] [.inl v6] M Q := by
      intro v6 q7 q8
      replace h := h v6 q7 q8
      exact aw_iret dX8_which_75 rfl h
    clear h
    have s4 := g
    refine aw_if_ne dX8_which_67 (tgt := 74) rfl s4 (fun c5 => ?_) (fun c5 => ?_)
    · have c5 : w ≠ 0 := c5
      refine aw_iload_n dX8_which_74 rfl (j := 3) rfl ?_
      exact K fi (fun _ => rfl) (fun q0 => by first | omega | exact absurd c5 q0 | exact absurd q0 c5)
    · have c5 : w = 0 := c5
      refine aw_iload_n dX8_which_70 rfl (j := 2) rfl ?_
      refine aw_goto dX8_which_71 (tgt := 75) rfl ?_
      exact K mn (fun q0 => by first | omega | exact absurd c5 q0 | exact absurd q0 c5) (fun _ => rfl)
  · replace h := h.2 c3
    refine aw_aload_n dX8_which_37 rfl (j := 0) rfl ?_
    refine aw_iload dX8_which_38 (j := 4) rfl ?_
    refine aw_invv (d' := d + 8) (as := [.inl n]) (rest := []) dX8_which_40 cv_X8_205 (Nat.lt_succ_self _) rfl rfl rfl rfl rfl (Nat.le_of_ble_eq_true rfl) (AC.mono ?_ h)
    intro r M9 h
    obtain ⟨z10, rfl, h⟩ := h
    show AW (d + 9) mX8_which 43 [(0, .inr 62), (1, .inl w), (2, .inl mn), (3, .inl fi), (4, .inl n)] [.inl z10] M9 Q
    obtain ⟨s11, h⟩ := h
    refine aw_if_eq dX8_which_43 (tgt := 60) rfl s11 (fun c12 => ?_) (fun c12 => ?_)
    · replace h := h.1 c12
      refine aw_iinc (L' := [(0, .inr 62), (1, .inl w), (2, .inl mn), (3, .inl fi), (4, .inl (n + 1))]) dX8_which_60 (j := 4) rfl (Nat.le_of_ble_eq_true rfl) rfl ?_
      refine aw_goto dX8_which_63 (tgt := 28) rfl ?_
      exact h
    · replace h := h.2 c12
      refine aw_iload_n dX8_which_46 rfl (j := 2) rfl ?_
      obtain ⟨g, h⟩ := h
      have K : ∀ (v15 : Int), (mn ≠ 0 → v15 = fi) → (mn = 0 → v15 = n) → AW (d + 9) mX8_which 56 [(0, .inr 62), (1, .inl w), (2, .inl mn), (3, .inl fi), (4, .inl n)] [.inl v15] M9 Q := by
        intro v15 q16 q17
        replace h := h v15 q16 q17
        refine aw_istore_n (L' := [(0, .inr 62), (1, .inl w), (2, .inl mn), (3, .inl v15), (4, .inl n)]) dX8_which_56 rfl (Nat.le_of_ble_eq_true rfl) rfl ?_
        refine aw_iinc (L' := [(0, .inr 62), (1, .inl w), (2, .inl (mn + 1)), (3, .inl v15), (4, .inl n)]) dX8_which_57 (j := 2) rfl (Nat.le_of_ble_eq_true rfl) rfl ?_
        refine aw_iinc (L' := [(0, .inr 62), (1, .inl w), (2, .inl (mn + 1)), (3, .inl v15), (4, .inl (n + 1))]) dX8_which_60 (j := 4) rfl (Nat.le_of_ble_eq_true rfl) rfl ?_
        refine aw_goto dX8_which_63 (tgt := 28) rfl ?_
        exact h
      clear h
      have s13 := g
      refine aw_if_ne dX8_which_47 (tgt := 55) rfl s13 (fun c14 => ?_) (fun c14 => ?_)
      · have c14 : mn ≠ 0 := c14
        refine aw_iload_n dX8_which_55 rfl (j := 3) rfl ?_
        exact K fi (fun _ => rfl) (fun q0 => by first | omega | exact absurd c14 q0 | exact absurd q0 c14)
      · have c14 : mn = 0 := c14
        refine aw_iload dX8_which_50 (j := 4) rfl ?_
        refine aw_goto dX8_which_52 (tgt := 56) rfl ?_
        exact K n (fun q0 => by first | omega | exact absurd c14 q0 | exact absurd q0 c14) (fun _ => rfl)
theorem sg_X8_mostAlike {d : Nat} {M : am_M} {Q : Option Int → am_M → Prop} {f : Int} (h : AW (d + 5) mX8_mostAlike 4 [(0, .inr 62), (1, .inl f), (2, .inl 0), (3, .inl 0)] [] M Q) : AC (d + 5) mX8_mostAlike [.inr 62, .inl f] M Q := by
  refine aw_body (by decide) (Nat.le_of_ble_eq_true rfl) rfl ?_
  refine aw_iconst dX8_mostAlike_0 ?_
  refine aw_istore_n (L' := [(0, .inr 62), (1, .inl f), (2, .inl 0)]) dX8_mostAlike_1 rfl (Nat.le_of_ble_eq_true rfl) rfl ?_
  refine aw_iconst dX8_mostAlike_2 ?_
  refine aw_istore_n (L' := [(0, .inr 62), (1, .inl f), (2, .inl 0), (3, .inl 0)]) dX8_mostAlike_3 rfl (Nat.le_of_ble_eq_true rfl) rfl ?_
  exact h
theorem sg_X8_mostAlike_4 {d : Nat} {M : am_M} {Q : Option Int → am_M → Prop} {f mo a : Int} (h : (am_r a) ∧
 (am_r (M 62 19)) ∧
 ((M 62 19 ≤ a →
 Q (some mo) M) ∧
 (a < M 62 19 →
 AW (d + 5) mX8_mostAlike 18 [(0, .inr 62), (1, .inl f), (2, .inl mo), (3, .inl a), (4, .inl 0), (5, .inl 0)] [] M Q))) : AW (d + 5) mX8_mostAlike 4 [(0, .inr 62), (1, .inl f), (2, .inl mo), (3, .inl a)] [] M Q := by
  refine aw_iload_n dX8_mostAlike_4 rfl (j := 3) rfl ?_
  refine aw_aload_n dX8_mostAlike_5 rfl (j := 0) rfl ?_
  refine aw_getf dX8_mostAlike_6 fl_X8_145 rfl rfl rfl ?_
  obtain ⟨s1, h⟩ := h
  obtain ⟨s2, h⟩ := h
  refine aw_icmp_ge dX8_mostAlike_9 (tgt := 95) rfl s1 s2 (fun c3 => ?_) (fun c3 => ?_)
  · replace h := h.1 c3
    refine aw_iload_n dX8_mostAlike_95 rfl (j := 2) rfl ?_
    exact aw_iret dX8_mostAlike_96 rfl h
  · replace h := h.2 c3
    refine aw_iconst dX8_mostAlike_12 ?_
    refine aw_istore (L' := [(0, .inr 62), (1, .inl f), (2, .inl mo), (3, .inl a), (4, .inl 0)]) dX8_mostAlike_13 (Nat.le_of_ble_eq_true rfl) rfl ?_
    refine aw_iconst dX8_mostAlike_15 ?_
    refine aw_istore (L' := [(0, .inr 62), (1, .inl f), (2, .inl mo), (3, .inl a), (4, .inl 0), (5, .inl 0)]) dX8_mostAlike_16 (Nat.le_of_ble_eq_true rfl) rfl ?_
    exact h
theorem sg_X8_mostAlike_18 {d : Nat} {M : am_M} {Q : Option Int → am_M → Prop} {f mo a mn b : Int} (h : (am_r b) ∧
 (am_r (M 62 19)) ∧
 ((M 62 19 ≤ b →
 (((am_r mn) ∧ (am_r mo))) ∧
 ∀ (v7 : Int), (mn ≤ mo → v7 = mo) →
 (mo < mn → v7 = mn) →
 AW (d + 5) mX8_mostAlike 4 [(0, .inr 62), (1, .inl f), (2, .inl v7), (3, .inl (a + 1))] [] M Q) ∧
 (b < M 62 19 →
 AC (d + 4) mX8_isSo [.inr 62, .inl a] M (fun r M10 => ∃ z11, r = some z11 ∧
 (am_r z11) ∧
 ((z11 = 0 →
 AW (d + 5) mX8_mostAlike 18 [(0, .inr 62), (1, .inl f), (2, .inl mo), (3, .inl a), (4, .inl (mn + 0)), (5, .inl (b + 1))] [] M10 Q) ∧
 (z11 ≠ 0 →
 AC (d + 4) mX8_isSo [.inr 62, .inl b] M10 (fun r M14 => ∃ z15, r = some z15 ∧
 (am_r z15) ∧
 ((z15 = 0 →
 AW (d + 5) mX8_mostAlike 18 [(0, .inr 62), (1, .inl f), (2, .inl mo), (3, .inl a), (4, .inl (mn + 0)), (5, .inl (b + 1))] [] M14 Q) ∧
 (z15 ≠ 0 →
 AC (d + 4) mX8_pitchIn [.inr 62, .inl a, .inl f] M14 (fun r M18 => ∃ z19, r = some z19 ∧
 AC (d + 4) mX8_pitchIn [.inr 62, .inl b, .inl f] M18 (fun r M20 => ∃ z21, r = some z21 ∧
 (((am_r z19) ∧ (am_r z21))) ∧
 AW (d + 5) mX8_mostAlike 18 [(0, .inr 62), (1, .inl f), (2, .inl mo), (3, .inl a), (4, .inl (mn + (am_b ((z19 = z21))))), (5, .inl (b + 1))] [] M20 Q))))))))))) : AW (d + 5) mX8_mostAlike 18 [(0, .inr 62), (1, .inl f), (2, .inl mo), (3, .inl a), (4, .inl mn), (5, .inl b)] [] M Q := by
  refine aw_iload dX8_mostAlike_18 (j := 5) rfl ?_
  refine aw_aload_n dX8_mostAlike_20 rfl (j := 0) rfl ?_
  refine aw_getf dX8_mostAlike_21 fl_X8_145 rfl rfl rfl ?_
  obtain ⟨s1, h⟩ := h
  obtain ⟨s2, h⟩ := h
  refine aw_icmp_ge dX8_mostAlike_24 (tgt := 76) rfl s1 s2 (fun c3 => ?_) (fun c3 => ?_)
  · replace h := h.1 c3
    refine aw_iload dX8_mostAlike_76 (j := 4) rfl ?_
    refine aw_iload_n dX8_mostAlike_78 rfl (j := 2) rfl ?_
    obtain ⟨g, h⟩ := h
    have K : ∀ (v7 : Int), (mn ≤ mo → v7 = mo) → (mo < mn → v7 = mn) → AW (d + 5) mX8_mostAlike 88 [(0, .inr 62), (1, .inl f), (2, .inl mo), (3, .inl a), (4, .inl mn), (5, .inl b)] [.inl v7] M Q := by
      intro v7 q8 q9
      replace h := h v7 q8 q9
      refine aw_istore_n (L' := [(0, .inr 62), (1, .inl f), (2, .inl v7), (3, .inl a), (4, .inl mn), (5, .inl b)]) dX8_mostAlike_88 rfl (Nat.le_of_ble_eq_true rfl) rfl ?_
      refine aw_iinc (L' := [(0, .inr 62), (1, .inl f), (2, .inl v7), (3, .inl (a + 1)), (4, .inl mn), (5, .inl b)]) dX8_mostAlike_89 (j := 3) rfl (Nat.le_of_ble_eq_true rfl) rfl ?_
      refine aw_goto dX8_mostAlike_92 (tgt := 4) rfl ?_
      exact aw_sub [0, 1, 2, 3] rfl h
    clear h
    obtain ⟨s4, g⟩ := g
    have s5 := g
    refine aw_icmp_le dX8_mostAlike_79 (tgt := 87) rfl s4 s5 (fun c6 => ?_) (fun c6 => ?_)
    · have c6 : mn ≤ mo := c6
      refine aw_iload_n dX8_mostAlike_87 rfl (j := 2) rfl ?_
      exact K mo (fun _ => rfl) (fun q0 => by first | omega | exact absurd c6 q0 | exact absurd q0 c6)
    · have c6 : mo < mn := c6
      refine aw_iload dX8_mostAlike_82 (j := 4) rfl ?_
      refine aw_goto dX8_mostAlike_84 (tgt := 88) rfl ?_
      exact K mn (fun q0 => by first | omega | exact absurd c6 q0 | exact absurd q0 c6) (fun _ => rfl)
  · replace h := h.2 c3
    refine aw_iload dX8_mostAlike_27 (j := 4) rfl ?_
    refine aw_aload_n dX8_mostAlike_29 rfl (j := 0) rfl ?_
    refine aw_iload_n dX8_mostAlike_30 rfl (j := 3) rfl ?_
    refine aw_invv (d' := d + 4) (as := [.inl a]) (rest := [.inl mn]) dX8_mostAlike_31 cv_X8_205 (Nat.lt_succ_self _) rfl rfl rfl rfl rfl (Nat.le_of_ble_eq_true rfl) (AC.mono ?_ h)
    intro r M10 h
    obtain ⟨z11, rfl, h⟩ := h
    show AW (d + 5) mX8_mostAlike 34 [(0, .inr 62), (1, .inl f), (2, .inl mo), (3, .inl a), (4, .inl mn), (5, .inl b)] [.inl z11, .inl mn] M10 Q
    obtain ⟨s12, h⟩ := h
    refine aw_if_eq dX8_mostAlike_34 (tgt := 66) rfl s12 (fun c13 => ?_) (fun c13 => ?_)
    · replace h := h.1 c13
      refine aw_iconst dX8_mostAlike_66 ?_
      refine aw_iadd dX8_mostAlike_67 ?_
      refine aw_istore (L' := [(0, .inr 62), (1, .inl f), (2, .inl mo), (3, .inl a), (4, .inl (mn + 0)), (5, .inl b)]) dX8_mostAlike_68 (Nat.le_of_ble_eq_true rfl) rfl ?_
      refine aw_iinc (L' := [(0, .inr 62), (1, .inl f), (2, .inl mo), (3, .inl a), (4, .inl (mn + 0)), (5, .inl (b + 1))]) dX8_mostAlike_70 (j := 5) rfl (Nat.le_of_ble_eq_true rfl) rfl ?_
      refine aw_goto dX8_mostAlike_73 (tgt := 18) rfl ?_
      exact h
    · replace h := h.2 c13
      refine aw_aload_n dX8_mostAlike_37 rfl (j := 0) rfl ?_
      refine aw_iload dX8_mostAlike_38 (j := 5) rfl ?_
      refine aw_invv (d' := d + 4) (as := [.inl b]) (rest := [.inl mn]) dX8_mostAlike_40 cv_X8_205 (Nat.lt_succ_self _) rfl rfl rfl rfl rfl (Nat.le_of_ble_eq_true rfl) (AC.mono ?_ h)
      intro r M14 h
      obtain ⟨z15, rfl, h⟩ := h
      show AW (d + 5) mX8_mostAlike 43 [(0, .inr 62), (1, .inl f), (2, .inl mo), (3, .inl a), (4, .inl mn), (5, .inl b)] [.inl z15, .inl mn] M14 Q
      obtain ⟨s16, h⟩ := h
      refine aw_if_eq dX8_mostAlike_43 (tgt := 66) rfl s16 (fun c17 => ?_) (fun c17 => ?_)
      · replace h := h.1 c17
        refine aw_iconst dX8_mostAlike_66 ?_
        refine aw_iadd dX8_mostAlike_67 ?_
        refine aw_istore (L' := [(0, .inr 62), (1, .inl f), (2, .inl mo), (3, .inl a), (4, .inl (mn + 0)), (5, .inl b)]) dX8_mostAlike_68 (Nat.le_of_ble_eq_true rfl) rfl ?_
        refine aw_iinc (L' := [(0, .inr 62), (1, .inl f), (2, .inl mo), (3, .inl a), (4, .inl (mn + 0)), (5, .inl (b + 1))]) dX8_mostAlike_70 (j := 5) rfl (Nat.le_of_ble_eq_true rfl) rfl ?_
        refine aw_goto dX8_mostAlike_73 (tgt := 18) rfl ?_
        exact h
      · replace h := h.2 c17
        refine aw_aload_n dX8_mostAlike_46 rfl (j := 0) rfl ?_
        refine aw_iload_n dX8_mostAlike_47 rfl (j := 3) rfl ?_
        refine aw_iload_n dX8_mostAlike_48 rfl (j := 1) rfl ?_
        refine aw_invv (d' := d + 4) (as := [.inl a, .inl f]) (rest := [.inl mn]) dX8_mostAlike_49 cv_X8_199 (Nat.lt_succ_self _) rfl rfl rfl rfl rfl (Nat.le_of_ble_eq_true rfl) (AC.mono ?_ h)
        intro r M18 h
        obtain ⟨z19, rfl, h⟩ := h
        show AW (d + 5) mX8_mostAlike 52 [(0, .inr 62), (1, .inl f), (2, .inl mo), (3, .inl a), (4, .inl mn), (5, .inl b)] [.inl z19, .inl mn] M18 Q
        refine aw_aload_n dX8_mostAlike_52 rfl (j := 0) rfl ?_
        refine aw_iload dX8_mostAlike_53 (j := 5) rfl ?_
        refine aw_iload_n dX8_mostAlike_55 rfl (j := 1) rfl ?_
        refine aw_invv (d' := d + 4) (as := [.inl b, .inl f]) (rest := [.inl z19, .inl mn]) dX8_mostAlike_56 cv_X8_199 (Nat.lt_succ_self _) rfl rfl rfl rfl rfl (Nat.le_of_ble_eq_true rfl) (AC.mono ?_ h)
        intro r M20 h
        obtain ⟨z21, rfl, h⟩ := h
        show AW (d + 5) mX8_mostAlike 59 [(0, .inr 62), (1, .inl f), (2, .inl mo), (3, .inl a), (4, .inl mn), (5, .inl b)] [.inl z21, .inl z19, .inl mn] M20 Q
        obtain ⟨g, h⟩ := h
        have K : AW (d + 5) mX8_mostAlike 67 [(0, .inr 62), (1, .inl f), (2, .inl mo), (3, .inl a), (4, .inl mn), (5, .inl b)] [.inl (am_b ((z19 = z21))), .inl mn] M20 Q := by
          refine aw_iadd dX8_mostAlike_67 ?_
          refine aw_istore (L' := [(0, .inr 62), (1, .inl f), (2, .inl mo), (3, .inl a), (4, .inl (mn + (am_b ((z19 = z21))))), (5, .inl b)]) dX8_mostAlike_68 (Nat.le_of_ble_eq_true rfl) rfl ?_
          refine aw_iinc (L' := [(0, .inr 62), (1, .inl f), (2, .inl mo), (3, .inl a), (4, .inl (mn + (am_b ((z19 = z21))))), (5, .inl (b + 1))]) dX8_mostAlike_70 (j := 5) rfl (Nat.le_of_ble_eq_true rfl) rfl ?_
          refine aw_goto dX8_mostAlike_73 (tgt := 18) rfl ?_
          exact h
        clear h
        obtain ⟨s22, g⟩ := g
        have s23 := g
        refine aw_icmp_ne dX8_mostAlike_59 (tgt := 66) rfl s22 s23 (fun c24 => ?_) (fun c24 => ?_)
        · have c24 : z19 ≠ z21 := c24
          refine aw_iconst dX8_mostAlike_66 ?_
          have hp : ¬ ((z19 = z21)) := by first | omega | simp_all
          have K1 := K
          rw [am_b_neg hp] at K1
          exact K1
        · have c24 : z19 = z21 := c24
          refine aw_iconst dX8_mostAlike_62 ?_
          refine aw_goto dX8_mostAlike_63 (tgt := 67) rfl ?_
          have hp : (z19 = z21) := by first | omega | simp_all
          have K1 := K
          rw [am_b_pos hp] at K1
          exact K1
theorem sg_X8_listen {d : Nat} {M : am_M} {Q : Option Int → am_M → Prop} (h : AC (d + 8) mX8_lays [.inr 62] (am_up M 62 0 0) (fun r M1 => r = none ∧
 AW (d + 9) mX8_listen 13 [(0, .inr 62), (1, .inl 0), (2, .inl 0)] [] M1 Q)) : AC (d + 9) mX8_listen [.inr 62] M Q := by
  refine aw_body (by decide) (Nat.le_of_ble_eq_true rfl) rfl ?_
  refine aw_aload_n dX8_listen_0 rfl (j := 0) rfl ?_
  refine aw_iconst dX8_listen_1 ?_
  refine aw_putf dX8_listen_2 pf_X8_52 rfl rfl rfl ?_
  refine aw_aload_n dX8_listen_5 rfl (j := 0) rfl ?_
  refine aw_invv (d' := d + 8) (as := []) (rest := []) dX8_listen_6 cv_X8_183 (Nat.lt_succ_self _) rfl rfl rfl rfl rfl (Nat.le_of_ble_eq_true rfl) (AC.mono ?_ h)
  intro r M1 h
  obtain ⟨rfl, h⟩ := h
  show AW (d + 9) mX8_listen 9 [(0, .inr 62)] [] M1 Q
  refine aw_iconst dX8_listen_9 ?_
  refine aw_istore_n (L' := [(0, .inr 62), (1, .inl 0)]) dX8_listen_10 rfl (Nat.le_of_ble_eq_true rfl) rfl ?_
  refine aw_iconst dX8_listen_11 ?_
  refine aw_istore_n (L' := [(0, .inr 62), (1, .inl 0), (2, .inl 0)]) dX8_listen_12 rfl (Nat.le_of_ble_eq_true rfl) rfl ?_
  exact h
theorem sg_X8_listen_13 {d : Nat} {M : am_M} {Q : Option Int → am_M → Prop} {mn fd : Int} (h : (am_r fd) ∧
 (am_r (M 62 19)) ∧
 ((M 62 19 ≤ fd →
 AW (d + 9) mX8_listen 53 [(0, .inr 62), (1, .inl mn), (2, .inl (-9)), (3, .inl 1000), (4, .inl 0)] [] M Q) ∧
 (fd < M 62 19 →
 AC (d + 8) mX8_isSo [.inr 62, .inl fd] M (fun r M4 => ∃ z5, r = some z5 ∧
 ((am_r z5)) ∧
 AW (d + 9) mX8_listen 13 [(0, .inr 62), (1, .inl (mn + (am_b ((z5 ≠ 0))))), (2, .inl (fd + 1))] [] M4 Q)))) : AW (d + 9) mX8_listen 13 [(0, .inr 62), (1, .inl mn), (2, .inl fd)] [] M Q := by
  refine aw_iload_n dX8_listen_13 rfl (j := 2) rfl ?_
  refine aw_aload_n dX8_listen_14 rfl (j := 0) rfl ?_
  refine aw_getf dX8_listen_15 fl_X8_145 rfl rfl rfl ?_
  obtain ⟨s1, h⟩ := h
  obtain ⟨s2, h⟩ := h
  refine aw_icmp_ge dX8_listen_18 (tgt := 43) rfl s1 s2 (fun c3 => ?_) (fun c3 => ?_)
  · replace h := h.1 c3
    refine aw_bipush dX8_listen_43 (by decide) ?_
    refine aw_istore_n (L' := [(0, .inr 62), (1, .inl mn), (2, .inl (-9))]) dX8_listen_45 rfl (Nat.le_of_ble_eq_true rfl) rfl ?_
    refine aw_sipush dX8_listen_46 (by decide) ?_
    refine aw_istore_n (L' := [(0, .inr 62), (1, .inl mn), (2, .inl (-9)), (3, .inl 1000)]) dX8_listen_49 rfl (Nat.le_of_ble_eq_true rfl) rfl ?_
    refine aw_iconst dX8_listen_50 ?_
    refine aw_istore (L' := [(0, .inr 62), (1, .inl mn), (2, .inl (-9)), (3, .inl 1000), (4, .inl 0)]) dX8_listen_51 (Nat.le_of_ble_eq_true rfl) rfl ?_
    exact h
  · replace h := h.2 c3
    refine aw_iload_n dX8_listen_21 rfl (j := 1) rfl ?_
    refine aw_aload_n dX8_listen_22 rfl (j := 0) rfl ?_
    refine aw_iload_n dX8_listen_23 rfl (j := 2) rfl ?_
    refine aw_invv (d' := d + 8) (as := [.inl fd]) (rest := [.inl mn]) dX8_listen_24 cv_X8_205 (Nat.lt_succ_self _) rfl rfl rfl rfl rfl (Nat.le_of_ble_eq_true rfl) (AC.mono ?_ h)
    intro r M4 h
    obtain ⟨z5, rfl, h⟩ := h
    show AW (d + 9) mX8_listen 27 [(0, .inr 62), (1, .inl mn), (2, .inl fd)] [.inl z5, .inl mn] M4 Q
    obtain ⟨g, h⟩ := h
    have K : AW (d + 9) mX8_listen 35 [(0, .inr 62), (1, .inl mn), (2, .inl fd)] [.inl (am_b ((z5 ≠ 0))), .inl mn] M4 Q := by
      refine aw_iadd dX8_listen_35 ?_
      refine aw_istore_n (L' := [(0, .inr 62), (1, .inl (mn + (am_b ((z5 ≠ 0))))), (2, .inl fd)]) dX8_listen_36 rfl (Nat.le_of_ble_eq_true rfl) rfl ?_
      refine aw_iinc (L' := [(0, .inr 62), (1, .inl (mn + (am_b ((z5 ≠ 0))))), (2, .inl (fd + 1))]) dX8_listen_37 (j := 2) rfl (Nat.le_of_ble_eq_true rfl) rfl ?_
      refine aw_goto dX8_listen_40 (tgt := 13) rfl ?_
      exact h
    clear h
    have s6 := g
    refine aw_if_eq dX8_listen_27 (tgt := 34) rfl s6 (fun c7 => ?_) (fun c7 => ?_)
    · have c7 : z5 = 0 := c7
      refine aw_iconst dX8_listen_34 ?_
      have hp : ¬ ((z5 ≠ 0)) := by first | omega | simp_all
      have K1 := K
      rw [am_b_neg hp] at K1
      exact K1
    · have c7 : z5 ≠ 0 := c7
      refine aw_iconst dX8_listen_30 ?_
      refine aw_goto dX8_listen_31 (tgt := 35) rfl ?_
      have hp : (z5 ≠ 0) := by first | omega | simp_all
      have K1 := K
      rw [am_b_pos hp] at K1
      exact K1
theorem sg_X8_listen_53 {d : Nat} {M : am_M} {Q : Option Int → am_M → Prop} {mn fd le f : Int} (h : (am_r f) ∧
 (am_r (M 63 0)) ∧
 ((M 63 0 ≤ f →
 Q (some fd) M) ∧
 (f < M 63 0 →
 (am_r mn) ∧
 ((mn ≤ 1 →
 Q (some fd) M) ∧
 (1 < mn →
 AC (d + 8) mX8_mostAlike [.inr 62, .inl f] M (fun r M6 => ∃ z7, r = some z7 ∧
 (((am_r z7) ∧ (am_r le))) ∧
 ∀ (v11 : Int), (le ≤ z7 → v11 = fd) →
 (z7 < le → v11 = f) →
 (((am_r z7) ∧ (am_r le))) ∧
 ∀ (v15 : Int), (le ≤ z7 → v15 = le) →
 (z7 < le → v15 = z7) →
 AW (d + 9) mX8_listen 53 [(0, .inr 62), (1, .inl mn), (2, .inl v11), (3, .inl v15), (4, .inl (f + 1))] [] M6 Q)))))) : AW (d + 9) mX8_listen 53 [(0, .inr 62), (1, .inl mn), (2, .inl fd), (3, .inl le), (4, .inl f)] [] M Q := by
  refine aw_iload dX8_listen_53 (j := 4) rfl ?_
  refine aw_aload_n dX8_listen_55 rfl (j := 0) rfl ?_
  refine aw_getr dX8_listen_56 fl_X8_7 rfl rfl ?_
  refine aw_iconst dX8_listen_59 ?_
  refine aw_iaload dX8_listen_60 rfl (by decide) ?_
  obtain ⟨s1, h⟩ := h
  obtain ⟨s2, h⟩ := h
  refine aw_icmp_ge dX8_listen_61 (tgt := 109) rfl s1 s2 (fun c3 => ?_) (fun c3 => ?_)
  · replace h := h.1 c3
    refine aw_iload_n dX8_listen_109 rfl (j := 2) rfl ?_
    exact aw_iret dX8_listen_110 rfl h
  · replace h := h.2 c3
    refine aw_iload_n dX8_listen_64 rfl (j := 1) rfl ?_
    refine aw_iconst dX8_listen_65 ?_
    obtain ⟨s4, h⟩ := h
    refine aw_icmp_le dX8_listen_66 (tgt := 109) rfl s4 (by decide) (fun c5 => ?_) (fun c5 => ?_)
    · replace h := h.1 c5
      refine aw_iload_n dX8_listen_109 rfl (j := 2) rfl ?_
      exact aw_iret dX8_listen_110 rfl h
    · replace h := h.2 c5
      refine aw_aload_n dX8_listen_69 rfl (j := 0) rfl ?_
      refine aw_iload dX8_listen_70 (j := 4) rfl ?_
      refine aw_invv (d' := d + 8) (as := [.inl f]) (rest := []) dX8_listen_72 cv_X8_209 (Nat.lt_succ_self _) rfl rfl rfl rfl rfl (Nat.le_of_ble_eq_true rfl) (AC.mono ?_ h)
      intro r M6 h
      obtain ⟨z7, rfl, h⟩ := h
      show AW (d + 9) mX8_listen 75 [(0, .inr 62), (1, .inl mn), (2, .inl fd), (3, .inl le), (4, .inl f)] [.inl z7] M6 Q
      refine aw_istore (L' := [(0, .inr 62), (1, .inl mn), (2, .inl fd), (3, .inl le), (4, .inl f), (5, .inl z7)]) dX8_listen_75 (Nat.le_of_ble_eq_true rfl) rfl ?_
      refine aw_iload dX8_listen_77 (j := 5) rfl ?_
      refine aw_iload_n dX8_listen_79 rfl (j := 3) rfl ?_
      obtain ⟨g, h⟩ := h
      have K : ∀ (v11 : Int), (le ≤ z7 → v11 = fd) → (z7 < le → v11 = f) → AW (d + 9) mX8_listen 89 [(0, .inr 62), (1, .inl mn), (2, .inl fd), (3, .inl le), (4, .inl f), (5, .inl z7)] [.inl v11] M6 Q := by
        intro v11 q18 q19
        replace h := h v11 q18 q19
        refine aw_istore_n (L' := [(0, .inr 62), (1, .inl mn), (2, .inl v11), (3, .inl le), (4, .inl f), (5, .inl z7)]) dX8_listen_89 rfl (Nat.le_of_ble_eq_true rfl) rfl ?_
        refine aw_iload dX8_listen_90 (j := 5) rfl ?_
        refine aw_iload_n dX8_listen_92 rfl (j := 3) rfl ?_
        obtain ⟨g, h⟩ := h
        have K : ∀ (v15 : Int), (le ≤ z7 → v15 = le) → (z7 < le → v15 = z7) → AW (d + 9) mX8_listen 102 [(0, .inr 62), (1, .inl mn), (2, .inl v11), (3, .inl le), (4, .inl f), (5, .inl z7)] [.inl v15] M6 Q := by
          intro v15 q16 q17
          replace h := h v15 q16 q17
          refine aw_istore_n (L' := [(0, .inr 62), (1, .inl mn), (2, .inl v11), (3, .inl v15), (4, .inl f), (5, .inl z7)]) dX8_listen_102 rfl (Nat.le_of_ble_eq_true rfl) rfl ?_
          refine aw_iinc (L' := [(0, .inr 62), (1, .inl mn), (2, .inl v11), (3, .inl v15), (4, .inl (f + 1)), (5, .inl z7)]) dX8_listen_103 (j := 4) rfl (Nat.le_of_ble_eq_true rfl) rfl ?_
          refine aw_goto dX8_listen_106 (tgt := 53) rfl ?_
          exact aw_sub [0, 1, 2, 3, 4] rfl h
        clear h
        obtain ⟨s12, g⟩ := g
        have s13 := g
        refine aw_icmp_ge dX8_listen_93 (tgt := 101) rfl s12 s13 (fun c14 => ?_) (fun c14 => ?_)
        · have c14 : le ≤ z7 := c14
          refine aw_iload_n dX8_listen_101 rfl (j := 3) rfl ?_
          exact K le (fun _ => rfl) (fun q0 => by first | omega | exact absurd c14 q0 | exact absurd q0 c14)
        · have c14 : z7 < le := c14
          refine aw_iload dX8_listen_96 (j := 5) rfl ?_
          refine aw_goto dX8_listen_98 (tgt := 102) rfl ?_
          exact K z7 (fun q0 => by first | omega | exact absurd c14 q0 | exact absurd q0 c14) (fun _ => rfl)
      clear h
      obtain ⟨s8, g⟩ := g
      have s9 := g
      refine aw_icmp_ge dX8_listen_80 (tgt := 88) rfl s8 s9 (fun c10 => ?_) (fun c10 => ?_)
      · have c10 : le ≤ z7 := c10
        refine aw_iload_n dX8_listen_88 rfl (j := 2) rfl ?_
        exact K fd (fun _ => rfl) (fun q0 => by first | omega | exact absurd c10 q0 | exact absurd q0 c10)
      · have c10 : z7 < le := c10
        refine aw_iload dX8_listen_83 (j := 4) rfl ?_
        refine aw_goto dX8_listen_85 (tgt := 89) rfl ?_
        exact K f (fun q0 => by first | omega | exact absurd c10 q0 | exact absurd q0 c10) (fun _ => rfl)
theorem sg_X8_keep {d : Nat} {M : am_M} {Q : Option Int → am_M → Prop} {i : Int} (h : (am_r i ∧ am_r 0 ∧ am_r 1) ∧
 ((0 ≤ i ∧ i ≤ 1 →
 AW (d + 1) mX8_keep 18 [(0, .inr 62), (1, .inl i), (2, .inl 0)] [] (am_up M 62 0 0) Q) ∧
 (¬ (0 ≤ i ∧ i ≤ 1) →
 Q (some (-1)) (am_up M 62 0 0)))) : AC (d + 1) mX8_keep [.inr 62, .inl i] M Q := by
  refine aw_body (by decide) (Nat.le_of_ble_eq_true rfl) rfl ?_
  refine aw_aload_n dX8_keep_0 rfl (j := 0) rfl ?_
  refine aw_iconst dX8_keep_1 ?_
  refine aw_putf dX8_keep_2 pf_X8_52 rfl rfl rfl ?_
  refine aw_iload_n dX8_keep_5 rfl (j := 1) rfl ?_
  refine aw_iconst dX8_keep_6 ?_
  refine aw_iconst dX8_keep_7 ?_
  obtain ⟨s1, h⟩ := h
  refine aw_invs (d' := d) (as := [.inl i, .inl 0, .inl 1]) (rest := []) dX8_keep_8 cs_X8_56 (Nat.lt_succ_self _) rfl rfl (Nat.le_of_ble_eq_true rfl) (fc_in s1 ?_)
  show AW (d + 1) mX8_keep 11 [(0, .inr 62), (1, .inl i)] [.inl (am_b (0 ≤ i ∧ i ≤ 1))] (am_up M 62 0 0) Q
  refine aw_ifb_ne dX8_keep_11 (tgt := 16) rfl (fun c2 => ?_) (fun c2 => ?_)
  · replace h := h.1 c2
    refine aw_iconst dX8_keep_16 ?_
    refine aw_istore_n (L' := [(0, .inr 62), (1, .inl i), (2, .inl 0)]) dX8_keep_17 rfl (Nat.le_of_ble_eq_true rfl) rfl ?_
    exact h
  · replace h := h.2 c2
    refine aw_iconst dX8_keep_14 ?_
    exact aw_iret dX8_keep_15 rfl h
theorem sg_X8_keep_18 {d : Nat} {M : am_M} {Q : Option Int → am_M → Prop} {i k : Int} (h : (am_r k) ∧
 ((101 ≤ k →
 (0 ≤ i ∧ i < 2) ∧
 Q (some (M 63 0)) (am_up M 67 i 1)) ∧
 (k < 101 →
 (0 ≤ k ∧ k < 101) ∧
 (0 ≤ (101 * i) + k ∧ (101 * i) + k < 202) ∧
 AW (d + 1) mX8_keep 18 [(0, .inr 62), (1, .inl i), (2, .inl (k + 1))] [] (am_up M 66 ((101 * i) + k) (M 63 k)) Q))) : AW (d + 1) mX8_keep 18 [(0, .inr 62), (1, .inl i), (2, .inl k)] [] M Q := by
  refine aw_iload_n dX8_keep_18 rfl (j := 2) rfl ?_
  refine aw_bipush dX8_keep_19 (by decide) ?_
  obtain ⟨s1, h⟩ := h
  refine aw_icmp_ge dX8_keep_21 (tgt := 47) rfl s1 (by decide) (fun c2 => ?_) (fun c2 => ?_)
  · replace h := h.1 c2
    refine aw_aload_n dX8_keep_47 rfl (j := 0) rfl ?_
    refine aw_getr dX8_keep_48 fl_X8_22 rfl rfl ?_
    refine aw_iload_n dX8_keep_51 rfl (j := 1) rfl ?_
    refine aw_iconst dX8_keep_52 ?_
    obtain ⟨s3, h⟩ := h
    refine aw_zastore dX8_keep_53 rfl s3 ?_
    refine aw_aload_n dX8_keep_54 rfl (j := 0) rfl ?_
    refine aw_getr dX8_keep_55 fl_X8_7 rfl rfl ?_
    refine aw_iconst dX8_keep_58 ?_
    refine aw_iaload dX8_keep_59 rfl (by decide) ?_
    exact aw_iret dX8_keep_60 rfl h
  · replace h := h.2 c2
    refine aw_aload_n dX8_keep_24 rfl (j := 0) rfl ?_
    refine aw_getr dX8_keep_25 fl_X8_19 rfl rfl ?_
    refine aw_bipush dX8_keep_28 (by decide) ?_
    refine aw_iload_n dX8_keep_30 rfl (j := 1) rfl ?_
    refine aw_imul dX8_keep_31 ?_
    refine aw_iload_n dX8_keep_32 rfl (j := 2) rfl ?_
    refine aw_iadd dX8_keep_33 ?_
    refine aw_aload_n dX8_keep_34 rfl (j := 0) rfl ?_
    refine aw_getr dX8_keep_35 fl_X8_7 rfl rfl ?_
    refine aw_iload_n dX8_keep_38 rfl (j := 2) rfl ?_
    obtain ⟨s4, h⟩ := h
    refine aw_iaload dX8_keep_39 rfl s4 ?_
    obtain ⟨s5, h⟩ := h
    refine aw_iastore dX8_keep_40 rfl s5 ?_
    refine aw_iinc (L' := [(0, .inr 62), (1, .inl i), (2, .inl (k + 1))]) dX8_keep_41 (j := 2) rfl (Nat.le_of_ble_eq_true rfl) rfl ?_
    refine aw_goto dX8_keep_44 (tgt := 18) rfl ?_
    exact h
theorem sg_X8_back {d : Nat} {M : am_M} {Q : Option Int → am_M → Prop} {i : Int} (h : (am_r i ∧ am_r 0 ∧ am_r 1) ∧
 ((0 ≤ i ∧ i ≤ 1 →
 (0 ≤ i ∧ i < 2) ∧
 (am_r (M 67 i)) ∧
 ((M 67 i ≠ 0 →
 AW (d + 1) mX8_back 30 [(0, .inr 62), (1, .inl i), (2, .inl 0)] [] (am_up M 62 0 0) Q) ∧
 (M 67 i = 0 →
 Q (some (-2)) (am_up M 62 0 0)))) ∧
 (¬ (0 ≤ i ∧ i ≤ 1) →
 Q (some (-1)) (am_up M 62 0 0)))) : AC (d + 1) mX8_back [.inr 62, .inl i] M Q := by
  refine aw_body (by decide) (Nat.le_of_ble_eq_true rfl) rfl ?_
  refine aw_aload_n dX8_back_0 rfl (j := 0) rfl ?_
  refine aw_iconst dX8_back_1 ?_
  refine aw_putf dX8_back_2 pf_X8_52 rfl rfl rfl ?_
  refine aw_iload_n dX8_back_5 rfl (j := 1) rfl ?_
  refine aw_iconst dX8_back_6 ?_
  refine aw_iconst dX8_back_7 ?_
  obtain ⟨s1, h⟩ := h
  refine aw_invs (d' := d) (as := [.inl i, .inl 0, .inl 1]) (rest := []) dX8_back_8 cs_X8_56 (Nat.lt_succ_self _) rfl rfl (Nat.le_of_ble_eq_true rfl) (fc_in s1 ?_)
  show AW (d + 1) mX8_back 11 [(0, .inr 62), (1, .inl i)] [.inl (am_b (0 ≤ i ∧ i ≤ 1))] (am_up M 62 0 0) Q
  refine aw_ifb_ne dX8_back_11 (tgt := 16) rfl (fun c2 => ?_) (fun c2 => ?_)
  · replace h := h.1 c2
    refine aw_aload_n dX8_back_16 rfl (j := 0) rfl ?_
    refine aw_getr dX8_back_17 fl_X8_22 rfl rfl ?_
    refine aw_iload_n dX8_back_20 rfl (j := 1) rfl ?_
    obtain ⟨s3, h⟩ := h
    refine aw_zaload dX8_back_21 rfl s3 ?_
    obtain ⟨s4, h⟩ := h
    refine aw_if_ne dX8_back_22 (tgt := 28) rfl s4 (fun c5 => ?_) (fun c5 => ?_)
    · replace h := h.1 c5
      refine aw_iconst dX8_back_28 ?_
      refine aw_istore_n (L' := [(0, .inr 62), (1, .inl i), (2, .inl 0)]) dX8_back_29 rfl (Nat.le_of_ble_eq_true rfl) rfl ?_
      exact h
    · replace h := h.2 c5
      refine aw_bipush dX8_back_25 (by decide) ?_
      exact aw_iret dX8_back_27 rfl h
  · replace h := h.2 c2
    refine aw_iconst dX8_back_14 ?_
    exact aw_iret dX8_back_15 rfl h
theorem sg_X8_back_30 {d : Nat} {M : am_M} {Q : Option Int → am_M → Prop} {i k : Int} (h : (am_r k) ∧
 ((101 ≤ k →
 Q (some (M 63 0)) (am_up M 62 4 0)) ∧
 (k < 101 →
 (0 ≤ (101 * i) + k ∧ (101 * i) + k < 202) ∧
 (0 ≤ k ∧ k < 101) ∧
 AW (d + 1) mX8_back 30 [(0, .inr 62), (1, .inl i), (2, .inl (k + 1))] [] (am_up M 63 k (M 66 ((101 * i) + k))) Q))) : AW (d + 1) mX8_back 30 [(0, .inr 62), (1, .inl i), (2, .inl k)] [] M Q := by
  refine aw_iload_n dX8_back_30 rfl (j := 2) rfl ?_
  refine aw_bipush dX8_back_31 (by decide) ?_
  obtain ⟨s1, h⟩ := h
  refine aw_icmp_ge dX8_back_33 (tgt := 59) rfl s1 (by decide) (fun c2 => ?_) (fun c2 => ?_)
  · replace h := h.1 c2
    refine aw_aload_n dX8_back_59 rfl (j := 0) rfl ?_
    refine aw_iconst dX8_back_60 ?_
    refine aw_putf dX8_back_61 pf_X8_107 rfl rfl rfl ?_
    refine aw_aload_n dX8_back_64 rfl (j := 0) rfl ?_
    refine aw_getr dX8_back_65 fl_X8_7 rfl rfl ?_
    refine aw_iconst dX8_back_68 ?_
    refine aw_iaload dX8_back_69 rfl (by decide) ?_
    exact aw_iret dX8_back_70 rfl h
  · replace h := h.2 c2
    refine aw_aload_n dX8_back_36 rfl (j := 0) rfl ?_
    refine aw_getr dX8_back_37 fl_X8_7 rfl rfl ?_
    refine aw_iload_n dX8_back_40 rfl (j := 2) rfl ?_
    refine aw_aload_n dX8_back_41 rfl (j := 0) rfl ?_
    refine aw_getr dX8_back_42 fl_X8_19 rfl rfl ?_
    refine aw_bipush dX8_back_45 (by decide) ?_
    refine aw_iload_n dX8_back_47 rfl (j := 1) rfl ?_
    refine aw_imul dX8_back_48 ?_
    refine aw_iload_n dX8_back_49 rfl (j := 2) rfl ?_
    refine aw_iadd dX8_back_50 ?_
    obtain ⟨s3, h⟩ := h
    refine aw_iaload dX8_back_51 rfl s3 ?_
    obtain ⟨s4, h⟩ := h
    refine aw_iastore dX8_back_52 rfl s4 ?_
    refine aw_iinc (L' := [(0, .inr 62), (1, .inl i), (2, .inl (k + 1))]) dX8_back_53 (j := 2) rfl (Nat.le_of_ble_eq_true rfl) rfl ?_
    refine aw_goto dX8_back_56 (tgt := 30) rfl ?_
    exact h
theorem sg_X8_tracksNow {d : Nat} {M : am_M} {Q : Option Int → am_M → Prop} (h : AC (d + 8) mX8_lays [.inr 62] M (fun r M1 => r = none ∧
 Q (some (M1 62 19)) M1)) : AC (d + 9) mX8_tracksNow [.inr 62] M Q := by
  refine aw_body (by decide) (Nat.le_of_ble_eq_true rfl) rfl ?_
  refine aw_aload_n dX8_tracksNow_0 rfl (j := 0) rfl ?_
  refine aw_invv (d' := d + 8) (as := []) (rest := []) dX8_tracksNow_1 cv_X8_183 (Nat.lt_succ_self _) rfl rfl rfl rfl rfl (Nat.le_of_ble_eq_true rfl) (AC.mono ?_ h)
  intro r M1 h
  obtain ⟨rfl, h⟩ := h
  show AW (d + 9) mX8_tracksNow 4 [(0, .inr 62)] [] M1 Q
  refine aw_aload_n dX8_tracksNow_4 rfl (j := 0) rfl ?_
  refine aw_getf dX8_tracksNow_5 fl_X8_145 rfl rfl rfl ?_
  exact aw_iret dX8_tracksNow_8 rfl h
theorem sg_X8_keptMany {d : Nat} {M : am_M} {Q : Option Int → am_M → Prop} (h : AC (d + 8) mX8_lays [.inr 62] M (fun r M1 => r = none ∧
 AW (d + 9) mX8_keptMany 8 [(0, .inr 62), (1, .inl 0), (2, .inl 0)] [] M1 Q)) : AC (d + 9) mX8_keptMany [.inr 62] M Q := by
  refine aw_body (by decide) (Nat.le_of_ble_eq_true rfl) rfl ?_
  refine aw_aload_n dX8_keptMany_0 rfl (j := 0) rfl ?_
  refine aw_invv (d' := d + 8) (as := []) (rest := []) dX8_keptMany_1 cv_X8_183 (Nat.lt_succ_self _) rfl rfl rfl rfl rfl (Nat.le_of_ble_eq_true rfl) (AC.mono ?_ h)
  intro r M1 h
  obtain ⟨rfl, h⟩ := h
  show AW (d + 9) mX8_keptMany 4 [(0, .inr 62)] [] M1 Q
  refine aw_iconst dX8_keptMany_4 ?_
  refine aw_istore_n (L' := [(0, .inr 62), (1, .inl 0)]) dX8_keptMany_5 rfl (Nat.le_of_ble_eq_true rfl) rfl ?_
  refine aw_iconst dX8_keptMany_6 ?_
  refine aw_istore_n (L' := [(0, .inr 62), (1, .inl 0), (2, .inl 0)]) dX8_keptMany_7 rfl (Nat.le_of_ble_eq_true rfl) rfl ?_
  exact h
theorem sg_X8_keptMany_8 {d : Nat} {M : am_M} {Q : Option Int → am_M → Prop} {mn n : Int} (h : (am_r n) ∧
 (am_r (M 62 19)) ∧
 ((M 62 19 ≤ n →
 Q (some mn) M) ∧
 (n < M 62 19 →
 AC (d + 8) mX8_longOf [.inr 62, .inl n] M (fun r M4 => ∃ z5, r = some z5 ∧
 (((am_r z5) ∧ (am_r (M4 63 4)))) ∧
 AW (d + 9) mX8_keptMany 8 [(0, .inr 62), (1, .inl (mn + (am_b ((M4 63 4 ≤ z5))))), (2, .inl (n + 1))] [] M4 Q)))) : AW (d + 9) mX8_keptMany 8 [(0, .inr 62), (1, .inl mn), (2, .inl n)] [] M Q := by
  refine aw_iload_n dX8_keptMany_8 rfl (j := 2) rfl ?_
  refine aw_aload_n dX8_keptMany_9 rfl (j := 0) rfl ?_
  refine aw_getf dX8_keptMany_10 fl_X8_145 rfl rfl rfl ?_
  obtain ⟨s1, h⟩ := h
  obtain ⟨s2, h⟩ := h
  refine aw_icmp_ge dX8_keptMany_13 (tgt := 44) rfl s1 s2 (fun c3 => ?_) (fun c3 => ?_)
  · replace h := h.1 c3
    refine aw_iload_n dX8_keptMany_44 rfl (j := 1) rfl ?_
    exact aw_iret dX8_keptMany_45 rfl h
  · replace h := h.2 c3
    refine aw_iload_n dX8_keptMany_16 rfl (j := 1) rfl ?_
    refine aw_aload_n dX8_keptMany_17 rfl (j := 0) rfl ?_
    refine aw_iload_n dX8_keptMany_18 rfl (j := 2) rfl ?_
    refine aw_invv (d' := d + 8) (as := [.inl n]) (rest := [.inl mn]) dX8_keptMany_19 cv_X8_161 (Nat.lt_succ_self _) rfl rfl rfl rfl rfl (Nat.le_of_ble_eq_true rfl) (AC.mono ?_ h)
    intro r M4 h
    obtain ⟨z5, rfl, h⟩ := h
    show AW (d + 9) mX8_keptMany 22 [(0, .inr 62), (1, .inl mn), (2, .inl n)] [.inl z5, .inl mn] M4 Q
    refine aw_aload_n dX8_keptMany_22 rfl (j := 0) rfl ?_
    refine aw_getr dX8_keptMany_23 fl_X8_7 rfl rfl ?_
    refine aw_iconst dX8_keptMany_26 ?_
    refine aw_iaload dX8_keptMany_27 rfl (by decide) ?_
    obtain ⟨g, h⟩ := h
    have K : AW (d + 9) mX8_keptMany 36 [(0, .inr 62), (1, .inl mn), (2, .inl n)] [.inl (am_b ((M4 63 4 ≤ z5))), .inl mn] M4 Q := by
      refine aw_iadd dX8_keptMany_36 ?_
      refine aw_istore_n (L' := [(0, .inr 62), (1, .inl (mn + (am_b ((M4 63 4 ≤ z5))))), (2, .inl n)]) dX8_keptMany_37 rfl (Nat.le_of_ble_eq_true rfl) rfl ?_
      refine aw_iinc (L' := [(0, .inr 62), (1, .inl (mn + (am_b ((M4 63 4 ≤ z5))))), (2, .inl (n + 1))]) dX8_keptMany_38 (j := 2) rfl (Nat.le_of_ble_eq_true rfl) rfl ?_
      refine aw_goto dX8_keptMany_41 (tgt := 8) rfl ?_
      exact h
    clear h
    obtain ⟨s6, g⟩ := g
    have s7 := g
    refine aw_icmp_lt dX8_keptMany_28 (tgt := 35) rfl s6 s7 (fun c8 => ?_) (fun c8 => ?_)
    · have c8 : z5 < M4 63 4 := c8
      refine aw_iconst dX8_keptMany_35 ?_
      have hp : ¬ ((M4 63 4 ≤ z5)) := by first | omega | simp_all
      have K1 := K
      rw [am_b_neg hp] at K1
      exact K1
    · have c8 : M4 63 4 ≤ z5 := c8
      refine aw_iconst dX8_keptMany_31 ?_
      refine aw_goto dX8_keptMany_32 (tgt := 36) rfl ?_
      have hp : (M4 63 4 ≤ z5) := by first | omega | simp_all
      have K1 := K
      rw [am_b_pos hp] at K1
      exact K1
theorem sg_X8_longest {d : Nat} {M : am_M} {Q : Option Int → am_M → Prop} (h : AC (d + 8) mX8_lays [.inr 62] M (fun r M1 => r = none ∧
 AW (d + 9) mX8_longest 14 [(0, .inr 62), (1, .inl (-9)), (2, .inl ((M1 62 19) - 1))] [] M1 Q)) : AC (d + 9) mX8_longest [.inr 62] M Q := by
  refine aw_body (by decide) (Nat.le_of_ble_eq_true rfl) rfl ?_
  refine aw_aload_n dX8_longest_0 rfl (j := 0) rfl ?_
  refine aw_invv (d' := d + 8) (as := []) (rest := []) dX8_longest_1 cv_X8_183 (Nat.lt_succ_self _) rfl rfl rfl rfl rfl (Nat.le_of_ble_eq_true rfl) (AC.mono ?_ h)
  intro r M1 h
  obtain ⟨rfl, h⟩ := h
  show AW (d + 9) mX8_longest 4 [(0, .inr 62)] [] M1 Q
  refine aw_bipush dX8_longest_4 (by decide) ?_
  refine aw_istore_n (L' := [(0, .inr 62), (1, .inl (-9))]) dX8_longest_6 rfl (Nat.le_of_ble_eq_true rfl) rfl ?_
  refine aw_aload_n dX8_longest_7 rfl (j := 0) rfl ?_
  refine aw_getf dX8_longest_8 fl_X8_145 rfl rfl rfl ?_
  refine aw_iconst dX8_longest_11 ?_
  refine aw_isub dX8_longest_12 ?_
  refine aw_istore_n (L' := [(0, .inr 62), (1, .inl (-9)), (2, .inl ((M1 62 19) - 1))]) dX8_longest_13 rfl (Nat.le_of_ble_eq_true rfl) rfl ?_
  exact h
theorem sg_X8_longest_14 {d : Nat} {M : am_M} {Q : Option Int → am_M → Prop} {fd n : Int} (h : (am_r n) ∧
 ((n < 0 →
 Q (some fd) M) ∧
 (0 ≤ n →
 (am_r fd) ∧
 ((fd = (-9) →
 AW (d + 9) mX8_longest 14 [(0, .inr 62), (1, .inl n), (2, .inl (n + (-1)))] [] M Q) ∧
 (fd ≠ (-9) →
 AC (d + 8) mX8_longOf [.inr 62, .inl n] M (fun r M5 => ∃ z6, r = some z6 ∧
 AC (d + 8) mX8_longOf [.inr 62, .inl fd] M5 (fun r M7 => ∃ z8, r = some z8 ∧
 (((am_r z6) ∧ (am_r z8))) ∧
 ∀ (v12 : Int), (z6 < z8 → v12 = fd) →
 (z8 ≤ z6 → v12 = n) →
 AW (d + 9) mX8_longest 14 [(0, .inr 62), (1, .inl v12), (2, .inl (n + (-1)))] [] M7 Q))))))) : AW (d + 9) mX8_longest 14 [(0, .inr 62), (1, .inl fd), (2, .inl n)] [] M Q := by
  refine aw_iload_n dX8_longest_14 rfl (j := 2) rfl ?_
  obtain ⟨s1, h⟩ := h
  refine aw_if_lt dX8_longest_15 (tgt := 49) rfl s1 (fun c2 => ?_) (fun c2 => ?_)
  · replace h := h.1 c2
    refine aw_iload_n dX8_longest_49 rfl (j := 1) rfl ?_
    exact aw_iret dX8_longest_50 rfl h
  · replace h := h.2 c2
    refine aw_iload_n dX8_longest_18 rfl (j := 1) rfl ?_
    refine aw_bipush dX8_longest_19 (by decide) ?_
    obtain ⟨s3, h⟩ := h
    refine aw_icmp_eq dX8_longest_21 (tgt := 37) rfl s3 (by decide) (fun c4 => ?_) (fun c4 => ?_)
    · replace h := h.1 c4
      refine aw_iload_n dX8_longest_37 rfl (j := 2) rfl ?_
      refine aw_goto dX8_longest_38 (tgt := 42) rfl ?_
      refine aw_istore_n (L' := [(0, .inr 62), (1, .inl n), (2, .inl n)]) dX8_longest_42 rfl (Nat.le_of_ble_eq_true rfl) rfl ?_
      refine aw_iinc (L' := [(0, .inr 62), (1, .inl n), (2, .inl (n + (-1)))]) dX8_longest_43 (j := 2) rfl (Nat.le_of_ble_eq_true rfl) rfl ?_
      refine aw_goto dX8_longest_46 (tgt := 14) rfl ?_
      exact h
    · replace h := h.2 c4
      refine aw_aload_n dX8_longest_24 rfl (j := 0) rfl ?_
      refine aw_iload_n dX8_longest_25 rfl (j := 2) rfl ?_
      refine aw_invv (d' := d + 8) (as := [.inl n]) (rest := []) dX8_longest_26 cv_X8_161 (Nat.lt_succ_self _) rfl rfl rfl rfl rfl (Nat.le_of_ble_eq_true rfl) (AC.mono ?_ h)
      intro r M5 h
      obtain ⟨z6, rfl, h⟩ := h
      show AW (d + 9) mX8_longest 29 [(0, .inr 62), (1, .inl fd), (2, .inl n)] [.inl z6] M5 Q
      refine aw_aload_n dX8_longest_29 rfl (j := 0) rfl ?_
      refine aw_iload_n dX8_longest_30 rfl (j := 1) rfl ?_
      refine aw_invv (d' := d + 8) (as := [.inl fd]) (rest := [.inl z6]) dX8_longest_31 cv_X8_161 (Nat.lt_succ_self _) rfl rfl rfl rfl rfl (Nat.le_of_ble_eq_true rfl) (AC.mono ?_ h)
      intro r M7 h
      obtain ⟨z8, rfl, h⟩ := h
      show AW (d + 9) mX8_longest 34 [(0, .inr 62), (1, .inl fd), (2, .inl n)] [.inl z8, .inl z6] M7 Q
      obtain ⟨g, h⟩ := h
      have K : ∀ (v12 : Int), (z6 < z8 → v12 = fd) → (z8 ≤ z6 → v12 = n) → AW (d + 9) mX8_longest 42 [(0, .inr 62), (1, .inl fd), (2, .inl n)] [.inl v12] M7 Q := by
        intro v12 q13 q14
        replace h := h v12 q13 q14
        refine aw_istore_n (L' := [(0, .inr 62), (1, .inl v12), (2, .inl n)]) dX8_longest_42 rfl (Nat.le_of_ble_eq_true rfl) rfl ?_
        refine aw_iinc (L' := [(0, .inr 62), (1, .inl v12), (2, .inl (n + (-1)))]) dX8_longest_43 (j := 2) rfl (Nat.le_of_ble_eq_true rfl) rfl ?_
        refine aw_goto dX8_longest_46 (tgt := 14) rfl ?_
        exact h
      clear h
      obtain ⟨s9, g⟩ := g
      have s10 := g
      refine aw_icmp_lt dX8_longest_34 (tgt := 41) rfl s9 s10 (fun c11 => ?_) (fun c11 => ?_)
      · have c11 : z6 < z8 := c11
        refine aw_iload_n dX8_longest_41 rfl (j := 1) rfl ?_
        exact K fd (fun _ => rfl) (fun q0 => by first | omega | exact absurd c11 q0 | exact absurd q0 c11)
      · have c11 : z8 ≤ z6 := c11
        refine aw_iload_n dX8_longest_37 rfl (j := 2) rfl ?_
        refine aw_goto dX8_longest_38 (tgt := 42) rfl ?_
        exact K n (fun q0 => by first | omega | exact absurd c11 q0 | exact absurd q0 c11) (fun _ => rfl)
theorem sg_X8_count {d : Nat} {M : am_M} {Q : Option Int → am_M → Prop} {w : Int} (h : (am_r w) ∧
 ((w < 5 ∨ 10 < w →
 (am_r w ∧ am_r 0 ∧ am_r 4) ∧
 ((0 ≤ w ∧ w ≤ 4 → (0 ≤ w ∧ w < 101))) ∧
 ∀ (v5 : Int), (¬ (0 ≤ w ∧ w ≤ 4) → v5 = (-1)) →
 (0 ≤ w ∧ w ≤ 4 → v5 = M 63 w) →
 Q (some v5) (am_up M 62 0 0)) ∧
 (w = 5 →
 AC (d + 9) mX8_tracksNow [.inr 62] (am_up M 62 0 0) (fun r M8 => ∃ z9, r = some z9 ∧
 Q (some z9) M8)) ∧
 (w = 6 →
 AC (d + 9) mX8_keptMany [.inr 62] (am_up M 62 0 0) (fun r M10 => ∃ z11, r = some z11 ∧
 Q (some z11) M10)) ∧
 (w = 7 →
 AC (d + 9) mX8_longest [.inr 62] (am_up M 62 0 0) (fun r M12 => ∃ z13, r = some z13 ∧
 Q (some z13) M12)) ∧
 (w = 8 →
 Q (some (M 62 8)) (am_up M 62 0 0)) ∧
 (w = 9 →
 Q (some (M 62 10)) (am_up M 62 0 0)) ∧
 (w = 10 →
 Q (some (M 62 4)) (am_up M 62 0 0)))) : AC (d + 10) mX8_count [.inr 62, .inl w] M Q := by
  refine aw_body (by decide) (Nat.le_of_ble_eq_true rfl) rfl ?_
  refine aw_aload_n dX8_count_0 rfl (j := 0) rfl ?_
  refine aw_iconst dX8_count_1 ?_
  refine aw_putf dX8_count_2 pf_X8_52 rfl rfl rfl ?_
  refine aw_iload_n dX8_count_5 rfl (j := 1) rfl ?_
  obtain ⟨s1, h⟩ := h
  refine aw_tsw [44, 49, 54, 59, 64, 69] dX8_count_6 (tgt := 74) rfl (by decide) (by decide) s1 (fun c => ?_) (fun j t hj hx => ?_)
  · replace h := h.1 c
    refine aw_iload_n dX8_count_74 rfl (j := 1) rfl ?_
    refine aw_iconst dX8_count_75 ?_
    refine aw_iconst dX8_count_76 ?_
    obtain ⟨s2, h⟩ := h
    refine aw_invs (d' := d + 9) (as := [.inl w, .inl 0, .inl 4]) (rest := []) dX8_count_77 cs_X8_56 (Nat.lt_succ_self _) rfl rfl (Nat.le_of_ble_eq_true rfl) (fc_in s2 ?_)
    show AW (d + 10) mX8_count 80 [(0, .inr 62), (1, .inl w)] [.inl (am_b (0 ≤ w ∧ w ≤ 4))] (am_up M 62 0 0) Q
    obtain ⟨g, h⟩ := h
    have K : ∀ (v5 : Int), (¬ (0 ≤ w ∧ w ≤ 4) → v5 = (-1)) → (0 ≤ w ∧ w ≤ 4 → v5 = M 63 w) → AW (d + 10) mX8_count 93 [(0, .inr 62), (1, .inl w)] [.inl v5] (am_up M 62 0 0) Q := by
      intro v5 q6 q7
      replace h := h v5 q6 q7
      exact aw_iret dX8_count_93 rfl h
    clear h
    refine aw_ifb_eq dX8_count_80 (tgt := 92) rfl (fun c3 => ?_) (fun c3 => ?_)
    · have c3 : ¬ (0 ≤ w ∧ w ≤ 4) := c3
      refine aw_iconst dX8_count_92 ?_
      exact K (-1) (fun _ => rfl) (fun q0 => by first | omega | exact absurd c3 q0 | exact absurd q0 c3)
    · have c3 : 0 ≤ w ∧ w ≤ 4 := c3
      replace g := g c3
      refine aw_aload_n dX8_count_83 rfl (j := 0) rfl ?_
      refine aw_getr dX8_count_84 fl_X8_7 rfl rfl ?_
      refine aw_iload_n dX8_count_87 rfl (j := 1) rfl ?_
      have s4 := g
      refine aw_iaload dX8_count_88 rfl s4 ?_
      refine aw_goto dX8_count_89 (tgt := 93) rfl ?_
      exact K (M 63 w) (fun q0 => by first | omega | exact absurd c3 q0 | exact absurd q0 c3) (fun _ => rfl)
  · match j, hj, hx with
    | 0, hj, hx =>
      cases hj
      replace h := h.2.1 (hx.trans (by decide))
      refine aw_aload_n dX8_count_44 rfl (j := 0) rfl ?_
      refine aw_invv (d' := d + 9) (as := []) (rest := []) dX8_count_45 cv_X8_212 (Nat.lt_succ_self _) rfl rfl rfl rfl rfl (Nat.le_of_ble_eq_true rfl) (AC.mono ?_ h)
      intro r M8 h
      obtain ⟨z9, rfl, h⟩ := h
      show AW (d + 10) mX8_count 48 [(0, .inr 62), (1, .inl w)] [.inl z9] M8 Q
      exact aw_iret dX8_count_48 rfl h
    | 1, hj, hx =>
      cases hj
      replace h := h.2.2.1 (hx.trans (by decide))
      refine aw_aload_n dX8_count_49 rfl (j := 0) rfl ?_
      refine aw_invv (d' := d + 9) (as := []) (rest := []) dX8_count_50 cv_X8_215 (Nat.lt_succ_self _) rfl rfl rfl rfl rfl (Nat.le_of_ble_eq_true rfl) (AC.mono ?_ h)
      intro r M10 h
      obtain ⟨z11, rfl, h⟩ := h
      show AW (d + 10) mX8_count 53 [(0, .inr 62), (1, .inl w)] [.inl z11] M10 Q
      exact aw_iret dX8_count_53 rfl h
    | 2, hj, hx =>
      cases hj
      replace h := h.2.2.2.1 (hx.trans (by decide))
      refine aw_aload_n dX8_count_54 rfl (j := 0) rfl ?_
      refine aw_invv (d' := d + 9) (as := []) (rest := []) dX8_count_55 cv_X8_218 (Nat.lt_succ_self _) rfl rfl rfl rfl rfl (Nat.le_of_ble_eq_true rfl) (AC.mono ?_ h)
      intro r M12 h
      obtain ⟨z13, rfl, h⟩ := h
      show AW (d + 10) mX8_count 58 [(0, .inr 62), (1, .inl w)] [.inl z13] M12 Q
      exact aw_iret dX8_count_58 rfl h
    | 3, hj, hx =>
      cases hj
      replace h := h.2.2.2.2.1 (hx.trans (by decide))
      refine aw_aload_n dX8_count_59 rfl (j := 0) rfl ?_
      refine aw_getf dX8_count_60 fl_X8_202 rfl rfl rfl ?_
      exact aw_iret dX8_count_63 rfl h
    | 4, hj, hx =>
      cases hj
      replace h := h.2.2.2.2.2.1 (hx.trans (by decide))
      refine aw_aload_n dX8_count_64 rfl (j := 0) rfl ?_
      refine aw_getf dX8_count_65 fl_X8_60 rfl rfl rfl ?_
      exact aw_iret dX8_count_68 rfl h
    | 5, hj, hx =>
      cases hj
      replace h := h.2.2.2.2.2.2 (hx.trans (by decide))
      refine aw_aload_n dX8_count_69 rfl (j := 0) rfl ?_
      refine aw_getf dX8_count_70 fl_X8_107 rfl rfl rfl ?_
      exact aw_iret dX8_count_73 rfl h
    | n + 6, hj, hx => exact absurd hj (by simp)
