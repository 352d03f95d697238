theorem sg_X3_levelAt {d : Nat} {M : am_M} {Q : Option Int → am_M → Prop} {a : Nat} (ha : am_sc a) {f p : Int} (h : ((am_r f ∧ am_r (M a 0)) ∧ am_r p ∧ am_r (M a 1)) ∧
 (((0 ≤ f ∧ f < M a 0) ∧ 0 ≤ p ∧ p < M a 1 → (0 ≤ (f * 12) + p ∧ (f * 12) + p < 96))) ∧
 ∀ (v4 : Int), (¬ ((0 ≤ f ∧ f < M a 0) ∧ 0 ≤ p ∧ p < M a 1) → v4 = 0) →
 ((0 ≤ f ∧ f < M a 0) ∧ 0 ≤ p ∧ p < M a 1 → v4 = M (a + 2) ((f * 12) + p)) →
 Q (some v4) M) : AC (d + 2) mX3_levelAt [.inr a, .inl f, .inl p] M Q := by
  refine aw_body (by decide) (Nat.le_of_ble_eq_true rfl) rfl ?_
  refine aw_aload_n dX3_levelAt_0 rfl (j := 0) rfl ?_
  refine aw_iload_n dX3_levelAt_1 rfl (j := 1) rfl ?_
  refine aw_iload_n dX3_levelAt_2 rfl (j := 2) rfl ?_
  obtain ⟨s1, h⟩ := h
  refine aw_invv (d' := d + 1) (as := [.inl f, .inl p]) (rest := []) dX3_levelAt_3 cv_X3_47 (Nat.lt_succ_self _) ha.1 rfl rfl rfl rfl (Nat.le_of_ble_eq_true rfl) (fc_hasPlace ha s1 ?_)
  show AW (d + 2) mX3_levelAt 6 [(0, .inr a), (1, .inl f), (2, .inl p)] [.inl (am_b ((0 ≤ f ∧ f < M a 0) ∧ 0 ≤ p ∧ p < M a 1))] M Q
  obtain ⟨g, h⟩ := h
  have K : ∀ (v4 : Int), (¬ ((0 ≤ f ∧ f < M a 0) ∧ 0 ≤ p ∧ p < M a 1) → v4 = 0) → ((0 ≤ f ∧ f < M a 0) ∧ 0 ≤ p ∧ p < M a 1 → v4 = M (a + 2) ((f * 12) + p)) → AW (d + 2) mX3_levelAt 24 [(0, .inr a), (1, .inl f), (2, .inl p)] [.inl v4] M Q := by
    intro v4 q5 q6
    replace h := h v4 q5 q6
    exact aw_iret dX3_levelAt_24 rfl h
  clear h
  refine aw_ifb_eq dX3_levelAt_6 (tgt := 23) rfl (fun c2 => ?_) (fun c2 => ?_)
  · have c2 : ¬ ((0 ≤ f ∧ f < M a 0) ∧ 0 ≤ p ∧ p < M a 1) := c2
    refine aw_iconst dX3_levelAt_23 ?_
    exact K 0 (fun _ => rfl) (fun q0 => by first | omega | exact absurd c2 q0 | exact absurd q0 c2)
  · have c2 : (0 ≤ f ∧ f < M a 0) ∧ 0 ≤ p ∧ p < M a 1 := c2
    replace g := g c2
    refine aw_aload_n dX3_levelAt_9 rfl (j := 0) rfl ?_
    refine aw_getr dX3_levelAt_10 fl_X3_15 ha.1 rfl ?_
    refine aw_iload_n dX3_levelAt_13 rfl (j := 1) rfl ?_
    refine aw_bipush dX3_levelAt_14 (by decide) ?_
    refine aw_imul dX3_levelAt_16 ?_
    refine aw_iload_n dX3_levelAt_17 rfl (j := 2) rfl ?_
    refine aw_iadd dX3_levelAt_18 ?_
    have s3 := g
    refine aw_iaload dX3_levelAt_19 ha.2.2 s3 ?_
    refine aw_goto dX3_levelAt_20 (tgt := 24) rfl ?_
    exact K (M (a + 2) ((f * 12) + p)) (fun q0 => by first | omega | exact absurd c2 q0 | exact absurd q0 c2) (fun _ => rfl)
theorem sg_X3_putLevel {d : Nat} {M : am_M} {Q : Option Int → am_M → Prop} {a : Nat} (ha : am_sc a) {f p n : Int} (h : ((am_r f ∧ am_r (M a 0)) ∧ am_r p ∧ am_r (M a 1)) ∧
 ((¬ ((0 ≤ f ∧ f < M a 0) ∧ 0 ≤ p ∧ p < M a 1) →
 Q none M) ∧
 ((0 ≤ f ∧ f < M a 0) ∧ 0 ≤ p ∧ p < M a 1 →
 (0 ≤ (f * 12) + p ∧ (f * 12) + p < 96) ∧
 Q none (am_up M (a + 2) ((f * 12) + p) n)))) : AC (d + 2) mX3_putLevel [.inr a, .inl f, .inl p, .inl n] M Q := by
  refine aw_body (by decide) (Nat.le_of_ble_eq_true rfl) rfl ?_
  refine aw_aload_n dX3_putLevel_0 rfl (j := 0) rfl ?_
  refine aw_iload_n dX3_putLevel_1 rfl (j := 1) rfl ?_
  refine aw_iload_n dX3_putLevel_2 rfl (j := 2) rfl ?_
  obtain ⟨s1, h⟩ := h
  refine aw_invv (d' := d + 1) (as := [.inl f, .inl p]) (rest := []) dX3_putLevel_3 cv_X3_47 (Nat.lt_succ_self _) ha.1 rfl rfl rfl rfl (Nat.le_of_ble_eq_true rfl) (fc_hasPlace ha s1 ?_)
  show AW (d + 2) mX3_putLevel 6 [(0, .inr a), (1, .inl f), (2, .inl p), (3, .inl n)] [.inl (am_b ((0 ≤ f ∧ f < M a 0) ∧ 0 ≤ p ∧ p < M a 1))] M Q
  refine aw_ifb_eq dX3_putLevel_6 (tgt := 21) rfl (fun c2 => ?_) (fun c2 => ?_)
  · replace h := h.1 c2
    exact aw_vret dX3_putLevel_21 rfl h
  · replace h := h.2 c2
    refine aw_aload_n dX3_putLevel_9 rfl (j := 0) rfl ?_
    refine aw_getr dX3_putLevel_10 fl_X3_15 ha.1 rfl ?_
    refine aw_iload_n dX3_putLevel_13 rfl (j := 1) rfl ?_
    refine aw_bipush dX3_putLevel_14 (by decide) ?_
    refine aw_imul dX3_putLevel_16 ?_
    refine aw_iload_n dX3_putLevel_17 rfl (j := 2) rfl ?_
    refine aw_iadd dX3_putLevel_18 ?_
    refine aw_iload_n dX3_putLevel_19 rfl (j := 3) rfl ?_
    obtain ⟨s3, h⟩ := h
    refine aw_iastore dX3_putLevel_20 ha.2.2 s3 ?_
    exact aw_vret dX3_putLevel_21 rfl h
theorem sg_X8_apart {d : Nat} {M : am_M} {Q : Option Int → am_M → Prop} {f k m : Int} (h : (am_ptok (M 63) (M 71) f k) ∧
 (am_ptok (M 63) (M 71) (f + 1) m) ∧
 ((am_r ((am_pt (M 63) (M 71) f k) - (am_pt (M 63) (M 71) (f + 1) m)))) ∧
 ∀ (v5 : Int), (0 ≤ (am_pt (M 63) (M 71) f k) - (am_pt (M 63) (M 71) (f + 1) m) → v5 = (am_pt (M 63) (M 71) f k) - (am_pt (M 63) (M 71) (f + 1) m)) →
 ((am_pt (M 63) (M 71) f k) - (am_pt (M 63) (M 71) (f + 1) m) < 0 → v5 = -((am_pt (M 63) (M 71) f k) - (am_pt (M 63) (M 71) (f + 1) m))) →
 Q (some v5) M) : AC (d + 3) mX8_apart [.inr 62, .inl f, .inl k, .inl m] M Q := by
  refine aw_body (by decide) (Nat.le_of_ble_eq_true rfl) rfl ?_
  refine aw_aload_n dX8_apart_0 rfl (j := 0) rfl ?_
  refine aw_iload_n dX8_apart_1 rfl (j := 1) rfl ?_
  refine aw_iload_n dX8_apart_2 rfl (j := 2) rfl ?_
  obtain ⟨s1, h⟩ := h
  refine aw_invv (d' := d + 2) (as := [.inl f, .inl k]) (rest := []) dX8_apart_3 cv_X8_121 (Nat.lt_succ_self _) rfl rfl rfl rfl rfl (Nat.le_of_ble_eq_true rfl) (fc_pitchOf s1 ?_)
  show AW (d + 3) mX8_apart 6 [(0, .inr 62), (1, .inl f), (2, .inl k), (3, .inl m)] [.inl (am_pt (M 63) (M 71) f k)] M Q
  refine aw_aload_n dX8_apart_6 rfl (j := 0) rfl ?_
  refine aw_iload_n dX8_apart_7 rfl (j := 1) rfl ?_
  refine aw_iconst dX8_apart_8 ?_
  refine aw_iadd dX8_apart_9 ?_
  refine aw_iload_n dX8_apart_10 rfl (j := 3) rfl ?_
  obtain ⟨s2, h⟩ := h
  refine aw_invv (d' := d + 2) (as := [.inl (f + 1), .inl m]) (rest := [.inl (am_pt (M 63) (M 71) f k)]) dX8_apart_11 cv_X8_121 (Nat.lt_succ_self _) rfl rfl rfl rfl rfl (Nat.le_of_ble_eq_true rfl) (fc_pitchOf s2 ?_)
  show AW (d + 3) mX8_apart 14 [(0, .inr 62), (1, .inl f), (2, .inl k), (3, .inl m)] [.inl (am_pt (M 63) (M 71) (f + 1) m), .inl (am_pt (M 63) (M 71) f k)] M Q
  refine aw_isub dX8_apart_14 ?_
  refine aw_istore (L' := [(0, .inr 62), (1, .inl f), (2, .inl k), (3, .inl m), (4, .inl ((am_pt (M 63) (M 71) f k) - (am_pt (M 63) (M 71) (f + 1) m)))]) dX8_apart_15 (Nat.le_of_ble_eq_true rfl) rfl ?_
  refine aw_iload dX8_apart_17 (j := 4) rfl ?_
  obtain ⟨g, h⟩ := h
  have K : ∀ (v5 : Int), (0 ≤ (am_pt (M 63) (M 71) f k) - (am_pt (M 63) (M 71) (f + 1) m) → v5 = (am_pt (M 63) (M 71) f k) - (am_pt (M 63) (M 71) (f + 1) m)) → ((am_pt (M 63) (M 71) f k) - (am_pt (M 63) (M 71) (f + 1) m) < 0 → v5 = -((am_pt (M 63) (M 71) f k) - (am_pt (M 63) (M 71) (f + 1) m))) → AW (d + 3) mX8_apart 30 [(0, .inr 62), (1, .inl f), (2, .inl k), (3, .inl m), (4, .inl ((am_pt (M 63) (M 71) f k) - (am_pt (M 63) (M 71) (f + 1) m)))] [.inl v5] M Q := by
    intro v5 q6 q7
    replace h := h v5 q6 q7
    exact aw_iret dX8_apart_30 rfl h
  clear h
  have s3 := g
  refine aw_if_ge dX8_apart_19 (tgt := 28) rfl s3 (fun c4 => ?_) (fun c4 => ?_)
  · have c4 : 0 ≤ (am_pt (M 63) (M 71) f k) - (am_pt (M 63) (M 71) (f + 1) m) := c4
    refine aw_iload dX8_apart_28 (j := 4) rfl ?_
    exact K ((am_pt (M 63) (M 71) f k) - (am_pt (M 63) (M 71) (f + 1) m)) (fun _ => rfl) (fun q0 => by first | omega | exact absurd c4 q0 | exact absurd q0 c4)
  · have c4 : (am_pt (M 63) (M 71) f k) - (am_pt (M 63) (M 71) (f + 1) m) < 0 := c4
    refine aw_iload dX8_apart_22 (j := 4) rfl ?_
    refine aw_ineg dX8_apart_24 ?_
    refine aw_goto dX8_apart_25 (tgt := 30) rfl ?_
    exact K (-((am_pt (M 63) (M 71) f k) - (am_pt (M 63) (M 71) (f + 1) m))) (fun q0 => by first | omega | exact absurd c4 q0 | exact absurd q0 c4) (fun _ => rfl)
