/-! walks, by program: what is left of each is its verification condition -/
theorem sg_J6_compare_7cf53 {d : Nat} {M : am_M} {Q : Option Int → am_M → Prop} {x y : Int} (h : (((am_r x) ∧ (am_r y))) ∧
 ∀ (v5 : Int), (y ≤ x → x ≠ y → v5 = 1) →
 (y ≤ x → x = y → v5 = 0) →
 (x < y → v5 = (-1)) →
 Q (some v5) M) : AC (d) mJ6_compare_7cf53 [.inl x, .inl y] M Q := by
  refine aw_body (by decide) (Nat.le_of_ble_eq_true rfl) rfl ?_
  refine aw_iload_n dJ6_compare_7cf53_0 rfl (j := 0) rfl ?_
  refine aw_iload_n dJ6_compare_7cf53_1 rfl (j := 1) rfl ?_
  obtain ⟨g, h⟩ := h
  have K : ∀ (v5 : Int), (y ≤ x → x ≠ y → v5 = 1) → (y ≤ x → x = y → v5 = 0) → (x < y → v5 = (-1)) → AW (d) mJ6_compare_7cf53 19 [(0, .inl x), (1, .inl y)] [.inl v5] M Q := by
    intro v5 q6 q7 q8
    replace h := h v5 q6 q7 q8
    exact aw_iret dJ6_compare_7cf53_19 rfl h
  clear h
  obtain ⟨s1, g⟩ := g
  have s2 := g
  refine aw_icmp_ge dJ6_compare_7cf53_2 (tgt := 9) rfl s1 s2 (fun c3 => ?_) (fun c3 => ?_)
  · have c3 : y ≤ x := c3
    refine aw_iload_n dJ6_compare_7cf53_9 rfl (j := 0) rfl ?_
    refine aw_iload_n dJ6_compare_7cf53_10 rfl (j := 1) rfl ?_
    refine aw_icmp_ne dJ6_compare_7cf53_11 (tgt := 18) rfl s1 s2 (fun c4 => ?_) (fun c4 => ?_)
    · have c4 : x ≠ y := c4
      refine aw_iconst dJ6_compare_7cf53_18 ?_
      exact K 1 (fun _ _ => rfl) (fun q0 q1 => by first | omega | exact absurd c4 q1 | exact absurd q1 c4) (fun q0 => by first | omega | exact absurd c3 q0 | exact absurd q0 c3)
    · have c4 : x = y := c4
      refine aw_iconst dJ6_compare_7cf53_14 ?_
      refine aw_goto dJ6_compare_7cf53_15 (tgt := 19) rfl ?_
      exact K 0 (fun q0 q1 => by first | omega | exact absurd c4 q1 | exact absurd q1 c4) (fun _ _ => rfl) (fun q0 => by first | omega | exact absurd c3 q0 | exact absurd q0 c3)
  · have c3 : x < y := c3
    refine aw_iconst dJ6_compare_7cf53_5 ?_
    refine aw_goto dJ6_compare_7cf53_6 (tgt := 19) rfl ?_
    exact K (-1) (fun q0 q1 => by first | omega | exact absurd c3 q0 | exact absurd q0 c3) (fun q0 q1 => by first | omega | exact absurd c3 q0 | exact absurd q0 c3) (fun _ => rfl)
theorem sg_X8_in {d : Nat} {M : am_M} {Q : Option Int → am_M → Prop} {x lo hi : Int} (h : (((am_r x) ∧ (am_r lo) ∧ (lo ≤ x → (am_r hi)))) ∧
 Q (some (am_b ((lo ≤ x) ∧ (x ≤ hi)))) M) : AC (d) mX8_in [.inl x, .inl lo, .inl hi] M Q := by
  refine aw_body (by decide) (Nat.le_of_ble_eq_true rfl) rfl ?_
  refine aw_iload_n dX8_in_0 rfl (j := 0) rfl ?_
  refine aw_iload_n dX8_in_1 rfl (j := 1) rfl ?_
  obtain ⟨g, h⟩ := h
  have K : AW (d) mX8_in 15 [(0, .inl x), (1, .inl lo), (2, .inl hi)] [.inl (am_b ((lo ≤ x) ∧ (x ≤ hi)))] M Q := by
    exact aw_bret dX8_in_15 rfl h
  clear h
  obtain ⟨s1, g⟩ := g
  obtain ⟨s2, g⟩ := g
  refine aw_icmp_lt dX8_in_2 (tgt := 14) rfl s1 s2 (fun c3 => ?_) (fun c3 => ?_)
  · have c3 : x < lo := c3
    refine aw_iconst dX8_in_14 ?_
    have hp : ¬ ((lo ≤ x) ∧ (x ≤ hi)) := by first | omega | simp_all
    have K1 := K
    rw [am_b_neg hp] at K1
    exact K1
  · have c3 : lo ≤ x := c3
    replace g := g c3
    refine aw_iload_n dX8_in_5 rfl (j := 0) rfl ?_
    refine aw_iload_n dX8_in_6 rfl (j := 2) rfl ?_
    have s4 := g
    refine aw_icmp_gt dX8_in_7 (tgt := 14) rfl s1 s4 (fun c5 => ?_) (fun c5 => ?_)
    · have c5 : hi < x := c5
      refine aw_iconst dX8_in_14 ?_
      have hp : ¬ ((lo ≤ x) ∧ (x ≤ hi)) := by first | omega | simp_all
      have K1 := K
      rw [am_b_neg hp] at K1
      exact K1
    · have c5 : x ≤ hi := c5
      refine aw_iconst dX8_in_10 ?_
      refine aw_goto dX8_in_11 (tgt := 15) rfl ?_
      have hp : (lo ≤ x) ∧ (x ≤ hi) := by first | omega | simp_all
      have K1 := K
      rw [am_b_pos hp] at K1
      exact K1
theorem sg_J7_fill_53178 {d : Nat} {M : am_M} {Q : Option Int → am_M → Prop} {a n : Nat} (ha : am_sh[a]? = some (.inl (0, n))) {v : Int} (h : AW (d) mJ7_fill_53178 5 [(0, .inr a), (1, .inl v), (2, .inl 0), (3, .inl (n : Nat))] [] M Q) : AC (d) mJ7_fill_53178 [.inr a, .inl v] M Q := by
  refine aw_body (by decide) (Nat.le_of_ble_eq_true rfl) rfl ?_
  refine aw_iconst dJ7_fill_53178_0 ?_
  refine aw_istore_n (L' := [(0, .inr a), (1, .inl v), (2, .inl 0)]) dJ7_fill_53178_1 rfl (Nat.le_of_ble_eq_true rfl) rfl ?_
  refine aw_aload_n dJ7_fill_53178_2 rfl (j := 0) rfl ?_
  refine aw_alen dJ7_fill_53178_3 ha ?_
  refine aw_istore_n (L' := [(0, .inr a), (1, .inl v), (2, .inl 0), (3, .inl (n : Nat))]) dJ7_fill_53178_4 rfl (Nat.le_of_ble_eq_true rfl) rfl ?_
  exact h
theorem sg_J7_fill_53178_5 {d : Nat} {M : am_M} {Q : Option Int → am_M → Prop} {a n : Nat} (ha : am_sh[a]? = some (.inl (0, n))) {v i m : Int} (h : (am_r i) ∧
 (am_r m) ∧
 ((m ≤ i →
 Q none M) ∧
 (i < m →
 (0 ≤ i ∧ i < n) ∧
 AW (d) mJ7_fill_53178 5 [(0, .inr a), (1, .inl v), (2, .inl (i + 1)), (3, .inl m)] [] (am_up M a i v) Q))) : AW (d) mJ7_fill_53178 5 [(0, .inr a), (1, .inl v), (2, .inl i), (3, .inl m)] [] M Q := by
  refine aw_iload_n dJ7_fill_53178_5 rfl (j := 2) rfl ?_
  refine aw_iload_n dJ7_fill_53178_6 rfl (j := 3) rfl ?_
  obtain ⟨s1, h⟩ := h
  obtain ⟨s2, h⟩ := h
  refine aw_icmp_ge dJ7_fill_53178_7 (tgt := 20) rfl s1 s2 (fun c3 => ?_) (fun c3 => ?_)
  · replace h := h.1 c3
    exact aw_vret dJ7_fill_53178_20 rfl h
  · replace h := h.2 c3
    refine aw_aload_n dJ7_fill_53178_10 rfl (j := 0) rfl ?_
    refine aw_iload_n dJ7_fill_53178_11 rfl (j := 2) rfl ?_
    refine aw_iload_n dJ7_fill_53178_12 rfl (j := 1) rfl ?_
    obtain ⟨s4, h⟩ := h
    refine aw_iastore dJ7_fill_53178_13 ha s4 ?_
    refine aw_iinc (L' := [(0, .inr a), (1, .inl v), (2, .inl (i + 1)), (3, .inl m)]) dJ7_fill_53178_14 (j := 2) rfl (Nat.le_of_ble_eq_true rfl) rfl ?_
    refine aw_goto dJ7_fill_53178_17 (tgt := 5) rfl ?_
    exact h
theorem sg_X8_worthOf {d : Nat} {M : am_M} {Q : Option Int → am_M → Prop} {k m : Int} (h : (0 ≤ (7 * k) + m ∧ (7 * k) + m < 49) ∧
 Q (some (M 74 ((7 * k) + m))) M) : AC (d) mX8_worthOf [.inr 62, .inl k, .inl m] M Q := by
  refine aw_body (by decide) (Nat.le_of_ble_eq_true rfl) rfl ?_
  refine aw_aload_n dX8_worthOf_0 rfl (j := 0) rfl ?_
  refine aw_getr dX8_worthOf_1 fl_X8_45 rfl rfl ?_
  refine aw_bipush dX8_worthOf_4 (by decide) ?_
  refine aw_iload_n dX8_worthOf_6 rfl (j := 1) rfl ?_
  refine aw_imul dX8_worthOf_7 ?_
  refine aw_iload_n dX8_worthOf_8 rfl (j := 2) rfl ?_
  refine aw_iadd dX8_worthOf_9 ?_
  obtain ⟨s1, h⟩ := h
  refine aw_iaload dX8_worthOf_10 rfl s1 ?_
  exact aw_iret dX8_worthOf_11 rfl h
