/-! small methods, as functions -/
theorem fc_compare {d : Nat} {M : am_M} {Q : Option Int → am_M → Prop} {x y : Int} (hr : am_r x ∧ am_r y) (h : Q (some (am_cmp x y)) M) : AC d mJ6_compare_7cf53 [.inl x, .inl y] M Q := by
  refine sg_J6_compare_7cf53 ⟨hr, fun v h1 h2 h3 => ?_⟩
  have e : v = am_cmp x y := by
    unfold am_cmp
    split
    · omega
    · split <;> omega
  rw [e]
  exact h
theorem fc_in {d : Nat} {M : am_M} {Q : Option Int → am_M → Prop} {x lo hi : Int} (hr : am_r x ∧ am_r lo ∧ am_r hi) (h : Q (some (am_b (lo ≤ x ∧ x ≤ hi))) M) : AC d mX8_in [.inl x, .inl lo, .inl hi] M Q :=
  sg_X8_in ⟨⟨hr.1, hr.2.1, fun _ => hr.2.2⟩, h⟩
theorem fc_worthOf {d : Nat} {M : am_M} {Q : Option Int → am_M → Prop} {k m : Int} (hr : 0 ≤ 7 * k + m ∧ 7 * k + m < 49) (h : Q (some (M 74 (7 * k + m))) M) : AC d mX8_worthOf [.inr 62, .inl k, .inl m] M Q := sg_X8_worthOf ⟨hr, h⟩
/-- Arrays.fill -/
def am_fill (M : am_M) (a n : Nat) (v : Int) : am_M := fun c j => if c = a then (if 0 ≤ j ∧ j < n then v else M c j) else M c j
theorem fc_fill {d : Nat} {M : am_M} {Q : Option Int → am_M → Prop} {a n : Nat} (ha : am_sh[a]? = some (.inl (0, n))) {v : Int} (h : Q none (am_fill M a n v)) : AC d mJ7_fill_53178 [.inr a, .inl v] M Q := by
  have hn := am_small a 0 n ha
  refine sg_J7_fill_53178 ha ?_
  have key : ∀ (k : Nat) (i : Int) (M' : am_M), 0 ≤ i → i + k = n → (∀ c j, (c ≠ a ∨ j < 0 ∨ i ≤ j) → M' c j = M c j) → (∀ j, 0 ≤ j → j < i → M' a j = v) → AW d mJ7_fill_53178 5 [(0, .inr a), (1, .inl v), (2, .inl i), (3, .inl (n : Int))] [] M' Q := by
    intro k
    induction k with
    | zero =>
      intro i M' h0 h1 h2 h3
      refine sg_J7_fill_53178_5 ha ⟨by omega, by omega, fun _ => ?_, fun c => absurd c (by omega)⟩
      have e : M' = am_fill M a n v := by
        funext c j
        unfold am_fill
        by_cases hc : c = a
        · subst hc
          by_cases hj : 0 ≤ j ∧ j < n
          · rw [if_pos rfl, if_pos hj]; exact h3 j hj.1 (by omega)
          · rw [if_pos rfl, if_neg hj]; exact h2 c j (by omega)
        · rw [if_neg hc]; exact h2 c j (Or.inl hc)
      rw [e]
      exact h
    | succ k ih =>
      intro i M' h0 h1 h2 h3
      refine sg_J7_fill_53178_5 ha ⟨by omega, by omega, fun c => absurd c (by omega), fun _ => ⟨by omega, ?_⟩⟩
      refine ih (i + 1) _ (by omega) (by omega) (fun c j hcj => ?_) (fun j hj1 hj2 => ?_)
      · unfold am_up
        by_cases hc : c = a
        · subst hc
          rw [if_pos rfl, if_neg (by omega)]
          exact h2 c j (by omega)
        · rw [if_neg hc]; exact h2 c j (Or.inl hc)
      · by_cases hj : j = i
        · subst hj; exact am_up_same _ _ _ _
        · rw [am_up_idx _ _ hj]; exact h3 j hj1 (by omega)
  exact key n 0 M (by omega) (by omega) (fun _ _ _ => rfl) (fun j h1 h2 => absurd h1 (by omega))
