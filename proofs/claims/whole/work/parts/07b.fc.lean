def am_at (n : Int) (t : Int → Int) (k : Int) : Int := if k < n then t k % 256 else -1
def am_atok (n : Int) (t : Int → Int) (k : Int) : Prop := am_r k ∧ am_r n ∧ (k < n → (0 ≤ k ∧ k < 140) ∧ (-128 ≤ t k ∧ t k < 128))
def am_ml (s : Int → Int) (f p : Int) : Int := if 0 ≤ p ∧ p ≤ s 1 - 1 then s (5 + 12 * f + p) else 0
def am_mlok (s : Int → Int) (f p : Int) : Prop := (am_r p ∧ am_r 0 ∧ am_r (s 1 - 1)) ∧ (0 ≤ p ∧ p ≤ s 1 - 1 → 0 ≤ 5 + 12 * f + p ∧ 5 + 12 * f + p < 101)
def am_kd (n : Int) (t : Int → Int) (k : Int) : Int := if k < 0 ∨ n ≤ k then 0 else if 97 ≤ t k ∧ t k ≤ 122 then 1 else if 48 ≤ t k ∧ t k ≤ 57 then 2 else if t k = 59 then 3 else 4
def am_kdok (n : Int) (t : Int → Int) (k : Int) : Prop := am_r k ∧ am_r n ∧ (0 ≤ k → k < n → k < 140 ∧ am_r (t k))
def am_pi (m : Int) (t : Int → Int) (n f : Int) : Int := if (0 ≤ n ∧ n < m) ∧ 0 ≤ f ∧ f < 8 then t (n * 8 + f) else -9
def am_piok (m n f : Int) : Prop := am_r n ∧ am_r m ∧ am_r f ∧ m ≤ 48
abbrev am_isS (w n : Int) : Prop := (0 ≤ w) ∧ (w < 3) ∧ (am_lo.getD w.toNat 0 ≤ n) ∧ (n ≤ am_hi.getD w.toNat 0)
section FC1
variable {d : Nat} {M : am_M} {Q : Option Int → am_M → Prop}
theorem fc_hasFrame {a : Nat} (ha : am_sc a) {f : Int} (hr : am_r f ∧ am_r (M a 0)) (h : Q (some (am_b (0 ≤ f ∧ f < M a 0))) M) : AC d mX3_hasFrame [.inr a, .inl f] M Q := sg_X3_hasFrame ha ⟨⟨hr.1, fun _ => hr.2⟩, h⟩
theorem fc_at {k : Int} (hr : am_atok (M 62 10) (M 69) k) (h : Q (some (am_at (M 62 10) (M 69) k)) M) : AC d mX8_at [.inr 62, .inl k] M Q := by
  refine sg_X8_at ⟨hr, fun v h1 h2 => ?_⟩
  have e : v = am_at (M 62 10) (M 69) k := by
    unfold am_at
    split <;> omega
  rw [e]; exact h
theorem fc_mlevelAt {f p : Int} (hr : am_mlok (M 63) f p) (h : Q (some (am_ml (M 63) f p)) M) : AC (d + 1) mX8_levelAt [.inr 62, .inl f, .inl p] M Q := by
  refine sg_X8_levelAt ⟨hr.1, hr.2, fun v h1 h2 => ?_⟩
  have e : v = am_ml (M 63) f p := by
    unfold am_ml
    split
    · rename_i hc; exact h2 hc
    · rename_i hc; exact h1 hc
  rw [e]; exact h
theorem fc_kindAt {k : Int} (hr : am_kdok (M 7 0) (M 8) k) (h : Q (some (am_kd (M 7 0) (M 8) k)) M) : AC d mX5_kindAt [.inr 7, .inl k] M Q := by
  obtain ⟨h1, h2, h3⟩ := hr
  have go : ∀ v : Int, v = am_kd (M 7 0) (M 8) k → Q (some v) M := fun v e => by rw [e]; exact h
  refine sg_X5_kindAt ⟨h1, fun c => go _ ?_, fun c => ⟨h2, fun c2 => ⟨⟨c, (h3 c c2).1⟩, (h3 c c2).2, fun c3 => ⟨fun c4 v q1 q2 => go _ ?_, fun c4 => ⟨fun c5 v q1 q2 => go _ ?_, fun c5 => go _ ?_⟩⟩, fun c3 => ⟨fun c4 => ⟨fun c5 v q1 q2 => go _ ?_, fun c5 => ⟨fun c6 v q1 q2 => go _ ?_, fun c6 => go _ ?_⟩⟩, fun c4 => go _ ?_⟩⟩, fun c2 => go _ ?_⟩⟩
  all_goals unfold am_kd
  all_goals (repeat' split) <;> omega
theorem fc_pitchIn {n f : Int} (hr : am_piok (M 41 0) n f) (h : Q (some (am_pi (M 41 0) (M 48) n f)) M) : AC d mX6_pitchIn [.inr 41, .inl n, .inl f] M Q := by
  obtain ⟨h1, h2, h3, h4⟩ := hr
  refine sg_X6_pitchIn ⟨h1, fun c => ?_, fun c => ⟨h2, fun c2 => ?_, fun c2 => ⟨h3, fun c3 => ?_, fun c3 => ⟨fun c4 => ⟨by omega, ?_⟩, fun c4 => ?_⟩⟩⟩⟩
  all_goals unfold am_pi at h
  · rw [if_neg (by omega)] at h; exact h
  · rw [if_neg (by omega)] at h; exact h
  · rw [if_neg (by omega)] at h; exact h
  · rw [if_pos (by omega)] at h; exact h
  · rw [if_neg (by omega)] at h; exact h
theorem am_isS_r : ∀ w : Fin 3, am_r (am_lo.getD w.val 0) ∧ am_r (am_hi.getD w.val 0) := by decide +kernel
theorem fc_isSetting {w n : Int} (hr : am_r w ∧ am_r n) (h : Q (some (am_b (am_isS w n))) M) : AC d mX7_isSetting [.inl w, .inl n] M Q := by
  refine sg_X7_isSetting ⟨⟨hr.1, fun c1 c2 => ⟨⟨c1, c2⟩, hr.2, ?_⟩⟩, h⟩
  have := am_isS_r ⟨w.toNat, by omega⟩
  exact ⟨this.1, fun _ => this.2⟩
end FC1
