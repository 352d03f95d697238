def am_fg (n : Int) (t : Int → Int) (k : Int) : Int := if am_kd n t k = 2 then t k - 48 else 0
def am_lo2 (s t : Int → Int) (f k : Int) : Int := am_ml s f (t (6 * f + k))
def am_look (s t : Int → Int) (f k : Int) : Prop := (0 ≤ 6 * f + k ∧ 6 * f + k < 48) ∧ am_mlok s f (t (6 * f + k))
def am_pt (s t : Int → Int) (f k : Int) : Int := 4 * t (6 * f + k) + am_cmp (am_ml s f (t (6 * f + k) + 1)) (am_ml s f (t (6 * f + k) - 1))
def am_ptok (s t : Int → Int) (f k : Int) : Prop := (0 ≤ 6 * f + k ∧ 6 * f + k < 48) ∧ am_mlok s f (t (6 * f + k) - 1) ∧ am_mlok s f (t (6 * f + k) + 1) ∧ am_r (am_ml s f (t (6 * f + k) + 1)) ∧ am_r (am_ml s f (t (6 * f + k) - 1))
theorem am_kd_r (n : Int) (t : Int → Int) (k : Int) : 0 ≤ am_kd n t k ∧ am_kd n t k ≤ 4 := by
  unfold am_kd
  (repeat' split) <;> omega
theorem am_kd_2 {n : Int} {t : Int → Int} {k : Int} (h : am_kd n t k = 2) : 0 ≤ k ∧ k < n ∧ 48 ≤ t k ∧ t k ≤ 57 := by
  unfold am_kd at h
  revert h
  (repeat' split) <;> omega
section FC2
variable {d : Nat} {M : am_M} {Q : Option Int → am_M → Prop}
theorem fc_hasPlace {a : Nat} (ha : am_sc a) {f p : Int} (hr : (am_r f ∧ am_r (M a 0)) ∧ am_r p ∧ am_r (M a 1)) (h : Q (some (am_b ((0 ≤ f ∧ f < M a 0) ∧ 0 ≤ p ∧ p < M a 1))) M) : AC (d + 1) mX3_hasPlace [.inr a, .inl f, .inl p] M Q :=
  sg_X3_hasPlace ha ⟨hr.1, fun _ => ⟨hr.2.1, fun _ => hr.2.2⟩, h⟩
theorem fc_figureAt {k : Int} (hr : am_kdok (M 7 0) (M 8) k) (h : Q (some (am_fg (M 7 0) (M 8) k)) M) : AC (d + 1) mX5_figureAt [.inr 7, .inl k] M Q := by
  have h9 := am_kd_r (M 7 0) (M 8) k
  refine sg_X5_figureAt ⟨hr, ⟨by omega, fun c => ?_⟩, fun v h1 h2 => ?_⟩
  · have h8 := am_kd_2 c
    exact ⟨h8.1, (hr.2.2 h8.1 h8.2.1).1⟩
  · have e : v = am_fg (M 7 0) (M 8) k := by
      unfold am_fg
      split <;> omega
    rw [e]; exact h
theorem fc_isPlace {f p : Int} (hr : (am_r f ∧ am_r p) ∧ am_r (M 63 0 - 1) ∧ am_r (M 63 1 - 1)) (h : Q (some (am_b ((0 ≤ f ∧ f ≤ M 63 0 - 1) ∧ 0 ≤ p ∧ p ≤ M 63 1 - 1))) M) : AC (d + 1) mX8_isPlace [.inr 62, .inl f, .inl p] M Q :=
  sg_X8_isPlace ⟨⟨hr.1.1, am_r0, hr.2.1⟩, fun _ => ⟨hr.1.2, am_r0, hr.2.2⟩, h⟩
theorem fc_loudOf {f k : Int} (hr : am_look (M 63) (M 71) f k) (h : Q (some (am_lo2 (M 63) (M 71) f k)) M) : AC (d + 2) mX8_loudOf [.inr 62, .inl f, .inl k] M Q := sg_X8_loudOf ⟨hr.1, hr.2, h⟩
theorem fc_pitchOf {f k : Int} (hr : am_ptok (M 63) (M 71) f k) (h : Q (some (am_pt (M 63) (M 71) f k)) M) : AC (d + 2) mX8_pitchOf [.inr 62, .inl f, .inl k] M Q := by
  obtain ⟨h1, h2, h3, h4, h5⟩ := hr
  refine sg_X8_pitchOf ⟨h1, h2, h3, ⟨h4, h5⟩, fun v q1 q2 q3 => ?_⟩
  have e : v = am_cmp (am_ml (M 63) f (M 71 (6 * f + k) + 1)) (am_ml (M 63) f (M 71 (6 * f + k) - 1)) := by
    unfold am_cmp
    (repeat' split) <;> omega
  rw [e]; exact h
end FC2
