def am_lv (F B : Int) (t : Int → Int) (f p : Int) : Int := if (0 ≤ f ∧ f < F) ∧ 0 ≤ p ∧ p < B then t (f * 12 + p) else 0
def am_lvok (F B f p : Int) : Prop := am_r f ∧ am_r p ∧ am_r F ∧ am_r B ∧ F ≤ 8 ∧ B ≤ 12
def am_ap (s t : Int → Int) (f k m : Int) : Int := am_abs (am_pt s t f k - am_pt s t (f + 1) m)
def am_apok (s t : Int → Int) (f k m : Int) : Prop := am_ptok s t f k ∧ am_ptok s t (f + 1) m ∧ am_r (am_pt s t f k - am_pt s t (f + 1) m)
section FC3
variable {d : Nat} {M : am_M} {Q : Option Int → am_M → Prop}
theorem fc_levelAt {a : Nat} (ha : am_sc a) {f p : Int} (hr : am_lvok (M a 0) (M a 1) f p) (h : Q (some (am_lv (M a 0) (M a 1) (M (a + 2)) f p)) M) : AC (d + 2) mX3_levelAt [.inr a, .inl f, .inl p] M Q := by
  obtain ⟨h1, h2, h3, h4, h5, h6⟩ := hr
  refine sg_X3_levelAt ha ⟨⟨⟨h1, h3⟩, h2, h4⟩, fun c => by omega, fun v q1 q2 => ?_⟩
  have e : v = am_lv (M a 0) (M a 1) (M (a + 2)) f p := by
    unfold am_lv
    split
    · rename_i hc; exact q2 hc
    · rename_i hc; exact q1 hc
  rw [e]; exact h
theorem fc_apart {f k m : Int} (hr : am_apok (M 63) (M 71) f k m) (h : Q (some (am_ap (M 63) (M 71) f k m)) M) : AC (d + 3) mX8_apart [.inr 62, .inl f, .inl k, .inl m] M Q := by
  obtain ⟨h1, h2, h3⟩ := hr
  refine sg_X8_apart ⟨h1, h2, h3, fun v q1 q2 => ?_⟩
  have e : v = am_ap (M 63) (M 71) f k m := by
    unfold am_ap am_abs
    split <;> omega
  rw [e]; exact h
end FC3
