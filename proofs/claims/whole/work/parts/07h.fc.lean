def am_pw (s t w : Int → Int) (f k m re : Int) : Int := if re < am_ap s t f k m then -1 else 1000 - am_ap s t f k m + w (7 * (k + 1) + (m + 1))
def am_pwok (s t : Int → Int) (f k m re : Int) : Prop := am_apok s t f k m ∧ am_r (am_ap s t f k m) ∧ am_r re ∧ (0 ≤ 7 * (k + 1) + (m + 1) ∧ 7 * (k + 1) + (m + 1) < 49)
def am_ps (a b w : Int → Int) (re i j : Int) : Int := if re < am_abs (a i - b j) then -1 else 1000 - am_abs (a i - b j) + w ((i + 1) * 7 + j + 1)
def am_psok (a b : Int → Int) (re i j : Int) : Prop := (0 ≤ i ∧ i < 6) ∧ (0 ≤ j ∧ j < 6) ∧ am_r (a i - b j) ∧ am_r (am_abs (a i - b j)) ∧ am_r re
def am_kb (dp tu mo : Int) : Int := if dp ≤ 1 then 0 else if tu = 0 then 1 else if mo ≤ 2 * tu then 2 else 3
section FC4
variable {d : Nat} {M : am_M} {Q : Option Int → am_M → Prop}
theorem fc_pairWorth {f k m re : Int} (hr : am_pwok (M 63) (M 71) f k m re) (h : Q (some (am_pw (M 63) (M 71) (M 74) f k m re)) M) : AC (d + 4) mX8_pairWorth [.inr 62, .inl f, .inl k, .inl m, .inl re] M Q := by
  obtain ⟨h1, h2, h3, h4⟩ := hr
  refine sg_X8_pairWorth ⟨h1, ⟨h2, h3, fun _ => h4⟩, fun v q1 q2 => ?_⟩
  have e : v = am_pw (M 63) (M 71) (M 74) f k m re := by
    unfold am_pw
    split
    · rename_i hc; exact q2 hc
    · rename_i hc; exact q1 (by omega)
  rw [e]; exact h
theorem fc_pairedScore {i j : Int} (hr : am_psok (M 38) (M 39) (M 36 6) i j) (h : Q (some (am_ps (M 38) (M 39) (M 40) (M 36 6) i j)) M) : AC (d + 1) mX1_pairedScore [.inr 36, .inl i, .inl j] M Q := by
  obtain ⟨h1, h2, h3, h4, h5⟩ := hr
  refine sg_X1_pairedScore ⟨h1, h2, h3, ⟨h4, h5, fun _ => by omega⟩, fun v q1 q2 => ?_⟩
  have e : v = am_ps (M 38) (M 39) (M 40) (M 36 6) i j := by
    unfold am_ps
    split
    · rename_i hc; exact q2 hc
    · rename_i hc; exact q1 (by omega)
  rw [e]; exact h
theorem fc_kindBy {dp tu mo : Int} (hr : am_r dp ∧ am_r tu ∧ am_r (2 * tu) ∧ am_r mo) (h : Q (some (am_kb dp tu mo)) M) : AC d mX6_kindBy [.inl dp, .inl tu, .inl mo] M Q := by
  obtain ⟨h1, h2, h3, h4⟩ := hr
  unfold am_kb at h
  refine sg_X6_kindBy ⟨h1, fun c => ⟨h2, fun c2 => ⟨⟨h3, h4⟩, fun v q1 q2 => ?_⟩, fun c2 => ?_⟩, fun c => ?_⟩
  · rw [if_neg (by omega), if_neg c2] at h
    have e : v = if mo ≤ 2 * tu then 2 else 3 := by split <;> omega
    rw [e]; exact h
  · rw [if_neg (by omega), if_pos c2] at h; exact h
  · rw [if_pos c] at h; exact h
theorem fc_cworthOf {n : Int} (hr : 0 ≤ n ∧ n < 48) (h : Q (some (M 47 n * (M 46 n + 1) - M 44 n)) M) : AC d mX6_worthOf [.inr 41, .inl n] M Q := sg_X6_worthOf ⟨hr, h⟩
theorem fc_isKept {n : Int} (hr : am_r n ∧ am_r (M 41 0) ∧ M 41 0 ≤ 48 ∧ (0 ≤ n → n < M 41 0 → am_r (M 43 n)) ∧ am_r (M 2 2)) (h : Q (some (am_b (0 ≤ n ∧ n < M 41 0 ∧ M 2 2 ≤ M 43 n))) M) : AC d mX7_isKept [.inr 0, .inl n] M Q := by
  obtain ⟨h1, h2, h3, h4, h5⟩ := hr
  exact sg_X7_isKept ⟨⟨h1, fun c => ⟨h2, fun c2 => ⟨⟨c, by omega⟩, h4 c c2, h5⟩⟩⟩, h⟩
end FC4
