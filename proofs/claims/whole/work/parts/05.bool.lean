/-! truth values on the abstract machine's stack -/
def am_b (P : Prop) [Decidable P] : Int := if P then 1 else 0
theorem am_b_pos {P : Prop} [Decidable P] (h : P) : am_b P = 1 := if_pos h
theorem am_b_neg {P : Prop} [Decidable P] (h : ¬ P) : am_b P = 0 := if_neg h
theorem am_b_01 (P : Prop) [Decidable P] : am_b P = 0 ∨ am_b P = 1 := by
  by_cases h : P
  · exact Or.inr (am_b_pos h)
  · exact Or.inl (am_b_neg h)
theorem am_b_r (P : Prop) [Decidable P] : -2147483648 ≤ am_b P ∧ am_b P < 2147483648 := by
  rcases am_b_01 P with h | h <;> rw [h] <;> decide
theorem am_b_congr {P P' : Prop} [Decidable P] [Decidable P'] (h : P ↔ P') : am_b P = am_b P' := by
  by_cases hp : P
  · rw [am_b_pos hp, am_b_pos (h.mp hp)]
  · rw [am_b_neg hp, am_b_neg (fun q => hp (h.mpr q))]
section AMB
variable {d : Nat} {mm : am_mm} {pc : Nat} {L L' : List (Nat × am_v)} {st : List am_v} {M : am_M} {Q : Option Int → am_M → Prop}
theorem aw_ifb_eq {P : Prop} [Decidable P] {off : Int} {tgt : Nat} (hd : decode mm.2.1 pc = .ok (.ifCond .eq off, 3)) (ht : (pc : Int) + off = (tgt : Int)) (kt : ¬ P → AW d mm tgt L st M Q) (kf : P → AW d mm (pc + 3) L st M Q) : AW d mm pc L (.inl (am_b P) :: st) M Q := by
  refine aw_if_eq hd ht (am_b_r P) (fun c => kt (fun h => ?_)) (fun c => ?_)
  · rw [am_b_pos h] at c; exact absurd c (by decide)
  · by_cases h : P
    · exact kf h
    · exact absurd (am_b_neg h) c
theorem aw_ifb_ne {P : Prop} [Decidable P] {off : Int} {tgt : Nat} (hd : decode mm.2.1 pc = .ok (.ifCond .ne off, 3)) (ht : (pc : Int) + off = (tgt : Int)) (kt : P → AW d mm tgt L st M Q) (kf : ¬ P → AW d mm (pc + 3) L st M Q) : AW d mm pc L (.inl (am_b P) :: st) M Q := by
  refine aw_if_ne hd ht (am_b_r P) (fun c => ?_) (fun c => kf (fun h => ?_))
  · by_cases h : P
    · exact kt h
    · exact absurd (am_b_neg h) c
  · rw [am_b_pos h] at c; exact absurd c (by decide)
theorem aw_bret {P : Prop} [Decidable P] (hd : decode mm.2.1 pc = .ok (.ireturn, 1)) (hr : mm.2.2.2 = some .boolean) (h : Q (some (am_b P)) M) : AW d mm pc L [.inl (am_b P)] M Q := aw_zret hd hr (am_b_01 P) h
end AMB
/-- memory read behind a write -/
theorem am_up_same (M : am_M) (a : Nat) (i z : Int) : am_up M a i z a i = z := by simp [am_up]
theorem am_up_idx (M : am_M) (a : Nat) {i j z : Int} (h : j ≠ i) : am_up M a i z a j = M a j := by simp [am_up, h]
theorem am_up_cell (M : am_M) {a b : Nat} (h : b ≠ a) (i z j : Int) : am_up M a i z b j = M b j := by simp [am_up, h]
theorem am_cp_in (M : am_M) (a : Nat) (sp : Int) (b : Nat) {dp n j : Int} (h : dp ≤ j ∧ j < dp + n) : am_cp M a sp b dp n b j = M a (sp + (j - dp)) := by simp [am_cp, h]
theorem am_cp_out (M : am_M) (a : Nat) (sp : Int) (b : Nat) {dp n j : Int} (h : ¬ (dp ≤ j ∧ j < dp + n)) : am_cp M a sp b dp n b j = M b j := by simp [am_cp, h]
theorem am_cp_cell (M : am_M) (a : Nat) (sp : Int) {b c : Nat} (h : c ≠ b) (dp n j : Int) : am_cp M a sp b dp n c j = M c j := by simp [am_cp, h]
abbrev am_r (x : Int) : Prop := -2147483648 ≤ x ∧ x < 2147483648
def am_abs (x : Int) : Int := if x < 0 then -x else x
def am_cmp (x y : Int) : Int := if x < y then -1 else if x = y then 0 else 1
section AMJ
variable {d : Nat} {mm : am_mm} {pc : Nat} {L L' : List (Nat × am_v)} {st : List am_v} {M : am_M} {Q : Option Int → am_M → Prop}
theorem aw_max {idx : Nat} {x y : Int} {rest : List am_v} (hd : decode mm.2.1 pc = .ok (.invokestatic idx, 3)) (hw : am_csB mm.1.cls idx mJ9_max_7cf53 2 = true) (hdd : 0 < d) (hr : rest.length ≤ 8) (hx : am_r x ∧ am_r y) (kk : AW d mm (pc + 3) L (.inl (max x y) :: rest) M Q) : AW d mm pc L (.inl y :: .inl x :: rest) M Q := by
  intro p l e s m args below meth c D dA ad H locs ls C hP hS hl
  obtain ⟨hx', hb, hr', hml, hlk, hown, hts, hK, hinj, hC⟩ := id C
  unfold am_csB at hw
  simp only [Bool.and_eq_true, decide_eq_true_eq] at hw
  obtain ⟨hw, w6⟩ := hw
  obtain ⟨w1, w2, w3, -, -⟩ := am_cB_spec hw
  have h := kk p l e s m args below meth c D dA ad H locs ls C hP hS hl
  refine va_mmax hx' hb (hml.trans hl.1.symm) hown (hts _ (am_mem w1)) (hts _ (am_mem w6)) (hts _ (am_mem w2)) (hts _ (am_mem w3)) (by show 1 ≤ d; omega) (by rw [am_cats]; show _ + 13 ≤ 39 * d; omega) (Nat.zero_le _) (Nat.zero_le _) hd ?_
  have e9 : (if Int32.ofInt x < Int32.ofInt y then Int32.ofInt y else Int32.ofInt x) = Int32.ofInt (max x y) := by
    by_cases hq : x < y
    · rw [if_pos ((am_lt hx.1 hx.2).mpr hq), Int.max_eq_right (by omega)]
    · rw [if_neg (fun z => hq ((am_lt hx.1 hx.2).mp z)), Int.max_eq_left (by omega)]
  rw [e9]
  exact h
theorem aw_min {idx : Nat} {x y : Int} {rest : List am_v} (hd : decode mm.2.1 pc = .ok (.invokestatic idx, 3)) (hw : am_csB mm.1.cls idx mJ9_min_7cf53 2 = true) (hdd : 0 < d) (hr : rest.length ≤ 8) (hx : am_r x ∧ am_r y) (kk : AW d mm (pc + 3) L (.inl (min x y) :: rest) M Q) : AW d mm pc L (.inl y :: .inl x :: rest) M Q := by
  intro p l e s m args below meth c D dA ad H locs ls C hP hS hl
  obtain ⟨hx', hb, hr', hml, hlk, hown, hts, hK, hinj, hC⟩ := id C
  unfold am_csB at hw
  simp only [Bool.and_eq_true, decide_eq_true_eq] at hw
  obtain ⟨hw, w6⟩ := hw
  obtain ⟨w1, w2, w3, -, -⟩ := am_cB_spec hw
  have h := kk p l e s m args below meth c D dA ad H locs ls C hP hS hl
  refine va_mmin hx' hb (hml.trans hl.1.symm) hown (hts _ (am_mem w1)) (hts _ (am_mem w6)) (hts _ (am_mem w2)) (hts _ (am_mem w3)) (by show 1 ≤ d; omega) (by rw [am_cats]; show _ + 13 ≤ 39 * d; omega) (Nat.zero_le _) (Nat.zero_le _) hd ?_
  have e9 : (if Int32.ofInt y < Int32.ofInt x then Int32.ofInt y else Int32.ofInt x) = Int32.ofInt (min x y) := by
    by_cases hq : y < x
    · rw [if_pos ((am_lt hx.2 hx.1).mpr hq), Int.min_eq_right (by omega)]
    · rw [if_neg (fun z => hq ((am_lt hx.2 hx.1).mp z)), Int.min_eq_left (by omega)]
  rw [e9]
  exact h
theorem aw_abs {idx : Nat} {x : Int} {rest : List am_v} (hd : decode mm.2.1 pc = .ok (.invokestatic idx, 3)) (hw : am_csB mm.1.cls idx mJ9_abs_0f7a4 1 = true) (hdd : 0 < d) (hr : rest.length ≤ 8) (hx : am_r x) (kk : AW d mm (pc + 3) L (.inl (am_abs x) :: rest) M Q) : AW d mm pc L (.inl x :: rest) M Q := by
  intro p l e s m args below meth c D dA ad H locs ls C hP hS hl
  obtain ⟨hx', hb, hr', hml, hlk, hown, hts, hK, hinj, hC⟩ := id C
  unfold am_csB at hw
  simp only [Bool.and_eq_true, decide_eq_true_eq] at hw
  obtain ⟨hw, w6⟩ := hw
  obtain ⟨w1, w2, w3, -, -⟩ := am_cB_spec hw
  have h := kk p l e s m args below meth c D dA ad H locs ls C hP hS hl
  refine va_mabs hx' hb (hml.trans hl.1.symm) hown (hts _ (am_mem w1)) (hts _ (am_mem w6)) (hts _ (am_mem w2)) (hts _ (am_mem w3)) (by show 1 ≤ d; omega) (by rw [am_cats]; show _ + 13 ≤ 39 * d; omega) (Nat.zero_le _) (Nat.zero_le _) hd ?_
  have e9 : (if 0 ≤ Int32.ofInt x then Int32.ofInt x else 0 - Int32.ofInt x) = Int32.ofInt (am_abs x) := by
    by_cases hq : x < 0
    · rw [if_neg (fun z => by have := (am_le am_r0 hx).mp z; omega), show am_abs x = 0 - x by simp only [am_abs, hq, if_true]; omega, Int32.ofInt_sub]
      rfl
    · rw [if_pos (show (0 : Int32) ≤ Int32.ofInt x from (am_le am_r0 hx).mpr (by omega)), show am_abs x = x by simp only [am_abs, hq, if_false]]
  rw [e9]
  exact h
end AMJ
