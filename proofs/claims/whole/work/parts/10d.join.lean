/-! joining two rows of pitches: the score, the mates -/
def jS (A B : Int → Int) (n1 n2 re : Int) : Nat → Nat → Int
  | 0, _ => 0
  | _ + 1, 0 => 0
  | a + 1, b + 1 => max (max (jS A B n1 n2 re a (b + 1)) (jS A B n1 n2 re (a + 1) b)) (if re < am_abs (A (n1 - (a + 1)) - B (n2 - (b + 1))) then -1 else 1000 - am_abs (A (n1 - (a + 1)) - B (n2 - (b + 1))) + jS A B n1 n2 re a b)
termination_by a b => a + b
def jT (A B : Int → Int) (n1 n2 re i j : Int) : Int := jS A B n1 n2 re (n1 - i).toNat (n2 - j).toNat
def jP (A B : Int → Int) (n1 n2 re i j : Int) : Int := if re < am_abs (A i - B j) then -1 else 1000 - am_abs (A i - B j) + jT A B n1 n2 re (i + 1) (j + 1)
/-- the least from lo on, of m, with P; -9 -/
def jF (P : Int → Bool) : Int → Nat → Int
  | _, 0 => -9
  | lo, m + 1 => if P lo then lo else jF P (lo + 1) m
def jfr (A B : Int → Int) (n1 n2 re : Int) : Nat → Int
  | 0 => 0
  | k + 1 => if jF (fun j => decide (jP A B n1 n2 re k j = jT A B n1 n2 re k (jfr A B n1 n2 re k))) (jfr A B n1 n2 re k) (n2 - jfr A B n1 n2 re k).toNat = -9 then jfr A B n1 n2 re k else jF (fun j => decide (jP A B n1 n2 re k j = jT A B n1 n2 re k (jfr A B n1 n2 re k))) (jfr A B n1 n2 re k) (n2 - jfr A B n1 n2 re k).toNat + 1
def jm (A B : Int → Int) (n1 n2 re k : Int) : Int := jF (fun j => decide (jP A B n1 n2 re k j = jT A B n1 n2 re k (jfr A B n1 n2 re k.toNat))) (jfr A B n1 n2 re k.toNat) (n2 - jfr A B n1 n2 re k.toNat).toNat
/-- how many of the first k have a mate -/
def jc (A B : Int → Int) (n1 n2 re : Int) : Nat → Int
  | 0 => 0
  | k + 1 => jc A B n1 n2 re k + (if jm A B n1 n2 re (k : Int) = -9 then 0 else 1)
theorem jF_spec (P : Int → Bool) : ∀ (m : Nat) (lo : Int), 0 ≤ lo → (jF P lo m = -9 ∧ ∀ j, lo ≤ j → j < lo + m → P j = false) ∨ (lo ≤ jF P lo m ∧ jF P lo m < lo + m ∧ P (jF P lo m) = true ∧ ∀ j, lo ≤ j → j < jF P lo m → P j = false)
  | 0, lo, _ => Or.inl ⟨rfl, fun j a b => absurd b (by omega)⟩
  | m + 1, lo, h => by
    unfold jF
    cases hp : P lo with
    | true => simp only [if_true]; exact Or.inr ⟨by omega, by omega, hp, fun j a b => absurd b (by omega)⟩
    | false =>
      simp only [Bool.false_eq_true, if_false]
      rcases jF_spec P m (lo + 1) (by omega) with ⟨h1, h2⟩ | ⟨h1, h2, h3, h4⟩
      · refine Or.inl ⟨h1, fun j a b => ?_⟩
        by_cases hj : j = lo
        · rw [hj]; exact hp
        · exact h2 j (by omega) (by omega)
      · refine Or.inr ⟨by omega, by omega, h3, fun j a b => ?_⟩
        by_cases hj : j = lo
        · rw [hj]; exact hp
        · exact h4 j (by omega) b
theorem jF_none {P : Int → Bool} {m : Nat} {lo : Int} (h : 0 ≤ lo) (hn : ∀ j, lo ≤ j → j < lo + m → P j = false) : jF P lo m = -9 := by
  rcases jF_spec P m lo h with ⟨h1, -⟩ | ⟨h1, h2, h3, -⟩
  · exact h1
  · rw [hn _ h1 h2] at h3; cases h3
theorem jF_some {P : Int → Bool} {m : Nat} {lo x : Int} (h : 0 ≤ lo) (h1 : lo ≤ x) (h2 : x < lo + m) (hx : P x = true) (hn : ∀ j, lo ≤ j → j < x → P j = false) : jF P lo m = x := by
  rcases jF_spec P m lo h with ⟨-, g⟩ | ⟨g1, g2, g3, g4⟩
  · rw [g x h1 h2] at hx; cases hx
  · by_cases hlt : jF P lo m < x
    · rw [hn _ g1 hlt] at g3; cases g3
    · by_cases hgt : x < jF P lo m
      · rw [g4 x h1 hgt] at hx; cases hx
      · omega
section JJ
variable {A B : Int → Int} {n1 n2 re : Int}
theorem jS_r0 : ∀ (t a b : Nat), a + b ≤ t → 0 ≤ jS A B n1 n2 re a b ∧ jS A B n1 n2 re a b ≤ 1000 * a
  | t, 0, b, _ => by rw [jS]; omega
  | t, a + 1, 0, _ => by rw [jS]; omega
  | 0, a + 1, b + 1, h => absurd h (by omega)
  | t + 1, a + 1, b + 1, h => by
    have h1 := jS_r0 t a (b + 1) (by omega)
    have h2 := jS_r0 t (a + 1) b (by omega)
    have h3 := jS_r0 t a b (by omega)
    rw [jS]
    have h4 : 0 ≤ am_abs (A (n1 - (a + 1)) - B (n2 - (b + 1))) := by unfold am_abs; split <;> omega
    refine ⟨by omega, ?_⟩
    have e : (if re < am_abs (A (n1 - (a + 1)) - B (n2 - (b + 1))) then -1 else 1000 - am_abs (A (n1 - (a + 1)) - B (n2 - (b + 1))) + jS A B n1 n2 re a b) ≤ 1000 * ((a + 1 : Nat) : Int) := by
      split <;> omega
    omega
theorem jS_r (a b : Nat) : 0 ≤ jS A B n1 n2 re a b ∧ jS A B n1 n2 re a b ≤ 1000 * a := jS_r0 (a + b) a b (Nat.le_refl _)
theorem jT_out {i j : Int} (h : n1 ≤ i ∨ n2 ≤ j) : jT A B n1 n2 re i j = 0 := by
  unfold jT
  rcases h with h | h
  · rw [show (n1 - i).toNat = 0 by omega, jS]
  · rw [show (n2 - j).toNat = 0 by omega]
    cases (n1 - i).toNat <;> rw [jS]
theorem jT_eq {i j : Int} (hi : i < n1) (hj : j < n2) : jT A B n1 n2 re i j = max (max (jT A B n1 n2 re (i + 1) j) (jT A B n1 n2 re i (j + 1))) (jP A B n1 n2 re i j) := by
  unfold jP jT
  rw [show (n1 - i).toNat = (n1 - (i + 1)).toNat + 1 by omega, show (n2 - j).toNat = (n2 - (j + 1)).toNat + 1 by omega, jS]
  rw [show n1 - (((n1 - (i + 1)).toNat : Int) + 1) = i by omega, show n2 - (((n2 - (j + 1)).toNat : Int) + 1) = j by omega]
theorem jT_r {i j : Int} (hi : 0 ≤ i) (h6 : n1 ≤ 6) : 0 ≤ jT A B n1 n2 re i j ∧ jT A B n1 n2 re i j ≤ 6000 := by
  have := jS_r (A := A) (B := B) (n1 := n1) (n2 := n2) (re := re) (n1 - i).toNat (n2 - j).toNat
  unfold jT
  omega
theorem jP_r {i j : Int} (hi : 0 ≤ i) (h6 : n1 ≤ 6) (ha : am_abs (A i - B j) ≤ 100) : -1 ≤ jP A B n1 n2 re i j ∧ jP A B n1 n2 re i j ≤ 7000 := by
  have h1 := jT_r (A := A) (B := B) (n1 := n1) (n2 := n2) (re := re) (i := i + 1) (j := j + 1) (by omega) h6
  have h2 : 0 ≤ am_abs (A i - B j) := by unfold am_abs; split <;> omega
  unfold jP
  split <;> omega
theorem jfr_succ (k : Nat) : jfr A B n1 n2 re (k + 1) = if jm A B n1 n2 re (k : Int) = -9 then jfr A B n1 n2 re k else jm A B n1 n2 re (k : Int) + 1 := by
  rw [jfr]
  rfl
theorem jfr_r (h2 : 0 ≤ n2) : ∀ k : Nat, 0 ≤ jfr A B n1 n2 re k ∧ jfr A B n1 n2 re k ≤ n2
  | 0 => by simp [jfr, h2]
  | k + 1 => by
    have ih := jfr_r h2 k
    rw [jfr_succ]
    split
    · exact ih
    · rename_i hq
      have := jF_spec (fun j => decide (jP A B n1 n2 re (k : Int) j = jT A B n1 n2 re (k : Int) (jfr A B n1 n2 re k))) (n2 - jfr A B n1 n2 re k).toNat (jfr A B n1 n2 re k) ih.1
      unfold jm at hq ⊢
      simp only [Int.toNat_natCast] at hq ⊢
      rcases this with ⟨g, -⟩ | ⟨g1, g2, -⟩
      · exact absurd g hq
      · omega
theorem jm_r (h2 : 0 ≤ n2) (k : Nat) : jm A B n1 n2 re (k : Int) = -9 ∨ (jfr A B n1 n2 re k ≤ jm A B n1 n2 re (k : Int) ∧ jm A B n1 n2 re (k : Int) < n2) := by
  have ih := jfr_r (A := A) (B := B) (n1 := n1) (re := re) h2 k
  have := jF_spec (fun j => decide (jP A B n1 n2 re (k : Int) j = jT A B n1 n2 re (k : Int) (jfr A B n1 n2 re k))) (n2 - jfr A B n1 n2 re k).toNat (jfr A B n1 n2 re k) ih.1
  unfold jm
  simp only [Int.toNat_natCast]
  rcases this with ⟨g, -⟩ | ⟨g1, g2, -⟩
  · exact Or.inl g
  · exact Or.inr ⟨g1, by omega⟩
/-- mates grow -/
theorem jfr_mono (h2 : 0 ≤ n2) (k : Nat) : ∀ r : Nat, jfr A B n1 n2 re k ≤ jfr A B n1 n2 re (k + r)
  | 0 => Int.le_refl _
  | r + 1 => by
    have h1 := jfr_mono h2 k r
    rw [show k + (r + 1) = (k + r) + 1 by omega, jfr_succ]
    have h3 := jm_r (A := A) (B := B) (n1 := n1) (re := re) h2 (k + r)
    split
    · exact h1
    · rename_i hq
      rcases h3 with h3 | h3
      · exact absurd h3 hq
      · omega
theorem jm_inj (h2 : 0 ≤ n2) {k l : Nat} (hk : jm A B n1 n2 re (k : Int) ≠ -9) (he : jm A B n1 n2 re (k : Int) = jm A B n1 n2 re (l : Int)) : k = l := by
  have key : ∀ a b : Nat, a < b → jm A B n1 n2 re (a : Int) ≠ -9 → jm A B n1 n2 re (b : Int) ≠ -9 → jm A B n1 n2 re (a : Int) < jm A B n1 n2 re (b : Int) := by
    intro a b hab ha hb
    have g1 : jfr A B n1 n2 re (a + 1) = jm A B n1 n2 re (a : Int) + 1 := by rw [jfr_succ, if_neg ha]
    have g2 := jfr_mono (A := A) (B := B) (n1 := n1) (re := re) h2 (a + 1) (b - (a + 1))
    rw [show a + 1 + (b - (a + 1)) = b by omega] at g2
    rcases jm_r (A := A) (B := B) (n1 := n1) (re := re) h2 b with g3 | g3
    · exact absurd g3 hb
    · omega
  by_cases h1 : k < l
  · have := key k l h1 hk (by rw [← he]; exact hk); omega
  · by_cases h3 : l < k
    · have := key l k h3 (by rw [← he]; exact hk) hk; omega
    · omega
end JJ
