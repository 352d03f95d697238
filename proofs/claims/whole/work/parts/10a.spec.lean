/-! THE MATHEMATICS: a scene is a row σ of 101 numbers (0 frames, 1 places, 2 floor, 3 reach, 4 least, 5 + 12 f + p the levels) -/
def sp_ok (σ : Int → Int) : Prop := (1 ≤ σ 0 ∧ σ 0 ≤ 8) ∧ (3 ≤ σ 1 ∧ σ 1 ≤ 12) ∧ (1 ≤ σ 2 ∧ σ 2 ≤ 9) ∧ (0 ≤ σ 3 ∧ σ 3 ≤ 20) ∧ (1 ≤ σ 4 ∧ σ 4 ≤ 8) ∧ ∀ j, 5 ≤ j → j < 101 → 0 ≤ σ j ∧ σ j ≤ 9
def sp_L (σ : Int → Int) (f p : Int) : Int := if (0 ≤ f ∧ f < σ 0) ∧ 0 ≤ p ∧ p < σ 1 then σ (5 + 12 * f + p) else 0
def sp_pk (σ : Int → Int) (f p : Int) : Bool := decide (σ 2 ≤ sp_L σ f p ∧ sp_L σ f (p - 1) < sp_L σ f p ∧ sp_L σ f (p + 1) ≤ sp_L σ f p)
/-- the places of the peaks among the first m places -/
def sp_pl (σ : Int → Int) (f : Int) : Nat → List Int
  | 0 => []
  | m + 1 => sp_pl σ f m ++ (if sp_pk σ f (m : Int) then [(m : Int)] else [])
def sp_n (σ : Int → Int) (f : Int) : Int := ((sp_pl σ f 12).length : Int)
def sp_p (σ : Int → Int) (f k : Int) : Int := (sp_pl σ f 12).getD k.toNat 0
def sp_tp (σ : Int → Int) (f p : Int) : Int := 4 * p + am_cmp (sp_L σ f (p + 1)) (sp_L σ f (p - 1))
def sp_t (σ : Int → Int) (f k : Int) : Int := sp_tp σ f (sp_p σ f k)
def sp_l (σ : Int → Int) (f k : Int) : Int := sp_L σ f (sp_p σ f k)
theorem sp_L_r {σ : Int → Int} (h : sp_ok σ) (f p : Int) : 0 ≤ sp_L σ f p ∧ sp_L σ f p ≤ 9 := by
  unfold sp_L
  split
  · rename_i hc
    exact h.2.2.2.2.2 _ (by omega) (by have := h.1; have := h.2.1; omega)
  · omega
theorem sp_L_out {σ : Int → Int} {f p : Int} (h : ¬ ((0 ≤ f ∧ f < σ 0) ∧ 0 ≤ p ∧ p < σ 1)) : sp_L σ f p = 0 := if_neg h
theorem sp_pk_iff {σ : Int → Int} {f p : Int} : sp_pk σ f p = true ↔ (σ 2 ≤ sp_L σ f p ∧ sp_L σ f (p - 1) < sp_L σ f p ∧ sp_L σ f (p + 1) ≤ sp_L σ f p) := by
  unfold sp_pk
  exact decide_eq_true_iff
theorem sp_pk_in {σ : Int → Int} (h : sp_ok σ) {f p : Int} (hp : sp_pk σ f p = true) : (0 ≤ f ∧ f < σ 0) ∧ 0 ≤ p ∧ p < σ 1 := by
  have h1 := (sp_pk_iff.mp hp).1
  have h2 := h.2.2.1
  by_cases hc : (0 ≤ f ∧ f < σ 0) ∧ 0 ≤ p ∧ p < σ 1
  · exact hc
  · rw [sp_L_out hc] at h1; omega
theorem sp_pl_succ (σ : Int → Int) (f : Int) (m : Nat) : sp_pl σ f (m + 1) = sp_pl σ f m ++ (if sp_pk σ f (m : Int) then [(m : Int)] else []) := rfl
theorem sp_pl_mem {σ : Int → Int} {f : Int} : ∀ {m : Nat} {p : Int}, p ∈ sp_pl σ f m → 0 ≤ p ∧ p < m ∧ sp_pk σ f p = true
  | 0, p, h => by simp [sp_pl] at h
  | m + 1, p, h => by
    rw [sp_pl_succ] at h
    rcases List.mem_append.mp h with h | h
    · obtain ⟨h1, h2, h3⟩ := sp_pl_mem h
      exact ⟨h1, by omega, h3⟩
    · split at h
      · rename_i hc
        simp only [List.mem_singleton] at h
        subst h
        exact ⟨by omega, by omega, hc⟩
      · simp at h
/-- two neighbours are not both peaks -/
theorem sp_pk_next {σ : Int → Int} {f p : Int} (h : sp_pk σ f p = true) : sp_pk σ f (p + 1) = false := by
  have h1 := sp_pk_iff.mp h
  cases hq : sp_pk σ f (p + 1) with
  | false => rfl
  | true =>
    have h2 := sp_pk_iff.mp hq
    rw [show p + 1 - 1 = p by omega] at h2
    omega
theorem sp_pl_len (σ : Int → Int) (f : Int) : ∀ m : Nat, 2 * (sp_pl σ f m).length ≤ m + 1 ∧ (sp_pk σ f ((m : Int) - 1) = false → 2 * (sp_pl σ f m).length ≤ m)
  | 0 => by simp [sp_pl]
  | m + 1 => by
    obtain ⟨h1, h2⟩ := sp_pl_len σ f m
    rw [sp_pl_succ]
    have e : ((m + 1 : Nat) : Int) - 1 = (m : Int) := by omega
    rw [e]
    cases hq : sp_pk σ f (m : Int) with
    | false => simp; omega
    | true =>
      have h3 : sp_pk σ f ((m : Int) - 1) = false := by
        cases h4 : sp_pk σ f ((m : Int) - 1) with
        | false => rfl
        | true =>
          have h5 := sp_pk_next h4
          rw [show (m : Int) - 1 + 1 = m by omega, hq] at h5
          exact h5
      have h4 := h2 h3
      simp
      omega
theorem sp_n_r (σ : Int → Int) (f : Int) : 0 ≤ sp_n σ f ∧ sp_n σ f ≤ 6 := by
  have := (sp_pl_len σ f 12).1
  unfold sp_n
  omega
/-- the rest of the places adds at the end -/
theorem sp_pl_add (σ : Int → Int) (f : Int) (m : Nat) : ∀ r : Nat, ∃ l, sp_pl σ f (m + r) = sp_pl σ f m ++ l
  | 0 => ⟨[], by simp⟩
  | r + 1 => by
    obtain ⟨l, h⟩ := sp_pl_add σ f m r
    refine ⟨l ++ (if sp_pk σ f ((m + r : Nat) : Int) then [((m + r : Nat) : Int)] else []), ?_⟩
    rw [show m + (r + 1) = (m + r) + 1 by omega, sp_pl_succ, h, List.append_assoc]
/-- beyond the places there are no peaks -/
theorem sp_pl_beyond {σ : Int → Int} (h : sp_ok σ) (f : Int) (m : Nat) (hm : σ 1 ≤ m) : ∀ r : Nat, sp_pl σ f (m + r) = sp_pl σ f m
  | 0 => rfl
  | r + 1 => by
    rw [show m + (r + 1) = (m + r) + 1 by omega, sp_pl_succ, sp_pl_beyond h f m hm r]
    have : sp_pk σ f ((m + r : Nat) : Int) = false := by
      cases hq : sp_pk σ f ((m + r : Nat) : Int) with
      | false => rfl
      | true => have := sp_pk_in h hq; omega
    rw [this]
    simp
theorem sp_pl_all {σ : Int → Int} (h : sp_ok σ) (f : Int) (m : Nat) (hm : σ 1 = m) : sp_pl σ f m = sp_pl σ f 12 := by
  have := h.2.1
  have e : 12 = m + (12 - m) := by omega
  rw [e, sp_pl_beyond h f m (by omega)]
theorem sp_n_out {σ : Int → Int} (h : sp_ok σ) {f : Int} (hf : ¬ (0 ≤ f ∧ f < σ 0)) : sp_n σ f = 0 := by
  have : ∀ m : Nat, sp_pl σ f m = [] := by
    intro m
    induction m with
    | zero => rfl
    | succ m ih =>
      rw [sp_pl_succ, ih]
      have : sp_pk σ f (m : Int) = false := by
        cases hq : sp_pk σ f (m : Int) with
        | false => rfl
        | true => exact absurd (sp_pk_in h hq).1 hf
      simp [this]
  simp [sp_n, this]
theorem am_cmp_r (x y : Int) : -1 ≤ am_cmp x y ∧ am_cmp x y ≤ 1 := by
  unfold am_cmp
  (repeat' split) <;> omega
theorem sp_p_in {σ : Int → Int} (h : sp_ok σ) {f k : Int} (hk : 0 ≤ k ∧ k < sp_n σ f) : ((0 ≤ f ∧ f < σ 0) ∧ 0 ≤ sp_p σ f k ∧ sp_p σ f k < σ 1) ∧ sp_pk σ f (sp_p σ f k) = true := by
  have hl : k.toNat < (sp_pl σ f 12).length := by unfold sp_n at hk; omega
  have hm : sp_p σ f k ∈ sp_pl σ f 12 := by
    unfold sp_p
    rw [List.getD_eq_getElem?_getD, List.getElem?_eq_getElem hl]
    exact List.getElem_mem hl
  have := (sp_pl_mem hm).2.2
  exact ⟨sp_pk_in h this, this⟩
theorem sp_t_r {σ : Int → Int} (h : sp_ok σ) {f k : Int} (hk : 0 ≤ k ∧ k < sp_n σ f) : -1 ≤ sp_t σ f k ∧ sp_t σ f k ≤ 45 := by
  have h1 := (sp_p_in h hk).1
  have h2 := h.2.1
  have h3 := am_cmp_r (sp_L σ f (sp_p σ f k + 1)) (sp_L σ f (sp_p σ f k - 1))
  unfold sp_t sp_tp
  omega
theorem sp_l_r {σ : Int → Int} (h : sp_ok σ) (f k : Int) : 0 ≤ sp_l σ f k ∧ sp_l σ f k ≤ 9 := sp_L_r h _ _
/-- the class's scene at cell a holds σ -/
def SC (a : Nat) (σ : Int → Int) (M : am_M) : Prop := M a 0 = σ 0 ∧ M a 1 = σ 1 ∧ M (a + 1) 0 = σ 2 ∧ M (a + 1) 1 = σ 3 ∧ M (a + 1) 2 = σ 4 ∧ ∀ j, 0 ≤ j → j < 96 → M (a + 2) j = σ (5 + j)
/-- the reference's s holds σ -/
def MC (σ : Int → Int) (M : am_M) : Prop := ∀ j, 0 ≤ j → j < 101 → M 63 j = σ j
theorem SC.lv {σ : Int → Int} {M : am_M} (h : SC 1 σ M) (ho : sp_ok σ) (f p : Int) : am_lv (M 1 0) (M 1 1) (M 3) f p = sp_L σ f p := by
  obtain ⟨h1, h2, -, -, -, h6⟩ := h
  have := ho.1
  have := ho.2.1
  unfold am_lv sp_L
  rw [h1, h2]
  split
  · rename_i hc
    rw [show M 3 = M (1 + 2) from rfl, h6 _ (by omega) (by omega)]
    congr 1
    omega
  · rfl
theorem MC.ml {σ : Int → Int} {M : am_M} (h : MC σ M) (ho : sp_ok σ) {f : Int} (hf : 0 ≤ f ∧ f < σ 0) (p : Int) : am_ml (M 63) f p = sp_L σ f p := by
  have := ho.1
  have := ho.2.1
  unfold am_ml sp_L
  rw [h 1 (by omega) (by omega)]
  by_cases hp : 0 ≤ p ∧ p < σ 1
  · rw [if_pos (by omega), if_pos (by omega), h _ (by omega) (by omega)]
  · rw [if_neg (by omega), if_neg (by omega)]
theorem MC.mlok {σ : Int → Int} {M : am_M} (h : MC σ M) (ho : sp_ok σ) {f : Int} (hf : 0 ≤ f ∧ f < σ 0) {p : Int} (hp : -1 ≤ p ∧ p ≤ 13) : am_mlok (M 63) f p := by
  have := ho.1
  have := ho.2.1
  unfold am_mlok
  rw [h 1 (by omega) (by omega)]
  refine ⟨⟨by omega, by omega, by omega⟩, fun _ => by omega⟩
