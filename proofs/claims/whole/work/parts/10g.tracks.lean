/-! tracks: their numbers, peak by peak -/
def tk_cnt (r : Int → Int) : Nat → Int
  | 0 => 0
  | k + 1 => tk_cnt r k + (if r (k : Int) = -9 then 1 else 0)
def tk_at (r : Int → Int) (c k : Int) : Int := if r k = -9 then c + tk_cnt r k.toNat else r k
def tk_nx (r : Int → Int) (c : Int) (m : Int → Int) : Nat → Int → Int
  | 0, _ => -9
  | k + 1, x => if m (k : Int) ≠ -9 ∧ m (k : Int) = x then tk_at r c (k : Int) else tk_nx r c m k x
/-- what frame f finds: the tracks that come to its peaks, how many there are -/
def tk (σ : Int → Int) (re : Int) : Nat → (Int → Int) × Int
  | 0 => (fun _ => -9, 0)
  | f + 1 => (tk_nx (tk σ re f).1 (tk σ re f).2 (sp_m σ re (f : Int)) (sp_n σ (f : Int)).toNat, (tk σ re f).2 + tk_cnt (tk σ re f).1 (sp_n σ (f : Int)).toNat)
/-- the track of peak k of frame f -/
def tr (σ : Int → Int) (re : Int) (f : Nat) (k : Int) : Int := tk_at (tk σ re f).1 (tk σ re f).2 k
def tC (σ : Int → Int) (re : Int) (f : Nat) : Int := (tk σ re f).2
theorem tk_cnt_r (r : Int → Int) : ∀ k : Nat, 0 ≤ tk_cnt r k ∧ tk_cnt r k ≤ k
  | 0 => by simp [tk_cnt]
  | k + 1 => by
    have := tk_cnt_r r k
    rw [tk_cnt]
    split <;> omega
theorem tk_cnt_mono (r : Int → Int) (k : Nat) : ∀ t : Nat, tk_cnt r k ≤ tk_cnt r (k + t)
  | 0 => Int.le_refl _
  | t + 1 => by
    have := tk_cnt_mono r k t
    rw [show k + (t + 1) = (k + t) + 1 by omega, tk_cnt]
    split <;> omega
theorem tk_cnt_lt {r : Int → Int} {k l : Nat} (h : k < l) (hr : r (k : Int) = -9) : tk_cnt r k < tk_cnt r l := by
  have := tk_cnt_mono r (k + 1) (l - (k + 1))
  rw [show k + 1 + (l - (k + 1)) = l by omega, tk_cnt, if_pos hr] at this
  omega
/-- every number up to the count is met -/
theorem tk_cnt_hit {r : Int → Int} : ∀ {K : Nat} {n : Int}, 0 ≤ n → n < tk_cnt r K → ∃ k : Nat, k < K ∧ r (k : Int) = -9 ∧ tk_cnt r k = n
  | 0, n, h0, h => by simp [tk_cnt] at h; omega
  | K + 1, n, h0, h => by
    rw [tk_cnt] at h
    by_cases h1 : n < tk_cnt r K
    · obtain ⟨k, a, b, c⟩ := tk_cnt_hit h0 h1
      exact ⟨k, by omega, b, c⟩
    · by_cases hr : r (K : Int) = -9
      · rw [if_pos hr] at h
        exact ⟨K, by omega, hr, by omega⟩
      · rw [if_neg hr] at h; omega
theorem tk_nx_spec (r : Int → Int) (c : Int) (m : Int → Int) : ∀ (K : Nat) (x : Int), (tk_nx r c m K x = -9 ∧ ∀ k : Nat, k < K → m (k : Int) ≠ -9 → m (k : Int) ≠ x) ∨ (∃ k : Nat, k < K ∧ m (k : Int) ≠ -9 ∧ m (k : Int) = x ∧ tk_nx r c m K x = tk_at r c (k : Int))
  | 0, x => Or.inl ⟨rfl, fun k h => absurd h (by omega)⟩
  | K + 1, x => by
    unfold tk_nx
    by_cases hc : m (K : Int) ≠ -9 ∧ m (K : Int) = x
    · rw [if_pos hc]
      exact Or.inr ⟨K, by omega, hc.1, hc.2, rfl⟩
    · rw [if_neg hc]
      rcases tk_nx_spec r c m K x with ⟨h1, h2⟩ | ⟨k, h1, h2, h3, h4⟩
      · refine Or.inl ⟨h1, fun k hk hm hx => ?_⟩
        by_cases hkK : k = K
        · subst hkK; exact hc ⟨hm, hx⟩
        · exact h2 k (by omega) hm hx
      · exact Or.inr ⟨k, by omega, h2, h3, h4⟩
section TK
variable {σ : Int → Int} {re : Int}
theorem tC_succ (f : Nat) : tC σ re (f + 1) = tC σ re f + tk_cnt (tk σ re f).1 (sp_n σ (f : Int)).toNat := rfl
theorem tC_r : ∀ f : Nat, 0 ≤ tC σ re f ∧ tC σ re f ≤ 6 * f
  | 0 => by simp [tC, tk]
  | f + 1 => by
    have h1 := tC_r f
    have h2 := tk_cnt_r (tk σ re f).1 (sp_n σ (f : Int)).toNat
    have h3 := sp_n_r σ (f : Int)
    rw [tC_succ]
    omega
theorem tC_mono (f : Nat) : ∀ t : Nat, tC σ re f ≤ tC σ re (f + t)
  | 0 => Int.le_refl _
  | t + 1 => by
    have := tC_mono f t
    have h2 := tk_cnt_r (tk σ re (f + t)).1 (sp_n σ ((f + t : Nat) : Int)).toNat
    rw [show f + (t + 1) = (f + t) + 1 by omega, tC_succ]
    omega
theorem tk_half (f : Nat) (h1 : ∀ x, (tk σ re f).1 x = -9 ∨ (0 ≤ (tk σ re f).1 x ∧ (tk σ re f).1 x < tC σ re f)) (h2 : ∀ x y, (tk σ re f).1 x ≠ -9 → (tk σ re f).1 x = (tk σ re f).1 y → x = y) : (∀ k : Nat, (k : Int) < sp_n σ (f : Int) → 0 ≤ tr σ re f (k : Int) ∧ tr σ re f (k : Int) < tC σ re (f + 1)) ∧ (∀ k l : Nat, (k : Int) < sp_n σ (f : Int) → (l : Int) < sp_n σ (f : Int) → tr σ re f (k : Int) = tr σ re f (l : Int) → k = l) := by
  have hC := tC_r (σ := σ) (re := re) f
  have e : tC σ re f = (tk σ re f).2 := rfl
  refine ⟨fun k hk => ?_, fun k l hk hl he => ?_⟩
  · unfold tr tk_at
    rw [tC_succ, Int.toNat_natCast]
    have h3 := tk_cnt_r (tk σ re f).1 k
    have h5 := tk_cnt_r (tk σ re f).1 (sp_n σ (f : Int)).toNat
    split
    · rename_i hc
      have h4 := tk_cnt_lt (r := (tk σ re f).1) (k := k) (l := (sp_n σ (f : Int)).toNat) (by omega) hc
      omega
    · rename_i hc
      rcases h1 (k : Int) with h | h
      · exact absurd h hc
      · omega
  · unfold tr tk_at at he
    rw [Int.toNat_natCast, Int.toNat_natCast] at he
    have h3 := tk_cnt_r (tk σ re f).1 k
    have h4 := tk_cnt_r (tk σ re f).1 l
    by_cases ck : (tk σ re f).1 (k : Int) = -9
    · by_cases cl : (tk σ re f).1 (l : Int) = -9
      · rw [if_pos ck, if_pos cl] at he
        by_cases hlt : k < l
        · have := tk_cnt_lt hlt ck; omega
        · by_cases hgt : l < k
          · have := tk_cnt_lt hgt cl; omega
          · omega
      · rw [if_pos ck, if_neg cl] at he
        rcases h1 (l : Int) with h | h
        · exact absurd h cl
        · omega
    · by_cases cl : (tk σ re f).1 (l : Int) = -9
      · rw [if_neg ck, if_pos cl] at he
        rcases h1 (k : Int) with h | h
        · exact absurd h ck
        · omega
      · rw [if_neg ck, if_neg cl] at he
        have := h2 _ _ ck he
        omega
/-- the rows that come in: below the count, each number once -/
theorem tk_row (f : Nat) : (∀ x, (tk σ re f).1 x = -9 ∨ (0 ≤ (tk σ re f).1 x ∧ (tk σ re f).1 x < tC σ re f)) ∧ (∀ x y, (tk σ re f).1 x ≠ -9 → (tk σ re f).1 x = (tk σ re f).1 y → x = y) := by
  induction f with
  | zero => exact ⟨fun x => Or.inl rfl, fun x y h => absurd rfl h⟩
  | succ f ih =>
    have prev := tk_half f ih.1 ih.2
    have rowdef : ∀ x, (tk σ re (f + 1)).1 x = tk_nx (tk σ re f).1 (tk σ re f).2 (sp_m σ re (f : Int)) (sp_n σ (f : Int)).toNat x := fun x => rfl
    have hn := sp_n_r σ (f : Int)
    refine ⟨fun x => ?_, fun x y hx he => ?_⟩
    · rw [rowdef]
      rcases tk_nx_spec (tk σ re f).1 (tk σ re f).2 (sp_m σ re (f : Int)) (sp_n σ (f : Int)).toNat x with ⟨h1, -⟩ | ⟨k, h1, h2, h3, h4⟩
      · exact Or.inl h1
      · rw [h4]
        exact Or.inr (prev.1 k (by omega))
    · rw [rowdef] at hx
      rw [rowdef, rowdef] at he
      rcases tk_nx_spec (tk σ re f).1 (tk σ re f).2 (sp_m σ re (f : Int)) (sp_n σ (f : Int)).toNat x with ⟨h1, -⟩ | ⟨k, h1, h2, h3, h4⟩
      · exact absurd h1 hx
      · rcases tk_nx_spec (tk σ re f).1 (tk σ re f).2 (sp_m σ re (f : Int)) (sp_n σ (f : Int)).toNat y with ⟨g1, -⟩ | ⟨l, g1, g2, g3, g4⟩
        · rw [he, g1] at hx; exact absurd rfl hx
        · rw [h4, g4] at he
          have := prev.2 k l (by omega) (by omega) he
          rw [← h3, ← g3, this]
theorem tr_r (f k : Nat) (hk : (k : Int) < sp_n σ (f : Int)) : 0 ≤ tr σ re f (k : Int) ∧ tr σ re f (k : Int) < tC σ re (f + 1) := (tk_half f (tk_row f).1 (tk_row f).2).1 k hk
theorem tr_inj {f k l : Nat} (hk : (k : Int) < sp_n σ (f : Int)) (hl : (l : Int) < sp_n σ (f : Int)) (he : tr σ re f (k : Int) = tr σ re f (l : Int)) : k = l := (tk_half f (tk_row f).1 (tk_row f).2).2 k l hk hl he
/-! where a track is -/
/-- the peak of track n among the first K of frame f; -9 -/
def tPK (σ : Int → Int) (re : Int) (f K : Nat) (n : Int) : Int := jF (fun k => decide (tr σ re f k = n)) 0 K
def tP (σ : Int → Int) (re : Int) (f : Nat) (n : Int) : Int := tPK σ re f (sp_n σ (f : Int)).toNat n
theorem tPK_0 (f : Nat) (n : Int) : tPK σ re f 0 n = -9 := rfl
theorem tPK_none {f K : Nat} {n : Int} (h : ∀ k : Nat, k < K → tr σ re f (k : Int) ≠ n) : tPK σ re f K n = -9 := by
  refine jF_none (by omega) (fun j a b => ?_)
  have := h j.toNat (by omega)
  rw [show ((j.toNat : Nat) : Int) = j by omega] at this
  simpa using this
theorem tPK_some {f K : Nat} {n : Int} (h : tPK σ re f K n ≠ -9) : ∃ k : Nat, k < K ∧ tPK σ re f K n = k ∧ tr σ re f (k : Int) = n := by
  rcases jF_spec (fun k => decide (tr σ re f k = n)) K 0 (by omega) with ⟨g, -⟩ | ⟨g1, g2, g3, -⟩
  · exact absurd g h
  · have e : (((tPK σ re f K n).toNat : Nat) : Int) = tPK σ re f K n := by unfold tPK; omega
    refine ⟨(tPK σ re f K n).toNat, by unfold tPK; omega, e.symm, ?_⟩
    rw [e]
    exact of_decide_eq_true g3
theorem tPK_eq {f K k : Nat} {n : Int} (hK : (K : Int) ≤ sp_n σ (f : Int)) (hk : k < K) (h : tr σ re f (k : Int) = n) : tPK σ re f K n = k := by
  by_cases hc : tPK σ re f K n = -9
  · rcases jF_spec (fun k => decide (tr σ re f k = n)) K 0 (by omega) with ⟨-, g⟩ | ⟨g1, -⟩
    · have := g (k : Int) (by omega) (by omega)
      simp [h] at this
    · unfold tPK at hc; omega
  · obtain ⟨l, h1, h2, h3⟩ := tPK_some hc
    have := tr_inj (σ := σ) (re := re) (f := f) (k := k) (l := l) (by omega) (by omega) (by rw [h, h3])
    rw [h2, this]
theorem tPK_succ {f K : Nat} {n : Int} (hK : (K : Int) < sp_n σ (f : Int)) : tPK σ re f (K + 1) n = if tr σ re f (K : Int) = n then (K : Int) else tPK σ re f K n := by
  split
  · rename_i h; exact tPK_eq (by omega) (by omega) h
  · rename_i h
    by_cases hc : tPK σ re f K n = -9
    · rw [hc]
      refine tPK_none (fun k hk he => ?_)
      by_cases hkK : k = K
      · subst hkK; exact h he
      · rw [tPK_eq (by omega) (show k < K by omega) he] at hc; omega
    · obtain ⟨l, h1, h2, h3⟩ := tPK_some hc
      rw [h2]
      exact tPK_eq (by omega) (by omega) h3
theorem tP_some {f : Nat} {n : Int} (h : tP σ re f n ≠ -9) : ∃ k : Nat, (k : Int) < sp_n σ (f : Int) ∧ tP σ re f n = k ∧ tr σ re f (k : Int) = n := by
  obtain ⟨k, h1, h2, h3⟩ := tPK_some h
  exact ⟨k, by omega, h2, h3⟩
theorem tP_eq {f k : Nat} {n : Int} (hk : (k : Int) < sp_n σ (f : Int)) (h : tr σ re f (k : Int) = n) : tP σ re f n = k := tPK_eq (by omega) (by omega) h
theorem tP_lt {f : Nat} {n : Int} (h : tP σ re f n ≠ -9) : 0 ≤ n ∧ n < tC σ re (f + 1) := by
  obtain ⟨k, h1, -, h3⟩ := tP_some h
  rw [← h3]
  exact tr_r f k h1
/-- a track that was there is in the frame before -/
theorem tP_prev {f : Nat} {n : Int} (hn : n < tC σ re (f + 1)) (h : tP σ re (f + 1) n ≠ -9) : tP σ re f n ≠ -9 := by
  obtain ⟨k, h1, -, h3⟩ := tP_some h
  unfold tr tk_at at h3
  have h4 := tk_cnt_r (tk σ re (f + 1)).1 k
  rw [Int.toNat_natCast] at h3
  by_cases hc : (tk σ re (f + 1)).1 (k : Int) = -9
  · rw [if_pos hc] at h3
    have : tC σ re (f + 1) = (tk σ re (f + 1)).2 := rfl
    omega
  · rw [if_neg hc] at h3
    have rowdef : (tk σ re (f + 1)).1 (k : Int) = tk_nx (tk σ re f).1 (tk σ re f).2 (sp_m σ re (f : Int)) (sp_n σ (f : Int)).toNat (k : Int) := rfl
    rcases tk_nx_spec (tk σ re f).1 (tk σ re f).2 (sp_m σ re (f : Int)) (sp_n σ (f : Int)).toNat (k : Int) with ⟨g, -⟩ | ⟨l, g1, g2, g3, g4⟩
    · rw [rowdef, g] at hc; exact absurd rfl hc
    · rw [rowdef, g4] at h3
      have h9 : tr σ re f (l : Int) = n := h3
      rw [tP_eq (by omega) h9]
      omega
/-- every track is somewhere -/
theorem tP_exists : ∀ {f : Nat} {n : Int}, 0 ≤ n → n < tC σ re f → ∃ g : Nat, g < f ∧ tP σ re g n ≠ -9
  | 0, n, h0, h => by simp [tC, tk] at h; omega
  | f + 1, n, h0, h => by
    by_cases h1 : n < tC σ re f
    · obtain ⟨g, a, b⟩ := tP_exists h0 h1
      exact ⟨g, by omega, b⟩
    · rw [tC_succ] at h
      obtain ⟨k, a, b, c⟩ := tk_cnt_hit (r := (tk σ re f).1) (K := (sp_n σ (f : Int)).toNat) (n := n - tC σ re f) (by omega) (by omega)
      refine ⟨f, by omega, ?_⟩
      have h2 : tr σ re f (k : Int) = n := by
        unfold tr tk_at
        rw [if_pos b, Int.toNat_natCast, c]
        have : tC σ re f = (tk σ re f).2 := rfl
        omega
      rw [tP_eq (by omega) h2]
      omega
/-- in how many of the first f frames it is; how loud it is there -/
def tLN (σ : Int → Int) (re : Int) : Nat → Int → Int
  | 0, _ => 0
  | f + 1, n => tLN σ re f n + (if tP σ re f n = -9 then 0 else 1)
def tLL (σ : Int → Int) (re : Int) : Nat → Int → Int
  | 0, _ => 0
  | f + 1, n => tLL σ re f n + (if tP σ re f n = -9 then 0 else sp_l σ (f : Int) (tP σ re f n))
/-- its pitch in a frame -/
def tPI (σ : Int → Int) (re : Int) (f : Nat) (n : Int) : Int := if tP σ re f n = -9 then -9 else sp_t σ (f : Int) (tP σ re f n)
/-- the frame in which it is born -/
def tB (σ : Int → Int) (re : Int) (n : Int) : Int := jF (fun f => decide (tP σ re f.toNat n ≠ -9)) 0 8
theorem tB_spec {n : Int} (h0 : 0 ≤ n) (h : n < tC σ re 8) : ∃ b : Nat, b < 8 ∧ tB σ re n = b ∧ tP σ re b n ≠ -9 ∧ ∀ g : Nat, g < b → tP σ re g n = -9 := by
  obtain ⟨g, hg, hp⟩ := tP_exists h0 h
  rcases jF_spec (fun f => decide (tP σ re f.toNat n ≠ -9)) 8 0 (by omega) with ⟨-, q⟩ | ⟨q1, q2, q3, q4⟩
  · have := q (g : Int) (by omega) (by omega)
    simp at this
    exact absurd this hp
  · refine ⟨(tB σ re n).toNat, by unfold tB; omega, by unfold tB; omega, by unfold tB; simpa using q3, fun g hg => ?_⟩
    have := q4 (g : Int) (by omega) (by unfold tB at hg; omega)
    simpa using this
theorem tB_eq {n : Int} {b : Nat} (hb : b < 8) (h : tP σ re b n ≠ -9) (hn : ∀ g : Nat, g < b → tP σ re g n = -9) : tB σ re n = b := by
  refine jF_some (by omega) (by omega) (by omega) (by simpa using h) (fun j a c => ?_)
  have := hn j.toNat (by omega)
  simpa using this
/-- it is there without a gap -/
theorem tLN_end {n : Int} {b : Nat} (hb : tP σ re b n ≠ -9) (hn : ∀ g : Nat, g < b → tP σ re g n = -9) : ∀ t : Nat, ∃ e : Nat, e ≤ t ∧ tLN σ re (b + t) n = e ∧ (∀ g : Nat, b ≤ g → g < b + e → tP σ re g n ≠ -9) ∧ ∀ g : Nat, b + e ≤ g → g < b + t → tP σ re g n = -9
  | 0 => by
    have key : ∀ g : Nat, g ≤ b → tLN σ re g n = 0 := by
      intro g
      induction g with
      | zero => intro _; rfl
      | succ g ih =>
        intro hg
        rw [tLN, ih (by omega), if_pos (hn g (by omega))]
        rfl
    exact ⟨0, Nat.le_refl _, key b (Nat.le_refl _), fun g a c => absurd c (by omega), fun g a c => absurd c (by omega)⟩
  | t + 1 => by
    obtain ⟨e, h1, h2, h3, h4⟩ := tLN_end hb hn t
    have hlt : n < tC σ re (b + 1) := (tP_lt hb).2
    have hrec : tLN σ re (b + (t + 1)) n = tLN σ re (b + t) n + (if tP σ re (b + t) n = -9 then 0 else 1) := rfl
    by_cases he : e = t
    · subst he
      by_cases hc : tP σ re (b + e) n = -9
      · refine ⟨e, by omega, by rw [hrec, if_pos hc, h2]; omega, h3, fun g a c => ?_⟩
        rw [show g = b + e by omega]; exact hc
      · refine ⟨e + 1, by omega, by rw [hrec, if_neg hc, h2]; omega, fun g a c => ?_, fun g a c => absurd c (by omega)⟩
        by_cases hg : g = b + e
        · subst hg; exact hc
        · exact h3 g a (by omega)
    · have hc : tP σ re (b + t) n = -9 := by
        by_cases hc : tP σ re (b + t) n = -9
        · exact hc
        · have h5 := h4 (b + t - 1) (by omega) (by omega)
          have h6 : n < tC σ re (b + t) := by
            have := tC_mono (σ := σ) (re := re) (b + 1) (t - 1)
            rw [show b + 1 + (t - 1) = b + t by omega] at this
            omega
          have h7 := tP_prev (σ := σ) (re := re) (f := b + t - 1) (n := n) (by rw [show b + t - 1 + 1 = b + t by omega]; exact h6) (by rw [show b + t - 1 + 1 = b + t by omega]; exact hc)
          exact absurd h5 h7
      refine ⟨e, by omega, by rw [hrec, if_pos hc, h2]; omega, h3, fun g a c => ?_⟩
      by_cases hg : g = b + t
      · subst hg; exact hc
      · exact h4 g a (by omega)
/-- born at b, e frames long: just there -/
theorem tr_span {n : Int} (h0 : 0 ≤ n) (h : n < tC σ re 8) : ∃ b e : Nat, tB σ re n = b ∧ tLN σ re 8 n = e ∧ 0 < e ∧ b + e ≤ 8 ∧ ∀ g : Nat, g < 8 → (tP σ re g n ≠ -9 ↔ b ≤ g ∧ g < b + e) := by
  obtain ⟨b, hb8, hb, hp, hn⟩ := tB_spec h0 h
  obtain ⟨e, h1, h2, h3, h4⟩ := tLN_end hp hn (8 - b)
  rw [show b + (8 - b) = 8 by omega] at h2 h4
  refine ⟨b, e, hb, h2, ?_, by omega, fun g hg => ⟨fun hq => ?_, fun hq => h3 g hq.1 hq.2⟩⟩
  · by_cases he : e = 0
    · exact absurd (h4 b (by omega) (by omega)) hp
    · omega
  · by_cases hgb : g < b
    · exact absurd (hn g hgb) hq
    · by_cases hge : g < b + e
      · exact ⟨by omega, hge⟩
      · exact absurd (h4 g (by omega) hg) hq
theorem tPI_r (ho : sp_ok σ) (f : Nat) (n : Int) : tPI σ re f n = -9 ∧ tP σ re f n = -9 ∨ (-1 ≤ tPI σ re f n ∧ tPI σ re f n ≤ 45) ∧ tP σ re f n ≠ -9 := by
  unfold tPI
  by_cases hc : tP σ re f n = -9
  · rw [if_pos hc]; exact Or.inl ⟨rfl, hc⟩
  · rw [if_neg hc]
    obtain ⟨k, h1, h2, -⟩ := tP_some hc
    rw [h2]
    exact Or.inr ⟨sp_t_r ho ⟨by omega, h1⟩, by omega⟩
end TK
