/-! the class follows the tracks -/
/-- behind frames < f and k peaks of frame f; q: how many of frame f have their numbers (k, or k + 1 while one is added) -/
def TRq (M : am_M) (σ : Int → Int) (re : Int) (f k q : Nat) : Prop :=
  M 41 0 = tC σ re f + tk_cnt (tk σ re f).1 q ∧
  (∀ g x : Nat, g < f → (x : Int) < sp_n σ (g : Int) → M 49 (6 * g + x) = tr σ re g x ∧ M 50 (6 * g + x) = sp_m σ re g x) ∧
  (f < 8 → ∀ x : Nat, x < 6 → M 49 (6 * f + x) = if x < q then tr σ re f x else (tk σ re f).1 x) ∧
  (∀ x : Nat, x < q → M 50 (6 * f + x) = sp_m σ re f x) ∧
  (f + 1 < 8 → ∀ x : Nat, x < 6 → M 49 (6 * (f + 1) + x) = tk_nx (tk σ re f).1 (tk σ re f).2 (sp_m σ re f) k x) ∧
  (∀ g x : Nat, f + 1 < g → g < 8 → x < 6 → M 49 (6 * g + x) = -9) ∧
  (∀ n, 0 ≤ n → n < M 41 0 → M 42 n = tB σ re n ∧ M 43 n = tLN σ re f n + (if tPK σ re f k n = -9 then 0 else 1) ∧ M 47 n = tLL σ re f n + (if tPK σ re f k n = -9 then 0 else sp_l σ f (tPK σ re f k n))) ∧
  (∀ (n : Int) (g : Nat), 0 ≤ n → n < 48 → g < 8 → M 48 (8 * n + g) = if g < f then tPI σ re g n else if g = f then (if tPK σ re f k n = -9 then -9 else sp_t σ f (tPK σ re f k n)) else -9)
section CT
variable {M : am_M} {σ : Int → Int} {re : Int} {f k : Nat}
theorem tPK_before {n : Int} (hk : (k : Int) < sp_n σ (f : Int)) (h : tr σ re f (k : Int) = n) : tPK σ re f k n = -9 := tPK_none (fun l hl he => by
  have := tr_inj (σ := σ) (re := re) (f := f) (k := l) (l := k) (by omega) hk (by rw [he, h])
  omega)
theorem tr_old (hr : (tk σ re f).1 (k : Int) ≠ -9) : tr σ re f (k : Int) = (tk σ re f).1 (k : Int) := if_neg hr
theorem tr_new (hr : (tk σ re f).1 (k : Int) = -9) : tr σ re f (k : Int) = tC σ re f + tk_cnt (tk σ re f).1 k := by
  unfold tr tk_at
  rw [if_pos hr, Int.toNat_natCast]
  rfl
theorem tcnt_old (hr : (tk σ re f).1 (k : Int) ≠ -9) : tk_cnt (tk σ re f).1 (k + 1) = tk_cnt (tk σ re f).1 k := by rw [tk_cnt, if_neg hr]; omega
theorem tcnt_new (hr : (tk σ re f).1 (k : Int) = -9) : tk_cnt (tk σ re f).1 (k + 1) = tk_cnt (tk σ re f).1 k + 1 := by rw [tk_cnt, if_pos hr]
theorem tr_keep (h : TRq M σ re f k k) (hf : f < 8) (hk : (k : Int) < sp_n σ (f : Int)) (hr : (tk σ re f).1 (k : Int) ≠ -9) : TRq (am_up M 50 (6 * f + k) (sp_m σ re f k)) σ re f k (k + 1) := by
  obtain ⟨h1, h2, h3, h4, h5, h6, h7, h8⟩ := h
  have hn := sp_n_r σ (f : Int)
  refine ⟨?_, fun g x hg hx => ?_, fun _ x hx => ?_, fun x hx => ?_, fun hf1 x hx => ?_, fun g x hg hg8 hx => ?_, fun n n0 n1 => ?_, fun n g n0 n1 hg => ?_⟩
  · rw [am_up_cell _ (by decide), h1, tcnt_old hr]
  · have := sp_n_r σ (g : Int)
    rw [am_up_cell _ (by decide), am_up_idx _ _ (by omega)]; exact h2 g x hg hx
  · rw [am_up_cell _ (by decide), h3 hf x hx]
    by_cases hxk : x = k
    · subst hxk; rw [if_neg (by omega), if_pos (by omega), tr_old hr]
    · by_cases hlt : x < k
      · rw [if_pos hlt, if_pos (by omega)]
      · rw [if_neg hlt, if_neg (by omega)]
  · by_cases hxk : x = k
    · subst hxk; exact am_up_same _ _ _ _
    · rw [am_up_idx _ _ (by omega)]; exact h4 x (by omega)
  · rw [am_up_cell _ (by decide)]; exact h5 hf1 x hx
  · rw [am_up_cell _ (by decide)]; exact h6 g x hg hg8 hx
  · rw [am_up_cell _ (by decide)] at n1
    rw [am_up_cell _ (by decide), am_up_cell _ (by decide), am_up_cell _ (by decide)]; exact h7 n n0 n1
  · rw [am_up_cell _ (by decide)]; exact h8 n g n0 n1 hg
theorem tr_begin (h : TRq M σ re f k k) (hf : f < 8) (hk : (k : Int) < sp_n σ (f : Int)) (hr : (tk σ re f).1 (k : Int) = -9) {M' : am_M} (e41 : M' 41 0 = M 41 0 + 1) (e42 : ∀ z, M' 42 z = if z = M 41 0 then (f : Int) else M 42 z) (e43 : ∀ z, M' 43 z = if z = M 41 0 then 0 else M 43 z) (e47 : ∀ z, M' 47 z = if z = M 41 0 then 0 else M 47 z) (e48 : M' 48 = M 48) (e49 : ∀ z, M' 49 z = if z = 6 * f + k then M 41 0 else M 49 z) (e50 : ∀ z, M' 50 z = if z = 6 * f + k then sp_m σ re f k else M 50 z) : TRq M' σ re f k (k + 1) := by
  obtain ⟨h1, h2, h3, h4, h5, h6, h7, h8⟩ := h
  have hn := sp_n_r σ (f : Int)
  have hC := tC_r (σ := σ) (re := re) f
  have hcnt := tk_cnt_r (tk σ re f).1 k
  have etr := tr_new hr
  have e9 : M 41 0 = tr σ re f (k : Int) := by rw [h1, etr]
  have hbef := tPK_before (σ := σ) (re := re) hk e9.symm
  have hno : ∀ g : Nat, g < f → tP σ re g (M 41 0) = -9 := by
    intro g hg
    by_cases hc : tP σ re g (M 41 0) = -9
    · exact hc
    · have h9 := (tP_lt hc).2
      have h10 := tC_mono (σ := σ) (re := re) (g + 1) (f - (g + 1))
      rw [show g + 1 + (f - (g + 1)) = f by omega] at h10
      omega
  refine ⟨?_, fun g x hg hx => ?_, fun _ x hx => ?_, fun x hx => ?_, fun hf1 x hx => ?_, fun g x hg hg8 hx => ?_, fun n n0 n1 => ?_, fun n g n0 n1 hg => ?_⟩
  · rw [e41, h1, tcnt_new hr]; omega
  · have := sp_n_r σ (g : Int)
    rw [e49, e50, if_neg (by omega), if_neg (by omega)]; exact h2 g x hg hx
  · rw [e49]
    by_cases hxk : x = k
    · subst hxk; rw [if_pos rfl, if_pos (by omega), e9]
    · rw [if_neg (by omega), h3 hf x hx]
      by_cases hlt : x < k
      · rw [if_pos hlt, if_pos (by omega)]
      · rw [if_neg hlt, if_neg (by omega)]
  · rw [e50]
    by_cases hxk : x = k
    · subst hxk; rw [if_pos rfl]
    · rw [if_neg (by omega)]; exact h4 x (by omega)
  · rw [e49, if_neg (by omega)]; exact h5 hf1 x hx
  · rw [e49, if_neg (by omega)]; exact h6 g x hg hg8 hx
  · rw [e42, e43, e47]
    by_cases hnm : n = M 41 0
    · subst hnm
      rw [if_pos rfl, if_pos rfl, if_pos rfl, hbef]
      have hlen : ∀ g : Nat, g ≤ f → tLN σ re g (M 41 0) = 0 ∧ tLL σ re g (M 41 0) = 0 := by
        intro g
        induction g with
        | zero => intro _; exact ⟨rfl, rfl⟩
        | succ g ih =>
          intro hg
          obtain ⟨i1, i2⟩ := ih (by omega)
          rw [tLN, tLL, i1, i2, if_pos (hno g (by omega)), if_pos (hno g (by omega))]
          exact ⟨rfl, rfl⟩
      obtain ⟨l1, l2⟩ := hlen f (Nat.le_refl _)
      have hpf : tP σ re f (M 41 0) ≠ -9 := by
        rw [tP_eq hk e9.symm]; omega
      refine ⟨(tB_eq hf hpf hno).symm, by rw [l1]; rfl, by rw [l2]; rfl⟩
    · rw [if_neg hnm, if_neg hnm, if_neg hnm]
      exact h7 n n0 (by omega)
  · rw [e48]; exact h8 n g n0 n1 hg
/-- what adding a peak changes of lengths, louds, pitches -/
theorem tr_add0 (h : TRq M σ re f k (k + 1)) (hf : f < 8) (hk : (k : Int) < sp_n σ (f : Int)) {n : Int} (hnd : n = tr σ re f (k : Int)) (hn48 : 0 ≤ n ∧ n < 48) {t l : Int} (ht : t = sp_t σ f k) (hl : l = sp_l σ f k) {M' : am_M} (e41 : M' 41 = M 41) (e42 : M' 42 = M 42) (e43 : M' 43 = am_up M 43 n (M 43 n + 1) 43) (e47 : M' 47 = am_up M 47 n (M 47 n + l) 47) (e48 : M' 48 = am_up M 48 (n * 8 + f) t 48) (e50 : M' 50 = M 50)
    (e49 : ∀ g x : Nat, x < 6 → M' 49 (6 * g + x) = if g = f + 1 ∧ f + 1 < 8 ∧ sp_m σ re f k ≠ -9 ∧ sp_m σ re f k = x then n else M 49 (6 * g + x)) : TRq M' σ re f (k + 1) (k + 1) := by
  obtain ⟨h1, h2, h3, h4, h5, h6, h7, h8⟩ := h
  have hsn := sp_n_r σ (f : Int)
  have hs : ∀ n', tPK σ re f (k + 1) n' = if tr σ re f (k : Int) = n' then (k : Int) else tPK σ re f k n' := fun n' => tPK_succ hk
  have hbef := tPK_before (σ := σ) (re := re) hk hnd.symm
  refine ⟨by rw [e41]; exact h1, fun g x hg hx => ?_, fun _ x hx => ?_, fun x hx => by rw [e50]; exact h4 x hx, fun hf1 x hx => ?_, fun g x hg hg8 hx => ?_, fun n' n0 n1 => ?_, fun n' g n0 n1 hg => ?_⟩
  · have := sp_n_r σ (g : Int)
    rw [e50, e49 g x (by omega), if_neg (by omega)]; exact h2 g x hg hx
  · rw [e49 f x hx, if_neg (by omega)]; exact h3 hf x hx
  · have e9 : (6 * ((f : Int) + 1) + x) = 6 * ((f + 1 : Nat) : Int) + x := by omega
    have h55 := h5 hf1 x hx
    rw [e9] at h55 ⊢
    rw [e49 (f + 1) x hx, tk_nx]
    by_cases hc : sp_m σ re f k ≠ -9 ∧ sp_m σ re f k = x
    · rw [if_pos ⟨rfl, hf1, hc⟩, if_pos hc, hnd]; rfl
    · rw [if_neg (fun z => hc z.2.2), if_neg hc]; exact h55
  · rw [e49 g x hx, if_neg (by omega)]; exact h6 g x hg hg8 hx
  · rw [e41] at n1
    obtain ⟨g1, g2, g3⟩ := h7 n' n0 n1
    rw [e42, e43, e47]
    by_cases hnn : n' = n
    · subst hnn
      have hs' : tPK σ re f (k + 1) n' = k := by rw [hs, if_pos hnd.symm]
      rw [am_up_same, am_up_same, hs', if_neg (by omega), if_neg (by omega)]
      rw [hbef] at g2 g3
      rw [if_pos rfl] at g2 g3
      refine ⟨g1, by omega, by omega⟩
    · have hs' : tPK σ re f (k + 1) n' = tPK σ re f k n' := by rw [hs, if_neg (fun z => hnn (by rw [hnd, z]))]
      rw [am_up_idx _ _ hnn, am_up_idx _ _ hnn, hs']
      exact ⟨g1, g2, g3⟩
  · rw [e48]
    have h88 := h8 n' g n0 n1 hg
    by_cases hnn : n' = n ∧ g = f
    · obtain ⟨rfl, rfl⟩ := hnn
      have hs' : tPK σ re g (k + 1) n' = k := by rw [hs, if_pos hnd.symm]
      rw [show 8 * n' + (g : Int) = n' * 8 + g by omega, am_up_same, if_neg (by omega), if_pos rfl, hs', if_neg (by omega), ht]
    · rw [am_up_idx _ _ (by omega), h88]
      by_cases hgf : g < f
      · rw [if_pos hgf, if_pos hgf]
      · rw [if_neg hgf, if_neg hgf]
        by_cases hge : g = f
        · have hs' : tPK σ re f (k + 1) n' = tPK σ re f k n' := by rw [hs, if_neg (fun z => hnn ⟨by rw [hnd, z], hge⟩)]
          rw [if_pos hge, if_pos hge, hs']
        · rw [if_neg hge, if_neg hge]
end CT
