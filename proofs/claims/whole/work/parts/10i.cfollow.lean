/-! how a track goes: least and greatest pitch, steps, turns -/
def ms_lw (p : Nat → Int) : Nat → Int
  | 0 => p 0
  | m + 1 => min (ms_lw p m) (p (m + 1))
def ms_hg (p : Nat → Int) : Nat → Int
  | 0 => p 0
  | m + 1 => max (ms_hg p m) (p (m + 1))
def ms_la (p : Nat → Int) : Nat → Int
  | 0 => 0
  | m + 1 => if am_cmp (p (m + 1)) (p m) = 0 then ms_la p m else am_cmp (p (m + 1)) (p m)
def ms_mo (p : Nat → Int) : Nat → Int
  | 0 => 0
  | m + 1 => ms_mo p m + (if am_cmp (p (m + 1)) (p m) = 0 then 0 else 1)
def ms_tu (p : Nat → Int) : Nat → Int
  | 0 => 0
  | m + 1 => ms_tu p m + (if am_cmp (p (m + 1)) (p m) ≠ 0 ∧ ms_la p m = -(am_cmp (p (m + 1)) (p m)) then 1 else 0)
theorem ms_r (p : Nat → Int) {e : Nat} (hp : ∀ t, t < e → -1 ≤ p t ∧ p t ≤ 45) : ∀ m : Nat, m < e → (-1 ≤ ms_lw p m ∧ ms_lw p m ≤ 45) ∧ (-1 ≤ ms_hg p m ∧ ms_hg p m ≤ 45) ∧ (0 ≤ ms_mo p m ∧ ms_mo p m ≤ m) ∧ (0 ≤ ms_tu p m ∧ ms_tu p m ≤ m) ∧ (-1 ≤ ms_la p m ∧ ms_la p m ≤ 1)
  | 0, h => by
    have := hp 0 h
    simp only [ms_lw, ms_hg, ms_mo, ms_tu, ms_la]
    omega
  | m + 1, h => by
    have h1 := ms_r p hp m (by omega)
    have h2 := hp (m + 1) h
    have h3 := am_cmp_r (p (m + 1)) (p m)
    simp only [ms_lw, ms_hg, ms_mo, ms_tu, ms_la]
    refine ⟨by omega, by omega, ?_, ?_, ?_⟩
    · split <;> omega
    · split <;> omega
    · split <;> omega
section CF
variable {σ : Int → Int} {re : Int}
/-- the pitches of track n from its birth on -/
def tq (σ : Int → Int) (re n : Int) (t : Nat) : Int := tPI σ re ((tB σ re n).toNat + t) n
def tE (σ : Int → Int) (re n : Int) : Nat := (tLN σ re 8 n - 1).toNat
def tD (σ : Int → Int) (re n : Int) : Int := ms_hg (tq σ re n) (tE σ re n) - ms_lw (tq σ re n) (tE σ re n)
def tT (σ : Int → Int) (re n : Int) : Int := ms_tu (tq σ re n) (tE σ re n)
def tM (σ : Int → Int) (re n : Int) : Int := ms_mo (tq σ re n) (tE σ re n)
def tK (σ : Int → Int) (re n : Int) : Int := am_kb (tD σ re n) (tT σ re n) (tM σ re n)
/-- the class's tracks are those of σ -/
def TR (M : am_M) (σ : Int → Int) (re : Int) : Prop :=
  M 41 0 = tC σ re 8 ∧ (∀ f x : Nat, f < 8 → (x : Int) < sp_n σ (f : Int) → M 49 (6 * f + x) = tr σ re f x ∧ M 50 (6 * f + x) = sp_m σ re f x) ∧
  (∀ n, 0 ≤ n → n < tC σ re 8 → (M 42 n = tB σ re n ∧ M 43 n = tLN σ re 8 n ∧ M 47 n = tLL σ re 8 n) ∧ M 44 n = tD σ re n ∧ M 45 n = tT σ re n ∧ M 46 n = tK σ re n) ∧
  (∀ (n : Int) (g : Nat), 0 ≤ n → n < 48 → g < 8 → M 48 (8 * n + g) = tPI σ re g n)
theorem tr_cnt {f k : Nat} (hk : (k : Int) < sp_n σ (f : Int)) : 0 ≤ tr σ re f (k : Int) ∧ tr σ re f (k : Int) < tC σ re f + tk_cnt (tk σ re f).1 (k + 1) := by
  have h1 := tr_r (σ := σ) (re := re) f k hk
  refine ⟨h1.1, ?_⟩
  by_cases hr : (tk σ re f).1 (k : Int) = -9
  · rw [tr_new hr, tcnt_new hr]; omega
  · rw [tr_old hr, tcnt_old hr]
    have h2 := tk_cnt_r (tk σ re f).1 k
    rcases (tk_row (σ := σ) (re := re) f).1 (k : Int) with h | h
    · exact absurd h hr
    · omega
theorem tcnt_48 {f : Nat} (hf : f < 8) {q : Nat} (hq : (q : Int) ≤ sp_n σ (f : Int)) : tC σ re f + tk_cnt (tk σ re f).1 q ≤ 48 := by
  have h1 := tC_r (σ := σ) (re := re) f
  have h2 := tk_cnt_r (tk σ re f).1 q
  have h3 := sp_n_r σ (f : Int)
  omega
theorem c_addPeak {d : Nat} {M : am_M} {Q : Option Int → am_M → Prop} {f k : Nat} {x : Int} (hx : x = 6 * f + k) (ho : sp_ok σ) (hre : 0 ≤ re ∧ re ≤ 20) (hp : PK M σ) (h : TRq M σ re f k (k + 1)) (hf : f < 8) (hk : (k : Int) < sp_n σ (f : Int)) (hQ : ∀ M', (∀ c, c ≠ 43 → c ≠ 47 → c ≠ 48 → c ≠ 49 → M' c = M c) → TRq M' σ re f (k + 1) (k + 1) → Q none M') : AC d mX6_addPeak [.inr 41, .inr 31, .inl x, .inl (f : Int)] M Q := by
  subst hx
  have hn := sp_n_r σ (f : Int)
  have e49 : M 49 (6 * f + k) = tr σ re f k := by rw [h.2.2.1 hf k (by omega), if_pos (by omega)]
  have e50 : M 50 (6 * f + k) = sp_m σ re f k := h.2.2.2.1 k (by omega)
  have e41 : M 41 0 = tC σ re f + tk_cnt (tk σ re f).1 (k + 1) := h.1
  have t1 := tr_cnt (σ := σ) (re := re) hk
  have t2 := tcnt_48 (σ := σ) (re := re) hf (q := k + 1) (by omega)
  obtain ⟨-, pt, pl⟩ := hp.at (f := (f : Int)) (k := (k : Int)) ⟨by omega, by omega⟩ ⟨by omega, hk⟩
  have n2 := sp_n_r σ ((f : Int) + 1)
  have hm := jm_r (A := sp_t σ f) (B := sp_t σ (f + 1)) (n1 := sp_n σ f) (re := re) n2.1 k
  have hm' : sp_m σ re f k = -9 ∨ (0 ≤ sp_m σ re f k ∧ sp_m σ re f k < 6) := by
    have := jfr_r (A := sp_t σ f) (B := sp_t σ (f + 1)) (n1 := sp_n σ f) (re := re) n2.1 k
    unfold sp_m
    omega
  refine sg_X6_addPeak ?_
  rw [e49, e50, pt, pl]
  refine ⟨by omega, by omega, fun c => absurd c (by omega), fun _ => ⟨by omega, fun _ => ⟨by omega, by omega, by omega, fun c => ?_, fun c => ⟨by omega, fun c8 => ?_, fun c8 => ⟨by omega, ?_⟩⟩⟩, fun c => absurd c (by omega)⟩⟩
  · refine hQ _ (fun z a1 a2 a3 a4 => by rw [am_up_ne _ _ _ _ _ a3, am_up_ne _ _ _ _ _ a2, am_up_ne _ _ _ _ _ a1]) (tr_add0 h hf hk rfl (by omega) rfl rfl rfl rfl rfl rfl rfl rfl (fun g y hy => ?_))
    rw [if_neg (by omega)]
    rfl
  · refine hQ _ (fun z a1 a2 a3 a4 => by rw [am_up_ne _ _ _ _ _ a3, am_up_ne _ _ _ _ _ a2, am_up_ne _ _ _ _ _ a1]) (tr_add0 h hf hk rfl (by omega) rfl rfl rfl rfl rfl rfl rfl rfl (fun g y hy => ?_))
    rw [if_neg (by omega)]
    rfl
  · refine hQ _ (fun z a1 a2 a3 a4 => by rw [am_up_ne _ _ _ _ _ a4, am_up_ne _ _ _ _ _ a3, am_up_ne _ _ _ _ _ a2, am_up_ne _ _ _ _ _ a1]) (tr_add0 h hf hk rfl (by omega) rfl rfl rfl rfl rfl rfl rfl rfl (fun g y hy => ?_))
    by_cases hc : g = f + 1 ∧ f + 1 < 8 ∧ sp_m σ re f k ≠ -9 ∧ sp_m σ re f k = y
    · rw [if_pos hc]
      obtain ⟨rfl, -, -, he⟩ := hc
      rw [show 6 * ((f + 1 : Nat) : Int) + (y : Int) = ((f : Int) + 1) * 6 + sp_m σ re f k by omega, am_up_same]
    · rw [if_neg hc, am_up_idx _ _ (by omega)]
      rfl
theorem tq_r (ho : sp_ok σ) {n : Int} (h0 : 0 ≤ n) (h : n < tC σ re 8) : ∃ b e : Nat, tB σ re n = b ∧ tLN σ re 8 n = (e : Int) + 1 ∧ tE σ re n = e ∧ b + e < 8 ∧ (∀ t, t < e + 1 → -1 ≤ tq σ re n t ∧ tq σ re n t ≤ 45) ∧ (∀ t, tq σ re n t = tPI σ re (b + t) n) := by
  obtain ⟨b, e, hb, he, h1, h2, h3⟩ := tr_span h0 h
  refine ⟨b, e - 1, hb, by omega, by unfold tE; omega, by omega, fun t ht => ?_, fun t => by unfold tq; rw [hb, Int.toNat_natCast]⟩
  unfold tq
  rw [hb, Int.toNat_natCast]
  have h4 := (h3 (b + t) (by omega)).mpr ⟨by omega, by omega⟩
  rcases tPI_r (re := re) ho (b + t) n with ⟨-, h5⟩ | ⟨h5, -⟩
  · exact absurd h5 h4
  · exact h5
theorem c_measure {d : Nat} {M : am_M} {Q : Option Int → am_M → Prop} (ho : sp_ok σ) {n : Int} (h0 : 0 ≤ n) (h : n < tC σ re 8) (e41 : M 41 0 = tC σ re 8) (e42 : M 42 n = tB σ re n) (e43 : M 43 n = tLN σ re 8 n) (e48 : ∀ g : Nat, g < 8 → M 48 (8 * n + g) = tPI σ re g n) (hQ : ∀ M', (∀ c, c ≠ 44 → c ≠ 45 → c ≠ 46 → M' c = M c) → (∀ c j, j ≠ n → M' c j = M c j) → M' 44 n = tD σ re n → M' 45 n = tT σ re n → M' 46 n = tK σ re n → Q none M') : AC (d + 1) mX6_measure [.inr 41, .inl n] M Q := by
  obtain ⟨b, e, hb, he, hE, hbe, hr, hq⟩ := tq_r ho h0 h
  have hC := tC_r (σ := σ) (re := re) 8
  have pi : ∀ M' : am_M, M' 41 = M 41 → M' 48 = M 48 → ∀ g : Nat, g < 8 → am_pi (M' 41 0) (M' 48) n (g : Int) = tPI σ re g n := by
    intro M' h1 h2 g hg
    unfold am_pi
    rw [h1, h2, e41, if_pos (by omega), show n * 8 + (g : Int) = 8 * n + g by omega]
    exact e48 g hg
  have key : ∀ (t m : Nat) (M' : am_M), m + t = e → (∀ c, c ≠ 45 → M' c = M c) → (∀ j, j ≠ n → M' 45 j = M 45 j) → M' 45 n = ms_tu (tq σ re n) m → AW (d + 1) mX6_measure 40 [(0, .inr 41), (1, .inl n), (2, .inl (tq σ re n m)), (3, .inl (ms_lw (tq σ re n) m)), (4, .inl (ms_hg (tq σ re n) m)), (5, .inl (ms_mo (tq σ re n) m)), (6, .inl (ms_la (tq σ re n) m)), (7, .inl ((b : Int) + m + 1))] [] M' Q := by
    intro t
    induction t with
    | zero =>
      intro m M' hm fr fr2 htu
      have hme : m = e := by omega
      subst hme
      have b42 : M' 42 n = b := by rw [fr 42 (by decide), e42, hb]
      have b43 : M' 43 n = (m : Int) + 1 := by rw [fr 43 (by decide), e43, he]
      have rr := ms_r (tq σ re n) hr m (by omega)
      refine sg_X6_measure_40 ⟨by omega, by omega, by omega, fun _ => ?_, fun c => absurd c (by omega)⟩
      rw [am_up_same, htu]
      refine ⟨⟨by omega, by omega, by omega, by omega⟩, hQ _ (fun c a1 a2 a3 => by rw [am_up_ne _ _ _ _ _ a3, am_up_ne _ _ _ _ _ a1, fr c a2]) (fun c j hj => ?_) ?_ ?_ ?_⟩
      · by_cases hc6 : c = 46
        · subst hc6; rw [am_up_idx _ _ hj, am_up_cell _ (by decide), fr 46 (by decide)]
        · rw [am_up_cell _ hc6]
          by_cases hc4 : c = 44
          · subst hc4; rw [am_up_idx _ _ hj, fr 44 (by decide)]
          · rw [am_up_cell _ hc4]
            by_cases hc5 : c = 45
            · subst hc5; exact fr2 j hj
            · rw [fr c hc5]
      · rw [am_up_cell _ (by decide), am_up_same]; unfold tD; rw [hE]
      · rw [am_up_cell _ (by decide), am_up_cell _ (by decide), htu]; unfold tT; rw [hE]
      · rw [am_up_same]; unfold tK tD tT tM; rw [hE]
    | succ t ih =>
      intro m M' hm fr fr2 htu
      have b42 : M' 42 n = b := by rw [fr 42 (by decide), e42, hb]
      have b43 : M' 43 n = (e : Int) + 1 := by rw [fr 43 (by decide), e43, he]
      have b41 : M' 41 0 = tC σ re 8 := by rw [fr 41 (by decide), e41]
      have rr := ms_r (tq σ re n) hr m (by omega)
      have r0 := hr m (by omega)
      have r1 := hr (m + 1) (by omega)
      have hcmp := am_cmp_r (tq σ re n (m + 1)) (tq σ re n m)
      have ep : am_pi (M' 41 0) (M' 48) n ((b : Int) + m + 1) = tq σ re n (m + 1) := by
        have := pi M' (fr 41 (by decide)) (fr 48 (by decide)) (b + (m + 1)) (by omega)
        rw [show ((b + (m + 1) : Nat) : Int) = (b : Int) + m + 1 by omega] at this
        rw [this, hq]
      refine sg_X6_measure_40 ⟨by omega, by omega, by omega, fun c => absurd c (by omega), fun _ => ?_⟩
      rw [ep]
      have go : ∀ M2 : am_M, (∀ c, c ≠ 45 → M2 c = M c) → (∀ j, j ≠ n → M2 45 j = M 45 j) → M2 45 n = ms_tu (tq σ re n) (m + 1) → AW (d + 1) mX6_measure 40 [(0, .inr 41), (1, .inl n), (2, .inl (tq σ re n (m + 1))), (3, .inl (min (ms_lw (tq σ re n) m) (tq σ re n (m + 1)))), (4, .inl (max (ms_hg (tq σ re n) m) (tq σ re n (m + 1)))), (5, .inl (ms_mo (tq σ re n) (m + 1))), (6, .inl (ms_la (tq σ re n) (m + 1))), (7, .inl ((b : Int) + m + 1 + 1))] [] M2 Q := by
        intro M2 g1 g2 g3
        have := ih (m + 1) M2 (by omega) g1 g2 g3
        rw [show ((b : Int) + ((m + 1 : Nat) : Int) + 1) = (b : Int) + m + 1 + 1 by omega] at this
        exact this
      refine ⟨⟨by omega, by omega, by omega, by omega⟩, ⟨by omega, by omega⟩, ⟨by omega, by omega⟩, ⟨by omega, by omega⟩, by omega, fun c => ?_, fun c => ⟨by omega, by omega, fun c2 => ?_, fun c2 => ?_⟩⟩
      · have x1 : ms_mo (tq σ re n) (m + 1) = ms_mo (tq σ re n) m := by rw [ms_mo, if_pos c]; omega
        have x2 : ms_la (tq σ re n) (m + 1) = ms_la (tq σ re n) m := by rw [ms_la, if_pos c]
        have x3 : ms_tu (tq σ re n) (m + 1) = ms_tu (tq σ re n) m := by rw [ms_tu, if_neg (fun z => z.1 c)]; omega
        have := go M' fr fr2 (by rw [htu, x3])
        rw [x1, x2] at this
        exact this
      · have x1 : ms_mo (tq σ re n) (m + 1) = ms_mo (tq σ re n) m + 1 := by rw [ms_mo, if_neg c]
        have x2 : ms_la (tq σ re n) (m + 1) = am_cmp (tq σ re n (m + 1)) (tq σ re n m) := by rw [ms_la, if_neg c]
        have x3 : ms_tu (tq σ re n) (m + 1) = ms_tu (tq σ re n) m := by rw [ms_tu, if_neg (fun z => c2 z.2)]; omega
        have := go M' fr fr2 (by rw [htu, x3])
        rw [x1, x2] at this
        exact this
      · have x1 : ms_mo (tq σ re n) (m + 1) = ms_mo (tq σ re n) m + 1 := by rw [ms_mo, if_neg c]
        have x2 : ms_la (tq σ re n) (m + 1) = am_cmp (tq σ re n (m + 1)) (tq σ re n m) := by rw [ms_la, if_neg c]
        have x3 : ms_tu (tq σ re n) (m + 1) = ms_tu (tq σ re n) m + 1 := by rw [ms_tu, if_pos ⟨c, c2⟩]
        have := go (am_up M' 45 n (M' 45 n + 1)) (fun c hc => by rw [am_up_ne _ _ _ _ _ hc, fr c hc]) (fun j hj => by rw [am_up_idx _ _ hj, fr2 j hj]) (by rw [am_up_same, htu, x3])
        rw [x1, x2] at this
        exact this
  have ep : am_pi (M 41 0) (M 48) n (M 42 n) = tq σ re n 0 := by
    rw [e42, hb, pi M rfl rfl b (by omega), hq]
    rfl
  refine sg_X6_measure ⟨by omega, ⟨by omega, by omega, by omega, by omega⟩, ?_⟩
  rw [ep, e42, hb]
  have := key e 0 (am_up M 45 n 0) (by omega) (fun c hc => am_up_ne _ _ _ _ _ hc) (fun j hj => am_up_idx _ _ hj) (am_up_same _ _ _ _)
  simpa [ms_lw, ms_hg, ms_mo, ms_la] using this
theorem c_follow {d : Nat} {M : am_M} {Q : Option Int → am_M → Prop} (ho : sp_ok σ) (hp : PK M σ) (hre : 0 ≤ re ∧ re ≤ 20) (hQ : ∀ M', (∀ c, c < 36 ∨ 50 < c → M' c = M c) → TR M' σ re → Q none M') : AC (d + 5) mX6_follow [.inr 41, .inr 31, .inr 36, .inl re] M Q := by
  have hC8 := tC_r (σ := σ) (re := re) 8
  have pkc : ∀ M' : am_M, (∀ c, c < 36 ∨ 50 < c → M' c = M c) → PK M' σ := fun M' fr g a b => by
    have := hp g a b
    unfold pk_row at this ⊢
    rw [fr 32 (by decide), fr 33 (by decide), fr 34 (by decide), fr 35 (by decide)]
    exact this
  -- the last loop: each track is measured
  have meas : ∀ (t : Nat) (n : Int) (M' : am_M), 0 ≤ n → n + t = tC σ re 8 → (∀ c, c < 36 ∨ 50 < c → M' c = M c) → TRq M' σ re 8 0 0 → (∀ a, 0 ≤ a → a < n → M' 44 a = tD σ re a ∧ M' 45 a = tT σ re a ∧ M' 46 a = tK σ re a) → AW (d + 5) mX6_follow 125 [(0, .inr 41), (4, .inl n)] [] M' Q := by
    intro t
    induction t with
    | zero =>
      intro n M' n0 hn fr htr hd
      have e41 : M' 41 0 = tC σ re 8 := by rw [htr.1]; simp [tk_cnt]
      refine sg_X6_follow_125 ⟨by omega, by omega, fun _ => hQ M' fr ⟨e41, fun f x hf hx => htr.2.1 f x hf hx, fun a a0 a1 => ⟨?_, hd a a0 (by omega)⟩, fun a g a0 a1 hg => ?_⟩, fun c => absurd c (by omega)⟩
      · have := htr.2.2.2.2.2.2.1 a a0 (by omega)
        rw [tPK_0] at this
        simpa using this
      · have := htr.2.2.2.2.2.2.2 a g a0 a1 hg
        rw [if_pos hg] at this
        exact this
    | succ t ih =>
      intro n M' n0 hn fr htr hd
      have e41 : M' 41 0 = tC σ re 8 := by rw [htr.1]; simp [tk_cnt]
      have h7 := htr.2.2.2.2.2.2.1 n n0 (by omega)
      rw [tPK_0] at h7
      refine sg_X6_follow_125 ⟨by omega, by omega, fun c => absurd c (by omega), fun _ => ?_⟩
      refine c_measure ho n0 (by omega) e41 h7.1 (by simpa using h7.2.1) (fun g hg => ?_) (fun M2 f1 f2 f3 f4 f5 => ⟨rfl, ?_⟩)
      · have := htr.2.2.2.2.2.2.2 n g n0 (by omega) hg
        rw [if_pos hg] at this
        exact this
      · refine ih (n + 1) M2 (by omega) (by omega) (fun c hc => by rw [f1 c (by omega) (by omega) (by omega), fr c hc]) ?_ (fun a a0 a1 => ?_)
        · unfold TRq at htr ⊢
          rw [f1 41 (by decide) (by decide) (by decide), f1 42 (by decide) (by decide) (by decide), f1 43 (by decide) (by decide) (by decide), f1 47 (by decide) (by decide) (by decide), f1 48 (by decide) (by decide) (by decide), f1 49 (by decide) (by decide) (by decide), f1 50 (by decide) (by decide) (by decide)]
          exact htr
        · by_cases han : a = n
          · subst han; exact ⟨f3, f4, f5⟩
          · rw [f2 44 a han, f2 45 a han, f2 46 a han]; exact hd a a0 (by omega)
  -- one frame
  have inner : ∀ (t f k : Nat) (M' : am_M), f < 8 → (k : Int) + t = sp_n σ (f : Int) → (∀ c, c < 36 ∨ 50 < c → M' c = M c) → (∀ a : Int, 0 ≤ a → a < sp_n σ (f : Int) → M' 37 a = sp_m σ re f a) → TRq M' σ re f k k → (∀ M2, (∀ c, c < 36 ∨ 50 < c → M2 c = M c) → TRq M2 σ re (f + 1) 0 0 → AW (d + 5) mX6_follow 26 [(0, .inr 41), (1, .inr 31), (2, .inr 36), (3, .inl re), (4, .inl ((f : Int) + 1))] [] M2 Q) → AW (d + 5) mX6_follow 45 [(0, .inr 41), (1, .inr 31), (2, .inr 36), (3, .inl re), (4, .inl (f : Int)), (5, .inl (k : Int))] [] M' Q := by
    intro t
    induction t with
    | zero =>
      intro f k M' hf hk fr hj htr kk
      have hn := sp_n_r σ (f : Int)
      have e32 : M' 32 f = sp_n σ f := (pkc M' fr).n ⟨by omega, by omega⟩
      refine sg_X6_follow_45 ⟨by omega, by omega, by omega, fun _ => kk M' fr ?_, fun c => absurd c (by omega)⟩
      obtain ⟨h1, h2, h3, h4, h5, h6, h7, h8⟩ := htr
      have ek : (sp_n σ (f : Int)).toNat = k := by omega
      have e0 : tk_cnt (tk σ re (f + 1)).1 0 = 0 := rfl
      refine ⟨?_, fun g x hg hx => ?_, fun _ x hx => ?_, fun x hx => absurd hx (by omega), fun _ x hx => ?_, fun g x hg hg8 hx => h6 g x (by omega) hg8 hx, fun n n0 n1 => ?_, fun n g n0 n1 hg => ?_⟩
      · rw [h1, tC_succ, ek, e0]; omega
      · by_cases hgf : g = f
        · subst hgf
          have := h3 hf x (by omega)
          rw [if_pos (by omega)] at this
          exact ⟨this, h4 x (by omega)⟩
        · exact h2 g x (by omega) hx
      · rw [if_neg (by omega)]
        have := h5 (by omega) x hx
        rw [show 6 * ((f + 1 : Nat) : Int) + (x : Int) = 6 * ((f : Int) + 1) + x by omega, this, ← ek]
        rfl
      · have := h6 (f + 2) x (by omega) (by omega) hx
        rw [show 6 * (((f + 1 : Nat) : Int) + 1) + (x : Int) = 6 * ((f + 2 : Nat) : Int) + x by omega, this]
        rfl
      · obtain ⟨g1, g2, g3⟩ := h7 n n0 n1
        have ep : tPK σ re f k n = tP σ re f n := by unfold tP; rw [ek]
        rw [ep] at g2 g3
        rw [tPK_0]
        refine ⟨g1, ?_, ?_⟩
        · rw [g2, tLN]; simp
        · rw [g3, tLL]; simp
      · have g8 := h8 n g n0 n1 hg
        have ep : tPK σ re f k n = tP σ re f n := by unfold tP; rw [ek]
        rw [g8, ep, tPK_0]
        by_cases hgf : g = f
        · subst hgf
          rw [if_neg (Nat.lt_irrefl g), if_pos rfl, if_pos (show g < g + 1 by omega)]
          rfl
        · by_cases hlt : g < f
          · rw [if_pos hlt, if_pos (by omega)]
          · rw [if_neg hlt, if_neg hgf, if_neg (by omega)]
            split <;> rfl
    | succ t ih =>
      intro f k M' hf hk fr hj htr kk
      have hn := sp_n_r σ (f : Int)
      have hp' := pkc M' fr
      have e32 : M' 32 f = sp_n σ f := hp'.n ⟨by omega, by omega⟩
      have e49 : M' 49 ((f : Int) * 6 + k) = (tk σ re f).1 k := by
        rw [show (f : Int) * 6 + k = 6 * f + k by omega, htr.2.2.1 hf k (by omega), if_neg (by omega)]
      have r49 : am_r ((tk σ re f).1 (k : Int)) := by
        have h9 := tC_r (σ := σ) (re := re) f
        rcases (tk_row (σ := σ) (re := re) f).1 (k : Int) with h | h <;> omega
      have hkn : (k : Int) < sp_n σ (f : Int) := by omega
      have t48 := tcnt_48 (σ := σ) (re := re) hf (q := k + 1) (by omega)
      have next : ∀ M2 : am_M, (∀ c, c < 36 ∨ 50 < c → M2 c = M c) → M2 37 = M' 37 → TRq M2 σ re f k (k + 1) → AC (d + 4) mX6_addPeak [.inr 41, .inr 31, .inl ((f : Int) * 6 + k), .inl (f : Int)] M2 (fun r M9 => r = none ∧ AW (d + 5) mX6_follow 45 [(0, .inr 41), (1, .inr 31), (2, .inr 36), (3, .inl re), (4, .inl (f : Int)), (5, .inl ((k : Int) + 1))] [] M9 Q) := by
        intro M2 fr2 e37 ht2
        refine c_addPeak (by omega) ho hre (pkc M2 fr2) ht2 hf hkn (fun M3 fr3 ht3 => ⟨rfl, ?_⟩)
        exact ih f (k + 1) M3 hf (by omega) (fun c hc => by rw [fr3 c (by omega) (by omega) (by omega) (by omega), fr2 c hc]) (fun a a0 a1 => by rw [fr3 37 (by decide) (by decide) (by decide) (by decide), e37]; exact hj a a0 a1) ht3 kk
      refine sg_X6_follow_45 ?_
      rw [e32, e49]
      refine ⟨by omega, by omega, by omega, fun c => absurd c (by omega), fun _ => ⟨by omega, r49, fun c => ⟨by omega, ?_⟩, fun c => ?_⟩⟩
      · rw [hj k (by omega) hkn]
        refine next _ (fun z hz => by rw [am_up_ne _ _ _ _ _ (by omega), fr z hz]) (am_up_ne _ _ _ _ _ (by decide)) ?_
        rw [show (f : Int) * 6 + k = 6 * f + k by omega]
        exact tr_keep htr hf hkn c
      · have e41 : M' 41 0 = tC σ re f + tk_cnt (tk σ re f).1 k := htr.1
        have hcn := tcnt_new (σ := σ) (re := re) c
        have hC := tC_r (σ := σ) (re := re) f
        have hc0 := tk_cnt_r (tk σ re f).1 k
        refine sg_X6_begin ⟨by omega, fun c => absurd c (by omega), fun _ => ⟨by omega, by omega, rfl, by omega, ?_⟩⟩
        have e37 : ∀ z, (am_up (am_up (am_up (am_up (am_up M' 49 ((f : Int) * 6 + k) (M' 41 0)) 42 (M' 41 0) f) 43 (M' 41 0) 0) 47 (M' 41 0) 0) 41 0 (M' 41 0 + 1)) 37 z = M' 37 z := fun z => rfl
        rw [e37, hj k (by omega) hkn]
        refine next _ (fun z hz => ?_) rfl ?_
        · rw [am_up_ne _ _ _ _ _ (by omega), am_up_ne _ _ _ _ _ (by omega), am_up_ne _ _ _ _ _ (by omega), am_up_ne _ _ _ _ _ (by omega), am_up_ne _ _ _ _ _ (by omega), am_up_ne _ _ _ _ _ (by omega), fr z hz]
        · rw [show (f : Int) * 6 + k = 6 * f + k by omega]
          exact tr_begin htr hf hkn c (by simp [am_up]) (fun z => by simp [am_up]) (fun z => by simp [am_up]) (fun z => by simp [am_up]) (by funext z; simp [am_up]) (fun z => by simp [am_up]) (fun z => by simp [am_up])
  have outer : ∀ (t f : Nat) (M' : am_M), f + t = 8 → (∀ c, c < 36 ∨ 50 < c → M' c = M c) → TRq M' σ re f 0 0 → AW (d + 5) mX6_follow 26 [(0, .inr 41), (1, .inr 31), (2, .inr 36), (3, .inl re), (4, .inl (f : Int))] [] M' Q := by
    intro t
    induction t with
    | zero =>
      intro f M' hf fr htr
      have : f = 8 := by omega
      subst this
      refine sg_X6_follow_26 ⟨by omega, fun _ => ?_, fun c => absurd c (by omega)⟩
      exact meas (tC σ re 8).toNat 0 M' (by omega) (by omega) fr htr (fun a a0 a1 => absurd a1 (by omega))
    | succ t ih =>
      intro f M' hf fr htr
      have hn := sp_n_r σ (f : Int)
      refine sg_X6_follow_26 ⟨by omega, fun c => absurd c (by omega), fun _ => ?_⟩
      refine c_join ho (pkc M' fr) ⟨by omega, by omega⟩ hre (fun M2 fr2 hm2 => ⟨_, rfl, ?_⟩)
      have := inner (sp_n σ (f : Int)).toNat f 0 M2 (by omega) (by omega) (fun c hc => by rw [fr2 c (by omega), fr c hc]) hm2 ?_ (fun M3 fr3 ht3 => ?_)
      · simpa using this
      · unfold TRq at htr ⊢
        rw [fr2 41 (by decide), fr2 42 (by decide), fr2 43 (by decide), fr2 47 (by decide), fr2 48 (by decide), fr2 49 (by decide), fr2 50 (by decide)]
        exact htr
      · have := ih (f + 1) M3 (by omega) fr3 ht3
        simpa using this
  refine sg_X6_follow ?_
  have := outer 8 0 (am_fill (am_fill (am_up M 41 0 0) 48 384 (-9)) 49 48 (-9)) (by omega) (fun c hc => ?_) ⟨?_, fun g x hg => absurd hg (by omega), fun _ x hx => ?_, fun x hx => absurd hx (by omega), fun _ x hx => ?_, fun g x hg hg8 hx => ?_, fun n n0 n1 => ?_, fun n g n0 n1 hg => ?_⟩
  · simpa using this
  · funext j
    have : c ≠ 49 ∧ c ≠ 48 ∧ c ≠ 41 := by omega
    simp [am_fill, am_up, this]
  · simp [am_fill, am_up, tC, tk, tk_cnt]
  · rw [if_neg (by omega)]
    simp only [am_fill, if_true]
    rw [if_pos (by omega)]
    rfl
  · simp only [am_fill, if_true]
    rw [if_pos (by omega)]
    rfl
  · simp only [am_fill, if_true]
    rw [if_pos (by omega)]
  · simp [am_fill, am_up] at n1
    omega
  · rw [if_neg (by omega), tPK_0]
    have : am_fill (am_fill (am_up M 41 0 0) 48 384 (-9)) 49 48 (-9) 48 (8 * n + g) = -9 := by
      simp only [am_fill]
      rw [if_neg (by decide), if_pos trivial, if_pos (by omega)]
    rw [this]
    split <;> rfl
end CF
