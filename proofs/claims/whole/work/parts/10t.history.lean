/-! the scenes that are kept -/
section HI
variable {σ : Int → Int}
theorem k_takeFrom {d a b : Nat} {M : am_M} {Q : Option Int → am_M → Prop} (ha : am_sc a) (hb : am_sc b) (hab : a + 3 ≤ b ∨ b + 3 ≤ a) (hs : SC b σ M) (hQ : ∀ M', (∀ x, x ≠ a → x ≠ a + 1 → x ≠ a + 2 → M' x = M x) → SC a σ M' → Q none M') : AC (d + 1) mX3_takeFrom [.inr a, .inr b] M Q := by
  obtain ⟨s0, s1, s2, s3, s4, s5⟩ := hs
  refine sg_X3_takeFrom ha hb (hQ _ (fun x h0 h1 h2 => ?_) ⟨?_, ?_, ?_, ?_, ?_, fun j b1 b2 => ?_⟩)
  · rw [am_cp_ne _ _ _ _ _ _ _ h2, am_cp_ne _ _ _ _ _ _ _ h1, am_up_ne _ _ _ _ _ h0, am_up_ne _ _ _ _ _ h0]
  · rw [am_cp_ne _ _ _ _ _ _ _ (by omega), am_cp_ne _ _ _ _ _ _ _ (by omega), am_up_idx _ _ (by decide), am_up_same, s0]
  · rw [am_cp_ne _ _ _ _ _ _ _ (by omega), am_cp_ne _ _ _ _ _ _ _ (by omega), am_up_same, am_up_ne _ _ _ _ _ (by omega), s1]
  · rw [am_cp_ne _ _ _ _ _ _ _ (by omega), am_cp_in _ _ _ _ (by omega), am_up_ne _ _ _ _ _ (by omega), am_up_ne _ _ _ _ _ (by omega)]; exact s2
  · rw [am_cp_ne _ _ _ _ _ _ _ (by omega), am_cp_in _ _ _ _ (by omega), am_up_ne _ _ _ _ _ (by omega), am_up_ne _ _ _ _ _ (by omega)]; exact s3
  · rw [am_cp_ne _ _ _ _ _ _ _ (by omega), am_cp_in _ _ _ _ (by omega), am_up_ne _ _ _ _ _ (by omega), am_up_ne _ _ _ _ _ (by omega)]; exact s4
  · rw [am_cp_in _ _ _ _ (by omega), am_cp_ne _ _ _ _ _ _ _ (by omega), am_up_ne _ _ _ _ _ (by omega), am_up_ne _ _ _ _ _ (by omega), show 0 + (j - 0) = j by omega]; exact s5 j b1 b2
theorem am_sc_h {k : Nat} (h : k < 6) : am_sc (11 + 3 * k) := by
  have : k = 0 ∨ k = 1 ∨ k = 2 ∨ k = 3 ∨ k = 4 ∨ k = 5 := by omega
  rcases this with h | h | h | h | h | h <;> subst h <;> exact ⟨rfl, rfl, rfl⟩
theorem am_sc_i {k : Nat} (h : k < 2) : am_sc (56 + 3 * k) := by
  have : k = 0 ∨ k = 1 := by omega
  rcases this with h | h <;> subst h <;> exact ⟨rfl, rfl, rfl⟩
/-- the rooms of the history -/
def HP (M : am_M) (p : Nat → Nat) : Prop := (∀ i : Nat, i < 6 → p i < 6 ∧ M 10 (i : Int) = 11 + 3 * (p i : Int)) ∧ ∀ i j : Nat, i < 6 → j < 6 → p i = p j → i = j
def HIS (M : am_M) (h : Nat) (η : Nat → Int → Int) : Prop := (M 9 0 = h ∧ h ≤ 6) ∧ ∃ p : Nat → Nat, HP M p ∧ ∀ i : Nat, i < h → sp_ok (η i) ∧ SC (11 + 3 * p i) (η i) M
theorem HP.sc {M : am_M} {p : Nat → Nat} (h : HP M p) {i : Int} (hi : 0 ≤ i ∧ i < 6) : (M 10 i).toNat = 11 + 3 * p i.toNat ∧ am_sc (11 + 3 * p i.toNat) ∧ p i.toNat < 6 := by
  have := h.1 i.toNat (by omega)
  rw [show ((i.toNat : Nat) : Int) = i by omega] at this
  exact ⟨by omega, am_sc_h this.1, this.1⟩
theorem k_loseOldest {d : Nat} {M : am_M} {Q : Option Int → am_M → Prop} {p : Nat → Nat} (hp : HP M p) (hQ : ∀ M', (∀ x, x ≠ 9 → x ≠ 10 → M' x = M x) → M' 9 0 = 5 → HP M' (fun i => p ((i + 1) % 6)) → Q none M') : AC d mX0_loseOldest [.inr 9] M Q := by
  have key : ∀ (t i : Nat) (M' : am_M), i + t = 6 → 1 ≤ i → (∀ x, x ≠ 9 → x ≠ 10 → M' x = M x) → (∀ j : Nat, j < 6 → M' 10 (j : Int) = if j + 1 < i then M 10 ((j : Int) + 1) else M 10 (j : Int)) → AW d mX0_loseOldest 9 [(0, .inr 9), (1, .inr ((M 10 0).toNat)), (2, .inl (i : Int))] [] M' Q := by
    intro t
    induction t with
    | zero =>
      intro i M' hi h1 fr hv
      have h0 := hp.sc (i := 0) (by omega)
      refine sg_X0_loseOldest_9 ⟨by omega, fun _ => ⟨by rw [h0.1]; exact h0.2.1, hQ _ (fun x h9 h10 => ?_) (am_up_same _ _ _ _) ⟨fun j hj => ?_, fun j l hj hl e => ?_⟩⟩, fun k => absurd k (by omega)⟩
      · rw [am_up_ne _ _ _ _ _ h9, am_up_ne _ _ _ _ _ h10]; exact fr x h9 h10
      · refine ⟨(hp.1 _ (by omega)).1, ?_⟩
        rw [am_up_cell _ (by decide)]
        by_cases hj5 : j = 5
        · subst hj5
          rw [show ((5 : Nat) : Int) = 5 from rfl, am_up_same, h0.1]
          show ((11 + 3 * p 0 : Nat) : Int) = 11 + 3 * (p 0 : Int)
          omega
        · rw [am_up_idx _ _ (by omega), hv j hj, if_pos (by omega)]
          have := (hp.1 (j + 1) (by omega)).2
          dsimp only
          rw [show (j + 1) % 6 = j + 1 by omega, ← this, show ((j + 1 : Nat) : Int) = (j : Int) + 1 by omega]
      · have := hp.2 _ _ (by omega) (by omega) e
        omega
    | succ t ih =>
      intro i M' hi h1 fr hv
      have e := hv i (by omega)
      rw [if_neg (by omega)] at e
      have hsi := hp.sc (i := (i : Int)) (by omega)
      refine sg_X0_loseOldest_9 ⟨by omega, fun k => absurd k (by omega), fun _ => ?_⟩
      rw [e]
      refine ⟨by omega, by rw [hsi.1]; exact hsi.2.1, by omega, ?_⟩
      rw [show (i : Int) + 1 = ((i + 1 : Nat) : Int) by omega]
      refine ih (i + 1) _ (by omega) (by omega) (fun x h9 h10 => by rw [am_up_ne _ _ _ _ _ h10]; exact fr x h9 h10) (fun j hj => ?_)
      by_cases hji : j + 1 = i
      · rw [show (j : Int) = (i : Int) - 1 by omega, am_up_same, if_pos (by omega), show (i : Int) - 1 + 1 = i by omega]
        have := (hp.1 i (by omega)).2
        omega
      · rw [am_up_idx _ _ (by omega), hv j hj]
        by_cases hc : j + 1 < i
        · rw [if_pos hc, if_pos (by omega)]
        · rw [if_neg hc, if_neg (by omega)]
  exact sg_X0_loseOldest (key 5 1 M (by omega) (by omega) (fun _ _ _ => rfl) (fun j hj => by rw [if_neg (by omega)]))
/-- one more scene -/
def hh (h : Nat) : Nat := if h < 6 then h + 1 else 6
def hη (h : Nat) (η : Nat → Int → Int) (σ : Int → Int) (i : Nat) : Int → Int := if h < 6 then (if i = h then σ else η i) else (if i = 5 then σ else η (i + 1))
theorem k_remember {d : Nat} {M : am_M} {Q : Option Int → am_M → Prop} {h : Nat} {η : Nat → Int → Int} (ho : sp_ok σ) (hs : SC 1 σ M) (hh0 : HIS M h η) (hQ : ∀ M', (∀ x, x < 9 ∨ 28 < x → M' x = M x) → HIS M' (hh h) (hη h η σ) → Q none M') : AC (d + 2) mX0_remember [.inr 9, .inr 1] M Q := by
  obtain ⟨⟨e9, h6⟩, p, hp, hsc⟩ := hh0
  refine sg_X0_remember ⟨by omega, fun k => ?_, fun k => ?_⟩
  · have hsi := hp.sc (i := M 9 0) (by omega)
    rw [hsi.1]
    have et : (M 9 0).toNat = h := by omega
    rw [et] at hsi ⊢
    refine ⟨by omega, hsi.2.1, k_takeFrom hsi.2.1 ⟨rfl, rfl, rfl⟩ (Or.inr (by omega)) hs (fun M1 fr1 hs1 => ⟨rfl, hQ _ (fun x hx => ?_) ⟨⟨?_, ?_⟩, p, ⟨fun i hi => ⟨(hp.1 i hi).1, ?_⟩, hp.2⟩, fun i hi => ?_⟩⟩)⟩
    · rw [am_up_ne _ _ _ _ _ (by omega)]; exact fr1 x (by omega) (by omega) (by omega)
    · rw [am_up_same, fr1 9 (by omega) (by omega) (by omega), e9]
      unfold hh
      rw [if_pos (by omega)]
      omega
    · unfold hh
      rw [if_pos (by omega)]
      omega
    · rw [am_up_ne _ _ _ _ _ (by decide), fr1 10 (by omega) (by omega) (by omega)]; exact (hp.1 i hi).2
    · unfold hh at hi
      rw [if_pos (by omega)] at hi
      unfold hη
      rw [if_pos (show h < 6 by omega)]
      by_cases hih : i = h
      · subst hih
        rw [if_pos rfl]
        exact ⟨ho, hs1.congr (am_up_ne _ _ _ _ _ (by omega)) (am_up_ne _ _ _ _ _ (by omega)) (am_up_ne _ _ _ _ _ (by omega))⟩
      · rw [if_neg hih]
        have hi2 := hsc i (by omega)
        have hne : p i ≠ p h := fun z => hih (hp.2 i h (by omega) (by omega) z)
        have hpi := (hp.1 i (by omega)).1
        refine ⟨hi2.1, hi2.2.congr ?_ ?_ ?_⟩
        · rw [am_up_ne _ _ _ _ _ (by omega)]; exact fr1 _ (by omega) (by omega) (by omega)
        · rw [am_up_ne _ _ _ _ _ (by omega)]; exact fr1 _ (by omega) (by omega) (by omega)
        · rw [am_up_ne _ _ _ _ _ (by omega)]; exact fr1 _ (by omega) (by omega) (by omega)
  · have eh : h = 6 := by omega
    refine k_loseOldest hp (fun M1 fr1 f9 hp1 => ⟨rfl, ?_⟩)
    have hsi := hp1.sc (i := 5) (by omega)
    have hsi2 : am_sc (11 + 3 * p 0) ∧ p 0 < 6 := hsi.2
    have hsi1 : (M1 10 5).toNat = 11 + 3 * p 0 := hsi.1
    rw [f9, hsi1]
    have hs1 : SC 1 σ M1 := hs.congr (fr1 1 (by decide) (by decide)) (fr1 2 (by decide) (by decide)) (fr1 3 (by decide) (by decide))
    refine ⟨by omega, hsi2.1, k_takeFrom hsi2.1 ⟨rfl, rfl, rfl⟩ (Or.inr (by omega)) hs1 (fun M2 fr2 hs2 => ⟨rfl, hQ _ (fun x hx => ?_) ⟨⟨?_, ?_⟩, (fun i => p ((i + 1) % 6)), ⟨fun i hi => ⟨(hp1.1 i hi).1, ?_⟩, hp1.2⟩, fun i hi => ?_⟩⟩)⟩
    · rw [am_up_ne _ _ _ _ _ (by omega), fr2 x (by omega) (by omega) (by omega)]; exact fr1 x (by omega) (by omega)
    · rw [am_up_same, fr2 9 (by omega) (by omega) (by omega), f9]
      unfold hh
      rw [if_neg (by omega)]
      rfl
    · unfold hh
      rw [if_neg (by omega)]
      omega
    · rw [am_up_ne _ _ _ _ _ (by decide), fr2 10 (by omega) (by omega) (by omega)]; exact (hp1.1 i hi).2
    · unfold hh at hi
      rw [if_neg (by omega)] at hi
      unfold hη
      rw [if_neg (show ¬ h < 6 by omega)]
      by_cases hi5 : i = 5
      · subst hi5
        rw [if_pos rfl]
        exact ⟨ho, hs2.congr (am_up_ne _ _ _ _ _ (by omega)) (am_up_ne _ _ _ _ _ (by omega)) (am_up_ne _ _ _ _ _ (by omega))⟩
      · rw [if_neg hi5]
        dsimp only
        rw [show (i + 1) % 6 = i + 1 by omega]
        have hi2 := hsc (i + 1) (by omega)
        have hne : p (i + 1) ≠ p 0 := fun z => by have := hp.2 (i + 1) 0 (by omega) (by omega) z; omega
        have hpi := (hp.1 (i + 1) (by omega)).1
        refine ⟨hi2.1, hi2.2.congr ?_ ?_ ?_⟩
        · rw [am_up_ne _ _ _ _ _ (by omega), fr2 _ (by omega) (by omega) (by omega)]; exact fr1 _ (by omega) (by omega)
        · rw [am_up_ne _ _ _ _ _ (by omega), fr2 _ (by omega) (by omega) (by omega)]; exact fr1 _ (by omega) (by omega)
        · rw [am_up_ne _ _ _ _ _ (by omega), fr2 _ (by omega) (by omega) (by omega)]; exact fr1 _ (by omega) (by omega)
theorem k_giveLatest {d : Nat} {M : am_M} {Q : Option Int → am_M → Prop} {h : Nat} {η : Nat → Int → Int} (hh0 : HIS M h η) (h0 : 0 < h) (hQ : ∀ M', (∀ x, x = 0 ∨ (3 < x ∧ x ≠ 9) → M' x = M x) → SC 1 (η (h - 1)) M' → HIS M' (h - 1) η → Q none M') : AC (d + 2) mX0_giveLatest [.inr 9, .inr 1] M Q := by
  obtain ⟨⟨e9, h6⟩, p, hp, hsc⟩ := hh0
  have hsi := hp.sc (i := M 9 0 - 1) (by omega)
  have et : (M 9 0 - 1).toNat = h - 1 := by omega
  rw [et] at hsi
  have hl := hsc (h - 1) (by omega)
  refine sg_X0_giveLatest ⟨by omega, fun k => absurd k (by omega), fun _ => ⟨by omega, ?_⟩⟩
  rw [hsi.1]
  refine k_takeFrom ⟨rfl, rfl, rfl⟩ hsi.2.1 (Or.inl (by omega)) (hl.2.congr (am_up_ne _ _ _ _ _ (by omega)) (am_up_ne _ _ _ _ _ (by omega)) (am_up_ne _ _ _ _ _ (by omega))) (fun M1 fr1 hs1 => ⟨rfl, hQ M1 (fun x hx => ?_) hs1 ⟨⟨?_, by omega⟩, p, ⟨fun i hi => ⟨(hp.1 i hi).1, ?_⟩, hp.2⟩, fun i hi => ⟨(hsc i (by omega)).1, (hsc i (by omega)).2.congr ?_ ?_ ?_⟩⟩⟩)
  · rw [fr1 x (by omega) (by omega) (by omega), am_up_ne _ _ _ _ _ (by omega)]
  · rw [fr1 9 (by decide) (by decide) (by decide), am_up_same]; omega
  · rw [fr1 10 (by decide) (by decide) (by decide), am_up_ne _ _ _ _ _ (by decide)]; exact (hp.1 i hi).2
  · rw [fr1 _ (by omega) (by omega) (by omega), am_up_ne _ _ _ _ _ (by omega)]
  · rw [fr1 _ (by omega) (by omega) (by omega), am_up_ne _ _ _ _ _ (by omega)]
  · rw [fr1 _ (by omega) (by omega) (by omega), am_up_ne _ _ _ _ _ (by omega)]
theorem k_followAnew {d : Nat} {M : am_M} {Q : Option Int → am_M → Prop} (ho : sp_ok σ) (hs : SC 1 σ M) (hQ : ∀ M', (∀ x, x ≠ 0 → x < 32 ∨ 50 < x → M' x = M x) → (∀ j, j ≠ 10 → M' 0 j = M 0 j) → CL M' σ → M' 0 10 = -9 → Q none M') : AC (d + 6) mX7_followAnew [.inr 0] M Q := by
  refine sg_X7_followAnew (c_find hs ho (fun M1 hp1 fr1 => ⟨rfl, ?_⟩))
  have hs1 : SC 1 σ M1 := hs.congr (fr1 1 (by decide) (by decide) (by decide) (by decide)) (fr1 2 (by decide) (by decide) (by decide) (by decide)) (fr1 3 (by decide) (by decide) (by decide) (by decide))
  have e21 : M1 2 1 = σ 3 := hs1.2.2.2.1
  rw [e21]
  refine c_follow ho hp1 ho.2.2.2.1 (fun M2 fr2 ht2 => ⟨rfl, hQ _ (fun x h0 hx => ?_) (fun j hj => ?_) ?_ (am_up_same _ _ _ _)⟩)
  · rw [am_up_ne _ _ _ _ _ h0, fr2 x (by omega)]; exact fr1 x (by omega) (by omega) (by omega) (by omega)
  · rw [am_up_idx _ _ hj, fr2 0 (by omega), fr1 0 (by decide) (by decide) (by decide) (by decide)]
  · have hcl : CL M2 σ := ⟨hs1.congr (fr2 1 (by omega)) (fr2 2 (by omega)) (fr2 3 (by omega)), hp1.congr (fun x a b => fr2 x (by omega)), ht2⟩
    exact hcl.congr (fun c hc => am_up_ne _ _ _ _ _ (by omega))
/-! the reference's -/
def MHIS (M : am_M) (h : Nat) (η : Nat → Int → Int) : Prop := M 62 4 = h ∧ ∀ i : Nat, i < h → ∀ j : Int, 0 ≤ j → j < 101 → M 65 (101 * (i : Int) + j) = η i j
theorem c_notes {d : Nat} {M : am_M} {Q : Option Int → am_M → Prop} {h : Nat} {η : Nat → Int → Int} (h6 : h ≤ 6) (hs : MC σ M) (hh0 : MHIS M h η) (hQ : ∀ M', (∀ x, x ≠ 62 → x ≠ 65 → M' x = M x) → (∀ j, j ≠ 4 → M' 62 j = M 62 j) → MHIS M' (hh h) (hη h η σ) → Q none M') : AC d mX8_notes [.inr 62] M Q := by
  obtain ⟨e4, hv⟩ := hh0
  -- the copy
  have put : ∀ (t k : Nat) (g : Nat) (M' : am_M), k + t = 101 → g < 6 → (∀ x, x ≠ 62 → x ≠ 65 → M' x = M x) → (∀ j, j ≠ 4 → M' 62 j = M 62 j) → M' 62 4 = g → (∀ i : Nat, i < g → ∀ j : Int, 0 ≤ j → j < 101 → M' 65 (101 * (i : Int) + j) = hη h η σ i j) → (∀ j : Int, 0 ≤ j → j < k → M' 65 (101 * (g : Int) + j) = σ j) → hh h = g + 1 → hη h η σ g = σ → AW d mX8_notes 51 [(0, .inr 62), (1, .inl (k : Int))] [] M' Q := by
    intro t
    induction t with
    | zero =>
      intro k g M' hk hg fr fj f4 hlow hnow eh eg
      refine sg_X8_notes_51 ⟨by omega, fun _ => hQ _ (fun x h1 h2 => ?_) (fun j hj => ?_) ⟨?_, fun i hi j j1 j2 => ?_⟩, fun z => absurd z (by omega)⟩
      · rw [am_up_ne _ _ _ _ _ h1]; exact fr x h1 h2
      · rw [am_up_idx _ _ hj]; exact fj j hj
      · rw [am_up_same, f4, eh]; omega
      · rw [am_up_cell _ (by decide)]
        by_cases hig : i = g
        · subst hig; rw [eg]; exact hnow j j1 (by omega)
        · exact hlow i (by omega) j j1 j2
    | succ t ih =>
      intro k g M' hk hg fr fj f4 hlow hnow eh eg
      have e63 : M' 63 (k : Int) = σ k := by rw [fr 63 (by decide) (by decide)]; exact hs k (by omega) (by omega)
      refine sg_X8_notes_51 ⟨by omega, fun z => absurd z (by omega), fun _ => ⟨by omega, by omega, ?_⟩⟩
      rw [f4, e63, show (k : Int) + 1 = ((k + 1 : Nat) : Int) by omega]
      refine ih (k + 1) g _ (by omega) hg (fun x h1 h2 => by rw [am_up_ne _ _ _ _ _ h2]; exact fr x h1 h2) (fun j hj => by rw [am_up_cell _ (by decide)]; exact fj j hj) (by rw [am_up_cell _ (by decide)]; exact f4) (fun i hi j j1 j2 => ?_) (fun j j1 j2 => ?_) eh eg
      · rw [am_up_idx _ _ (by omega)]; exact hlow i hi j j1 j2
      · by_cases hj : j = k
        · rw [hj, am_up_same]
        · rw [am_up_idx _ _ (by omega)]; exact hnow j j1 (by omega)
  have shift : ∀ (t k : Nat) (M' : am_M), k + t = 505 → h = 6 → (∀ x, x ≠ 65 → M' x = M x) → (∀ j : Int, 0 ≤ j → j < 606 → M' 65 j = if j < k then M 65 (j + 101) else M 65 j) → AW d mX8_notes 11 [(0, .inr 62), (1, .inl (k : Int))] [] M' Q := by
    intro t
    induction t with
    | zero =>
      intro k M' hk eh fr hm
      refine sg_X8_notes_11 ⟨by omega, fun _ => ?_, fun z => absurd z (by omega)⟩
      have f4 : M' 62 4 = 6 := by rw [fr 62 (by decide), e4, eh]; rfl
      rw [f4]
      refine put 101 0 5 _ (by omega) (by omega) (fun x h1 h2 => by rw [am_up_ne _ _ _ _ _ h1]; exact fr x h2) (fun j hj => by rw [am_up_idx _ _ hj, fr 62 (by decide)]) (am_up_same _ _ _ _) (fun i hi j j1 j2 => ?_) (fun j j1 j2 => absurd j2 (by omega)) (by unfold hh; rw [if_neg (by omega)]) (by unfold hη; rw [if_neg (by omega), if_pos rfl])
      rw [am_up_cell _ (by decide), hm _ (by omega) (by omega), if_pos (by omega)]
      unfold hη
      rw [if_neg (by omega), if_neg (by omega), ← hv (i + 1) (by omega) j j1 j2]
      congr 1
      omega
    | succ t ih =>
      intro k M' hk eh fr hm
      refine sg_X8_notes_11 ⟨by omega, fun z => absurd z (by omega), fun _ => ⟨by omega, by omega, ?_⟩⟩
      rw [show (k : Int) + 1 = ((k + 1 : Nat) : Int) by omega]
      refine ih (k + 1) _ (by omega) eh (fun x h2 => by rw [am_up_ne _ _ _ _ _ h2]; exact fr x h2) (fun j j1 j2 => ?_)
      by_cases hj : j = k
      · rw [hj, am_up_same, hm _ (by omega) (by omega), if_neg (by omega), if_pos (by omega)]
      · rw [am_up_idx _ _ hj, hm j j1 j2]
        by_cases hc : j < k
        · rw [if_pos hc, if_pos (by omega)]
        · rw [if_neg hc, if_neg (by omega)]
  refine sg_X8_notes ⟨by omega, fun k => ?_, fun k => ?_⟩
  · refine put 101 0 h M (by omega) (by omega) (fun _ _ _ => rfl) (fun _ _ => rfl) e4 (fun i hi j j1 j2 => ?_) (fun j j1 j2 => absurd j2 (by omega)) (by unfold hh; rw [if_pos (by omega)]) (by unfold hη; rw [if_pos (by omega), if_pos rfl])
    unfold hη
    rw [if_pos (by omega), if_neg (by omega)]
    exact hv i hi j j1 j2
  · exact shift 505 0 M (by omega) (by omega) (fun _ _ => rfl) (fun j j1 j2 => by rw [if_neg (by omega)])
end HI
