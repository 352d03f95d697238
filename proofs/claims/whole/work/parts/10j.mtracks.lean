/-! the reference lays the tracks -/
section MT
variable {σ : Int → Int} {re : Int}
theorem sp_m_r (f k : Nat) : sp_m σ re (f : Int) (k : Int) = -9 ∨ (0 ≤ sp_m σ re (f : Int) (k : Int) ∧ sp_m σ re (f : Int) (k : Int) < sp_n σ ((f : Int) + 1)) := by
  have n2 := sp_n_r σ ((f : Int) + 1)
  have h1 := jm_r (A := sp_t σ f) (B := sp_t σ (f + 1)) (n1 := sp_n σ f) (re := re) n2.1 k
  have h2 := jfr_r (A := sp_t σ f) (B := sp_t σ (f + 1)) (n1 := sp_n σ f) (re := re) n2.1 k
  unfold sp_m
  omega
theorem sp_m_inj {f k l : Nat} (hk : sp_m σ re (f : Int) (k : Int) ≠ -9) (he : sp_m σ re (f : Int) (k : Int) = sp_m σ re (f : Int) (l : Int)) : k = l := jm_inj (sp_n_r σ ((f : Int) + 1)).1 hk he
theorem tk_nx_row (f : Nat) (x : Int) : (tk σ re (f + 1)).1 x = tk_nx (tk σ re f).1 (tk σ re f).2 (sp_m σ re (f : Int)) (sp_n σ (f : Int)).toNat x := rfl
/-- the mate goes on with the track -/
theorem tr_next {f k y : Nat} (hk : (k : Int) < sp_n σ (f : Int)) (hy : sp_m σ re (f : Int) (k : Int) = y) : tr σ re (f + 1) (y : Int) = tr σ re f (k : Int) := by
  have hn := sp_n_r σ (f : Int)
  have h0 := tr_r (σ := σ) (re := re) f k hk
  have hrow : (tk σ re (f + 1)).1 (y : Int) = tr σ re f (k : Int) := by
    rw [tk_nx_row]
    rcases tk_nx_spec (tk σ re f).1 (tk σ re f).2 (sp_m σ re (f : Int)) (sp_n σ (f : Int)).toNat (y : Int) with ⟨-, h2⟩ | ⟨l, h1, h2, h3, h4⟩
    · exact absurd hy (h2 k (by omega) (by omega))
    · have := sp_m_inj (σ := σ) (re := re) (f := f) (k := l) (l := k) h2 (by rw [h3, hy])
      subst this
      exact h4
  unfold tr tk_at at hrow ⊢
  rw [hrow, if_neg]
  have : tr σ re f (k : Int) = (if (tk σ re f).1 (k : Int) = -9 then (tk σ re f).2 + tk_cnt (tk σ re f).1 (k : Int).toNat else (tk σ re f).1 (k : Int)) := rfl
  omega
/-- without a mate it ends -/
theorem tr_end {f k : Nat} (hk : (k : Int) < sp_n σ (f : Int)) (hm : sp_m σ re (f : Int) (k : Int) = -9) : tP σ re (f + 1) (tr σ re f (k : Int)) = -9 := by
  have hn := sp_n_r σ (f : Int)
  have h0 := tr_r (σ := σ) (re := re) f k hk
  by_cases hc : tP σ re (f + 1) (tr σ re f (k : Int)) = -9
  · exact hc
  · obtain ⟨y, h1, -, h3⟩ := tP_some hc
    by_cases hr : (tk σ re (f + 1)).1 (y : Int) = -9
    · rw [tr_new hr] at h3
      have := tk_cnt_r (tk σ re (f + 1)).1 y
      omega
    · rw [tr_old hr, tk_nx_row] at h3
      rw [tk_nx_row] at hr
      rcases tk_nx_spec (tk σ re f).1 (tk σ re f).2 (sp_m σ re (f : Int)) (sp_n σ (f : Int)).toNat (y : Int) with ⟨g, -⟩ | ⟨l, g1, g2, g3, g4⟩
      · exact absurd g hr
      · rw [g4] at h3
        have := tr_inj (σ := σ) (re := re) (f := f) (k := l) (l := k) (by omega) hk h3
        subst this
        exact absurd hm g2
theorem tP_gone {n : Int} {f : Nat} (hn : n < tC σ re f) (h : tP σ re f n = -9) : ∀ t : Nat, tP σ re (f + t) n = -9
  | 0 => h
  | t + 1 => by
    have ih := tP_gone hn h t
    by_cases hc : tP σ re (f + (t + 1)) n = -9
    · exact hc
    · have h1 := tC_mono (σ := σ) (re := re) f (t + 1)
      exact absurd ih (tP_prev (f := f + t) (by rw [show f + t + 1 = f + (t + 1) by omega]; omega) hc)
theorem tr_P {f x : Nat} {n : Int} (hx : (x : Int) < sp_n σ (f : Int)) (h : tP σ re f n = -9) : tr σ re f (x : Int) ≠ n := fun e => by
  rw [tP_eq hx e] at h; omega
/-- the mates as the reference holds them -/
def MMT (M : am_M) (σ : Int → Int) (re : Int) : Prop := ∀ f x : Nat, (f : Int) < σ 0 → (x : Int) < sp_n σ (f : Int) → M 72 (6 * f + x) = sp_m σ re f x
/-- trackOf, when the tracks below T are laid -/
def MTQ (M : am_M) (σ : Int → Int) (re T : Int) : Prop := ∀ f x : Nat, (f : Int) < σ 0 → (x : Int) < sp_n σ (f : Int) → M 73 (6 * f + x) = if tr σ re f x < T then tr σ re f x else -9
theorem c_follows {d : Nat} {M : am_M} {Q : Option Int → am_M → Prop} (ho : sp_ok σ) (hmt : MMT M σ re) {f k : Nat} (hf : (f : Int) < σ 0) (hk : (k : Int) < sp_n σ (f : Int)) {T : Int} (hT : T = tr σ re f k) (eT : M 62 19 = T) (hlow : tC σ re f ≤ T) (htq : MTQ M σ re T) (hQ : ∀ M', (∀ c, c ≠ 73 → M' c = M c) → MTQ M' σ re (T + 1) → Q none M') : AC d mX8_follows [.inr 62, .inl (f : Int), .inl (k : Int)] M Q := by
  have h0 := ho.1
  refine sg_X8_follows ?_
  -- at a peak of the track; below g it is marked
  have key : ∀ (t g x : Nat) (M' : am_M), g + t = 8 → f ≤ g → (g : Int) < σ 0 → (x : Int) < sp_n σ (g : Int) → tr σ re g x = T → (∀ c, c ≠ 73 → M' c = M c) → (∀ a y : Nat, (a : Int) < σ 0 → (y : Int) < sp_n σ (a : Int) → M' 73 (6 * a + y) = if tr σ re a y < T then tr σ re a y else if tr σ re a y = T ∧ a < g then T else -9) → AW d mX8_follows 5 [(0, .inr 62), (3, .inl (g : Int)), (4, .inl (x : Int))] [] M' Q := by
    intro t
    induction t with
    | zero => intro g x M' ht hfg hg; omega
    | succ t ih =>
      intro g x M' ht hfg hg hx hxT fr hd
      have hn := sp_n_r σ (g : Int)
      have hT0 := tr_r (σ := σ) (re := re) g x hx
      have e72 : M' 72 (6 * (g : Int) + x) = sp_m σ re g x := by rw [fr 72 (by decide)]; exact hmt g x hg hx
      have eT' : M' 62 19 = T := by rw [fr 62 (by decide)]; exact eT
      -- the row behind the mark
      have mark : ∀ a y : Nat, (a : Int) < σ 0 → (y : Int) < sp_n σ (a : Int) → am_up M' 73 (6 * (g : Int) + x) T 73 (6 * a + y) = if tr σ re a y < T then tr σ re a y else if tr σ re a y = T ∧ a < g + 1 then T else -9 := by
        intro a y ha hy
        have hny := sp_n_r σ (a : Int)
        by_cases hay : a = g ∧ y = x
        · obtain ⟨rfl, rfl⟩ := hay
          rw [am_up_same, if_neg (by omega), if_pos ⟨hxT, by omega⟩]
        · rw [am_up_idx _ _ (by omega), hd a y ha hy]
          by_cases h1 : tr σ re a y < T
          · rw [if_pos h1, if_pos h1]
          · rw [if_neg h1, if_neg h1]
            by_cases h2 : tr σ re a y = T ∧ a < g
            · rw [if_pos h2, if_pos ⟨h2.1, by omega⟩]
            · rw [if_neg h2, if_neg]
              intro h3
              have hag : a = g := by omega
              subst hag
              have := tr_inj (σ := σ) (re := re) (f := a) (k := y) (l := x) hy hx (by rw [h3.1, hxT])
              exact hay ⟨rfl, this⟩
      refine sg_X8_follows_5 ⟨by omega, fun c => absurd c (by omega), fun _ => ⟨by omega, ?_⟩⟩
      rw [e72, eT']
      rcases sp_m_r (σ := σ) (re := re) g x with hm | hm
      · rw [hm]
        refine sg_X8_follows_5 ⟨by decide, fun _ => ?_, fun c => absurd rfl c⟩
        refine hQ _ (fun c hc => by rw [am_up_ne _ _ _ _ _ hc, fr c hc]) (fun a y ha hy => ?_)
        have hend := tr_end (σ := σ) (re := re) hx hm
        rw [hxT] at hend
        rw [mark a y ha hy]
        by_cases h1 : tr σ re a y < T
        · rw [if_pos h1, if_pos (by omega)]
        · rw [if_neg h1]
          by_cases h2 : tr σ re a y = T
          · rw [if_pos (show tr σ re a y < T + 1 by omega)]
            by_cases hag : a < g + 1
            · rw [if_pos ⟨h2, hag⟩, h2]
            · have := tP_gone (σ := σ) (re := re) (f := g + 1) (n := T) (by rw [← hxT]; exact hT0.2) hend (a - (g + 1))
              rw [show g + 1 + (a - (g + 1)) = a by omega] at this
              exact absurd h2 (tr_P hy this)
          · rw [if_neg (fun z => h2 z.1), if_neg (by omega)]
      · have ey : sp_m σ re (g : Int) (x : Int) = (((sp_m σ re (g : Int) (x : Int)).toNat : Nat) : Int) := by omega
        have hg1 : ((g + 1 : Nat) : Int) < σ 0 := by
          by_cases hq : ((g + 1 : Nat) : Int) < σ 0
          · exact hq
          · have := sp_n_out ho (f := (g : Int) + 1) (by omega)
            omega
        rw [ey, show (g : Int) + 1 = ((g + 1 : Nat) : Int) by omega]
        refine ih (g + 1) _ _ (by omega) (by omega) hg1 ?_ ?_ (fun c hc => by rw [am_up_ne _ _ _ _ _ hc, fr c hc]) mark
        · rw [← ey, show ((g + 1 : Nat) : Int) = (g : Int) + 1 by omega]; exact hm.2
        · rw [tr_next hx ey, hxT]
  refine key (8 - f) f k M (by omega) (Nat.le_refl _) hf hk hT.symm (fun _ _ => rfl) (fun a y ha hy => ?_)
  rw [htq a y ha hy]
  by_cases h1 : tr σ re a y < T
  · rw [if_pos h1, if_pos h1]
  · rw [if_neg h1, if_neg h1, if_neg]
    intro h2
    have h3 := (tr_r (σ := σ) (re := re) a y hy).2
    have h4 := tC_mono (σ := σ) (re := re) (a + 1) (f - (a + 1))
    rw [show a + 1 + (f - (a + 1)) = f by omega] at h4
    omega
/-- the reference's tracks are those of σ -/
def MTR (M : am_M) (σ : Int → Int) (re : Int) : Prop := M 62 19 = tC σ re 8 ∧ ∀ f x : Nat, (f : Int) < σ 0 → (x : Int) < sp_n σ (f : Int) → M 73 (6 * f + x) = tr σ re f x ∧ M 72 (6 * f + x) = sp_m σ re f x
theorem tC_F (ho : sp_ok σ) {f : Nat} (hf : σ 0 ≤ f) : ∀ t : Nat, tC σ re (f + t) = tC σ re f
  | 0 => rfl
  | t + 1 => by
    rw [show f + (t + 1) = (f + t) + 1 by omega, tC_succ, tC_F ho hf t, sp_n_out ho (f := ((f + t : Nat) : Int)) (by omega)]
    simp [tk_cnt]
theorem c_laysTracks {d : Nat} {M : am_M} {Q : Option Int → am_M → Prop} (ho : sp_ok σ) (hs : MC σ M) (hre : 0 ≤ re ∧ re ≤ 20) (hQ : ∀ M', (∀ c, c < 62 ∨ (62 < c ∧ c < 70) ∨ 74 < c → M' c = M c) → (∀ j, j ≠ 19 → M' 62 j = M 62 j) → MPK M' σ → MTR M' σ re → Q none M') : AC (d + 7) mX8_laysTracks [.inr 62, .inl re] M Q := by
  have h0 := ho.1
  refine sg_X8_laysTracks (c_laysPeaks hs ho (fun M1 hp1 fr1 => ⟨rfl, ?_⟩))
  -- the last loop
  have lay : ∀ (t f k : Nat) (M' : am_M), (f : Int) < σ 0 → (k : Int) + t = sp_n σ (f : Int) → (∀ c, c ≠ 62 → c ≠ 72 → c ≠ 73 → c ≠ 74 → M' c = M1 c) → (∀ j, j ≠ 19 → M' 62 j = M 62 j) → MMT M' σ re → M' 62 19 = tC σ re f + tk_cnt (tk σ re f).1 k → MTQ M' σ re (tC σ re f + tk_cnt (tk σ re f).1 k) →
      (∀ M2, (∀ c, c ≠ 62 → c ≠ 72 → c ≠ 73 → c ≠ 74 → M2 c = M1 c) → (∀ j, j ≠ 19 → M2 62 j = M 62 j) → MMT M2 σ re → M2 62 19 = tC σ re (f + 1) → MTQ M2 σ re (tC σ re (f + 1)) → AW (d + 7) mX8_laysTracks 67 [(0, .inr 62), (2, .inl ((f : Int) + 1))] [] M2 Q) → AW (d + 7) mX8_laysTracks 79 [(0, .inr 62), (2, .inl (f : Int)), (3, .inl (k : Int))] [] M' Q := by
    intro t
    induction t with
    | zero =>
      intro f k M' hf hk fr fj hm eT htq kk
      have hn := sp_n_r σ (f : Int)
      have e70 : M' 70 f = sp_n σ f := by rw [fr 70 (by decide) (by decide) (by decide) (by decide)]; exact hp1.n ⟨by omega, hf⟩
      have ek : (sp_n σ (f : Int)).toNat = k := by omega
      refine sg_X8_laysTracks_79 ⟨by omega, by omega, by omega, fun _ => kk M' fr fj hm ?_ ?_, fun c => absurd c (by omega)⟩
      · rw [eT, tC_succ, ek]
      · rw [tC_succ, ek]; exact htq
    | succ t ih =>
      intro f k M' hf hk fr fj hm eT htq kk
      have hn := sp_n_r σ (f : Int)
      have hkn : (k : Int) < sp_n σ (f : Int) := by omega
      have e70 : M' 70 f = sp_n σ f := by rw [fr 70 (by decide) (by decide) (by decide) (by decide)]; exact hp1.n ⟨by omega, hf⟩
      have hC := tC_r (σ := σ) (re := re) f
      have hcn := tk_cnt_r (tk σ re f).1 k
      have htr := tr_r (σ := σ) (re := re) f k hkn
      have e73 := htq f k hf hkn
      have hC1 := tC_r (σ := σ) (re := re) (f + 1)
      refine sg_X8_laysTracks_79 ?_
      rw [e70, e73]
      by_cases hr : (tk σ re f).1 (k : Int) = -9
      · have e := tr_new hr
        rw [if_neg (by omega)]
        refine ⟨by omega, by omega, by omega, fun c => absurd c (by omega), fun _ => ⟨by omega, by decide, fun c => absurd rfl c, fun _ => ?_⟩⟩
        refine c_follows ho hm hf hkn (T := tC σ re f + tk_cnt (tk σ re f).1 k) e.symm eT (by omega) htq (fun M2 fr2 ht2 => ⟨rfl, ?_⟩)
        have hcc := tcnt_new (σ := σ) (re := re) hr
        have := ih f (k + 1) (am_up M2 62 19 (M2 62 19 + 1)) hf (by omega) (fun c a1 a2 a3 a4 => by rw [am_up_ne _ _ _ _ _ a1, fr2 c a3, fr c a1 a2 a3 a4]) (fun j hj => by rw [am_up_idx _ _ hj, fr2 62 (by decide)]; exact fj j hj) (fun a y ha hy => by rw [am_up_cell _ (by decide), fr2 72 (by decide)]; exact hm a y ha hy) (by rw [am_up_same, fr2 62 (by decide), eT, hcc]; omega) (fun a y ha hy => by
          rw [am_up_cell _ (by decide), ht2 a y ha hy, hcc, Int.add_assoc]) kk
        exact this
      · have e := tr_old hr
        have hlt : tr σ re f (k : Int) < tC σ re f + tk_cnt (tk σ re f).1 k := by
          rcases (tk_row (σ := σ) (re := re) f).1 (k : Int) with h | h
          · exact absurd h hr
          · omega
        rw [if_pos hlt]
        have hcc := tcnt_old (σ := σ) (re := re) hr
        refine ⟨by omega, by omega, by omega, fun c => absurd c (by omega), fun _ => ⟨by omega, by omega, fun _ => ?_, fun c => absurd c (by omega)⟩⟩
        exact ih f (k + 1) M' hf (by omega) fr fj hm (by rw [hcc]; exact eT) (by rw [hcc]; exact htq) kk
  have lays : ∀ (t f : Nat) (M' : am_M), (f : Int) + t = σ 0 → (∀ c, c ≠ 62 → c ≠ 72 → c ≠ 73 → c ≠ 74 → M' c = M1 c) → (∀ j, j ≠ 19 → M' 62 j = M 62 j) → MMT M' σ re → M' 62 19 = tC σ re f → MTQ M' σ re (tC σ re f) → AW (d + 7) mX8_laysTracks 67 [(0, .inr 62), (2, .inl (f : Int))] [] M' Q := by
    intro t
    induction t with
    | zero =>
      intro f M' hf fr fj hm eT htq
      have e63 : M' 63 0 = σ 0 := by rw [fr 63 (by decide) (by decide) (by decide) (by decide), fr1 63 (by decide) (by decide)]; exact hs 0 (by omega) (by omega)
      have e8 : tC σ re 8 = tC σ re f := by
        have := tC_F (re := re) ho (f := f) (by omega) (8 - f)
        rw [show f + (8 - f) = 8 by omega] at this
        exact this
      refine sg_X8_laysTracks_67 ⟨by omega, by omega, fun _ => ?_, fun c => absurd c (by omega)⟩
      refine hQ M' (fun c hc => by rw [fr c (by omega) (by omega) (by omega) (by omega), fr1 c (by omega) (by omega)]) fj (hp1.congr (fr 70 (by decide) (by decide) (by decide) (by decide)) (fr 71 (by decide) (by decide) (by decide) (by decide))) ⟨by rw [eT, e8], fun g x hg hx => ⟨?_, hm g x hg hx⟩⟩
      rw [htq g x hg hx, if_pos]
      have h1 := (tr_r (σ := σ) (re := re) g x hx).2
      have h2 := tC_mono (σ := σ) (re := re) (g + 1) (f - (g + 1))
      rw [show g + 1 + (f - (g + 1)) = f by omega] at h2
      omega
    | succ t ih =>
      intro f M' hf fr fj hm eT htq
      have hn := sp_n_r σ (f : Int)
      have e63 : M' 63 0 = σ 0 := by rw [fr 63 (by decide) (by decide) (by decide) (by decide), fr1 63 (by decide) (by decide)]; exact hs 0 (by omega) (by omega)
      refine sg_X8_laysTracks_67 ⟨by omega, by omega, fun c => absurd c (by omega), fun _ => ?_⟩
      have := lay (sp_n σ (f : Int)).toNat f 0 M' (by omega) (by omega) fr fj hm (by rw [eT]; simp [tk_cnt]) (by simpa [tk_cnt] using htq) (fun M2 a1 a2 a3 a4 a5 => ?_)
      · simpa using this
      · have := ih (f + 1) M2 (by omega) a1 a2 a3 a4 a5
        simpa using this
  have joi : ∀ (t f : Nat) (M' : am_M), (f : Int) + 1 + t = σ 0 → (∀ c, c ≠ 72 → c ≠ 73 → c ≠ 74 → M' c = M1 c) → (∀ g x : Nat, g < f → (x : Int) < sp_n σ (g : Int) → M' 72 (6 * g + x) = sp_m σ re g x) → (∀ j, 6 * (f : Int) ≤ j → j < 48 → M' 72 j = -9) → (∀ j, 0 ≤ j → j < 48 → M' 73 j = -9) → AW (d + 7) mX8_laysTracks 36 [(0, .inr 62), (1, .inl re), (2, .inl (f : Int))] [] M' Q := by
    intro t
    induction t with
    | zero =>
      intro f M' hf fr hd hz h73
      have e63 : M' 63 0 = σ 0 := by rw [fr 63 (by decide) (by decide) (by decide), fr1 63 (by decide) (by decide)]; exact hs 0 (by omega) (by omega)
      refine sg_X8_laysTracks_36 ⟨by omega, by omega, fun _ => ?_, fun c => absurd c (by omega)⟩
      have := lays (σ 0).toNat 0 (am_up M' 62 19 0) (by omega) (fun c a1 a2 a3 a4 => by rw [am_up_ne _ _ _ _ _ a1, fr c a2 a3 a4]) (fun j hj => by rw [am_up_idx _ _ hj, fr 62 (by decide) (by decide) (by decide), fr1 62 (by decide) (by decide)]) (fun g x hg hx => ?_) (by rw [am_up_same]; rfl) (fun g x hg hx => ?_)
      · simpa using this
      · rw [am_up_cell _ (by decide)]
        have hx6 := sp_n_r σ (g : Int)
        by_cases hgf : g < f
        · exact hd g x hgf hx
        · rw [hz _ (by omega) (by omega)]
          rcases sp_m_r (σ := σ) (re := re) g x with h | h
          · exact h.symm
          · have := sp_n_out ho (f := (g : Int) + 1) (by omega)
            omega
      · have hx6 := sp_n_r σ (g : Int)
        have := (tr_r (σ := σ) (re := re) g x hx).1
        rw [am_up_cell _ (by decide), h73 _ (by omega) (by omega), if_neg]
        have : tC σ re 0 = 0 := rfl
        omega
    | succ t ih =>
      intro f M' hf fr hd hz h73
      have hn := sp_n_r σ (f : Int)
      have e63 : M' 63 0 = σ 0 := by rw [fr 63 (by decide) (by decide) (by decide), fr1 63 (by decide) (by decide)]; exact hs 0 (by omega) (by omega)
      refine sg_X8_laysTracks_36 ⟨by omega, by omega, fun c => absurd c (by omega), fun _ => ?_⟩
      refine c_joins (hs.congr (by rw [fr 63 (by decide) (by decide) (by decide), fr1 63 (by decide) (by decide)])) ho (hp1.congr (fr 70 (by decide) (by decide) (by decide)) (fr 71 (by decide) (by decide) (by decide))) ⟨by omega, by omega⟩ hre (fun M2 fr2 fx2 hd2 => ⟨rfl, ?_⟩)
      have := ih (f + 1) M2 (by omega) (fun c a1 a2 a3 => by rw [fr2 c a1 a3, fr c a1 a2 a3]) (fun g x hg hx => ?_) (fun j j0 j1 => ?_) (fun j j0 j1 => by rw [fr2 73 (by decide) (by decide)]; exact h73 j j0 j1)
      · simpa using this
      · have hx6 := sp_n_r σ (g : Int)
        by_cases hgf : g = f
        · subst hgf; exact hd2 x (by omega) hx
        · rw [fx2 _ (by omega)]; exact hd g x (by omega) hx
      · rw [fx2 _ (by omega)]; exact hz j (by omega) j1
  have fil : ∀ (t f : Nat) (M' : am_M), f + t = 48 → (∀ c, c ≠ 72 → c ≠ 73 → M' c = M1 c) → (∀ j, 0 ≤ j → j < (f : Int) → M' 72 j = -9 ∧ M' 73 j = -9) → AW (d + 7) mX8_laysTracks 6 [(0, .inr 62), (1, .inl re), (2, .inl (f : Int))] [] M' Q := by
    intro t
    induction t with
    | zero =>
      intro f M' hf fr hd
      refine sg_X8_laysTracks_6 ⟨by omega, fun _ => ?_, fun c => absurd c (by omega)⟩
      have := joi (σ 0 - 1).toNat 0 M' (by omega) (fun c a1 a2 a3 => fr c a1 a2) (fun g x hg => absurd hg (by omega)) (fun j j0 j1 => (hd j (by omega) (by omega)).1) (fun j j0 j1 => (hd j j0 (by omega)).2)
      simpa using this
    | succ t ih =>
      intro f M' hf fr hd
      refine sg_X8_laysTracks_6 ⟨by omega, fun c => absurd c (by omega), fun _ => ⟨by omega, ?_⟩⟩
      have := ih (f + 1) (am_up (am_up M' 72 f (-9)) 73 f (-9)) (by omega) (fun c a1 a2 => by rw [am_up_ne _ _ _ _ _ a2, am_up_ne _ _ _ _ _ a1, fr c a1 a2]) (fun j j0 j1 => ?_)
      · simpa using this
      · by_cases hj : j = f
        · subst hj; rw [am_up_same, am_up_cell _ (by decide), am_up_same]; exact ⟨rfl, rfl⟩
        · rw [am_up_idx _ _ hj, am_up_cell _ (by decide), am_up_idx _ _ hj, am_up_cell _ (by decide)]; exact hd j j0 (by omega)
  have := fil 48 0 M1 (by omega) (fun _ _ _ => rfl) (fun j j0 j1 => absurd j1 (by omega))
  simpa using this
end MT
