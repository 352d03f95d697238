/-! tells, undo, keep, back -/
section TS
theorem prs_ne {c : Int → Int} {N : Int} : ∀ (t : Nat) (δ : Int → Int) (x it : Int), dok δ → 0 ≤ x → x ≤ N → 0 ≤ it → (prs c N t δ x it).1 ≠ -1
  | 0, δ, x, it, hd, h0, hx, i0 => by
    rw [prs]
    simp only
    omega
  | t + 1, δ, x, it, hd, h0, hx, i0 => by
    have h1 := tok_r (c := c) (N := N) h0 hx
    have hf := itf_r (c := c) (N := N) (δ := δ) ⟨h0, hx⟩
    rw [prs]
    by_cases hz : tkk c N x = 0
    · rw [if_pos hz]
      by_cases hp : 0 < δ 0
      · rw [if_pos hp]; simp only; omega
      · rw [if_neg hp]; simp only; omega
    · rw [if_neg hz]
      by_cases hi : itf c N δ x = -9
      · rw [if_pos hi]
        have hg := itf_good hd ⟨h0, hx⟩ hi
        exact prs_ne t _ _ _ hg.1 (by omega) (by omega) (by omega)
      · rw [if_neg hi]; simp only; omega
theorem s_undo {d : Nat} : SIM d mX7_undo mX8_undo [] := by
  rintro M ⟨σ, c, N, h, η, kf, ι, φ, ψ, q, hC, hM⟩
  obtain ⟨ho, hL, hb, ht, hT, hH, hI, hfa, hF⟩ := hC
  have hC : CI σ c N h η kf ι φ ψ q M := ⟨ho, hL, hb, ht, hT, hH, hI, hfa, hF⟩
  have e9 : M 9 0 = h := hH.1.1
  have h6 := hH.1.2
  have e4 : M 62 4 = h := hM.2.2.1.1
  by_cases h0 : h = 0
  · refine sg_X7_undo ⟨by omega, fun y => absurd y (by omega), fun _ => ⟨_, rfl, sg_X8_undo ⟨by omega, fun y => absurd y (by omega), fun _ => ⟨rfl, inv_0 hC hM⟩⟩⟩⟩
  · have hp := hH.2.choose_spec.2 (h - 1) (by omega)
    refine sg_X7_undo ⟨by omega, fun _ => k_giveLatest hH (by omega) (fun M1 fr1 hs1 hH1 => ⟨rfl, ?_⟩), fun y => absurd y (by omega)⟩
    refine ci_anew hp.1 hs1 ht (hT.congr (by rw [fr1 7 (by omega)]) (fr1 8 (by omega))) hH1 (hI.congr (fun a ha => fr1 a (by omega))) hfa (hF.congr (by rw [fr1 51 (by omega)]) (fun a ha => fr1 a (by omega))) (fun M2 fr2 f9 hC2 => ⟨rfl, ?_⟩)
    have e92 : M2 9 0 = ((h - 1 : Nat) : Int) := by rw [f9]; exact hH1.1.1
    have frx : ∀ a, 62 ≤ a → M2 a = M a := fun a ha => (fr2 a ha).trans (fr1 a (by omega))
    have hM2 := hM.congr frx
    obtain ⟨m1, m2, m3, m4, m5⟩ := hM2
    refine ⟨_, rfl, ?_⟩
    have key : ∀ (t k : Nat) (M3 : am_M), k + t = 101 → (∀ a, a ≠ 62 → a ≠ 63 → M3 a = M2 a) → (∀ j, j ≠ 0 → j ≠ 4 → M3 62 j = M2 62 j) → M3 62 4 = ((h - 1 : Nat) : Int) → (∀ j : Int, 0 ≤ j → j < k → M3 63 j = η (h - 1) j) → AW (d + 10) mX8_undo 27 [(0, .inr 62), (1, .inl (k : Int))] [] M3 (fun r2 M4 => r2 = some (M2 9 0) ∧ INV M4) := by
      intro t
      induction t with
      | zero =>
        intro k M3 hk fr fj f4 hz
        refine sg_X8_undo_27 ⟨by omega, fun _ => ?_, fun y => absurd y (by omega)⟩
        rw [f4, e92]
        refine ⟨rfl, η (h - 1), c, N, h - 1, η, kf, ι, φ, ψ, q, hC2.congr (fun a ha => fr a (by omega) (by omega)), fun j j0 j1 => hz j j0 (by omega), m2.congr (fj 10 (by decide) (by decide)) (fr 69 (by decide) (by decide)), ⟨f4, fun i hi j j0 j1 => ?_⟩, m4.congr (fr 66 (by decide) (by decide)) (fr 67 (by decide) (by decide)), m5.congr (fj 8 (by decide) (by decide)) (fr 68 (by decide) (by decide))⟩
        rw [fr 65 (by decide) (by decide)]
        exact m3.2 i (by omega) j j0 j1
      | succ t ih =>
        intro k M3 hk fr fj f4 hz
        refine sg_X8_undo_27 ⟨by omega, fun y => absurd y (by omega), fun _ => ?_⟩
        rw [f4]
        refine ⟨by omega, by omega, ?_⟩
        rw [show (k : Int) + 1 = ((k + 1 : Nat) : Int) by omega]
        refine ih (k + 1) _ (by omega) (fun a a1 a2 => by rw [am_up_ne _ _ _ _ _ a2]; exact fr a a1 a2) (fun j j0 j4 => by rw [am_up_cell _ (by decide)]; exact fj j j0 j4) (by rw [am_up_cell _ (by decide)]; exact f4) (fun j j0 j1 => ?_)
        by_cases hj : j = k
        · rw [hj, am_up_same, fr 65 (by decide) (by decide)]
          exact m3.2 (h - 1) (by omega) k (by omega) (by omega)
        · rw [am_up_idx _ _ hj]; exact hz j j0 (by omega)
    have g4 : M2 62 4 = h := m3.1
    refine sg_X8_undo ⟨by omega, fun _ => ?_, fun y => absurd y (by omega)⟩
    refine key 101 0 _ (by omega) (fun a a1 _ => by rw [am_up_ne _ _ _ _ _ a1, am_up_ne _ _ _ _ _ a1]) (fun j j0 j4 => by rw [am_up_idx _ _ j4, am_up_idx _ _ j0]) (by rw [am_up_same, g4]; omega) (fun j j0 j1 => absurd j1 (by omega))
theorem s_keep {d : Nat} {i : Int} (hi : am_r i) : SIM d mX7_keep mX8_keep [.inl i] := by
  rintro M ⟨σ, c, N, h, η, kf, ι, φ, ψ, q, hC, hM⟩
  obtain ⟨ho, hL, hb, ht, hT, hH, hI, hfa, hF⟩ := hC
  have hC : CI σ c N h η kf ι φ ψ q M := ⟨ho, hL, hb, ht, hT, hH, hI, hfa, hF⟩
  by_cases hr : 0 ≤ i ∧ i < 2
  · have ei : i = ((i.toNat : Nat) : Int) := by omega
    have hin : i.toNat < 2 := by omega
    obtain ⟨⟨i1, i2, i3⟩, i4⟩ := hI i.toNat hin
    have e29 : (M 29 i).toNat = 56 + 3 * i.toNat := by rw [ei, i1]; omega
    have hsc := am_sc_i hin
    refine sg_X7_keep ⟨hi, fun y => absurd y (by omega), fun _ => ⟨fun _ => ?_, fun y => absurd y (by omega)⟩⟩
    rw [e29]
    refine ⟨hr, hsc, k_takeFrom hsc ⟨rfl, rfl, rfl⟩ (Or.inr (by omega)) hL.1 (fun M1 fr1 hs1 => ⟨rfl, _, rfl, ?_⟩)⟩
    have low : ∀ a, a ≠ 30 → (a < 56 + 3 * i.toNat ∨ 58 + 3 * i.toNat < a) → am_up M1 30 i 1 a = M a := fun a a1 a2 => by rw [am_up_ne _ _ _ _ _ a1]; exact fr1 a (by omega) (by omega) (by omega)
    have hC1 : CI σ c N h η (fun j => if j = i.toNat then 1 else kf j) (fun j => if j = i.toNat then σ else ι j) φ ψ q (am_up M1 30 i 1) := by
      refine ⟨ho, hL.congr (fun a ha => low a (by omega) (by omega)), by rw [low 0 (by decide) (by omega)]; exact hb, ht, hT.congr (by rw [low 7 (by decide) (by omega)]) (low 8 (by decide) (by omega)), hH.congr (fun a _ _ => low a (by omega) (by omega)), fun j hj => ?_, hfa, hF.congr (by rw [low 51 (by decide) (by omega)]) (fun a ha => low a (by omega) (by omega))⟩
      dsimp only
      obtain ⟨⟨j1, j2, j3⟩, j4⟩ := hI j hj
      by_cases hji : j = i.toNat
      · rw [if_pos hji, if_pos hji]
        refine ⟨⟨?_, Or.inr rfl, ?_⟩, fun _ => ⟨ho, ?_⟩⟩
        · rw [low 29 (by decide) (by omega)]; exact j1
        · rw [show (j : Int) = i by omega, am_up_same]
        · rw [hji]
          exact hs1.congr (am_up_ne _ _ _ _ _ (by omega)) (am_up_ne _ _ _ _ _ (by omega)) (am_up_ne _ _ _ _ _ (by omega))
      · rw [if_neg hji, if_neg hji]
        refine ⟨⟨?_, j2, ?_⟩, fun z => ⟨(j4 z).1, (j4 z).2.congr (low _ (by omega) (by omega)) (low _ (by omega) (by omega)) (low _ (by omega) (by omega))⟩⟩
        · rw [low 29 (by decide) (by omega)]; exact j1
        · rw [am_up_idx _ _ (by omega), fr1 30 (by omega) (by omega) (by omega)]; exact j3
    have hM1 := hM.congr (M' := am_up M1 30 i 1) (fun a ha => low a (by omega) (by omega))
    obtain ⟨m1, m2, m3, m4, m5⟩ := hM1
    have e10 : M1 1 0 = σ 0 := by rw [fr1 1 (by omega) (by omega) (by omega)]; exact hL.1.1
    rw [e10]
    have key : ∀ (t k : Nat) (M3 : am_M), k + t = 101 → (∀ a, a ≠ 62 → a ≠ 66 → M3 a = am_up M1 30 i 1 a) → (∀ j, j ≠ 0 → M3 62 j = am_up M1 30 i 1 62 j) → (∀ j : Int, 0 ≤ j → j < 202 → M3 66 j = if 101 * i ≤ j ∧ j < 101 * i + k then σ (j - 101 * i) else am_up M1 30 i 1 66 j) → AW (d + 10) mX8_keep 18 [(0, .inr 62), (1, .inl i), (2, .inl (k : Int))] [] M3 (fun r2 M4 => r2 = some (σ 0) ∧ INV M4) := by
      intro t
      induction t with
      | zero =>
        intro k M3 hk fr fj hz
        have g0 : M3 63 0 = σ 0 := by rw [fr 63 (by decide) (by decide)]; exact m1 0 (by omega) (by omega)
        refine sg_X8_keep_18 ⟨by omega, fun _ => ⟨hr, by rw [g0], σ, c, N, h, η, _, _, φ, ψ, q, hC1.congr (fun a ha => by rw [am_up_ne _ _ _ _ _ (by omega)]; exact fr a (by omega) (by omega)), m1.congr (by rw [am_up_ne _ _ _ _ _ (by decide)]; exact fr 63 (by decide) (by decide)), m2.congr (by rw [am_up_cell _ (by decide)]; exact fj 10 (by decide)) (by rw [am_up_ne _ _ _ _ _ (by decide)]; exact fr 69 (by decide) (by decide)), m3.congr (by rw [am_up_cell _ (by decide)]; exact fj 4 (by decide)) (by rw [am_up_ne _ _ _ _ _ (by decide)]; exact fr 65 (by decide) (by decide)), fun j hj => ?_, m5.congr (by rw [am_up_cell _ (by decide)]; exact fj 8 (by decide)) (by rw [am_up_ne _ _ _ _ _ (by decide)]; exact fr 68 (by decide) (by decide))⟩, fun y => absurd y (by omega)⟩
        dsimp only
        obtain ⟨j1, j2⟩ := m4 j hj
        by_cases hji : j = i.toNat
        · rw [if_pos hji, if_pos hji]
          refine ⟨by rw [show (j : Int) = i by omega, am_up_same], fun _ z z0 z1 => ?_⟩
          rw [am_up_cell _ (by decide), hz _ (by omega) (by omega), if_pos (by omega)]
          congr 1
          omega
        · rw [if_neg hji, if_neg hji]
          refine ⟨?_, fun y z z0 z1 => ?_⟩
          · rw [am_up_idx _ _ (by omega), fr 67 (by decide) (by decide)]; exact j1
          · rw [am_up_cell _ (by decide), hz _ (by omega) (by omega), if_neg (by omega)]; exact j2 y z z0 z1
      | succ t ih =>
        intro k M3 hk fr fj hz
        have g0 : M3 63 (k : Int) = σ k := by rw [fr 63 (by decide) (by decide)]; exact m1 k (by omega) (by omega)
        refine sg_X8_keep_18 ⟨by omega, fun y => absurd y (by omega), fun _ => ⟨by omega, by omega, ?_⟩⟩
        rw [g0, show (k : Int) + 1 = ((k + 1 : Nat) : Int) by omega]
        refine ih (k + 1) _ (by omega) (fun a a1 a2 => by rw [am_up_ne _ _ _ _ _ a2]; exact fr a a1 a2) (fun j j0 => by rw [am_up_cell _ (by decide)]; exact fj j j0) (fun j j0 j1 => ?_)
        by_cases hj : j = 101 * i + k
        · rw [hj, am_up_same, if_pos (by omega), show 101 * i + (k : Int) - 101 * i = k by omega]
        · rw [am_up_idx _ _ hj, hz j j0 j1]
          by_cases hz2 : 101 * i ≤ j ∧ j < 101 * i + k
          · rw [if_pos hz2, if_pos (by omega)]
          · rw [if_neg hz2, if_neg (by omega)]
    refine sg_X8_keep ⟨⟨hi, by decide, by decide⟩, fun _ => ?_, fun y => absurd y (by omega)⟩
    exact key 101 0 _ (by omega) (fun a a1 _ => am_up_ne _ _ _ _ _ a1) (fun j j0 => am_up_idx _ _ j0) (fun j j0 j1 => by rw [if_neg (by omega), am_up_cell _ (by decide)])
  · have href : AC (d + 10) mX8_keep [.inr 62, .inl i] M (fun r2 M2 => r2 = some (-1) ∧ INV M2) := sg_X8_keep ⟨⟨hi, by decide, by decide⟩, fun y => absurd y (by omega), fun _ => ⟨rfl, inv_0 hC hM⟩⟩
    exact sg_X7_keep ⟨hi, fun _ => ⟨_, rfl, href⟩, fun y => ⟨fun y2 => absurd ⟨y, y2⟩ hr, fun _ => ⟨_, rfl, href⟩⟩⟩
theorem s_back {d : Nat} {i : Int} (hi : am_r i) : SIM d mX7_back mX8_back [.inl i] := by
  rintro M ⟨σ, c, N, h, η, kf, ι, φ, ψ, q, hC, hM⟩
  obtain ⟨ho, hL, hb, ht, hT, hH, hI, hfa, hF⟩ := hC
  have hC : CI σ c N h η kf ι φ ψ q M := ⟨ho, hL, hb, ht, hT, hH, hI, hfa, hF⟩
  by_cases hr : 0 ≤ i ∧ i < 2
  · have ei : i = ((i.toNat : Nat) : Int) := by omega
    have hin : i.toNat < 2 := by omega
    obtain ⟨⟨i1, i2, i3⟩, i4⟩ := hI i.toNat hin
    have e29 : (M 29 i).toNat = 56 + 3 * i.toNat := by rw [ei, i1]; omega
    have e30 : M 30 i = kf i.toNat := by rw [ei, i3, ← ei]
    have e67 : M 67 i = kf i.toNat := by
      have := (hM.2.2.2.1 i.toNat hin).1
      rw [← ei] at this
      exact this
    have hsc := am_sc_i hin
    by_cases hk1 : kf i.toNat = 1
    · obtain ⟨ho2, hs2⟩ := i4 hk1
      refine sg_X7_back ⟨hi, fun y => absurd y (by omega), fun _ => ⟨fun _ => ⟨hr, by omega, fun _ => ?_, fun y => absurd y (by omega)⟩, fun y => absurd y (by omega)⟩⟩
      rw [e29]
      refine k_takeFrom ⟨rfl, rfl, rfl⟩ hsc (Or.inl (by omega)) hs2 (fun M1 fr1 hs1 => ⟨rfl, ?_⟩)
      have low : ∀ a, a ≠ 9 → 3 < a → am_up M1 9 0 0 a = M a := fun a a1 a2 => by rw [am_up_ne _ _ _ _ _ a1]; exact fr1 a (by omega) (by omega) (by omega)
      have hH1 : HIS (am_up M1 9 0 0) 0 η := by
        obtain ⟨-, p, hp, -⟩ := hH
        exact ⟨⟨by rw [am_up_same]; rfl, by omega⟩, p, ⟨fun j hj => by rw [low 10 (by decide) (by decide)]; exact hp.1 j hj, hp.2⟩, fun j hj => absurd hj (by omega)⟩
      refine ci_anew ho2 (hs1.congr (am_up_ne _ _ _ _ _ (by decide)) (am_up_ne _ _ _ _ _ (by decide)) (am_up_ne _ _ _ _ _ (by decide))) ht (hT.congr (by rw [low 7 (by decide) (by decide)]) (low 8 (by decide) (by decide))) hH1 (hI.congr (fun a ha => low a (by omega) (by omega))) hfa (hF.congr (by rw [low 51 (by decide) (by decide)]) (fun a ha => low a (by omega) (by omega))) (fun M2 fr2 f9 hC2 => ⟨rfl, _, rfl, ?_⟩)
      have frx : ∀ a, 62 ≤ a → M2 a = M a := fun a ha => (fr2 a ha).trans (low a (by omega) (by omega))
      have hM2 := hM.congr frx
      obtain ⟨m1, m2, m3, m4, m5⟩ := hM2
      have e10 : M2 1 0 = ι i.toNat 0 := hC2.2.1.1.1
      rw [e10]
      have key : ∀ (t k : Nat) (M3 : am_M), k + t = 101 → (∀ a, a ≠ 62 → a ≠ 63 → M3 a = M2 a) → (∀ j, j ≠ 0 → M3 62 j = M2 62 j) → (∀ j : Int, 0 ≤ j → j < k → M3 63 j = ι i.toNat j) → AW (d + 10) mX8_back 30 [(0, .inr 62), (1, .inl i), (2, .inl (k : Int))] [] M3 (fun r2 M4 => r2 = some (ι i.toNat 0) ∧ INV M4) := by
        intro t
        induction t with
        | zero =>
          intro k M3 hk fr fj hz
          refine sg_X8_back_30 ⟨by omega, fun _ => ⟨by rw [hz 0 (by omega) (by omega)], ι i.toNat, c, N, 0, η, kf, ι, φ, ψ, q, hC2.congr (fun a ha => by rw [am_up_ne _ _ _ _ _ (by omega)]; exact fr a (by omega) (by omega)), fun j j0 j1 => ?_, m2.congr (by rw [am_up_idx _ _ (by decide)]; exact fj 10 (by decide)) (by rw [am_up_ne _ _ _ _ _ (by decide)]; exact fr 69 (by decide) (by decide)), ⟨by rw [am_up_same]; rfl, fun j hj => absurd hj (by omega)⟩, m4.congr (by rw [am_up_ne _ _ _ _ _ (by decide)]; exact fr 66 (by decide) (by decide)) (by rw [am_up_ne _ _ _ _ _ (by decide)]; exact fr 67 (by decide) (by decide)), m5.congr (by rw [am_up_idx _ _ (by decide)]; exact fj 8 (by decide)) (by rw [am_up_ne _ _ _ _ _ (by decide)]; exact fr 68 (by decide) (by decide))⟩, fun y => absurd y (by omega)⟩
          rw [am_up_cell _ (by decide)]
          exact hz j j0 (by omega)
        | succ t ih =>
          intro k M3 hk fr fj hz
          have g0 : M3 66 (101 * i + k) = ι i.toNat k := by
            rw [fr 66 (by decide) (by decide)]
            have := (m4 i.toNat hin).2 hk1 k (by omega) (by omega)
            rw [← ei] at this
            exact this
          refine sg_X8_back_30 ⟨by omega, fun y => absurd y (by omega), fun _ => ⟨by omega, by omega, ?_⟩⟩
          rw [g0, show (k : Int) + 1 = ((k + 1 : Nat) : Int) by omega]
          refine ih (k + 1) _ (by omega) (fun a a1 a2 => by rw [am_up_ne _ _ _ _ _ a2]; exact fr a a1 a2) (fun j j0 => by rw [am_up_cell _ (by decide)]; exact fj j j0) (fun j j0 j1 => ?_)
          by_cases hj : j = k
          · rw [hj, am_up_same]
          · rw [am_up_idx _ _ hj]; exact hz j j0 (by omega)
      have g67 : M2 67 i = 1 := by rw [frx 67 (by omega), e67, hk1]
      refine sg_X8_back ⟨⟨hi, by decide, by decide⟩, fun _ => ⟨hr, by omega, fun _ => ?_, fun y => absurd y (by omega)⟩, fun y => absurd y (by omega)⟩
      exact key 101 0 _ (by omega) (fun a a1 _ => am_up_ne _ _ _ _ _ a1) (fun j j0 => am_up_idx _ _ j0) (fun j j0 j1 => absurd j1 (by omega))
    · refine sg_X7_back ⟨hi, fun y => absurd y (by omega), fun _ => ⟨fun _ => ⟨hr, by omega, fun y => absurd y (by omega), fun _ => ⟨_, rfl, ?_⟩⟩, fun y => absurd y (by omega)⟩⟩
      exact sg_X8_back ⟨⟨hi, by decide, by decide⟩, fun _ => ⟨hr, by omega, fun y => absurd y (by omega), fun _ => ⟨rfl, inv_0 hC hM⟩⟩, fun y => absurd y (by omega)⟩
  · have href : AC (d + 10) mX8_back [.inr 62, .inl i] M (fun r2 M2 => r2 = some (-1) ∧ INV M2) := sg_X8_back ⟨⟨hi, by decide, by decide⟩, fun y => absurd y (by omega), fun _ => ⟨rfl, inv_0 hC hM⟩⟩
    exact sg_X7_back ⟨hi, fun _ => ⟨_, rfl, href⟩, fun y => ⟨fun y2 => absurd ⟨y, y2⟩ hr, fun _ => ⟨_, rfl, href⟩⟩⟩
theorem s_tells {d : Nat} : SIM d mX7_tells mX8_tells [] := by
  rintro M ⟨σ, c, N, h, η, kf, ι, φ, ψ, q, hC, hM⟩
  obtain ⟨ho, hL, hb, ht, hT, hH, hI, hfa, hF⟩ := hC
  have hN := ht.1
  have hok := prs_ok (c := c) (N := N) 48 d0 0 0 d0_ok (by omega) (by omega) (by omega) (by omega) (by omega)
  refine sg_X7_tells (k_readAll ht hT (fun M1 fr1 hs1 => ⟨_, rfl, by omega, fun hz => ?_, fun hz => ⟨_, rfl, ?_⟩⟩))
  · -- it is taken
    have hok2 : dok (prs c N 48 d0 0 0).2 ∧ 0 < (prs c N 48 d0 0 0).2 0 := by
      rcases hok with hk | ⟨-, -, k3, k4⟩
      · omega
      · exact ⟨k3, k4⟩
    have hs1' : SC 4 (prs c N 48 d0 0 0).2 M1 := by
      rcases hs1 with k | k
      · omega
      · exact k
    have ho2 := hok2.1.sp hok2.2
    have hsA : SC 1 σ M1 := hL.1.congr (fr1.1 1 (by omega)) (fr1.1 2 (by omega)) (fr1.1 3 (by omega))
    refine k_remember ho hsA (hH.congr (fun a _ _ => fr1.1 a (by omega))) (fun M2 fr2 hH2 => ⟨rfl, ?_⟩)
    refine k_takeFrom ⟨rfl, rfl, rfl⟩ ⟨rfl, rfl, rfl⟩ (Or.inl (by decide)) (hs1'.congr (fr2 4 (by omega)) (fr2 5 (by omega)) (fr2 6 (by omega))) (fun M3 fr3 hs3 => ⟨rfl, ?_⟩)
    have low : ∀ a, 29 ≤ a → am_up M3 7 0 0 a = M a := fun a ha => by rw [am_up_ne _ _ _ _ _ (by omega), fr3 a (by omega) (by omega) (by omega), fr2 a (by omega)]; exact fr1.1 a (by omega)
    refine ci_anew (c := c) (N := 0) ho2 (hs3.congr (am_up_ne _ _ _ _ _ (by decide)) (am_up_ne _ _ _ _ _ (by decide)) (am_up_ne _ _ _ _ _ (by decide))) ⟨by omega, fun k k0 k1 => absurd k1 (by omega)⟩ ⟨am_up_same _ _ _ _, fun k k0 k1 => absurd k1 (by omega)⟩ (hH2.congr (fun a a1 a2 => by rw [am_up_ne _ _ _ _ _ (by omega)]; exact fr3 a (by omega) (by omega) (by omega))) (hI.congr (fun a ha => low a (by omega))) hfa (hF.congr (by rw [low 51 (by omega)]) (fun a ha => low a (by omega))) (fun M4 fr4 _ hC4 => ⟨rfl, _, rfl, ?_⟩)
    have frx : ∀ a, 62 ≤ a → M4 a = M a := fun a ha => (fr4 a ha).trans (low a (by omega))
    have hM4 := (hM.congr frx).r (MR.up0 M4 0)
    refine sg_X8_tells (c_reads ht hM4.2.1 (fun M5 r fr5 hr5 => ⟨_, rfl, ?_⟩))
    obtain ⟨g1, g2, g3, g4⟩ : 0 ≤ (prs c N 48 d0 0 0).1 ∧ M5 62 14 = -9 ∧ r = (prs c N 48 d0 0 0).1 ∧ DR (prs c N 48 d0 0 0).2 M5 := by
      rcases hr5 with k | k
      · omega
      · exact k
    obtain ⟨m1, m2, m3, m4, m5⟩ := hM4
    have n1 : MC σ M5 := m1.congr (fr5.1 63 (by decide) (by decide))
    have n3 : MHIS M5 h η := m3.congr (fr5.2 4 (by decide) (by decide) (by decide) (by decide)) (fr5.1 65 (by decide) (by decide))
    have n4 : MIMS M5 kf ι := m4.congr (fr5.1 66 (by decide) (by decide)) (fr5.1 67 (by decide) (by decide))
    have n5 : MF M5 φ ψ q := m5.congr (fr5.2 8 (by decide) (by decide) (by decide) (by decide)) (fr5.1 68 (by decide) (by decide))
    have hC5 : ∀ M6 : am_M, (∀ a, a < 62 → M6 a = M5 a) → CI (prs c N 48 d0 0 0).2 c 0 (hh h) (hη h η σ) kf ι φ ψ q M6 := fun M6 f6 => hC4.congr (fun a ha => by rw [f6 a ha, fr5.1 a (by omega) (by omega), am_up_ne _ _ _ _ _ (by omega)])
    refine ⟨by omega, fun _ => c_notes hH.1.2 n1 n3 (fun M6 fr6 fj6 hh6 => ⟨rfl, ?_⟩), fun y => absurd g2 y⟩
    have g46 : DR (prs c N 48 d0 0 0).2 M6 := fun j j0 j1 => by rw [fr6 64 (by decide) (by decide)]; exact g4 j j0 j1
    have key : ∀ (t k : Nat) (M7 : am_M), k + t = 101 → (∀ a, a ≠ 63 → M7 a = M6 a) → (∀ j : Int, 0 ≤ j → j < k → M7 63 j = (prs c N 48 d0 0 0).2 j) → AW (d + 10) mX8_tells 33 [(0, .inr 62), (1, .inl r), (2, .inl (k : Int))] [] M7 (fun r2 M8 => r2 = some (prs c N 48 d0 0 0).1 ∧ INV M8) := by
      intro t
      induction t with
      | zero =>
        intro k M7 hk fr hz
        refine sg_X8_tells_33 ⟨by omega, fun _ => ⟨by rw [g3], (prs c N 48 d0 0 0).2, c, 0, hh h, hη h η σ, kf, ι, φ, ψ, q, hC5 _ (fun a ha => by rw [am_up_ne _ _ _ _ _ (by omega), fr a (by omega)]; exact fr6 a (by omega) (by omega)), fun j j0 j1 => ?_, ⟨am_up_same _ _ _ _, fun k k0 k1 => absurd k1 (by omega)⟩, hh6.congr (by rw [am_up_idx _ _ (by decide), fr 62 (by decide)]) (by rw [am_up_ne _ _ _ _ _ (by decide)]; exact fr 65 (by decide)), n4.congr (by rw [am_up_ne _ _ _ _ _ (by decide), fr 66 (by decide)]; exact fr6 66 (by decide) (by decide)) (by rw [am_up_ne _ _ _ _ _ (by decide), fr 67 (by decide)]; exact fr6 67 (by decide) (by decide)), n5.congr (by rw [am_up_idx _ _ (by decide), fr 62 (by decide)]; exact fj6 8 (by decide)) (by rw [am_up_ne _ _ _ _ _ (by decide), fr 68 (by decide)]; exact fr6 68 (by decide) (by decide))⟩, fun y => absurd y (by omega)⟩
        rw [am_up_cell _ (by decide)]
        exact hz j j0 (by omega)
      | succ t ih =>
        intro k M7 hk fr hz
        have e64 : M7 64 (k : Int) = (prs c N 48 d0 0 0).2 k := by rw [fr 64 (by decide)]; exact g46 k (by omega) (by omega)
        refine sg_X8_tells_33 ⟨by omega, fun y => absurd y (by omega), fun _ => ⟨by omega, ?_⟩⟩
        rw [e64, show (k : Int) + 1 = ((k + 1 : Nat) : Int) by omega]
        refine ih (k + 1) _ (by omega) (fun a a1 => by rw [am_up_ne _ _ _ _ _ a1]; exact fr a a1) (fun j j0 j1 => ?_)
        by_cases hj : j = k
        · rw [hj, am_up_same]
        · rw [am_up_idx _ _ hj]; exact hz j j0 (by omega)
    exact key 101 0 M6 (by omega) (fun _ _ => rfl) (fun j j0 j1 => absurd j1 (by omega))
  · -- a fault
    have hC1 : CI σ c N h η kf ι φ ψ q M1 := ⟨ho, hL.congr (fun a ha => fr1.1 a (by omega)), by rw [fr1.1 0 (by omega)]; exact hb, ht, hT.congr fr1.2 (fr1.1 8 (by omega)), hH.congr (fun a _ _ => fr1.1 a (by omega)), hI.congr (fun a ha => fr1.1 a (by omega)), hfa, hF.congr (by rw [fr1.1 51 (by omega)]) (fun a ha => fr1.1 a (by omega))⟩
    have hM1 := (hM.congr (M' := M1) (fun a ha => fr1.1 a (by omega))).r (MR.up0 M1 0)
    refine sg_X8_tells (c_reads ht hM1.2.1 (fun M5 r fr5 hr5 => ⟨_, rfl, ?_⟩))
    have g1 : M5 62 14 = -10 - (prs c N 48 d0 0 0).1 := by
      rcases hr5 with k | k
      · exact k.2
      · omega
    obtain ⟨m1, m2, m3, m4, m5⟩ := hM1
    have hlo : (prs c N 48 d0 0 0).1 < 0 ∧ -150 - N ≤ (prs c N 48 d0 0 0).1 := by
      rcases hok with k | k
      · exact k
      · omega
    have hne : (prs c N 48 d0 0 0).1 ≠ -1 := by
      intro z
      exact prs_ne (c := c) (N := N) 48 d0 0 0 d0_ok (by omega) (by omega) (by omega) z
    refine ⟨by omega, fun y => absurd y (by omega), fun _ => ⟨?_, σ, c, N, h, η, kf, ι, φ, ψ, q, hC1.congr (fun a ha => by rw [fr5.1 a (by omega) (by omega), am_up_ne _ _ _ _ _ (by omega)]), m1.congr (fr5.1 63 (by decide) (by decide)), fr5.text m2, m3.congr (fr5.2 4 (by decide) (by decide) (by decide) (by decide)) (fr5.1 65 (by decide) (by decide)), m4.congr (fr5.1 66 (by decide) (by decide)) (fr5.1 67 (by decide) (by decide)), m5.congr (fr5.2 8 (by decide) (by decide) (by decide) (by decide)) (fr5.1 68 (by decide) (by decide))⟩⟩
    rw [g1]
    congr 1
    omega
end TS
