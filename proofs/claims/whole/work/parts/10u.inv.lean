/-! the invariant of class and reference; each call keeps it and answers alike -/
def IMS (M : am_M) (kf : Nat → Int) (ι : Nat → Int → Int) : Prop := ∀ i : Nat, i < 2 → (M 29 (i : Int) = 56 + 3 * (i : Int) ∧ (kf i = 0 ∨ kf i = 1) ∧ M 30 (i : Int) = kf i) ∧ (kf i = 1 → sp_ok (ι i) ∧ SC (56 + 3 * i) (ι i) M)
def MIMS (M : am_M) (kf : Nat → Int) (ι : Nat → Int → Int) : Prop := ∀ i : Nat, i < 2 → M 67 (i : Int) = kf i ∧ (kf i = 1 → ∀ j : Int, 0 ≤ j → j < 101 → M 66 (101 * (i : Int) + j) = ι i j)
def CI (σ c : Int → Int) (N : Int) (h : Nat) (η : Nat → Int → Int) (kf : Nat → Int) (ι : Nat → Int → Int) (φ ψ : Int → Int) (q : Nat) (M : am_M) : Prop := sp_ok σ ∧ CL M σ ∧ (M 0 10 = -9 ∨ isMn (bT σ) 21 (M 0 10) (M 0 11)) ∧ tx_ok c N ∧ CT M c N ∧ HIS M h η ∧ IMS M kf ι ∧ fa_ok φ ψ q ∧ CF M φ ψ q
def MI (σ c : Int → Int) (N : Int) (h : Nat) (η : Nat → Int → Int) (kf : Nat → Int) (ι : Nat → Int → Int) (φ ψ : Int → Int) (q : Nat) (M : am_M) : Prop := MC σ M ∧ MT M c N ∧ MHIS M h η ∧ MIMS M kf ι ∧ MF M φ ψ q
def INV (M : am_M) : Prop := ∃ σ c N h η kf ι φ ψ q, CI σ c N h η kf ι φ ψ q M ∧ MI σ c N h η kf ι φ ψ q M
def SIM (d : Nat) (mx mm : am_mm) (xs : List am_v) : Prop := ∀ M, INV M → AC (d + 10) mx (.inr 0 :: xs) M (fun r1 M1 => ∃ z, r1 = some z ∧ AC (d + 10) mm (.inr 62 :: xs) M1 (fun r2 M2 => r2 = some z ∧ INV M2))
section SI
variable {σ c : Int → Int} {N : Int} {h : Nat} {η : Nat → Int → Int} {kf : Nat → Int} {ι : Nat → Int → Int} {φ ψ : Int → Int} {q : Nat} {M M' : am_M}
theorem HIS.congr (hH : HIS M h η) (fr : ∀ a, 9 ≤ a → a ≤ 28 → M' a = M a) : HIS M' h η := by
  obtain ⟨⟨h1, h2⟩, p, hp, hs⟩ := hH
  refine ⟨⟨by rw [fr 9 (by omega) (by omega)]; exact h1, h2⟩, p, ⟨fun i hi => ?_, hp.2⟩, fun i hi => ⟨(hs i hi).1, ?_⟩⟩
  · rw [fr 10 (by omega) (by omega)]; exact hp.1 i hi
  · have := (hp.1 i (by omega)).1
    exact (hs i hi).2.congr (fr _ (by omega) (by omega)) (fr _ (by omega) (by omega)) (fr _ (by omega) (by omega))
theorem IMS.congr (hI : IMS M kf ι) (fr : ∀ a, a = 29 ∨ a = 30 ∨ (56 ≤ a ∧ a ≤ 61) → M' a = M a) : IMS M' kf ι := by
  intro i hi
  obtain ⟨h1, h2⟩ := hI i hi
  rw [fr 29 (by omega), fr 30 (by omega)]
  exact ⟨h1, fun k => ⟨(h2 k).1, (h2 k).2.congr (fr _ (by omega)) (fr _ (by omega)) (fr _ (by omega))⟩⟩
theorem CF.congr (hF : CF M φ ψ q) (h0 : M' 51 0 = M 51 0) (fr : ∀ a, a = 52 ∨ a = 53 → M' a = M a) : CF M' φ ψ q := by
  unfold CF at hF ⊢
  rw [h0, fr 52 (by omega), fr 53 (by omega)]
  exact hF
theorem CI.congr (hC : CI σ c N h η kf ι φ ψ q M) (fr : ∀ a, a < 62 → M' a = M a) : CI σ c N h η kf ι φ ψ q M' := by
  obtain ⟨ho, hL, hb, ht, hT, hH, hI, hf, hF⟩ := hC
  exact ⟨ho, hL.congr (fun a _ => fr a (by omega)), by rw [fr 0 (by omega)]; exact hb, ht, hT.congr (by rw [fr 7 (by omega)]) (fr 8 (by omega)), hH.congr (fun a _ _ => fr a (by omega)), hI.congr (fun a _ => fr a (by omega)), hf, hF.congr (by rw [fr 51 (by omega)]) (fun a _ => fr a (by omega))⟩
theorem MI.congr (hM : MI σ c N h η kf ι φ ψ q M) (fr : ∀ a, 62 ≤ a → M' a = M a) : MI σ c N h η kf ι φ ψ q M' := by
  unfold MI MC MT MHIS MIMS MF at hM ⊢
  rw [fr 62 (by omega), fr 63 (by omega), fr 65 (by omega), fr 66 (by omega), fr 67 (by omega), fr 68 (by omega), fr 69 (by omega)]
  exact hM
theorem MI.r (hM : MI σ c N h η kf ι φ ψ q M) (fr : MR M M') : MI σ c N h η kf ι φ ψ q M' := by
  obtain ⟨h1, h2, h3, h4, h5⟩ := hM
  refine ⟨h1.r fr, h2.congr (fr.2 10 (by decide) (by decide) (by decide) (by decide)) (fr.1 69 (by omega)), ?_, ?_, h5.r fr⟩
  · unfold MHIS at h3 ⊢
    rw [fr.2 4 (by decide) (by decide) (by decide) (by decide), fr.1 65 (by omega)]; exact h3
  · unfold MIMS at h4 ⊢
    rw [fr.1 67 (by omega), fr.1 66 (by omega)]; exact h4
theorem inv_r (hC : CI σ c N h η kf ι φ ψ q M) (hM : MI σ c N h η kf ι φ ψ q M) (fr : MR M M') : INV M' := ⟨σ, c, N, h, η, kf, ι, φ, ψ, q, hC.congr (fun a ha => fr.1 a (by omega)), hM.r fr⟩
theorem inv_0 (hC : CI σ c N h η kf ι φ ψ q M) (hM : MI σ c N h η kf ι φ ψ q M) : INV (am_up M 62 0 0) := inv_r hC hM (MR.up0 M 0)
theorem s_type {d : Nat} {x : Int} (hx : am_r x) : SIM d mX7_type mX8_type [.inl x] := by
  rintro M ⟨σ, c, N, h, η, kf, ι, φ, ψ, q, hC, hM⟩
  obtain ⟨ho, hL, hb, ht, hT, hH, hI, hf, hF⟩ := hC
  have hC : CI σ c N h η kf ι φ ψ q M := ⟨ho, hL, hb, ht, hT, hH, hI, hf, hF⟩
  have hN := ht.1
  have e7 : M 7 0 = N := hT.1
  have e10 : M 62 10 = N := hM.2.1.1
  by_cases hr : 0 ≤ x ∧ x ≤ 255
  · by_cases hn : N < 140
    · have hc2 : CI σ (fun k => if k = N then x else c k) (N + 1) h η kf ι φ ψ q (am_up (am_up M 8 N x) 7 0 (N + 1)) := by
        refine ⟨ho, hL.congr (fun a ha => by rw [am_up_ne _ _ _ _ _ (by omega), am_up_ne _ _ _ _ _ (by omega)]), ?_, ⟨by omega, fun k k0 k1 => ?_⟩, ⟨am_up_same _ _ _ _, fun k k0 k1 => ?_⟩, hH.congr (fun a _ _ => by rw [am_up_ne _ _ _ _ _ (by omega), am_up_ne _ _ _ _ _ (by omega)]), hI.congr (fun a _ => by rw [am_up_ne _ _ _ _ _ (by omega), am_up_ne _ _ _ _ _ (by omega)]), hf, hF.congr (by rw [am_up_cell _ (by decide), am_up_cell _ (by decide)]) (fun a _ => by rw [am_up_ne _ _ _ _ _ (by omega), am_up_ne _ _ _ _ _ (by omega)])⟩
        · rw [am_up_cell _ (by decide), am_up_cell _ (by decide), am_up_cell _ (by decide), am_up_cell _ (by decide)]; exact hb
        · dsimp only
          by_cases hk : k = N
          · rw [if_pos hk]; omega
          · rw [if_neg hk]; exact ht.2 k k0 (by omega)
        · rw [am_up_cell _ (by decide)]
          dsimp only
          by_cases hk : k = N
          · rw [if_pos hk, hk, am_up_same]
          · rw [if_neg hk, am_up_idx _ _ hk]; exact hT.2 k k0 (by omega)
      refine sg_X7_type ⟨hx, fun k => absurd k (by omega), fun _ => ⟨fun _ => ⟨by omega, fun _ => ⟨by omega, sg_X5_append ⟨by omega, fun k => absurd k (by omega), fun _ => ⟨by omega, by omega, rfl, ?_⟩⟩⟩, fun k => absurd k (by omega)⟩, fun k => absurd k (by omega)⟩⟩
      rw [am_up_same, e7]
      refine ⟨_, rfl, sg_X8_type ⟨⟨hx, by decide, by decide⟩, fun _ => ?_, fun k => absurd hr k⟩⟩
      have g10 : am_up (am_up M 8 N x) 7 0 (N + 1) 62 10 = N := by rw [am_up_cell _ (by decide), am_up_cell _ (by decide)]; exact e10
      rw [g10]
      refine ⟨by omega, fun _ => ⟨by omega, by omega, by omega, rfl, σ, _, N + 1, h, η, kf, ι, φ, ψ, q, hc2.congr (fun a ha => by rw [am_up_ne _ _ _ _ _ (by omega), am_up_ne _ _ _ _ _ (by omega), am_up_ne _ _ _ _ _ (by omega)]), ?_⟩, fun k => absurd k (by omega)⟩
      obtain ⟨m1, m2, m3, m4, m5⟩ := hM
      refine ⟨?_, ⟨am_up_same _ _ _ _, fun k k0 k1 => ?_⟩, ?_, ?_, ?_⟩
      · exact m1.congr (by simp only [am_up_ne _ _ _ _ _ (show (63 : Nat) ≠ 62 by decide), am_up_ne _ _ _ _ _ (show (63 : Nat) ≠ 69 by decide), am_up_ne _ _ _ _ _ (show (63 : Nat) ≠ 7 by decide), am_up_ne _ _ _ _ _ (show (63 : Nat) ≠ 8 by decide)])
      · rw [am_up_cell _ (by decide)]
        dsimp only
        by_cases hk : k = N
        · rw [hk, am_up_same, if_pos rfl]
          omega
        · rw [am_up_idx _ _ hk, if_neg hk, am_up_cell _ (by decide), am_up_cell _ (by decide), am_up_cell _ (by decide)]; exact m2.2 k k0 (by omega)
      · unfold MHIS at m3 ⊢
        refine ⟨?_, fun i hi j j1 j2 => ?_⟩
        · rw [am_up_idx _ _ (by decide), am_up_cell _ (by decide), am_up_idx _ _ (by decide), am_up_cell _ (by decide), am_up_cell _ (by decide)]; exact m3.1
        · rw [am_up_cell _ (by decide), am_up_cell _ (by decide), am_up_cell _ (by decide), am_up_cell _ (by decide), am_up_cell _ (by decide)]; exact m3.2 i hi j j1 j2
      · intro i hi
        rw [am_up_cell _ (by decide), am_up_cell _ (by decide), am_up_cell _ (by decide), am_up_cell _ (by decide), am_up_cell _ (by decide)]
        refine ⟨(m4 i hi).1, fun k j j1 j2 => ?_⟩
        rw [am_up_cell _ (by decide), am_up_cell _ (by decide), am_up_cell _ (by decide), am_up_cell _ (by decide), am_up_cell _ (by decide)]; exact (m4 i hi).2 k j j1 j2
      · refine ⟨?_, fun i hi => ?_⟩
        · rw [am_up_idx _ _ (by decide), am_up_cell _ (by decide), am_up_idx _ _ (by decide), am_up_cell _ (by decide), am_up_cell _ (by decide)]; exact m5.1
        · rw [am_up_cell _ (by decide), am_up_cell _ (by decide), am_up_cell _ (by decide), am_up_cell _ (by decide), am_up_cell _ (by decide), am_up_cell _ (by decide), am_up_cell _ (by decide), am_up_cell _ (by decide), am_up_cell _ (by decide), am_up_cell _ (by decide)]; exact m5.2 i hi
    · refine sg_X7_type ⟨hx, fun k => absurd k (by omega), fun _ => ⟨fun _ => ⟨by omega, fun k => absurd k (by omega), fun _ => ⟨_, rfl, ?_⟩⟩, fun k => absurd k (by omega)⟩⟩
      exact sg_X8_type ⟨⟨hx, by decide, by decide⟩, fun _ => ⟨by omega, fun k => absurd k (by omega), fun _ => ⟨rfl, inv_0 hC hM⟩⟩, fun k => absurd hr k⟩
  · have href : AC (d + 10) mX8_type [.inr 62, .inl x] M (fun r2 M2 => r2 = some (-1) ∧ INV M2) := sg_X8_type ⟨⟨hx, by decide, by decide⟩, fun k => absurd k hr, fun _ => ⟨rfl, inv_0 hC hM⟩⟩
    exact sg_X7_type ⟨hx, fun _ => ⟨_, rfl, href⟩, fun _ => ⟨fun k => absurd k (by omega), fun _ => ⟨_, rfl, href⟩⟩⟩
theorem s_clear {d : Nat} : SIM d mX7_clear mX8_clear [] := by
  rintro M ⟨σ, c, N, h, η, kf, ι, φ, ψ, q, hC, hM⟩
  obtain ⟨ho, hL, hb, ht, hT, hH, hI, hf, hF⟩ := hC
  have e7 : M 7 0 = N := hT.1
  refine sg_X7_clear ⟨_, rfl, sg_X8_clear ?_⟩
  have e10 : am_up M 7 0 0 62 10 = N := by rw [am_up_cell _ (by decide)]; exact hM.2.1.1
  rw [e10, e7]
  obtain ⟨m1, m2, m3, m4, m5⟩ := hM
  refine ⟨rfl, σ, c, 0, h, η, kf, ι, φ, ψ, q, ⟨ho, hL.congr (fun a ha => by rw [am_up_ne _ _ _ _ _ (by omega), am_up_ne _ _ _ _ _ (by omega), am_up_ne _ _ _ _ _ (by omega)]), ?_, ⟨by omega, fun k k0 k1 => absurd k1 (by omega)⟩, ⟨?_, fun k k0 k1 => absurd k1 (by omega)⟩, hH.congr (fun a _ _ => by rw [am_up_ne _ _ _ _ _ (by omega), am_up_ne _ _ _ _ _ (by omega), am_up_ne _ _ _ _ _ (by omega)]), hI.congr (fun a _ => by rw [am_up_ne _ _ _ _ _ (by omega), am_up_ne _ _ _ _ _ (by omega), am_up_ne _ _ _ _ _ (by omega)]), hf, hF.congr (by rw [am_up_cell _ (by decide), am_up_cell _ (by decide), am_up_cell _ (by decide)]) (fun a _ => by rw [am_up_ne _ _ _ _ _ (by omega), am_up_ne _ _ _ _ _ (by omega), am_up_ne _ _ _ _ _ (by omega)])⟩, ?_⟩
  · rw [am_up_ne _ _ _ _ _ (show (0 : Nat) ≠ 62 by decide), am_up_ne _ _ _ _ _ (show (0 : Nat) ≠ 62 by decide), am_up_ne _ _ _ _ _ (show (0 : Nat) ≠ 7 by decide)]; exact hb
  · rw [am_up_cell _ (by decide), am_up_cell _ (by decide), am_up_same]
  · have fr : MI σ c N h η kf ι φ ψ q (am_up (am_up M 7 0 0) 62 0 0) := MI.r (MI.congr ⟨m1, m2, m3, m4, m5⟩ (fun a ha => am_up_ne _ _ _ _ _ (by omega))) (MR.up0 _ 0)
    obtain ⟨n1, n2, n3, n4, n5⟩ := fr
    refine ⟨n1.congr (am_up_ne _ _ _ _ _ (by decide)), ⟨am_up_same _ _ _ _, fun k k0 k1 => absurd k1 (by omega)⟩, ?_, ?_, ?_⟩
    · refine ⟨?_, ?_⟩
      · rw [am_up_idx _ _ (by decide)]; exact n3.1
      · rw [am_up_ne _ _ _ _ _ (show (65 : Nat) ≠ 62 by decide)]; exact n3.2
    · unfold MIMS at n4 ⊢
      rw [am_up_ne _ _ _ _ _ (show (67 : Nat) ≠ 62 by decide), am_up_ne _ _ _ _ _ (show (66 : Nat) ≠ 62 by decide)]; exact n4
    · refine ⟨?_, ?_⟩
      · rw [am_up_idx _ _ (by decide)]; exact n5.1
      · rw [am_up_ne _ _ _ _ _ (show (68 : Nat) ≠ 62 by decide)]; exact n5.2
end SI
