/-! what is told and done: class and reference change alike -/
section DO
variable {σ c : Int → Int} {N : Int} {h : Nat} {η : Nat → Int → Int} {kf : Nat → Int} {ι : Nat → Int → Int} {φ ψ : Int → Int} {q : Nat} {M M' : am_M}
theorem MHIS.congr (hH : MHIS M h η) (h4 : M' 62 4 = M 62 4) (h5 : M' 65 = M 65) : MHIS M' h η := by
  unfold MHIS at hH ⊢
  rw [h4, h5]; exact hH
theorem MIMS.congr (hI : MIMS M kf ι) (h6 : M' 66 = M 66) (h7 : M' 67 = M 67) : MIMS M' kf ι := by
  unfold MIMS at hI ⊢
  rw [h6, h7]; exact hI
theorem MF.congr (hF : MF M φ ψ q) (h8 : M' 62 8 = M 62 8) (h6 : M' 68 = M 68) : MF M' φ ψ q := by
  unfold MF at hF ⊢
  rw [h8, h6]; exact hF
/-- one place of a scene changes -/
def pt1 (σ : Int → Int) (j v : Int) : Int → Int := fun i => if i = j then v else σ i
theorem pt1_ne (σ : Int → Int) {j v i : Int} (hi : i ≠ j) : pt1 σ j v i = σ i := if_neg hi
theorem pt1_eq (σ : Int → Int) (j v : Int) : pt1 σ j v j = v := if_pos rfl
/-- behind a change the class follows anew -/
theorem ci_anew {d : Nat} {Q : Option Int → am_M → Prop} (ho : sp_ok σ) (hs : SC 1 σ M) (ht : tx_ok c N) (hT : CT M c N) (hH : HIS M h η) (hI : IMS M kf ι) (hf : fa_ok φ ψ q) (hF : CF M φ ψ q) (hQ : ∀ M', (∀ a, 62 ≤ a → M' a = M a) → M' 9 = M 9 → CI σ c N h η kf ι φ ψ q M' → Q none M') : AC (d + 6) mX7_followAnew [.inr 0] M Q := by
  refine k_followAnew ho hs (fun M1 fr fj hL hb => hQ M1 (fun a ha => fr a (by omega) (by omega)) (fr 9 (by omega) (by omega)) ⟨ho, hL, Or.inl hb, ht, hT.congr (by rw [fr 7 (by omega) (by omega)]) (fr 8 (by omega) (by omega)), hH.congr (fun a _ _ => fr a (by omega) (by omega)), hI.congr (fun a _ => fr a (by omega) (by omega)), hf, hF.congr (by rw [fr 51 (by omega) (by omega)]) (fun a _ => fr a (by omega) (by omega))⟩)
theorem mi_becomes {d : Nat} {Q : Option Int → am_M → Prop} (h6 : h ≤ 6) (hM : MI σ c N h η kf ι φ ψ q M) {j v : Int} (hj : 0 ≤ j ∧ j < 101) (hr : am_r (σ j)) (hv : am_r v) (hne : σ j ≠ v) (hQ : ∀ M', (∀ a, a < 62 → M' a = M a) → MI (pt1 σ j v) c N (hh h) (hη h η σ) kf ι φ ψ q M' → Q (some (σ j)) M') : AC (d + 1) mX8_becomes [.inr 62, .inl j, .inl v] M Q := by
  obtain ⟨m1, m2, m3, m4, m5⟩ := hM
  have e := m1 j hj.1 hj.2
  refine sg_X8_becomes ?_
  rw [e]
  refine ⟨hj, hr, hv, fun _ => c_notes h6 m1 m3 (fun M1 fr1 fj1 hh1 => ⟨rfl, hQ _ (fun a ha => ?_) ⟨fun i i0 i1 => ?_, ?_, ?_, ?_, ?_⟩⟩), fun k => absurd k hne⟩
  · rw [am_up_ne _ _ _ _ _ (by omega)]; exact fr1 a (by omega) (by omega)
  · by_cases hi : i = j
    · rw [hi, am_up_same, pt1_eq]
    · rw [am_up_idx _ _ hi, pt1_ne _ hi, fr1 63 (by decide) (by decide)]; exact m1 i i0 i1
  · exact m2.congr (by rw [am_up_cell _ (by decide)]; exact fj1 10 (by decide)) (by rw [am_up_ne _ _ _ _ _ (by decide)]; exact fr1 69 (by decide) (by decide))
  · exact hh1.congr (am_up_cell _ (by decide) _ _ _) (am_up_ne _ _ _ _ _ (by decide))
  · exact m4.congr (by rw [am_up_ne _ _ _ _ _ (by decide)]; exact fr1 66 (by decide) (by decide)) (by rw [am_up_ne _ _ _ _ _ (by decide)]; exact fr1 67 (by decide) (by decide))
  · exact m5.congr (by rw [am_up_cell _ (by decide)]; exact fj1 8 (by decide)) (by rw [am_up_ne _ _ _ _ _ (by decide)]; exact fr1 68 (by decide) (by decide))
theorem mi_same {d : Nat} {Q : Option Int → am_M → Prop} (hs : MC σ M) {j v : Int} (hj : 0 ≤ j ∧ j < 101) (hr : am_r (σ j)) (hv : am_r v) (he : σ j = v) (hQ : Q (some (-2)) M) : AC (d + 1) mX8_becomes [.inr 62, .inl j, .inl v] M Q := by
  have e := hs j hj.1 hj.2
  refine sg_X8_becomes ?_
  rw [e]
  exact ⟨hj, hr, hv, fun k => absurd he k, fun _ => hQ⟩
theorem s_levels {d : Nat} {f p n : Int} (hf : am_r f) (hp : am_r p) (hn : am_r n) : SIM d mX7_levels mX8_levels [.inl f, .inl p, .inl n] := by
  rintro M ⟨σ, c, N, h, η, kf, ι, φ, ψ, q, hC, hM⟩
  obtain ⟨ho, hL, hb, ht, hT, hH, hI, hfa, hF⟩ := hC
  have hC : CI σ c N h η kf ι φ ψ q M := ⟨ho, hL, hb, ht, hT, hH, hI, hfa, hF⟩
  have h0 := ho.1
  have h1 := ho.2.1
  have e0 : M 1 0 = σ 0 := hL.1.1
  have e1 : M 1 1 = σ 1 := hL.1.2.1
  by_cases hr : ((0 ≤ f ∧ f < σ 0) ∧ 0 ≤ p ∧ p < σ 1) ∧ 0 ≤ n ∧ n ≤ 9
  · obtain ⟨hr1, hr2⟩ := hr
    have eL : sp_L σ f p = σ (5 + 12 * f + p) := if_pos hr1
    have hLr := sp_L_r ho f p
    rw [eL] at hLr
    -- the reference's way there
    have ref : ∀ M1 Q, (∀ a, 62 ≤ a → M1 a = M a) → AC (d + 9) mX8_becomes [.inr 62, .inl (5 + 12 * f + p), .inl n] (am_up M1 62 0 0) (fun r M5 => ∃ z6, r = some z6 ∧ Q (some z6) M5) → AC (d + 10) mX8_levels [.inr 62, .inl f, .inl p, .inl n] M1 Q := by
      intro M1 Q fr hk
      have g0 : M1 63 0 = σ 0 := by rw [fr 63 (by omega)]; exact hM.1 0 (by omega) (by omega)
      have g1 : M1 63 1 = σ 1 := by rw [fr 63 (by omega)]; exact hM.1 1 (by omega) (by omega)
      refine sg_X8_levels ?_
      rw [g0, g1]
      exact ⟨⟨⟨hf, hp⟩, by omega, by omega⟩, fun y => absurd y (by omega), fun _ => ⟨⟨hn, by decide, by decide⟩, fun y => absurd hr2 y, fun _ => hk⟩⟩
    refine sg_X7_levels ?_
    rw [hL.1.lv ho, e0, e1, eL]
    refine ⟨⟨⟨hf, by omega⟩, hp, by omega⟩, fun y => absurd hr1 y, fun _ => ⟨hn, fun y => absurd y (by omega), fun _ => ⟨fun _ => ⟨⟨hf, hp, by omega, by omega, by omega, by omega⟩, by omega, fun hne => ?_, fun he => ?_⟩, fun y => absurd y (by omega)⟩⟩⟩
    · refine k_remember ho hL.1 hH (fun M1 fr1 hH1 => ⟨rfl, ?_⟩)
      have hs1 : SC 1 σ M1 := hL.1.congr (fr1 1 (by omega)) (fr1 2 (by omega)) (fr1 3 (by omega))
      refine sg_X3_putLevel ⟨rfl, rfl, rfl⟩ ?_
      rw [show M1 1 0 = σ 0 from hs1.1, show M1 1 1 = σ 1 from hs1.2.1]
      refine ⟨⟨⟨hf, by omega⟩, hp, by omega⟩, fun y => absurd hr1 y, fun _ => ⟨by omega, rfl, ?_⟩⟩
      have hs2 : SC 1 (pt1 σ (5 + 12 * f + p) n) (am_up M1 (1 + 2) (f * 12 + p) n) := by
        obtain ⟨s0, s1, s2, s3, s4, s5⟩ := hs1
        refine ⟨?_, ?_, ?_, ?_, ?_, fun j j0 j1 => ?_⟩
        · rw [am_up_cell _ (by decide), pt1_ne _ (by omega)]; exact s0
        · rw [am_up_cell _ (by decide), pt1_ne _ (by omega)]; exact s1
        · rw [am_up_cell _ (by decide), pt1_ne _ (by omega)]; exact s2
        · rw [am_up_cell _ (by decide), pt1_ne _ (by omega)]; exact s3
        · rw [am_up_cell _ (by decide), pt1_ne _ (by omega)]; exact s4
        · by_cases hj : j = f * 12 + p
          · rw [hj, am_up_same, show 5 + (f * 12 + p) = 5 + 12 * f + p by omega, pt1_eq]
          · rw [am_up_idx _ _ hj, pt1_ne _ (by omega)]; exact s5 j j0 j1
      have ho2 : sp_ok (pt1 σ (5 + 12 * f + p) n) := by
        obtain ⟨o1, o2, o3, o4, o5, o6⟩ := ho
        refine ⟨?_, ?_, ?_, ?_, ?_, fun j j0 j1 => ?_⟩
        · rw [pt1_ne _ (by omega)]; exact o1
        · rw [pt1_ne _ (by omega)]; exact o2
        · rw [pt1_ne _ (by omega)]; exact o3
        · rw [pt1_ne _ (by omega)]; exact o4
        · rw [pt1_ne _ (by omega)]; exact o5
        · by_cases hj : j = 5 + 12 * f + p
          · rw [hj, pt1_eq]; exact hr2
          · rw [pt1_ne _ hj]; exact o6 j j0 j1
      refine ci_anew ho2 hs2 ht (hT.congr (by rw [am_up_cell _ (by decide), fr1 7 (by omega)]) (by rw [am_up_ne _ _ _ _ _ (by decide)]; exact fr1 8 (by omega))) (hH1.congr (fun a _ _ => am_up_ne _ _ _ _ _ (by omega))) (hI.congr (fun a ha => by rw [am_up_ne _ _ _ _ _ (by omega)]; exact fr1 a (by omega))) hfa (hF.congr (by rw [am_up_cell _ (by decide), fr1 51 (by omega)]) (fun a ha => by rw [am_up_ne _ _ _ _ _ (by omega)]; exact fr1 a (by omega))) (fun M2 fr2 _ hC2 => ⟨rfl, _, rfl, ?_⟩)
      have frx : ∀ a, 62 ≤ a → M2 a = M a := fun a ha => by rw [fr2 a ha, am_up_ne _ _ _ _ _ (by omega)]; exact fr1 a (by omega)
      refine ref M2 _ frx ?_
      refine mi_becomes hH.1.2 ((hM.congr frx).r (MR.up0 M2 0)) (by omega) (by omega) hn hne (fun M3 fr3 hM3 => ⟨_, rfl, rfl, _, _, _, _, _, _, _, _, _, _, hC2.congr (fun a ha => by rw [fr3 a ha, am_up_ne _ _ _ _ _ (by omega)]), hM3⟩)
    · refine ⟨_, rfl, ref M _ (fun _ _ => rfl) (mi_same (hM.1.r (MR.up0 M 0)) (by omega) (by omega) hn he ⟨_, rfl, rfl, inv_0 hC hM⟩)⟩
  · have g0 : M 63 0 = σ 0 := hM.1 0 (by omega) (by omega)
    have g1 : M 63 1 = σ 1 := hM.1 1 (by omega) (by omega)
    have href : AC (d + 10) mX8_levels [.inr 62, .inl f, .inl p, .inl n] M (fun r2 M2 => r2 = some (-1) ∧ INV M2) := by
      refine sg_X8_levels ?_
      rw [g0, g1]
      exact ⟨⟨⟨hf, hp⟩, by omega, by omega⟩, fun y => ⟨rfl, inv_0 hC hM⟩, fun y1 => ⟨⟨hn, by decide, by decide⟩, fun y => ⟨rfl, inv_0 hC hM⟩, fun y2 => absurd ⟨by omega, y2⟩ hr⟩⟩
    refine sg_X7_levels ?_
    rw [e0, e1]
    exact ⟨⟨⟨hf, by omega⟩, hp, by omega⟩, fun y => ⟨_, rfl, href⟩, fun y1 => ⟨hn, fun y => ⟨_, rfl, href⟩, fun y2 => ⟨fun y3 => absurd ⟨y1, y2, y3⟩ hr, fun y => ⟨_, rfl, href⟩⟩⟩⟩
theorem am_isS_w {w n : Int} : am_isS w n ↔ (((w ≠ 0) ∧ (w ≠ 1) ∧ (w = 2) ∧ (1 ≤ n ∧ n ≤ 8)) ∨ ((w ≠ 0) ∧ (w = 1) ∧ (0 ≤ n ∧ n ≤ 20)) ∨ ((w = 0) ∧ (1 ≤ n ∧ n ≤ 9))) := by
  constructor
  · intro z
    have hw : w = 0 ∨ w = 1 ∨ w = 2 := by have := z.1; have := z.2.1; omega
    rcases hw with hw | hw | hw <;> subst hw
    · exact Or.inr (Or.inr ⟨rfl, z.2.2⟩)
    · exact Or.inr (Or.inl ⟨by decide, rfl, z.2.2⟩)
    · exact Or.inl ⟨by decide, by decide, rfl, z.2.2⟩
  · intro z
    have hw : w = 0 ∨ w = 1 ∨ w = 2 := by omega
    rcases hw with hw | hw | hw <;> subst hw
    · exact ⟨by decide, by decide, show (1 : Int) ≤ n by omega, show n ≤ (9 : Int) by omega⟩
    · exact ⟨by decide, by decide, show (0 : Int) ≤ n by omega, show n ≤ (20 : Int) by omega⟩
    · exact ⟨by decide, by decide, show (1 : Int) ≤ n by omega, show n ≤ (8 : Int) by omega⟩
theorem s_sets {d : Nat} {w n : Int} (hw : am_r w) (hn : am_r n) : SIM d mX7_sets mX8_sets [.inl w, .inl n] := by
  rintro M ⟨σ, c, N, h, η, kf, ι, φ, ψ, q, hC, hM⟩
  obtain ⟨ho, hL, hb, ht, hT, hH, hI, hfa, hF⟩ := hC
  have hC : CI σ c N h η kf ι φ ψ q M := ⟨ho, hL, hb, ht, hT, hH, hI, hfa, hF⟩
  have rng : (((am_r w) ∧ ((w ≠ 0 → ((w ≠ 1 → (w = 2 → (am_r n ∧ am_r 1 ∧ am_r 8))) ∧ (w = 1 → (am_r n ∧ am_r 0 ∧ am_r 20)))) ∧ (w = 0 → (am_r n ∧ am_r 1 ∧ am_r 9))))) := ⟨hw, fun _ => ⟨fun _ _ => ⟨hn, by decide, by decide⟩, fun _ => ⟨hn, by decide, by decide⟩⟩, fun _ => ⟨hn, by decide, by decide⟩⟩
  by_cases hr : am_isS w n
  · have hr' := am_isS_w.mp hr
    have hw3 : 0 ≤ w ∧ w < 3 := ⟨hr.1, hr.2.1⟩
    have ew : ∀ {M1 : am_M} {τ : Int → Int}, SC 1 τ M1 → ∀ i : Int, 0 ≤ i → i < 3 → M1 2 i = τ (2 + i) := by
      intro M1 τ hs i i0 i1
      obtain ⟨s0, s1, s2, s3, s4, s5⟩ := hs
      have hi : i = 0 ∨ i = 1 ∨ i = 2 := by omega
      rcases hi with hi | hi | hi <;> subst hi
      · exact s2
      · exact s3
      · exact s4
    have e2 : M 2 w = σ (2 + w) := ew hL.1 w hw3.1 hw3.2
    have hsr : 0 ≤ σ (2 + w) ∧ σ (2 + w) ≤ 20 := by
      obtain ⟨o1, o2, o3, o4, o5, o6⟩ := ho
      have hi : w = 0 ∨ w = 1 ∨ w = 2 := by omega
      rcases hi with hi | hi | hi <;> subst hi
      · exact ⟨show 0 ≤ σ 2 by omega, show σ 2 ≤ 20 by omega⟩
      · exact ⟨show 0 ≤ σ 3 by omega, show σ 3 ≤ 20 by omega⟩
      · exact ⟨show 0 ≤ σ 4 by omega, show σ 4 ≤ 20 by omega⟩
    have ref : ∀ M1 Q, AC (d + 9) mX8_becomes [.inr 62, .inl (2 + w), .inl n] (am_up M1 62 0 0) (fun r M5 => ∃ z6, r = some z6 ∧ Q (some z6) M5) → AC (d + 10) mX8_sets [.inr 62, .inl w, .inl n] M1 Q := fun M1 Q hk => sg_X8_sets ⟨rng, fun y => absurd hr' y, fun _ => hk⟩
    refine sg_X7_sets ?_
    rw [e2]
    refine ⟨⟨hw, hn⟩, fun _ => ⟨hw3, by omega, hn, fun hne => ?_, fun he => ?_⟩, fun y => absurd hr y⟩
    · refine k_remember ho hL.1 hH (fun M1 fr1 hH1 => ⟨rfl, ?_⟩)
      have hs1 : SC 1 σ M1 := hL.1.congr (fr1 1 (by omega)) (fr1 2 (by omega)) (fr1 3 (by omega))
      have ew2 : ∀ i : Int, 0 ≤ i → i < 3 → am_up M1 2 w n 2 i = pt1 σ (2 + w) n (2 + i) := by
        intro i i0 i1
        by_cases hi : i = w
        · rw [hi, am_up_same, pt1_eq]
        · rw [am_up_idx _ _ hi, pt1_ne _ (by omega)]; exact ew hs1 i i0 i1
      have hs2 : SC 1 (pt1 σ (2 + w) n) (am_up M1 2 w n) := by
        obtain ⟨s0, s1, s2, s3, s4, s5⟩ := hs1
        refine ⟨?_, ?_, ew2 0 (by decide) (by decide), ew2 1 (by decide) (by decide), ew2 2 (by decide) (by decide), fun j j0 j1 => ?_⟩
        · rw [am_up_cell _ (by decide), pt1_ne _ (by omega)]; exact s0
        · rw [am_up_cell _ (by decide), pt1_ne _ (by omega)]; exact s1
        · rw [am_up_cell _ (by decide), pt1_ne _ (by omega)]; exact s5 j j0 j1
      have ho2 : sp_ok (pt1 σ (2 + w) n) := by
        obtain ⟨o1, o2, o3, o4, o5, o6⟩ := ho
        have hi : w = 0 ∨ w = 1 ∨ w = 2 := by omega
        refine ⟨?_, ?_, ?_, ?_, ?_, fun j j0 j1 => ?_⟩
        · rw [pt1_ne _ (by omega)]; exact o1
        · rw [pt1_ne _ (by omega)]; exact o2
        · rcases hi with hi | hi | hi <;> subst hi
          · rw [show (2 : Int) + 0 = 2 from rfl, pt1_eq]; omega
          · rw [pt1_ne _ (by decide)]; exact o3
          · rw [pt1_ne _ (by decide)]; exact o3
        · rcases hi with hi | hi | hi <;> subst hi
          · rw [pt1_ne _ (by decide)]; exact o4
          · rw [show (2 : Int) + 1 = 3 from rfl, pt1_eq]; omega
          · rw [pt1_ne _ (by decide)]; exact o4
        · rcases hi with hi | hi | hi <;> subst hi
          · rw [pt1_ne _ (by decide)]; exact o5
          · rw [pt1_ne _ (by decide)]; exact o5
          · rw [show (2 : Int) + 2 = 4 from rfl, pt1_eq]; omega
        · rw [pt1_ne _ (by omega)]; exact o6 j j0 j1
      refine ci_anew ho2 hs2 ht (hT.congr (by rw [am_up_cell _ (by decide), fr1 7 (by omega)]) (by rw [am_up_ne _ _ _ _ _ (by decide)]; exact fr1 8 (by omega))) (hH1.congr (fun a _ _ => am_up_ne _ _ _ _ _ (by omega))) (hI.congr (fun a ha => by rw [am_up_ne _ _ _ _ _ (by omega)]; exact fr1 a (by omega))) hfa (hF.congr (by rw [am_up_cell _ (by decide), fr1 51 (by omega)]) (fun a ha => by rw [am_up_ne _ _ _ _ _ (by omega)]; exact fr1 a (by omega))) (fun M2 fr2 _ hC2 => ⟨rfl, _, rfl, ?_⟩)
      have frx : ∀ a, 62 ≤ a → M2 a = M a := fun a ha => by rw [fr2 a ha, am_up_ne _ _ _ _ _ (by omega)]; exact fr1 a (by omega)
      refine ref M2 _ ?_
      exact mi_becomes hH.1.2 ((hM.congr frx).r (MR.up0 M2 0)) (by omega) (by omega) hn hne (fun M3 fr3 hM3 => ⟨_, rfl, rfl, _, _, _, _, _, _, _, _, _, _, hC2.congr (fun a ha => by rw [fr3 a ha, am_up_ne _ _ _ _ _ (by omega)]), hM3⟩)
    · exact ⟨_, rfl, ref M _ (mi_same (hM.1.r (MR.up0 M 0)) (by omega) (by omega) hn he ⟨_, rfl, rfl, inv_0 hC hM⟩)⟩
  · have href : AC (d + 10) mX8_sets [.inr 62, .inl w, .inl n] M (fun r2 M2 => r2 = some (-1) ∧ INV M2) := sg_X8_sets ⟨rng, fun _ => ⟨rfl, inv_0 hC hM⟩, fun y => absurd (am_isS_w.mpr y) hr⟩
    exact sg_X7_sets ⟨⟨hw, hn⟩, fun y => absurd y hr, fun _ => ⟨_, rfl, href⟩⟩
theorem s_forget {d : Nat} : SIM d mX7_forget mX8_forget [] := by
  rintro M ⟨σ, c, N, h, η, kf, ι, φ, ψ, q, hC, hM⟩
  obtain ⟨ho, hL, hb, ht, hT, hH, hI, hfa, hF⟩ := hC
  have e51 : M 51 0 = q := hF.1
  refine sg_X7_forget ⟨_, rfl, sg_X8_forget ?_⟩
  obtain ⟨m1, m2, m3, m4, m5⟩ := hM
  have e8 : am_up M 51 0 0 62 8 = q := by rw [am_up_cell _ (by decide)]; exact m5.1
  rw [e8, e51]
  refine ⟨rfl, σ, c, N, h, η, kf, ι, φ, ψ, 0, ⟨ho, hL.congr (fun a ha => by rw [am_up_ne _ _ _ _ _ (by omega), am_up_ne _ _ _ _ _ (by omega), am_up_ne _ _ _ _ _ (by omega)]), ?_, ht, hT.congr (by rw [am_up_cell _ (by decide), am_up_cell _ (by decide), am_up_cell _ (by decide)]) (by rw [am_up_ne _ _ _ _ _ (by decide), am_up_ne _ _ _ _ _ (by decide), am_up_ne _ _ _ _ _ (by decide)]), hH.congr (fun a _ _ => by rw [am_up_ne _ _ _ _ _ (by omega), am_up_ne _ _ _ _ _ (by omega), am_up_ne _ _ _ _ _ (by omega)]), hI.congr (fun a _ => by rw [am_up_ne _ _ _ _ _ (by omega), am_up_ne _ _ _ _ _ (by omega), am_up_ne _ _ _ _ _ (by omega)]), ⟨by omega, fun i hi => absurd hi (by omega)⟩, ⟨?_, fun i hi => absurd hi (by omega)⟩⟩, ?_⟩
  · rw [am_up_ne _ _ _ _ _ (show (0 : Nat) ≠ 62 by decide), am_up_ne _ _ _ _ _ (show (0 : Nat) ≠ 62 by decide), am_up_ne _ _ _ _ _ (show (0 : Nat) ≠ 51 by decide)]; exact hb
  · rw [am_up_cell _ (by decide), am_up_cell _ (by decide), am_up_same]; rfl
  · refine ⟨m1.congr (by rw [am_up_ne _ _ _ _ _ (by decide), am_up_ne _ _ _ _ _ (by decide), am_up_ne _ _ _ _ _ (by decide)]), m2.congr (by rw [am_up_idx _ _ (by decide), am_up_idx _ _ (by decide), am_up_cell _ (by decide)]) (by rw [am_up_ne _ _ _ _ _ (by decide), am_up_ne _ _ _ _ _ (by decide), am_up_ne _ _ _ _ _ (by decide)]), m3.congr (by rw [am_up_idx _ _ (by decide), am_up_idx _ _ (by decide), am_up_cell _ (by decide)]) (by rw [am_up_ne _ _ _ _ _ (by decide), am_up_ne _ _ _ _ _ (by decide), am_up_ne _ _ _ _ _ (by decide)]), m4.congr (by rw [am_up_ne _ _ _ _ _ (by decide), am_up_ne _ _ _ _ _ (by decide), am_up_ne _ _ _ _ _ (by decide)]) (by rw [am_up_ne _ _ _ _ _ (by decide), am_up_ne _ _ _ _ _ (by decide), am_up_ne _ _ _ _ _ (by decide)]), ⟨by rw [am_up_same]; rfl, fun i hi => absurd hi (by omega)⟩⟩
theorem s_sees {d : Nat} {f p : Int} (hf : am_r f) (hp : am_r p) : SIM d mX7_sees mX8_sees [.inl f, .inl p] := by
  rintro M ⟨σ, c, N, h, η, kf, ι, φ, ψ, q, hC, hM⟩
  obtain ⟨ho, hL, hb, ht, hT, hH, hI, hfa, hF⟩ := hC
  have hC : CI σ c N h η kf ι φ ψ q M := ⟨ho, hL, hb, ht, hT, hH, hI, hfa, hF⟩
  have e51 : M 51 0 = q := hF.1
  have q6 := hfa.1
  by_cases hr : (0 ≤ f ∧ f < 8) ∧ ((-1 ≤ p ∧ p ≤ 45) ∨ p = -9)
  · obtain ⟨r1, r2⟩ := hr
    by_cases hq : q < 6
    · have app : ∀ {e : Nat}, AC e mX4_append [.inr 51, .inl f, .inl p] M (fun r M10 => r = none ∧ ∃ z, some (M10 51 0) = some z ∧ AC (d + 10) mX8_sees [.inr 62, .inl f, .inl p] M10 (fun r2 M2 => r2 = some z ∧ INV M2)) := by
        intro e
        refine sg_X4_append ⟨by omega, fun y => absurd y (by omega), fun _ => ⟨by omega, rfl, _, rfl, ?_⟩⟩
        rw [e51, am_up_same]
        have g8 : am_up (am_up (am_up M 52 (q : Int) f) 53 (q : Int) p) 51 0 ((q : Int) + 1) 62 8 = q := by rw [am_up_cell _ (by decide), am_up_cell _ (by decide), am_up_cell _ (by decide)]; exact hM.2.2.2.2.1
        -- the memory in the end
        have fin : INV (am_up (am_up (am_up (am_up (am_up (am_up (am_up M 52 (q : Int) f) 53 (q : Int) p) 51 0 ((q : Int) + 1)) 62 0 0) 68 (2 * (q : Int)) f) 68 (2 * (q : Int) + 1) p) 62 8 ((q : Int) + 1)) := by
          obtain ⟨m1, m2, m3, m4, m5⟩ := hM
          have low : ∀ a, a ≠ 51 → a ≠ 52 → a ≠ 53 → a ≠ 62 → a ≠ 68 → am_up (am_up (am_up (am_up (am_up (am_up (am_up M 52 (q : Int) f) 53 (q : Int) p) 51 0 ((q : Int) + 1)) 62 0 0) 68 (2 * (q : Int)) f) 68 (2 * (q : Int) + 1) p) 62 8 ((q : Int) + 1) a = M a := fun a a1 a2 a3 a4 a5 => by rw [am_up_ne _ _ _ _ _ a4, am_up_ne _ _ _ _ _ a5, am_up_ne _ _ _ _ _ a5, am_up_ne _ _ _ _ _ a4, am_up_ne _ _ _ _ _ a1, am_up_ne _ _ _ _ _ a3, am_up_ne _ _ _ _ _ a2]
          have l62 : ∀ j, j ≠ 0 → j ≠ 8 → am_up (am_up (am_up (am_up (am_up (am_up (am_up M 52 (q : Int) f) 53 (q : Int) p) 51 0 ((q : Int) + 1)) 62 0 0) 68 (2 * (q : Int)) f) 68 (2 * (q : Int) + 1) p) 62 8 ((q : Int) + 1) 62 j = M 62 j := fun j j0 j8 => by rw [am_up_idx _ _ j8, am_up_cell _ (by decide), am_up_cell _ (by decide), am_up_idx _ _ j0, am_up_cell _ (by decide), am_up_cell _ (by decide), am_up_cell _ (by decide)]
          refine ⟨σ, c, N, h, η, kf, ι, (fun i => if i = (q : Int) then f else φ i), (fun i => if i = (q : Int) then p else ψ i), q + 1, ⟨ho, hL.congr (fun a ha => low a (by omega) (by omega) (by omega) (by omega) (by omega)), by rw [low 0 (by decide) (by decide) (by decide) (by decide) (by decide)]; exact hb, ht, hT.congr (by rw [low 7 (by decide) (by decide) (by decide) (by decide) (by decide)]) (low 8 (by decide) (by decide) (by decide) (by decide) (by decide)), hH.congr (fun a _ _ => low a (by omega) (by omega) (by omega) (by omega) (by omega)), hI.congr (fun a _ => low a (by omega) (by omega) (by omega) (by omega) (by omega)), ⟨by omega, fun i hi => ?_⟩, ⟨?_, fun i hi => ?_⟩⟩, m1.congr (low 63 (by decide) (by decide) (by decide) (by decide) (by decide)), m2.congr (l62 10 (by decide) (by decide)) (low 69 (by decide) (by decide) (by decide) (by decide) (by decide)), m3.congr (l62 4 (by decide) (by decide)) (low 65 (by decide) (by decide) (by decide) (by decide) (by decide)), m4.congr (low 66 (by decide) (by decide) (by decide) (by decide) (by decide)) (low 67 (by decide) (by decide) (by decide) (by decide) (by decide)), ⟨?_, fun i hi => ?_⟩⟩
          · dsimp only
            by_cases hiq : (i : Int) = q
            · rw [if_pos hiq, if_pos hiq]; omega
            · rw [if_neg hiq, if_neg hiq]; exact hfa.2 i (by omega)
          · rw [am_up_cell _ (by decide), am_up_cell _ (by decide), am_up_cell _ (by decide), am_up_cell _ (by decide), am_up_same]; omega
          · dsimp only
            refine ⟨?_, ?_⟩
            · rw [am_up_cell _ (by decide), am_up_cell _ (by decide), am_up_cell _ (by decide), am_up_cell _ (by decide), am_up_cell _ (by decide), am_up_cell _ (by decide)]
              by_cases hiq : (i : Int) = q
              · rw [if_pos hiq, hiq, am_up_same]
              · rw [if_neg hiq, am_up_idx _ _ hiq]; exact (hF.2 i (by omega)).1
            · rw [am_up_cell _ (by decide), am_up_cell _ (by decide), am_up_cell _ (by decide), am_up_cell _ (by decide), am_up_cell _ (by decide)]
              by_cases hiq : (i : Int) = q
              · rw [if_pos hiq, hiq, am_up_same]
              · rw [if_neg hiq, am_up_idx _ _ hiq, am_up_cell _ (by decide)]; exact (hF.2 i (by omega)).2
          · rw [am_up_same]; omega
          · dsimp only
            refine ⟨?_, ?_⟩
            · rw [am_up_cell _ (by decide), am_up_idx _ _ (by omega)]
              by_cases hiq : (i : Int) = q
              · rw [if_pos hiq, hiq, am_up_same]
              · rw [if_neg hiq, am_up_idx _ _ (by omega), am_up_cell _ (by decide), am_up_cell _ (by decide), am_up_cell _ (by decide), am_up_cell _ (by decide)]; exact (m5.2 i (by omega)).1
            · rw [am_up_cell _ (by decide)]
              by_cases hiq : (i : Int) = q
              · rw [if_pos hiq, hiq, am_up_same]
              · rw [if_neg hiq, am_up_idx _ _ (by omega), am_up_idx _ _ (by omega), am_up_cell _ (by decide), am_up_cell _ (by decide), am_up_cell _ (by decide), am_up_cell _ (by decide)]; exact (m5.2 i (by omega)).2
        refine sg_X8_sees ?_
        rw [g8]
        exact ⟨⟨hf, by decide, by decide⟩, fun y => absurd y (by omega), fun _ => ⟨⟨hp, by decide, by decide⟩, fun _ => ⟨by omega, fun _ => ⟨by omega, by omega, rfl, fin⟩, fun y => absurd y (by omega)⟩, fun _ => ⟨hp, fun _ => ⟨by omega, fun _ => ⟨by omega, by omega, rfl, fin⟩, fun y => absurd y (by omega)⟩, fun y => absurd y (by omega)⟩⟩⟩
      exact sg_X7_sees ⟨hp, hf, fun y => absurd y (by omega), fun _ => ⟨fun y => absurd y (by omega), fun _ => ⟨fun _ => ⟨by omega, fun _ => app, fun y => absurd y (by omega)⟩, fun _ => ⟨hp, fun _ => ⟨by omega, fun _ => app, fun y => absurd y (by omega)⟩, fun y => absurd y (by omega)⟩⟩⟩⟩
    · have g8 : M 62 8 = q := hM.2.2.2.2.1
      have href : AC (d + 10) mX8_sees [.inr 62, .inl f, .inl p] M (fun r2 M2 => r2 = some (-3) ∧ INV M2) := by
        refine sg_X8_sees ?_
        rw [g8]
        exact ⟨⟨hf, by decide, by decide⟩, fun y => absurd y (by omega), fun _ => ⟨⟨hp, by decide, by decide⟩, fun _ => ⟨by omega, fun y => absurd y (by omega), fun _ => ⟨rfl, inv_0 hC hM⟩⟩, fun _ => ⟨hp, fun _ => ⟨by omega, fun y => absurd y (by omega), fun _ => ⟨rfl, inv_0 hC hM⟩⟩, fun y => absurd y (by omega)⟩⟩⟩
      exact sg_X7_sees ⟨hp, hf, fun y => absurd y (by omega), fun _ => ⟨fun y => absurd y (by omega), fun _ => ⟨fun _ => ⟨by omega, fun y => absurd y (by omega), fun _ => ⟨_, rfl, href⟩⟩, fun _ => ⟨hp, fun _ => ⟨by omega, fun y => absurd y (by omega), fun _ => ⟨_, rfl, href⟩⟩, fun y => absurd y (by omega)⟩⟩⟩⟩
  · have href : AC (d + 10) mX8_sees [.inr 62, .inl f, .inl p] M (fun r2 M2 => r2 = some (-1) ∧ INV M2) := sg_X8_sees ⟨⟨hf, by decide, by decide⟩, fun _ => ⟨rfl, inv_0 hC hM⟩, fun y1 => ⟨⟨hp, by decide, by decide⟩, fun y => absurd ⟨by omega, Or.inl y⟩ hr, fun _ => ⟨hp, fun y => absurd ⟨by omega, Or.inr y⟩ hr, fun _ => ⟨rfl, inv_0 hC hM⟩⟩⟩⟩
    exact sg_X7_sees ⟨hp, hf, fun _ => ⟨_, rfl, href⟩, fun y0 => ⟨fun _ => ⟨_, rfl, href⟩, fun y1 => ⟨fun y => absurd ⟨⟨y0, y1⟩, Or.inl y⟩ hr, fun _ => ⟨hp, fun y => absurd ⟨⟨y0, y1⟩, Or.inr y⟩ hr, fun _ => ⟨_, rfl, href⟩⟩⟩⟩⟩
end DO
