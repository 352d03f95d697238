/-! the questions: class and reference answer alike -/
section AS
theorem s_level {d : Nat} {f p : Int} (hf : am_r f) (hp : am_r p) : SIM d mX7_level mX8_level [.inl f, .inl p] := by
  rintro M ⟨σ, c, N, h, η, kf, ι, φ, ψ, q, hC, hM⟩
  have ho := hC.1
  have hL := hC.2.1
  have h0 := ho.1
  have h1 := ho.2.1
  have e0 : M 1 0 = σ 0 := hL.1.1
  have e1 : M 1 1 = σ 1 := hL.1.2.1
  have g0 : M 63 0 = σ 0 := hM.1 0 (by omega) (by omega)
  have g1 : M 63 1 = σ 1 := hM.1 1 (by omega) (by omega)
  refine sg_X7_level ?_
  rw [hL.1.lv ho, e0, e1]
  refine ⟨⟨⟨hf, by omega⟩, hp, by omega⟩, fun k => ⟨hf, hp, by omega, by omega, by omega, by omega⟩, fun v k1 k2 => ⟨_, rfl, sg_X8_level ?_⟩⟩
  rw [g0, g1]
  refine ⟨⟨⟨hf, hp⟩, by omega, by omega⟩, fun k => hM.1.mlok ho (by omega) (by omega), fun w k3 k4 => ⟨?_, inv_0 hC hM⟩⟩
  by_cases hr : (0 ≤ f ∧ f < σ 0) ∧ 0 ≤ p ∧ p < σ 1
  · rw [k2 hr, k4 (by omega), hM.1.ml ho hr.1]
  · rw [k1 hr, k3 (by omega)]
theorem s_peak {d : Nat} {f k w : Int} (hf : am_r f) (hk : am_r k) (hw : am_r w) : SIM d mX7_peak mX8_peak [.inl f, .inl k, .inl w] := by
  rintro M ⟨σ, c, N, h, η, kf, ι, φ, ψ, q, hC, hM⟩
  have ho := hC.1
  have hL := hC.2.1
  have h0 := ho.1
  have e0 : M 1 0 = σ 0 := hL.1.1
  have g0 : M 63 0 = σ 0 := hM.1 0 (by omega) (by omega)
  by_cases hb : (0 ≤ f ∧ f < σ 0) ∧ 0 ≤ k ∧ 0 ≤ w ∧ w ≤ 4
  · obtain ⟨b1, b2, b3, b4⟩ := hb
    have ref : ∀ z, (∀ M1, ML M1 σ (σ 3) → ((k < M1 70 f →
 (am_r w) ∧
 ((w < 0 ∨ 3 < w →
 (0 ≤ (6 * f) + k ∧ (6 * f) + k < 48) ∧
 M1 72 ((6 * f) + k) = z) ∧
 (w = 0 →
 (0 ≤ (6 * f) + k ∧ (6 * f) + k < 48) ∧
 M1 71 ((6 * f) + k) = z) ∧
 (w = 1 →
 (am_ptok (M1 63) (M1 71) f k) ∧
 am_pt (M1 63) (M1 71) f k = z) ∧
 (w = 2 →
 (am_look (M1 63) (M1 71) f k) ∧
 am_lo2 (M1 63) (M1 71) f k = z) ∧
 (w = 3 →
 (0 ≤ (6 * f) + k ∧ (6 * f) + k < 48) ∧
 M1 73 ((6 * f) + k) = z))) ∧
 (M1 70 f ≤ k → -9 = z))) → AC (d + 10) mX8_peak [.inr 62, .inl f, .inl k, .inl w] M (fun r2 M2 => r2 = some z ∧ INV M2) := by
      intro z hz
      refine sg_X8_peak ⟨⟨hf, by decide, by omega⟩, fun y => absurd y (by omega), fun _ => ⟨hk, fun y => absurd y (by omega), fun _ => ⟨⟨hw, by decide, by decide⟩, fun _ => c_lays ho (hM.1.r (MR.up0 M 0)) (fun M1 fr hL1 => ⟨rfl, by omega, ?_, ?_⟩), fun y => absurd ⟨b3, b4⟩ y⟩⟩⟩
      · rw [hL1.2.1.n b1]
        have := sp_n_r σ f
        omega
      · have fr1 := (MR.up0 M 0).trans fr
        have hi := inv_r hC hM fr1
        obtain ⟨z1, z2⟩ := hz M1 hL1
        refine ⟨fun y => ⟨hw, fun v => ⟨((z1 y).2.1 v).1, by rw [((z1 y).2.1 v).2], hi⟩, fun v => ⟨((z1 y).2.2.1 v).1, by rw [((z1 y).2.2.1 v).2], hi⟩, fun v => ⟨((z1 y).2.2.2.1 v).1, by rw [((z1 y).2.2.2.1 v).2], hi⟩, fun v => ⟨((z1 y).2.2.2.2.1 v).1, by rw [((z1 y).2.2.2.2.1 v).2], hi⟩, fun v => ⟨((z1 y).2.2.2.2.2 v).1, by rw [((z1 y).2.2.2.2.2 v).2], hi⟩⟩, fun y => ⟨by rw [z2 y], hi⟩⟩
    have hn := sp_n_r σ f
    have e32 : M 32 f = sp_n σ f := hL.2.1.n (by omega)
    refine sg_X7_peak ?_
    rw [e0, e32]
    refine ⟨⟨hf, by omega⟩, fun y => absurd b1 y, fun _ => ⟨hk, fun y => absurd y (by omega), fun _ => ⟨hw, fun y => absurd y (by omega), fun _ => ⟨fun _ => ⟨by omega, by omega, fun y => ?_, fun y => ⟨_, rfl, ref _ (fun M1 hL1 => ?_)⟩⟩, fun y => absurd y (by omega)⟩⟩⟩⟩
    · have ep := hL.2.1.at (f := f) (k := k) (by omega) ⟨b2, y⟩
      rw [show f * 6 + k = 6 * f + k by omega]
      have et := hL.2.2.2.1 f.toNat k.toNat (by omega) (by rw [show ((f.toNat : Nat) : Int) = f by omega]; omega)
      rw [show ((f.toNat : Nat) : Int) = f by omega, show ((k.toNat : Nat) : Int) = k by omega] at et
      have mt : ∀ M1, ML M1 σ (σ 3) → M1 73 (6 * f + k) = tr σ (σ 3) f.toNat k ∧ M1 72 (6 * f + k) = sp_m σ (σ 3) f k := fun M1 hL1 => by
        have := hL1.2.2.2 f.toNat k.toNat (by omega) (by rw [show ((f.toNat : Nat) : Int) = f by omega]; omega)
        rw [show ((f.toNat : Nat) : Int) = f by omega, show ((k.toNat : Nat) : Int) = k by omega] at this
        exact this
      rw [ep.1, ep.2.1, ep.2.2, et.1, et.2]
      refine ⟨fun v => ⟨by omega, _, rfl, ref _ (fun M1 hL1 => ?_)⟩, fun v => ⟨by omega, _, rfl, ref _ (fun M1 hL1 => ?_)⟩, fun v => ⟨by omega, _, rfl, ref _ (fun M1 hL1 => ?_)⟩, fun v => ⟨by omega, _, rfl, ref _ (fun M1 hL1 => ?_)⟩, fun v => ⟨by omega, _, rfl, ref _ (fun M1 hL1 => ?_)⟩⟩
      · rw [hL1.2.1.n b1]
        exact ⟨fun _ => ⟨hw, fun _ => ⟨by omega, (mt M1 hL1).2⟩, fun x => absurd x (by omega), fun x => absurd x (by omega), fun x => absurd x (by omega), fun x => absurd x (by omega)⟩, fun x => absurd x (by omega)⟩
      · rw [hL1.2.1.n b1]
        exact ⟨fun _ => ⟨hw, fun x => absurd x (by omega), fun _ => ⟨by omega, hL1.2.1.p b1 ⟨b2, y⟩⟩, fun x => absurd x (by omega), fun x => absurd x (by omega), fun x => absurd x (by omega)⟩, fun x => absurd x (by omega)⟩
      · rw [hL1.2.1.n b1]
        exact ⟨fun _ => ⟨hw, fun x => absurd x (by omega), fun x => absurd x (by omega), fun _ => ⟨hL1.2.1.ptok hL1.1 ho b1 ⟨b2, y⟩, hL1.2.1.pt hL1.1 ho b1 ⟨b2, y⟩⟩, fun x => absurd x (by omega), fun x => absurd x (by omega)⟩, fun x => absurd x (by omega)⟩
      · rw [hL1.2.1.n b1]
        exact ⟨fun _ => ⟨hw, fun x => absurd x (by omega), fun x => absurd x (by omega), fun x => absurd x (by omega), fun _ => ⟨(hL1.2.1.lo hL1.1 ho b1 ⟨b2, y⟩).2, (hL1.2.1.lo hL1.1 ho b1 ⟨b2, y⟩).1⟩, fun x => absurd x (by omega)⟩, fun x => absurd x (by omega)⟩
      · rw [hL1.2.1.n b1]
        exact ⟨fun _ => ⟨hw, fun x => absurd x (by omega), fun x => absurd x (by omega), fun x => absurd x (by omega), fun x => absurd x (by omega), fun _ => ⟨by omega, (mt M1 hL1).1⟩⟩, fun x => absurd x (by omega)⟩
    · rw [hL1.2.1.n b1]
      exact ⟨fun x => absurd x (by omega), fun _ => rfl⟩
  · have href : AC (d + 10) mX8_peak [.inr 62, .inl f, .inl k, .inl w] M (fun r2 M2 => r2 = some (-1000000) ∧ INV M2) := by
      refine sg_X8_peak ⟨⟨hf, by decide, by omega⟩, fun y => ⟨rfl, inv_0 hC hM⟩, fun y1 => ⟨hk, fun y => ⟨rfl, inv_0 hC hM⟩, fun y2 => ⟨⟨hw, by decide, by decide⟩, fun y3 => absurd ⟨by omega, y2, y3⟩ hb, fun y => ⟨rfl, inv_0 hC hM⟩⟩⟩⟩
    refine sg_X7_peak ?_
    rw [e0]
    exact ⟨⟨hf, by omega⟩, fun y => ⟨_, rfl, href⟩, fun y1 => ⟨hk, fun y => ⟨_, rfl, href⟩, fun y2 => ⟨hw, fun y => ⟨_, rfl, href⟩, fun y3 => ⟨fun y4 => absurd ⟨y1, y2, y3, y4⟩ hb, fun y => ⟨_, rfl, href⟩⟩⟩⟩⟩
theorem s_frame {d : Nat} {f w : Int} (hf : am_r f) (hw : am_r w) : SIM d mX7_frame mX8_frame [.inl f, .inl w] := by
  rintro M ⟨σ, c, N, h, η, kf, ι, φ, ψ, q, hC, hM⟩
  have ho := hC.1
  have hL := hC.2.1
  have h0 := ho.1
  have e0 : M 1 0 = σ 0 := hL.1.1
  have g0 : M 63 0 = σ 0 := hM.1 0 (by omega) (by omega)
  by_cases hb : (0 ≤ f ∧ f < σ 0) ∧ 0 ≤ w ∧ w ≤ 4
  · obtain ⟨b1, b3, b4⟩ := hb
    have ef : f = ((f.toNat : Nat) : Int) := by omega
    have ref : ∀ z, (w = 0 → z = sp_n σ f) → (w = 1 → z = loS σ (σ 3) f.toNat 1) → (w = 2 → z = loS σ (σ 3) f.toNat 0) → (w = 3 → z = bnS σ (σ 3) f) → (w = 4 → z = enS σ (σ 3) f) → AC (d + 10) mX8_frame [.inr 62, .inl f, .inl w] M (fun r2 M2 => r2 = some z ∧ INV M2) := by
      intro z z0 z1 z2 z3 z4
      refine sg_X8_frame ⟨⟨hf, by decide, by omega⟩, fun y => absurd y (by omega), fun _ => ⟨⟨hw, by decide, by decide⟩, fun _ => c_lays ho (hM.1.r (MR.up0 M 0)) (fun M1 fr hL1 => ⟨rfl, hw, fun y => ⟨fun y3 => ?_, fun y3 => ?_⟩, fun y => ⟨by omega, ?_⟩⟩), fun y => absurd ⟨b3, b4⟩ y⟩⟩
      all_goals have hi := inv_r hC hM ((MR.up0 M 0).trans fr)
      · by_cases h4 : w = 4
        · rw [am_b_pos h4]
          exact c_bornIn1 ho hL1 hf ⟨_, rfl, by rw [z4 h4], hi⟩
        · rw [am_b_neg h4]
          exact c_bornIn0 ho hL1 hf ⟨_, rfl, by rw [z3 (by omega)], hi⟩
      · rw [ef]
        by_cases h1 : w = 1
        · rw [am_b_pos h1]
          exact c_sumOf ho hL1 (by omega) (Or.inr rfl) ⟨_, rfl, by rw [z1 h1], hi⟩
        · rw [am_b_neg h1]
          exact c_sumOf ho hL1 (by omega) (Or.inl rfl) ⟨_, rfl, by rw [z2 (by omega)], hi⟩
      · rw [hL1.2.1.n b1]
        exact ⟨by rw [z0 y], hi⟩
    refine sg_X7_frame ?_
    rw [e0]
    refine ⟨⟨hf, by omega⟩, fun _ => ⟨hw, fun y => absurd y (by omega), fun y => ⟨by omega, _, rfl, ref _ (fun _ => hL.2.1.n (by omega)) (fun x => absurd x (by omega)) (fun x => absurd x (by omega)) (fun x => absurd x (by omega)) (fun x => absurd x (by omega))⟩, fun y => ?_, fun y => ?_, fun y => ?_, fun y => ?_⟩, fun y => absurd b1 y⟩
    · have := k_loudTogether (d := d + 8) (Q := fun r M5 => ∃ z6, r = some z6 ∧ ∃ z, some z6 = some z ∧ AC (d + 10) mX8_frame [.inr 62, .inl f, .inl w] M5 (fun r2 M2 => r2 = some z ∧ INV M2)) ho hL (f := f.toNat) (by omega) (ok := 1) (Or.inr rfl) ⟨_, rfl, _, rfl, ref _ (fun x => absurd x (by omega)) (fun _ => rfl) (fun x => absurd x (by omega)) (fun x => absurd x (by omega)) (fun x => absurd x (by omega))⟩
      rw [← ef] at this
      exact this
    · have := k_loudTogether (d := d + 8) (Q := fun r M5 => ∃ z6, r = some z6 ∧ ∃ z, some z6 = some z ∧ AC (d + 10) mX8_frame [.inr 62, .inl f, .inl w] M5 (fun r2 M2 => r2 = some z ∧ INV M2)) ho hL (f := f.toNat) (by omega) (ok := 0) (Or.inl rfl) ⟨_, rfl, _, rfl, ref _ (fun x => absurd x (by omega)) (fun x => absurd x (by omega)) (fun _ => rfl) (fun x => absurd x (by omega)) (fun x => absurd x (by omega))⟩
      rw [← ef] at this
      exact this
    · exact k_bornIn hL hf ⟨_, rfl, _, rfl, ref _ (fun x => absurd x (by omega)) (fun x => absurd x (by omega)) (fun x => absurd x (by omega)) (fun _ => rfl) (fun x => absurd x (by omega))⟩
    · exact k_endingIn hL hf ⟨_, rfl, _, rfl, ref _ (fun x => absurd x (by omega)) (fun x => absurd x (by omega)) (fun x => absurd x (by omega)) (fun x => absurd x (by omega)) (fun _ => rfl)⟩
  · have href : AC (d + 10) mX8_frame [.inr 62, .inl f, .inl w] M (fun r2 M2 => r2 = some (-1) ∧ INV M2) := by
      refine sg_X8_frame ⟨⟨hf, by decide, by omega⟩, fun y => ⟨rfl, inv_0 hC hM⟩, fun y1 => ⟨⟨hw, by decide, by decide⟩, fun y3 => absurd ⟨by omega, y3⟩ hb, fun y => ⟨rfl, inv_0 hC hM⟩⟩⟩
    refine sg_X7_frame ?_
    rw [e0]
    exact ⟨⟨hf, by omega⟩, fun y1 => ⟨hw, fun y => ⟨_, rfl, href⟩, fun y => absurd ⟨y1, by omega⟩ hb, fun y => absurd ⟨y1, by omega⟩ hb, fun y => absurd ⟨y1, by omega⟩ hb, fun y => absurd ⟨y1, by omega⟩ hb, fun y => absurd ⟨y1, by omega⟩ hb⟩, fun y => ⟨_, rfl, href⟩⟩
theorem s_track {d : Nat} {n w : Int} (hn : am_r n) (hw : am_r w) : SIM d mX7_track mX8_track [.inl n, .inl w] := by
  rintro M ⟨σ, c, N, h, η, kf, ι, φ, ψ, q, hC, hM⟩
  have ho := hC.1
  have hL := hC.2.1
  have h4 := ho.2.2.2.2.1
  have hCt := tC_r (σ := σ) (re := σ 3) 8
  have eC : M 41 0 = tC σ (σ 3) 8 := hL.2.2.1
  have e4 : M 2 2 = σ 4 := hL.1.2.2.2.2.1
  by_cases hb : (0 ≤ n ∧ n < tC σ (σ 3) 8) ∧ 0 ≤ w ∧ w ≤ 7
  · obtain ⟨⟨b1, b2⟩, b3, b4⟩ := hb
    obtain ⟨b, hb8, eb, hbp, -⟩ := tB_spec (σ := σ) (re := σ 3) b1 b2
    have hln := tLN_r (σ := σ) (re := σ 3) n 8
    have ref : ∀ z, (w = 0 → z = tB σ (σ 3) n) → (w = 1 → z = tLN σ (σ 3) 8 n) → (w = 2 → z = am_b (σ 4 ≤ tLN σ (σ 3) 8 n)) → (w = 3 → z = tD σ (σ 3) n) → (w = 4 → z = tT σ (σ 3) n) → (w = 5 → z = tK σ (σ 3) n) → (w = 6 → z = tLL σ (σ 3) 8 n * (tK σ (σ 3) n + 1) - tD σ (σ 3) n) → (w = 7 → z = tPI σ (σ 3) b n) → AC (d + 10) mX8_track [.inr 62, .inl n, .inl w] M (fun r2 M2 => r2 = some z ∧ INV M2) := by
      intro z z0 z1 z2 z3 z4 z5 z6 z7
      refine sg_X8_track (c_lays ho (hM.1.r (MR.up0 M 0)) (fun M1 fr hL1 => ?_))
      have fr1 := (MR.up0 M 0).trans fr
      have hi := inv_r hC hM fr1
      have e19 : M1 62 19 = tC σ (σ 3) 8 := hL1.2.2.1
      have g4 : M1 63 4 = σ 4 := hL1.1 4 (by omega) (by omega)
      have hq : ∀ M2, MQf M1 M2 → INV M2 := fun M2 f2 => inv_r hC hM (fr1.trans f2.r)
      rw [e19]
      refine ⟨rfl, ⟨hn, by decide, by omega⟩, fun y => absurd y (by omega), fun _ => ⟨⟨hw, by decide, by decide⟩, fun _ => c_bornOf ho hL1 b1 b2 ⟨_, rfl, hw, fun y => ?_, fun y => ⟨by rw [z0 y], hi⟩, fun y => c_longOf ho hL1 hn ⟨_, rfl, by rw [z1 y], hi⟩, fun y => c_longOf ho hL1 hn ⟨_, rfl, ⟨by omega, by omega⟩, by rw [z2 y, g4], hi⟩, fun y => c_depthOf ho hL1 b1 b2 ⟨_, rfl, by rw [z3 y], hi⟩, fun y => c_turnsOf ho hL1 b1 b2 (fun M2 f2 => ⟨_, rfl, by rw [z4 y], hq M2 f2⟩), fun y => c_kindOf ho hL1 b1 b2 (fun M2 f2 => ⟨_, rfl, by rw [z5 y], hq M2 f2⟩), fun y => c_worthOfTrack ho hL1 b1 b2 (fun M2 f2 => ⟨_, rfl, by rw [z6 y], hq M2 f2⟩)⟩, fun y => absurd ⟨b3, b4⟩ y⟩⟩
      have hbF := tP_in ho hbp
      have hpr := tP_r (σ := σ) (re := σ 3) b n
      rw [eb]
      refine c_peakOf ho hL1 hbF hn ⟨_, rfl, hL1.2.1.ptok hL1.1 ho (by omega) (by omega), ?_, hi⟩
      rw [hL1.2.1.pt hL1.1 ho (by omega) (by omega), z7 (by omega), tPI_some hbp]
    obtain ⟨⟨t1, t2, t3⟩, t4, t5, t6⟩ := hL.2.2.2.2.1 n b1 b2
    have hpi := hL.pi (f := (b : Int)) b1 b2 (by omega)
    rw [Int.toNat_natCast] at hpi
    refine sg_X7_track ?_
    rw [t1, t2, t3, t4, t5, t6, e4, eb, hpi.1]
    refine ⟨hn, fun y => absurd y (by omega), fun _ => ⟨by omega, fun _ => ⟨hw, fun y => absurd y (by omega), fun y => ⟨by omega, _, rfl, ref _ (fun _ => eb.symm) (by omega) (by omega) (by omega) (by omega) (by omega) (by omega) (by omega)⟩, fun y => ⟨by omega, _, rfl, ref _ (by omega) (fun _ => rfl) (by omega) (by omega) (by omega) (by omega) (by omega) (by omega)⟩, fun y => ⟨⟨hn, by omega, by omega, fun _ _ => by omega, by omega⟩, _, rfl, ref _ (by omega) (by omega) (fun _ => am_b_congr (by omega)) (by omega) (by omega) (by omega) (by omega) (by omega)⟩, fun y => ⟨by omega, _, rfl, ref _ (by omega) (by omega) (by omega) (fun _ => rfl) (by omega) (by omega) (by omega) (by omega)⟩, fun y => ⟨by omega, _, rfl, ref _ (by omega) (by omega) (by omega) (by omega) (fun _ => rfl) (by omega) (by omega) (by omega)⟩, fun y => ⟨by omega, _, rfl, ref _ (by omega) (by omega) (by omega) (by omega) (by omega) (fun _ => rfl) (by omega) (by omega)⟩, fun y => ⟨by omega, _, rfl, ref _ (by omega) (by omega) (by omega) (by omega) (by omega) (by omega) (fun _ => rfl) (by omega)⟩, fun y => ⟨by omega, hpi.2, _, rfl, ref _ (by omega) (by omega) (by omega) (by omega) (by omega) (by omega) (by omega) (fun _ => rfl)⟩⟩, fun y => absurd y (by omega)⟩⟩
  · have href : AC (d + 10) mX8_track [.inr 62, .inl n, .inl w] M (fun r2 M2 => r2 = some (-1000000) ∧ INV M2) := by
      refine sg_X8_track (c_lays ho (hM.1.r (MR.up0 M 0)) (fun M1 fr hL1 => ?_))
      have hi := inv_r hC hM ((MR.up0 M 0).trans fr)
      have e19 : M1 62 19 = tC σ (σ 3) 8 := hL1.2.2.1
      rw [e19]
      exact ⟨rfl, ⟨hn, by decide, by omega⟩, fun y => ⟨rfl, hi⟩, fun y1 => ⟨⟨hw, by decide, by decide⟩, fun y3 => absurd ⟨by omega, y3⟩ hb, fun y => ⟨rfl, hi⟩⟩⟩
    refine sg_X7_track ?_
    rw [eC]
    exact ⟨hn, fun y => ⟨_, rfl, href⟩, fun y1 => ⟨by omega, fun y2 => ⟨hw, fun y => ⟨_, rfl, href⟩, fun y => absurd ⟨⟨y1, y2⟩, by omega⟩ hb, fun y => absurd ⟨⟨y1, y2⟩, by omega⟩ hb, fun y => absurd ⟨⟨y1, y2⟩, by omega⟩ hb, fun y => absurd ⟨⟨y1, y2⟩, by omega⟩ hb, fun y => absurd ⟨⟨y1, y2⟩, by omega⟩ hb, fun y => absurd ⟨⟨y1, y2⟩, by omega⟩ hb, fun y => absurd ⟨⟨y1, y2⟩, by omega⟩ hb, fun y => absurd ⟨⟨y1, y2⟩, by omega⟩ hb⟩, fun y => ⟨_, rfl, href⟩⟩⟩
theorem s_pitch {d : Nat} {n f : Int} (hn : am_r n) (hf : am_r f) : SIM d mX7_pitch mX8_pitch [.inl n, .inl f] := by
  rintro M ⟨σ, c, N, h, η, kf, ι, φ, ψ, q, hC, hM⟩
  have ho := hC.1
  have hL := hC.2.1
  have h0 := ho.1
  have e0 : M 1 0 = σ 0 := hL.1.1
  have hCt := tC_r (σ := σ) (re := σ 3) 8
  have eC : M 41 0 = tC σ (σ 3) 8 := hL.2.2.1
  have ref : ∀ z, ((0 ≤ n ∧ n < tC σ (σ 3) 8) ∧ (0 ≤ f ∧ f < σ 0) → z = tPI σ (σ 3) f.toNat n) → (¬ ((0 ≤ n ∧ n < tC σ (σ 3) 8) ∧ (0 ≤ f ∧ f < σ 0)) → z = -1000000) → AC (d + 10) mX8_pitch [.inr 62, .inl n, .inl f] M (fun r2 M2 => r2 = some z ∧ INV M2) := by
    intro z z1 z2
    refine sg_X8_pitch (c_lays ho (hM.1.r (MR.up0 M 0)) (fun M1 fr hL1 => ?_))
    have hi := inv_r hC hM ((MR.up0 M 0).trans fr)
    have e19 : M1 62 19 = tC σ (σ 3) 8 := hL1.2.2.1
    rw [e19, hL1.F]
    refine ⟨rfl, ⟨hn, by decide, by omega⟩, fun y => ⟨by rw [z2 (by omega)], hi⟩, fun y1 => ⟨⟨hf, by decide, by omega⟩, fun y => ⟨by rw [z2 (by omega)], hi⟩, fun y2 => ?_⟩⟩
    have := c_pitchIn (d := d + 6) (Q := fun r M6 => ∃ z7, r = some z7 ∧ some z7 = some z ∧ INV M6) ho hL1 (f := f.toNat) (by omega) hn ⟨_, rfl, by rw [z1 (by omega)], hi⟩
    rw [show ((f.toNat : Nat) : Int) = f by omega] at this
    exact this
  refine sg_X7_pitch ?_
  rw [e0, eC]
  refine ⟨hn, fun y => ⟨_, rfl, ref _ (fun x => absurd x (by omega)) (fun _ => rfl)⟩, fun y1 => ⟨by omega, fun y => ⟨_, rfl, ref _ (fun x => absurd x (by omega)) (fun _ => rfl)⟩, fun y2 => ⟨⟨hf, by omega⟩, fun y3 => ?_, fun y => ⟨_, rfl, ref _ (fun x => absurd x (by omega)) (fun _ => rfl)⟩⟩⟩⟩
  have hpi := hL.pi (f := f) y1 y2 (by omega)
  rw [eC] at hpi
  rw [hpi.1]
  exact ⟨hpi.2, _, rfl, ref _ (fun _ => rfl) (fun x => absurd ⟨⟨y1, y2⟩, y3⟩ x)⟩
theorem s_best {d : Nat} {w : Int} (hw : am_r w) : SIM d mX7_best mX8_best [.inl w] := by
  rintro M ⟨σ, c, N, h, η, kf, ι, φ, ψ, q, hC, hM⟩
  obtain ⟨ho, hL, hb, ht, hT, hH, hI, hf, hF⟩ := hC
  by_cases hr : 0 ≤ w ∧ w ≤ 1
  · refine k_best ho hL.2.1 hb hr (fun M1 fr1 fj1 hm1 => ⟨_, rfl, ?_⟩)
    have hC1 : CI σ c N h η kf ι φ ψ q M1 := ⟨ho, hL.congr (fun a ha => fr1 a (by omega) (by omega)), Or.inr hm1, ht, hT.congr (by rw [fr1 7 (by omega) (by omega)]) (fr1 8 (by omega) (by omega)), hH.congr (fun a _ _ => fr1 a (by omega) (by omega)), hI.congr (fun a _ => fr1 a (by omega) (by omega)), hf, hF.congr (by rw [fr1 51 (by omega) (by omega)]) (fun a _ => fr1 a (by omega) (by omega))⟩
    have hM1 := hM.congr (M' := M1) (fun a ha => fr1 a (by omega) (by omega))
    refine c_best ho hM1.1 hr (fun M2 r e fr2 hm2 => ⟨?_, inv_r hC1 hM1 fr2⟩)
    have := hm1.uniq hm2
    rw [this.1, this.2]
  · have hC : CI σ c N h η kf ι φ ψ q M := ⟨ho, hL, hb, ht, hT, hH, hI, hf, hF⟩
    have href : AC (d + 10) mX8_best [.inr 62, .inl w] M (fun r2 M2 => r2 = some (-1) ∧ INV M2) := sg_X8_best ⟨⟨hw, by decide, by decide⟩, fun y => absurd y hr, fun _ => ⟨rfl, inv_0 hC hM⟩⟩
    exact sg_X7_best ⟨hw, fun _ => ⟨_, rfl, href⟩, fun y => ⟨fun y2 => absurd ⟨y, y2⟩ hr, fun _ => ⟨_, rfl, href⟩⟩⟩
theorem ci_seen {σ c : Int → Int} {N : Int} {h : Nat} {η : Nat → Int → Int} {kf : Nat → Int} {ι : Nat → Int → Int} {φ ψ : Int → Int} {q : Nat} {M M' : am_M} (hC : CI σ c N h η kf ι φ ψ q M) (fr : ∀ a, a ≠ 51 → a ≠ 54 → a ≠ 55 → M' a = M a) (f0 : M' 51 0 = M 51 0) : CI σ c N h η kf ι φ ψ q M' := by
  obtain ⟨ho, hL, hb, ht, hT, hH, hI, hf, hF⟩ := hC
  exact ⟨ho, hL.congr (fun a ha => fr a (by omega) (by omega) (by omega)), by rw [fr 0 (by decide) (by decide) (by decide)]; exact hb, ht, hT.congr (by rw [fr 7 (by decide) (by decide) (by decide)]) (fr 8 (by decide) (by decide) (by decide)), hH.congr (fun a _ _ => fr a (by omega) (by omega) (by omega)), hI.congr (fun a _ => fr a (by omega) (by omega) (by omega)), hf, hF.congr f0 (fun a _ => fr a (by omega) (by omega) (by omega))⟩
theorem s_which {d : Nat} {w : Int} (hw : am_r w) : SIM d mX7_which mX8_which [.inl w] := by
  rintro M ⟨σ, c, N, h, η, kf, ι, φ, ψ, q, hC, hM⟩
  have ho := hC.1
  have hL := hC.2.1
  have hf := hC.2.2.2.2.2.2.2.1
  have hF := hC.2.2.2.2.2.2.2.2
  by_cases hr : 0 ≤ w ∧ w ≤ 1
  · refine sg_X7_which ⟨hw, fun y => absurd y (by omega), fun _ => ⟨fun _ => k_gather ho hL hf hF (fun M1 fr1 fj1 hg1 => ⟨rfl, ?_⟩), fun y => absurd y (by omega)⟩⟩
    have hC1 : CI σ c N h η kf ι φ ψ q M1 := ci_seen hC (fun a a1 a2 _ => fr1 a a1 a2) (fj1 0 (by decide))
    have hM1 := hM.congr (M' := M1) (fun a ha => fr1 a (by omega) (by omega))
    have hlen := cn_len (φ := φ) (ψ := ψ) (σ := σ) (re := σ 3) (q := q) (tC σ (σ 3) 8).toNat
    have hCt := tC_r (σ := σ) (re := σ 3) 8
    have ref : ∀ z, z = (if w = 0 then ((whA φ ψ σ q).length : Int) else whF (whA φ ψ σ q)) → AC (d + 10) mX8_which [.inr 62, .inl w] M1 (fun r2 M2 => r2 = some z ∧ INV M2) := fun z hz => by
      rw [hz]
      exact c_which ho hM1.1 hf hM1.2.2.2.2 hr (fun M2 fr2 => ⟨rfl, inv_r hC1 hM1 fr2⟩)
    obtain ⟨g1, g2⟩ := hg1
    refine ⟨fun y => ⟨by omega, fun v k1 k2 => ⟨_, rfl, ref _ ?_⟩⟩, fun y => ⟨_, rfl, ref _ (by rw [if_pos y]; exact g1)⟩⟩
    rw [if_neg y]
    unfold whA
    revert g1 g2 k1 k2
    cases hl : cn φ ψ σ (σ 3) q (tC σ (σ 3) 8).toNat with
    | nil =>
      intro g1 g2 k1 k2
      exact k1 (by rw [g1]; decide)
    | cons x l =>
      intro g1 g2 k1 k2
      rw [k2 (by rw [g1, List.length_cons]; omega)]
      exact g2 0 (by rw [List.length_cons]; omega)
  · have href : AC (d + 10) mX8_which [.inr 62, .inl w] M (fun r2 M2 => r2 = some (-1) ∧ INV M2) := sg_X8_which ⟨⟨hw, by decide, by decide⟩, fun y => absurd y hr, fun _ => ⟨rfl, inv_0 hC hM⟩⟩
    exact sg_X7_which ⟨hw, fun _ => ⟨_, rfl, href⟩, fun y => ⟨fun y2 => absurd ⟨y, y2⟩ hr, fun _ => ⟨_, rfl, href⟩⟩⟩
theorem s_listen {d : Nat} : SIM d mX7_listen mX8_listen [] := by
  rintro M ⟨σ, c, N, h, η, kf, ι, φ, ψ, q, hC, hM⟩
  have ho := hC.1
  have hL := hC.2.1
  have hf := hC.2.2.2.2.2.2.2.1
  have hF := hC.2.2.2.2.2.2.2.2
  have h0 := ho.1
  have hCt := tC_r (σ := σ) (re := σ 3) 8
  have hlen := cn_len (φ := φ) (ψ := ψ) (σ := σ) (re := σ 3) (q := q) (tC σ (σ 3) 8).toNat
  refine sg_X7_listen (k_gather ho hL hf hF (fun M1 fr1 fj1 hg1 => ⟨rfl, ?_⟩))
  have fin : ∀ M2 z, (∀ a, a ≠ 55 → M2 a = M1 a) → isLi φ ψ σ q z → ∃ z', some z = some z' ∧ AC (d + 10) mX8_listen [.inr 62] M2 (fun r2 M3 => r2 = some z' ∧ INV M3) := by
    intro M2 z fr2 hz
    have hC2 : CI σ c N h η kf ι φ ψ q M2 := ci_seen hC (fun a a1 a2 a3 => (fr2 a a3).trans (fr1 a a1 a2)) (by rw [fr2 51 (by decide)]; exact fj1 0 (by decide))
    have hM2 := hM.congr (M' := M2) (fun a ha => (fr2 a (by omega)).trans (fr1 a (by omega) (by omega)))
    exact ⟨_, rfl, c_listen ho hM2.1 hf hM2.2.2.2.2 (fun M3 r fr3 hr => ⟨by rw [hr.uniq hz], inv_r hC2 hM2 fr3⟩)⟩
  have eg : M1 51 3 = ((whA φ ψ σ q).length : Int) := hg1.1
  have ewl : (whA φ ψ σ q).length ≤ 48 := by unfold whA; omega
  rw [eg]
  refine ⟨by omega, fun y => ?_, fun y => fin M1 (-9) (fun _ _ => rfl) (Or.inl ⟨by omega, rfl⟩)⟩
  have key : ∀ (t f : Nat) (bf le : Int) (T : Nat → Int) (M2 : am_M), (f : Int) + t = σ 0 → 1 ≤ f → (∀ a, a ≠ 55 → M2 a = M1 a) → (∀ g : Nat, g < f → isMA (al φ ψ σ (σ 3) q g (tC σ (σ 3) 8).toNat) (T g)) → isMn T f bf le → AW (d + 10) mX7_listen 42 [(0, .inr 0), (1, .inl bf), (2, .inl le), (3, .inl (f : Int))] [] M2 (fun r1 M1 => ∃ z, r1 = some z ∧ AC (d + 10) mX8_listen [.inr 62] M1 (fun r2 M2 => r2 = some z ∧ INV M2)) := by
    intro t
    induction t with
    | zero =>
      intro f bf le T M2 hft f1 fr2 hT hmn
      have e0 : M2 1 0 = σ 0 := by rw [fr2 1 (by decide), fr1 1 (by decide) (by decide)]; exact hL.1.1
      refine sg_X7_listen_42 ⟨by omega, by omega, fun _ => fin M2 bf fr2 (Or.inr ⟨by omega, T, le, fun g hg => hT g (by omega), ?_⟩), fun z => absurd z (by omega)⟩
      rw [show (σ 0).toNat = f by omega]
      exact hmn
    | succ t ih =>
      intro f bf le T M2 hft f1 fr2 hT hmn
      have e0 : M2 1 0 = σ 0 := by rw [fr2 1 (by decide), fr1 1 (by decide) (by decide)]; exact hL.1.1
      have hL2 : CL M2 σ := hL.congr (fun a ha => (fr2 a (by omega)).trans (fr1 a (by omega) (by omega)))
      have hg2 : CG M2 (cn φ ψ σ (σ 3) q (tC σ (σ 3) 8).toNat) := by
        unfold CG at hg1 ⊢
        rw [fr2 51 (by decide), fr2 54 (by decide)]
        exact hg1
      have hler : -2147483648 ≤ le ∧ le < 2147483648 := by
        obtain ⟨v1, v2, -⟩ := hmn
        have := (hT bf.toNat (by omega)).r
        have hl := al_len (φ := φ) (ψ := ψ) (σ := σ) (re := σ 3) (q := q) (tC σ (σ 3) 8).toNat bf.toNat
        omega
      refine sg_X7_listen_42 ⟨by omega, by omega, fun z => absurd z (by omega), fun _ => k_mostAlike ho hL2 hg2 (by omega) (fun M3 m fr3 hm => ⟨_, rfl, ?_⟩)⟩
      have hmr := hm.r
      have hl := al_len (φ := φ) (ψ := ψ) (σ := σ) (re := σ 3) (q := q) (tC σ (σ 3) 8).toNat f
      have hv2 : isMn (fun g => if g = f then m else T g) f bf le := hmn.ext (fun n hn => if_neg (by omega))
      have hT2 : ∀ g : Nat, g < f + 1 → isMA (al φ ψ σ (σ 3) q g (tC σ (σ 3) 8).toNat) ((fun g => if g = f then m else T g) g) := fun g hg => by
        by_cases hgf : g = f
        · simp only [hgf, if_true]; exact hm
        · simp only [hgf, if_false]; exact hT g (by omega)
      refine ⟨by omega, hler, fun z => ?_, fun z => ?_⟩
      · rw [show (f : Int) + 1 = ((f + 1 : Nat) : Int) by omega]
        exact ih (f + 1) bf le _ M3 (by omega) (by omega) (fun a ha => (fr3 a ha).trans (fr2 a ha)) hT2 (hv2.keep (by rw [if_pos rfl]; exact z))
      · rw [show (f : Int) + 1 = ((f + 1 : Nat) : Int) by omega]
        have hq := hv2.less (by rw [if_pos rfl]; exact z)
        rw [if_pos rfl] at hq
        exact ih (f + 1) f m _ M3 (by omega) (by omega) (fun a ha => (fr3 a ha).trans (fr2 a ha)) hT2 hq
  have hL1 : CL M1 σ := hL.congr (fun a ha => fr1 a (by omega) (by omega))
  refine k_mostAlike (f := 0) ho hL1 hg1 (by omega) (fun M3 m fr3 hm => ⟨_, rfl, ?_⟩)
  refine key ((σ 0).toNat - 1) 1 0 m (fun _ => m) M3 (by omega) (by omega) fr3 (fun g hg => ?_) (isMn.one (fun _ => m))
  have : g = 0 := by omega
  subst this
  exact hm
theorem s_count {d : Nat} {w : Int} (hw : am_r w) : SIM d mX7_count mX8_count [.inl w] := by
  rintro M ⟨σ, c, N, h, η, kf, ι, φ, ψ, q, hC, hM⟩
  obtain ⟨ho, hL, hb, ht, hT, hH, hI, hf, hF⟩ := hC
  have hC : CI σ c N h η kf ι φ ψ q M := ⟨ho, hL, hb, ht, hT, hH, hI, hf, hF⟩
  have fr0 := MR.up0 M 0
  have ref : ∀ z, (w < 0 ∨ 10 < w → z = -1) → (0 ≤ w ∧ w ≤ 4 → z = σ w) → (w = 5 → z = tC σ (σ 3) 8) → (w = 6 → z = kpS σ (σ 3)) → (w = 7 → isLg (fun n => tLN σ (σ 3) 8 (n : Int)) (tC σ (σ 3) 8).toNat z) → (w = 8 → z = q) → (w = 9 → z = N) → (w = 10 → z = h) → AC (d + 10) mX8_count [.inr 62, .inl w] M (fun r2 M2 => r2 = some z ∧ INV M2) := by
    intro z z0 z1 z5 z6 z7 z8 z9 z10
    refine sg_X8_count ⟨hw, fun y => ⟨⟨hw, by decide, by decide⟩, fun y2 => by omega, fun v k1 k2 => ⟨?_, inv_0 hC hM⟩⟩, fun y => sg_X8_tracksNow (c_lays ho (hM.1.r fr0) (fun M1 fr hL1 => ⟨rfl, _, rfl, ?_, inv_r hC hM (fr0.trans fr)⟩)), fun y => c_keptMany ho (hM.1.r fr0) (fun M1 fr fj => ⟨_, rfl, by rw [z6 y], inv_r hC hM (fr0.trans ⟨fr, fun j _ b _ _ => fj j b⟩)⟩), fun y => c_longest ho (hM.1.r fr0) (fun M1 r fr fj hr => ⟨_, rfl, by rw [hr.uniq (z7 y)], inv_r hC hM (fr0.trans ⟨fr, fun j _ b _ _ => fj j b⟩)⟩), fun y => ⟨?_, inv_0 hC hM⟩, fun y => ⟨?_, inv_0 hC hM⟩, fun y => ⟨?_, inv_0 hC hM⟩⟩
    · by_cases hr : 0 ≤ w ∧ w ≤ 4
      · rw [k2 hr, z1 hr, hM.1 w (by omega) (by omega)]
      · rw [k1 hr, z0 (by omega)]
    · rw [z5 y]
      exact congrArg some hL1.2.2.1
    · rw [z8 y]; exact congrArg some hM.2.2.2.2.1
    · rw [z9 y]; exact congrArg some hM.2.1.1
    · rw [z10 y]; exact congrArg some hM.2.2.1.1
  obtain ⟨⟨s0, s1, s2, s3, s4, s5⟩, hPK, hTR⟩ := hL
  have hL : CL M σ := ⟨⟨s0, s1, s2, s3, s4, s5⟩, hPK, hTR⟩
  refine sg_X7_count ⟨hw, fun y => ⟨_, rfl, ref _ (fun _ => rfl) (by omega) (by omega) (by omega) (by omega) (by omega) (by omega) (by omega)⟩, fun y => ⟨_, rfl, ref _ (by omega) (fun _ => by rw [y]; exact s0) (by omega) (by omega) (by omega) (by omega) (by omega) (by omega)⟩, fun y => ⟨_, rfl, ref _ (by omega) (fun _ => by rw [y]; exact s1) (by omega) (by omega) (by omega) (by omega) (by omega) (by omega)⟩, fun y => ⟨_, rfl, ref _ (by omega) (fun _ => by rw [y]; exact s2) (by omega) (by omega) (by omega) (by omega) (by omega) (by omega)⟩, fun y => ⟨_, rfl, ref _ (by omega) (fun _ => by rw [y]; exact s3) (by omega) (by omega) (by omega) (by omega) (by omega) (by omega)⟩, fun y => ⟨_, rfl, ref _ (by omega) (fun _ => by rw [y]; exact s4) (by omega) (by omega) (by omega) (by omega) (by omega) (by omega)⟩, fun y => ⟨_, rfl, ref _ (by omega) (by omega) (fun _ => hTR.1) (by omega) (by omega) (by omega) (by omega) (by omega)⟩, fun y => k_keptTracks ho hL ⟨_, rfl, _, rfl, ref _ (by omega) (by omega) (by omega) (fun _ => rfl) (by omega) (by omega) (by omega) (by omega)⟩, fun y => k_longest hL (fun r hr => ⟨_, rfl, _, rfl, ref _ (by omega) (by omega) (by omega) (by omega) (fun _ => hr) (by omega) (by omega) (by omega)⟩), fun y => ⟨_, rfl, ref _ (by omega) (by omega) (by omega) (by omega) (by omega) (fun _ => hF.1) (by omega) (by omega)⟩, fun y => ⟨_, rfl, ref _ (by omega) (by omega) (by omega) (by omega) (by omega) (by omega) (fun _ => hT.1) (by omega)⟩, fun y => ⟨_, rfl, ref _ (by omega) (by omega) (by omega) (by omega) (by omega) (by omega) (by omega) (fun _ => hH.1.1)⟩⟩
end AS
