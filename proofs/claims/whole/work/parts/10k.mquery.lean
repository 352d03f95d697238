/-! the reference is asked of its tracks -/
section MQ
variable {σ : Int → Int} {re : Int}
def ML (M : am_M) (σ : Int → Int) (re : Int) : Prop := MC σ M ∧ MPK M σ ∧ MTR M σ re
theorem ML.F {M : am_M} (h : ML M σ re) : M 63 0 = σ 0 := h.1 0 (by omega) (by omega)
theorem tP_r (f : Nat) (n : Int) : tP σ re f n = -9 ∨ (0 ≤ tP σ re f n ∧ tP σ re f n < sp_n σ (f : Int)) := by
  by_cases h : tP σ re f n = -9
  · exact Or.inl h
  · obtain ⟨k, h1, h2, -⟩ := tP_some h
    omega
theorem tP_out (ho : sp_ok σ) {f : Nat} (hf : σ 0 ≤ f) (n : Int) : tP σ re f n = -9 := by
  have := tP_r (σ := σ) (re := re) f n
  rw [sp_n_out ho (f := (f : Int)) (by omega)] at this
  omega
theorem tP_in (ho : sp_ok σ) {f : Nat} {n : Int} (h : tP σ re f n ≠ -9) : (f : Int) < σ 0 := by
  by_cases hc : (f : Int) < σ 0
  · exact hc
  · exact absurd (tP_out ho (by omega) n) h
theorem c_peakOf {d : Nat} {M : am_M} {Q : Option Int → am_M → Prop} (ho : sp_ok σ) (hL : ML M σ re) {f : Nat} (hf : (f : Int) < σ 0) {n : Int} (hn : am_r n) (hQ : Q (some (tP σ re f n)) M) : AC d mX8_peakOf [.inr 62, .inl n, .inl (f : Int)] M Q := by
  have h0 := ho.1
  have hnn := sp_n_r σ (f : Int)
  have e70 : M 70 (f : Int) = sp_n σ (f : Int) := hL.2.1.n ⟨by omega, hf⟩
  refine sg_X8_peakOf ?_
  have key : ∀ (t k : Nat), (k : Int) + t = sp_n σ (f : Int) → AW d mX8_peakOf 6 [(0, .inr 62), (1, .inl n), (2, .inl (f : Int)), (3, .inl (tPK σ re f k n)), (4, .inl (k : Int))] [] M Q := by
    intro t
    induction t with
    | zero =>
      intro k hk
      refine sg_X8_peakOf_6 ⟨by omega, by omega, by omega, fun _ => ?_, fun c => absurd c (by omega)⟩
      have e : (sp_n σ (f : Int)).toNat = k := by omega
      unfold tP at hQ
      rw [e] at hQ
      exact hQ
    | succ t ih =>
      intro k hk
      have e73 := (hL.2.2.2 f k hf (by omega)).1
      have htr := tr_r (σ := σ) (re := re) f k (by omega)
      have hC := tC_r (σ := σ) (re := re) (f + 1)
      refine sg_X8_peakOf_6 ⟨by omega, by omega, by omega, fun c => absurd c (by omega), fun _ => ⟨by omega, ⟨by rw [e73]; omega, hn⟩, fun v g1 g2 => ?_⟩⟩
      have ev : v = tPK σ re f (k + 1) n := by
        rw [tPK_succ (by omega)]
        rw [e73] at g1 g2
        by_cases hc : tr σ re f (k : Int) = n
        · rw [if_pos hc]; exact g2 hc
        · rw [if_neg hc]; exact g1 hc
      rw [ev, show (k : Int) + 1 = ((k + 1 : Nat) : Int) by omega]
      exact ih (k + 1) (by omega)
  have := key (sp_n σ (f : Int)).toNat 0 (by omega)
  rw [tPK_0] at this
  exact this
theorem c_bornOf {d : Nat} {M : am_M} {Q : Option Int → am_M → Prop} (ho : sp_ok σ) (hL : ML M σ re) {n : Int} (h0 : 0 ≤ n) (h : n < tC σ re 8) (hQ : Q (some (tB σ re n)) M) : AC (d + 1) mX8_bornOf [.inr 62, .inl n] M Q := by
  obtain ⟨b, hb, eb, hp, hlow⟩ := tB_spec h0 h
  have hbF := tP_in ho hp
  have hC := tC_r (σ := σ) (re := re) 8
  have key : ∀ (t f : Nat), f + t = b → AW (d + 1) mX8_bornOf 2 [(0, .inr 62), (1, .inl n), (2, .inl (f : Int))] [] M Q := by
    intro t
    induction t with
    | zero =>
      intro f hf
      have hf2 : f = b := by omega
      subst hf2
      have hr := tP_r (σ := σ) (re := re) f n
      have hnn := sp_n_r σ (f : Int)
      exact sg_X8_bornOf_2 (c_peakOf ho hL hbF (by omega) ⟨_, rfl, by omega, fun _ => eb ▸ hQ, fun c => absurd c hp⟩)
    | succ t ih =>
      intro f hf
      have e := hlow f (by omega)
      refine sg_X8_bornOf_2 (c_peakOf ho hL (by omega) (by omega) ⟨_, rfl, by omega, fun c => absurd e c, fun _ => ?_⟩)
      rw [show (f : Int) + 1 = ((f + 1 : Nat) : Int) by omega]
      exact ih (f + 1) (by omega)
  exact sg_X8_bornOf (key b 0 (by omega))
theorem tLN_r (n : Int) : ∀ f : Nat, 0 ≤ tLN σ re f n ∧ tLN σ re f n ≤ f
  | 0 => by simp [tLN]
  | f + 1 => by
    have := tLN_r n f
    rw [tLN]
    split <;> omega
theorem tLN_F (ho : sp_ok σ) {f : Nat} (hf : σ 0 ≤ f) (n : Int) : ∀ t : Nat, tLN σ re (f + t) n = tLN σ re f n
  | 0 => rfl
  | t + 1 => by
    rw [show f + (t + 1) = (f + t) + 1 by omega, tLN, tLN_F ho hf n t, if_pos (tP_out ho (by omega) n)]
    omega
theorem tLN_8 (ho : sp_ok σ) {f : Nat} (hf : σ 0 = f) (n : Int) : tLN σ re f n = tLN σ re 8 n := by
  have h0 := ho.1
  have := tLN_F (re := re) ho (f := f) (by omega) n (8 - f)
  rw [show f + (8 - f) = 8 by omega] at this
  exact this.symm
theorem tLL_F (ho : sp_ok σ) {f : Nat} (hf : σ 0 ≤ f) (n : Int) : ∀ t : Nat, tLL σ re (f + t) n = tLL σ re f n
  | 0 => rfl
  | t + 1 => by
    rw [show f + (t + 1) = (f + t) + 1 by omega, tLL, tLL_F ho hf n t, if_pos (tP_out ho (by omega) n)]
    omega
theorem tLL_8 (ho : sp_ok σ) {f : Nat} (hf : σ 0 = f) (n : Int) : tLL σ re f n = tLL σ re 8 n := by
  have h0 := ho.1
  have := tLL_F (re := re) ho (f := f) (by omega) n (8 - f)
  rw [show f + (8 - f) = 8 by omega] at this
  exact this.symm
theorem tLL_r (ho : sp_ok σ) (n : Int) : ∀ f : Nat, 0 ≤ tLL σ re f n ∧ tLL σ re f n ≤ 9 * f
  | 0 => by simp [tLL]
  | f + 1 => by
    have := tLL_r ho n f
    have := sp_l_r ho (f : Int) (tP σ re f n)
    rw [tLL]
    split <;> omega
theorem c_longOf {d : Nat} {M : am_M} {Q : Option Int → am_M → Prop} (ho : sp_ok σ) (hL : ML M σ re) {n : Int} (hn : am_r n) (hQ : Q (some (tLN σ re 8 n)) M) : AC (d + 1) mX8_longOf [.inr 62, .inl n] M Q := by
  have h0 := ho.1
  have eF := hL.F
  have key : ∀ (t f : Nat), (f : Int) + t = σ 0 → AW (d + 1) mX8_longOf 4 [(0, .inr 62), (1, .inl n), (2, .inl (tLN σ re f n)), (3, .inl (f : Int))] [] M Q := by
    intro t
    induction t with
    | zero =>
      intro f hf
      refine sg_X8_longOf_4 ⟨by omega, by omega, fun _ => ?_, fun c => absurd c (by omega)⟩
      rw [tLN_8 ho (by omega) n]
      exact hQ
    | succ t ih =>
      intro f hf
      have hr := tP_r (σ := σ) (re := re) f n
      have hnn := sp_n_r σ (f : Int)
      refine sg_X8_longOf_4 ⟨by omega, by omega, fun c => absurd c (by omega), fun _ => c_peakOf ho hL (by omega) hn ⟨_, rfl, by omega, ?_⟩⟩
      have e : tLN σ re f n + am_b (tP σ re f n ≠ -9) = tLN σ re (f + 1) n := by
        rw [tLN]
        by_cases hc : tP σ re f n = -9
        · rw [am_b_neg (fun k => k hc), if_pos hc]
        · rw [am_b_pos hc, if_neg hc]
      rw [e, show (f : Int) + 1 = ((f + 1 : Nat) : Int) by omega]
      exact ih (f + 1) (by omega)
  exact sg_X8_longOf (key (σ 0).toNat 0 (by omega))
theorem tPI_some {f : Nat} {n : Int} (h : tP σ re f n ≠ -9) : tPI σ re f n = sp_t σ (f : Int) (tP σ re f n) := if_neg h
theorem c_pitchIn {d : Nat} {M : am_M} {Q : Option Int → am_M → Prop} (ho : sp_ok σ) (hL : ML M σ re) {f : Nat} (hf : f < 8) {n : Int} (hn : am_r n) (hQ : Q (some (tPI σ re f n)) M) : AC (d + 3) mX8_pitchIn [.inr 62, .inl n, .inl (f : Int)] M Q := by
  have h0 := ho.1
  have eF := hL.F
  have hr := tP_r (σ := σ) (re := re) f n
  have hnn := sp_n_r σ (f : Int)
  refine sg_X8_pitchIn ⟨by omega, by omega, fun c => ⟨fun k => absurd rfl k, fun v g1 g2 => ?_⟩, fun c => c_peakOf ho hL (by omega) hn ⟨_, rfl, ⟨by omega, fun k => hL.2.1.ptok hL.1 ho (by omega) (by omega)⟩, fun v g1 g2 => ?_⟩⟩
  · have e := tP_out (re := re) ho (f := f) (by omega) n
    rw [g2 rfl]
    unfold tPI at hQ
    rw [if_pos e] at hQ
    exact hQ
  · by_cases hc : tP σ re f n = -9
    · rw [g2 hc]
      unfold tPI at hQ
      rw [if_pos hc] at hQ
      exact hQ
    · rw [g1 hc, hL.2.1.pt hL.1 ho (by omega) (by omega), ← tPI_some hc]
      exact hQ
theorem c_depthOf {d : Nat} {M : am_M} {Q : Option Int → am_M → Prop} (ho : sp_ok σ) (hL : ML M σ re) {n : Int} (hn0 : 0 ≤ n) (hn : n < tC σ re 8) (hQ : Q (some (tD σ re n)) M) : AC (d + 3) mX8_depthOf [.inr 62, .inl n] M Q := by
  have h0 := ho.1
  have eF := hL.F
  have hC := tC_r (σ := σ) (re := re) 8
  obtain ⟨b, e, eb, eN, eE, hbe, hq, hqe⟩ := tq_r ho hn0 hn
  obtain ⟨b', e', eb', eN', hpos, hbe', hpr⟩ := tr_span (σ := σ) (re := re) hn0 hn
  have hbb : b' = b := by omega
  have hee : e' = e + 1 := by omega
  subst hbb hee
  have hlast : ((b' + e : Nat) : Int) < σ 0 := tP_in ho ((hpr (b' + e) (by omega)).mpr ⟨by omega, by omega⟩)
  have hmr := ms_r (tq σ re n) hq
  have key : ∀ (t f : Nat) (le mo : Int), (f : Int) + t = σ 0 → ((f ≤ b' ∧ le = 1000 ∧ mo = -1000) ∨ (b' < f ∧ le = ms_lw (tq σ re n) (min (f - b' - 1) e) ∧ mo = ms_hg (tq σ re n) (min (f - b' - 1) e))) → AW (d + 3) mX8_depthOf 11 [(0, .inr 62), (1, .inl n), (2, .inl le), (3, .inl mo), (4, .inl (f : Int))] [] M Q := by
    intro t
    induction t with
    | zero =>
      intro f le mo hf hv
      refine sg_X8_depthOf_11 ⟨by omega, by omega, fun _ => ?_, fun c => absurd c (by omega)⟩
      rcases hv with hv | ⟨h1, h2, h3⟩
      · omega
      · have : min (f - b' - 1) e = e := by omega
        rw [this] at h2 h3
        unfold tD at hQ
        rw [eE, ← h2, ← h3] at hQ
        exact hQ
    | succ t ih =>
      intro f le mo hf hv
      have hr := tP_r (σ := σ) (re := re) f n
      have hnn := sp_n_r σ (f : Int)
      have hp := hpr f (by omega)
      refine sg_X8_depthOf_11 ⟨by omega, by omega, fun c => absurd c (by omega), fun _ => c_peakOf ho hL (by omega) (by omega) ⟨_, rfl, by omega, fun hc => ?_, fun hc => ?_⟩⟩
      · rw [show (f : Int) + 1 = ((f + 1 : Nat) : Int) by omega]
        have hnp : ¬ (b' ≤ f ∧ f < b' + (e + 1)) := fun k => (hp.mpr k) hc
        refine ih (f + 1) _ _ (by omega) ?_
        rcases hv with hv | ⟨h1, h2, h3⟩
        · exact Or.inl ⟨by omega, hv.2⟩
        · refine Or.inr ⟨by omega, ?_, ?_⟩
          · rw [show min (f + 1 - b' - 1) e = min (f - b' - 1) e by omega]; exact h2
          · rw [show min (f + 1 - b' - 1) e = min (f - b' - 1) e by omega]; exact h3
      · have hin := hp.mp hc
        have ept : am_pt (M 63) (M 71) (f : Int) (tP σ re f n) = tq σ re n (f - b') := by
          rw [hL.2.1.pt hL.1 ho (by omega) (by omega), hqe, show b' + (f - b') = f by omega, tPI_some hc]
        have hqr := hq (f - b') (by omega)
        rw [ept]
        rcases hv with hv | ⟨h1, h2, h3⟩
        · have hfb : f - b' = 0 := by omega
          rw [hfb] at hqr ⊢
          refine ⟨hL.2.1.ptok hL.1 ho (by omega) (by omega), ⟨by omega, by omega⟩, fun v g1 g2 => ⟨⟨by omega, by omega⟩, fun w g3 g4 => ?_⟩⟩
          rw [show (f : Int) + 1 = ((f + 1 : Nat) : Int) by omega]
          refine ih (f + 1) _ _ (by omega) (Or.inr ⟨by omega, ?_, ?_⟩)
          · rw [show min (f + 1 - b' - 1) e = 0 by omega, ms_lw]; omega
          · rw [show min (f + 1 - b' - 1) e = 0 by omega, ms_hg]; omega
        · have hm := hmr (min (f - b' - 1) e) (by omega)
          rw [← h2, ← h3] at hm
          refine ⟨hL.2.1.ptok hL.1 ho (by omega) (by omega), ⟨by omega, by omega⟩, fun v g1 g2 => ⟨⟨by omega, by omega⟩, fun w g3 g4 => ?_⟩⟩
          rw [show (f : Int) + 1 = ((f + 1 : Nat) : Int) by omega]
          have h5 : f - b' = (f - b' - 1) + 1 := by omega
          have h6 : min (f - b' - 1) e = f - b' - 1 := by omega
          rw [h6] at h2 h3
          rw [h5] at g1 g2 g3 g4
          refine ih (f + 1) _ _ (by omega) (Or.inr ⟨by omega, ?_, ?_⟩)
          · rw [show min (f + 1 - b' - 1) e = (f - b' - 1) + 1 by omega, ms_lw]; omega
          · rw [show min (f + 1 - b' - 1) e = (f - b' - 1) + 1 by omega, ms_hg]; omega
  exact sg_X8_depthOf (key (σ 0).toNat 0 _ _ (by omega) (Or.inl ⟨by omega, rfl, rfl⟩))
end MQ
