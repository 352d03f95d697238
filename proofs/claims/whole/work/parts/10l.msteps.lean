/-! the reference: steps, kinds, worths, sums -/
section MS
variable {σ : Int → Int} {re : Int}
/-- what asking of steps leaves as it was -/
def MQf (M M' : am_M) : Prop := (∀ c, c ≠ 62 → M' c = M c) ∧ (∀ j, j ≠ 21 → j ≠ 22 → M' 62 j = M 62 j)
theorem MQf.refl (M : am_M) : MQf M M := ⟨fun _ _ => rfl, fun _ _ _ => rfl⟩
theorem MQf.trans {M M' M2 : am_M} (h : MQf M M') (h2 : MQf M' M2) : MQf M M2 := ⟨fun c hc => (h2.1 c hc).trans (h.1 c hc), fun j a b => (h2.2 j a b).trans (h.2 j a b)⟩
theorem ML.fr {M M' : am_M} (h : ML M σ re) (f : MQf M M') : ML M' σ re := by
  refine ⟨h.1.congr (f.1 63 (by decide)), h.2.1.congr (f.1 70 (by decide)) (f.1 71 (by decide)), ?_, ?_⟩
  · rw [f.2 19 (by decide) (by decide)]; exact h.2.2.1
  · rw [f.1 73 (by decide), f.1 72 (by decide)]; exact h.2.2.2
theorem c_laysSteps {d : Nat} {M : am_M} {Q : Option Int → am_M → Prop} (ho : sp_ok σ) (hL : ML M σ re) {n : Int} (hn0 : 0 ≤ n) (hn : n < tC σ re 8) (hQ : ∀ M', MQf M M' → M' 62 21 = tM σ re n → M' 62 22 = tT σ re n → Q none M') : AC (d + 3) mX8_laysSteps [.inr 62, .inl n] M Q := by
  have h0 := ho.1
  have hC := tC_r (σ := σ) (re := re) 8
  obtain ⟨b, e, eb, eN, eE, hbe, hq, hqe⟩ := tq_r ho hn0 hn
  obtain ⟨b', e', eb', eN', hpos, hbe', hpr⟩ := tr_span (σ := σ) (re := re) hn0 hn
  have hbb : b' = b := by omega
  have hee : e' = e + 1 := by omega
  subst hbb hee
  have hmr := ms_r (tq σ re n) hq
  have key : ∀ (t m : Nat) (M' : am_M), m + t = e → MQf M M' → M' 62 21 = ms_mo (tq σ re n) m → M' 62 22 = ms_tu (tq σ re n) m → AW (d + 3) mX8_laysSteps 32 [(0, .inr 62), (1, .inl n), (3, .inl ((b' + e : Nat) : Int)), (4, .inl (ms_la (tq σ re n) m)), (5, .inl ((b' + m : Nat) : Int))] [] M' Q := by
    intro t
    induction t with
    | zero =>
      intro m M' hm fr e1 e2
      have hme : m = e := by omega
      subst hme
      refine sg_X8_laysSteps_32 ⟨by omega, by omega, fun _ => hQ M' fr ?_ ?_, fun c => absurd c (by omega)⟩
      · unfold tM; rw [eE]; exact e1
      · unfold tT; rw [eE]; exact e2
    | succ t ih =>
      intro m M' hm fr e1 e2
      have hL' := hL.fr fr
      have p1 := (hpr (b' + m + 1) (by omega)).mpr ⟨by omega, by omega⟩
      have p0 := (hpr (b' + m) (by omega)).mpr ⟨by omega, by omega⟩
      have f1 := tP_in ho p1
      have f0 := tP_in ho p0
      have r1 := tP_r (σ := σ) (re := re) (b' + m + 1) n
      have r0 := tP_r (σ := σ) (re := re) (b' + m) n
      have q1 := hq (m + 1) (by omega)
      have q0 := hq m (by omega)
      have k1 := hqe (m + 1)
      have k0 := hqe m
      rw [show b' + (m + 1) = b' + m + 1 by omega, tPI_some p1] at k1
      rw [tPI_some p0] at k0
      have hla := hmr m (by omega)
      refine sg_X8_laysSteps_32 ⟨by omega, by omega, fun c => absurd c (by omega), fun _ => ?_⟩
      rw [show ((b' + m : Nat) : Int) + 1 = ((b' + m + 1 : Nat) : Int) by omega]
      refine c_peakOf ho hL' f1 (by omega) ⟨_, rfl, hL'.2.1.ptok hL'.1 ho (by omega) (by omega), ?_⟩
      refine c_peakOf ho hL' f0 (by omega) ⟨_, rfl, hL'.2.1.ptok hL'.1 ho (by omega) (by omega), ?_⟩
      rw [hL'.2.1.pt hL'.1 ho (f := ((b' + m + 1 : Nat) : Int)) (by omega) (by omega), hL'.2.1.pt hL'.1 ho (f := ((b' + m : Nat) : Int)) (by omega) (by omega), ← k1, ← k0]
      refine ⟨by omega, fun c => ?_, fun c v g1 g2 => ⟨by omega, ?_⟩⟩
      · have ec : am_cmp (tq σ re n (m + 1)) (tq σ re n m) = 0 := by unfold am_cmp; rw [if_neg (by omega), if_pos (by omega)]
        have := ih (m + 1) M' (by omega) fr (by rw [ms_mo, if_pos ec, e1]; omega) (by rw [ms_tu, if_neg (fun z => z.1 ec), e2]; omega)
        rw [ms_la, if_pos ec] at this
        exact this
      · have ec : am_cmp (tq σ re n (m + 1)) (tq σ re n m) = v := by
          unfold am_cmp
          by_cases hlt : tq σ re n (m + 1) < tq σ re n m
          · rw [if_pos hlt]; omega
          · rw [if_neg hlt, if_neg (by omega)]; omega
        have hv0 : v ≠ 0 := by omega
        have := ih (m + 1) (am_up (am_up M' 62 22 (M' 62 22 + am_b (v + ms_la (tq σ re n) m = 0))) 62 21 (M' 62 21 + 1)) (by omega) (fr.trans ⟨fun c hc => by rw [am_up_ne _ _ _ _ _ hc, am_up_ne _ _ _ _ _ hc], fun j a b => by rw [am_up_idx _ _ a, am_up_idx _ _ b]⟩) ?_ ?_
        · rw [ms_la, if_neg (by omega), ec] at this
          exact this
        · rw [am_up_same, ms_mo, if_neg (by omega), e1]
        · rw [am_up_idx _ _ (by omega), am_up_same, ms_tu, e2]
          by_cases hz : v + ms_la (tq σ re n) m = 0
          · rw [am_b_pos hz, if_pos ⟨by omega, by omega⟩]
          · rw [am_b_neg hz, if_neg (fun z => hz (by omega))]
  refine sg_X8_laysSteps (c_bornOf ho hL hn0 hn ⟨_, rfl, c_longOf ho hL (by omega) ⟨_, rfl, ?_⟩⟩)
  have := key e 0 (am_up (am_up M 62 21 0) 62 22 0) (by omega) ⟨fun c hc => by rw [am_up_ne _ _ _ _ _ hc, am_up_ne _ _ _ _ _ hc], fun j a b => by rw [am_up_idx _ _ b, am_up_idx _ _ a]⟩ (by rw [am_up_idx _ _ (by omega), am_up_same, ms_mo]) (by rw [am_up_same, ms_tu])
  rw [eb, eN]
  rw [show (b' : Int) + ((e : Int) + 1) - 1 = ((b' + e : Nat) : Int) by omega]
  exact this
theorem tD_r (ho : sp_ok σ) {n : Int} (hn0 : 0 ≤ n) (hn : n < tC σ re 8) : (-46 ≤ tD σ re n ∧ tD σ re n ≤ 46) ∧ (0 ≤ tT σ re n ∧ tT σ re n ≤ 8) ∧ (0 ≤ tM σ re n ∧ tM σ re n ≤ 8) := by
  obtain ⟨b, e, eb, eN, eE, hbe, hq, hqe⟩ := tq_r ho hn0 hn
  have hm := ms_r (tq σ re n) hq e (by omega)
  unfold tD tT tM
  rw [eE]
  omega
theorem tK_r (n : Int) : 0 ≤ tK σ re n ∧ tK σ re n ≤ 3 := by
  unfold tK am_kb
  (repeat' split) <;> omega
theorem c_turnsOf {d : Nat} {M : am_M} {Q : Option Int → am_M → Prop} (ho : sp_ok σ) (hL : ML M σ re) {n : Int} (hn0 : 0 ≤ n) (hn : n < tC σ re 8) (hQ : ∀ M', MQf M M' → Q (some (tT σ re n)) M') : AC (d + 4) mX8_turnsOf [.inr 62, .inl n] M Q := by
  refine sg_X8_turnsOf (c_laysSteps ho hL hn0 hn (fun M' fr e1 e2 => ⟨rfl, ?_⟩))
  rw [e2]
  exact hQ M' fr
theorem c_kindOf {d : Nat} {M : am_M} {Q : Option Int → am_M → Prop} (ho : sp_ok σ) (hL : ML M σ re) {n : Int} (hn0 : 0 ≤ n) (hn : n < tC σ re 8) (hQ : ∀ M', MQf M M' → Q (some (tK σ re n)) M') : AC (d + 4) mX8_kindOf [.inr 62, .inl n] M Q := by
  have hr := tD_r (σ := σ) (re := re) ho hn0 hn
  refine sg_X8_kindOf (c_depthOf ho hL hn0 hn ⟨_, rfl, by omega, fun hc => ?_, fun hc => ?_⟩)
  · refine c_laysSteps ho hL hn0 hn (fun M' fr e1 e2 => ⟨rfl, ?_⟩)
    rw [e1, e2]
    refine ⟨⟨by omega, fun _ => ⟨by omega, by omega⟩⟩, fun v g1 g2 g3 => ?_⟩
    have hv : v = tK σ re n := by
      unfold tK am_kb
      rw [if_neg (by omega)]
      by_cases hz : tT σ re n = 0
      · rw [if_pos hz]; exact g3 hz
      · rw [if_neg hz]
        by_cases hm : tM σ re n ≤ 2 * tT σ re n
        · rw [if_pos hm]; exact g2 hz hm
        · rw [if_neg hm]; exact g1 hz (by omega)
    rw [hv]
    exact hQ M' fr
  · have hv : (0 : Int) = tK σ re n := by
      unfold tK am_kb
      rw [if_pos hc]
    rw [hv]
    exact hQ M (MQf.refl M)
theorem c_worthOfTrack {d : Nat} {M : am_M} {Q : Option Int → am_M → Prop} (ho : sp_ok σ) (hL : ML M σ re) {n : Int} (hn0 : 0 ≤ n) (hn : n < tC σ re 8) (hQ : ∀ M', MQf M M' → Q (some (tLL σ re 8 n * (tK σ re n + 1) - tD σ re n)) M') : AC (d + 5) mX8_worthOfTrack [.inr 62, .inl n] M Q := by
  have h0 := ho.1
  have eF := hL.F
  have hC := tC_r (σ := σ) (re := re) 8
  have key : ∀ (t f : Nat), (f : Int) + t = σ 0 → AW (d + 5) mX8_worthOfTrack 4 [(0, .inr 62), (1, .inl n), (2, .inl (tLL σ re f n)), (3, .inl (f : Int))] [] M Q := by
    intro t
    induction t with
    | zero =>
      intro f hf
      refine sg_X8_worthOfTrack_4 ⟨by omega, by omega, fun _ => ?_, fun c => absurd c (by omega)⟩
      rw [tLL_8 ho (by omega) n]
      exact c_kindOf ho hL hn0 hn (fun M' fr => ⟨_, rfl, c_depthOf ho (hL.fr fr) hn0 hn ⟨_, rfl, hQ M' fr⟩⟩)
    | succ t ih =>
      intro f hf
      have hr := tP_r (σ := σ) (re := re) f n
      have hnn := sp_n_r σ (f : Int)
      refine sg_X8_worthOfTrack_4 ⟨by omega, by omega, fun c => absurd c (by omega), fun _ => c_peakOf ho hL (by omega) (by omega) ⟨_, rfl, ⟨by omega, fun k => (hL.2.1.lo hL.1 ho (by omega) (by omega)).2⟩, fun v g1 g2 => ?_⟩⟩
      have e : tLL σ re f n + v = tLL σ re (f + 1) n := by
        rw [tLL]
        by_cases hc : tP σ re f n = -9
        · rw [if_pos hc, g2 hc]
        · rw [if_neg hc, g1 hc, (hL.2.1.lo hL.1 ho (by omega) (by omega)).1]
      rw [e, show (f : Int) + 1 = ((f + 1 : Nat) : Int) by omega]
      exact ih (f + 1) (by omega)
  exact sg_X8_worthOfTrack (key (σ 0).toNat 0 (by omega))
/-- sums -/
def sm (p : Nat → Int) : Nat → Int
  | 0 => 0
  | k + 1 => sm p k + p k
theorem sm_b_r (P : Nat → Prop) (dec : ∀ n, Decidable (P n)) : ∀ k : Nat, 0 ≤ sm (fun n => am_b (P n)) k ∧ sm (fun n => am_b (P n)) k ≤ k
  | 0 => by simp [sm]
  | k + 1 => by
    have h1 := sm_b_r P dec k
    have h2 := am_b_01 (P k)
    rw [sm]
    omega
theorem sm_congr {p q : Nat → Int} : ∀ {k : Nat}, (∀ n, n < k → p n = q n) → sm p k = sm q k
  | 0, _ => rfl
  | k + 1, h => by
    rw [sm, sm, sm_congr (fun n hn => h n (by omega)), h k (by omega)]
/-- how loud the peaks of a frame are together, those of kept tracks or the others -/
def loS (σ : Int → Int) (re : Int) (f : Nat) (ok : Int) : Int := sm (fun k => if am_b (σ 4 ≤ tLN σ re 8 (tr σ re f (k : Int))) = ok then sp_l σ (f : Int) (k : Int) else 0) (sp_n σ (f : Int)).toNat
def bnS (σ : Int → Int) (re : Int) (f : Int) : Int := sm (fun n => am_b (tB σ re (n : Int) = f)) (tC σ re 8).toNat
def enS (σ : Int → Int) (re : Int) (f : Int) : Int := sm (fun n => am_b (tB σ re (n : Int) + tLN σ re 8 (n : Int) - 1 = f)) (tC σ re 8).toNat
def kpS (σ : Int → Int) (re : Int) : Int := sm (fun n => am_b (σ 4 ≤ tLN σ re 8 (n : Int))) (tC σ re 8).toNat
theorem c_sumOf {d : Nat} {M : am_M} {Q : Option Int → am_M → Prop} (ho : sp_ok σ) (hL : ML M σ re) {f : Nat} (hf : (f : Int) < σ 0) {ok : Int} (hok : ok = 0 ∨ ok = 1) (hQ : Q (some (loS σ re f ok)) M) : AC (d + 3) mX8_sumOf [.inr 62, .inl (f : Int), .inl ok] M Q := by
  have h0 := ho.1
  have h4 := ho.2.2.2.2.1
  have hnn := sp_n_r σ (f : Int)
  have e4 : M 63 4 = σ 4 := hL.1 4 (by omega) (by omega)
  have e70 : M 70 (f : Int) = sp_n σ (f : Int) := hL.2.1.n ⟨by omega, hf⟩
  have key : ∀ (t k : Nat), (k : Int) + t = sp_n σ (f : Int) → AW (d + 3) mX8_sumOf 5 [(0, .inr 62), (1, .inl (f : Int)), (2, .inl ok), (3, .inl (sm (fun k => if am_b (σ 4 ≤ tLN σ re 8 (tr σ re f (k : Int))) = ok then sp_l σ (f : Int) (k : Int) else 0) k)), (4, .inl (k : Int))] [] M Q := by
    intro t
    induction t with
    | zero =>
      intro k hk
      refine sg_X8_sumOf_5 ⟨by omega, by omega, by omega, fun _ => ?_, fun c => absurd c (by omega)⟩
      have e : (sp_n σ (f : Int)).toNat = k := by omega
      unfold loS at hQ
      rw [e] at hQ
      exact hQ
    | succ t ih =>
      intro k hk
      have e73 := (hL.2.2.2 f k hf (by omega)).1
      have htr := tr_r (σ := σ) (re := re) f k (by omega)
      have hC := tC_r (σ := σ) (re := re) (f + 1)
      have hln := tLN_r (σ := σ) (re := re) (tr σ re f (k : Int)) 8
      have hlo := hL.2.1.lo hL.1 ho (f := (f : Int)) (k := (k : Int)) (by omega) (by omega)
      refine sg_X8_sumOf_5 ⟨by omega, by omega, by omega, fun c => absurd c (by omega), fun _ => ⟨by omega, ?_⟩⟩
      rw [e73]
      refine c_longOf ho hL (by omega) ⟨_, rfl, ?_⟩
      rw [e4]
      refine ⟨⟨by omega, by omega⟩, ⟨by omega, fun _ => hlo.2⟩, fun v g1 g2 => ?_⟩
      rw [show (k : Int) + 1 = ((k + 1 : Nat) : Int) by omega]
      have := ih (k + 1) (by omega)
      rw [sm] at this
      have ev : v = if am_b (σ 4 ≤ tLN σ re 8 (tr σ re f (k : Int))) = ok then sp_l σ (f : Int) (k : Int) else 0 := by
        by_cases hc : am_b (σ 4 ≤ tLN σ re 8 (tr σ re f (k : Int))) = ok
        · rw [if_pos hc, g2 hc, hlo.1]
        · rw [if_neg hc, g1 hc]
      rw [ev]
      exact this
  exact sg_X8_sumOf (key (sp_n σ (f : Int)).toNat 0 (by omega))
theorem c_bornIn0 {d : Nat} {M : am_M} {Q : Option Int → am_M → Prop} (ho : sp_ok σ) (hL : ML M σ re) {f : Int} (hf : am_r f) (hQ : Q (some (bnS σ re f)) M) : AC (d + 2) mX8_bornIn [.inr 62, .inl f, .inl 0] M Q := by
  have hC := tC_r (σ := σ) (re := re) 8
  have eC : M 62 19 = tC σ re 8 := hL.2.2.1
  have key : ∀ (t n : Nat), (n : Int) + t = tC σ re 8 → AW (d + 2) mX8_bornIn 5 [(0, .inr 62), (1, .inl f), (2, .inl 0), (3, .inl (sm (fun n => am_b (tB σ re (n : Int) = f)) n)), (4, .inl (n : Int))] [] M Q := by
    intro t
    induction t with
    | zero =>
      intro n hn
      refine sg_X8_bornIn_5 ⟨by omega, by omega, fun _ => ?_, fun c => absurd c (by omega)⟩
      have e : (tC σ re 8).toNat = n := by omega
      unfold bnS at hQ
      rw [e] at hQ
      exact hQ
    | succ t ih =>
      intro n hn
      obtain ⟨b, hb, eb, -, -⟩ := tB_spec (σ := σ) (re := re) (n := (n : Int)) (by omega) (by omega)
      refine sg_X8_bornIn_5 ⟨by omega, by omega, fun c => absurd c (by omega), fun _ => c_bornOf ho hL (by omega) (by omega) ⟨_, rfl, by decide, fun _ => ⟨⟨by omega, hf⟩, ?_⟩, fun c => absurd rfl c⟩⟩
      have := ih (n + 1) (by omega)
      rw [sm] at this
      rw [show (n : Int) + 1 = ((n + 1 : Nat) : Int) by omega, Int.add_zero]
      exact this
  exact sg_X8_bornIn (key (tC σ re 8).toNat 0 (by omega))
theorem c_bornIn1 {d : Nat} {M : am_M} {Q : Option Int → am_M → Prop} (ho : sp_ok σ) (hL : ML M σ re) {f : Int} (hf : am_r f) (hQ : Q (some (enS σ re f)) M) : AC (d + 2) mX8_bornIn [.inr 62, .inl f, .inl 1] M Q := by
  have hC := tC_r (σ := σ) (re := re) 8
  have eC : M 62 19 = tC σ re 8 := hL.2.2.1
  have key : ∀ (t n : Nat), (n : Int) + t = tC σ re 8 → AW (d + 2) mX8_bornIn 5 [(0, .inr 62), (1, .inl f), (2, .inl 1), (3, .inl (sm (fun n => am_b (tB σ re (n : Int) + tLN σ re 8 (n : Int) - 1 = f)) n)), (4, .inl (n : Int))] [] M Q := by
    intro t
    induction t with
    | zero =>
      intro n hn
      refine sg_X8_bornIn_5 ⟨by omega, by omega, fun _ => ?_, fun c => absurd c (by omega)⟩
      have e : (tC σ re 8).toNat = n := by omega
      unfold enS at hQ
      rw [e] at hQ
      exact hQ
    | succ t ih =>
      intro n hn
      obtain ⟨b, hb, eb, -, -⟩ := tB_spec (σ := σ) (re := re) (n := (n : Int)) (by omega) (by omega)
      have hln := tLN_r (σ := σ) (re := re) (n : Int) 8
      refine sg_X8_bornIn_5 ⟨by omega, by omega, fun c => absurd c (by omega), fun _ => c_bornOf ho hL (by omega) (by omega) ⟨_, rfl, by decide, fun c => absurd c (by decide), fun _ => c_longOf ho hL (by omega) ⟨_, rfl, ⟨by omega, hf⟩, ?_⟩⟩⟩
      have := ih (n + 1) (by omega)
      rw [sm] at this
      rw [show (n : Int) + 1 = ((n + 1 : Nat) : Int) by omega, am_b_congr (show tB σ re (n : Int) + (tLN σ re 8 (n : Int) - 1) = f ↔ tB σ re (n : Int) + tLN σ re 8 (n : Int) - 1 = f by omega)]
      exact this
  exact sg_X8_bornIn (key (tC σ re 8).toNat 0 (by omega))
theorem c_keptMany {d : Nat} {M : am_M} {Q : Option Int → am_M → Prop} (ho : sp_ok σ) (hs : MC σ M) (hQ : ∀ M', (∀ c, c < 62 ∨ (62 < c ∧ c < 70) ∨ 74 < c → M' c = M c) → (∀ j, j ≠ 19 → M' 62 j = M 62 j) → Q (some (kpS σ (σ 3))) M') : AC (d + 9) mX8_keptMany [.inr 62] M Q := by
  have e3 : M 63 3 = σ 3 := hs 3 (by omega) (by omega)
  have h4 := ho.2.2.2.2.1
  refine sg_X8_keptMany (sg_X8_lays ?_)
  rw [e3]
  refine c_laysTracks ho hs ho.2.2.2.1 (fun M1 fr fj hp ht => ⟨rfl, rfl, ?_⟩)
  have hL : ML M1 σ (σ 3) := ⟨hs.congr (fr 63 (by omega)), hp, ht⟩
  have hC := tC_r (σ := σ) (re := σ 3) 8
  have eC : M1 62 19 = tC σ (σ 3) 8 := ht.1
  have e4 : M1 63 4 = σ 4 := hL.1 4 (by omega) (by omega)
  have key : ∀ (t n : Nat), (n : Int) + t = tC σ (σ 3) 8 → AW (d + 9) mX8_keptMany 8 [(0, .inr 62), (1, .inl (sm (fun n => am_b (σ 4 ≤ tLN σ (σ 3) 8 (n : Int))) n)), (2, .inl (n : Int))] [] M1 Q := by
    intro t
    induction t with
    | zero =>
      intro n hn
      refine sg_X8_keptMany_8 ⟨by omega, by omega, fun _ => ?_, fun c => absurd c (by omega)⟩
      have e : (tC σ (σ 3) 8).toNat = n := by omega
      have hq := hQ M1 fr fj
      unfold kpS at hq
      rw [e] at hq
      exact hq
    | succ t ih =>
      intro n hn
      have hln := tLN_r (σ := σ) (re := σ 3) (n : Int) 8
      refine sg_X8_keptMany_8 ⟨by omega, by omega, fun c => absurd c (by omega), fun _ => c_longOf ho hL (by omega) ⟨_, rfl, ⟨by omega, by omega⟩, ?_⟩⟩
      have := ih (n + 1) (by omega)
      rw [sm] at this
      rw [show (n : Int) + 1 = ((n + 1 : Nat) : Int) by omega, e4]
      exact this
  exact key (tC σ (σ 3) 8).toNat 0 (by omega)
/-- the first of the longest -/
def isLg (len : Nat → Int) (N : Nat) (r : Int) : Prop := (N = 0 ∧ r = -9) ∨ (0 ≤ r ∧ r < N ∧ ∀ n : Nat, n < N → len n ≤ len r.toNat ∧ ((n : Int) < r → len n < len r.toNat))
theorem isLg.uniq {len : Nat → Int} {N : Nat} {r s : Int} (h : isLg len N r) (g : isLg len N s) : r = s := by
  rcases h with h | ⟨h1, h2, h3⟩
  · rcases g with g | g <;> omega
  · rcases g with g | ⟨g1, g2, g3⟩
    · omega
    · have a := h3 s.toNat (by omega)
      have b := g3 r.toNat (by omega)
      omega
theorem c_longest {d : Nat} {M : am_M} {Q : Option Int → am_M → Prop} (ho : sp_ok σ) (hs : MC σ M) (hQ : ∀ M' r, (∀ c, c < 62 ∨ (62 < c ∧ c < 70) ∨ 74 < c → M' c = M c) → (∀ j, j ≠ 19 → M' 62 j = M 62 j) → isLg (fun n => tLN σ (σ 3) 8 (n : Int)) (tC σ (σ 3) 8).toNat r → Q (some r) M') : AC (d + 9) mX8_longest [.inr 62] M Q := by
  have e3 : M 63 3 = σ 3 := hs 3 (by omega) (by omega)
  refine sg_X8_longest (sg_X8_lays ?_)
  rw [e3]
  refine c_laysTracks ho hs ho.2.2.2.1 (fun M1 fr fj hp ht => ⟨rfl, rfl, ?_⟩)
  have hL : ML M1 σ (σ 3) := ⟨hs.congr (fr 63 (by omega)), hp, ht⟩
  have hC := tC_r (σ := σ) (re := σ 3) 8
  have eC : M1 62 19 = tC σ (σ 3) 8 := ht.1
  have key : ∀ (n : Nat) (fd : Int), (n : Int) ≤ tC σ (σ 3) 8 → (((n : Int) = tC σ (σ 3) 8 ∧ fd = -9) ∨ ((n : Int) ≤ fd ∧ fd < tC σ (σ 3) 8 ∧ ∀ m : Nat, (n : Int) ≤ m → (m : Int) < tC σ (σ 3) 8 → tLN σ (σ 3) 8 (m : Int) ≤ tLN σ (σ 3) 8 fd ∧ ((m : Int) < fd → tLN σ (σ 3) 8 (m : Int) < tLN σ (σ 3) 8 fd))) → AW (d + 9) mX8_longest 14 [(0, .inr 62), (1, .inl fd), (2, .inl ((n : Int) - 1))] [] M1 Q := by
    intro n
    induction n with
    | zero =>
      intro fd hn hv
      refine sg_X8_longest_14 ⟨by omega, fun _ => hQ M1 fd fr fj ?_, fun c => absurd c (by omega)⟩
      rcases hv with hv | ⟨h1, h2, h3⟩
      · exact Or.inl ⟨by omega, hv.2⟩
      · refine Or.inr ⟨by omega, by omega, fun m hm => ?_⟩
        have := h3 m (by omega) (by omega)
        dsimp only
        rw [show ((fd.toNat : Nat) : Int) = fd by omega]
        exact this
    | succ n ih =>
      intro fd hn hv
      have e1 : ((n + 1 : Nat) : Int) - 1 = n := by omega
      rw [e1]
      have hln := tLN_r (σ := σ) (re := σ 3) (n : Int) 8
      have hlf := tLN_r (σ := σ) (re := σ 3) fd 8
      refine sg_X8_longest_14 ⟨by omega, fun c => absurd c (by omega), fun _ => ⟨by omega, fun c => ?_, fun c => ?_⟩⟩
      · refine ih n (by omega) (Or.inr ⟨by omega, by omega, fun m hm hm2 => ?_⟩)
        have : m = n := by omega
        subst this
        exact ⟨Int.le_refl _, fun k => absurd k (by omega)⟩
      · refine c_longOf ho hL (by omega) ⟨_, rfl, c_longOf ho hL (by omega) ⟨_, rfl, ⟨by omega, by omega⟩, fun v g1 g2 => ?_⟩⟩
        rcases hv with hv | ⟨h1, h2, h3⟩
        · omega
        · refine ih v (by omega) (Or.inr ?_)
          by_cases hlt : tLN σ (σ 3) 8 (n : Int) < tLN σ (σ 3) 8 fd
          · rw [g1 hlt]
            refine ⟨by omega, by omega, fun m hm hm2 => ?_⟩
            by_cases hmn : m = n
            · subst hmn
              exact ⟨by omega, fun _ => hlt⟩
            · exact h3 m (by omega) hm2
          · rw [g2 (by omega)]
            refine ⟨by omega, by omega, fun m hm hm2 => ?_⟩
            by_cases hmn : m = n
            · subst hmn
              exact ⟨Int.le_refl _, fun k => absurd k (by omega)⟩
            · have := h3 m (by omega) hm2
              exact ⟨by omega, fun k => absurd k (by omega)⟩
  have := key (tC σ (σ 3) 8).toNat (-9) (by omega) (Or.inl ⟨by omega, rfl⟩)
  rw [show (((tC σ (σ 3) 8).toNat : Nat) : Int) = M1 62 19 by omega] at this
  exact this
end MS
