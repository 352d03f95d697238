/-! the reference joins two frames -/
theorem MPK.congr {σ : Int → Int} {M M' : am_M} (h : MPK M σ) (h1 : M' 70 = M 70) (h2 : M' 71 = M 71) : MPK M' σ := by
  intro f a b
  have := h f a b
  unfold mpk_row at this ⊢
  rw [h1, h2]
  exact this
section MJ
variable {d : Nat} {M : am_M} {Q : Option Int → am_M → Prop} {σ : Int → Int} {f re : Int}
theorem mj_ap (hs : MC σ M) (ho : sp_ok σ) (hp : MPK M σ) (hf : 0 ≤ f ∧ f + 1 < σ 0) {k m : Int} (hk : 0 ≤ k ∧ k < sp_n σ f) (hm : 0 ≤ m ∧ m < sp_n σ (f + 1)) : am_ap (M 63) (M 71) f k m = am_abs (sp_t σ f k - sp_t σ (f + 1) m) ∧ am_apok (M 63) (M 71) f k m ∧ 0 ≤ am_abs (sp_t σ f k - sp_t σ (f + 1) m) ∧ am_abs (sp_t σ f k - sp_t σ (f + 1) m) ≤ 50 := by
  have t1 := sp_t_r ho hk
  have t2 := sp_t_r ho hm
  have e1 := hp.pt hs ho ⟨hf.1, by omega⟩ hk
  have e2 := hp.pt hs ho (f := f + 1) ⟨by omega, hf.2⟩ hm
  have a3 := am_abs_r (sp_t σ f k - sp_t σ (f + 1) m) (by omega)
  unfold am_ap am_apok
  rw [e1, e2]
  exact ⟨rfl, ⟨hp.ptok hs ho ⟨hf.1, by omega⟩ hk, hp.ptok hs ho (f := f + 1) ⟨by omega, hf.2⟩ hm, by omega⟩, a3⟩
theorem mj_pw (hs : MC σ M) (ho : sp_ok σ) (hp : MPK M σ) (hf : 0 ≤ f ∧ f + 1 < σ 0) (hre : 0 ≤ re ∧ re ≤ 20) {k m : Int} (hk : 0 ≤ k ∧ k < sp_n σ f) (hm : 0 ≤ m ∧ m < sp_n σ (f + 1)) : am_pwok (M 63) (M 71) f k m re := by
  have n1 := sp_n_r σ f
  have n2 := sp_n_r σ (f + 1)
  obtain ⟨h1, h2, h3⟩ := mj_ap hs ho hp hf hk hm
  refine ⟨h2, ?_, by omega, by omega⟩
  rw [h1]; omega
theorem mj_pwe (hs : MC σ M) (ho : sp_ok σ) (hp : MPK M σ) (hf : 0 ≤ f ∧ f + 1 < σ 0) {k m : Int} (hk : 0 ≤ k ∧ k < sp_n σ f) (hm : 0 ≤ m ∧ m < sp_n σ (f + 1)) (ht : M 74 (7 * (k + 1) + (m + 1)) = jT (sp_t σ f) (sp_t σ (f + 1)) (sp_n σ f) (sp_n σ (f + 1)) re (k + 1) (m + 1)) : am_pw (M 63) (M 71) (M 74) f k m re = jP (sp_t σ f) (sp_t σ (f + 1)) (sp_n σ f) (sp_n σ (f + 1)) re k m := by
  unfold am_pw jP
  rw [(mj_ap hs ho hp hf hk hm).1, ht]
def MJT (M : am_M) (σ : Int → Int) (re f : Int) : Prop := ∀ i j, 0 ≤ i → i ≤ sp_n σ f → 0 ≤ j → j ≤ sp_n σ (f + 1) → M 74 (7 * i + j) = jT (sp_t σ f) (sp_t σ (f + 1)) (sp_n σ f) (sp_n σ (f + 1)) re i j
theorem c_laysWorth (hs : MC σ M) (ho : sp_ok σ) (hp : MPK M σ) (hf : 0 ≤ f ∧ f + 1 < σ 0) (hre : 0 ≤ re ∧ re ≤ 20) (h : ∀ M', (∀ c, c ≠ 74 → M' c = M c) → MJT M' σ re f → Q none M') : AC (d + 5) mX8_laysWorth [.inr 62, .inl f, .inl re] M Q := by
  have h0 := ho.1
  have n1 := sp_n_r σ f
  have n2 := sp_n_r σ (f + 1)
  have inner : ∀ (t : Nat) (k m : Int) (M' : am_M), m + 1 = t → 0 ≤ k → k ≤ sp_n σ f → m ≤ sp_n σ (f + 1) → (∀ c, c ≠ 74 → M' c = M c) → (∀ a b, k < a → a ≤ sp_n σ f → 0 ≤ b → b ≤ sp_n σ (f + 1) → M' 74 (7 * a + b) = jT (sp_t σ f) (sp_t σ (f + 1)) (sp_n σ f) (sp_n σ (f + 1)) re a b) → (∀ b, m < b → b ≤ sp_n σ (f + 1) → M' 74 (7 * k + b) = jT (sp_t σ f) (sp_t σ (f + 1)) (sp_n σ f) (sp_n σ (f + 1)) re k b) →
      (∀ M2, (∀ c, c ≠ 74 → M2 c = M c) → (∀ a b, k ≤ a → a ≤ sp_n σ f → 0 ≤ b → b ≤ sp_n σ (f + 1) → M2 74 (7 * a + b) = jT (sp_t σ f) (sp_t σ (f + 1)) (sp_n σ f) (sp_n σ (f + 1)) re a b) → AW (d + 5) mX8_laysWorth 7 [(0, .inr 62), (1, .inl f), (2, .inl re), (3, .inl (k + (-1)))] [] M2 Q) → AW (d + 5) mX8_laysWorth 21 [(0, .inr 62), (1, .inl f), (2, .inl re), (3, .inl k), (4, .inl m)] [] M' Q := by
    intro t
    induction t with
    | zero =>
      intro k m M' hk k0 k1 m1 fr hd hrow kk
      refine sg_X8_laysWorth_21 ⟨by omega, fun _ => ?_, fun c => absurd c (by omega)⟩
      refine kk M' fr (fun a b ha ha2 hb hb2 => ?_)
      by_cases hai : a = k
      · subst hai; exact hrow b (by omega) hb2
      · exact hd a b (by omega) ha2 hb hb2
    | succ t ih =>
      intro k m M' hk k0 k1 m1 fr hd hrow kk
      have hs' : MC σ M' := hs.congr (fr 63 (by decide))
      have hp' : MPK M' σ := hp.congr (fr 70 (by decide)) (fr 71 (by decide))
      have e1 := hp'.n (f := f) ⟨hf.1, by omega⟩
      have e2 := hp'.n (f := f + 1) ⟨by omega, hf.2⟩
      have go : ∀ v, v = jT (sp_t σ f) (sp_t σ (f + 1)) (sp_n σ f) (sp_n σ (f + 1)) re k m → AW (d + 5) mX8_laysWorth 21 [(0, .inr 62), (1, .inl f), (2, .inl re), (3, .inl k), (4, .inl (m + (-1)))] [] (am_up M' 74 (7 * k + m) v) Q := by
        intro v hv
        rw [show m + (-1) = m - 1 by omega]
        refine ih k (m - 1) _ (by omega) k0 k1 (by omega) (fun c hc => by rw [am_up_ne _ _ _ _ _ hc]; exact fr c hc) (fun a b ha ha2 hb hb2 => ?_) (fun b hb hb2 => ?_) kk
        · rw [am_up_idx _ _ (by omega)]; exact hd a b ha ha2 hb hb2
        · by_cases hbj : b = m
          · subst hbj; rw [am_up_same]; exact hv
          · rw [am_up_idx _ _ (by omega)]; exact hrow b (by omega) hb2
      refine sg_X8_laysWorth_21 ?_
      rw [e1, e2]
      refine ⟨by omega, fun c => absurd c (by omega), fun _ => ⟨by omega, by omega, by omega, fun c => ⟨by omega, go 0 (by rw [jT_out (Or.inl c)])⟩, fun c => ⟨by omega, by omega, fun c2 => ⟨by omega, go 0 (by rw [jT_out (Or.inr c2)])⟩, fun c2 => ?_⟩⟩⟩
      have t1 := hd (k + 1) (m + 1) (by omega) (by omega) (by omega) (by omega)
      have t2 := hd (k + 1) m (by omega) (by omega) (by omega) (by omega)
      have t3 := hrow (m + 1) (by omega) (by omega)
      have b1 := jT_r (A := sp_t σ f) (B := sp_t σ (f + 1)) (n1 := sp_n σ f) (n2 := sp_n σ (f + 1)) (re := re) (i := k + 1) (j := m) (by omega) n1.2
      have b2 := jT_r (A := sp_t σ f) (B := sp_t σ (f + 1)) (n1 := sp_n σ f) (n2 := sp_n σ (f + 1)) (re := re) (i := k) (j := m + 1) (by omega) n1.2
      have a3 := (mj_ap hs' ho hp' hf (k := k) (m := m) ⟨k0, c⟩ ⟨by omega, c2⟩).2.2
      have b3 := jP_r (A := sp_t σ f) (B := sp_t σ (f + 1)) (n1 := sp_n σ f) (n2 := sp_n σ (f + 1)) (re := re) (i := k) (j := m) k0 n1.2 (by omega)
      rw [mj_pwe hs' ho hp' hf ⟨k0, c⟩ ⟨by omega, c2⟩ t1, t2, t3]
      refine ⟨mj_pw hs' ho hp' hf hre ⟨k0, c⟩ ⟨by omega, c2⟩, by omega, ⟨by omega, by omega⟩, fun v q1 q2 => ⟨by omega, ⟨by omega, by omega⟩, fun w q3 q4 => ⟨by omega, go w ?_⟩⟩⟩
      rw [jT_eq c c2]
      omega
  have outer : ∀ (t : Nat) (k : Int) (M' : am_M), k + 1 = t → k ≤ sp_n σ f → (∀ c, c ≠ 74 → M' c = M c) → (∀ a b, k < a → a ≤ sp_n σ f → 0 ≤ b → b ≤ sp_n σ (f + 1) → M' 74 (7 * a + b) = jT (sp_t σ f) (sp_t σ (f + 1)) (sp_n σ f) (sp_n σ (f + 1)) re a b) → AW (d + 5) mX8_laysWorth 7 [(0, .inr 62), (1, .inl f), (2, .inl re), (3, .inl k)] [] M' Q := by
    intro t
    induction t with
    | zero =>
      intro k M' hk k1 fr hd
      refine sg_X8_laysWorth_7 ⟨by omega, fun _ => h M' fr (fun a b ha ha2 hb hb2 => hd a b (by omega) ha2 hb hb2), fun c => absurd c (by omega)⟩
    | succ t ih =>
      intro k M' hk k1 fr hd
      have e2 : M' 70 (f + 1) = sp_n σ (f + 1) := by rw [fr 70 (by decide)]; exact hp.n ⟨by omega, hf.2⟩
      refine sg_X8_laysWorth_7 ⟨by omega, fun c => absurd c (by omega), fun _ => ⟨by omega, ?_⟩⟩
      rw [e2]
      refine inner (sp_n σ (f + 1) + 1).toNat k (sp_n σ (f + 1)) M' (by omega) (by omega) k1 (by omega) fr hd (fun b hb hb2 => absurd hb2 (by omega)) (fun M2 fr2 hd2 => ?_)
      rw [show k + (-1) = k - 1 by omega]
      exact ih (k - 1) M2 (by omega) (by omega) fr2 (fun a b ha ha2 hb hb2 => hd2 a b (by omega) ha2 hb hb2)
  refine sg_X8_laysWorth ⟨by omega, ?_⟩
  rw [hp.n ⟨hf.1, by omega⟩]
  exact outer (sp_n σ f + 1).toNat (sp_n σ f) M (by omega) (by omega) (fun _ _ => rfl) (fun a b ha ha2 => absurd ha2 (by omega))
theorem c_joins (hs : MC σ M) (ho : sp_ok σ) (hp : MPK M σ) (hf : 0 ≤ f ∧ f + 1 < σ 0) (hre : 0 ≤ re ∧ re ≤ 20) (h : ∀ M', (∀ c, c ≠ 72 → c ≠ 74 → M' c = M c) → (∀ j, ¬ (6 * f ≤ j ∧ j < 6 * f + sp_n σ f) → M' 72 j = M 72 j) → (∀ k, 0 ≤ k → k < sp_n σ f → M' 72 (6 * f + k) = sp_m σ re f k) → Q none M') : AC (d + 6) mX8_joins [.inr 62, .inl f, .inl re] M Q := by
  have h0 := ho.1
  have n1 := sp_n_r σ f
  have n2 := sp_n_r σ (f + 1)
  refine sg_X8_joins (c_laysWorth hs ho hp hf hre (fun M1 fr1 ht1 => ⟨rfl, ?_⟩))
  have inner : ∀ (t : Nat) (k : Nat) (nx m : Int) (M' : am_M), m + 1 = nx + t → (k : Int) < sp_n σ f → 0 ≤ nx → m < sp_n σ (f + 1) → (∀ c, c ≠ 72 → M' c = M1 c) →
      AW (d + 6) mX8_joins 11 [(0, .inr 62), (1, .inl f), (2, .inl re), (3, .inl (if jF (fun j => decide (jP (sp_t σ f) (sp_t σ (f + 1)) (sp_n σ f) (sp_n σ (f + 1)) re k j = jT (sp_t σ f) (sp_t σ (f + 1)) (sp_n σ f) (sp_n σ (f + 1)) re k nx)) nx (sp_n σ (f + 1) - nx).toNat = -9 then nx else jF (fun j => decide (jP (sp_t σ f) (sp_t σ (f + 1)) (sp_n σ f) (sp_n σ (f + 1)) re k j = jT (sp_t σ f) (sp_t σ (f + 1)) (sp_n σ f) (sp_n σ (f + 1)) re k nx)) nx (sp_n σ (f + 1) - nx).toNat + 1)), (4, .inl ((k : Int) + 1))] [] (am_up M' 72 (6 * f + k) (jF (fun j => decide (jP (sp_t σ f) (sp_t σ (f + 1)) (sp_n σ f) (sp_n σ (f + 1)) re k j = jT (sp_t σ f) (sp_t σ (f + 1)) (sp_n σ f) (sp_n σ (f + 1)) re k nx)) nx (sp_n σ (f + 1) - nx).toNat)) Q →
      AW (d + 6) mX8_joins 38 [(0, .inr 62), (1, .inl f), (2, .inl re), (3, .inl nx), (4, .inl (k : Int)), (5, .inl (jF (fun j => decide (jP (sp_t σ f) (sp_t σ (f + 1)) (sp_n σ f) (sp_n σ (f + 1)) re k j = jT (sp_t σ f) (sp_t σ (f + 1)) (sp_n σ f) (sp_n σ (f + 1)) re k nx)) (m + 1) (sp_n σ (f + 1) - (m + 1)).toNat)), (6, .inl m)] [] M' Q := by
    intro t
    induction t with
    | zero =>
      intro k nx m M' ht k1 nx0 m1 fr kk
      have e : m + 1 = nx := by omega
      rw [e]
      generalize hF : jF (fun j => decide (jP (sp_t σ f) (sp_t σ (f + 1)) (sp_n σ f) (sp_n σ (f + 1)) re k j = jT (sp_t σ f) (sp_t σ (f + 1)) (sp_n σ f) (sp_n σ (f + 1)) re k nx)) nx (sp_n σ (f + 1) - nx).toNat = fd at kk ⊢
      have hfd := jF_spec (fun j => decide (jP (sp_t σ f) (sp_t σ (f + 1)) (sp_n σ f) (sp_n σ (f + 1)) re k j = jT (sp_t σ f) (sp_t σ (f + 1)) (sp_n σ f) (sp_n σ (f + 1)) re k nx)) (sp_n σ (f + 1) - nx).toNat nx nx0
      rw [hF] at hfd
      have hfr : -9 ≤ fd ∧ fd < 100 := by
        rcases hfd with ⟨g, -⟩ | ⟨g1, g2, -⟩ <;> omega
      refine sg_X8_joins_38 ⟨by omega, by omega, fun _ => ⟨by omega, by omega, fun v q1 q2 => ?_⟩, fun c => absurd c (by omega)⟩
      have ev : v = if fd = -9 then nx else fd + 1 := by split <;> omega
      rw [ev]
      exact kk
    | succ t ih =>
      intro k nx m M' ht k1 nx0 m1 fr kk
      have hs' : MC σ M' := hs.congr (by rw [fr 63 (by decide), fr1 63 (by decide)])
      have hp' : MPK M' σ := hp.congr (by rw [fr 70 (by decide), fr1 70 (by decide)]) (by rw [fr 71 (by decide), fr1 71 (by decide)])
      have ht' : MJT M' σ re f := fun a b x1 x2 x3 x4 => by rw [fr 74 (by decide)]; exact ht1 a b x1 x2 x3 x4
      have a3 := (mj_ap hs' ho hp' hf (k := k) (m := m) ⟨by omega, k1⟩ ⟨by omega, m1⟩).2.2
      have b3 := jP_r (A := sp_t σ f) (B := sp_t σ (f + 1)) (n1 := sp_n σ f) (n2 := sp_n σ (f + 1)) (re := re) (i := k) (j := m) (by omega) n1.2 (by omega)
      have b1 := jT_r (A := sp_t σ f) (B := sp_t σ (f + 1)) (n1 := sp_n σ f) (n2 := sp_n σ (f + 1)) (re := re) (i := k) (j := nx) (by omega) n1.2
      refine sg_X8_joins_38 ⟨by omega, by omega, fun c => absurd c (by omega), fun _ => ?_⟩
      rw [mj_pwe hs' ho hp' hf ⟨by omega, k1⟩ ⟨by omega, m1⟩ (ht' (k + 1) (m + 1) (by omega) (by omega) (by omega) (by omega)), ht' k nx (by omega) (by omega) nx0 (by omega)]
      refine ⟨mj_pw hs' ho hp' hf hre ⟨by omega, k1⟩ ⟨by omega, m1⟩, by omega, ⟨by omega, by omega⟩, fun v q1 q2 => ?_⟩
      have ev : v = jF (fun j => decide (jP (sp_t σ f) (sp_t σ (f + 1)) (sp_n σ f) (sp_n σ (f + 1)) re k j = jT (sp_t σ f) (sp_t σ (f + 1)) (sp_n σ f) (sp_n σ (f + 1)) re k nx)) (m - 1 + 1) (sp_n σ (f + 1) - (m - 1 + 1)).toNat := by
        rw [show m - 1 + 1 = m by omega, show (sp_n σ (f + 1) - m).toNat = (sp_n σ (f + 1) - (m + 1)).toNat + 1 by omega, jF]
        split
        · rename_i hc; exact q2 (by simpa using hc)
        · rename_i hc; exact q1 (by simpa using hc)
      rw [ev, show m + (-1) = m - 1 by omega]
      exact ih k nx (m - 1) M' (by omega) k1 nx0 (by omega) fr kk
  have outer : ∀ (t k : Nat) (M' : am_M), (k : Int) + t = sp_n σ f → (∀ c, c ≠ 72 → M' c = M1 c) → (∀ j, ¬ (6 * f ≤ j ∧ j < 6 * f + sp_n σ f) → M' 72 j = M 72 j) → (∀ a : Nat, a < k → M' 72 (6 * f + a) = sp_m σ re f a) → AW (d + 6) mX8_joins 11 [(0, .inr 62), (1, .inl f), (2, .inl re), (3, .inl (jfr (sp_t σ f) (sp_t σ (f + 1)) (sp_n σ f) (sp_n σ (f + 1)) re k)), (4, .inl (k : Int))] [] M' Q := by
    intro t
    induction t with
    | zero =>
      intro k M' ht fr hx hd
      have e1 : M' 70 f = sp_n σ f := by rw [fr 70 (by decide), fr1 70 (by decide)]; exact hp.n ⟨hf.1, by omega⟩
      refine sg_X8_joins_11 ⟨by omega, by omega, by omega, fun _ => ?_, fun c => absurd c (by omega)⟩
      refine h M' (fun c a b => by rw [fr c a, fr1 c b]) hx (fun a a0 a1 => ?_)
      have := hd a.toNat (by omega)
      rw [show ((a.toNat : Nat) : Int) = a by omega] at this
      exact this
    | succ t ih =>
      intro k M' ht fr hx hd
      have e1 : M' 70 f = sp_n σ f := by rw [fr 70 (by decide), fr1 70 (by decide)]; exact hp.n ⟨hf.1, by omega⟩
      have e2 : M' 70 (f + 1) = sp_n σ (f + 1) := by rw [fr 70 (by decide), fr1 70 (by decide)]; exact hp.n ⟨by omega, hf.2⟩
      have hfr := jfr_r (A := sp_t σ f) (B := sp_t σ (f + 1)) (n1 := sp_n σ f) (re := re) n2.1 k
      refine sg_X8_joins_11 ⟨by omega, by omega, by omega, fun c => absurd c (by omega), fun _ => ⟨by omega, ?_⟩⟩
      rw [e2]
      have := inner (sp_n σ (f + 1) - jfr (sp_t σ f) (sp_t σ (f + 1)) (sp_n σ f) (sp_n σ (f + 1)) re k).toNat k (jfr (sp_t σ f) (sp_t σ (f + 1)) (sp_n σ f) (sp_n σ (f + 1)) re k) (sp_n σ (f + 1) - 1) M' (by omega) (by omega) hfr.1 (by omega) fr ?_
      · rw [show sp_n σ (f + 1) - 1 + 1 = sp_n σ (f + 1) by omega, show (sp_n σ (f + 1) - sp_n σ (f + 1)).toNat = 0 by omega] at this
        exact this
      · have h9 := ih (k + 1) (am_up M' 72 (6 * f + k) (sp_m σ re f k)) (by omega) (fun c hc => by rw [am_up_ne _ _ _ _ _ hc]; exact fr c hc) (fun j hj => by rw [am_up_idx _ _ (by omega)]; exact hx j hj) (fun a ha => ?_)
        · rw [jfr_succ] at h9
          exact h9
        · by_cases hak : a = k
          · subst hak; exact am_up_same _ _ _ _
          · rw [am_up_idx _ _ (by omega)]; exact hd a (by omega)
  have := outer (sp_n σ f).toNat 0 M1 (by omega) (fun _ _ => rfl) (fun j _ => by rw [fr1 72 (by decide)]) (fun a ha => absurd ha (by omega))
  simpa [jfr] using this
end MJ
