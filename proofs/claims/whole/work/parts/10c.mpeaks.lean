/-! the peaks of the reference -/
def mpk_row (M : am_M) (σ : Int → Int) (f : Int) (m : Nat) : Prop := M 70 f = ((sp_pl σ f m).length : Int) ∧ ∀ k : Nat, k < (sp_pl σ f m).length → M 71 (6 * f + k) = (sp_pl σ f m).getD k 0
def mpk_fr (M M' : am_M) (f : Int) : Prop := ∀ c j, ¬ (c = 70 ∧ j = f) → ¬ (c = 71 ∧ 6 * f ≤ j ∧ j < 6 * f + 6) → M' c j = M c j
theorem mpk_fr.trans {M M' M2 : am_M} {f : Int} (h : mpk_fr M M' f) (h2 : mpk_fr M' M2 f) : mpk_fr M M2 f := fun c j a b => (h2 c j a b).trans (h c j a b)
theorem mpk_fr.cell {M M' : am_M} {f : Int} (h : mpk_fr M M' f) {c : Nat} (hc : c ≠ 70 ∧ c ≠ 71) : M' c = M c := by
  funext j
  exact h c j (by omega) (by omega)
theorem MC.congr {σ : Int → Int} {M M' : am_M} (h : MC σ M) (h1 : M' 63 = M 63) : MC σ M' := by
  unfold MC at h ⊢
  rw [h1]
  exact h
theorem mpk_step {M : am_M} {σ : Int → Int} {f : Int} {m : Nat} (hrow : mpk_row M σ f m) (hpk : sp_pk σ f (m : Int) = true) (hm : m < 12) :
    mpk_row (am_up (am_up M 71 (6 * f + M 70 f) (m : Int)) 70 f (M 70 f + 1)) σ f (m + 1) ∧ mpk_fr M (am_up (am_up M 71 (6 * f + M 70 f) (m : Int)) 70 f (M 70 f + 1)) f := by
  obtain ⟨h1, h2⟩ := hrow
  have hl6 : (sp_pl σ f m).length < 6 := by
    have h9 := (sp_pl_len σ f (m + 1)).1
    rw [sp_pl_succ, hpk] at h9
    simp at h9
    omega
  refine ⟨⟨?_, fun k hk => ?_⟩, fun c j a b => ?_⟩
  · rw [sp_pl_succ, hpk]
    simp [am_up, h1]
  · rw [sp_pl_succ, hpk] at hk ⊢
    simp only [if_true, List.length_append, List.length_singleton] at hk ⊢
    by_cases hk2 : k < (sp_pl σ f m).length
    · rw [getD_app_lt hk2]
      have hne : ¬ (6 * f + (k : Int) = 6 * f + M 70 f) := by omega
      rw [am_up_cell _ (by decide), am_up_idx _ _ hne]
      exact h2 k hk2
    · have hke : k = (sp_pl σ f m).length := by omega
      subst hke
      rw [getD_app_eq, am_up_cell _ (by decide), ← h1, am_up_same]
  · by_cases hc : c = 70
    · subst hc
      rw [am_up_idx _ _ (by omega), am_up_cell _ (by decide)]
    · rw [am_up_cell _ hc]
      by_cases hc3 : c = 71
      · subst hc3
        exact am_up_idx _ _ (by omega)
      · exact am_up_cell _ hc3 _ _ _
def MPK (M : am_M) (σ : Int → Int) : Prop := ∀ f, 0 ≤ f → f < σ 0 → mpk_row M σ f 12
theorem mpk_row.other {M M' : am_M} {σ : Int → Int} {f g : Int} {m : Nat} (h : mpk_row M σ g m) (hfr : mpk_fr M M' f) (hne : g ≠ f) (hm : m ≤ 12) : mpk_row M' σ g m := by
  have hl := (sp_pl_len σ g m).1
  refine ⟨?_, fun k hk => ?_⟩
  · rw [hfr 70 g (by omega) (by omega)]; exact h.1
  · rw [hfr 71 _ (by omega) (by omega)]
    exact h.2 k hk
theorem c_laysPeaks {d : Nat} {M : am_M} {Q : Option Int → am_M → Prop} {σ : Int → Int} (hs : MC σ M) (ho : sp_ok σ) (h : ∀ M', MPK M' σ → (∀ c, c ≠ 70 → c ≠ 71 → M' c = M c) → Q none M') : AC (d + 2) mX8_laysPeaks [.inr 62] M Q := by
  refine sg_X8_laysPeaks ?_
  have h0 := ho.1
  have h1 := ho.2.1
  have h2 := ho.2.2.1
  have inner : ∀ (k m : Nat) (f : Int) (M' : am_M), (m : Int) + k = σ 1 → 0 ≤ f → f < σ 0 → MC σ M' → mpk_row M' σ f m → (∀ M2, MC σ M2 → mpk_row M2 σ f 12 → mpk_fr M' M2 f → AW (d + 2) mX8_laysPeaks 2 [(0, .inr 62), (1, .inl (f + 1))] [] M2 Q) → AW (d + 2) mX8_laysPeaks 21 [(0, .inr 62), (1, .inl f), (2, .inl (m : Int))] [] M' Q := by
    intro k
    induction k with
    | zero =>
      intro m f M' hk f0 f8 hs' hrow kk
      have e1 : M' 63 1 = σ 1 := hs' 1 (by omega) (by omega)
      refine sg_X8_laysPeaks_21 ⟨by omega, by omega, fun _ => ?_, fun c => absurd c (by omega)⟩
      refine kk M' hs' ?_ (fun _ _ _ _ => rfl)
      unfold mpk_row at hrow ⊢
      rw [← sp_pl_all ho f m (by omega)]
      exact hrow
    | succ k ih =>
      intro m f M' hk f0 f8 hs' hrow kk
      have e1 : M' 63 1 = σ 1 := hs' 1 (by omega) (by omega)
      have e2 : M' 63 2 = σ 2 := hs' 2 (by omega) (by omega)
      have ok : ∀ q : Int, -1 ≤ q → q ≤ 13 → am_mlok (M' 63) f q := fun q a b => hs'.mlok ho ⟨f0, f8⟩ ⟨a, b⟩
      have rg : ∀ q : Int, am_r (sp_L σ f q) := fun q => by have := sp_L_r ho f q; omega
      have hn := (sp_pl_len σ f m).1
      have skip : sp_pk σ f (m : Int) = false → AW (d + 2) mX8_laysPeaks 21 [(0, .inr 62), (1, .inl f), (2, .inl ((m : Int) + 1))] [] M' Q := by
        intro hq
        have := ih (m + 1) f M' (by omega) f0 f8 hs' (by
          unfold mpk_row at hrow ⊢
          rw [sp_pl_succ, hq]
          simpa using hrow) kk
        simpa using this
      have no : ¬ (σ 2 ≤ sp_L σ f (m : Int) ∧ sp_L σ f ((m : Int) - 1) < sp_L σ f (m : Int) ∧ sp_L σ f ((m : Int) + 1) ≤ sp_L σ f (m : Int)) → sp_pk σ f (m : Int) = false := fun c => by
        cases hq : sp_pk σ f (m : Int) with
        | false => rfl
        | true => exact absurd (sp_pk_iff.mp hq) c
      refine sg_X8_laysPeaks_21 ?_
      simp only [hs'.ml ho ⟨f0, f8⟩]
      rw [e1, e2]
      refine ⟨by omega, by omega, fun c => absurd c (by omega), fun _ => ⟨ok _ (by omega) (by omega), rg _, by omega, fun c => skip (no (by omega)), fun c1 => ⟨ok _ (by omega) (by omega), rg _, fun c => skip (no (by omega)), fun c2 => ⟨ok _ (by omega) (by omega), rg _, fun c => skip (no (by omega)), fun c3 => ?_⟩⟩⟩⟩
      obtain ⟨g1, g2⟩ := mpk_step hrow (sp_pk_iff.mpr ⟨c1, c2, c3⟩) (by omega)
      have hpk := sp_pk_iff.mpr ⟨c1, c2, c3⟩
      have h9 := (sp_pl_len σ f (m + 1)).1
      rw [sp_pl_succ, hpk] at h9
      simp at h9
      have h10 := hrow.1
      refine ⟨by omega, by omega, ?_⟩
      have := ih (m + 1) f _ (by omega) f0 f8 (hs'.congr (g2.cell (by decide))) g1 (fun M3 a b c => kk M3 a b (g2.trans c))
      simpa using this
  have outer : ∀ (k : Nat) (f : Int) (M' : am_M), 0 ≤ f → f + k = σ 0 → MC σ M' → (∀ c, c ≠ 70 → c ≠ 71 → M' c = M c) → (∀ g, 0 ≤ g → g < f → mpk_row M' σ g 12) → AW (d + 2) mX8_laysPeaks 2 [(0, .inr 62), (1, .inl f)] [] M' Q := by
    intro k
    induction k with
    | zero =>
      intro f M' f0 hk hs' ha hd
      have e0 : M' 63 0 = σ 0 := hs' 0 (by omega) (by omega)
      refine sg_X8_laysPeaks_2 ⟨by omega, by omega, fun _ => h M' (fun g g0 g8 => hd g g0 (by omega)) ha, fun c => absurd c (by omega)⟩
    | succ k ih =>
      intro f M' f0 hk hs' ha hd
      have e0 : M' 63 0 = σ 0 := hs' 0 (by omega) (by omega)
      refine sg_X8_laysPeaks_2 ⟨by omega, by omega, fun c => absurd c (by omega), fun _ => ⟨by omega, ?_⟩⟩
      have hfr0 : mpk_fr M' (am_up M' 70 f 0) f := by
        intro c j a b
        by_cases hc : c = 70
        · subst hc; exact am_up_idx _ _ (by omega)
        · exact am_up_cell _ hc _ _ _
      have := inner (σ 1).toNat 0 f (am_up M' 70 f 0) (by omega) f0 (by omega) (hs'.congr (hfr0.cell (by decide))) ⟨by simp [sp_pl, am_up], fun k hk => by simp [sp_pl] at hk⟩ (fun M2 hs2 r2 fr2 => ?_)
      · simpa using this
      · have fr3 := hfr0.trans fr2
        refine ih (f + 1) M2 (by omega) (by omega) hs2 (fun c a1 a2 => (fr3.cell ⟨a1, a2⟩).trans (ha c a1 a2)) (fun g g0 gf => ?_)
        by_cases hg : g = f
        · subst hg; exact r2
        · exact (hd g g0 (by omega)).other fr3 hg (by decide)
  exact outer (σ 0).toNat 0 M (by omega) (by omega) hs (fun _ _ _ => rfl) (fun g a b => absurd b (by omega))
/-! what is read off the rows -/
theorem MPK.n {M : am_M} {σ : Int → Int} (h : MPK M σ) {f : Int} (hf : 0 ≤ f ∧ f < σ 0) : M 70 f = sp_n σ f := (h f hf.1 hf.2).1
theorem MPK.p {M : am_M} {σ : Int → Int} (h : MPK M σ) {f k : Int} (hf : 0 ≤ f ∧ f < σ 0) (hk : 0 ≤ k ∧ k < sp_n σ f) : M 71 (6 * f + k) = sp_p σ f k := by
  have := (h f hf.1 hf.2).2 k.toNat (by unfold sp_n at hk; omega)
  rw [show ((k.toNat : Nat) : Int) = k by omega] at this
  exact this
theorem MPK.pt {M : am_M} {σ : Int → Int} (h : MPK M σ) (hs : MC σ M) (ho : sp_ok σ) {f k : Int} (hf : 0 ≤ f ∧ f < σ 0) (hk : 0 ≤ k ∧ k < sp_n σ f) : am_pt (M 63) (M 71) f k = sp_t σ f k := by
  unfold am_pt sp_t sp_tp
  rw [h.p hf hk, hs.ml ho hf, hs.ml ho hf]
theorem MPK.ptok {M : am_M} {σ : Int → Int} (h : MPK M σ) (hs : MC σ M) (ho : sp_ok σ) {f k : Int} (hf : 0 ≤ f ∧ f < σ 0) (hk : 0 ≤ k ∧ k < sp_n σ f) : am_ptok (M 63) (M 71) f k := by
  have h1 := (sp_p_in ho hk).1
  have h2 := ho.2.1
  have h3 := ho.1
  have h4 := sp_n_r σ f
  unfold am_ptok
  rw [h.p hf hk, hs.ml ho hf, hs.ml ho hf]
  have g1 := sp_L_r ho f (sp_p σ f k + 1)
  have g2 := sp_L_r ho f (sp_p σ f k - 1)
  exact ⟨by omega, hs.mlok ho hf (by omega), hs.mlok ho hf (by omega), by omega, by omega⟩
theorem MPK.lo {M : am_M} {σ : Int → Int} (h : MPK M σ) (hs : MC σ M) (ho : sp_ok σ) {f k : Int} (hf : 0 ≤ f ∧ f < σ 0) (hk : 0 ≤ k ∧ k < sp_n σ f) : am_lo2 (M 63) (M 71) f k = sp_l σ f k ∧ am_look (M 63) (M 71) f k := by
  have h1 := (sp_p_in ho hk).1
  have h2 := ho.2.1
  have h3 := ho.1
  have h4 := sp_n_r σ f
  unfold am_lo2 am_look sp_l
  rw [h.p hf hk, hs.ml ho hf]
  exact ⟨rfl, by omega, hs.mlok ho hf (by omega)⟩
theorem PK.n {M : am_M} {σ : Int → Int} (h : PK M σ) {f : Int} (hf : 0 ≤ f ∧ f < 8) : M 32 f = sp_n σ f := (h f hf.1 hf.2).1
theorem PK.at {M : am_M} {σ : Int → Int} (h : PK M σ) {f k : Int} (hf : 0 ≤ f ∧ f < 8) (hk : 0 ≤ k ∧ k < sp_n σ f) : M 33 (6 * f + k) = sp_p σ f k ∧ M 34 (6 * f + k) = sp_t σ f k ∧ M 35 (6 * f + k) = sp_l σ f k := by
  have := (h f hf.1 hf.2).2 k.toNat (by unfold sp_n at hk; omega)
  rw [show ((k.toNat : Nat) : Int) = k by omega] at this
  exact this
