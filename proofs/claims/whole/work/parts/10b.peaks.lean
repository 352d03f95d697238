/-! the peaks: class and reference -/
theorem getD_app_lt {l r : List Int} {k : Nat} (h : k < l.length) : (l ++ r).getD k 0 = l.getD k 0 := by
  rw [List.getD_eq_getElem?_getD, List.getD_eq_getElem?_getD, List.getElem?_append_left h]
theorem getD_app_eq {l : List Int} {x : Int} : (l ++ [x]).getD l.length 0 = x := by
  rw [List.getD_eq_getElem?_getD, List.getElem?_append_right (Nat.le_refl _)]
  simp
def pk_row (M : am_M) (σ : Int → Int) (f : Int) (m : Nat) : Prop := M 32 f = ((sp_pl σ f m).length : Int) ∧ ∀ k : Nat, k < (sp_pl σ f m).length → M 33 (6 * f + k) = (sp_pl σ f m).getD k 0 ∧ M 34 (6 * f + k) = sp_tp σ f ((sp_pl σ f m).getD k 0) ∧ M 35 (6 * f + k) = sp_L σ f ((sp_pl σ f m).getD k 0)
def pk_fr (M M' : am_M) (f : Int) : Prop := ∀ c j, ¬ (c = 32 ∧ j = f) → ¬ ((c = 33 ∨ c = 34 ∨ c = 35) ∧ 6 * f ≤ j ∧ j < 6 * f + 6) → M' c j = M c j
theorem pk_fr.trans {M M' M2 : am_M} {f : Int} (h : pk_fr M M' f) (h2 : pk_fr M' M2 f) : pk_fr M M2 f := fun c j a b => (h2 c j a b).trans (h c j a b)
theorem pk_fr.cell {M M' : am_M} {f : Int} (h : pk_fr M M' f) {c : Nat} (hc : c ≠ 32 ∧ c ≠ 33 ∧ c ≠ 34 ∧ c ≠ 35) : M' c = M c := by
  funext j
  exact h c j (by omega) (by omega)
theorem SC.congr {a : Nat} {σ : Int → Int} {M M' : am_M} (h : SC a σ M) (h1 : M' a = M a) (h2 : M' (a + 1) = M (a + 1)) (h3 : M' (a + 2) = M (a + 2)) : SC a σ M' := by
  unfold SC at h ⊢
  rw [h1, h2, h3]
  exact h
theorem pk_step {M : am_M} {σ : Int → Int} {f : Int} {m : Nat} (hrow : pk_row M σ f m) (hpk : sp_pk σ f (m : Int) = true) (hm : m < 12) :
    pk_row (am_up (am_up (am_up (am_up M 33 (f * 6 + M 32 f) (m : Int)) 34 (f * 6 + M 32 f) (sp_tp σ f (m : Int))) 35 (f * 6 + M 32 f) (sp_L σ f (m : Int))) 32 f (M 32 f + 1)) σ f (m + 1) ∧
    pk_fr M (am_up (am_up (am_up (am_up M 33 (f * 6 + M 32 f) (m : Int)) 34 (f * 6 + M 32 f) (sp_tp σ f (m : Int))) 35 (f * 6 + M 32 f) (sp_L σ f (m : Int))) 32 f (M 32 f + 1)) f := by
  obtain ⟨h1, h2⟩ := hrow
  have hl := (sp_pl_len σ f m).1
  have hl6 : (sp_pl σ f m).length < 6 := by
    have h9 := (sp_pl_len σ f (m + 1)).1
    rw [sp_pl_succ, hpk] at h9
    simp at h9
    omega
  refine ⟨⟨?_, fun k hk => ?_⟩, fun c j a b => ?_⟩
  · rw [sp_pl_succ, hpk]
    simp [am_up, h1]
  · rw [sp_pl_succ, hpk] at hk ⊢
    simp only [if_true, List.length_append, List.length_singleton] at hk ⊢
    by_cases hk2 : k < (sp_pl σ f m).length
    · rw [getD_app_lt hk2]
      obtain ⟨g1, g2, g3⟩ := h2 k hk2
      have hne : ¬ (6 * f + (k : Int) = f * 6 + M 32 f) := by omega
      simp only [am_up, hne, if_false]
      exact ⟨g1, g2, g3⟩
    · have hke : k = (sp_pl σ f m).length := by omega
      subst hke
      rw [getD_app_eq]
      have he : 6 * f + ((sp_pl σ f m).length : Int) = f * 6 + M 32 f := by omega
      simp [am_up, he]
  · simp only [am_up]
    by_cases hc : c = 32
    · subst hc
      simp at a b ⊢
      intro hj
      exact absurd hj a
    · by_cases hc3 : c = 33 ∨ c = 34 ∨ c = 35
      · have hj : ¬ (j = f * 6 + M 32 f) := by omega
        rcases hc3 with rfl | rfl | rfl <;> simp [hj]
      · have : c ≠ 33 ∧ c ≠ 34 ∧ c ≠ 35 := by omega
        simp [hc, this]
theorem c_lookAt {d : Nat} {M : am_M} {Q : Option Int → am_M → Prop} {σ : Int → Int} {f p : Int} {m : Nat} (hs : SC 1 σ M) (ho : sp_ok σ) (hf : 0 ≤ f ∧ f < 8) (hm : m < 12) (hp : p = (m : Int)) (hrow : pk_row M σ f m) (h : ∀ M', pk_row M' σ f (m + 1) → pk_fr M M' f → Q none M') : AC (d + 3) mX2_lookAt [.inr 31, .inr 1, .inl f, .inl p] M Q := by
  subst hp
  have h0 := ho.1
  have h1 := ho.2.1
  have h2 := ho.2.2.1
  have e0 : M 1 0 = σ 0 := hs.1
  have e1 : M 1 1 = σ 1 := hs.2.1
  have e2 : M 2 0 = σ 2 := hs.2.2.1
  have ok : ∀ q : Int, -2 ≤ q → q ≤ 14 → am_lvok (M 1 0) (M 1 1) f q := fun q a b => by unfold am_lvok; omega
  have rg : ∀ q : Int, am_r (sp_L σ f q) := fun q => by have := sp_L_r ho f q; omega
  have hn := (sp_pl_len σ f m).1
  refine sg_X2_lookAt ⟨ok _ (by omega) (by omega), ok _ (by omega) (by omega), ok _ (by omega) (by omega), ?_⟩
  simp only [hs.lv ho]
  rw [e2]
  refine ⟨⟨rg _, by omega, fun _ => ⟨rg _, fun _ => rg _⟩⟩, fun c => ?_, fun c => ⟨hf, ?_, ?_, ?_⟩⟩
  · refine h M ?_ (fun _ _ _ _ => rfl)
    have hq : sp_pk σ f (m : Int) = false := by
      cases hq : sp_pk σ f (m : Int) with
      | false => rfl
      | true => exact absurd (sp_pk_iff.mp hq) c
    unfold pk_row at hrow ⊢
    rw [sp_pl_succ, hq]
    simpa using hrow
  · rw [hrow.1]; omega
  · intro c6
    have hpk : sp_pk σ f (m : Int) = true := sp_pk_iff.mpr c
    have h9 := (sp_pl_len σ f (m + 1)).1
    rw [sp_pl_succ, hpk] at h9
    simp at h9
    have := hrow.1
    omega
  · intro c6
    have := hrow.1
    refine ⟨by omega, ⟨rg _, rg _⟩, ?_⟩
    obtain ⟨g1, g2⟩ := pk_step hrow (sp_pk_iff.mpr c) hm
    exact h _ g1 g2
/-- the class's peaks are those of σ -/
def PK (M : am_M) (σ : Int → Int) : Prop := ∀ f, 0 ≤ f → f < 8 → pk_row M σ f 12
theorem pk_row.other {M M' : am_M} {σ : Int → Int} {f g : Int} {m : Nat} (h : pk_row M σ g m) (hfr : pk_fr M M' f) (hne : g ≠ f) (hm : m ≤ 12) : pk_row M' σ g m := by
  have hl := (sp_pl_len σ g m).1
  refine ⟨?_, fun k hk => ?_⟩
  · rw [hfr 32 g (by omega) (by omega)]; exact h.1
  · obtain ⟨g1, g2, g3⟩ := h.2 k hk
    rw [hfr 33 _ (by omega) (by omega), hfr 34 _ (by omega) (by omega), hfr 35 _ (by omega) (by omega)]
    exact ⟨g1, g2, g3⟩
def pk_all (M M' : am_M) : Prop := ∀ c, c ≠ 32 → c ≠ 33 → c ≠ 34 → c ≠ 35 → M' c = M c
theorem c_find {d : Nat} {M : am_M} {Q : Option Int → am_M → Prop} {σ : Int → Int} (hs : SC 1 σ M) (ho : sp_ok σ) (h : ∀ M', PK M' σ → pk_all M M' → Q none M') : AC (d + 4) mX2_find [.inr 31, .inr 1] M Q := by
  refine sg_X2_find ?_
  have h1 := ho.2.1
  -- the inner loop
  have inner : ∀ (k m : Nat) (f : Int) (M' : am_M), (m : Int) + k = σ 1 → 0 ≤ f → f < 8 → SC 1 σ M' → pk_row M' σ f m → (∀ M2, SC 1 σ M2 → pk_row M2 σ f 12 → pk_fr M' M2 f → AW (d + 4) mX2_find 2 [(0, .inr 31), (1, .inr 1), (2, .inl (f + 1))] [] M2 Q) → AW (d + 4) mX2_find 17 [(0, .inr 31), (1, .inr 1), (2, .inl f), (3, .inl (m : Int))] [] M' Q := by
    intro k
    induction k with
    | zero =>
      intro m f M' hk f0 f8 hs' hrow kk
      have e1 : M' 1 1 = σ 1 := hs'.2.1
      refine sg_X2_find_17 ⟨by omega, by omega, fun _ => ?_, fun c => absurd c (by omega)⟩
      refine kk M' hs' ?_ (fun _ _ _ _ => rfl)
      unfold pk_row at hrow ⊢
      rw [← sp_pl_all ho f m (by omega)]
      exact hrow
    | succ k ih =>
      intro m f M' hk f0 f8 hs' hrow kk
      have e1 : M' 1 1 = σ 1 := hs'.2.1
      refine sg_X2_find_17 ⟨by omega, by omega, fun c => absurd c (by omega), fun _ => ?_⟩
      refine c_lookAt hs' ho ⟨f0, f8⟩ (by omega) rfl hrow (fun M2 r2 fr2 => ⟨rfl, ?_⟩)
      have hs2 : SC 1 σ M2 := hs'.congr (fr2.cell (by decide)) (fr2.cell (by decide)) (fr2.cell (by decide))
      have := ih (m + 1) f M2 (by omega) f0 f8 hs2 r2 (fun M3 a b c => kk M3 a b (fr2.trans c))
      simpa using this
  have outer : ∀ (k : Nat) (f : Int) (M' : am_M), 0 ≤ f → f + k = 8 → SC 1 σ M' → pk_all M M' → (∀ g, 0 ≤ g → g < f → pk_row M' σ g 12) → AW (d + 4) mX2_find 2 [(0, .inr 31), (1, .inr 1), (2, .inl f)] [] M' Q := by
    intro k
    induction k with
    | zero =>
      intro f M' f0 hk hs' ha hd
      refine sg_X2_find_2 ⟨by omega, fun _ => h M' (fun g g0 g8 => hd g g0 (by omega)) ha, fun c => absurd c (by omega)⟩
    | succ k ih =>
      intro f M' f0 hk hs' ha hd
      refine sg_X2_find_2 ⟨by omega, fun c => absurd c (by omega), fun _ => ⟨by omega, ?_⟩⟩
      have hfr0 : pk_fr M' (am_up M' 32 f 0) f := by
        intro c j a b
        by_cases hc : c = 32
        · subst hc; exact am_up_idx _ _ (by omega)
        · exact am_up_cell _ hc _ _ _
      have hsz : SC 1 σ (am_up M' 32 f 0) := hs'.congr (hfr0.cell (by decide)) (hfr0.cell (by decide)) (hfr0.cell (by decide))
      have := inner (σ 1).toNat 0 f (am_up M' 32 f 0) (by omega) f0 (by omega) hsz ⟨by simp [sp_pl, am_up], fun k hk => by simp [sp_pl] at hk⟩ (fun M2 hs2 r2 fr2 => ?_)
      · simpa using this
      · have fr3 := hfr0.trans fr2
        refine ih (f + 1) M2 (by omega) (by omega) hs2 (fun c a1 a2 a3 a4 => (fr3.cell ⟨a1, a2, a3, a4⟩).trans (ha c a1 a2 a3 a4)) (fun g g0 gf => ?_)
        by_cases hg : g = f
        · subst hg; exact r2
        · exact (hd g g0 (by omega)).other fr3 hg (by decide)
  exact outer 8 0 M (by omega) (by omega) hs (fun _ _ _ _ _ => rfl) (fun g a b => absurd b (by omega))
