/-! the class alone: 10b over the cells 0..61 -/
theorem c_lookAt_q {d : Nat} {M : am_M} {Q : Option Int → am_M → Prop} {σ : Int → Int} {f p : Int} {m : Nat} (hs : SC 1 σ M) (ho : sp_ok σ) (hf : 0 ≤ f ∧ f < 8) (hm : m < 12) (hp : p = (m : Int)) (hrow : pk_row M σ f m) (h : ∀ M', pk_row M' σ f (m + 1) → pk_fr M M' f → Q none M') : AC_q (d + 3) mX2_lookAt [.inr 31, .inr 1, .inl f, .inl p] M Q := by
  subst hp
  have h0 := ho.1
  have h1 := ho.2.1
  have h2 := ho.2.2.1
  have e0 : M 1 0 = σ 0 := hs.1
  have e1 : M 1 1 = σ 1 := hs.2.1
  have e2 : M 2 0 = σ 2 := hs.2.2.1
  have ok : ∀ q : Int, -2 ≤ q → q ≤ 14 → am_lvok (M 1 0) (M 1 1) f q := fun q a b => by unfold am_lvok; omega
  have rg : ∀ q : Int, am_r (sp_L σ f q) := fun q => by have := sp_L_r ho f q; omega
  have hn := (sp_pl_len σ f m).1
  refine sg_X2_lookAt_q ⟨ok _ (by omega) (by omega), ok _ (by omega) (by omega), ok _ (by omega) (by omega), ?_⟩
  simp only [hs.lv ho]
  rw [e2]
  refine ⟨⟨rg _, by omega, fun _ => ⟨rg _, fun _ => rg _⟩⟩, fun c => ?_, fun c => ⟨hf, ?_, ?_, ?_⟩⟩
  · refine h M ?_ (fun _ _ _ _ => rfl)
    have hq : sp_pk σ f (m : Int) = false := by
      cases hq : sp_pk σ f (m : Int) with
      | false => rfl
      | true => exact absurd (sp_pk_iff.mp hq) c
    unfold pk_row at hrow ⊢
    rw [sp_pl_succ, hq]
    simpa using hrow
  · rw [hrow.1]; omega
  · intro c6
    have hpk : sp_pk σ f (m : Int) = true := sp_pk_iff.mpr c
    have h9 := (sp_pl_len σ f (m + 1)).1
    rw [sp_pl_succ, hpk] at h9
    simp at h9
    have := hrow.1
    omega
  · intro c6
    have := hrow.1
    refine ⟨by omega, ⟨rg _, rg _⟩, ?_⟩
    obtain ⟨g1, g2⟩ := pk_step hrow (sp_pk_iff.mpr c) hm
    exact h _ g1 g2
theorem c_find_q {d : Nat} {M : am_M} {Q : Option Int → am_M → Prop} {σ : Int → Int} (hs : SC 1 σ M) (ho : sp_ok σ) (h : ∀ M', PK M' σ → pk_all M M' → Q none M') : AC_q (d + 4) mX2_find [.inr 31, .inr 1] M Q := by
  refine sg_X2_find_q ?_
  have h1 := ho.2.1
  -- the inner loop
  have inner : ∀ (k m : Nat) (f : Int) (M' : am_M), (m : Int) + k = σ 1 → 0 ≤ f → f < 8 → SC 1 σ M' → pk_row M' σ f m → (∀ M2, SC 1 σ M2 → pk_row M2 σ f 12 → pk_fr M' M2 f → AW_q (d + 4) mX2_find 2 [(0, .inr 31), (1, .inr 1), (2, .inl (f + 1))] [] M2 Q) → AW_q (d + 4) mX2_find 17 [(0, .inr 31), (1, .inr 1), (2, .inl f), (3, .inl (m : Int))] [] M' Q := by
    intro k
    induction k with
    | zero =>
      intro m f M' hk f0 f8 hs' hrow kk
      have e1 : M' 1 1 = σ 1 := hs'.2.1
      refine sg_X2_find_17_q ⟨by omega, by omega, fun _ => ?_, fun c => absurd c (by omega)⟩
      refine kk M' hs' ?_ (fun _ _ _ _ => rfl)
      unfold pk_row at hrow ⊢
      rw [← sp_pl_all ho f m (by omega)]
      exact hrow
    | succ k ih =>
      intro m f M' hk f0 f8 hs' hrow kk
      have e1 : M' 1 1 = σ 1 := hs'.2.1
      refine sg_X2_find_17_q ⟨by omega, by omega, fun c => absurd c (by omega), fun _ => ?_⟩
      refine c_lookAt_q hs' ho ⟨f0, f8⟩ (by omega) rfl hrow (fun M2 r2 fr2 => ⟨rfl, ?_⟩)
      have hs2 : SC 1 σ M2 := hs'.congr (fr2.cell (by decide)) (fr2.cell (by decide)) (fr2.cell (by decide))
      have := ih (m + 1) f M2 (by omega) f0 f8 hs2 r2 (fun M3 a b c => kk M3 a b (fr2.trans c))
      simpa using this
  have outer : ∀ (k : Nat) (f : Int) (M' : am_M), 0 ≤ f → f + k = 8 → SC 1 σ M' → pk_all M M' → (∀ g, 0 ≤ g → g < f → pk_row M' σ g 12) → AW_q (d + 4) mX2_find 2 [(0, .inr 31), (1, .inr 1), (2, .inl f)] [] M' Q := by
    intro k
    induction k with
    | zero =>
      intro f M' f0 hk hs' ha hd
      refine sg_X2_find_2_q ⟨by omega, fun _ => h M' (fun g g0 g8 => hd g g0 (by omega)) ha, fun c => absurd c (by omega)⟩
    | succ k ih =>
      intro f M' f0 hk hs' ha hd
      refine sg_X2_find_2_q ⟨by omega, fun c => absurd c (by omega), fun _ => ⟨by omega, ?_⟩⟩
      have hfr0 : pk_fr M' (am_up M' 32 f 0) f := by
        intro c j a b
        by_cases hc : c = 32
        · subst hc; exact am_up_idx _ _ (by omega)
        · exact am_up_cell _ hc _ _ _
      have hsz : SC 1 σ (am_up M' 32 f 0) := hs'.congr (hfr0.cell (by decide)) (hfr0.cell (by decide)) (hfr0.cell (by decide))
      have := inner (σ 1).toNat 0 f (am_up M' 32 f 0) (by omega) f0 (by omega) hsz ⟨by simp [sp_pl, am_up], fun k hk => by simp [sp_pl] at hk⟩ (fun M2 hs2 r2 fr2 => ?_)
      · simpa using this
      · have fr3 := hfr0.trans fr2
        refine ih (f + 1) M2 (by omega) (by omega) hs2 (fun c a1 a2 a3 a4 => (fr3.cell ⟨a1, a2, a3, a4⟩).trans (ha c a1 a2 a3 a4)) (fun g g0 gf => ?_)
        by_cases hg : g = f
        · subst hg; exact r2
        · exact (hd g g0 (by omega)).other fr3 hg (by decide)
  exact outer 8 0 M (by omega) (by omega) hs (fun _ _ _ _ _ => rfl) (fun g a b => absurd b (by omega))

/-! the class alone: 10e over the cells 0..61 -/
section CJ
variable {d : Nat} {M : am_M} {Q : Option Int → am_M → Prop} {A B : Int → Int} {n1 n2 re : Int}
theorem c_scoreAll_q (hj : JM M A B n1 n2 re) (hr : JR A B n1 n2 re) (h : ∀ M', (∀ c, c ≠ 40 → M' c = M c) → (∀ i j, 0 ≤ i → i ≤ n1 → 0 ≤ j → j ≤ n2 → M' 40 (7 * i + j) = jT A B n1 n2 re i j) → Q none M') : AC_q (d + 2) mX1_scoreAll [.inr 36] M Q := by
  have r1 := hr.1
  have r2 := hr.2.1
  have inner : ∀ (k : Nat) (i j : Int) (M' : am_M), j + 1 = k → 0 ≤ i → i < n1 → j < n2 → (∀ c, c ≠ 40 → M' c = M c) → (∀ a b, i < a → a ≤ n1 → 0 ≤ b → b ≤ n2 → M' 40 (7 * a + b) = jT A B n1 n2 re a b) → (∀ b, j < b → b ≤ n2 → M' 40 (7 * i + b) = jT A B n1 n2 re i b) → (∀ x, 0 ≤ x → x < 7 * i → M' 40 x = 0) →
      (∀ M2, (∀ c, c ≠ 40 → M2 c = M c) → (∀ a b, i ≤ a → a ≤ n1 → 0 ≤ b → b ≤ n2 → M2 40 (7 * a + b) = jT A B n1 n2 re a b) → (∀ x, 0 ≤ x → x < 7 * i → M2 40 x = 0) → AW_q (d + 2) mX1_scoreAll 15 [(0, .inr 36), (1, .inl (i + (-1)))] [] M2 Q) → AW_q (d + 2) mX1_scoreAll 26 [(0, .inr 36), (1, .inl i), (2, .inl j)] [] M' Q := by
    intro k
    induction k with
    | zero =>
      intro i j M' hk i0 i1 j1 fr hd hrow hz kk
      refine sg_X1_scoreAll_26_q ⟨by omega, fun _ => ?_, fun c => absurd c (by omega)⟩
      refine kk M' fr (fun a b ha ha2 hb hb2 => ?_) hz
      by_cases hai : a = i
      · subst hai; exact hrow b (by omega) hb2
      · exact hd a b (by omega) ha2 hb hb2
    | succ k ih =>
      intro i j M' hk i0 i1 j1 fr hd hrow hz kk
      have hj' : JM M' A B n1 n2 re := hj.congr (fr 36 (by decide)) (fr 38 (by decide)) (fr 39 (by decide))
      have t1 := hd (i + 1) (j + 1) (by omega) (by omega) (by omega) (by omega)
      have t2 := hd (i + 1) j (by omega) (by omega) (by omega) (by omega)
      have t3 := hrow (j + 1) (by omega) (by omega)
      have b1 := jT_r (A := A) (B := B) (n1 := n1) (n2 := n2) (re := re) (i := i + 1) (j := j) (by omega) r1.2
      have b2 := jT_r (A := A) (B := B) (n1 := n1) (n2 := n2) (re := re) (i := i) (j := j + 1) (by omega) r1.2
      have a1 := hr.2.2.2.1 i i0 i1
      have a2 := hr.2.2.2.2 j (by omega) j1
      have a3 := am_abs_r (A i - B j) (by omega)
      have b3 := jP_r (A := A) (B := B) (n1 := n1) (n2 := n2) (re := re) (i := i) (j := j) i0 r1.2 (by omega)
      have ps := hj'.ps ⟨i0, i1⟩ ⟨by omega, j1⟩ t1
      refine sg_X1_scoreAll_26_q ⟨by omega, fun c => absurd c (by omega), fun _ => ?_⟩
      rw [ps, show (i + 1) * 7 + j = 7 * (i + 1) + j by omega, show i * 7 + j + 1 = 7 * i + (j + 1) by omega, t2, t3]
      refine ⟨by omega, by omega, ⟨by omega, by omega⟩, hj'.psok hr ⟨i0, i1⟩ ⟨by omega, j1⟩, ⟨by omega, by omega⟩, by omega, ?_⟩
      rw [← jT_eq i1 j1, show i * 7 + j = 7 * i + j by omega, show j + (-1) = j - 1 by omega]
      refine ih i (j - 1) _ (by omega) i0 i1 (by omega) (fun c hc => by rw [am_up_ne _ _ _ _ _ hc]; exact fr c hc) (fun a b ha ha2 hb hb2 => ?_) (fun b hb hb2 => ?_) (fun x hx hx2 => ?_) kk
      · rw [am_up_idx _ _ (by omega)]; exact hd a b ha ha2 hb hb2
      · by_cases hbj : b = j
        · subst hbj; exact am_up_same _ _ _ _
        · rw [am_up_idx _ _ (by omega)]; exact hrow b (by omega) hb2
      · rw [am_up_idx _ _ (by omega)]; exact hz x hx hx2
  have outer : ∀ (k : Nat) (i : Int) (M' : am_M), i + 1 = k → i < n1 → (∀ c, c ≠ 40 → M' c = M c) → (∀ a b, i < a → a ≤ n1 → 0 ≤ b → b ≤ n2 → M' 40 (7 * a + b) = jT A B n1 n2 re a b) → (∀ x, 0 ≤ x → x < 7 * (i + 1) → M' 40 x = 0) → AW_q (d + 2) mX1_scoreAll 15 [(0, .inr 36), (1, .inl i)] [] M' Q := by
    intro k
    induction k with
    | zero =>
      intro i M' hk i1 fr hd hz
      refine sg_X1_scoreAll_15_q ⟨by omega, fun _ => h M' fr (fun a b ha ha2 hb hb2 => hd a b (by omega) ha2 hb hb2), fun c => absurd c (by omega)⟩
    | succ k ih =>
      intro i M' hk i1 fr hd hz
      refine sg_X1_scoreAll_15_q ⟨by omega, fun c => absurd c (by omega), fun _ => ?_⟩
      rw [fr 36 (by decide), hj.2.1]
      refine inner n2.toNat i (n2 - 1) M' (by omega) (by omega) i1 (by omega) fr hd (fun b hb hb2 => ?_) (fun x a b => hz x a (by omega)) (fun M2 fr2 hd2 hz2 => ?_)
      · rw [show b = n2 by omega, hz _ (by omega) (by omega), jT_out (Or.inr (Int.le_refl _))]
      · rw [show i + (-1) = i - 1 by omega]
        exact ih (i - 1) M2 (by omega) (by omega) fr2 (fun a b ha ha2 hb hb2 => hd2 a b (by omega) ha2 hb hb2) (fun x a b => hz2 x a (by omega))
  refine sg_X1_scoreAll_q ?_
  rw [hj.1]
  refine outer n1.toNat (n1 - 1) _ (by omega) (by omega) (fun c hc => ?_) (fun a b ha ha2 hb hb2 => ?_) (fun x hx hx2 => ?_)
  · funext j; simp [am_fill, hc]
  · rw [show a = n1 by omega, jT_out (Or.inl (Int.le_refl _))]
    simp only [am_fill, if_true]
    rw [if_pos (by omega)]
  · simp only [am_fill, if_true]
    rw [if_pos (by omega)]
theorem c_lowestMate_q (hj : JM M A B n1 n2 re) (hr : JR A B n1 n2 re) (ht : JT M A B n1 n2 re) {i fr : Int} (hi : 0 ≤ i ∧ i < n1) (hf : 0 ≤ fr ∧ fr ≤ n2) (h : Q (some (jF (fun j => decide (jP A B n1 n2 re i j = jT A B n1 n2 re i fr)) fr (n2 - fr).toNat)) M) : AC_q (d + 2) mX1_lowestMate [.inr 36, .inl i, .inl fr] M Q := by
  have r1 := hr.1
  have r2 := hr.2.1
  refine sg_X1_lowestMate_q ?_
  have key : ∀ (k : Nat) (j : Int), j + k = n2 → fr ≤ j → Q (some (jF (fun j => decide (jP A B n1 n2 re i j = jT A B n1 n2 re i fr)) j (n2 - j).toNat)) M → AW_q (d + 2) mX1_lowestMate 2 [(0, .inr 36), (1, .inl i), (2, .inl fr), (3, .inl j)] [] M Q := by
    intro k
    induction k with
    | zero =>
      intro j hk hf2 hq
      refine sg_X1_lowestMate_2_q ⟨by omega, by rw [hj.2.1]; omega, fun _ => ?_, fun c => absurd c (by rw [hj.2.1]; omega)⟩
      rw [show (n2 - j).toNat = 0 by omega] at hq
      exact hq
    | succ k ih =>
      intro j hk hf2 hq
      have ps := hj.ps hi ⟨by omega, by omega⟩ (ht (i + 1) (j + 1) (by omega) (by omega) (by omega) (by omega)) (j := j)
      have a1 := hr.2.2.2.1 i hi.1 hi.2
      have a2 := hr.2.2.2.2 j (by omega) (by omega)
      have a3 := am_abs_r (A i - B j) (by omega)
      have b3 := jP_r (A := A) (B := B) (n1 := n1) (n2 := n2) (re := re) (i := i) (j := j) hi.1 r1.2 (by omega)
      have b1 := jT_r (A := A) (B := B) (n1 := n1) (n2 := n2) (re := re) (i := i) (j := fr) hi.1 r1.2
      have t1 := ht i fr hi.1 (by omega) hf.1 hf.2
      rw [show (n2 - j).toNat = (n2 - (j + 1)).toNat + 1 by omega, jF] at hq
      refine sg_X1_lowestMate_2_q ⟨by omega, by rw [hj.2.1]; omega, fun c => absurd c (by rw [hj.2.1]; omega), fun _ => ?_⟩
      rw [ps, show i * 7 + fr = 7 * i + fr by omega, t1]
      refine ⟨hj.psok hr hi ⟨by omega, by omega⟩, by omega, by omega, by omega, fun c => ?_, fun c => ?_⟩
      · rw [if_neg (by simpa using c)] at hq
        exact ih (j + 1) (by omega) (by omega) hq
      · rw [if_pos (by simpa using c)] at hq
        exact hq
  exact key (n2 - fr).toNat fr (by omega) (by omega) h
theorem c_chooseMates_q (hj : JM M A B n1 n2 re) (hr : JR A B n1 n2 re) (ht : JT M A B n1 n2 re) (h : ∀ M', (∀ c, c ≠ 37 → M' c = M c) → (∀ k, 0 ≤ k → k < n1 → M' 37 k = jm A B n1 n2 re k) → Q (some (jc A B n1 n2 re n1.toNat)) M') : AC_q (d + 3) mX1_chooseMates [.inr 36] M Q := by
  have r1 := hr.1
  have r2 := hr.2.1
  have key : ∀ (k i : Nat) (M' : am_M), (i : Int) + k = n1 → (∀ c, c ≠ 37 → M' c = M c) → (∀ a : Nat, a < i → M' 37 (a : Int) = jm A B n1 n2 re (a : Int)) → (∀ a : Int, i ≤ a → a < 6 → M' 37 a = -9) → AW_q (d + 3) mX1_chooseMates 15 [(0, .inr 36), (1, .inl (jc A B n1 n2 re i)), (2, .inl (jfr A B n1 n2 re i)), (3, .inl (i : Int))] [] M' Q := by
    intro k
    induction k with
    | zero =>
      intro i M' hk fr hd hz
      have e4 : M' 36 4 = n1 := by rw [fr 36 (by decide)]; exact hj.1
      refine sg_X1_chooseMates_15_q ⟨by omega, by omega, fun _ => ?_, fun c => absurd c (by omega)⟩
      have hq := h M' fr (fun a a0 a1 => ?_)
      · rw [show n1.toNat = i by omega] at hq; exact hq
      · have := hd a.toNat (by omega)
        rw [show ((a.toNat : Nat) : Int) = a by omega] at this
        exact this
    | succ k ih =>
      intro i M' hk fr hd hz
      have e4 : M' 36 4 = n1 := by rw [fr 36 (by decide)]; exact hj.1
      have hj' : JM M' A B n1 n2 re := hj.congr (fr 36 (by decide)) (fr 38 (by decide)) (fr 39 (by decide))
      have ht' : JT M' A B n1 n2 re := fun a b x1 x2 x3 x4 => by rw [fr 40 (by decide)]; exact ht a b x1 x2 x3 x4
      have hf := jfr_r (A := A) (B := B) (n1 := n1) (re := re) r2.1 i
      have hm := jm_r (A := A) (B := B) (n1 := n1) (re := re) r2.1 i
      have em : jF (fun j => decide (jP A B n1 n2 re (i : Int) j = jT A B n1 n2 re (i : Int) (jfr A B n1 n2 re i))) (jfr A B n1 n2 re i) (n2 - jfr A B n1 n2 re i).toNat = jm A B n1 n2 re (i : Int) := rfl
      refine sg_X1_chooseMates_15_q ⟨by omega, by omega, fun c => absurd c (by omega), fun _ => ?_⟩
      refine c_lowestMate_q hj' hr ht' ⟨by omega, by omega⟩ hf ⟨_, rfl, ?_⟩
      rw [em]
      refine ⟨by omega, fun c => ?_, fun c => ⟨by omega, ?_⟩⟩
      · have e1 : jc A B n1 n2 re (i + 1) = jc A B n1 n2 re i := by rw [jc, if_pos c]; omega
        have e2 : jfr A B n1 n2 re (i + 1) = jfr A B n1 n2 re i := by rw [jfr_succ, if_pos c]
        have := ih (i + 1) M' (by omega) fr (fun a ha => ?_) (fun a ha ha2 => hz a (by omega) ha2)
        · rw [e1, e2] at this; simpa using this
        · by_cases hai : a = i
          · subst hai; rw [hz _ (by omega) (by omega), c]
          · exact hd a (by omega)
      · have e1 : jc A B n1 n2 re (i + 1) = jc A B n1 n2 re i + 1 := by rw [jc, if_neg c]
        have e2 : jfr A B n1 n2 re (i + 1) = jm A B n1 n2 re (i : Int) + 1 := by rw [jfr_succ, if_neg c]
        have := ih (i + 1) (am_up M' 37 (i : Int) (jm A B n1 n2 re (i : Int))) (by omega) (fun c hc => by rw [am_up_ne _ _ _ _ _ hc]; exact fr c hc) (fun a ha => ?_) (fun a ha ha2 => ?_)
        · rw [e1, e2] at this; simpa using this
        · by_cases hai : a = i
          · subst hai; exact am_up_same _ _ _ _
          · rw [am_up_idx _ _ (by omega)]; exact hd a (by omega)
        · rw [am_up_idx _ _ (by omega)]; exact hz a (by omega) ha2
  refine sg_X1_chooseMates_q ?_
  have := key n1.toNat 0 (am_fill M 37 6 (-9)) (by omega) (fun c hc => by funext j; simp [am_fill, hc]) (fun a ha => absurd ha (by omega)) (fun a ha ha2 => by simp only [am_fill, if_true]; rw [if_pos (by omega)])
  simpa [jc, jfr] using this
end CJ
theorem c_copyPitches_q {d : Nat} {M : am_M} {Q : Option Int → am_M → Prop} {σ : Int → Int} {c : Nat} (hc : am_sh_q[c]? = some (.inl (0, 6))) (hc2 : c ≠ 32 ∧ c ≠ 33 ∧ c ≠ 34 ∧ c ≠ 35) (ho : sp_ok σ) (hp : PK M σ) {f : Int} (hf : 0 ≤ f ∧ f < 9) (h : ∀ M', (∀ x, x ≠ c → M' x = M x) → (∀ k, 0 ≤ k → k < sp_n σ f → M' c k = sp_t σ f k) → Q (some (sp_n σ f)) M') : AC_q (d + 1) mX1_copyPitches [.inr 31, .inl f, .inr c] M Q := by
  have hn := sp_n_r σ f
  have h0 := ho.1
  refine sg_X1_copyPitches_q hc ⟨by omega, fun c => absurd c (by omega), fun _ => ⟨fun c8 => ?_, fun c8 => ?_⟩⟩
  · have e := hp.n (f := f) ⟨by omega, c8⟩
    rw [e]
    refine ⟨by omega, by omega, h _ (fun x hx => am_cp_ne _ _ _ _ _ _ _ hx) (fun k k0 k1 => ?_)⟩
    rw [am_cp_in _ _ _ _ (by omega), show f * 6 + (k - 0) = 6 * f + k by omega]
    exact (hp.at ⟨by omega, c8⟩ ⟨k0, k1⟩).2.1
  · have e : sp_n σ f = 0 := sp_n_out ho (by omega)
    rw [e] at h
    exact h M (fun _ _ => rfl) (fun k k0 k1 => absurd k1 (by omega))
/-- the class's join: mates in 37, the number of pairs -/
theorem c_join_q {d : Nat} {M : am_M} {Q : Option Int → am_M → Prop} {σ : Int → Int} (ho : sp_ok σ) (hp : PK M σ) {f re : Int} (hf : 0 ≤ f ∧ f < 8) (hre : 0 ≤ re ∧ re ≤ 20) (h : ∀ M', (∀ x, x < 36 ∨ 40 < x → M' x = M x) → (∀ k, 0 ≤ k → k < sp_n σ f → M' 37 k = sp_m σ re f k) → Q (some (sp_c σ re f)) M') : AC_q (d + 4) mX1_join [.inr 36, .inr 31, .inl f, .inl re] M Q := by
  have pkc : ∀ {M1 M2 : am_M}, PK M1 σ → (∀ x, 32 ≤ x → x ≤ 35 → M2 x = M1 x) → PK M2 σ := fun {M1 M2} h1 h2 g a b => by
    have := h1 g a b
    unfold pk_row at this ⊢
    rw [h2 32 (by decide) (by decide), h2 33 (by decide) (by decide), h2 34 (by decide) (by decide), h2 35 (by decide) (by decide)]
    exact this
  refine sg_X1_join_q ?_
  refine c_copyPitches_q rfl (by decide) ho (pkc hp (fun x a b => am_up_ne _ _ _ _ _ (by omega))) ⟨hf.1, by omega⟩ (fun M1 g1 g2 => ⟨_, rfl, ?_⟩)
  have f1 : ∀ x, x ≠ 36 → x ≠ 38 → (am_up M1 36 4 (sp_n σ f)) x = M x := fun x a b => by rw [am_up_ne _ _ _ _ _ a, g1 x b, am_up_ne _ _ _ _ _ a]
  refine c_copyPitches_q rfl (by decide) ho (pkc hp (fun x a b => f1 x (by omega) (by omega))) ⟨by omega, by omega⟩ (fun M2 g3 g4 => ⟨_, rfl, ?_⟩)
  have hj : JM (am_up M2 36 5 (sp_n σ (f + 1))) (sp_t σ f) (sp_t σ (f + 1)) (sp_n σ f) (sp_n σ (f + 1)) re := by
    refine ⟨?_, am_up_same _ _ _ _, ?_, fun i a b => ?_, fun j a b => ?_⟩
    · rw [am_up_idx _ _ (by decide), g3 36 (by decide), am_up_same]
    · rw [am_up_idx _ _ (by decide), g3 36 (by decide), am_up_idx _ _ (by decide), g1 36 (by decide), am_up_same]
    · rw [am_up_cell _ (by decide), g3 38 (by decide), am_up_cell _ (by decide)]; exact g2 i a b
    · rw [am_up_cell _ (by decide)]; exact g4 j a b
  have hr := sp_JR ho f hre
  refine c_scoreAll_q hj hr (fun M3 g5 g6 => ⟨rfl, ?_⟩)
  have hj3 := hj.congr (g5 36 (by decide)) (g5 38 (by decide)) (g5 39 (by decide))
  refine c_chooseMates_q hj3 hr g6 (fun M4 g7 g8 => ⟨_, rfl, ?_⟩)
  refine h M4 (fun x hx => ?_) g8
  rw [g7 x (by omega), g5 x (by omega), am_up_ne _ _ _ _ _ (by omega), g3 x (by omega)]
  exact f1 x (by omega) (by omega)

/-! the class alone: 10i over the cells 0..61 -/
section CF
variable {σ : Int → Int} {re : Int}
theorem c_addPeak_q {d : Nat} {M : am_M} {Q : Option Int → am_M → Prop} {f k : Nat} {x : Int} (hx : x = 6 * f + k) (ho : sp_ok σ) (hre : 0 ≤ re ∧ re ≤ 20) (hp : PK M σ) (h : TRq M σ re f k (k + 1)) (hf : f < 8) (hk : (k : Int) < sp_n σ (f : Int)) (hQ : ∀ M', (∀ c, c ≠ 43 → c ≠ 47 → c ≠ 48 → c ≠ 49 → M' c = M c) → TRq M' σ re f (k + 1) (k + 1) → Q none M') : AC_q d mX6_addPeak [.inr 41, .inr 31, .inl x, .inl (f : Int)] M Q := by
  subst hx
  have hn := sp_n_r σ (f : Int)
  have e49 : M 49 (6 * f + k) = tr σ re f k := by rw [h.2.2.1 hf k (by omega), if_pos (by omega)]
  have e50 : M 50 (6 * f + k) = sp_m σ re f k := h.2.2.2.1 k (by omega)
  have e41 : M 41 0 = tC σ re f + tk_cnt (tk σ re f).1 (k + 1) := h.1
  have t1 := tr_cnt (σ := σ) (re := re) hk
  have t2 := tcnt_48 (σ := σ) (re := re) hf (q := k + 1) (by omega)
  obtain ⟨-, pt, pl⟩ := hp.at (f := (f : Int)) (k := (k : Int)) ⟨by omega, by omega⟩ ⟨by omega, hk⟩
  have n2 := sp_n_r σ ((f : Int) + 1)
  have hm := jm_r (A := sp_t σ f) (B := sp_t σ (f + 1)) (n1 := sp_n σ f) (re := re) n2.1 k
  have hm' : sp_m σ re f k = -9 ∨ (0 ≤ sp_m σ re f k ∧ sp_m σ re f k < 6) := by
    have := jfr_r (A := sp_t σ f) (B := sp_t σ (f + 1)) (n1 := sp_n σ f) (re := re) n2.1 k
    unfold sp_m
    omega
  refine sg_X6_addPeak_q ?_
  rw [e49, e50, pt, pl]
  refine ⟨by omega, by omega, fun c => absurd c (by omega), fun _ => ⟨by omega, fun _ => ⟨by omega, by omega, by omega, fun c => ?_, fun c => ⟨by omega, fun c8 => ?_, fun c8 => ⟨by omega, ?_⟩⟩⟩, fun c => absurd c (by omega)⟩⟩
  · refine hQ _ (fun z a1 a2 a3 a4 => by rw [am_up_ne _ _ _ _ _ a3, am_up_ne _ _ _ _ _ a2, am_up_ne _ _ _ _ _ a1]) (tr_add0 h hf hk rfl (by omega) rfl rfl rfl rfl rfl rfl rfl rfl (fun g y hy => ?_))
    rw [if_neg (by omega)]
    rfl
  · refine hQ _ (fun z a1 a2 a3 a4 => by rw [am_up_ne _ _ _ _ _ a3, am_up_ne _ _ _ _ _ a2, am_up_ne _ _ _ _ _ a1]) (tr_add0 h hf hk rfl (by omega) rfl rfl rfl rfl rfl rfl rfl rfl (fun g y hy => ?_))
    rw [if_neg (by omega)]
    rfl
  · refine hQ _ (fun z a1 a2 a3 a4 => by rw [am_up_ne _ _ _ _ _ a4, am_up_ne _ _ _ _ _ a3, am_up_ne _ _ _ _ _ a2, am_up_ne _ _ _ _ _ a1]) (tr_add0 h hf hk rfl (by omega) rfl rfl rfl rfl rfl rfl rfl rfl (fun g y hy => ?_))
    by_cases hc : g = f + 1 ∧ f + 1 < 8 ∧ sp_m σ re f k ≠ -9 ∧ sp_m σ re f k = y
    · rw [if_pos hc]
      obtain ⟨rfl, -, -, he⟩ := hc
      rw [show 6 * ((f + 1 : Nat) : Int) + (y : Int) = ((f : Int) + 1) * 6 + sp_m σ re f k by omega, am_up_same]
    · rw [if_neg hc, am_up_idx _ _ (by omega)]
      rfl
theorem c_measure_q {d : Nat} {M : am_M} {Q : Option Int → am_M → Prop} (ho : sp_ok σ) {n : Int} (h0 : 0 ≤ n) (h : n < tC σ re 8) (e41 : M 41 0 = tC σ re 8) (e42 : M 42 n = tB σ re n) (e43 : M 43 n = tLN σ re 8 n) (e48 : ∀ g : Nat, g < 8 → M 48 (8 * n + g) = tPI σ re g n) (hQ : ∀ M', (∀ c, c ≠ 44 → c ≠ 45 → c ≠ 46 → M' c = M c) → (∀ c j, j ≠ n → M' c j = M c j) → M' 44 n = tD σ re n → M' 45 n = tT σ re n → M' 46 n = tK σ re n → Q none M') : AC_q (d + 1) mX6_measure [.inr 41, .inl n] M Q := by
  obtain ⟨b, e, hb, he, hE, hbe, hr, hq⟩ := tq_r ho h0 h
  have hC := tC_r (σ := σ) (re := re) 8
  have pi : ∀ M' : am_M, M' 41 = M 41 → M' 48 = M 48 → ∀ g : Nat, g < 8 → am_pi (M' 41 0) (M' 48) n (g : Int) = tPI σ re g n := by
    intro M' h1 h2 g hg
    unfold am_pi
    rw [h1, h2, e41, if_pos (by omega), show n * 8 + (g : Int) = 8 * n + g by omega]
    exact e48 g hg
  have key : ∀ (t m : Nat) (M' : am_M), m + t = e → (∀ c, c ≠ 45 → M' c = M c) → (∀ j, j ≠ n → M' 45 j = M 45 j) → M' 45 n = ms_tu (tq σ re n) m → AW_q (d + 1) mX6_measure 40 [(0, .inr 41), (1, .inl n), (2, .inl (tq σ re n m)), (3, .inl (ms_lw (tq σ re n) m)), (4, .inl (ms_hg (tq σ re n) m)), (5, .inl (ms_mo (tq σ re n) m)), (6, .inl (ms_la (tq σ re n) m)), (7, .inl ((b : Int) + m + 1))] [] M' Q := by
    intro t
    induction t with
    | zero =>
      intro m M' hm fr fr2 htu
      have hme : m = e := by omega
      subst hme
      have b42 : M' 42 n = b := by rw [fr 42 (by decide), e42, hb]
      have b43 : M' 43 n = (m : Int) + 1 := by rw [fr 43 (by decide), e43, he]
      have rr := ms_r (tq σ re n) hr m (by omega)
      refine sg_X6_measure_40_q ⟨by omega, by omega, by omega, fun _ => ?_, fun c => absurd c (by omega)⟩
      rw [am_up_same, htu]
      refine ⟨⟨by omega, by omega, by omega, by omega⟩, hQ _ (fun c a1 a2 a3 => by rw [am_up_ne _ _ _ _ _ a3, am_up_ne _ _ _ _ _ a1, fr c a2]) (fun c j hj => ?_) ?_ ?_ ?_⟩
      · by_cases hc6 : c = 46
        · subst hc6; rw [am_up_idx _ _ hj, am_up_cell _ (by decide), fr 46 (by decide)]
        · rw [am_up_cell _ hc6]
          by_cases hc4 : c = 44
          · subst hc4; rw [am_up_idx _ _ hj, fr 44 (by decide)]
          · rw [am_up_cell _ hc4]
            by_cases hc5 : c = 45
            · subst hc5; exact fr2 j hj
            · rw [fr c hc5]
      · rw [am_up_cell _ (by decide), am_up_same]; unfold tD; rw [hE]
      · rw [am_up_cell _ (by decide), am_up_cell _ (by decide), htu]; unfold tT; rw [hE]
      · rw [am_up_same]; unfold tK tD tT tM; rw [hE]
    | succ t ih =>
      intro m M' hm fr fr2 htu
      have b42 : M' 42 n = b := by rw [fr 42 (by decide), e42, hb]
      have b43 : M' 43 n = (e : Int) + 1 := by rw [fr 43 (by decide), e43, he]
      have b41 : M' 41 0 = tC σ re 8 := by rw [fr 41 (by decide), e41]
      have rr := ms_r (tq σ re n) hr m (by omega)
      have r0 := hr m (by omega)
      have r1 := hr (m + 1) (by omega)
      have hcmp := am_cmp_r (tq σ re n (m + 1)) (tq σ re n m)
      have ep : am_pi (M' 41 0) (M' 48) n ((b : Int) + m + 1) = tq σ re n (m + 1) := by
        have := pi M' (fr 41 (by decide)) (fr 48 (by decide)) (b + (m + 1)) (by omega)
        rw [show ((b + (m + 1) : Nat) : Int) = (b : Int) + m + 1 by omega] at this
        rw [this, hq]
      refine sg_X6_measure_40_q ⟨by omega, by omega, by omega, fun c => absurd c (by omega), fun _ => ?_⟩
      rw [ep]
      have go : ∀ M2 : am_M, (∀ c, c ≠ 45 → M2 c = M c) → (∀ j, j ≠ n → M2 45 j = M 45 j) → M2 45 n = ms_tu (tq σ re n) (m + 1) → AW_q (d + 1) mX6_measure 40 [(0, .inr 41), (1, .inl n), (2, .inl (tq σ re n (m + 1))), (3, .inl (min (ms_lw (tq σ re n) m) (tq σ re n (m + 1)))), (4, .inl (max (ms_hg (tq σ re n) m) (tq σ re n (m + 1)))), (5, .inl (ms_mo (tq σ re n) (m + 1))), (6, .inl (ms_la (tq σ re n) (m + 1))), (7, .inl ((b : Int) + m + 1 + 1))] [] M2 Q := by
        intro M2 g1 g2 g3
        have := ih (m + 1) M2 (by omega) g1 g2 g3
        rw [show ((b : Int) + ((m + 1 : Nat) : Int) + 1) = (b : Int) + m + 1 + 1 by omega] at this
        exact this
      refine ⟨⟨by omega, by omega, by omega, by omega⟩, ⟨by omega, by omega⟩, ⟨by omega, by omega⟩, ⟨by omega, by omega⟩, by omega, fun c => ?_, fun c => ⟨by omega, by omega, fun c2 => ?_, fun c2 => ?_⟩⟩
      · have x1 : ms_mo (tq σ re n) (m + 1) = ms_mo (tq σ re n) m := by rw [ms_mo, if_pos c]; omega
        have x2 : ms_la (tq σ re n) (m + 1) = ms_la (tq σ re n) m := by rw [ms_la, if_pos c]
        have x3 : ms_tu (tq σ re n) (m + 1) = ms_tu (tq σ re n) m := by rw [ms_tu, if_neg (fun z => z.1 c)]; omega
        have := go M' fr fr2 (by rw [htu, x3])
        rw [x1, x2] at this
        exact this
      · have x1 : ms_mo (tq σ re n) (m + 1) = ms_mo (tq σ re n) m + 1 := by rw [ms_mo, if_neg c]
        have x2 : ms_la (tq σ re n) (m + 1) = am_cmp (tq σ re n (m + 1)) (tq σ re n m) := by rw [ms_la, if_neg c]
        have x3 : ms_tu (tq σ re n) (m + 1) = ms_tu (tq σ re n) m := by rw [ms_tu, if_neg (fun z => c2 z.2)]; omega
        have := go M' fr fr2 (by rw [htu, x3])
        rw [x1, x2] at this
        exact this
      · have x1 : ms_mo (tq σ re n) (m + 1) = ms_mo (tq σ re n) m + 1 := by rw [ms_mo, if_neg c]
        have x2 : ms_la (tq σ re n) (m + 1) = am_cmp (tq σ re n (m + 1)) (tq σ re n m) := by rw [ms_la, if_neg c]
        have x3 : ms_tu (tq σ re n) (m + 1) = ms_tu (tq σ re n) m + 1 := by rw [ms_tu, if_pos ⟨c, c2⟩]
        have := go (am_up M' 45 n (M' 45 n + 1)) (fun c hc => by rw [am_up_ne _ _ _ _ _ hc, fr c hc]) (fun j hj => by rw [am_up_idx _ _ hj, fr2 j hj]) (by rw [am_up_same, htu, x3])
        rw [x1, x2] at this
        exact this
  have ep : am_pi (M 41 0) (M 48) n (M 42 n) = tq σ re n 0 := by
    rw [e42, hb, pi M rfl rfl b (by omega), hq]
    rfl
  refine sg_X6_measure_q ⟨by omega, ⟨by omega, by omega, by omega, by omega⟩, ?_⟩
  rw [ep, e42, hb]
  have := key e 0 (am_up M 45 n 0) (by omega) (fun c hc => am_up_ne _ _ _ _ _ hc) (fun j hj => am_up_idx _ _ hj) (am_up_same _ _ _ _)
  simpa [ms_lw, ms_hg, ms_mo, ms_la] using this
theorem c_follow_q {d : Nat} {M : am_M} {Q : Option Int → am_M → Prop} (ho : sp_ok σ) (hp : PK M σ) (hre : 0 ≤ re ∧ re ≤ 20) (hQ : ∀ M', (∀ c, c < 36 ∨ 50 < c → M' c = M c) → TR M' σ re → Q none M') : AC_q (d + 5) mX6_follow [.inr 41, .inr 31, .inr 36, .inl re] M Q := by
  have hC8 := tC_r (σ := σ) (re := re) 8
  have pkc : ∀ M' : am_M, (∀ c, c < 36 ∨ 50 < c → M' c = M c) → PK M' σ := fun M' fr g a b => by
    have := hp g a b
    unfold pk_row at this ⊢
    rw [fr 32 (by decide), fr 33 (by decide), fr 34 (by decide), fr 35 (by decide)]
    exact this
  -- the last loop: each track is measured
  have meas : ∀ (t : Nat) (n : Int) (M' : am_M), 0 ≤ n → n + t = tC σ re 8 → (∀ c, c < 36 ∨ 50 < c → M' c = M c) → TRq M' σ re 8 0 0 → (∀ a, 0 ≤ a → a < n → M' 44 a = tD σ re a ∧ M' 45 a = tT σ re a ∧ M' 46 a = tK σ re a) → AW_q (d + 5) mX6_follow 125 [(0, .inr 41), (4, .inl n)] [] M' Q := by
    intro t
    induction t with
    | zero =>
      intro n M' n0 hn fr htr hd
      have e41 : M' 41 0 = tC σ re 8 := by rw [htr.1]; simp [tk_cnt]
      refine sg_X6_follow_125_q ⟨by omega, by omega, fun _ => hQ M' fr ⟨e41, fun f x hf hx => htr.2.1 f x hf hx, fun a a0 a1 => ⟨?_, hd a a0 (by omega)⟩, fun a g a0 a1 hg => ?_⟩, fun c => absurd c (by omega)⟩
      · have := htr.2.2.2.2.2.2.1 a a0 (by omega)
        rw [tPK_0] at this
        simpa using this
      · have := htr.2.2.2.2.2.2.2 a g a0 a1 hg
        rw [if_pos hg] at this
        exact this
    | succ t ih =>
      intro n M' n0 hn fr htr hd
      have e41 : M' 41 0 = tC σ re 8 := by rw [htr.1]; simp [tk_cnt]
      have h7 := htr.2.2.2.2.2.2.1 n n0 (by omega)
      rw [tPK_0] at h7
      refine sg_X6_follow_125_q ⟨by omega, by omega, fun c => absurd c (by omega), fun _ => ?_⟩
      refine c_measure_q ho n0 (by omega) e41 h7.1 (by simpa using h7.2.1) (fun g hg => ?_) (fun M2 f1 f2 f3 f4 f5 => ⟨rfl, ?_⟩)
      · have := htr.2.2.2.2.2.2.2 n g n0 (by omega) hg
        rw [if_pos hg] at this
        exact this
      · refine ih (n + 1) M2 (by omega) (by omega) (fun c hc => by rw [f1 c (by omega) (by omega) (by omega), fr c hc]) ?_ (fun a a0 a1 => ?_)
        · unfold TRq at htr ⊢
          rw [f1 41 (by decide) (by decide) (by decide), f1 42 (by decide) (by decide) (by decide), f1 43 (by decide) (by decide) (by decide), f1 47 (by decide) (by decide) (by decide), f1 48 (by decide) (by decide) (by decide), f1 49 (by decide) (by decide) (by decide), f1 50 (by decide) (by decide) (by decide)]
          exact htr
        · by_cases han : a = n
          · subst han; exact ⟨f3, f4, f5⟩
          · rw [f2 44 a han, f2 45 a han, f2 46 a han]; exact hd a a0 (by omega)
  -- one frame
  have inner : ∀ (t f k : Nat) (M' : am_M), f < 8 → (k : Int) + t = sp_n σ (f : Int) → (∀ c, c < 36 ∨ 50 < c → M' c = M c) → (∀ a : Int, 0 ≤ a → a < sp_n σ (f : Int) → M' 37 a = sp_m σ re f a) → TRq M' σ re f k k → (∀ M2, (∀ c, c < 36 ∨ 50 < c → M2 c = M c) → TRq M2 σ re (f + 1) 0 0 → AW_q (d + 5) mX6_follow 26 [(0, .inr 41), (1, .inr 31), (2, .inr 36), (3, .inl re), (4, .inl ((f : Int) + 1))] [] M2 Q) → AW_q (d + 5) mX6_follow 45 [(0, .inr 41), (1, .inr 31), (2, .inr 36), (3, .inl re), (4, .inl (f : Int)), (5, .inl (k : Int))] [] M' Q := by
    intro t
    induction t with
    | zero =>
      intro f k M' hf hk fr hj htr kk
      have hn := sp_n_r σ (f : Int)
      have e32 : M' 32 f = sp_n σ f := (pkc M' fr).n ⟨by omega, by omega⟩
      refine sg_X6_follow_45_q ⟨by omega, by omega, by omega, fun _ => kk M' fr ?_, fun c => absurd c (by omega)⟩
      obtain ⟨h1, h2, h3, h4, h5, h6, h7, h8⟩ := htr
      have ek : (sp_n σ (f : Int)).toNat = k := by omega
      have e0 : tk_cnt (tk σ re (f + 1)).1 0 = 0 := rfl
      refine ⟨?_, fun g x hg hx => ?_, fun _ x hx => ?_, fun x hx => absurd hx (by omega), fun _ x hx => ?_, fun g x hg hg8 hx => h6 g x (by omega) hg8 hx, fun n n0 n1 => ?_, fun n g n0 n1 hg => ?_⟩
      · rw [h1, tC_succ, ek, e0]; omega
      · by_cases hgf : g = f
        · subst hgf
          have := h3 hf x (by omega)
          rw [if_pos (by omega)] at this
          exact ⟨this, h4 x (by omega)⟩
        · exact h2 g x (by omega) hx
      · rw [if_neg (by omega)]
        have := h5 (by omega) x hx
        rw [show 6 * ((f + 1 : Nat) : Int) + (x : Int) = 6 * ((f : Int) + 1) + x by omega, this, ← ek]
        rfl
      · have := h6 (f + 2) x (by omega) (by omega) hx
        rw [show 6 * (((f + 1 : Nat) : Int) + 1) + (x : Int) = 6 * ((f + 2 : Nat) : Int) + x by omega, this]
        rfl
      · obtain ⟨g1, g2, g3⟩ := h7 n n0 n1
        have ep : tPK σ re f k n = tP σ re f n := by unfold tP; rw [ek]
        rw [ep] at g2 g3
        rw [tPK_0]
        refine ⟨g1, ?_, ?_⟩
        · rw [g2, tLN]; simp
        · rw [g3, tLL]; simp
      · have g8 := h8 n g n0 n1 hg
        have ep : tPK σ re f k n = tP σ re f n := by unfold tP; rw [ek]
        rw [g8, ep, tPK_0]
        by_cases hgf : g = f
        · subst hgf
          rw [if_neg (Nat.lt_irrefl g), if_pos rfl, if_pos (show g < g + 1 by omega)]
          rfl
        · by_cases hlt : g < f
          · rw [if_pos hlt, if_pos (by omega)]
          · rw [if_neg hlt, if_neg hgf, if_neg (by omega)]
            split <;> rfl
    | succ t ih =>
      intro f k M' hf hk fr hj htr kk
      have hn := sp_n_r σ (f : Int)
      have hp' := pkc M' fr
      have e32 : M' 32 f = sp_n σ f := hp'.n ⟨by omega, by omega⟩
      have e49 : M' 49 ((f : Int) * 6 + k) = (tk σ re f).1 k := by
        rw [show (f : Int) * 6 + k = 6 * f + k by omega, htr.2.2.1 hf k (by omega), if_neg (by omega)]
      have r49 : am_r ((tk σ re f).1 (k : Int)) := by
        have h9 := tC_r (σ := σ) (re := re) f
        rcases (tk_row (σ := σ) (re := re) f).1 (k : Int) with h | h <;> omega
      have hkn : (k : Int) < sp_n σ (f : Int) := by omega
      have t48 := tcnt_48 (σ := σ) (re := re) hf (q := k + 1) (by omega)
      have next : ∀ M2 : am_M, (∀ c, c < 36 ∨ 50 < c → M2 c = M c) → M2 37 = M' 37 → TRq M2 σ re f k (k + 1) → AC_q (d + 4) mX6_addPeak [.inr 41, .inr 31, .inl ((f : Int) * 6 + k), .inl (f : Int)] M2 (fun r M9 => r = none ∧ AW_q (d + 5) mX6_follow 45 [(0, .inr 41), (1, .inr 31), (2, .inr 36), (3, .inl re), (4, .inl (f : Int)), (5, .inl ((k : Int) + 1))] [] M9 Q) := by
        intro M2 fr2 e37 ht2
        refine c_addPeak_q (by omega) ho hre (pkc M2 fr2) ht2 hf hkn (fun M3 fr3 ht3 => ⟨rfl, ?_⟩)
        exact ih f (k + 1) M3 hf (by omega) (fun c hc => by rw [fr3 c (by omega) (by omega) (by omega) (by omega), fr2 c hc]) (fun a a0 a1 => by rw [fr3 37 (by decide) (by decide) (by decide) (by decide), e37]; exact hj a a0 a1) ht3 kk
      refine sg_X6_follow_45_q ?_
      rw [e32, e49]
      refine ⟨by omega, by omega, by omega, fun c => absurd c (by omega), fun _ => ⟨by omega, r49, fun c => ⟨by omega, ?_⟩, fun c => ?_⟩⟩
      · rw [hj k (by omega) hkn]
        refine next _ (fun z hz => by rw [am_up_ne _ _ _ _ _ (by omega), fr z hz]) (am_up_ne _ _ _ _ _ (by decide)) ?_
        rw [show (f : Int) * 6 + k = 6 * f + k by omega]
        exact tr_keep htr hf hkn c
      · have e41 : M' 41 0 = tC σ re f + tk_cnt (tk σ re f).1 k := htr.1
        have hcn := tcnt_new (σ := σ) (re := re) c
        have hC := tC_r (σ := σ) (re := re) f
        have hc0 := tk_cnt_r (tk σ re f).1 k
        refine sg_X6_begin_q ⟨by omega, fun c => absurd c (by omega), fun _ => ⟨by omega, by omega, rfl, by omega, ?_⟩⟩
        have e37 : ∀ z, (am_up (am_up (am_up (am_up (am_up M' 49 ((f : Int) * 6 + k) (M' 41 0)) 42 (M' 41 0) f) 43 (M' 41 0) 0) 47 (M' 41 0) 0) 41 0 (M' 41 0 + 1)) 37 z = M' 37 z := fun z => rfl
        rw [e37, hj k (by omega) hkn]
        refine next _ (fun z hz => ?_) rfl ?_
        · rw [am_up_ne _ _ _ _ _ (by omega), am_up_ne _ _ _ _ _ (by omega), am_up_ne _ _ _ _ _ (by omega), am_up_ne _ _ _ _ _ (by omega), am_up_ne _ _ _ _ _ (by omega), am_up_ne _ _ _ _ _ (by omega), fr z hz]
        · rw [show (f : Int) * 6 + k = 6 * f + k by omega]
          exact tr_begin htr hf hkn c (by simp [am_up]) (fun z => by simp [am_up]) (fun z => by simp [am_up]) (fun z => by simp [am_up]) (by funext z; simp [am_up]) (fun z => by simp [am_up]) (fun z => by simp [am_up])
  have outer : ∀ (t f : Nat) (M' : am_M), f + t = 8 → (∀ c, c < 36 ∨ 50 < c → M' c = M c) → TRq M' σ re f 0 0 → AW_q (d + 5) mX6_follow 26 [(0, .inr 41), (1, .inr 31), (2, .inr 36), (3, .inl re), (4, .inl (f : Int))] [] M' Q := by
    intro t
    induction t with
    | zero =>
      intro f M' hf fr htr
      have : f = 8 := by omega
      subst this
      refine sg_X6_follow_26_q ⟨by omega, fun _ => ?_, fun c => absurd c (by omega)⟩
      exact meas (tC σ re 8).toNat 0 M' (by omega) (by omega) fr htr (fun a a0 a1 => absurd a1 (by omega))
    | succ t ih =>
      intro f M' hf fr htr
      have hn := sp_n_r σ (f : Int)
      refine sg_X6_follow_26_q ⟨by omega, fun c => absurd c (by omega), fun _ => ?_⟩
      refine c_join_q ho (pkc M' fr) ⟨by omega, by omega⟩ hre (fun M2 fr2 hm2 => ⟨_, rfl, ?_⟩)
      have := inner (sp_n σ (f : Int)).toNat f 0 M2 (by omega) (by omega) (fun c hc => by rw [fr2 c (by omega), fr c hc]) hm2 ?_ (fun M3 fr3 ht3 => ?_)
      · simpa using this
      · unfold TRq at htr ⊢
        rw [fr2 41 (by decide), fr2 42 (by decide), fr2 43 (by decide), fr2 47 (by decide), fr2 48 (by decide), fr2 49 (by decide), fr2 50 (by decide)]
        exact htr
      · have := ih (f + 1) M3 (by omega) fr3 ht3
        simpa using this
  refine sg_X6_follow_q ?_
  have := outer 8 0 (am_fill (am_fill (am_up M 41 0 0) 48 384 (-9)) 49 48 (-9)) (by omega) (fun c hc => ?_) ⟨?_, fun g x hg => absurd hg (by omega), fun _ x hx => ?_, fun x hx => absurd hx (by omega), fun _ x hx => ?_, fun g x hg hg8 hx => ?_, fun n n0 n1 => ?_, fun n g n0 n1 hg => ?_⟩
  · simpa using this
  · funext j
    have : c ≠ 49 ∧ c ≠ 48 ∧ c ≠ 41 := by omega
    simp [am_fill, am_up, this]
  · simp [am_fill, am_up, tC, tk, tk_cnt]
  · rw [if_neg (by omega)]
    simp only [am_fill, if_true]
    rw [if_pos (by omega)]
    rfl
  · simp only [am_fill, if_true]
    rw [if_pos (by omega)]
    rfl
  · simp only [am_fill, if_true]
    rw [if_pos (by omega)]
  · simp [am_fill, am_up] at n1
    omega
  · rw [if_neg (by omega), tPK_0]
    have : am_fill (am_fill (am_up M 41 0 0) 48 384 (-9)) 49 48 (-9) 48 (8 * n + g) = -9 := by
      simp only [am_fill]
      rw [if_neg (by decide), if_pos trivial, if_pos (by omega)]
    rw [this]
    split <;> rfl
end CF
/-! the class alone: 10r over the cells 0..61 -/
section RD
variable {c : Int → Int} {N : Int} {δ : Int → Int}
theorem k_makeEmpty_q {d a : Nat} {M : am_M} {Q : Option Int → am_M → Prop} (ha : am_sc_q a) (hQ : ∀ M', (∀ x, x ≠ a → x ≠ a + 1 → x ≠ a + 2 → M' x = M x) → SC a d0 M' → Q none M') : AC_q (d + 1) mX3_makeEmpty [.inr a] M Q := by
  refine sg_X3_makeEmpty_q ha (hQ _ (fun x h0 h1 h2 => ?_) ⟨?_, ?_, ?_, ?_, ?_, fun j b1 b2 => ?_⟩)
  · rw [am_fill_ne _ _ _ _ h2, am_cpt_ne _ _ _ _ _ h1, am_up_ne _ _ _ _ _ h0, am_up_ne _ _ _ _ _ h0]
  · rw [am_fill_ne _ _ _ _ (by omega), am_cpt_ne _ _ _ _ _ (by omega), am_up_idx _ _ (by decide), am_up_same]; rfl
  · rw [am_fill_ne _ _ _ _ (by omega), am_cpt_ne _ _ _ _ _ (by omega), am_up_same]; rfl
  · rw [am_fill_ne _ _ _ _ (by omega), am_cpt_in _ _ _ _ (by omega)]; rfl
  · rw [am_fill_ne _ _ _ _ (by omega), am_cpt_in _ _ _ _ (by omega)]; rfl
  · rw [am_fill_ne _ _ _ _ (by omega), am_cpt_in _ _ _ _ (by omega)]; rfl
  · rw [am_fill_in _ _ _ _ (by omega)]
    unfold d0
    rw [if_neg (by omega), if_neg (by omega), if_neg (by omega)]
end RD
/-! the class alone: 10t over the cells 0..61 -/
section HI
variable {σ : Int → Int}
theorem k_followAnew_q {d : Nat} {M : am_M} {Q : Option Int → am_M → Prop} (ho : sp_ok σ) (hs : SC 1 σ M) (hQ : ∀ M', (∀ x, x ≠ 0 → x < 32 ∨ 50 < x → M' x = M x) → (∀ j, j ≠ 10 → M' 0 j = M 0 j) → CL M' σ → M' 0 10 = -9 → Q none M') : AC_q (d + 6) mX7_followAnew [.inr 0] M Q := by
  refine sg_X7_followAnew_q (c_find_q hs ho (fun M1 hp1 fr1 => ⟨rfl, ?_⟩))
  have hs1 : SC 1 σ M1 := hs.congr (fr1 1 (by decide) (by decide) (by decide) (by decide)) (fr1 2 (by decide) (by decide) (by decide) (by decide)) (fr1 3 (by decide) (by decide) (by decide) (by decide))
  have e21 : M1 2 1 = σ 3 := hs1.2.2.2.1
  rw [e21]
  refine c_follow_q ho hp1 ho.2.2.2.1 (fun M2 fr2 ht2 => ⟨rfl, hQ _ (fun x h0 hx => ?_) (fun j hj => ?_) ?_ (am_up_same _ _ _ _)⟩)
  · rw [am_up_ne _ _ _ _ _ h0, fr2 x (by omega)]; exact fr1 x (by omega) (by omega) (by omega) (by omega)
  · rw [am_up_idx _ _ hj, fr2 0 (by omega), fr1 0 (by decide) (by decide) (by decide) (by decide)]
  · have hcl : CL M2 σ := ⟨hs1.congr (fr2 1 (by omega)) (fr2 2 (by omega)) (fr2 3 (by omega)), hp1.congr (fun x a b => fr2 x (by omega)), ht2⟩
    exact hcl.congr (fun c hc => am_up_ne _ _ _ _ _ (by omega))
end HI
