/-! the class joins two frames -/
def JM (M : am_M) (A B : Int → Int) (n1 n2 re : Int) : Prop := M 36 4 = n1 ∧ M 36 5 = n2 ∧ M 36 6 = re ∧ (∀ i, 0 ≤ i → i < n1 → M 38 i = A i) ∧ (∀ j, 0 ≤ j → j < n2 → M 39 j = B j)
def JR (A B : Int → Int) (n1 n2 re : Int) : Prop := (0 ≤ n1 ∧ n1 ≤ 6) ∧ (0 ≤ n2 ∧ n2 ≤ 6) ∧ (0 ≤ re ∧ re ≤ 20) ∧ (∀ i, 0 ≤ i → i < n1 → -1 ≤ A i ∧ A i ≤ 45) ∧ (∀ j, 0 ≤ j → j < n2 → -1 ≤ B j ∧ B j ≤ 45)
theorem JM.congr {M M' : am_M} {A B : Int → Int} {n1 n2 re : Int} (h : JM M A B n1 n2 re) (h1 : M' 36 = M 36) (h2 : M' 38 = M 38) (h3 : M' 39 = M 39) : JM M' A B n1 n2 re := by
  unfold JM at h ⊢
  rw [h1, h2, h3]
  exact h
theorem am_abs_r (x : Int) (h : -50 ≤ x ∧ x ≤ 50) : 0 ≤ am_abs x ∧ am_abs x ≤ 50 := by
  unfold am_abs; split <;> omega
section CJ
variable {d : Nat} {M : am_M} {Q : Option Int → am_M → Prop} {A B : Int → Int} {n1 n2 re : Int}
theorem JM.ps (h : JM M A B n1 n2 re) {i j : Int} (hi : 0 ≤ i ∧ i < n1) (hj : 0 ≤ j ∧ j < n2) (ht : M 40 (7 * (i + 1) + (j + 1)) = jT A B n1 n2 re (i + 1) (j + 1)) : am_ps (M 38) (M 39) (M 40) (M 36 6) i j = jP A B n1 n2 re i j := by
  obtain ⟨h1, h2, h3, h4, h5⟩ := h
  unfold am_ps jP
  rw [h3, h4 i hi.1 hi.2, h5 j hj.1 hj.2, show (i + 1) * 7 + j + 1 = 7 * (i + 1) + (j + 1) by omega, ht]
theorem JM.psok (h : JM M A B n1 n2 re) (hr : JR A B n1 n2 re) {i j : Int} (hi : 0 ≤ i ∧ i < n1) (hj : 0 ≤ j ∧ j < n2) : am_psok (M 38) (M 39) (M 36 6) i j := by
  obtain ⟨h1, h2, h3, h4, h5⟩ := h
  obtain ⟨r1, r2, r3, r4, r5⟩ := hr
  have a1 := r4 i hi.1 hi.2
  have a2 := r5 j hj.1 hj.2
  have a3 := am_abs_r (A i - B j) (by omega)
  unfold am_psok
  rw [h3, h4 i hi.1 hi.2, h5 j hj.1 hj.2]
  exact ⟨by omega, by omega, by omega, by omega, by omega⟩
theorem c_scoreAll (hj : JM M A B n1 n2 re) (hr : JR A B n1 n2 re) (h : ∀ M', (∀ c, c ≠ 40 → M' c = M c) → (∀ i j, 0 ≤ i → i ≤ n1 → 0 ≤ j → j ≤ n2 → M' 40 (7 * i + j) = jT A B n1 n2 re i j) → Q none M') : AC (d + 2) mX1_scoreAll [.inr 36] M Q := by
  have r1 := hr.1
  have r2 := hr.2.1
  have inner : ∀ (k : Nat) (i j : Int) (M' : am_M), j + 1 = k → 0 ≤ i → i < n1 → j < n2 → (∀ c, c ≠ 40 → M' c = M c) → (∀ a b, i < a → a ≤ n1 → 0 ≤ b → b ≤ n2 → M' 40 (7 * a + b) = jT A B n1 n2 re a b) → (∀ b, j < b → b ≤ n2 → M' 40 (7 * i + b) = jT A B n1 n2 re i b) → (∀ x, 0 ≤ x → x < 7 * i → M' 40 x = 0) →
      (∀ M2, (∀ c, c ≠ 40 → M2 c = M c) → (∀ a b, i ≤ a → a ≤ n1 → 0 ≤ b → b ≤ n2 → M2 40 (7 * a + b) = jT A B n1 n2 re a b) → (∀ x, 0 ≤ x → x < 7 * i → M2 40 x = 0) → AW (d + 2) mX1_scoreAll 15 [(0, .inr 36), (1, .inl (i + (-1)))] [] M2 Q) → AW (d + 2) mX1_scoreAll 26 [(0, .inr 36), (1, .inl i), (2, .inl j)] [] M' Q := by
    intro k
    induction k with
    | zero =>
      intro i j M' hk i0 i1 j1 fr hd hrow hz kk
      refine sg_X1_scoreAll_26 ⟨by omega, fun _ => ?_, fun c => absurd c (by omega)⟩
      refine kk M' fr (fun a b ha ha2 hb hb2 => ?_) hz
      by_cases hai : a = i
      · subst hai; exact hrow b (by omega) hb2
      · exact hd a b (by omega) ha2 hb hb2
    | succ k ih =>
      intro i j M' hk i0 i1 j1 fr hd hrow hz kk
      have hj' : JM M' A B n1 n2 re := hj.congr (fr 36 (by decide)) (fr 38 (by decide)) (fr 39 (by decide))
      have t1 := hd (i + 1) (j + 1) (by omega) (by omega) (by omega) (by omega)
      have t2 := hd (i + 1) j (by omega) (by omega) (by omega) (by omega)
      have t3 := hrow (j + 1) (by omega) (by omega)
      have b1 := jT_r (A := A) (B := B) (n1 := n1) (n2 := n2) (re := re) (i := i + 1) (j := j) (by omega) r1.2
      have b2 := jT_r (A := A) (B := B) (n1 := n1) (n2 := n2) (re := re) (i := i) (j := j + 1) (by omega) r1.2
      have a1 := hr.2.2.2.1 i i0 i1
      have a2 := hr.2.2.2.2 j (by omega) j1
      have a3 := am_abs_r (A i - B j) (by omega)
      have b3 := jP_r (A := A) (B := B) (n1 := n1) (n2 := n2) (re := re) (i := i) (j := j) i0 r1.2 (by omega)
      have ps := hj'.ps ⟨i0, i1⟩ ⟨by omega, j1⟩ t1
      refine sg_X1_scoreAll_26 ⟨by omega, fun c => absurd c (by omega), fun _ => ?_⟩
      rw [ps, show (i + 1) * 7 + j = 7 * (i + 1) + j by omega, show i * 7 + j + 1 = 7 * i + (j + 1) by omega, t2, t3]
      refine ⟨by omega, by omega, ⟨by omega, by omega⟩, hj'.psok hr ⟨i0, i1⟩ ⟨by omega, j1⟩, ⟨by omega, by omega⟩, by omega, ?_⟩
      rw [← jT_eq i1 j1, show i * 7 + j = 7 * i + j by omega, show j + (-1) = j - 1 by omega]
      refine ih i (j - 1) _ (by omega) i0 i1 (by omega) (fun c hc => by rw [am_up_ne _ _ _ _ _ hc]; exact fr c hc) (fun a b ha ha2 hb hb2 => ?_) (fun b hb hb2 => ?_) (fun x hx hx2 => ?_) kk
      · rw [am_up_idx _ _ (by omega)]; exact hd a b ha ha2 hb hb2
      · by_cases hbj : b = j
        · subst hbj; exact am_up_same _ _ _ _
        · rw [am_up_idx _ _ (by omega)]; exact hrow b (by omega) hb2
      · rw [am_up_idx _ _ (by omega)]; exact hz x hx hx2
  have outer : ∀ (k : Nat) (i : Int) (M' : am_M), i + 1 = k → i < n1 → (∀ c, c ≠ 40 → M' c = M c) → (∀ a b, i < a → a ≤ n1 → 0 ≤ b → b ≤ n2 → M' 40 (7 * a + b) = jT A B n1 n2 re a b) → (∀ x, 0 ≤ x → x < 7 * (i + 1) → M' 40 x = 0) → AW (d + 2) mX1_scoreAll 15 [(0, .inr 36), (1, .inl i)] [] M' Q := by
    intro k
    induction k with
    | zero =>
      intro i M' hk i1 fr hd hz
      refine sg_X1_scoreAll_15 ⟨by omega, fun _ => h M' fr (fun a b ha ha2 hb hb2 => hd a b (by omega) ha2 hb hb2), fun c => absurd c (by omega)⟩
    | succ k ih =>
      intro i M' hk i1 fr hd hz
      refine sg_X1_scoreAll_15 ⟨by omega, fun c => absurd c (by omega), fun _ => ?_⟩
      rw [fr 36 (by decide), hj.2.1]
      refine inner n2.toNat i (n2 - 1) M' (by omega) (by omega) i1 (by omega) fr hd (fun b hb hb2 => ?_) (fun x a b => hz x a (by omega)) (fun M2 fr2 hd2 hz2 => ?_)
      · rw [show b = n2 by omega, hz _ (by omega) (by omega), jT_out (Or.inr (Int.le_refl _))]
      · rw [show i + (-1) = i - 1 by omega]
        exact ih (i - 1) M2 (by omega) (by omega) fr2 (fun a b ha ha2 hb hb2 => hd2 a b (by omega) ha2 hb hb2) (fun x a b => hz2 x a (by omega))
  refine sg_X1_scoreAll ?_
  rw [hj.1]
  refine outer n1.toNat (n1 - 1) _ (by omega) (by omega) (fun c hc => ?_) (fun a b ha ha2 hb hb2 => ?_) (fun x hx hx2 => ?_)
  · funext j; simp [am_fill, hc]
  · rw [show a = n1 by omega, jT_out (Or.inl (Int.le_refl _))]
    simp only [am_fill, if_true]
    rw [if_pos (by omega)]
  · simp only [am_fill, if_true]
    rw [if_pos (by omega)]
/-- the table of scores -/
def JT (M : am_M) (A B : Int → Int) (n1 n2 re : Int) : Prop := ∀ i j, 0 ≤ i → i ≤ n1 → 0 ≤ j → j ≤ n2 → M 40 (7 * i + j) = jT A B n1 n2 re i j
theorem c_lowestMate (hj : JM M A B n1 n2 re) (hr : JR A B n1 n2 re) (ht : JT M A B n1 n2 re) {i fr : Int} (hi : 0 ≤ i ∧ i < n1) (hf : 0 ≤ fr ∧ fr ≤ n2) (h : Q (some (jF (fun j => decide (jP A B n1 n2 re i j = jT A B n1 n2 re i fr)) fr (n2 - fr).toNat)) M) : AC (d + 2) mX1_lowestMate [.inr 36, .inl i, .inl fr] M Q := by
  have r1 := hr.1
  have r2 := hr.2.1
  refine sg_X1_lowestMate ?_
  have key : ∀ (k : Nat) (j : Int), j + k = n2 → fr ≤ j → Q (some (jF (fun j => decide (jP A B n1 n2 re i j = jT A B n1 n2 re i fr)) j (n2 - j).toNat)) M → AW (d + 2) mX1_lowestMate 2 [(0, .inr 36), (1, .inl i), (2, .inl fr), (3, .inl j)] [] M Q := by
    intro k
    induction k with
    | zero =>
      intro j hk hf2 hq
      refine sg_X1_lowestMate_2 ⟨by omega, by rw [hj.2.1]; omega, fun _ => ?_, fun c => absurd c (by rw [hj.2.1]; omega)⟩
      rw [show (n2 - j).toNat = 0 by omega] at hq
      exact hq
    | succ k ih =>
      intro j hk hf2 hq
      have ps := hj.ps hi ⟨by omega, by omega⟩ (ht (i + 1) (j + 1) (by omega) (by omega) (by omega) (by omega)) (j := j)
      have a1 := hr.2.2.2.1 i hi.1 hi.2
      have a2 := hr.2.2.2.2 j (by omega) (by omega)
      have a3 := am_abs_r (A i - B j) (by omega)
      have b3 := jP_r (A := A) (B := B) (n1 := n1) (n2 := n2) (re := re) (i := i) (j := j) hi.1 r1.2 (by omega)
      have b1 := jT_r (A := A) (B := B) (n1 := n1) (n2 := n2) (re := re) (i := i) (j := fr) hi.1 r1.2
      have t1 := ht i fr hi.1 (by omega) hf.1 hf.2
      rw [show (n2 - j).toNat = (n2 - (j + 1)).toNat + 1 by omega, jF] at hq
      refine sg_X1_lowestMate_2 ⟨by omega, by rw [hj.2.1]; omega, fun c => absurd c (by rw [hj.2.1]; omega), fun _ => ?_⟩
      rw [ps, show i * 7 + fr = 7 * i + fr by omega, t1]
      refine ⟨hj.psok hr hi ⟨by omega, by omega⟩, by omega, by omega, by omega, fun c => ?_, fun c => ?_⟩
      · rw [if_neg (by simpa using c)] at hq
        exact ih (j + 1) (by omega) (by omega) hq
      · rw [if_pos (by simpa using c)] at hq
        exact hq
  exact key (n2 - fr).toNat fr (by omega) (by omega) h
theorem c_chooseMates (hj : JM M A B n1 n2 re) (hr : JR A B n1 n2 re) (ht : JT M A B n1 n2 re) (h : ∀ M', (∀ c, c ≠ 37 → M' c = M c) → (∀ k, 0 ≤ k → k < n1 → M' 37 k = jm A B n1 n2 re k) → Q (some (jc A B n1 n2 re n1.toNat)) M') : AC (d + 3) mX1_chooseMates [.inr 36] M Q := by
  have r1 := hr.1
  have r2 := hr.2.1
  have key : ∀ (k i : Nat) (M' : am_M), (i : Int) + k = n1 → (∀ c, c ≠ 37 → M' c = M c) → (∀ a : Nat, a < i → M' 37 (a : Int) = jm A B n1 n2 re (a : Int)) → (∀ a : Int, i ≤ a → a < 6 → M' 37 a = -9) → AW (d + 3) mX1_chooseMates 15 [(0, .inr 36), (1, .inl (jc A B n1 n2 re i)), (2, .inl (jfr A B n1 n2 re i)), (3, .inl (i : Int))] [] M' Q := by
    intro k
    induction k with
    | zero =>
      intro i M' hk fr hd hz
      have e4 : M' 36 4 = n1 := by rw [fr 36 (by decide)]; exact hj.1
      refine sg_X1_chooseMates_15 ⟨by omega, by omega, fun _ => ?_, fun c => absurd c (by omega)⟩
      have hq := h M' fr (fun a a0 a1 => ?_)
      · rw [show n1.toNat = i by omega] at hq; exact hq
      · have := hd a.toNat (by omega)
        rw [show ((a.toNat : Nat) : Int) = a by omega] at this
        exact this
    | succ k ih =>
      intro i M' hk fr hd hz
      have e4 : M' 36 4 = n1 := by rw [fr 36 (by decide)]; exact hj.1
      have hj' : JM M' A B n1 n2 re := hj.congr (fr 36 (by decide)) (fr 38 (by decide)) (fr 39 (by decide))
      have ht' : JT M' A B n1 n2 re := fun a b x1 x2 x3 x4 => by rw [fr 40 (by decide)]; exact ht a b x1 x2 x3 x4
      have hf := jfr_r (A := A) (B := B) (n1 := n1) (re := re) r2.1 i
      have hm := jm_r (A := A) (B := B) (n1 := n1) (re := re) r2.1 i
      have em : jF (fun j => decide (jP A B n1 n2 re (i : Int) j = jT A B n1 n2 re (i : Int) (jfr A B n1 n2 re i))) (jfr A B n1 n2 re i) (n2 - jfr A B n1 n2 re i).toNat = jm A B n1 n2 re (i : Int) := rfl
      refine sg_X1_chooseMates_15 ⟨by omega, by omega, fun c => absurd c (by omega), fun _ => ?_⟩
      refine c_lowestMate hj' hr ht' ⟨by omega, by omega⟩ hf ⟨_, rfl, ?_⟩
      rw [em]
      refine ⟨by omega, fun c => ?_, fun c => ⟨by omega, ?_⟩⟩
      · have e1 : jc A B n1 n2 re (i + 1) = jc A B n1 n2 re i := by rw [jc, if_pos c]; omega
        have e2 : jfr A B n1 n2 re (i + 1) = jfr A B n1 n2 re i := by rw [jfr_succ, if_pos c]
        have := ih (i + 1) M' (by omega) fr (fun a ha => ?_) (fun a ha ha2 => hz a (by omega) ha2)
        · rw [e1, e2] at this; simpa using this
        · by_cases hai : a = i
          · subst hai; rw [hz _ (by omega) (by omega), c]
          · exact hd a (by omega)
      · have e1 : jc A B n1 n2 re (i + 1) = jc A B n1 n2 re i + 1 := by rw [jc, if_neg c]
        have e2 : jfr A B n1 n2 re (i + 1) = jm A B n1 n2 re (i : Int) + 1 := by rw [jfr_succ, if_neg c]
        have := ih (i + 1) (am_up M' 37 (i : Int) (jm A B n1 n2 re (i : Int))) (by omega) (fun c hc => by rw [am_up_ne _ _ _ _ _ hc]; exact fr c hc) (fun a ha => ?_) (fun a ha ha2 => ?_)
        · rw [e1, e2] at this; simpa using this
        · by_cases hai : a = i
          · subst hai; exact am_up_same _ _ _ _
          · rw [am_up_idx _ _ (by omega)]; exact hd a (by omega)
        · rw [am_up_idx _ _ (by omega)]; exact hz a (by omega) ha2
  refine sg_X1_chooseMates ?_
  have := key n1.toNat 0 (am_fill M 37 6 (-9)) (by omega) (fun c hc => by funext j; simp [am_fill, hc]) (fun a ha => absurd ha (by omega)) (fun a ha ha2 => by simp only [am_fill, if_true]; rw [if_pos (by omega)])
  simpa [jc, jfr] using this
end CJ
/-- frame f and the next, of σ, by reach re: the mate of peak k -/
def sp_m (σ : Int → Int) (re f k : Int) : Int := jm (sp_t σ f) (sp_t σ (f + 1)) (sp_n σ f) (sp_n σ (f + 1)) re k
def sp_c (σ : Int → Int) (re f : Int) : Int := jc (sp_t σ f) (sp_t σ (f + 1)) (sp_n σ f) (sp_n σ (f + 1)) re (sp_n σ f).toNat
theorem sp_JR {σ : Int → Int} (ho : sp_ok σ) (f : Int) {re : Int} (hre : 0 ≤ re ∧ re ≤ 20) : JR (sp_t σ f) (sp_t σ (f + 1)) (sp_n σ f) (sp_n σ (f + 1)) re := ⟨sp_n_r σ f, sp_n_r σ (f + 1), hre, fun i a b => sp_t_r ho ⟨a, b⟩, fun j a b => sp_t_r ho ⟨a, b⟩⟩
theorem c_copyPitches {d : Nat} {M : am_M} {Q : Option Int → am_M → Prop} {σ : Int → Int} {c : Nat} (hc : am_sh[c]? = some (.inl (0, 6))) (hc2 : c ≠ 32 ∧ c ≠ 33 ∧ c ≠ 34 ∧ c ≠ 35) (ho : sp_ok σ) (hp : PK M σ) {f : Int} (hf : 0 ≤ f ∧ f < 9) (h : ∀ M', (∀ x, x ≠ c → M' x = M x) → (∀ k, 0 ≤ k → k < sp_n σ f → M' c k = sp_t σ f k) → Q (some (sp_n σ f)) M') : AC (d + 1) mX1_copyPitches [.inr 31, .inl f, .inr c] M Q := by
  have hn := sp_n_r σ f
  have h0 := ho.1
  refine sg_X1_copyPitches hc ⟨by omega, fun c => absurd c (by omega), fun _ => ⟨fun c8 => ?_, fun c8 => ?_⟩⟩
  · have e := hp.n (f := f) ⟨by omega, c8⟩
    rw [e]
    refine ⟨by omega, by omega, h _ (fun x hx => am_cp_ne _ _ _ _ _ _ _ hx) (fun k k0 k1 => ?_)⟩
    rw [am_cp_in _ _ _ _ (by omega), show f * 6 + (k - 0) = 6 * f + k by omega]
    exact (hp.at ⟨by omega, c8⟩ ⟨k0, k1⟩).2.1
  · have e : sp_n σ f = 0 := sp_n_out ho (by omega)
    rw [e] at h
    exact h M (fun _ _ => rfl) (fun k k0 k1 => absurd k1 (by omega))
/-- the class's join: mates in 37, the number of pairs -/
theorem c_join {d : Nat} {M : am_M} {Q : Option Int → am_M → Prop} {σ : Int → Int} (ho : sp_ok σ) (hp : PK M σ) {f re : Int} (hf : 0 ≤ f ∧ f < 8) (hre : 0 ≤ re ∧ re ≤ 20) (h : ∀ M', (∀ x, x < 36 ∨ 40 < x → M' x = M x) → (∀ k, 0 ≤ k → k < sp_n σ f → M' 37 k = sp_m σ re f k) → Q (some (sp_c σ re f)) M') : AC (d + 4) mX1_join [.inr 36, .inr 31, .inl f, .inl re] M Q := by
  have pkc : ∀ {M1 M2 : am_M}, PK M1 σ → (∀ x, 32 ≤ x → x ≤ 35 → M2 x = M1 x) → PK M2 σ := fun {M1 M2} h1 h2 g a b => by
    have := h1 g a b
    unfold pk_row at this ⊢
    rw [h2 32 (by decide) (by decide), h2 33 (by decide) (by decide), h2 34 (by decide) (by decide), h2 35 (by decide) (by decide)]
    exact this
  refine sg_X1_join ?_
  refine c_copyPitches rfl (by decide) ho (pkc hp (fun x a b => am_up_ne _ _ _ _ _ (by omega))) ⟨hf.1, by omega⟩ (fun M1 g1 g2 => ⟨_, rfl, ?_⟩)
  have f1 : ∀ x, x ≠ 36 → x ≠ 38 → (am_up M1 36 4 (sp_n σ f)) x = M x := fun x a b => by rw [am_up_ne _ _ _ _ _ a, g1 x b, am_up_ne _ _ _ _ _ a]
  refine c_copyPitches rfl (by decide) ho (pkc hp (fun x a b => f1 x (by omega) (by omega))) ⟨by omega, by omega⟩ (fun M2 g3 g4 => ⟨_, rfl, ?_⟩)
  have hj : JM (am_up M2 36 5 (sp_n σ (f + 1))) (sp_t σ f) (sp_t σ (f + 1)) (sp_n σ f) (sp_n σ (f + 1)) re := by
    refine ⟨?_, am_up_same _ _ _ _, ?_, fun i a b => ?_, fun j a b => ?_⟩
    · rw [am_up_idx _ _ (by decide), g3 36 (by decide), am_up_same]
    · rw [am_up_idx _ _ (by decide), g3 36 (by decide), am_up_idx _ _ (by decide), g1 36 (by decide), am_up_same]
    · rw [am_up_cell _ (by decide), g3 38 (by decide), am_up_cell _ (by decide)]; exact g2 i a b
    · rw [am_up_cell _ (by decide)]; exact g4 j a b
  have hr := sp_JR ho f hre
  refine c_scoreAll hj hr (fun M3 g5 g6 => ⟨rfl, ?_⟩)
  have hj3 := hj.congr (g5 36 (by decide)) (g5 38 (by decide)) (g5 39 (by decide))
  refine c_chooseMates hj3 hr g6 (fun M4 g7 g8 => ⟨_, rfl, ?_⟩)
  refine h M4 (fun x hx => ?_) g8
  rw [g7 x (by omega), g5 x (by omega), am_up_ne _ _ _ _ _ (by omega), g3 x (by omega)]
  exact f1 x (by omega) (by omega)
