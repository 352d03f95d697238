/-! the reference reads a text -/
section MRD
variable {c : Int → Int} {N : Int} {δ : Int → Int}
def MDf (M M' : am_M) : Prop := (∀ a, a ≠ 62 → a ≠ 64 → M' a = M a) ∧ ∀ j, j ≠ 11 → j ≠ 12 → j ≠ 13 → j ≠ 14 → M' 62 j = M 62 j
theorem MDf.refl (M : am_M) : MDf M M := ⟨fun _ _ _ => rfl, fun _ _ _ _ _ => rfl⟩
theorem MDf.trans {M M' M2 : am_M} (h : MDf M M') (h2 : MDf M' M2) : MDf M M2 := ⟨fun a h1 h3 => (h2.1 a h1 h3).trans (h.1 a h1 h3), fun j a b e f => (h2.2 j a b e f).trans (h.2 j a b e f)⟩
theorem MS.d {M M' : am_M} (h : MS M M') : MDf M M' := ⟨fun a h1 _ => h.1 a h1, fun j a b e _ => h.2 j a b e⟩
theorem MDf.text {M M' : am_M} (h : MDf M M') (hc : MT M c N) : MT M' c N := hc.congr (h.2 10 (by decide) (by decide) (by decide) (by decide)) (h.1 69 (by decide) (by decide))
theorem MDf.up14 (M : am_M) (z : Int) : MDf M (am_up M 62 14 z) := ⟨fun a h _ => am_up_ne _ _ _ _ _ h, fun j _ _ _ h => am_up_idx _ _ h⟩
theorem MDf.up64 (M : am_M) (j z : Int) : MDf M (am_up M 64 j z) := ⟨fun a _ h => am_up_ne _ _ _ _ _ h, fun i _ _ _ _ => am_up_cell _ (by decide) _ _ _⟩
/-- the token at x is looked at -/
def RT (M : am_M) (c : Int → Int) (N x : Int) : Prop := M 62 11 = tks c N x ∧ M 62 12 = tke c N x ∧ M 62 13 = tcd c N x
def DR (δ : Int → Int) (M : am_M) : Prop := ∀ j, 0 ≤ j → j < 101 → M 64 j = δ j
/-- a fault is noted -/
def FL (M : am_M) (f : Int) : Prop := M 62 14 = f ∧ (0 ≤ f ∧ f ≤ 200) ∧ am_r (M 64 0) ∧ am_r (M 62 13)
theorem c_takesF {d : Nat} {M : am_M} {Q : Option Int → am_M → Prop} {is f : Int} (hf : M 62 14 = f) (hr : 0 ≤ f ∧ f ≤ 200) (hQ : Q none M) : AC (d + 4) mX8_takes [.inr 62, .inl is] M Q := sg_X8_takes ⟨by omega, fun _ => hQ, fun k => absurd k (by omega)⟩
theorem c_takes0 {d : Nat} {M : am_M} {Q : Option Int → am_M → Prop} {is : Int} (hf : M 62 14 = -9) (hi : is = 0) (hQ : Q none (am_up M 62 14 (M 62 11))) : AC (d + 4) mX8_takes [.inr 62, .inl is] M Q := sg_X8_takes ⟨by omega, fun k => absurd hf k, fun _ => ⟨by omega, fun _ => hQ, fun k => absurd hi k⟩⟩
theorem c_takes1 {d : Nat} {M : am_M} {Q : Option Int → am_M → Prop} {is : Int} (ht : tx_ok c N) (hc : MT M c N) (hf : M 62 14 = -9) (hi : is = 1) {x : Int} (hx : 0 ≤ x ∧ x ≤ N) (hT : RT M c N x) (hQ : ∀ M', MS M M' → M' 62 14 = -9 → RT M' c N (tke c N x) → Q none M') : AC (d + 4) mX8_takes [.inr 62, .inl is] M Q := by
  have h1 := tok_r (c := c) (N := N) hx.1 hx.2
  exact sg_X8_takes ⟨by omega, fun k => absurd hf k, fun _ => ⟨by omega, fun k => absurd k (by omega), fun _ => c_steps ht hc hT.2.1 (by omega) (fun M' fr a b e => ⟨rfl, hQ M' fr (by rw [fr.2 14 (by decide) (by decide) (by decide)]; exact hf) ⟨a, b, e⟩⟩)⟩⟩
theorem c_readsFrame {d : Nat} {M : am_M} {Q : Option Int → am_M → Prop} (ht : tx_ok c N) (hc : MT M c N) {x : Int} (hx : 0 ≤ x ∧ x ≤ N) (hT : RT M c N x) (h1 : tcd c N x = 1) (hf : M 62 14 = -9) (hd : dok δ) (hD : DR δ M) (hF : ∀ M' f, MDf M M' → FL M' f → ((8 ≤ δ 0 ∧ f = tks c N x) ∨ (δ 0 < 8 ∧ frok c N δ (tke c N x) ≠ true ∧ f = tks c N (tke c N x))) → Q none M') (hO : δ 0 < 8 → frok c N δ (tke c N x) = true → ∀ M', MDf M M' → M' 62 14 = -9 → RT M' c N (tke c N (tke c N x)) → DR (dfr c N δ (tke c N x)) M' → Q none M') : AC (d + 5) mX8_readsFrame [.inr 62] M Q := by
  have hN := ht.1
  have t1 := tok_r (c := c) (N := N) hx.1 hx.2
  have t2 := tok_r (c := c) (N := N) (x := tke c N x) (by omega) (by omega)
  have d0' := hd.1
  have d1' := hd.2.1
  have d6' := hd.2.2.2.2.2.2
  have e0 : M 64 0 = δ 0 := hD 0 (by omega) (by omega)
  have e1 : M 64 1 = δ 1 := hD 1 (by omega) (by omega)
  have hr1 : -2147483648 ≤ δ 1 ∧ δ 1 < 2147483648 := by
    by_cases h : 0 < δ 0
    · have := d1' h; omega
    · have := d6' (by omega); omega
  refine sg_X8_readsFrame ?_
  rw [e0]
  refine ⟨by omega, ?_⟩
  by_cases h8 : δ 0 < 8
  · rw [am_b_pos h8]
    refine c_takes1 ht hc hf rfl hx hT (fun M3 fr3 f3 T3 => ⟨rfl, ?_⟩)
    have hc3 := fr3.text hc
    have g0 : M3 64 0 = δ 0 := by rw [fr3.1 64 (by decide)]; exact e0
    have g1 : M3 64 1 = δ 1 := by rw [fr3.1 64 (by decide)]; exact e1
    obtain ⟨a1, a2, a3⟩ := T3
    have h5 := tcd_5 (c := c) (N := N) (tke c N x)
    have hcr := tcd_r (c := c) (N := N) (tke c N x)
    rw [a1, a2, a3, g0, g1, f3]
    have eb : (((tcd c N (tke c N x) = 5) ∧ (3 ≤ tke c N (tke c N x) - tks c N (tke c N x) ∧ tke c N (tke c N x) - tks c N (tke c N x) ≤ 12) ∧ (δ 0 = 0)) ∨ ((tcd c N (tke c N x) = 5) ∧ (3 ≤ tke c N (tke c N x) - tks c N (tke c N x) ∧ tke c N (tke c N x) - tks c N (tke c N x) ≤ 12) ∧ (δ 0 ≠ 0) ∧ (tke c N (tke c N x) - tks c N (tke c N x) = δ 1))) ↔ frok c N δ (tke c N x) = true := by
      rw [frok_iff]
      omega
    refine ⟨⟨by omega, fun _ => ⟨⟨by omega, by decide, by decide⟩, fun _ => ⟨by omega, fun _ => ⟨by omega, hr1⟩⟩⟩⟩, by decide, fun k => absurd rfl k, fun _ => ⟨fun k => ?_, fun k => ?_⟩⟩
    · have kf : frok c N δ (tke c N x) ≠ true := fun z => k (eb.mpr z)
      rw [am_b_neg k]
      refine c_takes0 f3 rfl ⟨rfl, hF _ _ (fr3.d.trans (MDf.up14 _ _)) ⟨am_up_same _ _ _ _, ?_, ?_, ?_⟩ (Or.inr ⟨h8, kf, a1⟩)⟩
      · rw [a1]; omega
      · rw [am_up_cell _ (by decide), g0]; omega
      · rw [am_up_idx _ _ (by decide), a3]; omega
    · have kf := eb.mp k
      obtain ⟨q1, q2, q3⟩ := frok_iff.mp kf
      rw [am_b_pos k]
      have fill : ∀ (t p : Nat) (M' : am_M), (p : Int) + t = tke c N (tke c N x) - tks c N (tke c N x) → (∀ a, a ≠ 64 → M' a = M3 a) → M' 64 0 = δ 0 → (∀ j, 1 ≤ j → j < 101 → M' 64 j = if j = 1 then tke c N (tke c N x) - tks c N (tke c N x) else if 5 + 12 * δ 0 ≤ j ∧ j < 5 + 12 * δ 0 + p then c (tks c N (tke c N x) + (j - 5 - 12 * δ 0)) - 48 else δ j) → AW (d + 5) mX8_readsFrame 95 [(0, .inr 62), (1, .inl (tke c N (tke c N x) - tks c N (tke c N x))), (2, .inl 1), (3, .inl (p : Int))] [] M' Q := by
        intro t
        induction t with
        | zero =>
          intro p M' hp fr f0 fd
          have e62 := fr 62 (by decide)
          refine sg_X8_readsFrame_95 ⟨by omega, by omega, fun _ => ?_, fun z => absurd z (by omega)⟩
          have hcm : MT (am_up M' 64 0 (M' 64 0 + 1)) c N := hc3.congr (by rw [am_up_ne _ _ _ _ _ (by decide), e62]) (by rw [am_up_ne _ _ _ _ _ (by decide), fr 69 (by decide)])
          refine c_takes1 ht hcm (by rw [am_up_ne _ _ _ _ _ (by decide), e62]; exact f3) rfl (x := tke c N x) (by omega) ⟨by rw [am_up_ne _ _ _ _ _ (by decide), e62]; exact a1, by rw [am_up_ne _ _ _ _ _ (by decide), e62]; exact a2, by rw [am_up_ne _ _ _ _ _ (by decide), e62]; exact a3⟩ (fun M4 fr4 f4 T4 => ⟨rfl, hO h8 kf M4 ?_ f4 T4 (fun j b1 b2 => ?_)⟩)
          · refine fr3.d.trans (MDf.trans ?_ fr4.d)
            exact ⟨fun a _ h64 => by rw [am_up_ne _ _ _ _ _ h64]; exact fr a h64, fun j _ _ _ _ => by rw [am_up_ne _ _ _ _ _ (by decide), e62]⟩
          · rw [fr4.1 64 (by decide)]
            by_cases hj0 : j = 0
            · subst hj0
              rw [am_up_same, f0]; unfold dfr; rw [if_pos rfl]
            · rw [am_up_idx _ _ hj0, fd j (by omega) b2]
              have e9 : dfr c N δ (tke c N x) j = if j = 1 then tke c N (tke c N x) - tks c N (tke c N x) else if 5 + 12 * δ 0 ≤ j ∧ j < 5 + 12 * δ 0 + (tke c N (tke c N x) - tks c N (tke c N x)) then c (tks c N (tke c N x) + (j - 5 - 12 * δ 0)) - 48 else δ j := by
                unfold dfr
                rw [if_neg hj0]
              rw [e9, show (p : Int) = tke c N (tke c N x) - tks c N (tke c N x) by omega]
        | succ t ih =>
          intro p M' hp fr f0 fd
          have e62 := fr 62 (by decide)
          have hcm : MT M' c N := hc3.congr (by rw [e62]) (fr 69 (by decide))
          have e11 : M' 62 11 = tks c N (tke c N x) := by rw [e62]; exact a1
          refine sg_X8_readsFrame_95 ⟨by omega, by omega, fun z => absurd z (by omega), fun _ => ?_⟩
          rw [e11, f0, hcm.at (by omega), if_pos (by omega)]
          refine ⟨hcm.atok ht (by omega), by omega, ?_⟩
          rw [show (p : Int) + 1 = ((p + 1 : Nat) : Int) by omega]
          refine ih (p + 1) _ (by omega) (fun a h64 => by rw [am_up_ne _ _ _ _ _ h64]; exact fr a h64) (by rw [am_up_idx _ _ (by omega)]; exact f0) (fun j b1 b2 => ?_)
          by_cases hj : j = 5 + 12 * δ 0 + p
          · rw [hj, am_up_same, if_neg (by omega), if_pos (by omega), show 5 + 12 * δ 0 + (p : Int) - 5 - 12 * δ 0 = p by omega]
          · rw [am_up_idx _ _ hj, fd j b1 b2]
            by_cases hj1 : j = 1
            · rw [if_pos hj1, if_pos hj1]
            · rw [if_neg hj1, if_neg hj1]
              by_cases hz : 5 + 12 * δ 0 ≤ j ∧ j < 5 + 12 * δ 0 + p
              · rw [if_pos hz, if_pos (by omega)]
              · rw [if_neg hz, if_neg (by omega)]
      refine fill (tke c N (tke c N x) - tks c N (tke c N x)).toNat 0 _ (by omega) (fun a h64 => am_up_ne _ _ _ _ _ h64) (by rw [am_up_idx _ _ (by decide)]; exact g0) (fun j b1 b2 => ?_)
      by_cases hj1 : j = 1
      · rw [hj1, am_up_same, if_pos rfl]
      · rw [am_up_idx _ _ hj1, if_neg hj1, if_neg (by omega), fr3.1 64 (by decide)]
        exact hD j (by omega) b2
  · rw [am_b_neg h8]
    refine c_takes0 hf rfl ⟨rfl, ?_⟩
    have ef : am_up M 62 14 (M 62 11) 62 14 = tks c N x := by rw [am_up_same]; exact hT.1
    have k11 : am_up M 62 14 (M 62 11) 62 11 = tks c N x := by rw [am_up_idx _ _ (by decide)]; exact hT.1
    have k12 : am_up M 62 14 (M 62 11) 62 12 = tke c N x := by rw [am_up_idx _ _ (by decide)]; exact hT.2.1
    have k13 : am_up M 62 14 (M 62 11) 62 13 = 1 := by rw [am_up_idx _ _ (by decide)]; exact hT.2.2.trans h1
    have k0 : am_up M 62 14 (M 62 11) 64 0 = δ 0 := by rw [am_up_cell _ (by decide)]; exact e0
    have k1 : am_up M 62 14 (M 62 11) 64 1 = δ 1 := by rw [am_up_cell _ (by decide)]; exact e1
    rw [k11, k12, k13, k0, k1, ef]
    refine ⟨⟨by decide, fun k => absurd k (by decide)⟩, by omega, fun _ => ?_, fun k => absurd k (by omega)⟩
    refine c_takesF ef (by omega) ⟨rfl, hF _ _ (MDf.up14 _ _) ⟨ef, by omega, by omega, by omega⟩ (Or.inl ⟨by omega, rfl⟩)⟩
theorem c_readsNumber {d : Nat} {M : am_M} {Q : Option Int → am_M → Prop} (ht : tx_ok c N) (hc : MT M c N) {x : Int} (hx : 0 ≤ x ∧ x ≤ N) (hT : RT M c N x) {k lo hi : Int} (hk : 2 ≤ k ∧ k ≤ 4) (hlo : lo = nlo k) (hhi : hi = nhi k) (hf : M 62 14 = -9) (hd : dok δ) (hD : DR δ M) (hF : ∀ M' f, MDf M M' → FL M' f → (nmok c N k (tke c N x) ≠ true ∧ f = tks c N (tke c N x)) → Q none M') (hO : nmok c N k (tke c N x) = true → ∀ M', MDf M M' → M' 62 14 = -9 → RT M' c N (tke c N (tke c N x)) → DR (dst c N δ k (tke c N x)) M' → Q none M') : AC (d + 5) mX8_readsNumber [.inr 62, .inl k, .inl lo, .inl hi] M Q := by
  have hN := ht.1
  have t1 := tok_r (c := c) (N := N) hx.1 hx.2
  have t2 := tok_r (c := c) (N := N) (x := tke c N x) (by omega) (by omega)
  have d0' := hd.1
  have e0 : M 64 0 = δ 0 := hD 0 (by omega) (by omega)
  have hlr : 0 ≤ lo ∧ lo ≤ 1 := by rw [hlo]; unfold nlo; split <;> omega
  have hhr : 8 ≤ hi ∧ hi ≤ 20 := by rw [hhi]; unfold nhi; (repeat' split) <;> omega
  refine sg_X8_readsNumber ?_
  refine c_takes1 ht hc hf rfl hx hT (fun M1 fr1 f1 T1 => ⟨rfl, ?_⟩)
  have hc1 := fr1.text hc
  have g0 : M1 64 0 = δ 0 := by rw [fr1.1 64 (by decide)]; exact e0
  obtain ⟨a1, a2, a3⟩ := T1
  have h5 := tcd_5 (c := c) (N := N) (tke c N x)
  have hcr := tcd_r (c := c) (N := N) (tke c N x)
  have r0 := hc1.r ht (k := tks c N (tke c N x)) (by omega)
  have r1 := hc1.r ht (k := tks c N (tke c N x) + 1) (by omega)
  rw [a1, a2, a3]
  refine ⟨⟨by omega, fun _ => ⟨hc1.atok ht (by omega), hc1.atok ht (by omega)⟩, fun _ => hc1.atok ht (by omega)⟩, fun v g1 g2 => ⟨⟨by omega, fun _ => ⟨⟨by omega, by decide, by decide⟩, fun _ => ⟨by omega, fun _ => ⟨by omega, by omega, by omega⟩, fun _ => ⟨hc1.atok ht (by omega), by omega, fun _ => ⟨by omega, by omega, by omega⟩⟩⟩⟩⟩, ?_⟩⟩
  -- the value, where the token is a number
  have ev : tkk c N (tke c N x) = 2 → tke c N (tke c N x) - tks c N (tke c N x) ≤ 2 → v = tv c N (tke c N x) ∧ am_at (M1 62 10) (M1 69) (tks c N (tke c N x)) = c (tks c N (tke c N x)) := fun hk2 hn => by
    have hlt := t2.2.2.2.1 (by omega)
    have b0 := hc1.at (k := tks c N (tke c N x)) (by omega)
    rw [if_pos (by omega)] at b0
    refine ⟨?_, b0⟩
    unfold tv
    by_cases h1 : tke c N (tke c N x) - tks c N (tke c N x) = 1
    · rw [if_pos h1, g2 h1, b0]
    · have b1 := hc1.at (k := tks c N (tke c N x) + 1) (by omega)
      rw [if_pos (by omega)] at b1
      rw [if_neg h1, g1 h1, b0, b1]
      omega
  have eb : (((tcd c N (tke c N x) = 5) ∧ (1 ≤ tke c N (tke c N x) - tks c N (tke c N x) ∧ tke c N (tke c N x) - tks c N (tke c N x) ≤ 2) ∧ (tke c N (tke c N x) - tks c N (tke c N x) = 1) ∧ (lo ≤ v ∧ v ≤ hi)) ∨ ((tcd c N (tke c N x) = 5) ∧ (1 ≤ tke c N (tke c N x) - tks c N (tke c N x) ∧ tke c N (tke c N x) - tks c N (tke c N x) ≤ 2) ∧ (tke c N (tke c N x) - tks c N (tke c N x) ≠ 1) ∧ (am_at (M1 62 10) (M1 69) (tks c N (tke c N x)) ≠ 48) ∧ (lo ≤ v ∧ v ≤ hi))) ↔ nmok c N k (tke c N x) = true := by
    rw [nmok_iff, ← hlo, ← hhi]
    constructor
    · intro z
      have hk2 : tkk c N (tke c N x) = 2 := by omega
      have hn : tke c N (tke c N x) - tks c N (tke c N x) ≤ 2 := by omega
      obtain ⟨y1, y2⟩ := ev hk2 hn
      rw [y1, y2] at z
      omega
    · intro z
      have hlt := t2.2.2.2.1 (by omega)
      obtain ⟨y1, y2⟩ := ev z.1 z.2.1
      rw [y1, y2]
      omega
  by_cases hy : nmok c N k (tke c N x) = true
  · rw [am_b_pos (eb.mpr hy)]
    obtain ⟨w1, w2, -⟩ := nmok_iff.mp hy
    have evv := (ev w1 w2).1
    refine c_takes1 ht hc1 f1 rfl (x := tke c N x) (by omega) ⟨a1, a2, a3⟩ (fun M2 fr2 f2 T2 => ⟨rfl, by omega, hO hy _ (fr1.d.trans (fr2.d.trans (MDf.up64 _ _ _))) ?_ ?_ (fun j b1 b2 => ?_)⟩)
    · rw [am_up_cell _ (by decide)]; exact f2
    · exact ⟨by rw [am_up_cell _ (by decide)]; exact T2.1, by rw [am_up_cell _ (by decide)]; exact T2.2.1, by rw [am_up_cell _ (by decide)]; exact T2.2.2⟩
    · unfold dst
      by_cases hj : j = k
      · rw [hj, am_up_same, if_pos rfl]; exact evv
      · rw [am_up_idx _ _ hj, if_neg hj, fr2.1 64 (by decide), fr1.1 64 (by decide)]; exact hD j b1 b2
  · rw [am_b_neg (fun z => hy (eb.mp z))]
    refine c_takes0 f1 rfl ⟨rfl, by omega, hF _ _ (fr1.d.trans ((MDf.up14 _ _).trans (MDf.up64 _ _ _))) ⟨?_, ?_, ?_, ?_⟩ ⟨hy, a1⟩⟩
    · rw [am_up_cell _ (by decide), am_up_same]
    · rw [a1]; omega
    · rw [am_up_idx _ _ (by omega), am_up_cell _ (by decide), g0]; omega
    · rw [am_up_cell _ (by decide), am_up_idx _ _ (by decide), a3]; omega
theorem c_plain {d a : Nat} {M : am_M} {Q : Option Int → am_M → Prop} (ha : am_sh[a]? = some (.inl (0, 101))) (hQ : ∀ M', (∀ b, b ≠ a → M' b = M b) → (∀ j, 0 ≤ j → j < 101 → M' a j = d0 j) → Q none M') : AC d mX8_plain [.inr a] M Q := by
  have key : ∀ (t p : Nat) (M' : am_M), p + t = 101 → (∀ b, b ≠ a → M' b = M b) → (∀ j : Int, 0 ≤ j → j < p → M' a j = 0) → AW d mX8_plain 2 [(0, .inr a), (1, .inl (p : Int))] [] M' Q := by
    intro t
    induction t with
    | zero =>
      intro p M' hp fr hz
      refine sg_X8_plain_2 ha ⟨by omega, fun _ => hQ _ (fun b hb => ?_) (fun j h1 h2 => ?_), fun k => absurd k (by omega)⟩
      · rw [am_up_ne _ _ _ _ _ hb, am_up_ne _ _ _ _ _ hb, am_up_ne _ _ _ _ _ hb]; exact fr b hb
      · unfold d0
        by_cases q2 : j = 2
        · subst q2; rw [am_up_idx _ _ (by decide), am_up_idx _ _ (by decide), am_up_same, if_pos rfl]
        · rw [if_neg q2]
          by_cases q3 : j = 3
          · subst q3; rw [am_up_idx _ _ (by decide), am_up_same, if_pos rfl]
          · rw [if_neg q3]
            by_cases q4 : j = 4
            · subst q4; rw [am_up_same, if_pos rfl]
            · rw [if_neg q4, am_up_idx _ _ q4, am_up_idx _ _ q3, am_up_idx _ _ q2]
              exact hz j h1 (by omega)
    | succ t ih =>
      intro p M' hp fr hz
      refine sg_X8_plain_2 ha ⟨by omega, fun k => absurd k (by omega), fun _ => ⟨by omega, ?_⟩⟩
      rw [show (p : Int) + 1 = ((p + 1 : Nat) : Int) by omega]
      refine ih (p + 1) _ (by omega) (fun b hb => by rw [am_up_ne _ _ _ _ _ hb]; exact fr b hb) (fun j h1 h2 => ?_)
      by_cases hj : j = p
      · rw [hj, am_up_same]
      · rw [am_up_idx _ _ hj]; exact hz j h1 (by omega)
  exact sg_X8_plain ha (key 101 0 M (by omega) (fun _ _ => rfl) (fun j h1 h2 => absurd h2 (by omega)))
theorem c_reads {d : Nat} {M : am_M} {Q : Option Int → am_M → Prop} (ht : tx_ok c N) (hc : MT M c N) (hQ : ∀ M' r, MDf M M' → ((prs c N 48 d0 0 0).1 < 0 ∧ M' 62 14 = -10 - (prs c N 48 d0 0 0).1 ∨ 0 ≤ (prs c N 48 d0 0 0).1 ∧ M' 62 14 = -9 ∧ r = (prs c N 48 d0 0 0).1 ∧ DR (prs c N 48 d0 0 0).2 M') → Q (some r) M') : AC (d + 6) mX8_reads [.inr 62] M Q := by
  have hN := ht.1
  -- a fault ends it
  have bad : ∀ (M' : am_M) (f it : Int), MDf M M' → FL M' f → (prs c N 48 d0 0 0).1 = -10 - f → AW (d + 6) mX8_reads 24 [(0, .inr 62), (1, .inl it)] [] M' Q := by
    intro M' f it fr hf hp
    obtain ⟨f1, f2, f3, f4⟩ := hf
    refine sg_X8_reads_24 ⟨by omega, fun _ => ⟨f3, c_takesF f1 f2 ⟨rfl, hQ M' it fr (Or.inl ⟨by omega, by omega⟩)⟩⟩, fun k => absurd k (by omega)⟩
  have key : ∀ (t : Nat) (δ : Int → Int) (x it : Int) (M' : am_M), dok δ → 0 ≤ x → x ≤ N → N + 3 ≤ x + 3 * t → 0 ≤ it → MDf M M' → DR δ M' → M' 62 14 = -9 → RT M' c N x → prs c N t δ x it = prs c N 48 d0 0 0 → AW (d + 6) mX8_reads 24 [(0, .inr 62), (1, .inl it)] [] M' Q := by
    intro t
    induction t with
    | zero => intro δ x it M' hd h0 hx hf; omega
    | succ t ih =>
      intro δ x it M' hd h0 hx hfu i0 fr hD hf hT hp
      have hc' := fr.text hc
      have t1 := tok_r (c := c) (N := N) h0 hx
      have t2 := tok_r (c := c) (N := N) (x := tke c N x) (by omega) (by omega)
      have t3 := tok_r (c := c) (N := N) (x := tke c N (tke c N x)) (by omega) (by omega)
      have d0' := hd.1
      have e0 : M' 64 0 = δ 0 := hD 0 (by omega) (by omega)
      have hz := tcd_0 (c := c) (N := N) x
      have hcr := tcd_r (c := c) (N := N) x
      obtain ⟨a1, a2, a3⟩ := hT
      rw [prs] at hp
      -- behind an item that failed
      have after : ∀ (M2 : am_M) (f : Int), MDf M M2 → FL M2 f → tkk c N x ≠ 0 → itf c N δ x = f → ((am_r (M2 62 13))) ∧ AC (d + 5) mX8_takes [.inr 62, .inl (am_b ((M2 62 13 = 6)))] M2 (fun r M14 => r = none ∧ AW (d + 6) mX8_reads 24 [(0, .inr 62), (1, .inl (it + 1))] [] M14 Q) := fun M2 f fr2 hf2 hz2 hi2 => by
        have ep : (prs c N 48 d0 0 0).1 = -10 - f := by rw [← hp, if_neg hz2, if_neg (by have := hf2.2.1; omega), hi2]
        exact ⟨hf2.2.2.2, c_takesF hf2.1 hf2.2.1 ⟨rfl, bad M2 f _ fr2 hf2 ep⟩⟩
      -- behind a good one: the stop
      have stop : ∀ (M2 : am_M), MDf M M2 → M2 62 14 = -9 → RT M2 c N (tke c N (tke c N x)) → DR (itd c N δ x) M2 → tkk c N x ≠ 0 → (itd c N δ x) 0 ≤ 9 → 0 ≤ (itd c N δ x) 0 → (itf c N δ x = if tkk c N (tke c N (tke c N x)) = 3 then -9 else tks c N (tke c N (tke c N x))) → ((am_r (M2 62 13))) ∧ AC (d + 5) mX8_takes [.inr 62, .inl (am_b ((M2 62 13 = 6)))] M2 (fun r M14 => r = none ∧ AW (d + 6) mX8_reads 24 [(0, .inr 62), (1, .inl (it + 1))] [] M14 Q) := fun M2 fr2 hf2 hT2 hD2 hz2 hb1 hb2 hi2 => by
        have h6 := tcd_6 (c := c) (N := N) (tke c N (tke c N x))
        have hcr2 := tcd_r (c := c) (N := N) (tke c N (tke c N x))
        have hc2 := fr2.text hc
        have g0 : M2 64 0 = itd c N δ x 0 := hD2 0 (by omega) (by omega)
        rw [hT2.2.2]
        refine ⟨by omega, ?_⟩
        by_cases h3 : tkk c N (tke c N (tke c N x)) = 3
        · rw [am_b_pos (h6.mpr h3)]
          rw [if_pos h3] at hi2
          have hg := itf_good hd ⟨h0, hx⟩ hi2
          rw [if_neg hz2, if_pos hi2] at hp
          refine c_takes1 ht hc2 hf2 rfl (x := tke c N (tke c N x)) (by omega) hT2 (fun M3 fr3 f3 T3 => ⟨rfl, ?_⟩)
          exact ih _ _ _ M3 hg.1 (by omega) (by omega) (by omega) (by omega) (fr2.trans fr3.d) (fun j b1 b2 => by rw [fr3.1 64 (by decide)]; exact hD2 j b1 b2) f3 T3 hp
        · rw [am_b_neg (fun z => h3 (h6.mp z))]
          rw [if_neg h3] at hi2
          have ep : (prs c N 48 d0 0 0).1 = -10 - tks c N (tke c N (tke c N x)) := by rw [← hp, if_neg hz2, if_neg (by omega), hi2]
          refine c_takes0 hf2 rfl ⟨rfl, bad _ (tks c N (tke c N (tke c N x))) _ (fr2.trans (MDf.up14 _ _)) ⟨?_, by omega, ?_, ?_⟩ ep⟩
          · rw [am_up_same]; exact hT2.1
          · rw [am_up_cell _ (by decide), g0]; omega
          · rw [am_up_idx _ _ (by decide), hT2.2.2]; omega
      -- one setting
      have num : ∀ (k lo hi : Int), tcd c N x = k → (2 ≤ k ∧ k ≤ 4) → lo = nlo k → hi = nhi k → AC (d + 5) mX8_readsNumber [.inr 62, .inl k, .inl lo, .inl hi] M' (fun r M19 => r = none ∧ ((am_r (M19 62 13))) ∧ AC (d + 5) mX8_takes [.inr 62, .inl (am_b ((M19 62 13 = 6)))] M19 (fun r M22 => r = none ∧ AW (d + 6) mX8_reads 24 [(0, .inr 62), (1, .inl (it + 1))] [] M22 Q)) := fun k lo hi hk hkr hlo hhi => by
        have hz2 : tkk c N x ≠ 0 := by omega
        have ef : itf c N δ x = if nmok c N k (tke c N x) then (if tkk c N (tke c N (tke c N x)) = 3 then -9 else tks c N (tke c N (tke c N x))) else tks c N (tke c N x) := by unfold itf; rw [if_neg (by omega), if_pos (by omega), hk]
        have ed : itd c N δ x = dst c N δ k (tke c N x) := by unfold itd; rw [if_neg (by omega), hk]
        have ed0 : itd c N δ x 0 = δ 0 := by rw [ed]; unfold dst; rw [if_neg (by omega)]
        refine c_readsNumber ht hc' ⟨h0, hx⟩ ⟨a1, a2, a3⟩ hkr hlo hhi hf hd hD (fun M2 f fr2 hf2 hy => ⟨rfl, ?_⟩) (fun hy M2 fr2 f2 T2 D2 => ⟨rfl, ?_⟩)
        · rw [if_neg hy.1] at ef
          exact after M2 f (fr.trans fr2) hf2 hz2 (by rw [ef, hy.2])
        · rw [if_pos hy] at ef
          exact stop M2 (fr.trans fr2) f2 T2 (by rw [ed]; exact D2) hz2 (by omega) (by omega) ef
      refine sg_X8_reads_24 ⟨by omega, fun k => absurd hf k, fun _ => ?_⟩
      rw [a3]
      refine ⟨by omega, fun k => ?_, fun k => ⟨fun kr => ?_, fun k1 => ?_, fun k2 => num 2 1 9 k2 (by omega) rfl rfl, fun k3 => num 3 0 20 k3 (by omega) rfl rfl, fun k4 => num 4 1 8 k4 (by omega) rfl rfl⟩⟩
      · have hz2 := hz.mp k
        rw [if_pos hz2] at hp
        rw [e0]
        refine ⟨by omega, ?_⟩
        by_cases hp0 : 0 < δ 0
        · rw [if_pos hp0] at hp
          have ep1 : (prs c N 48 d0 0 0).1 = it := by rw [← hp]
          have ep2 : (prs c N 48 d0 0 0).2 = δ := by rw [← hp]
          rw [am_b_pos hp0]
          refine c_takes1 ht hc' hf rfl ⟨h0, hx⟩ ⟨a1, a2, a3⟩ (fun M2 fr2 f2 T2 => ⟨rfl, hQ M2 it (fr.trans fr2.d) (Or.inr ⟨by omega, f2, ep1.symm, fun j b1 b2 => ?_⟩)⟩)
          rw [ep2, fr2.1 64 (by decide)]
          exact hD j b1 b2
        · rw [if_neg hp0] at hp
          have ep1 : (prs c N 48 d0 0 0).1 = -10 - tks c N x := by rw [← hp]
          rw [am_b_neg hp0]
          refine c_takes0 hf rfl ⟨rfl, hQ _ it (fr.trans (MDf.up14 _ _)) (Or.inl ⟨by omega, ?_⟩)⟩
          rw [am_up_same, a1]
          omega
      · have ef : itf c N δ x = tks c N x := by unfold itf; rw [if_neg (by omega), if_neg (by omega)]
        refine c_takes0 hf rfl ⟨rfl, ?_⟩
        refine after _ (tks c N x) (fr.trans (MDf.up14 _ _)) ⟨?_, by omega, ?_, ?_⟩ (by omega) ef
        · rw [am_up_same]; exact a1
        · rw [am_up_cell _ (by decide), e0]; omega
        · rw [am_up_idx _ _ (by decide), a3]; omega
      · have hz2 : tkk c N x ≠ 0 := by omega
        have ed : itd c N δ x = dfr c N δ (tke c N x) := by unfold itd; rw [if_pos k1]
        have ed0 : itd c N δ x 0 = δ 0 + 1 := by rw [ed]; unfold dfr; rw [if_pos rfl]
        refine c_readsFrame ht hc' ⟨h0, hx⟩ ⟨a1, a2, a3⟩ k1 hf hd hD (fun M2 f fr2 hf2 hy => ⟨rfl, ?_⟩) (fun h8 hy M2 fr2 f2 T2 D2 => ⟨rfl, ?_⟩)
        · refine after M2 f (fr.trans fr2) hf2 hz2 ?_
          unfold itf
          rw [if_pos k1]
          rcases hy with ⟨y1, y2⟩ | ⟨y1, y2, y3⟩
          · rw [if_pos y1, y2]
          · rw [if_neg (by omega), if_neg y2, y3]
        · refine stop M2 (fr.trans fr2) f2 T2 (by rw [ed]; exact D2) hz2 (by omega) (by omega) ?_
          unfold itf
          rw [if_pos k1, if_neg (by omega), if_pos hy]
  refine sg_X8_reads (c_plain rfl (fun M1 fr1 hz1 => ⟨rfl, ?_⟩))
  have frA : MDf M (am_up (am_up M1 62 14 (-9)) 62 12 0) := ⟨fun a h62 h64 => by rw [am_up_ne _ _ _ _ _ h62, am_up_ne _ _ _ _ _ h62]; exact fr1 a h64, fun j b11 b12 b13 b14 => by rw [am_up_idx _ _ b12, am_up_idx _ _ b14, fr1 62 (by decide)]⟩
  refine c_steps ht (frA.text hc) (am_up_same _ _ _ _) (by omega) (fun M2 fr2 b1 b2 b3 => ⟨rfl, ?_⟩)
  refine key 48 d0 0 0 M2 d0_ok (by omega) (by omega) (by omega) (by omega) (frA.trans fr2.d) (fun j j1 j2 => ?_) ?_ ⟨b1, b2, b3⟩ rfl
  · rw [fr2.1 64 (by decide), am_up_ne _ _ _ _ _ (by decide), am_up_ne _ _ _ _ _ (by decide)]
    exact hz1 j j1 j2
  · rw [fr2.2 14 (by decide) (by decide) (by decide), am_up_idx _ _ (by decide), am_up_same]
end MRD
