/-! a text is read -/
/-- the answer (items, or -10 less the fault) and the draft -/
def prs (c : Int → Int) (N : Int) : Nat → (Int → Int) → Int → Int → Int × (Int → Int)
  | 0, δ, _, it => (it, δ)
  | t + 1, δ, x, it =>
    if tkk c N x = 0 then (if 0 < δ 0 then it else -10 - tks c N x, δ)
    else if itf c N δ x = -9 then prs c N t (itd c N δ x) (tke c N (tke c N (tke c N x))) (it + 1)
    else (-10 - itf c N δ x, δ)
def d0 (j : Int) : Int := if j = 2 then 1 else if j = 3 then 4 else if j = 4 then 1 else 0
theorem d0_ok : dok d0 := by
  refine ⟨by decide, by decide, by decide, by decide, by decide, fun j a b => ?_, by decide⟩
  unfold d0
  rw [if_neg (by omega), if_neg (by omega), if_neg (by omega)]
  omega
section RD
variable {c : Int → Int} {N : Int} {δ : Int → Int}
/-- a good item: what it says -/
theorem itf_good {x : Int} (hd : dok δ) (hx : 0 ≤ x ∧ x ≤ N) (h : itf c N δ x = -9) : dok (itd c N δ x) ∧ x + 3 ≤ tke c N (tke c N (tke c N x)) ∧ tke c N (tke c N (tke c N x)) ≤ N ∧ tkk c N x ≠ 0 := by
  have h1 := tok_r (c := c) (N := N) hx.1 hx.2
  have h2 := tok_r (c := c) (N := N) (x := tke c N x) (by omega) (by omega)
  have h3 := tok_r (c := c) (N := N) (x := tke c N (tke c N x)) (by omega) (by omega)
  have hz := tcd_0 (c := c) (N := N) x
  unfold itf at h
  by_cases y1 : tcd c N x = 1
  · rw [if_pos y1] at h
    by_cases y8 : 8 ≤ δ 0
    · rw [if_pos y8] at h; omega
    · rw [if_neg y8] at h
      by_cases yf : frok c N δ (tke c N x) = true
      · rw [if_pos yf] at h
        have k2 := (frok_iff.mp yf).1
        by_cases y3 : tkk c N (tke c N (tke c N x)) = 3
        · refine ⟨?_, by omega, by omega, by omega⟩
          unfold itd
          rw [if_pos y1]
          exact dok_fr hd (by omega) (by omega) yf
        · rw [if_neg y3] at h; omega
      · rw [if_neg yf] at h; omega
  · rw [if_neg y1] at h
    by_cases yr : 2 ≤ tcd c N x ∧ tcd c N x ≤ 4
    · rw [if_pos yr] at h
      by_cases yf : nmok c N (tcd c N x) (tke c N x) = true
      · rw [if_pos yf] at h
        have k2 := (nmok_iff.mp yf).1
        by_cases y3 : tkk c N (tke c N (tke c N x)) = 3
        · refine ⟨?_, by omega, by omega, by omega⟩
          unfold itd
          rw [if_neg y1]
          exact dok_st hd yr yf
        · rw [if_neg y3] at h; omega
      · rw [if_neg yf] at h; omega
    · rw [if_neg yr] at h; omega
theorem itf_end {x : Int} (h : tkk c N x = 0) : itf c N δ x = tks c N x := by
  have hz := (tcd_0 (c := c) (N := N) x).mpr h
  unfold itf
  rw [if_neg (by omega), if_neg (by omega)]
theorem prs_ok : ∀ (t : Nat) (δ : Int → Int) (x it : Int), dok δ → 0 ≤ x → x ≤ N → N + 3 ≤ x + 3 * t → 0 ≤ it → it ≤ x → ((prs c N t δ x it).1 < 0 ∧ -150 - N ≤ (prs c N t δ x it).1) ∨ (0 ≤ (prs c N t δ x it).1 ∧ (prs c N t δ x it).1 ≤ N ∧ dok (prs c N t δ x it).2 ∧ 0 < (prs c N t δ x it).2 0)
  | 0, δ, x, it, hd, h0, hx, ht, i0, i1 => by omega
  | t + 1, δ, x, it, hd, h0, hx, ht, i0, i1 => by
    have h1 := tok_r (c := c) (N := N) h0 hx
    have hf := itf_r (c := c) (N := N) (δ := δ) ⟨h0, hx⟩
    rw [prs]
    by_cases hz : tkk c N x = 0
    · rw [if_pos hz]
      by_cases hp : 0 < δ 0
      · rw [if_pos hp]; exact Or.inr ⟨i0, by omega, hd, hp⟩
      · rw [if_neg hp]; exact Or.inl ⟨by simp only; omega, by simp only; omega⟩
    · rw [if_neg hz]
      by_cases hi : itf c N δ x = -9
      · rw [if_pos hi]
        have hg := itf_good hd ⟨h0, hx⟩ hi
        exact prs_ok t _ _ _ hg.1 (by omega) (by omega) (by omega) (by omega) (by omega)
      · rw [if_neg hi]; exact Or.inl ⟨by simp only; omega, by simp only; omega⟩
theorem am_cpt_in (M : am_M) (xs : List Int) (b : Nat) (n : Int) {j : Int} (h : 0 ≤ j ∧ j < n) : am_cpt M xs b n b j = xs.getD j.toNat 0 := by
  unfold am_cpt
  rw [if_pos rfl, if_pos h]
theorem k_makeEmpty {d a : Nat} {M : am_M} {Q : Option Int → am_M → Prop} (ha : am_sc a) (hQ : ∀ M', (∀ x, x ≠ a → x ≠ a + 1 → x ≠ a + 2 → M' x = M x) → SC a d0 M' → Q none M') : AC (d + 1) mX3_makeEmpty [.inr a] M Q := by
  refine sg_X3_makeEmpty ha (hQ _ (fun x h0 h1 h2 => ?_) ⟨?_, ?_, ?_, ?_, ?_, fun j b1 b2 => ?_⟩)
  · rw [am_fill_ne _ _ _ _ h2, am_cpt_ne _ _ _ _ _ h1, am_up_ne _ _ _ _ _ h0, am_up_ne _ _ _ _ _ h0]
  · rw [am_fill_ne _ _ _ _ (by omega), am_cpt_ne _ _ _ _ _ (by omega), am_up_idx _ _ (by decide), am_up_same]; rfl
  · rw [am_fill_ne _ _ _ _ (by omega), am_cpt_ne _ _ _ _ _ (by omega), am_up_same]; rfl
  · rw [am_fill_ne _ _ _ _ (by omega), am_cpt_in _ _ _ _ (by omega)]; rfl
  · rw [am_fill_ne _ _ _ _ (by omega), am_cpt_in _ _ _ _ (by omega)]; rfl
  · rw [am_fill_ne _ _ _ _ (by omega), am_cpt_in _ _ _ _ (by omega)]; rfl
  · rw [am_fill_in _ _ _ _ (by omega)]
    unfold d0
    rw [if_neg (by omega), if_neg (by omega), if_neg (by omega)]
theorem k_readAll {d : Nat} {M : am_M} {Q : Option Int → am_M → Prop} (ht : tx_ok c N) (hc : CT M c N) (hQ : ∀ M', CRf M M' → ((prs c N 48 d0 0 0).1 < 0 ∨ SC 4 (prs c N 48 d0 0 0).2 M') → Q (some (prs c N 48 d0 0 0).1) M') : AC (d + 7) mX5_readAll [.inr 7, .inr 4] M Q := by
  have hN := ht.1
  have key : ∀ (t : Nat) (δ : Int → Int) (x it tu : Int) (M' : am_M), dok δ → 0 ≤ x → x ≤ N → N + 3 ≤ x + 3 * t → 0 ≤ tu → 3 * tu ≤ x → CRf M M' → SC 4 δ M' → M' 7 4 = x → prs c N t δ x it = prs c N 48 d0 0 0 → AW (d + 7) mX5_readAll 13 [(0, .inr 7), (1, .inr 4), (2, .inl it), (3, .inl tu)] [] M' Q := by
    intro t
    induction t with
    | zero => intro δ x it tu M' hd h0 hx hf; omega
    | succ t ih =>
      intro δ x it tu M' hd h0 hx hf t0 t1 fr hs e4 hp
      have h1 := tok_r (c := c) (N := N) h0 hx
      have d0' := hd.1
      have hc' : CT M' c N := hc.congr fr.2 (fr.1 8 (by omega))
      rw [prs] at hp
      refine sg_X5_readAll_13 ⟨by omega, fun k => absurd k (by omega), fun _ => ?_⟩
      refine k_nextToken ht hc' e4 ⟨h0, hx⟩ (fun M1 fr1 g0 g2 g3 g4 => ⟨rfl, ?_⟩)
      have hc1 : CT M1 c N := hc'.congr g0 (fr1 8 (by decide))
      have hs1 : SC 4 δ M1 := hs.congr (fr1 4 (by decide)) (fr1 5 (by decide)) (fr1 6 (by decide))
      have frA : CRf M M1 := ⟨fun a ha => (fr1 a (by omega)).trans (fr.1 a ha), g0.trans fr.2⟩
      have item : (tkk c N x = 0 → ¬ 0 < δ 0) → AC (d + 6) mX5_readItem [.inr 7, .inr 4] M1 (fun r M6 => ∃ z7, r = some z7 ∧
 (am_r z7) ∧
 ((z7 ≠ 0 →
 AW (d + 7) mX5_readAll 13 [(0, .inr 7), (1, .inr 4), (2, .inl (it + 1)), (3, .inl (tu + 1))] [] M6 Q) ∧
 (z7 = 0 →
 Q (some ((-10) - (M6 7 3))) M6))) := fun hne => by
        refine k_readItem ht hc1 ⟨h0, hx⟩ ⟨g2, g3, g4⟩ hd hs1 (fun hi M2 fr2 hs2 e2 => ⟨_, rfl, by decide, fun _ => ?_, fun z => absurd z (by decide)⟩) (fun hi M2 fr2 e2 => ⟨_, rfl, by decide, fun z => absurd rfl z, fun _ => ?_⟩)
        · have hg := itf_good hd ⟨h0, hx⟩ hi
          rw [if_neg hg.2.2.2, if_pos hi] at hp
          exact ih _ _ _ _ M2 hg.1 (by omega) (by omega) (by omega) (by omega) (by omega) ⟨fun a ha => (fr2.1 a ha).trans (frA.1 a ha), fr2.2.trans frA.2⟩ hs2 e2 hp
        · have hr := itf_r (c := c) (N := N) (δ := δ) ⟨h0, hx⟩
          have ep : (prs c N 48 d0 0 0).1 = -10 - itf c N δ x := by
            rw [← hp]
            by_cases hz : tkk c N x = 0
            · rw [if_pos hz, if_neg (hne hz), itf_end hz]
            · rw [if_neg hz, if_neg hi]
          rw [e2, ← ep]
          exact hQ M2 ⟨fun a ha => (fr2.1 a ha).trans (frA.1 a ha), fr2.2.trans frA.2⟩ (Or.inl (by omega))
      have e40 : M1 4 0 = δ 0 := hs1.1
      rw [g2, e40]
      refine ⟨by omega, fun k => item (fun z => absurd z k), fun k => ⟨by omega, fun k2 => item (fun _ => by omega), fun k2 => ?_⟩⟩
      rw [if_pos k, if_pos k2] at hp
      have e1 : (prs c N 48 d0 0 0).1 = it := by rw [← hp]
      have e2 : (prs c N 48 d0 0 0).2 = δ := by rw [← hp]
      have := hQ M1 frA (Or.inr (by rw [e2]; exact hs1))
      rw [e1] at this
      exact this
  refine sg_X5_readAll (k_makeEmpty ⟨rfl, rfl, rfl⟩ (fun M1 fr1 hs1 => ⟨rfl, ?_⟩))
  refine key 48 d0 0 0 0 _ d0_ok (by omega) (by omega) (by omega) (by omega) (by omega) ⟨fun a ha => ?_, ?_⟩ ?_ (am_up_same _ _ _ _) rfl
  · rw [am_up_ne _ _ _ _ _ (by omega)]; exact fr1 a (by omega) (by omega) (by omega)
  · rw [am_up_idx _ _ (by decide), fr1 7 (by decide) (by decide) (by decide)]
  · exact hs1.congr (am_up_ne _ _ _ _ _ (by decide)) (am_up_ne _ _ _ _ _ (by decide)) (am_up_ne _ _ _ _ _ (by decide))
end RD
