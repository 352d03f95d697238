/-! the items of a text -/
def tv (c : Int → Int) (N x : Int) : Int := if tke c N x - tks c N x = 1 then c (tks c N x) - 48 else 10 * (c (tks c N x) - 48) + (c (tks c N x + 1) - 48)
def frok (c : Int → Int) (N : Int) (δ : Int → Int) (x : Int) : Bool := decide (tkk c N x = 2 ∧ (3 ≤ tke c N x - tks c N x ∧ tke c N x - tks c N x ≤ 12) ∧ (δ 0 = 0 ∨ tke c N x - tks c N x = δ 1))
def nlo (k : Int) : Int := if k = 3 then 0 else 1
def nhi (k : Int) : Int := if k = 2 then 9 else if k = 3 then 20 else 8
def nmok (c : Int → Int) (N k x : Int) : Bool := decide (tkk c N x = 2 ∧ tke c N x - tks c N x ≤ 2 ∧ (tke c N x - tks c N x = 1 ∨ c (tks c N x) ≠ 48) ∧ nlo k ≤ tv c N x ∧ tv c N x ≤ nhi k)
def dfr (c : Int → Int) (N : Int) (δ : Int → Int) (x j : Int) : Int := if j = 0 then δ 0 + 1 else if j = 1 then tke c N x - tks c N x else if 5 + 12 * δ 0 ≤ j ∧ j < 5 + 12 * δ 0 + (tke c N x - tks c N x) then c (tks c N x + (j - 5 - 12 * δ 0)) - 48 else δ j
def dst (c : Int → Int) (N : Int) (δ : Int → Int) (k x j : Int) : Int := if j = k then tv c N x else δ j
/-- the fault of an item, or -9; the draft behind it -/
def itf (c : Int → Int) (N : Int) (δ : Int → Int) (x : Int) : Int :=
  if tcd c N x = 1 then (if 8 ≤ δ 0 then tks c N x else if frok c N δ (tke c N x) then (if tkk c N (tke c N (tke c N x)) = 3 then -9 else tks c N (tke c N (tke c N x))) else tks c N (tke c N x))
  else if 2 ≤ tcd c N x ∧ tcd c N x ≤ 4 then (if nmok c N (tcd c N x) (tke c N x) then (if tkk c N (tke c N (tke c N x)) = 3 then -9 else tks c N (tke c N (tke c N x))) else tks c N (tke c N x))
  else tks c N x
def itd (c : Int → Int) (N : Int) (δ : Int → Int) (x : Int) : Int → Int := if tcd c N x = 1 then dfr c N δ (tke c N x) else dst c N δ (tcd c N x) (tke c N x)
def dok (δ : Int → Int) : Prop := (0 ≤ δ 0 ∧ δ 0 ≤ 8) ∧ (0 < δ 0 → 3 ≤ δ 1 ∧ δ 1 ≤ 12) ∧ (1 ≤ δ 2 ∧ δ 2 ≤ 9) ∧ (0 ≤ δ 3 ∧ δ 3 ≤ 20) ∧ (1 ≤ δ 4 ∧ δ 4 ≤ 8) ∧ (∀ j, 5 ≤ j → j < 101 → 0 ≤ δ j ∧ δ j ≤ 9) ∧ (δ 0 = 0 → δ 1 = 0)
theorem dok.sp {δ : Int → Int} (h : dok δ) (h0 : 0 < δ 0) : sp_ok δ := ⟨by have := h.1; omega, h.2.1 h0, h.2.2.1, h.2.2.2.1, h.2.2.2.2.1, h.2.2.2.2.2.1⟩
section IT
variable {c : Int → Int} {N : Int} {δ : Int → Int}
theorem tv_r (ht : tx_ok c N) {x : Int} (hx : 0 ≤ x ∧ x ≤ N) (hk : tkk c N x = 2) (hn : tke c N x - tks c N x ≤ 2) : 0 ≤ tv c N x ∧ tv c N x ≤ 99 ∧ 48 ≤ c (tks c N x) ∧ c (tks c N x) ≤ 57 := by
  have h := tok_r (c := c) (N := N) hx.1 hx.2
  have h1 := h.2.2.2.1 (by omega)
  have a := am_kd_2 ((h.2.2.2.2.2.2.1 (Or.inr hk) (tks c N x) (by omega) (by omega)).trans hk)
  unfold tv
  by_cases h5 : tke c N x - tks c N x = 1
  · rw [if_pos h5]; omega
  · rw [if_neg h5]
    have b := am_kd_2 ((h.2.2.2.2.2.2.1 (Or.inr hk) (tks c N x + 1) (by omega) (by omega)).trans hk)
    omega
theorem frok_iff {x : Int} : frok c N δ x = true ↔ (tkk c N x = 2 ∧ (3 ≤ tke c N x - tks c N x ∧ tke c N x - tks c N x ≤ 12) ∧ (δ 0 = 0 ∨ tke c N x - tks c N x = δ 1)) := decide_eq_true_iff
theorem nmok_iff {k x : Int} : nmok c N k x = true ↔ (tkk c N x = 2 ∧ tke c N x - tks c N x ≤ 2 ∧ (tke c N x - tks c N x = 1 ∨ c (tks c N x) ≠ 48) ∧ nlo k ≤ tv c N x ∧ tv c N x ≤ nhi k) := decide_eq_true_iff
theorem dok_fr (hd : dok δ) (h8 : δ 0 < 8) {x : Int} (hx : 0 ≤ x ∧ x ≤ N) (h : frok c N δ x = true) : dok (dfr c N δ x) := by
  obtain ⟨h1, h2, h3⟩ := frok_iff.mp h
  have ht := tok_r (c := c) (N := N) hx.1 hx.2
  obtain ⟨d0, d1, d2, d3, d4, d5, d6⟩ := hd
  have e0 : dfr c N δ x 0 = δ 0 + 1 := by unfold dfr; rw [if_pos rfl]
  have e1 : dfr c N δ x 1 = tke c N x - tks c N x := by unfold dfr; rw [if_neg (by decide), if_pos rfl]
  have e : ∀ j, 2 ≤ j → j ≤ 4 → dfr c N δ x j = δ j := fun j a b => by unfold dfr; rw [if_neg (by omega), if_neg (by omega), if_neg (by omega)]
  refine ⟨by omega, fun _ => by omega, ?_, ?_, ?_, fun j a b => ?_, fun k => by omega⟩
  · rw [e 2 (by decide) (by decide)]; exact d2
  · rw [e 3 (by decide) (by decide)]; exact d3
  · rw [e 4 (by decide) (by decide)]; exact d4
  · unfold dfr
    rw [if_neg (by omega), if_neg (by omega)]
    by_cases hc : 5 + 12 * δ 0 ≤ j ∧ j < 5 + 12 * δ 0 + (tke c N x - tks c N x)
    · rw [if_pos hc]
      have := am_kd_2 ((ht.2.2.2.2.2.2.1 (Or.inr h1) (tks c N x + (j - 5 - 12 * δ 0)) (by omega) (by omega)).trans h1)
      omega
    · rw [if_neg hc]; exact d5 j a b
theorem dok_st (hd : dok δ) {k x : Int} (hk : 2 ≤ k ∧ k ≤ 4) (h : nmok c N k x = true) : dok (dst c N δ k x) := by
  obtain ⟨h1, h2, h3, h4, h5⟩ := nmok_iff.mp h
  obtain ⟨d0, d1, d2, d3, d4, d5, d6⟩ := hd
  have e0 : ∀ j, j ≠ k → dst c N δ k x j = δ j := fun j a => by unfold dst; rw [if_neg a]
  have ek : dst c N δ k x k = tv c N x := by unfold dst; rw [if_pos rfl]
  unfold nlo at h4
  unfold nhi at h5
  refine ⟨?_, ?_, ?_, ?_, ?_, fun j a b => ?_, ?_⟩
  · rw [e0 0 (by omega)]; exact d0
  · rw [e0 0 (by omega), e0 1 (by omega)]; exact d1
  · by_cases hq : k = 2
    · subst hq
      rw [ek]
      rw [if_neg (by decide)] at h4
      rw [if_pos rfl] at h5
      exact ⟨h4, h5⟩
    · rw [e0 2 (fun z => hq z.symm)]; exact d2
  · by_cases hq : k = 3
    · subst hq
      rw [ek]
      rw [if_pos rfl] at h4
      rw [if_neg (by decide), if_pos rfl] at h5
      exact ⟨h4, h5⟩
    · rw [e0 3 (fun z => hq z.symm)]; exact d3
  · by_cases hq : k = 4
    · subst hq
      rw [ek]
      rw [if_neg (by decide)] at h4
      rw [if_neg (by decide), if_neg (by decide)] at h5
      exact ⟨h4, h5⟩
    · rw [e0 4 (fun z => hq z.symm)]; exact d4
  · rw [e0 j (by omega)]; exact d5 j a b
  · rw [e0 0 (by omega), e0 1 (by omega)]; exact d6
theorem tcd_word {x : Int} : (tcd c N x = 1 ↔ (tkk c N x = 1 ∧ wis c (tks c N x) (tke c N x) 102 114 97 109 101 = true)) ∧ (tcd c N x ≠ 1 → (if tkk c N x = 1 ∧ wis c (tks c N x) (tke c N x) 102 108 111 111 114 = true then (0 : Int) else if tkk c N x = 1 ∧ wis c (tks c N x) (tke c N x) 114 101 97 99 104 = true then 1 else if tkk c N x = 1 ∧ wis c (tks c N x) (tke c N x) 108 101 97 115 116 = true then 2 else -9) = if 2 ≤ tcd c N x ∧ tcd c N x ≤ 4 then tcd c N x - 2 else -9) := by
  by_cases h1 : tkk c N x = 1
  · have e : tcd c N x = wno c (tks c N x) (tke c N x) := by unfold tcd; rw [if_neg (by omega), if_pos h1]
    rw [e]
    unfold wno
    cases w1 : wis c (tks c N x) (tke c N x) 102 114 97 109 101 <;> cases w2 : wis c (tks c N x) (tke c N x) 102 108 111 111 114 <;> cases w3 : wis c (tks c N x) (tke c N x) 114 101 97 99 104 <;> cases w4 : wis c (tks c N x) (tke c N x) 108 101 97 115 116 <;> simp [h1]
  · have e : tcd c N x = 0 ∨ 5 ≤ tcd c N x := by
      unfold tcd
      rw [if_neg h1]
      (repeat' split) <;> omega
    refine ⟨⟨fun k => by omega, fun k => absurd k.1 h1⟩, fun _ => ?_⟩
    rw [if_neg (fun k => h1 k.1), if_neg (fun k => h1 k.1), if_neg (fun k => h1 k.1), if_neg (by omega)]
theorem tcd_r (x : Int) : 0 ≤ tcd c N x ∧ tcd c N x ≤ 7 := by
  have := wno_r (c := c) (tks c N x) (tke c N x)
  unfold tcd
  (repeat' split) <;> omega
theorem tcd_5 (x : Int) : tcd c N x = 5 ↔ tkk c N x = 2 := by
  have := wno_r (c := c) (tks c N x) (tke c N x)
  unfold tcd
  (repeat' split) <;> omega
theorem tcd_6 (x : Int) : tcd c N x = 6 ↔ tkk c N x = 3 := by
  have := wno_r (c := c) (tks c N x) (tke c N x)
  unfold tcd
  (repeat' split) <;> omega
theorem tcd_0 (x : Int) : tcd c N x = 0 ↔ tkk c N x = 0 := by
  have := wno_r (c := c) (tks c N x) (tke c N x)
  unfold tcd
  (repeat' split) <;> omega
/-! the class reads an item -/
def CK (M : am_M) (c : Int → Int) (N x : Int) : Prop := M 7 2 = tkk c N x ∧ M 7 3 = tks c N x ∧ M 7 4 = tke c N x
theorem k_isWord {d : Nat} {M : am_M} {Q : Option Int → am_M → Prop} (ht : tx_ok c N) (hc : CT M c N) {x : Int} (hx : 0 ≤ x ∧ x ≤ N) (hK : CK M c N x) {w : Nat} (hw : w < 4) (hQ : Q (some (am_b (tkk c N x = 1 ∧ wis c (tks c N x) (tke c N x) (am_chr w 0) (am_chr w 1) (am_chr w 2) (am_chr w 3) (am_chr w 4) = true))) M) : AC (d + 4) mX5_isWord [.inr 7, .inr (110 + w)] M Q := by
  obtain ⟨e2, e3, e4⟩ := hK
  have hN := ht.1
  have htk := tok_r (c := c) (N := N) hx.1 hx.2
  have key : ∀ (t i : Nat), i + t = 5 → tkk c N x = 1 → tke c N x - tks c N x = 5 → (∀ j : Nat, j < i → c (tks c N x + j) = am_chr w (j : Int)) → AW (d + 4) mX5_isWord 28 [(0, .inr 7), (1, .inr (110 + w)), (2, .inl (i : Int))] [] M Q := by
    intro t
    induction t with
    | zero =>
      intro i hi h1 h5 hj
      refine sg_X5_isWord_28 hw (sc_length hw ⟨_, rfl, by omega, by decide, fun _ => ?_, fun k => absurd k (by omega)⟩)
      rw [am_b_pos] at hQ
      · exact hQ
      · refine ⟨h1, decide_eq_true ⟨h5, ?_, ?_, ?_, ?_, ?_⟩⟩
        · simpa using hj 0 (by omega)
        · exact hj 1 (by omega)
        · exact hj 2 (by omega)
        · exact hj 3 (by omega)
        · exact hj 4 (by omega)
    | succ t ih =>
      intro i hi h1 h5 hj
      have e8 := hc.2 (tks c N x + i) (by omega) (by omega)
      have hcr := ht.2 (tks c N x + i) (by omega) (by omega)
      have hch : -128 ≤ am_chr w (i : Int) ∧ am_chr w (i : Int) < 128 ∧ 0 ≤ am_chr w (i : Int) := (am_chr_ok ⟨w, hw⟩ ⟨i, by omega⟩).2
      refine sg_X5_isWord_28 hw (sc_length hw ⟨_, rfl, by omega, by decide, fun k => absurd k (by omega), fun _ => ?_⟩)
      rw [e3]
      refine ⟨by omega, sc_charAt hw (by omega) ⟨_, rfl, by omega, ⟨by omega, by omega⟩, fun k => ?_, fun k => ?_⟩⟩
      · rw [show (i : Int) + 1 = ((i + 1 : Nat) : Int) by omega]
        refine ih (i + 1) (by omega) h1 h5 (fun j hj2 => ?_)
        by_cases hji : j = i
        · subst hji; rw [← e8]; exact k
        · exact hj j (by omega)
      · rw [am_b_neg] at hQ
        · exact hQ
        · intro z
          obtain ⟨-, z0, z1, z2, z3, z4⟩ := decide_eq_true_iff.mp z.2
          rw [e8] at k
          have hi5 : i = 0 ∨ i = 1 ∨ i = 2 ∨ i = 3 ∨ i = 4 := by omega
          rcases hi5 with h | h | h | h | h <;> subst h
          · exact k (by simpa using z0)
          · exact k z1
          · exact k z2
          · exact k z3
          · exact k z4
  refine sg_X5_isWord hw ⟨by omega, fun k => ?_, fun k => sc_length hw ⟨_, rfl, by omega, by decide, fun k5 => ?_, fun k5 => ?_⟩⟩
  · rw [am_b_neg (fun z => k (by rw [e2]; exact z.1))] at hQ
    exact hQ
  · exact key 5 0 (by omega) (by omega) (by omega) (fun j hj => absurd hj (by omega))
  · rw [am_b_neg (fun z => k5 (by rw [e3, e4]; exact (decide_eq_true_iff.mp z.2).1))] at hQ
    exact hQ
theorem k_word {d : Nat} {M : am_M} {Q : Option Int → am_M → Prop} (ht : tx_ok c N) (hc : CT M c N) {x : Int} (hx : 0 ≤ x ∧ x ≤ N) (hK : CK M c N x) {w : Nat} (hw : w < 4) {a1 a2 a3 a4 a5 : Int} (ha : am_chr w 0 = a1 ∧ am_chr w 1 = a2 ∧ am_chr w 2 = a3 ∧ am_chr w 3 = a4 ∧ am_chr w 4 = a5) (hQ : Q (some (am_b (tkk c N x = 1 ∧ wis c (tks c N x) (tke c N x) a1 a2 a3 a4 a5 = true))) M) : AC (d + 4) mX5_isWord [.inr 7, .inr (110 + w)] M Q := by
  obtain ⟨rfl, rfl, rfl, rfl, rfl⟩ := ha
  exact k_isWord ht hc hx hK hw hQ
theorem am_b_if {P : Prop} [Decidable P] {a b : Int} : (if am_b P = 0 then a else b) = if P then b else a := by
  by_cases h : P
  · rw [am_b_pos h, if_pos h, if_neg (by decide)]
  · rw [am_b_neg h, if_neg h, if_pos rfl]
theorem k_namedSetting {d : Nat} {M : am_M} {Q : Option Int → am_M → Prop} (ht : tx_ok c N) (hc : CT M c N) {x : Int} (hx : 0 ≤ x ∧ x ≤ N) (hK : CK M c N x) (h1 : tcd c N x ≠ 1) (hQ : Q (some (if 2 ≤ tcd c N x ∧ tcd c N x ≤ 4 then tcd c N x - 2 else -9)) M) : AC (d + 5) mX5_namedSetting [.inr 7] M Q := by
  rw [← tcd_word.2 h1] at hQ
  have b1 := am_b_01 (tkk c N x = 1 ∧ wis c (tks c N x) (tke c N x) 102 108 111 111 114 = true)
  have b2 := am_b_01 (tkk c N x = 1 ∧ wis c (tks c N x) (tke c N x) 114 101 97 99 104 = true)
  have b3 := am_b_01 (tkk c N x = 1 ∧ wis c (tks c N x) (tke c N x) 108 101 97 115 116 = true)
  have z1 : ∀ {P : Prop} [Decidable P], am_b P = 0 → ¬ P := fun h p => by rw [am_b_pos p] at h; omega
  have z2 : ∀ {P : Prop} [Decidable P], am_b P ≠ 0 → P := fun {P} _ h => by
    by_cases hp : P
    · exact hp
    · rw [am_b_neg hp] at h; exact absurd rfl h
  refine sg_X5_namedSetting (k_word ht hc hx hK (w := 1) (by decide) (a1 := 102) (a2 := 108) (a3 := 111) (a4 := 111) (a5 := 114) (by decide) ⟨_, rfl, ?_⟩)
  refine ⟨?_, fun k => ?_, fun k => ?_⟩
  · exact am_b_r _
  · rw [if_neg (z1 k)] at hQ
    refine k_word ht hc hx hK (w := 2) (by decide) (a1 := 114) (a2 := 101) (a3 := 97) (a4 := 99) (a5 := 104) (by decide) ⟨_, rfl, am_b_r _, fun k2 => ?_, fun k2 => ?_⟩
    · rw [if_neg (z1 k2)] at hQ
      refine k_word ht hc hx hK (w := 3) (by decide) (a1 := 108) (a2 := 101) (a3 := 97) (a4 := 115) (a5 := 116) (by decide) ⟨_, rfl, am_b_r _, fun v g1 g2 => ?_⟩
      by_cases k3 : am_b (tkk c N x = 1 ∧ wis c (tks c N x) (tke c N x) 108 101 97 115 116 = true) = 0
      · rw [if_neg (z1 k3)] at hQ
        rw [g1 k3]; exact hQ
      · rw [if_pos (z2 k3)] at hQ
        rw [g2 k3]; exact hQ
    · rw [if_pos (z2 k2)] at hQ
      exact hQ
  · rw [if_pos (z2 k)] at hQ
    exact hQ
theorem k_readFrame {d : Nat} {M : am_M} {Q : Option Int → am_M → Prop} (ht : tx_ok c N) (hc : CT M c N) {x : Int} (hx : 0 ≤ x ∧ x ≤ N) (hK : CK M c N x) (hd : dok δ) (hs : SC 4 δ M) (h8 : δ 0 < 8) (hQ1 : frok c N δ x = true → ∀ M', (∀ a, a ≠ 4 → a ≠ 6 → M' a = M a) → SC 4 (dfr c N δ x) M' → Q (some 1) M') (hQ0 : frok c N δ x ≠ true → Q (some 0) M) : AC (d + 3) mX5_readFrame [.inr 7, .inr 4] M Q := by
  obtain ⟨e2, e3, e4⟩ := hK
  have hN := ht.1
  have htk := tok_r (c := c) (N := N) hx.1 hx.2
  obtain ⟨s0, s1, s2, s3, s4, s5⟩ := hs
  have d0 := hd.1
  have d1 := hd.2.1
  have e34 : M 7 4 - M 7 3 = tke c N x - tks c N x := by omega
  have fill : ∀ (t p : Nat) (M' : am_M), frok c N δ x = true → (p : Int) + t = tke c N x - tks c N x → (∀ a, a ≠ 4 → a ≠ 6 → M' a = M a) → M' 4 0 = δ 0 + 1 → M' 4 1 = tke c N x - tks c N x → (∀ j, 0 ≤ j → j < 96 → M' 6 j = if 12 * δ 0 ≤ j ∧ j < 12 * δ 0 + p then c (tks c N x + (j - 12 * δ 0)) - 48 else δ (5 + j)) → AW (d + 3) mX5_readFrame 65 [(0, .inr 7), (1, .inr 4), (2, .inl (tke c N x - tks c N x)), (3, .inl (p : Int))] [] M' Q := by
    intro t
    induction t with
    | zero =>
      intro p M' hf hp fr f0 f1 f6
      obtain ⟨g1, g2, g3⟩ := frok_iff.mp hf
      refine sg_X5_readFrame_65 ⟨by omega, by omega, fun _ => hQ1 hf M' fr ?_, fun k => absurd k (by omega)⟩
      refine ⟨?_, ?_, ?_, ?_, ?_, fun j a b => ?_⟩
      · rw [f0]; unfold dfr; rw [if_pos rfl]
      · rw [f1]; unfold dfr; rw [if_neg (by decide), if_pos rfl]
      · rw [fr 5 (by decide) (by decide)]; unfold dfr; rw [if_neg (by decide), if_neg (by decide), if_neg (by omega)]; exact s2
      · rw [fr 5 (by decide) (by decide)]; unfold dfr; rw [if_neg (by decide), if_neg (by decide), if_neg (by omega)]; exact s3
      · rw [fr 5 (by decide) (by decide)]; unfold dfr; rw [if_neg (by decide), if_neg (by decide), if_neg (by omega)]; exact s4
      · have e9 : dfr c N δ x (5 + j) = if 5 + 12 * δ 0 ≤ 5 + j ∧ 5 + j < 5 + 12 * δ 0 + (tke c N x - tks c N x) then c (tks c N x + (5 + j - 5 - 12 * δ 0)) - 48 else δ (5 + j) := by
          unfold dfr
          rw [if_neg (by omega), if_neg (by omega)]
        rw [show M' (4 + 2) = M' 6 from rfl, f6 j a b, e9]
        by_cases hc2 : 12 * δ 0 ≤ j ∧ j < 12 * δ 0 + p
        · rw [if_pos hc2, if_pos (by omega), show 5 + j - 5 - 12 * δ 0 = j - 12 * δ 0 by omega]
        · rw [if_neg hc2, if_neg (by omega)]
    | succ t ih =>
      intro p M' hf hp fr f0 f1 f6
      obtain ⟨g1, g2, g3⟩ := frok_iff.mp hf
      have hc' : CT M' c N := hc.congr (by rw [fr 7 (by decide) (by decide)]) (fr 8 (by decide) (by decide))
      have e73 : M' 7 3 = tks c N x := by rw [fr 7 (by decide) (by decide)]; exact e3
      have hkd := (htk.2.2.2.2.2.2.1 (Or.inr g1) (tks c N x + p) (by omega) (by omega)).trans g1
      refine sg_X5_readFrame_65 ⟨by omega, by omega, fun k => absurd k (by omega), fun _ => ?_⟩
      rw [e73, hc'.fg hkd, f0]
      refine ⟨hc'.kdok ht (by omega), sg_X3_putLevel ⟨rfl, rfl, rfl⟩ ?_⟩
      rw [f0, f1]
      refine ⟨⟨⟨by omega, by omega⟩, by omega, by omega⟩, fun k => absurd k (by omega), fun _ => ⟨by omega, rfl, ?_⟩⟩
      rw [show (p : Int) + 1 = ((p + 1 : Nat) : Int) by omega]
      refine ih (p + 1) _ hf (by omega) (fun a h4 h6 => by rw [am_up_ne _ _ _ _ _ h6]; exact fr a h4 h6) (by rw [am_up_cell _ (by decide)]; exact f0) (by rw [am_up_cell _ (by decide)]; exact f1) (fun j a b => ?_)
      show am_up M' 6 _ _ 6 j = _
      by_cases hj : j = (δ 0 + 1 - 1) * 12 + p
      · rw [hj, am_up_same, if_pos (by omega), show (δ 0 + 1 - 1) * 12 + (p : Int) - 12 * δ 0 = p by omega]
      · rw [am_up_idx _ _ hj, f6 j a b]
        by_cases hc2 : 12 * δ 0 ≤ j ∧ j < 12 * δ 0 + p
        · rw [if_pos hc2, if_pos (by omega)]
        · rw [if_neg hc2, if_neg (by omega)]
  have go : frok c N δ x = true → AW (d + 3) mX5_readFrame 65 [(0, .inr 7), (1, .inr 4), (2, .inl (tke c N x - tks c N x)), (3, .inl 0)] [] (am_up (am_up M 4 1 (tke c N x - tks c N x)) 4 0 (M 4 0 + 1)) Q := fun hf => by
    obtain ⟨g1, g2, g3⟩ := frok_iff.mp hf
    refine fill (tke c N x - tks c N x).toNat 0 _ hf (by omega) (fun a h4 _ => by rw [am_up_ne _ _ _ _ _ h4, am_up_ne _ _ _ _ _ h4]) (by rw [am_up_same, s0]) (by rw [am_up_idx _ _ (by decide), am_up_same]) (fun j a b => ?_)
    rw [if_neg (by omega), am_up_ne _ _ _ _ _ (by decide), am_up_ne _ _ _ _ _ (by decide)]
    exact s5 j a b
  refine sg_X5_readFrame ?_
  rw [e34, e2, s0, s1]
  rw [s0] at go
  refine ⟨by omega, fun k => hQ0 (fun z => k (frok_iff.mp z).1), fun k => ⟨by omega, fun k2 => hQ0 (fun z => absurd k2 (by have := (frok_iff.mp z).2.1; omega)), fun k2 => ⟨fun k3 => ⟨by omega, fun k4 => go (frok_iff.mpr ⟨k, ⟨k2, k3⟩, Or.inl (by omega)⟩), fun k4 => ⟨by omega, fun k5 => go (frok_iff.mpr ⟨k, ⟨k2, k3⟩, Or.inr k5⟩), fun k5 => hQ0 (fun z => ?_)⟩⟩, fun k3 => hQ0 (fun z => absurd k3 (by have := (frok_iff.mp z).2.1; omega))⟩⟩⟩
  have := (frok_iff.mp z).2.2
  omega
theorem am_isS_n {k v : Int} (hk : 2 ≤ k ∧ k ≤ 4) : am_isS (k - 2) v ↔ (nlo k ≤ v ∧ v ≤ nhi k) := by
  have : k = 2 ∨ k = 3 ∨ k = 4 := by omega
  rcases this with h | h | h <;> subst h
  · exact ⟨fun z => z.2.2, fun z => ⟨by decide, by decide, z⟩⟩
  · exact ⟨fun z => z.2.2, fun z => ⟨by decide, by decide, z⟩⟩
  · exact ⟨fun z => z.2.2, fun z => ⟨by decide, by decide, z⟩⟩
theorem SC_dst {M : am_M} (hs : SC 4 δ M) {k x : Int} (hk : 2 ≤ k ∧ k ≤ 4) : SC 4 (dst c N δ k x) (am_up M 5 (k - 2) (tv c N x)) := by
  obtain ⟨s0, s1, s2, s3, s4, s5⟩ := hs
  have e0 : ∀ j, j ≠ k → dst c N δ k x j = δ j := fun j a => by unfold dst; rw [if_neg a]
  have ek : dst c N δ k x k = tv c N x := by unfold dst; rw [if_pos rfl]
  have s5' : ∀ i, 0 ≤ i → i ≤ 2 → am_up M 5 (k - 2) (tv c N x) (4 + 1) i = dst c N δ k x (2 + i) := by
    intro i a b
    show am_up M 5 (k - 2) (tv c N x) 5 i = _
    by_cases hi : i = k - 2
    · rw [hi, am_up_same, show 2 + (k - 2) = k by omega, ek]
    · rw [am_up_idx _ _ hi, e0 _ (by omega)]
      have : i = 0 ∨ i = 1 ∨ i = 2 := by omega
      rcases this with h | h | h <;> subst h
      · exact s2
      · exact s3
      · exact s4
  refine ⟨?_, ?_, s5' 0 (by decide) (by decide), s5' 1 (by decide) (by decide), s5' 2 (by decide) (by decide), fun j a b => ?_⟩
  · rw [am_up_cell _ (by decide), e0 0 (by omega)]; exact s0
  · rw [am_up_cell _ (by decide), e0 1 (by omega)]; exact s1
  · rw [am_up_cell _ (by decide), e0 _ (by omega)]; exact s5 j a b
theorem k_readSetting {d : Nat} {M : am_M} {Q : Option Int → am_M → Prop} (ht : tx_ok c N) (hc : CT M c N) {x : Int} (hx : 0 ≤ x ∧ x ≤ N) (hK : CK M c N x) {k : Int} (hk : 2 ≤ k ∧ k ≤ 4) (hs : SC 4 δ M) (hQ1 : nmok c N k x = true → ∀ M', (∀ a, a ≠ 5 → M' a = M a) → SC 4 (dst c N δ k x) M' → Q (some 1) M') (hQ0 : nmok c N k x ≠ true → Q (some 0) M) : AC (d + 2) mX5_readSetting [.inr 7, .inr 4, .inl (k - 2)] M Q := by
  obtain ⟨e2, e3, e4⟩ := hK
  have hN := ht.1
  have htk := tok_r (c := c) (N := N) hx.1 hx.2
  have e34 : M 7 4 - M 7 3 = tke c N x - tks c N x := by omega
  refine sg_X5_readSetting ?_
  rw [e34, e2, e3]
  have yes : nmok c N k x = true → Q (some 1) (am_up M 5 (k - 2) (tv c N x)) := fun h => hQ1 h _ (fun a ha => am_up_ne _ _ _ _ _ ha) (SC_dst hs hk)
  refine ⟨by omega, fun z => hQ0 (fun y => z (nmok_iff.mp y).1), fun z => ⟨by omega, fun z2 => ?_, fun z2 => hQ0 (fun y => by have := (nmok_iff.mp y).2.1; omega)⟩⟩
  have hlt := htk.2.2.2.1 (by omega)
  have hk0 := (htk.2.2.2.2.2.2.1 (Or.inr z) (tks c N x) (by omega) (by omega)).trans z
  have hr := tv_r ht hx z z2
  rw [hc.fg hk0]
  refine ⟨hc.kdok ht (by omega), fun z3 => ?_, fun z3 => ⟨by omega, fun z4 => ?_, fun z4 => hQ0 (fun y => by have := (nmok_iff.mp y).2.2.1; omega)⟩⟩
  · have ev : c (tks c N x) - 48 = tv c N x := by unfold tv; rw [if_pos (by omega)]
    rw [ev]
    refine ⟨⟨by omega, by omega⟩, fun z5 => ⟨by omega, yes (nmok_iff.mpr ⟨z, z2, Or.inl (by omega), (am_isS_n hk).mp z5⟩)⟩, fun z5 => hQ0 (fun y => z5 ((am_isS_n hk).mpr (nmok_iff.mp y).2.2.2))⟩
  · have hk1 := (htk.2.2.2.2.2.2.1 (Or.inr z) (tks c N x + 1) (by omega) (by omega)).trans z
    have ev : 10 * (c (tks c N x) - 48) + (c (tks c N x + 1) - 48) = tv c N x := by unfold tv; rw [if_neg (by omega)]
    rw [hc.fg hk1, ev]
    refine ⟨hc.kdok ht (by omega), ⟨by omega, by omega⟩, fun z5 => ⟨by omega, yes (nmok_iff.mpr ⟨z, z2, Or.inr (by omega), (am_isS_n hk).mp z5⟩)⟩, fun z5 => hQ0 (fun y => z5 ((am_isS_n hk).mpr (nmok_iff.mp y).2.2.2))⟩
theorem itf_r {x : Int} (hx : 0 ≤ x ∧ x ≤ N) : itf c N δ x = -9 ∨ (0 ≤ itf c N δ x ∧ itf c N δ x ≤ N) := by
  have h1 := tok_r (c := c) (N := N) hx.1 hx.2
  have h2 := tok_r (c := c) (N := N) (x := tke c N x) (by omega) (by omega)
  have h3 := tok_r (c := c) (N := N) (x := tke c N (tke c N x)) (by omega) (by omega)
  unfold itf
  (repeat' split) <;> omega
/-- what reading leaves as it was -/
def CRf (M M' : am_M) : Prop := (∀ a, a < 4 ∨ 7 < a → M' a = M a) ∧ M' 7 0 = M 7 0
theorem k_readItem {d : Nat} {M : am_M} {Q : Option Int → am_M → Prop} (ht : tx_ok c N) (hc : CT M c N) {x : Int} (hx : 0 ≤ x ∧ x ≤ N) (hK : CK M c N x) (hd : dok δ) (hs : SC 4 δ M) (hQ1 : itf c N δ x = -9 → ∀ M', CRf M M' → SC 4 (itd c N δ x) M' → M' 7 4 = tke c N (tke c N (tke c N x)) → Q (some 1) M') (hQ0 : itf c N δ x ≠ -9 → ∀ M', CRf M M' → M' 7 3 = itf c N δ x → Q (some 0) M') : AC (d + 6) mX5_readItem [.inr 7, .inr 4] M Q := by
  have hN := ht.1
  have h1 := tok_r (c := c) (N := N) hx.1 hx.2
  have h2 := tok_r (c := c) (N := N) (x := tke c N x) (by omega) (by omega)
  have h3 := tok_r (c := c) (N := N) (x := tke c N (tke c N x)) (by omega) (by omega)
  have hcd := tcd_r (c := c) (N := N) x
  have d0 := hd.1
  -- the stop
  have stop : ∀ M2 : am_M, CT M2 c N → CRf M M2 → M2 7 4 = tke c N (tke c N x) → SC 4 (itd c N δ x) M2 → (itf c N δ x = if tkk c N (tke c N (tke c N x)) = 3 then -9 else tks c N (tke c N (tke c N x))) → AC (d + 5) mX5_nextToken [.inr 7] M2 (fun r M14 => r = none ∧ ((am_r (M14 7 2))) ∧ Q (some (am_b ((M14 7 2 = 3)))) M14) := by
    intro M2 hc2 fr2 e2 hs2 hf
    refine k_nextToken ht hc2 e2 (by omega) (fun M3 fr3 g0 g2 g3 g4 => ⟨rfl, by omega, ?_⟩)
    have fr : CRf M M3 := ⟨fun a ha => (fr3 a (by omega)).trans (fr2.1 a ha), g0.trans fr2.2⟩
    rw [g2]
    by_cases h : tkk c N (tke c N (tke c N x)) = 3
    · rw [am_b_pos h]
      rw [if_pos h] at hf
      exact hQ1 hf M3 fr (hs2.congr (fr3 4 (by decide)) (fr3 5 (by decide)) (fr3 6 (by decide))) g4
    · rw [am_b_neg h]
      rw [if_neg h] at hf
      exact hQ0 (by omega) M3 fr (by rw [g3, hf])
  have fr0 : CRf M M := ⟨fun _ _ => rfl, rfl⟩
  refine sg_X5_readItem (k_word ht hc hx hK (w := 0) (by decide) (a1 := 102) (a2 := 114) (a3 := 97) (a4 := 109) (a5 := 101) (by decide) ⟨_, rfl, am_b_r _, fun k => ?_, fun k => ?_⟩)
  · have n1 : tcd c N x ≠ 1 := fun z => by
      have := tcd_word.1.mp z
      rw [am_b_pos this] at k
      omega
    refine k_namedSetting ht hc hx hK n1 ⟨_, rfl, ?_, fun k2 => ?_, fun k2 => ?_⟩
    · split <;> omega
    · by_cases hr : 2 ≤ tcd c N x ∧ tcd c N x ≤ 4
      · rw [if_pos hr]
        refine k_nextToken ht hc hK.2.2 (by omega) (fun M1 fr1 g0 g2 g3 g4 => ⟨rfl, ?_⟩)
        have hc1 : CT M1 c N := hc.congr g0 (fr1 8 (by decide))
        have hs1 : SC 4 δ M1 := hs.congr (fr1 4 (by decide)) (fr1 5 (by decide)) (fr1 6 (by decide))
        have frA : CRf M M1 := ⟨fun a ha => fr1 a (by omega), g0⟩
        have ef : itf c N δ x = if nmok c N (tcd c N x) (tke c N x) then (if tkk c N (tke c N (tke c N x)) = 3 then -9 else tks c N (tke c N (tke c N x))) else tks c N (tke c N x) := by unfold itf; rw [if_neg n1, if_pos hr]
        refine k_readSetting ht hc1 (by omega) ⟨g2, g3, g4⟩ hr hs1 (fun hy M2 fr2 hs2 => ⟨_, rfl, by decide, fun _ => ?_, fun z => absurd z (by decide)⟩) (fun hy => ⟨_, rfl, by decide, fun z => absurd rfl z, fun _ => ?_⟩)
        · rw [if_pos hy] at ef
          refine stop M2 (hc1.congr (by rw [fr2 7 (by decide)]) (fr2 8 (by decide))) ⟨fun a ha => (fr2 a (by omega)).trans (frA.1 a ha), by rw [fr2 7 (by decide)]; exact frA.2⟩ (by rw [fr2 7 (by decide)]; exact g4) ?_ ef
          unfold itd
          rw [if_neg n1]
          exact hs2
        · rw [if_neg hy] at ef
          exact hQ0 (by omega) M1 frA (by rw [g3, ef])
      · rw [if_neg hr] at k2
        exact absurd rfl k2
    · by_cases hr : 2 ≤ tcd c N x ∧ tcd c N x ≤ 4
      · rw [if_pos hr] at k2
        omega
      · have ef : itf c N δ x = tks c N x := by unfold itf; rw [if_neg n1, if_neg hr]
        exact hQ0 (by omega) M fr0 (by rw [hK.2.1, ef])
  · have y1 : tcd c N x = 1 := by
      refine tcd_word.1.mpr ?_
      by_cases hp : tkk c N x = 1 ∧ wis c (tks c N x) (tke c N x) 102 114 97 109 101 = true
      · exact hp
      · exact absurd (am_b_neg hp) k
    have e40 : M 4 0 = δ 0 := hs.1
    rw [e40]
    refine ⟨by omega, fun k8 => ?_, fun k8 => ?_⟩
    · have ef : itf c N δ x = if frok c N δ (tke c N x) then (if tkk c N (tke c N (tke c N x)) = 3 then -9 else tks c N (tke c N (tke c N x))) else tks c N (tke c N x) := by unfold itf; rw [if_pos y1, if_neg (by omega)]
      refine k_nextToken ht hc hK.2.2 (by omega) (fun M1 fr1 g0 g2 g3 g4 => ⟨rfl, ?_⟩)
      have hc1 : CT M1 c N := hc.congr g0 (fr1 8 (by decide))
      have hs1 : SC 4 δ M1 := hs.congr (fr1 4 (by decide)) (fr1 5 (by decide)) (fr1 6 (by decide))
      have frA : CRf M M1 := ⟨fun a ha => fr1 a (by omega), g0⟩
      refine k_readFrame ht hc1 (by omega) ⟨g2, g3, g4⟩ hd hs1 k8 (fun hy M2 fr2 hs2 => ⟨_, rfl, by decide, fun _ => ?_, fun z => absurd z (by decide)⟩) (fun hy => ⟨_, rfl, by decide, fun z => absurd rfl z, fun _ => ?_⟩)
      · rw [if_pos hy] at ef
        refine stop M2 (hc1.congr (by rw [fr2 7 (by decide) (by decide)]) (fr2 8 (by decide) (by decide))) ⟨fun a ha => (fr2 a (by omega) (by omega)).trans (frA.1 a ha), by rw [fr2 7 (by decide) (by decide)]; exact frA.2⟩ (by rw [fr2 7 (by decide) (by decide)]; exact g4) ?_ ef
        unfold itd
        rw [if_pos y1]
        exact hs2
      · rw [if_neg hy] at ef
        exact hQ0 (by omega) M1 frA (by rw [g3, ef])
    · have ef : itf c N δ x = tks c N x := by unfold itf; rw [if_pos y1, if_pos k8]
      exact hQ0 (by omega) M fr0 (by rw [hK.2.1, ef])
end IT
