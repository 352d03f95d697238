/-! the tokens of a text -/
def tx_ok (c : Int → Int) (N : Int) : Prop := (0 ≤ N ∧ N ≤ 140) ∧ ∀ k, 0 ≤ k → k < N → 0 ≤ c k ∧ c k < 256
def tskF (c : Int → Int) : Nat → Int → Int
  | 0, x => x
  | t + 1, x => if c x = 32 then tskF c t (x + 1) else x
def tks (c : Int → Int) (N x : Int) : Int := tskF c (N - x).toNat x
def trnF (c : Int → Int) (N κ : Int) : Nat → Int → Int
  | 0, x => x
  | t + 1, x => if am_kd N c x = κ then trnF c N κ t (x + 1) else x
def trn (c : Int → Int) (N κ x : Int) : Int := trnF c N κ (N - x).toNat x
def tkk (c : Int → Int) (N x : Int) : Int := am_kd N c (tks c N x)
def tke (c : Int → Int) (N x : Int) : Int := if tkk c N x = 0 then tks c N x else if tkk c N x = 1 ∨ tkk c N x = 2 then trn c N (tkk c N x) (tks c N x + 1) else tks c N x + 1
section TX
variable {c : Int → Int} {N : Int}
theorem tks_eq (x : Int) : tks c N x = if x < N ∧ c x = 32 then tks c N (x + 1) else x := by
  unfold tks
  by_cases hx : x < N
  · rw [show (N - x).toNat = (N - (x + 1)).toNat + 1 by omega, tskF]
    by_cases hc : c x = 32
    · rw [if_pos hc, if_pos ⟨hx, hc⟩]
    · rw [if_neg hc, if_neg (fun h => hc h.2)]
  · rw [show (N - x).toNat = 0 by omega, tskF, if_neg (fun h => hx h.1)]
theorem trn_eq (κ x : Int) : trn c N κ x = if x < N ∧ am_kd N c x = κ then trn c N κ (x + 1) else x := by
  unfold trn
  by_cases hx : x < N
  · rw [show (N - x).toNat = (N - (x + 1)).toNat + 1 by omega, trnF]
    by_cases hc : am_kd N c x = κ
    · rw [if_pos hc, if_pos ⟨hx, hc⟩]
    · rw [if_neg hc, if_neg (fun h => hc h.2)]
  · rw [show (N - x).toNat = 0 by omega, trnF, if_neg (fun h => hx h.1)]
theorem tks_r : ∀ (t : Nat) (x : Int), (N - x).toNat = t → x ≤ N → x ≤ tks c N x ∧ tks c N x ≤ N ∧ (tks c N x < N → c (tks c N x) ≠ 32)
  | 0, x, h, hx => by
    have : tks c N x = x := by rw [tks_eq, if_neg (by omega)]
    omega
  | t + 1, x, h, hx => by
    have e := tks_eq (c := c) (N := N) x
    by_cases hc : x < N ∧ c x = 32
    · rw [if_pos hc] at e
      have := tks_r t (x + 1) (by omega) (by omega)
      rw [e]
      exact ⟨by omega, this.2⟩
    · rw [if_neg hc] at e
      rw [e]
      exact ⟨Int.le_refl _, hx, fun k z => hc ⟨k, z⟩⟩
theorem trn_r (κ : Int) : ∀ (t : Nat) (x : Int), (N - x).toNat = t → x ≤ N → x ≤ trn c N κ x ∧ trn c N κ x ≤ N ∧ ∀ k, x ≤ k → k < trn c N κ x → am_kd N c k = κ
  | 0, x, h, hx => by
    have : trn c N κ x = x := by rw [trn_eq, if_neg (by omega)]
    exact ⟨by omega, by omega, fun k a b => absurd b (by omega)⟩
  | t + 1, x, h, hx => by
    have e := trn_eq (c := c) (N := N) κ x
    by_cases hc : x < N ∧ am_kd N c x = κ
    · rw [if_pos hc] at e
      have := trn_r κ t (x + 1) (by omega) (by omega)
      rw [e]
      refine ⟨by omega, this.2.1, fun k a b => ?_⟩
      by_cases hk : k = x
      · rw [hk]; exact hc.2
      · exact this.2.2 k (by omega) b
    · rw [if_neg hc] at e
      rw [e]
      exact ⟨Int.le_refl _, hx, fun k a b => absurd b (by omega)⟩
theorem am_kd_in {n : Int} {t : Int → Int} {k : Int} (h : am_kd n t k ≠ 0) : 0 ≤ k ∧ k < n := by
  unfold am_kd at h
  by_cases hc : k < 0 ∨ n ≤ k
  · rw [if_pos hc] at h; exact absurd rfl h
  · omega
theorem am_kd_0 {n : Int} {t : Int → Int} {k : Int} (h : am_kd n t k = 0) : k < 0 ∨ n ≤ k := by
  unfold am_kd at h
  revert h
  (repeat' split) <;> omega
/-- where a token stands -/
theorem tok_r {x : Int} (h0 : 0 ≤ x) (hx : x ≤ N) : x ≤ tks c N x ∧ tks c N x ≤ tke c N x ∧ tke c N x ≤ N ∧ (tkk c N x ≠ 0 → tks c N x < tke c N x) ∧ (tkk c N x = 0 → tks c N x = N) ∧ (0 ≤ tkk c N x ∧ tkk c N x ≤ 4) ∧ (tkk c N x = 1 ∨ tkk c N x = 2 → ∀ k, tks c N x ≤ k → k < tke c N x → am_kd N c k = tkk c N x) ∧ (tkk c N x = 3 → tke c N x = tks c N x + 1) := by
  have h1 := tks_r (c := c) (N := N) _ x rfl hx
  have h2 := am_kd_r N c (tks c N x)
  have h3 : tkk c N x = am_kd N c (tks c N x) := rfl
  by_cases hz : tkk c N x = 0
  · have h4 := am_kd_0 (h3 ▸ hz)
    have h5 : tke c N x = tks c N x := by unfold tke; rw [if_pos hz]
    refine ⟨by omega, by omega, by omega, fun k => absurd hz k, fun _ => by omega, by omega, fun k => absurd k (by omega), fun k => absurd k (by omega)⟩
  · have h4 := am_kd_in (h3 ▸ hz)
    by_cases hw : tkk c N x = 1 ∨ tkk c N x = 2
    · have h5 : tke c N x = trn c N (tkk c N x) (tks c N x + 1) := by unfold tke; rw [if_neg hz, if_pos hw]
      have h6 := trn_r (c := c) (N := N) (tkk c N x) _ (tks c N x + 1) rfl (by omega)
      rw [h5]
      refine ⟨by omega, by omega, by omega, fun _ => by omega, fun k => absurd k hz, by omega, fun _ k a b => ?_, fun k => absurd k (by omega)⟩
      by_cases hk : k = tks c N x
      · rw [hk]; exact h3.symm
      · exact h6.2.2 k (by omega) b
    · have h5 : tke c N x = tks c N x + 1 := by unfold tke; rw [if_neg hz, if_neg hw]
      refine ⟨by omega, by omega, by omega, fun _ => by omega, fun k => absurd k hz, by omega, fun k => absurd k hw, fun _ => h5⟩
/-- the class's text; the reference's text -/
def CT (M : am_M) (c : Int → Int) (N : Int) : Prop := M 7 0 = N ∧ ∀ k, 0 ≤ k → k < N → M 8 k = c k
def MT (M : am_M) (c : Int → Int) (N : Int) : Prop := M 62 10 = N ∧ ∀ k, 0 ≤ k → k < N → (-128 ≤ M 69 k ∧ M 69 k < 128) ∧ M 69 k % 256 = c k
theorem am_kd_congr {N : Int} {t c : Int → Int} (h : ∀ k, 0 ≤ k → k < N → t k = c k) (k : Int) : am_kd N t k = am_kd N c k := by
  unfold am_kd
  by_cases hc : k < 0 ∨ N ≤ k
  · rw [if_pos hc, if_pos hc]
  · rw [if_neg hc, if_neg hc, h k (by omega) (by omega)]
theorem CT.kd {M : am_M} (h : CT M c N) (k : Int) : am_kd (M 7 0) (M 8) k = am_kd N c k := by
  rw [h.1]
  exact am_kd_congr h.2 k
theorem CT.kdok {M : am_M} (h : CT M c N) (ht : tx_ok c N) {k : Int} (hk : am_r k) : am_kdok (M 7 0) (M 8) k := by
  have := ht.1
  have e := h.1
  refine ⟨hk, by omega, fun a b => ?_⟩
  rw [h.2 k a (by omega)]
  have := ht.2 k a (by omega)
  exact ⟨by omega, by omega⟩
theorem CT.fg {M : am_M} (h : CT M c N) {k : Int} (hk : am_kd N c k = 2) : am_fg (M 7 0) (M 8) k = c k - 48 := by
  have h1 := am_kd_2 hk
  unfold am_fg
  rw [h.kd, if_pos hk, h.2 k h1.1 h1.2.1]
theorem CT.congr {M M' : am_M} (h : CT M c N) (h1 : M' 7 0 = M 7 0) (h2 : M' 8 = M 8) : CT M' c N := by
  unfold CT at h ⊢
  rw [h1, h2]
  exact h
theorem MT.at {M : am_M} (h : MT M c N) {k : Int} (hk : 0 ≤ k) : am_at (M 62 10) (M 69) k = if k < N then c k else -1 := by
  unfold am_at
  rw [h.1]
  by_cases hc : k < N
  · rw [if_pos hc, if_pos hc]; exact (h.2 k hk hc).2
  · rw [if_neg hc, if_neg hc]
theorem MT.atok {M : am_M} (h : MT M c N) (ht : tx_ok c N) {k : Int} (hk : 0 ≤ k ∧ k ≤ 200) : am_atok (M 62 10) (M 69) k := by
  have := ht.1
  have e := h.1
  exact ⟨by omega, by omega, fun a => ⟨by omega, (h.2 k hk.1 (by omega)).1⟩⟩
theorem MT.r {M : am_M} (h : MT M c N) (ht : tx_ok c N) {k : Int} (hk : 0 ≤ k ∧ k ≤ 200) : -1 ≤ am_at (M 62 10) (M 69) k ∧ am_at (M 62 10) (M 69) k ≤ 255 := by
  rw [h.at hk.1]
  split
  · have := ht.2 k hk.1 (by assumption)
    omega
  · omega
theorem MT.congr {M M' : am_M} (h : MT M c N) (h1 : M' 62 10 = M 62 10) (h2 : M' 69 = M 69) : MT M' c N := by
  unfold MT at h ⊢
  rw [h1, h2]
  exact h
theorem k_nextToken {d : Nat} {M : am_M} {Q : Option Int → am_M → Prop} (ht : tx_ok c N) (hc : CT M c N) {x : Int} (e4 : M 7 4 = x) (hx : 0 ≤ x ∧ x ≤ N) (hQ : ∀ M', (∀ a, a ≠ 7 → M' a = M a) → M' 7 0 = M 7 0 → M' 7 2 = tkk c N x → M' 7 3 = tks c N x → M' 7 4 = tke c N x → Q none M') : AC (d + 1) mX5_nextToken [.inr 7] M Q := by
  have hN := ht.1
  have eN := hc.1
  have tr0 := tok_r (c := c) (N := N) hx.1 hx.2
  have fin : ∀ M', M' = am_up (am_up (am_up M 7 3 (tks c N x)) 7 2 (tkk c N x)) 7 4 (tke c N x) → Q none M' := fun M' e => by
    subst e
    refine hQ _ (fun a ha => ?_) ?_ ?_ ?_ ?_
    · rw [am_up_ne _ _ _ _ _ ha, am_up_ne _ _ _ _ _ ha, am_up_ne _ _ _ _ _ ha]
    · rw [am_up_idx _ _ (by decide), am_up_idx _ _ (by decide), am_up_idx _ _ (by decide)]
    · rw [am_up_idx _ _ (by decide), am_up_same]
    · rw [am_up_idx _ _ (by decide), am_up_idx _ _ (by decide), am_up_same]
    · rw [am_up_same]
  have run : ∀ (t : Nat) (y : Int) (M1 : am_M), M1 = am_up (am_up M 7 3 (tks c N x)) 7 2 (tkk c N x) → y + t = N → 0 ≤ y → trn c N (tkk c N x) y = tke c N x → AW (d + 1) mX5_nextToken 70 [(0, .inr 7), (1, .inl y)] [] M1 Q := by
    intro t
    induction t with
    | zero =>
      intro y M1 e1 hy y0 hr
      have e0 : M1 7 0 = N := by rw [e1, am_up_idx _ _ (by decide), am_up_idx _ _ (by decide)]; exact eN
      rw [trn_eq, if_neg (by omega)] at hr
      refine sg_X5_nextToken_70 ⟨by omega, by omega, fun _ => fin _ (by rw [e1, hr]), fun k => absurd k (by omega)⟩
    | succ t ih =>
      intro y M1 e1 hy y0 hr
      have e0 : M1 7 0 = N := by rw [e1, am_up_idx _ _ (by decide), am_up_idx _ _ (by decide)]; exact eN
      have e2 : M1 7 2 = tkk c N x := by rw [e1, am_up_same]
      have hc1 : CT M1 c N := hc.congr (by rw [e0, eN]) (by rw [e1, am_up_ne _ _ _ _ _ (by decide), am_up_ne _ _ _ _ _ (by decide)])
      have hk := am_kd_r N c y
      refine sg_X5_nextToken_70 ⟨by omega, by omega, fun k => absurd k (by omega), fun _ => ⟨hc1.kdok ht (by omega), ?_⟩⟩
      rw [hc1.kd, e2]
      refine ⟨by omega, by omega, fun k => ?_, fun k => ?_⟩
      · rw [trn_eq, if_neg (fun z => k z.2)] at hr
        exact fin _ (by rw [e1, hr])
      · rw [trn_eq, if_pos ⟨by omega, k⟩] at hr
        exact ih (y + 1) M1 e1 (by omega) (by omega) hr
  have tok : ∀ y : Int, 0 ≤ y → y ≤ N → y = tks c N x → ((am_kdok (M 7 0) (M 8) y) ∧ (am_r (am_kd (M 7 0) (M 8) y)) ∧
 ((am_kd (M 7 0) (M 8) y = 0 →
 ((am_kd (M 7 0) (M 8) y = 1 →
 AW (d + 1) mX5_nextToken 70 [(0, .inr 7), (1, .inl y)] [] (am_up (am_up M 7 3 y) 7 2 (am_kd (M 7 0) (M 8) y)) Q) ∧
 (am_kd (M 7 0) (M 8) y ≠ 1 →
 ((am_kd (M 7 0) (M 8) y ≠ 2 →
 Q none (am_up (am_up (am_up M 7 3 y) 7 2 (am_kd (M 7 0) (M 8) y)) 7 4 y)) ∧
 (am_kd (M 7 0) (M 8) y = 2 →
 AW (d + 1) mX5_nextToken 70 [(0, .inr 7), (1, .inl y)] [] (am_up (am_up M 7 3 y) 7 2 (am_kd (M 7 0) (M 8) y)) Q))))) ∧
 (am_kd (M 7 0) (M 8) y ≠ 0 →
 ((am_kd (M 7 0) (M 8) y = 1 →
 AW (d + 1) mX5_nextToken 70 [(0, .inr 7), (1, .inl (y + 1))] [] (am_up (am_up M 7 3 y) 7 2 (am_kd (M 7 0) (M 8) y)) Q) ∧
 (am_kd (M 7 0) (M 8) y ≠ 1 →
 ((am_kd (M 7 0) (M 8) y ≠ 2 →
 Q none (am_up (am_up (am_up M 7 3 y) 7 2 (am_kd (M 7 0) (M 8) y)) 7 4 (y + 1))) ∧
 (am_kd (M 7 0) (M 8) y = 2 →
 AW (d + 1) mX5_nextToken 70 [(0, .inr 7), (1, .inl (y + 1))] [] (am_up (am_up M 7 3 y) 7 2 (am_kd (M 7 0) (M 8) y)) Q))))))) := by
    intro y y0 yN hy
    subst hy
    have hk := am_kd_r N c (tks c N x)
    rw [hc.kd, show am_kd N c (tks c N x) = tkk c N x from rfl]
    have ek : tkk c N x = am_kd N c (tks c N x) := rfl
    have go : tkk c N x = 1 ∨ tkk c N x = 2 → AW (d + 1) mX5_nextToken 70 [(0, .inr 7), (1, .inl (tks c N x + 1))] [] (am_up (am_up M 7 3 (tks c N x)) 7 2 (tkk c N x)) Q := fun hw => by
      have h4 := am_kd_in (n := N) (t := c) (k := tks c N x) (by omega)
      refine run (N - (tks c N x + 1)).toNat _ _ rfl (by omega) (by omega) ?_
      unfold tke
      rw [if_neg (by omega), if_pos hw]
    refine ⟨hc.kdok ht (by omega), by omega, fun k => ⟨fun k2 => absurd k2 (by omega), fun k2 => ⟨fun k3 => fin _ ?_, fun k3 => absurd k3 (by omega)⟩⟩, fun k => ⟨fun k2 => go (Or.inl k2), fun k2 => ⟨fun k3 => fin _ ?_, fun k3 => go (Or.inr k3)⟩⟩⟩
    · have : tke c N x = tks c N x := by unfold tke; rw [if_pos k]
      rw [this]
    · have : tke c N x = tks c N x + 1 := by unfold tke; rw [if_neg k, if_neg (by omega)]
      rw [this]
  have skip : ∀ (t : Nat) (y : Int), y + t = N → 0 ≤ y → tks c N y = tks c N x → AW (d + 1) mX5_nextToken 5 [(0, .inr 7), (1, .inl y)] [] M Q := by
    intro t
    induction t with
    | zero =>
      intro y hy y0 hs
      rw [tks_eq, if_neg (by omega)] at hs
      exact sg_X5_nextToken_5 ⟨by omega, by omega, fun _ => tok y y0 (by omega) hs, fun k => absurd k (by omega)⟩
    | succ t ih =>
      intro y hy y0 hs
      have e8 := hc.2 y y0 (by omega)
      have hcr := ht.2 y y0 (by omega)
      refine sg_X5_nextToken_5 ⟨by omega, by omega, fun k => absurd k (by omega), fun _ => ⟨by omega, by omega, fun k => ?_, fun k => ?_⟩⟩
      · rw [tks_eq, if_neg (by omega)] at hs
        exact tok y y0 (by omega) hs
      · rw [tks_eq, if_pos (by omega)] at hs
        exact ih (y + 1) (by omega) (by omega) hs
  refine sg_X5_nextToken ?_
  rw [e4]
  exact skip (N - x).toNat x (by omega) hx.1 rfl
/-- the words -/
def wis (c : Int → Int) (s e a1 a2 a3 a4 a5 : Int) : Bool := decide (e - s = 5 ∧ c s = a1 ∧ c (s + 1) = a2 ∧ c (s + 2) = a3 ∧ c (s + 3) = a4 ∧ c (s + 4) = a5)
def wno (c : Int → Int) (s e : Int) : Int := if wis c s e 102 114 97 109 101 then 1 else if wis c s e 102 108 111 111 114 then 2 else if wis c s e 114 101 97 99 104 then 3 else if wis c s e 108 101 97 115 116 then 4 else 7
/-- the token's code in the reference -/
def tcd (c : Int → Int) (N x : Int) : Int := if tkk c N x = 0 then 0 else if tkk c N x = 1 then wno c (tks c N x) (tke c N x) else if tkk c N x = 2 then 5 else if tkk c N x = 3 then 6 else 7
theorem wno_r (s e : Int) : 1 ≤ wno c s e ∧ wno c s e ≤ 7 ∧ wno c s e ≠ 5 ∧ wno c s e ≠ 6 := by
  unfold wno
  (repeat' split) <;> omega
theorem c_isWord {d : Nat} {M : am_M} {Q : Option Int → am_M → Prop} (ht : tx_ok c N) (hc : MT M c N) {s e : Int} (e1 : M 62 11 = s) (e2 : M 62 12 = e) (hs : 0 ≤ s ∧ s ≤ e ∧ e ≤ N) {a1 a2 a3 a4 a5 : Int} (ha : am_r a1 ∧ am_r a2 ∧ am_r a3 ∧ am_r a4 ∧ am_r a5) (hQ : Q (some (am_b (wis c s e a1 a2 a3 a4 a5 = true))) M) : AC (d + 1) mX8_isWord [.inr 62, .inl a1, .inl a2, .inl a3, .inl a4, .inl a5] M Q := by
  have hN := ht.1
  refine sg_X8_isWord ?_
  rw [e1, e2]
  have q0 := hc.r ht (k := s) (by omega)
  have q1 := hc.r ht (k := s + 1) (by omega)
  have q2 := hc.r ht (k := s + 2) (by omega)
  have q3 := hc.r ht (k := s + 3) (by omega)
  have q4 := hc.r ht (k := s + 4) (by omega)
  refine ⟨⟨by omega, fun _ => ⟨hc.atok ht (by omega), by omega, ha.1, fun _ => ⟨hc.atok ht (by omega), by omega, ha.2.1, fun _ => ⟨hc.atok ht (by omega), by omega, ha.2.2.1, fun _ => ⟨hc.atok ht (by omega), by omega, ha.2.2.2.1, fun _ => ⟨hc.atok ht (by omega), by omega, ha.2.2.2.2⟩⟩⟩⟩⟩⟩, ?_⟩
  have eb : am_b ((e - s = 5) ∧ (am_at (M 62 10) (M 69) s = a1) ∧ (am_at (M 62 10) (M 69) (s + 1) = a2) ∧ (am_at (M 62 10) (M 69) (s + 2) = a3) ∧ (am_at (M 62 10) (M 69) (s + 3) = a4) ∧ (am_at (M 62 10) (M 69) (s + 4) = a5)) = am_b (wis c s e a1 a2 a3 a4 a5 = true) := by
    by_cases h5 : e - s = 5
    · rw [hc.at (by omega), hc.at (by omega), hc.at (by omega), hc.at (by omega), hc.at (by omega), if_pos (by omega), if_pos (by omega), if_pos (by omega), if_pos (by omega), if_pos (by omega)]
      exact am_b_congr decide_eq_true_iff.symm
    · rw [am_b_neg (fun k => h5 k.1), am_b_neg]
      unfold wis
      rw [decide_eq_false (fun k => h5 k.1)]
      decide
  rw [eb]
  exact hQ
theorem wb1 {s e a1 a2 a3 a4 a5 : Int} (h : am_b (wis c s e a1 a2 a3 a4 a5 = true) ≠ 0) : wis c s e a1 a2 a3 a4 a5 = true := by
  cases hb : wis c s e a1 a2 a3 a4 a5 with
  | true => rfl
  | false => rw [hb, am_b_neg (by decide)] at h; exact absurd rfl h
theorem wb0 {s e a1 a2 a3 a4 a5 : Int} (h : am_b (wis c s e a1 a2 a3 a4 a5 = true) = 0) : wis c s e a1 a2 a3 a4 a5 ≠ true := fun hb => by rw [am_b_pos hb] at h; omega
theorem c_wordOf {d : Nat} {M : am_M} {Q : Option Int → am_M → Prop} (ht : tx_ok c N) (hc : MT M c N) {s e : Int} (e1 : M 62 11 = s) (e2 : M 62 12 = e) (hs : 0 ≤ s ∧ s ≤ e ∧ e ≤ N) (hQ : Q (some (wno c s e)) M) : AC (d + 2) mX8_wordOf [.inr 62] M Q := by
  have b1 := am_b_01 (wis c s e 102 114 97 109 101 = true)
  have b2 := am_b_01 (wis c s e 102 108 111 111 114 = true)
  have b3 := am_b_01 (wis c s e 114 101 97 99 104 = true)
  have b4 := am_b_01 (wis c s e 108 101 97 115 116 = true)
  unfold wno at hQ
  refine sg_X8_wordOf (c_isWord ht hc e1 e2 hs (by decide) ⟨_, rfl, by omega, fun k1 => ?_, fun k1 => ?_⟩)
  · rw [if_neg (wb0 k1)] at hQ
    refine c_isWord ht hc e1 e2 hs (by decide) ⟨_, rfl, by omega, fun k2 => ?_, fun k2 => ?_⟩
    · rw [if_neg (wb0 k2)] at hQ
      refine c_isWord ht hc e1 e2 hs (by decide) ⟨_, rfl, by omega, fun k3 => ?_, fun k3 => ?_⟩
      · rw [if_neg (wb0 k3)] at hQ
        refine c_isWord ht hc e1 e2 hs (by decide) ⟨_, rfl, by omega, fun v g1 g2 => ?_⟩
        by_cases k4 : am_b (wis c s e 108 101 97 115 116 = true) = 0
        · rw [if_neg (wb0 k4)] at hQ
          rw [g1 k4]; exact hQ
        · rw [if_pos (wb1 k4)] at hQ
          rw [g2 k4]; exact hQ
      · rw [if_pos (wb1 k3)] at hQ
        exact hQ
    · rw [if_pos (wb1 k2)] at hQ
      exact hQ
  · rw [if_pos (wb1 k1)] at hQ
    exact hQ
/-- what the reference's steps leave as it was -/
def MS (M M' : am_M) : Prop := (∀ a, a ≠ 62 → M' a = M a) ∧ ∀ j, j ≠ 11 → j ≠ 12 → j ≠ 13 → M' 62 j = M 62 j
theorem MS.refl (M : am_M) : MS M M := ⟨fun _ _ => rfl, fun _ _ _ _ => rfl⟩
theorem MS.trans {M M' M2 : am_M} (h : MS M M') (h2 : MS M' M2) : MS M M2 := ⟨fun a ha => (h2.1 a ha).trans (h.1 a ha), fun j a b e => (h2.2 j a b e).trans (h.2 j a b e)⟩
theorem MS.up (M : am_M) {j z : Int} (hj : j = 11 ∨ j = 12 ∨ j = 13) : MS M (am_up M 62 j z) := ⟨fun a ha => am_up_ne _ _ _ _ _ ha, fun i a b e => am_up_idx _ _ (by omega)⟩
theorem MS.text {M M' : am_M} (h : MS M M') (hc : MT M c N) : MT M' c N := hc.congr (h.2 10 (by decide) (by decide) (by decide)) (h.1 69 (by decide))
theorem c_steps {d : Nat} {M : am_M} {Q : Option Int → am_M → Prop} (ht : tx_ok c N) (hc : MT M c N) {x : Int} (e4 : M 62 12 = x) (hx : 0 ≤ x ∧ x ≤ N) (hQ : ∀ M', MS M M' → M' 62 11 = tks c N x → M' 62 12 = tke c N x → M' 62 13 = tcd c N x → Q none M') : AC (d + 3) mX8_steps [.inr 62] M Q := by
  have hN := ht.1
  have tr0 := tok_r (c := c) (N := N) hx.1 hx.2
  have ek : tkk c N x = am_kd N c (tks c N x) := rfl
  -- the run of letters
  have runw : ∀ (t : Nat) (y : Int) (M' : am_M), y + t = N → 0 ≤ y → MS M M' → M' 62 11 = tks c N x → M' 62 12 = y → tkk c N x = 1 → trn c N 1 y = tke c N x → AW (d + 3) mX8_steps 136 [(0, .inr 62)] [] M' Q := by
    intro t
    induction t with
    | zero =>
      intro y M' hy y0 fr e1 e2 hw hr
      have hc' := fr.text hc
      rw [trn_eq, if_neg (by omega)] at hr
      have ea := hc'.at (k := y) y0
      rw [if_neg (by omega)] at ea
      refine sg_X8_steps_136 ?_
      rw [e2, ea]
      refine ⟨hc'.atok ht (by omega), by decide, fun _ => ?_, fun k => absurd k (by decide)⟩
      refine c_wordOf ht hc' e1 (e2.trans hr) (by omega) ⟨_, rfl, ?_⟩
      refine hQ _ (fr.trans (MS.up _ (by omega))) ?_ ?_ ?_
      · rw [am_up_idx _ _ (by decide)]; exact e1
      · rw [am_up_idx _ _ (by decide), e2, hr]
      · rw [am_up_same]; unfold tcd; rw [if_neg (by omega), if_pos hw]
    | succ t ih =>
      intro y M' hy y0 fr e1 e2 hw hr
      have hc' := fr.text hc
      have ea := hc'.at (k := y) y0
      rw [if_pos (by omega)] at ea
      have hcr := ht.2 y y0 (by omega)
      refine sg_X8_steps_136 ?_
      rw [e2, ea]
      refine ⟨hc'.atok ht (by omega), ⟨by omega, by decide, by decide⟩, fun k => ?_, fun k => ?_⟩
      · have hkd : am_kd N c y ≠ 1 := by
          unfold am_kd
          rw [if_neg (by omega), if_neg k]
          (repeat' split) <;> omega
        rw [trn_eq, if_neg (fun z => hkd z.2)] at hr
        refine c_wordOf ht hc' e1 (e2.trans hr) (by omega) ⟨_, rfl, ?_⟩
        refine hQ _ (fr.trans (MS.up _ (by omega))) ?_ ?_ ?_
        · rw [am_up_idx _ _ (by decide)]; exact e1
        · rw [am_up_idx _ _ (by decide), e2, hr]
        · rw [am_up_same]; unfold tcd; rw [if_neg (by omega), if_pos hw]
      · have hkd : am_kd N c y = 1 := by
          unfold am_kd
          rw [if_neg (by omega), if_pos k]
        rw [trn_eq, if_pos ⟨by omega, hkd⟩] at hr
        exact ih (y + 1) _ (by omega) (by omega) (fr.trans (MS.up _ (by omega))) (by rw [am_up_idx _ _ (by decide)]; exact e1) (am_up_same _ _ _ _) hw hr
  have runf : ∀ (t : Nat) (y : Int) (M' : am_M), y + t = N → 0 ≤ y → MS M M' → M' 62 11 = tks c N x → M' 62 12 = y → tkk c N x = 2 → trn c N 2 y = tke c N x → AW (d + 3) mX8_steps 79 [(0, .inr 62)] [] M' Q := by
    intro t
    induction t with
    | zero =>
      intro y M' hy y0 fr e1 e2 hw hr
      have hc' := fr.text hc
      rw [trn_eq, if_neg (by omega)] at hr
      have ea := hc'.at (k := y) y0
      rw [if_neg (by omega)] at ea
      refine sg_X8_steps_79 ?_
      rw [e2, ea]
      refine ⟨hc'.atok ht (by omega), by decide, fun _ => ?_, fun k => absurd k (by decide)⟩
      refine hQ _ (fr.trans (MS.up _ (by omega))) ?_ ?_ ?_
      · rw [am_up_idx _ _ (by decide)]; exact e1
      · rw [am_up_idx _ _ (by decide), e2, hr]
      · rw [am_up_same]; unfold tcd; rw [if_neg (by omega), if_neg (by omega), if_pos hw]
    | succ t ih =>
      intro y M' hy y0 fr e1 e2 hw hr
      have hc' := fr.text hc
      have ea := hc'.at (k := y) y0
      rw [if_pos (by omega)] at ea
      have hcr := ht.2 y y0 (by omega)
      refine sg_X8_steps_79 ?_
      rw [e2, ea]
      refine ⟨hc'.atok ht (by omega), ⟨by omega, by decide, by decide⟩, fun k => ?_, fun k => ?_⟩
      · have hkd : am_kd N c y ≠ 2 := by
          intro z
          have := am_kd_2 z
          omega
        rw [trn_eq, if_neg (fun z => hkd z.2)] at hr
        refine hQ _ (fr.trans (MS.up _ (by omega))) ?_ ?_ ?_
        · rw [am_up_idx _ _ (by decide)]; exact e1
        · rw [am_up_idx _ _ (by decide), e2, hr]
        · rw [am_up_same]; unfold tcd; rw [if_neg (by omega), if_neg (by omega), if_pos hw]
      · have hkd : am_kd N c y = 2 := by
          unfold am_kd
          rw [if_neg (by omega), if_neg (by omega), if_pos k]
        rw [trn_eq, if_pos ⟨by omega, hkd⟩] at hr
        exact ih (y + 1) _ (by omega) (by omega) (fr.trans (MS.up _ (by omega))) (by rw [am_up_idx _ _ (by decide)]; exact e1) (am_up_same _ _ _ _) hw hr
  have skip : ∀ (t : Nat) (y : Int) (M' : am_M), y + t = N → 0 ≤ y → MS M M' → M' 62 11 = y → tks c N y = tks c N x → AW (d + 3) mX8_steps 8 [(0, .inr 62)] [] M' Q := by
    intro t
    induction t with
    | zero =>
      intro y M' hy y0 fr e1 hs
      have hc' := fr.text hc
      rw [tks_eq, if_neg (by omega)] at hs
      have ea := hc'.at (k := y) y0
      rw [if_neg (by omega)] at ea
      have hkd : tkk c N x = 0 := by
        rw [ek, ← hs]
        unfold am_kd
        rw [if_pos (by omega)]
      have hte : tke c N x = y := by unfold tke; rw [if_pos hkd, hs]
      refine sg_X8_steps_8 ?_
      rw [e1, ea]
      refine ⟨hc'.atok ht (by omega), by decide, fun _ => ⟨fun k => absurd k (by decide), fun _ => ?_⟩, fun k => absurd k (by decide)⟩
      refine hQ _ (fr.trans ((MS.up _ (by omega)).trans (MS.up _ (by omega)))) ?_ ?_ ?_
      · rw [am_up_idx _ _ (by decide), am_up_idx _ _ (by decide), e1, hs]
      · rw [am_up_idx _ _ (by decide), am_up_same, hte]
      · rw [am_up_same]; unfold tcd; rw [if_pos hkd]
    | succ t ih =>
      intro y M' hy y0 fr e1 hs
      have hc' := fr.text hc
      have ea := hc'.at (k := y) y0
      rw [if_pos (by omega)] at ea
      have hcr := ht.2 y y0 (by omega)
      refine sg_X8_steps_8 ?_
      rw [e1, ea]
      refine ⟨hc'.atok ht (by omega), by omega, fun k => ⟨fun _ => ?_, fun k2 => absurd k2 (by omega)⟩, fun k => ?_⟩
      · rw [tks_eq, if_neg (by omega)] at hs
        have hkd : tkk c N x = am_kd N c y := by rw [ek, hs]
        refine ⟨⟨by omega, by decide, by decide⟩, fun k1 => ⟨⟨by omega, by decide, by decide⟩, fun k2 v g1 g2 => ?_, fun k2 => ?_⟩, fun k1 => ?_⟩
        · have hkv : tkk c N x = if c y = 59 then 3 else 4 := by
            rw [hkd]
            unfold am_kd
            rw [if_neg (by omega), if_neg k2, if_neg k1]
          have h34 : tkk c N x = 3 ∨ tkk c N x = 4 := by
            rw [hkv]; split <;> omega
          refine hQ _ (fr.trans ((MS.up _ (by omega)).trans ((MS.up _ (by omega)).trans (MS.up _ (by omega))))) ?_ ?_ ?_
          · rw [am_up_idx _ _ (by decide), am_up_idx _ _ (by decide), am_up_idx _ _ (by decide), e1, hs]
          · rw [am_up_same]; unfold tke; rw [if_neg (by omega), if_neg (by omega), hs]
          · rw [am_up_idx _ _ (by decide), am_up_same]
            unfold tcd
            rw [if_neg (by omega), if_neg (by omega), if_neg (by omega)]
            by_cases h59 : c y = 59
            · rw [if_pos h59] at hkv
              rw [if_pos hkv]; exact g2 h59
            · rw [if_neg h59] at hkv
              rw [if_neg (by omega)]; exact g1 h59
        · have hk1 : tkk c N x = 1 := by
            rw [hkd]
            unfold am_kd
            rw [if_neg (by omega), if_pos k2]
          refine runw (t + 1) y _ hy y0 (fr.trans (MS.up _ (by omega))) (by rw [am_up_idx _ _ (by decide), e1, hs]) (am_up_same _ _ _ _) hk1 ?_
          rw [trn_eq, if_pos ⟨by omega, by rw [← hkd, hk1]⟩]
          unfold tke
          rw [if_neg (by omega), if_pos (Or.inl hk1), hk1, hs]
        · have hk1 : tkk c N x = 2 := by
            rw [hkd]
            unfold am_kd
            rw [if_neg (by omega), if_neg (by omega), if_pos k1]
          refine runf (t + 1) y _ hy y0 (fr.trans (MS.up _ (by omega))) (by rw [am_up_idx _ _ (by decide), e1, hs]) (am_up_same _ _ _ _) hk1 ?_
          rw [trn_eq, if_pos ⟨by omega, by rw [← hkd, hk1]⟩]
          unfold tke
          rw [if_neg (by omega), if_pos (Or.inr hk1), hk1, hs]
      · rw [tks_eq, if_pos (by omega)] at hs
        exact ih (y + 1) _ (by omega) (by omega) (fr.trans (MS.up _ (by omega))) (am_up_same _ _ _ _) hs
  refine sg_X8_steps ?_
  rw [e4]
  exact skip (N - x).toNat x _ (by omega) hx.1 (MS.up _ (by omega)) (am_up_same _ _ _ _) rfl
end TX
