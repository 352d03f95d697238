/-! what was seen of a track, and the tracks that it can be -/
section SE
variable {σ : Int → Int} {re : Int} {φ ψ : Int → Int} {q : Nat}
def so (φ ψ σ : Int → Int) (re n : Int) : Nat → Bool
  | 0 => true
  | k + 1 => so φ ψ σ re n k && decide (tPI σ re (φ (k : Int)).toNat n = ψ (k : Int))
def fa_ok (φ ψ : Int → Int) (q : Nat) : Prop := q ≤ 6 ∧ ∀ i : Nat, i < q → (0 ≤ φ (i : Int) ∧ φ (i : Int) < 8) ∧ (-9 ≤ ψ (i : Int) ∧ ψ (i : Int) ≤ 45)
def CF (M : am_M) (φ ψ : Int → Int) (q : Nat) : Prop := M 51 0 = q ∧ ∀ i : Nat, i < q → M 52 (i : Int) = φ (i : Int) ∧ M 53 (i : Int) = ψ (i : Int)
def MF (M : am_M) (φ ψ : Int → Int) (q : Nat) : Prop := M 62 8 = q ∧ ∀ i : Nat, i < q → M 68 (2 * (i : Int)) = φ (i : Int) ∧ M 68 (2 * (i : Int) + 1) = ψ (i : Int)
theorem so_false {n : Int} {i : Nat} (h : tPI σ re (φ (i : Int)).toNat n ≠ ψ (i : Int)) : ∀ {k : Nat}, i < k → so φ ψ σ re n k = false
  | k + 1, hk => by
    rw [so]
    by_cases hi : i = k
    · subst hi
      rw [decide_eq_false h, Bool.and_false]
    · rw [so_false h (by omega), Bool.false_and]
theorem CL.pi {M : am_M} (h : CL M σ) {n f : Int} (h0 : 0 ≤ n) (h1 : n < tC σ (σ 3) 8) (hf : 0 ≤ f ∧ f < 8) : am_pi (M 41 0) (M 48) n f = tPI σ (σ 3) f.toNat n ∧ am_piok (M 41 0) n f := by
  have hC := tC_r (σ := σ) (re := σ 3) 8
  have eC : M 41 0 = tC σ (σ 3) 8 := h.2.2.1
  constructor
  · unfold am_pi
    rw [if_pos (by omega), show n * 8 + f = 8 * n + ((f.toNat : Nat) : Int) by omega]
    exact h.2.2.2.2.2 n f.toNat h0 (by omega) (by omega)
  · refine ⟨?_, ?_, ?_, ?_⟩ <;> omega
theorem k_fits {d : Nat} {M : am_M} {Q : Option Int → am_M → Prop} (ho : sp_ok σ) (hL : CL M σ) (hf : fa_ok φ ψ q) (hF : CF M φ ψ q) {n : Int} (h0 : 0 ≤ n) (h1 : n < tC σ (σ 3) 8) (hQ : Q (some (am_b (so φ ψ σ (σ 3) n q = true))) M) : AC (d + 1) mX4_fits [.inr 51, .inr 41, .inl n] M Q := by
  have e0 := hF.1
  have hq := hf.1
  have key : ∀ (t i : Nat), i + t = q → so φ ψ σ (σ 3) n i = true → AW (d + 1) mX4_fits 2 [(0, .inr 51), (1, .inr 41), (2, .inl n), (3, .inl (i : Int))] [] M Q := by
    intro t
    induction t with
    | zero =>
      intro i hi hs
      have : i = q := by omega
      subst this
      rw [am_b_pos hs] at hQ
      exact sg_X4_fits_2 ⟨by omega, by omega, fun _ => hQ, fun c => absurd c (by omega)⟩
    | succ t ih =>
      intro i hi hs
      obtain ⟨a1, a2⟩ := hf.2 i (by omega)
      obtain ⟨b1, b2⟩ := hF.2 i (by omega)
      obtain ⟨p1, p2⟩ := hL.pi h0 h1 a1
      have hr := tPI_r (re := σ 3) ho (φ (i : Int)).toNat n
      refine sg_X4_fits_2 ⟨by omega, by omega, fun c => absurd c (by omega), fun _ => ⟨by omega, ?_⟩⟩
      rw [b1, b2, p1]
      refine ⟨p2, by omega, by omega, fun c => ?_, fun c => ?_⟩
      · rw [show (i : Int) + 1 = ((i + 1 : Nat) : Int) by omega]
        exact ih (i + 1) (by omega) (by rw [so, hs, decide_eq_true c]; rfl)
      · rw [am_b_neg (by rw [so_false c (by omega)]; decide)] at hQ
        exact hQ
  exact sg_X4_fits (key q 0 (by omega) rfl)
theorem c_isSo {d : Nat} {M : am_M} {Q : Option Int → am_M → Prop} (ho : sp_ok σ) (hL : ML M σ re) (hf : fa_ok φ ψ q) (hF : MF M φ ψ q) {n : Int} (hn : am_r n) (hQ : Q (some (am_b (so φ ψ σ re n q = true))) M) : AC (d + 4) mX8_isSo [.inr 62, .inl n] M Q := by
  have e0 := hF.1
  have hq := hf.1
  have key : ∀ (t i : Nat), i + t = q → AW (d + 4) mX8_isSo 4 [(0, .inr 62), (1, .inl n), (2, .inl (am_b (so φ ψ σ re n i = true))), (3, .inl (i : Int))] [] M Q := by
    intro t
    induction t with
    | zero =>
      intro i hi
      have : i = q := by omega
      subst this
      exact sg_X8_isSo_4 ⟨by omega, by omega, fun _ => ⟨am_b_01 _, hQ⟩, fun c => absurd c (by omega)⟩
    | succ t ih =>
      intro i hi
      obtain ⟨a1, a2⟩ := hf.2 i (by omega)
      obtain ⟨b1, b2⟩ := hF.2 i (by omega)
      have hr := tPI_r (re := re) ho (φ (i : Int)).toNat n
      have hi2 := ih (i + 1) (by omega)
      rw [show ((i + 1 : Nat) : Int) = (i : Int) + 1 by omega] at hi2
      have h01 := am_b_01 (so φ ψ σ re n i = true)
      refine sg_X8_isSo_4 ⟨by omega, by omega, fun c => absurd c (by omega), fun _ => ⟨by omega, fun c => ?_, fun c => ⟨by omega, ?_⟩⟩⟩
      · have hs : so φ ψ σ re n i = false := by
          cases hb : so φ ψ σ re n i with
          | false => rfl
          | true => rw [am_b_pos hb] at c; omega
        rw [so, hs, Bool.false_and, am_b_neg (by decide)] at hi2
        exact hi2
      · have hs : so φ ψ σ re n i = true := by
          cases hb : so φ ψ σ re n i with
          | true => rfl
          | false => rw [am_b_neg (by rw [hb]; decide)] at c; omega
        rw [b1, show φ (i : Int) = (((φ (i : Int)).toNat : Nat) : Int) by omega]
        refine c_pitchIn ho hL (by omega) hn ⟨_, rfl, by omega, ?_⟩
        rw [b2]
        refine ⟨⟨by omega, by omega⟩, ?_⟩
        rw [so, hs, Bool.true_and, am_b_congr (P' := tPI σ re (φ (i : Int)).toNat n = ψ (i : Int)) decide_eq_true_iff] at hi2
        exact hi2
  exact sg_X8_isSo (key q 0 (by omega))
/-- the tracks that it can be, among the first -/
def cn (φ ψ σ : Int → Int) (re : Int) (q : Nat) : Nat → List Int
  | 0 => []
  | n + 1 => cn φ ψ σ re q n ++ (if so φ ψ σ re (n : Int) q then [(n : Int)] else [])
theorem cn_len (n : Nat) : (cn φ ψ σ re q n).length ≤ n := by
  induction n with
  | zero => simp [cn]
  | succ n ih =>
    rw [cn]
    split <;> simp <;> omega
theorem cn_yes {n : Nat} (h : so φ ψ σ re (n : Int) q = true) : cn φ ψ σ re q (n + 1) = cn φ ψ σ re q n ++ [(n : Int)] := by rw [cn, if_pos h]
theorem cn_no {n : Nat} (h : so φ ψ σ re (n : Int) q ≠ true) : cn φ ψ σ re q (n + 1) = cn φ ψ σ re q n := by rw [cn, if_neg h, List.append_nil]
theorem cn_mem {n : Nat} {x : Int} (h : x ∈ cn φ ψ σ re q n) : 0 ≤ x ∧ x < n ∧ so φ ψ σ re x q = true := by
  induction n with
  | zero => simp [cn] at h
  | succ n ih =>
    by_cases hs : so φ ψ σ re (n : Int) q = true
    · rw [cn_yes hs] at h
      rcases List.mem_append.mp h with h | h
      · have := ih h
        exact ⟨this.1, by omega, this.2.2⟩
      · simp only [List.mem_singleton] at h
        subst h
        exact ⟨by omega, by omega, hs⟩
    · rw [cn_no hs] at h
      have := ih h
      exact ⟨this.1, by omega, this.2.2⟩
/-- the candidates as the class holds them -/
def CG (M : am_M) (l : List Int) : Prop := M 51 3 = l.length ∧ ∀ i : Nat, i < l.length → M 54 (i : Int) = l.getD i 0
theorem CL.congr {M M' : am_M} (h : CL M σ) (fr : ∀ c, c = 1 ∨ c = 2 ∨ c = 3 ∨ (32 ≤ c ∧ c ≤ 35) ∨ (41 ≤ c ∧ c ≤ 50) → M' c = M c) : CL M' σ := by
  refine ⟨h.1.congr (fr 1 (by omega)) (fr 2 (by omega)) (fr 3 (by omega)), h.2.1.congr (fun x a b => fr x (by omega)), ?_⟩
  have := h.2.2
  unfold TR at this ⊢
  rw [fr 41 (by omega), fr 42 (by omega), fr 43 (by omega), fr 44 (by omega), fr 45 (by omega), fr 46 (by omega), fr 47 (by omega), fr 48 (by omega), fr 49 (by omega), fr 50 (by omega)]
  exact this
theorem k_gather {d : Nat} {M : am_M} {Q : Option Int → am_M → Prop} (ho : sp_ok σ) (hL : CL M σ) (hf : fa_ok φ ψ q) (hF : CF M φ ψ q) (hQ : ∀ M', (∀ c, c ≠ 51 → c ≠ 54 → M' c = M c) → (∀ j, j ≠ 3 → M' 51 j = M 51 j) → CG M' (cn φ ψ σ (σ 3) q (tC σ (σ 3) 8).toNat) → Q none M') : AC (d + 2) mX4_gather [.inr 51, .inr 41] M Q := by
  have hC := tC_r (σ := σ) (re := σ 3) 8
  have eC : M 41 0 = tC σ (σ 3) 8 := hL.2.2.1
  have key : ∀ (t n : Nat) (M' : am_M), (n : Int) + t = tC σ (σ 3) 8 → (∀ c, c ≠ 51 → c ≠ 54 → M' c = M c) → (∀ j, j ≠ 3 → M' 51 j = M 51 j) → CG M' (cn φ ψ σ (σ 3) q n) → AW (d + 2) mX4_gather 7 [(0, .inr 51), (1, .inr 41), (2, .inl (n : Int))] [] M' Q := by
    intro t
    induction t with
    | zero =>
      intro n M' hn fr fj hg
      have e41 : M' 41 0 = tC σ (σ 3) 8 := by rw [fr 41 (by decide) (by decide)]; exact eC
      refine sg_X4_gather_7 ⟨by omega, by omega, fun _ => hQ M' fr fj ?_, fun c => absurd c (by omega)⟩
      rw [show (tC σ (σ 3) 8).toNat = n by omega]
      exact hg
    | succ t ih =>
      intro n M' hn fr fj hg
      have e41 : M' 41 0 = tC σ (σ 3) 8 := by rw [fr 41 (by decide) (by decide)]; exact eC
      have hL' : CL M' σ := hL.congr (fun c hc => fr c (by omega) (by omega))
      have hF' : CF M' φ ψ q := by
        refine ⟨?_, ?_⟩
        · rw [fj 0 (by decide)]; exact hF.1
        · rw [fr 52 (by decide) (by decide), fr 53 (by decide) (by decide)]; exact hF.2
      have hlen := cn_len (φ := φ) (ψ := ψ) (σ := σ) (re := σ 3) (q := q) n
      have h01 := am_b_01 (so φ ψ σ (σ 3) (n : Int) q = true)
      refine sg_X4_gather_7 ⟨by omega, by omega, fun c => absurd c (by omega), fun _ => k_fits ho hL' hf hF' (by omega) (by omega) ⟨_, rfl, by omega, fun c => ?_, fun c => ?_⟩⟩
      · have hs : so φ ψ σ (σ 3) (n : Int) q ≠ true := fun hb => by rw [am_b_pos hb] at c; omega
        rw [show (n : Int) + 1 = ((n + 1 : Nat) : Int) by omega]
        refine ih (n + 1) M' (by omega) fr fj ?_
        rw [cn_no hs]
        exact hg
      · have hs : so φ ψ σ (σ 3) (n : Int) q = true := by
          cases hb : so φ ψ σ (σ 3) (n : Int) q with
          | true => rfl
          | false => rw [am_b_neg (by rw [hb]; decide)] at c; omega
        rw [show (n : Int) + 1 = ((n + 1 : Nat) : Int) by omega]
        have e51 := hg.1
        refine ⟨by omega, ih (n + 1) _ (by omega) (fun c h1 h2 => ?_) (fun j hj => ?_) ?_⟩
        · rw [am_up_ne _ _ _ _ _ h1, am_up_ne _ _ _ _ _ h2]; exact fr c h1 h2
        · rw [am_up_idx _ _ hj, am_up_cell _ (by decide)]; exact fj j hj
        · rw [cn_yes hs]
          refine ⟨?_, fun i hi => ?_⟩
          · rw [am_up_same, e51]; simp
          · rw [am_up_cell _ (by decide), e51]
            rw [List.length_append, List.length_singleton] at hi
            by_cases hi2 : i < (cn φ ψ σ (σ 3) q n).length
            · rw [am_up_idx _ _ (by omega), getD_app_lt hi2]
              exact hg.2 i hi2
            · have : i = (cn φ ψ σ (σ 3) q n).length := by omega
              rw [this, am_up_same, getD_app_eq]
  refine sg_X4_gather (key (tC σ (σ 3) 8).toNat 0 _ (by omega) (fun c h1 _ => am_up_ne _ _ _ _ _ h1) (fun j hj => am_up_idx _ _ hj) ⟨?_, fun i hi => ?_⟩)
  · rw [am_up_same]; rfl
  · simp [cn] at hi
/-- how often x stands in a list -/
def ct (x : Int) : List Int → Int
  | [] => 0
  | y :: l => (if y = x then 1 else 0) + ct x l
theorem ct_app (x : Int) : ∀ l k : List Int, ct x (l ++ k) = ct x l + ct x k
  | [], k => by simp [ct]
  | y :: l, k => by
    rw [List.cons_append, ct, ct, ct_app x l k]
    omega
theorem ct_one (x y : Int) : ct x [y] = if y = x then 1 else 0 := by simp [ct]
theorem ct_r (x : Int) : ∀ l : List Int, 0 ≤ ct x l ∧ ct x l ≤ l.length
  | [] => by simp [ct]
  | y :: l => by
    have := ct_r x l
    rw [ct, List.length_cons]
    split <;> omega
theorem ct_mem {x : Int} : ∀ {l : List Int}, x ∉ l → ct x l = 0
  | [], _ => rfl
  | y :: l, h => by
    rw [ct, ct_mem (fun k => h (List.mem_cons_of_mem _ k)), if_neg (fun e => h (by rw [e]; exact List.mem_cons_self ..))]
    rfl
/-- the greatest number of equal ones -/
def isMA (l : List Int) (m : Int) : Prop := (0 ≤ m ∧ ∀ x, ct x l ≤ m) ∧ (m = 0 ∨ ∃ x, ct x l = m)
theorem isMA.uniq {l : List Int} {m k : Int} (h : isMA l m) (g : isMA l k) : m = k := by
  obtain ⟨⟨h1, h2⟩, h3⟩ := h
  obtain ⟨⟨g1, g2⟩, g3⟩ := g
  have a : m ≤ k := by
    rcases h3 with h3 | ⟨x, h3⟩
    · omega
    · have := g2 x; omega
  have b : k ≤ m := by
    rcases g3 with g3 | ⟨x, g3⟩
    · omega
    · have := h2 x; omega
  omega
theorem isMA.app {l : List Int} {m x : Int} (h : isMA l m) : isMA (l ++ [x]) (max m (ct x l + 1)) := by
  obtain ⟨⟨h1, h2⟩, h3⟩ := h
  have hx := (ct_r x l).1
  refine ⟨⟨by omega, fun y => ?_⟩, ?_⟩
  · have := h2 y
    rw [ct_app, ct_one]
    by_cases hy : x = y
    · subst hy
      rw [if_pos rfl]; omega
    · rw [if_neg hy]; omega
  · right
    by_cases hm : m ≤ ct x l + 1
    · refine ⟨x, ?_⟩
      rw [ct_app, ct_one, if_pos rfl]; omega
    · rcases h3 with h3 | ⟨y, h3⟩
      · omega
      · refine ⟨y, ?_⟩
        rw [ct_app, ct_one, if_neg (by intro e; subst e; omega)]; omega
theorem isMA.nil : isMA [] 0 := ⟨⟨by omega, fun x => by simp [ct]⟩, Or.inl rfl⟩
theorem isMA.r {l : List Int} {m : Int} (h : isMA l m) : 0 ≤ m ∧ m ≤ l.length := by
  obtain ⟨⟨h1, h2⟩, h3⟩ := h
  rcases h3 with h3 | ⟨x, h3⟩
  · omega
  · have := ct_r x l
    omega
def al (φ ψ σ : Int → Int) (re : Int) (q f : Nat) (n : Nat) : List Int := (cn φ ψ σ re q n).map (tPI σ re f)
theorem am_fill_ne (M : am_M) (a n : Nat) (v : Int) {c : Nat} (h : c ≠ a) : am_fill M a n v c = M c := by
  funext j
  unfold am_fill
  rw [if_neg h]
theorem am_fill_in (M : am_M) (a n : Nat) (v : Int) {j : Int} (h : 0 ≤ j ∧ j < n) : am_fill M a n v a j = v := by
  unfold am_fill
  rw [if_pos rfl, if_pos h]
theorem k_mostAlike {d : Nat} {M : am_M} {Q : Option Int → am_M → Prop} (ho : sp_ok σ) (hL : CL M σ) (hg : CG M (cn φ ψ σ (σ 3) q (tC σ (σ 3) 8).toNat)) {f : Nat} (hf : f < 8) (hQ : ∀ M' m, (∀ c, c ≠ 55 → M' c = M c) → isMA (al φ ψ σ (σ 3) q f (tC σ (σ 3) 8).toNat) m → Q (some m) M') : AC (d + 1) mX4_mostAlike [.inr 51, .inr 41, .inl (f : Int)] M Q := by
  have hC := tC_r (σ := σ) (re := σ 3) 8
  have hlen := cn_len (φ := φ) (ψ := ψ) (σ := σ) (re := σ 3) (q := q) (tC σ (σ 3) 8).toNat
  have hmem : ∀ x, x ∈ cn φ ψ σ (σ 3) q (tC σ (σ 3) 8).toNat → 0 ≤ x ∧ x < tC σ (σ 3) 8 := fun x hx => by have := cn_mem hx; omega
  have hQ2 : ∀ M' m, (∀ c, c ≠ 55 → M' c = M c) → isMA ((cn φ ψ σ (σ 3) q (tC σ (σ 3) 8).toNat).map (tPI σ (σ 3) f)) m → Q (some m) M' := hQ
  revert hg hlen hmem hQ2
  generalize cn φ ψ σ (σ 3) q (tC σ (σ 3) 8).toNat = l
  intro hg hlen hmem hQ2
  have key : ∀ (t i : Nat) (M' : am_M) (mo : Int), i + t = l.length → (∀ c, c ≠ 55 → M' c = M c) → (∀ z : Int, 0 ≤ z → z < 55 → M' 55 z = ct (z - 9) ((l.take i).map (tPI σ (σ 3) f))) → isMA ((l.take i).map (tPI σ (σ 3) f)) mo → AW (d + 1) mX4_mostAlike 13 [(0, .inr 51), (1, .inr 41), (2, .inl (f : Int)), (3, .inl mo), (4, .inl (i : Int))] [] M' Q := by
    intro t
    induction t with
    | zero =>
      intro i M' mo hi fr ht hm
      have e51 : M' 51 3 = l.length := by rw [fr 51 (by decide)]; exact hg.1
      refine sg_X4_mostAlike_13 ⟨by omega, by omega, fun _ => hQ2 M' mo fr ?_, fun c => absurd c (by omega)⟩
      have e : l.take i = l := List.take_of_length_le (by omega)
      rw [e] at hm
      exact hm
    | succ t ih =>
      intro i M' mo hi fr ht hm
      have e51 : M' 51 3 = l.length := by rw [fr 51 (by decide)]; exact hg.1
      have hL' : CL M' σ := hL.congr (fun c hc => fr c (by omega))
      have hil : i < l.length := by omega
      have e54 : M' 54 (i : Int) = l[i] := by
        rw [fr 54 (by decide), hg.2 i hil, List.getD_eq_getElem?_getD, List.getElem?_eq_getElem hil]
        rfl
      have hn := hmem l[i] (List.getElem_mem hil)
      obtain ⟨p1, p2⟩ := hL'.pi (f := (f : Int)) hn.1 hn.2 (by omega)
      rw [Int.toNat_natCast] at p1
      have hr := tPI_r (re := σ 3) ho f l[i]
      have etake : l.take (i + 1) = l.take i ++ [l[i]] := by rw [List.take_add_one, List.getElem?_eq_getElem hil]; rfl
      have hmr := hm.r
      have hln : (List.map (tPI σ (σ 3) f) (l.take i)).length ≤ 48 := by rw [List.length_map, List.length_take]; omega
      have hcr := ct_r (tPI σ (σ 3) f l[i]) ((l.take i).map (tPI σ (σ 3) f))
      refine sg_X4_mostAlike_13 ⟨by omega, by omega, fun c => absurd c (by omega), fun _ => ⟨by omega, ?_⟩⟩
      rw [e54, p1]
      have e55 := ht (tPI σ (σ 3) f l[i] - -9) (by omega) (by omega)
      rw [show tPI σ (σ 3) f l[i] - -9 - 9 = tPI σ (σ 3) f l[i] by omega] at e55
      refine ⟨p2, by omega, fun c => absurd c (by omega), fun _ => ⟨fun c => absurd c (by omega), fun _ => ⟨by omega, ?_, ?_⟩⟩⟩
      · rw [am_up_same, e55]
        exact ⟨by omega, by omega⟩
      · rw [show (i : Int) + 1 = ((i + 1 : Nat) : Int) by omega]
        refine ih (i + 1) _ _ (by omega) (fun c hc => by rw [am_up_ne _ _ _ _ _ hc]; exact fr c hc) (fun z h1 h2 => ?_) ?_
        · rw [etake, List.map_append, List.map_singleton, ct_app, ct_one]
          by_cases hz : z = tPI σ (σ 3) f l[i] - -9
          · rw [hz, am_up_same, e55, if_pos (by omega), show tPI σ (σ 3) f l[i] - -9 - 9 = tPI σ (σ 3) f l[i] by omega]
          · rw [am_up_idx _ _ hz, ht z h1 h2, if_neg (by omega)]
            omega
        · rw [etake, List.map_append, List.map_singleton, am_up_same, e55]
          exact hm.app
  refine sg_X4_mostAlike (key l.length 0 _ _ (by omega) (fun c hc => ?_) (fun z h1 h2 => ?_) isMA.nil)
  · exact am_fill_ne _ _ _ _ hc
  · rw [am_fill_in _ _ _ _ (by omega)]
    rfl
end SE
