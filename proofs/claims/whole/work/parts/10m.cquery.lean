/-! the class is asked of its tracks -/
section CQ
variable {σ : Int → Int} {re : Int}
/-- the class has followed the peaks of σ -/
def CL (M : am_M) (σ : Int → Int) : Prop := SC 1 σ M ∧ PK M σ ∧ TR M σ (σ 3)
theorem CL.at {M : am_M} (h : CL M σ) {n : Int} (h0 : 0 ≤ n) (h1 : n < tC σ (σ 3) 8) : M 42 n = tB σ (σ 3) n ∧ M 43 n = tLN σ (σ 3) 8 n := ⟨(h.2.2.2.2.1 n h0 h1).1.1, (h.2.2.2.2.1 n h0 h1).1.2.1⟩
theorem k_keptTracks {d : Nat} {M : am_M} {Q : Option Int → am_M → Prop} (ho : sp_ok σ) (hL : CL M σ) (hQ : Q (some (kpS σ (σ 3))) M) : AC (d + 1) mX7_keptTracks [.inr 0] M Q := by
  have hC := tC_r (σ := σ) (re := σ 3) 8
  have h4 := ho.2.2.2.2.1
  have eC : M 41 0 = tC σ (σ 3) 8 := hL.2.2.1
  have e4 : M 2 2 = σ 4 := hL.1.2.2.2.2.1
  have key : ∀ (t n : Nat), (n : Int) + t = tC σ (σ 3) 8 → AW (d + 1) mX7_keptTracks 4 [(0, .inr 0), (1, .inl (sm (fun n => am_b (σ 4 ≤ tLN σ (σ 3) 8 (n : Int))) n)), (2, .inl (n : Int))] [] M Q := by
    intro t
    induction t with
    | zero =>
      intro n hn
      refine sg_X7_keptTracks_4 ⟨by omega, by omega, fun _ => ?_, fun c => absurd c (by omega)⟩
      have e : (tC σ (σ 3) 8).toNat = n := by omega
      unfold kpS at hQ
      rw [e] at hQ
      exact hQ
    | succ t ih =>
      intro n hn
      have hln := tLN_r (σ := σ) (re := σ 3) (n : Int) 8
      have e43 := (hL.at (n := (n : Int)) (by omega) (by omega)).2
      have hi := ih (n + 1) (by omega)
      rw [sm] at hi
      refine sg_X7_keptTracks_4 ⟨by omega, by omega, fun c => absurd c (by omega), fun _ => ⟨⟨by omega, by omega, by omega, fun _ _ => by omega, by omega⟩, fun c => ?_, fun c => ?_⟩⟩
      · rw [am_b_neg (by omega), Int.add_zero] at hi
        rw [show (n : Int) + 1 = ((n + 1 : Nat) : Int) by omega]
        exact hi
      · rw [am_b_pos (by omega)] at hi
        rw [show (n : Int) + 1 = ((n + 1 : Nat) : Int) by omega]
        exact hi
  exact sg_X7_keptTracks (key (tC σ (σ 3) 8).toNat 0 (by omega))
theorem k_loudTogether {d : Nat} {M : am_M} {Q : Option Int → am_M → Prop} (ho : sp_ok σ) (hL : CL M σ) {f : Nat} (hf : (f : Int) < σ 0) {ok : Int} (hok : ok = 0 ∨ ok = 1) (hQ : Q (some (loS σ (σ 3) f ok)) M) : AC (d + 1) mX7_loudTogether [.inr 0, .inl (f : Int), .inl ok] M Q := by
  have h0 := ho.1
  have hC := tC_r (σ := σ) (re := σ 3) 8
  have h4 := ho.2.2.2.2.1
  have hnn := sp_n_r σ (f : Int)
  have eC : M 41 0 = tC σ (σ 3) 8 := hL.2.2.1
  have e4 : M 2 2 = σ 4 := hL.1.2.2.2.2.1
  have e32 : M 32 (f : Int) = sp_n σ (f : Int) := hL.2.1.n ⟨by omega, by omega⟩
  have key : ∀ (t k : Nat), (k : Int) + t = sp_n σ (f : Int) → AW (d + 1) mX7_loudTogether 5 [(0, .inr 0), (1, .inl (f : Int)), (2, .inl ok), (3, .inl (sm (fun k => if am_b (σ 4 ≤ tLN σ (σ 3) 8 (tr σ (σ 3) f (k : Int))) = ok then sp_l σ (f : Int) (k : Int) else 0) k)), (4, .inl (k : Int))] [] M Q := by
    intro t
    induction t with
    | zero =>
      intro k hk
      refine sg_X7_loudTogether_5 ⟨by omega, by omega, by omega, fun _ => ?_, fun c => absurd c (by omega)⟩
      have e : (sp_n σ (f : Int)).toNat = k := by omega
      unfold loS at hQ
      rw [e] at hQ
      exact hQ
    | succ t ih =>
      intro k hk
      have e49 : M 49 ((f : Int) * 6 + k) = tr σ (σ 3) f (k : Int) := by
        rw [show (f : Int) * 6 + k = 6 * f + k by omega]
        exact (hL.2.2.2.1 f k (by omega) (by omega)).1
      have e35 : M 35 ((f : Int) * 6 + k) = sp_l σ (f : Int) (k : Int) := by
        rw [show (f : Int) * 6 + k = 6 * f + k by omega]
        exact (hL.2.1.at (f := (f : Int)) (k := (k : Int)) (by omega) (by omega)).2.2
      have htr := tr_r (σ := σ) (re := σ 3) f k (by omega)
      have hmo := tC_mono (σ := σ) (re := σ 3) (f + 1) (8 - (f + 1))
      rw [show f + 1 + (8 - (f + 1)) = 8 by omega] at hmo
      have e43 := (hL.at (n := tr σ (σ 3) f (k : Int)) (by omega) (by omega)).2
      have hln := tLN_r (σ := σ) (re := σ 3) (tr σ (σ 3) f (k : Int)) 8
      have hi := ih (k + 1) (by omega)
      rw [sm] at hi
      have eb : am_b (0 ≤ tr σ (σ 3) f (k : Int) ∧ tr σ (σ 3) f (k : Int) < M 41 0 ∧ M 2 2 ≤ M 43 (tr σ (σ 3) f (k : Int))) = am_b (σ 4 ≤ tLN σ (σ 3) 8 (tr σ (σ 3) f (k : Int))) := am_b_congr (by omega)
      refine sg_X7_loudTogether_5 ⟨by omega, by omega, by omega, fun c => absurd c (by omega), fun _ => ⟨by omega, ?_⟩⟩
      rw [e49, e35, eb, show (k : Int) + 1 = ((k + 1 : Nat) : Int) by omega]
      refine ⟨⟨by omega, by omega, by omega, fun _ _ => by omega, by omega⟩, by omega, fun c => ?_, fun c => ?_⟩
      · rw [if_neg c, Int.add_zero] at hi
        exact hi
      · rw [if_pos c] at hi
        exact hi
  exact sg_X7_loudTogether (key (sp_n σ (f : Int)).toNat 0 (by omega))
theorem k_bornIn {d : Nat} {M : am_M} {Q : Option Int → am_M → Prop} (hL : CL M σ) {f : Int} (hf : am_r f) (hQ : Q (some (bnS σ (σ 3) f)) M) : AC d mX6_bornIn [.inr 41, .inl f] M Q := by
  have hC := tC_r (σ := σ) (re := σ 3) 8
  have eC : M 41 0 = tC σ (σ 3) 8 := hL.2.2.1
  have key : ∀ (t n : Nat), (n : Int) + t = tC σ (σ 3) 8 → AW d mX6_bornIn 4 [(0, .inr 41), (1, .inl f), (2, .inl (sm (fun n => am_b (tB σ (σ 3) (n : Int) = f)) n)), (3, .inl (n : Int))] [] M Q := by
    intro t
    induction t with
    | zero =>
      intro n hn
      refine sg_X6_bornIn_4 ⟨by omega, by omega, fun _ => ?_, fun c => absurd c (by omega)⟩
      have e : (tC σ (σ 3) 8).toNat = n := by omega
      unfold bnS at hQ
      rw [e] at hQ
      exact hQ
    | succ t ih =>
      intro n hn
      obtain ⟨b, hb, eb, -, -⟩ := tB_spec (σ := σ) (re := σ 3) (n := (n : Int)) (by omega) (by omega)
      have e42 := (hL.at (n := (n : Int)) (by omega) (by omega)).1
      have hi := ih (n + 1) (by omega)
      rw [sm] at hi
      refine sg_X6_bornIn_4 ⟨by omega, by omega, fun c => absurd c (by omega), fun _ => ⟨by omega, by omega, hf, fun c => ?_, fun c => ?_⟩⟩
      · rw [am_b_neg (by omega), Int.add_zero] at hi
        rw [show (n : Int) + 1 = ((n + 1 : Nat) : Int) by omega]
        exact hi
      · rw [am_b_pos (by omega)] at hi
        rw [show (n : Int) + 1 = ((n + 1 : Nat) : Int) by omega]
        exact hi
  exact sg_X6_bornIn (key (tC σ (σ 3) 8).toNat 0 (by omega))
theorem k_endingIn {d : Nat} {M : am_M} {Q : Option Int → am_M → Prop} (hL : CL M σ) {f : Int} (hf : am_r f) (hQ : Q (some (enS σ (σ 3) f)) M) : AC d mX6_endingIn [.inr 41, .inl f] M Q := by
  have hC := tC_r (σ := σ) (re := σ 3) 8
  have eC : M 41 0 = tC σ (σ 3) 8 := hL.2.2.1
  have key : ∀ (t n : Nat), (n : Int) + t = tC σ (σ 3) 8 → AW d mX6_endingIn 4 [(0, .inr 41), (1, .inl f), (2, .inl (sm (fun n => am_b (tB σ (σ 3) (n : Int) + tLN σ (σ 3) 8 (n : Int) - 1 = f)) n)), (3, .inl (n : Int))] [] M Q := by
    intro t
    induction t with
    | zero =>
      intro n hn
      refine sg_X6_endingIn_4 ⟨by omega, by omega, fun _ => ?_, fun c => absurd c (by omega)⟩
      have e : (tC σ (σ 3) 8).toNat = n := by omega
      unfold enS at hQ
      rw [e] at hQ
      exact hQ
    | succ t ih =>
      intro n hn
      obtain ⟨b, hb, eb, -, -⟩ := tB_spec (σ := σ) (re := σ 3) (n := (n : Int)) (by omega) (by omega)
      have hln := tLN_r (σ := σ) (re := σ 3) (n : Int) 8
      have e42 := hL.at (n := (n : Int)) (by omega) (by omega)
      have hi := ih (n + 1) (by omega)
      rw [sm] at hi
      refine sg_X6_endingIn_4 ⟨by omega, by omega, fun c => absurd c (by omega), fun _ => ⟨by omega, by omega, hf, fun c => ?_, fun c => ?_⟩⟩
      · rw [am_b_neg (by omega), Int.add_zero] at hi
        rw [show (n : Int) + 1 = ((n + 1 : Nat) : Int) by omega]
        exact hi
      · rw [am_b_pos (by omega)] at hi
        rw [show (n : Int) + 1 = ((n + 1 : Nat) : Int) by omega]
        exact hi
  exact sg_X6_endingIn (key (tC σ (σ 3) 8).toNat 0 (by omega))
theorem k_longest {d : Nat} {M : am_M} {Q : Option Int → am_M → Prop} (hL : CL M σ) (hQ : ∀ r, isLg (fun n => tLN σ (σ 3) 8 (n : Int)) (tC σ (σ 3) 8).toNat r → Q (some r) M) : AC d mX6_longest [.inr 41] M Q := by
  have hC := tC_r (σ := σ) (re := σ 3) 8
  have eC : M 41 0 = tC σ (σ 3) 8 := hL.2.2.1
  have key : ∀ (t n : Nat) (fd mo : Int), (n : Int) + t = tC σ (σ 3) 8 → ((n = 0 ∧ fd = -9 ∧ mo = 0) ∨ (0 ≤ fd ∧ fd < n ∧ mo = tLN σ (σ 3) 8 fd ∧ ∀ m : Nat, m < n → tLN σ (σ 3) 8 (m : Int) ≤ mo ∧ ((m : Int) < fd → tLN σ (σ 3) 8 (m : Int) < mo))) → AW d mX6_longest 7 [(0, .inr 41), (1, .inl fd), (2, .inl mo), (3, .inl (n : Int))] [] M Q := by
    intro t
    induction t with
    | zero =>
      intro n fd mo hn hv
      refine sg_X6_longest_7 ⟨by omega, by omega, fun _ => hQ fd ?_, fun c => absurd c (by omega)⟩
      rcases hv with hv | ⟨h1, h2, h3, h4⟩
      · exact Or.inl ⟨by omega, hv.2.1⟩
      · refine Or.inr ⟨h1, by omega, fun m hm => ?_⟩
        dsimp only
        rw [show ((fd.toNat : Nat) : Int) = fd by omega, ← h3]
        exact h4 m (by omega)
    | succ t ih =>
      intro n fd mo hn hv
      obtain ⟨b, e, -, eN, hpos, -⟩ := tr_span (σ := σ) (re := σ 3) (n := (n : Int)) (by omega) (by omega)
      have hln := tLN_r (σ := σ) (re := σ 3) (n : Int) 8
      have hlf := tLN_r (σ := σ) (re := σ 3) fd 8
      have e43 := (hL.at (n := (n : Int)) (by omega) (by omega)).2
      refine sg_X6_longest_7 ⟨by omega, by omega, fun c => absurd c (by omega), fun _ => ⟨by omega, by omega, by omega, fun c => ?_, fun c => ?_⟩⟩
      · rw [show (n : Int) + 1 = ((n + 1 : Nat) : Int) by omega]
        refine ih (n + 1) fd mo (by omega) ?_
        rcases hv with hv | ⟨h1, h2, h3, h4⟩
        · omega
        · refine Or.inr ⟨h1, by omega, h3, fun m hm => ?_⟩
          by_cases hmn : m = n
          · subst hmn
            exact ⟨by omega, fun k => absurd k (by omega)⟩
          · exact h4 m (by omega)
      · rw [show (n : Int) + 1 = ((n + 1 : Nat) : Int) by omega]
        refine ih (n + 1) n _ (by omega) (Or.inr ⟨by omega, by omega, e43, fun m hm => ?_⟩)
        by_cases hmn : m = n
        · subst hmn
          exact ⟨by omega, fun k => absurd k (by omega)⟩
        · rcases hv with hv | ⟨h1, h2, h3, h4⟩
          · omega
          · have := h4 m (by omega)
            exact ⟨by omega, fun _ => by omega⟩
  exact sg_X6_longest (key (tC σ (σ 3) 8).toNat 0 _ _ (by omega) (Or.inl ⟨rfl, rfl, rfl⟩))
/-- peaks less pairs are tracks -/
theorem tk_cnt_up {g h : Int → Int} {y : Int} (hg : ∀ x, x ≠ y → g x = h x) (hy : h y = -9) (gy : g y ≠ -9) : ∀ N : Nat, tk_cnt g N = tk_cnt h N - (if 0 ≤ y ∧ y < N then 1 else 0)
  | 0 => by
    rw [if_neg (by omega)]
    rfl
  | N + 1 => by
    have ih := tk_cnt_up hg hy gy N
    rw [tk_cnt, tk_cnt, ih]
    by_cases hN : (N : Int) = y
    · have e1 : (if 0 ≤ y ∧ y < (N : Int) then (1 : Int) else 0) = 0 := if_neg (by omega)
      have e2 : (if 0 ≤ y ∧ y < ((N + 1 : Nat) : Int) then (1 : Int) else 0) = 1 := if_pos (by omega)
      have e3 : (if g (N : Int) = -9 then (1 : Int) else 0) = 0 := if_neg (by rw [hN]; exact gy)
      have e4 : (if h (N : Int) = -9 then (1 : Int) else 0) = 1 := if_pos (by rw [hN]; exact hy)
      rw [e1, e2, e3, e4]
      omega
    · have e3 : (if g (N : Int) = -9 then (1 : Int) else 0) = (if h (N : Int) = -9 then (1 : Int) else 0) := by rw [hg _ hN]
      have e1 : (if 0 ≤ y ∧ y < (N : Int) then (1 : Int) else 0) = (if 0 ≤ y ∧ y < ((N + 1 : Nat) : Int) then (1 : Int) else 0) := by
        by_cases hc : 0 ≤ y ∧ y < (N : Int)
        · rw [if_pos hc, if_pos (by omega)]
        · rw [if_neg hc, if_neg (by omega)]
      rw [e1, e3]
      omega
theorem tk_cnt_all {g : Int → Int} (hg : ∀ x, g x = -9) : ∀ N : Nat, tk_cnt g N = N
  | 0 => rfl
  | N + 1 => by
    rw [tk_cnt, tk_cnt_all hg N, if_pos (hg _)]
    omega
theorem jc_succ {A B : Int → Int} {n1 n2 re : Int} (k : Nat) : jc A B n1 n2 re (k + 1) = jc A B n1 n2 re k + (if jm A B n1 n2 re (k : Int) = -9 then 0 else 1) := by
  rw [jc]
theorem cnt_pairs (f : Nat) : ∀ K : Nat, (K : Int) ≤ sp_n σ (f : Int) → tk_cnt (tk_nx (tk σ re f).1 (tk σ re f).2 (sp_m σ re (f : Int)) K) (sp_n σ ((f : Int) + 1)).toNat = sp_n σ ((f : Int) + 1) - jc (sp_t σ f) (sp_t σ (f + 1)) (sp_n σ f) (sp_n σ (f + 1)) re K
  | 0, _ => by
    have := sp_n_r σ ((f : Int) + 1)
    rw [tk_cnt_all (g := tk_nx (tk σ re f).1 (tk σ re f).2 (sp_m σ re (f : Int)) 0) (fun _ => rfl)]
    simp only [jc]
    omega
  | K + 1, hK => by
    have ih := cnt_pairs f K (by omega)
    have hn := sp_n_r σ ((f : Int) + 1)
    have htr := tr_r (σ := σ) (re := re) f K (by omega)
    have hm := sp_m_r (σ := σ) (re := re) f K
    have ejm : jm (sp_t σ f) (sp_t σ (f + 1)) (sp_n σ f) (sp_n σ (f + 1)) re (K : Int) = sp_m σ re (f : Int) (K : Int) := rfl
    rw [jc_succ, ejm]
    rcases hm with hm | hm
    · rw [if_pos hm, Int.add_zero, ← ih]
      congr 1
      funext x
      rw [tk_nx, if_neg (by omega)]
    · rw [if_neg (by omega)]
      have hup := tk_cnt_up (g := tk_nx (tk σ re f).1 (tk σ re f).2 (sp_m σ re (f : Int)) (K + 1)) (h := tk_nx (tk σ re f).1 (tk σ re f).2 (sp_m σ re (f : Int)) K) (y := sp_m σ re (f : Int) (K : Int)) (fun x hx => by rw [tk_nx, if_neg (by omega)]) ?_ ?_ (sp_n σ ((f : Int) + 1)).toNat
      · rw [hup, ih, if_pos (by omega)]
        omega
      · rcases tk_nx_spec (tk σ re f).1 (tk σ re f).2 (sp_m σ re (f : Int)) K (sp_m σ re (f : Int) (K : Int)) with ⟨h1, -⟩ | ⟨l, h1, h2, h3, h4⟩
        · exact h1
        · have := sp_m_inj (σ := σ) (re := re) (f := f) h2 h3
          omega
      · rw [tk_nx, if_pos ⟨by omega, rfl⟩]
        have e : tr σ re f (K : Int) = tk_at (tk σ re f).1 (tk σ re f).2 (K : Int) := rfl
        omega
theorem tC_pairs (f : Nat) : tC σ re (f + 1) = sm (fun g => sp_n σ (g : Int) - sp_c σ re (g : Int)) f + sp_n σ (f : Int) := by
  induction f with
  | zero =>
    have := sp_n_r σ ((0 : Nat) : Int)
    rw [tC_succ, show tC σ re 0 = 0 from rfl, tk_cnt_all (g := (tk σ re 0).1) (fun _ => rfl)]
    simp only [sm]
    omega
  | succ f ih =>
    have e := cnt_pairs (σ := σ) (re := re) f (sp_n σ (f : Int)).toNat (by have := sp_n_r σ (f : Int); omega)
    rw [tC_succ, ih, sm, show ((f + 1 : Nat) : Int) = (f : Int) + 1 by omega]
    have e2 : (tk σ re (f + 1)).1 = tk_nx (tk σ re f).1 (tk σ re f).2 (sp_m σ re (f : Int)) (sp_n σ (f : Int)).toNat := rfl
    have e3 : sp_c σ re (f : Int) = jc (sp_t σ f) (sp_t σ (f + 1)) (sp_n σ f) (sp_n σ (f + 1)) re (sp_n σ (f : Int)).toNat := rfl
    rw [e2, e, ← e3]
    omega
theorem tC_sum (ho : sp_ok σ) : sm (fun g => sp_n σ (g : Int) - sp_c σ re (g : Int)) 8 = tC σ re 8 := by
  have h0 := ho.1
  rw [tC_pairs 7, sm]
  have e8 : sp_n σ ((7 : Nat) + 1 : Int) = 0 := sp_n_out ho (by omega)
  have hc : ∀ K : Nat, jc (sp_t σ ((7 : Nat) : Int)) (sp_t σ ((7 : Nat) + 1)) (sp_n σ ((7 : Nat) : Int)) (sp_n σ ((7 : Nat) + 1)) re K = 0 := by
    intro K
    induction K with
    | zero => rfl
    | succ K ih =>
      have hm := sp_m_r (σ := σ) (re := re) 7 K
      have ejm : jm (sp_t σ ((7 : Nat) : Int)) (sp_t σ ((7 : Nat) + 1)) (sp_n σ ((7 : Nat) : Int)) (sp_n σ ((7 : Nat) + 1)) re (K : Int) = sp_m σ re ((7 : Nat) : Int) (K : Int) := rfl
      rw [jc_succ, ih, ejm, if_pos (by omega)]
      omega
  have := hc (sp_n σ ((7 : Nat) : Int)).toNat
  have e3 : sp_c σ re ((7 : Nat) : Int) = jc (sp_t σ ((7 : Nat) : Int)) (sp_t σ ((7 : Nat) + 1)) (sp_n σ ((7 : Nat) : Int)) (sp_n σ ((7 : Nat) + 1)) re (sp_n σ ((7 : Nat) : Int)).toNat := rfl
  omega
theorem PK.congr {M M' : am_M} (h : PK M σ) (h2 : ∀ x, 32 ≤ x → x ≤ 35 → M' x = M x) : PK M' σ := fun g a b => by
  have := h g a b
  unfold pk_row at this ⊢
  rw [h2 32 (by decide) (by decide), h2 33 (by decide) (by decide), h2 34 (by decide) (by decide), h2 35 (by decide) (by decide)]
  exact this
theorem k_tracksByReach {d : Nat} {M : am_M} {Q : Option Int → am_M → Prop} (ho : sp_ok σ) (hp : PK M σ) (hre : 0 ≤ re ∧ re ≤ 20) (hQ : ∀ M', (∀ x, x < 36 ∨ 40 < x → M' x = M x) → Q (some (tC σ re 8)) M') : AC (d + 5) mX7_tracksByReach [.inr 0, .inl re] M Q := by
  have key : ∀ (t f : Nat) (M' : am_M), f + t = 8 → (∀ x, x < 36 ∨ 40 < x → M' x = M x) → AW (d + 5) mX7_tracksByReach 4 [(0, .inr 0), (1, .inl re), (2, .inl (sm (fun g => sp_n σ (g : Int) - sp_c σ re (g : Int)) f)), (3, .inl (f : Int))] [] M' Q := by
    intro t
    induction t with
    | zero =>
      intro f M' hf fr
      refine sg_X7_tracksByReach_4 ⟨by omega, fun _ => ?_, fun c => absurd c (by omega)⟩
      have : f = 8 := by omega
      subst this
      rw [tC_sum ho]
      exact hQ M' fr
    | succ t ih =>
      intro f M' hf fr
      have hp' : PK M' σ := hp.congr (fun x a b => fr x (by omega))
      refine sg_X7_tracksByReach_4 ⟨by omega, fun c => absurd c (by omega), fun _ => ⟨by omega, ?_⟩⟩
      refine c_join ho hp' (by omega) hre (fun M2 fr2 _ => ⟨_, rfl, ?_⟩)
      have hi := ih (f + 1) M2 (by omega) (fun x hx => (fr2 x hx).trans (fr x hx))
      rw [sm] at hi
      rw [hp'.n (by omega), show (f : Int) + 1 = ((f + 1 : Nat) : Int) by omega]
      exact hi
  exact sg_X7_tracksByReach (key 8 0 M (by omega) (fun _ _ => rfl))
/-- the first of the least -/
def isMn (T : Nat → Int) (N : Nat) (r c : Int) : Prop := (0 ≤ r ∧ r < N) ∧ c = T r.toNat ∧ ∀ n : Nat, n < N → c ≤ T n ∧ ((n : Int) < r → c < T n)
theorem isMn.uniq {T : Nat → Int} {N : Nat} {r c s e : Int} (h : isMn T N r c) (g : isMn T N s e) : r = s ∧ c = e := by
  obtain ⟨h1, h2, h3⟩ := h
  obtain ⟨g1, g2, g3⟩ := g
  have a := h3 s.toNat (by omega)
  have b := g3 r.toNat (by omega)
  omega
theorem isMn.keep {T : Nat → Int} {N : Nat} {r c : Int} (h : isMn T N r c) (hc : c ≤ T N) : isMn T (N + 1) r c := by
  obtain ⟨h1, h2, h3⟩ := h
  refine ⟨by omega, h2, fun n hn => ?_⟩
  by_cases hN : n = N
  · subst hN
    exact ⟨hc, fun k => absurd k (by omega)⟩
  · exact h3 n (by omega)
theorem isMn.less {T : Nat → Int} {N : Nat} {r c : Int} (h : isMn T N r c) (hc : T N < c) : isMn T (N + 1) N (T N) := by
  obtain ⟨h1, h2, h3⟩ := h
  refine ⟨by omega, by rw [Int.toNat_natCast], fun n hn => ?_⟩
  by_cases hN : n = N
  · subst hN
    exact ⟨Int.le_refl _, fun k => absurd k (by omega)⟩
  · have := h3 n (by omega)
    omega
theorem isMn.one (T : Nat → Int) : isMn T 1 0 (T 0) := by
  refine ⟨by omega, rfl, fun n hn => ?_⟩
  have : n = 0 := by omega
  subst this
  omega
def bT (σ : Int → Int) (r : Nat) : Int := tC σ (r : Int) 8
theorem k_best {d : Nat} {M : am_M} {Q : Option Int → am_M → Prop} (ho : sp_ok σ) (hp : PK M σ) (hb : M 0 10 = -9 ∨ isMn (bT σ) 21 (M 0 10) (M 0 11)) {w : Int} (hw : 0 ≤ w ∧ w ≤ 1) (hQ : ∀ M', (∀ x, x ≠ 0 → x < 36 ∨ 40 < x → M' x = M x) → (∀ j, j ≠ 10 → j ≠ 11 → M' 0 j = M 0 j) → isMn (bT σ) 21 (M' 0 10) (M' 0 11) → Q (some (if w = 0 then M' 0 10 else M' 0 11)) M') : AC (d + 6) mX7_best [.inr 0, .inl w] M Q := by
  have hT : ∀ r, 0 ≤ bT σ r ∧ bT σ r ≤ 48 := fun r => by
    have := tC_r (σ := σ) (re := (r : Int)) 8
    unfold bT
    omega
  have key : ∀ (t r : Nat) (M' : am_M), r + t = 21 → (∀ x, x ≠ 0 → x < 36 ∨ 40 < x → M' x = M x) → (∀ j, j ≠ 10 → j ≠ 11 → M' 0 j = M 0 j) → ((r = 0 ∧ M' 0 11 = 49) ∨ isMn (bT σ) r (M' 0 10) (M' 0 11)) → AW (d + 6) mX7_best 32 [(0, .inr 0), (1, .inl w), (2, .inl (r : Int))] [] M' Q := by
    intro t
    induction t with
    | zero =>
      intro r M' hr fr fj hv
      refine sg_X7_best_32 ⟨by omega, fun _ => ⟨by omega, fun v g1 g2 => ?_⟩, fun c => absurd c (by omega)⟩
      have hr2 : r = 21 := by omega
      subst hr2
      rcases hv with hv | hv
      · omega
      · have := hQ M' fr fj hv
        by_cases hz : w = 0
        · rw [if_pos hz] at this; rw [g2 hz]; exact this
        · rw [if_neg hz] at this; rw [g1 hz]; exact this
    | succ t ih =>
      intro r M' hr fr fj hv
      have hp' : PK M' σ := hp.congr (fun x a b => fr x (by omega) (by omega))
      have h1 := hT r
      refine sg_X7_best_32 ⟨by omega, fun c => absurd c (by omega), fun _ => ?_⟩
      refine k_tracksByReach ho hp' (by omega) (fun M2 fr2 => ⟨_, rfl, ?_⟩)
      have e0 : M2 0 = M' 0 := fr2 0 (by omega)
      have hM : -2147483648 ≤ M' 0 11 ∧ M' 0 11 < 2147483648 := by
        rcases hv with hv | ⟨v1, v2, v3⟩
        · omega
        · have := hT (M' 0 10).toNat
          omega
      rw [e0, show tC σ (r : Int) 8 = bT σ r from rfl, show (r : Int) + 1 = ((r + 1 : Nat) : Int) by omega]
      refine ⟨by omega, hM, fun c => ?_, fun c => ?_⟩
      · refine ih (r + 1) M2 (by omega) (fun x a b => (fr2 x (by omega)).trans (fr x a b)) (fun j a b => by rw [e0]; exact fj j a b) ?_
        rcases hv with hv | hv
        · omega
        · rw [e0]
          exact Or.inr (hv.keep c)
      · refine ih (r + 1) _ (by omega) (fun x a b => ?_) (fun j a b => ?_) ?_
        · rw [am_up_ne _ _ _ _ _ a, am_up_ne _ _ _ _ _ a]
          exact (fr2 x (by omega)).trans (fr x a b)
        · rw [am_up_idx _ _ a, am_up_idx _ _ b, e0]
          exact fj j a b
        · rw [am_up_same, am_up_idx _ _ (by omega), am_up_same]
          rcases hv with hv | hv
          · have h0 := hv.1
            subst h0
            exact Or.inr (isMn.one _)
          · exact Or.inr (hv.less c)
  refine sg_X7_best ⟨by omega, fun c => absurd c (by omega), fun _ => ⟨fun _ => ⟨?_, fun c v g1 g2 => ?_, fun c => ?_⟩, fun c => absurd c (by omega)⟩⟩
  · rcases hb with hb | ⟨⟨h1, h2⟩, -⟩ <;> omega
  · rcases hb with hb | hb
    · exact absurd hb c
    · have := hQ M (fun _ _ _ => rfl) (fun _ _ _ => rfl) hb
      by_cases hz : w = 0
      · rw [if_pos hz] at this; rw [g2 hz]; exact this
      · rw [if_neg hz] at this; rw [g1 hz]; exact this
  · exact key 21 0 _ (by omega) (fun x a _ => am_up_ne _ _ _ _ _ a) (fun j a b => am_up_idx _ _ b) (Or.inl ⟨rfl, am_up_same _ _ _ _⟩)
end CQ
