/-! the reference: which track, what to listen to, the best reach -/
section MSE
variable {σ : Int → Int} {re : Int} {φ ψ : Int → Int} {q : Nat}
/-- what asking the reference leaves as it was -/
def MR (M M' : am_M) : Prop := (∀ c, c < 62 ∨ (62 < c ∧ c < 70) ∨ 74 < c → M' c = M c) ∧ ∀ j, j ≠ 0 → j ≠ 19 → j ≠ 21 → j ≠ 22 → M' 62 j = M 62 j
theorem MR.refl (M : am_M) : MR M M := ⟨fun _ _ => rfl, fun _ _ _ _ _ => rfl⟩
theorem MR.trans {M M' M2 : am_M} (h : MR M M') (h2 : MR M' M2) : MR M M2 := ⟨fun c hc => (h2.1 c hc).trans (h.1 c hc), fun j a b c e => (h2.2 j a b c e).trans (h.2 j a b c e)⟩
theorem MQf.r {M M' : am_M} (h : MQf M M') : MR M M' := ⟨fun c hc => h.1 c (by omega), fun j _ _ c e => h.2 j c e⟩
theorem MR.up0 (M : am_M) (z : Int) : MR M (am_up M 62 0 z) := ⟨fun c hc => am_up_ne _ _ _ _ _ (by omega), fun j a _ _ _ => am_up_idx _ _ a⟩
theorem MC.r {M M' : am_M} (h : MC σ M) (f : MR M M') : MC σ M' := h.congr (f.1 63 (by omega))
theorem MF.r {M M' : am_M} (h : MF M φ ψ q) (f : MR M M') : MF M' φ ψ q := by
  unfold MF at h ⊢
  rw [f.2 8 (by decide) (by decide) (by decide) (by decide), f.1 68 (by omega)]
  exact h
theorem c_lays {d : Nat} {M : am_M} {Q : Option Int → am_M → Prop} (ho : sp_ok σ) (hs : MC σ M) (hQ : ∀ M', MR M M' → ML M' σ (σ 3) → Q none M') : AC (d + 8) mX8_lays [.inr 62] M Q := by
  have e3 : M 63 3 = σ 3 := hs 3 (by omega) (by omega)
  refine sg_X8_lays ?_
  rw [e3]
  exact c_laysTracks ho hs ho.2.2.2.1 (fun M1 fr fj hp ht => ⟨rfl, hQ M1 ⟨fr, fun j _ b _ _ => fj j b⟩ ⟨hs.congr (fr 63 (by omega)), hp, ht⟩⟩)
theorem al_yes {n f : Nat} (h : so φ ψ σ re (n : Int) q = true) : al φ ψ σ re q f (n + 1) = al φ ψ σ re q f n ++ [tPI σ re f (n : Int)] := by
  unfold al
  rw [cn_yes h, List.map_append, List.map_singleton]
theorem al_no {n f : Nat} (h : so φ ψ σ re (n : Int) q ≠ true) : al φ ψ σ re q f (n + 1) = al φ ψ σ re q f n := by
  unfold al
  rw [cn_no h]
theorem al_len (n f : Nat) : (al φ ψ σ re q f n).length ≤ n := by
  unfold al
  rw [List.length_map]
  exact cn_len n
theorem so_b {n : Int} (h : am_b (so φ ψ σ re n q = true) ≠ 0) : so φ ψ σ re n q = true := by
  cases hb : so φ ψ σ re n q with
  | true => rfl
  | false => rw [hb, am_b_neg (by decide)] at h; exact absurd rfl h
theorem so_nb {n : Int} (h : am_b (so φ ψ σ re n q = true) = 0) : so φ ψ σ re n q ≠ true := fun hb => by rw [am_b_pos hb] at h; omega
theorem c_mostAlike {d : Nat} {M : am_M} {Q : Option Int → am_M → Prop} (ho : sp_ok σ) (hL : ML M σ re) (hf : fa_ok φ ψ q) (hF : MF M φ ψ q) {f : Nat} (hf8 : f < 8) (hQ : ∀ m, isMA (al φ ψ σ re q f (tC σ re 8).toNat) m → Q (some m) M) : AC (d + 5) mX8_mostAlike [.inr 62, .inl (f : Int)] M Q := by
  have hC := tC_r (σ := σ) (re := re) 8
  have eC : M 62 19 = tC σ re 8 := hL.2.2.1
  -- one a: how many b are like it
  have inner : ∀ (t b : Nat) (a : Nat) (mo mn : Int), (b : Int) + t = tC σ re 8 → (a : Int) < tC σ re 8 → (0 ≤ mo ∧ mo ≤ 48) → mn = (if so φ ψ σ re (a : Int) q = true then ct (tPI σ re f (a : Int)) (al φ ψ σ re q f b) else 0) → AW (d + 5) mX8_mostAlike 4 [(0, .inr 62), (1, .inl (f : Int)), (2, .inl (max mo (if so φ ψ σ re (a : Int) q = true then ct (tPI σ re f (a : Int)) (al φ ψ σ re q f (tC σ re 8).toNat) else 0))), (3, .inl ((a : Int) + 1))] [] M Q → AW (d + 5) mX8_mostAlike 18 [(0, .inr 62), (1, .inl (f : Int)), (2, .inl mo), (3, .inl (a : Int)), (4, .inl mn), (5, .inl (b : Int))] [] M Q := by
    intro t
    induction t with
    | zero =>
      intro b a mo mn hb ha hmo hmn kk
      have hct := ct_r (tPI σ re f (a : Int)) (al φ ψ σ re q f b)
      have hle := al_len (φ := φ) (ψ := ψ) (σ := σ) (re := re) (q := q) b f
      have hr : 0 ≤ mn ∧ mn ≤ 48 := by
        rw [hmn]
        split <;> omega
      refine sg_X8_mostAlike_18 ⟨by omega, by omega, fun _ => ⟨⟨by omega, by omega⟩, fun v g1 g2 => ?_⟩, fun c => absurd c (by omega)⟩
      rw [show (tC σ re 8).toNat = b by omega, ← hmn] at kk
      rw [show v = max mo mn by omega]
      exact kk
    | succ t ih =>
      intro b a mo mn hb ha hmo hmn kk
      have h01 := am_b_01 (so φ ψ σ re (a : Int) q = true)
      have h02 := am_b_01 (so φ ψ σ re (b : Int) q = true)
      have hra := tPI_r (re := re) ho f (a : Int)
      have hrb := tPI_r (re := re) ho f (b : Int)
      refine sg_X8_mostAlike_18 ⟨by omega, by omega, fun c => absurd c (by omega), fun _ => c_isSo ho hL hf hF (by omega) ⟨_, rfl, by omega, fun c => ?_, fun c => ?_⟩⟩
      · rw [Int.add_zero, show (b : Int) + 1 = ((b + 1 : Nat) : Int) by omega]
        refine ih (b + 1) a mo mn (by omega) ha hmo ?_ kk
        rw [hmn, if_neg (so_nb c), if_neg (so_nb c)]
      · have hsa := so_b c
        rw [if_pos hsa] at hmn
        refine c_isSo ho hL hf hF (by omega) ⟨_, rfl, by omega, fun c2 => ?_, fun c2 => ?_⟩
        · rw [Int.add_zero, show (b : Int) + 1 = ((b + 1 : Nat) : Int) by omega]
          refine ih (b + 1) a mo mn (by omega) ha hmo ?_ kk
          rw [hmn, if_pos hsa, al_no (so_nb c2)]
        · have hsb := so_b c2
          refine c_pitchIn ho hL hf8 (by omega) ⟨_, rfl, c_pitchIn ho hL hf8 (by omega) ⟨_, rfl, ⟨by omega, by omega⟩, ?_⟩⟩
          rw [show (b : Int) + 1 = ((b + 1 : Nat) : Int) by omega]
          refine ih (b + 1) a mo _ (by omega) ha hmo ?_ kk
          rw [hmn, if_pos hsa, al_yes hsb, ct_app, ct_one]
          by_cases he : tPI σ re f (a : Int) = tPI σ re f (b : Int)
          · rw [am_b_pos he, if_pos he.symm]
          · rw [am_b_neg he, if_neg (fun z => he z.symm)]
  have outer : ∀ (t a : Nat) (mo : Int), (a : Int) + t = tC σ re 8 → (0 ≤ mo ∧ mo ≤ 48) → (∀ x : Nat, x < a → so φ ψ σ re (x : Int) q = true → ct (tPI σ re f (x : Int)) (al φ ψ σ re q f (tC σ re 8).toNat) ≤ mo) → (mo = 0 ∨ ∃ x, ct x (al φ ψ σ re q f (tC σ re 8).toNat) = mo) → AW (d + 5) mX8_mostAlike 4 [(0, .inr 62), (1, .inl (f : Int)), (2, .inl mo), (3, .inl (a : Int))] [] M Q := by
    intro t
    induction t with
    | zero =>
      intro a mo ha hmo hle hex
      refine sg_X8_mostAlike_4 ⟨by omega, by omega, fun _ => hQ mo ⟨⟨hmo.1, fun x => ?_⟩, hex⟩, fun c => absurd c (by omega)⟩
      by_cases hx : x ∈ al φ ψ σ re q f (tC σ re 8).toNat
      · obtain ⟨n, hn, rfl⟩ := List.mem_map.mp hx
        have hm := cn_mem hn
        have := hle n.toNat (by omega)
        rw [show ((n.toNat : Nat) : Int) = n by omega] at this
        exact this hm.2.2
      · rw [ct_mem hx]; exact hmo.1
    | succ t ih =>
      intro a mo ha hmo hle hex
      have hct := ct_r (tPI σ re f (a : Int)) (al φ ψ σ re q f (tC σ re 8).toNat)
      have hlen := al_len (φ := φ) (ψ := ψ) (σ := σ) (re := re) (q := q) (tC σ re 8).toNat f
      refine sg_X8_mostAlike_4 ⟨by omega, by omega, fun c => absurd c (by omega), fun _ => ?_⟩
      refine inner (tC σ re 8).toNat 0 a mo 0 (by omega) (by omega) hmo ?_ ?_
      · split <;> rfl
      · rw [show (a : Int) + 1 = ((a + 1 : Nat) : Int) by omega]
        by_cases hsa : so φ ψ σ re (a : Int) q = true
        · rw [if_pos hsa]
          refine ih (a + 1) _ (by omega) (by omega) (fun x hx hs => ?_) ?_
          · by_cases hxa : x = a
            · subst hxa; omega
            · have := hle x (by omega) hs
              omega
          · by_cases hm : mo ≤ ct (tPI σ re f (a : Int)) (al φ ψ σ re q f (tC σ re 8).toNat)
            · exact Or.inr ⟨tPI σ re f (a : Int), by omega⟩
            · rcases hex with hex | ⟨x, hex⟩
              · omega
              · exact Or.inr ⟨x, by omega⟩
        · rw [if_neg hsa, show max mo 0 = mo by omega]
          refine ih (a + 1) _ (by omega) hmo (fun x hx hs => ?_) hex
          by_cases hxa : x = a
          · subst hxa; exact absurd hs hsa
          · exact hle x (by omega) hs
  exact sg_X8_mostAlike (outer (tC σ re 8).toNat 0 0 (by omega) (by omega) (fun x hx => absurd hx (by omega)) (Or.inl rfl))
/-- how many tracks it can be; the first of them -/
def whA (φ ψ σ : Int → Int) (q : Nat) : List Int := cn φ ψ σ (σ 3) q (tC σ (σ 3) 8).toNat
def whF : List Int → Int
  | [] => -9
  | x :: _ => x
theorem whF_app {l : List Int} {x : Int} : whF (l ++ [x]) = if l = [] then x else whF l := by
  cases l with
  | nil => rfl
  | cons y l => rfl
theorem c_which {d : Nat} {M : am_M} {Q : Option Int → am_M → Prop} (ho : sp_ok σ) (hs : MC σ M) (hf : fa_ok φ ψ q) (hF : MF M φ ψ q) {w : Int} (hw : 0 ≤ w ∧ w ≤ 1) (hQ : ∀ M', MR M M' → Q (some (if w = 0 then ((whA φ ψ σ q).length : Int) else whF (whA φ ψ σ q))) M') : AC (d + 9) mX8_which [.inr 62, .inl w] M Q := by
  refine sg_X8_which ⟨⟨by omega, by decide, by decide⟩, fun _ => ?_, fun c => absurd hw c⟩
  refine c_lays ho (hs.r (MR.up0 M 0)) (fun M1 fr hL => ⟨rfl, ?_⟩)
  have fr1 := (MR.up0 M 0).trans fr
  have hF1 := hF.r fr1
  have hC := tC_r (σ := σ) (re := σ 3) 8
  have eC : M1 62 19 = tC σ (σ 3) 8 := hL.2.2.1
  have key : ∀ (t n : Nat) (mn fi : Int), (n : Int) + t = tC σ (σ 3) 8 → mn = (cn φ ψ σ (σ 3) q n).length → fi = whF (cn φ ψ σ (σ 3) q n) → AW (d + 9) mX8_which 28 [(0, .inr 62), (1, .inl w), (2, .inl mn), (3, .inl fi), (4, .inl (n : Int))] [] M1 Q := by
    intro t
    induction t with
    | zero =>
      intro n mn fi hn h1 h2
      refine sg_X8_which_28 ⟨by omega, by omega, fun _ => ⟨by omega, fun v g1 g2 => ?_⟩, fun c => absurd c (by omega)⟩
      have hq := hQ M1 fr1
      unfold whA at hq
      rw [show (tC σ (σ 3) 8).toNat = n by omega, ← h1, ← h2] at hq
      by_cases hz : w = 0
      · rw [if_pos hz] at hq; rw [g2 hz]; exact hq
      · rw [if_neg hz] at hq; rw [g1 hz]; exact hq
    | succ t ih =>
      intro n mn fi hn h1 h2
      have h01 := am_b_01 (so φ ψ σ (σ 3) (n : Int) q = true)
      have hlen := cn_len (φ := φ) (ψ := ψ) (σ := σ) (re := σ 3) (q := q) n
      refine sg_X8_which_28 ⟨by omega, by omega, fun c => absurd c (by omega), fun _ => c_isSo ho hL hf hF1 (by omega) ⟨_, rfl, by omega, fun c => ?_, fun c => ⟨by omega, fun v g1 g2 => ?_⟩⟩⟩
      · rw [show (n : Int) + 1 = ((n + 1 : Nat) : Int) by omega]
        exact ih (n + 1) mn fi (by omega) (by rw [cn_no (so_nb c)]; exact h1) (by rw [cn_no (so_nb c)]; exact h2)
      · rw [show (n : Int) + 1 = ((n + 1 : Nat) : Int) by omega]
        refine ih (n + 1) _ _ (by omega) (by rw [cn_yes (so_b c), h1]; simp) ?_
        rw [cn_yes (so_b c), whF_app]
        by_cases hz : mn = 0
        · rw [g2 hz, if_pos (List.eq_nil_of_length_eq_zero (by omega))]
        · rw [g1 hz, if_neg (by intro e; rw [e] at h1; simp at h1; exact hz h1), h2]
  exact key (tC σ (σ 3) 8).toNat 0 _ _ (by omega) rfl rfl
/-- what to listen to: the first frame with the least likeness -/
def isLi (φ ψ σ : Int → Int) (q : Nat) (r : Int) : Prop := ((whA φ ψ σ q).length ≤ 1 ∧ r = -9) ∨ 1 < (whA φ ψ σ q).length ∧ ∃ T c, (∀ f : Nat, (f : Int) < σ 0 → isMA (al φ ψ σ (σ 3) q f (tC σ (σ 3) 8).toNat) (T f)) ∧ isMn T (σ 0).toNat r c
theorem isMn.ext {T U : Nat → Int} {N : Nat} {r c : Int} (h : isMn T N r c) (e : ∀ n, n < N → U n = T n) : isMn U N r c := by
  obtain ⟨a, b, k⟩ := h
  refine ⟨a, ?_, fun n hn => ?_⟩
  · rw [e _ (by omega)]; exact b
  · rw [e n hn]; exact k n hn
theorem isLi.uniq {r s : Int} (h : isLi φ ψ σ q r) (g : isLi φ ψ σ q s) : r = s := by
  rcases h with ⟨h0, h⟩ | ⟨h0, T, x, h1, h2⟩
  · rcases g with ⟨g0, g⟩ | ⟨g0, g⟩
    · exact h.trans g.symm
    · omega
  · rcases g with ⟨g0, g⟩ | ⟨g0, U, y, g1, g2⟩
    · omega
    · exact (h2.uniq (g2.ext (fun f hf => (h1 f (by omega)).uniq (g1 f (by omega))))).1
theorem c_listen {d : Nat} {M : am_M} {Q : Option Int → am_M → Prop} (ho : sp_ok σ) (hs : MC σ M) (hf : fa_ok φ ψ q) (hF : MF M φ ψ q) (hQ : ∀ M' r, MR M M' → isLi φ ψ σ q r → Q (some r) M') : AC (d + 9) mX8_listen [.inr 62] M Q := by
  refine sg_X8_listen ?_
  refine c_lays ho (hs.r (MR.up0 M 0)) (fun M1 fr hL => ⟨rfl, ?_⟩)
  have fr1 := (MR.up0 M 0).trans fr
  have hF1 := hF.r fr1
  have h0 := ho.1
  have eF := hL.F
  have hC := tC_r (σ := σ) (re := σ 3) 8
  have eC : M1 62 19 = tC σ (σ 3) 8 := hL.2.2.1
  have hlenA := cn_len (φ := φ) (ψ := ψ) (σ := σ) (re := σ 3) (q := q) (tC σ (σ 3) 8).toNat
  have second : ∀ (t f : Nat) (fd le : Int) (T : Nat → Int), 1 < (whA φ ψ σ q).length → (f : Int) + t = σ 0 → (∀ g : Nat, g < f → isMA (al φ ψ σ (σ 3) q g (tC σ (σ 3) 8).toNat) (T g)) → ((f = 0 ∧ le = 1000) ∨ isMn T f fd le) → AW (d + 9) mX8_listen 53 [(0, .inr 62), (1, .inl ((whA φ ψ σ q).length : Int)), (2, .inl fd), (3, .inl le), (4, .inl (f : Int))] [] M1 Q := by
    intro t
    induction t with
    | zero =>
      intro f fd le T h1 hf2 hT hv
      refine sg_X8_listen_53 ⟨by omega, by omega, fun _ => hQ M1 fd fr1 ?_, fun c => absurd c (by omega)⟩
      refine Or.inr ⟨h1, T, le, fun g hg => hT g (by omega), ?_⟩
      rcases hv with hv | hv
      · omega
      · rw [show (σ 0).toNat = f by omega]; exact hv
    | succ t ih =>
      intro f fd le T h1 hf2 hT hv
      have hler : -2147483648 ≤ le ∧ le < 2147483648 := by
        rcases hv with hv | ⟨v1, v2, -⟩
        · omega
        · have := (hT fd.toNat (by omega)).r
          have hl := al_len (φ := φ) (ψ := ψ) (σ := σ) (re := σ 3) (q := q) (tC σ (σ 3) 8).toNat fd.toNat
          omega
      refine sg_X8_listen_53 ⟨by omega, by omega, fun c => absurd c (by omega), fun _ => ⟨by unfold whA; omega, fun c => absurd c (by omega), fun _ => ?_⟩⟩
      refine c_mostAlike ho hL hf hF1 (by omega) (fun m hm => ⟨_, rfl, ?_⟩)
      have hmr := hm.r
      have hl := al_len (φ := φ) (ψ := ψ) (σ := σ) (re := σ 3) (q := q) (tC σ (σ 3) 8).toNat f
      refine ⟨⟨by omega, hler⟩, fun v g1 g2 => ⟨⟨by omega, hler⟩, fun u g3 g4 => ?_⟩⟩
      rw [show (f : Int) + 1 = ((f + 1 : Nat) : Int) by omega]
      refine ih (f + 1) v u (fun g => if g = f then m else T g) h1 (by omega) (fun g hg => ?_) (Or.inr ?_)
      · by_cases hgf : g = f
        · rw [if_pos hgf, hgf]; exact hm
        · rw [if_neg hgf]; exact hT g (by omega)
      · rcases hv with hv | hv
        · have hz := hv.1
          subst hz
          rw [g2 (by omega), g4 (by omega)]
          have := isMn.one (fun g => if g = 0 then m else T g)
          exact this
        · have hv2 : isMn (fun g => if g = f then m else T g) f fd le := hv.ext (fun n hn => if_neg (by omega))
          by_cases hle : le ≤ m
          · rw [g1 hle, g3 hle]
            exact hv2.keep (by rw [if_pos rfl]; exact hle)
          · rw [g2 (by omega), g4 (by omega)]
            have := hv2.less (by rw [if_pos rfl]; omega)
            rw [if_pos rfl] at this
            exact this
  have first : ∀ (t n : Nat) (mn : Int), (n : Int) + t = tC σ (σ 3) 8 → mn = (cn φ ψ σ (σ 3) q n).length → AW (d + 9) mX8_listen 13 [(0, .inr 62), (1, .inl mn), (2, .inl (n : Int))] [] M1 Q := by
    intro t
    induction t with
    | zero =>
      intro n mn hn hm
      refine sg_X8_listen_13 ⟨by omega, by omega, fun _ => ?_, fun c => absurd c (by omega)⟩
      have em : mn = ((whA φ ψ σ q).length : Int) := by unfold whA; rw [show (tC σ (σ 3) 8).toNat = n by omega]; exact hm
      by_cases h1 : 1 < (whA φ ψ σ q).length
      · rw [em]
        exact second (σ 0).toNat 0 (-9) 1000 (fun _ => 0) h1 (by omega) (fun g hg => absurd hg (by omega)) (Or.inl ⟨rfl, rfl⟩)
      · refine sg_X8_listen_53 ⟨by omega, by omega, fun c => absurd c (by omega), fun _ => ⟨by omega, fun _ => hQ M1 (-9) fr1 ?_, fun c => absurd c (by omega)⟩⟩
        exact Or.inl ⟨by omega, rfl⟩
    | succ t ih =>
      intro n mn hn hm
      have h01 := am_b_01 (so φ ψ σ (σ 3) (n : Int) q = true)
      refine sg_X8_listen_13 ⟨by omega, by omega, fun c => absurd c (by omega), fun _ => c_isSo ho hL hf hF1 (by omega) ⟨_, rfl, by omega, ?_⟩⟩
      rw [show (n : Int) + 1 = ((n + 1 : Nat) : Int) by omega]
      refine ih (n + 1) _ (by omega) ?_
      by_cases hz : am_b (so φ ψ σ (σ 3) (n : Int) q = true) = 0
      · rw [am_b_neg (fun k => k hz), cn_no (so_nb hz), hm]; omega
      · rw [am_b_pos hz, cn_yes (so_b hz), hm]; simp
  exact first (tC σ (σ 3) 8).toNat 0 0 (by omega) rfl
theorem c_best {d : Nat} {M : am_M} {Q : Option Int → am_M → Prop} (ho : sp_ok σ) (hs : MC σ M) {w : Int} (hw : 0 ≤ w ∧ w ≤ 1) (hQ : ∀ M' r c, MR M M' → isMn (bT σ) 21 r c → Q (some (if w = 0 then r else c)) M') : AC (d + 8) mX8_best [.inr 62, .inl w] M Q := by
  have hT : ∀ r, 0 ≤ bT σ r ∧ bT σ r ≤ 48 := fun r => by
    have := tC_r (σ := σ) (re := (r : Int)) 8
    unfold bT
    omega
  have key : ∀ (t r : Nat) (M' : am_M) (fd le : Int), r + t = 21 → MR M M' → ((r = 0 ∧ le = 1000) ∨ isMn (bT σ) r fd le) → AW (d + 8) mX8_best 25 [(0, .inr 62), (1, .inl w), (2, .inl fd), (3, .inl le), (4, .inl (r : Int))] [] M' Q := by
    intro t
    induction t with
    | zero =>
      intro r M' fd le hr fr hv
      refine sg_X8_best_25 ⟨by omega, fun _ => ⟨by omega, fun v g1 g2 => ?_⟩, fun c => absurd c (by omega)⟩
      have hr2 : r = 21 := by omega
      subst hr2
      rcases hv with hv | hv
      · omega
      · have := hQ M' fd le fr hv
        by_cases hz : w = 0
        · rw [if_pos hz] at this; rw [g2 hz]; exact this
        · rw [if_neg hz] at this; rw [g1 hz]; exact this
    | succ t ih =>
      intro r M' fd le hr fr hv
      have h1 := hT r
      have hler : -2147483648 ≤ le ∧ le < 2147483648 := by
        rcases hv with hv | ⟨v1, v2, v3⟩
        · omega
        · have := hT fd.toNat
          omega
      refine sg_X8_best_25 ⟨by omega, fun c => absurd c (by omega), fun _ => ?_⟩
      refine c_laysTracks ho (hs.r fr) (by omega) (fun M2 fr2 fj2 _ ht => ⟨rfl, ?_⟩)
      have e19 : M2 62 19 = bT σ r := ht.1
      rw [e19]
      refine ⟨⟨by omega, hler⟩, fun v g1 g2 => ⟨⟨by omega, hler⟩, fun u g3 g4 => ?_⟩⟩
      rw [show (r : Int) + 1 = ((r + 1 : Nat) : Int) by omega]
      refine ih (r + 1) M2 v u (by omega) (fr.trans ⟨fr2, fun j _ b _ _ => fj2 j b⟩) (Or.inr ?_)
      rcases hv with hv | hv
      · have hz := hv.1
        subst hz
        rw [g2 (by omega), g4 (by omega)]
        exact isMn.one _
      · by_cases hle : le ≤ bT σ r
        · rw [g1 hle, g3 hle]
          exact hv.keep hle
        · rw [g2 (by omega), g4 (by omega)]
          exact hv.less (by omega)
  exact sg_X8_best ⟨⟨by omega, by decide, by decide⟩, fun _ => key 21 0 _ _ _ (by omega) (MR.up0 M 0) (Or.inl ⟨rfl, rfl⟩), fun c => absurd hw c⟩
end MSE
