/-! what holds at the law's entry (by gen_start.py) -/
section ST
variable {args : Array Value} {s : State}
theorem lw_tm (i : Nat) {w : Cond} (h : tables_1[i]? = some w) : w ∈ lw_tbl := List.mem_append_right _ (List.mem_of_getElem? h)
theorem st_cls (hts : ∀ w ∈ lw_tbl, w.before args s = true) : ∃ D : va_G, ∀ (c : Nat) (q : vw_C), am_cl[c]? = some q → u_Kn s q.1 q.2.1 q.2.2 (D.1 c) (D.2 c) := by
  have h0 : ∀ c : Nat, ∃ r : ClassId × (Nat → Nat), ∀ q : vw_C, am_cl[c]? = some q → u_Kn s q.1 q.2.1 q.2.2 r.1 r.2 := by
    intro c
    by_cases hc : c < 9
    · have key : ∀ (q : vw_C), am_cl[c]? = some q → (∃ n, (Cond.instantiable q.1 n).before args s = true) → ∃ r : ClassId × (Nat → Nat), ∀ q : vw_C, am_cl[c]? = some q → u_Kn s q.1 q.2.1 q.2.2 r.1 r.2 := by
        intro q hq ⟨n, hn⟩
        obtain ⟨cC, iS, hk⟩ := u_known (C := q.1) (T := q.2.1) (N := q.2.2) (n := n) hts (fun w hw => lw_am ((am_cls c q hq).1 w hw)) hn
        exact ⟨(cC, iS), fun q' hq' => by rw [hq] at hq'; cases hq'; exact hk⟩
      match c, hc, key with
      | 0, _, key => exact key _ rfl ⟨2, (hts _ (lw_tm 79 (by decide +kernel)))⟩
      | 1, _, key => exact key _ rfl ⟨7, (hts _ (lw_tm 125 (by decide +kernel)))⟩
      | 2, _, key => exact key _ rfl ⟨4, (hts _ (lw_tm 96 (by decide +kernel)))⟩
      | 3, _, key => exact key _ rfl ⟨4, (hts _ (lw_tm 27 (by decide +kernel)))⟩
      | 4, _, key => exact key _ rfl ⟨6, (hts _ (lw_tm 200 (by decide +kernel)))⟩
      | 5, _, key => exact key _ rfl ⟨5, (hts _ (lw_tm 55 (by decide +kernel)))⟩
      | 6, _, key => exact key _ rfl ⟨10, (hts _ (lw_tm 154 (by decide +kernel)))⟩
      | 7, _, key => exact key _ rfl ⟨12, (hts _ (lw_tm 19 (by decide +kernel)))⟩
      | 8, _, key => exact key _ rfl ⟨23, (hts _ (lw_tm 625 (by decide +kernel)))⟩
      | c + 9, hc, _ => exact absurd hc (by omega)
    · refine ⟨(0, fun _ => 0), fun q hq => absurd ((List.getElem?_eq_some_iff.mp hq).1) (by simpa using hc)⟩
  obtain ⟨f, hf⟩ := Classical.axiomOfChoice h0
  exact ⟨(fun c => (f c).1, fun c => (f c).2), hf⟩
theorem st_arr {ty : FieldType} (h4 : ty = .int ∨ ty = .char ∨ ty = .boolean ∨ ty = .byte) (h : (Cond.arrayClass ty).before args s = true) : ∃ cA : ClassId, ArrOfT s cA ty ∧ va_RA s cA ty := by
  obtain ⟨c, k, comp, h1, h2, h3⟩ := Cond.arrayClass_spec (args := args) (first := s) (o := none) (s := s) (idx := []) h
  refine ⟨c, fun n z => ⟨(fun k h => by cases h), k, h2, comp, h3⟩, ?_⟩
  rcases h4 with rfl | rfl | rfl | rfl <;> exact h1
theorem st_arq {C : String} (h : (Cond.arrayOver (.object C)).before args s = true) : ∃ cA : ClassId, ArrOfT s cA (.object C) ∧ va_RA s cA (.object C) := by
  obtain ⟨comp, c, k, h1, h2, h3, h4, h5⟩ := Cond.arrayOver_spec (args := args) (first := s) (o := none) (s := s) (idx := []) h
  exact ⟨c, fun n z => ⟨(fun k h => by cases h), k, h3, comp, h4⟩, k, comp, h3, h4, h1, h5⟩
theorem st_K (hts : ∀ w ∈ lw_tbl, w.before args s = true) : ∃ (D : va_G) (dA : Nat → ClassId), va_K D am_cl (am_tys dA) s := by
  obtain ⟨D, hD⟩ := st_cls hts
  obtain ⟨c0, h0⟩ := st_arr (Or.inl rfl) (hts _ (lw_tm 53 (by decide +kernel)))
  obtain ⟨c1, h1⟩ := st_arr (Or.inr (Or.inl rfl)) (hts _ (lw_tm 77 (by decide +kernel)))
  obtain ⟨c2, h2⟩ := st_arr (Or.inr (Or.inr (Or.inl rfl))) (hts _ (lw_tm 123 (by decide +kernel)))
  obtain ⟨c3, h3⟩ := st_arr (Or.inr (Or.inr (Or.inr rfl))) (hts _ (lw_tm 496 (by decide +kernel)))
  obtain ⟨c4, h4⟩ := st_arq (C := RX3) (hts _ (lw_tm 85 (by decide +kernel)))
  refine ⟨D, fun k => [c0, c1, c2, c3, c4].getD k 0, hD, fun k q hk => ?_⟩
  match k, hk with
  | 0, hk => cases hk; exact h0
  | 1, hk => cases hk; exact h1
  | 2, hk => cases hk; exact h2
  | 3, hk => cases hk; exact h3
  | 4, hk => cases hk; exact h4
  | k + 5, hk => simp [am_tys] at hk
theorem st_el {t : Term} {z : Int32} {v : Value} (h : (Cond.eq t (.int z)).before args s = true) (hv : Value.int z = v) : t.eval args s none [] s = some v := hv ▸ va_eqt h
def st_A (s : State) : Nat → Prop := fun q => s.heap.size ≤ q
theorem st_nA : ∀ a : Nat, a < s.heap.size → ¬ st_A s a := fun _ h => Nat.not_le.mpr h
theorem st_tab {n : String} {xs : List Int} {x0 x1 x2 : Int32} (hl : (Cond.laysStatic "FollowedPeaks" n "[I").before args s = true) (hi : (Cond.initialized "FollowedPeaks").before args s = true) (harr : (Cond.arrayOf (.static "FollowedPeaks" n "[I") .int).before args s = true) (hlen : (Cond.eq (.length (.static "FollowedPeaks" n "[I")) (.int 3)).before args s = true)
    (h0 : (Cond.eq (.elem (.static "FollowedPeaks" n "[I") (.int 0)) (.int x0)).before args s = true) (h1 : (Cond.eq (.elem (.static "FollowedPeaks" n "[I") (.int 1)) (.int x1)).before args s = true) (h2 : (Cond.eq (.elem (.static "FollowedPeaks" n "[I") (.int 2)) (.int x2)).before args s = true) (e0 : Value.int x0 = am_tb xs 0) (e1 : Value.int x1 = am_tb xs 1) (e2 : Value.int x2 = am_tb xs 2) : ∃ t : Nat, va_Z "FollowedPeaks" n "[I" (.ref t) (st_A s) s s.heap ∧ va_T .int t 3 (am_tb xs) (st_A s) s s.heap := by
  obtain ⟨t, ht, hT⟩ := va_Tof (N := 3) (f := am_tb xs) (A := st_A s) (by decide) harr (va_eqt hlen) (fun j hj => by
    match j, hj with
    | 0, _ => exact st_el h0 e0
    | 1, _ => exact st_el h1 e1
    | 2, _ => exact st_el h2 e2
    | j + 3, hj => exact absurd hj (by omega)) st_nA
  exact ⟨t, va_Zref hl hi ht st_nA, hT⟩
theorem vk_S.re {N : Nat} {len : List Nat} {byt : List (List Int32)} {adK adV adK' adV' : Nat → Nat} {A : Nat → Prop} {U : State} {H : Heap} (h : vk_S N len byt adK adV A U H) (e1 : ∀ i, i < N → adK' i = adK i) (e2 : ∀ i, i < N → adV' i = adV i) : vk_S N len byt adK' adV' A U H :=
  ⟨fun i hi => by rw [e1 i hi, e2 i hi]; exact h.1 i hi, fun i j hi hj e => h.2 i j hi hj (by rw [← e1 i hi, ← e1 j hj]; exact e)⟩
def st_tm (i : Nat) : Term := .string "FollowedPeaks$Text" ([43, 79, 81, 83].getD i 0)
def st_hs (args : Array Value) (s : State) : Prop := (Jvm.Cond.and given_1 narrow_1).before args s = true
theorem st_str (hg : (Jvm.Cond.and given_1 narrow_1).before args s = true) : ∃ adK adV : Nat → Nat, vk_S 4 [5, 5, 5, 5] am_byt adK adV (st_A s) s s.heap ∧ ∀ i : Nat, i < 4 → (st_tm i).eval args s none [] s = some (.ref (adK i)) := by
  have hs := flat_of_before _ hg
  have hex : ∀ i : Nat, i < 4 → (Cond.exactly (st_tm i) "java/lang/String").before args s = true := by
    intro i hi
    match i, hi with
    | 0, _ => exact hs _ (by decide +kernel)
    | 1, _ => exact hs _ (by decide +kernel)
    | 2, _ => exact hs _ (by decide +kernel)
    | 3, _ => exact hs _ (by decide +kernel)
    | i + 4, hi => exact absurd hi (by omega)
  have hco : ∀ i : Nat, i < 4 → (Cond.eq (.field (st_tm i) "java/lang/String" "coder" "B") (.int 0)).before args s = true := by
    intro i hi
    match i, hi with
    | 0, _ => exact hs _ (by decide +kernel)
    | 1, _ => exact hs _ (by decide +kernel)
    | 2, _ => exact hs _ (by decide +kernel)
    | 3, _ => exact hs _ (by decide +kernel)
    | i + 4, hi => exact absurd hi (by omega)
  have har : ∀ i : Nat, i < 4 → (Cond.arrayOf (.field (st_tm i) "java/lang/String" "value" "[B") .byte).before args s = true := by
    intro i hi
    match i, hi with
    | 0, _ => exact hs _ (by decide +kernel)
    | 1, _ => exact hs _ (by decide +kernel)
    | 2, _ => exact hs _ (by decide +kernel)
    | 3, _ => exact hs _ (by decide +kernel)
    | i + 4, hi => exact absurd hi (by omega)
  have hle : ∀ i : Nat, i < 4 → (Cond.eq (.length (.field (st_tm i) "java/lang/String" "value" "[B")) (.int (Int32.ofNat (([5, 5, 5, 5] : List Nat).getD i 0)))).before args s = true := by
    intro i hi
    match i, hi with
    | 0, _ => exact hs _ (by decide +kernel)
    | 1, _ => exact hs _ (by decide +kernel)
    | 2, _ => exact hs _ (by decide +kernel)
    | 3, _ => exact hs _ (by decide +kernel)
    | i + 4, hi => exact absurd hi (by omega)
  have hel : ∀ i : Nat, i < 4 → ∀ j : Nat, j < ([5, 5, 5, 5] : List Nat).getD i 0 → (Cond.eq (.elem (.field (st_tm i) "java/lang/String" "value" "[B") (.int (Int32.ofNat j))) (.int ((am_byt.getD i []).getD j 0))).before args s = true := by
    intro i hi j hj
    match i, hi, j, hj with
    | 0, _, 0, _ => exact hs _ (by decide +kernel)
    | 0, _, 1, _ => exact hs _ (by decide +kernel)
    | 0, _, 2, _ => exact hs _ (by decide +kernel)
    | 0, _, 3, _ => exact hs _ (by decide +kernel)
    | 0, _, 4, _ => exact hs _ (by decide +kernel)
    | 1, _, 0, _ => exact hs _ (by decide +kernel)
    | 1, _, 1, _ => exact hs _ (by decide +kernel)
    | 1, _, 2, _ => exact hs _ (by decide +kernel)
    | 1, _, 3, _ => exact hs _ (by decide +kernel)
    | 1, _, 4, _ => exact hs _ (by decide +kernel)
    | 2, _, 0, _ => exact hs _ (by decide +kernel)
    | 2, _, 1, _ => exact hs _ (by decide +kernel)
    | 2, _, 2, _ => exact hs _ (by decide +kernel)
    | 2, _, 3, _ => exact hs _ (by decide +kernel)
    | 2, _, 4, _ => exact hs _ (by decide +kernel)
    | 3, _, 0, _ => exact hs _ (by decide +kernel)
    | 3, _, 1, _ => exact hs _ (by decide +kernel)
    | 3, _, 2, _ => exact hs _ (by decide +kernel)
    | 3, _, 3, _ => exact hs _ (by decide +kernel)
    | 3, _, 4, _ => exact hs _ (by decide +kernel)
    | 0, _, j + 5, hj => exact absurd (show j + 5 < 5 from hj) (by omega)
    | 1, _, j + 5, hj => exact absurd (show j + 5 < 5 from hj) (by omega)
    | 2, _, j + 5, hj => exact absurd (show j + 5 < 5 from hj) (by omega)
    | 3, _, j + 5, hj => exact absurd (show j + 5 < 5 from hj) (by omega)
    | i + 4, hi, _, _ => exact absurd hi (by omega)
  have hne : ∀ i j : Nat, i < 4 → j < 4 → i ≠ j → (Cond.not (Cond.eq (st_tm i) (st_tm j))).before args s = true ∨ (Cond.not (Cond.eq (st_tm j) (st_tm i))).before args s = true := by
    intro i j hi hj hij
    match i, hi, j, hj, hij with
    | 0, _, 0, _, h => exact absurd rfl h
    | 0, _, 1, _, _ => first | exact Or.inl (hs _ (by decide +kernel)) | exact Or.inr (hs _ (by decide +kernel))
    | 0, _, 2, _, _ => first | exact Or.inl (hs _ (by decide +kernel)) | exact Or.inr (hs _ (by decide +kernel))
    | 0, _, 3, _, _ => first | exact Or.inl (hs _ (by decide +kernel)) | exact Or.inr (hs _ (by decide +kernel))
    | 1, _, 0, _, _ => first | exact Or.inl (hs _ (by decide +kernel)) | exact Or.inr (hs _ (by decide +kernel))
    | 1, _, 1, _, h => exact absurd rfl h
    | 1, _, 2, _, _ => first | exact Or.inl (hs _ (by decide +kernel)) | exact Or.inr (hs _ (by decide +kernel))
    | 1, _, 3, _, _ => first | exact Or.inl (hs _ (by decide +kernel)) | exact Or.inr (hs _ (by decide +kernel))
    | 2, _, 0, _, _ => first | exact Or.inl (hs _ (by decide +kernel)) | exact Or.inr (hs _ (by decide +kernel))
    | 2, _, 1, _, _ => first | exact Or.inl (hs _ (by decide +kernel)) | exact Or.inr (hs _ (by decide +kernel))
    | 2, _, 2, _, h => exact absurd rfl h
    | 2, _, 3, _, _ => first | exact Or.inl (hs _ (by decide +kernel)) | exact Or.inr (hs _ (by decide +kernel))
    | 3, _, 0, _, _ => first | exact Or.inl (hs _ (by decide +kernel)) | exact Or.inr (hs _ (by decide +kernel))
    | 3, _, 1, _, _ => first | exact Or.inl (hs _ (by decide +kernel)) | exact Or.inr (hs _ (by decide +kernel))
    | 3, _, 2, _, _ => first | exact Or.inl (hs _ (by decide +kernel)) | exact Or.inr (hs _ (by decide +kernel))
    | 3, _, 3, _, h => exact absurd rfl h
    | i + 4, hi, _, _, _ => exact absurd hi (by omega)
    | _, _, j + 4, hj, _ => exact absurd hj (by omega)
  exact vk_Sof (N := 4) (tm := st_tm) (len := [5, 5, 5, 5]) (byt := am_byt) (A := st_A s) (fun i hi => by match i, hi with | 0, _ => decide | 1, _ => decide | 2, _ => decide | 3, _ => decide | i + 4, hi => exact absurd hi (by omega)) hex hco har hle hel hne st_nA
def st_ad (t0 t1 t2 : Nat) (adK adV : Nat → Nat) (a : Nat) : Nat := if a = 100 then t0 else if a = 101 then t1 else if a = 102 then t2 else if a < 120 then adK (a - 110) else adV (a - 120)
theorem st_KA (hts : ∀ w ∈ lw_tbl, w.before args s = true) (hg : (Jvm.Cond.and given_1 narrow_1).before args s = true) : ∃ st : Nat → Nat, am_KA (st_A s) st s := by
  have hs := flat_of_before _ hg
  obtain ⟨t0, a0⟩ := st_tab (n := "SETTING_LOWEST") (xs := am_lo) (x0 := 1) (x1 := 0) (x2 := 1) (hts _ (lw_tm 480 (by decide +kernel))) (hts _ (lw_tm 1 (by decide +kernel))) (hs _ (by decide +kernel)) (hs _ (by decide +kernel)) (hs _ (by decide +kernel)) (hs _ (by decide +kernel)) (hs _ (by decide +kernel)) rfl rfl rfl
  obtain ⟨t1, a1⟩ := st_tab (n := "SETTING_HIGHEST") (xs := am_hi) (x0 := 9) (x1 := 20) (x2 := 8) (hts _ (lw_tm 482 (by decide +kernel))) (hts _ (lw_tm 1 (by decide +kernel))) (hs _ (by decide +kernel)) (hs _ (by decide +kernel)) (hs _ (by decide +kernel)) (hs _ (by decide +kernel)) (hs _ (by decide +kernel)) rfl rfl rfl
  obtain ⟨t2, a2⟩ := st_tab (n := "SETTING_AT_FIRST") (xs := am_fi) (x0 := 1) (x1 := 4) (x2 := 1) (hts _ (lw_tm 236 (by decide +kernel))) (hts _ (lw_tm 1 (by decide +kernel))) (hs _ (by decide +kernel)) (hs _ (by decide +kernel)) (hs _ (by decide +kernel)) (hs _ (by decide +kernel)) (hs _ (by decide +kernel)) rfl rfl rfl
  obtain ⟨adK, adV, hS, hE⟩ := st_str hg
  refine ⟨st_ad t0 t1 t2 adK adV, a0, a1, a2, ⟨va_Nw.of rfl (hts _ (lw_tm 235 (by decide +kernel))), va_Nw.of rfl (hts _ (lw_tm 476 (by decide +kernel)))⟩, ⟨hS.re (fun i hi => ?_) (fun i hi => ?_), vk_R.of (hts _ (lw_tm 400 (by decide +kernel))) (hE 0 (by decide)), vk_R.of (hts _ (lw_tm 469 (by decide +kernel))) (hE 1 (by decide)), vk_R.of (hts _ (lw_tm 470 (by decide +kernel))) (hE 2 (by decide)), vk_R.of (hts _ (lw_tm 471 (by decide +kernel))) (hE 3 (by decide))⟩, va_Zof (hts _ (lw_tm 414 (by decide +kernel))) (hts _ (lw_tm 14 (by decide +kernel))) (va_eqi (hs _ (by decide +kernel))) st_nA, va_Zqof (hts _ (lw_tm 430 (by decide +kernel))) (hts _ (lw_tm 16 (by decide +kernel))) (hs _ (by decide +kernel)) st_nA⟩
  · unfold st_ad
    rw [if_neg (by omega), if_neg (by omega), if_neg (by omega), if_pos (by omega), show 110 + i - 110 = i by omega]
  · unfold st_ad
    rw [if_neg (by omega), if_neg (by omega), if_neg (by omega), if_neg (by omega), show 120 + i - 120 = i by omega]
theorem st_E7 {K : State → Prop} (hts : ∀ w ∈ lw_tbl, w.before args s = true) (hK : K s) : nb_E7 K s := ⟨⟨va_Nw.of rfl (hts _ (lw_tm 86 (by decide +kernel))), va_AO.of (hts _ (lw_tm 85 (by decide +kernel)))⟩, va_Nw.of rfl (hts _ (lw_tm 28 (by decide +kernel))), va_Nw.of rfl (hts _ (lw_tm 56 (by decide +kernel))), va_Nw.of rfl (hts _ (lw_tm 97 (by decide +kernel))), va_Nw.of rfl (hts _ (lw_tm 126 (by decide +kernel))), va_Nw.of rfl (hts _ (lw_tm 155 (by decide +kernel))), va_Nw.of rfl (hts _ (lw_tm 201 (by decide +kernel))), hK⟩
theorem E7_calling {K : State → Prop} (hK : ∀ a U g mk, K U → K (State.calling U g mk a)) (a : Array Value) (U : State) (g : JFrame) (mk : MethodId) (h : nb_E7 K U) : nb_E7 K (State.calling U g mk a) := by
  obtain ⟨⟨h1, h2⟩, h3, h4, h5, h6, h7, h8, h9⟩ := h
  exact ⟨⟨nw_calling rfl h1, h2⟩, nw_calling rfl h3, nw_calling rfl h4, nw_calling rfl h5, nw_calling rfl h6, nw_calling rfl h7, nw_calling rfl h8, hK a U g mk h9⟩
theorem E7_warm {K : State → Prop} {U : State} (hK : K U) (hW : s.WarmedH U.vm) (h : nb_E7 (fun _ => True) s) : nb_E7 K U := by
  obtain ⟨⟨h1, h2⟩, h3, h4, h5, h6, h7, h8, -⟩ := h
  exact ⟨⟨va_Nw.warmM hW h1, va_AO.moved hW.alike h2⟩, va_Nw.warmM hW h3, va_Nw.warmM hW h4, va_Nw.warmM hW h5, va_Nw.warmM hW h6, va_Nw.warmM hW h7, va_Nw.warmM hW h8, hK⟩
theorem KK_calling {sz0 : Nat} {st : Nat → Nat} (a : Array Value) (U : State) (g : JFrame) (mk : MethodId) (h : nb_KK sz0 st U) : nb_KK sz0 st (State.calling U g mk a) := ⟨h.1, h.2.frame rfl rfl⟩
end ST
