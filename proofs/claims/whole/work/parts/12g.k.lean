/-! what nobody changes, with the set of cells that may be written left open -/
def am_KA (A : Nat → Prop) (ad : Nat → Nat) (U : State) : Prop :=
  (va_Z "FollowedPeaks" "SETTING_LOWEST" "[I" (.ref (ad 100)) A U U.heap ∧ va_T .int (ad 100) 3 (am_tb am_lo) A U U.heap) ∧
  (va_Z "FollowedPeaks" "SETTING_HIGHEST" "[I" (.ref (ad 101)) A U U.heap ∧ va_T .int (ad 101) 3 (am_tb am_hi) A U U.heap) ∧
  (va_Z "FollowedPeaks" "SETTING_AT_FIRST" "[I" (.ref (ad 102)) A U U.heap ∧ va_T .int (ad 102) 3 (am_tb am_fi) A U U.heap) ∧
  (va_Nw (.fieldLinkNest "FollowedPeaks$Scene" 28 "FollowedPeaks" "SETTING_AT_FIRST" "[I" "FollowedPeaks") U ∧ va_Nw (.methodLinkNest "FollowedPeaks$Text" 71 yX7_isSetting "FollowedPeaks") U) ∧
  (vk_S 4 [5, 5, 5, 5] am_byt (fun i => ad (110 + i)) (fun i => ad (120 + i)) A U U.heap ∧ vk_R "FollowedPeaks$Text" 43 "frame" (ad 110) U ∧ vk_R "FollowedPeaks$Text" 79 "floor" (ad 111) U ∧ vk_R "FollowedPeaks$Text" 81 "reach" (ad 112) U ∧ vk_R "FollowedPeaks$Text" 83 "least" (ad 113) U) ∧
  (va_Z "java/lang/String" "COMPACT_STRINGS" "Z" (.int 1) A U U.heap ∧ va_Zq "jdk/internal/util/Preconditions" "SIOOBE_FORMATTER" "Ljava/util/function/BiFunction;" A U U.heap)
theorem am_KA_K {ad : Nat → Nat} {U : State} : am_KA (am_A ad) ad U ↔ am_K ad U := Iff.rfl
theorem am_KA_q {ad : Nat → Nat} {U : State} : am_KA (am_A_q ad) ad U ↔ am_K_q ad U := Iff.rfl
section KA
variable {A A' : Nat → Prop} {ad ad' : Nat → Nat} {s U : State} {H : Heap}
theorem va_Z.ls {C n d : String} {v : Value} (hA : ∀ q, A' q → A q) (h : va_Z C n d v A U H) : va_Z C n d v A' U H := by
  obtain ⟨cf, kf, fi, f, a, cell, h1, h2, h3, h4, h5, h6, h7, h8⟩ := h
  exact ⟨cf, kf, fi, f, a, cell, h1, h2, h3, h4, h5, h6, h7, fun z => h8 (hA a z)⟩
theorem va_T.ls {ty : FieldType} {t N : Nat} {f : Nat → Value} (hA : ∀ q, A' q → A q) (h : va_T ty t N f A U H) : va_T ty t N f A' U H := by
  obtain ⟨cell, h1, h2, h3, h4, h5, h6, h7⟩ := h
  exact ⟨cell, h1, h2, h3, h4, h5, h6, fun z => h7 (hA t z)⟩
theorem vk_S.ls {N : Nat} {len : List Nat} {byt : List (List Int32)} {adK adV : Nat → Nat} (hA : ∀ q, A' q → A q) (h : vk_S N len byt adK adV A U H) : vk_S N len byt adK adV A' U H := by
  refine ⟨fun i hi => ?_, h.2⟩
  obtain ⟨⟨c1, a1, a2, a3, a4⟩, ⟨b1, b2, b3, b4, b5, b6, b7, b8, b9, b10, b11⟩, ⟨d1, d2, d3, d4, d5, d6, d7, d8, d9, d10, d11⟩, h4⟩ := h.1 i hi
  exact ⟨⟨c1, a1, a2, a3, fun z => a4 (hA _ z)⟩, ⟨b1, b2, b3, b4, b5, b6, b7, b8, b9, b10, fun z => b11 (hA _ z)⟩, ⟨d1, d2, d3, d4, d5, d6, d7, d8, d9, d10, fun z => d11 (hA _ z)⟩, h4.ls hA⟩
theorem am_KA.ls (hA : ∀ q, A' q → A q) (h : am_KA A ad U) : am_KA A' ad U := by
  obtain ⟨⟨a1, a2⟩, ⟨b1, b2⟩, ⟨c1, c2⟩, d, ⟨e1, e2⟩, f1, f2⟩ := h
  refine ⟨⟨a1.ls hA, a2.ls hA⟩, ⟨b1.ls hA, b2.ls hA⟩, ⟨c1.ls hA, c2.ls hA⟩, d, ⟨e1.ls hA, e2⟩, f1.ls hA, ?_⟩
  rcases f2 with f2 | ⟨t, f2⟩
  · exact Or.inl (f2.ls hA)
  · exact Or.inr ⟨t, f2.ls hA⟩
theorem am_KA.go (h : am_KA A ad s) (hq : ∀ a : Nat, a < s.heap.size → ¬ A a → U.heap[a]? = s.heap[a]?) (hW : s.WarmedH U.vm) : am_KA A ad U := by
  obtain ⟨⟨a1, a2⟩, ⟨b1, b2⟩, ⟨c1, c2⟩, ⟨d1, d2⟩, ⟨e1, e2, e3, e4, e5⟩, f1, f2⟩ := h
  have hv := hW.alike
  exact ⟨⟨(a1.kept hq).moved hv, (a2.kept hq).moved hv⟩, ⟨(b1.kept hq).moved hv, (b2.kept hq).moved hv⟩, ⟨(c1.kept hq).moved hv, (c2.kept hq).moved hv⟩, ⟨va_Nw.warmF hW d1, va_Nw.warmM hW d2⟩, ⟨(e1.kept hq).moved hv, e2.warm hW, e3.warm hW, e4.warm hW, e5.warm hW⟩, (f1.kept hq).moved hv, (f2.kept hq).moved hv⟩
theorem am_KA.frame (h : am_KA A ad s) (hh : U.heap = s.heap) (hv : U.vm = s.vm) : am_KA A ad U := by
  obtain ⟨⟨a1, a2⟩, ⟨b1, b2⟩, ⟨c1, c2⟩, ⟨d1, d2⟩, ⟨e1, e2, e3, e4, e5⟩, f1, f2⟩ := h
  have hal : s.vm.Alike U.vm := by rw [hv]; exact Vm.Alike.refl _
  refine ⟨?_, ?_, ?_, ⟨va_tabs rfl hv.symm d1, va_tabs rfl hv.symm d2⟩, ⟨?_, e2.same hv, e3.same hv, e4.same hv, e5.same hv⟩, ?_, ?_⟩
  all_goals rw [hh]
  · exact ⟨a1.moved hal, a2.moved hal⟩
  · exact ⟨b1.moved hal, b2.moved hal⟩
  · exact ⟨c1.moved hal, c2.moved hal⟩
  · exact e1.moved hal
  · exact f1.moved hal
  · exact f2.moved hal
theorem am_KA.re (e : ∀ a, 100 ≤ a → ad' a = ad a) (h : am_KA A ad U) : am_KA A ad' U := by
  have e1 : (fun i : Nat => ad' (110 + i)) = fun i => ad (110 + i) := funext (fun i => e _ (by omega))
  have e2 : (fun i : Nat => ad' (120 + i)) = fun i => ad (120 + i) := funext (fun i => e _ (by omega))
  unfold am_KA at h ⊢
  rw [e 100 (by omega), e 101 (by omega), e 102 (by omega), e1, e2, e 110 (by omega), e 111 (by omega), e 112 (by omega), e 113 (by omega)]
  exact h
end KA
/-- a's address: of a cell by the list, of what is static by st -/
def nb_ad (lst : List Nat) (st : Nat → Nat) (a : Nat) : Nat := if 100 ≤ a then st a else lst.getD a 0
/-- the memory behind the constructor's arrays -/
def nb_M0 (a : Nat) (i : Int) : Int := if a = 0 then (if i = 10 then -9 else 0) else if a = 10 then 11 + 3 * i else if a = 29 then 56 + 3 * i else 0
/-- the statics, when the law began with sz0 cells -/
def nb_KK (sz0 : Nat) (st : Nat → Nat) (s : State) : Prop := sz0 ≤ s.heap.size ∧ am_KA (fun q => sz0 ≤ q) st s
theorem va_D_fst {A : Nat → Prop} {ws ws' : va_W} (h : va_D A ws) (e : ws'.map Prod.fst = ws.map Prod.fst) : va_D A ws' := by
  have key : ∀ (k : Nat) (q : Nat × va_E), ws'[k]? = some q → ∃ q', ws[k]? = some q' ∧ q'.1 = q.1 := by
    intro k q hk
    have h1 : (ws'.map Prod.fst)[k]? = some q.1 := by rw [List.getElem?_map, hk]; rfl
    rw [e, List.getElem?_map] at h1
    cases hw : ws[k]? with
    | none => rw [hw] at h1; cases h1
    | some q' => rw [hw] at h1; exact ⟨q', rfl, Option.some.inj h1⟩
  refine ⟨fun i j p q hi hj hpq => ?_, fun k q hk => ?_⟩
  · obtain ⟨p', hp', ep⟩ := key i p hi
    obtain ⟨q', hq', eq⟩ := key j q hj
    exact h.1 i j p' q' hp' hq' (by rw [ep, eq, hpq])
  · obtain ⟨q', hq', eq⟩ := key k q hk
    rw [← eq]
    exact h.2 k q' hq'
theorem va_P_set {D : va_G} {ws : va_W} {H : Heap} {i : Nat} {q : Nat × va_E} (hP : va_P D am_cl ws H) (hq : va_at D am_cl q H) : va_P D am_cl (ws.set i q) H := by
  intro k x hk
  by_cases hki : i = k
  · subst hki
    by_cases hl : i < ws.length
    · rw [List.getElem?_set_self hl] at hk
      cases hk
      exact hq
    · rw [List.set_eq_of_length_le (by omega)] at hk
      exact hP i x hk
  · rw [List.getElem?_set_ne hki] at hk
    exact hP k x hk
