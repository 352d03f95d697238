/-! the class's cells in the world with the reference's -/
theorem w75_ref : ∀ (a : Nat) (q : Nat × List (Option Nat)), am_sh_q[a]? = some (.inr q) → ∀ (k b : Nat), q.2[k]? = some (some b) → b < 62 := by
  have h : am_sh_q.all (fun s => match s with | .inl _ => true | .inr q => q.2.all (fun o => match o with | none => true | some b => decide (b < 62))) = true := by decide +kernel
  intro a q ha k b hk
  have h1 := List.all_eq_true.mp h _ (List.mem_of_getElem? ha)
  have h2 := List.all_eq_true.mp h1 _ (List.mem_of_getElem? hk)
  simpa using h2
theorem w75_low {D : va_G} {dA : Nat → ClassId} {ad ad0 : Nat → Nat} {M M1 : am_M} {H : Heap} (hP : va_P D am_cl (am_ws_q dA ad0 M) H) (had : ∀ b, b < 62 → ad b = ad0 b) (hM : ∀ a, a < 62 → M1 a = M a) (h4 : ∀ a n, am_sh_q[a]? = some (.inl (4, n)) → ∀ j : Nat, j < n → (M a (j : Int)).toNat < 62) {a : Nat} {s : am_S} (hs : am_sh_q[a]? = some s) : va_at D am_cl (ad a, am_cell dA ad M1 a s) H := by
  have ha : a < 62 := (List.getElem?_eq_some_iff.mp hs).1
  have h := hP a _ (am_ws_get_q hs)
  rw [had a ha]
  cases s with
  | inl q =>
    obtain ⟨t, n⟩ := q
    by_cases ht : t = 4
    · subst ht
      have h' : H[ad0 a]? = some (vp_cell (dA 4) (n, .inr (.inr (.inr (.inr (fun j : Nat => some (ad0 (M a (j : Int)).toNat))))))) := h
      show H[ad0 a]? = some (vp_cell (dA 4) (n, .inr (.inr (.inr (.inr (fun j : Nat => some (ad (M1 a (j : Int)).toNat)))))))
      rw [h', hM a ha, vp_cell_q, vp_cell_q]
      have e : (Array.ofFn (n := n) fun j => va_rf (some (ad0 (M a ((j.val : Nat) : Int)).toNat))) = Array.ofFn (n := n) fun j => va_rf (some (ad (M a ((j.val : Nat) : Int)).toNat)) := by
        congr 1
        funext j
        rw [had _ (h4 a n hs j.val j.isLt)]
      unfold arrV
      rw [e]
    · have e : am_cell dA ad M1 a (.inl (t, n)) = am_cell dA ad0 M a (.inl (t, n)) := by
        simp only [am_cell, hM a ha]
        rw [if_neg ht, if_neg ht]
      rw [e]
      exact h
  | inr q =>
    have e : am_cell dA ad M1 a (.inr q) = am_cell dA ad0 M a (.inr q) := by
      simp only [am_cell]
      congr 2
      apply List.ext_getElem?
      intro k
      simp only [List.getElem?_mapIdx]
      cases hk : q.2[k]? with
      | none => rfl
      | some o =>
        cases o with
        | none => simp [am_fv, hM a ha]
        | some b => simp [am_fv, had b (w75_ref a q hs k b hk)]
    rw [e]
    exact h
