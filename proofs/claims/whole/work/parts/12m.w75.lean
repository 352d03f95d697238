/-! the world with the reference's cells (by gen_w75.py) -/
def nb_hs : List am_S := [.inr (8, [none, some 63, some 64, some 65, none, some 66, some 67, some 68, none, some 69, none, none, none, none, none, some 70, some 71, some 72, some 73, none, some 74, none, none]), .inl (0, 101), .inl (0, 101), .inl (0, 606), .inl (0, 202), .inl (2, 2), .inl (0, 12), .inl (3, 140), .inl (0, 8), .inl (0, 48), .inl (0, 48), .inl (0, 48), .inl (0, 49)]
theorem w75_sh : am_sh = am_sh_q ++ nb_hs := by decide +kernel
def nb_M1 (M : am_M) (a : Nat) (i : Int) : Int := if a < 62 then M a i else 0
def nb_ad2 (ad0 : Nat → Nat) (hs : List Nat) (a : Nat) : Nat := if a < 62 then ad0 a else if 100 ≤ a then ad0 a else hs.getD (a - 62) 0
def nb_w75 (dA : Nat → ClassId) (w : va_W) (z : List Value) (h0 a1 a2 a3 a4 a5 a6 a7 a8 a9 a10 a11 a12 : Nat) : va_W := wq (w ++ [(h0, .inr (8, z))]) 62 h0 8 [.int 0, .ref a1, .ref a2, .ref a3, .int 0, .ref a4, .ref a5, .ref a6, .int 0, .ref a7, .int 0, .int 0, .int 0, .int 0, .int 0, .ref a8, .ref a9, .ref a10, .ref a11, .int 0, .ref a12, .int 0, .int 0] [(a1, .inl (dA 0, 101, .inl (fun _ => 0))), (a2, .inl (dA 0, 101, .inl (fun _ => 0))), (a3, .inl (dA 0, 606, .inl (fun _ => 0))), (a4, .inl (dA 0, 202, .inl (fun _ => 0))), (a5, .inl (dA 2, 2, .inl (fun _ => 0))), (a6, .inl (dA 0, 12, .inl (fun _ => 0))), (a7, .inl (dA 3, 140, .inl (fun _ => 0))), (a8, .inl (dA 0, 8, .inl (fun _ => 0))), (a9, .inl (dA 0, 48, .inl (fun _ => 0))), (a10, .inl (dA 0, 48, .inl (fun _ => 0))), (a11, .inl (dA 0, 48, .inl (fun _ => 0))), (a12, .inl (dA 0, 49, .inl (fun _ => 0)))]
section W75
variable {D : va_G} {dA : Nat → ClassId} {ad : Nat → Nat} {M : am_M} {H : Heap} {w : va_W} {z : List Value} {h0 a1 a2 a3 a4 a5 a6 a7 a8 a9 a10 a11 a12 : Nat}
theorem w75_lo (hl : w.length = 62) {k : Nat} (hk : k < 62) : (nb_w75 dA w z h0 a1 a2 a3 a4 a5 a6 a7 a8 a9 a10 a11 a12)[k]? = w[k]? := by
  unfold nb_w75 wq
  rw [List.getElem?_append_left (by simp [hl]; omega), List.getElem?_set_ne (by omega), List.getElem?_append_left (by omega)]
theorem w75_h (hl : w.length = 62) : (nb_w75 dA w z h0 a1 a2 a3 a4 a5 a6 a7 a8 a9 a10 a11 a12)[62]? = some (h0, .inr (8, [.int 0, .ref a1, .ref a2, .ref a3, .int 0, .ref a4, .ref a5, .ref a6, .int 0, .ref a7, .int 0, .int 0, .int 0, .int 0, .int 0, .ref a8, .ref a9, .ref a10, .ref a11, .int 0, .ref a12, .int 0, .int 0])) := wq_get (by simp [hl])
theorem w75_x (hl : w.length = 62) (j : Nat) : (nb_w75 dA w z h0 a1 a2 a3 a4 a5 a6 a7 a8 a9 a10 a11 a12)[63 + j]? = ([(a1, .inl (dA 0, 101, .inl (fun _ => 0))), (a2, .inl (dA 0, 101, .inl (fun _ => 0))), (a3, .inl (dA 0, 606, .inl (fun _ => 0))), (a4, .inl (dA 0, 202, .inl (fun _ => 0))), (a5, .inl (dA 2, 2, .inl (fun _ => 0))), (a6, .inl (dA 0, 12, .inl (fun _ => 0))), (a7, .inl (dA 3, 140, .inl (fun _ => 0))), (a8, .inl (dA 0, 8, .inl (fun _ => 0))), (a9, .inl (dA 0, 48, .inl (fun _ => 0))), (a10, .inl (dA 0, 48, .inl (fun _ => 0))), (a11, .inl (dA 0, 48, .inl (fun _ => 0))), (a12, .inl (dA 0, 49, .inl (fun _ => 0)))] : va_W)[j]? := by
  unfold nb_w75 wq
  rw [List.getElem?_append_right (by simp [hl])]
  congr 1
  simp [hl]
theorem w75_hi {a t n : Nat} {q : Nat × va_E} (ha : 62 ≤ a) (ht : t ≠ 4) (hs : am_sh[a]? = some (.inl (t, n))) (hk : (am_ws dA ad (nb_M1 M))[a]? = some q) (h : va_at D am_cl (ad a, .inl (dA t, n, .inl (fun _ => 0))) H) : va_at D am_cl q H := by
  rw [am_ws_get hs] at hk
  cases hk
  have hz : ∀ j, nb_M1 M a j = 0 := fun j => if_neg (by omega)
  have e : am_cell dA ad (nb_M1 M) a (.inl (t, n)) = .inl (dA t, n, .inl (fun _ => 0)) := by
    simp only [am_cell, hz]
    rw [if_neg ht]
    rfl
  rw [e]
  exact h
theorem w75_62 {q : Nat × va_E} (hk : (am_ws dA ad (nb_M1 M))[62]? = some q) (h : va_at D am_cl (ad 62, .inr (8, [.int 0, .ref (ad 63), .ref (ad 64), .ref (ad 65), .int 0, .ref (ad 66), .ref (ad 67), .ref (ad 68), .int 0, .ref (ad 69), .int 0, .int 0, .int 0, .int 0, .int 0, .ref (ad 70), .ref (ad 71), .ref (ad 72), .ref (ad 73), .int 0, .ref (ad 74), .int 0, .int 0])) H) : va_at D am_cl q H := by
  rw [am_ws_get (s := .inr (8, [none, some 63, some 64, some 65, none, some 66, some 67, some 68, none, some 69, none, none, none, none, none, some 70, some 71, some 72, some 73, none, some 74, none, none])) rfl] at hk
  cases hk
  have hz : ∀ j, nb_M1 M 62 j = 0 := fun j => if_neg (by decide)
  have e : ([none, some 63, some 64, some 65, none, some 66, some 67, some 68, none, some 69, none, none, none, none, none, some 70, some 71, some 72, some 73, none, some 74, none, none] : List (Option Nat)).mapIdx (fun k o => am_fv ad (nb_M1 M) 62 k o) = [.int 0, .ref (ad 63), .ref (ad 64), .ref (ad 65), .int 0, .ref (ad 66), .ref (ad 67), .ref (ad 68), .int 0, .ref (ad 69), .int 0, .int 0, .int 0, .int 0, .int 0, .ref (ad 70), .ref (ad 71), .ref (ad 72), .ref (ad 73), .int 0, .ref (ad 74), .int 0, .int 0] := by
    simp only [List.mapIdx_cons, List.mapIdx_nil, am_fv, hz]
    rfl
  unfold am_cell
  dsimp only
  rw [e]
  exact h
theorem am_ws_q_len {ad0 : Nat → Nat} : (am_ws_q dA ad0 M).length = 62 := by
  unfold am_ws_q
  rw [List.length_mapIdx]
  rfl
theorem w75_P {ad0 : Nat → Nat} (hP : va_P D am_cl (nb_w75 dA (am_ws_q dA ad0 M) z h0 a1 a2 a3 a4 a5 a6 a7 a8 a9 a10 a11 a12) H) (h4 : ∀ a n, am_sh_q[a]? = some (.inl (4, n)) → ∀ j : Nat, j < n → (M a (j : Int)).toNat < 62) : va_P D am_cl (am_ws dA (nb_ad2 ad0 [h0, a1, a2, a3, a4, a5, a6, a7, a8, a9, a10, a11, a12]) (nb_M1 M)) H := by
  intro k q hk
  have hk75 : k < 75 := (am_ws_at hk).1
  by_cases h62 : k < 62
  · have hlo : va_P D am_cl (am_ws_q dA ad0 M) H := by
      intro k q hk
      have hk2 : k < 62 := (am_ws_at_q hk).1
      exact hP k q (by rw [w75_lo am_ws_q_len hk2]; exact hk)
    have hs : am_sh_q[k]? = some (am_sh_q[k]'h62) := List.getElem?_eq_getElem h62
    have hs' : am_sh[k]? = some (am_sh_q[k]'h62) := by
      rw [w75_sh, List.getElem?_append_left h62]
      exact hs
    rw [am_ws_get hs'] at hk
    cases hk
    exact w75_low hlo (fun b hb => if_pos hb) (fun a ha => funext fun j => if_pos ha) h4 hs
  · have hc : k = 62 ∨ k = 63 ∨ k = 64 ∨ k = 65 ∨ k = 66 ∨ k = 67 ∨ k = 68 ∨ k = 69 ∨ k = 70 ∨ k = 71 ∨ k = 72 ∨ k = 73 ∨ k = 74 := by omega
    rcases hc with rfl | rfl | rfl | rfl | rfl | rfl | rfl | rfl | rfl | rfl | rfl | rfl | rfl
    · exact w75_62 hk (hP _ _ (w75_h am_ws_q_len))
    · exact w75_hi (t := 0) (n := 101) (by decide) (by decide) rfl hk (hP _ _ ((w75_x am_ws_q_len 0).trans rfl))
    · exact w75_hi (t := 0) (n := 101) (by decide) (by decide) rfl hk (hP _ _ ((w75_x am_ws_q_len 1).trans rfl))
    · exact w75_hi (t := 0) (n := 606) (by decide) (by decide) rfl hk (hP _ _ ((w75_x am_ws_q_len 2).trans rfl))
    · exact w75_hi (t := 0) (n := 202) (by decide) (by decide) rfl hk (hP _ _ ((w75_x am_ws_q_len 3).trans rfl))
    · exact w75_hi (t := 2) (n := 2) (by decide) (by decide) rfl hk (hP _ _ ((w75_x am_ws_q_len 4).trans rfl))
    · exact w75_hi (t := 0) (n := 12) (by decide) (by decide) rfl hk (hP _ _ ((w75_x am_ws_q_len 5).trans rfl))
    · exact w75_hi (t := 3) (n := 140) (by decide) (by decide) rfl hk (hP _ _ ((w75_x am_ws_q_len 6).trans rfl))
    · exact w75_hi (t := 0) (n := 8) (by decide) (by decide) rfl hk (hP _ _ ((w75_x am_ws_q_len 7).trans rfl))
    · exact w75_hi (t := 0) (n := 48) (by decide) (by decide) rfl hk (hP _ _ ((w75_x am_ws_q_len 8).trans rfl))
    · exact w75_hi (t := 0) (n := 48) (by decide) (by decide) rfl hk (hP _ _ ((w75_x am_ws_q_len 9).trans rfl))
    · exact w75_hi (t := 0) (n := 48) (by decide) (by decide) rfl hk (hP _ _ ((w75_x am_ws_q_len 10).trans rfl))
    · exact w75_hi (t := 0) (n := 49) (by decide) (by decide) rfl hk (hP _ _ ((w75_x am_ws_q_len 11).trans rfl))
theorem va_D_key {A : Nat → Prop} {ws ws' : va_W} (h : va_D A ws) (key : ∀ (k : Nat) (q : Nat × va_E), ws'[k]? = some q → ∃ q', ws[k]? = some q' ∧ q'.1 = q.1) : va_D A ws' := by
  refine ⟨fun i j p q hi hj hpq => ?_, fun k q hk => ?_⟩
  · obtain ⟨p', hp', ep⟩ := key i p hi
    obtain ⟨q', hq', eq⟩ := key j q hj
    exact h.1 i j p' q' hp' hq' (by rw [ep, eq, hpq])
  · obtain ⟨q', hq', eq⟩ := key k q hk
    rw [← eq]
    exact h.2 k q' hq'
theorem w75_D {A : Nat → Prop} {ad0 : Nat → Nat} (hD : va_D A (nb_w75 dA (am_ws_q dA ad0 M) z h0 a1 a2 a3 a4 a5 a6 a7 a8 a9 a10 a11 a12)) : va_D A (am_ws dA (nb_ad2 ad0 [h0, a1, a2, a3, a4, a5, a6, a7, a8, a9, a10, a11, a12]) (nb_M1 M)) := by
  refine va_D_key hD (fun k q hk => ?_)
  have hk75 : k < 75 := (am_ws_at hk).1
  by_cases h62 : k < 62
  · have hs : am_sh_q[k]? = some (am_sh_q[k]'h62) := List.getElem?_eq_getElem h62
    refine ⟨_, (w75_lo am_ws_q_len h62).trans (am_ws_get_q hs), ?_⟩
    rw [(am_ws_at hk).2]
    exact (if_pos h62).symm
  · have hc : k = 62 ∨ k = 63 ∨ k = 64 ∨ k = 65 ∨ k = 66 ∨ k = 67 ∨ k = 68 ∨ k = 69 ∨ k = 70 ∨ k = 71 ∨ k = 72 ∨ k = 73 ∨ k = 74 := by omega
    rcases hc with rfl | rfl | rfl | rfl | rfl | rfl | rfl | rfl | rfl | rfl | rfl | rfl | rfl
    · exact ⟨_, w75_h am_ws_q_len, (am_ws_at hk).2.symm⟩
    · exact ⟨_, (w75_x am_ws_q_len 0).trans rfl, (am_ws_at hk).2.symm⟩
    · exact ⟨_, (w75_x am_ws_q_len 1).trans rfl, (am_ws_at hk).2.symm⟩
    · exact ⟨_, (w75_x am_ws_q_len 2).trans rfl, (am_ws_at hk).2.symm⟩
    · exact ⟨_, (w75_x am_ws_q_len 3).trans rfl, (am_ws_at hk).2.symm⟩
    · exact ⟨_, (w75_x am_ws_q_len 4).trans rfl, (am_ws_at hk).2.symm⟩
    · exact ⟨_, (w75_x am_ws_q_len 5).trans rfl, (am_ws_at hk).2.symm⟩
    · exact ⟨_, (w75_x am_ws_q_len 6).trans rfl, (am_ws_at hk).2.symm⟩
    · exact ⟨_, (w75_x am_ws_q_len 7).trans rfl, (am_ws_at hk).2.symm⟩
    · exact ⟨_, (w75_x am_ws_q_len 8).trans rfl, (am_ws_at hk).2.symm⟩
    · exact ⟨_, (w75_x am_ws_q_len 9).trans rfl, (am_ws_at hk).2.symm⟩
    · exact ⟨_, (w75_x am_ws_q_len 10).trans rfl, (am_ws_at hk).2.symm⟩
    · exact ⟨_, (w75_x am_ws_q_len 11).trans rfl, (am_ws_at hk).2.symm⟩
end W75
theorem sh4 : ∀ a n, am_sh_q[a]? = some (.inl (4, n)) → (a = 10 ∧ n = 6) ∨ (a = 29 ∧ n = 2) := by
  have h : (List.range 62).all (fun a => match am_sh_q[a]? with | some (.inl q) => decide (q.1 = 4 → (a = 10 ∧ q.2 = 6) ∨ (a = 29 ∧ q.2 = 2)) | _ => true) = true := by decide +kernel
  intro a n ha
  have ha62 : a < 62 := (List.getElem?_eq_some_iff.mp ha).1
  have h1 := List.all_eq_true.mp h a (List.mem_range.mpr ha62)
  rw [ha] at h1
  simpa using h1
theorem ci_h4 {σ c : Int → Int} {N : Int} {h : Nat} {η : Nat → Int → Int} {kf : Nat → Int} {ι : Nat → Int → Int} {φ ψ : Int → Int} {q : Nat} {M : am_M} (hC : CI σ c N h η kf ι φ ψ q M) : ∀ a n, am_sh_q[a]? = some (.inl (4, n)) → ∀ j : Nat, j < n → (M a (j : Int)).toNat < 62 := by
  intro a n ha j hj
  obtain ⟨-, -, -, -, -, hH, hI, -, -⟩ := hC
  obtain ⟨-, p, hp, -⟩ := hH
  rcases sh4 a n ha with ⟨rfl, rfl⟩ | ⟨rfl, rfl⟩
  · have := hp.1 j hj
    rw [this.2]
    omega
  · have := (hI j hj).1.1
    rw [this]
    omega
