/-! the world behind the constructor's arrays is the class's -/
theorem w62_10 {D : va_G} {dA : Nat → ClassId} {ad : Nat → Nat} {H : Heap} (h : H[ad 10]? = some (vp_cell (dA 4) (6, .inr (.inr (.inr (.inr (va_up (va_up (va_up (va_up (va_up (va_up (fun _ => none) 0 (some (ad 11))) 1 (some (ad 14))) 2 (some (ad 17))) 3 (some (ad 20))) 4 (some (ad 23))) 5 (some (ad 26))))))))) : va_at D am_cl (ad 10, am_cell dA ad nb_M0 10 (.inl (4, 6))) H := by
  show H[ad 10]? = some (vp_cell (dA 4) (6, .inr (.inr (.inr (.inr (fun j : Nat => some (ad (nb_M0 10 (j : Int)).toNat)))))))
  rw [h]
  rfl
theorem w62_29 {D : va_G} {dA : Nat → ClassId} {ad : Nat → Nat} {H : Heap} (h : H[ad 29]? = some (vp_cell (dA 4) (2, .inr (.inr (.inr (.inr (va_up (va_up (fun _ => none) 0 (some (ad 56))) 1 (some (ad 59))))))))) : va_at D am_cl (ad 29, am_cell dA ad nb_M0 29 (.inl (4, 2))) H := by
  show H[ad 29]? = some (vp_cell (dA 4) (2, .inr (.inr (.inr (.inr (fun j : Nat => some (ad (nb_M0 29 (j : Int)).toNat)))))))
  rw [h]
  rfl
theorem w62_i {D : va_G} {dA : Nat → ClassId} {ad : Nat → Nat} {H : Heap} {a t n : Nat} (ht : t ≠ 4) (ha : ∀ j, nb_M0 a j = 0) (h : va_at D am_cl (ad a, .inl (dA t, n, .inl (fun _ => 0))) H) : va_at D am_cl (ad a, am_cell dA ad nb_M0 a (.inl (t, n))) H := by
  have e : am_cell dA ad nb_M0 a (.inl (t, n)) = .inl (dA t, n, .inl (fun _ => 0)) := by
    simp only [am_cell, ha]
    rw [if_neg ht]
    rfl
  rw [e]
  exact h
def w62 (dA : Nat → ClassId) (ad : Nat → Nat) : va_W := nb_w62 dA (ad 0) (ad 1) (ad 2) (ad 3) (ad 4) (ad 5) (ad 6) (ad 7) (ad 8) (ad 9) (ad 10) (ad 11) (ad 12) (ad 13) (ad 14) (ad 15) (ad 16) (ad 17) (ad 18) (ad 19) (ad 20) (ad 21) (ad 22) (ad 23) (ad 24) (ad 25) (ad 26) (ad 27) (ad 28) (ad 29) (ad 30) (ad 31) (ad 32) (ad 33) (ad 34) (ad 35) (ad 36) (ad 37) (ad 38) (ad 39) (ad 40) (ad 41) (ad 42) (ad 43) (ad 44) (ad 45) (ad 46) (ad 47) (ad 48) (ad 49) (ad 50) (ad 51) (ad 52) (ad 53) (ad 54) (ad 55) (ad 56) (ad 57) (ad 58) (ad 59) (ad 60) (ad 61)
theorem w62g_0 {dA : Nat → ClassId} {ad : Nat → Nat} : (w62 dA ad)[0]? = some ((ad 0), .inr (7, [.ref (ad 1), .ref (ad 4), .ref (ad 7), .ref (ad 9), .ref (ad 29), .ref (ad 30), .ref (ad 31), .ref (ad 36), .ref (ad 41), .ref (ad 51), .int (Int32.ofInt (-9)), .int 0])) := rfl
theorem w62c_0 {D : va_G} {dA : Nat → ClassId} {ad : Nat → Nat} {H : Heap} {q : Nat × va_E} (hP : va_P D am_cl (w62 dA ad) H) (hk : (am_ws_q dA ad nb_M0)[0]? = some q) : va_at D am_cl q H := by
  have h := hP 0 _ w62g_0
  rw [am_ws_get_q (s := .inr (7, [some 1, some 4, some 7, some 9, some 29, some 30, some 31, some 36, some 41, some 51, none, none])) rfl] at hk
  cases hk
  exact h
theorem w62g_1 {dA : Nat → ClassId} {ad : Nat → Nat} : (w62 dA ad)[1]? = some ((ad 1), .inr (3, [.int 0, .int 0, .ref (ad 2), .ref (ad 3)])) := rfl
theorem w62c_1 {D : va_G} {dA : Nat → ClassId} {ad : Nat → Nat} {H : Heap} {q : Nat × va_E} (hP : va_P D am_cl (w62 dA ad) H) (hk : (am_ws_q dA ad nb_M0)[1]? = some q) : va_at D am_cl q H := by
  have h := hP 1 _ w62g_1
  rw [am_ws_get_q (s := .inr (3, [none, none, some 2, some 3])) rfl] at hk
  cases hk
  exact h
theorem w62g_2 {dA : Nat → ClassId} {ad : Nat → Nat} : (w62 dA ad)[2]? = some ((ad 2), .inl (dA 0, 3, .inl (fun _ => 0))) := rfl
theorem w62c_2 {D : va_G} {dA : Nat → ClassId} {ad : Nat → Nat} {H : Heap} {q : Nat × va_E} (hP : va_P D am_cl (w62 dA ad) H) (hk : (am_ws_q dA ad nb_M0)[2]? = some q) : va_at D am_cl q H := by
  have h := hP 2 _ w62g_2
  rw [am_ws_get_q (s := .inl (0, 3)) rfl] at hk
  cases hk
  exact w62_i (by decide) (fun _ => rfl) h
theorem w62g_3 {dA : Nat → ClassId} {ad : Nat → Nat} : (w62 dA ad)[3]? = some ((ad 3), .inl (dA 0, 96, .inl (fun _ => 0))) := rfl
theorem w62c_3 {D : va_G} {dA : Nat → ClassId} {ad : Nat → Nat} {H : Heap} {q : Nat × va_E} (hP : va_P D am_cl (w62 dA ad) H) (hk : (am_ws_q dA ad nb_M0)[3]? = some q) : va_at D am_cl q H := by
  have h := hP 3 _ w62g_3
  rw [am_ws_get_q (s := .inl (0, 96)) rfl] at hk
  cases hk
  exact w62_i (by decide) (fun _ => rfl) h
theorem w62g_4 {dA : Nat → ClassId} {ad : Nat → Nat} : (w62 dA ad)[4]? = some ((ad 4), .inr (3, [.int 0, .int 0, .ref (ad 5), .ref (ad 6)])) := rfl
theorem w62c_4 {D : va_G} {dA : Nat → ClassId} {ad : Nat → Nat} {H : Heap} {q : Nat × va_E} (hP : va_P D am_cl (w62 dA ad) H) (hk : (am_ws_q dA ad nb_M0)[4]? = some q) : va_at D am_cl q H := by
  have h := hP 4 _ w62g_4
  rw [am_ws_get_q (s := .inr (3, [none, none, some 5, some 6])) rfl] at hk
  cases hk
  exact h
theorem w62g_5 {dA : Nat → ClassId} {ad : Nat → Nat} : (w62 dA ad)[5]? = some ((ad 5), .inl (dA 0, 3, .inl (fun _ => 0))) := rfl
theorem w62c_5 {D : va_G} {dA : Nat → ClassId} {ad : Nat → Nat} {H : Heap} {q : Nat × va_E} (hP : va_P D am_cl (w62 dA ad) H) (hk : (am_ws_q dA ad nb_M0)[5]? = some q) : va_at D am_cl q H := by
  have h := hP 5 _ w62g_5
  rw [am_ws_get_q (s := .inl (0, 3)) rfl] at hk
  cases hk
  exact w62_i (by decide) (fun _ => rfl) h
theorem w62g_6 {dA : Nat → ClassId} {ad : Nat → Nat} : (w62 dA ad)[6]? = some ((ad 6), .inl (dA 0, 96, .inl (fun _ => 0))) := rfl
theorem w62c_6 {D : va_G} {dA : Nat → ClassId} {ad : Nat → Nat} {H : Heap} {q : Nat × va_E} (hP : va_P D am_cl (w62 dA ad) H) (hk : (am_ws_q dA ad nb_M0)[6]? = some q) : va_at D am_cl q H := by
  have h := hP 6 _ w62g_6
  rw [am_ws_get_q (s := .inl (0, 96)) rfl] at hk
  cases hk
  exact w62_i (by decide) (fun _ => rfl) h
theorem w62g_7 {dA : Nat → ClassId} {ad : Nat → Nat} : (w62 dA ad)[7]? = some ((ad 7), .inr (5, [.int 0, .ref (ad 8), .int 0, .int 0, .int 0])) := rfl
theorem w62c_7 {D : va_G} {dA : Nat → ClassId} {ad : Nat → Nat} {H : Heap} {q : Nat × va_E} (hP : va_P D am_cl (w62 dA ad) H) (hk : (am_ws_q dA ad nb_M0)[7]? = some q) : va_at D am_cl q H := by
  have h := hP 7 _ w62g_7
  rw [am_ws_get_q (s := .inr (5, [none, some 8, none, none, none])) rfl] at hk
  cases hk
  exact h
theorem w62g_8 {dA : Nat → ClassId} {ad : Nat → Nat} : (w62 dA ad)[8]? = some ((ad 8), .inl (dA 1, 140, .inl (fun _ => 0))) := rfl
theorem w62c_8 {D : va_G} {dA : Nat → ClassId} {ad : Nat → Nat} {H : Heap} {q : Nat × va_E} (hP : va_P D am_cl (w62 dA ad) H) (hk : (am_ws_q dA ad nb_M0)[8]? = some q) : va_at D am_cl q H := by
  have h := hP 8 _ w62g_8
  rw [am_ws_get_q (s := .inl (1, 140)) rfl] at hk
  cases hk
  exact w62_i (by decide) (fun _ => rfl) h
theorem w62g_9 {dA : Nat → ClassId} {ad : Nat → Nat} : (w62 dA ad)[9]? = some ((ad 9), .inr (0, [.int 0, .ref (ad 10)])) := rfl
theorem w62c_9 {D : va_G} {dA : Nat → ClassId} {ad : Nat → Nat} {H : Heap} {q : Nat × va_E} (hP : va_P D am_cl (w62 dA ad) H) (hk : (am_ws_q dA ad nb_M0)[9]? = some q) : va_at D am_cl q H := by
  have h := hP 9 _ w62g_9
  rw [am_ws_get_q (s := .inr (0, [none, some 10])) rfl] at hk
  cases hk
  exact h
theorem w62g_10 {dA : Nat → ClassId} {ad : Nat → Nat} : (w62 dA ad)[10]? = some ((ad 10), .inl (dA 4, 6, .inr (.inr (.inr (.inr (va_up (va_up (va_up (va_up (va_up (va_up (fun _ => none) 0 (some (ad 11))) 1 (some (ad 14))) 2 (some (ad 17))) 3 (some (ad 20))) 4 (some (ad 23))) 5 (some (ad 26)))))))) := rfl
theorem w62c_10 {D : va_G} {dA : Nat → ClassId} {ad : Nat → Nat} {H : Heap} {q : Nat × va_E} (hP : va_P D am_cl (w62 dA ad) H) (hk : (am_ws_q dA ad nb_M0)[10]? = some q) : va_at D am_cl q H := by
  have h := hP 10 _ w62g_10
  rw [am_ws_get_q (s := .inl (4, 6)) rfl] at hk
  cases hk
  exact w62_10 h
theorem w62g_11 {dA : Nat → ClassId} {ad : Nat → Nat} : (w62 dA ad)[11]? = some ((ad 11), .inr (3, [.int 0, .int 0, .ref (ad 12), .ref (ad 13)])) := rfl
theorem w62c_11 {D : va_G} {dA : Nat → ClassId} {ad : Nat → Nat} {H : Heap} {q : Nat × va_E} (hP : va_P D am_cl (w62 dA ad) H) (hk : (am_ws_q dA ad nb_M0)[11]? = some q) : va_at D am_cl q H := by
  have h := hP 11 _ w62g_11
  rw [am_ws_get_q (s := .inr (3, [none, none, some 12, some 13])) rfl] at hk
  cases hk
  exact h
theorem w62g_12 {dA : Nat → ClassId} {ad : Nat → Nat} : (w62 dA ad)[12]? = some ((ad 12), .inl (dA 0, 3, .inl (fun _ => 0))) := rfl
theorem w62c_12 {D : va_G} {dA : Nat → ClassId} {ad : Nat → Nat} {H : Heap} {q : Nat × va_E} (hP : va_P D am_cl (w62 dA ad) H) (hk : (am_ws_q dA ad nb_M0)[12]? = some q) : va_at D am_cl q H := by
  have h := hP 12 _ w62g_12
  rw [am_ws_get_q (s := .inl (0, 3)) rfl] at hk
  cases hk
  exact w62_i (by decide) (fun _ => rfl) h
theorem w62g_13 {dA : Nat → ClassId} {ad : Nat → Nat} : (w62 dA ad)[13]? = some ((ad 13), .inl (dA 0, 96, .inl (fun _ => 0))) := rfl
theorem w62c_13 {D : va_G} {dA : Nat → ClassId} {ad : Nat → Nat} {H : Heap} {q : Nat × va_E} (hP : va_P D am_cl (w62 dA ad) H) (hk : (am_ws_q dA ad nb_M0)[13]? = some q) : va_at D am_cl q H := by
  have h := hP 13 _ w62g_13
  rw [am_ws_get_q (s := .inl (0, 96)) rfl] at hk
  cases hk
  exact w62_i (by decide) (fun _ => rfl) h
theorem w62g_14 {dA : Nat → ClassId} {ad : Nat → Nat} : (w62 dA ad)[14]? = some ((ad 14), .inr (3, [.int 0, .int 0, .ref (ad 15), .ref (ad 16)])) := rfl
theorem w62c_14 {D : va_G} {dA : Nat → ClassId} {ad : Nat → Nat} {H : Heap} {q : Nat × va_E} (hP : va_P D am_cl (w62 dA ad) H) (hk : (am_ws_q dA ad nb_M0)[14]? = some q) : va_at D am_cl q H := by
  have h := hP 14 _ w62g_14
  rw [am_ws_get_q (s := .inr (3, [none, none, some 15, some 16])) rfl] at hk
  cases hk
  exact h
theorem w62g_15 {dA : Nat → ClassId} {ad : Nat → Nat} : (w62 dA ad)[15]? = some ((ad 15), .inl (dA 0, 3, .inl (fun _ => 0))) := rfl
theorem w62c_15 {D : va_G} {dA : Nat → ClassId} {ad : Nat → Nat} {H : Heap} {q : Nat × va_E} (hP : va_P D am_cl (w62 dA ad) H) (hk : (am_ws_q dA ad nb_M0)[15]? = some q) : va_at D am_cl q H := by
  have h := hP 15 _ w62g_15
  rw [am_ws_get_q (s := .inl (0, 3)) rfl] at hk
  cases hk
  exact w62_i (by decide) (fun _ => rfl) h
theorem w62g_16 {dA : Nat → ClassId} {ad : Nat → Nat} : (w62 dA ad)[16]? = some ((ad 16), .inl (dA 0, 96, .inl (fun _ => 0))) := rfl
theorem w62c_16 {D : va_G} {dA : Nat → ClassId} {ad : Nat → Nat} {H : Heap} {q : Nat × va_E} (hP : va_P D am_cl (w62 dA ad) H) (hk : (am_ws_q dA ad nb_M0)[16]? = some q) : va_at D am_cl q H := by
  have h := hP 16 _ w62g_16
  rw [am_ws_get_q (s := .inl (0, 96)) rfl] at hk
  cases hk
  exact w62_i (by decide) (fun _ => rfl) h
theorem w62g_17 {dA : Nat → ClassId} {ad : Nat → Nat} : (w62 dA ad)[17]? = some ((ad 17), .inr (3, [.int 0, .int 0, .ref (ad 18), .ref (ad 19)])) := rfl
theorem w62c_17 {D : va_G} {dA : Nat → ClassId} {ad : Nat → Nat} {H : Heap} {q : Nat × va_E} (hP : va_P D am_cl (w62 dA ad) H) (hk : (am_ws_q dA ad nb_M0)[17]? = some q) : va_at D am_cl q H := by
  have h := hP 17 _ w62g_17
  rw [am_ws_get_q (s := .inr (3, [none, none, some 18, some 19])) rfl] at hk
  cases hk
  exact h
theorem w62g_18 {dA : Nat → ClassId} {ad : Nat → Nat} : (w62 dA ad)[18]? = some ((ad 18), .inl (dA 0, 3, .inl (fun _ => 0))) := rfl
theorem w62c_18 {D : va_G} {dA : Nat → ClassId} {ad : Nat → Nat} {H : Heap} {q : Nat × va_E} (hP : va_P D am_cl (w62 dA ad) H) (hk : (am_ws_q dA ad nb_M0)[18]? = some q) : va_at D am_cl q H := by
  have h := hP 18 _ w62g_18
  rw [am_ws_get_q (s := .inl (0, 3)) rfl] at hk
  cases hk
  exact w62_i (by decide) (fun _ => rfl) h
theorem w62g_19 {dA : Nat → ClassId} {ad : Nat → Nat} : (w62 dA ad)[19]? = some ((ad 19), .inl (dA 0, 96, .inl (fun _ => 0))) := rfl
theorem w62c_19 {D : va_G} {dA : Nat → ClassId} {ad : Nat → Nat} {H : Heap} {q : Nat × va_E} (hP : va_P D am_cl (w62 dA ad) H) (hk : (am_ws_q dA ad nb_M0)[19]? = some q) : va_at D am_cl q H := by
  have h := hP 19 _ w62g_19
  rw [am_ws_get_q (s := .inl (0, 96)) rfl] at hk
  cases hk
  exact w62_i (by decide) (fun _ => rfl) h
theorem w62g_20 {dA : Nat → ClassId} {ad : Nat → Nat} : (w62 dA ad)[20]? = some ((ad 20), .inr (3, [.int 0, .int 0, .ref (ad 21), .ref (ad 22)])) := rfl
theorem w62c_20 {D : va_G} {dA : Nat → ClassId} {ad : Nat → Nat} {H : Heap} {q : Nat × va_E} (hP : va_P D am_cl (w62 dA ad) H) (hk : (am_ws_q dA ad nb_M0)[20]? = some q) : va_at D am_cl q H := by
  have h := hP 20 _ w62g_20
  rw [am_ws_get_q (s := .inr (3, [none, none, some 21, some 22])) rfl] at hk
  cases hk
  exact h
theorem w62g_21 {dA : Nat → ClassId} {ad : Nat → Nat} : (w62 dA ad)[21]? = some ((ad 21), .inl (dA 0, 3, .inl (fun _ => 0))) := rfl
theorem w62c_21 {D : va_G} {dA : Nat → ClassId} {ad : Nat → Nat} {H : Heap} {q : Nat × va_E} (hP : va_P D am_cl (w62 dA ad) H) (hk : (am_ws_q dA ad nb_M0)[21]? = some q) : va_at D am_cl q H := by
  have h := hP 21 _ w62g_21
  rw [am_ws_get_q (s := .inl (0, 3)) rfl] at hk
  cases hk
  exact w62_i (by decide) (fun _ => rfl) h
theorem w62g_22 {dA : Nat → ClassId} {ad : Nat → Nat} : (w62 dA ad)[22]? = some ((ad 22), .inl (dA 0, 96, .inl (fun _ => 0))) := rfl
theorem w62c_22 {D : va_G} {dA : Nat → ClassId} {ad : Nat → Nat} {H : Heap} {q : Nat × va_E} (hP : va_P D am_cl (w62 dA ad) H) (hk : (am_ws_q dA ad nb_M0)[22]? = some q) : va_at D am_cl q H := by
  have h := hP 22 _ w62g_22
  rw [am_ws_get_q (s := .inl (0, 96)) rfl] at hk
  cases hk
  exact w62_i (by decide) (fun _ => rfl) h
theorem w62g_23 {dA : Nat → ClassId} {ad : Nat → Nat} : (w62 dA ad)[23]? = some ((ad 23), .inr (3, [.int 0, .int 0, .ref (ad 24), .ref (ad 25)])) := rfl
theorem w62c_23 {D : va_G} {dA : Nat → ClassId} {ad : Nat → Nat} {H : Heap} {q : Nat × va_E} (hP : va_P D am_cl (w62 dA ad) H) (hk : (am_ws_q dA ad nb_M0)[23]? = some q) : va_at D am_cl q H := by
  have h := hP 23 _ w62g_23
  rw [am_ws_get_q (s := .inr (3, [none, none, some 24, some 25])) rfl] at hk
  cases hk
  exact h
theorem w62g_24 {dA : Nat → ClassId} {ad : Nat → Nat} : (w62 dA ad)[24]? = some ((ad 24), .inl (dA 0, 3, .inl (fun _ => 0))) := rfl
theorem w62c_24 {D : va_G} {dA : Nat → ClassId} {ad : Nat → Nat} {H : Heap} {q : Nat × va_E} (hP : va_P D am_cl (w62 dA ad) H) (hk : (am_ws_q dA ad nb_M0)[24]? = some q) : va_at D am_cl q H := by
  have h := hP 24 _ w62g_24
  rw [am_ws_get_q (s := .inl (0, 3)) rfl] at hk
  cases hk
  exact w62_i (by decide) (fun _ => rfl) h
theorem w62g_25 {dA : Nat → ClassId} {ad : Nat → Nat} : (w62 dA ad)[25]? = some ((ad 25), .inl (dA 0, 96, .inl (fun _ => 0))) := rfl
theorem w62c_25 {D : va_G} {dA : Nat → ClassId} {ad : Nat → Nat} {H : Heap} {q : Nat × va_E} (hP : va_P D am_cl (w62 dA ad) H) (hk : (am_ws_q dA ad nb_M0)[25]? = some q) : va_at D am_cl q H := by
  have h := hP 25 _ w62g_25
  rw [am_ws_get_q (s := .inl (0, 96)) rfl] at hk
  cases hk
  exact w62_i (by decide) (fun _ => rfl) h
theorem w62g_26 {dA : Nat → ClassId} {ad : Nat → Nat} : (w62 dA ad)[26]? = some ((ad 26), .inr (3, [.int 0, .int 0, .ref (ad 27), .ref (ad 28)])) := rfl
theorem w62c_26 {D : va_G} {dA : Nat → ClassId} {ad : Nat → Nat} {H : Heap} {q : Nat × va_E} (hP : va_P D am_cl (w62 dA ad) H) (hk : (am_ws_q dA ad nb_M0)[26]? = some q) : va_at D am_cl q H := by
  have h := hP 26 _ w62g_26
  rw [am_ws_get_q (s := .inr (3, [none, none, some 27, some 28])) rfl] at hk
  cases hk
  exact h
theorem w62g_27 {dA : Nat → ClassId} {ad : Nat → Nat} : (w62 dA ad)[27]? = some ((ad 27), .inl (dA 0, 3, .inl (fun _ => 0))) := rfl
theorem w62c_27 {D : va_G} {dA : Nat → ClassId} {ad : Nat → Nat} {H : Heap} {q : Nat × va_E} (hP : va_P D am_cl (w62 dA ad) H) (hk : (am_ws_q dA ad nb_M0)[27]? = some q) : va_at D am_cl q H := by
  have h := hP 27 _ w62g_27
  rw [am_ws_get_q (s := .inl (0, 3)) rfl] at hk
  cases hk
  exact w62_i (by decide) (fun _ => rfl) h
theorem w62g_28 {dA : Nat → ClassId} {ad : Nat → Nat} : (w62 dA ad)[28]? = some ((ad 28), .inl (dA 0, 96, .inl (fun _ => 0))) := rfl
theorem w62c_28 {D : va_G} {dA : Nat → ClassId} {ad : Nat → Nat} {H : Heap} {q : Nat × va_E} (hP : va_P D am_cl (w62 dA ad) H) (hk : (am_ws_q dA ad nb_M0)[28]? = some q) : va_at D am_cl q H := by
  have h := hP 28 _ w62g_28
  rw [am_ws_get_q (s := .inl (0, 96)) rfl] at hk
  cases hk
  exact w62_i (by decide) (fun _ => rfl) h
theorem w62g_29 {dA : Nat → ClassId} {ad : Nat → Nat} : (w62 dA ad)[29]? = some ((ad 29), .inl (dA 4, 2, .inr (.inr (.inr (.inr (va_up (va_up (fun _ => none) 0 (some (ad 56))) 1 (some (ad 59)))))))) := rfl
theorem w62c_29 {D : va_G} {dA : Nat → ClassId} {ad : Nat → Nat} {H : Heap} {q : Nat × va_E} (hP : va_P D am_cl (w62 dA ad) H) (hk : (am_ws_q dA ad nb_M0)[29]? = some q) : va_at D am_cl q H := by
  have h := hP 29 _ w62g_29
  rw [am_ws_get_q (s := .inl (4, 2)) rfl] at hk
  cases hk
  exact w62_29 h
theorem w62g_30 {dA : Nat → ClassId} {ad : Nat → Nat} : (w62 dA ad)[30]? = some ((ad 30), .inl (dA 2, 2, .inl (fun _ => 0))) := rfl
theorem w62c_30 {D : va_G} {dA : Nat → ClassId} {ad : Nat → Nat} {H : Heap} {q : Nat × va_E} (hP : va_P D am_cl (w62 dA ad) H) (hk : (am_ws_q dA ad nb_M0)[30]? = some q) : va_at D am_cl q H := by
  have h := hP 30 _ w62g_30
  rw [am_ws_get_q (s := .inl (2, 2)) rfl] at hk
  cases hk
  exact w62_i (by decide) (fun _ => rfl) h
theorem w62g_31 {dA : Nat → ClassId} {ad : Nat → Nat} : (w62 dA ad)[31]? = some ((ad 31), .inr (2, [.ref (ad 32), .ref (ad 33), .ref (ad 34), .ref (ad 35)])) := rfl
theorem w62c_31 {D : va_G} {dA : Nat → ClassId} {ad : Nat → Nat} {H : Heap} {q : Nat × va_E} (hP : va_P D am_cl (w62 dA ad) H) (hk : (am_ws_q dA ad nb_M0)[31]? = some q) : va_at D am_cl q H := by
  have h := hP 31 _ w62g_31
  rw [am_ws_get_q (s := .inr (2, [some 32, some 33, some 34, some 35])) rfl] at hk
  cases hk
  exact h
theorem w62g_32 {dA : Nat → ClassId} {ad : Nat → Nat} : (w62 dA ad)[32]? = some ((ad 32), .inl (dA 0, 8, .inl (fun _ => 0))) := rfl
theorem w62c_32 {D : va_G} {dA : Nat → ClassId} {ad : Nat → Nat} {H : Heap} {q : Nat × va_E} (hP : va_P D am_cl (w62 dA ad) H) (hk : (am_ws_q dA ad nb_M0)[32]? = some q) : va_at D am_cl q H := by
  have h := hP 32 _ w62g_32
  rw [am_ws_get_q (s := .inl (0, 8)) rfl] at hk
  cases hk
  exact w62_i (by decide) (fun _ => rfl) h
theorem w62g_33 {dA : Nat → ClassId} {ad : Nat → Nat} : (w62 dA ad)[33]? = some ((ad 33), .inl (dA 0, 48, .inl (fun _ => 0))) := rfl
theorem w62c_33 {D : va_G} {dA : Nat → ClassId} {ad : Nat → Nat} {H : Heap} {q : Nat × va_E} (hP : va_P D am_cl (w62 dA ad) H) (hk : (am_ws_q dA ad nb_M0)[33]? = some q) : va_at D am_cl q H := by
  have h := hP 33 _ w62g_33
  rw [am_ws_get_q (s := .inl (0, 48)) rfl] at hk
  cases hk
  exact w62_i (by decide) (fun _ => rfl) h
theorem w62g_34 {dA : Nat → ClassId} {ad : Nat → Nat} : (w62 dA ad)[34]? = some ((ad 34), .inl (dA 0, 48, .inl (fun _ => 0))) := rfl
theorem w62c_34 {D : va_G} {dA : Nat → ClassId} {ad : Nat → Nat} {H : Heap} {q : Nat × va_E} (hP : va_P D am_cl (w62 dA ad) H) (hk : (am_ws_q dA ad nb_M0)[34]? = some q) : va_at D am_cl q H := by
  have h := hP 34 _ w62g_34
  rw [am_ws_get_q (s := .inl (0, 48)) rfl] at hk
  cases hk
  exact w62_i (by decide) (fun _ => rfl) h
theorem w62g_35 {dA : Nat → ClassId} {ad : Nat → Nat} : (w62 dA ad)[35]? = some ((ad 35), .inl (dA 0, 48, .inl (fun _ => 0))) := rfl
theorem w62c_35 {D : va_G} {dA : Nat → ClassId} {ad : Nat → Nat} {H : Heap} {q : Nat × va_E} (hP : va_P D am_cl (w62 dA ad) H) (hk : (am_ws_q dA ad nb_M0)[35]? = some q) : va_at D am_cl q H := by
  have h := hP 35 _ w62g_35
  rw [am_ws_get_q (s := .inl (0, 48)) rfl] at hk
  cases hk
  exact w62_i (by decide) (fun _ => rfl) h
theorem w62g_36 {dA : Nat → ClassId} {ad : Nat → Nat} : (w62 dA ad)[36]? = some ((ad 36), .inr (1, [.ref (ad 37), .ref (ad 38), .ref (ad 39), .ref (ad 40), .int 0, .int 0, .int 0])) := rfl
theorem w62c_36 {D : va_G} {dA : Nat → ClassId} {ad : Nat → Nat} {H : Heap} {q : Nat × va_E} (hP : va_P D am_cl (w62 dA ad) H) (hk : (am_ws_q dA ad nb_M0)[36]? = some q) : va_at D am_cl q H := by
  have h := hP 36 _ w62g_36
  rw [am_ws_get_q (s := .inr (1, [some 37, some 38, some 39, some 40, none, none, none])) rfl] at hk
  cases hk
  exact h
theorem w62g_37 {dA : Nat → ClassId} {ad : Nat → Nat} : (w62 dA ad)[37]? = some ((ad 37), .inl (dA 0, 6, .inl (fun _ => 0))) := rfl
theorem w62c_37 {D : va_G} {dA : Nat → ClassId} {ad : Nat → Nat} {H : Heap} {q : Nat × va_E} (hP : va_P D am_cl (w62 dA ad) H) (hk : (am_ws_q dA ad nb_M0)[37]? = some q) : va_at D am_cl q H := by
  have h := hP 37 _ w62g_37
  rw [am_ws_get_q (s := .inl (0, 6)) rfl] at hk
  cases hk
  exact w62_i (by decide) (fun _ => rfl) h
theorem w62g_38 {dA : Nat → ClassId} {ad : Nat → Nat} : (w62 dA ad)[38]? = some ((ad 38), .inl (dA 0, 6, .inl (fun _ => 0))) := rfl
theorem w62c_38 {D : va_G} {dA : Nat → ClassId} {ad : Nat → Nat} {H : Heap} {q : Nat × va_E} (hP : va_P D am_cl (w62 dA ad) H) (hk : (am_ws_q dA ad nb_M0)[38]? = some q) : va_at D am_cl q H := by
  have h := hP 38 _ w62g_38
  rw [am_ws_get_q (s := .inl (0, 6)) rfl] at hk
  cases hk
  exact w62_i (by decide) (fun _ => rfl) h
theorem w62g_39 {dA : Nat → ClassId} {ad : Nat → Nat} : (w62 dA ad)[39]? = some ((ad 39), .inl (dA 0, 6, .inl (fun _ => 0))) := rfl
theorem w62c_39 {D : va_G} {dA : Nat → ClassId} {ad : Nat → Nat} {H : Heap} {q : Nat × va_E} (hP : va_P D am_cl (w62 dA ad) H) (hk : (am_ws_q dA ad nb_M0)[39]? = some q) : va_at D am_cl q H := by
  have h := hP 39 _ w62g_39
  rw [am_ws_get_q (s := .inl (0, 6)) rfl] at hk
  cases hk
  exact w62_i (by decide) (fun _ => rfl) h
theorem w62g_40 {dA : Nat → ClassId} {ad : Nat → Nat} : (w62 dA ad)[40]? = some ((ad 40), .inl (dA 0, 49, .inl (fun _ => 0))) := rfl
theorem w62c_40 {D : va_G} {dA : Nat → ClassId} {ad : Nat → Nat} {H : Heap} {q : Nat × va_E} (hP : va_P D am_cl (w62 dA ad) H) (hk : (am_ws_q dA ad nb_M0)[40]? = some q) : va_at D am_cl q H := by
  have h := hP 40 _ w62g_40
  rw [am_ws_get_q (s := .inl (0, 49)) rfl] at hk
  cases hk
  exact w62_i (by decide) (fun _ => rfl) h
theorem w62g_41 {dA : Nat → ClassId} {ad : Nat → Nat} : (w62 dA ad)[41]? = some ((ad 41), .inr (6, [.int 0, .ref (ad 42), .ref (ad 43), .ref (ad 44), .ref (ad 45), .ref (ad 46), .ref (ad 47), .ref (ad 48), .ref (ad 49), .ref (ad 50)])) := rfl
theorem w62c_41 {D : va_G} {dA : Nat → ClassId} {ad : Nat → Nat} {H : Heap} {q : Nat × va_E} (hP : va_P D am_cl (w62 dA ad) H) (hk : (am_ws_q dA ad nb_M0)[41]? = some q) : va_at D am_cl q H := by
  have h := hP 41 _ w62g_41
  rw [am_ws_get_q (s := .inr (6, [none, some 42, some 43, some 44, some 45, some 46, some 47, some 48, some 49, some 50])) rfl] at hk
  cases hk
  exact h
theorem w62g_42 {dA : Nat → ClassId} {ad : Nat → Nat} : (w62 dA ad)[42]? = some ((ad 42), .inl (dA 0, 48, .inl (fun _ => 0))) := rfl
theorem w62c_42 {D : va_G} {dA : Nat → ClassId} {ad : Nat → Nat} {H : Heap} {q : Nat × va_E} (hP : va_P D am_cl (w62 dA ad) H) (hk : (am_ws_q dA ad nb_M0)[42]? = some q) : va_at D am_cl q H := by
  have h := hP 42 _ w62g_42
  rw [am_ws_get_q (s := .inl (0, 48)) rfl] at hk
  cases hk
  exact w62_i (by decide) (fun _ => rfl) h
theorem w62g_43 {dA : Nat → ClassId} {ad : Nat → Nat} : (w62 dA ad)[43]? = some ((ad 43), .inl (dA 0, 48, .inl (fun _ => 0))) := rfl
theorem w62c_43 {D : va_G} {dA : Nat → ClassId} {ad : Nat → Nat} {H : Heap} {q : Nat × va_E} (hP : va_P D am_cl (w62 dA ad) H) (hk : (am_ws_q dA ad nb_M0)[43]? = some q) : va_at D am_cl q H := by
  have h := hP 43 _ w62g_43
  rw [am_ws_get_q (s := .inl (0, 48)) rfl] at hk
  cases hk
  exact w62_i (by decide) (fun _ => rfl) h
theorem w62g_44 {dA : Nat → ClassId} {ad : Nat → Nat} : (w62 dA ad)[44]? = some ((ad 44), .inl (dA 0, 48, .inl (fun _ => 0))) := rfl
theorem w62c_44 {D : va_G} {dA : Nat → ClassId} {ad : Nat → Nat} {H : Heap} {q : Nat × va_E} (hP : va_P D am_cl (w62 dA ad) H) (hk : (am_ws_q dA ad nb_M0)[44]? = some q) : va_at D am_cl q H := by
  have h := hP 44 _ w62g_44
  rw [am_ws_get_q (s := .inl (0, 48)) rfl] at hk
  cases hk
  exact w62_i (by decide) (fun _ => rfl) h
theorem w62g_45 {dA : Nat → ClassId} {ad : Nat → Nat} : (w62 dA ad)[45]? = some ((ad 45), .inl (dA 0, 48, .inl (fun _ => 0))) := rfl
theorem w62c_45 {D : va_G} {dA : Nat → ClassId} {ad : Nat → Nat} {H : Heap} {q : Nat × va_E} (hP : va_P D am_cl (w62 dA ad) H) (hk : (am_ws_q dA ad nb_M0)[45]? = some q) : va_at D am_cl q H := by
  have h := hP 45 _ w62g_45
  rw [am_ws_get_q (s := .inl (0, 48)) rfl] at hk
  cases hk
  exact w62_i (by decide) (fun _ => rfl) h
theorem w62g_46 {dA : Nat → ClassId} {ad : Nat → Nat} : (w62 dA ad)[46]? = some ((ad 46), .inl (dA 0, 48, .inl (fun _ => 0))) := rfl
theorem w62c_46 {D : va_G} {dA : Nat → ClassId} {ad : Nat → Nat} {H : Heap} {q : Nat × va_E} (hP : va_P D am_cl (w62 dA ad) H) (hk : (am_ws_q dA ad nb_M0)[46]? = some q) : va_at D am_cl q H := by
  have h := hP 46 _ w62g_46
  rw [am_ws_get_q (s := .inl (0, 48)) rfl] at hk
  cases hk
  exact w62_i (by decide) (fun _ => rfl) h
theorem w62g_47 {dA : Nat → ClassId} {ad : Nat → Nat} : (w62 dA ad)[47]? = some ((ad 47), .inl (dA 0, 48, .inl (fun _ => 0))) := rfl
theorem w62c_47 {D : va_G} {dA : Nat → ClassId} {ad : Nat → Nat} {H : Heap} {q : Nat × va_E} (hP : va_P D am_cl (w62 dA ad) H) (hk : (am_ws_q dA ad nb_M0)[47]? = some q) : va_at D am_cl q H := by
  have h := hP 47 _ w62g_47
  rw [am_ws_get_q (s := .inl (0, 48)) rfl] at hk
  cases hk
  exact w62_i (by decide) (fun _ => rfl) h
theorem w62g_48 {dA : Nat → ClassId} {ad : Nat → Nat} : (w62 dA ad)[48]? = some ((ad 48), .inl (dA 0, 384, .inl (fun _ => 0))) := rfl
theorem w62c_48 {D : va_G} {dA : Nat → ClassId} {ad : Nat → Nat} {H : Heap} {q : Nat × va_E} (hP : va_P D am_cl (w62 dA ad) H) (hk : (am_ws_q dA ad nb_M0)[48]? = some q) : va_at D am_cl q H := by
  have h := hP 48 _ w62g_48
  rw [am_ws_get_q (s := .inl (0, 384)) rfl] at hk
  cases hk
  exact w62_i (by decide) (fun _ => rfl) h
theorem w62g_49 {dA : Nat → ClassId} {ad : Nat → Nat} : (w62 dA ad)[49]? = some ((ad 49), .inl (dA 0, 48, .inl (fun _ => 0))) := rfl
theorem w62c_49 {D : va_G} {dA : Nat → ClassId} {ad : Nat → Nat} {H : Heap} {q : Nat × va_E} (hP : va_P D am_cl (w62 dA ad) H) (hk : (am_ws_q dA ad nb_M0)[49]? = some q) : va_at D am_cl q H := by
  have h := hP 49 _ w62g_49
  rw [am_ws_get_q (s := .inl (0, 48)) rfl] at hk
  cases hk
  exact w62_i (by decide) (fun _ => rfl) h
theorem w62g_50 {dA : Nat → ClassId} {ad : Nat → Nat} : (w62 dA ad)[50]? = some ((ad 50), .inl (dA 0, 48, .inl (fun _ => 0))) := rfl
theorem w62c_50 {D : va_G} {dA : Nat → ClassId} {ad : Nat → Nat} {H : Heap} {q : Nat × va_E} (hP : va_P D am_cl (w62 dA ad) H) (hk : (am_ws_q dA ad nb_M0)[50]? = some q) : va_at D am_cl q H := by
  have h := hP 50 _ w62g_50
  rw [am_ws_get_q (s := .inl (0, 48)) rfl] at hk
  cases hk
  exact w62_i (by decide) (fun _ => rfl) h
theorem w62g_51 {dA : Nat → ClassId} {ad : Nat → Nat} : (w62 dA ad)[51]? = some ((ad 51), .inr (4, [.int 0, .ref (ad 52), .ref (ad 53), .int 0, .ref (ad 54), .ref (ad 55)])) := rfl
theorem w62c_51 {D : va_G} {dA : Nat → ClassId} {ad : Nat → Nat} {H : Heap} {q : Nat × va_E} (hP : va_P D am_cl (w62 dA ad) H) (hk : (am_ws_q dA ad nb_M0)[51]? = some q) : va_at D am_cl q H := by
  have h := hP 51 _ w62g_51
  rw [am_ws_get_q (s := .inr (4, [none, some 52, some 53, none, some 54, some 55])) rfl] at hk
  cases hk
  exact h
theorem w62g_52 {dA : Nat → ClassId} {ad : Nat → Nat} : (w62 dA ad)[52]? = some ((ad 52), .inl (dA 0, 6, .inl (fun _ => 0))) := rfl
theorem w62c_52 {D : va_G} {dA : Nat → ClassId} {ad : Nat → Nat} {H : Heap} {q : Nat × va_E} (hP : va_P D am_cl (w62 dA ad) H) (hk : (am_ws_q dA ad nb_M0)[52]? = some q) : va_at D am_cl q H := by
  have h := hP 52 _ w62g_52
  rw [am_ws_get_q (s := .inl (0, 6)) rfl] at hk
  cases hk
  exact w62_i (by decide) (fun _ => rfl) h
theorem w62g_53 {dA : Nat → ClassId} {ad : Nat → Nat} : (w62 dA ad)[53]? = some ((ad 53), .inl (dA 0, 6, .inl (fun _ => 0))) := rfl
theorem w62c_53 {D : va_G} {dA : Nat → ClassId} {ad : Nat → Nat} {H : Heap} {q : Nat × va_E} (hP : va_P D am_cl (w62 dA ad) H) (hk : (am_ws_q dA ad nb_M0)[53]? = some q) : va_at D am_cl q H := by
  have h := hP 53 _ w62g_53
  rw [am_ws_get_q (s := .inl (0, 6)) rfl] at hk
  cases hk
  exact w62_i (by decide) (fun _ => rfl) h
theorem w62g_54 {dA : Nat → ClassId} {ad : Nat → Nat} : (w62 dA ad)[54]? = some ((ad 54), .inl (dA 0, 48, .inl (fun _ => 0))) := rfl
theorem w62c_54 {D : va_G} {dA : Nat → ClassId} {ad : Nat → Nat} {H : Heap} {q : Nat × va_E} (hP : va_P D am_cl (w62 dA ad) H) (hk : (am_ws_q dA ad nb_M0)[54]? = some q) : va_at D am_cl q H := by
  have h := hP 54 _ w62g_54
  rw [am_ws_get_q (s := .inl (0, 48)) rfl] at hk
  cases hk
  exact w62_i (by decide) (fun _ => rfl) h
theorem w62g_55 {dA : Nat → ClassId} {ad : Nat → Nat} : (w62 dA ad)[55]? = some ((ad 55), .inl (dA 0, 55, .inl (fun _ => 0))) := rfl
theorem w62c_55 {D : va_G} {dA : Nat → ClassId} {ad : Nat → Nat} {H : Heap} {q : Nat × va_E} (hP : va_P D am_cl (w62 dA ad) H) (hk : (am_ws_q dA ad nb_M0)[55]? = some q) : va_at D am_cl q H := by
  have h := hP 55 _ w62g_55
  rw [am_ws_get_q (s := .inl (0, 55)) rfl] at hk
  cases hk
  exact w62_i (by decide) (fun _ => rfl) h
theorem w62g_56 {dA : Nat → ClassId} {ad : Nat → Nat} : (w62 dA ad)[56]? = some ((ad 56), .inr (3, [.int 0, .int 0, .ref (ad 57), .ref (ad 58)])) := rfl
theorem w62c_56 {D : va_G} {dA : Nat → ClassId} {ad : Nat → Nat} {H : Heap} {q : Nat × va_E} (hP : va_P D am_cl (w62 dA ad) H) (hk : (am_ws_q dA ad nb_M0)[56]? = some q) : va_at D am_cl q H := by
  have h := hP 56 _ w62g_56
  rw [am_ws_get_q (s := .inr (3, [none, none, some 57, some 58])) rfl] at hk
  cases hk
  exact h
theorem w62g_57 {dA : Nat → ClassId} {ad : Nat → Nat} : (w62 dA ad)[57]? = some ((ad 57), .inl (dA 0, 3, .inl (fun _ => 0))) := rfl
theorem w62c_57 {D : va_G} {dA : Nat → ClassId} {ad : Nat → Nat} {H : Heap} {q : Nat × va_E} (hP : va_P D am_cl (w62 dA ad) H) (hk : (am_ws_q dA ad nb_M0)[57]? = some q) : va_at D am_cl q H := by
  have h := hP 57 _ w62g_57
  rw [am_ws_get_q (s := .inl (0, 3)) rfl] at hk
  cases hk
  exact w62_i (by decide) (fun _ => rfl) h
theorem w62g_58 {dA : Nat → ClassId} {ad : Nat → Nat} : (w62 dA ad)[58]? = some ((ad 58), .inl (dA 0, 96, .inl (fun _ => 0))) := rfl
theorem w62c_58 {D : va_G} {dA : Nat → ClassId} {ad : Nat → Nat} {H : Heap} {q : Nat × va_E} (hP : va_P D am_cl (w62 dA ad) H) (hk : (am_ws_q dA ad nb_M0)[58]? = some q) : va_at D am_cl q H := by
  have h := hP 58 _ w62g_58
  rw [am_ws_get_q (s := .inl (0, 96)) rfl] at hk
  cases hk
  exact w62_i (by decide) (fun _ => rfl) h
theorem w62g_59 {dA : Nat → ClassId} {ad : Nat → Nat} : (w62 dA ad)[59]? = some ((ad 59), .inr (3, [.int 0, .int 0, .ref (ad 60), .ref (ad 61)])) := rfl
theorem w62c_59 {D : va_G} {dA : Nat → ClassId} {ad : Nat → Nat} {H : Heap} {q : Nat × va_E} (hP : va_P D am_cl (w62 dA ad) H) (hk : (am_ws_q dA ad nb_M0)[59]? = some q) : va_at D am_cl q H := by
  have h := hP 59 _ w62g_59
  rw [am_ws_get_q (s := .inr (3, [none, none, some 60, some 61])) rfl] at hk
  cases hk
  exact h
theorem w62g_60 {dA : Nat → ClassId} {ad : Nat → Nat} : (w62 dA ad)[60]? = some ((ad 60), .inl (dA 0, 3, .inl (fun _ => 0))) := rfl
theorem w62c_60 {D : va_G} {dA : Nat → ClassId} {ad : Nat → Nat} {H : Heap} {q : Nat × va_E} (hP : va_P D am_cl (w62 dA ad) H) (hk : (am_ws_q dA ad nb_M0)[60]? = some q) : va_at D am_cl q H := by
  have h := hP 60 _ w62g_60
  rw [am_ws_get_q (s := .inl (0, 3)) rfl] at hk
  cases hk
  exact w62_i (by decide) (fun _ => rfl) h
theorem w62g_61 {dA : Nat → ClassId} {ad : Nat → Nat} : (w62 dA ad)[61]? = some ((ad 61), .inl (dA 0, 96, .inl (fun _ => 0))) := rfl
theorem w62c_61 {D : va_G} {dA : Nat → ClassId} {ad : Nat → Nat} {H : Heap} {q : Nat × va_E} (hP : va_P D am_cl (w62 dA ad) H) (hk : (am_ws_q dA ad nb_M0)[61]? = some q) : va_at D am_cl q H := by
  have h := hP 61 _ w62g_61
  rw [am_ws_get_q (s := .inl (0, 96)) rfl] at hk
  cases hk
  exact w62_i (by decide) (fun _ => rfl) h
theorem w62_P {D : va_G} {dA : Nat → ClassId} {ad : Nat → Nat} {H : Heap} (hP : va_P D am_cl (w62 dA ad) H) : va_P D am_cl (am_ws_q dA ad nb_M0) H := by
  intro k q hk
  by_cases h0 : k = 0
  · subst h0; exact w62c_0 hP hk
  by_cases h1 : k = 1
  · subst h1; exact w62c_1 hP hk
  by_cases h2 : k = 2
  · subst h2; exact w62c_2 hP hk
  by_cases h3 : k = 3
  · subst h3; exact w62c_3 hP hk
  by_cases h4 : k = 4
  · subst h4; exact w62c_4 hP hk
  by_cases h5 : k = 5
  · subst h5; exact w62c_5 hP hk
  by_cases h6 : k = 6
  · subst h6; exact w62c_6 hP hk
  by_cases h7 : k = 7
  · subst h7; exact w62c_7 hP hk
  by_cases h8 : k = 8
  · subst h8; exact w62c_8 hP hk
  by_cases h9 : k = 9
  · subst h9; exact w62c_9 hP hk
  by_cases h10 : k = 10
  · subst h10; exact w62c_10 hP hk
  by_cases h11 : k = 11
  · subst h11; exact w62c_11 hP hk
  by_cases h12 : k = 12
  · subst h12; exact w62c_12 hP hk
  by_cases h13 : k = 13
  · subst h13; exact w62c_13 hP hk
  by_cases h14 : k = 14
  · subst h14; exact w62c_14 hP hk
  by_cases h15 : k = 15
  · subst h15; exact w62c_15 hP hk
  by_cases h16 : k = 16
  · subst h16; exact w62c_16 hP hk
  by_cases h17 : k = 17
  · subst h17; exact w62c_17 hP hk
  by_cases h18 : k = 18
  · subst h18; exact w62c_18 hP hk
  by_cases h19 : k = 19
  · subst h19; exact w62c_19 hP hk
  by_cases h20 : k = 20
  · subst h20; exact w62c_20 hP hk
  by_cases h21 : k = 21
  · subst h21; exact w62c_21 hP hk
  by_cases h22 : k = 22
  · subst h22; exact w62c_22 hP hk
  by_cases h23 : k = 23
  · subst h23; exact w62c_23 hP hk
  by_cases h24 : k = 24
  · subst h24; exact w62c_24 hP hk
  by_cases h25 : k = 25
  · subst h25; exact w62c_25 hP hk
  by_cases h26 : k = 26
  · subst h26; exact w62c_26 hP hk
  by_cases h27 : k = 27
  · subst h27; exact w62c_27 hP hk
  by_cases h28 : k = 28
  · subst h28; exact w62c_28 hP hk
  by_cases h29 : k = 29
  · subst h29; exact w62c_29 hP hk
  by_cases h30 : k = 30
  · subst h30; exact w62c_30 hP hk
  by_cases h31 : k = 31
  · subst h31; exact w62c_31 hP hk
  by_cases h32 : k = 32
  · subst h32; exact w62c_32 hP hk
  by_cases h33 : k = 33
  · subst h33; exact w62c_33 hP hk
  by_cases h34 : k = 34
  · subst h34; exact w62c_34 hP hk
  by_cases h35 : k = 35
  · subst h35; exact w62c_35 hP hk
  by_cases h36 : k = 36
  · subst h36; exact w62c_36 hP hk
  by_cases h37 : k = 37
  · subst h37; exact w62c_37 hP hk
  by_cases h38 : k = 38
  · subst h38; exact w62c_38 hP hk
  by_cases h39 : k = 39
  · subst h39; exact w62c_39 hP hk
  by_cases h40 : k = 40
  · subst h40; exact w62c_40 hP hk
  by_cases h41 : k = 41
  · subst h41; exact w62c_41 hP hk
  by_cases h42 : k = 42
  · subst h42; exact w62c_42 hP hk
  by_cases h43 : k = 43
  · subst h43; exact w62c_43 hP hk
  by_cases h44 : k = 44
  · subst h44; exact w62c_44 hP hk
  by_cases h45 : k = 45
  · subst h45; exact w62c_45 hP hk
  by_cases h46 : k = 46
  · subst h46; exact w62c_46 hP hk
  by_cases h47 : k = 47
  · subst h47; exact w62c_47 hP hk
  by_cases h48 : k = 48
  · subst h48; exact w62c_48 hP hk
  by_cases h49 : k = 49
  · subst h49; exact w62c_49 hP hk
  by_cases h50 : k = 50
  · subst h50; exact w62c_50 hP hk
  by_cases h51 : k = 51
  · subst h51; exact w62c_51 hP hk
  by_cases h52 : k = 52
  · subst h52; exact w62c_52 hP hk
  by_cases h53 : k = 53
  · subst h53; exact w62c_53 hP hk
  by_cases h54 : k = 54
  · subst h54; exact w62c_54 hP hk
  by_cases h55 : k = 55
  · subst h55; exact w62c_55 hP hk
  by_cases h56 : k = 56
  · subst h56; exact w62c_56 hP hk
  by_cases h57 : k = 57
  · subst h57; exact w62c_57 hP hk
  by_cases h58 : k = 58
  · subst h58; exact w62c_58 hP hk
  by_cases h59 : k = 59
  · subst h59; exact w62c_59 hP hk
  by_cases h60 : k = 60
  · subst h60; exact w62c_60 hP hk
  by_cases h61 : k = 61
  · subst h61; exact w62c_61 hP hk
  have hl : k < 62 := (am_ws_at_q hk).1
  omega
set_option maxHeartbeats 2000000 in
theorem w62_D {A : Nat → Prop} {dA : Nat → ClassId} {ad : Nat → Nat} (hD : va_D A (w62 dA ad)) : va_D A (am_ws_q dA ad nb_M0) := by
  refine va_D_fst hD ?_
  have e : (am_ws_q dA ad nb_M0).map Prod.fst = (List.range 62).map ad := by
    apply List.ext_getElem?
    intro k
    rw [List.getElem?_map, List.getElem?_map]
    by_cases hk : k < 62
    · have h1 : k < am_sh_q.length := hk
      rw [am_ws_get_q (List.getElem?_eq_getElem h1), List.getElem?_range hk]
      rfl
    · have h1 : (am_ws_q dA ad nb_M0)[k]? = none := by
        cases hw : (am_ws_q dA ad nb_M0)[k]? with
        | none => rfl
        | some q => exact absurd (am_ws_at_q hw).1 hk
      rw [h1, List.getElem?_eq_none (by simpa using hk)]
      rfl
  rw [e]
  rfl
