/-! constructors that make arrays alone (by gen_init.py) -/
theorem b_X3 {D : va_G} {dA : Nat → ClassId} {w0 : va_W} {q0 h0 : Nat} (h : w0[q0]? = some (h0, .inr (3, [.int 0, .int 0, .null, .null]))) : BC D dA (fun _ => True) (nb_R 1 2 99 20) mX3_init 2 99 h0 w0 (fun w1 => ∃ a1 a2, w1 = wq w0 q0 h0 3 [.int 0, .int 0, .ref a1, .ref a2] [(a1, .inl (dA 0, 3, .inl (fun _ => 0))), (a2, .inl (dA 0, 96, .inl (fun _ => 0)))]) := by
  have hq0 : q0 < w0.length := (List.getElem?_eq_some_iff.mp h).1
  refine nb_body (by decide) (by decide) rfl rfl (fun sz => ?_)
  refine BW.w (wq_0 h) ?_
  refine nb_aload dX3_init_0 (j := 0) rfl ?_
  refine nb_obj dX3_init_1 (am_tm 31 (by decide +kernel) rfl) tm_oi tm_oc (by decide) ?_
  refine nb_aload dX3_init_4 (j := 0) rfl ?_
  refine nb_iconst dX3_init_5 ?_
  refine nb_newF (i := 0) (j := 2) dX3_init_6 dX3_init_8 hq0 rfl rfl (Or.inl rfl) tm_ai (by decide) rfl (by decide) (by decide) rfl (by decide) (am_tm 39 (by decide +kernel) rfl) rfl rfl rfl (fun _ => rfl) (fun _ => rfl) (Nat.le_of_ble_eq_true rfl) (fun a1 => ?_)
  refine nb_aload dX3_init_11 (j := 0) rfl ?_
  refine nb_bipush dX3_init_12 (by decide) ?_
  refine nb_newF (i := 0) (j := 3) dX3_init_14 dX3_init_16 hq0 rfl rfl (Or.inl rfl) tm_ai (by decide) rfl (by decide) (by decide) rfl (by decide) (am_tm 43 (by decide +kernel) rfl) rfl rfl rfl (fun _ => rfl) (fun _ => rfl) (Nat.le_of_ble_eq_true rfl) (fun a2 => ?_)
  exact nb_ret dX3_init_19 (by decide) (by decide) ⟨a1, a2, rfl⟩
theorem b_X5 {D : va_G} {dA : Nat → ClassId} {w0 : va_W} {q0 h0 : Nat} (h : w0[q0]? = some (h0, .inr (5, [.int 0, .null, .int 0, .int 0, .int 0]))) : BC D dA (fun _ => True) (nb_R 1 1 140 20) mX5_init 1 140 h0 w0 (fun w1 => ∃ a1, w1 = wq w0 q0 h0 5 [.int 0, .ref a1, .int 0, .int 0, .int 0] [(a1, .inl (dA 1, 140, .inl (fun _ => 0)))]) := by
  have hq0 : q0 < w0.length := (List.getElem?_eq_some_iff.mp h).1
  refine nb_body (by decide) (by decide) rfl rfl (fun sz => ?_)
  refine BW.w (wq_0 h) ?_
  refine nb_aload dX5_init_0 (j := 0) rfl ?_
  refine nb_obj dX5_init_1 (am_tm 59 (by decide +kernel) rfl) tm_oi tm_oc (by decide) ?_
  refine nb_aload dX5_init_4 (j := 0) rfl ?_
  refine nb_sipush dX5_init_5 (by decide) ?_
  refine nb_newF (i := 1) (j := 1) dX5_init_8 dX5_init_10 hq0 rfl rfl (Or.inr (Or.inl rfl)) tm_ac (by decide) rfl (by decide) (by decide) rfl (by decide) (am_tm 62 (by decide +kernel) rfl) rfl rfl rfl (fun _ => rfl) (fun _ => rfl) (Nat.le_of_ble_eq_true rfl) (fun a1 => ?_)
  exact nb_ret dX5_init_13 (by decide) (by decide) ⟨a1, rfl⟩
theorem b_X2 {D : va_G} {dA : Nat → ClassId} {w0 : va_W} {q0 h0 : Nat} (h : w0[q0]? = some (h0, .inr (2, [.null, .null, .null, .null]))) : BC D dA (fun _ => True) (nb_R 1 4 152 20) mX2_init 4 152 h0 w0 (fun w1 => ∃ a1 a2 a3 a4, w1 = wq w0 q0 h0 2 [.ref a1, .ref a2, .ref a3, .ref a4] [(a1, .inl (dA 0, 8, .inl (fun _ => 0))), (a2, .inl (dA 0, 48, .inl (fun _ => 0))), (a3, .inl (dA 0, 48, .inl (fun _ => 0))), (a4, .inl (dA 0, 48, .inl (fun _ => 0)))]) := by
  have hq0 : q0 < w0.length := (List.getElem?_eq_some_iff.mp h).1
  refine nb_body (by decide) (by decide) rfl rfl (fun sz => ?_)
  refine BW.w (wq_0 h) ?_
  refine nb_aload dX2_init_0 (j := 0) rfl ?_
  refine nb_obj dX2_init_1 (am_tm 100 (by decide +kernel) rfl) tm_oi tm_oc (by decide) ?_
  refine nb_aload dX2_init_4 (j := 0) rfl ?_
  refine nb_bipush dX2_init_5 (by decide) ?_
  refine nb_newF (i := 0) (j := 0) dX2_init_7 dX2_init_9 hq0 rfl rfl (Or.inl rfl) tm_ai (by decide) rfl (by decide) (by decide) rfl (by decide) (am_tm 101 (by decide +kernel) rfl) rfl rfl rfl (fun _ => rfl) (fun _ => rfl) (Nat.le_of_ble_eq_true rfl) (fun a1 => ?_)
  refine nb_aload dX2_init_12 (j := 0) rfl ?_
  refine nb_bipush dX2_init_13 (by decide) ?_
  refine nb_newF (i := 0) (j := 1) dX2_init_15 dX2_init_17 hq0 rfl rfl (Or.inl rfl) tm_ai (by decide) rfl (by decide) (by decide) rfl (by decide) (am_tm 105 (by decide +kernel) rfl) rfl rfl rfl (fun _ => rfl) (fun _ => rfl) (Nat.le_of_ble_eq_true rfl) (fun a2 => ?_)
  refine nb_aload dX2_init_20 (j := 0) rfl ?_
  refine nb_bipush dX2_init_21 (by decide) ?_
  refine nb_newF (i := 0) (j := 2) dX2_init_23 dX2_init_25 hq0 rfl rfl (Or.inl rfl) tm_ai (by decide) rfl (by decide) (by decide) rfl (by decide) (am_tm 107 (by decide +kernel) rfl) rfl rfl rfl (fun _ => rfl) (fun _ => rfl) (Nat.le_of_ble_eq_true rfl) (fun a3 => ?_)
  refine nb_aload dX2_init_28 (j := 0) rfl ?_
  refine nb_bipush dX2_init_29 (by decide) ?_
  refine nb_newF (i := 0) (j := 3) dX2_init_31 dX2_init_33 hq0 rfl rfl (Or.inl rfl) tm_ai (by decide) rfl (by decide) (by decide) rfl (by decide) (am_tm 111 (by decide +kernel) rfl) rfl rfl rfl (fun _ => rfl) (fun _ => rfl) (Nat.le_of_ble_eq_true rfl) (fun a4 => ?_)
  exact nb_ret dX2_init_36 (by decide) (by decide) ⟨a1, a2, a3, a4, rfl⟩
theorem b_X1 {D : va_G} {dA : Nat → ClassId} {w0 : va_W} {q0 h0 : Nat} (h : w0[q0]? = some (h0, .inr (1, [.null, .null, .null, .null, .int 0, .int 0, .int 0]))) : BC D dA (fun _ => True) (nb_R 1 4 67 20) mX1_init 4 67 h0 w0 (fun w1 => ∃ a1 a2 a3 a4, w1 = wq w0 q0 h0 1 [.ref a1, .ref a2, .ref a3, .ref a4, .int 0, .int 0, .int 0] [(a1, .inl (dA 0, 6, .inl (fun _ => 0))), (a2, .inl (dA 0, 6, .inl (fun _ => 0))), (a3, .inl (dA 0, 6, .inl (fun _ => 0))), (a4, .inl (dA 0, 49, .inl (fun _ => 0)))]) := by
  have hq0 : q0 < w0.length := (List.getElem?_eq_some_iff.mp h).1
  refine nb_body (by decide) (by decide) rfl rfl (fun sz => ?_)
  refine BW.w (wq_0 h) ?_
  refine nb_aload dX1_init_0 (j := 0) rfl ?_
  refine nb_obj dX1_init_1 (am_tm 129 (by decide +kernel) rfl) tm_oi tm_oc (by decide) ?_
  refine nb_aload dX1_init_4 (j := 0) rfl ?_
  refine nb_bipush dX1_init_5 (by decide) ?_
  refine nb_newF (i := 0) (j := 0) dX1_init_7 dX1_init_9 hq0 rfl rfl (Or.inl rfl) tm_ai (by decide) rfl (by decide) (by decide) rfl (by decide) (am_tm 130 (by decide +kernel) rfl) rfl rfl rfl (fun _ => rfl) (fun _ => rfl) (Nat.le_of_ble_eq_true rfl) (fun a1 => ?_)
  refine nb_aload dX1_init_12 (j := 0) rfl ?_
  refine nb_bipush dX1_init_13 (by decide) ?_
  refine nb_newF (i := 0) (j := 1) dX1_init_15 dX1_init_17 hq0 rfl rfl (Or.inl rfl) tm_ai (by decide) rfl (by decide) (by decide) rfl (by decide) (am_tm 132 (by decide +kernel) rfl) rfl rfl rfl (fun _ => rfl) (fun _ => rfl) (Nat.le_of_ble_eq_true rfl) (fun a2 => ?_)
  refine nb_aload dX1_init_20 (j := 0) rfl ?_
  refine nb_bipush dX1_init_21 (by decide) ?_
  refine nb_newF (i := 0) (j := 2) dX1_init_23 dX1_init_25 hq0 rfl rfl (Or.inl rfl) tm_ai (by decide) rfl (by decide) (by decide) rfl (by decide) (am_tm 133 (by decide +kernel) rfl) rfl rfl rfl (fun _ => rfl) (fun _ => rfl) (Nat.le_of_ble_eq_true rfl) (fun a3 => ?_)
  refine nb_aload dX1_init_28 (j := 0) rfl ?_
  refine nb_bipush dX1_init_29 (by decide) ?_
  refine nb_newF (i := 0) (j := 3) dX1_init_31 dX1_init_33 hq0 rfl rfl (Or.inl rfl) tm_ai (by decide) rfl (by decide) (by decide) rfl (by decide) (am_tm 134 (by decide +kernel) rfl) rfl rfl rfl (fun _ => rfl) (fun _ => rfl) (Nat.le_of_ble_eq_true rfl) (fun a4 => ?_)
  exact nb_ret dX1_init_36 (by decide) (by decide) ⟨a1, a2, a3, a4, rfl⟩
theorem b_X6 {D : va_G} {dA : Nat → ClassId} {w0 : va_W} {q0 h0 : Nat} (h : w0[q0]? = some (h0, .inr (6, [.int 0, .null, .null, .null, .null, .null, .null, .null, .null, .null]))) : BC D dA (fun _ => True) (nb_R 1 9 768 20) mX6_init 9 768 h0 w0 (fun w1 => ∃ a1 a2 a3 a4 a5 a6 a7 a8 a9, w1 = wq w0 q0 h0 6 [.int 0, .ref a1, .ref a2, .ref a3, .ref a4, .ref a5, .ref a6, .ref a7, .ref a8, .ref a9] [(a1, .inl (dA 0, 48, .inl (fun _ => 0))), (a2, .inl (dA 0, 48, .inl (fun _ => 0))), (a3, .inl (dA 0, 48, .inl (fun _ => 0))), (a4, .inl (dA 0, 48, .inl (fun _ => 0))), (a5, .inl (dA 0, 48, .inl (fun _ => 0))), (a6, .inl (dA 0, 48, .inl (fun _ => 0))), (a7, .inl (dA 0, 384, .inl (fun _ => 0))), (a8, .inl (dA 0, 48, .inl (fun _ => 0))), (a9, .inl (dA 0, 48, .inl (fun _ => 0)))]) := by
  have hq0 : q0 < w0.length := (List.getElem?_eq_some_iff.mp h).1
  refine nb_body (by decide) (by decide) rfl rfl (fun sz => ?_)
  refine BW.w (wq_0 h) ?_
  refine nb_aload dX6_init_0 (j := 0) rfl ?_
  refine nb_obj dX6_init_1 (am_tm 158 (by decide +kernel) rfl) tm_oi tm_oc (by decide) ?_
  refine nb_aload dX6_init_4 (j := 0) rfl ?_
  refine nb_bipush dX6_init_5 (by decide) ?_
  refine nb_newF (i := 0) (j := 1) dX6_init_7 dX6_init_9 hq0 rfl rfl (Or.inl rfl) tm_ai (by decide) rfl (by decide) (by decide) rfl (by decide) (am_tm 162 (by decide +kernel) rfl) rfl rfl rfl (fun _ => rfl) (fun _ => rfl) (Nat.le_of_ble_eq_true rfl) (fun a1 => ?_)
  refine nb_aload dX6_init_12 (j := 0) rfl ?_
  refine nb_bipush dX6_init_13 (by decide) ?_
  refine nb_newF (i := 0) (j := 2) dX6_init_15 dX6_init_17 hq0 rfl rfl (Or.inl rfl) tm_ai (by decide) rfl (by decide) (by decide) rfl (by decide) (am_tm 164 (by decide +kernel) rfl) rfl rfl rfl (fun _ => rfl) (fun _ => rfl) (Nat.le_of_ble_eq_true rfl) (fun a2 => ?_)
  refine nb_aload dX6_init_20 (j := 0) rfl ?_
  refine nb_bipush dX6_init_21 (by decide) ?_
  refine nb_newF (i := 0) (j := 3) dX6_init_23 dX6_init_25 hq0 rfl rfl (Or.inl rfl) tm_ai (by decide) rfl (by decide) (by decide) rfl (by decide) (am_tm 166 (by decide +kernel) rfl) rfl rfl rfl (fun _ => rfl) (fun _ => rfl) (Nat.le_of_ble_eq_true rfl) (fun a3 => ?_)
  refine nb_aload dX6_init_28 (j := 0) rfl ?_
  refine nb_bipush dX6_init_29 (by decide) ?_
  refine nb_newF (i := 0) (j := 4) dX6_init_31 dX6_init_33 hq0 rfl rfl (Or.inl rfl) tm_ai (by decide) rfl (by decide) (by decide) rfl (by decide) (am_tm 168 (by decide +kernel) rfl) rfl rfl rfl (fun _ => rfl) (fun _ => rfl) (Nat.le_of_ble_eq_true rfl) (fun a4 => ?_)
  refine nb_aload dX6_init_36 (j := 0) rfl ?_
  refine nb_bipush dX6_init_37 (by decide) ?_
  refine nb_newF (i := 0) (j := 5) dX6_init_39 dX6_init_41 hq0 rfl rfl (Or.inl rfl) tm_ai (by decide) rfl (by decide) (by decide) rfl (by decide) (am_tm 170 (by decide +kernel) rfl) rfl rfl rfl (fun _ => rfl) (fun _ => rfl) (Nat.le_of_ble_eq_true rfl) (fun a5 => ?_)
  refine nb_aload dX6_init_44 (j := 0) rfl ?_
  refine nb_bipush dX6_init_45 (by decide) ?_
  refine nb_newF (i := 0) (j := 6) dX6_init_47 dX6_init_49 hq0 rfl rfl (Or.inl rfl) tm_ai (by decide) rfl (by decide) (by decide) rfl (by decide) (am_tm 172 (by decide +kernel) rfl) rfl rfl rfl (fun _ => rfl) (fun _ => rfl) (Nat.le_of_ble_eq_true rfl) (fun a6 => ?_)
  refine nb_aload dX6_init_52 (j := 0) rfl ?_
  refine nb_sipush dX6_init_53 (by decide) ?_
  refine nb_newF (i := 0) (j := 7) dX6_init_56 dX6_init_58 hq0 rfl rfl (Or.inl rfl) tm_ai (by decide) rfl (by decide) (by decide) rfl (by decide) (am_tm 173 (by decide +kernel) rfl) rfl rfl rfl (fun _ => rfl) (fun _ => rfl) (Nat.le_of_ble_eq_true rfl) (fun a7 => ?_)
  refine nb_aload dX6_init_61 (j := 0) rfl ?_
  refine nb_bipush dX6_init_62 (by decide) ?_
  refine nb_newF (i := 0) (j := 8) dX6_init_64 dX6_init_66 hq0 rfl rfl (Or.inl rfl) tm_ai (by decide) rfl (by decide) (by decide) rfl (by decide) (am_tm 174 (by decide +kernel) rfl) rfl rfl rfl (fun _ => rfl) (fun _ => rfl) (Nat.le_of_ble_eq_true rfl) (fun a8 => ?_)
  refine nb_aload dX6_init_69 (j := 0) rfl ?_
  refine nb_bipush dX6_init_70 (by decide) ?_
  refine nb_newF (i := 0) (j := 9) dX6_init_72 dX6_init_74 hq0 rfl rfl (Or.inl rfl) tm_ai (by decide) rfl (by decide) (by decide) rfl (by decide) (am_tm 176 (by decide +kernel) rfl) rfl rfl rfl (fun _ => rfl) (fun _ => rfl) (Nat.le_of_ble_eq_true rfl) (fun a9 => ?_)
  exact nb_ret dX6_init_77 (by decide) (by decide) ⟨a1, a2, a3, a4, a5, a6, a7, a8, a9, rfl⟩
theorem b_X4 {D : va_G} {dA : Nat → ClassId} {w0 : va_W} {q0 h0 : Nat} (h : w0[q0]? = some (h0, .inr (4, [.int 0, .null, .null, .int 0, .null, .null]))) : BC D dA (fun _ => True) (nb_R 1 4 115 20) mX4_init 4 115 h0 w0 (fun w1 => ∃ a1 a2 a3 a4, w1 = wq w0 q0 h0 4 [.int 0, .ref a1, .ref a2, .int 0, .ref a3, .ref a4] [(a1, .inl (dA 0, 6, .inl (fun _ => 0))), (a2, .inl (dA 0, 6, .inl (fun _ => 0))), (a3, .inl (dA 0, 48, .inl (fun _ => 0))), (a4, .inl (dA 0, 55, .inl (fun _ => 0)))]) := by
  have hq0 : q0 < w0.length := (List.getElem?_eq_some_iff.mp h).1
  refine nb_body (by decide) (by decide) rfl rfl (fun sz => ?_)
  refine BW.w (wq_0 h) ?_
  refine nb_aload dX4_init_0 (j := 0) rfl ?_
  refine nb_obj dX4_init_1 (am_tm 204 (by decide +kernel) rfl) tm_oi tm_oc (by decide) ?_
  refine nb_aload dX4_init_4 (j := 0) rfl ?_
  refine nb_bipush dX4_init_5 (by decide) ?_
  refine nb_newF (i := 0) (j := 1) dX4_init_7 dX4_init_9 hq0 rfl rfl (Or.inl rfl) tm_ai (by decide) rfl (by decide) (by decide) rfl (by decide) (am_tm 207 (by decide +kernel) rfl) rfl rfl rfl (fun _ => rfl) (fun _ => rfl) (Nat.le_of_ble_eq_true rfl) (fun a1 => ?_)
  refine nb_aload dX4_init_12 (j := 0) rfl ?_
  refine nb_bipush dX4_init_13 (by decide) ?_
  refine nb_newF (i := 0) (j := 2) dX4_init_15 dX4_init_17 hq0 rfl rfl (Or.inl rfl) tm_ai (by decide) rfl (by decide) (by decide) rfl (by decide) (am_tm 208 (by decide +kernel) rfl) rfl rfl rfl (fun _ => rfl) (fun _ => rfl) (Nat.le_of_ble_eq_true rfl) (fun a2 => ?_)
  refine nb_aload dX4_init_20 (j := 0) rfl ?_
  refine nb_bipush dX4_init_21 (by decide) ?_
  refine nb_newF (i := 0) (j := 4) dX4_init_23 dX4_init_25 hq0 rfl rfl (Or.inl rfl) tm_ai (by decide) rfl (by decide) (by decide) rfl (by decide) (am_tm 211 (by decide +kernel) rfl) rfl rfl rfl (fun _ => rfl) (fun _ => rfl) (Nat.le_of_ble_eq_true rfl) (fun a3 => ?_)
  refine nb_aload dX4_init_28 (j := 0) rfl ?_
  refine nb_bipush dX4_init_29 (by decide) ?_
  refine nb_newF (i := 0) (j := 5) dX4_init_31 dX4_init_33 hq0 rfl rfl (Or.inl rfl) tm_ai (by decide) rfl (by decide) (by decide) rfl (by decide) (am_tm 213 (by decide +kernel) rfl) rfl rfl rfl (fun _ => rfl) (fun _ => rfl) (Nat.le_of_ble_eq_true rfl) (fun a4 => ?_)
  exact nb_ret dX4_init_36 (by decide) (by decide) ⟨a1, a2, a3, a4, rfl⟩
