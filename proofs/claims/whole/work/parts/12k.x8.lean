/-! FollowedPeaksModel's constructor, up to the call of plain (by gen_x8.py) -/
theorem b_X8 {D : va_G} {dA : Nat → ClassId} {E : State → Prop} {w0 : va_W} {sz q0 h0 : Nat} {Q : va_W → Prop} (h : w0[q0]? = some (h0, .inr (8, [.int 0, .null, .null, .null, .int 0, .null, .null, .null, .int 0, .null, .int 0, .int 0, .int 0, .int 0, .int 0, .null, .null, .null, .null, .int 0, .null, .int 0, .int 0]))) (kk : ∀ a1 a2 a3 a4 a5 a6 a7 a8 a9 a10 a11 a12, BW D dA E w0 sz (nb_R 12 12 1365 468) mX8_init 12 1365 102 [(0, .ref h0)] [] (wq w0 q0 h0 8 [.int 0, .ref a1, .ref a2, .ref a3, .int 0, .ref a4, .ref a5, .ref a6, .int 0, .ref a7, .int 0, .int 0, .int 0, .int 0, .int 0, .ref a8, .ref a9, .ref a10, .ref a11, .int 0, .ref a12, .int 0, .int 0] [(a1, .inl (dA 0, 101, .inl (fun _ => 0))), (a2, .inl (dA 0, 101, .inl (fun _ => 0))), (a3, .inl (dA 0, 606, .inl (fun _ => 0))), (a4, .inl (dA 0, 202, .inl (fun _ => 0))), (a5, .inl (dA 2, 2, .inl (fun _ => 0))), (a6, .inl (dA 0, 12, .inl (fun _ => 0))), (a7, .inl (dA 3, 140, .inl (fun _ => 0))), (a8, .inl (dA 0, 8, .inl (fun _ => 0))), (a9, .inl (dA 0, 48, .inl (fun _ => 0))), (a10, .inl (dA 0, 48, .inl (fun _ => 0))), (a11, .inl (dA 0, 48, .inl (fun _ => 0))), (a12, .inl (dA 0, 49, .inl (fun _ => 0)))]) 12 1365 Q) : BW D dA E w0 sz (nb_R 12 12 1365 468) mX8_init 12 1365 0 [(0, .ref h0)] [] w0 0 0 Q := by
  have hq0 : q0 < w0.length := (List.getElem?_eq_some_iff.mp h).1
  refine BW.w (wq_0 h) ?_
  refine nb_aload dX8_init_0 (j := 0) rfl ?_
  refine nb_obj dX8_init_1 (am_tm 629 (by decide +kernel) rfl) tm_oi tm_oc (by decide) ?_
  refine nb_aload dX8_init_4 (j := 0) rfl ?_
  refine nb_bipush dX8_init_5 (by decide) ?_
  refine nb_newF (i := 0) (j := 1) dX8_init_7 dX8_init_9 hq0 rfl rfl (Or.inl rfl) tm_ai (by decide) rfl (by decide) (by decide) rfl (by decide) (am_tm 634 (by decide +kernel) rfl) rfl rfl rfl (fun _ => rfl) (fun _ => rfl) (Nat.le_of_ble_eq_true rfl) (fun a1 => ?_)
  refine nb_aload dX8_init_12 (j := 0) rfl ?_
  refine nb_bipush dX8_init_13 (by decide) ?_
  refine nb_newF (i := 0) (j := 2) dX8_init_15 dX8_init_17 hq0 rfl rfl (Or.inl rfl) tm_ai (by decide) rfl (by decide) (by decide) rfl (by decide) (am_tm 635 (by decide +kernel) rfl) rfl rfl rfl (fun _ => rfl) (fun _ => rfl) (Nat.le_of_ble_eq_true rfl) (fun a2 => ?_)
  refine nb_aload dX8_init_20 (j := 0) rfl ?_
  refine nb_sipush dX8_init_21 (by decide) ?_
  refine nb_newF (i := 0) (j := 3) dX8_init_24 dX8_init_26 hq0 rfl rfl (Or.inl rfl) tm_ai (by decide) rfl (by decide) (by decide) rfl (by decide) (am_tm 636 (by decide +kernel) rfl) rfl rfl rfl (fun _ => rfl) (fun _ => rfl) (Nat.le_of_ble_eq_true rfl) (fun a3 => ?_)
  refine nb_aload dX8_init_29 (j := 0) rfl ?_
  refine nb_sipush dX8_init_30 (by decide) ?_
  refine nb_newF (i := 0) (j := 5) dX8_init_33 dX8_init_35 hq0 rfl rfl (Or.inl rfl) tm_ai (by decide) rfl (by decide) (by decide) rfl (by decide) (am_tm 638 (by decide +kernel) rfl) rfl rfl rfl (fun _ => rfl) (fun _ => rfl) (Nat.le_of_ble_eq_true rfl) (fun a4 => ?_)
  refine nb_aload dX8_init_38 (j := 0) rfl ?_
  refine nb_iconst dX8_init_39 ?_
  refine nb_newF (i := 2) (j := 6) dX8_init_40 dX8_init_42 hq0 rfl rfl (Or.inr (Or.inr (Or.inl rfl))) tm_az (by decide) rfl (by decide) (by decide) rfl (by decide) (am_tm 639 (by decide +kernel) rfl) rfl rfl rfl (fun _ => rfl) (fun _ => rfl) (Nat.le_of_ble_eq_true rfl) (fun a5 => ?_)
  refine nb_aload dX8_init_45 (j := 0) rfl ?_
  refine nb_bipush dX8_init_46 (by decide) ?_
  refine nb_newF (i := 0) (j := 7) dX8_init_48 dX8_init_50 hq0 rfl rfl (Or.inl rfl) tm_ai (by decide) rfl (by decide) (by decide) rfl (by decide) (am_tm 640 (by decide +kernel) rfl) rfl rfl rfl (fun _ => rfl) (fun _ => rfl) (Nat.le_of_ble_eq_true rfl) (fun a6 => ?_)
  refine nb_aload dX8_init_53 (j := 0) rfl ?_
  refine nb_sipush dX8_init_54 (by decide) ?_
  refine nb_newF (i := 3) (j := 9) dX8_init_57 dX8_init_59 hq0 rfl rfl (Or.inr (Or.inr (Or.inr rfl))) tm_ab (by decide) rfl (by decide) (by decide) rfl (by decide) (am_tm 642 (by decide +kernel) rfl) rfl rfl rfl (fun _ => rfl) (fun _ => rfl) (Nat.le_of_ble_eq_true rfl) (fun a7 => ?_)
  refine nb_aload dX8_init_62 (j := 0) rfl ?_
  refine nb_bipush dX8_init_63 (by decide) ?_
  refine nb_newF (i := 0) (j := 15) dX8_init_65 dX8_init_67 hq0 rfl rfl (Or.inl rfl) tm_ai (by decide) rfl (by decide) (by decide) rfl (by decide) (am_tm 648 (by decide +kernel) rfl) rfl rfl rfl (fun _ => rfl) (fun _ => rfl) (Nat.le_of_ble_eq_true rfl) (fun a8 => ?_)
  refine nb_aload dX8_init_70 (j := 0) rfl ?_
  refine nb_bipush dX8_init_71 (by decide) ?_
  refine nb_newF (i := 0) (j := 16) dX8_init_73 dX8_init_75 hq0 rfl rfl (Or.inl rfl) tm_ai (by decide) rfl (by decide) (by decide) rfl (by decide) (am_tm 649 (by decide +kernel) rfl) rfl rfl rfl (fun _ => rfl) (fun _ => rfl) (Nat.le_of_ble_eq_true rfl) (fun a9 => ?_)
  refine nb_aload dX8_init_78 (j := 0) rfl ?_
  refine nb_bipush dX8_init_79 (by decide) ?_
  refine nb_newF (i := 0) (j := 17) dX8_init_81 dX8_init_83 hq0 rfl rfl (Or.inl rfl) tm_ai (by decide) rfl (by decide) (by decide) rfl (by decide) (am_tm 650 (by decide +kernel) rfl) rfl rfl rfl (fun _ => rfl) (fun _ => rfl) (Nat.le_of_ble_eq_true rfl) (fun a10 => ?_)
  refine nb_aload dX8_init_86 (j := 0) rfl ?_
  refine nb_bipush dX8_init_87 (by decide) ?_
  refine nb_newF (i := 0) (j := 18) dX8_init_89 dX8_init_91 hq0 rfl rfl (Or.inl rfl) tm_ai (by decide) rfl (by decide) (by decide) rfl (by decide) (am_tm 651 (by decide +kernel) rfl) rfl rfl rfl (fun _ => rfl) (fun _ => rfl) (Nat.le_of_ble_eq_true rfl) (fun a11 => ?_)
  refine nb_aload dX8_init_94 (j := 0) rfl ?_
  refine nb_bipush dX8_init_95 (by decide) ?_
  refine nb_newF (i := 0) (j := 20) dX8_init_97 dX8_init_99 hq0 rfl rfl (Or.inl rfl) tm_ai (by decide) rfl (by decide) (by decide) rfl (by decide) (am_tm 653 (by decide +kernel) rfl) rfl rfl rfl (fun _ => rfl) (fun _ => rfl) (Nat.le_of_ble_eq_true rfl) (fun a12 => ?_)
  exact kk a1 a2 a3 a4 a5 a6 a7 a8 a9 a10 a11 a12
