/-! FollowedPeaks's constructor -/
theorem b_FP {D : va_G} {dA : Nat → ClassId} {sz0 h0 : Nat} {st : Nat → Nat} (hh : sz0 ≤ h0) : BC D dA (nb_E7 (nb_KK sz0 st)) (nb_R 12 61 2316 468) mX7_init 61 2316 h0 [(h0, .inr (7, [.null, .null, .null, .null, .null, .null, .null, .null, .null, .null, .int 0, .int 0]))] (fun w1 => ∃ lst M', lst.length = 62 ∧ lst.getD 0 0 = h0 ∧ w1 = am_ws_q dA (nb_ad lst st) M' ∧ CI sg0 (fun _ => 0) 0 0 (fun _ => sg0) (fun _ => 0) (fun _ => sg0) (fun _ => 0) (fun _ => 0) 0 M') := by
  have hA : ∀ sz, sz0 ≤ sz → ∀ q, va_A [(h0, .inr (7, [.null, .null, .null, .null, .null, .null, .null, .null, .null, .null, .int 0, .int 0]))] sz q → sz0 ≤ q := by
    intro sz hs q hq
    rcases hq with ⟨k, e, h⟩ | h
    · cases k with
      | zero => cases h; exact hh
      | succ k => cases h
    · omega
  refine nb_body (by decide) (by decide) rfl rfl (fun sz => b_X7 (fun sc sc_1 sc_2 dr dr_1 dr_2 tx tx_1 hi hq s0 s0_1 s0_2 s1 s1_1 s1_2 s2 s2_1 s2_2 s3 s3_1 s3_2 s4 s4_1 s4_2 s5 s5_1 s5_2 im ik pk pk_1 pk_2 pk_3 pk_4 jo jo_1 jo_2 jo_3 jo_4 tr tr_1 tr_2 tr_3 tr_4 tr_5 tr_6 tr_7 tr_8 tr_9 se se_1 se_2 se_3 se_4 t0 t0_1 t0_2 t1 t1_1 t1_2 => ?_))
  generalize hlst : [h0, sc, sc_1, sc_2, dr, dr_1, dr_2, tx, tx_1, hi, hq, s0, s0_1, s0_2, s1, s1_1, s1_2, s2, s2_1, s2_2, s3, s3_1, s3_2, s4, s4_1, s4_2, s5, s5_1, s5_2, im, ik, pk, pk_1, pk_2, pk_3, pk_4, jo, jo_1, jo_2, jo_3, jo_4, tr, tr_1, tr_2, tr_3, tr_4, tr_5, tr_6, tr_7, tr_8, tr_9, se, se_1, se_2, se_3, se_4, t0, t0_1, t0_2, t1, t1_1, t1_2] = lst
  have hl : lst.length = 62 := by rw [← hlst]; rfl
  have h00 : nb_ad lst st 0 = h0 := by rw [← hlst]; rfl
  refine BW.conv (ws' := am_ws_q dA (nb_ad lst st) nb_M0) (fun H hP => w62_P (by rw [← hlst]; exact hP)) (fun A hD => w62_D (by rw [← hlst]; exact hD)) ?_
  have hst : ∀ a, 100 ≤ a → nb_ad lst st a = st a := fun a ha => if_pos ha
  rw [← h00]
  refine nb_aload (a := nb_ad lst st 0) dX7_init_139 (j := 1) rfl ?_
  refine nb_get (ci := 7) (j := 0) (q0 := 0) (v := .ref (nb_ad lst st 1)) (fs := ([some 1, some 4, some 7, some 9, some 29, some 30, some 31, some 36, some 41, some 51, none, none] : List (Option Nat)).mapIdx (fun k o => am_fv (nb_ad lst st) nb_M0 0 k o)) dX7_init_140 rfl (by decide) (am_tm 330 (by decide +kernel) rfl) (am_ws_get_q (dA := dA) (ad := nb_ad lst st) (M := nb_M0) (a := 0) (s := .inr (7, [some 1, some 4, some 7, some 9, some 29, some 30, some 31, some 36, some 41, some 51, none, none])) rfl) rfl ?_
  refine nb_vq (b := 1) (ci := 3) (d' := 2) (sz0 := sz0) (st := st) dX7_init_143 cv_X7_73 rfl rfl rfl (by decide) (by decide) (fun s hs => hs.2.2.2.2.2.2.2) hst (by rw [h00]; exact hA sz) (by decide) (k_makeFirst_q (d := 0) (fun M1 fr1 hs1 => ⟨rfl, ?_⟩))
  refine nb_aload (a := nb_ad lst st 0) dX7_init_146 (j := 1) rfl ?_
  refine nb_vq (b := 0) (ci := 7) (d' := 6) (sz0 := sz0) (st := st) dX7_init_147 cv_X7_76 rfl rfl rfl (by decide) (by decide) (fun s hs => hs.2.2.2.2.2.2.2) hst (by rw [h00]; exact hA sz) (by decide) (k_followAnew_q (d := 0) sg0_ok hs1 (fun M2 fr2 fj2 hL hb => ⟨rfl, ?_⟩))
  refine nb_ret dX7_init_150 (by decide) (by decide) ⟨lst, M2, hl, ?_, rfl, ci_first hL hb (fun x h0 hx => ?_)⟩
  · unfold nb_ad; rw [if_neg (by decide)]
  · rw [fr2 x h0 (by omega)]; exact fr1 x (by omega) (by omega) (by omega)
