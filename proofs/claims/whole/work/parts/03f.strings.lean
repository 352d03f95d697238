/-! String constants: their length and letters, by the JDK's own methods -/
abbrev mJ0_length : am_mm := (yJ0_length_8abf5, cJ0_length_8abf5, 1, some .int)
abbrev mJ0_coder : am_mm := (yJ0_coder_7d493, cJ0_coder_7d493, 1, some .byte)
abbrev mJ0_charAt : am_mm := (yJ0_charAt_5068e, cJ0_charAt_5068e, 2, some .char)
abbrev mJ0_isLatin1 : am_mm := (yJ0_isLatin1_aae02, cJ0_isLatin1_aae02, 1, some .boolean)
abbrev mJ0_checkIndex : am_mm := (yJ0_checkIndex_df160, cJ0_checkIndex_df160, 2, none)
abbrev mJ1_charAt : am_mm := (yJ1_charAt_3b067, cJ1_charAt_3b067, 2, some .char)
abbrev mJ3_checkIndex : am_mm := (yJ3_checkIndex_8e157, cJ3_checkIndex_8e157, 3, some .int)
/-- the letters of the four words -/
def am_chr (i : Nat) (j : Int) : Int := (([[102, 114, 97, 109, 101], [102, 108, 111, 111, 114], [114, 101, 97, 99, 104], [108, 101, 97, 115, 116]] : List (List Int)).getD i []).getD j.toNat 0
theorem am_chr_ok : ∀ i : Fin 4, ∀ j : Fin 5, (am_byt.getD i.val []).getD j.val 0 = Int32.ofInt (am_chr i.val (j.val : Int)) ∧ -128 ≤ am_chr i.val (j.val : Int) ∧ am_chr i.val (j.val : Int) < 128 ∧ 0 ≤ am_chr i.val (j.val : Int) := by decide +kernel
theorem am_sl_ok : ∀ i : Fin 4, ([5, 5, 5, 5] : List Nat).getD i.val 0 = 5 := by decide +kernel
section AMF
variable {d : Nat} {mm : am_mm} {pc : Nat} {L L' : List (Nat × am_v)} {st : List am_v} {M : am_M} {Q : Option Int → am_M → Prop}
theorem aw_sval {b i idx : Nat} (hi : i < 4) (hbi : b = 110 + i) (hd : decode mm.2.1 pc = .ok (.getfield idx, 3)) (hw : Cond.fieldLink mm.1.cls idx "java/lang/String" "value" "[B" ∈ am_T) (kk : AW d mm (pc + 3) L (.inr (120 + i) :: st) M Q) : AW d mm pc L (.inr b :: st) M Q := by
  intro p l e s m args below meth c D dA ad H locs ls C hP hS hl
  obtain ⟨hx, hb, hr, hml, hlk, hown, hts, hK, hinj, hC⟩ := id C
  subst hbi
  exact vk_getf hx hb (hC.2.2.2.2.1.1.1 i hi).2.2.1 hS hown (hts _ (am_mem hw)) (fun _ h => h) hd (kk p l e s m args below meth c D dA ad H locs ls C hP hS hl)
theorem aw_scod {b i idx : Nat} (hi : i < 4) (hbi : b = 110 + i) (hd : decode mm.2.1 pc = .ok (.getfield idx, 3)) (hw : Cond.fieldLink mm.1.cls idx "java/lang/String" "coder" "B" ∈ am_T) (kk : AW d mm (pc + 3) L (.inl 0 :: st) M Q) : AW d mm pc L (.inr b :: st) M Q := by
  intro p l e s m args below meth c D dA ad H locs ls C hP hS hl
  obtain ⟨hx, hb, hr, hml, hlk, hown, hts, hK, hinj, hC⟩ := id C
  subst hbi
  exact vk_getf hx hb (hC.2.2.2.2.1.1.1 i hi).2.1 hS hown (hts _ (am_mem hw)) (fun _ h => h) hd (kk p l e s m args below meth c D dA ad H locs ls C hP hS hl)
theorem aw_salen {b i : Nat} (hi : i < 4) (hbi : b = 120 + i) (hd : decode mm.2.1 pc = .ok (.arraylength, 1)) (kk : AW d mm (pc + 1) L (.inl 5 :: st) M Q) : AW d mm pc L (.inr b :: st) M Q := by
  intro p l e s m args below meth c D dA ad H locs ls C hP hS hl
  obtain ⟨hx, hb, hr, hml, hlk, hown, hts, hK, hinj, hC⟩ := id C
  subst hbi
  exact va_tlen hx hb (hC.2.2.2.2.1.1.1 i hi).2.2.2 hS (v := Int32.ofInt 5) (by rw [am_sl_ok ⟨i, hi⟩]; rfl) hd (kk p l e s m args below meth c D dA ad H locs ls C hP hS hl)
theorem aw_sbald {b i : Nat} {j : Int} (hi : i < 4) (hbi : b = 120 + i) (hj : 0 ≤ j ∧ j < 5) (hd : decode mm.2.1 pc = .ok (.baload, 1)) (kk : AW d mm (pc + 1) L (.inl (am_chr i j) :: st) M Q) : AW d mm pc L (.inl j :: .inr b :: st) M Q := by
  intro p l e s m args below meth c D dA ad H locs ls C hP hS hl
  obtain ⟨hx, hb, hr, hml, hlk, hown, hts, hK, hinj, hC⟩ := id C
  subst hbi
  obtain ⟨g1, g2⟩ := am_in (n := 5) (by decide) hj
  refine va_tb hx hb (hC.2.2.2.2.1.1.1 i hi).2.2.2 hS (v := .int (Int32.ofInt (am_chr i j))) (by rw [am_sl_ok ⟨i, hi⟩]; exact g1) ?_ hd (kk p l e s m args below meth c D dA ad H locs ls C hP hS hl)
  have h9 := (am_chr_ok ⟨i, hi⟩ ⟨j.toNat, by omega⟩).1
  simp only [show ((j.toNat : Nat) : Int) = j by omega] at h9
  rw [g2, h9]
theorem aw_gcs {idx : Nat} (hd : decode mm.2.1 pc = .ok (.getstatic idx, 3)) (hw : Cond.fieldLink mm.1.cls idx "java/lang/String" "COMPACT_STRINGS" "Z" ∈ am_T) (kk : AW d mm (pc + 3) L (.inl 1 :: st) M Q) : AW d mm pc L st M Q := by
  intro p l e s m args below meth c D dA ad H locs ls C hP hS hl
  obtain ⟨hx, hb, hr, hml, hlk, hown, hts, hK, hinj, hC⟩ := id C
  exact va_gets hx hb hC.2.2.2.2.2.1 hS hown (hts _ (am_mem hw)) (fun _ h => h) hd (kk p l e s m args below meth c D dA ad H locs ls C hP hS hl)
theorem aw_ldcS {idx a : Nat} (hR : ∀ (ad : Nat → Nat) (s : State), am_K ad s → ∃ tx, vk_R mm.1.cls idx tx (ad a) s) (hd : decode mm.2.1 pc = .ok (.ldc idx, 2)) (kk : AW d mm (pc + 2) L (.inr a :: st) M Q) : AW d mm pc L st M Q := by
  intro p l e s m args below meth c D dA ad H locs ls C hP hS hl
  obtain ⟨hx, hb, hr, hml, hlk, hown, hts, hK, hinj, hC⟩ := id C
  obtain ⟨tx, h9⟩ := hR ad s hC
  exact va_ldcS hx hb hown h9 hd (kk p l e s m args below meth c D dA ad H locs ls C hP hS hl)
theorem aw_invvS {d' : Nat} {mm' : am_mm} {b i n idx : Nat} {as rest st0 : List am_v} (hd : decode mm.2.1 pc = .ok (.invokevirtual idx, 3)) (hw : am_cvB mm.1.cls idx mm' n = true) (hdd : d' < d) (hi : i < 4) (hbi : b = 110 + i) (hq : mm'.1.cls = "java/lang/String") (hn : as.length = n) (hst : st0 = as.reverse ++ .inr b :: rest) (hrest : rest.length ≤ 8)
    (h : AC d' mm' (.inr b :: as) M (fun r M' => AW d mm (pc + 3) L ((r.map Sum.inl).toList ++ rest) M' Q)) : AW d mm pc L st0 M Q := by
  intro p l e s m args below meth c D dA ad H locs ls C hP hS hl
  obtain ⟨hx, hb, hr, hml, hlk, hown, hts, hK, hinj, hC⟩ := id C
  unfold am_cvB at hw
  simp only [Bool.and_eq_true, decide_eq_true_eq] at hw
  obtain ⟨⟨hw, w6⟩, w7⟩ := hw
  obtain ⟨w1, w2, w3, w4, w5⟩ := am_cB_spec hw
  subst hst
  have hG : GoodIn (am_w mm) (wsV mm.1.cls idx mm'.1.cls mm'.1 (am_w mm')) := by
    intro w hw
    rcases List.mem_append.mp hw with hw | hw
    · simp only [List.mem_cons, List.not_mem_nil, or_false] at hw
      rcases hw with rfl | rfl | rfl | rfl
      · exact ⟨am_mem w1, am_goodT w1⟩
      · exact ⟨am_mem w6, am_goodT w6⟩
      · exact ⟨am_mem w7, am_goodT w7⟩
      · exact ⟨am_mem w2, am_goodT w2⟩
    · exact am_good w3 w hw
  have hrun := va_runV (As := as.map (am_val ad)) (rest := rest.map (am_val ad)) (g := F0 m pc ls ((as.reverse ++ .inr b :: rest).map (am_val ad))) (locs := locs) (cells := 0) (slots := 0) (below := below) (e := e) (meth := meth) (R := am_room d) ⟨hx, hb, hml, hown, hts⟩ (h l D dA ad hinj) (cwV (R := am_room d) n hts hG rfl rfl rfl ⟨rfl, w4⟩ ⟨hdd, by show 8 + (_ + 11) + 39 * d' ≤ 39 * d; omega⟩)
    ⟨am_blind, by rw [hq, hbi]; exact vk_recv (adK := fun i => ad (110 + i)) (i := i) hC.2.2.2.2.1.1 hi hS, am_pre_go (av := (.inr b :: as : List am_v).map (am_val ad)) C hP hS⟩ rfl (by simpa using hn) hl.1 (by simp [am_val]) (lv_room (by rw [am_cats]; exact hrest)) hd ⟨Nat.le_refl _, Nat.le_refl _⟩
  refine am_go hrun hS (fun r M' H1 locs1 hQ hP1 hS1 => ?_)
  rw [am_ret]
  exact hQ p l e s m args below meth c D dA ad H1 locs1 ls C hP1 hS1 hl
end AMF
theorem am_w9 : Cond.fieldLink "java/lang/String" 9 "java/lang/String" "value" "[B" ∈ am_T := by decide +kernel
theorem am_w15 : Cond.fieldLink "java/lang/String" 15 "java/lang/String" "coder" "B" ∈ am_T := by decide +kernel
theorem am_w38 : Cond.fieldLink "java/lang/String" 38 "java/lang/String" "COMPACT_STRINGS" "Z" ∈ am_T := by decide +kernel
theorem am_w1053 : Cond.fieldLink "java/lang/String" 1053 "jdk/internal/util/Preconditions" "SIOOBE_FORMATTER" "Ljava/util/function/BiFunction;" ∈ am_T := by decide +kernel
theorem am_c335 : am_cvB "java/lang/String" 335 mJ0_coder 0 = true := by decide +kernel
theorem am_c492 : am_cvB "java/lang/String" 492 mJ0_isLatin1 0 = true := by decide +kernel
theorem am_c495 : am_csB "java/lang/String" 495 mJ1_charAt 2 = true := by decide +kernel
theorem am_c9 : am_csB "java/lang/StringLatin1" 9 mJ0_checkIndex 2 = true := by decide +kernel
theorem am_c1059 : am_csB "java/lang/String" 1059 mJ3_checkIndex 3 = true := by decide +kernel
theorem sc_coder {d i : Nat} {M : am_M} {Q : Option Int → am_M → Prop} (hi : i < 4) (h : Q (some 0) M) : AC d mJ0_coder [.inr (110 + i)] M Q := by
  refine aw_body (by decide) (Nat.le_of_ble_eq_true rfl) rfl ?_
  refine aw_gcs dJ0_coder_7d493_0 am_w38 ?_
  refine aw_if_eq dJ0_coder_7d493_3 (tgt := 13) rfl (by decide) (fun c => absurd c (by decide)) (fun c => ?_)
  refine aw_aload_n dJ0_coder_7d493_6 rfl (j := 0) rfl ?_
  refine aw_scod hi rfl dJ0_coder_7d493_7 am_w15 ?_
  refine aw_goto dJ0_coder_7d493_10 (tgt := 14) rfl ?_
  exact aw_nret dJ0_coder_7d493_14 rfl (by decide +kernel) h
theorem sc_length {d i : Nat} {M : am_M} {Q : Option Int → am_M → Prop} (hi : i < 4) (h : Q (some 5) M) : AC (d + 1) mJ0_length [.inr (110 + i)] M Q := by
  refine aw_body (by decide) (Nat.le_of_ble_eq_true rfl) rfl ?_
  refine aw_aload_n dJ0_length_8abf5_0 rfl (j := 0) rfl ?_
  refine aw_sval hi rfl dJ0_length_8abf5_1 am_w9 ?_
  refine aw_salen hi rfl dJ0_length_8abf5_4 ?_
  refine aw_aload_n dJ0_length_8abf5_5 rfl (j := 0) rfl ?_
  refine aw_invvS (d' := d) (as := []) (rest := [.inl 5]) dJ0_length_8abf5_6 am_c335 (Nat.lt_succ_self d) hi rfl rfl rfl rfl (by decide) (sc_coder hi ?_)
  refine aw_ishr0 dJ0_length_8abf5_9 ?_
  exact aw_iret dJ0_length_8abf5_10 rfl h
theorem sc_latin {d i : Nat} {M : am_M} {Q : Option Int → am_M → Prop} (hi : i < 4) (h : Q (some 1) M) : AC d mJ0_isLatin1 [.inr (110 + i)] M Q := by
  refine aw_body (by decide) (Nat.le_of_ble_eq_true rfl) rfl ?_
  refine aw_gcs dJ0_isLatin1_aae02_0 am_w38 ?_
  refine aw_if_eq dJ0_isLatin1_aae02_3 (tgt := 17) rfl (by decide) (fun c => absurd c (by decide)) (fun c => ?_)
  refine aw_aload_n dJ0_isLatin1_aae02_6 rfl (j := 0) rfl ?_
  refine aw_scod hi rfl dJ0_isLatin1_aae02_7 am_w15 ?_
  refine aw_if_ne dJ0_isLatin1_aae02_10 (tgt := 17) rfl (by decide) (fun c => absurd rfl c) (fun c => ?_)
  refine aw_iconst dJ0_isLatin1_aae02_13 ?_
  refine aw_goto dJ0_isLatin1_aae02_14 (tgt := 18) rfl ?_
  exact aw_zret dJ0_isLatin1_aae02_18 rfl (Or.inr rfl) h
/-- Preconditions.checkIndex of an index that is in range, with any third argument -/
theorem sc_pci {l : Launch} {D : va_G} {dA : Nat → ClassId} {ad : Nat → Nat} (hinj : am_inj ad) {d : Nat} {M : am_M} {i n : Int} {v : Value} (hv : v.category = 1) (hi : 0 ≤ i ∧ i < n ∧ n < 1000) : Met l yJ3_checkIndex_8e157 (am_w mJ3_checkIndex) (am_room d) (va_Pc [.int (Int32.ofInt i), .int (Int32.ofInt n), v] (am_Pre D dA ad M)) (am_Qc D dA ad (fun r M' => r = some i ∧ M' = M)) 0 0 (am_A ad) := by
  refine Met.ofW (cc := mJ3_checkIndex.2.1) (maxL := 3) (ret := some .int) (by decide) rfl ?_
  intro p e s m args below meth c s₁ B hml hv9
  obtain ⟨rfl, hP, hK, hC⟩ := hv9
  have hts := atoms_spec (ws := am_w mJ3_checkIndex) B.pre
  have hown : s.vm.findClass mJ3_checkIndex.1.cls = some m.cls := findClass_of_methodNamed B.named
  have hl := lv_entry [.int (Int32.ofInt i), .int (Int32.ofInt n), v] (n := 3) (by simp [lg_sl, hv, show ∀ z, (Value.int z).category = 1 from fun _ => rfl])
  rw [lg_entry_eq]
  generalize (lg_sl [.int (Int32.ofInt i), .int (Int32.ofInt n), v] ++ List.replicate (3 - (lg_sl [.int (Int32.ofInt i), .int (Int32.ofInt n), v]).length) Slot.unset).toArray = ls at hl ⊢
  have hb0 : AW d mJ3_checkIndex 0 [(0, .inl i), (1, .inl n)] [] M (fun r M' => r = some i ∧ M' = M) := by
    refine aw_iload_n dJ3_checkIndex_8e157_0 rfl (j := 0) rfl ?_
    refine aw_if_lt dJ3_checkIndex_8e157_1 (tgt := 9) rfl (by omega) (fun c => absurd c (by omega)) (fun c => ?_)
    refine aw_iload_n dJ3_checkIndex_8e157_4 rfl (j := 0) rfl ?_
    refine aw_iload_n dJ3_checkIndex_8e157_5 rfl (j := 1) rfl ?_
    refine aw_icmp_lt dJ3_checkIndex_8e157_6 (tgt := 16) rfl (by omega) (by omega) (fun c => ?_) (fun c => absurd c (by omega))
    refine aw_iload_n dJ3_checkIndex_8e157_16 rfl (j := 0) rfl ?_
    exact aw_iret dJ3_checkIndex_8e157_17 rfl ⟨rfl, rfl⟩
  exact hb0 p l e s m _ below meth c D dA ad s.heap [] ls ⟨B.exec, B.bytes, B.returns, hml, B.notSynchronized, hown, hts, hK, hinj, hC⟩ hP va_S.rf (lv_sub hl [0, 1] rfl)
theorem sc_check {d : Nat} {M : am_M} {Q : Option Int → am_M → Prop} {i n : Int} (hi : 0 ≤ i ∧ i < n ∧ n < 1000) (h : Q none M) : AC (d + 1) mJ0_checkIndex [.inl i, .inl n] M Q := by
  refine aw_body (by decide) (Nat.le_of_ble_eq_true rfl) rfl ?_
  refine aw_iload_n dJ0_checkIndex_df160_0 rfl (j := 0) rfl ?_
  refine aw_iload_n dJ0_checkIndex_df160_1 rfl (j := 1) rfl ?_
  intro p l e s m args below meth c D dA ad H locs ls C hP hS hl
  obtain ⟨hx, hb, hr, hml, hlk, hown, hts, hK, hinj, hC⟩ := id C
  have key : ∀ v : Value, v.category = 1 → va_Z "jdk/internal/util/Preconditions" "SIOOBE_FORMATTER" "Ljava/util/function/BiFunction;" v (am_A ad) s s.heap → W p l e (am_room (d + 1)) s m args below meth c H locs 0 0 (MQ below (am_Qc D dA ad Q) args s 0 0 (am_A ad)) (F0 m (0 + 1 + 1) ls [.int (Int32.ofInt n), .int (Int32.ofInt i)]) := by
    intro v hv hZ
    refine va_gets hx hb hZ hS hown (hts _ (am_mem am_w1053)) (fun _ h => h) dJ0_checkIndex_df160_2 ?_
    have hw := am_c1059
    unfold am_csB at hw
    simp only [Bool.and_eq_true, decide_eq_true_eq] at hw
    obtain ⟨hw, w6⟩ := hw
    obtain ⟨w1, w2, w3, w4, w5⟩ := am_cB_spec hw
    have hG : GoodIn (am_w mJ0_checkIndex) (va_wsS mJ0_checkIndex.1.cls 1059 mJ3_checkIndex.1 (am_w mJ3_checkIndex)) := by
      intro w hw
      rcases List.mem_append.mp hw with hw | hw
      · simp only [List.mem_cons, List.not_mem_nil, or_false] at hw
        rcases hw with rfl | rfl | rfl
        · exact ⟨am_mem w1, am_goodT w1⟩
        · exact ⟨am_mem w6, am_goodT w6⟩
        · exact ⟨am_mem w2, am_goodT w2⟩
      · exact am_good w3 w hw
    have hrun := va_runS (As := [.int (Int32.ofInt i), .int (Int32.ofInt n), v]) (rest := []) (g := F0 m 5 ls [v, .int (Int32.ofInt n), .int (Int32.ofInt i)]) (locs := locs) (cells := 0) (slots := 0) (below := below) (e := e) (meth := meth) (R := am_room (d + 1)) ⟨hx, hb, hml, hown, hts⟩ (sc_pci (l := l) (D := D) (dA := dA) hinj (d := d) (M := M) hv hi) (va_cwS (R := am_room (d + 1)) 3 hts hG rfl rfl rfl w4 ⟨Nat.le_refl _, by show 8 + (3 + 11) + 39 * d ≤ 39 * (d + 1); omega⟩)
      ⟨am_blind, am_pre_go (av := [.int (Int32.ofInt i), .int (Int32.ofInt n), v]) C hP hS⟩ rfl rfl hl.1 rfl (lv_room (by decide)) dJ0_checkIndex_df160_5 ⟨Nat.le_refl _, Nat.le_refl _⟩
    refine am_go hrun hS (fun r M' H1 locs1 hQ hP1 hS1 => ?_)
    obtain ⟨rfl, rfl⟩ := hQ
    have hz : AW (d + 1) mJ0_checkIndex 8 [(0, .inl i), (1, .inl n)] [.inl i] M' Q := aw_pop dJ0_checkIndex_df160_8 (aw_vret dJ0_checkIndex_df160_9 rfl h)
    exact hz p l e s m args below meth c D dA ad H1 locs1 ls C hP1 hS1 hl
  rcases hC.2.2.2.2.2.2 with hZ | ⟨t, hZ⟩
  · exact key .null rfl hZ
  · exact key (.ref t) rfl hZ
theorem sc_latinAt {d i : Nat} {M : am_M} {Q : Option Int → am_M → Prop} {j : Int} (hi : i < 4) (hj : 0 ≤ j ∧ j < 5) (h : Q (some (am_chr i j)) M) : AC (d + 2) mJ1_charAt [.inr (120 + i), .inl j] M Q := by
  have h9 := (am_chr_ok ⟨i, hi⟩ ⟨j.toNat, by omega⟩).2
  simp only [show ((j.toNat : Nat) : Int) = j by omega] at h9
  refine aw_body (by decide) (Nat.le_of_ble_eq_true rfl) rfl ?_
  refine aw_iload_n dJ1_charAt_3b067_0 rfl (j := 1) rfl ?_
  refine aw_aload_n dJ1_charAt_3b067_1 rfl (j := 0) rfl ?_
  refine aw_salen hi rfl dJ1_charAt_3b067_2 ?_
  refine aw_invs (d' := d + 1) (as := [.inl j, .inl 5]) (rest := []) dJ1_charAt_3b067_3 am_c9 (Nat.lt_succ_self _) rfl rfl (by decide) (sc_check ⟨hj.1, hj.2, by decide⟩ ?_)
  refine aw_aload_n dJ1_charAt_3b067_6 rfl (j := 0) rfl ?_
  refine aw_iload_n dJ1_charAt_3b067_7 rfl (j := 1) rfl ?_
  refine aw_sbald hi rfl hj dJ1_charAt_3b067_8 ?_
  refine aw_sipush dJ1_charAt_3b067_9 (by decide) ?_
  refine aw_iand255 dJ1_charAt_3b067_12 ⟨h9.1, h9.2.1⟩ ?_
  rw [show am_chr i j % 256 = am_chr i j by omega]
  refine aw_i2c dJ1_charAt_3b067_13 (by omega) ?_
  exact aw_nret dJ1_charAt_3b067_14 rfl (am_byte (by omega)).2.2.2 h
theorem sc_charAt {d i : Nat} {M : am_M} {Q : Option Int → am_M → Prop} {j : Int} (hi : i < 4) (hj : 0 ≤ j ∧ j < 5) (h : Q (some (am_chr i j)) M) : AC (d + 3) mJ0_charAt [.inr (110 + i), .inl j] M Q := by
  have h9 := (am_chr_ok ⟨i, hi⟩ ⟨j.toNat, by omega⟩).2
  simp only [show ((j.toNat : Nat) : Int) = j by omega] at h9
  refine aw_body (by decide) (Nat.le_of_ble_eq_true rfl) rfl ?_
  refine aw_aload_n dJ0_charAt_5068e_0 rfl (j := 0) rfl ?_
  refine aw_invvS (d' := d + 2) (as := []) (rest := []) dJ0_charAt_5068e_1 am_c492 (Nat.lt_succ_self _) hi rfl rfl rfl rfl (by decide) (sc_latin hi ?_)
  refine aw_if_eq dJ0_charAt_5068e_4 (tgt := 16) rfl (by decide) (fun c => absurd c (by decide)) (fun c => ?_)
  refine aw_aload_n dJ0_charAt_5068e_7 rfl (j := 0) rfl ?_
  refine aw_sval hi rfl dJ0_charAt_5068e_8 am_w9 ?_
  refine aw_iload_n dJ0_charAt_5068e_11 rfl (j := 1) rfl ?_
  refine aw_invs (d' := d + 2) (as := [.inr (120 + i), .inl j]) (rest := []) dJ0_charAt_5068e_12 am_c495 (Nat.lt_succ_self _) rfl rfl (by decide) (sc_latinAt hi hj ?_)
  exact aw_nret dJ0_charAt_5068e_15 rfl (am_byte (by omega)).2.2.2 h
