/-! methods, and what the tables say of the links that they use -/
theorem am_tm (i : Nat) {w : Cond} (h : tables_1[i]? = some w) (hg : goodWord w = true) : w ∈ am_T := List.mem_filter.mpr ⟨List.mem_append_right _ (List.mem_of_getElem? h), hg⟩
theorem am_tp (i : Nat) {y : MethodName} {n : Nat} (h : lw_privs[i]? = some (y, n)) (hg : goodWord (Cond.selects y.cls y y) = true) : Cond.selects y.cls y y ∈ am_T := List.mem_filter.mpr ⟨List.mem_append_left _ (List.mem_map.mpr ⟨(y, n), List.mem_of_getElem? h, rfl⟩), hg⟩
theorem am_fl_of {own : String} {idx ci k : Nat} {q : vw_C} (hq : am_cl[ci]? = some q) (hk : k < q.2.2) (h : Cond.fieldLink own idx (q.2.1 k).1 (q.2.1 k).2.1 (q.2.1 k).2.2.1 ∈ am_T) : am_flB own idx ci k = true := by
  unfold am_flB
  rw [hq]
  simp [hk, h]
theorem am_pf_of {own : String} {idx ci k : Nat} {q : vw_C} (hq : am_cl[ci]? = some q) (hk : k < q.2.2) (h : Cond.fieldLink own idx (q.2.1 k).1 (q.2.1 k).2.1 (q.2.1 k).2.2.1 ∈ am_T) (h1 : (q.2.1 k).2.2.2 = false) (h2 : parseFieldDescriptor (q.2.1 k).2.2.1 = some .int) : am_pfB own idx ci k = true := by
  unfold am_pfB
  rw [am_fl_of hq hk h, hq]
  simp [h1, h2]
def am_yB (y : am_mm) (n : Nat) : Prop := Cond.initialized y.1.cls ∈ am_T ∧ Cond.code y.1 y.2.1 y.2.2.1 y.2.2.2 ∈ am_T ∧ (y.1.cls ≠ "java/lang/invoke/MethodHandle" ∧ y.1.cls ≠ "java/lang/invoke/VarHandle" ∧ (parseMethodDescriptor y.1.desc).map (fun d => d.parameters.length) = some n) ∧ y.2.2.1 ≤ 20
theorem am_cv_of {own : String} {idx n : Nat} {y : am_mm} (h : am_yB y n) (h1 : Cond.instanceMethod y.1 ∈ am_T) (h2 : Cond.selects y.1.cls y.1 y.1 ∈ am_T) (h3 : Cond.methodLink own idx y.1 ∈ am_T) : am_cvB own idx y n = true := by
  obtain ⟨a, b, c, e⟩ := h
  unfold am_cvB am_cB
  simp only [Bool.and_eq_true, decide_eq_true_eq]
  exact ⟨⟨⟨⟨⟨⟨h3, a⟩, b⟩, c⟩, e⟩, h1⟩, h2⟩
theorem am_cs_of {own : String} {idx n : Nat} {y : am_mm} (h : am_yB y n) (h1 : Cond.static y.1 ∈ am_T) (h3 : Cond.methodLink own idx y.1 ∈ am_T) : am_csB own idx y n = true := by
  obtain ⟨a, b, c, e⟩ := h
  unfold am_csB am_cB
  simp only [Bool.and_eq_true, decide_eq_true_eq]
  exact ⟨⟨⟨⟨⟨h3, a⟩, b⟩, c⟩, e⟩, h1⟩
abbrev mX0_init : am_mm := (yX0_init, cX0_init, 2, none)
abbrev mX0_remember : am_mm := (yX0_remember, cX0_remember, 2, none)
abbrev mX0_giveLatest : am_mm := (yX0_giveLatest, cX0_giveLatest, 2, none)
abbrev mX0_loseOldest : am_mm := (yX0_loseOldest, cX0_loseOldest, 3, none)
abbrev mX1_init : am_mm := (yX1_init, cX1_init, 1, none)
abbrev mX1_join : am_mm := (yX1_join, cX1_join, 4, some .int)
abbrev mX1_copyPitches : am_mm := (yX1_copyPitches, cX1_copyPitches, 4, some .int)
abbrev mX1_scoreAll : am_mm := (yX1_scoreAll, cX1_scoreAll, 4, none)
abbrev mX1_pairedScore : am_mm := (yX1_pairedScore, cX1_pairedScore, 4, some .int)
abbrev mX1_chooseMates : am_mm := (yX1_chooseMates, cX1_chooseMates, 5, some .int)
abbrev mX1_lowestMate : am_mm := (yX1_lowestMate, cX1_lowestMate, 4, some .int)
abbrev mX2_init : am_mm := (yX2_init, cX2_init, 1, none)
abbrev mX2_find : am_mm := (yX2_find, cX2_find, 4, none)
abbrev mX2_lookAt : am_mm := (yX2_lookAt, cX2_lookAt, 9, none)
abbrev mX3_init : am_mm := (yX3_init, cX3_init, 1, none)
abbrev mX3_makeFirst : am_mm := (yX3_makeFirst, cX3_makeFirst, 1, none)
abbrev mX3_makeEmpty : am_mm := (yX3_makeEmpty, cX3_makeEmpty, 1, none)
abbrev mX3_takeFrom : am_mm := (yX3_takeFrom, cX3_takeFrom, 2, none)
abbrev mX3_hasFrame : am_mm := (yX3_hasFrame, cX3_hasFrame, 2, some .boolean)
abbrev mX3_hasPlace : am_mm := (yX3_hasPlace, cX3_hasPlace, 3, some .boolean)
abbrev mX3_levelAt : am_mm := (yX3_levelAt, cX3_levelAt, 3, some .int)
abbrev mX3_putLevel : am_mm := (yX3_putLevel, cX3_putLevel, 4, none)
abbrev mX4_init : am_mm := (yX4_init, cX4_init, 1, none)
abbrev mX4_append : am_mm := (yX4_append, cX4_append, 3, none)
abbrev mX4_gather : am_mm := (yX4_gather, cX4_gather, 3, none)
abbrev mX4_fits : am_mm := (yX4_fits, cX4_fits, 4, some .boolean)
abbrev mX4_mostAlike : am_mm := (yX4_mostAlike, cX4_mostAlike, 6, some .int)
abbrev mX5_init : am_mm := (yX5_init, cX5_init, 1, none)
abbrev mX5_append : am_mm := (yX5_append, cX5_append, 2, none)
abbrev mX5_readAll : am_mm := (yX5_readAll, cX5_readAll, 4, some .int)
abbrev mX5_readItem : am_mm := (yX5_readItem, cX5_readItem, 3, some .boolean)
abbrev mX5_readFrame : am_mm := (yX5_readFrame, cX5_readFrame, 4, some .boolean)
abbrev mX5_readSetting : am_mm := (yX5_readSetting, cX5_readSetting, 5, some .boolean)
abbrev mX5_namedSetting : am_mm := (yX5_namedSetting, cX5_namedSetting, 1, some .int)
abbrev mX5_nextToken : am_mm := (yX5_nextToken, cX5_nextToken, 2, none)
abbrev mX5_kindAt : am_mm := (yX5_kindAt, cX5_kindAt, 3, some .int)
abbrev mX5_figureAt : am_mm := (yX5_figureAt, cX5_figureAt, 2, some .int)
abbrev mX5_isWord : am_mm := (yX5_isWord, cX5_isWord, 3, some .boolean)
abbrev mX6_init : am_mm := (yX6_init, cX6_init, 1, none)
abbrev mX6_follow : am_mm := (yX6_follow, cX6_follow, 7, none)
abbrev mX6_begin : am_mm := (yX6_begin, cX6_begin, 3, none)
abbrev mX6_addPeak : am_mm := (yX6_addPeak, cX6_addPeak, 5, none)
abbrev mX6_measure : am_mm := (yX6_measure, cX6_measure, 9, none)
abbrev mX6_kindBy : am_mm := (yX6_kindBy, cX6_kindBy, 3, some .int)
abbrev mX6_worthOf : am_mm := (yX6_worthOf, cX6_worthOf, 2, some .int)
abbrev mX6_pitchIn : am_mm := (yX6_pitchIn, cX6_pitchIn, 3, some .int)
abbrev mX6_bornIn : am_mm := (yX6_bornIn, cX6_bornIn, 4, some .int)
abbrev mX6_endingIn : am_mm := (yX6_endingIn, cX6_endingIn, 4, some .int)
abbrev mX6_longest : am_mm := (yX6_longest, cX6_longest, 4, some .int)
abbrev mX7_init : am_mm := (yX7_init, cX7_init, 2, none)
abbrev mX7_type : am_mm := (yX7_type, cX7_type, 2, some .int)
abbrev mX7_clear : am_mm := (yX7_clear, cX7_clear, 2, some .int)
abbrev mX7_tells : am_mm := (yX7_tells, cX7_tells, 2, some .int)
abbrev mX7_levels : am_mm := (yX7_levels, cX7_levels, 5, some .int)
abbrev mX7_sets : am_mm := (yX7_sets, cX7_sets, 4, some .int)
abbrev mX7_undo : am_mm := (yX7_undo, cX7_undo, 1, some .int)
abbrev mX7_level : am_mm := (yX7_level, cX7_level, 3, some .int)
abbrev mX7_peak : am_mm := (yX7_peak, cX7_peak, 5, some .int)
abbrev mX7_frame : am_mm := (yX7_frame, cX7_frame, 3, some .int)
abbrev mX7_track : am_mm := (yX7_track, cX7_track, 3, some .int)
abbrev mX7_pitch : am_mm := (yX7_pitch, cX7_pitch, 3, some .int)
abbrev mX7_best : am_mm := (yX7_best, cX7_best, 4, some .int)
abbrev mX7_sees : am_mm := (yX7_sees, cX7_sees, 4, some .int)
abbrev mX7_forget : am_mm := (yX7_forget, cX7_forget, 2, some .int)
abbrev mX7_which : am_mm := (yX7_which, cX7_which, 2, some .int)
abbrev mX7_listen : am_mm := (yX7_listen, cX7_listen, 5, some .int)
abbrev mX7_keep : am_mm := (yX7_keep, cX7_keep, 2, some .int)
abbrev mX7_back : am_mm := (yX7_back, cX7_back, 2, some .int)
abbrev mX7_count : am_mm := (yX7_count, cX7_count, 2, some .int)
abbrev mX7_followAnew : am_mm := (yX7_followAnew, cX7_followAnew, 1, none)
abbrev mX7_isKept : am_mm := (yX7_isKept, cX7_isKept, 2, some .boolean)
abbrev mX7_keptTracks : am_mm := (yX7_keptTracks, cX7_keptTracks, 3, some .int)
abbrev mX7_loudTogether : am_mm := (yX7_loudTogether, cX7_loudTogether, 6, some .int)
abbrev mX7_tracksByReach : am_mm := (yX7_tracksByReach, cX7_tracksByReach, 4, some .int)
abbrev mX8_init : am_mm := (yX8_init, cX8_init, 1, none)
abbrev mX8_plain : am_mm := (yX8_plain, cX8_plain, 2, none)
abbrev mX8_in : am_mm := (yX8_in, cX8_in, 3, some .boolean)
abbrev mX8_type : am_mm := (yX8_type, cX8_type, 2, some .int)
abbrev mX8_clear : am_mm := (yX8_clear, cX8_clear, 2, some .int)
abbrev mX8_at : am_mm := (yX8_at, cX8_at, 2, some .int)
abbrev mX8_isWord : am_mm := (yX8_isWord, cX8_isWord, 6, some .boolean)
abbrev mX8_wordOf : am_mm := (yX8_wordOf, cX8_wordOf, 1, some .int)
abbrev mX8_steps : am_mm := (yX8_steps, cX8_steps, 1, none)
abbrev mX8_takes : am_mm := (yX8_takes, cX8_takes, 2, none)
abbrev mX8_readsFrame : am_mm := (yX8_readsFrame, cX8_readsFrame, 4, none)
abbrev mX8_readsNumber : am_mm := (yX8_readsNumber, cX8_readsNumber, 6, none)
abbrev mX8_reads : am_mm := (yX8_reads, cX8_reads, 2, some .int)
abbrev mX8_tells : am_mm := (yX8_tells, cX8_tells, 3, some .int)
abbrev mX8_notes : am_mm := (yX8_notes, cX8_notes, 2, none)
abbrev mX8_becomes : am_mm := (yX8_becomes, cX8_becomes, 4, some .int)
abbrev mX8_isPlace : am_mm := (yX8_isPlace, cX8_isPlace, 3, some .boolean)
abbrev mX8_levels : am_mm := (yX8_levels, cX8_levels, 4, some .int)
abbrev mX8_sets : am_mm := (yX8_sets, cX8_sets, 4, some .int)
abbrev mX8_undo : am_mm := (yX8_undo, cX8_undo, 2, some .int)
abbrev mX8_levelAt : am_mm := (yX8_levelAt, cX8_levelAt, 3, some .int)
abbrev mX8_laysPeaks : am_mm := (yX8_laysPeaks, cX8_laysPeaks, 4, none)
abbrev mX8_pitchOf : am_mm := (yX8_pitchOf, cX8_pitchOf, 6, some .int)
abbrev mX8_loudOf : am_mm := (yX8_loudOf, cX8_loudOf, 3, some .int)
abbrev mX8_apart : am_mm := (yX8_apart, cX8_apart, 5, some .int)
abbrev mX8_worthOf : am_mm := (yX8_worthOf, cX8_worthOf, 3, some .int)
abbrev mX8_pairWorth : am_mm := (yX8_pairWorth, cX8_pairWorth, 6, some .int)
abbrev mX8_laysWorth : am_mm := (yX8_laysWorth, cX8_laysWorth, 6, none)
abbrev mX8_joins : am_mm := (yX8_joins, cX8_joins, 7, none)
abbrev mX8_laysTracks : am_mm := (yX8_laysTracks, cX8_laysTracks, 4, none)
abbrev mX8_follows : am_mm := (yX8_follows, cX8_follows, 5, none)
abbrev mX8_lays : am_mm := (yX8_lays, cX8_lays, 1, none)
abbrev mX8_peakOf : am_mm := (yX8_peakOf, cX8_peakOf, 5, some .int)
abbrev mX8_bornOf : am_mm := (yX8_bornOf, cX8_bornOf, 3, some .int)
abbrev mX8_longOf : am_mm := (yX8_longOf, cX8_longOf, 4, some .int)
abbrev mX8_depthOf : am_mm := (yX8_depthOf, cX8_depthOf, 7, some .int)
abbrev mX8_laysSteps : am_mm := (yX8_laysSteps, cX8_laysSteps, 8, none)
abbrev mX8_turnsOf : am_mm := (yX8_turnsOf, cX8_turnsOf, 2, some .int)
abbrev mX8_kindOf : am_mm := (yX8_kindOf, cX8_kindOf, 2, some .int)
abbrev mX8_worthOfTrack : am_mm := (yX8_worthOfTrack, cX8_worthOfTrack, 5, some .int)
abbrev mX8_level : am_mm := (yX8_level, cX8_level, 3, some .int)
abbrev mX8_peak : am_mm := (yX8_peak, cX8_peak, 4, some .int)
abbrev mX8_sumOf : am_mm := (yX8_sumOf, cX8_sumOf, 6, some .int)
abbrev mX8_bornIn : am_mm := (yX8_bornIn, cX8_bornIn, 6, some .int)
abbrev mX8_frame : am_mm := (yX8_frame, cX8_frame, 3, some .int)
abbrev mX8_track : am_mm := (yX8_track, cX8_track, 4, some .int)
abbrev mX8_pitchIn : am_mm := (yX8_pitchIn, cX8_pitchIn, 4, some .int)
abbrev mX8_pitch : am_mm := (yX8_pitch, cX8_pitch, 3, some .int)
abbrev mX8_best : am_mm := (yX8_best, cX8_best, 5, some .int)
abbrev mX8_sees : am_mm := (yX8_sees, cX8_sees, 3, some .int)
abbrev mX8_forget : am_mm := (yX8_forget, cX8_forget, 2, some .int)
abbrev mX8_isSo : am_mm := (yX8_isSo, cX8_isSo, 4, some .boolean)
abbrev mX8_which : am_mm := (yX8_which, cX8_which, 5, some .int)
abbrev mX8_mostAlike : am_mm := (yX8_mostAlike, cX8_mostAlike, 6, some .int)
abbrev mX8_listen : am_mm := (yX8_listen, cX8_listen, 6, some .int)
abbrev mX8_keep : am_mm := (yX8_keep, cX8_keep, 3, some .int)
abbrev mX8_back : am_mm := (yX8_back, cX8_back, 3, some .int)
abbrev mX8_tracksNow : am_mm := (yX8_tracksNow, cX8_tracksNow, 1, some .int)
abbrev mX8_keptMany : am_mm := (yX8_keptMany, cX8_keptMany, 3, some .int)
abbrev mX8_longest : am_mm := (yX8_longest, cX8_longest, 3, some .int)
abbrev mX8_count : am_mm := (yX8_count, cX8_count, 2, some .int)
abbrev mJ6_compare_7cf53 : am_mm := (yJ6_compare_7cf53, cJ6_compare_7cf53, 2, some .int)
abbrev mJ9_abs_0f7a4 : am_mm := (yJ9_abs_0f7a4, cJ9_abs_0f7a4, 1, some .int)
abbrev mJ9_max_7cf53 : am_mm := (yJ9_max_7cf53, cJ9_max_7cf53, 2, some .int)
abbrev mJ9_min_7cf53 : am_mm := (yJ9_min_7cf53, cJ9_min_7cf53, 2, some .int)
abbrev mJ7_fill_53178 : am_mm := (yJ7_fill_53178, cJ7_fill_53178, 4, none)
theorem fl_X0_18 : am_flB RX0 18 0 0 = true := am_fl_of rfl (Nat.le_of_ble_eq_true rfl) (am_tm 87 (by decide +kernel) rfl)
theorem yb_X0_loseOldest : am_yB mX0_loseOldest 0 := ⟨am_tm 4 (by decide +kernel) rfl, am_tm 490 (by decide +kernel) rfl, by decide +kernel, Nat.le_of_ble_eq_true rfl⟩
theorem yi_X0_loseOldest : Cond.instanceMethod mX0_loseOldest.1 ∈ am_T := am_tm 489 (by decide +kernel) rfl
theorem yl_X0_loseOldest : Cond.selects mX0_loseOldest.1.cls mX0_loseOldest.1 mX0_loseOldest.1 ∈ am_T := am_tp 17 (n := 2) (by decide +kernel) rfl
theorem cv_X0_22 : am_cvB RX0 22 mX0_loseOldest 0 = true := am_cv_of yb_X0_loseOldest yi_X0_loseOldest yl_X0_loseOldest (am_tm 487 (by decide +kernel) rfl)
theorem fl_X0_11 : am_flB RX0 11 0 1 = true := am_fl_of rfl (Nat.le_of_ble_eq_true rfl) (am_tm 89 (by decide +kernel) rfl)
theorem yb_X3_takeFrom : am_yB mX3_takeFrom 1 := ⟨am_tm 2 (by decide +kernel) rfl, am_tm 494 (by decide +kernel) rfl, by decide +kernel, Nat.le_of_ble_eq_true rfl⟩
theorem yi_X3_takeFrom : Cond.instanceMethod mX3_takeFrom.1 ∈ am_T := am_tm 492 (by decide +kernel) rfl
theorem yl_X3_takeFrom : Cond.selects mX3_takeFrom.1.cls mX3_takeFrom.1 mX3_takeFrom.1 ∈ am_T := am_tm 493 (by decide +kernel) rfl
theorem cv_X0_25 : am_cvB RX0 25 mX3_takeFrom 1 = true := am_cv_of yb_X3_takeFrom yi_X3_takeFrom yl_X3_takeFrom (am_tm 491 (by decide +kernel) rfl)
theorem pf_X0_18 : am_pfB RX0 18 0 0 = true := am_pf_of rfl (Nat.le_of_ble_eq_true rfl) (am_tm 87 (by decide +kernel) rfl) rfl (by decide +kernel)
theorem pf_X1_24 : am_pfB RX1 24 1 6 = true := am_pf_of rfl (Nat.le_of_ble_eq_true rfl) (am_tm 137 (by decide +kernel) rfl) rfl (by decide +kernel)
theorem fl_X1_15 : am_flB RX1 15 1 1 = true := am_fl_of rfl (Nat.le_of_ble_eq_true rfl) (am_tm 132 (by decide +kernel) rfl)
theorem yb_X1_copyPitches : am_yB mX1_copyPitches 3 := ⟨am_tm 6 (by decide +kernel) rfl, am_tm 281 (by decide +kernel) rfl, by decide +kernel, Nat.le_of_ble_eq_true rfl⟩
theorem ys_X1_copyPitches : Cond.static mX1_copyPitches.1 ∈ am_T := am_tm 280 (by decide +kernel) rfl
theorem cs_X1_28 : am_csB RX1 28 mX1_copyPitches 3 = true := am_cs_of yb_X1_copyPitches ys_X1_copyPitches (am_tm 279 (by decide +kernel) rfl)
theorem pf_X1_32 : am_pfB RX1 32 1 4 = true := am_pf_of rfl (Nat.le_of_ble_eq_true rfl) (am_tm 135 (by decide +kernel) rfl) rfl (by decide +kernel)
theorem fl_X1_18 : am_flB RX1 18 1 2 = true := am_fl_of rfl (Nat.le_of_ble_eq_true rfl) (am_tm 133 (by decide +kernel) rfl)
theorem pf_X1_35 : am_pfB RX1 35 1 5 = true := am_pf_of rfl (Nat.le_of_ble_eq_true rfl) (am_tm 136 (by decide +kernel) rfl) rfl (by decide +kernel)
theorem yb_X1_scoreAll : am_yB mX1_scoreAll 0 := ⟨am_tm 6 (by decide +kernel) rfl, am_tm 286 (by decide +kernel) rfl, by decide +kernel, Nat.le_of_ble_eq_true rfl⟩
theorem yi_X1_scoreAll : Cond.instanceMethod mX1_scoreAll.1 ∈ am_T := am_tm 285 (by decide +kernel) rfl
theorem yl_X1_scoreAll : Cond.selects mX1_scoreAll.1.cls mX1_scoreAll.1 mX1_scoreAll.1 ∈ am_T := am_tp 2 (n := 7) (by decide +kernel) rfl
theorem cv_X1_38 : am_cvB RX1 38 mX1_scoreAll 0 = true := am_cv_of yb_X1_scoreAll yi_X1_scoreAll yl_X1_scoreAll (am_tm 283 (by decide +kernel) rfl)
theorem yb_X1_chooseMates : am_yB mX1_chooseMates 0 := ⟨am_tm 6 (by decide +kernel) rfl, am_tm 301 (by decide +kernel) rfl, by decide +kernel, Nat.le_of_ble_eq_true rfl⟩
theorem yi_X1_chooseMates : Cond.instanceMethod mX1_chooseMates.1 ∈ am_T := am_tm 300 (by decide +kernel) rfl
theorem yl_X1_chooseMates : Cond.selects mX1_chooseMates.1.cls mX1_chooseMates.1 mX1_chooseMates.1 ∈ am_T := am_tp 4 (n := 7) (by decide +kernel) rfl
theorem cv_X1_41 : am_cvB RX1 41 mX1_chooseMates 0 = true := am_cv_of yb_X1_chooseMates yi_X1_chooseMates yl_X1_chooseMates (am_tm 298 (by decide +kernel) rfl)
theorem fl_X1_45 : am_flB RX1 45 2 0 = true := am_fl_of rfl (Nat.le_of_ble_eq_true rfl) (am_tm 103 (by decide +kernel) rfl)
theorem fl_X1_50 : am_flB RX1 50 2 2 = true := am_fl_of rfl (Nat.le_of_ble_eq_true rfl) (am_tm 108 (by decide +kernel) rfl)
theorem cp_X1_53 : am_cpB RX1 53 = true := by decide +kernel
theorem fl_X1_21 : am_flB RX1 21 1 3 = true := am_fl_of rfl (Nat.le_of_ble_eq_true rfl) (am_tm 134 (by decide +kernel) rfl)
theorem yb_J7_fill_53178 : am_yB mJ7_fill_53178 2 := ⟨am_tm 10 (by decide +kernel) rfl, am_tm 242 (by decide +kernel) rfl, by decide +kernel, Nat.le_of_ble_eq_true rfl⟩
theorem ys_J7_fill_53178 : Cond.static mJ7_fill_53178.1 ∈ am_T := am_tm 241 (by decide +kernel) rfl
theorem cs_X1_59 : am_csB RX1 59 mJ7_fill_53178 2 = true := am_cs_of yb_J7_fill_53178 ys_J7_fill_53178 (am_tm 287 (by decide +kernel) rfl)
theorem fl_X1_32 : am_flB RX1 32 1 4 = true := am_fl_of rfl (Nat.le_of_ble_eq_true rfl) (am_tm 135 (by decide +kernel) rfl)
theorem fl_X1_35 : am_flB RX1 35 1 5 = true := am_fl_of rfl (Nat.le_of_ble_eq_true rfl) (am_tm 136 (by decide +kernel) rfl)
theorem yb_J9_max_7cf53 : am_yB mJ9_max_7cf53 2 := ⟨am_tm 12 (by decide +kernel) rfl, am_tm 290 (by decide +kernel) rfl, by decide +kernel, Nat.le_of_ble_eq_true rfl⟩
theorem ys_J9_max_7cf53 : Cond.static mJ9_max_7cf53.1 ∈ am_T := am_tm 289 (by decide +kernel) rfl
theorem cs_X1_65 : am_csB RX1 65 mJ9_max_7cf53 2 = true := am_cs_of yb_J9_max_7cf53 ys_J9_max_7cf53 (am_tm 288 (by decide +kernel) rfl)
theorem yb_X1_pairedScore : am_yB mX1_pairedScore 2 := ⟨am_tm 6 (by decide +kernel) rfl, am_tm 294 (by decide +kernel) rfl, by decide +kernel, Nat.le_of_ble_eq_true rfl⟩
theorem yi_X1_pairedScore : Cond.instanceMethod mX1_pairedScore.1 ∈ am_T := am_tm 293 (by decide +kernel) rfl
theorem yl_X1_pairedScore : Cond.selects mX1_pairedScore.1.cls mX1_pairedScore.1 mX1_pairedScore.1 ∈ am_T := am_tp 3 (n := 7) (by decide +kernel) rfl
theorem cv_X1_71 : am_cvB RX1 71 mX1_pairedScore 2 = true := am_cv_of yb_X1_pairedScore yi_X1_pairedScore yl_X1_pairedScore (am_tm 291 (by decide +kernel) rfl)
theorem yb_J9_abs_0f7a4 : am_yB mJ9_abs_0f7a4 1 := ⟨am_tm 12 (by decide +kernel) rfl, am_tm 297 (by decide +kernel) rfl, by decide +kernel, Nat.le_of_ble_eq_true rfl⟩
theorem ys_J9_abs_0f7a4 : Cond.static mJ9_abs_0f7a4.1 ∈ am_T := am_tm 296 (by decide +kernel) rfl
theorem cs_X1_74 : am_csB RX1 74 mJ9_abs_0f7a4 1 = true := am_cs_of yb_J9_abs_0f7a4 ys_J9_abs_0f7a4 (am_tm 295 (by decide +kernel) rfl)
theorem fl_X1_24 : am_flB RX1 24 1 6 = true := am_fl_of rfl (Nat.le_of_ble_eq_true rfl) (am_tm 137 (by decide +kernel) rfl)
theorem fl_X1_9 : am_flB RX1 9 1 0 = true := am_fl_of rfl (Nat.le_of_ble_eq_true rfl) (am_tm 130 (by decide +kernel) rfl)
theorem yb_X1_lowestMate : am_yB mX1_lowestMate 2 := ⟨am_tm 6 (by decide +kernel) rfl, am_tm 305 (by decide +kernel) rfl, by decide +kernel, Nat.le_of_ble_eq_true rfl⟩
theorem yi_X1_lowestMate : Cond.instanceMethod mX1_lowestMate.1 ∈ am_T := am_tm 304 (by decide +kernel) rfl
theorem yl_X1_lowestMate : Cond.selects mX1_lowestMate.1.cls mX1_lowestMate.1 mX1_lowestMate.1 ∈ am_T := am_tp 5 (n := 7) (by decide +kernel) rfl
theorem cv_X1_78 : am_cvB RX1 78 mX1_lowestMate 2 = true := am_cv_of yb_X1_lowestMate yi_X1_lowestMate yl_X1_lowestMate (am_tm 302 (by decide +kernel) rfl)
theorem fl_X2_9 : am_flB RX2 9 2 0 = true := am_fl_of rfl (Nat.le_of_ble_eq_true rfl) (am_tm 101 (by decide +kernel) rfl)
theorem fl_X2_24 : am_flB RX2 24 3 1 = true := am_fl_of rfl (Nat.le_of_ble_eq_true rfl) (am_tm 36 (by decide +kernel) rfl)
theorem yb_X2_lookAt : am_yB mX2_lookAt 3 := ⟨am_tm 5 (by decide +kernel) rfl, am_tm 254 (by decide +kernel) rfl, by decide +kernel, Nat.le_of_ble_eq_true rfl⟩
theorem yi_X2_lookAt : Cond.instanceMethod mX2_lookAt.1 ∈ am_T := am_tm 253 (by decide +kernel) rfl
theorem yl_X2_lookAt : Cond.selects mX2_lookAt.1.cls mX2_lookAt.1 mX2_lookAt.1 ∈ am_T := am_tp 1 (n := 4) (by decide +kernel) rfl
theorem cv_X2_29 : am_cvB RX2 29 mX2_lookAt 3 = true := am_cv_of yb_X2_lookAt yi_X2_lookAt yl_X2_lookAt (am_tm 251 (by decide +kernel) rfl)
theorem yb_X3_levelAt : am_yB mX3_levelAt 2 := ⟨am_tm 2 (by decide +kernel) rfl, am_tm 258 (by decide +kernel) rfl, by decide +kernel, Nat.le_of_ble_eq_true rfl⟩
theorem yi_X3_levelAt : Cond.instanceMethod mX3_levelAt.1 ∈ am_T := am_tm 256 (by decide +kernel) rfl
theorem yl_X3_levelAt : Cond.selects mX3_levelAt.1.cls mX3_levelAt.1 mX3_levelAt.1 ∈ am_T := am_tm 257 (by decide +kernel) rfl
theorem cv_X2_33 : am_cvB RX2 33 mX3_levelAt 2 = true := am_cv_of yb_X3_levelAt yi_X3_levelAt yl_X3_levelAt (am_tm 255 (by decide +kernel) rfl)
theorem fl_X2_37 : am_flB RX2 37 3 2 = true := am_fl_of rfl (Nat.le_of_ble_eq_true rfl) (am_tm 40 (by decide +kernel) rfl)
theorem fl_X2_15 : am_flB RX2 15 2 1 = true := am_fl_of rfl (Nat.le_of_ble_eq_true rfl) (am_tm 105 (by decide +kernel) rfl)
theorem fl_X2_18 : am_flB RX2 18 2 2 = true := am_fl_of rfl (Nat.le_of_ble_eq_true rfl) (am_tm 107 (by decide +kernel) rfl)
theorem yb_J6_compare_7cf53 : am_yB mJ6_compare_7cf53 2 := ⟨am_tm 11 (by decide +kernel) rfl, am_tm 269 (by decide +kernel) rfl, by decide +kernel, Nat.le_of_ble_eq_true rfl⟩
theorem ys_J6_compare_7cf53 : Cond.static mJ6_compare_7cf53.1 ∈ am_T := am_tm 268 (by decide +kernel) rfl
theorem cs_X2_40 : am_csB RX2 40 mJ6_compare_7cf53 2 = true := am_cs_of yb_J6_compare_7cf53 ys_J6_compare_7cf53 (am_tm 267 (by decide +kernel) rfl)
theorem fl_X2_21 : am_flB RX2 21 2 3 = true := am_fl_of rfl (Nat.le_of_ble_eq_true rfl) (am_tm 111 (by decide +kernel) rfl)
theorem yb_X3_makeEmpty : am_yB mX3_makeEmpty 0 := ⟨am_tm 2 (by decide +kernel) rfl, am_tm 234 (by decide +kernel) rfl, by decide +kernel, Nat.le_of_ble_eq_true rfl⟩
theorem yi_X3_makeEmpty : Cond.instanceMethod mX3_makeEmpty.1 ∈ am_T := am_tm 232 (by decide +kernel) rfl
theorem yl_X3_makeEmpty : Cond.selects mX3_makeEmpty.1.cls mX3_makeEmpty.1 mX3_makeEmpty.1 ∈ am_T := am_tm 233 (by decide +kernel) rfl
theorem cv_X3_18 : am_cvB RX3 18 mX3_makeEmpty 0 = true := am_cv_of yb_X3_makeEmpty yi_X3_makeEmpty yl_X3_makeEmpty (am_tm 231 (by decide +kernel) rfl)
theorem pf_X3_21 : am_pfB RX3 21 3 0 = true := am_pf_of rfl (Nat.le_of_ble_eq_true rfl) (am_tm 32 (by decide +kernel) rfl) rfl (by decide +kernel)
theorem pf_X3_25 : am_pfB RX3 25 3 1 = true := am_pf_of rfl (Nat.le_of_ble_eq_true rfl) (am_tm 35 (by decide +kernel) rfl) rfl (by decide +kernel)
theorem fl_X3_9 : am_flB RX3 9 3 2 = true := am_fl_of rfl (Nat.le_of_ble_eq_true rfl) (am_tm 39 (by decide +kernel) rfl)
theorem cp_X3_31 : am_cpB RX3 31 = true := by decide +kernel
theorem fl_X3_15 : am_flB RX3 15 3 3 = true := am_fl_of rfl (Nat.le_of_ble_eq_true rfl) (am_tm 43 (by decide +kernel) rfl)
theorem cs_X3_37 : am_csB RX3 37 mJ7_fill_53178 2 = true := am_cs_of yb_J7_fill_53178 ys_J7_fill_53178 (am_tm 240 (by decide +kernel) rfl)
theorem fl_X3_21 : am_flB RX3 21 3 0 = true := am_fl_of rfl (Nat.le_of_ble_eq_true rfl) (am_tm 32 (by decide +kernel) rfl)
theorem fl_X3_25 : am_flB RX3 25 3 1 = true := am_fl_of rfl (Nat.le_of_ble_eq_true rfl) (am_tm 35 (by decide +kernel) rfl)
theorem yb_X3_hasFrame : am_yB mX3_hasFrame 1 := ⟨am_tm 2 (by decide +kernel) rfl, am_tm 266 (by decide +kernel) rfl, by decide +kernel, Nat.le_of_ble_eq_true rfl⟩
theorem yi_X3_hasFrame : Cond.instanceMethod mX3_hasFrame.1 ∈ am_T := am_tm 264 (by decide +kernel) rfl
theorem yl_X3_hasFrame : Cond.selects mX3_hasFrame.1.cls mX3_hasFrame.1 mX3_hasFrame.1 ∈ am_T := am_tm 265 (by decide +kernel) rfl
theorem cv_X3_43 : am_cvB RX3 43 mX3_hasFrame 1 = true := am_cv_of yb_X3_hasFrame yi_X3_hasFrame yl_X3_hasFrame (am_tm 263 (by decide +kernel) rfl)
theorem yb_X3_hasPlace : am_yB mX3_hasPlace 2 := ⟨am_tm 2 (by decide +kernel) rfl, am_tm 262 (by decide +kernel) rfl, by decide +kernel, Nat.le_of_ble_eq_true rfl⟩
theorem yi_X3_hasPlace : Cond.instanceMethod mX3_hasPlace.1 ∈ am_T := am_tm 260 (by decide +kernel) rfl
theorem yl_X3_hasPlace : Cond.selects mX3_hasPlace.1.cls mX3_hasPlace.1 mX3_hasPlace.1 ∈ am_T := am_tm 261 (by decide +kernel) rfl
theorem cv_X3_47 : am_cvB RX3 47 mX3_hasPlace 2 = true := am_cv_of yb_X3_hasPlace yi_X3_hasPlace yl_X3_hasPlace (am_tm 259 (by decide +kernel) rfl)
theorem fl_X4_24 : am_flB RX4 24 4 0 = true := am_fl_of rfl (Nat.le_of_ble_eq_true rfl) (am_tm 205 (by decide +kernel) rfl)
theorem fl_X4_9 : am_flB RX4 9 4 1 = true := am_fl_of rfl (Nat.le_of_ble_eq_true rfl) (am_tm 207 (by decide +kernel) rfl)
theorem fl_X4_15 : am_flB RX4 15 4 2 = true := am_fl_of rfl (Nat.le_of_ble_eq_true rfl) (am_tm 208 (by decide +kernel) rfl)
theorem pf_X4_24 : am_pfB RX4 24 4 0 = true := am_pf_of rfl (Nat.le_of_ble_eq_true rfl) (am_tm 205 (by decide +kernel) rfl) rfl (by decide +kernel)
theorem pf_X4_28 : am_pfB RX4 28 4 3 = true := am_pf_of rfl (Nat.le_of_ble_eq_true rfl) (am_tm 209 (by decide +kernel) rfl) rfl (by decide +kernel)
theorem fl_X4_31 : am_flB RX4 31 6 0 = true := am_fl_of rfl (Nat.le_of_ble_eq_true rfl) (am_tm 160 (by decide +kernel) rfl)
theorem yb_X4_fits : am_yB mX4_fits 2 := ⟨am_tm 8 (by decide +kernel) rfl, am_tm 592 (by decide +kernel) rfl, by decide +kernel, Nat.le_of_ble_eq_true rfl⟩
theorem yi_X4_fits : Cond.instanceMethod mX4_fits.1 ∈ am_T := am_tm 591 (by decide +kernel) rfl
theorem yl_X4_fits : Cond.selects mX4_fits.1.cls mX4_fits.1 mX4_fits.1 ∈ am_T := am_tp 21 (n := 6) (by decide +kernel) rfl
theorem cv_X4_34 : am_cvB RX4 34 mX4_fits 2 = true := am_cv_of yb_X4_fits yi_X4_fits yl_X4_fits (am_tm 589 (by decide +kernel) rfl)
theorem fl_X4_18 : am_flB RX4 18 4 4 = true := am_fl_of rfl (Nat.le_of_ble_eq_true rfl) (am_tm 211 (by decide +kernel) rfl)
theorem fl_X4_28 : am_flB RX4 28 4 3 = true := am_fl_of rfl (Nat.le_of_ble_eq_true rfl) (am_tm 209 (by decide +kernel) rfl)
theorem yb_X6_pitchIn : am_yB mX6_pitchIn 2 := ⟨am_tm 7 (by decide +kernel) rfl, am_tm 321 (by decide +kernel) rfl, by decide +kernel, Nat.le_of_ble_eq_true rfl⟩
theorem yi_X6_pitchIn : Cond.instanceMethod mX6_pitchIn.1 ∈ am_T := am_tm 319 (by decide +kernel) rfl
theorem yl_X6_pitchIn : Cond.selects mX6_pitchIn.1.cls mX6_pitchIn.1 mX6_pitchIn.1 ∈ am_T := am_tm 320 (by decide +kernel) rfl
theorem cv_X4_38 : am_cvB RX4 38 mX6_pitchIn 2 = true := am_cv_of yb_X6_pitchIn yi_X6_pitchIn yl_X6_pitchIn (am_tm 593 (by decide +kernel) rfl)
theorem fl_X4_21 : am_flB RX4 21 4 5 = true := am_fl_of rfl (Nat.le_of_ble_eq_true rfl) (am_tm 213 (by decide +kernel) rfl)
theorem cs_X4_42 : am_csB RX4 42 mJ7_fill_53178 2 = true := am_cs_of yb_J7_fill_53178 ys_J7_fill_53178 (am_tm 602 (by decide +kernel) rfl)
theorem cs_X4_48 : am_csB RX4 48 mJ9_max_7cf53 2 = true := am_cs_of yb_J9_max_7cf53 ys_J9_max_7cf53 (am_tm 603 (by decide +kernel) rfl)
theorem fl_X5_15 : am_flB RX5 15 5 0 = true := am_fl_of rfl (Nat.le_of_ble_eq_true rfl) (am_tm 60 (by decide +kernel) rfl)
theorem fl_X5_9 : am_flB RX5 9 5 1 = true := am_fl_of rfl (Nat.le_of_ble_eq_true rfl) (am_tm 62 (by decide +kernel) rfl)
theorem pf_X5_15 : am_pfB RX5 15 5 0 = true := am_pf_of rfl (Nat.le_of_ble_eq_true rfl) (am_tm 60 (by decide +kernel) rfl) rfl (by decide +kernel)
theorem cv_X5_19 : am_cvB RX5 19 mX3_makeEmpty 0 = true := am_cv_of yb_X3_makeEmpty yi_X3_makeEmpty yl_X3_makeEmpty (am_tm 387 (by decide +kernel) rfl)
theorem pf_X5_24 : am_pfB RX5 24 5 4 = true := am_pf_of rfl (Nat.le_of_ble_eq_true rfl) (am_tm 65 (by decide +kernel) rfl) rfl (by decide +kernel)
theorem yb_X5_nextToken : am_yB mX5_nextToken 0 := ⟨am_tm 3 (by decide +kernel) rfl, am_tm 391 (by decide +kernel) rfl, by decide +kernel, Nat.le_of_ble_eq_true rfl⟩
theorem yi_X5_nextToken : Cond.instanceMethod mX5_nextToken.1 ∈ am_T := am_tm 390 (by decide +kernel) rfl
theorem yl_X5_nextToken : Cond.selects mX5_nextToken.1.cls mX5_nextToken.1 mX5_nextToken.1 ∈ am_T := am_tp 9 (n := 5) (by decide +kernel) rfl
theorem cv_X5_27 : am_cvB RX5 27 mX5_nextToken 0 = true := am_cv_of yb_X5_nextToken yi_X5_nextToken yl_X5_nextToken (am_tm 388 (by decide +kernel) rfl)
theorem fl_X5_30 : am_flB RX5 30 5 2 = true := am_fl_of rfl (Nat.le_of_ble_eq_true rfl) (am_tm 63 (by decide +kernel) rfl)
theorem fl_X5_33 : am_flB RX5 33 3 0 = true := am_fl_of rfl (Nat.le_of_ble_eq_true rfl) (am_tm 33 (by decide +kernel) rfl)
theorem yb_X5_readItem : am_yB mX5_readItem 1 := ⟨am_tm 3 (by decide +kernel) rfl, am_tm 399 (by decide +kernel) rfl, by decide +kernel, Nat.le_of_ble_eq_true rfl⟩
theorem yi_X5_readItem : Cond.instanceMethod mX5_readItem.1 ∈ am_T := am_tm 398 (by decide +kernel) rfl
theorem yl_X5_readItem : Cond.selects mX5_readItem.1.cls mX5_readItem.1 mX5_readItem.1 ∈ am_T := am_tp 11 (n := 5) (by decide +kernel) rfl
theorem cv_X5_36 : am_cvB RX5 36 mX5_readItem 1 = true := am_cv_of yb_X5_readItem yi_X5_readItem yl_X5_readItem (am_tm 396 (by decide +kernel) rfl)
theorem fl_X5_40 : am_flB RX5 40 5 3 = true := am_fl_of rfl (Nat.le_of_ble_eq_true rfl) (am_tm 64 (by decide +kernel) rfl)
theorem yb_X5_isWord : am_yB mX5_isWord 1 := ⟨am_tm 3 (by decide +kernel) rfl, am_tm 404 (by decide +kernel) rfl, by decide +kernel, Nat.le_of_ble_eq_true rfl⟩
theorem yi_X5_isWord : Cond.instanceMethod mX5_isWord.1 ∈ am_T := am_tm 403 (by decide +kernel) rfl
theorem yl_X5_isWord : Cond.selects mX5_isWord.1.cls mX5_isWord.1 mX5_isWord.1 ∈ am_T := am_tp 12 (n := 5) (by decide +kernel) rfl
theorem cv_X5_45 : am_cvB RX5 45 mX5_isWord 1 = true := am_cv_of yb_X5_isWord yi_X5_isWord yl_X5_isWord (am_tm 401 (by decide +kernel) rfl)
theorem yb_X5_readFrame : am_yB mX5_readFrame 1 := ⟨am_tm 3 (by decide +kernel) rfl, am_tm 456 (by decide +kernel) rfl, by decide +kernel, Nat.le_of_ble_eq_true rfl⟩
theorem yi_X5_readFrame : Cond.instanceMethod mX5_readFrame.1 ∈ am_T := am_tm 455 (by decide +kernel) rfl
theorem yl_X5_readFrame : Cond.selects mX5_readFrame.1.cls mX5_readFrame.1 mX5_readFrame.1 ∈ am_T := am_tp 13 (n := 5) (by decide +kernel) rfl
theorem cv_X5_49 : am_cvB RX5 49 mX5_readFrame 1 = true := am_cv_of yb_X5_readFrame yi_X5_readFrame yl_X5_readFrame (am_tm 453 (by decide +kernel) rfl)
theorem yb_X5_namedSetting : am_yB mX5_namedSetting 0 := ⟨am_tm 3 (by decide +kernel) rfl, am_tm 468 (by decide +kernel) rfl, by decide +kernel, Nat.le_of_ble_eq_true rfl⟩
theorem yi_X5_namedSetting : Cond.instanceMethod mX5_namedSetting.1 ∈ am_T := am_tm 467 (by decide +kernel) rfl
theorem yl_X5_namedSetting : Cond.selects mX5_namedSetting.1.cls mX5_namedSetting.1 mX5_namedSetting.1 ∈ am_T := am_tp 15 (n := 5) (by decide +kernel) rfl
theorem cv_X5_52 : am_cvB RX5 52 mX5_namedSetting 0 = true := am_cv_of yb_X5_namedSetting yi_X5_namedSetting yl_X5_namedSetting (am_tm 465 (by decide +kernel) rfl)
theorem yb_X5_readSetting : am_yB mX5_readSetting 2 := ⟨am_tm 3 (by decide +kernel) rfl, am_tm 475 (by decide +kernel) rfl, by decide +kernel, Nat.le_of_ble_eq_true rfl⟩
theorem yi_X5_readSetting : Cond.instanceMethod mX5_readSetting.1 ∈ am_T := am_tm 474 (by decide +kernel) rfl
theorem yl_X5_readSetting : Cond.selects mX5_readSetting.1.cls mX5_readSetting.1 mX5_readSetting.1 ∈ am_T := am_tp 16 (n := 5) (by decide +kernel) rfl
theorem cv_X5_56 : am_cvB RX5 56 mX5_readSetting 2 = true := am_cv_of yb_X5_readSetting yi_X5_readSetting yl_X5_readSetting (am_tm 472 (by decide +kernel) rfl)
theorem fl_X5_24 : am_flB RX5 24 5 4 = true := am_fl_of rfl (Nat.le_of_ble_eq_true rfl) (am_tm 65 (by decide +kernel) rfl)
theorem fl_X5_60 : am_flB RX5 60 3 1 = true := am_fl_of rfl (Nat.le_of_ble_eq_true rfl) (am_tm 37 (by decide +kernel) rfl)
theorem pf_X5_60 : am_pfB RX5 60 3 1 = true := am_pf_of rfl (Nat.le_of_ble_eq_true rfl) (am_tm 37 (by decide +kernel) rfl) rfl (by decide +kernel)
theorem pf_X5_33 : am_pfB RX5 33 3 0 = true := am_pf_of rfl (Nat.le_of_ble_eq_true rfl) (am_tm 33 (by decide +kernel) rfl) rfl (by decide +kernel)
theorem yb_X5_figureAt : am_yB mX5_figureAt 1 := ⟨am_tm 3 (by decide +kernel) rfl, am_tm 460 (by decide +kernel) rfl, by decide +kernel, Nat.le_of_ble_eq_true rfl⟩
theorem yi_X5_figureAt : Cond.instanceMethod mX5_figureAt.1 ∈ am_T := am_tm 459 (by decide +kernel) rfl
theorem yl_X5_figureAt : Cond.selects mX5_figureAt.1.cls mX5_figureAt.1 mX5_figureAt.1 ∈ am_T := am_tp 14 (n := 5) (by decide +kernel) rfl
theorem cv_X5_63 : am_cvB RX5 63 mX5_figureAt 1 = true := am_cv_of yb_X5_figureAt yi_X5_figureAt yl_X5_figureAt (am_tm 457 (by decide +kernel) rfl)
theorem yb_X3_putLevel : am_yB mX3_putLevel 3 := ⟨am_tm 2 (by decide +kernel) rfl, am_tm 464 (by decide +kernel) rfl, by decide +kernel, Nat.le_of_ble_eq_true rfl⟩
theorem yi_X3_putLevel : Cond.instanceMethod mX3_putLevel.1 ∈ am_T := am_tm 462 (by decide +kernel) rfl
theorem yl_X3_putLevel : Cond.selects mX3_putLevel.1.cls mX3_putLevel.1 mX3_putLevel.1 ∈ am_T := am_tm 463 (by decide +kernel) rfl
theorem cv_X5_67 : am_cvB RX5 67 mX3_putLevel 3 = true := am_cv_of yb_X3_putLevel yi_X3_putLevel yl_X3_putLevel (am_tm 461 (by decide +kernel) rfl)
theorem fl_X5_75 : am_flB RX5 75 3 2 = true := am_fl_of rfl (Nat.le_of_ble_eq_true rfl) (am_tm 42 (by decide +kernel) rfl)
theorem pf_X5_40 : am_pfB RX5 40 5 3 = true := am_pf_of rfl (Nat.le_of_ble_eq_true rfl) (am_tm 64 (by decide +kernel) rfl) rfl (by decide +kernel)
theorem yb_X5_kindAt : am_yB mX5_kindAt 1 := ⟨am_tm 3 (by decide +kernel) rfl, am_tm 395 (by decide +kernel) rfl, by decide +kernel, Nat.le_of_ble_eq_true rfl⟩
theorem yi_X5_kindAt : Cond.instanceMethod mX5_kindAt.1 ∈ am_T := am_tm 394 (by decide +kernel) rfl
theorem yl_X5_kindAt : Cond.selects mX5_kindAt.1.cls mX5_kindAt.1 mX5_kindAt.1 ∈ am_T := am_tp 10 (n := 5) (by decide +kernel) rfl
theorem cv_X5_85 : am_cvB RX5 85 mX5_kindAt 1 = true := am_cv_of yb_X5_kindAt yi_X5_kindAt yl_X5_kindAt (am_tm 392 (by decide +kernel) rfl)
theorem pf_X5_30 : am_pfB RX5 30 5 2 = true := am_pf_of rfl (Nat.le_of_ble_eq_true rfl) (am_tm 63 (by decide +kernel) rfl) rfl (by decide +kernel)
theorem yb_J0_length : am_yB mJ0_length 0 := ⟨am_tm 14 (by decide +kernel) rfl, am_tm 408 (by decide +kernel) rfl, by decide +kernel, Nat.le_of_ble_eq_true rfl⟩
theorem yi_J0_length : Cond.instanceMethod mJ0_length.1 ∈ am_T := am_tm 406 (by decide +kernel) rfl
theorem yl_J0_length : Cond.selects mJ0_length.1.cls mJ0_length.1 mJ0_length.1 ∈ am_T := am_tm 407 (by decide +kernel) rfl
theorem cv_X5_88 : am_cvB RX5 88 mJ0_length 0 = true := am_cv_of yb_J0_length yi_J0_length yl_J0_length (am_tm 405 (by decide +kernel) rfl)
theorem yb_J0_charAt : am_yB mJ0_charAt 1 := ⟨am_tm 14 (by decide +kernel) rfl, am_tm 418 (by decide +kernel) rfl, by decide +kernel, Nat.le_of_ble_eq_true rfl⟩
theorem yi_J0_charAt : Cond.instanceMethod mJ0_charAt.1 ∈ am_T := am_tm 416 (by decide +kernel) rfl
theorem yl_J0_charAt : Cond.selects mJ0_charAt.1.cls mJ0_charAt.1 mJ0_charAt.1 ∈ am_T := am_tm 417 (by decide +kernel) rfl
theorem cv_X5_92 : am_cvB RX5 92 mJ0_charAt 1 = true := am_cv_of yb_J0_charAt yi_J0_charAt yl_J0_charAt (am_tm 415 (by decide +kernel) rfl)
theorem pf_X6_39 : am_pfB RX6 39 6 0 = true := am_pf_of rfl (Nat.le_of_ble_eq_true rfl) (am_tm 159 (by decide +kernel) rfl) rfl (by decide +kernel)
theorem fl_X6_30 : am_flB RX6 30 6 7 = true := am_fl_of rfl (Nat.le_of_ble_eq_true rfl) (am_tm 173 (by decide +kernel) rfl)
theorem cs_X6_43 : am_csB RX6 43 mJ7_fill_53178 2 = true := am_cs_of yb_J7_fill_53178 ys_J7_fill_53178 (am_tm 274 (by decide +kernel) rfl)
theorem fl_X6_33 : am_flB RX6 33 6 8 = true := am_fl_of rfl (Nat.le_of_ble_eq_true rfl) (am_tm 174 (by decide +kernel) rfl)
theorem yb_X1_join : am_yB mX1_join 3 := ⟨am_tm 6 (by decide +kernel) rfl, am_tm 278 (by decide +kernel) rfl, by decide +kernel, Nat.le_of_ble_eq_true rfl⟩
theorem yi_X1_join : Cond.instanceMethod mX1_join.1 ∈ am_T := am_tm 276 (by decide +kernel) rfl
theorem yl_X1_join : Cond.selects mX1_join.1.cls mX1_join.1 mX1_join.1 ∈ am_T := am_tm 277 (by decide +kernel) rfl
theorem cv_X6_49 : am_cvB RX6 49 mX1_join 3 = true := am_cv_of yb_X1_join yi_X1_join yl_X1_join (am_tm 275 (by decide +kernel) rfl)
theorem fl_X6_55 : am_flB RX6 55 2 0 = true := am_fl_of rfl (Nat.le_of_ble_eq_true rfl) (am_tm 102 (by decide +kernel) rfl)
theorem yb_X6_begin : am_yB mX6_begin 2 := ⟨am_tm 7 (by decide +kernel) rfl, am_tm 309 (by decide +kernel) rfl, by decide +kernel, Nat.le_of_ble_eq_true rfl⟩
theorem yi_X6_begin : Cond.instanceMethod mX6_begin.1 ∈ am_T := am_tm 308 (by decide +kernel) rfl
theorem yl_X6_begin : Cond.selects mX6_begin.1.cls mX6_begin.1 mX6_begin.1 ∈ am_T := am_tp 6 (n := 10) (by decide +kernel) rfl
theorem cv_X6_59 : am_cvB RX6 59 mX6_begin 2 = true := am_cv_of yb_X6_begin yi_X6_begin yl_X6_begin (am_tm 306 (by decide +kernel) rfl)
theorem fl_X6_36 : am_flB RX6 36 6 9 = true := am_fl_of rfl (Nat.le_of_ble_eq_true rfl) (am_tm 176 (by decide +kernel) rfl)
theorem fl_X6_63 : am_flB RX6 63 1 0 = true := am_fl_of rfl (Nat.le_of_ble_eq_true rfl) (am_tm 131 (by decide +kernel) rfl)
theorem yb_X6_addPeak : am_yB mX6_addPeak 3 := ⟨am_tm 7 (by decide +kernel) rfl, am_tm 313 (by decide +kernel) rfl, by decide +kernel, Nat.le_of_ble_eq_true rfl⟩
theorem yi_X6_addPeak : Cond.instanceMethod mX6_addPeak.1 ∈ am_T := am_tm 312 (by decide +kernel) rfl
theorem yl_X6_addPeak : Cond.selects mX6_addPeak.1.cls mX6_addPeak.1 mX6_addPeak.1 ∈ am_T := am_tp 7 (n := 10) (by decide +kernel) rfl
theorem cv_X6_66 : am_cvB RX6 66 mX6_addPeak 3 = true := am_cv_of yb_X6_addPeak yi_X6_addPeak yl_X6_addPeak (am_tm 310 (by decide +kernel) rfl)
theorem fl_X6_39 : am_flB RX6 39 6 0 = true := am_fl_of rfl (Nat.le_of_ble_eq_true rfl) (am_tm 159 (by decide +kernel) rfl)
theorem yb_X6_measure : am_yB mX6_measure 1 := ⟨am_tm 7 (by decide +kernel) rfl, am_tm 317 (by decide +kernel) rfl, by decide +kernel, Nat.le_of_ble_eq_true rfl⟩
theorem yi_X6_measure : Cond.instanceMethod mX6_measure.1 ∈ am_T := am_tm 316 (by decide +kernel) rfl
theorem yl_X6_measure : Cond.selects mX6_measure.1.cls mX6_measure.1 mX6_measure.1 ∈ am_T := am_tp 8 (n := 10) (by decide +kernel) rfl
theorem cv_X6_70 : am_cvB RX6 70 mX6_measure 1 = true := am_cv_of yb_X6_measure yi_X6_measure yl_X6_measure (am_tm 314 (by decide +kernel) rfl)
theorem fl_X6_9 : am_flB RX6 9 6 1 = true := am_fl_of rfl (Nat.le_of_ble_eq_true rfl) (am_tm 162 (by decide +kernel) rfl)
theorem fl_X6_15 : am_flB RX6 15 6 2 = true := am_fl_of rfl (Nat.le_of_ble_eq_true rfl) (am_tm 164 (by decide +kernel) rfl)
theorem fl_X6_27 : am_flB RX6 27 6 6 = true := am_fl_of rfl (Nat.le_of_ble_eq_true rfl) (am_tm 172 (by decide +kernel) rfl)
theorem fl_X6_74 : am_flB RX6 74 2 3 = true := am_fl_of rfl (Nat.le_of_ble_eq_true rfl) (am_tm 112 (by decide +kernel) rfl)
theorem fl_X6_75 : am_flB RX6 75 2 2 = true := am_fl_of rfl (Nat.le_of_ble_eq_true rfl) (am_tm 109 (by decide +kernel) rfl)
theorem cv_X6_76 : am_cvB RX6 76 mX6_pitchIn 2 = true := am_cv_of yb_X6_pitchIn yi_X6_pitchIn yl_X6_pitchIn (am_tm 318 (by decide +kernel) rfl)
theorem fl_X6_21 : am_flB RX6 21 6 4 = true := am_fl_of rfl (Nat.le_of_ble_eq_true rfl) (am_tm 168 (by decide +kernel) rfl)
theorem cs_X6_80 : am_csB RX6 80 mJ6_compare_7cf53 2 = true := am_cs_of yb_J6_compare_7cf53 ys_J6_compare_7cf53 (am_tm 322 (by decide +kernel) rfl)
theorem yb_J9_min_7cf53 : am_yB mJ9_min_7cf53 2 := ⟨am_tm 12 (by decide +kernel) rfl, am_tm 325 (by decide +kernel) rfl, by decide +kernel, Nat.le_of_ble_eq_true rfl⟩
theorem ys_J9_min_7cf53 : Cond.static mJ9_min_7cf53.1 ∈ am_T := am_tm 324 (by decide +kernel) rfl
theorem cs_X6_85 : am_csB RX6 85 mJ9_min_7cf53 2 = true := am_cs_of yb_J9_min_7cf53 ys_J9_min_7cf53 (am_tm 323 (by decide +kernel) rfl)
theorem cs_X6_90 : am_csB RX6 90 mJ9_max_7cf53 2 = true := am_cs_of yb_J9_max_7cf53 ys_J9_max_7cf53 (am_tm 326 (by decide +kernel) rfl)
theorem fl_X6_18 : am_flB RX6 18 6 3 = true := am_fl_of rfl (Nat.le_of_ble_eq_true rfl) (am_tm 166 (by decide +kernel) rfl)
theorem fl_X6_24 : am_flB RX6 24 6 5 = true := am_fl_of rfl (Nat.le_of_ble_eq_true rfl) (am_tm 170 (by decide +kernel) rfl)
theorem yb_X6_kindBy : am_yB mX6_kindBy 3 := ⟨am_tm 7 (by decide +kernel) rfl, am_tm 329 (by decide +kernel) rfl, by decide +kernel, Nat.le_of_ble_eq_true rfl⟩
theorem ys_X6_kindBy : Cond.static mX6_kindBy.1 ∈ am_T := am_tm 328 (by decide +kernel) rfl
theorem cs_X6_93 : am_csB RX6 93 mX6_kindBy 3 = true := am_cs_of yb_X6_kindBy ys_X6_kindBy (am_tm 327 (by decide +kernel) rfl)
theorem fl_X7_22 : am_flB RX7 22 7 2 = true := am_fl_of rfl (Nat.le_of_ble_eq_true rfl) (am_tm 332 (by decide +kernel) rfl)
theorem fl_X7_79 : am_flB RX7 79 5 0 = true := am_fl_of rfl (Nat.le_of_ble_eq_true rfl) (am_tm 61 (by decide +kernel) rfl)
theorem yb_X5_append : am_yB mX5_append 1 := ⟨am_tm 3 (by decide +kernel) rfl, am_tm 374 (by decide +kernel) rfl, by decide +kernel, Nat.le_of_ble_eq_true rfl⟩
theorem yi_X5_append : Cond.instanceMethod mX5_append.1 ∈ am_T := am_tm 372 (by decide +kernel) rfl
theorem yl_X5_append : Cond.selects mX5_append.1.cls mX5_append.1 mX5_append.1 ∈ am_T := am_tm 373 (by decide +kernel) rfl
theorem cv_X7_82 : am_cvB RX7 82 mX5_append 1 = true := am_cv_of yb_X5_append yi_X5_append yl_X5_append (am_tm 371 (by decide +kernel) rfl)
theorem pf_X7_79 : am_pfB RX7 79 5 0 = true := am_pf_of rfl (Nat.le_of_ble_eq_true rfl) (am_tm 61 (by decide +kernel) rfl) rfl (by decide +kernel)
theorem fl_X7_16 : am_flB RX7 16 7 1 = true := am_fl_of rfl (Nat.le_of_ble_eq_true rfl) (am_tm 331 (by decide +kernel) rfl)
theorem yb_X5_readAll : am_yB mX5_readAll 1 := ⟨am_tm 3 (by decide +kernel) rfl, am_tm 386 (by decide +kernel) rfl, by decide +kernel, Nat.le_of_ble_eq_true rfl⟩
theorem yi_X5_readAll : Cond.instanceMethod mX5_readAll.1 ∈ am_T := am_tm 384 (by decide +kernel) rfl
theorem yl_X5_readAll : Cond.selects mX5_readAll.1.cls mX5_readAll.1 mX5_readAll.1 ∈ am_T := am_tm 385 (by decide +kernel) rfl
theorem cv_X7_86 : am_cvB RX7 86 mX5_readAll 1 = true := am_cv_of yb_X5_readAll yi_X5_readAll yl_X5_readAll (am_tm 383 (by decide +kernel) rfl)
theorem fl_X7_29 : am_flB RX7 29 7 3 = true := am_fl_of rfl (Nat.le_of_ble_eq_true rfl) (am_tm 333 (by decide +kernel) rfl)
theorem fl_X7_10 : am_flB RX7 10 7 0 = true := am_fl_of rfl (Nat.le_of_ble_eq_true rfl) (am_tm 330 (by decide +kernel) rfl)
theorem yb_X0_remember : am_yB mX0_remember 1 := ⟨am_tm 4 (by decide +kernel) rfl, am_tm 486 (by decide +kernel) rfl, by decide +kernel, Nat.le_of_ble_eq_true rfl⟩
theorem yi_X0_remember : Cond.instanceMethod mX0_remember.1 ∈ am_T := am_tm 484 (by decide +kernel) rfl
theorem yl_X0_remember : Cond.selects mX0_remember.1.cls mX0_remember.1 mX0_remember.1 ∈ am_T := am_tm 485 (by decide +kernel) rfl
theorem cv_X7_90 : am_cvB RX7 90 mX0_remember 1 = true := am_cv_of yb_X0_remember yi_X0_remember yl_X0_remember (am_tm 483 (by decide +kernel) rfl)
theorem cv_X7_94 : am_cvB RX7 94 mX3_takeFrom 1 = true := am_cv_of yb_X3_takeFrom yi_X3_takeFrom yl_X3_takeFrom (am_tm 495 (by decide +kernel) rfl)
theorem yb_X7_followAnew : am_yB mX7_followAnew 0 := ⟨am_tm 1 (by decide +kernel) rfl, am_tm 246 (by decide +kernel) rfl, by decide +kernel, Nat.le_of_ble_eq_true rfl⟩
theorem yi_X7_followAnew : Cond.instanceMethod mX7_followAnew.1 ∈ am_T := am_tm 245 (by decide +kernel) rfl
theorem yl_X7_followAnew : Cond.selects mX7_followAnew.1.cls mX7_followAnew.1 mX7_followAnew.1 ∈ am_T := am_tp 0 (n := 12) (by decide +kernel) rfl
theorem cv_X7_76 : am_cvB RX7 76 mX7_followAnew 0 = true := am_cv_of yb_X7_followAnew yi_X7_followAnew yl_X7_followAnew (am_tm 243 (by decide +kernel) rfl)
theorem cv_X7_97 : am_cvB RX7 97 mX3_hasPlace 2 = true := am_cv_of yb_X3_hasPlace yi_X3_hasPlace yl_X3_hasPlace (am_tm 501 (by decide +kernel) rfl)
theorem cv_X7_101 : am_cvB RX7 101 mX3_levelAt 2 = true := am_cv_of yb_X3_levelAt yi_X3_levelAt yl_X3_levelAt (am_tm 502 (by decide +kernel) rfl)
theorem cv_X7_105 : am_cvB RX7 105 mX3_putLevel 3 = true := am_cv_of yb_X3_putLevel yi_X3_putLevel yl_X3_putLevel (am_tm 503 (by decide +kernel) rfl)
theorem yb_X7_isSetting : am_yB mX7_isSetting 2 := ⟨am_tm 1 (by decide +kernel) rfl, am_tm 478 (by decide +kernel) rfl, by decide +kernel, Nat.le_of_ble_eq_true rfl⟩
theorem ys_X7_isSetting : Cond.static mX7_isSetting.1 ∈ am_T := am_tm 477 (by decide +kernel) rfl
theorem cs_X7_109 : am_csB RX7 109 mX7_isSetting 2 = true := am_cs_of yb_X7_isSetting ys_X7_isSetting (am_tm 508 (by decide +kernel) rfl)
theorem fl_X7_112 : am_flB RX7 112 3 2 = true := am_fl_of rfl (Nat.le_of_ble_eq_true rfl) (am_tm 41 (by decide +kernel) rfl)
theorem fl_X7_116 : am_flB RX7 116 0 0 = true := am_fl_of rfl (Nat.le_of_ble_eq_true rfl) (am_tm 88 (by decide +kernel) rfl)
theorem yb_X0_giveLatest : am_yB mX0_giveLatest 1 := ⟨am_tm 4 (by decide +kernel) rfl, am_tm 516 (by decide +kernel) rfl, by decide +kernel, Nat.le_of_ble_eq_true rfl⟩
theorem yi_X0_giveLatest : Cond.instanceMethod mX0_giveLatest.1 ∈ am_T := am_tm 514 (by decide +kernel) rfl
theorem yl_X0_giveLatest : Cond.selects mX0_giveLatest.1.cls mX0_giveLatest.1 mX0_giveLatest.1 ∈ am_T := am_tm 515 (by decide +kernel) rfl
theorem cv_X7_119 : am_cvB RX7 119 mX0_giveLatest 1 = true := am_cv_of yb_X0_giveLatest yi_X0_giveLatest yl_X0_giveLatest (am_tm 513 (by decide +kernel) rfl)
theorem cv_X7_122 : am_cvB RX7 122 mX3_hasFrame 1 = true := am_cv_of yb_X3_hasFrame yi_X3_hasFrame yl_X3_hasFrame (am_tm 525 (by decide +kernel) rfl)
theorem lc_X7_126 : Cond.constant RX7 126 (Int32.ofInt (-1000000)) ∈ am_T := by decide +kernel
theorem fl_X7_44 : am_flB RX7 44 7 6 = true := am_fl_of rfl (Nat.le_of_ble_eq_true rfl) (am_tm 336 (by decide +kernel) rfl)
theorem fl_X7_127 : am_flB RX7 127 2 0 = true := am_fl_of rfl (Nat.le_of_ble_eq_true rfl) (am_tm 104 (by decide +kernel) rfl)
theorem fl_X7_130 : am_flB RX7 130 2 1 = true := am_fl_of rfl (Nat.le_of_ble_eq_true rfl) (am_tm 106 (by decide +kernel) rfl)
theorem fl_X7_133 : am_flB RX7 133 2 2 = true := am_fl_of rfl (Nat.le_of_ble_eq_true rfl) (am_tm 110 (by decide +kernel) rfl)
theorem fl_X7_136 : am_flB RX7 136 2 3 = true := am_fl_of rfl (Nat.le_of_ble_eq_true rfl) (am_tm 113 (by decide +kernel) rfl)
theorem fl_X7_58 : am_flB RX7 58 7 8 = true := am_fl_of rfl (Nat.le_of_ble_eq_true rfl) (am_tm 338 (by decide +kernel) rfl)
theorem fl_X7_139 : am_flB RX7 139 6 8 = true := am_fl_of rfl (Nat.le_of_ble_eq_true rfl) (am_tm 175 (by decide +kernel) rfl)
theorem fl_X7_142 : am_flB RX7 142 6 9 = true := am_fl_of rfl (Nat.le_of_ble_eq_true rfl) (am_tm 177 (by decide +kernel) rfl)
theorem yb_X7_loudTogether : am_yB mX7_loudTogether 2 := ⟨am_tm 1 (by decide +kernel) rfl, am_tm 534 (by decide +kernel) rfl, by decide +kernel, Nat.le_of_ble_eq_true rfl⟩
theorem yi_X7_loudTogether : Cond.instanceMethod mX7_loudTogether.1 ∈ am_T := am_tm 533 (by decide +kernel) rfl
theorem yl_X7_loudTogether : Cond.selects mX7_loudTogether.1.cls mX7_loudTogether.1 mX7_loudTogether.1 ∈ am_T := am_tp 18 (n := 12) (by decide +kernel) rfl
theorem cv_X7_145 : am_cvB RX7 145 mX7_loudTogether 2 = true := am_cv_of yb_X7_loudTogether yi_X7_loudTogether yl_X7_loudTogether (am_tm 531 (by decide +kernel) rfl)
theorem yb_X6_bornIn : am_yB mX6_bornIn 1 := ⟨am_tm 7 (by decide +kernel) rfl, am_tm 542 (by decide +kernel) rfl, by decide +kernel, Nat.le_of_ble_eq_true rfl⟩
theorem yi_X6_bornIn : Cond.instanceMethod mX6_bornIn.1 ∈ am_T := am_tm 540 (by decide +kernel) rfl
theorem yl_X6_bornIn : Cond.selects mX6_bornIn.1.cls mX6_bornIn.1 mX6_bornIn.1 ∈ am_T := am_tm 541 (by decide +kernel) rfl
theorem cv_X7_149 : am_cvB RX7 149 mX6_bornIn 1 = true := am_cv_of yb_X6_bornIn yi_X6_bornIn yl_X6_bornIn (am_tm 539 (by decide +kernel) rfl)
theorem yb_X6_endingIn : am_yB mX6_endingIn 1 := ⟨am_tm 7 (by decide +kernel) rfl, am_tm 546 (by decide +kernel) rfl, by decide +kernel, Nat.le_of_ble_eq_true rfl⟩
theorem yi_X6_endingIn : Cond.instanceMethod mX6_endingIn.1 ∈ am_T := am_tm 544 (by decide +kernel) rfl
theorem yl_X6_endingIn : Cond.selects mX6_endingIn.1.cls mX6_endingIn.1 mX6_endingIn.1 ∈ am_T := am_tm 545 (by decide +kernel) rfl
theorem cv_X7_153 : am_cvB RX7 153 mX6_endingIn 1 = true := am_cv_of yb_X6_endingIn yi_X6_endingIn yl_X6_endingIn (am_tm 543 (by decide +kernel) rfl)
theorem fl_X7_156 : am_flB RX7 156 6 0 = true := am_fl_of rfl (Nat.le_of_ble_eq_true rfl) (am_tm 161 (by decide +kernel) rfl)
theorem fl_X7_158 : am_flB RX7 158 6 1 = true := am_fl_of rfl (Nat.le_of_ble_eq_true rfl) (am_tm 163 (by decide +kernel) rfl)
theorem fl_X7_161 : am_flB RX7 161 6 2 = true := am_fl_of rfl (Nat.le_of_ble_eq_true rfl) (am_tm 165 (by decide +kernel) rfl)
theorem yb_X7_isKept : am_yB mX7_isKept 1 := ⟨am_tm 1 (by decide +kernel) rfl, am_tm 538 (by decide +kernel) rfl, by decide +kernel, Nat.le_of_ble_eq_true rfl⟩
theorem yi_X7_isKept : Cond.instanceMethod mX7_isKept.1 ∈ am_T := am_tm 537 (by decide +kernel) rfl
theorem yl_X7_isKept : Cond.selects mX7_isKept.1.cls mX7_isKept.1 mX7_isKept.1 ∈ am_T := am_tp 19 (n := 12) (by decide +kernel) rfl
theorem cv_X7_164 : am_cvB RX7 164 mX7_isKept 1 = true := am_cv_of yb_X7_isKept yi_X7_isKept yl_X7_isKept (am_tm 535 (by decide +kernel) rfl)
theorem fl_X7_167 : am_flB RX7 167 6 3 = true := am_fl_of rfl (Nat.le_of_ble_eq_true rfl) (am_tm 167 (by decide +kernel) rfl)
theorem fl_X7_170 : am_flB RX7 170 6 4 = true := am_fl_of rfl (Nat.le_of_ble_eq_true rfl) (am_tm 169 (by decide +kernel) rfl)
theorem fl_X7_173 : am_flB RX7 173 6 5 = true := am_fl_of rfl (Nat.le_of_ble_eq_true rfl) (am_tm 171 (by decide +kernel) rfl)
theorem yb_X6_worthOf : am_yB mX6_worthOf 1 := ⟨am_tm 7 (by decide +kernel) rfl, am_tm 554 (by decide +kernel) rfl, by decide +kernel, Nat.le_of_ble_eq_true rfl⟩
theorem yi_X6_worthOf : Cond.instanceMethod mX6_worthOf.1 ∈ am_T := am_tm 552 (by decide +kernel) rfl
theorem yl_X6_worthOf : Cond.selects mX6_worthOf.1.cls mX6_worthOf.1 mX6_worthOf.1 ∈ am_T := am_tm 553 (by decide +kernel) rfl
theorem cv_X7_176 : am_cvB RX7 176 mX6_worthOf 1 = true := am_cv_of yb_X6_worthOf yi_X6_worthOf yl_X6_worthOf (am_tm 551 (by decide +kernel) rfl)
theorem cv_X7_179 : am_cvB RX7 179 mX6_pitchIn 2 = true := am_cv_of yb_X6_pitchIn yi_X6_pitchIn yl_X6_pitchIn (am_tm 555 (by decide +kernel) rfl)
theorem fl_X7_69 : am_flB RX7 69 7 10 = true := am_fl_of rfl (Nat.le_of_ble_eq_true rfl) (am_tm 340 (by decide +kernel) rfl)
theorem pf_X7_182 : am_pfB RX7 182 7 11 = true := am_pf_of rfl (Nat.le_of_ble_eq_true rfl) (am_tm 341 (by decide +kernel) rfl) rfl (by decide +kernel)
theorem gs_X7_185 : Cond.fieldLink RX7 185 "FollowedPeaks" "SETTING_LOWEST" "[I" ∈ am_T := am_tm 479 (by decide +kernel) rfl
theorem gs_X7_188 : Cond.fieldLink RX7 188 "FollowedPeaks" "SETTING_HIGHEST" "[I" ∈ am_T := am_tm 481 (by decide +kernel) rfl
theorem yb_X7_tracksByReach : am_yB mX7_tracksByReach 1 := ⟨am_tm 1 (by decide +kernel) rfl, am_tm 567 (by decide +kernel) rfl, by decide +kernel, Nat.le_of_ble_eq_true rfl⟩
theorem yi_X7_tracksByReach : Cond.instanceMethod mX7_tracksByReach.1 ∈ am_T := am_tm 566 (by decide +kernel) rfl
theorem yl_X7_tracksByReach : Cond.selects mX7_tracksByReach.1.cls mX7_tracksByReach.1 mX7_tracksByReach.1 ∈ am_T := am_tp 20 (n := 12) (by decide +kernel) rfl
theorem cv_X7_191 : am_cvB RX7 191 mX7_tracksByReach 1 = true := am_cv_of yb_X7_tracksByReach yi_X7_tracksByReach yl_X7_tracksByReach (am_tm 564 (by decide +kernel) rfl)
theorem fl_X7_182 : am_flB RX7 182 7 11 = true := am_fl_of rfl (Nat.le_of_ble_eq_true rfl) (am_tm 341 (by decide +kernel) rfl)
theorem pf_X7_69 : am_pfB RX7 69 7 10 = true := am_pf_of rfl (Nat.le_of_ble_eq_true rfl) (am_tm 340 (by decide +kernel) rfl) rfl (by decide +kernel)
theorem fl_X7_65 : am_flB RX7 65 7 9 = true := am_fl_of rfl (Nat.le_of_ble_eq_true rfl) (am_tm 339 (by decide +kernel) rfl)
theorem fl_X7_194 : am_flB RX7 194 4 0 = true := am_fl_of rfl (Nat.le_of_ble_eq_true rfl) (am_tm 206 (by decide +kernel) rfl)
theorem yb_X4_append : am_yB mX4_append 2 := ⟨am_tm 8 (by decide +kernel) rfl, am_tm 576 (by decide +kernel) rfl, by decide +kernel, Nat.le_of_ble_eq_true rfl⟩
theorem yi_X4_append : Cond.instanceMethod mX4_append.1 ∈ am_T := am_tm 574 (by decide +kernel) rfl
theorem yl_X4_append : Cond.selects mX4_append.1.cls mX4_append.1 mX4_append.1 ∈ am_T := am_tm 575 (by decide +kernel) rfl
theorem cv_X7_195 : am_cvB RX7 195 mX4_append 2 = true := am_cv_of yb_X4_append yi_X4_append yl_X4_append (am_tm 573 (by decide +kernel) rfl)
theorem pf_X7_194 : am_pfB RX7 194 4 0 = true := am_pf_of rfl (Nat.le_of_ble_eq_true rfl) (am_tm 206 (by decide +kernel) rfl) rfl (by decide +kernel)
theorem yb_X4_gather : am_yB mX4_gather 1 := ⟨am_tm 8 (by decide +kernel) rfl, am_tm 588 (by decide +kernel) rfl, by decide +kernel, Nat.le_of_ble_eq_true rfl⟩
theorem yi_X4_gather : Cond.instanceMethod mX4_gather.1 ∈ am_T := am_tm 586 (by decide +kernel) rfl
theorem yl_X4_gather : Cond.selects mX4_gather.1.cls mX4_gather.1 mX4_gather.1 ∈ am_T := am_tm 587 (by decide +kernel) rfl
theorem cv_X7_198 : am_cvB RX7 198 mX4_gather 1 = true := am_cv_of yb_X4_gather yi_X4_gather yl_X4_gather (am_tm 585 (by decide +kernel) rfl)
theorem fl_X7_202 : am_flB RX7 202 4 3 = true := am_fl_of rfl (Nat.le_of_ble_eq_true rfl) (am_tm 210 (by decide +kernel) rfl)
theorem fl_X7_205 : am_flB RX7 205 4 4 = true := am_fl_of rfl (Nat.le_of_ble_eq_true rfl) (am_tm 212 (by decide +kernel) rfl)
theorem yb_X4_mostAlike : am_yB mX4_mostAlike 2 := ⟨am_tm 8 (by decide +kernel) rfl, am_tm 601 (by decide +kernel) rfl, by decide +kernel, Nat.le_of_ble_eq_true rfl⟩
theorem yi_X4_mostAlike : Cond.instanceMethod mX4_mostAlike.1 ∈ am_T := am_tm 599 (by decide +kernel) rfl
theorem yl_X4_mostAlike : Cond.selects mX4_mostAlike.1.cls mX4_mostAlike.1 mX4_mostAlike.1 ∈ am_T := am_tm 600 (by decide +kernel) rfl
theorem cv_X7_208 : am_cvB RX7 208 mX4_mostAlike 2 = true := am_cv_of yb_X4_mostAlike yi_X4_mostAlike yl_X4_mostAlike (am_tm 598 (by decide +kernel) rfl)
theorem fl_X7_212 : am_flB RX7 212 3 0 = true := am_fl_of rfl (Nat.le_of_ble_eq_true rfl) (am_tm 34 (by decide +kernel) rfl)
theorem fl_X7_33 : am_flB RX7 33 7 4 = true := am_fl_of rfl (Nat.le_of_ble_eq_true rfl) (am_tm 334 (by decide +kernel) rfl)
theorem fl_X7_37 : am_flB RX7 37 7 5 = true := am_fl_of rfl (Nat.le_of_ble_eq_true rfl) (am_tm 335 (by decide +kernel) rfl)
theorem pf_X7_116 : am_pfB RX7 116 0 0 = true := am_pf_of rfl (Nat.le_of_ble_eq_true rfl) (am_tm 88 (by decide +kernel) rfl) rfl (by decide +kernel)
theorem fl_X7_215 : am_flB RX7 215 3 1 = true := am_fl_of rfl (Nat.le_of_ble_eq_true rfl) (am_tm 38 (by decide +kernel) rfl)
theorem yb_X7_keptTracks : am_yB mX7_keptTracks 0 := ⟨am_tm 1 (by decide +kernel) rfl, am_tm 619 (by decide +kernel) rfl, by decide +kernel, Nat.le_of_ble_eq_true rfl⟩
theorem yi_X7_keptTracks : Cond.instanceMethod mX7_keptTracks.1 ∈ am_T := am_tm 618 (by decide +kernel) rfl
theorem yl_X7_keptTracks : Cond.selects mX7_keptTracks.1.cls mX7_keptTracks.1 mX7_keptTracks.1 ∈ am_T := am_tp 22 (n := 12) (by decide +kernel) rfl
theorem cv_X7_217 : am_cvB RX7 217 mX7_keptTracks 0 = true := am_cv_of yb_X7_keptTracks yi_X7_keptTracks yl_X7_keptTracks (am_tm 616 (by decide +kernel) rfl)
theorem yb_X6_longest : am_yB mX6_longest 0 := ⟨am_tm 7 (by decide +kernel) rfl, am_tm 623 (by decide +kernel) rfl, by decide +kernel, Nat.le_of_ble_eq_true rfl⟩
theorem yi_X6_longest : Cond.instanceMethod mX6_longest.1 ∈ am_T := am_tm 621 (by decide +kernel) rfl
theorem yl_X6_longest : Cond.selects mX6_longest.1.cls mX6_longest.1 mX6_longest.1 ∈ am_T := am_tm 622 (by decide +kernel) rfl
theorem cv_X7_221 : am_cvB RX7 221 mX6_longest 0 = true := am_cv_of yb_X6_longest yi_X6_longest yl_X6_longest (am_tm 620 (by decide +kernel) rfl)
theorem yb_X2_find : am_yB mX2_find 1 := ⟨am_tm 5 (by decide +kernel) rfl, am_tm 250 (by decide +kernel) rfl, by decide +kernel, Nat.le_of_ble_eq_true rfl⟩
theorem yi_X2_find : Cond.instanceMethod mX2_find.1 ∈ am_T := am_tm 248 (by decide +kernel) rfl
theorem yl_X2_find : Cond.selects mX2_find.1.cls mX2_find.1 mX2_find.1 ∈ am_T := am_tm 249 (by decide +kernel) rfl
theorem cv_X7_224 : am_cvB RX7 224 mX2_find 1 = true := am_cv_of yb_X2_find yi_X2_find yl_X2_find (am_tm 247 (by decide +kernel) rfl)
theorem fl_X7_51 : am_flB RX7 51 7 7 = true := am_fl_of rfl (Nat.le_of_ble_eq_true rfl) (am_tm 337 (by decide +kernel) rfl)
theorem yb_X6_follow : am_yB mX6_follow 3 := ⟨am_tm 7 (by decide +kernel) rfl, am_tm 273 (by decide +kernel) rfl, by decide +kernel, Nat.le_of_ble_eq_true rfl⟩
theorem yi_X6_follow : Cond.instanceMethod mX6_follow.1 ∈ am_T := am_tm 271 (by decide +kernel) rfl
theorem yl_X6_follow : Cond.selects mX6_follow.1.cls mX6_follow.1 mX6_follow.1 ∈ am_T := am_tm 272 (by decide +kernel) rfl
theorem cv_X7_227 : am_cvB RX7 227 mX6_follow 3 = true := am_cv_of yb_X6_follow yi_X6_follow yl_X6_follow (am_tm 270 (by decide +kernel) rfl)
theorem cv_X7_231 : am_cvB RX7 231 mX1_join 3 = true := am_cv_of yb_X1_join yi_X1_join yl_X1_join (am_tm 568 (by decide +kernel) rfl)
theorem pf_X8_52 : am_pfB RX8 52 8 0 = true := am_pf_of rfl (Nat.le_of_ble_eq_true rfl) (am_tm 633 (by decide +kernel) rfl) rfl (by decide +kernel)
theorem yb_X8_in : am_yB mX8_in 3 := ⟨am_tm 13 (by decide +kernel) rfl, am_tm 709 (by decide +kernel) rfl, by decide +kernel, Nat.le_of_ble_eq_true rfl⟩
theorem ys_X8_in : Cond.static mX8_in.1 ∈ am_T := am_tm 708 (by decide +kernel) rfl
theorem cs_X8_56 : am_csB RX8 56 mX8_in 3 = true := am_cs_of yb_X8_in ys_X8_in (am_tm 707 (by decide +kernel) rfl)
theorem fl_X8_60 : am_flB RX8 60 8 10 = true := am_fl_of rfl (Nat.le_of_ble_eq_true rfl) (am_tm 643 (by decide +kernel) rfl)
theorem fl_X8_29 : am_flB RX8 29 8 9 = true := am_fl_of rfl (Nat.le_of_ble_eq_true rfl) (am_tm 642 (by decide +kernel) rfl)
theorem pf_X8_60 : am_pfB RX8 60 8 10 = true := am_pf_of rfl (Nat.le_of_ble_eq_true rfl) (am_tm 643 (by decide +kernel) rfl) rfl (by decide +kernel)
theorem fl_X8_63 : am_flB RX8 63 8 12 = true := am_fl_of rfl (Nat.le_of_ble_eq_true rfl) (am_tm 645 (by decide +kernel) rfl)
theorem fl_X8_66 : am_flB RX8 66 8 11 = true := am_fl_of rfl (Nat.le_of_ble_eq_true rfl) (am_tm 644 (by decide +kernel) rfl)
theorem yb_X8_at : am_yB mX8_at 1 := ⟨am_tm 13 (by decide +kernel) rfl, am_tm 729 (by decide +kernel) rfl, by decide +kernel, Nat.le_of_ble_eq_true rfl⟩
theorem yi_X8_at : Cond.instanceMethod mX8_at.1 ∈ am_T := am_tm 728 (by decide +kernel) rfl
theorem yl_X8_at : Cond.selects mX8_at.1.cls mX8_at.1 mX8_at.1 ∈ am_T := am_tp 25 (n := 23) (by decide +kernel) rfl
theorem cv_X8_69 : am_cvB RX8 69 mX8_at 1 = true := am_cv_of yb_X8_at yi_X8_at yl_X8_at (am_tm 726 (by decide +kernel) rfl)
theorem yb_X8_isWord : am_yB mX8_isWord 5 := ⟨am_tm 13 (by decide +kernel) rfl, am_tm 737 (by decide +kernel) rfl, by decide +kernel, Nat.le_of_ble_eq_true rfl⟩
theorem yi_X8_isWord : Cond.instanceMethod mX8_isWord.1 ∈ am_T := am_tm 736 (by decide +kernel) rfl
theorem yl_X8_isWord : Cond.selects mX8_isWord.1.cls mX8_isWord.1 mX8_isWord.1 ∈ am_T := am_tp 27 (n := 23) (by decide +kernel) rfl
theorem cv_X8_73 : am_cvB RX8 73 mX8_isWord 5 = true := am_cv_of yb_X8_isWord yi_X8_isWord yl_X8_isWord (am_tm 734 (by decide +kernel) rfl)
theorem pf_X8_66 : am_pfB RX8 66 8 11 = true := am_pf_of rfl (Nat.le_of_ble_eq_true rfl) (am_tm 644 (by decide +kernel) rfl) rfl (by decide +kernel)
theorem pf_X8_63 : am_pfB RX8 63 8 12 = true := am_pf_of rfl (Nat.le_of_ble_eq_true rfl) (am_tm 645 (by decide +kernel) rfl) rfl (by decide +kernel)
theorem pf_X8_77 : am_pfB RX8 77 8 13 = true := am_pf_of rfl (Nat.le_of_ble_eq_true rfl) (am_tm 646 (by decide +kernel) rfl) rfl (by decide +kernel)
theorem yb_X8_wordOf : am_yB mX8_wordOf 0 := ⟨am_tm 13 (by decide +kernel) rfl, am_tm 733 (by decide +kernel) rfl, by decide +kernel, Nat.le_of_ble_eq_true rfl⟩
theorem yi_X8_wordOf : Cond.instanceMethod mX8_wordOf.1 ∈ am_T := am_tm 732 (by decide +kernel) rfl
theorem yl_X8_wordOf : Cond.selects mX8_wordOf.1.cls mX8_wordOf.1 mX8_wordOf.1 ∈ am_T := am_tp 26 (n := 23) (by decide +kernel) rfl
theorem cv_X8_80 : am_cvB RX8 80 mX8_wordOf 0 = true := am_cv_of yb_X8_wordOf yi_X8_wordOf yl_X8_wordOf (am_tm 730 (by decide +kernel) rfl)
theorem fl_X8_84 : am_flB RX8 84 8 14 = true := am_fl_of rfl (Nat.le_of_ble_eq_true rfl) (am_tm 647 (by decide +kernel) rfl)
theorem yb_X8_steps : am_yB mX8_steps 0 := ⟨am_tm 13 (by decide +kernel) rfl, am_tm 725 (by decide +kernel) rfl, by decide +kernel, Nat.le_of_ble_eq_true rfl⟩
theorem yi_X8_steps : Cond.instanceMethod mX8_steps.1 ∈ am_T := am_tm 724 (by decide +kernel) rfl
theorem yl_X8_steps : Cond.selects mX8_steps.1.cls mX8_steps.1 mX8_steps.1 ∈ am_T := am_tp 24 (n := 23) (by decide +kernel) rfl
theorem cv_X8_87 : am_cvB RX8 87 mX8_steps 0 = true := am_cv_of yb_X8_steps yi_X8_steps yl_X8_steps (am_tm 722 (by decide +kernel) rfl)
theorem pf_X8_84 : am_pfB RX8 84 8 14 = true := am_pf_of rfl (Nat.le_of_ble_eq_true rfl) (am_tm 647 (by decide +kernel) rfl) rfl (by decide +kernel)
theorem fl_X8_13 : am_flB RX8 13 8 2 = true := am_fl_of rfl (Nat.le_of_ble_eq_true rfl) (am_tm 635 (by decide +kernel) rfl)
theorem yb_X8_takes : am_yB mX8_takes 1 := ⟨am_tm 13 (by decide +kernel) rfl, am_tm 745 (by decide +kernel) rfl, by decide +kernel, Nat.le_of_ble_eq_true rfl⟩
theorem yi_X8_takes : Cond.instanceMethod mX8_takes.1 ∈ am_T := am_tm 744 (by decide +kernel) rfl
theorem yl_X8_takes : Cond.selects mX8_takes.1.cls mX8_takes.1 mX8_takes.1 ∈ am_T := am_tp 29 (n := 23) (by decide +kernel) rfl
theorem cv_X8_90 : am_cvB RX8 90 mX8_takes 1 = true := am_cv_of yb_X8_takes yi_X8_takes yl_X8_takes (am_tm 742 (by decide +kernel) rfl)
theorem fl_X8_77 : am_flB RX8 77 8 13 = true := am_fl_of rfl (Nat.le_of_ble_eq_true rfl) (am_tm 646 (by decide +kernel) rfl)
theorem yb_X8_plain : am_yB mX8_plain 1 := ⟨am_tm 13 (by decide +kernel) rfl, am_tm 632 (by decide +kernel) rfl, by decide +kernel, Nat.le_of_ble_eq_true rfl⟩
theorem ys_X8_plain : Cond.static mX8_plain.1 ∈ am_T := am_tm 631 (by decide +kernel) rfl
theorem cs_X8_48 : am_csB RX8 48 mX8_plain 1 = true := am_cs_of yb_X8_plain ys_X8_plain (am_tm 630 (by decide +kernel) rfl)
theorem yb_X8_readsFrame : am_yB mX8_readsFrame 0 := ⟨am_tm 13 (by decide +kernel) rfl, am_tm 741 (by decide +kernel) rfl, by decide +kernel, Nat.le_of_ble_eq_true rfl⟩
theorem yi_X8_readsFrame : Cond.instanceMethod mX8_readsFrame.1 ∈ am_T := am_tm 740 (by decide +kernel) rfl
theorem yl_X8_readsFrame : Cond.selects mX8_readsFrame.1.cls mX8_readsFrame.1 mX8_readsFrame.1 ∈ am_T := am_tp 28 (n := 23) (by decide +kernel) rfl
theorem cv_X8_94 : am_cvB RX8 94 mX8_readsFrame 0 = true := am_cv_of yb_X8_readsFrame yi_X8_readsFrame yl_X8_readsFrame (am_tm 738 (by decide +kernel) rfl)
theorem yb_X8_readsNumber : am_yB mX8_readsNumber 3 := ⟨am_tm 13 (by decide +kernel) rfl, am_tm 749 (by decide +kernel) rfl, by decide +kernel, Nat.le_of_ble_eq_true rfl⟩
theorem yi_X8_readsNumber : Cond.instanceMethod mX8_readsNumber.1 ∈ am_T := am_tm 748 (by decide +kernel) rfl
theorem yl_X8_readsNumber : Cond.selects mX8_readsNumber.1.cls mX8_readsNumber.1 mX8_readsNumber.1 ∈ am_T := am_tp 30 (n := 23) (by decide +kernel) rfl
theorem cv_X8_97 : am_cvB RX8 97 mX8_readsNumber 3 = true := am_cv_of yb_X8_readsNumber yi_X8_readsNumber yl_X8_readsNumber (am_tm 746 (by decide +kernel) rfl)
theorem yb_X8_reads : am_yB mX8_reads 0 := ⟨am_tm 13 (by decide +kernel) rfl, am_tm 721 (by decide +kernel) rfl, by decide +kernel, Nat.le_of_ble_eq_true rfl⟩
theorem yi_X8_reads : Cond.instanceMethod mX8_reads.1 ∈ am_T := am_tm 720 (by decide +kernel) rfl
theorem yl_X8_reads : Cond.selects mX8_reads.1.cls mX8_reads.1 mX8_reads.1 ∈ am_T := am_tp 23 (n := 23) (by decide +kernel) rfl
theorem cv_X8_101 : am_cvB RX8 101 mX8_reads 0 = true := am_cv_of yb_X8_reads yi_X8_reads yl_X8_reads (am_tm 718 (by decide +kernel) rfl)
theorem yb_X8_notes : am_yB mX8_notes 0 := ⟨am_tm 13 (by decide +kernel) rfl, am_tm 753 (by decide +kernel) rfl, by decide +kernel, Nat.le_of_ble_eq_true rfl⟩
theorem yi_X8_notes : Cond.instanceMethod mX8_notes.1 ∈ am_T := am_tm 752 (by decide +kernel) rfl
theorem yl_X8_notes : Cond.selects mX8_notes.1.cls mX8_notes.1 mX8_notes.1 ∈ am_T := am_tp 31 (n := 23) (by decide +kernel) rfl
theorem cv_X8_104 : am_cvB RX8 104 mX8_notes 0 = true := am_cv_of yb_X8_notes yi_X8_notes yl_X8_notes (am_tm 750 (by decide +kernel) rfl)
theorem fl_X8_7 : am_flB RX8 7 8 1 = true := am_fl_of rfl (Nat.le_of_ble_eq_true rfl) (am_tm 634 (by decide +kernel) rfl)
theorem fl_X8_107 : am_flB RX8 107 8 4 = true := am_fl_of rfl (Nat.le_of_ble_eq_true rfl) (am_tm 637 (by decide +kernel) rfl)
theorem fl_X8_16 : am_flB RX8 16 8 3 = true := am_fl_of rfl (Nat.le_of_ble_eq_true rfl) (am_tm 636 (by decide +kernel) rfl)
theorem pf_X8_107 : am_pfB RX8 107 8 4 = true := am_pf_of rfl (Nat.le_of_ble_eq_true rfl) (am_tm 637 (by decide +kernel) rfl) rfl (by decide +kernel)
theorem yb_X8_isPlace : am_yB mX8_isPlace 2 := ⟨am_tm 13 (by decide +kernel) rfl, am_tm 761 (by decide +kernel) rfl, by decide +kernel, Nat.le_of_ble_eq_true rfl⟩
theorem yi_X8_isPlace : Cond.instanceMethod mX8_isPlace.1 ∈ am_T := am_tm 760 (by decide +kernel) rfl
theorem yl_X8_isPlace : Cond.selects mX8_isPlace.1.cls mX8_isPlace.1 mX8_isPlace.1 ∈ am_T := am_tp 32 (n := 23) (by decide +kernel) rfl
theorem cv_X8_110 : am_cvB RX8 110 mX8_isPlace 2 = true := am_cv_of yb_X8_isPlace yi_X8_isPlace yl_X8_isPlace (am_tm 758 (by decide +kernel) rfl)
theorem yb_X8_becomes : am_yB mX8_becomes 2 := ⟨am_tm 13 (by decide +kernel) rfl, am_tm 765 (by decide +kernel) rfl, by decide +kernel, Nat.le_of_ble_eq_true rfl⟩
theorem yi_X8_becomes : Cond.instanceMethod mX8_becomes.1 ∈ am_T := am_tm 764 (by decide +kernel) rfl
theorem yl_X8_becomes : Cond.selects mX8_becomes.1.cls mX8_becomes.1 mX8_becomes.1 ∈ am_T := am_tp 33 (n := 23) (by decide +kernel) rfl
theorem cv_X8_114 : am_cvB RX8 114 mX8_becomes 2 = true := am_cv_of yb_X8_becomes yi_X8_becomes yl_X8_becomes (am_tm 762 (by decide +kernel) rfl)
theorem fl_X8_33 : am_flB RX8 33 8 15 = true := am_fl_of rfl (Nat.le_of_ble_eq_true rfl) (am_tm 648 (by decide +kernel) rfl)
theorem yb_X8_levelAt : am_yB mX8_levelAt 2 := ⟨am_tm 13 (by decide +kernel) rfl, am_tm 781 (by decide +kernel) rfl, by decide +kernel, Nat.le_of_ble_eq_true rfl⟩
theorem yi_X8_levelAt : Cond.instanceMethod mX8_levelAt.1 ∈ am_T := am_tm 780 (by decide +kernel) rfl
theorem yl_X8_levelAt : Cond.selects mX8_levelAt.1.cls mX8_levelAt.1 mX8_levelAt.1 ∈ am_T := am_tp 34 (n := 23) (by decide +kernel) rfl
theorem cv_X8_118 : am_cvB RX8 118 mX8_levelAt 2 = true := am_cv_of yb_X8_levelAt yi_X8_levelAt yl_X8_levelAt (am_tm 778 (by decide +kernel) rfl)
theorem fl_X8_36 : am_flB RX8 36 8 16 = true := am_fl_of rfl (Nat.le_of_ble_eq_true rfl) (am_tm 649 (by decide +kernel) rfl)
theorem yb_X8_pitchOf : am_yB mX8_pitchOf 2 := ⟨am_tm 13 (by decide +kernel) rfl, am_tm 818 (by decide +kernel) rfl, by decide +kernel, Nat.le_of_ble_eq_true rfl⟩
theorem yi_X8_pitchOf : Cond.instanceMethod mX8_pitchOf.1 ∈ am_T := am_tm 817 (by decide +kernel) rfl
theorem yl_X8_pitchOf : Cond.selects mX8_pitchOf.1.cls mX8_pitchOf.1 mX8_pitchOf.1 ∈ am_T := am_tp 42 (n := 23) (by decide +kernel) rfl
theorem cv_X8_121 : am_cvB RX8 121 mX8_pitchOf 2 = true := am_cv_of yb_X8_pitchOf yi_X8_pitchOf yl_X8_pitchOf (am_tm 815 (by decide +kernel) rfl)
theorem fl_X8_45 : am_flB RX8 45 8 20 = true := am_fl_of rfl (Nat.le_of_ble_eq_true rfl) (am_tm 653 (by decide +kernel) rfl)
theorem yb_X8_apart : am_yB mX8_apart 3 := ⟨am_tm 13 (by decide +kernel) rfl, am_tm 814 (by decide +kernel) rfl, by decide +kernel, Nat.le_of_ble_eq_true rfl⟩
theorem yi_X8_apart : Cond.instanceMethod mX8_apart.1 ∈ am_T := am_tm 813 (by decide +kernel) rfl
theorem yl_X8_apart : Cond.selects mX8_apart.1.cls mX8_apart.1 mX8_apart.1 ∈ am_T := am_tp 41 (n := 23) (by decide +kernel) rfl
theorem cv_X8_124 : am_cvB RX8 124 mX8_apart 3 = true := am_cv_of yb_X8_apart yi_X8_apart yl_X8_apart (am_tm 811 (by decide +kernel) rfl)
theorem yb_X8_worthOf : am_yB mX8_worthOf 2 := ⟨am_tm 13 (by decide +kernel) rfl, am_tm 822 (by decide +kernel) rfl, by decide +kernel, Nat.le_of_ble_eq_true rfl⟩
theorem yi_X8_worthOf : Cond.instanceMethod mX8_worthOf.1 ∈ am_T := am_tm 821 (by decide +kernel) rfl
theorem yl_X8_worthOf : Cond.selects mX8_worthOf.1.cls mX8_worthOf.1 mX8_worthOf.1 ∈ am_T := am_tp 43 (n := 23) (by decide +kernel) rfl
theorem cv_X8_128 : am_cvB RX8 128 mX8_worthOf 2 = true := am_cv_of yb_X8_worthOf yi_X8_worthOf yl_X8_worthOf (am_tm 819 (by decide +kernel) rfl)
theorem yb_X8_pairWorth : am_yB mX8_pairWorth 4 := ⟨am_tm 13 (by decide +kernel) rfl, am_tm 810 (by decide +kernel) rfl, by decide +kernel, Nat.le_of_ble_eq_true rfl⟩
theorem yi_X8_pairWorth : Cond.instanceMethod mX8_pairWorth.1 ∈ am_T := am_tm 809 (by decide +kernel) rfl
theorem yl_X8_pairWorth : Cond.selects mX8_pairWorth.1.cls mX8_pairWorth.1 mX8_pairWorth.1 ∈ am_T := am_tp 40 (n := 23) (by decide +kernel) rfl
theorem cv_X8_131 : am_cvB RX8 131 mX8_pairWorth 4 = true := am_cv_of yb_X8_pairWorth yi_X8_pairWorth yl_X8_pairWorth (am_tm 807 (by decide +kernel) rfl)
theorem yb_X8_laysWorth : am_yB mX8_laysWorth 2 := ⟨am_tm 13 (by decide +kernel) rfl, am_tm 806 (by decide +kernel) rfl, by decide +kernel, Nat.le_of_ble_eq_true rfl⟩
theorem yi_X8_laysWorth : Cond.instanceMethod mX8_laysWorth.1 ∈ am_T := am_tm 805 (by decide +kernel) rfl
theorem yl_X8_laysWorth : Cond.selects mX8_laysWorth.1.cls mX8_laysWorth.1 mX8_laysWorth.1 ∈ am_T := am_tp 39 (n := 23) (by decide +kernel) rfl
theorem cv_X8_135 : am_cvB RX8 135 mX8_laysWorth 2 = true := am_cv_of yb_X8_laysWorth yi_X8_laysWorth yl_X8_laysWorth (am_tm 803 (by decide +kernel) rfl)
theorem fl_X8_39 : am_flB RX8 39 8 17 = true := am_fl_of rfl (Nat.le_of_ble_eq_true rfl) (am_tm 650 (by decide +kernel) rfl)
theorem yb_X8_laysPeaks : am_yB mX8_laysPeaks 0 := ⟨am_tm 13 (by decide +kernel) rfl, am_tm 798 (by decide +kernel) rfl, by decide +kernel, Nat.le_of_ble_eq_true rfl⟩
theorem yi_X8_laysPeaks : Cond.instanceMethod mX8_laysPeaks.1 ∈ am_T := am_tm 797 (by decide +kernel) rfl
theorem yl_X8_laysPeaks : Cond.selects mX8_laysPeaks.1.cls mX8_laysPeaks.1 mX8_laysPeaks.1 ∈ am_T := am_tp 37 (n := 23) (by decide +kernel) rfl
theorem cv_X8_139 : am_cvB RX8 139 mX8_laysPeaks 0 = true := am_cv_of yb_X8_laysPeaks yi_X8_laysPeaks yl_X8_laysPeaks (am_tm 795 (by decide +kernel) rfl)
theorem fl_X8_42 : am_flB RX8 42 8 18 = true := am_fl_of rfl (Nat.le_of_ble_eq_true rfl) (am_tm 651 (by decide +kernel) rfl)
theorem yb_X8_joins : am_yB mX8_joins 2 := ⟨am_tm 13 (by decide +kernel) rfl, am_tm 802 (by decide +kernel) rfl, by decide +kernel, Nat.le_of_ble_eq_true rfl⟩
theorem yi_X8_joins : Cond.instanceMethod mX8_joins.1 ∈ am_T := am_tm 801 (by decide +kernel) rfl
theorem yl_X8_joins : Cond.selects mX8_joins.1.cls mX8_joins.1 mX8_joins.1 ∈ am_T := am_tp 38 (n := 23) (by decide +kernel) rfl
theorem cv_X8_142 : am_cvB RX8 142 mX8_joins 2 = true := am_cv_of yb_X8_joins yi_X8_joins yl_X8_joins (am_tm 799 (by decide +kernel) rfl)
theorem pf_X8_145 : am_pfB RX8 145 8 19 = true := am_pf_of rfl (Nat.le_of_ble_eq_true rfl) (am_tm 652 (by decide +kernel) rfl) rfl (by decide +kernel)
theorem yb_X8_follows : am_yB mX8_follows 2 := ⟨am_tm 13 (by decide +kernel) rfl, am_tm 826 (by decide +kernel) rfl, by decide +kernel, Nat.le_of_ble_eq_true rfl⟩
theorem yi_X8_follows : Cond.instanceMethod mX8_follows.1 ∈ am_T := am_tm 825 (by decide +kernel) rfl
theorem yl_X8_follows : Cond.selects mX8_follows.1.cls mX8_follows.1 mX8_follows.1 ∈ am_T := am_tp 44 (n := 23) (by decide +kernel) rfl
theorem cv_X8_148 : am_cvB RX8 148 mX8_follows 2 = true := am_cv_of yb_X8_follows yi_X8_follows yl_X8_follows (am_tm 823 (by decide +kernel) rfl)
theorem fl_X8_145 : am_flB RX8 145 8 19 = true := am_fl_of rfl (Nat.le_of_ble_eq_true rfl) (am_tm 652 (by decide +kernel) rfl)
theorem yb_X8_laysTracks : am_yB mX8_laysTracks 1 := ⟨am_tm 13 (by decide +kernel) rfl, am_tm 794 (by decide +kernel) rfl, by decide +kernel, Nat.le_of_ble_eq_true rfl⟩
theorem yi_X8_laysTracks : Cond.instanceMethod mX8_laysTracks.1 ∈ am_T := am_tm 793 (by decide +kernel) rfl
theorem yl_X8_laysTracks : Cond.selects mX8_laysTracks.1.cls mX8_laysTracks.1 mX8_laysTracks.1 ∈ am_T := am_tp 36 (n := 23) (by decide +kernel) rfl
theorem cv_X8_151 : am_cvB RX8 151 mX8_laysTracks 1 = true := am_cv_of yb_X8_laysTracks yi_X8_laysTracks yl_X8_laysTracks (am_tm 791 (by decide +kernel) rfl)
theorem yb_X8_peakOf : am_yB mX8_peakOf 2 := ⟨am_tm 13 (by decide +kernel) rfl, am_tm 846 (by decide +kernel) rfl, by decide +kernel, Nat.le_of_ble_eq_true rfl⟩
theorem yi_X8_peakOf : Cond.instanceMethod mX8_peakOf.1 ∈ am_T := am_tm 845 (by decide +kernel) rfl
theorem yl_X8_peakOf : Cond.selects mX8_peakOf.1.cls mX8_peakOf.1 mX8_peakOf.1 ∈ am_T := am_tp 48 (n := 23) (by decide +kernel) rfl
theorem cv_X8_155 : am_cvB RX8 155 mX8_peakOf 2 = true := am_cv_of yb_X8_peakOf yi_X8_peakOf yl_X8_peakOf (am_tm 843 (by decide +kernel) rfl)
theorem yb_X8_bornOf : am_yB mX8_bornOf 1 := ⟨am_tm 13 (by decide +kernel) rfl, am_tm 854 (by decide +kernel) rfl, by decide +kernel, Nat.le_of_ble_eq_true rfl⟩
theorem yi_X8_bornOf : Cond.instanceMethod mX8_bornOf.1 ∈ am_T := am_tm 853 (by decide +kernel) rfl
theorem yl_X8_bornOf : Cond.selects mX8_bornOf.1.cls mX8_bornOf.1 mX8_bornOf.1 ∈ am_T := am_tp 50 (n := 23) (by decide +kernel) rfl
theorem cv_X8_158 : am_cvB RX8 158 mX8_bornOf 1 = true := am_cv_of yb_X8_bornOf yi_X8_bornOf yl_X8_bornOf (am_tm 851 (by decide +kernel) rfl)
theorem yb_X8_longOf : am_yB mX8_longOf 1 := ⟨am_tm 13 (by decide +kernel) rfl, am_tm 842 (by decide +kernel) rfl, by decide +kernel, Nat.le_of_ble_eq_true rfl⟩
theorem yi_X8_longOf : Cond.instanceMethod mX8_longOf.1 ∈ am_T := am_tm 841 (by decide +kernel) rfl
theorem yl_X8_longOf : Cond.selects mX8_longOf.1.cls mX8_longOf.1 mX8_longOf.1 ∈ am_T := am_tp 47 (n := 23) (by decide +kernel) rfl
theorem cv_X8_161 : am_cvB RX8 161 mX8_longOf 1 = true := am_cv_of yb_X8_longOf yi_X8_longOf yl_X8_longOf (am_tm 839 (by decide +kernel) rfl)
theorem pf_X8_164 : am_pfB RX8 164 8 21 = true := am_pf_of rfl (Nat.le_of_ble_eq_true rfl) (am_tm 654 (by decide +kernel) rfl) rfl (by decide +kernel)
theorem pf_X8_167 : am_pfB RX8 167 8 22 = true := am_pf_of rfl (Nat.le_of_ble_eq_true rfl) (am_tm 655 (by decide +kernel) rfl) rfl (by decide +kernel)
theorem fl_X8_167 : am_flB RX8 167 8 22 = true := am_fl_of rfl (Nat.le_of_ble_eq_true rfl) (am_tm 655 (by decide +kernel) rfl)
theorem fl_X8_164 : am_flB RX8 164 8 21 = true := am_fl_of rfl (Nat.le_of_ble_eq_true rfl) (am_tm 654 (by decide +kernel) rfl)
theorem yb_X8_laysSteps : am_yB mX8_laysSteps 1 := ⟨am_tm 13 (by decide +kernel) rfl, am_tm 870 (by decide +kernel) rfl, by decide +kernel, Nat.le_of_ble_eq_true rfl⟩
theorem yi_X8_laysSteps : Cond.instanceMethod mX8_laysSteps.1 ∈ am_T := am_tm 869 (by decide +kernel) rfl
theorem yl_X8_laysSteps : Cond.selects mX8_laysSteps.1.cls mX8_laysSteps.1 mX8_laysSteps.1 ∈ am_T := am_tp 53 (n := 23) (by decide +kernel) rfl
theorem cv_X8_170 : am_cvB RX8 170 mX8_laysSteps 1 = true := am_cv_of yb_X8_laysSteps yi_X8_laysSteps yl_X8_laysSteps (am_tm 867 (by decide +kernel) rfl)
theorem yb_X8_depthOf : am_yB mX8_depthOf 1 := ⟨am_tm 13 (by decide +kernel) rfl, am_tm 862 (by decide +kernel) rfl, by decide +kernel, Nat.le_of_ble_eq_true rfl⟩
theorem yi_X8_depthOf : Cond.instanceMethod mX8_depthOf.1 ∈ am_T := am_tm 861 (by decide +kernel) rfl
theorem yl_X8_depthOf : Cond.selects mX8_depthOf.1.cls mX8_depthOf.1 mX8_depthOf.1 ∈ am_T := am_tp 51 (n := 23) (by decide +kernel) rfl
theorem cv_X8_173 : am_cvB RX8 173 mX8_depthOf 1 = true := am_cv_of yb_X8_depthOf yi_X8_depthOf yl_X8_depthOf (am_tm 859 (by decide +kernel) rfl)
theorem yb_X8_loudOf : am_yB mX8_loudOf 2 := ⟨am_tm 13 (by decide +kernel) rfl, am_tm 830 (by decide +kernel) rfl, by decide +kernel, Nat.le_of_ble_eq_true rfl⟩
theorem yi_X8_loudOf : Cond.instanceMethod mX8_loudOf.1 ∈ am_T := am_tm 829 (by decide +kernel) rfl
theorem yl_X8_loudOf : Cond.selects mX8_loudOf.1.cls mX8_loudOf.1 mX8_loudOf.1 ∈ am_T := am_tp 45 (n := 23) (by decide +kernel) rfl
theorem cv_X8_176 : am_cvB RX8 176 mX8_loudOf 2 = true := am_cv_of yb_X8_loudOf yi_X8_loudOf yl_X8_loudOf (am_tm 827 (by decide +kernel) rfl)
theorem yb_X8_kindOf : am_yB mX8_kindOf 1 := ⟨am_tm 13 (by decide +kernel) rfl, am_tm 874 (by decide +kernel) rfl, by decide +kernel, Nat.le_of_ble_eq_true rfl⟩
theorem yi_X8_kindOf : Cond.instanceMethod mX8_kindOf.1 ∈ am_T := am_tm 873 (by decide +kernel) rfl
theorem yl_X8_kindOf : Cond.selects mX8_kindOf.1.cls mX8_kindOf.1 mX8_kindOf.1 ∈ am_T := am_tp 54 (n := 23) (by decide +kernel) rfl
theorem cv_X8_179 : am_cvB RX8 179 mX8_kindOf 1 = true := am_cv_of yb_X8_kindOf yi_X8_kindOf yl_X8_kindOf (am_tm 871 (by decide +kernel) rfl)
theorem lc_X8_182 : Cond.constant RX8 182 (Int32.ofInt (-1000000)) ∈ am_T := by decide +kernel
theorem yb_X8_lays : am_yB mX8_lays 0 := ⟨am_tm 13 (by decide +kernel) rfl, am_tm 790 (by decide +kernel) rfl, by decide +kernel, Nat.le_of_ble_eq_true rfl⟩
theorem yi_X8_lays : Cond.instanceMethod mX8_lays.1 ∈ am_T := am_tm 789 (by decide +kernel) rfl
theorem yl_X8_lays : Cond.selects mX8_lays.1.cls mX8_lays.1 mX8_lays.1 ∈ am_T := am_tp 35 (n := 23) (by decide +kernel) rfl
theorem cv_X8_183 : am_cvB RX8 183 mX8_lays 0 = true := am_cv_of yb_X8_lays yi_X8_lays yl_X8_lays (am_tm 787 (by decide +kernel) rfl)
theorem yb_X8_sumOf : am_yB mX8_sumOf 2 := ⟨am_tm 13 (by decide +kernel) rfl, am_tm 838 (by decide +kernel) rfl, by decide +kernel, Nat.le_of_ble_eq_true rfl⟩
theorem yi_X8_sumOf : Cond.instanceMethod mX8_sumOf.1 ∈ am_T := am_tm 837 (by decide +kernel) rfl
theorem yl_X8_sumOf : Cond.selects mX8_sumOf.1.cls mX8_sumOf.1 mX8_sumOf.1 ∈ am_T := am_tp 46 (n := 23) (by decide +kernel) rfl
theorem cv_X8_186 : am_cvB RX8 186 mX8_sumOf 2 = true := am_cv_of yb_X8_sumOf yi_X8_sumOf yl_X8_sumOf (am_tm 835 (by decide +kernel) rfl)
theorem yb_X8_bornIn : am_yB mX8_bornIn 2 := ⟨am_tm 13 (by decide +kernel) rfl, am_tm 850 (by decide +kernel) rfl, by decide +kernel, Nat.le_of_ble_eq_true rfl⟩
theorem yi_X8_bornIn : Cond.instanceMethod mX8_bornIn.1 ∈ am_T := am_tm 849 (by decide +kernel) rfl
theorem yl_X8_bornIn : Cond.selects mX8_bornIn.1.cls mX8_bornIn.1 mX8_bornIn.1 ∈ am_T := am_tp 49 (n := 23) (by decide +kernel) rfl
theorem cv_X8_190 : am_cvB RX8 190 mX8_bornIn 2 = true := am_cv_of yb_X8_bornIn yi_X8_bornIn yl_X8_bornIn (am_tm 847 (by decide +kernel) rfl)
theorem yb_X8_turnsOf : am_yB mX8_turnsOf 1 := ⟨am_tm 13 (by decide +kernel) rfl, am_tm 866 (by decide +kernel) rfl, by decide +kernel, Nat.le_of_ble_eq_true rfl⟩
theorem yi_X8_turnsOf : Cond.instanceMethod mX8_turnsOf.1 ∈ am_T := am_tm 865 (by decide +kernel) rfl
theorem yl_X8_turnsOf : Cond.selects mX8_turnsOf.1.cls mX8_turnsOf.1 mX8_turnsOf.1 ∈ am_T := am_tp 52 (n := 23) (by decide +kernel) rfl
theorem cv_X8_193 : am_cvB RX8 193 mX8_turnsOf 1 = true := am_cv_of yb_X8_turnsOf yi_X8_turnsOf yl_X8_turnsOf (am_tm 863 (by decide +kernel) rfl)
theorem yb_X8_worthOfTrack : am_yB mX8_worthOfTrack 1 := ⟨am_tm 13 (by decide +kernel) rfl, am_tm 878 (by decide +kernel) rfl, by decide +kernel, Nat.le_of_ble_eq_true rfl⟩
theorem yi_X8_worthOfTrack : Cond.instanceMethod mX8_worthOfTrack.1 ∈ am_T := am_tm 877 (by decide +kernel) rfl
theorem yl_X8_worthOfTrack : Cond.selects mX8_worthOfTrack.1.cls mX8_worthOfTrack.1 mX8_worthOfTrack.1 ∈ am_T := am_tp 55 (n := 23) (by decide +kernel) rfl
theorem cv_X8_196 : am_cvB RX8 196 mX8_worthOfTrack 1 = true := am_cv_of yb_X8_worthOfTrack yi_X8_worthOfTrack yl_X8_worthOfTrack (am_tm 875 (by decide +kernel) rfl)
theorem yb_X8_pitchIn : am_yB mX8_pitchIn 2 := ⟨am_tm 13 (by decide +kernel) rfl, am_tm 886 (by decide +kernel) rfl, by decide +kernel, Nat.le_of_ble_eq_true rfl⟩
theorem yi_X8_pitchIn : Cond.instanceMethod mX8_pitchIn.1 ∈ am_T := am_tm 885 (by decide +kernel) rfl
theorem yl_X8_pitchIn : Cond.selects mX8_pitchIn.1.cls mX8_pitchIn.1 mX8_pitchIn.1 ∈ am_T := am_tp 56 (n := 23) (by decide +kernel) rfl
theorem cv_X8_199 : am_cvB RX8 199 mX8_pitchIn 2 = true := am_cv_of yb_X8_pitchIn yi_X8_pitchIn yl_X8_pitchIn (am_tm 883 (by decide +kernel) rfl)
theorem fl_X8_202 : am_flB RX8 202 8 8 = true := am_fl_of rfl (Nat.le_of_ble_eq_true rfl) (am_tm 641 (by decide +kernel) rfl)
theorem fl_X8_26 : am_flB RX8 26 8 7 = true := am_fl_of rfl (Nat.le_of_ble_eq_true rfl) (am_tm 640 (by decide +kernel) rfl)
theorem pf_X8_202 : am_pfB RX8 202 8 8 = true := am_pf_of rfl (Nat.le_of_ble_eq_true rfl) (am_tm 641 (by decide +kernel) rfl) rfl (by decide +kernel)
theorem yb_X8_isSo : am_yB mX8_isSo 1 := ⟨am_tm 13 (by decide +kernel) rfl, am_tm 906 (by decide +kernel) rfl, by decide +kernel, Nat.le_of_ble_eq_true rfl⟩
theorem yi_X8_isSo : Cond.instanceMethod mX8_isSo.1 ∈ am_T := am_tm 905 (by decide +kernel) rfl
theorem yl_X8_isSo : Cond.selects mX8_isSo.1.cls mX8_isSo.1 mX8_isSo.1 ∈ am_T := am_tp 57 (n := 23) (by decide +kernel) rfl
theorem cv_X8_205 : am_cvB RX8 205 mX8_isSo 1 = true := am_cv_of yb_X8_isSo yi_X8_isSo yl_X8_isSo (am_tm 903 (by decide +kernel) rfl)
theorem yb_X8_mostAlike : am_yB mX8_mostAlike 1 := ⟨am_tm 13 (by decide +kernel) rfl, am_tm 914 (by decide +kernel) rfl, by decide +kernel, Nat.le_of_ble_eq_true rfl⟩
theorem yi_X8_mostAlike : Cond.instanceMethod mX8_mostAlike.1 ∈ am_T := am_tm 913 (by decide +kernel) rfl
theorem yl_X8_mostAlike : Cond.selects mX8_mostAlike.1.cls mX8_mostAlike.1 mX8_mostAlike.1 ∈ am_T := am_tp 58 (n := 23) (by decide +kernel) rfl
theorem cv_X8_209 : am_cvB RX8 209 mX8_mostAlike 1 = true := am_cv_of yb_X8_mostAlike yi_X8_mostAlike yl_X8_mostAlike (am_tm 911 (by decide +kernel) rfl)
theorem fl_X8_19 : am_flB RX8 19 8 5 = true := am_fl_of rfl (Nat.le_of_ble_eq_true rfl) (am_tm 638 (by decide +kernel) rfl)
theorem fl_X8_22 : am_flB RX8 22 8 6 = true := am_fl_of rfl (Nat.le_of_ble_eq_true rfl) (am_tm 639 (by decide +kernel) rfl)
theorem yb_X8_tracksNow : am_yB mX8_tracksNow 0 := ⟨am_tm 13 (by decide +kernel) rfl, am_tm 930 (by decide +kernel) rfl, by decide +kernel, Nat.le_of_ble_eq_true rfl⟩
theorem yi_X8_tracksNow : Cond.instanceMethod mX8_tracksNow.1 ∈ am_T := am_tm 929 (by decide +kernel) rfl
theorem yl_X8_tracksNow : Cond.selects mX8_tracksNow.1.cls mX8_tracksNow.1 mX8_tracksNow.1 ∈ am_T := am_tp 59 (n := 23) (by decide +kernel) rfl
theorem cv_X8_212 : am_cvB RX8 212 mX8_tracksNow 0 = true := am_cv_of yb_X8_tracksNow yi_X8_tracksNow yl_X8_tracksNow (am_tm 927 (by decide +kernel) rfl)
theorem yb_X8_keptMany : am_yB mX8_keptMany 0 := ⟨am_tm 13 (by decide +kernel) rfl, am_tm 934 (by decide +kernel) rfl, by decide +kernel, Nat.le_of_ble_eq_true rfl⟩
theorem yi_X8_keptMany : Cond.instanceMethod mX8_keptMany.1 ∈ am_T := am_tm 933 (by decide +kernel) rfl
theorem yl_X8_keptMany : Cond.selects mX8_keptMany.1.cls mX8_keptMany.1 mX8_keptMany.1 ∈ am_T := am_tp 60 (n := 23) (by decide +kernel) rfl
theorem cv_X8_215 : am_cvB RX8 215 mX8_keptMany 0 = true := am_cv_of yb_X8_keptMany yi_X8_keptMany yl_X8_keptMany (am_tm 931 (by decide +kernel) rfl)
theorem yb_X8_longest : am_yB mX8_longest 0 := ⟨am_tm 13 (by decide +kernel) rfl, am_tm 938 (by decide +kernel) rfl, by decide +kernel, Nat.le_of_ble_eq_true rfl⟩
theorem yi_X8_longest : Cond.instanceMethod mX8_longest.1 ∈ am_T := am_tm 937 (by decide +kernel) rfl
theorem yl_X8_longest : Cond.selects mX8_longest.1.cls mX8_longest.1 mX8_longest.1 ∈ am_T := am_tp 61 (n := 23) (by decide +kernel) rfl
theorem cv_X8_218 : am_cvB RX8 218 mX8_longest 0 = true := am_cv_of yb_X8_longest yi_X8_longest yl_X8_longest (am_tm 935 (by decide +kernel) rfl)
theorem yb_X7_type : am_yB mX7_type 1 := ⟨am_tm 1 (by decide +kernel) rfl, am_tm 370 (by decide +kernel) rfl, by decide +kernel, Nat.le_of_ble_eq_true rfl⟩
theorem yi_X7_type : Cond.instanceMethod mX7_type.1 ∈ am_T := am_tm 368 (by decide +kernel) rfl
theorem yl_X7_type : Cond.selects mX7_type.1.cls mX7_type.1 mX7_type.1 ∈ am_T := am_tm 369 (by decide +kernel) rfl
theorem cv_L_13 : am_cvB RL 13 mX7_type 1 = true := am_cv_of yb_X7_type yi_X7_type yl_X7_type (am_tm 367 (by decide +kernel) rfl)
theorem yb_X8_type : am_yB mX8_type 1 := ⟨am_tm 13 (by decide +kernel) rfl, am_tm 706 (by decide +kernel) rfl, by decide +kernel, Nat.le_of_ble_eq_true rfl⟩
theorem yi_X8_type : Cond.instanceMethod mX8_type.1 ∈ am_T := am_tm 704 (by decide +kernel) rfl
theorem yl_X8_type : Cond.selects mX8_type.1.cls mX8_type.1 mX8_type.1 ∈ am_T := am_tm 705 (by decide +kernel) rfl
theorem cv_L_17 : am_cvB RL 17 mX8_type 1 = true := am_cv_of yb_X8_type yi_X8_type yl_X8_type (am_tm 703 (by decide +kernel) rfl)
theorem yb_X7_clear : am_yB mX7_clear 0 := ⟨am_tm 1 (by decide +kernel) rfl, am_tm 378 (by decide +kernel) rfl, by decide +kernel, Nat.le_of_ble_eq_true rfl⟩
theorem yi_X7_clear : Cond.instanceMethod mX7_clear.1 ∈ am_T := am_tm 376 (by decide +kernel) rfl
theorem yl_X7_clear : Cond.selects mX7_clear.1.cls mX7_clear.1 mX7_clear.1 ∈ am_T := am_tm 377 (by decide +kernel) rfl
theorem cv_L_18 : am_cvB RL 18 mX7_clear 0 = true := am_cv_of yb_X7_clear yi_X7_clear yl_X7_clear (am_tm 375 (by decide +kernel) rfl)
theorem yb_X8_clear : am_yB mX8_clear 0 := ⟨am_tm 13 (by decide +kernel) rfl, am_tm 713 (by decide +kernel) rfl, by decide +kernel, Nat.le_of_ble_eq_true rfl⟩
theorem yi_X8_clear : Cond.instanceMethod mX8_clear.1 ∈ am_T := am_tm 711 (by decide +kernel) rfl
theorem yl_X8_clear : Cond.selects mX8_clear.1.cls mX8_clear.1 mX8_clear.1 ∈ am_T := am_tm 712 (by decide +kernel) rfl
theorem cv_L_22 : am_cvB RL 22 mX8_clear 0 = true := am_cv_of yb_X8_clear yi_X8_clear yl_X8_clear (am_tm 710 (by decide +kernel) rfl)
theorem yb_X7_tells : am_yB mX7_tells 0 := ⟨am_tm 1 (by decide +kernel) rfl, am_tm 382 (by decide +kernel) rfl, by decide +kernel, Nat.le_of_ble_eq_true rfl⟩
theorem yi_X7_tells : Cond.instanceMethod mX7_tells.1 ∈ am_T := am_tm 380 (by decide +kernel) rfl
theorem yl_X7_tells : Cond.selects mX7_tells.1.cls mX7_tells.1 mX7_tells.1 ∈ am_T := am_tm 381 (by decide +kernel) rfl
theorem cv_L_23 : am_cvB RL 23 mX7_tells 0 = true := am_cv_of yb_X7_tells yi_X7_tells yl_X7_tells (am_tm 379 (by decide +kernel) rfl)
theorem yb_X8_tells : am_yB mX8_tells 0 := ⟨am_tm 13 (by decide +kernel) rfl, am_tm 717 (by decide +kernel) rfl, by decide +kernel, Nat.le_of_ble_eq_true rfl⟩
theorem yi_X8_tells : Cond.instanceMethod mX8_tells.1 ∈ am_T := am_tm 715 (by decide +kernel) rfl
theorem yl_X8_tells : Cond.selects mX8_tells.1.cls mX8_tells.1 mX8_tells.1 ∈ am_T := am_tm 716 (by decide +kernel) rfl
theorem cv_L_26 : am_cvB RL 26 mX8_tells 0 = true := am_cv_of yb_X8_tells yi_X8_tells yl_X8_tells (am_tm 714 (by decide +kernel) rfl)
theorem yb_X7_levels : am_yB mX7_levels 3 := ⟨am_tm 1 (by decide +kernel) rfl, am_tm 500 (by decide +kernel) rfl, by decide +kernel, Nat.le_of_ble_eq_true rfl⟩
theorem yi_X7_levels : Cond.instanceMethod mX7_levels.1 ∈ am_T := am_tm 498 (by decide +kernel) rfl
theorem yl_X7_levels : Cond.selects mX7_levels.1.cls mX7_levels.1 mX7_levels.1 ∈ am_T := am_tm 499 (by decide +kernel) rfl
theorem cv_L_27 : am_cvB RL 27 mX7_levels 3 = true := am_cv_of yb_X7_levels yi_X7_levels yl_X7_levels (am_tm 497 (by decide +kernel) rfl)
theorem yb_X8_levels : am_yB mX8_levels 3 := ⟨am_tm 13 (by decide +kernel) rfl, am_tm 757 (by decide +kernel) rfl, by decide +kernel, Nat.le_of_ble_eq_true rfl⟩
theorem yi_X8_levels : Cond.instanceMethod mX8_levels.1 ∈ am_T := am_tm 755 (by decide +kernel) rfl
theorem yl_X8_levels : Cond.selects mX8_levels.1.cls mX8_levels.1 mX8_levels.1 ∈ am_T := am_tm 756 (by decide +kernel) rfl
theorem cv_L_31 : am_cvB RL 31 mX8_levels 3 = true := am_cv_of yb_X8_levels yi_X8_levels yl_X8_levels (am_tm 754 (by decide +kernel) rfl)
theorem yb_X7_sets : am_yB mX7_sets 2 := ⟨am_tm 1 (by decide +kernel) rfl, am_tm 507 (by decide +kernel) rfl, by decide +kernel, Nat.le_of_ble_eq_true rfl⟩
theorem yi_X7_sets : Cond.instanceMethod mX7_sets.1 ∈ am_T := am_tm 505 (by decide +kernel) rfl
theorem yl_X7_sets : Cond.selects mX7_sets.1.cls mX7_sets.1 mX7_sets.1 ∈ am_T := am_tm 506 (by decide +kernel) rfl
theorem cv_L_32 : am_cvB RL 32 mX7_sets 2 = true := am_cv_of yb_X7_sets yi_X7_sets yl_X7_sets (am_tm 504 (by decide +kernel) rfl)
theorem yb_X8_sets : am_yB mX8_sets 2 := ⟨am_tm 13 (by decide +kernel) rfl, am_tm 769 (by decide +kernel) rfl, by decide +kernel, Nat.le_of_ble_eq_true rfl⟩
theorem yi_X8_sets : Cond.instanceMethod mX8_sets.1 ∈ am_T := am_tm 767 (by decide +kernel) rfl
theorem yl_X8_sets : Cond.selects mX8_sets.1.cls mX8_sets.1 mX8_sets.1 ∈ am_T := am_tm 768 (by decide +kernel) rfl
theorem cv_L_36 : am_cvB RL 36 mX8_sets 2 = true := am_cv_of yb_X8_sets yi_X8_sets yl_X8_sets (am_tm 766 (by decide +kernel) rfl)
theorem yb_X7_undo : am_yB mX7_undo 0 := ⟨am_tm 1 (by decide +kernel) rfl, am_tm 512 (by decide +kernel) rfl, by decide +kernel, Nat.le_of_ble_eq_true rfl⟩
theorem yi_X7_undo : Cond.instanceMethod mX7_undo.1 ∈ am_T := am_tm 510 (by decide +kernel) rfl
theorem yl_X7_undo : Cond.selects mX7_undo.1.cls mX7_undo.1 mX7_undo.1 ∈ am_T := am_tm 511 (by decide +kernel) rfl
theorem cv_L_37 : am_cvB RL 37 mX7_undo 0 = true := am_cv_of yb_X7_undo yi_X7_undo yl_X7_undo (am_tm 509 (by decide +kernel) rfl)
theorem yb_X8_undo : am_yB mX8_undo 0 := ⟨am_tm 13 (by decide +kernel) rfl, am_tm 773 (by decide +kernel) rfl, by decide +kernel, Nat.le_of_ble_eq_true rfl⟩
theorem yi_X8_undo : Cond.instanceMethod mX8_undo.1 ∈ am_T := am_tm 771 (by decide +kernel) rfl
theorem yl_X8_undo : Cond.selects mX8_undo.1.cls mX8_undo.1 mX8_undo.1 ∈ am_T := am_tm 772 (by decide +kernel) rfl
theorem cv_L_40 : am_cvB RL 40 mX8_undo 0 = true := am_cv_of yb_X8_undo yi_X8_undo yl_X8_undo (am_tm 770 (by decide +kernel) rfl)
theorem yb_X7_level : am_yB mX7_level 2 := ⟨am_tm 1 (by decide +kernel) rfl, am_tm 520 (by decide +kernel) rfl, by decide +kernel, Nat.le_of_ble_eq_true rfl⟩
theorem yi_X7_level : Cond.instanceMethod mX7_level.1 ∈ am_T := am_tm 518 (by decide +kernel) rfl
theorem yl_X7_level : Cond.selects mX7_level.1.cls mX7_level.1 mX7_level.1 ∈ am_T := am_tm 519 (by decide +kernel) rfl
theorem cv_L_41 : am_cvB RL 41 mX7_level 2 = true := am_cv_of yb_X7_level yi_X7_level yl_X7_level (am_tm 517 (by decide +kernel) rfl)
theorem yb_X8_level : am_yB mX8_level 2 := ⟨am_tm 13 (by decide +kernel) rfl, am_tm 777 (by decide +kernel) rfl, by decide +kernel, Nat.le_of_ble_eq_true rfl⟩
theorem yi_X8_level : Cond.instanceMethod mX8_level.1 ∈ am_T := am_tm 775 (by decide +kernel) rfl
theorem yl_X8_level : Cond.selects mX8_level.1.cls mX8_level.1 mX8_level.1 ∈ am_T := am_tm 776 (by decide +kernel) rfl
theorem cv_L_44 : am_cvB RL 44 mX8_level 2 = true := am_cv_of yb_X8_level yi_X8_level yl_X8_level (am_tm 774 (by decide +kernel) rfl)
theorem yb_X7_peak : am_yB mX7_peak 3 := ⟨am_tm 1 (by decide +kernel) rfl, am_tm 524 (by decide +kernel) rfl, by decide +kernel, Nat.le_of_ble_eq_true rfl⟩
theorem yi_X7_peak : Cond.instanceMethod mX7_peak.1 ∈ am_T := am_tm 522 (by decide +kernel) rfl
theorem yl_X7_peak : Cond.selects mX7_peak.1.cls mX7_peak.1 mX7_peak.1 ∈ am_T := am_tm 523 (by decide +kernel) rfl
theorem cv_L_45 : am_cvB RL 45 mX7_peak 3 = true := am_cv_of yb_X7_peak yi_X7_peak yl_X7_peak (am_tm 521 (by decide +kernel) rfl)
theorem yb_X8_peak : am_yB mX8_peak 3 := ⟨am_tm 13 (by decide +kernel) rfl, am_tm 785 (by decide +kernel) rfl, by decide +kernel, Nat.le_of_ble_eq_true rfl⟩
theorem yi_X8_peak : Cond.instanceMethod mX8_peak.1 ∈ am_T := am_tm 783 (by decide +kernel) rfl
theorem yl_X8_peak : Cond.selects mX8_peak.1.cls mX8_peak.1 mX8_peak.1 ∈ am_T := am_tm 784 (by decide +kernel) rfl
theorem cv_L_48 : am_cvB RL 48 mX8_peak 3 = true := am_cv_of yb_X8_peak yi_X8_peak yl_X8_peak (am_tm 782 (by decide +kernel) rfl)
theorem yb_X7_frame : am_yB mX7_frame 2 := ⟨am_tm 1 (by decide +kernel) rfl, am_tm 530 (by decide +kernel) rfl, by decide +kernel, Nat.le_of_ble_eq_true rfl⟩
theorem yi_X7_frame : Cond.instanceMethod mX7_frame.1 ∈ am_T := am_tm 528 (by decide +kernel) rfl
theorem yl_X7_frame : Cond.selects mX7_frame.1.cls mX7_frame.1 mX7_frame.1 ∈ am_T := am_tm 529 (by decide +kernel) rfl
theorem cv_L_49 : am_cvB RL 49 mX7_frame 2 = true := am_cv_of yb_X7_frame yi_X7_frame yl_X7_frame (am_tm 527 (by decide +kernel) rfl)
theorem yb_X8_frame : am_yB mX8_frame 2 := ⟨am_tm 13 (by decide +kernel) rfl, am_tm 834 (by decide +kernel) rfl, by decide +kernel, Nat.le_of_ble_eq_true rfl⟩
theorem yi_X8_frame : Cond.instanceMethod mX8_frame.1 ∈ am_T := am_tm 832 (by decide +kernel) rfl
theorem yl_X8_frame : Cond.selects mX8_frame.1.cls mX8_frame.1 mX8_frame.1 ∈ am_T := am_tm 833 (by decide +kernel) rfl
theorem cv_L_52 : am_cvB RL 52 mX8_frame 2 = true := am_cv_of yb_X8_frame yi_X8_frame yl_X8_frame (am_tm 831 (by decide +kernel) rfl)
theorem yb_X7_track : am_yB mX7_track 2 := ⟨am_tm 1 (by decide +kernel) rfl, am_tm 550 (by decide +kernel) rfl, by decide +kernel, Nat.le_of_ble_eq_true rfl⟩
theorem yi_X7_track : Cond.instanceMethod mX7_track.1 ∈ am_T := am_tm 548 (by decide +kernel) rfl
theorem yl_X7_track : Cond.selects mX7_track.1.cls mX7_track.1 mX7_track.1 ∈ am_T := am_tm 549 (by decide +kernel) rfl
theorem cv_L_53 : am_cvB RL 53 mX7_track 2 = true := am_cv_of yb_X7_track yi_X7_track yl_X7_track (am_tm 547 (by decide +kernel) rfl)
theorem yb_X8_track : am_yB mX8_track 2 := ⟨am_tm 13 (by decide +kernel) rfl, am_tm 858 (by decide +kernel) rfl, by decide +kernel, Nat.le_of_ble_eq_true rfl⟩
theorem yi_X8_track : Cond.instanceMethod mX8_track.1 ∈ am_T := am_tm 856 (by decide +kernel) rfl
theorem yl_X8_track : Cond.selects mX8_track.1.cls mX8_track.1 mX8_track.1 ∈ am_T := am_tm 857 (by decide +kernel) rfl
theorem cv_L_56 : am_cvB RL 56 mX8_track 2 = true := am_cv_of yb_X8_track yi_X8_track yl_X8_track (am_tm 855 (by decide +kernel) rfl)
theorem yb_X7_pitch : am_yB mX7_pitch 2 := ⟨am_tm 1 (by decide +kernel) rfl, am_tm 559 (by decide +kernel) rfl, by decide +kernel, Nat.le_of_ble_eq_true rfl⟩
theorem yi_X7_pitch : Cond.instanceMethod mX7_pitch.1 ∈ am_T := am_tm 557 (by decide +kernel) rfl
theorem yl_X7_pitch : Cond.selects mX7_pitch.1.cls mX7_pitch.1 mX7_pitch.1 ∈ am_T := am_tm 558 (by decide +kernel) rfl
theorem cv_L_57 : am_cvB RL 57 mX7_pitch 2 = true := am_cv_of yb_X7_pitch yi_X7_pitch yl_X7_pitch (am_tm 556 (by decide +kernel) rfl)
theorem yb_X8_pitch : am_yB mX8_pitch 2 := ⟨am_tm 13 (by decide +kernel) rfl, am_tm 882 (by decide +kernel) rfl, by decide +kernel, Nat.le_of_ble_eq_true rfl⟩
theorem yi_X8_pitch : Cond.instanceMethod mX8_pitch.1 ∈ am_T := am_tm 880 (by decide +kernel) rfl
theorem yl_X8_pitch : Cond.selects mX8_pitch.1.cls mX8_pitch.1 mX8_pitch.1 ∈ am_T := am_tm 881 (by decide +kernel) rfl
theorem cv_L_60 : am_cvB RL 60 mX8_pitch 2 = true := am_cv_of yb_X8_pitch yi_X8_pitch yl_X8_pitch (am_tm 879 (by decide +kernel) rfl)
theorem yb_X7_best : am_yB mX7_best 1 := ⟨am_tm 1 (by decide +kernel) rfl, am_tm 563 (by decide +kernel) rfl, by decide +kernel, Nat.le_of_ble_eq_true rfl⟩
theorem yi_X7_best : Cond.instanceMethod mX7_best.1 ∈ am_T := am_tm 561 (by decide +kernel) rfl
theorem yl_X7_best : Cond.selects mX7_best.1.cls mX7_best.1 mX7_best.1 ∈ am_T := am_tm 562 (by decide +kernel) rfl
theorem cv_L_61 : am_cvB RL 61 mX7_best 1 = true := am_cv_of yb_X7_best yi_X7_best yl_X7_best (am_tm 560 (by decide +kernel) rfl)
theorem yb_X8_best : am_yB mX8_best 1 := ⟨am_tm 13 (by decide +kernel) rfl, am_tm 890 (by decide +kernel) rfl, by decide +kernel, Nat.le_of_ble_eq_true rfl⟩
theorem yi_X8_best : Cond.instanceMethod mX8_best.1 ∈ am_T := am_tm 888 (by decide +kernel) rfl
theorem yl_X8_best : Cond.selects mX8_best.1.cls mX8_best.1 mX8_best.1 ∈ am_T := am_tm 889 (by decide +kernel) rfl
theorem cv_L_64 : am_cvB RL 64 mX8_best 1 = true := am_cv_of yb_X8_best yi_X8_best yl_X8_best (am_tm 887 (by decide +kernel) rfl)
theorem yb_X7_sees : am_yB mX7_sees 2 := ⟨am_tm 1 (by decide +kernel) rfl, am_tm 572 (by decide +kernel) rfl, by decide +kernel, Nat.le_of_ble_eq_true rfl⟩
theorem yi_X7_sees : Cond.instanceMethod mX7_sees.1 ∈ am_T := am_tm 570 (by decide +kernel) rfl
theorem yl_X7_sees : Cond.selects mX7_sees.1.cls mX7_sees.1 mX7_sees.1 ∈ am_T := am_tm 571 (by decide +kernel) rfl
theorem cv_L_65 : am_cvB RL 65 mX7_sees 2 = true := am_cv_of yb_X7_sees yi_X7_sees yl_X7_sees (am_tm 569 (by decide +kernel) rfl)
theorem yb_X8_sees : am_yB mX8_sees 2 := ⟨am_tm 13 (by decide +kernel) rfl, am_tm 894 (by decide +kernel) rfl, by decide +kernel, Nat.le_of_ble_eq_true rfl⟩
theorem yi_X8_sees : Cond.instanceMethod mX8_sees.1 ∈ am_T := am_tm 892 (by decide +kernel) rfl
theorem yl_X8_sees : Cond.selects mX8_sees.1.cls mX8_sees.1 mX8_sees.1 ∈ am_T := am_tm 893 (by decide +kernel) rfl
theorem cv_L_68 : am_cvB RL 68 mX8_sees 2 = true := am_cv_of yb_X8_sees yi_X8_sees yl_X8_sees (am_tm 891 (by decide +kernel) rfl)
theorem yb_X7_forget : am_yB mX7_forget 0 := ⟨am_tm 1 (by decide +kernel) rfl, am_tm 580 (by decide +kernel) rfl, by decide +kernel, Nat.le_of_ble_eq_true rfl⟩
theorem yi_X7_forget : Cond.instanceMethod mX7_forget.1 ∈ am_T := am_tm 578 (by decide +kernel) rfl
theorem yl_X7_forget : Cond.selects mX7_forget.1.cls mX7_forget.1 mX7_forget.1 ∈ am_T := am_tm 579 (by decide +kernel) rfl
theorem cv_L_69 : am_cvB RL 69 mX7_forget 0 = true := am_cv_of yb_X7_forget yi_X7_forget yl_X7_forget (am_tm 577 (by decide +kernel) rfl)
theorem yb_X8_forget : am_yB mX8_forget 0 := ⟨am_tm 13 (by decide +kernel) rfl, am_tm 898 (by decide +kernel) rfl, by decide +kernel, Nat.le_of_ble_eq_true rfl⟩
theorem yi_X8_forget : Cond.instanceMethod mX8_forget.1 ∈ am_T := am_tm 896 (by decide +kernel) rfl
theorem yl_X8_forget : Cond.selects mX8_forget.1.cls mX8_forget.1 mX8_forget.1 ∈ am_T := am_tm 897 (by decide +kernel) rfl
theorem cv_L_72 : am_cvB RL 72 mX8_forget 0 = true := am_cv_of yb_X8_forget yi_X8_forget yl_X8_forget (am_tm 895 (by decide +kernel) rfl)
theorem yb_X7_which : am_yB mX7_which 1 := ⟨am_tm 1 (by decide +kernel) rfl, am_tm 584 (by decide +kernel) rfl, by decide +kernel, Nat.le_of_ble_eq_true rfl⟩
theorem yi_X7_which : Cond.instanceMethod mX7_which.1 ∈ am_T := am_tm 582 (by decide +kernel) rfl
theorem yl_X7_which : Cond.selects mX7_which.1.cls mX7_which.1 mX7_which.1 ∈ am_T := am_tm 583 (by decide +kernel) rfl
theorem cv_L_73 : am_cvB RL 73 mX7_which 1 = true := am_cv_of yb_X7_which yi_X7_which yl_X7_which (am_tm 581 (by decide +kernel) rfl)
theorem yb_X8_which : am_yB mX8_which 1 := ⟨am_tm 13 (by decide +kernel) rfl, am_tm 902 (by decide +kernel) rfl, by decide +kernel, Nat.le_of_ble_eq_true rfl⟩
theorem yi_X8_which : Cond.instanceMethod mX8_which.1 ∈ am_T := am_tm 900 (by decide +kernel) rfl
theorem yl_X8_which : Cond.selects mX8_which.1.cls mX8_which.1 mX8_which.1 ∈ am_T := am_tm 901 (by decide +kernel) rfl
theorem cv_L_76 : am_cvB RL 76 mX8_which 1 = true := am_cv_of yb_X8_which yi_X8_which yl_X8_which (am_tm 899 (by decide +kernel) rfl)
theorem yb_X7_listen : am_yB mX7_listen 0 := ⟨am_tm 1 (by decide +kernel) rfl, am_tm 597 (by decide +kernel) rfl, by decide +kernel, Nat.le_of_ble_eq_true rfl⟩
theorem yi_X7_listen : Cond.instanceMethod mX7_listen.1 ∈ am_T := am_tm 595 (by decide +kernel) rfl
theorem yl_X7_listen : Cond.selects mX7_listen.1.cls mX7_listen.1 mX7_listen.1 ∈ am_T := am_tm 596 (by decide +kernel) rfl
theorem cv_L_77 : am_cvB RL 77 mX7_listen 0 = true := am_cv_of yb_X7_listen yi_X7_listen yl_X7_listen (am_tm 594 (by decide +kernel) rfl)
theorem yb_X8_listen : am_yB mX8_listen 0 := ⟨am_tm 13 (by decide +kernel) rfl, am_tm 910 (by decide +kernel) rfl, by decide +kernel, Nat.le_of_ble_eq_true rfl⟩
theorem yi_X8_listen : Cond.instanceMethod mX8_listen.1 ∈ am_T := am_tm 908 (by decide +kernel) rfl
theorem yl_X8_listen : Cond.selects mX8_listen.1.cls mX8_listen.1 mX8_listen.1 ∈ am_T := am_tm 909 (by decide +kernel) rfl
theorem cv_L_80 : am_cvB RL 80 mX8_listen 0 = true := am_cv_of yb_X8_listen yi_X8_listen yl_X8_listen (am_tm 907 (by decide +kernel) rfl)
theorem yb_X7_keep : am_yB mX7_keep 1 := ⟨am_tm 1 (by decide +kernel) rfl, am_tm 607 (by decide +kernel) rfl, by decide +kernel, Nat.le_of_ble_eq_true rfl⟩
theorem yi_X7_keep : Cond.instanceMethod mX7_keep.1 ∈ am_T := am_tm 605 (by decide +kernel) rfl
theorem yl_X7_keep : Cond.selects mX7_keep.1.cls mX7_keep.1 mX7_keep.1 ∈ am_T := am_tm 606 (by decide +kernel) rfl
theorem cv_L_81 : am_cvB RL 81 mX7_keep 1 = true := am_cv_of yb_X7_keep yi_X7_keep yl_X7_keep (am_tm 604 (by decide +kernel) rfl)
theorem yb_X8_keep : am_yB mX8_keep 1 := ⟨am_tm 13 (by decide +kernel) rfl, am_tm 918 (by decide +kernel) rfl, by decide +kernel, Nat.le_of_ble_eq_true rfl⟩
theorem yi_X8_keep : Cond.instanceMethod mX8_keep.1 ∈ am_T := am_tm 916 (by decide +kernel) rfl
theorem yl_X8_keep : Cond.selects mX8_keep.1.cls mX8_keep.1 mX8_keep.1 ∈ am_T := am_tm 917 (by decide +kernel) rfl
theorem cv_L_84 : am_cvB RL 84 mX8_keep 1 = true := am_cv_of yb_X8_keep yi_X8_keep yl_X8_keep (am_tm 915 (by decide +kernel) rfl)
theorem yb_X7_back : am_yB mX7_back 1 := ⟨am_tm 1 (by decide +kernel) rfl, am_tm 611 (by decide +kernel) rfl, by decide +kernel, Nat.le_of_ble_eq_true rfl⟩
theorem yi_X7_back : Cond.instanceMethod mX7_back.1 ∈ am_T := am_tm 609 (by decide +kernel) rfl
theorem yl_X7_back : Cond.selects mX7_back.1.cls mX7_back.1 mX7_back.1 ∈ am_T := am_tm 610 (by decide +kernel) rfl
theorem cv_L_85 : am_cvB RL 85 mX7_back 1 = true := am_cv_of yb_X7_back yi_X7_back yl_X7_back (am_tm 608 (by decide +kernel) rfl)
theorem yb_X8_back : am_yB mX8_back 1 := ⟨am_tm 13 (by decide +kernel) rfl, am_tm 922 (by decide +kernel) rfl, by decide +kernel, Nat.le_of_ble_eq_true rfl⟩
theorem yi_X8_back : Cond.instanceMethod mX8_back.1 ∈ am_T := am_tm 920 (by decide +kernel) rfl
theorem yl_X8_back : Cond.selects mX8_back.1.cls mX8_back.1 mX8_back.1 ∈ am_T := am_tm 921 (by decide +kernel) rfl
theorem cv_L_88 : am_cvB RL 88 mX8_back 1 = true := am_cv_of yb_X8_back yi_X8_back yl_X8_back (am_tm 919 (by decide +kernel) rfl)
theorem yb_X7_count : am_yB mX7_count 1 := ⟨am_tm 1 (by decide +kernel) rfl, am_tm 615 (by decide +kernel) rfl, by decide +kernel, Nat.le_of_ble_eq_true rfl⟩
theorem yi_X7_count : Cond.instanceMethod mX7_count.1 ∈ am_T := am_tm 613 (by decide +kernel) rfl
theorem yl_X7_count : Cond.selects mX7_count.1.cls mX7_count.1 mX7_count.1 ∈ am_T := am_tm 614 (by decide +kernel) rfl
theorem cv_L_89 : am_cvB RL 89 mX7_count 1 = true := am_cv_of yb_X7_count yi_X7_count yl_X7_count (am_tm 612 (by decide +kernel) rfl)
theorem yb_X8_count : am_yB mX8_count 1 := ⟨am_tm 13 (by decide +kernel) rfl, am_tm 926 (by decide +kernel) rfl, by decide +kernel, Nat.le_of_ble_eq_true rfl⟩
theorem yi_X8_count : Cond.instanceMethod mX8_count.1 ∈ am_T := am_tm 924 (by decide +kernel) rfl
theorem yl_X8_count : Cond.selects mX8_count.1.cls mX8_count.1 mX8_count.1 ∈ am_T := am_tm 925 (by decide +kernel) rfl
theorem cv_L_92 : am_cvB RL 92 mX8_count 1 = true := am_cv_of yb_X8_count yi_X8_count yl_X8_count (am_tm 923 (by decide +kernel) rfl)
