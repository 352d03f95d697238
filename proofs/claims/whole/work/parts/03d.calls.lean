/-! the abstract machine: calls -/
theorem AC.mono {d : Nat} {mm : am_mm} {as : List am_v} {M : am_M} {Q Q' : Option Int → am_M → Prop} (hQ : ∀ r M', Q r M' → Q' r M') (h : AC d mm as M Q) : AC d mm as M Q' := by
  intro l D dA ad hinj p e ha hc hk s m args below hf happ hpre hk2
  obtain ⟨k, o, h1, h2, h3, ⟨⟨r, M', h4, h5, h6⟩, h7⟩, h8⟩ := h l D dA ad hinj p e ha hc hk s m args below hf happ hpre hk2
  exact ⟨k, o, h1, h2, h3, ⟨⟨r, M', h4, hQ r M' h5, h6⟩, h7⟩, h8⟩
def am_cB (own : String) (idx : Nat) (y : am_mm) (n : Nat) : Bool :=
  decide (Cond.methodLink own idx y.1 ∈ am_T) && decide (Cond.initialized y.1.cls ∈ am_T) && decide (Cond.code y.1 y.2.1 y.2.2.1 y.2.2.2 ∈ am_T) && decide (y.1.cls ≠ "java/lang/invoke/MethodHandle" ∧ y.1.cls ≠ "java/lang/invoke/VarHandle" ∧ (parseMethodDescriptor y.1.desc).map (fun d => d.parameters.length) = some n) && decide (y.2.2.1 ≤ 20)
def am_cvB (own : String) (idx : Nat) (y : am_mm) (n : Nat) : Bool := am_cB own idx y n && decide (Cond.instanceMethod y.1 ∈ am_T) && decide (Cond.selects y.1.cls y.1 y.1 ∈ am_T)
def am_csB (own : String) (idx : Nat) (y : am_mm) (n : Nat) : Bool := am_cB own idx y n && decide (Cond.static y.1 ∈ am_T)
theorem am_goodT {w : Cond} (h : w ∈ am_T) : (w.onTables && w.keeps) = true ∨ ∃ ty, w = .arrayClass ty := good_of_word (List.mem_filter.mp h).2
theorem am_good {mm mm' : am_mm} (hc : Cond.code mm'.1 mm'.2.1 mm'.2.2.1 mm'.2.2.2 ∈ am_T) : GoodIn (am_w mm) (am_w mm') := by
  intro w hw
  rcases List.mem_cons.mp hw with rfl | hw
  · exact ⟨am_mem hc, am_goodT hc⟩
  · exact ⟨am_mem hw, am_goodT hw⟩
section AMC
variable {d : Nat} {mm : am_mm} {pc : Nat} {L L' : List (Nat × am_v)} {st : List am_v} {M : am_M} {Q : Option Int → am_M → Prop}
theorem am_go {p : Program} {l : Launch} {e : Env} {R : Room} {s : State} {m : MethodId} {args : Array Value} {below : List Frame} {meth : Method} {c : Code} {H : Heap} {locs : List Loc} {Qs : State → Prop} {ls : Array Slot} {st0 rest : List Value} {a : Array Value} {D : va_G} {dA : Nat → ClassId} {ad : Nat → Nat} {Q' : Option Int → am_M → Prop}
    (hr : va_Run p l e R s m args below meth c H locs 0 0 0 0 (F0 m pc ls st0) rest (am_Qc D dA ad Q' a) (am_A ad)) (hS : va_S (am_A ad) s.heap H locs)
    (kk : ∀ (r : Option Int) (M' : am_M) (H1 : Heap) (locs1 : List Loc), Q' r M' → va_P D am_cl (am_ws dA ad M') H1 → va_S (am_A ad) s.heap H1 locs1 → W p l e R s m args below meth c H1 locs1 0 0 Qs (F0 m (pc + 3) ls ((r.map am_iv).toList ++ rest))) : W p l e R s m args below meth c H locs 0 0 Qs (F0 m pc ls st0) := by
  intro T hT X
  obtain ⟨v, st₀, t, T', L9, h0, X', hL, e1, e2, ⟨⟨r, M', hv, hq, hp⟩, hz, hk⟩, st⟩ := hr T hT X
  cases hv
  rw [h0] at hz hk
  obtain ⟨t2, a1, b1⟩ := kk r M' T'.heap (locs ++ L9) hq (by rw [e1]; exact hp)
    ⟨Nat.le_trans hS.1 (by rw [e1]; exact hz), fun q h1 h2 => by rw [e1, hk q (Nat.lt_of_lt_of_le h1 hS.1) h2]; exact hS.2.1 q h1 h2, fun q hq => by
      rcases List.mem_append.mp hq with h | h
      · exact hS.2.2 q h
      · exact hL q h⟩ T' rfl X'
  exact ⟨t2, st t2 a1, b1⟩
theorem am_cats (ad : Nat → Nat) : ∀ rest : List am_v, ((rest.map (am_val ad)).map fun v => v.category).sum = rest.length
  | [] => rfl
  | v :: r => by
    have h := am_cats ad r
    simp only [List.map_cons, List.sum_cons, am_cat, List.length_cons, h]
    omega
theorem am_ret (ad : Nat → Nat) (r : Option Int) (rest : List am_v) : ((r.map am_iv).toList ++ rest.map (am_val ad)) = ((r.map (Sum.inl : Int → am_v)).toList ++ rest).map (am_val ad) := by
  cases r <;> rfl
theorem am_cB_spec {own : String} {idx : Nat} {y : am_mm} {n : Nat} (h : am_cB own idx y n = true) : Cond.methodLink own idx y.1 ∈ am_T ∧ Cond.initialized y.1.cls ∈ am_T ∧ Cond.code y.1 y.2.1 y.2.2.1 y.2.2.2 ∈ am_T ∧ (y.1.cls ≠ "java/lang/invoke/MethodHandle" ∧ y.1.cls ≠ "java/lang/invoke/VarHandle" ∧ (parseMethodDescriptor y.1.desc).map (fun d => d.parameters.length) = some n) ∧ y.2.2.1 ≤ 20 := by
  unfold am_cB at h
  simp only [Bool.and_eq_true, decide_eq_true_eq] at h
  obtain ⟨⟨⟨⟨h1, h2⟩, h3⟩, h4⟩, h5⟩ := h
  exact ⟨h1, h2, h3, h4, h5⟩
theorem am_pre_go {p : Program} {s : State} {m : MethodId} {args : Array Value} {meth : Method} {c : Code} {D : va_G} {dA : Nat → ClassId} {ad : Nat → Nat} {H : Heap} {locs : List Loc} {av : List Value} (C : am_Ctx mm p s m args meth c D dA ad) (hP : va_P D am_cl (am_ws dA ad M) H) (hS : va_S (am_A ad) s.heap H locs) : ∀ U : State, U.heap = H → s.WarmedH U.vm → va_Pc av (am_Pre D dA ad M) av.toArray U := by
  obtain ⟨hx, hb, hr, hml, hlk, hown, hts, hK, hinj, hC⟩ := C
  exact fun U hU hW => ⟨rfl, by rw [hU]; exact hP, va_K.moved hW.alike hK, hC.go hS hU hW⟩
theorem aw_invv {d' : Nat} {mm' : am_mm} {b ci n idx : Nat} {fs : List (Option Nat)} {as rest st0 : List am_v} {q : vw_C} (hd : decode mm.2.1 pc = .ok (.invokevirtual idx, 3)) (hw : am_cvB mm.1.cls idx mm' n = true) (hdd : d' < d) (hs : am_sh[b]? = some (.inr (ci, fs))) (hcl : am_cl[ci]? = some q) (hq : q.1 = mm'.1.cls) (hn : as.length = n) (hst : st0 = as.reverse ++ .inr b :: rest) (hrest : rest.length ≤ 8)
    (h : AC d' mm' (.inr b :: as) M (fun r M' => AW d mm (pc + 3) L ((r.map Sum.inl).toList ++ rest) M' Q)) : AW d mm pc L st0 M Q := by
  intro p l e s m args below meth c D dA ad H locs ls C hP hS hl
  obtain ⟨hx, hb, hr, hml, hlk, hown, hts, hK, hinj, hC⟩ := id C
  unfold am_cvB at hw
  simp only [Bool.and_eq_true, decide_eq_true_eq] at hw
  obtain ⟨⟨hw, w6⟩, w7⟩ := hw
  obtain ⟨w1, w2, w3, w4, w5⟩ := am_cB_spec hw
  subst hst
  have hG : GoodIn (am_w mm) (wsV mm.1.cls idx mm'.1.cls mm'.1 (am_w mm')) := by
    intro w hw
    rcases List.mem_append.mp hw with hw | hw
    · simp only [List.mem_cons, List.not_mem_nil, or_false] at hw
      rcases hw with rfl | rfl | rfl | rfl
      · exact ⟨am_mem w1, am_goodT w1⟩
      · exact ⟨am_mem w6, am_goodT w6⟩
      · exact ⟨am_mem w7, am_goodT w7⟩
      · exact ⟨am_mem w2, am_goodT w2⟩
    · exact am_good w3 w hw
  have hrun := va_runV (As := as.map (am_val ad)) (rest := rest.map (am_val ad)) (g := F0 m pc ls ((as.reverse ++ .inr b :: rest).map (am_val ad))) (locs := locs) (cells := 0) (slots := 0) (below := below) (e := e) (meth := meth) (R := am_room d) ⟨hx, hb, hml, hown, hts⟩ (h l D dA ad hinj) (cwV (R := am_room d) n hts hG rfl rfl rfl ⟨rfl, w4⟩ ⟨hdd, by show 8 + (_ + 11) + 39 * d' ≤ 39 * d; omega⟩)
    ⟨am_blind, by rw [← hq]; exact va_recv hK hP hcl (am_ws_get hs), am_pre_go (av := (.inr b :: as : List am_v).map (am_val ad)) C hP hS⟩ rfl (by simpa using hn) hl.1 (by simp [am_val]) (lv_room (by rw [am_cats]; exact hrest)) hd ⟨Nat.le_refl _, Nat.le_refl _⟩
  refine am_go hrun hS (fun r M' H1 locs1 hQ hP1 hS1 => ?_)
  rw [am_ret]
  exact hQ p l e s m args below meth c D dA ad H1 locs1 ls C hP1 hS1 hl
theorem aw_invs {d' : Nat} {mm' : am_mm} {n idx : Nat} {as rest st0 : List am_v} (hd : decode mm.2.1 pc = .ok (.invokestatic idx, 3)) (hw : am_csB mm.1.cls idx mm' n = true) (hdd : d' < d) (hn : as.length = n) (hst : st0 = as.reverse ++ rest) (hrest : rest.length ≤ 8)
    (h : AC d' mm' as M (fun r M' => AW d mm (pc + 3) L ((r.map Sum.inl).toList ++ rest) M' Q)) : AW d mm pc L st0 M Q := by
  intro p l e s m args below meth c D dA ad H locs ls C hP hS hl
  obtain ⟨hx, hb, hr, hml, hlk, hown, hts, hK, hinj, hC⟩ := id C
  unfold am_csB at hw
  simp only [Bool.and_eq_true, decide_eq_true_eq] at hw
  obtain ⟨hw, w6⟩ := hw
  obtain ⟨w1, w2, w3, w4, w5⟩ := am_cB_spec hw
  subst hst
  have hG : GoodIn (am_w mm) (va_wsS mm.1.cls idx mm'.1 (am_w mm')) := by
    intro w hw
    rcases List.mem_append.mp hw with hw | hw
    · simp only [List.mem_cons, List.not_mem_nil, or_false] at hw
      rcases hw with rfl | rfl | rfl
      · exact ⟨am_mem w1, am_goodT w1⟩
      · exact ⟨am_mem w6, am_goodT w6⟩
      · exact ⟨am_mem w2, am_goodT w2⟩
    · exact am_good w3 w hw
  have hrun := va_runS (As := as.map (am_val ad)) (rest := rest.map (am_val ad)) (g := F0 m pc ls ((as.reverse ++ rest).map (am_val ad))) (locs := locs) (cells := 0) (slots := 0) (below := below) (e := e) (meth := meth) (R := am_room d) ⟨hx, hb, hml, hown, hts⟩ (h l D dA ad hinj) (va_cwS (R := am_room d) n hts hG rfl rfl rfl w4 ⟨hdd, by show 8 + (_ + 11) + 39 * d' ≤ 39 * d; omega⟩)
    ⟨am_blind, am_pre_go (av := as.map (am_val ad)) C hP hS⟩ rfl (by simpa using hn) hl.1 (by simp) (lv_room (by rw [am_cats]; exact hrest)) hd ⟨Nat.le_refl _, Nat.le_refl _⟩
  refine am_go hrun hS (fun r M' H1 locs1 hQ hP1 hS1 => ?_)
  rw [am_ret]
  exact hQ p l e s m args below meth c D dA ad H1 locs1 ls C hP1 hS1 hl
end AMC
