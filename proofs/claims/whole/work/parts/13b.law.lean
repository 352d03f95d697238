/-! the law: its links, its world, its steps (by gen_law.py) -/
def R_law : String := "FollowedPeaksLaw"
def lw_P (b : Addr) (xs : List Int32) (args : Array Value) (s : State) : Prop := args = #[.ref b] ∧ s.IntsAt b xs ∧ xs.length ≤ 2048 ∧ (Jvm.Cond.and given_1 narrow_1).before args s = true
def lw_Q (_ : Array Value) (s : State) (o : Outcome) (t : State) : Prop := o = .returned (some (.int 1)) ∧ Framed s o t [] 600000 7302250
def lw_Z (below : List Frame) (a : Array Value) (s : State) : State → Prop := fun t => ∃ o, t.status = .running ∧ Ended t below o ∧ lw_Q a s o t
/-- the law's own end, with 1 on the stack, nothing written that was there before, its room as the claim has it -/
theorem lw_ret {p : Program} {l : Launch} {e : Env} {s : State} {m : MethodId} {below : List Frame} {meth : Method} {c : Code} {b : Nat} (hx : p.tables.exec = Jvm.exec) (hb : c.code = code) (hr : meth.sig.returnType = ret) (hlocks : meth.locks = false) {pc : Nat} {H : Heap} {ls : Array Slot} (hdg : decode code pc = .ok (.ireturn, 1)) : W p l e room_1 s m #[Value.ref b] below meth c H [] 600000 7302250 (lw_Z below #[Value.ref b] s) (F0 m pc ls [.int 1]) := by
  intro T hT X
  obtain ⟨fs, hret, hrun, hended, hW, hframe⟩ := X.leave (v := some (.int 1)) (hlocks := hlocks) (fun h => by rw [hr] at h; cases h)
  have hmeth' : T.vm.method? m = some meth := X.method'
  refine ⟨T.setFrames fs, ?_, .returned (some (.int 1)), hrun, hended, rfl, ⟨_, rfl⟩, hW, hframe⟩
  jvm_step X.here [X.here.top, hx, hb, hdg, hmeth', hr, ret, narrow_b1]
  (try refine ⟨rfl, ?_⟩); (try refine ⟨rfl, ?_⟩)
  first | (intro acts; rw [hret _ acts rfl rfl rfl]) | rw [hret _ _ rfl rfl rfl]
  exact Steps.refl _
/-- what holds at the law's entry: the machine, the code, the tables' words (any of lw_tbl by 'hts w (by decide +kernel)'), the script of L ints xs at the cell b, what the Statement gives of the start (any of its parts by flat_of_before) -/
def lw_At (p : Program) (s : State) (m : MethodId) (meth : Method) (c : Code) (b L : Nat) (xs : Nat → Int32) : Prop :=
  p.tables.exec = Jvm.exec ∧ c.code = code ∧ meth.sig.returnType = ret ∧ c.maxLocals = 4 ∧ s.vm.findClass R_law = some m.cls ∧ (∀ w ∈ lw_tbl, w.before #[Value.ref b] s = true) ∧ va_X b L xs s s.heap ∧ b < s.heap.size ∧ meth.locks = false ∧ (Jvm.Cond.and given_1 narrow_1).before #[Value.ref b] s = true
/-- the law's world, once both objects stand -/
def lw_CC (D : va_G) (dA : Nat → ClassId) (ad : Nat → Nat) (b L : Nat) (xs : Nat → Int32) (p : Program) (s : State) (m : MethodId) (meth : Method) (c : Code) : Prop := lw_At p s m meth c b L xs ∧ L ≤ 2048 ∧ va_K D am_cl (am_tys dA) s ∧ am_inj ad ∧ (∀ q, am_A ad q → s.heap.size ≤ q) ∧ am_KA (fun q => s.heap.size ≤ q) ad s
def lw_L (ad : Nat → Nat) (b n : Nat) : List (Nat × Value) := [(3, .int (Int32.ofInt (n : Int))), (2, .ref (ad 62)), (1, .ref (ad 0)), (0, .ref b)]
def LW (b L : Nat) (xs : Nat → Int32) (pc n : Nat) (st : List am_v) (M : am_M) : Prop :=
  ∀ (D : va_G) (dA : Nat → ClassId) (ad : Nat → Nat) (p : Program) (l : Launch) (e : Env) (s : State) (m : MethodId) (below : List Frame) (meth : Method) (c : Code) (H : Heap) (locs : List Loc) (ls : Array Slot),
    lw_CC D dA ad b L xs p s m meth c → va_P D am_cl (am_ws dA ad M) H → va_S (fun q => s.heap.size ≤ q) s.heap H locs → lv_has ls 4 (lw_L ad b n) →
    W p l e room_1 s m #[Value.ref b] below meth c H locs 75 3716 (lw_Z below #[Value.ref b] s) (F0 m pc ls (st.map (am_val ad)))
def lw_v (xs : Nat → Int32) (n : Nat) : Int := (xs n).toInt
section LWS
variable {b L : Nat} {xs : Nat → Int32} {pc n : Nat} {st : List am_v} {M : am_M}
theorem lw_r : am_r (lw_v xs n) := by
  unfold am_r lw_v
  have h1 := Int32.le_toInt (xs n)
  have h2 := Int32.toInt_lt (xs n)
  omega
theorem ls_x1 (hd : decode code pc = .ok (.aload_n 1, 1)) (kk : LW b L xs (pc + 1) n (.inr 0 :: st) M) : LW b L xs pc n st M := by
  intro D dA ad p l e s m below meth c H locs ls C hP hS hl
  exact lv_aload_n C.1.1 C.1.2.1 hd rfl (lv_at hl 2 rfl) (kk D dA ad p l e s m below meth c H locs ls C hP hS hl)
theorem ls_x2 (hd : decode code pc = .ok (.aload_n 2, 1)) (kk : LW b L xs (pc + 1) n (.inr 62 :: st) M) : LW b L xs pc n st M := by
  intro D dA ad p l e s m below meth c H locs ls C hP hS hl
  exact lv_aload_n C.1.1 C.1.2.1 hd rfl (lv_at hl 1 rfl) (kk D dA ad p l e s m below meth c H locs ls C hP hS hl)
theorem lw_in {k : Nat} (hk : k < L) (hL : L ≤ 2048) : vp_in (Int32.ofInt (k : Int)) L ∧ (Int32.ofInt (k : Int)).toNatClampNeg = k := by
  have e : (Int32.ofInt (k : Int)).toInt = k := Int32.toInt_ofInt_of_le (by omega) (by omega)
  refine ⟨vp_in_iff.mpr ⟨by rw [e]; omega, by rw [e]; omega⟩, ?_⟩
  rw [Int32.toNatClampNeg_ofInt_of_le (by omega) (by omega)]
  exact Int.toNat_natCast k
theorem ls_arg {k : Nat} (hk : n + k < L) (h0 : decode code pc = .ok (.aload_n 0, 1)) (h1 : decode code (pc + 1) = .ok (.iload_n 3, 1)) (h2 : decode code (pc + 2) = .ok (.iconst (k : Int), 1)) (h3 : decode code (pc + 3) = .ok (.iadd, 1)) (h4 : decode code (pc + 4) = .ok (.iaload, 1)) (kk : LW b L xs (pc + 5) n (.inl (lw_v xs (n + k)) :: st) M) : LW b L xs pc n st M := by
  intro D dA ad p l e s m below meth c H locs ls C hP hS hl
  obtain ⟨⟨hx, hb, hr, hml, hown, hts, hX, hbl, hlk, hgv⟩, hL, -⟩ := id C
  have hi := lw_in (k := n + k) hk hL
  have ei : Int32.ofInt (n : Int) + Int32.ofInt (k : Int) = Int32.ofInt ((n + k : Nat) : Int) := by
    rw [← Int32.ofInt_add]
    rfl
  refine lv_aload_n hx hb h0 rfl (lv_at hl 3 rfl) ?_
  refine lv_iload_n hx hb h1 rfl (lv_at hl 0 rfl) ?_
  refine lv_iconst (v := Int32.ofInt (k : Int)) hx hb h2 rfl ?_
  refine lv_iadd hx hb h3 ?_
  rw [ei]
  refine va_sld hx hb hX hbl (Nat.not_le.mpr hbl) hS hi.1 h4 ?_
  rw [hi.2]
  have h := kk D dA ad p l e s m below meth c H locs ls C hP hS hl
  have ev : am_val ad (.inl (lw_v xs (n + k))) = .int (xs (n + k)) := by
    show Value.int (Int32.ofInt ((xs (n + k)).toInt)) = _
    rw [Int32.ofInt_toInt]
  rw [List.map_cons, ev] at h
  exact h
theorem lw_am {w : Cond} (h : w ∈ am_T) : w ∈ lw_tbl := (List.mem_filter.mp h).1
theorem ls_inv {mm' : am_mm} {bb ci na idx d' : Nat} {fs : List (Option Nat)} {q : vw_C} {as rest st0 : List am_v} (hd : decode code pc = .ok (.invokevirtual idx, 3)) (hw : am_cvB R_law idx mm' na = true) (hdd : d' ≤ 11) (hs : am_sh[bb]? = some (.inr (ci, fs))) (hcl : am_cl[ci]? = some q) (hq : q.1 = mm'.1.cls) (hn : as.length = na) (hst : st0 = as.reverse ++ .inr bb :: rest) (hrest : rest.length ≤ 8)
    (h : AC d' mm' (.inr bb :: as) M (fun r M' => LW b L xs (pc + 3) n ((r.map Sum.inl).toList ++ rest) M')) : LW b L xs pc n st0 M := by
  intro D dA ad p l e s m below meth c H locs ls C hP hS hl
  obtain ⟨⟨hx, hb, hr, hml, hown, hts, hX, hbl, hlk, hgv⟩, hL, hK, hinj, hAq, hKA⟩ := id C
  unfold am_cvB at hw
  simp only [Bool.and_eq_true, decide_eq_true_eq] at hw
  obtain ⟨⟨hw, w6⟩, w7⟩ := hw
  obtain ⟨w1, w2, w3, w4, w5⟩ := am_cB_spec hw
  subst hst
  have hG : GoodIn lw_tbl (wsV R_law idx mm'.1.cls mm'.1 (am_w mm')) := by
    intro w hw
    rcases List.mem_append.mp hw with hw | hw
    · simp only [List.mem_cons, List.not_mem_nil, or_false] at hw
      rcases hw with rfl | rfl | rfl | rfl
      · exact ⟨lw_am w1, am_goodT w1⟩
      · exact ⟨lw_am w6, am_goodT w6⟩
      · exact ⟨lw_am w7, am_goodT w7⟩
      · exact ⟨lw_am w2, am_goodT w2⟩
    · rcases List.mem_cons.mp hw with rfl | hw
      · exact ⟨lw_am w3, am_goodT w3⟩
      · exact ⟨lw_am hw, am_goodT hw⟩
  have hpre : ∀ U : State, U.heap = H → s.WarmedH U.vm → va_Pc ((.inr bb :: as : List am_v).map (am_val ad)) (am_Pre D dA ad M) ((.inr bb :: as : List am_v).map (am_val ad)).toArray U := fun U hU hW => by
    refine ⟨rfl, by rw [hU]; exact hP, va_K.moved hW.alike hK, am_KA_K.mp ?_⟩
    exact (hKA.go (fun a ha hn => by rw [hU]; exact hS.2.1 a ha hn) hW).ls hAq
  have hrun := va_runV (As := as.map (am_val ad)) (rest := rest.map (am_val ad)) (g := F0 m pc ls ((as.reverse ++ .inr bb :: rest).map (am_val ad))) (locs := locs) (cells := 75) (slots := 3716) (below := below) (e := e) (meth := meth) (R := room_1) ⟨hx, hb, hml, hown, hts⟩ (h l D dA ad hinj) (cwV (R := room_1) na hts hG rfl rfl rfl ⟨rfl, w4⟩ ⟨by show d' + 1 ≤ 13; omega, by show 8 + (_ + 11) + 39 * d' ≤ 510; omega⟩)
    ⟨am_blind, by rw [← hq]; exact va_recv hK hP hcl (am_ws_get hs), hpre⟩ rfl (by simpa using hn) hl.1 (by simp [am_val]) (lv_room (by rw [am_cats]; exact hrest)) hd ⟨Nat.le_of_ble_eq_true rfl, Nat.le_of_ble_eq_true rfl⟩
  intro T hT X
  obtain ⟨v, st₀, t, T', L9, h0, X', hL9, e1, e2, ⟨⟨r, M', hv, hq9, hp⟩, hz, hk9⟩, st9⟩ := hrun T hT X
  cases hv
  rw [h0] at hz hk9
  have hgo := hq9 D dA ad p l e s m below meth c T'.heap (locs ++ L9) ls C (by rw [e1]; exact hp)
    ⟨Nat.le_trans hS.1 (by rw [e1]; exact hz), fun q h1 h2 => by rw [e1, hk9 q (Nat.lt_of_lt_of_le h1 hS.1) (fun z => h2 (hAq q z))]; exact hS.2.1 q h1 h2, fun q hq => by
      rcases List.mem_append.mp hq with h | h
      · exact hS.2.2 q h
      · exact hAq _ (hL9 q h)⟩ hl
  rw [← am_ret] at hgo
  obtain ⟨t2, a1, b1⟩ := hgo T' rfl X'
  exact ⟨t2, st9 t2 a1, b1⟩
theorem ls_eq {z off : Int} {tgt : Nat} (hd : decode code pc = .ok (.if_icmp .eq off, 3)) (ht : (pc : Int) + off = (tgt : Int)) (kk : LW b L xs tgt n st M) : LW b L xs pc n (.inl z :: .inl z :: st) M := by
  intro D dA ad p l e s m below meth c H locs ls C hP hS hl
  exact lv_icmp_eq C.1.1 C.1.2.1 hd ht (fun _ => kk D dA ad p l e s m below meth c H locs ls C hP hS hl) (fun h => absurd rfl h)
theorem ls_next (kk : LW b L xs 18 (n + 4) st M) : LW b L xs 611 n st M := by
  intro D dA ad p l e s m below meth c H locs ls C hP hS hl
  refine lv_iinc (v := Int32.ofInt ((n + 4 : Nat) : Int)) (lv' := lw_L ad b (n + 4)) C.1.1 C.1.2.1 dL_611 hl (k := 0) rfl (by rw [← Int32.ofInt_add]; rfl) (by decide) rfl (fun ls1 hl1 => ?_)
  refine lv_goto (tgt := 18) C.1.1 C.1.2.1 dL_614 (by decide) ?_
  exact kk D dA ad p l e s m below meth c H locs ls1 C hP hS hl1
theorem ls_end : LW b L xs 617 n [] M := by
  intro D dA ad p l e s m below meth c H locs ls C hP hS hl
  obtain ⟨hx, hb, hr, hml, hown, hts, hX, hbl, hlk, hgv⟩ := C.1
  refine lv_iconst (v := 1) hx hb dL_617 (by decide) ?_
  refine va_forget (fun q hq => hS.2.2 q hq) ?_
  refine W.widen (k := 600000) (n := 7302250) (Nat.le_of_ble_eq_true rfl) (Nat.le_of_ble_eq_true rfl) ?_
  exact lw_ret hx hb hr hlk dL_618
def lw_tgt : List Nat := [124, 147, 160, 173, 216, 249, 262, 295, 338, 371, 404, 437, 460, 493, 506, 529, 542, 565, 588]
theorem ls_head (hn0 : n ≤ L) (hin : n + 4 ≤ L → (∀ k, k < 19 → LW b L xs (lw_tgt.getD k 0) n [] M) ∧ LW b L xs 611 n [] M) : LW b L xs 18 n [] M := by
  intro D dA ad p l e s m below meth c H locs ls C hP hS hl
  obtain ⟨⟨hx, hb, hr, hml, hown, hts, hX, hbl, hlk, hgv⟩, hL, -⟩ := id C
  refine lv_iload_n hx hb dL_18 rfl (lv_at hl 0 rfl) ?_
  refine lv_aload_n hx hb dL_19 rfl (lv_at hl 3 rfl) ?_
  refine va_slen hx hb hX hbl (Nat.not_le.mpr hbl) hS dL_20 ?_
  refine lv_iconst (v := Int32.ofInt 4) hx hb dL_21 rfl ?_
  refine lv_isub hx hb dL_22 ?_
  have ei : Int32.ofNat L - Int32.ofInt 4 = Int32.ofInt ((L : Int) - 4) := by
    rw [am_ofNat, ← Int32.ofInt_sub]
  rw [ei]
  refine lv_icmp_gt (tgt := 617) hx hb dL_23 (by decide) (fun _ => ls_end D dA ad p l e s m below meth c H locs ls C hP hS hl) (fun hlt => ?_)
  by_cases hnL : n + 4 ≤ L
  · obtain ⟨hc, ho⟩ := hin hnL
    have hi := lw_in (k := n) (by omega) hL
    refine lv_aload_n hx hb dL_26 rfl (lv_at hl 3 rfl) ?_
    refine lv_iload_n hx hb dL_27 rfl (lv_at hl 0 rfl) ?_
    refine va_sld hx hb hX hbl (Nat.not_le.mpr hbl) hS hi.1 dL_28 ?_
    refine lv_bipush (v := 31) hx hb dL_29 (by decide) ?_
    refine lv_iand hx hb dL_31 ?_
    refine lv_topi (fun x _ => ?_)
    by_cases hz : x.toInt < 0 ∨ 18 < x.toInt
    · exact lv_tableOut (tgt := 611) hx hb dL_32 hz (by decide) (ho D dA ad p l e s m below meth c H locs ls C hP hS hl)
    · obtain ⟨k, hk⟩ : ∃ k : Nat, x.toInt = (k : Int) := ⟨x.toInt.toNat, by omega⟩
      have hk19 : k < 19 := by omega
      have hW := hc k hk19 D dA ad p l e s m below meth c H locs ls C hP hS hl
      have ho : ∃ off : Int, (#[92, 115, 128, 141, 184, 217, 230, 263, 306, 339, 372, 405, 428, 461, 474, 497, 510, 533, 556] : Array Int)[(x.toInt - 0).toNat]? = some off ∧ (32 : Int) + off = ((lw_tgt.getD k 0 : Nat) : Int) := by
        rw [hk, show ((k : Int) - 0).toNat = k by omega]
        revert hk19
        clear hW hk
        revert k
        decide
      obtain ⟨off, o1, o2⟩ := ho
      exact lv_tableIn hx hb dL_32 (by omega) (by omega) o1 o2 hW
  · exact absurd ((am_lt (x := (L : Int) - 4) (y := (n : Int)) (by omega) (by omega)).mpr (by omega)) hlt
end LWS
