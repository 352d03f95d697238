/-! the abstract machine's steps: a row an instruction -/
def am_ins (i : Nat) (v : am_v) : List (Nat × am_v) → List (Nat × am_v)
  | [] => [(i, v)]
  | q :: l => if i < q.1 then (i, v) :: q :: l else q :: am_ins i v l
def am_st (i : Nat) (v : am_v) (L : List (Nat × am_v)) : List (Nat × am_v) := am_ins i v (L.filter (fun q => !(q.1 == i)))
theorem am_ins_mem {i : Nat} {v : am_v} {q : Nat × am_v} : ∀ {l : List (Nat × am_v)}, q ∈ am_ins i v l → q = (i, v) ∨ q ∈ l
  | [], h => by simp only [am_ins, List.mem_singleton] at h; exact Or.inl h
  | a :: l, h => by
    unfold am_ins at h
    by_cases hi : i < a.1
    · rw [if_pos hi] at h
      rcases List.mem_cons.mp h with h | h
      · exact Or.inl h
      · exact Or.inr h
    · rw [if_neg hi] at h
      rcases List.mem_cons.mp h with h | h
      · exact Or.inr (List.mem_cons.mpr (Or.inl h))
      · rcases am_ins_mem h with h | h
        · exact Or.inl h
        · exact Or.inr (List.mem_cons_of_mem _ h)
theorem am_st_mem {i : Nat} {v : am_v} {q : Nat × am_v} {L : List (Nat × am_v)} (h : q ∈ am_st i v L) : q = (i, v) ∨ (q ∈ L ∧ q.1 ≠ i) := by
  rcases am_ins_mem h with h | h
  · exact Or.inl h
  · obtain ⟨h1, h2⟩ := List.mem_filter.mp h
    exact Or.inr ⟨h1, by simpa using h2⟩
theorem am_cat (ad : Nat → Nat) (v : am_v) : (am_val ad v).category = 1 := by cases v <;> rfl
theorem am_has {ad : Nat → Nat} {ls : Array Slot} {n i : Nat} {v : am_v} {L L' : List (Nat × am_v)} (hL : am_st i v L = L') (h : lv_has ls n ((i, am_val ad v) :: (L.map (fun q => (q.1, am_val ad q.2))).filter (fun q => !(q.1 == i) && !(q.1 + 1 == i && q.2.category == 2)))) : lv_has ls n (L'.map (fun q => (q.1, am_val ad q.2))) := by
  refine ⟨h.1, h.2.1, fun q hq => ?_⟩
  obtain ⟨q0, h0, rfl⟩ := List.mem_map.mp hq
  subst hL
  rcases am_st_mem h0 with h1 | ⟨h1, h2⟩
  · subst h1
    exact h.2.2 _ List.mem_cons_self
  · refine h.2.2 _ (List.mem_cons_of_mem _ (List.mem_filter.mpr ⟨List.mem_map.mpr ⟨q0, h1, rfl⟩, ?_⟩))
    simp [h2, am_cat]
theorem am_lat {ad : Nat → Nat} {ls : Array Slot} {n i j : Nat} {v : am_v} {L : List (Nat × am_v)} (hl : lv_has ls n (L.map (fun q => (q.1, am_val ad q.2)))) (hk : L[j]? = some (i, v)) : ls[i]? = some (.val (am_val ad v)) := lv_at hl j (by simp [hk])
theorem am_i8 {n : Int} (h : -128 ≤ n ∧ n < 128) : (Int8.ofInt n).toInt32 = Int32.ofInt n := by
  rw [← Int32.toInt_inj, Int8.toInt_toInt32, Int8.toInt_ofInt_of_le (by omega) (by omega), Int32.toInt_ofInt_of_le (by omega) (by omega)]
theorem am_i16 {n : Int} (h : -32768 ≤ n ∧ n < 32768) : (Int16.ofInt n).toInt32 = Int32.ofInt n := by
  rw [← Int32.toInt_inj, Int16.toInt_toInt32, Int16.toInt_ofInt_of_le (by omega) (by omega), Int32.toInt_ofInt_of_le (by omega) (by omega)]
theorem am_bytes : ∀ n : Fin 256, ((Int32.ofInt (n.val : Int)).toInt8.toInt32 = Int32.ofInt (if (n.val : Int) < 128 then (n.val : Int) else (n.val : Int) - 256)) ∧ ((Int32.ofInt (n.val : Int)).toUInt32 % 65536).toInt32 = Int32.ofInt (n.val : Int) ∧ vp_nar .char (Int32.ofInt (n.val : Int)) = Int32.ofInt (n.val : Int) ∧ narrow .char (.int (Int32.ofInt (n.val : Int))) = .int (Int32.ofInt (n.val : Int)) := by decide +kernel
theorem am_sbytes : ∀ n : Fin 256, (Int32.ofInt ((n.val : Int) - 128) &&& 255 = Int32.ofInt (((n.val : Int) - 128) % 256)) ∧ vp_nar .byte (Int32.ofInt ((n.val : Int) - 128)) = Int32.ofInt ((n.val : Int) - 128) := by decide +kernel
theorem am_byte {x : Int} (h : 0 ≤ x ∧ x < 256) : ((Int32.ofInt x).toInt8.toInt32 = Int32.ofInt (if x < 128 then x else x - 256)) ∧ ((Int32.ofInt x).toUInt32 % 65536).toInt32 = Int32.ofInt x ∧ vp_nar .char (Int32.ofInt x) = Int32.ofInt x ∧ narrow .char (.int (Int32.ofInt x)) = .int (Int32.ofInt x) := by
  have e : ((x.toNat : Nat) : Int) = x := by omega
  have := am_bytes ⟨x.toNat, by omega⟩
  simp only [e] at this
  exact this
theorem am_sbyte {x : Int} (h : -128 ≤ x ∧ x < 128) : (Int32.ofInt x &&& 255 = Int32.ofInt (x % 256)) ∧ vp_nar .byte (Int32.ofInt x) = Int32.ofInt x := by
  have e : (((x + 128).toNat : Nat) : Int) - 128 = x := by omega
  have := am_sbytes ⟨(x + 128).toNat, by omega⟩
  simp only [e] at this
  exact this
section AMS
variable {d : Nat} {mm : am_mm} {pc : Nat} {L L' : List (Nat × am_v)} {st : List am_v} {M : am_M} {Q : Option Int → am_M → Prop}
theorem aw_iconst {n : Int} (hd : decode mm.2.1 pc = .ok (.iconst n, 1)) (k : AW d mm (pc + 1) L (.inl n :: st) M Q) : AW d mm pc L st M Q := by
  intro p l e s m args below meth c D dA ad H locs ls C hP hS hl
  exact lv_iconst C.1 C.2.1 hd rfl (k p l e s m args below meth c D dA ad H locs ls C hP hS hl)
theorem aw_bipush {n : Int} (hd : decode mm.2.1 pc = .ok (.bipush n, 2)) (hn : -128 ≤ n ∧ n < 128) (k : AW d mm (pc + 2) L (.inl n :: st) M Q) : AW d mm pc L st M Q := by
  intro p l e s m args below meth c D dA ad H locs ls C hP hS hl
  exact lv_bipush C.1 C.2.1 hd (am_i8 hn) (k p l e s m args below meth c D dA ad H locs ls C hP hS hl)
theorem aw_sipush {n : Int} (hd : decode mm.2.1 pc = .ok (.sipush n, 3)) (hn : -32768 ≤ n ∧ n < 32768) (k : AW d mm (pc + 3) L (.inl n :: st) M Q) : AW d mm pc L st M Q := by
  intro p l e s m args below meth c D dA ad H locs ls C hP hS hl
  exact lv_sipush C.1 C.2.1 hd (am_i16 hn) (k p l e s m args below meth c D dA ad H locs ls C hP hS hl)
theorem am_mem {mm : am_mm} {w : Cond} (h : w ∈ am_T) : w ∈ am_w mm := List.mem_cons_of_mem _ h
theorem aw_ldc {z : Int} {idx : Nat} (hd : decode mm.2.1 pc = .ok (.ldc idx, 2)) (hw : Cond.constant mm.1.cls idx (Int32.ofInt z) ∈ am_T) (k : AW d mm (pc + 2) L (.inl z :: st) M Q) : AW d mm pc L st M Q := by
  intro p l e s m args below meth c D dA ad H locs ls C hP hS hl
  obtain ⟨hx, hb, hr, hml, hlk, hown, hts, hK, hinj, hC⟩ := id C
  exact lv_ldc hx hb hown (hts _ (am_mem hw)) hd (k p l e s m args below meth c D dA ad H locs ls C hP hS hl)
theorem aw_iload_n {k : Fin 4} {i j : Nat} {x : Int} (hd : decode mm.2.1 pc = .ok (.iload_n k, 1)) (hi : (k : Nat) = i) (hj : L[j]? = some (i, .inl x)) (kk : AW d mm (pc + 1) L (.inl x :: st) M Q) : AW d mm pc L st M Q := by
  intro p l e s m args below meth c D dA ad H locs ls C hP hS hl
  exact lv_iload_n C.1 C.2.1 hd hi (am_lat hl hj) (kk p l e s m args below meth c D dA ad H locs ls C hP hS hl)
theorem aw_iload {i j : Nat} {x : Int} (hd : decode mm.2.1 pc = .ok (.iload i, 2)) (hj : L[j]? = some (i, .inl x)) (kk : AW d mm (pc + 2) L (.inl x :: st) M Q) : AW d mm pc L st M Q := by
  intro p l e s m args below meth c D dA ad H locs ls C hP hS hl
  exact lv_iload C.1 C.2.1 hd (am_lat hl hj) (kk p l e s m args below meth c D dA ad H locs ls C hP hS hl)
theorem aw_aload_n {k : Fin 4} {i j a : Nat} (hd : decode mm.2.1 pc = .ok (.aload_n k, 1)) (hi : (k : Nat) = i) (hj : L[j]? = some (i, .inr a)) (kk : AW d mm (pc + 1) L (.inr a :: st) M Q) : AW d mm pc L st M Q := by
  intro p l e s m args below meth c D dA ad H locs ls C hP hS hl
  exact lv_aload_n C.1 C.2.1 hd hi (am_lat hl hj) (kk p l e s m args below meth c D dA ad H locs ls C hP hS hl)
theorem aw_aload {i j a : Nat} (hd : decode mm.2.1 pc = .ok (.aload i, 2)) (hj : L[j]? = some (i, .inr a)) (kk : AW d mm (pc + 2) L (.inr a :: st) M Q) : AW d mm pc L st M Q := by
  intro p l e s m args below meth c D dA ad H locs ls C hP hS hl
  exact lv_aload C.1 C.2.1 hd (am_lat hl hj) (kk p l e s m args below meth c D dA ad H locs ls C hP hS hl)
theorem aw_istore_n {k : Fin 4} {i : Nat} {x : Int} (hd : decode mm.2.1 pc = .ok (.istore_n k, 1)) (hi : (k : Nat) = i) (hn : i < mm.2.2.1) (hL : am_st i (.inl x) L = L') (kk : AW d mm (pc + 1) L' st M Q) : AW d mm pc L (.inl x :: st) M Q := by
  intro p l e s m args below meth c D dA ad H locs ls C hP hS hl
  exact lv_istore_n C.1 C.2.1 hd hi hl hn rfl (fun ls' hl' => kk p l e s m args below meth c D dA ad H locs ls' C hP hS (am_has hL hl'))
theorem aw_istore {i : Nat} {x : Int} (hd : decode mm.2.1 pc = .ok (.istore i, 2)) (hn : i < mm.2.2.1) (hL : am_st i (.inl x) L = L') (kk : AW d mm (pc + 2) L' st M Q) : AW d mm pc L (.inl x :: st) M Q := by
  intro p l e s m args below meth c D dA ad H locs ls C hP hS hl
  exact lv_istore C.1 C.2.1 hd hl hn rfl (fun ls' hl' => kk p l e s m args below meth c D dA ad H locs ls' C hP hS (am_has hL hl'))
theorem aw_astore_n {k : Fin 4} {i a : Nat} (hd : decode mm.2.1 pc = .ok (.astore_n k, 1)) (hi : (k : Nat) = i) (hn : i < mm.2.2.1) (hL : am_st i (.inr a) L = L') (kk : AW d mm (pc + 1) L' st M Q) : AW d mm pc L (.inr a :: st) M Q := by
  intro p l e s m args below meth c D dA ad H locs ls C hP hS hl
  exact lv_astore_n C.1 C.2.1 hd hi hl hn rfl (fun ls' hl' => kk p l e s m args below meth c D dA ad H locs ls' C hP hS (am_has hL hl'))
theorem aw_iinc {i j : Nat} {n x : Int} (hd : decode mm.2.1 pc = .ok (.iinc i n, 3)) (hj : L[j]? = some (i, .inl x)) (hn : i < mm.2.2.1) (hL : am_st i (.inl (x + n)) L = L') (kk : AW d mm (pc + 3) L' st M Q) : AW d mm pc L st M Q := by
  intro p l e s m args below meth c D dA ad H locs ls C hP hS hl
  exact lv_iinc C.1 C.2.1 hd hl (k := j) (x := Int32.ofInt x) (v := Int32.ofInt (x + n)) (by simp [hj, am_val]) (Int32.ofInt_add x n).symm hn rfl (fun ls' hl' => kk p l e s m args below meth c D dA ad H locs ls' C hP hS (am_has hL hl'))
theorem aw_iadd {x y : Int} (hd : decode mm.2.1 pc = .ok (.iadd, 1)) (k : AW d mm (pc + 1) L (.inl (x + y) :: st) M Q) : AW d mm pc L (.inl y :: .inl x :: st) M Q := by
  intro p l e s m args below meth c D dA ad H locs ls C hP hS hl
  have kk := k p l e s m args below meth c D dA ad H locs ls C hP hS hl
  simp only [List.map_cons, am_val, Int32.ofInt_add] at kk
  exact lv_iadd C.1 C.2.1 hd kk
theorem aw_isub {x y : Int} (hd : decode mm.2.1 pc = .ok (.isub, 1)) (k : AW d mm (pc + 1) L (.inl (x - y) :: st) M Q) : AW d mm pc L (.inl y :: .inl x :: st) M Q := by
  intro p l e s m args below meth c D dA ad H locs ls C hP hS hl
  have kk := k p l e s m args below meth c D dA ad H locs ls C hP hS hl
  simp only [List.map_cons, am_val, Int32.ofInt_sub] at kk
  exact lv_isub C.1 C.2.1 hd kk
theorem aw_imul {x y : Int} (hd : decode mm.2.1 pc = .ok (.imul, 1)) (k : AW d mm (pc + 1) L (.inl (x * y) :: st) M Q) : AW d mm pc L (.inl y :: .inl x :: st) M Q := by
  intro p l e s m args below meth c D dA ad H locs ls C hP hS hl
  have kk := k p l e s m args below meth c D dA ad H locs ls C hP hS hl
  simp only [List.map_cons, am_val, Int32.ofInt_mul] at kk
  exact lv_imul C.1 C.2.1 hd kk
theorem aw_ineg {x : Int} (hd : decode mm.2.1 pc = .ok (.ineg, 1)) (k : AW d mm (pc + 1) L (.inl (-x) :: st) M Q) : AW d mm pc L (.inl x :: st) M Q := by
  intro p l e s m args below meth c D dA ad H locs ls C hP hS hl
  have kk := k p l e s m args below meth c D dA ad H locs ls C hP hS hl
  simp only [List.map_cons, am_val, Int32.ofInt_neg] at kk
  exact lv_ineg C.1 C.2.1 hd kk
theorem aw_iand255 {x : Int} (hd : decode mm.2.1 pc = .ok (.iand, 1)) (hx : -128 ≤ x ∧ x < 128) (k : AW d mm (pc + 1) L (.inl (x % 256) :: st) M Q) : AW d mm pc L (.inl 255 :: .inl x :: st) M Q := by
  intro p l e s m args below meth c D dA ad H locs ls C hP hS hl
  have kk := k p l e s m args below meth c D dA ad H locs ls C hP hS hl
  simp only [List.map_cons, am_val] at kk
  rw [← (am_sbyte hx).1] at kk
  exact lv_iand C.1 C.2.1 hd kk
theorem aw_i2b {x : Int} (hd : decode mm.2.1 pc = .ok (.i2b, 1)) (hx : 0 ≤ x ∧ x < 256) (k : AW d mm (pc + 1) L (.inl (if x < 128 then x else x - 256) :: st) M Q) : AW d mm pc L (.inl x :: st) M Q := by
  intro p l e s m args below meth c D dA ad H locs ls C hP hS hl
  exact lv_i2b C.1 C.2.1 hd (am_byte hx).1 (k p l e s m args below meth c D dA ad H locs ls C hP hS hl)
theorem aw_i2c {x : Int} (hd : decode mm.2.1 pc = .ok (.i2c, 1)) (hx : 0 ≤ x ∧ x < 256) (k : AW d mm (pc + 1) L (.inl x :: st) M Q) : AW d mm pc L (.inl x :: st) M Q := by
  intro p l e s m args below meth c D dA ad H locs ls C hP hS hl
  exact lv_i2c C.1 C.2.1 hd (am_byte hx).2.1 (k p l e s m args below meth c D dA ad H locs ls C hP hS hl)
theorem aw_ishr0 {x : Int} (hd : decode mm.2.1 pc = .ok (.ishr, 1)) (k : AW d mm (pc + 1) L (.inl x :: st) M Q) : AW d mm pc L (.inl 0 :: .inl x :: st) M Q := by
  intro p l e s m args below meth c D dA ad H locs ls C hP hS hl
  have kk := k p l e s m args below meth c D dA ad H locs ls C hP hS hl
  simp only [List.map_cons, am_val] at kk
  rw [← sb_shr0 (Int32.ofInt x)] at kk
  exact lv_ishr C.1 C.2.1 hd kk
theorem aw_dup {v : am_v} (hd : decode mm.2.1 pc = .ok (.dup, 1)) (k : AW d mm (pc + 1) L (v :: v :: st) M Q) : AW d mm pc L (v :: st) M Q := by
  intro p l e s m args below meth c D dA ad H locs ls C hP hS hl
  exact lv_dup C.1 C.2.1 hd (am_cat ad v) (k p l e s m args below meth c D dA ad H locs ls C hP hS hl)
theorem aw_dup2 {v w : am_v} (hd : decode mm.2.1 pc = .ok (.dup2, 1)) (k : AW d mm (pc + 1) L (v :: w :: v :: w :: st) M Q) : AW d mm pc L (v :: w :: st) M Q := by
  intro p l e s m args below meth c D dA ad H locs ls C hP hS hl
  exact lv_dup2_11 C.1 C.2.1 hd (am_cat ad v) (am_cat ad w) (k p l e s m args below meth c D dA ad H locs ls C hP hS hl)
theorem aw_pop {v : am_v} (hd : decode mm.2.1 pc = .ok (.pop, 1)) (k : AW d mm (pc + 1) L st M Q) : AW d mm pc L (v :: st) M Q := by
  intro p l e s m args below meth c D dA ad H locs ls C hP hS hl
  exact lv_pop C.1 C.2.1 hd (am_cat ad v) (k p l e s m args below meth c D dA ad H locs ls C hP hS hl)
theorem aw_goto {off : Int} {tgt : Nat} (hd : decode mm.2.1 pc = .ok (.goto off, 3)) (ht : (pc : Int) + off = (tgt : Int)) (k : AW d mm tgt L st M Q) : AW d mm pc L st M Q := by
  intro p l e s m args below meth c D dA ad H locs ls C hP hS hl
  exact lv_goto C.1 C.2.1 hd ht (k p l e s m args below meth c D dA ad H locs ls C hP hS hl)
theorem aw_icmp_lt {x y off : Int} {tgt : Nat} (hd : decode mm.2.1 pc = .ok (.if_icmp .lt off, 3)) (ht : (pc : Int) + off = (tgt : Int)) (hx : -2147483648 ≤ x ∧ x < 2147483648) (hy : -2147483648 ≤ y ∧ y < 2147483648) (kt : x < y → AW d mm tgt L st M Q) (kf : y ≤ x → AW d mm (pc + 3) L st M Q) : AW d mm pc L (.inl y :: .inl x :: st) M Q := by
  intro p l e s m args below meth c D dA ad H locs ls C hP hS hl
  exact lv_icmp_lt C.1 C.2.1 hd ht (fun q => kt ((am_lt hx hy).mp q) p l e s m args below meth c D dA ad H locs ls C hP hS hl) (fun q => kf (Int.not_lt.mp fun z => q ((am_lt hx hy).mpr z)) p l e s m args below meth c D dA ad H locs ls C hP hS hl)
theorem aw_icmp_ge {x y off : Int} {tgt : Nat} (hd : decode mm.2.1 pc = .ok (.if_icmp .ge off, 3)) (ht : (pc : Int) + off = (tgt : Int)) (hx : -2147483648 ≤ x ∧ x < 2147483648) (hy : -2147483648 ≤ y ∧ y < 2147483648) (kt : y ≤ x → AW d mm tgt L st M Q) (kf : x < y → AW d mm (pc + 3) L st M Q) : AW d mm pc L (.inl y :: .inl x :: st) M Q := by
  intro p l e s m args below meth c D dA ad H locs ls C hP hS hl
  exact lv_icmp_ge C.1 C.2.1 hd ht (fun q => kt ((am_le hy hx).mp q) p l e s m args below meth c D dA ad H locs ls C hP hS hl) (fun q => kf (Int.not_le.mp fun z => q ((am_le hy hx).mpr z)) p l e s m args below meth c D dA ad H locs ls C hP hS hl)
theorem aw_icmp_gt {x y off : Int} {tgt : Nat} (hd : decode mm.2.1 pc = .ok (.if_icmp .gt off, 3)) (ht : (pc : Int) + off = (tgt : Int)) (hx : -2147483648 ≤ x ∧ x < 2147483648) (hy : -2147483648 ≤ y ∧ y < 2147483648) (kt : y < x → AW d mm tgt L st M Q) (kf : x ≤ y → AW d mm (pc + 3) L st M Q) : AW d mm pc L (.inl y :: .inl x :: st) M Q := by
  intro p l e s m args below meth c D dA ad H locs ls C hP hS hl
  exact lv_icmp_gt C.1 C.2.1 hd ht (fun q => kt ((am_lt hy hx).mp q) p l e s m args below meth c D dA ad H locs ls C hP hS hl) (fun q => kf (Int.not_lt.mp fun z => q ((am_lt hy hx).mpr z)) p l e s m args below meth c D dA ad H locs ls C hP hS hl)
theorem aw_icmp_le {x y off : Int} {tgt : Nat} (hd : decode mm.2.1 pc = .ok (.if_icmp .le off, 3)) (ht : (pc : Int) + off = (tgt : Int)) (hx : -2147483648 ≤ x ∧ x < 2147483648) (hy : -2147483648 ≤ y ∧ y < 2147483648) (kt : x ≤ y → AW d mm tgt L st M Q) (kf : y < x → AW d mm (pc + 3) L st M Q) : AW d mm pc L (.inl y :: .inl x :: st) M Q := by
  intro p l e s m args below meth c D dA ad H locs ls C hP hS hl
  exact lv_icmp_le C.1 C.2.1 hd ht (fun q => kt ((am_le hx hy).mp q) p l e s m args below meth c D dA ad H locs ls C hP hS hl) (fun q => kf (Int.not_le.mp fun z => q ((am_le hx hy).mpr z)) p l e s m args below meth c D dA ad H locs ls C hP hS hl)
theorem aw_icmp_eq {x y off : Int} {tgt : Nat} (hd : decode mm.2.1 pc = .ok (.if_icmp .eq off, 3)) (ht : (pc : Int) + off = (tgt : Int)) (hx : -2147483648 ≤ x ∧ x < 2147483648) (hy : -2147483648 ≤ y ∧ y < 2147483648) (kt : x = y → AW d mm tgt L st M Q) (kf : x ≠ y → AW d mm (pc + 3) L st M Q) : AW d mm pc L (.inl y :: .inl x :: st) M Q := by
  intro p l e s m args below meth c D dA ad H locs ls C hP hS hl
  exact lv_icmp_eq C.1 C.2.1 hd ht (fun q => kt ((am_eq hx hy).mp q) p l e s m args below meth c D dA ad H locs ls C hP hS hl) (fun q => kf (fun z => q ((am_eq hx hy).mpr z)) p l e s m args below meth c D dA ad H locs ls C hP hS hl)
theorem aw_icmp_ne {x y off : Int} {tgt : Nat} (hd : decode mm.2.1 pc = .ok (.if_icmp .ne off, 3)) (ht : (pc : Int) + off = (tgt : Int)) (hx : -2147483648 ≤ x ∧ x < 2147483648) (hy : -2147483648 ≤ y ∧ y < 2147483648) (kt : x ≠ y → AW d mm tgt L st M Q) (kf : x = y → AW d mm (pc + 3) L st M Q) : AW d mm pc L (.inl y :: .inl x :: st) M Q := by
  intro p l e s m args below meth c D dA ad H locs ls C hP hS hl
  exact lv_icmp_ne C.1 C.2.1 hd ht (fun q => kt (fun z => q ((am_eq hx hy).mpr z)) p l e s m args below meth c D dA ad H locs ls C hP hS hl) (fun q => kf ((am_eq hx hy).mp q) p l e s m args below meth c D dA ad H locs ls C hP hS hl)
theorem am_r0 : -2147483648 ≤ (0 : Int) ∧ (0 : Int) < 2147483648 := by decide
theorem aw_if_lt {x off : Int} {tgt : Nat} (hd : decode mm.2.1 pc = .ok (.ifCond .lt off, 3)) (ht : (pc : Int) + off = (tgt : Int)) (hx : -2147483648 ≤ x ∧ x < 2147483648) (kt : x < 0 → AW d mm tgt L st M Q) (kf : 0 ≤ x → AW d mm (pc + 3) L st M Q) : AW d mm pc L (.inl x :: st) M Q := by
  intro p l e s m args below meth c D dA ad H locs ls C hP hS hl
  exact lv_if_lt C.1 C.2.1 hd ht (fun q => kt ((am_lt hx am_r0).mp q) p l e s m args below meth c D dA ad H locs ls C hP hS hl) (fun q => kf (Int.not_lt.mp fun z => q ((am_lt hx am_r0).mpr z)) p l e s m args below meth c D dA ad H locs ls C hP hS hl)
theorem aw_if_ge {x off : Int} {tgt : Nat} (hd : decode mm.2.1 pc = .ok (.ifCond .ge off, 3)) (ht : (pc : Int) + off = (tgt : Int)) (hx : -2147483648 ≤ x ∧ x < 2147483648) (kt : 0 ≤ x → AW d mm tgt L st M Q) (kf : x < 0 → AW d mm (pc + 3) L st M Q) : AW d mm pc L (.inl x :: st) M Q := by
  intro p l e s m args below meth c D dA ad H locs ls C hP hS hl
  exact lv_if_ge C.1 C.2.1 hd ht (fun q => kt ((am_le am_r0 hx).mp q) p l e s m args below meth c D dA ad H locs ls C hP hS hl) (fun q => kf (Int.not_le.mp fun z => q ((am_le am_r0 hx).mpr z)) p l e s m args below meth c D dA ad H locs ls C hP hS hl)
theorem aw_if_gt {x off : Int} {tgt : Nat} (hd : decode mm.2.1 pc = .ok (.ifCond .gt off, 3)) (ht : (pc : Int) + off = (tgt : Int)) (hx : -2147483648 ≤ x ∧ x < 2147483648) (kt : 0 < x → AW d mm tgt L st M Q) (kf : x ≤ 0 → AW d mm (pc + 3) L st M Q) : AW d mm pc L (.inl x :: st) M Q := by
  intro p l e s m args below meth c D dA ad H locs ls C hP hS hl
  exact lv_if_gt C.1 C.2.1 hd ht (fun q => kt ((am_lt am_r0 hx).mp q) p l e s m args below meth c D dA ad H locs ls C hP hS hl) (fun q => kf (Int.not_lt.mp fun z => q ((am_lt am_r0 hx).mpr z)) p l e s m args below meth c D dA ad H locs ls C hP hS hl)
theorem aw_if_le {x off : Int} {tgt : Nat} (hd : decode mm.2.1 pc = .ok (.ifCond .le off, 3)) (ht : (pc : Int) + off = (tgt : Int)) (hx : -2147483648 ≤ x ∧ x < 2147483648) (kt : x ≤ 0 → AW d mm tgt L st M Q) (kf : 0 < x → AW d mm (pc + 3) L st M Q) : AW d mm pc L (.inl x :: st) M Q := by
  intro p l e s m args below meth c D dA ad H locs ls C hP hS hl
  exact lv_if_le C.1 C.2.1 hd ht (fun q => kt ((am_le hx am_r0).mp q) p l e s m args below meth c D dA ad H locs ls C hP hS hl) (fun q => kf (Int.not_le.mp fun z => q ((am_le hx am_r0).mpr z)) p l e s m args below meth c D dA ad H locs ls C hP hS hl)
theorem aw_if_eq {x off : Int} {tgt : Nat} (hd : decode mm.2.1 pc = .ok (.ifCond .eq off, 3)) (ht : (pc : Int) + off = (tgt : Int)) (hx : -2147483648 ≤ x ∧ x < 2147483648) (kt : x = 0 → AW d mm tgt L st M Q) (kf : x ≠ 0 → AW d mm (pc + 3) L st M Q) : AW d mm pc L (.inl x :: st) M Q := by
  intro p l e s m args below meth c D dA ad H locs ls C hP hS hl
  exact lv_if_eq C.1 C.2.1 hd ht (fun q => kt ((am_eq hx am_r0).mp q) p l e s m args below meth c D dA ad H locs ls C hP hS hl) (fun q => kf (fun z => q ((am_eq hx am_r0).mpr z)) p l e s m args below meth c D dA ad H locs ls C hP hS hl)
theorem aw_if_ne {x off : Int} {tgt : Nat} (hd : decode mm.2.1 pc = .ok (.ifCond .ne off, 3)) (ht : (pc : Int) + off = (tgt : Int)) (hx : -2147483648 ≤ x ∧ x < 2147483648) (kt : x ≠ 0 → AW d mm tgt L st M Q) (kf : x = 0 → AW d mm (pc + 3) L st M Q) : AW d mm pc L (.inl x :: st) M Q := by
  intro p l e s m args below meth c D dA ad H locs ls C hP hS hl
  exact lv_if_ne C.1 C.2.1 hd ht (fun q => kt (fun z => q ((am_eq hx am_r0).mpr z)) p l e s m args below meth c D dA ad H locs ls C hP hS hl) (fun q => kf ((am_eq hx am_r0).mp q) p l e s m args below meth c D dA ad H locs ls C hP hS hl)
/-- tg: the targets, in their order -/
theorem aw_tsw {x dflt lo hi : Int} {offs : Array Int} {len tgt : Nat} (tg : List Nat) (hd : decode mm.2.1 pc = .ok (.tableswitch dflt lo hi offs, len)) (ht : (pc : Int) + dflt = (tgt : Int)) (ho : offs.toList = tg.map (fun t : Nat => (t : Int) - (pc : Int))) (hh : hi = lo + tg.length - 1) (hx : -2147483648 ≤ x ∧ x < 2147483648) (kd : x < lo ∨ hi < x → AW d mm tgt L st M Q) (kk : ∀ (j t : Nat), tg[j]? = some t → x = lo + j → AW d mm t L st M Q) : AW d mm pc L (.inl x :: st) M Q := by
  intro p l e s m args below meth c D dA ad H locs ls C hP hS hl
  have e1 : (Int32.ofInt x).toInt = x := Int32.toInt_ofInt_of_le (by omega) (by omega)
  by_cases hq : x < lo ∨ hi < x
  · exact lv_tableOut C.1 C.2.1 hd (by rw [e1]; exact hq) ht (kd hq p l e s m args below meth c D dA ad H locs ls C hP hS hl)
  · have hj : (x - lo).toNat < tg.length := by omega
    have e2 : offs[(x - lo).toNat]? = some ((tg[(x - lo).toNat] : Int) - pc) := by
      rw [← Array.getElem?_toList, ho, List.getElem?_map, List.getElem?_eq_getElem hj]
      rfl
    exact lv_tableIn C.1 C.2.1 hd (by rw [e1]; omega) (by rw [e1]; omega) (by rw [e1]; exact e2) (tgt := tg[(x - lo).toNat]) (by omega) (kk (x - lo).toNat _ (List.getElem?_eq_getElem hj) (by omega) p l e s m args below meth c D dA ad H locs ls C hP hS hl)
theorem aw_iret {z : Int} (hd : decode mm.2.1 pc = .ok (.ireturn, 1)) (hr : mm.2.2.2 = some .int) (h : Q (some z) M) : AW d mm pc L [.inl z] M Q := by
  intro p l e s m args below meth c D dA ad H locs ls C hP hS hl
  obtain ⟨hx, hb, hr', hml, hlk, hown, hts, hK, hinj, hC⟩ := id C
  exact W.iret (v := Int32.ofInt z) hx hb (hr'.trans hr) (fun t ht hW => ⟨⟨some z, M, rfl, h, by rw [ht]; exact hP⟩, hS.F ht⟩) hS.2.2 hd hlk
theorem aw_nret {z : Int} {ty : FieldType} (hd : decode mm.2.1 pc = .ok (.ireturn, 1)) (hr : mm.2.2.2 = some ty) (hn : narrow ty (.int (Int32.ofInt z)) = .int (Int32.ofInt z)) (h : Q (some z) M) : AW d mm pc L [.inl z] M Q := by
  intro p l e s m args below meth c D dA ad H locs ls C hP hS hl
  obtain ⟨hx, hb, hr', hml, hlk, hown, hts, hK, hinj, hC⟩ := id C
  exact W.zret (v := Int32.ofInt z) hx hb (hr'.trans hr) hn (fun t ht hW => ⟨⟨some z, M, rfl, h, by rw [ht]; exact hP⟩, hS.F ht⟩) hS.2.2 hd hlk
theorem aw_zret {z : Int} (hd : decode mm.2.1 pc = .ok (.ireturn, 1)) (hr : mm.2.2.2 = some .boolean) (hz : z = 0 ∨ z = 1) (h : Q (some z) M) : AW d mm pc L [.inl z] M Q :=
  aw_nret hd hr (by rcases hz with rfl | rfl <;> decide +kernel) h
theorem aw_vret (hd : decode mm.2.1 pc = .ok (.return_, 1)) (hr : mm.2.2.2 = none) (h : Q none M) : AW d mm pc L [] M Q := by
  intro p l e s m args below meth c D dA ad H locs ls C hP hS hl
  obtain ⟨hx, hb, hr', hml, hlk, hown, hts, hK, hinj, hC⟩ := id C
  exact W.vret hx hb (hr'.trans hr) (fun t ht hW => ⟨⟨none, M, rfl, h, by rw [ht]; exact hP⟩, hS.F ht⟩) hS.2.2 hd hlk
end AMS
