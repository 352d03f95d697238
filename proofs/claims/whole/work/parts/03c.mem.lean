/-! the abstract machine's steps over memory, and calls -/
def am_flB (own : String) (idx ci k : Nat) : Bool := match am_cl[ci]? with
  | some q => decide (k < q.2.2) && decide (Cond.fieldLink own idx (q.2.1 k).1 (q.2.1 k).2.1 (q.2.1 k).2.2.1 ∈ am_T)
  | none => false
/-- an int field that may be written -/
def am_pfB (own : String) (idx ci k : Nat) : Bool := am_flB own idx ci k && match am_cl[ci]? with
  | some q => decide ((q.2.1 k).2.2.2 = false) && decide (parseFieldDescriptor (q.2.1 k).2.2.1 = some .int)
  | none => false
theorem am_cw0 : ∀ w ∈ u_ws RX0 TX0 2, w ∈ am_T := by decide +kernel
theorem am_cw1 : ∀ w ∈ u_ws RX1 TX1 7, w ∈ am_T := by decide +kernel
theorem am_cw2 : ∀ w ∈ u_ws RX2 TX2 4, w ∈ am_T := by decide +kernel
theorem am_cw3 : ∀ w ∈ u_ws RX3 TX3 4, w ∈ am_T := by decide +kernel
theorem am_cw4 : ∀ w ∈ u_ws RX4 TX4 6, w ∈ am_T := by decide +kernel
theorem am_cw5 : ∀ w ∈ u_ws RX5 TX5 5, w ∈ am_T := by decide +kernel
theorem am_cw6 : ∀ w ∈ u_ws RX6 TX6 10, w ∈ am_T := by decide +kernel
theorem am_cw7 : ∀ w ∈ u_ws RX7 TX7 12, w ∈ am_T := by decide +kernel
theorem am_cw8 : ∀ w ∈ u_ws RX8 TX8 23, w ∈ am_T := by decide +kernel
/-- what is known of each class: its words, its types, its names apart -/
theorem am_cls : ∀ (ci : Nat) (q : vw_C), am_cl[ci]? = some q → (∀ w ∈ u_ws q.1 q.2.1 q.2.2, w ∈ am_T) ∧ (∃ ty0 : Nat → FieldType, ∀ k, k < q.2.2 → parseFieldDescriptor (q.2.1 k).2.2.1 = some (ty0 k)) ∧ (∀ a, a < q.2.2 → ∀ b, b < q.2.2 → a ≠ b → (q.2.1 a).2.1 ≠ (q.2.1 b).2.1) := by
  intro ci q h
  match ci, h with
  | 0, h => cases h; exact ⟨am_cw0, ⟨tyX0, tyX0_ok⟩, nmX0⟩
  | 1, h => cases h; exact ⟨am_cw1, ⟨tyX1, tyX1_ok⟩, nmX1⟩
  | 2, h => cases h; exact ⟨am_cw2, ⟨tyX2, tyX2_ok⟩, nmX2⟩
  | 3, h => cases h; exact ⟨am_cw3, ⟨tyX3, tyX3_ok⟩, nmX3⟩
  | 4, h => cases h; exact ⟨am_cw4, ⟨tyX4, tyX4_ok⟩, nmX4⟩
  | 5, h => cases h; exact ⟨am_cw5, ⟨tyX5, tyX5_ok⟩, nmX5⟩
  | 6, h => cases h; exact ⟨am_cw6, ⟨tyX6, tyX6_ok⟩, nmX6⟩
  | 7, h => cases h; exact ⟨am_cw7, ⟨tyX7, tyX7_ok⟩, nmX7⟩
  | 8, h => cases h; exact ⟨am_cw8, ⟨tyX8, tyX8_ok⟩, nmX8⟩
  | n + 9, h => simp [am_cl] at h
theorem am_fl_spec {own : String} {idx ci k : Nat} (h : am_flB own idx ci k = true) : ∃ q : vw_C, am_cl[ci]? = some q ∧ k < q.2.2 ∧ Cond.fieldLink own idx (q.2.1 k).1 (q.2.1 k).2.1 (q.2.1 k).2.2.1 ∈ am_T := by
  unfold am_flB at h
  cases hq : am_cl[ci]? with
  | none => rw [hq] at h; cases h
  | some q =>
    rw [hq] at h
    simp only [Bool.and_eq_true, decide_eq_true_eq] at h
    exact ⟨q, rfl, h.1, h.2⟩
theorem am_pf_spec {own : String} {idx ci k : Nat} (h : am_pfB own idx ci k = true) : ∃ q : vw_C, am_cl[ci]? = some q ∧ k < q.2.2 ∧ Cond.fieldLink own idx (q.2.1 k).1 (q.2.1 k).2.1 (q.2.1 k).2.2.1 ∈ am_T ∧ (q.2.1 k).2.2.2 = false ∧ parseFieldDescriptor (q.2.1 k).2.2.1 = some .int := by
  unfold am_pfB at h
  simp only [Bool.and_eq_true] at h
  obtain ⟨q, h1, h2, h3⟩ := am_fl_spec h.1
  have h4 := h.2
  rw [h1] at h4
  simp only [Bool.and_eq_true, decide_eq_true_eq] at h4
  exact ⟨q, h1, h2, h3, h4.1, h4.2⟩
/-- stretches copied -/
def am_cp (M : am_M) (a : Nat) (sp : Int) (b : Nat) (dp n : Int) : am_M := fun c j => if c = b then (if dp ≤ j ∧ j < dp + n then M a (sp + (j - dp)) else M c j) else M c j
def am_cpt (M : am_M) (xs : List Int) (b : Nat) (n : Int) : am_M := fun c j => if c = b then (if 0 ≤ j ∧ j < n then xs.getD j.toNat 0 else M c j) else M c j
section AMM
variable {d : Nat} {mm : am_mm} {pc : Nat} {L L' : List (Nat × am_v)} {st : List am_v} {M : am_M} {Q : Option Int → am_M → Prop}
theorem aw_getf {a idx ci k : Nat} {fs : List (Option Nat)} {kz : Int} (hd : decode mm.2.1 pc = .ok (.getfield idx, 3)) (hf : am_flB mm.1.cls idx ci k = true) (hs : am_sh[a]? = some (.inr (ci, fs))) (hk : fs[k]? = some none) (hz : (k : Int) = kz) (kk : AW d mm (pc + 3) L (.inl (M a kz) :: st) M Q) : AW d mm pc L (.inr a :: st) M Q := by
  intro p l e s m args below meth c D dA ad H locs ls C hP hS hl
  obtain ⟨hx, hb, hr, hml, hlk, hown, hts, hK, hinj, hC⟩ := id C
  obtain ⟨q, h1, h2, h3⟩ := am_fl_spec hf
  obtain ⟨g1, -, -⟩ := am_cls ci q h1
  subst hz
  exact va_get (C := q.1) (T := q.2.1) (N := q.2.2) hx hb hts (fun w hw => am_mem (g1 w hw)) hown hK hP a (am_ws_get hs) h1 k h2 (hts _ (am_mem h3)) (fun _ h => h) (v := .int (Int32.ofInt (M a k))) (by simp [List.getElem?_mapIdx, hk, am_fv]) hd (kk p l e s m args below meth c D dA ad H locs ls C hP hS hl)
theorem aw_getr {a idx ci k b : Nat} {fs : List (Option Nat)} (hd : decode mm.2.1 pc = .ok (.getfield idx, 3)) (hf : am_flB mm.1.cls idx ci k = true) (hs : am_sh[a]? = some (.inr (ci, fs))) (hk : fs[k]? = some (some b)) (kk : AW d mm (pc + 3) L (.inr b :: st) M Q) : AW d mm pc L (.inr a :: st) M Q := by
  intro p l e s m args below meth c D dA ad H locs ls C hP hS hl
  obtain ⟨hx, hb, hr, hml, hlk, hown, hts, hK, hinj, hC⟩ := id C
  obtain ⟨q, h1, h2, h3⟩ := am_fl_spec hf
  obtain ⟨g1, -, -⟩ := am_cls ci q h1
  exact va_get (C := q.1) (T := q.2.1) (N := q.2.2) hx hb hts (fun w hw => am_mem (g1 w hw)) hown hK hP a (am_ws_get hs) h1 k h2 (hts _ (am_mem h3)) (fun _ h => h) (v := .ref (ad b)) (by simp [List.getElem?_mapIdx, hk, am_fv]) hd (kk p l e s m args below meth c D dA ad H locs ls C hP hS hl)
theorem aw_putf {a idx ci k : Nat} {fs : List (Option Nat)} {kz z : Int} (hd : decode mm.2.1 pc = .ok (.putfield idx, 3)) (hf : am_pfB mm.1.cls idx ci k = true) (hs : am_sh[a]? = some (.inr (ci, fs))) (hk : fs[k]? = some none) (hz : (k : Int) = kz) (kk : AW d mm (pc + 3) L st (am_up M a kz z) Q) : AW d mm pc L (.inl z :: .inr a :: st) M Q := by
  intro p l e s m args below meth c D dA ad H locs ls C hP hS hl
  obtain ⟨hx, hb, hr, hml, hlk, hown, hts, hK, hinj, hC⟩ := id C
  obtain ⟨q, h1, h2, h3, h4, h5⟩ := am_pf_spec hf
  obtain ⟨g1, ⟨ty0, g2⟩, g3⟩ := am_cls ci q h1
  subst hz
  have hlen : k < fs.length := (List.getElem?_eq_some_iff.mp hk).1
  refine va_put (C := q.1) (T := q.2.1) (N := q.2.2) (ty := .int) hx hb hts (fun w hw => am_mem (g1 w hw)) ty0 g2 g3 hown hK hP (am_D hinj) hS a (am_ws_get hs) h1 k h2 (hts _ (am_mem h3)) (fun _ h => h) h4 (v := .int (Int32.ofInt z)) h5 rfl rfl (by simpa using hlen) hd (fun H1 locs1 hP1 _ hS1 => ?_)
  refine kk p l e s m args below meth c D dA ad H1 locs1 ls C (am_ws_put hs ?_ (am_up_ne M a k z) hP1) hS1 hl
  simp only [am_cell]
  congr 2
  apply List.ext_getElem?
  intro j
  by_cases hj : j = k
  · subst hj
    rw [List.getElem?_set_self (by simpa using hlen)]
    simp [List.getElem?_mapIdx, hk, am_fv, am_up]
  · rw [List.getElem?_set_ne (Ne.symm hj)]
    simp only [List.getElem?_mapIdx]
    cases fs[j]? with
    | none => rfl
    | some o =>
      have hj' : ¬ (j : Int) = (k : Int) := by omega
      cases o <;> simp [am_fv, am_up, hj']
theorem am_upd {M : am_M} {a n : Nat} {i z : Int} (h : 0 ≤ i ∧ i < n) : upd (fun j : Nat => Int32.ofInt (M a (j : Int))) i.toNat (Int32.ofInt z) = fun j : Nat => Int32.ofInt (am_up M a i z a (j : Int)) := by
  funext j
  by_cases hj : j = i.toNat
  · subst hj
    have : ((i.toNat : Nat) : Int) = i := by omega
    simp [upd, am_up, this]
  · have : ¬ (j : Int) = i := by omega
    simp [upd, am_up, this, hj]
theorem aw_iaload {a n : Nat} {i : Int} (hd : decode mm.2.1 pc = .ok (.iaload, 1)) (hs : am_sh[a]? = some (.inl (0, n))) (hi : 0 ≤ i ∧ i < n) (kk : AW d mm (pc + 1) L (.inl (M a i) :: st) M Q) : AW d mm pc L (.inl i :: .inr a :: st) M Q := by
  intro p l e s m args below meth c D dA ad H locs ls C hP hS hl
  obtain ⟨hx, hb, hr, hml, hlk, hown, hts, hK, hinj, hC⟩ := id C
  obtain ⟨g1, g2⟩ := am_in (am_small a 0 n hs) hi
  have h := kk p l e s m args below meth c D dA ad H locs ls C hP hS hl
  refine va_iald hx hb hK hP a 0 (f := fun j => Int32.ofInt (M a (j : Int))) (am_ws_get hs) rfl g1 hd ?_
  rw [g2, show ((i.toNat : Nat) : Int) = i by omega]
  exact h
theorem aw_caload {a n : Nat} {i : Int} (hd : decode mm.2.1 pc = .ok (.caload, 1)) (hs : am_sh[a]? = some (.inl (1, n))) (hi : 0 ≤ i ∧ i < n) (kk : AW d mm (pc + 1) L (.inl (M a i) :: st) M Q) : AW d mm pc L (.inl i :: .inr a :: st) M Q := by
  intro p l e s m args below meth c D dA ad H locs ls C hP hS hl
  obtain ⟨hx, hb, hr, hml, hlk, hown, hts, hK, hinj, hC⟩ := id C
  obtain ⟨g1, g2⟩ := am_in (am_small a 1 n hs) hi
  have h := kk p l e s m args below meth c D dA ad H locs ls C hP hS hl
  refine va_cald hx hb hK hP a 1 (f := fun j => Int32.ofInt (M a (j : Int))) (am_ws_get hs) rfl g1 hd ?_
  rw [g2, show ((i.toNat : Nat) : Int) = i by omega]
  exact h
theorem aw_zaload {a n : Nat} {i : Int} (hd : decode mm.2.1 pc = .ok (.baload, 1)) (hs : am_sh[a]? = some (.inl (2, n))) (hi : 0 ≤ i ∧ i < n) (kk : AW d mm (pc + 1) L (.inl (M a i) :: st) M Q) : AW d mm pc L (.inl i :: .inr a :: st) M Q := by
  intro p l e s m args below meth c D dA ad H locs ls C hP hS hl
  obtain ⟨hx, hb, hr, hml, hlk, hown, hts, hK, hinj, hC⟩ := id C
  obtain ⟨g1, g2⟩ := am_in (am_small a 2 n hs) hi
  have h := kk p l e s m args below meth c D dA ad H locs ls C hP hS hl
  refine va_zald hx hb hK hP a 2 (f := fun j => Int32.ofInt (M a (j : Int))) (am_ws_get hs) rfl g1 hd ?_
  rw [g2, show ((i.toNat : Nat) : Int) = i by omega]
  exact h
theorem aw_baload {a n : Nat} {i : Int} (hd : decode mm.2.1 pc = .ok (.baload, 1)) (hs : am_sh[a]? = some (.inl (3, n))) (hi : 0 ≤ i ∧ i < n) (kk : AW d mm (pc + 1) L (.inl (M a i) :: st) M Q) : AW d mm pc L (.inl i :: .inr a :: st) M Q := by
  intro p l e s m args below meth c D dA ad H locs ls C hP hS hl
  obtain ⟨hx, hb, hr, hml, hlk, hown, hts, hK, hinj, hC⟩ := id C
  obtain ⟨g1, g2⟩ := am_in (am_small a 3 n hs) hi
  have h := kk p l e s m args below meth c D dA ad H locs ls C hP hS hl
  refine va_bald hx hb hK hP a 3 (f := fun j => Int32.ofInt (M a (j : Int))) (am_ws_get hs) rfl g1 hd ?_
  rw [g2, show ((i.toNat : Nat) : Int) = i by omega]
  exact h
theorem aw_iastore {a n : Nat} {i z : Int} (hd : decode mm.2.1 pc = .ok (.iastore, 1)) (hs : am_sh[a]? = some (.inl (0, n))) (hi : 0 ≤ i ∧ i < n) (kk : AW d mm (pc + 1) L st (am_up M a i z) Q) : AW d mm pc L (.inl z :: .inl i :: .inr a :: st) M Q := by
  intro p l e s m args below meth c D dA ad H locs ls C hP hS hl
  obtain ⟨hx, hb, hr, hml, hlk, hown, hts, hK, hinj, hC⟩ := id C
  obtain ⟨g1, g2⟩ := am_in (am_small a 0 n hs) hi
  refine va_iast hx hb hK hP (am_D hinj) hS a 0 (f := fun j => Int32.ofInt (M a (j : Int))) (am_ws_get hs) rfl (x := Int32.ofInt z) g1 hd (fun H1 locs1 hP1 _ hS1 => ?_)
  refine kk p l e s m args below meth c D dA ad H1 locs1 ls C (am_ws_put hs ?_ (am_up_ne M a i z) hP1) hS1 hl
  rw [g2, am_upd hi]
  rfl
theorem aw_castore {a n : Nat} {i z : Int} (hd : decode mm.2.1 pc = .ok (.castore, 1)) (hs : am_sh[a]? = some (.inl (1, n))) (hi : 0 ≤ i ∧ i < n) (hz : 0 ≤ z ∧ z < 256) (kk : AW d mm (pc + 1) L st (am_up M a i z) Q) : AW d mm pc L (.inl z :: .inl i :: .inr a :: st) M Q := by
  intro p l e s m args below meth c D dA ad H locs ls C hP hS hl
  obtain ⟨hx, hb, hr, hml, hlk, hown, hts, hK, hinj, hC⟩ := id C
  obtain ⟨g1, g2⟩ := am_in (am_small a 1 n hs) hi
  refine va_cast hx hb hK hP (am_D hinj) hS a 1 (f := fun j => Int32.ofInt (M a (j : Int))) (am_ws_get hs) rfl (x := Int32.ofInt z) g1 hd (fun H1 locs1 hP1 _ hS1 => ?_)
  refine kk p l e s m args below meth c D dA ad H1 locs1 ls C (am_ws_put hs ?_ (am_up_ne M a i z) hP1) hS1 hl
  rw [g2, (am_byte hz).2.2.1, am_upd hi]
  rfl
theorem aw_bastore {a n : Nat} {i z : Int} (hd : decode mm.2.1 pc = .ok (.bastore, 1)) (hs : am_sh[a]? = some (.inl (3, n))) (hi : 0 ≤ i ∧ i < n) (hz : -128 ≤ z ∧ z < 128) (kk : AW d mm (pc + 1) L st (am_up M a i z) Q) : AW d mm pc L (.inl z :: .inl i :: .inr a :: st) M Q := by
  intro p l e s m args below meth c D dA ad H locs ls C hP hS hl
  obtain ⟨hx, hb, hr, hml, hlk, hown, hts, hK, hinj, hC⟩ := id C
  obtain ⟨g1, g2⟩ := am_in (am_small a 3 n hs) hi
  refine va_bast hx hb hK hP (am_D hinj) hS a 3 (f := fun j => Int32.ofInt (M a (j : Int))) (am_ws_get hs) rfl (x := Int32.ofInt z) g1 hd (fun H1 locs1 hP1 _ hS1 => ?_)
  refine kk p l e s m args below meth c D dA ad H1 locs1 ls C (am_ws_put hs ?_ (am_up_ne M a i z) hP1) hS1 hl
  rw [g2, (am_sbyte hz).2, am_upd hi]
  rfl
theorem aw_zastore {a n : Nat} {i : Int} (hd : decode mm.2.1 pc = .ok (.bastore, 1)) (hs : am_sh[a]? = some (.inl (2, n))) (hi : 0 ≤ i ∧ i < n) (kk : AW d mm (pc + 1) L st (am_up M a i 1) Q) : AW d mm pc L (.inl 1 :: .inl i :: .inr a :: st) M Q := by
  intro p l e s m args below meth c D dA ad H locs ls C hP hS hl
  obtain ⟨hx, hb, hr, hml, hlk, hown, hts, hK, hinj, hC⟩ := id C
  obtain ⟨g1, g2⟩ := am_in (am_small a 2 n hs) hi
  refine va_zast hx hb hK hP (am_D hinj) hS a 2 (f := fun j => Int32.ofInt (M a (j : Int))) (am_ws_get hs) rfl (x := Int32.ofInt 1) g1 hd (fun H1 locs1 hP1 _ hS1 => ?_)
  refine kk p l e s m args below meth c D dA ad H1 locs1 ls C (am_ws_put hs ?_ (am_up_ne M a i 1) hP1) hS1 hl
  rw [g2, show vp_nar .boolean (Int32.ofInt 1) = Int32.ofInt 1 by decide +kernel, am_upd hi]
  rfl
theorem aw_aaload {a n : Nat} {i : Int} (hd : decode mm.2.1 pc = .ok (.aaload, 1)) (hs : am_sh[a]? = some (.inl (4, n))) (hi : 0 ≤ i ∧ i < n) (kk : AW d mm (pc + 1) L (.inr (M a i).toNat :: st) M Q) : AW d mm pc L (.inl i :: .inr a :: st) M Q := by
  intro p l e s m args below meth c D dA ad H locs ls C hP hS hl
  obtain ⟨hx, hb, hr, hml, hlk, hown, hts, hK, hinj, hC⟩ := id C
  obtain ⟨g1, g2⟩ := am_in (am_small a 4 n hs) hi
  have h := kk p l e s m args below meth c D dA ad H locs ls C hP hS hl
  refine va_aldq hx hb hK hP a 4 (C := RX3) (f := fun j => some (ad (M a (j : Int)).toNat)) (am_ws_get hs) rfl g1 hd ?_
  rw [g2, show ((i.toNat : Nat) : Int) = i by omega]
  exact h
theorem aw_aastore {a n v : Nat} {i : Int} {fs : List (Option Nat)} (hd : decode mm.2.1 pc = .ok (.aastore, 1)) (hs : am_sh[a]? = some (.inl (4, n))) (hv : am_sh[v]? = some (.inr (3, fs))) (hi : 0 ≤ i ∧ i < n) (kk : AW d mm (pc + 1) L st (am_up M a i (v : Int)) Q) : AW d mm pc L (.inr v :: .inl i :: .inr a :: st) M Q := by
  intro p l e s m args below meth c D dA ad H locs ls C hP hS hl
  obtain ⟨hx, hb, hr, hml, hlk, hown, hts, hK, hinj, hC⟩ := id C
  obtain ⟨g1, g2⟩ := am_in (am_small a 4 n hs) hi
  refine va_astq hx hb hK hP (am_D hinj) hS a 4 v 3 (r := (RX3, TX3, 4)) (f := fun j => some (ad (M a (j : Int)).toNat)) (am_ws_get hs) rfl (am_ws_get hv) rfl g1 hd (fun H1 locs1 hP1 _ hS1 => ?_)
  refine kk p l e s m args below meth c D dA ad H1 locs1 ls C (am_ws_put hs ?_ (am_up_ne M a i (v : Int)) hP1) hS1 hl
  have e9 : va_up (fun j : Nat => some (ad (M a (j : Int)).toNat)) i.toNat (some (ad v)) = fun j : Nat => some (ad (am_up M a i (v : Int) a (j : Int)).toNat) := by
    funext j
    by_cases hj : j = i.toNat
    · subst hj
      have : ((i.toNat : Nat) : Int) = i := by omega
      simp [va_up, am_up, this]
    · have : ¬ (j : Int) = i := by omega
      simp [va_up, am_up, this, hj]
  rw [g2, e9]
  rfl
theorem aw_alen {a n : Nat} (hd : decode mm.2.1 pc = .ok (.arraylength, 1)) (hs : am_sh[a]? = some (.inl (0, n))) (kk : AW d mm (pc + 1) L (.inl (n : Int) :: st) M Q) : AW d mm pc L (.inr a :: st) M Q := by
  intro p l e s m args below meth c D dA ad H locs ls C hP hS hl
  obtain ⟨hx, hb, hr, hml, hlk, hown, hts, hK, hinj, hC⟩ := id C
  exact va_alen hx hb hK hP a 0 (am_ws_get hs) (ty := .int) rfl (am_ofNat n) hd (kk p l e s m args below meth c D dA ad H locs ls C hP hS hl)
/-- static rows of ints: SETTING_LOWEST, SETTING_HIGHEST -/
theorem aw_gets100 {idx : Nat} (hd : decode mm.2.1 pc = .ok (.getstatic idx, 3)) (hw : Cond.fieldLink mm.1.cls idx "FollowedPeaks" "SETTING_LOWEST" "[I" ∈ am_T) (kk : AW d mm (pc + 3) L (.inr 100 :: st) M Q) : AW d mm pc L st M Q := by
  intro p l e s m args below meth c D dA ad H locs ls C hP hS hl
  obtain ⟨hx, hb, hr, hml, hlk, hown, hts, hK, hinj, hC⟩ := id C
  exact va_gets hx hb hC.1.1 hS hown (hts _ (am_mem hw)) (fun _ h => h) hd (kk p l e s m args below meth c D dA ad H locs ls C hP hS hl)
theorem aw_gets101 {idx : Nat} (hd : decode mm.2.1 pc = .ok (.getstatic idx, 3)) (hw : Cond.fieldLink mm.1.cls idx "FollowedPeaks" "SETTING_HIGHEST" "[I" ∈ am_T) (kk : AW d mm (pc + 3) L (.inr 101 :: st) M Q) : AW d mm pc L st M Q := by
  intro p l e s m args below meth c D dA ad H locs ls C hP hS hl
  obtain ⟨hx, hb, hr, hml, hlk, hown, hts, hK, hinj, hC⟩ := id C
  exact va_gets hx hb hC.2.1.1 hS hown (hts _ (am_mem hw)) (fun _ h => h) hd (kk p l e s m args below meth c D dA ad H locs ls C hP hS hl)
theorem aw_gets102 (hcls : mm.1.cls = "FollowedPeaks$Scene") (hd : decode mm.2.1 pc = .ok (.getstatic 28, 3)) (kk : AW d mm (pc + 3) L (.inr 102 :: st) M Q) : AW d mm pc L st M Q := by
  intro p l e s m args below meth c D dA ad H locs ls C hP hS hl
  obtain ⟨hx, hb, hr, hml, hlk, hown, hts, hK, hinj, hC⟩ := id C
  rw [hcls] at hown
  exact va_getsN hx hb hC.2.2.1.1 hS hown (va_Nw.use rfl hC.2.2.2.1.1) (fun _ h => h) hd (kk p l e s m args below meth c D dA ad H locs ls C hP hS hl)
theorem aw_iald100 {i : Int} (hd : decode mm.2.1 pc = .ok (.iaload, 1)) (hi : 0 ≤ i ∧ i < 3) (kk : AW d mm (pc + 1) L (.inl (am_lo.getD i.toNat 0) :: st) M Q) : AW d mm pc L (.inl i :: .inr 100 :: st) M Q := by
  intro p l e s m args below meth c D dA ad H locs ls C hP hS hl
  obtain ⟨hx, hb, hr, hml, hlk, hown, hts, hK, hinj, hC⟩ := id C
  obtain ⟨g1, g2⟩ := am_in (n := 3) (by decide) hi
  exact va_ti hx hb hC.1.2 hS g1 (by rw [g2]; rfl) hd (kk p l e s m args below meth c D dA ad H locs ls C hP hS hl)
theorem aw_iald101 {i : Int} (hd : decode mm.2.1 pc = .ok (.iaload, 1)) (hi : 0 ≤ i ∧ i < 3) (kk : AW d mm (pc + 1) L (.inl (am_hi.getD i.toNat 0) :: st) M Q) : AW d mm pc L (.inl i :: .inr 101 :: st) M Q := by
  intro p l e s m args below meth c D dA ad H locs ls C hP hS hl
  obtain ⟨hx, hb, hr, hml, hlk, hown, hts, hK, hinj, hC⟩ := id C
  obtain ⟨g1, g2⟩ := am_in (n := 3) (by decide) hi
  exact va_ti hx hb hC.2.1.2 hS g1 (by rw [g2]; rfl) hd (kk p l e s m args below meth c D dA ad H locs ls C hP hS hl)
end AMM
