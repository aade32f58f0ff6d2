theorem d_LW_0 : DR code 0 (.new 7) 3 3 := ⟨by decide +kernel, rfl⟩
theorem d_LW_3 : DR code 3 (.dup) 1 4 := ⟨by decide +kernel, rfl⟩
theorem d_LW_4 : DR code 4 (.invokespecial 9) 3 7 := ⟨by decide +kernel, rfl⟩
theorem d_LW_8 : DR code 8 (.new 10) 3 11 := ⟨by decide +kernel, rfl⟩
theorem d_LW_11 : DR code 11 (.dup) 1 12 := ⟨by decide +kernel, rfl⟩
theorem d_LW_12 : DR code 12 (.invokespecial 12) 3 15 := ⟨by decide +kernel, rfl⟩
theorem d_LW_7 : DR code 7 (.astore_n 1) 1 8 := ⟨by decide +kernel, rfl⟩
theorem d_LW_15 : DR code 15 (.astore_n 2) 1 16 := ⟨by decide +kernel, rfl⟩
theorem cl_LW_7 : Cond.classLink "AccusedChooseLaw" 7 R_AC ∈ tb := tb_mem 111 (by decide +kernel) (by decide +kernel)
theorem cl_LW_10 : Cond.classLink "AccusedChooseLaw" 10 R_MD ∈ tb := tb_mem 1021 (by decide +kernel) (by decide +kernel)
theorem mi_LW_9 : Cond.methodLink "AccusedChooseLaw" 9 y_AC_init ∈ tb := tb_mem 113 (by decide +kernel) (by decide +kernel)
theorem mi_LW_12 : Cond.methodLink "AccusedChooseLaw" 12 y_MD_init ∈ tb := tb_mem 1023 (by decide +kernel) (by decide +kernel)
def R_law : String := "AccusedChooseLaw"
def σ0 : St := (fun a j => if a = 58 ∧ j = 23 then 7 else 0, fun _ => 0)
def adr (q0 : Nat) (qs : Nat → Nat) (m0 : Nat) (ms : Nat → Nat) : Nat → Nat := fun i => if i = 0 then q0 else if i < 58 then qs (i - 1) else if i = 58 then m0 else ms (i - 59)
set_option maxRecDepth 100000 in
set_option maxHeartbeats 4000000 in
theorem w58 (ad : Nat → Nat) (σ : St) : ([some 59, some 60, some 61, some 62, some 63, some 64, some 65, some 66, some 67, none, none, some 68, some 69, some 70, some 71, none, none, none, some 72, none, none, none, none, none, some 73, some 74, none, some 75, some 76, some 77, some 78, some 79, some 80, none, some 81, none] : List (Option Nat)).mapIdx (fun k f => match f with | some j => Value.ref (ad j) | none => .int (σ.1 58 k)) = [.ref (ad 59), .ref (ad 60), .ref (ad 61), .ref (ad 62), .ref (ad 63), .ref (ad 64), .ref (ad 65), .ref (ad 66), .ref (ad 67), .int (σ.1 58 9), .int (σ.1 58 10), .ref (ad 68), .ref (ad 69), .ref (ad 70), .ref (ad 71), .int (σ.1 58 15), .int (σ.1 58 16), .int (σ.1 58 17), .ref (ad 72), .int (σ.1 58 19), .int (σ.1 58 20), .int (σ.1 58 21), .int (σ.1 58 22), .int (σ.1 58 23), .ref (ad 73), .ref (ad 74), .int (σ.1 58 26), .ref (ad 75), .ref (ad 76), .ref (ad 77), .ref (ad 78), .ref (ad 79), .ref (ad 80), .int (σ.1 58 33), .ref (ad 81), .int (σ.1 58 35)] := by
  apply List.ext_getElem?
  intro k
  rw [List.getElem?_mapIdx]
  match k with
  | 0 => rfl
  | 1 => rfl
  | 2 => rfl
  | 3 => rfl
  | 4 => rfl
  | 5 => rfl
  | 6 => rfl
  | 7 => rfl
  | 8 => rfl
  | 9 => rfl
  | 10 => rfl
  | 11 => rfl
  | 12 => rfl
  | 13 => rfl
  | 14 => rfl
  | 15 => rfl
  | 16 => rfl
  | 17 => rfl
  | 18 => rfl
  | 19 => rfl
  | 20 => rfl
  | 21 => rfl
  | 22 => rfl
  | 23 => rfl
  | 24 => rfl
  | 25 => rfl
  | 26 => rfl
  | 27 => rfl
  | 28 => rfl
  | 29 => rfl
  | 30 => rfl
  | 31 => rfl
  | 32 => rfl
  | 33 => rfl
  | 34 => rfl
  | 35 => rfl
  | k + 36 => rfl
set_option maxRecDepth 100000 in
set_option maxHeartbeats 4000000 in
theorem wld0 (cI cL : ClassId) (q0 : Nat) (qs : Nat → Nat) (m0 : Nat) (ms : Nat → Nat) : mk_AC cI cL q0 qs ++ mk_MD cI cL m0 ms = wld (adr q0 qs m0 ms) cI cL σ0 := by
  apply List.ext_getElem?
  intro k
  rw [wld, List.getElem?_mapIdx]
  match k with
  | 0 => rfl
  | 1 => rfl
  | 2 => rfl
  | 3 => rfl
  | 4 => rfl
  | 5 => rfl
  | 6 => rfl
  | 7 => rfl
  | 8 => rfl
  | 9 => rfl
  | 10 => rfl
  | 11 => rfl
  | 12 => rfl
  | 13 => rfl
  | 14 => rfl
  | 15 => rfl
  | 16 => rfl
  | 17 => rfl
  | 18 => rfl
  | 19 => rfl
  | 20 => rfl
  | 21 => rfl
  | 22 => rfl
  | 23 => rfl
  | 24 => rfl
  | 25 => rfl
  | 26 => rfl
  | 27 => rfl
  | 28 => rfl
  | 29 => rfl
  | 30 => rfl
  | 31 => rfl
  | 32 => rfl
  | 33 => rfl
  | 34 => rfl
  | 35 => rfl
  | 36 => rfl
  | 37 => rfl
  | 38 => rfl
  | 39 => rfl
  | 40 => rfl
  | 41 => rfl
  | 42 => rfl
  | 43 => rfl
  | 44 => rfl
  | 45 => rfl
  | 46 => rfl
  | 47 => rfl
  | 48 => rfl
  | 49 => rfl
  | 50 => rfl
  | 51 => rfl
  | 52 => rfl
  | 53 => rfl
  | 54 => rfl
  | 55 => rfl
  | 56 => rfl
  | 57 => rfl
  | 58 =>
    exact congrArg (fun z => (some (m0, Sum.inr (9, z)) : Option (Nat × va_E))) (w58 (adr q0 qs m0 ms) σ0).symm
  | 59 => rfl
  | 60 => rfl
  | 61 => rfl
  | 62 => rfl
  | 63 => rfl
  | 64 => rfl
  | 65 => rfl
  | 66 => rfl
  | 67 => rfl
  | 68 => rfl
  | 69 => rfl
  | 70 => rfl
  | 71 => rfl
  | 72 => rfl
  | 73 => rfl
  | 74 => rfl
  | 75 => rfl
  | 76 => rfl
  | 77 => rfl
  | 78 => rfl
  | 79 => rfl
  | 80 => rfl
  | 81 => rfl
  | k + 82 => rfl
theorem known_array {s : State} {a : Array Value} {ty : FieldType} (h : (Cond.arrayClass ty).before a s = true) (hn : ∀ C, ty ≠ .object C) : ∃ cA : ClassId, ArrOfT s cA ty ∧ va_RA s cA ty := by
  obtain ⟨cA, kA, comp, h1, h2, h3⟩ := Cond.arrayClass_spec h
  refine ⟨cA, fun n z => ⟨fun k h => (by cases h), kA, h2, comp, h3⟩, ?_⟩
  cases ty with
  | object C => exact absurd rfl (hn C)
  | _ => exact h1

def lw_Z (below : List Frame) (a : Array Value) (s : State) : State → Prop := fun t => ∃ o, t.status = .running ∧ Ended t below o ∧ (o = .returned (some (.int 1)) ∧ Framed s o t [] 600000 7302250)
set_option maxRecDepth 20000 in
set_option maxHeartbeats 4000000 in
theorem start_of {p : Program} {e : Env} {s : State} {m : MethodId} {below : List Frame} {meth : Method} {c : Code} (l : Launch) {b L : Nat} {xs : Nat → Int32} (hpure : ∃ σ', F_LW L xs σ0 = some (1, σ'))
    (hx : p.tables.exec = Jvm.exec) (hb : c.code = code) (hml : c.maxLocals = 4) (hown : s.vm.findClass R_law = some m.cls) (hts : ∀ w ∈ lw_tbl, w.before #[Value.ref b] s = true) (hX : va_X b L xs s s.heap) (hbl : b < s.heap.size)
    (hret : ∀ (pc : Nat) (H : Heap) (ls : Array Slot), decode code pc = .ok (.ireturn, 1) → W p l e room_1 s m #[Value.ref b] below meth c H [] 600000 7302250 (lw_Z below #[Value.ref b] s) (F0 m pc ls [.int 1])) :
    W p l e room_1 s m #[Value.ref b] below meth c s.heap [] 0 0 (lw_Z below #[Value.ref b] s) (entryFrame m ([Value.ref b] : List Value).toArray 4) := by
  have htb : ∀ w ∈ tb, w.before #[Value.ref b] s = true := fun w hw => hts w (List.mem_filter.mp hw).1
  obtain ⟨c0, i0, hKn0⟩ := u_known (C := R_LB) (T := T_LB) (N := 3) (n := 3) htb in_LB (htb _ yn_LB)
  obtain ⟨c1, i1, hKn1⟩ := u_known (C := R_LT) (T := T_LT) (N := 2) (n := 2) htb in_LT (htb _ yn_LT)
  obtain ⟨c2, i2, hKn2⟩ := u_known (C := R_MO) (T := T_MO) (N := 6) (n := 6) htb in_MO (htb _ yn_MO)
  obtain ⟨c3, i3, hKn3⟩ := u_known (C := R_NI) (T := T_NI) (N := 10) (n := 10) htb in_NI (htb _ yn_NI)
  obtain ⟨c4, i4, hKn4⟩ := u_known (C := R_OR) (T := T_OR) (N := 4) (n := 4) htb in_OR (htb _ yn_OR)
  obtain ⟨c5, i5, hKn5⟩ := u_known (C := R_PA) (T := T_PA) (N := 6) (n := 6) htb in_PA (htb _ yn_PA)
  obtain ⟨c6, i6, hKn6⟩ := u_known (C := R_PR) (T := T_PR) (N := 3) (n := 3) htb in_PR (htb _ yn_PR)
  obtain ⟨c7, i7, hKn7⟩ := u_known (C := R_TA) (T := T_TA) (N := 1) (n := 1) htb in_TA (htb _ yn_TA)
  obtain ⟨c8, i8, hKn8⟩ := u_known (C := R_AC) (T := T_AC) (N := 18) (n := 18) htb in_AC (htb _ yn_AC)
  obtain ⟨c9, i9, hKn9⟩ := u_known (C := R_MD) (T := T_MD) (N := 36) (n := 36) htb in_MD (htb _ yn_MD)
  obtain ⟨dC, dI, hKc⟩ : ∃ (dC : Nat → ClassId) (dI : Nat → Nat → Nat), ∀ (k : Nat) (q : vw_C), classes[k]? = some q → u_Kn s q.1 q.2.1 q.2.2 (dC k) (dI k) := by
    refine ⟨fun k => if k = 0 then c0 else if k = 1 then c1 else if k = 2 then c2 else if k = 3 then c3 else if k = 4 then c4 else if k = 5 then c5 else if k = 6 then c6 else if k = 7 then c7 else if k = 8 then c8 else c9, fun k => if k = 0 then i0 else if k = 1 then i1 else if k = 2 then i2 else if k = 3 then i3 else if k = 4 then i4 else if k = 5 then i5 else if k = 6 then i6 else if k = 7 then i7 else if k = 8 then i8 else i9, ?_⟩
    intro k q hq
    match k, hq with
    | 0, hq => cases hq; exact hKn0
    | 1, hq => cases hq; exact hKn1
    | 2, hq => cases hq; exact hKn2
    | 3, hq => cases hq; exact hKn3
    | 4, hq => cases hq; exact hKn4
    | 5, hq => cases hq; exact hKn5
    | 6, hq => cases hq; exact hKn6
    | 7, hq => cases hq; exact hKn7
    | 8, hq => cases hq; exact hKn8
    | 9, hq => cases hq; exact hKn9
    | k + 10, hq => simp [classes] at hq
  obtain ⟨cI, hI1, hI2⟩ := known_array (htb _ ac_int) (fun C h => by cases h)
  obtain ⟨cL, hL1, hL2⟩ := known_array (htb _ ac_long) (fun C h => by cases h)
  have hK : va_K (dC, dI) classes [(cI, .int), (cL, .long)] s := ⟨hKc, fun k q h => by
    match k, h with
    | 0, h => cases h; exact ⟨hI1, hI2⟩
    | 1, h => cases h; exact ⟨hL1, hL2⟩
    | k + 2, h => simp at h⟩
  have hN : NestOK s := fun q hq => va_Nw.of rfl (hts _ (nestQ_in q hq))
  have hl := lv_entry ([.ref b]) (n := 4) (Nat.le_of_ble_eq_true rfl)
  rw [lg_entry_eq]
  have hC : CW (p, l, e, room_1, s, m, #[Value.ref b], below, meth, c, lw_Z below #[Value.ref b] s, (dC, dI), fun _ => 0, cI, cL, (fun q => s.heap.size ≤ q), 4, 0, 0) "AccusedChooseLaw" code 4 30 82 12491 :=
    ⟨hx, hb, hml, rfl, hown, htb, hK, fun q h => h, Nat.le_of_ble_eq_true rfl, Nat.le_of_ble_eq_true rfl, Nat.le_of_ble_eq_true rfl, Nat.le_of_ble_eq_true rfl⟩
  have key : VW (p, l, e, room_1, s, m, #[Value.ref b], below, meth, c, lw_Z below #[Value.ref b] s, (dC, dI), fun _ => 0, cI, cL, (fun q => s.heap.size ≤ q), 4, 0, 0) 0 0 0 [(0, .ref b)] [] [] := by
    refine VW_new hC t_AC in_AC t_AC_ok cl_LW_7 yn_AC yi_AC.1 (ci := 8) rfl [.null, .null, .null, .null, .null, .null, .null, .null, .null, .null, .null, .null, .null, .null, .null, .null, .int 0, .int 0] (fun j hj => by rcases (show j = 0 ∨ j = 1 ∨ j = 2 ∨ j = 3 ∨ j = 4 ∨ j = 5 ∨ j = 6 ∨ j = 7 ∨ j = 8 ∨ j = 9 ∨ j = 10 ∨ j = 11 ∨ j = 12 ∨ j = 13 ∨ j = 14 ∨ j = 15 ∨ j = 16 ∨ j = 17 by omega) with rfl | rfl | rfl | rfl | rfl | rfl | rfl | rfl | rfl | rfl | rfl | rfl | rfl | rfl | rfl | rfl | rfl | rfl <;> rfl) (Nat.le_of_ble_eq_true rfl) (Nat.le_of_ble_eq_true rfl) d_LW_0 (fun q0 => ?_)
    show VW _ 1 18 3 _ _ [(q0, .inr (8, [.null, .null, .null, .null, .null, .null, .null, .null, .null, .null, .null, .null, .null, .null, .null, .null, .int 0, .int 0]))]
    refine VW_dup hC d_LW_3 rfl ?_
    refine VW_ctor hC (c_AC_init l (dC, dI) cI cL) yi_AC.1 mi_LW_9 yi_AC.2.1 yi_AC.2.2 rfl ⟨by decide +kernel, by decide +kernel, by decide +kernel⟩ (by decide) (Nat.le_of_ble_eq_true rfl) (Nat.le_of_ble_eq_true rfl) (Nat.le_of_ble_eq_true rfl) d_LW_4 [] rfl (fun qs => ?_)
    show VW _ 58 1858 7 _ _ ([] ++ mk_AC cI cL q0 qs)
    refine VW_astore hC d_LW_7 rfl [(0, .ref b)] rfl (by decide) ?_
    refine VW_new hC t_MD in_MD t_MD_ok cl_LW_10 yn_MD yi_MD.1 (ci := 9) rfl [.null, .null, .null, .null, .null, .null, .null, .null, .null, .int 0, .int 0, .null, .null, .null, .null, .int 0, .int 0, .int 0, .null, .int 0, .int 0, .int 0, .int 0, .int 0, .null, .null, .int 0, .null, .null, .null, .null, .null, .null, .int 0, .null, .int 0] (fun j hj => by rcases (show j = 0 ∨ j = 1 ∨ j = 2 ∨ j = 3 ∨ j = 4 ∨ j = 5 ∨ j = 6 ∨ j = 7 ∨ j = 8 ∨ j = 9 ∨ j = 10 ∨ j = 11 ∨ j = 12 ∨ j = 13 ∨ j = 14 ∨ j = 15 ∨ j = 16 ∨ j = 17 ∨ j = 18 ∨ j = 19 ∨ j = 20 ∨ j = 21 ∨ j = 22 ∨ j = 23 ∨ j = 24 ∨ j = 25 ∨ j = 26 ∨ j = 27 ∨ j = 28 ∨ j = 29 ∨ j = 30 ∨ j = 31 ∨ j = 32 ∨ j = 33 ∨ j = 34 ∨ j = 35 by omega) with rfl | rfl | rfl | rfl | rfl | rfl | rfl | rfl | rfl | rfl | rfl | rfl | rfl | rfl | rfl | rfl | rfl | rfl | rfl | rfl | rfl | rfl | rfl | rfl | rfl | rfl | rfl | rfl | rfl | rfl | rfl | rfl | rfl | rfl | rfl | rfl <;> rfl) (Nat.le_of_ble_eq_true rfl) (Nat.le_of_ble_eq_true rfl) d_LW_8 (fun m0 => ?_)
    show VW _ 59 1894 11 _ _ (([] ++ mk_AC cI cL q0 qs) ++ [(m0, .inr (9, [.null, .null, .null, .null, .null, .null, .null, .null, .null, .int 0, .int 0, .null, .null, .null, .null, .int 0, .int 0, .int 0, .null, .int 0, .int 0, .int 0, .int 0, .int 0, .null, .null, .int 0, .null, .null, .null, .null, .null, .null, .int 0, .null, .int 0]))])
    refine VW_dup hC d_LW_11 rfl ?_
    refine VW_ctor hC (c_MD_init l (dC, dI) cI cL) yi_MD.1 mi_LW_12 yi_MD.2.1 yi_MD.2.2 rfl ⟨by decide +kernel, by decide +kernel, by decide +kernel⟩ (by decide) (Nat.le_of_ble_eq_true rfl) (Nat.le_of_ble_eq_true rfl) (Nat.le_of_ble_eq_true rfl) d_LW_12 ([] ++ mk_AC cI cL q0 qs) rfl (fun ms => ?_)
    show VW _ 82 12491 15 _ _ (([] ++ mk_AC cI cL q0 qs) ++ mk_MD cI cL m0 ms)
    refine VW_astore hC d_LW_15 rfl [(1, .ref q0), (0, .ref b)] rfl (by decide) ?_
    intro H locs ls hP hD hS hl
    rw [List.nil_append] at hP hD
    have hw := wld0 cI cL q0 qs m0 ms
    have hP' : va_P (dC, dI) classes (mk_AC cI cL q0 qs ++ mk_MD cI cL m0 ms) H := hP
    have hD' : va_D (fun q => s.heap.size ≤ q) (mk_AC cI cL q0 qs ++ mk_MD cI cL m0 ms) := hD
    rw [hw] at hP' hD'
    have hat : ∀ i, i < NC → ∃ z, (wld (adr q0 qs m0 ms) cI cL σ0)[i]? = some (adr q0 qs m0 ms i, z) := fun i hi => by
      have hi' : i < shp.length := by rw [shp_len]; exact hi
      exact ⟨_, wld_at (List.getElem?_eq_getElem hi')⟩
    have hC2 : C0 (p, l, e, room_1, s, m, #[Value.ref b], below, meth, c, lw_Z below #[Value.ref b] s, (dC, dI), adr q0 qs m0 ms, cI, cL, (fun q => s.heap.size ≤ q), 4, 82, 12491) "AccusedChooseLaw" code 4 27 := by
      refine ⟨hx, hb, hml, rfl, hown, htb, hK, hN, fun i j hi hj hij => ?_, fun q hq => ?_, Nat.le_of_ble_eq_true rfl, Nat.le_of_ble_eq_true rfl, Nat.le_of_ble_eq_true rfl, Nat.le_of_ble_eq_true rfl⟩
      · obtain ⟨z1, h1⟩ := hat i hi
        obtain ⟨z2, h2⟩ := hat j hj
        exact hD'.1 i j _ _ h1 h2 hij
      · obtain ⟨i, hi, rfl⟩ := hq
        obtain ⟨z1, h1⟩ := hat i hi
        exact hD'.2 i _ h1
    obtain ⟨σ', hF⟩ := hpure
    have hlv : lv_has ls 4 [(0, .ref b), (1, .ref (adr q0 qs m0 ms 0)), (2, .ref (adr q0 qs m0 ms 58))] := lv_sub hl [2, 1, 0] rfl
    have hR : RZ (p, l, e, room_1, s, m, #[Value.ref b], below, meth, c, lw_Z below #[Value.ref b] s, (dC, dI), adr q0 qs m0 ms, cI, cL, (fun q => s.heap.size ≤ q), 4, 82, 12491) code (1, σ') := by
      intro _ pc pn lv hd H2 locs2 ls2 hP2 hS2 hl2
      exact W.widen (k := 600000) (n := 7302250) (Nat.le_of_ble_eq_true rfl) (Nat.le_of_ble_eq_true rfl) (va_forget hS2.2.2 (hret pc H2 ls2 hd.1))
    exact B_LW hC2 (b := b) (L := L) (xs := xs) hX hbl (Nat.not_le.mpr hbl) σ0 (1, σ') hF hR H locs ls hP' hS hlv
  exact key s.heap [] _ (fun k q h => by simp at h) ⟨fun i j p q h => by simp at h, fun k q h => by simp at h⟩ va_S.rf hl
