theorem d_AC_power_0 : DR b_AC_power 0 (.lconst 1) 1 1 := ⟨by decide +kernel, rfl⟩
theorem d_AC_power_1 : PSl b_AC_power 1 2 2 := Or.inl ⟨2, by decide +kernel, rfl, rfl⟩
theorem d_AC_power_2 : PCi b_AC_power 2 0 3 := Or.inl ⟨0, by decide +kernel, by decide, rfl⟩
theorem d_AC_power_3 : PSi b_AC_power 3 4 5 := Or.inr ⟨by decide +kernel, rfl⟩
theorem d_AC_power_5 : PLi b_AC_power 5 4 7 := Or.inr ⟨by decide +kernel, rfl⟩
theorem d_AC_power_7 : PLi b_AC_power 7 1 8 := Or.inl ⟨1, by decide +kernel, rfl, rfl⟩
theorem d_AC_power_8 : DJ b_AC_power 8 (.if_icmp .ge) 11 22 := ⟨14, by decide +kernel, rfl, by decide⟩
theorem d_AC_power_11 : PLl b_AC_power 11 2 12 := Or.inl ⟨2, by decide +kernel, rfl, rfl⟩
theorem d_AC_power_12 : PLi b_AC_power 12 0 13 := Or.inl ⟨0, by decide +kernel, rfl, rfl⟩
theorem d_AC_power_13 : DR b_AC_power 13 (.i2l) 1 14 := ⟨by decide +kernel, rfl⟩
theorem d_AC_power_14 : DR b_AC_power 14 (.lmul) 1 15 := ⟨by decide +kernel, rfl⟩
theorem d_AC_power_15 : PSl b_AC_power 15 2 16 := Or.inl ⟨2, by decide +kernel, rfl, rfl⟩
theorem d_AC_power_16 : DR b_AC_power 16 (.iinc 4 1) 3 19 := ⟨by decide +kernel, rfl⟩
theorem d_AC_power_19 : DJ b_AC_power 19 .goto 22 5 := ⟨-14, by decide +kernel, rfl, by decide⟩
theorem d_AC_power_22 : PLl b_AC_power 22 2 23 := Or.inl ⟨2, by decide +kernel, rfl, rfl⟩
theorem d_AC_power_23 : DR b_AC_power 23 (.lreturn) 1 24 := ⟨by decide +kernel, rfl⟩
set_option maxRecDepth 20000 in
theorem BH_AC_power_5 {G : MCx} (hC : C0 G "AccusedChoose" b_AC_power 5 1) {v0 : Int32} {v1 : Int32} (K5 : Int64 × Int32 × St → Option (Int64 × St)) (hK5 : ∀ (w2 : Int64) (w4 : Int32) (s : St), VO G (RLo G b_AC_power) (K5 (w2, w4, s)) 5 [(0, .int v0), (1, .int v1), (2, .long w2), (4, .int w4)] [] s) (v2 : Int64) (v4 : Int32) (s : St) : VO G (RLo G b_AC_power) (H_AC_power_5 v0 v1 K5 v2 v4 s) 5 [(0, .int v0), (1, .int v1), (2, .long v2), (4, .int v4)] [] s := by
  unfold H_AC_power_5
  refine VO_iload hC d_AC_power_5 3 rfl ?_
  refine VO_iload hC d_AC_power_7 1 rfl ?_
  refine VO_icmp_ge hC d_AC_power_8 (fun _ => ?_) (fun _ => ?_)
  · refine VO_lload hC d_AC_power_22 2 rfl ?_
    exact VO_lreturn d_AC_power_23
  · refine VO_lload hC d_AC_power_11 2 rfl ?_
    refine VO_iload hC d_AC_power_12 0 rfl ?_
    refine VO_i2l hC d_AC_power_13 ?_
    refine VO_lmul hC d_AC_power_14 ?_
    refine VO_lstoreB hC d_AC_power_15 [(0, .int v0), (1, .int v1), (4, .int v4)] rfl (by decide) (fun x1 => ?_)
    refine VO_iinc hC d_AC_power_16 3 rfl (by decide : Int32.ofInt 1 = 1) [(2, .long x1), (0, .int v0), (1, .int v1)] rfl (by decide) ?_
    refine VO_goto hC d_AC_power_19 ?_
    exact VO_sub [2, 3, 1, 0] rfl (hK5 x1 (v4 + 1) s)
set_option maxRecDepth 20000 in
theorem B_AC_power_5 {G : MCx} (hC : C0 G "AccusedChoose" b_AC_power 5 1) (v0 : Int32) (v1 : Int32) (v2 : Int64) (v4 : Int32) (s : St) : VO G (RLo G b_AC_power) (F_AC_power_5 v0 v1 v2 v4 s) 5 [(0, .int v0), (1, .int v1), (2, .long v2), (4, .int v4)] [] s := by
  exact VO_fix (G_AC_power_5 v0 v1) 5 (fun q => [(0, .int v0), (1, .int v1), (2, .long q.1), (4, .int q.2.1)]) (fun q => q.2.2) (fun K hK q => BH_AC_power_5 hC K (fun w2 w4 s => hK (w2, w4, s)) q.1 q.2.1 q.2.2) FUEL (v2, v4, s)
set_option maxRecDepth 20000 in
theorem B_AC_power {G : MCx} (hC : C0 G "AccusedChoose" b_AC_power 5 1) (a0 : Int32) (a1 : Int32) (s : St) : VO G (RLo G b_AC_power) (F_AC_power a0 a1 s) 0 [(0, .int a0), (1, .int a1)] [] s := by
  unfold F_AC_power
  refine VO_lconst hC d_AC_power_0 rfl ?_
  refine VO_lstore hC d_AC_power_1 [(0, .int a0), (1, .int a1)] rfl (by decide) ?_
  refine VO_const hC d_AC_power_2 ?_
  refine VO_istore hC d_AC_power_3 [(2, .long (1 : Int64)), (0, .int a0), (1, .int a1)] rfl (by decide) ?_
  exact VO_sub [2, 3, 1, 0] rfl (B_AC_power_5 hC a0 a1 (1 : Int64) (0 : Int32) s)
set_option maxRecDepth 20000 in
theorem M_AC_power {l : Launch} {D : va_G} {ad : Nat → Nat} {cI cL : ClassId} (hj : Inj ad) {a0 : Int32} {a1 : Int32} {s : St} {o : Int64 × St} (h : F_AC_power a0 a1 s = some o) : Cn l D ad cI cL y_AC_power b_AC_power 5 (some .long) 1 [.int a0, .int a1] s (some (.long o.1)) o.2 := by
  refine Cn_ofL hj (plainFor_of_name (by decide)) (Nat.le_of_ble_eq_true rfl) [(0, .int a0), (1, .int a1)] rfl (fun G hC e1 e2 e3 e4 e5 hR => ?_)
  subst e1; subst e2; subst e3; subst e4; subst e5
  exact B_AC_power hC a0 a1 s o h hR
theorem d_AC_waysToBeCaught_0 : PLi b_AC_waysToBeCaught 0 1 1 := Or.inl ⟨1, by decide +kernel, rfl, rfl⟩
theorem d_AC_waysToBeCaught_1 : PLi b_AC_waysToBeCaught 1 0 2 := Or.inl ⟨0, by decide +kernel, rfl, rfl⟩
theorem d_AC_waysToBeCaught_2 : DJ b_AC_waysToBeCaught 2 (.if_icmp .le) 5 7 := ⟨5, by decide +kernel, rfl, by decide⟩
theorem d_AC_waysToBeCaught_5 : DR b_AC_waysToBeCaught 5 (.lconst 0) 1 6 := ⟨by decide +kernel, rfl⟩
theorem d_AC_waysToBeCaught_6 : DR b_AC_waysToBeCaught 6 (.lreturn) 1 7 := ⟨by decide +kernel, rfl⟩
theorem d_AC_waysToBeCaught_7 : DR b_AC_waysToBeCaught 7 (.lconst 1) 1 8 := ⟨by decide +kernel, rfl⟩
theorem d_AC_waysToBeCaught_8 : PSl b_AC_waysToBeCaught 8 3 9 := Or.inl ⟨3, by decide +kernel, rfl, rfl⟩
theorem d_AC_waysToBeCaught_9 : PCi b_AC_waysToBeCaught 9 1 10 := Or.inl ⟨1, by decide +kernel, by decide, rfl⟩
theorem d_AC_waysToBeCaught_10 : PSi b_AC_waysToBeCaught 10 5 12 := Or.inr ⟨by decide +kernel, rfl⟩
theorem d_AC_waysToBeCaught_12 : PLi b_AC_waysToBeCaught 12 5 14 := Or.inr ⟨by decide +kernel, rfl⟩
theorem d_AC_waysToBeCaught_14 : PLi b_AC_waysToBeCaught 14 1 15 := Or.inl ⟨1, by decide +kernel, rfl, rfl⟩
theorem d_AC_waysToBeCaught_15 : DJ b_AC_waysToBeCaught 15 (.if_icmp .gt) 18 38 := ⟨23, by decide +kernel, rfl, by decide⟩
theorem d_AC_waysToBeCaught_18 : PLl b_AC_waysToBeCaught 18 3 19 := Or.inl ⟨3, by decide +kernel, rfl, rfl⟩
theorem d_AC_waysToBeCaught_19 : PLi b_AC_waysToBeCaught 19 0 20 := Or.inl ⟨0, by decide +kernel, rfl, rfl⟩
theorem d_AC_waysToBeCaught_20 : PLi b_AC_waysToBeCaught 20 1 21 := Or.inl ⟨1, by decide +kernel, rfl, rfl⟩
theorem d_AC_waysToBeCaught_21 : DR b_AC_waysToBeCaught 21 (.isub) 1 22 := ⟨by decide +kernel, rfl⟩
theorem d_AC_waysToBeCaught_22 : PLi b_AC_waysToBeCaught 22 5 24 := Or.inr ⟨by decide +kernel, rfl⟩
theorem d_AC_waysToBeCaught_24 : DR b_AC_waysToBeCaught 24 (.iadd) 1 25 := ⟨by decide +kernel, rfl⟩
theorem d_AC_waysToBeCaught_25 : DR b_AC_waysToBeCaught 25 (.i2l) 1 26 := ⟨by decide +kernel, rfl⟩
theorem d_AC_waysToBeCaught_26 : DR b_AC_waysToBeCaught 26 (.lmul) 1 27 := ⟨by decide +kernel, rfl⟩
theorem d_AC_waysToBeCaught_27 : PLi b_AC_waysToBeCaught 27 5 29 := Or.inr ⟨by decide +kernel, rfl⟩
theorem d_AC_waysToBeCaught_29 : DR b_AC_waysToBeCaught 29 (.i2l) 1 30 := ⟨by decide +kernel, rfl⟩
theorem d_AC_waysToBeCaught_30 : DR b_AC_waysToBeCaught 30 (.ldiv) 1 31 := ⟨by decide +kernel, rfl⟩
theorem d_AC_waysToBeCaught_31 : PSl b_AC_waysToBeCaught 31 3 32 := Or.inl ⟨3, by decide +kernel, rfl, rfl⟩
theorem d_AC_waysToBeCaught_32 : DR b_AC_waysToBeCaught 32 (.iinc 5 1) 3 35 := ⟨by decide +kernel, rfl⟩
theorem d_AC_waysToBeCaught_35 : DJ b_AC_waysToBeCaught 35 .goto 38 12 := ⟨-23, by decide +kernel, rfl, by decide⟩
theorem d_AC_waysToBeCaught_38 : PLl b_AC_waysToBeCaught 38 3 39 := Or.inl ⟨3, by decide +kernel, rfl, rfl⟩
theorem d_AC_waysToBeCaught_39 : PLi b_AC_waysToBeCaught 39 2 40 := Or.inl ⟨2, by decide +kernel, rfl, rfl⟩
theorem d_AC_waysToBeCaught_40 : PCi b_AC_waysToBeCaught 40 1 41 := Or.inl ⟨1, by decide +kernel, by decide, rfl⟩
theorem d_AC_waysToBeCaught_41 : DR b_AC_waysToBeCaught 41 (.isub) 1 42 := ⟨by decide +kernel, rfl⟩
theorem d_AC_waysToBeCaught_42 : PLi b_AC_waysToBeCaught 42 0 43 := Or.inl ⟨0, by decide +kernel, rfl, rfl⟩
theorem d_AC_waysToBeCaught_43 : PLi b_AC_waysToBeCaught 43 1 44 := Or.inl ⟨1, by decide +kernel, rfl, rfl⟩
theorem d_AC_waysToBeCaught_44 : DR b_AC_waysToBeCaught 44 (.isub) 1 45 := ⟨by decide +kernel, rfl⟩
theorem d_AC_waysToBeCaught_45 : DR b_AC_waysToBeCaught 45 (.invokestatic 294) 3 48 := ⟨by decide +kernel, rfl⟩
theorem d_AC_waysToBeCaught_48 : DR b_AC_waysToBeCaught 48 (.lmul) 1 49 := ⟨by decide +kernel, rfl⟩
theorem d_AC_waysToBeCaught_49 : DR b_AC_waysToBeCaught 49 (.lreturn) 1 50 := ⟨by decide +kernel, rfl⟩
set_option maxRecDepth 20000 in
theorem BH_AC_waysToBeCaught_12 {G : MCx} (hC : C0 G "AccusedChoose" b_AC_waysToBeCaught 6 2) {v0 : Int32} {v1 : Int32} {v2 : Int32} (K12 : Int64 × Int32 × St → Option (Int64 × St)) (hK12 : ∀ (w3 : Int64) (w5 : Int32) (s : St), VO G (RLo G b_AC_waysToBeCaught) (K12 (w3, w5, s)) 12 [(0, .int v0), (1, .int v1), (2, .int v2), (3, .long w3), (5, .int w5)] [] s) (v3 : Int64) (v5 : Int32) (s : St) : VO G (RLo G b_AC_waysToBeCaught) (H_AC_waysToBeCaught_12 v0 v1 v2 K12 v3 v5 s) 12 [(0, .int v0), (1, .int v1), (2, .int v2), (3, .long v3), (5, .int v5)] [] s := by
  unfold H_AC_waysToBeCaught_12
  refine VO_iload hC d_AC_waysToBeCaught_12 4 rfl ?_
  refine VO_iload hC d_AC_waysToBeCaught_14 1 rfl ?_
  refine VO_icmp_gt hC d_AC_waysToBeCaught_15 (fun _ => ?_) (fun _ => ?_)
  · refine VO_lload hC d_AC_waysToBeCaught_38 3 rfl ?_
    refine VO_iload hC d_AC_waysToBeCaught_39 2 rfl ?_
    refine VO_const hC d_AC_waysToBeCaught_40 ?_
    refine VO_isub hC d_AC_waysToBeCaught_41 ?_
    refine VO_iload hC d_AC_waysToBeCaught_42 0 rfl ?_
    refine VO_iload hC d_AC_waysToBeCaught_43 1 rfl ?_
    refine VO_isub hC d_AC_waysToBeCaught_44 ?_
    refine VO_callSL hC [.int (v2 - (1 : Int32)), .int (v0 - v1)] [.long v3] ml_AC_294 d_AC_waysToBeCaught_45 ys_AC_power (fun o h => M_AC_power hC.inj h) (by decide) rfl rfl (Nat.le_of_ble_eq_true rfl) (fun o1 => ?_)
    refine VO_lmul hC d_AC_waysToBeCaught_48 ?_
    exact VO_lreturn d_AC_waysToBeCaught_49
  · refine VO_lload hC d_AC_waysToBeCaught_18 3 rfl ?_
    refine VO_iload hC d_AC_waysToBeCaught_19 0 rfl ?_
    refine VO_iload hC d_AC_waysToBeCaught_20 1 rfl ?_
    refine VO_isub hC d_AC_waysToBeCaught_21 ?_
    refine VO_iload hC d_AC_waysToBeCaught_22 4 rfl ?_
    refine VO_iadd hC d_AC_waysToBeCaught_24 ?_
    refine VO_i2l hC d_AC_waysToBeCaught_25 ?_
    refine VO_lmul hC d_AC_waysToBeCaught_26 ?_
    refine VO_iload hC d_AC_waysToBeCaught_27 4 rfl ?_
    refine VO_i2l hC d_AC_waysToBeCaught_29 ?_
    refine VO_ldiv hC d_AC_waysToBeCaught_30 ?_
    refine VO_lstoreB hC d_AC_waysToBeCaught_31 [(0, .int v0), (1, .int v1), (2, .int v2), (5, .int v5)] rfl (by decide) (fun x2 => ?_)
    refine VO_iinc hC d_AC_waysToBeCaught_32 4 rfl (by decide : Int32.ofInt 1 = 1) [(3, .long x2), (0, .int v0), (1, .int v1), (2, .int v2)] rfl (by decide) ?_
    refine VO_goto hC d_AC_waysToBeCaught_35 ?_
    exact VO_sub [2, 3, 4, 1, 0] rfl (hK12 x2 (v5 + 1) s)
set_option maxRecDepth 20000 in
theorem B_AC_waysToBeCaught_12 {G : MCx} (hC : C0 G "AccusedChoose" b_AC_waysToBeCaught 6 2) (v0 : Int32) (v1 : Int32) (v2 : Int32) (v3 : Int64) (v5 : Int32) (s : St) : VO G (RLo G b_AC_waysToBeCaught) (F_AC_waysToBeCaught_12 v0 v1 v2 v3 v5 s) 12 [(0, .int v0), (1, .int v1), (2, .int v2), (3, .long v3), (5, .int v5)] [] s := by
  exact VO_fix (G_AC_waysToBeCaught_12 v0 v1 v2) 12 (fun q => [(0, .int v0), (1, .int v1), (2, .int v2), (3, .long q.1), (5, .int q.2.1)]) (fun q => q.2.2) (fun K hK q => BH_AC_waysToBeCaught_12 hC K (fun w3 w5 s => hK (w3, w5, s)) q.1 q.2.1 q.2.2) FUEL (v3, v5, s)
set_option maxRecDepth 20000 in
theorem B_AC_waysToBeCaught {G : MCx} (hC : C0 G "AccusedChoose" b_AC_waysToBeCaught 6 2) (a0 : Int32) (a1 : Int32) (a2 : Int32) (s : St) : VO G (RLo G b_AC_waysToBeCaught) (F_AC_waysToBeCaught a0 a1 a2 s) 0 [(0, .int a0), (1, .int a1), (2, .int a2)] [] s := by
  unfold F_AC_waysToBeCaught
  refine VO_iload hC d_AC_waysToBeCaught_0 1 rfl ?_
  refine VO_iload hC d_AC_waysToBeCaught_1 0 rfl ?_
  refine VO_icmp_le hC d_AC_waysToBeCaught_2 (fun _ => ?_) (fun _ => ?_)
  · refine VO_lconst hC d_AC_waysToBeCaught_7 rfl ?_
    refine VO_lstore hC d_AC_waysToBeCaught_8 [(0, .int a0), (1, .int a1), (2, .int a2)] rfl (by decide) ?_
    refine VO_const hC d_AC_waysToBeCaught_9 ?_
    refine VO_istore hC d_AC_waysToBeCaught_10 [(3, .long (1 : Int64)), (0, .int a0), (1, .int a1), (2, .int a2)] rfl (by decide) ?_
    exact VO_sub [2, 3, 4, 1, 0] rfl (B_AC_waysToBeCaught_12 hC a0 a1 a2 (1 : Int64) (1 : Int32) s)
  · refine VO_lconst hC d_AC_waysToBeCaught_5 rfl ?_
    exact VO_lreturn d_AC_waysToBeCaught_6
set_option maxRecDepth 20000 in
theorem M_AC_waysToBeCaught {l : Launch} {D : va_G} {ad : Nat → Nat} {cI cL : ClassId} (hj : Inj ad) {a0 : Int32} {a1 : Int32} {a2 : Int32} {s : St} {o : Int64 × St} (h : F_AC_waysToBeCaught a0 a1 a2 s = some o) : Cn l D ad cI cL y_AC_waysToBeCaught b_AC_waysToBeCaught 6 (some .long) 2 [.int a0, .int a1, .int a2] s (some (.long o.1)) o.2 := by
  refine Cn_ofL hj (plainFor_of_name (by decide)) (Nat.le_of_ble_eq_true rfl) [(0, .int a0), (1, .int a1), (2, .int a2)] rfl (fun G hC e1 e2 e3 e4 e5 hR => ?_)
  subst e1; subst e2; subst e3; subst e4; subst e5
  exact B_AC_waysToBeCaught hC a0 a1 a2 s o h hR
theorem d_AC_commonDivisor_0 : PLl b_AC_commonDivisor 0 2 1 := Or.inl ⟨2, by decide +kernel, rfl, rfl⟩
theorem d_AC_commonDivisor_1 : PSl b_AC_commonDivisor 1 4 3 := Or.inr ⟨by decide +kernel, rfl⟩
theorem d_AC_commonDivisor_3 : PLl b_AC_commonDivisor 3 0 4 := Or.inl ⟨0, by decide +kernel, rfl, rfl⟩
theorem d_AC_commonDivisor_4 : PSl b_AC_commonDivisor 4 6 6 := Or.inr ⟨by decide +kernel, rfl⟩
theorem d_AC_commonDivisor_6 : PCi b_AC_commonDivisor 6 0 7 := Or.inl ⟨0, by decide +kernel, by decide, rfl⟩
theorem d_AC_commonDivisor_7 : PSi b_AC_commonDivisor 7 8 9 := Or.inr ⟨by decide +kernel, rfl⟩
theorem d_AC_commonDivisor_9 : PLi b_AC_commonDivisor 9 8 11 := Or.inr ⟨by decide +kernel, rfl⟩
theorem d_AC_commonDivisor_11 : PCi b_AC_commonDivisor 11 128 14 := Or.inr (Or.inr ⟨128, by decide +kernel, by decide, rfl⟩)
theorem d_AC_commonDivisor_14 : DJ b_AC_commonDivisor 14 (.if_icmp .ge) 17 45 := ⟨31, by decide +kernel, rfl, by decide⟩
theorem d_AC_commonDivisor_17 : PLl b_AC_commonDivisor 17 6 19 := Or.inr ⟨by decide +kernel, rfl⟩
theorem d_AC_commonDivisor_19 : DR b_AC_commonDivisor 19 (.lconst 0) 1 20 := ⟨by decide +kernel, rfl⟩
theorem d_AC_commonDivisor_20 : DR b_AC_commonDivisor 20 (.lcmp) 1 21 := ⟨by decide +kernel, rfl⟩
theorem d_AC_commonDivisor_21 : DJ b_AC_commonDivisor 21 (.ifCond .le) 24 45 := ⟨24, by decide +kernel, rfl, by decide⟩
theorem d_AC_commonDivisor_24 : PLl b_AC_commonDivisor 24 4 26 := Or.inr ⟨by decide +kernel, rfl⟩
theorem d_AC_commonDivisor_26 : PLl b_AC_commonDivisor 26 6 28 := Or.inr ⟨by decide +kernel, rfl⟩
theorem d_AC_commonDivisor_28 : DR b_AC_commonDivisor 28 (.lrem) 1 29 := ⟨by decide +kernel, rfl⟩
theorem d_AC_commonDivisor_29 : PSl b_AC_commonDivisor 29 9 31 := Or.inr ⟨by decide +kernel, rfl⟩
theorem d_AC_commonDivisor_31 : PLl b_AC_commonDivisor 31 6 33 := Or.inr ⟨by decide +kernel, rfl⟩
theorem d_AC_commonDivisor_33 : PSl b_AC_commonDivisor 33 4 35 := Or.inr ⟨by decide +kernel, rfl⟩
theorem d_AC_commonDivisor_35 : PLl b_AC_commonDivisor 35 9 37 := Or.inr ⟨by decide +kernel, rfl⟩
theorem d_AC_commonDivisor_37 : PSl b_AC_commonDivisor 37 6 39 := Or.inr ⟨by decide +kernel, rfl⟩
theorem d_AC_commonDivisor_39 : DR b_AC_commonDivisor 39 (.iinc 8 1) 3 42 := ⟨by decide +kernel, rfl⟩
theorem d_AC_commonDivisor_42 : DJ b_AC_commonDivisor 42 .goto 45 9 := ⟨-33, by decide +kernel, rfl, by decide⟩
theorem d_AC_commonDivisor_45 : PLl b_AC_commonDivisor 45 4 47 := Or.inr ⟨by decide +kernel, rfl⟩
theorem d_AC_commonDivisor_47 : DR b_AC_commonDivisor 47 (.lreturn) 1 48 := ⟨by decide +kernel, rfl⟩
set_option maxRecDepth 20000 in
theorem BH_AC_commonDivisor_9 {G : MCx} (hC : C0 G "AccusedChoose" b_AC_commonDivisor 11 1) (K9 : Int64 × Int64 × Int32 × St → Option (Int64 × St)) (hK9 : ∀ (w4 : Int64) (w6 : Int64) (w8 : Int32) (s : St), VO G (RLo G b_AC_commonDivisor) (K9 (w4, w6, w8, s)) 9 [(4, .long w4), (6, .long w6), (8, .int w8)] [] s) (v4 : Int64) (v6 : Int64) (v8 : Int32) (s : St) : VO G (RLo G b_AC_commonDivisor) (H_AC_commonDivisor_9 K9 v4 v6 v8 s) 9 [(4, .long v4), (6, .long v6), (8, .int v8)] [] s := by
  unfold H_AC_commonDivisor_9
  refine VO_iload hC d_AC_commonDivisor_9 2 rfl ?_
  refine VO_const hC d_AC_commonDivisor_11 ?_
  refine VO_icmp_ge hC d_AC_commonDivisor_14 (fun _ => ?_) (fun _ => ?_)
  · refine VO_lload hC d_AC_commonDivisor_45 0 rfl ?_
    exact VO_lreturn d_AC_commonDivisor_47
  · refine VO_lload hC d_AC_commonDivisor_17 1 rfl ?_
    refine VO_lconst hC d_AC_commonDivisor_19 rfl ?_
    refine VO_lcmp hC d_AC_commonDivisor_20 ?_
    refine VO_if_le hC d_AC_commonDivisor_21 (fun _ => ?_) (fun _ => ?_)
    · refine VO_lload hC d_AC_commonDivisor_45 0 rfl ?_
      exact VO_lreturn d_AC_commonDivisor_47
    · refine VO_lload hC d_AC_commonDivisor_24 0 rfl ?_
      refine VO_lload hC d_AC_commonDivisor_26 1 rfl ?_
      refine VO_lrem hC d_AC_commonDivisor_28 ?_
      refine VO_lstoreB hC d_AC_commonDivisor_29 [(4, .long v4), (6, .long v6), (8, .int v8)] rfl (by decide) (fun x1 => ?_)
      refine VO_lload hC d_AC_commonDivisor_31 2 rfl ?_
      refine VO_lstore hC d_AC_commonDivisor_33 [(9, .long x1), (6, .long v6), (8, .int v8)] rfl (by decide) ?_
      refine VO_lload hC d_AC_commonDivisor_35 1 rfl ?_
      refine VO_lstore hC d_AC_commonDivisor_37 [(4, .long v6), (9, .long x1), (8, .int v8)] rfl (by decide) ?_
      refine VO_iinc hC d_AC_commonDivisor_39 3 rfl (by decide : Int32.ofInt 1 = 1) [(6, .long x1), (4, .long v6), (9, .long x1)] rfl (by decide) ?_
      refine VO_goto hC d_AC_commonDivisor_42 ?_
      exact VO_sub [2, 1, 0] rfl (hK9 v6 x1 (v8 + 1) s)
set_option maxRecDepth 20000 in
theorem B_AC_commonDivisor_9 {G : MCx} (hC : C0 G "AccusedChoose" b_AC_commonDivisor 11 1) (v4 : Int64) (v6 : Int64) (v8 : Int32) (s : St) : VO G (RLo G b_AC_commonDivisor) (F_AC_commonDivisor_9 v4 v6 v8 s) 9 [(4, .long v4), (6, .long v6), (8, .int v8)] [] s := by
  exact VO_fix (G_AC_commonDivisor_9) 9 (fun q => [(4, .long q.1), (6, .long q.2.1), (8, .int q.2.2.1)]) (fun q => q.2.2.2) (fun K hK q => BH_AC_commonDivisor_9 hC K (fun w4 w6 w8 s => hK (w4, w6, w8, s)) q.1 q.2.1 q.2.2.1 q.2.2.2) FUEL (v4, v6, v8, s)
set_option maxRecDepth 20000 in
theorem B_AC_commonDivisor {G : MCx} (hC : C0 G "AccusedChoose" b_AC_commonDivisor 11 1) (a0 : Int64) (a2 : Int64) (s : St) : VO G (RLo G b_AC_commonDivisor) (F_AC_commonDivisor a0 a2 s) 0 [(0, .long a0), (2, .long a2)] [] s := by
  unfold F_AC_commonDivisor
  refine VO_lload hC d_AC_commonDivisor_0 1 rfl ?_
  refine VO_lstore hC d_AC_commonDivisor_1 [(0, .long a0), (2, .long a2)] rfl (by decide) ?_
  refine VO_lload hC d_AC_commonDivisor_3 1 rfl ?_
  refine VO_lstore hC d_AC_commonDivisor_4 [(4, .long a2), (0, .long a0), (2, .long a2)] rfl (by decide) ?_
  refine VO_const hC d_AC_commonDivisor_6 ?_
  refine VO_istore hC d_AC_commonDivisor_7 [(6, .long a0), (4, .long a2), (0, .long a0), (2, .long a2)] rfl (by decide) ?_
  exact VO_sub [2, 1, 0] rfl (B_AC_commonDivisor_9 hC a2 a0 (0 : Int32) s)
set_option maxRecDepth 20000 in
theorem M_AC_commonDivisor {l : Launch} {D : va_G} {ad : Nat → Nat} {cI cL : ClassId} (hj : Inj ad) {a0 : Int64} {a2 : Int64} {s : St} {o : Int64 × St} (h : F_AC_commonDivisor a0 a2 s = some o) : Cn l D ad cI cL y_AC_commonDivisor b_AC_commonDivisor 11 (some .long) 1 [.long a0, .long a2] s (some (.long o.1)) o.2 := by
  refine Cn_ofL hj (plainFor_of_name (by decide)) (Nat.le_of_ble_eq_true rfl) [(0, .long a0), (2, .long a2)] rfl (fun G hC e1 e2 e3 e4 e5 hR => ?_)
  subst e1; subst e2; subst e3; subst e4; subst e5
  exact B_AC_commonDivisor hC a0 a2 s o h hR
theorem d_AC_caught_0 : PLi b_AC_caught 0 1 1 := Or.inl ⟨1, by decide +kernel, rfl, rfl⟩
theorem d_AC_caught_1 : PCi b_AC_caught 1 2 2 := Or.inl ⟨2, by decide +kernel, by decide, rfl⟩
theorem d_AC_caught_2 : DJ b_AC_caught 2 (.if_icmp .lt) 5 9 := ⟨7, by decide +kernel, rfl, by decide⟩
theorem d_AC_caught_5 : PLi b_AC_caught 5 2 6 := Or.inl ⟨2, by decide +kernel, rfl, rfl⟩
theorem d_AC_caught_6 : DJ b_AC_caught 6 (.ifCond .ge) 9 16 := ⟨10, by decide +kernel, rfl, by decide⟩
theorem d_AC_caught_9 : PLa b_AC_caught 9 0 10 := Or.inl ⟨0, by decide +kernel, rfl, rfl⟩
theorem d_AC_caught_10 : PCi b_AC_caught 10 (-4) 12 := Or.inr (Or.inl ⟨(-4), by decide +kernel, by decide, rfl⟩)
theorem d_AC_caught_12 : DR b_AC_caught 12 (.invokevirtual 240) 3 15 := ⟨by decide +kernel, rfl⟩
theorem d_AC_caught_15 : DR b_AC_caught 15 (.lreturn) 1 16 := ⟨by decide +kernel, rfl⟩
theorem d_AC_caught_16 : PLi b_AC_caught 16 1 17 := Or.inl ⟨1, by decide +kernel, rfl, rfl⟩
theorem d_AC_caught_17 : PCi b_AC_caught 17 20 19 := Or.inr (Or.inl ⟨20, by decide +kernel, by decide, rfl⟩)
theorem d_AC_caught_19 : DJ b_AC_caught 19 (.if_icmp .gt) 22 28 := ⟨9, by decide +kernel, rfl, by decide⟩
theorem d_AC_caught_22 : PLi b_AC_caught 22 2 23 := Or.inl ⟨2, by decide +kernel, rfl, rfl⟩
theorem d_AC_caught_23 : PCi b_AC_caught 23 7 25 := Or.inr (Or.inl ⟨7, by decide +kernel, by decide, rfl⟩)
theorem d_AC_caught_25 : DJ b_AC_caught 25 (.if_icmp .le) 28 35 := ⟨10, by decide +kernel, rfl, by decide⟩
theorem d_AC_caught_28 : PLa b_AC_caught 28 0 29 := Or.inl ⟨0, by decide +kernel, rfl, rfl⟩
theorem d_AC_caught_29 : PCi b_AC_caught 29 (-6) 31 := Or.inr (Or.inl ⟨(-6), by decide +kernel, by decide, rfl⟩)
theorem d_AC_caught_31 : DR b_AC_caught 31 (.invokevirtual 240) 3 34 := ⟨by decide +kernel, rfl⟩
theorem d_AC_caught_34 : DR b_AC_caught 34 (.lreturn) 1 35 := ⟨by decide +kernel, rfl⟩
theorem d_AC_caught_35 : PLi b_AC_caught 35 3 36 := Or.inl ⟨3, by decide +kernel, rfl, rfl⟩
theorem d_AC_caught_36 : DJ b_AC_caught 36 (.ifCond .lt) 39 44 := ⟨8, by decide +kernel, rfl, by decide⟩
theorem d_AC_caught_39 : PLi b_AC_caught 39 3 40 := Or.inl ⟨3, by decide +kernel, rfl, rfl⟩
theorem d_AC_caught_40 : PCi b_AC_caught 40 1 41 := Or.inl ⟨1, by decide +kernel, by decide, rfl⟩
theorem d_AC_caught_41 : DJ b_AC_caught 41 (.if_icmp .le) 44 51 := ⟨10, by decide +kernel, rfl, by decide⟩
theorem d_AC_caught_44 : PLa b_AC_caught 44 0 45 := Or.inl ⟨0, by decide +kernel, rfl, rfl⟩
theorem d_AC_caught_45 : PCi b_AC_caught 45 (-2) 47 := Or.inr (Or.inl ⟨(-2), by decide +kernel, by decide, rfl⟩)
theorem d_AC_caught_47 : DR b_AC_caught 47 (.invokevirtual 240) 3 50 := ⟨by decide +kernel, rfl⟩
theorem d_AC_caught_50 : DR b_AC_caught 50 (.lreturn) 1 51 := ⟨by decide +kernel, rfl⟩
theorem d_AC_caught_51 : PLa b_AC_caught 51 0 52 := Or.inl ⟨0, by decide +kernel, rfl, rfl⟩
theorem d_AC_caught_52 : DR b_AC_caught 52 (.invokevirtual 201) 3 55 := ⟨by decide +kernel, rfl⟩
theorem d_AC_caught_55 : PLa b_AC_caught 55 0 56 := Or.inl ⟨0, by decide +kernel, rfl, rfl⟩
theorem d_AC_caught_56 : DR b_AC_caught 56 (.getfield 49) 3 59 := ⟨by decide +kernel, rfl⟩
theorem d_AC_caught_59 : PLa b_AC_caught 59 0 60 := Or.inl ⟨0, by decide +kernel, rfl, rfl⟩
theorem d_AC_caught_60 : DR b_AC_caught 60 (.getfield 10) 3 63 := ⟨by decide +kernel, rfl⟩
theorem d_AC_caught_63 : PCi b_AC_caught 63 0 64 := Or.inl ⟨0, by decide +kernel, by decide, rfl⟩
theorem d_AC_caught_64 : DR b_AC_caught 64 (.invokevirtual 286) 3 67 := ⟨by decide +kernel, rfl⟩
theorem d_AC_caught_67 : PSi b_AC_caught 67 4 69 := Or.inr ⟨by decide +kernel, rfl⟩
theorem d_AC_caught_69 : PLi b_AC_caught 69 4 71 := Or.inr ⟨by decide +kernel, rfl⟩
theorem d_AC_caught_71 : PLi b_AC_caught 71 2 72 := Or.inl ⟨2, by decide +kernel, rfl, rfl⟩
theorem d_AC_caught_72 : PLi b_AC_caught 72 1 73 := Or.inl ⟨1, by decide +kernel, rfl, rfl⟩
theorem d_AC_caught_73 : DR b_AC_caught 73 (.invokestatic 290) 3 76 := ⟨by decide +kernel, rfl⟩
theorem d_AC_caught_76 : PSl b_AC_caught 76 5 78 := Or.inr ⟨by decide +kernel, rfl⟩
theorem d_AC_caught_78 : PLi b_AC_caught 78 1 79 := Or.inl ⟨1, by decide +kernel, rfl, rfl⟩
theorem d_AC_caught_79 : PLi b_AC_caught 79 4 81 := Or.inr ⟨by decide +kernel, rfl⟩
theorem d_AC_caught_81 : DR b_AC_caught 81 (.invokestatic 294) 3 84 := ⟨by decide +kernel, rfl⟩
theorem d_AC_caught_84 : PSl b_AC_caught 84 7 86 := Or.inr ⟨by decide +kernel, rfl⟩
theorem d_AC_caught_86 : PLl b_AC_caught 86 5 88 := Or.inr ⟨by decide +kernel, rfl⟩
theorem d_AC_caught_88 : PLl b_AC_caught 88 7 90 := Or.inr ⟨by decide +kernel, rfl⟩
theorem d_AC_caught_90 : DR b_AC_caught 90 (.invokestatic 298) 3 93 := ⟨by decide +kernel, rfl⟩
theorem d_AC_caught_93 : PSl b_AC_caught 93 9 95 := Or.inr ⟨by decide +kernel, rfl⟩
theorem d_AC_caught_95 : PLl b_AC_caught 95 9 97 := Or.inr ⟨by decide +kernel, rfl⟩
theorem d_AC_caught_97 : DR b_AC_caught 97 (.lconst 0) 1 98 := ⟨by decide +kernel, rfl⟩
theorem d_AC_caught_98 : DR b_AC_caught 98 (.lcmp) 1 99 := ⟨by decide +kernel, rfl⟩
theorem d_AC_caught_99 : DJ b_AC_caught 99 (.ifCond .gt) 102 104 := ⟨5, by decide +kernel, rfl, by decide⟩
theorem d_AC_caught_102 : DR b_AC_caught 102 (.lconst 0) 1 103 := ⟨by decide +kernel, rfl⟩
theorem d_AC_caught_103 : DR b_AC_caught 103 (.lreturn) 1 104 := ⟨by decide +kernel, rfl⟩
theorem d_AC_caught_104 : PLi b_AC_caught 104 3 105 := Or.inl ⟨3, by decide +kernel, rfl, rfl⟩
theorem d_AC_caught_105 : DJ b_AC_caught 105 (.ifCond .ne) 108 113 := ⟨8, by decide +kernel, rfl, by decide⟩
theorem d_AC_caught_108 : PLl b_AC_caught 108 5 110 := Or.inr ⟨by decide +kernel, rfl⟩
theorem d_AC_caught_110 : DJ b_AC_caught 110 .goto 113 115 := ⟨5, by decide +kernel, rfl, by decide⟩
theorem d_AC_caught_113 : PLl b_AC_caught 113 7 115 := Or.inr ⟨by decide +kernel, rfl⟩
theorem d_AC_caught_115 : PLl b_AC_caught 115 9 117 := Or.inr ⟨by decide +kernel, rfl⟩
theorem d_AC_caught_117 : DR b_AC_caught 117 (.ldiv) 1 118 := ⟨by decide +kernel, rfl⟩
theorem d_AC_caught_118 : DR b_AC_caught 118 (.lreturn) 1 119 := ⟨by decide +kernel, rfl⟩
set_option maxRecDepth 20000 in
theorem B_AC_caught_9 {G : MCx} (hC : C0 G "AccusedChoose" b_AC_caught 11 6) (s : St) : VO G (RLo G b_AC_caught) (F_AC_caught_9 s) 9 [(0, .ref (gad G 0))] [] s := by
  unfold F_AC_caught_9
  refine VO_aload hC d_AC_caught_9 0 rfl ?_
  refine VO_const hC d_AC_caught_10 ?_
  refine VO_callVL hC [.int (-4 : Int32)] [] ml_AC_240 d_AC_caught_12 yv_AC_refuseLong sh_AC rfl rfl (fun o h => M_AC_refuseLong hC.inj h) (by decide) rfl rfl (Nat.le_of_ble_eq_true rfl) (fun o1 => ?_)
  exact VO_lreturn d_AC_caught_15
set_option maxRecDepth 20000 in
theorem B_AC_caught_28 {G : MCx} (hC : C0 G "AccusedChoose" b_AC_caught 11 6) (s : St) : VO G (RLo G b_AC_caught) (F_AC_caught_28 s) 28 [(0, .ref (gad G 0))] [] s := by
  unfold F_AC_caught_28
  refine VO_aload hC d_AC_caught_28 0 rfl ?_
  refine VO_const hC d_AC_caught_29 ?_
  refine VO_callVL hC [.int (-6 : Int32)] [] ml_AC_240 d_AC_caught_31 yv_AC_refuseLong sh_AC rfl rfl (fun o h => M_AC_refuseLong hC.inj h) (by decide) rfl rfl (Nat.le_of_ble_eq_true rfl) (fun o2 => ?_)
  exact VO_lreturn d_AC_caught_34
set_option maxRecDepth 20000 in
theorem B_AC_caught_44 {G : MCx} (hC : C0 G "AccusedChoose" b_AC_caught 11 6) (s : St) : VO G (RLo G b_AC_caught) (F_AC_caught_44 s) 44 [(0, .ref (gad G 0))] [] s := by
  unfold F_AC_caught_44
  refine VO_aload hC d_AC_caught_44 0 rfl ?_
  refine VO_const hC d_AC_caught_45 ?_
  refine VO_callVL hC [.int (-2 : Int32)] [] ml_AC_240 d_AC_caught_47 yv_AC_refuseLong sh_AC rfl rfl (fun o h => M_AC_refuseLong hC.inj h) (by decide) rfl rfl (Nat.le_of_ble_eq_true rfl) (fun o3 => ?_)
  exact VO_lreturn d_AC_caught_50
set_option maxRecDepth 20000 in
theorem B_AC_caught_115 {G : MCx} (hC : C0 G "AccusedChoose" b_AC_caught 11 6) (v9 : Int64) (z0 : Int64) (s : St) : VO G (RLo G b_AC_caught) (F_AC_caught_115 v9 z0 s) 115 [(9, .long v9)] [.long z0] s := by
  unfold F_AC_caught_115
  refine VO_lload hC d_AC_caught_115 0 rfl ?_
  refine VO_ldiv hC d_AC_caught_117 ?_
  exact VO_lreturn d_AC_caught_118
set_option maxRecDepth 20000 in
theorem B_AC_caught {G : MCx} (hC : C0 G "AccusedChoose" b_AC_caught 11 6) (a1 : Int32) (a2 : Int32) (a3 : Int32) (s : St) : VO G (RLo G b_AC_caught) (F_AC_caught a1 a2 a3 s) 0 [(0, .ref (gad G 0)), (1, .int a1), (2, .int a2), (3, .int a3)] [] s := by
  unfold F_AC_caught
  refine VO_iload hC d_AC_caught_0 1 rfl ?_
  refine VO_const hC d_AC_caught_1 ?_
  refine VO_icmp_lt hC d_AC_caught_2 (fun _ => ?_) (fun _ => ?_)
  · exact VO_sub [0] rfl (B_AC_caught_9 hC s)
  · refine VO_iload hC d_AC_caught_5 2 rfl ?_
    refine VO_if_ge hC d_AC_caught_6 (fun _ => ?_) (fun _ => ?_)
    · refine VO_iload hC d_AC_caught_16 1 rfl ?_
      refine VO_const hC d_AC_caught_17 ?_
      refine VO_icmp_gt hC d_AC_caught_19 (fun _ => ?_) (fun _ => ?_)
      · exact VO_sub [0] rfl (B_AC_caught_28 hC s)
      · refine VO_iload hC d_AC_caught_22 2 rfl ?_
        refine VO_const hC d_AC_caught_23 ?_
        refine VO_icmp_le hC d_AC_caught_25 (fun _ => ?_) (fun _ => ?_)
        · refine VO_iload hC d_AC_caught_35 3 rfl ?_
          refine VO_if_lt hC d_AC_caught_36 (fun _ => ?_) (fun _ => ?_)
          · exact VO_sub [0] rfl (B_AC_caught_44 hC s)
          · refine VO_iload hC d_AC_caught_39 3 rfl ?_
            refine VO_const hC d_AC_caught_40 ?_
            refine VO_icmp_le hC d_AC_caught_41 (fun _ => ?_) (fun _ => ?_)
            · refine VO_aload hC d_AC_caught_51 0 rfl ?_
              refine VO_callVV hC [] [] ml_AC_201 d_AC_caught_52 yv_AC_holdToday sh_AC rfl rfl (fun o h => M_AC_holdToday hC.inj h) (by decide) rfl rfl (Nat.le_of_ble_eq_true rfl) (fun s4 => ?_)
              refine VO_aload hC d_AC_caught_55 0 rfl ?_
              refine VO_getr (r := 40) hC fl_AC_49 sh_AC rfl d_AC_caught_56 ?_
              refine VO_aload hC d_AC_caught_59 0 rfl ?_
              refine VO_getr (r := 1) hC fl_AC_10 sh_AC rfl d_AC_caught_60 ?_
              refine VO_const hC d_AC_caught_63 ?_
              refine VO_callVI hC [.ref (gad G 1), .int (0 : Int32)] [] ml_AC_286 d_AC_caught_64 yv_MO_owners (sh_MO isMO_40) rfl rfl (fun o h => M_MO_owners hC.inj isMO_40 isNI_1 h) (by decide) rfl rfl (Nat.le_of_ble_eq_true rfl) (fun o5 => ?_)
              refine VO_istore hC d_AC_caught_67 [(0, .ref (gad G 0)), (1, .int a1), (2, .int a2), (3, .int a3)] rfl (by decide) ?_
              refine VO_iload hC d_AC_caught_69 0 rfl ?_
              refine VO_iload hC d_AC_caught_71 3 rfl ?_
              refine VO_iload hC d_AC_caught_72 2 rfl ?_
              refine VO_callSL hC [.int o5.1, .int a2, .int a1] [] ml_AC_290 d_AC_caught_73 ys_AC_waysToBeCaught (fun o h => M_AC_waysToBeCaught hC.inj h) (by decide) rfl rfl (Nat.le_of_ble_eq_true rfl) (fun o6 => ?_)
              refine VO_lstore hC d_AC_caught_76 [(4, .int o5.1), (0, .ref (gad G 0)), (1, .int a1), (2, .int a2), (3, .int a3)] rfl (by decide) ?_
              refine VO_iload hC d_AC_caught_78 3 rfl ?_
              refine VO_iload hC d_AC_caught_79 1 rfl ?_
              refine VO_callSL hC [.int a1, .int o5.1] [] ml_AC_294 d_AC_caught_81 ys_AC_power (fun o h => M_AC_power hC.inj h) (by decide) rfl rfl (Nat.le_of_ble_eq_true rfl) (fun o7 => ?_)
              refine VO_lstore hC d_AC_caught_84 [(5, .long o6.1), (4, .int o5.1), (0, .ref (gad G 0)), (1, .int a1), (2, .int a2), (3, .int a3)] rfl (by decide) ?_
              refine VO_lload hC d_AC_caught_86 1 rfl ?_
              refine VO_lload hC d_AC_caught_88 0 rfl ?_
              refine VO_callSL hC [.long o6.1, .long o7.1] [] ml_AC_298 d_AC_caught_90 ys_AC_commonDivisor (fun o h => M_AC_commonDivisor hC.inj h) (by decide) rfl rfl (Nat.le_of_ble_eq_true rfl) (fun o8 => ?_)
              refine VO_lstore hC d_AC_caught_93 [(7, .long o7.1), (5, .long o6.1), (4, .int o5.1), (0, .ref (gad G 0)), (1, .int a1), (2, .int a2), (3, .int a3)] rfl (by decide) ?_
              refine VO_lload hC d_AC_caught_95 0 rfl ?_
              refine VO_lconst hC d_AC_caught_97 rfl ?_
              refine VO_lcmp hC d_AC_caught_98 ?_
              refine VO_if_gt hC d_AC_caught_99 (fun _ => ?_) (fun _ => ?_)
              · refine VO_iload hC d_AC_caught_104 7 rfl ?_
                refine VO_if_ne hC d_AC_caught_105 (fun _ => ?_) (fun _ => ?_)
                · refine VO_lload hC d_AC_caught_108 2 rfl ?_
                  refine VO_goto hC d_AC_caught_110 ?_
                  exact VO_sub [0] rfl (B_AC_caught_115 hC o8.1 o6.1 o8.2)
                · refine VO_lload hC d_AC_caught_113 1 rfl ?_
                  exact VO_sub [0] rfl (B_AC_caught_115 hC o8.1 o7.1 o8.2)
              · refine VO_lconst hC d_AC_caught_102 rfl ?_
                exact VO_lreturn d_AC_caught_103
            · exact VO_sub [0] rfl (B_AC_caught_44 hC s)
        · exact VO_sub [0] rfl (B_AC_caught_28 hC s)
    · exact VO_sub [0] rfl (B_AC_caught_9 hC s)
set_option maxRecDepth 20000 in
theorem M_AC_caught {l : Launch} {D : va_G} {ad : Nat → Nat} {cI cL : ClassId} (hj : Inj ad) {a1 : Int32} {a2 : Int32} {a3 : Int32} {s : St} {o : Int64 × St} (h : F_AC_caught a1 a2 a3 s = some o) : Cn l D ad cI cL y_AC_caught b_AC_caught 11 (some .long) 6 [.ref (ad 0), .int a1, .int a2, .int a3] s (some (.long o.1)) o.2 := by
  refine Cn_ofL hj (plainFor_of_name (by decide)) (Nat.le_of_ble_eq_true rfl) [(0, .ref (ad 0)), (1, .int a1), (2, .int a2), (3, .int a3)] rfl (fun G hC e1 e2 e3 e4 e5 hR => ?_)
  subst e1; subst e2; subst e3; subst e4; subst e5
  exact B_AC_caught hC a1 a2 a3 s o h hR
theorem d_AC_spared_0 : PLa b_AC_spared 0 0 1 := Or.inl ⟨0, by decide +kernel, rfl, rfl⟩
theorem d_AC_spared_1 : DR b_AC_spared 1 (.invokevirtual 201) 3 4 := ⟨by decide +kernel, rfl⟩
theorem d_AC_spared_4 : PCi b_AC_spared 4 0 5 := Or.inl ⟨0, by decide +kernel, by decide, rfl⟩
theorem d_AC_spared_5 : PSi b_AC_spared 5 1 6 := Or.inl ⟨1, by decide +kernel, rfl, rfl⟩
theorem d_AC_spared_6 : PCi b_AC_spared 6 0 7 := Or.inl ⟨0, by decide +kernel, by decide, rfl⟩
theorem d_AC_spared_7 : PSi b_AC_spared 7 2 8 := Or.inl ⟨2, by decide +kernel, rfl, rfl⟩
theorem d_AC_spared_8 : PLi b_AC_spared 8 2 9 := Or.inl ⟨2, by decide +kernel, rfl, rfl⟩
theorem d_AC_spared_9 : PLa b_AC_spared 9 0 10 := Or.inl ⟨0, by decide +kernel, rfl, rfl⟩
theorem d_AC_spared_10 : DR b_AC_spared 10 (.getfield 10) 3 13 := ⟨by decide +kernel, rfl⟩
theorem d_AC_spared_13 : DR b_AC_spared 13 (.getfield 157) 3 16 := ⟨by decide +kernel, rfl⟩
theorem d_AC_spared_16 : DJ b_AC_spared 16 (.if_icmp .ge) 19 81 := ⟨65, by decide +kernel, rfl, by decide⟩
theorem d_AC_spared_19 : PLa b_AC_spared 19 0 20 := Or.inl ⟨0, by decide +kernel, rfl, rfl⟩
theorem d_AC_spared_20 : DR b_AC_spared 20 (.getfield 53) 3 23 := ⟨by decide +kernel, rfl⟩
theorem d_AC_spared_23 : PLa b_AC_spared 23 0 24 := Or.inl ⟨0, by decide +kernel, rfl, rfl⟩
theorem d_AC_spared_24 : DR b_AC_spared 24 (.getfield 39) 3 27 := ⟨by decide +kernel, rfl⟩
theorem d_AC_spared_27 : PLa b_AC_spared 27 0 28 := Or.inl ⟨0, by decide +kernel, rfl, rfl⟩
theorem d_AC_spared_28 : DR b_AC_spared 28 (.getfield 10) 3 31 := ⟨by decide +kernel, rfl⟩
theorem d_AC_spared_31 : DR b_AC_spared 31 (.getfield 178) 3 34 := ⟨by decide +kernel, rfl⟩
theorem d_AC_spared_34 : PLa b_AC_spared 34 0 35 := Or.inl ⟨0, by decide +kernel, rfl, rfl⟩
theorem d_AC_spared_35 : DR b_AC_spared 35 (.getfield 10) 3 38 := ⟨by decide +kernel, rfl⟩
theorem d_AC_spared_38 : DR b_AC_spared 38 (.invokevirtual 302) 3 41 := ⟨by decide +kernel, rfl⟩
theorem d_AC_spared_41 : PLi b_AC_spared 41 2 42 := Or.inl ⟨2, by decide +kernel, rfl, rfl⟩
theorem d_AC_spared_42 : DR b_AC_spared 42 (.invokestatic 276) 3 45 := ⟨by decide +kernel, rfl⟩
theorem d_AC_spared_45 : PCi b_AC_spared 45 (-1) 46 := Or.inl ⟨(-1), by decide +kernel, by decide, rfl⟩
theorem d_AC_spared_46 : DR b_AC_spared 46 (.ixor) 1 47 := ⟨by decide +kernel, rfl⟩
theorem d_AC_spared_47 : DR b_AC_spared 47 (.iand) 1 48 := ⟨by decide +kernel, rfl⟩
theorem d_AC_spared_48 : DR b_AC_spared 48 (.invokevirtual 305) 3 51 := ⟨by decide +kernel, rfl⟩
theorem d_AC_spared_51 : PLa b_AC_spared 51 0 52 := Or.inl ⟨0, by decide +kernel, rfl, rfl⟩
theorem d_AC_spared_52 : DR b_AC_spared 52 (.getfield 53) 3 55 := ⟨by decide +kernel, rfl⟩
theorem d_AC_spared_55 : DR b_AC_spared 55 (.getfield 213) 3 58 := ⟨by decide +kernel, rfl⟩
theorem d_AC_spared_58 : PLa b_AC_spared 58 0 59 := Or.inl ⟨0, by decide +kernel, rfl, rfl⟩
theorem d_AC_spared_59 : DR b_AC_spared 59 (.getfield 49) 3 62 := ⟨by decide +kernel, rfl⟩
theorem d_AC_spared_62 : DR b_AC_spared 62 (.getfield 213) 3 65 := ⟨by decide +kernel, rfl⟩
theorem d_AC_spared_65 : DJ b_AC_spared 65 (.if_icmp .ne) 68 75 := ⟨10, by decide +kernel, rfl, by decide⟩
theorem d_AC_spared_68 : PLi b_AC_spared 68 1 69 := Or.inl ⟨1, by decide +kernel, rfl, rfl⟩
theorem d_AC_spared_69 : PLi b_AC_spared 69 2 70 := Or.inl ⟨2, by decide +kernel, rfl, rfl⟩
theorem d_AC_spared_70 : DR b_AC_spared 70 (.invokestatic 276) 3 73 := ⟨by decide +kernel, rfl⟩
theorem d_AC_spared_73 : DR b_AC_spared 73 (.ior) 1 74 := ⟨by decide +kernel, rfl⟩
theorem d_AC_spared_74 : PSi b_AC_spared 74 1 75 := Or.inl ⟨1, by decide +kernel, rfl, rfl⟩
theorem d_AC_spared_75 : DR b_AC_spared 75 (.iinc 2 1) 3 78 := ⟨by decide +kernel, rfl⟩
theorem d_AC_spared_78 : DJ b_AC_spared 78 .goto 81 8 := ⟨-70, by decide +kernel, rfl, by decide⟩
theorem d_AC_spared_81 : PLi b_AC_spared 81 1 82 := Or.inl ⟨1, by decide +kernel, rfl, rfl⟩
theorem d_AC_spared_82 : DR b_AC_spared 82 (.ireturn) 1 83 := ⟨by decide +kernel, rfl⟩
set_option maxRecDepth 20000 in
theorem B_AC_spared_75 {G : MCx} (hC : C0 G "AccusedChoose" b_AC_spared 3 6) (K8 : Int32 × Int32 × St → Option (Int32 × St)) (hK8 : ∀ (w1 : Int32) (w2 : Int32) (s : St), VO G (RI G b_AC_spared) (K8 (w1, w2, s)) 8 [(0, .ref (gad G 0)), (1, .int w1), (2, .int w2)] [] s) (v1 : Int32) (v2 : Int32) (s : St) : VO G (RI G b_AC_spared) (F_AC_spared_75 K8 v1 v2 s) 75 [(0, .ref (gad G 0)), (1, .int v1), (2, .int v2)] [] s := by
  unfold F_AC_spared_75
  refine VO_iinc hC d_AC_spared_75 2 rfl (by decide : Int32.ofInt 1 = 1) [(0, .ref (gad G 0)), (1, .int v1)] rfl (by decide) ?_
  refine VO_goto hC d_AC_spared_78 ?_
  exact VO_sub [1, 2, 0] rfl (hK8 v1 (v2 + 1) s)
set_option maxRecDepth 20000 in
theorem BH_AC_spared_8 {G : MCx} (hC : C0 G "AccusedChoose" b_AC_spared 3 6) (K8 : Int32 × Int32 × St → Option (Int32 × St)) (hK8 : ∀ (w1 : Int32) (w2 : Int32) (s : St), VO G (RI G b_AC_spared) (K8 (w1, w2, s)) 8 [(0, .ref (gad G 0)), (1, .int w1), (2, .int w2)] [] s) (v1 : Int32) (v2 : Int32) (s : St) : VO G (RI G b_AC_spared) (H_AC_spared_8 K8 v1 v2 s) 8 [(0, .ref (gad G 0)), (1, .int v1), (2, .int v2)] [] s := by
  unfold H_AC_spared_8
  refine VO_iload hC d_AC_spared_8 2 rfl ?_
  refine VO_aload hC d_AC_spared_9 0 rfl ?_
  refine VO_getr (r := 1) hC fl_AC_10 sh_AC rfl d_AC_spared_10 ?_
  refine VO_geti hC fl_AC_157 (sh_NI isNI_1) rfl d_AC_spared_13 ?_
  refine VO_icmp_ge hC d_AC_spared_16 (fun _ => ?_) (fun _ => ?_)
  · refine VO_iload hC d_AC_spared_81 1 rfl ?_
    exact VO_ireturn d_AC_spared_82
  · refine VO_aload hC d_AC_spared_19 0 rfl ?_
    refine VO_getr (r := 43) hC fl_AC_53 sh_AC rfl d_AC_spared_20 ?_
    refine VO_aload hC d_AC_spared_23 0 rfl ?_
    refine VO_getr (r := 36) hC fl_AC_39 sh_AC rfl d_AC_spared_24 ?_
    refine VO_aload hC d_AC_spared_27 0 rfl ?_
    refine VO_getr (r := 1) hC fl_AC_10 sh_AC rfl d_AC_spared_28 ?_
    refine VO_getr (r := 9) hC fl_AC_178 (sh_NI isNI_1) rfl d_AC_spared_31 ?_
    refine VO_aload hC d_AC_spared_34 0 rfl ?_
    refine VO_getr (r := 1) hC fl_AC_10 sh_AC rfl d_AC_spared_35 ?_
    refine VO_callVI hC [] [.ref (gad G 9), .ref (gad G 36), .ref (gad G 43)] ml_AC_302 d_AC_spared_38 yv_NI_allDeeds (sh_NI isNI_1) rfl rfl (fun o h => M_NI_allDeeds hC.inj isNI_1 h) (by decide) rfl rfl (Nat.le_of_ble_eq_true rfl) (fun o2 => ?_)
    refine VO_iload hC d_AC_spared_41 2 rfl ?_
    refine VO_callSI hC [.int v2] [.int o2.1, .ref (gad G 9), .ref (gad G 36), .ref (gad G 43)] ml_AC_276 d_AC_spared_42 ys_AC_bit (fun o h => M_AC_bit hC.inj h) (by decide) rfl rfl (Nat.le_of_ble_eq_true rfl) (fun o3 => ?_)
    refine VO_const hC d_AC_spared_45 ?_
    refine VO_ixor hC d_AC_spared_46 ?_
    refine VO_iand hC d_AC_spared_47 ?_
    refine VO_callVV hC [.ref (gad G 36), .ref (gad G 9), .int (o2.1 &&& (o3.1 ^^^ (-1 : Int32)))] [] ml_AC_305 d_AC_spared_48 yv_MO_hold (sh_MO isMO_43) rfl rfl (fun o h => M_MO_hold hC.inj isMO_43 isPR_36 ia_9 h) (by decide) rfl rfl (Nat.le_of_ble_eq_true rfl) (fun s4 => ?_)
    refine VO_aload hC d_AC_spared_51 0 rfl ?_
    refine VO_getr (r := 43) hC fl_AC_53 sh_AC rfl d_AC_spared_52 ?_
    refine VO_geti hC fl_AC_213 (sh_MO isMO_43) rfl d_AC_spared_55 ?_
    refine VO_aload hC d_AC_spared_58 0 rfl ?_
    refine VO_getr (r := 40) hC fl_AC_49 sh_AC rfl d_AC_spared_59 ?_
    refine VO_geti hC fl_AC_213 (sh_MO isMO_40) rfl d_AC_spared_62 ?_
    refine VO_icmp_ne hC d_AC_spared_65 (fun _ => ?_) (fun _ => ?_)
    · refine VO_iload hC d_AC_spared_68 1 rfl ?_
      refine VO_iload hC d_AC_spared_69 2 rfl ?_
      refine VO_callSI hC [.int v2] [.int v1] ml_AC_276 d_AC_spared_70 ys_AC_bit (fun o h => M_AC_bit hC.inj h) (by decide) rfl rfl (Nat.le_of_ble_eq_true rfl) (fun o5 => ?_)
      refine VO_ior hC d_AC_spared_73 ?_
      refine VO_istoreB hC d_AC_spared_74 [(0, .ref (gad G 0)), (2, .int v2)] rfl (by decide) (fun x6 => ?_)
      exact VO_sub [1, 0, 2] rfl (B_AC_spared_75 hC K8 hK8 x6 v2 o5.2)
    · exact (B_AC_spared_75 hC K8 hK8 v1 v2 s4)
set_option maxRecDepth 20000 in
theorem B_AC_spared_8 {G : MCx} (hC : C0 G "AccusedChoose" b_AC_spared 3 6) (v1 : Int32) (v2 : Int32) (s : St) : VO G (RI G b_AC_spared) (F_AC_spared_8 v1 v2 s) 8 [(0, .ref (gad G 0)), (1, .int v1), (2, .int v2)] [] s := by
  exact VO_fix (G_AC_spared_8) 8 (fun q => [(0, .ref (gad G 0)), (1, .int q.1), (2, .int q.2.1)]) (fun q => q.2.2) (fun K hK q => BH_AC_spared_8 hC K (fun w1 w2 s => hK (w1, w2, s)) q.1 q.2.1 q.2.2) FUEL (v1, v2, s)
set_option maxRecDepth 20000 in
theorem B_AC_spared {G : MCx} (hC : C0 G "AccusedChoose" b_AC_spared 3 6) (s : St) : VO G (RI G b_AC_spared) (F_AC_spared s) 0 [(0, .ref (gad G 0))] [] s := by
  unfold F_AC_spared
  refine VO_aload hC d_AC_spared_0 0 rfl ?_
  refine VO_callVV hC [] [] ml_AC_201 d_AC_spared_1 yv_AC_holdToday sh_AC rfl rfl (fun o h => M_AC_holdToday hC.inj h) (by decide) rfl rfl (Nat.le_of_ble_eq_true rfl) (fun s1 => ?_)
  refine VO_const hC d_AC_spared_4 ?_
  refine VO_istore hC d_AC_spared_5 [(0, .ref (gad G 0))] rfl (by decide) ?_
  refine VO_const hC d_AC_spared_6 ?_
  refine VO_istore hC d_AC_spared_7 [(1, .int (0 : Int32)), (0, .ref (gad G 0))] rfl (by decide) ?_
  exact VO_sub [2, 1, 0] rfl (B_AC_spared_8 hC (0 : Int32) (0 : Int32) s1)
set_option maxRecDepth 20000 in
theorem M_AC_spared {l : Launch} {D : va_G} {ad : Nat → Nat} {cI cL : ClassId} (hj : Inj ad) {s : St} {o : Int32 × St} (h : F_AC_spared s = some o) : Cn l D ad cI cL y_AC_spared b_AC_spared 3 (some .int) 6 [.ref (ad 0)] s (some (.int o.1)) o.2 := by
  refine Cn_ofI hj (plainFor_of_name (by decide)) (Nat.le_of_ble_eq_true rfl) [(0, .ref (ad 0))] rfl (fun G hC e1 e2 e3 e4 e5 hR => ?_)
  subst e1; subst e2; subst e3; subst e4; subst e5
  exact B_AC_spared hC s o h hR
theorem d_AC_keeper_0 : PLa b_AC_keeper 0 0 1 := Or.inl ⟨0, by decide +kernel, rfl, rfl⟩
theorem d_AC_keeper_1 : DR b_AC_keeper 1 (.invokevirtual 201) 3 4 := ⟨by decide +kernel, rfl⟩
theorem d_AC_keeper_4 : DR b_AC_keeper 4 (.ldc 255) 2 6 := ⟨by decide +kernel, rfl⟩
theorem d_AC_keeper_6 : PSi b_AC_keeper 6 1 7 := Or.inl ⟨1, by decide +kernel, rfl, rfl⟩
theorem d_AC_keeper_7 : PCi b_AC_keeper 7 (-9) 9 := Or.inr (Or.inl ⟨(-9), by decide +kernel, by decide, rfl⟩)
theorem d_AC_keeper_9 : PSi b_AC_keeper 9 2 10 := Or.inl ⟨2, by decide +kernel, rfl, rfl⟩
theorem d_AC_keeper_10 : PCi b_AC_keeper 10 0 11 := Or.inl ⟨0, by decide +kernel, by decide, rfl⟩
theorem d_AC_keeper_11 : PSi b_AC_keeper 11 3 12 := Or.inl ⟨3, by decide +kernel, rfl, rfl⟩
theorem d_AC_keeper_12 : PLi b_AC_keeper 12 3 13 := Or.inl ⟨3, by decide +kernel, rfl, rfl⟩
theorem d_AC_keeper_13 : PLa b_AC_keeper 13 0 14 := Or.inl ⟨0, by decide +kernel, rfl, rfl⟩
theorem d_AC_keeper_14 : DR b_AC_keeper 14 (.getfield 10) 3 17 := ⟨by decide +kernel, rfl⟩
theorem d_AC_keeper_17 : DR b_AC_keeper 17 (.getfield 164) 3 20 := ⟨by decide +kernel, rfl⟩
theorem d_AC_keeper_20 : DJ b_AC_keeper 20 (.if_icmp .ge) 23 100 := ⟨80, by decide +kernel, rfl, by decide⟩
theorem d_AC_keeper_23 : PLa b_AC_keeper 23 0 24 := Or.inl ⟨0, by decide +kernel, rfl, rfl⟩
theorem d_AC_keeper_24 : DR b_AC_keeper 24 (.getfield 10) 3 27 := ⟨by decide +kernel, rfl⟩
theorem d_AC_keeper_27 : DR b_AC_keeper 27 (.getfield 141) 3 30 := ⟨by decide +kernel, rfl⟩
theorem d_AC_keeper_30 : PLi b_AC_keeper 30 3 31 := Or.inl ⟨3, by decide +kernel, rfl, rfl⟩
theorem d_AC_keeper_31 : DR b_AC_keeper 31 (.invokestatic 122) 3 34 := ⟨by decide +kernel, rfl⟩
theorem d_AC_keeper_34 : PSi b_AC_keeper 34 4 36 := Or.inr ⟨by decide +kernel, rfl⟩
theorem d_AC_keeper_36 : PLa b_AC_keeper 36 0 37 := Or.inl ⟨0, by decide +kernel, rfl, rfl⟩
theorem d_AC_keeper_37 : DR b_AC_keeper 37 (.getfield 10) 3 40 := ⟨by decide +kernel, rfl⟩
theorem d_AC_keeper_40 : PLi b_AC_keeper 40 4 42 := Or.inr ⟨by decide +kernel, rfl⟩
theorem d_AC_keeper_42 : DR b_AC_keeper 42 (.invokevirtual 129) 3 45 := ⟨by decide +kernel, rfl⟩
theorem d_AC_keeper_45 : DJ b_AC_keeper 45 (.ifCond .eq) 48 94 := ⟨49, by decide +kernel, rfl, by decide⟩
theorem d_AC_keeper_48 : PLa b_AC_keeper 48 0 49 := Or.inl ⟨0, by decide +kernel, rfl, rfl⟩
theorem d_AC_keeper_49 : PLi b_AC_keeper 49 4 51 := Or.inr ⟨by decide +kernel, rfl⟩
theorem d_AC_keeper_51 : PLi b_AC_keeper 51 3 52 := Or.inl ⟨3, by decide +kernel, rfl, rfl⟩
theorem d_AC_keeper_52 : PLa b_AC_keeper 52 0 53 := Or.inl ⟨0, by decide +kernel, rfl, rfl⟩
theorem d_AC_keeper_53 : DR b_AC_keeper 53 (.getfield 10) 3 56 := ⟨by decide +kernel, rfl⟩
theorem d_AC_keeper_56 : DR b_AC_keeper 56 (.getfield 164) 3 59 := ⟨by decide +kernel, rfl⟩
theorem d_AC_keeper_59 : PCi b_AC_keeper 59 1 60 := Or.inl ⟨1, by decide +kernel, by decide, rfl⟩
theorem d_AC_keeper_60 : DR b_AC_keeper 60 (.isub) 1 61 := ⟨by decide +kernel, rfl⟩
theorem d_AC_keeper_61 : DR b_AC_keeper 61 (.invokevirtual 259) 3 64 := ⟨by decide +kernel, rfl⟩
theorem d_AC_keeper_64 : PSi b_AC_keeper 64 5 66 := Or.inr ⟨by decide +kernel, rfl⟩
theorem d_AC_keeper_66 : PLi b_AC_keeper 66 5 68 := Or.inr ⟨by decide +kernel, rfl⟩
theorem d_AC_keeper_68 : PLa b_AC_keeper 68 0 69 := Or.inl ⟨0, by decide +kernel, rfl, rfl⟩
theorem d_AC_keeper_69 : DR b_AC_keeper 69 (.getfield 49) 3 72 := ⟨by decide +kernel, rfl⟩
theorem d_AC_keeper_72 : DR b_AC_keeper 72 (.getfield 207) 3 75 := ⟨by decide +kernel, rfl⟩
theorem d_AC_keeper_75 : PLi b_AC_keeper 75 4 77 := Or.inr ⟨by decide +kernel, rfl⟩
theorem d_AC_keeper_77 : DR b_AC_keeper 77 (.invokestatic 122) 3 80 := ⟨by decide +kernel, rfl⟩
theorem d_AC_keeper_80 : DJ b_AC_keeper 80 (.if_icmp .ge) 83 94 := ⟨14, by decide +kernel, rfl, by decide⟩
theorem d_AC_keeper_83 : PLi b_AC_keeper 83 5 85 := Or.inr ⟨by decide +kernel, rfl⟩
theorem d_AC_keeper_85 : PLi b_AC_keeper 85 1 86 := Or.inl ⟨1, by decide +kernel, rfl, rfl⟩
theorem d_AC_keeper_86 : DJ b_AC_keeper 86 (.if_icmp .ge) 89 94 := ⟨8, by decide +kernel, rfl, by decide⟩
theorem d_AC_keeper_89 : PLi b_AC_keeper 89 5 91 := Or.inr ⟨by decide +kernel, rfl⟩
theorem d_AC_keeper_91 : PSi b_AC_keeper 91 1 92 := Or.inl ⟨1, by decide +kernel, rfl, rfl⟩
theorem d_AC_keeper_92 : PLi b_AC_keeper 92 3 93 := Or.inl ⟨3, by decide +kernel, rfl, rfl⟩
theorem d_AC_keeper_93 : PSi b_AC_keeper 93 2 94 := Or.inl ⟨2, by decide +kernel, rfl, rfl⟩
theorem d_AC_keeper_94 : DR b_AC_keeper 94 (.iinc 3 1) 3 97 := ⟨by decide +kernel, rfl⟩
theorem d_AC_keeper_97 : DJ b_AC_keeper 97 .goto 100 12 := ⟨-85, by decide +kernel, rfl, by decide⟩
theorem d_AC_keeper_100 : PLi b_AC_keeper 100 2 101 := Or.inl ⟨2, by decide +kernel, rfl, rfl⟩
theorem d_AC_keeper_101 : DR b_AC_keeper 101 (.ireturn) 1 102 := ⟨by decide +kernel, rfl⟩
set_option maxRecDepth 20000 in
theorem B_AC_keeper_94 {G : MCx} (hC : C0 G "AccusedChoose" b_AC_keeper 6 7) (K12 : Int32 × Int32 × Int32 × St → Option (Int32 × St)) (hK12 : ∀ (w1 : Int32) (w2 : Int32) (w3 : Int32) (s : St), VO G (RI G b_AC_keeper) (K12 (w1, w2, w3, s)) 12 [(0, .ref (gad G 0)), (1, .int w1), (2, .int w2), (3, .int w3)] [] s) (v1 : Int32) (v2 : Int32) (v3 : Int32) (s : St) : VO G (RI G b_AC_keeper) (F_AC_keeper_94 K12 v1 v2 v3 s) 94 [(0, .ref (gad G 0)), (1, .int v1), (2, .int v2), (3, .int v3)] [] s := by
  unfold F_AC_keeper_94
  refine VO_iinc hC d_AC_keeper_94 3 rfl (by decide : Int32.ofInt 1 = 1) [(0, .ref (gad G 0)), (1, .int v1), (2, .int v2)] rfl (by decide) ?_
  refine VO_goto hC d_AC_keeper_97 ?_
  exact VO_sub [1, 2, 3, 0] rfl (hK12 v1 v2 (v3 + 1) s)
set_option maxRecDepth 20000 in
theorem BH_AC_keeper_12 {G : MCx} (hC : C0 G "AccusedChoose" b_AC_keeper 6 7) (K12 : Int32 × Int32 × Int32 × St → Option (Int32 × St)) (hK12 : ∀ (w1 : Int32) (w2 : Int32) (w3 : Int32) (s : St), VO G (RI G b_AC_keeper) (K12 (w1, w2, w3, s)) 12 [(0, .ref (gad G 0)), (1, .int w1), (2, .int w2), (3, .int w3)] [] s) (v1 : Int32) (v2 : Int32) (v3 : Int32) (s : St) : VO G (RI G b_AC_keeper) (H_AC_keeper_12 K12 v1 v2 v3 s) 12 [(0, .ref (gad G 0)), (1, .int v1), (2, .int v2), (3, .int v3)] [] s := by
  unfold H_AC_keeper_12
  refine VO_iload hC d_AC_keeper_12 3 rfl ?_
  refine VO_aload hC d_AC_keeper_13 0 rfl ?_
  refine VO_getr (r := 1) hC fl_AC_10 sh_AC rfl d_AC_keeper_14 ?_
  refine VO_geti hC fl_AC_164 (sh_NI isNI_1) rfl d_AC_keeper_17 ?_
  refine VO_icmp_ge hC d_AC_keeper_20 (fun _ => ?_) (fun _ => ?_)
  · refine VO_iload hC d_AC_keeper_100 2 rfl ?_
    exact VO_ireturn d_AC_keeper_101
  · refine VO_aload hC d_AC_keeper_23 0 rfl ?_
    refine VO_getr (r := 1) hC fl_AC_10 sh_AC rfl d_AC_keeper_24 ?_
    refine VO_getr (r := 7) hC fl_AC_141 (sh_NI isNI_1) rfl d_AC_keeper_27 ?_
    refine VO_iload hC d_AC_keeper_30 3 rfl ?_
    refine VO_callSI hC [.ref (gad G 7), .int v3] [] ml_AC_122 d_AC_keeper_31 ys_AC_at (fun o h => M_AC_at hC.inj ia_7 h) (by decide) rfl rfl (Nat.le_of_ble_eq_true rfl) (fun o2 => ?_)
    refine VO_istore hC d_AC_keeper_34 [(0, .ref (gad G 0)), (1, .int v1), (2, .int v2), (3, .int v3)] rfl (by decide) ?_
    refine VO_aload hC d_AC_keeper_36 1 rfl ?_
    refine VO_getr (r := 1) hC fl_AC_10 sh_AC rfl d_AC_keeper_37 ?_
    refine VO_iload hC d_AC_keeper_40 0 rfl ?_
    refine VO_callVI hC [.int o2.1] [] ml_AC_129 d_AC_keeper_42 yv_NI_hasPerson (sh_NI isNI_1) rfl rfl (fun o h => M_NI_hasPerson hC.inj isNI_1 h) (by decide) rfl rfl (Nat.le_of_ble_eq_true rfl) (fun o3 => ?_)
    refine VO_if_eq hC d_AC_keeper_45 (fun _ => ?_) (fun _ => ?_)
    · exact VO_sub [1, 2, 3, 4] rfl (B_AC_keeper_94 hC K12 hK12 v1 v2 v3 o3.2)
    · refine VO_aload hC d_AC_keeper_48 1 rfl ?_
      refine VO_iload hC d_AC_keeper_49 0 rfl ?_
      refine VO_iload hC d_AC_keeper_51 4 rfl ?_
      refine VO_aload hC d_AC_keeper_52 1 rfl ?_
      refine VO_getr (r := 1) hC fl_AC_10 sh_AC rfl d_AC_keeper_53 ?_
      refine VO_geti hC fl_AC_164 (sh_NI isNI_1) rfl d_AC_keeper_56 ?_
      refine VO_const hC d_AC_keeper_59 ?_
      refine VO_isub hC d_AC_keeper_60 ?_
      refine VO_callVI hC [.int o2.1, .int v3, .int ((rd o3.2 1 1) - (1 : Int32))] [] ml_AC_259 d_AC_keeper_61 yv_AC_monthsAt sh_AC rfl rfl (fun o h => M_AC_monthsAt hC.inj h) (by decide) rfl rfl (Nat.le_of_ble_eq_true rfl) (fun o4 => ?_)
      refine VO_istore hC d_AC_keeper_64 [(4, .int o2.1), (0, .ref (gad G 0)), (1, .int v1), (2, .int v2), (3, .int v3)] rfl (by decide) ?_
      refine VO_iload hC d_AC_keeper_66 0 rfl ?_
      refine VO_aload hC d_AC_keeper_68 2 rfl ?_
      refine VO_getr (r := 40) hC fl_AC_49 sh_AC rfl d_AC_keeper_69 ?_
      refine VO_getr (r := 42) hC fl_AC_207 (sh_MO isMO_40) rfl d_AC_keeper_72 ?_
      refine VO_iload hC d_AC_keeper_75 1 rfl ?_
      refine VO_callSI hC [.ref (gad G 42), .int o2.1] [.int o4.1] ml_AC_122 d_AC_keeper_77 ys_AC_at (fun o h => M_AC_at hC.inj ia_42 h) (by decide) rfl rfl (Nat.le_of_ble_eq_true rfl) (fun o5 => ?_)
      refine VO_icmp_ge hC d_AC_keeper_80 (fun _ => ?_) (fun _ => ?_)
      · exact VO_sub [2, 3, 4, 5] rfl (B_AC_keeper_94 hC K12 hK12 v1 v2 v3 o5.2)
      · refine VO_iload hC d_AC_keeper_83 0 rfl ?_
        refine VO_iload hC d_AC_keeper_85 3 rfl ?_
        refine VO_icmp_ge hC d_AC_keeper_86 (fun _ => ?_) (fun _ => ?_)
        · exact VO_sub [2, 3, 4, 5] rfl (B_AC_keeper_94 hC K12 hK12 v1 v2 v3 o5.2)
        · refine VO_iload hC d_AC_keeper_89 0 rfl ?_
          refine VO_istore hC d_AC_keeper_91 [(5, .int o4.1), (4, .int o2.1), (0, .ref (gad G 0)), (2, .int v2), (3, .int v3)] rfl (by decide) ?_
          refine VO_iload hC d_AC_keeper_92 5 rfl ?_
          refine VO_istore hC d_AC_keeper_93 [(1, .int o4.1), (5, .int o4.1), (4, .int o2.1), (0, .ref (gad G 0)), (3, .int v3)] rfl (by decide) ?_
          exact VO_sub [4, 1, 0, 5] rfl (B_AC_keeper_94 hC K12 hK12 o4.1 v3 v3 o5.2)
set_option maxRecDepth 20000 in
theorem B_AC_keeper_12 {G : MCx} (hC : C0 G "AccusedChoose" b_AC_keeper 6 7) (v1 : Int32) (v2 : Int32) (v3 : Int32) (s : St) : VO G (RI G b_AC_keeper) (F_AC_keeper_12 v1 v2 v3 s) 12 [(0, .ref (gad G 0)), (1, .int v1), (2, .int v2), (3, .int v3)] [] s := by
  exact VO_fix (G_AC_keeper_12) 12 (fun q => [(0, .ref (gad G 0)), (1, .int q.1), (2, .int q.2.1), (3, .int q.2.2.1)]) (fun q => q.2.2.2) (fun K hK q => BH_AC_keeper_12 hC K (fun w1 w2 w3 s => hK (w1, w2, w3, s)) q.1 q.2.1 q.2.2.1 q.2.2.2) FUEL (v1, v2, v3, s)
set_option maxRecDepth 20000 in
theorem B_AC_keeper {G : MCx} (hC : C0 G "AccusedChoose" b_AC_keeper 6 7) (s : St) : VO G (RI G b_AC_keeper) (F_AC_keeper s) 0 [(0, .ref (gad G 0))] [] s := by
  unfold F_AC_keeper
  refine VO_aload hC d_AC_keeper_0 0 rfl ?_
  refine VO_callVV hC [] [] ml_AC_201 d_AC_keeper_1 yv_AC_holdToday sh_AC rfl rfl (fun o h => M_AC_holdToday hC.inj h) (by decide) rfl rfl (Nat.le_of_ble_eq_true rfl) (fun s1 => ?_)
  refine VO_ldc hC k_AC_255 d_AC_keeper_4 ?_
  refine VO_istore hC d_AC_keeper_6 [(0, .ref (gad G 0))] rfl (by decide) ?_
  refine VO_const hC d_AC_keeper_7 ?_
  refine VO_istore hC d_AC_keeper_9 [(1, .int (1000000 : Int32)), (0, .ref (gad G 0))] rfl (by decide) ?_
  refine VO_const hC d_AC_keeper_10 ?_
  refine VO_istore hC d_AC_keeper_11 [(2, .int (-9 : Int32)), (1, .int (1000000 : Int32)), (0, .ref (gad G 0))] rfl (by decide) ?_
  exact VO_sub [3, 2, 1, 0] rfl (B_AC_keeper_12 hC (1000000 : Int32) (-9 : Int32) (0 : Int32) s1)
set_option maxRecDepth 20000 in
theorem M_AC_keeper {l : Launch} {D : va_G} {ad : Nat → Nat} {cI cL : ClassId} (hj : Inj ad) {s : St} {o : Int32 × St} (h : F_AC_keeper s = some o) : Cn l D ad cI cL y_AC_keeper b_AC_keeper 6 (some .int) 7 [.ref (ad 0)] s (some (.int o.1)) o.2 := by
  refine Cn_ofI hj (plainFor_of_name (by decide)) (Nat.le_of_ble_eq_true rfl) [(0, .ref (ad 0))] rfl (fun G hC e1 e2 e3 e4 e5 hR => ?_)
  subst e1; subst e2; subst e3; subst e4; subst e5
  exact B_AC_keeper hC s o h hR
theorem d_AC_firstSwap_0 : PCi b_AC_firstSwap 0 0 1 := Or.inl ⟨0, by decide +kernel, by decide, rfl⟩
theorem d_AC_firstSwap_1 : PSi b_AC_firstSwap 1 1 2 := Or.inl ⟨1, by decide +kernel, rfl, rfl⟩
theorem d_AC_firstSwap_2 : PLi b_AC_firstSwap 2 1 3 := Or.inl ⟨1, by decide +kernel, rfl, rfl⟩
theorem d_AC_firstSwap_3 : PLa b_AC_firstSwap 3 0 4 := Or.inl ⟨0, by decide +kernel, rfl, rfl⟩
theorem d_AC_firstSwap_4 : DR b_AC_firstSwap 4 (.getfield 10) 3 7 := ⟨by decide +kernel, rfl⟩
theorem d_AC_firstSwap_7 : DR b_AC_firstSwap 7 (.getfield 164) 3 10 := ⟨by decide +kernel, rfl⟩
theorem d_AC_firstSwap_10 : DJ b_AC_firstSwap 10 (.if_icmp .ge) 13 141 := ⟨131, by decide +kernel, rfl, by decide⟩
theorem d_AC_firstSwap_13 : PLi b_AC_firstSwap 13 1 14 := Or.inl ⟨1, by decide +kernel, rfl, rfl⟩
theorem d_AC_firstSwap_14 : PCi b_AC_firstSwap 14 1 15 := Or.inl ⟨1, by decide +kernel, by decide, rfl⟩
theorem d_AC_firstSwap_15 : DR b_AC_firstSwap 15 (.iadd) 1 16 := ⟨by decide +kernel, rfl⟩
theorem d_AC_firstSwap_16 : PSi b_AC_firstSwap 16 2 17 := Or.inl ⟨2, by decide +kernel, rfl, rfl⟩
theorem d_AC_firstSwap_17 : PLi b_AC_firstSwap 17 2 18 := Or.inl ⟨2, by decide +kernel, rfl, rfl⟩
theorem d_AC_firstSwap_18 : PLa b_AC_firstSwap 18 0 19 := Or.inl ⟨0, by decide +kernel, rfl, rfl⟩
theorem d_AC_firstSwap_19 : DR b_AC_firstSwap 19 (.getfield 10) 3 22 := ⟨by decide +kernel, rfl⟩
theorem d_AC_firstSwap_22 : DR b_AC_firstSwap 22 (.getfield 164) 3 25 := ⟨by decide +kernel, rfl⟩
theorem d_AC_firstSwap_25 : DJ b_AC_firstSwap 25 (.if_icmp .ge) 28 135 := ⟨110, by decide +kernel, rfl, by decide⟩
theorem d_AC_firstSwap_28 : PLa b_AC_firstSwap 28 0 29 := Or.inl ⟨0, by decide +kernel, rfl, rfl⟩
theorem d_AC_firstSwap_29 : DR b_AC_firstSwap 29 (.getfield 59) 3 32 := ⟨by decide +kernel, rfl⟩
theorem d_AC_firstSwap_32 : DR b_AC_firstSwap 32 (.getfield 237) 3 35 := ⟨by decide +kernel, rfl⟩
theorem d_AC_firstSwap_35 : PLi b_AC_firstSwap 35 1 36 := Or.inl ⟨1, by decide +kernel, rfl, rfl⟩
theorem d_AC_firstSwap_36 : DR b_AC_firstSwap 36 (.invokestatic 122) 3 39 := ⟨by decide +kernel, rfl⟩
theorem d_AC_firstSwap_39 : PSi b_AC_firstSwap 39 3 40 := Or.inl ⟨3, by decide +kernel, rfl, rfl⟩
theorem d_AC_firstSwap_40 : PLa b_AC_firstSwap 40 0 41 := Or.inl ⟨0, by decide +kernel, rfl, rfl⟩
theorem d_AC_firstSwap_41 : DR b_AC_firstSwap 41 (.getfield 59) 3 44 := ⟨by decide +kernel, rfl⟩
theorem d_AC_firstSwap_44 : DR b_AC_firstSwap 44 (.getfield 237) 3 47 := ⟨by decide +kernel, rfl⟩
theorem d_AC_firstSwap_47 : PLi b_AC_firstSwap 47 2 48 := Or.inl ⟨2, by decide +kernel, rfl, rfl⟩
theorem d_AC_firstSwap_48 : DR b_AC_firstSwap 48 (.invokestatic 122) 3 51 := ⟨by decide +kernel, rfl⟩
theorem d_AC_firstSwap_51 : PSi b_AC_firstSwap 51 4 53 := Or.inr ⟨by decide +kernel, rfl⟩
theorem d_AC_firstSwap_53 : PLa b_AC_firstSwap 53 0 54 := Or.inl ⟨0, by decide +kernel, rfl, rfl⟩
theorem d_AC_firstSwap_54 : DR b_AC_firstSwap 54 (.getfield 10) 3 57 := ⟨by decide +kernel, rfl⟩
theorem d_AC_firstSwap_57 : PLi b_AC_firstSwap 57 1 58 := Or.inl ⟨1, by decide +kernel, rfl, rfl⟩
theorem d_AC_firstSwap_58 : PLi b_AC_firstSwap 58 4 60 := Or.inr ⟨by decide +kernel, rfl⟩
theorem d_AC_firstSwap_60 : DR b_AC_firstSwap 60 (.invokevirtual 314) 3 63 := ⟨by decide +kernel, rfl⟩
theorem d_AC_firstSwap_63 : DJ b_AC_firstSwap 63 (.ifCond .eq) 66 129 := ⟨66, by decide +kernel, rfl, by decide⟩
theorem d_AC_firstSwap_66 : PLa b_AC_firstSwap 66 0 67 := Or.inl ⟨0, by decide +kernel, rfl, rfl⟩
theorem d_AC_firstSwap_67 : DR b_AC_firstSwap 67 (.getfield 10) 3 70 := ⟨by decide +kernel, rfl⟩
theorem d_AC_firstSwap_70 : PLi b_AC_firstSwap 70 2 71 := Or.inl ⟨2, by decide +kernel, rfl, rfl⟩
theorem d_AC_firstSwap_71 : PLi b_AC_firstSwap 71 3 72 := Or.inl ⟨3, by decide +kernel, rfl, rfl⟩
theorem d_AC_firstSwap_72 : DR b_AC_firstSwap 72 (.invokevirtual 314) 3 75 := ⟨by decide +kernel, rfl⟩
theorem d_AC_firstSwap_75 : DJ b_AC_firstSwap 75 (.ifCond .eq) 78 129 := ⟨54, by decide +kernel, rfl, by decide⟩
theorem d_AC_firstSwap_78 : PLa b_AC_firstSwap 78 0 79 := Or.inl ⟨0, by decide +kernel, rfl, rfl⟩
theorem d_AC_firstSwap_79 : DR b_AC_firstSwap 79 (.getfield 10) 3 82 := ⟨by decide +kernel, rfl⟩
theorem d_AC_firstSwap_82 : PLi b_AC_firstSwap 82 1 83 := Or.inl ⟨1, by decide +kernel, rfl, rfl⟩
theorem d_AC_firstSwap_83 : PLi b_AC_firstSwap 83 4 85 := Or.inr ⟨by decide +kernel, rfl⟩
theorem d_AC_firstSwap_85 : DR b_AC_firstSwap 85 (.invokevirtual 153) 3 88 := ⟨by decide +kernel, rfl⟩
theorem d_AC_firstSwap_88 : PLa b_AC_firstSwap 88 0 89 := Or.inl ⟨0, by decide +kernel, rfl, rfl⟩
theorem d_AC_firstSwap_89 : DR b_AC_firstSwap 89 (.getfield 10) 3 92 := ⟨by decide +kernel, rfl⟩
theorem d_AC_firstSwap_92 : PLi b_AC_firstSwap 92 1 93 := Or.inl ⟨1, by decide +kernel, rfl, rfl⟩
theorem d_AC_firstSwap_93 : PLi b_AC_firstSwap 93 3 94 := Or.inl ⟨3, by decide +kernel, rfl, rfl⟩
theorem d_AC_firstSwap_94 : DR b_AC_firstSwap 94 (.invokevirtual 153) 3 97 := ⟨by decide +kernel, rfl⟩
theorem d_AC_firstSwap_97 : DJ b_AC_firstSwap 97 (.if_icmp .ge) 100 129 := ⟨32, by decide +kernel, rfl, by decide⟩
theorem d_AC_firstSwap_100 : PLa b_AC_firstSwap 100 0 101 := Or.inl ⟨0, by decide +kernel, rfl, rfl⟩
theorem d_AC_firstSwap_101 : DR b_AC_firstSwap 101 (.getfield 10) 3 104 := ⟨by decide +kernel, rfl⟩
theorem d_AC_firstSwap_104 : PLi b_AC_firstSwap 104 2 105 := Or.inl ⟨2, by decide +kernel, rfl, rfl⟩
theorem d_AC_firstSwap_105 : PLi b_AC_firstSwap 105 3 106 := Or.inl ⟨3, by decide +kernel, rfl, rfl⟩
theorem d_AC_firstSwap_106 : DR b_AC_firstSwap 106 (.invokevirtual 153) 3 109 := ⟨by decide +kernel, rfl⟩
theorem d_AC_firstSwap_109 : PLa b_AC_firstSwap 109 0 110 := Or.inl ⟨0, by decide +kernel, rfl, rfl⟩
theorem d_AC_firstSwap_110 : DR b_AC_firstSwap 110 (.getfield 10) 3 113 := ⟨by decide +kernel, rfl⟩
theorem d_AC_firstSwap_113 : PLi b_AC_firstSwap 113 2 114 := Or.inl ⟨2, by decide +kernel, rfl, rfl⟩
theorem d_AC_firstSwap_114 : PLi b_AC_firstSwap 114 4 116 := Or.inr ⟨by decide +kernel, rfl⟩
theorem d_AC_firstSwap_116 : DR b_AC_firstSwap 116 (.invokevirtual 153) 3 119 := ⟨by decide +kernel, rfl⟩
theorem d_AC_firstSwap_119 : DJ b_AC_firstSwap 119 (.if_icmp .ge) 122 129 := ⟨10, by decide +kernel, rfl, by decide⟩
theorem d_AC_firstSwap_122 : PCi b_AC_firstSwap 122 10 124 := Or.inr (Or.inl ⟨10, by decide +kernel, by decide, rfl⟩)
theorem d_AC_firstSwap_124 : PLi b_AC_firstSwap 124 1 125 := Or.inl ⟨1, by decide +kernel, rfl, rfl⟩
theorem d_AC_firstSwap_125 : DR b_AC_firstSwap 125 (.imul) 1 126 := ⟨by decide +kernel, rfl⟩
theorem d_AC_firstSwap_126 : PLi b_AC_firstSwap 126 2 127 := Or.inl ⟨2, by decide +kernel, rfl, rfl⟩
theorem d_AC_firstSwap_127 : DR b_AC_firstSwap 127 (.iadd) 1 128 := ⟨by decide +kernel, rfl⟩
theorem d_AC_firstSwap_128 : DR b_AC_firstSwap 128 (.ireturn) 1 129 := ⟨by decide +kernel, rfl⟩
theorem d_AC_firstSwap_129 : DR b_AC_firstSwap 129 (.iinc 2 1) 3 132 := ⟨by decide +kernel, rfl⟩
theorem d_AC_firstSwap_132 : DJ b_AC_firstSwap 132 .goto 135 17 := ⟨-115, by decide +kernel, rfl, by decide⟩
theorem d_AC_firstSwap_135 : DR b_AC_firstSwap 135 (.iinc 1 1) 3 138 := ⟨by decide +kernel, rfl⟩
theorem d_AC_firstSwap_138 : DJ b_AC_firstSwap 138 .goto 141 2 := ⟨-136, by decide +kernel, rfl, by decide⟩
theorem d_AC_firstSwap_141 : PCi b_AC_firstSwap 141 (-9) 143 := Or.inr (Or.inl ⟨(-9), by decide +kernel, by decide, rfl⟩)
theorem d_AC_firstSwap_143 : DR b_AC_firstSwap 143 (.ireturn) 1 144 := ⟨by decide +kernel, rfl⟩
set_option maxRecDepth 20000 in
theorem B_AC_firstSwap_129 {G : MCx} (hC : C0 G "AccusedChoose" b_AC_firstSwap 5 4) {v1 : Int32} (K2 : Int32 × St → Option (Int32 × St)) (hK2 : ∀ (w1 : Int32) (s : St), VO G (RI G b_AC_firstSwap) (K2 (w1, s)) 2 [(0, .ref (gad G 0)), (1, .int w1)] [] s) (K17 : Int32 × St → Option (Int32 × St)) (hK17 : ∀ (w2 : Int32) (s : St), VO G (RI G b_AC_firstSwap) (K17 (w2, s)) 17 [(0, .ref (gad G 0)), (1, .int v1), (2, .int w2)] [] s) (v2 : Int32) (s : St) : VO G (RI G b_AC_firstSwap) (F_AC_firstSwap_129 K2 K17 v1 v2 s) 129 [(0, .ref (gad G 0)), (1, .int v1), (2, .int v2)] [] s := by
  unfold F_AC_firstSwap_129
  refine VO_iinc hC d_AC_firstSwap_129 2 rfl (by decide : Int32.ofInt 1 = 1) [(0, .ref (gad G 0)), (1, .int v1)] rfl (by decide) ?_
  refine VO_goto hC d_AC_firstSwap_132 ?_
  exact VO_sub [1, 2, 0] rfl (hK17 (v2 + 1) s)
set_option maxRecDepth 20000 in
theorem BH_AC_firstSwap_17 {G : MCx} (hC : C0 G "AccusedChoose" b_AC_firstSwap 5 4) {v1 : Int32} (K2 : Int32 × St → Option (Int32 × St)) (hK2 : ∀ (w1 : Int32) (s : St), VO G (RI G b_AC_firstSwap) (K2 (w1, s)) 2 [(0, .ref (gad G 0)), (1, .int w1)] [] s) (K17 : Int32 × St → Option (Int32 × St)) (hK17 : ∀ (w2 : Int32) (s : St), VO G (RI G b_AC_firstSwap) (K17 (w2, s)) 17 [(0, .ref (gad G 0)), (1, .int v1), (2, .int w2)] [] s) (v2 : Int32) (s : St) : VO G (RI G b_AC_firstSwap) (H_AC_firstSwap_17 K2 v1 K17 v2 s) 17 [(0, .ref (gad G 0)), (1, .int v1), (2, .int v2)] [] s := by
  unfold H_AC_firstSwap_17
  refine VO_iload hC d_AC_firstSwap_17 2 rfl ?_
  refine VO_aload hC d_AC_firstSwap_18 0 rfl ?_
  refine VO_getr (r := 1) hC fl_AC_10 sh_AC rfl d_AC_firstSwap_19 ?_
  refine VO_geti hC fl_AC_164 (sh_NI isNI_1) rfl d_AC_firstSwap_22 ?_
  refine VO_icmp_ge hC d_AC_firstSwap_25 (fun _ => ?_) (fun _ => ?_)
  · refine VO_iinc hC d_AC_firstSwap_135 1 rfl (by decide : Int32.ofInt 1 = 1) [(0, .ref (gad G 0)), (2, .int v2)] rfl (by decide) ?_
    refine VO_goto hC d_AC_firstSwap_138 ?_
    exact VO_sub [1, 0] rfl (hK2 (v1 + 1) s)
  · refine VO_aload hC d_AC_firstSwap_28 0 rfl ?_
    refine VO_getr (r := 46) hC fl_AC_59 sh_AC rfl d_AC_firstSwap_29 ?_
    refine VO_getr (r := 47) hC fl_AC_237 sh_LB rfl d_AC_firstSwap_32 ?_
    refine VO_iload hC d_AC_firstSwap_35 1 rfl ?_
    refine VO_callSI hC [.ref (gad G 47), .int v1] [] ml_AC_122 d_AC_firstSwap_36 ys_AC_at (fun o h => M_AC_at hC.inj ia_47 h) (by decide) rfl rfl (Nat.le_of_ble_eq_true rfl) (fun o2 => ?_)
    refine VO_istore hC d_AC_firstSwap_39 [(0, .ref (gad G 0)), (1, .int v1), (2, .int v2)] rfl (by decide) ?_
    refine VO_aload hC d_AC_firstSwap_40 1 rfl ?_
    refine VO_getr (r := 46) hC fl_AC_59 sh_AC rfl d_AC_firstSwap_41 ?_
    refine VO_getr (r := 47) hC fl_AC_237 sh_LB rfl d_AC_firstSwap_44 ?_
    refine VO_iload hC d_AC_firstSwap_47 3 rfl ?_
    refine VO_callSI hC [.ref (gad G 47), .int v2] [] ml_AC_122 d_AC_firstSwap_48 ys_AC_at (fun o h => M_AC_at hC.inj ia_47 h) (by decide) rfl rfl (Nat.le_of_ble_eq_true rfl) (fun o3 => ?_)
    refine VO_istore hC d_AC_firstSwap_51 [(3, .int o2.1), (0, .ref (gad G 0)), (1, .int v1), (2, .int v2)] rfl (by decide) ?_
    refine VO_aload hC d_AC_firstSwap_53 2 rfl ?_
    refine VO_getr (r := 1) hC fl_AC_10 sh_AC rfl d_AC_firstSwap_54 ?_
    refine VO_iload hC d_AC_firstSwap_57 3 rfl ?_
    refine VO_iload hC d_AC_firstSwap_58 0 rfl ?_
    refine VO_callVI hC [.int v1, .int o3.1] [] ml_AC_314 d_AC_firstSwap_60 yv_NI_may (sh_NI isNI_1) rfl rfl (fun o h => M_NI_may hC.inj isNI_1 h) (by decide) rfl rfl (Nat.le_of_ble_eq_true rfl) (fun o4 => ?_)
    refine VO_if_eq hC d_AC_firstSwap_63 (fun _ => ?_) (fun _ => ?_)
    · exact VO_sub [2, 3, 4] rfl (B_AC_firstSwap_129 hC K2 hK2 K17 hK17 v2 o4.2)
    · refine VO_aload hC d_AC_firstSwap_66 2 rfl ?_
      refine VO_getr (r := 1) hC fl_AC_10 sh_AC rfl d_AC_firstSwap_67 ?_
      refine VO_iload hC d_AC_firstSwap_70 4 rfl ?_
      refine VO_iload hC d_AC_firstSwap_71 1 rfl ?_
      refine VO_callVI hC [.int v2, .int o2.1] [] ml_AC_314 d_AC_firstSwap_72 yv_NI_may (sh_NI isNI_1) rfl rfl (fun o h => M_NI_may hC.inj isNI_1 h) (by decide) rfl rfl (Nat.le_of_ble_eq_true rfl) (fun o5 => ?_)
      refine VO_if_eq hC d_AC_firstSwap_75 (fun _ => ?_) (fun _ => ?_)
      · exact VO_sub [2, 3, 4] rfl (B_AC_firstSwap_129 hC K2 hK2 K17 hK17 v2 o5.2)
      · refine VO_aload hC d_AC_firstSwap_78 2 rfl ?_
        refine VO_getr (r := 1) hC fl_AC_10 sh_AC rfl d_AC_firstSwap_79 ?_
        refine VO_iload hC d_AC_firstSwap_82 3 rfl ?_
        refine VO_iload hC d_AC_firstSwap_83 0 rfl ?_
        refine VO_callVI hC [.int v1, .int o3.1] [] ml_AC_153 d_AC_firstSwap_85 yv_NI_monthsFor (sh_NI isNI_1) rfl rfl (fun o h => M_NI_monthsFor hC.inj isNI_1 h) (by decide) rfl rfl (Nat.le_of_ble_eq_true rfl) (fun o6 => ?_)
        refine VO_aload hC d_AC_firstSwap_88 2 rfl ?_
        refine VO_getr (r := 1) hC fl_AC_10 sh_AC rfl d_AC_firstSwap_89 ?_
        refine VO_iload hC d_AC_firstSwap_92 3 rfl ?_
        refine VO_iload hC d_AC_firstSwap_93 1 rfl ?_
        refine VO_callVI hC [.int v1, .int o2.1] [.int o6.1] ml_AC_153 d_AC_firstSwap_94 yv_NI_monthsFor (sh_NI isNI_1) rfl rfl (fun o h => M_NI_monthsFor hC.inj isNI_1 h) (by decide) rfl rfl (Nat.le_of_ble_eq_true rfl) (fun o7 => ?_)
        refine VO_icmp_ge hC d_AC_firstSwap_97 (fun _ => ?_) (fun _ => ?_)
        · exact VO_sub [2, 3, 4] rfl (B_AC_firstSwap_129 hC K2 hK2 K17 hK17 v2 o7.2)
        · refine VO_aload hC d_AC_firstSwap_100 2 rfl ?_
          refine VO_getr (r := 1) hC fl_AC_10 sh_AC rfl d_AC_firstSwap_101 ?_
          refine VO_iload hC d_AC_firstSwap_104 4 rfl ?_
          refine VO_iload hC d_AC_firstSwap_105 1 rfl ?_
          refine VO_callVI hC [.int v2, .int o2.1] [] ml_AC_153 d_AC_firstSwap_106 yv_NI_monthsFor (sh_NI isNI_1) rfl rfl (fun o h => M_NI_monthsFor hC.inj isNI_1 h) (by decide) rfl rfl (Nat.le_of_ble_eq_true rfl) (fun o8 => ?_)
          refine VO_aload hC d_AC_firstSwap_109 2 rfl ?_
          refine VO_getr (r := 1) hC fl_AC_10 sh_AC rfl d_AC_firstSwap_110 ?_
          refine VO_iload hC d_AC_firstSwap_113 4 rfl ?_
          refine VO_iload hC d_AC_firstSwap_114 0 rfl ?_
          refine VO_callVI hC [.int v2, .int o3.1] [.int o8.1] ml_AC_153 d_AC_firstSwap_116 yv_NI_monthsFor (sh_NI isNI_1) rfl rfl (fun o h => M_NI_monthsFor hC.inj isNI_1 h) (by decide) rfl rfl (Nat.le_of_ble_eq_true rfl) (fun o9 => ?_)
          refine VO_icmp_ge hC d_AC_firstSwap_119 (fun _ => ?_) (fun _ => ?_)
          · exact VO_sub [2, 3, 4] rfl (B_AC_firstSwap_129 hC K2 hK2 K17 hK17 v2 o9.2)
          · refine VO_const hC d_AC_firstSwap_122 ?_
            refine VO_iload hC d_AC_firstSwap_124 3 rfl ?_
            refine VO_imul hC d_AC_firstSwap_125 ?_
            refine VO_iload hC d_AC_firstSwap_126 4 rfl ?_
            refine VO_iadd hC d_AC_firstSwap_127 ?_
            exact VO_ireturn d_AC_firstSwap_128
set_option maxRecDepth 20000 in
theorem B_AC_firstSwap_17 {G : MCx} (hC : C0 G "AccusedChoose" b_AC_firstSwap 5 4) (K2 : Int32 × St → Option (Int32 × St)) (hK2 : ∀ (w1 : Int32) (s : St), VO G (RI G b_AC_firstSwap) (K2 (w1, s)) 2 [(0, .ref (gad G 0)), (1, .int w1)] [] s) (v1 : Int32) (v2 : Int32) (s : St) : VO G (RI G b_AC_firstSwap) (F_AC_firstSwap_17 K2 v1 v2 s) 17 [(0, .ref (gad G 0)), (1, .int v1), (2, .int v2)] [] s := by
  exact VO_fix (G_AC_firstSwap_17 K2 v1) 17 (fun q => [(0, .ref (gad G 0)), (1, .int v1), (2, .int q.1)]) (fun q => q.2) (fun K hK q => BH_AC_firstSwap_17 hC K2 hK2 K (fun w2 s => hK (w2, s)) q.1 q.2) FUEL (v2, s)
set_option maxRecDepth 20000 in
theorem BH_AC_firstSwap_2 {G : MCx} (hC : C0 G "AccusedChoose" b_AC_firstSwap 5 4) (K2 : Int32 × St → Option (Int32 × St)) (hK2 : ∀ (w1 : Int32) (s : St), VO G (RI G b_AC_firstSwap) (K2 (w1, s)) 2 [(0, .ref (gad G 0)), (1, .int w1)] [] s) (v1 : Int32) (s : St) : VO G (RI G b_AC_firstSwap) (H_AC_firstSwap_2 K2 v1 s) 2 [(0, .ref (gad G 0)), (1, .int v1)] [] s := by
  unfold H_AC_firstSwap_2
  refine VO_iload hC d_AC_firstSwap_2 1 rfl ?_
  refine VO_aload hC d_AC_firstSwap_3 0 rfl ?_
  refine VO_getr (r := 1) hC fl_AC_10 sh_AC rfl d_AC_firstSwap_4 ?_
  refine VO_geti hC fl_AC_164 (sh_NI isNI_1) rfl d_AC_firstSwap_7 ?_
  refine VO_icmp_ge hC d_AC_firstSwap_10 (fun _ => ?_) (fun _ => ?_)
  · refine VO_const hC d_AC_firstSwap_141 ?_
    exact VO_ireturn d_AC_firstSwap_143
  · refine VO_iload hC d_AC_firstSwap_13 1 rfl ?_
    refine VO_const hC d_AC_firstSwap_14 ?_
    refine VO_iadd hC d_AC_firstSwap_15 ?_
    refine VO_istoreB hC d_AC_firstSwap_16 [(0, .ref (gad G 0)), (1, .int v1)] rfl (by decide) (fun x1 => ?_)
    exact VO_sub [1, 2, 0] rfl (B_AC_firstSwap_17 hC K2 hK2 v1 x1 s)
set_option maxRecDepth 20000 in
theorem B_AC_firstSwap_2 {G : MCx} (hC : C0 G "AccusedChoose" b_AC_firstSwap 5 4) (v1 : Int32) (s : St) : VO G (RI G b_AC_firstSwap) (F_AC_firstSwap_2 v1 s) 2 [(0, .ref (gad G 0)), (1, .int v1)] [] s := by
  exact VO_fix (G_AC_firstSwap_2) 2 (fun q => [(0, .ref (gad G 0)), (1, .int q.1)]) (fun q => q.2) (fun K hK q => BH_AC_firstSwap_2 hC K (fun w1 s => hK (w1, s)) q.1 q.2) FUEL (v1, s)
set_option maxRecDepth 20000 in
theorem B_AC_firstSwap {G : MCx} (hC : C0 G "AccusedChoose" b_AC_firstSwap 5 4) (s : St) : VO G (RI G b_AC_firstSwap) (F_AC_firstSwap s) 0 [(0, .ref (gad G 0))] [] s := by
  unfold F_AC_firstSwap
  refine VO_const hC d_AC_firstSwap_0 ?_
  refine VO_istore hC d_AC_firstSwap_1 [(0, .ref (gad G 0))] rfl (by decide) ?_
  exact VO_sub [1, 0] rfl (B_AC_firstSwap_2 hC (0 : Int32) s)
set_option maxRecDepth 20000 in
theorem M_AC_firstSwap {l : Launch} {D : va_G} {ad : Nat → Nat} {cI cL : ClassId} (hj : Inj ad) {s : St} {o : Int32 × St} (h : F_AC_firstSwap s = some o) : Cn l D ad cI cL y_AC_firstSwap b_AC_firstSwap 5 (some .int) 4 [.ref (ad 0)] s (some (.int o.1)) o.2 := by
  refine Cn_ofI hj (plainFor_of_name (by decide)) (Nat.le_of_ble_eq_true rfl) [(0, .ref (ad 0))] rfl (fun G hC e1 e2 e3 e4 e5 hR => ?_)
  subst e1; subst e2; subst e3; subst e4; subst e5
  exact B_AC_firstSwap hC s o h hR
theorem d_AC_swaps_0 : PLi b_AC_swaps 0 1 1 := Or.inl ⟨1, by decide +kernel, rfl, rfl⟩
theorem d_AC_swaps_1 : DJ b_AC_swaps 1 (.ifCond .lt) 4 9 := ⟨8, by decide +kernel, rfl, by decide⟩
theorem d_AC_swaps_4 : PLi b_AC_swaps 4 1 5 := Or.inl ⟨1, by decide +kernel, rfl, rfl⟩
theorem d_AC_swaps_5 : PCi b_AC_swaps 5 1 6 := Or.inl ⟨1, by decide +kernel, by decide, rfl⟩
theorem d_AC_swaps_6 : DJ b_AC_swaps 6 (.if_icmp .le) 9 16 := ⟨10, by decide +kernel, rfl, by decide⟩
theorem d_AC_swaps_9 : PLa b_AC_swaps 9 0 10 := Or.inl ⟨0, by decide +kernel, rfl, rfl⟩
theorem d_AC_swaps_10 : PCi b_AC_swaps 10 (-2) 12 := Or.inr (Or.inl ⟨(-2), by decide +kernel, by decide, rfl⟩)
theorem d_AC_swaps_12 : DR b_AC_swaps 12 (.invokevirtual 90) 3 15 := ⟨by decide +kernel, rfl⟩
theorem d_AC_swaps_15 : DR b_AC_swaps 15 (.ireturn) 1 16 := ⟨by decide +kernel, rfl⟩
theorem d_AC_swaps_16 : PLa b_AC_swaps 16 0 17 := Or.inl ⟨0, by decide +kernel, rfl, rfl⟩
theorem d_AC_swaps_17 : DR b_AC_swaps 17 (.getfield 39) 3 20 := ⟨by decide +kernel, rfl⟩
theorem d_AC_swaps_20 : PLa b_AC_swaps 20 0 21 := Or.inl ⟨0, by decide +kernel, rfl, rfl⟩
theorem d_AC_swaps_21 : DR b_AC_swaps 21 (.getfield 10) 3 24 := ⟨by decide +kernel, rfl⟩
theorem d_AC_swaps_24 : DR b_AC_swaps 24 (.invokevirtual 219) 3 27 := ⟨by decide +kernel, rfl⟩
theorem d_AC_swaps_27 : PLa b_AC_swaps 27 0 28 := Or.inl ⟨0, by decide +kernel, rfl, rfl⟩
theorem d_AC_swaps_28 : DR b_AC_swaps 28 (.getfield 59) 3 31 := ⟨by decide +kernel, rfl⟩
theorem d_AC_swaps_31 : PLa b_AC_swaps 31 0 32 := Or.inl ⟨0, by decide +kernel, rfl, rfl⟩
theorem d_AC_swaps_32 : DR b_AC_swaps 32 (.getfield 39) 3 35 := ⟨by decide +kernel, rfl⟩
theorem d_AC_swaps_35 : PLa b_AC_swaps 35 0 36 := Or.inl ⟨0, by decide +kernel, rfl, rfl⟩
theorem d_AC_swaps_36 : DR b_AC_swaps 36 (.getfield 10) 3 39 := ⟨by decide +kernel, rfl⟩
theorem d_AC_swaps_39 : DR b_AC_swaps 39 (.invokevirtual 233) 3 42 := ⟨by decide +kernel, rfl⟩
theorem d_AC_swaps_42 : PLa b_AC_swaps 42 0 43 := Or.inl ⟨0, by decide +kernel, rfl, rfl⟩
theorem d_AC_swaps_43 : DR b_AC_swaps 43 (.invokevirtual 307) 3 46 := ⟨by decide +kernel, rfl⟩
theorem d_AC_swaps_46 : PSi b_AC_swaps 46 2 47 := Or.inl ⟨2, by decide +kernel, rfl, rfl⟩
theorem d_AC_swaps_47 : PLi b_AC_swaps 47 1 48 := Or.inl ⟨1, by decide +kernel, rfl, rfl⟩
theorem d_AC_swaps_48 : DJ b_AC_swaps 48 (.ifCond .ne) 51 53 := ⟨5, by decide +kernel, rfl, by decide⟩
theorem d_AC_swaps_51 : PLi b_AC_swaps 51 2 52 := Or.inl ⟨2, by decide +kernel, rfl, rfl⟩
theorem d_AC_swaps_52 : DR b_AC_swaps 52 (.ireturn) 1 53 := ⟨by decide +kernel, rfl⟩
theorem d_AC_swaps_53 : PLi b_AC_swaps 53 2 54 := Or.inl ⟨2, by decide +kernel, rfl, rfl⟩
theorem d_AC_swaps_54 : PCi b_AC_swaps 54 (-9) 56 := Or.inr (Or.inl ⟨(-9), by decide +kernel, by decide, rfl⟩)
theorem d_AC_swaps_56 : DJ b_AC_swaps 56 (.if_icmp .ne) 59 63 := ⟨7, by decide +kernel, rfl, by decide⟩
theorem d_AC_swaps_59 : PCi b_AC_swaps 59 1 60 := Or.inl ⟨1, by decide +kernel, by decide, rfl⟩
theorem d_AC_swaps_60 : DJ b_AC_swaps 60 .goto 63 64 := ⟨4, by decide +kernel, rfl, by decide⟩
theorem d_AC_swaps_63 : PCi b_AC_swaps 63 0 64 := Or.inl ⟨0, by decide +kernel, by decide, rfl⟩
theorem d_AC_swaps_64 : DR b_AC_swaps 64 (.ireturn) 1 65 := ⟨by decide +kernel, rfl⟩
set_option maxRecDepth 20000 in
theorem B_AC_swaps_9 {G : MCx} (hC : C0 G "AccusedChoose" b_AC_swaps 3 22) (s : St) : VO G (RI G b_AC_swaps) (F_AC_swaps_9 s) 9 [(0, .ref (gad G 0))] [] s := by
  unfold F_AC_swaps_9
  refine VO_aload hC d_AC_swaps_9 0 rfl ?_
  refine VO_const hC d_AC_swaps_10 ?_
  refine VO_callVI hC [.int (-2 : Int32)] [] ml_AC_90 d_AC_swaps_12 yv_AC_refuse sh_AC rfl rfl (fun o h => M_AC_refuse hC.inj h) (by decide) rfl rfl (Nat.le_of_ble_eq_true rfl) (fun o1 => ?_)
  exact VO_ireturn d_AC_swaps_15
set_option maxRecDepth 20000 in
theorem B_AC_swaps {G : MCx} (hC : C0 G "AccusedChoose" b_AC_swaps 3 22) (a1 : Int32) (s : St) : VO G (RI G b_AC_swaps) (F_AC_swaps a1 s) 0 [(0, .ref (gad G 0)), (1, .int a1)] [] s := by
  unfold F_AC_swaps
  refine VO_iload hC d_AC_swaps_0 1 rfl ?_
  refine VO_if_lt hC d_AC_swaps_1 (fun _ => ?_) (fun _ => ?_)
  · exact VO_sub [0] rfl (B_AC_swaps_9 hC s)
  · refine VO_iload hC d_AC_swaps_4 1 rfl ?_
    refine VO_const hC d_AC_swaps_5 ?_
    refine VO_icmp_le hC d_AC_swaps_6 (fun _ => ?_) (fun _ => ?_)
    · refine VO_aload hC d_AC_swaps_16 0 rfl ?_
      refine VO_getr (r := 36) hC fl_AC_39 sh_AC rfl d_AC_swaps_17 ?_
      refine VO_aload hC d_AC_swaps_20 0 rfl ?_
      refine VO_getr (r := 1) hC fl_AC_10 sh_AC rfl d_AC_swaps_21 ?_
      refine VO_callVV hC [.ref (gad G 1)] [] ml_AC_219 d_AC_swaps_24 yv_PR_fill (sh_PR isPR_36) rfl rfl (fun o h => M_PR_fill hC.inj isPR_36 isNI_1 h) (by decide) rfl rfl (Nat.le_of_ble_eq_true rfl) (fun s2 => ?_)
      refine VO_aload hC d_AC_swaps_27 0 rfl ?_
      refine VO_getr (r := 46) hC fl_AC_59 sh_AC rfl d_AC_swaps_28 ?_
      refine VO_aload hC d_AC_swaps_31 0 rfl ?_
      refine VO_getr (r := 36) hC fl_AC_39 sh_AC rfl d_AC_swaps_32 ?_
      refine VO_aload hC d_AC_swaps_35 0 rfl ?_
      refine VO_getr (r := 1) hC fl_AC_10 sh_AC rfl d_AC_swaps_36 ?_
      refine VO_callVV hC [.ref (gad G 36), .ref (gad G 1)] [] ml_AC_233 d_AC_swaps_39 yv_LB_hold sh_LB rfl rfl (fun o h => M_LB_hold hC.inj isPR_36 isNI_1 h) (by decide) rfl rfl (Nat.le_of_ble_eq_true rfl) (fun s3 => ?_)
      refine VO_aload hC d_AC_swaps_42 0 rfl ?_
      refine VO_callVI hC [] [] ml_AC_307 d_AC_swaps_43 yv_AC_firstSwap sh_AC rfl rfl (fun o h => M_AC_firstSwap hC.inj h) (by decide) rfl rfl (Nat.le_of_ble_eq_true rfl) (fun o4 => ?_)
      refine VO_istore hC d_AC_swaps_46 [(0, .ref (gad G 0)), (1, .int a1)] rfl (by decide) ?_
      refine VO_iload hC d_AC_swaps_47 2 rfl ?_
      refine VO_if_ne hC d_AC_swaps_48 (fun _ => ?_) (fun _ => ?_)
      · refine VO_iload hC d_AC_swaps_51 0 rfl ?_
        exact VO_ireturn d_AC_swaps_52
      · refine VO_iload hC d_AC_swaps_53 0 rfl ?_
        refine VO_const hC d_AC_swaps_54 ?_
        refine VO_icmp_ne hC d_AC_swaps_56 (fun _ => ?_) (fun _ => ?_)
        · refine VO_const hC d_AC_swaps_59 ?_
          refine VO_goto hC d_AC_swaps_60 ?_
          exact VO_ireturn d_AC_swaps_64
        · refine VO_const hC d_AC_swaps_63 ?_
          exact VO_ireturn d_AC_swaps_64
    · exact VO_sub [0] rfl (B_AC_swaps_9 hC s)
set_option maxRecDepth 20000 in
theorem M_AC_swaps {l : Launch} {D : va_G} {ad : Nat → Nat} {cI cL : ClassId} (hj : Inj ad) {a1 : Int32} {s : St} {o : Int32 × St} (h : F_AC_swaps a1 s = some o) : Cn l D ad cI cL y_AC_swaps b_AC_swaps 3 (some .int) 22 [.ref (ad 0), .int a1] s (some (.int o.1)) o.2 := by
  refine Cn_ofI hj (plainFor_of_name (by decide)) (Nat.le_of_ble_eq_true rfl) [(0, .ref (ad 0)), (1, .int a1)] rfl (fun G hC e1 e2 e3 e4 e5 hR => ?_)
  subst e1; subst e2; subst e3; subst e4; subst e5
  exact B_AC_swaps hC a1 s o h hR
theorem d_AC_heavier_0 : PLa b_AC_heavier 0 0 1 := Or.inl ⟨0, by decide +kernel, rfl, rfl⟩
theorem d_AC_heavier_1 : DR b_AC_heavier 1 (.getfield 10) 3 4 := ⟨by decide +kernel, rfl⟩
theorem d_AC_heavier_4 : PLi b_AC_heavier 4 1 5 := Or.inl ⟨1, by decide +kernel, rfl, rfl⟩
theorem d_AC_heavier_5 : DR b_AC_heavier 5 (.invokevirtual 129) 3 8 := ⟨by decide +kernel, rfl⟩
theorem d_AC_heavier_8 : DJ b_AC_heavier 8 (.ifCond .eq) 11 22 := ⟨14, by decide +kernel, rfl, by decide⟩
theorem d_AC_heavier_11 : PLa b_AC_heavier 11 0 12 := Or.inl ⟨0, by decide +kernel, rfl, rfl⟩
theorem d_AC_heavier_12 : DR b_AC_heavier 12 (.getfield 10) 3 15 := ⟨by decide +kernel, rfl⟩
theorem d_AC_heavier_15 : PLi b_AC_heavier 15 2 16 := Or.inl ⟨2, by decide +kernel, rfl, rfl⟩
theorem d_AC_heavier_16 : DR b_AC_heavier 16 (.invokevirtual 115) 3 19 := ⟨by decide +kernel, rfl⟩
theorem d_AC_heavier_19 : DJ b_AC_heavier 19 (.ifCond .ne) 22 28 := ⟨9, by decide +kernel, rfl, by decide⟩
theorem d_AC_heavier_22 : PLa b_AC_heavier 22 0 23 := Or.inl ⟨0, by decide +kernel, rfl, rfl⟩
theorem d_AC_heavier_23 : PCi b_AC_heavier 23 (-1) 24 := Or.inl ⟨(-1), by decide +kernel, by decide, rfl⟩
theorem d_AC_heavier_24 : DR b_AC_heavier 24 (.invokevirtual 90) 3 27 := ⟨by decide +kernel, rfl⟩
theorem d_AC_heavier_27 : DR b_AC_heavier 27 (.ireturn) 1 28 := ⟨by decide +kernel, rfl⟩
theorem d_AC_heavier_28 : PLa b_AC_heavier 28 0 29 := Or.inl ⟨0, by decide +kernel, rfl, rfl⟩
theorem d_AC_heavier_29 : DR b_AC_heavier 29 (.getfield 19) 3 32 := ⟨by decide +kernel, rfl⟩
theorem d_AC_heavier_32 : PLa b_AC_heavier 32 0 33 := Or.inl ⟨0, by decide +kernel, rfl, rfl⟩
theorem d_AC_heavier_33 : DR b_AC_heavier 33 (.getfield 10) 3 36 := ⟨by decide +kernel, rfl⟩
theorem d_AC_heavier_36 : DR b_AC_heavier 36 (.invokevirtual 101) 3 39 := ⟨by decide +kernel, rfl⟩
theorem d_AC_heavier_39 : PCi b_AC_heavier 39 9 41 := Or.inr (Or.inl ⟨9, by decide +kernel, by decide, rfl⟩)
theorem d_AC_heavier_41 : PSi b_AC_heavier 41 3 42 := Or.inl ⟨3, by decide +kernel, rfl, rfl⟩
theorem d_AC_heavier_42 : PLi b_AC_heavier 42 3 43 := Or.inl ⟨3, by decide +kernel, rfl, rfl⟩
theorem d_AC_heavier_43 : DJ b_AC_heavier 43 (.ifCond .lt) 46 86 := ⟨43, by decide +kernel, rfl, by decide⟩
theorem d_AC_heavier_46 : PLa b_AC_heavier 46 0 47 := Or.inl ⟨0, by decide +kernel, rfl, rfl⟩
theorem d_AC_heavier_47 : DR b_AC_heavier 47 (.getfield 19) 3 50 := ⟨by decide +kernel, rfl⟩
theorem d_AC_heavier_50 : DR b_AC_heavier 50 (.getfield 126) 3 53 := ⟨by decide +kernel, rfl⟩
theorem d_AC_heavier_53 : PLi b_AC_heavier 53 2 54 := Or.inl ⟨2, by decide +kernel, rfl, rfl⟩
theorem d_AC_heavier_54 : PLi b_AC_heavier 54 3 55 := Or.inl ⟨3, by decide +kernel, rfl, rfl⟩
theorem d_AC_heavier_55 : DR b_AC_heavier 55 (.invokestatic 310) 3 58 := ⟨by decide +kernel, rfl⟩
theorem d_AC_heavier_58 : PLa b_AC_heavier 58 0 59 := Or.inl ⟨0, by decide +kernel, rfl, rfl⟩
theorem d_AC_heavier_59 : DR b_AC_heavier 59 (.invokevirtual 272) 3 62 := ⟨by decide +kernel, rfl⟩
theorem d_AC_heavier_62 : DR b_AC_heavier 62 (.pop) 1 63 := ⟨by decide +kernel, rfl⟩
theorem d_AC_heavier_63 : PLa b_AC_heavier 63 0 64 := Or.inl ⟨0, by decide +kernel, rfl, rfl⟩
theorem d_AC_heavier_64 : DR b_AC_heavier 64 (.getfield 53) 3 67 := ⟨by decide +kernel, rfl⟩
theorem d_AC_heavier_67 : DR b_AC_heavier 67 (.getfield 204) 3 70 := ⟨by decide +kernel, rfl⟩
theorem d_AC_heavier_70 : PLi b_AC_heavier 70 1 71 := Or.inl ⟨1, by decide +kernel, rfl, rfl⟩
theorem d_AC_heavier_71 : DR b_AC_heavier 71 (.invokestatic 122) 3 74 := ⟨by decide +kernel, rfl⟩
theorem d_AC_heavier_74 : PLi b_AC_heavier 74 2 75 := Or.inl ⟨2, by decide +kernel, rfl, rfl⟩
theorem d_AC_heavier_75 : DJ b_AC_heavier 75 (.if_icmp .ne) 78 80 := ⟨5, by decide +kernel, rfl, by decide⟩
theorem d_AC_heavier_78 : PLi b_AC_heavier 78 3 79 := Or.inl ⟨3, by decide +kernel, rfl, rfl⟩
theorem d_AC_heavier_79 : DR b_AC_heavier 79 (.ireturn) 1 80 := ⟨by decide +kernel, rfl⟩
theorem d_AC_heavier_80 : DR b_AC_heavier 80 (.iinc 3 (-1)) 3 83 := ⟨by decide +kernel, rfl⟩
theorem d_AC_heavier_83 : DJ b_AC_heavier 83 .goto 86 42 := ⟨-41, by decide +kernel, rfl, by decide⟩
theorem d_AC_heavier_86 : PCi b_AC_heavier 86 (-9) 88 := Or.inr (Or.inl ⟨(-9), by decide +kernel, by decide, rfl⟩)
theorem d_AC_heavier_88 : DR b_AC_heavier 88 (.ireturn) 1 89 := ⟨by decide +kernel, rfl⟩
set_option maxRecDepth 20000 in
theorem B_AC_heavier_22 {G : MCx} (hC : C0 G "AccusedChoose" b_AC_heavier 4 6) (s : St) : VO G (RI G b_AC_heavier) (F_AC_heavier_22 s) 22 [(0, .ref (gad G 0))] [] s := by
  unfold F_AC_heavier_22
  refine VO_aload hC d_AC_heavier_22 0 rfl ?_
  refine VO_const hC d_AC_heavier_23 ?_
  refine VO_callVI hC [.int (-1 : Int32)] [] ml_AC_90 d_AC_heavier_24 yv_AC_refuse sh_AC rfl rfl (fun o h => M_AC_refuse hC.inj h) (by decide) rfl rfl (Nat.le_of_ble_eq_true rfl) (fun o2 => ?_)
  exact VO_ireturn d_AC_heavier_27
set_option maxRecDepth 20000 in
theorem BH_AC_heavier_42 {G : MCx} (hC : C0 G "AccusedChoose" b_AC_heavier 4 6) {v1 : Int32} {v2 : Int32} (K42 : Int32 × St → Option (Int32 × St)) (hK42 : ∀ (w3 : Int32) (s : St), VO G (RI G b_AC_heavier) (K42 (w3, s)) 42 [(0, .ref (gad G 0)), (1, .int v1), (2, .int v2), (3, .int w3)] [] s) (v3 : Int32) (s : St) : VO G (RI G b_AC_heavier) (H_AC_heavier_42 v1 v2 K42 v3 s) 42 [(0, .ref (gad G 0)), (1, .int v1), (2, .int v2), (3, .int v3)] [] s := by
  unfold H_AC_heavier_42
  refine VO_iload hC d_AC_heavier_42 3 rfl ?_
  refine VO_if_lt hC d_AC_heavier_43 (fun _ => ?_) (fun _ => ?_)
  · refine VO_const hC d_AC_heavier_86 ?_
    exact VO_ireturn d_AC_heavier_88
  · refine VO_aload hC d_AC_heavier_46 0 rfl ?_
    refine VO_getr (r := 19) hC fl_AC_19 sh_AC rfl d_AC_heavier_47 ?_
    refine VO_getr (r := 21) hC fl_AC_126 (sh_NI isNI_19) rfl d_AC_heavier_50 ?_
    refine VO_iload hC d_AC_heavier_53 2 rfl ?_
    refine VO_iload hC d_AC_heavier_54 3 rfl ?_
    refine VO_callSV hC [.ref (gad G 21), .int v2, .int v3] [] ml_AC_310 d_AC_heavier_55 ys_AC_put (fun o h => M_AC_put hC.inj ia_21 h) (by decide) rfl rfl (Nat.le_of_ble_eq_true rfl) (fun s5 => ?_)
    refine VO_aload hC d_AC_heavier_58 0 rfl ?_
    refine VO_callVI hC [] [] ml_AC_272 d_AC_heavier_59 yv_AC_tried sh_AC rfl rfl (fun o h => M_AC_tried hC.inj h) (by decide) rfl rfl (Nat.le_of_ble_eq_true rfl) (fun o6 => ?_)
    refine VO_pop hC d_AC_heavier_62 rfl ?_
    refine VO_aload hC d_AC_heavier_63 0 rfl ?_
    refine VO_getr (r := 43) hC fl_AC_53 sh_AC rfl d_AC_heavier_64 ?_
    refine VO_getr (r := 44) hC fl_AC_204 (sh_MO isMO_43) rfl d_AC_heavier_67 ?_
    refine VO_iload hC d_AC_heavier_70 1 rfl ?_
    refine VO_callSI hC [.ref (gad G 44), .int v1] [] ml_AC_122 d_AC_heavier_71 ys_AC_at (fun o h => M_AC_at hC.inj ia_44 h) (by decide) rfl rfl (Nat.le_of_ble_eq_true rfl) (fun o7 => ?_)
    refine VO_iload hC d_AC_heavier_74 2 rfl ?_
    refine VO_icmp_ne hC d_AC_heavier_75 (fun _ => ?_) (fun _ => ?_)
    · refine VO_iload hC d_AC_heavier_78 3 rfl ?_
      exact VO_ireturn d_AC_heavier_79
    · refine VO_iincN hC d_AC_heavier_80 3 rfl (by decide : Int32.ofInt (-1) = -1) [(0, .ref (gad G 0)), (1, .int v1), (2, .int v2)] rfl (by decide) ?_
      refine VO_goto hC d_AC_heavier_83 ?_
      exact VO_sub [1, 2, 3, 0] rfl (hK42 (v3 - 1) o7.2)
set_option maxRecDepth 20000 in
theorem B_AC_heavier_42 {G : MCx} (hC : C0 G "AccusedChoose" b_AC_heavier 4 6) (v1 : Int32) (v2 : Int32) (v3 : Int32) (s : St) : VO G (RI G b_AC_heavier) (F_AC_heavier_42 v1 v2 v3 s) 42 [(0, .ref (gad G 0)), (1, .int v1), (2, .int v2), (3, .int v3)] [] s := by
  exact VO_fix (G_AC_heavier_42 v1 v2) 42 (fun q => [(0, .ref (gad G 0)), (1, .int v1), (2, .int v2), (3, .int q.1)]) (fun q => q.2) (fun K hK q => BH_AC_heavier_42 hC K (fun w3 s => hK (w3, s)) q.1 q.2) FUEL (v3, s)
set_option maxRecDepth 20000 in
theorem B_AC_heavier {G : MCx} (hC : C0 G "AccusedChoose" b_AC_heavier 4 6) (a1 : Int32) (a2 : Int32) (s : St) : VO G (RI G b_AC_heavier) (F_AC_heavier a1 a2 s) 0 [(0, .ref (gad G 0)), (1, .int a1), (2, .int a2)] [] s := by
  unfold F_AC_heavier
  refine VO_aload hC d_AC_heavier_0 0 rfl ?_
  refine VO_getr (r := 1) hC fl_AC_10 sh_AC rfl d_AC_heavier_1 ?_
  refine VO_iload hC d_AC_heavier_4 1 rfl ?_
  refine VO_callVI hC [.int a1] [] ml_AC_129 d_AC_heavier_5 yv_NI_hasPerson (sh_NI isNI_1) rfl rfl (fun o h => M_NI_hasPerson hC.inj isNI_1 h) (by decide) rfl rfl (Nat.le_of_ble_eq_true rfl) (fun o1 => ?_)
  refine VO_if_eq hC d_AC_heavier_8 (fun _ => ?_) (fun _ => ?_)
  · exact VO_sub [0] rfl (B_AC_heavier_22 hC o1.2)
  · refine VO_aload hC d_AC_heavier_11 0 rfl ?_
    refine VO_getr (r := 1) hC fl_AC_10 sh_AC rfl d_AC_heavier_12 ?_
    refine VO_iload hC d_AC_heavier_15 2 rfl ?_
    refine VO_callVI hC [.int a2] [] ml_AC_115 d_AC_heavier_16 yv_NI_hasDeed (sh_NI isNI_1) rfl rfl (fun o h => M_NI_hasDeed hC.inj isNI_1 h) (by decide) rfl rfl (Nat.le_of_ble_eq_true rfl) (fun o3 => ?_)
    refine VO_if_ne hC d_AC_heavier_19 (fun _ => ?_) (fun _ => ?_)
    · exact VO_sub [0] rfl (B_AC_heavier_22 hC o3.2)
    · refine VO_aload hC d_AC_heavier_28 0 rfl ?_
      refine VO_getr (r := 19) hC fl_AC_19 sh_AC rfl d_AC_heavier_29 ?_
      refine VO_aload hC d_AC_heavier_32 0 rfl ?_
      refine VO_getr (r := 1) hC fl_AC_10 sh_AC rfl d_AC_heavier_33 ?_
      refine VO_callVV hC [.ref (gad G 1)] [] ml_AC_101 d_AC_heavier_36 yv_NI_copy (sh_NI isNI_19) rfl rfl (fun o h => M_NI_copy hC.inj isNI_19 isNI_1 h) (by decide) rfl rfl (Nat.le_of_ble_eq_true rfl) (fun s4 => ?_)
      refine VO_const hC d_AC_heavier_39 ?_
      refine VO_istore hC d_AC_heavier_41 [(0, .ref (gad G 0)), (1, .int a1), (2, .int a2)] rfl (by decide) ?_
      exact VO_sub [1, 2, 3, 0] rfl (B_AC_heavier_42 hC a1 a2 (9 : Int32) s4)
set_option maxRecDepth 20000 in
theorem M_AC_heavier {l : Launch} {D : va_G} {ad : Nat → Nat} {cI cL : ClassId} (hj : Inj ad) {a1 : Int32} {a2 : Int32} {s : St} {o : Int32 × St} (h : F_AC_heavier a1 a2 s = some o) : Cn l D ad cI cL y_AC_heavier b_AC_heavier 4 (some .int) 6 [.ref (ad 0), .int a1, .int a2] s (some (.int o.1)) o.2 := by
  refine Cn_ofI hj (plainFor_of_name (by decide)) (Nat.le_of_ble_eq_true rfl) [(0, .ref (ad 0)), (1, .int a1), (2, .int a2)] rfl (fun G hC e1 e2 e3 e4 e5 hR => ?_)
  subst e1; subst e2; subst e3; subst e4; subst e5
  exact B_AC_heavier hC a1 a2 s o h hR
theorem d_AC_bestDid_0 : PLa b_AC_bestDid 0 0 1 := Or.inl ⟨0, by decide +kernel, rfl, rfl⟩
theorem d_AC_bestDid_1 : DR b_AC_bestDid 1 (.getfield 10) 3 4 := ⟨by decide +kernel, rfl⟩
theorem d_AC_bestDid_4 : PLi b_AC_bestDid 4 1 5 := Or.inl ⟨1, by decide +kernel, rfl, rfl⟩
theorem d_AC_bestDid_5 : DR b_AC_bestDid 5 (.invokevirtual 129) 3 8 := ⟨by decide +kernel, rfl⟩
theorem d_AC_bestDid_8 : DJ b_AC_bestDid 8 (.ifCond .ne) 11 17 := ⟨9, by decide +kernel, rfl, by decide⟩
theorem d_AC_bestDid_11 : PLa b_AC_bestDid 11 0 12 := Or.inl ⟨0, by decide +kernel, rfl, rfl⟩
theorem d_AC_bestDid_12 : PCi b_AC_bestDid 12 (-1) 13 := Or.inl ⟨(-1), by decide +kernel, by decide, rfl⟩
theorem d_AC_bestDid_13 : DR b_AC_bestDid 13 (.invokevirtual 90) 3 16 := ⟨by decide +kernel, rfl⟩
theorem d_AC_bestDid_16 : DR b_AC_bestDid 16 (.ireturn) 1 17 := ⟨by decide +kernel, rfl⟩
theorem d_AC_bestDid_17 : DR b_AC_bestDid 17 (.ldc 255) 2 19 := ⟨by decide +kernel, rfl⟩
theorem d_AC_bestDid_19 : PSi b_AC_bestDid 19 2 20 := Or.inl ⟨2, by decide +kernel, rfl, rfl⟩
theorem d_AC_bestDid_20 : PCi b_AC_bestDid 20 7 22 := Or.inr (Or.inl ⟨7, by decide +kernel, by decide, rfl⟩)
theorem d_AC_bestDid_22 : PSi b_AC_bestDid 22 3 23 := Or.inl ⟨3, by decide +kernel, rfl, rfl⟩
theorem d_AC_bestDid_23 : PLa b_AC_bestDid 23 0 24 := Or.inl ⟨0, by decide +kernel, rfl, rfl⟩
theorem d_AC_bestDid_24 : DR b_AC_bestDid 24 (.getfield 19) 3 27 := ⟨by decide +kernel, rfl⟩
theorem d_AC_bestDid_27 : PLa b_AC_bestDid 27 0 28 := Or.inl ⟨0, by decide +kernel, rfl, rfl⟩
theorem d_AC_bestDid_28 : DR b_AC_bestDid 28 (.getfield 10) 3 31 := ⟨by decide +kernel, rfl⟩
theorem d_AC_bestDid_31 : DR b_AC_bestDid 31 (.invokevirtual 101) 3 34 := ⟨by decide +kernel, rfl⟩
theorem d_AC_bestDid_34 : PCi b_AC_bestDid 34 0 35 := Or.inl ⟨0, by decide +kernel, by decide, rfl⟩
theorem d_AC_bestDid_35 : PSi b_AC_bestDid 35 4 37 := Or.inr ⟨by decide +kernel, rfl⟩
theorem d_AC_bestDid_37 : PLi b_AC_bestDid 37 4 39 := Or.inr ⟨by decide +kernel, rfl⟩
theorem d_AC_bestDid_39 : PCi b_AC_bestDid 39 7 41 := Or.inr (Or.inl ⟨7, by decide +kernel, by decide, rfl⟩)
theorem d_AC_bestDid_41 : DJ b_AC_bestDid 41 (.if_icmp .gt) 44 118 := ⟨77, by decide +kernel, rfl, by decide⟩
theorem d_AC_bestDid_44 : PLi b_AC_bestDid 44 4 46 := Or.inr ⟨by decide +kernel, rfl⟩
theorem d_AC_bestDid_46 : PCi b_AC_bestDid 46 7 48 := Or.inr (Or.inl ⟨7, by decide +kernel, by decide, rfl⟩)
theorem d_AC_bestDid_48 : DJ b_AC_bestDid 48 (.if_icmp .eq) 51 64 := ⟨16, by decide +kernel, rfl, by decide⟩
theorem d_AC_bestDid_51 : PLa b_AC_bestDid 51 0 52 := Or.inl ⟨0, by decide +kernel, rfl, rfl⟩
theorem d_AC_bestDid_52 : DR b_AC_bestDid 52 (.getfield 10) 3 55 := ⟨by decide +kernel, rfl⟩
theorem d_AC_bestDid_55 : PLi b_AC_bestDid 55 1 56 := Or.inl ⟨1, by decide +kernel, rfl, rfl⟩
theorem d_AC_bestDid_56 : PLi b_AC_bestDid 56 4 58 := Or.inr ⟨by decide +kernel, rfl⟩
theorem d_AC_bestDid_58 : DR b_AC_bestDid 58 (.invokevirtual 314) 3 61 := ⟨by decide +kernel, rfl⟩
theorem d_AC_bestDid_61 : DJ b_AC_bestDid 61 (.ifCond .eq) 64 112 := ⟨51, by decide +kernel, rfl, by decide⟩
theorem d_AC_bestDid_64 : PLa b_AC_bestDid 64 0 65 := Or.inl ⟨0, by decide +kernel, rfl, rfl⟩
theorem d_AC_bestDid_65 : DR b_AC_bestDid 65 (.getfield 19) 3 68 := ⟨by decide +kernel, rfl⟩
theorem d_AC_bestDid_68 : DR b_AC_bestDid 68 (.getfield 138) 3 71 := ⟨by decide +kernel, rfl⟩
theorem d_AC_bestDid_71 : PLi b_AC_bestDid 71 1 72 := Or.inl ⟨1, by decide +kernel, rfl, rfl⟩
theorem d_AC_bestDid_72 : PLi b_AC_bestDid 72 4 74 := Or.inr ⟨by decide +kernel, rfl⟩
theorem d_AC_bestDid_74 : DR b_AC_bestDid 74 (.invokestatic 310) 3 77 := ⟨by decide +kernel, rfl⟩
theorem d_AC_bestDid_77 : PLa b_AC_bestDid 77 0 78 := Or.inl ⟨0, by decide +kernel, rfl, rfl⟩
theorem d_AC_bestDid_78 : DR b_AC_bestDid 78 (.invokevirtual 272) 3 81 := ⟨by decide +kernel, rfl⟩
theorem d_AC_bestDid_81 : DR b_AC_bestDid 81 (.pop) 1 82 := ⟨by decide +kernel, rfl⟩
theorem d_AC_bestDid_82 : PLa b_AC_bestDid 82 0 83 := Or.inl ⟨0, by decide +kernel, rfl, rfl⟩
theorem d_AC_bestDid_83 : DR b_AC_bestDid 83 (.getfield 53) 3 86 := ⟨by decide +kernel, rfl⟩
theorem d_AC_bestDid_86 : DR b_AC_bestDid 86 (.getfield 207) 3 89 := ⟨by decide +kernel, rfl⟩
theorem d_AC_bestDid_89 : PLi b_AC_bestDid 89 1 90 := Or.inl ⟨1, by decide +kernel, rfl, rfl⟩
theorem d_AC_bestDid_90 : DR b_AC_bestDid 90 (.invokestatic 122) 3 93 := ⟨by decide +kernel, rfl⟩
theorem d_AC_bestDid_93 : PLi b_AC_bestDid 93 2 94 := Or.inl ⟨2, by decide +kernel, rfl, rfl⟩
theorem d_AC_bestDid_94 : DJ b_AC_bestDid 94 (.if_icmp .ge) 97 112 := ⟨18, by decide +kernel, rfl, by decide⟩
theorem d_AC_bestDid_97 : PLa b_AC_bestDid 97 0 98 := Or.inl ⟨0, by decide +kernel, rfl, rfl⟩
theorem d_AC_bestDid_98 : DR b_AC_bestDid 98 (.getfield 53) 3 101 := ⟨by decide +kernel, rfl⟩
theorem d_AC_bestDid_101 : DR b_AC_bestDid 101 (.getfield 207) 3 104 := ⟨by decide +kernel, rfl⟩
theorem d_AC_bestDid_104 : PLi b_AC_bestDid 104 1 105 := Or.inl ⟨1, by decide +kernel, rfl, rfl⟩
theorem d_AC_bestDid_105 : DR b_AC_bestDid 105 (.invokestatic 122) 3 108 := ⟨by decide +kernel, rfl⟩
theorem d_AC_bestDid_108 : PSi b_AC_bestDid 108 2 109 := Or.inl ⟨2, by decide +kernel, rfl, rfl⟩
theorem d_AC_bestDid_109 : PLi b_AC_bestDid 109 4 111 := Or.inr ⟨by decide +kernel, rfl⟩
theorem d_AC_bestDid_111 : PSi b_AC_bestDid 111 3 112 := Or.inl ⟨3, by decide +kernel, rfl, rfl⟩
theorem d_AC_bestDid_112 : DR b_AC_bestDid 112 (.iinc 4 1) 3 115 := ⟨by decide +kernel, rfl⟩
theorem d_AC_bestDid_115 : DJ b_AC_bestDid 115 .goto 118 37 := ⟨-78, by decide +kernel, rfl, by decide⟩
theorem d_AC_bestDid_118 : PLi b_AC_bestDid 118 3 119 := Or.inl ⟨3, by decide +kernel, rfl, rfl⟩
theorem d_AC_bestDid_119 : DR b_AC_bestDid 119 (.ireturn) 1 120 := ⟨by decide +kernel, rfl⟩
set_option maxRecDepth 20000 in
theorem B_AC_bestDid_112 {G : MCx} (hC : C0 G "AccusedChoose" b_AC_bestDid 5 6) {v1 : Int32} (K37 : Int32 × Int32 × Int32 × St → Option (Int32 × St)) (hK37 : ∀ (w2 : Int32) (w3 : Int32) (w4 : Int32) (s : St), VO G (RI G b_AC_bestDid) (K37 (w2, w3, w4, s)) 37 [(0, .ref (gad G 0)), (1, .int v1), (2, .int w2), (3, .int w3), (4, .int w4)] [] s) (v2 : Int32) (v3 : Int32) (v4 : Int32) (s : St) : VO G (RI G b_AC_bestDid) (F_AC_bestDid_112 K37 v1 v2 v3 v4 s) 112 [(0, .ref (gad G 0)), (1, .int v1), (2, .int v2), (3, .int v3), (4, .int v4)] [] s := by
  unfold F_AC_bestDid_112
  refine VO_iinc hC d_AC_bestDid_112 4 rfl (by decide : Int32.ofInt 1 = 1) [(0, .ref (gad G 0)), (1, .int v1), (2, .int v2), (3, .int v3)] rfl (by decide) ?_
  refine VO_goto hC d_AC_bestDid_115 ?_
  exact VO_sub [1, 2, 3, 4, 0] rfl (hK37 v2 v3 (v4 + 1) s)
set_option maxRecDepth 20000 in
theorem B_AC_bestDid_64 {G : MCx} (hC : C0 G "AccusedChoose" b_AC_bestDid 5 6) {v1 : Int32} (K37 : Int32 × Int32 × Int32 × St → Option (Int32 × St)) (hK37 : ∀ (w2 : Int32) (w3 : Int32) (w4 : Int32) (s : St), VO G (RI G b_AC_bestDid) (K37 (w2, w3, w4, s)) 37 [(0, .ref (gad G 0)), (1, .int v1), (2, .int w2), (3, .int w3), (4, .int w4)] [] s) (v2 : Int32) (v3 : Int32) (v4 : Int32) (s : St) : VO G (RI G b_AC_bestDid) (F_AC_bestDid_64 K37 v1 v2 v3 v4 s) 64 [(0, .ref (gad G 0)), (1, .int v1), (2, .int v2), (3, .int v3), (4, .int v4)] [] s := by
  unfold F_AC_bestDid_64
  refine VO_aload hC d_AC_bestDid_64 0 rfl ?_
  refine VO_getr (r := 19) hC fl_AC_19 sh_AC rfl d_AC_bestDid_65 ?_
  refine VO_getr (r := 24) hC fl_AC_138 (sh_NI isNI_19) rfl d_AC_bestDid_68 ?_
  refine VO_iload hC d_AC_bestDid_71 1 rfl ?_
  refine VO_iload hC d_AC_bestDid_72 4 rfl ?_
  refine VO_callSV hC [.ref (gad G 24), .int v1, .int v4] [] ml_AC_310 d_AC_bestDid_74 ys_AC_put (fun o h => M_AC_put hC.inj ia_24 h) (by decide) rfl rfl (Nat.le_of_ble_eq_true rfl) (fun s3 => ?_)
  refine VO_aload hC d_AC_bestDid_77 0 rfl ?_
  refine VO_callVI hC [] [] ml_AC_272 d_AC_bestDid_78 yv_AC_tried sh_AC rfl rfl (fun o h => M_AC_tried hC.inj h) (by decide) rfl rfl (Nat.le_of_ble_eq_true rfl) (fun o4 => ?_)
  refine VO_pop hC d_AC_bestDid_81 rfl ?_
  refine VO_aload hC d_AC_bestDid_82 0 rfl ?_
  refine VO_getr (r := 43) hC fl_AC_53 sh_AC rfl d_AC_bestDid_83 ?_
  refine VO_getr (r := 45) hC fl_AC_207 (sh_MO isMO_43) rfl d_AC_bestDid_86 ?_
  refine VO_iload hC d_AC_bestDid_89 1 rfl ?_
  refine VO_callSI hC [.ref (gad G 45), .int v1] [] ml_AC_122 d_AC_bestDid_90 ys_AC_at (fun o h => M_AC_at hC.inj ia_45 h) (by decide) rfl rfl (Nat.le_of_ble_eq_true rfl) (fun o5 => ?_)
  refine VO_iload hC d_AC_bestDid_93 2 rfl ?_
  refine VO_icmp_ge hC d_AC_bestDid_94 (fun _ => ?_) (fun _ => ?_)
  · exact (B_AC_bestDid_112 hC K37 hK37 v2 v3 v4 o5.2)
  · refine VO_aload hC d_AC_bestDid_97 0 rfl ?_
    refine VO_getr (r := 43) hC fl_AC_53 sh_AC rfl d_AC_bestDid_98 ?_
    refine VO_getr (r := 45) hC fl_AC_207 (sh_MO isMO_43) rfl d_AC_bestDid_101 ?_
    refine VO_iload hC d_AC_bestDid_104 1 rfl ?_
    refine VO_callSI hC [.ref (gad G 45), .int v1] [] ml_AC_122 d_AC_bestDid_105 ys_AC_at (fun o h => M_AC_at hC.inj ia_45 h) (by decide) rfl rfl (Nat.le_of_ble_eq_true rfl) (fun o6 => ?_)
    refine VO_istore hC d_AC_bestDid_108 [(0, .ref (gad G 0)), (1, .int v1), (3, .int v3), (4, .int v4)] rfl (by decide) ?_
    refine VO_iload hC d_AC_bestDid_109 4 rfl ?_
    refine VO_istore hC d_AC_bestDid_111 [(2, .int o6.1), (0, .ref (gad G 0)), (1, .int v1), (4, .int v4)] rfl (by decide) ?_
    exact VO_sub [2, 3, 1, 0, 4] rfl (B_AC_bestDid_112 hC K37 hK37 o6.1 v4 v4 o6.2)
set_option maxRecDepth 20000 in
theorem BH_AC_bestDid_37 {G : MCx} (hC : C0 G "AccusedChoose" b_AC_bestDid 5 6) {v1 : Int32} (K37 : Int32 × Int32 × Int32 × St → Option (Int32 × St)) (hK37 : ∀ (w2 : Int32) (w3 : Int32) (w4 : Int32) (s : St), VO G (RI G b_AC_bestDid) (K37 (w2, w3, w4, s)) 37 [(0, .ref (gad G 0)), (1, .int v1), (2, .int w2), (3, .int w3), (4, .int w4)] [] s) (v2 : Int32) (v3 : Int32) (v4 : Int32) (s : St) : VO G (RI G b_AC_bestDid) (H_AC_bestDid_37 v1 K37 v2 v3 v4 s) 37 [(0, .ref (gad G 0)), (1, .int v1), (2, .int v2), (3, .int v3), (4, .int v4)] [] s := by
  unfold H_AC_bestDid_37
  refine VO_iload hC d_AC_bestDid_37 4 rfl ?_
  refine VO_const hC d_AC_bestDid_39 ?_
  refine VO_icmp_gt hC d_AC_bestDid_41 (fun _ => ?_) (fun _ => ?_)
  · refine VO_iload hC d_AC_bestDid_118 3 rfl ?_
    exact VO_ireturn d_AC_bestDid_119
  · refine VO_iload hC d_AC_bestDid_44 4 rfl ?_
    refine VO_const hC d_AC_bestDid_46 ?_
    refine VO_icmp_eq hC d_AC_bestDid_48 (fun _ => ?_) (fun _ => ?_)
    · exact (B_AC_bestDid_64 hC K37 hK37 v2 v3 v4 s)
    · refine VO_aload hC d_AC_bestDid_51 0 rfl ?_
      refine VO_getr (r := 1) hC fl_AC_10 sh_AC rfl d_AC_bestDid_52 ?_
      refine VO_iload hC d_AC_bestDid_55 1 rfl ?_
      refine VO_iload hC d_AC_bestDid_56 4 rfl ?_
      refine VO_callVI hC [.int v1, .int v4] [] ml_AC_314 d_AC_bestDid_58 yv_NI_may (sh_NI isNI_1) rfl rfl (fun o h => M_NI_may hC.inj isNI_1 h) (by decide) rfl rfl (Nat.le_of_ble_eq_true rfl) (fun o7 => ?_)
      refine VO_if_eq hC d_AC_bestDid_61 (fun _ => ?_) (fun _ => ?_)
      · exact (B_AC_bestDid_112 hC K37 hK37 v2 v3 v4 o7.2)
      · exact (B_AC_bestDid_64 hC K37 hK37 v2 v3 v4 o7.2)
set_option maxRecDepth 20000 in
theorem B_AC_bestDid_37 {G : MCx} (hC : C0 G "AccusedChoose" b_AC_bestDid 5 6) (v1 : Int32) (v2 : Int32) (v3 : Int32) (v4 : Int32) (s : St) : VO G (RI G b_AC_bestDid) (F_AC_bestDid_37 v1 v2 v3 v4 s) 37 [(0, .ref (gad G 0)), (1, .int v1), (2, .int v2), (3, .int v3), (4, .int v4)] [] s := by
  exact VO_fix (G_AC_bestDid_37 v1) 37 (fun q => [(0, .ref (gad G 0)), (1, .int v1), (2, .int q.1), (3, .int q.2.1), (4, .int q.2.2.1)]) (fun q => q.2.2.2) (fun K hK q => BH_AC_bestDid_37 hC K (fun w2 w3 w4 s => hK (w2, w3, w4, s)) q.1 q.2.1 q.2.2.1 q.2.2.2) FUEL (v2, v3, v4, s)
set_option maxRecDepth 20000 in
theorem B_AC_bestDid {G : MCx} (hC : C0 G "AccusedChoose" b_AC_bestDid 5 6) (a1 : Int32) (s : St) : VO G (RI G b_AC_bestDid) (F_AC_bestDid a1 s) 0 [(0, .ref (gad G 0)), (1, .int a1)] [] s := by
  unfold F_AC_bestDid
  refine VO_aload hC d_AC_bestDid_0 0 rfl ?_
  refine VO_getr (r := 1) hC fl_AC_10 sh_AC rfl d_AC_bestDid_1 ?_
  refine VO_iload hC d_AC_bestDid_4 1 rfl ?_
  refine VO_callVI hC [.int a1] [] ml_AC_129 d_AC_bestDid_5 yv_NI_hasPerson (sh_NI isNI_1) rfl rfl (fun o h => M_NI_hasPerson hC.inj isNI_1 h) (by decide) rfl rfl (Nat.le_of_ble_eq_true rfl) (fun o1 => ?_)
  refine VO_if_ne hC d_AC_bestDid_8 (fun _ => ?_) (fun _ => ?_)
  · refine VO_aload hC d_AC_bestDid_11 0 rfl ?_
    refine VO_const hC d_AC_bestDid_12 ?_
    refine VO_callVI hC [.int (-1 : Int32)] [] ml_AC_90 d_AC_bestDid_13 yv_AC_refuse sh_AC rfl rfl (fun o h => M_AC_refuse hC.inj h) (by decide) rfl rfl (Nat.le_of_ble_eq_true rfl) (fun o8 => ?_)
    exact VO_ireturn d_AC_bestDid_16
  · refine VO_ldc hC k_AC_255 d_AC_bestDid_17 ?_
    refine VO_istore hC d_AC_bestDid_19 [(0, .ref (gad G 0)), (1, .int a1)] rfl (by decide) ?_
    refine VO_const hC d_AC_bestDid_20 ?_
    refine VO_istore hC d_AC_bestDid_22 [(2, .int (1000000 : Int32)), (0, .ref (gad G 0)), (1, .int a1)] rfl (by decide) ?_
    refine VO_aload hC d_AC_bestDid_23 2 rfl ?_
    refine VO_getr (r := 19) hC fl_AC_19 sh_AC rfl d_AC_bestDid_24 ?_
    refine VO_aload hC d_AC_bestDid_27 2 rfl ?_
    refine VO_getr (r := 1) hC fl_AC_10 sh_AC rfl d_AC_bestDid_28 ?_
    refine VO_callVV hC [.ref (gad G 1)] [] ml_AC_101 d_AC_bestDid_31 yv_NI_copy (sh_NI isNI_19) rfl rfl (fun o h => M_NI_copy hC.inj isNI_19 isNI_1 h) (by decide) rfl rfl (Nat.le_of_ble_eq_true rfl) (fun s2 => ?_)
    refine VO_const hC d_AC_bestDid_34 ?_
    refine VO_istore hC d_AC_bestDid_35 [(3, .int (7 : Int32)), (2, .int (1000000 : Int32)), (0, .ref (gad G 0)), (1, .int a1)] rfl (by decide) ?_
    exact VO_sub [3, 4, 2, 1, 0] rfl (B_AC_bestDid_37 hC a1 (1000000 : Int32) (7 : Int32) (0 : Int32) s2)
set_option maxRecDepth 20000 in
theorem M_AC_bestDid {l : Launch} {D : va_G} {ad : Nat → Nat} {cI cL : ClassId} (hj : Inj ad) {a1 : Int32} {s : St} {o : Int32 × St} (h : F_AC_bestDid a1 s = some o) : Cn l D ad cI cL y_AC_bestDid b_AC_bestDid 5 (some .int) 6 [.ref (ad 0), .int a1] s (some (.int o.1)) o.2 := by
  refine Cn_ofI hj (plainFor_of_name (by decide)) (Nat.le_of_ble_eq_true rfl) [(0, .ref (ad 0)), (1, .int a1)] rfl (fun G hC e1 e2 e3 e4 e5 hR => ?_)
  subst e1; subst e2; subst e3; subst e4; subst e5
  exact B_AC_bestDid hC a1 s o h hR
theorem d_AC_rest_0 : PLi b_AC_rest 0 1 1 := Or.inl ⟨1, by decide +kernel, rfl, rfl⟩
theorem d_AC_rest_1 : DJ b_AC_rest 1 (.ifCond .lt) 4 9 := ⟨8, by decide +kernel, rfl, by decide⟩
theorem d_AC_rest_4 : PLi b_AC_rest 4 1 5 := Or.inl ⟨1, by decide +kernel, rfl, rfl⟩
theorem d_AC_rest_5 : PCi b_AC_rest 5 2 6 := Or.inl ⟨2, by decide +kernel, by decide, rfl⟩
theorem d_AC_rest_6 : DJ b_AC_rest 6 (.if_icmp .le) 9 16 := ⟨10, by decide +kernel, rfl, by decide⟩
theorem d_AC_rest_9 : PLa b_AC_rest 9 0 10 := Or.inl ⟨0, by decide +kernel, rfl, rfl⟩
theorem d_AC_rest_10 : PCi b_AC_rest 10 (-2) 12 := Or.inr (Or.inl ⟨(-2), by decide +kernel, by decide, rfl⟩)
theorem d_AC_rest_12 : DR b_AC_rest 12 (.invokevirtual 90) 3 15 := ⟨by decide +kernel, rfl⟩
theorem d_AC_rest_15 : DR b_AC_rest 15 (.ireturn) 1 16 := ⟨by decide +kernel, rfl⟩
theorem d_AC_rest_16 : PCi b_AC_rest 16 0 17 := Or.inl ⟨0, by decide +kernel, by decide, rfl⟩
theorem d_AC_rest_17 : PSi b_AC_rest 17 2 18 := Or.inl ⟨2, by decide +kernel, rfl, rfl⟩
theorem d_AC_rest_18 : PCi b_AC_rest 18 0 19 := Or.inl ⟨0, by decide +kernel, by decide, rfl⟩
theorem d_AC_rest_19 : PSi b_AC_rest 19 3 20 := Or.inl ⟨3, by decide +kernel, rfl, rfl⟩
theorem d_AC_rest_20 : PLa b_AC_rest 20 0 21 := Or.inl ⟨0, by decide +kernel, rfl, rfl⟩
theorem d_AC_rest_21 : DR b_AC_rest 21 (.getfield 10) 3 24 := ⟨by decide +kernel, rfl⟩
theorem d_AC_rest_24 : DR b_AC_rest 24 (.invokevirtual 302) 3 27 := ⟨by decide +kernel, rfl⟩
theorem d_AC_rest_27 : PSi b_AC_rest 27 4 29 := Or.inr ⟨by decide +kernel, rfl⟩
theorem d_AC_rest_29 : PLa b_AC_rest 29 0 30 := Or.inl ⟨0, by decide +kernel, rfl, rfl⟩
theorem d_AC_rest_30 : DR b_AC_rest 30 (.getfield 39) 3 33 := ⟨by decide +kernel, rfl⟩
theorem d_AC_rest_33 : PLa b_AC_rest 33 0 34 := Or.inl ⟨0, by decide +kernel, rfl, rfl⟩
theorem d_AC_rest_34 : DR b_AC_rest 34 (.getfield 10) 3 37 := ⟨by decide +kernel, rfl⟩
theorem d_AC_rest_37 : DR b_AC_rest 37 (.invokevirtual 219) 3 40 := ⟨by decide +kernel, rfl⟩
theorem d_AC_rest_40 : PCi b_AC_rest 40 0 41 := Or.inl ⟨0, by decide +kernel, by decide, rfl⟩
theorem d_AC_rest_41 : PSi b_AC_rest 41 5 43 := Or.inr ⟨by decide +kernel, rfl⟩
theorem d_AC_rest_43 : PLi b_AC_rest 43 5 45 := Or.inr ⟨by decide +kernel, rfl⟩
theorem d_AC_rest_45 : PCi b_AC_rest 45 7 47 := Or.inr (Or.inl ⟨7, by decide +kernel, by decide, rfl⟩)
theorem d_AC_rest_47 : DJ b_AC_rest 47 (.if_icmp .gt) 50 113 := ⟨66, by decide +kernel, rfl, by decide⟩
theorem d_AC_rest_50 : PLa b_AC_rest 50 0 51 := Or.inl ⟨0, by decide +kernel, rfl, rfl⟩
theorem d_AC_rest_51 : DR b_AC_rest 51 (.getfield 53) 3 54 := ⟨by decide +kernel, rfl⟩
theorem d_AC_rest_54 : PLa b_AC_rest 54 0 55 := Or.inl ⟨0, by decide +kernel, rfl, rfl⟩
theorem d_AC_rest_55 : DR b_AC_rest 55 (.getfield 39) 3 58 := ⟨by decide +kernel, rfl⟩
theorem d_AC_rest_58 : PLa b_AC_rest 58 0 59 := Or.inl ⟨0, by decide +kernel, rfl, rfl⟩
theorem d_AC_rest_59 : DR b_AC_rest 59 (.getfield 10) 3 62 := ⟨by decide +kernel, rfl⟩
theorem d_AC_rest_62 : DR b_AC_rest 62 (.getfield 178) 3 65 := ⟨by decide +kernel, rfl⟩
theorem d_AC_rest_65 : PLi b_AC_rest 65 4 67 := Or.inr ⟨by decide +kernel, rfl⟩
theorem d_AC_rest_67 : DR b_AC_rest 67 (.invokevirtual 305) 3 70 := ⟨by decide +kernel, rfl⟩
theorem d_AC_rest_70 : PLa b_AC_rest 70 0 71 := Or.inl ⟨0, by decide +kernel, rfl, rfl⟩
theorem d_AC_rest_71 : DR b_AC_rest 71 (.getfield 53) 3 74 := ⟨by decide +kernel, rfl⟩
theorem d_AC_rest_74 : DR b_AC_rest 74 (.getfield 216) 3 77 := ⟨by decide +kernel, rfl⟩
theorem d_AC_rest_77 : PLi b_AC_rest 77 4 79 := Or.inr ⟨by decide +kernel, rfl⟩
theorem d_AC_rest_79 : DJ b_AC_rest 79 (.if_icmp .ne) 82 85 := ⟨6, by decide +kernel, rfl, by decide⟩
theorem d_AC_rest_82 : DJ b_AC_rest 82 .goto 85 113 := ⟨31, by decide +kernel, rfl, by decide⟩
theorem d_AC_rest_85 : DR b_AC_rest 85 (.iinc 2 1) 3 88 := ⟨by decide +kernel, rfl⟩
theorem d_AC_rest_88 : PLi b_AC_rest 88 3 89 := Or.inl ⟨3, by decide +kernel, rfl, rfl⟩
theorem d_AC_rest_89 : PLa b_AC_rest 89 0 90 := Or.inl ⟨0, by decide +kernel, rfl, rfl⟩
theorem d_AC_rest_90 : DR b_AC_rest 90 (.getfield 53) 3 93 := ⟨by decide +kernel, rfl⟩
theorem d_AC_rest_93 : DR b_AC_rest 93 (.invokevirtual 317) 3 96 := ⟨by decide +kernel, rfl⟩
theorem d_AC_rest_96 : DR b_AC_rest 96 (.iadd) 1 97 := ⟨by decide +kernel, rfl⟩
theorem d_AC_rest_97 : PSi b_AC_rest 97 3 98 := Or.inl ⟨3, by decide +kernel, rfl, rfl⟩
theorem d_AC_rest_98 : PLa b_AC_rest 98 0 99 := Or.inl ⟨0, by decide +kernel, rfl, rfl⟩
theorem d_AC_rest_99 : DR b_AC_rest 99 (.getfield 53) 3 102 := ⟨by decide +kernel, rfl⟩
theorem d_AC_rest_102 : DR b_AC_rest 102 (.getfield 216) 3 105 := ⟨by decide +kernel, rfl⟩
theorem d_AC_rest_105 : PSi b_AC_rest 105 4 107 := Or.inr ⟨by decide +kernel, rfl⟩
theorem d_AC_rest_107 : DR b_AC_rest 107 (.iinc 5 1) 3 110 := ⟨by decide +kernel, rfl⟩
theorem d_AC_rest_110 : DJ b_AC_rest 110 .goto 113 43 := ⟨-67, by decide +kernel, rfl, by decide⟩
theorem d_AC_rest_113 : PLi b_AC_rest 113 1 114 := Or.inl ⟨1, by decide +kernel, rfl, rfl⟩
theorem d_AC_rest_114 : decode b_AC_rest 114 = .ok (.lookupswitch 30 #[(0, 26), (1, 28)], 26) := by decide +kernel
theorem d_AC_rest_140 : PLi b_AC_rest 140 2 141 := Or.inl ⟨2, by decide +kernel, rfl, rfl⟩
theorem d_AC_rest_141 : DR b_AC_rest 141 (.ireturn) 1 142 := ⟨by decide +kernel, rfl⟩
theorem d_AC_rest_142 : PLi b_AC_rest 142 3 143 := Or.inl ⟨3, by decide +kernel, rfl, rfl⟩
theorem d_AC_rest_143 : DR b_AC_rest 143 (.ireturn) 1 144 := ⟨by decide +kernel, rfl⟩
theorem d_AC_rest_144 : PLi b_AC_rest 144 4 146 := Or.inr ⟨by decide +kernel, rfl⟩
theorem d_AC_rest_146 : DR b_AC_rest 146 (.ireturn) 1 147 := ⟨by decide +kernel, rfl⟩
set_option maxRecDepth 20000 in
theorem B_AC_rest_9 {G : MCx} (hC : C0 G "AccusedChoose" b_AC_rest 6 5) (s : St) : VO G (RI G b_AC_rest) (F_AC_rest_9 s) 9 [(0, .ref (gad G 0))] [] s := by
  unfold F_AC_rest_9
  refine VO_aload hC d_AC_rest_9 0 rfl ?_
  refine VO_const hC d_AC_rest_10 ?_
  refine VO_callVI hC [.int (-2 : Int32)] [] ml_AC_90 d_AC_rest_12 yv_AC_refuse sh_AC rfl rfl (fun o h => M_AC_refuse hC.inj h) (by decide) rfl rfl (Nat.le_of_ble_eq_true rfl) (fun o1 => ?_)
  exact VO_ireturn d_AC_rest_15
set_option maxRecDepth 20000 in
theorem B_AC_rest_113 {G : MCx} (hC : C0 G "AccusedChoose" b_AC_rest 6 5) (v1 : Int32) (v2 : Int32) (v3 : Int32) (v4 : Int32) (s : St) : VO G (RI G b_AC_rest) (F_AC_rest_113 v1 v2 v3 v4 s) 113 [(1, .int v1), (2, .int v2), (3, .int v3), (4, .int v4)] [] s := by
  unfold F_AC_rest_113
  refine VO_iload hC d_AC_rest_113 0 rfl ?_
  refine VO_ite (fun c114_0 => ?_) (fun c114_0 => ?_)
  · refine VO_lsw (tgt := 140) (off := (26 : Int)) hC d_AC_rest_114 (by decide) (by first | (rw [c114_0]; done) | (rw [c114_0]; decide)) (by decide) ?_
    refine VO_iload hC d_AC_rest_140 1 rfl ?_
    exact VO_ireturn d_AC_rest_141
  refine VO_ite (fun c114_1 => ?_) (fun c114_1 => ?_)
  · refine VO_lsw (tgt := 142) (off := (28 : Int)) hC d_AC_rest_114 (by decide) (by first | (rw [c114_1]; done) | (rw [c114_1]; decide)) (by decide) ?_
    refine VO_iload hC d_AC_rest_142 2 rfl ?_
    exact VO_ireturn d_AC_rest_143
  refine VO_lsw (tgt := 144) (off := (30 : Int)) hC d_AC_rest_114 (by decide) ((lv_osw c114_0 rfl).trans ((lv_osw c114_1 rfl))) (by decide) ?_
  refine VO_iload hC d_AC_rest_144 3 rfl ?_
  exact VO_ireturn d_AC_rest_146
set_option maxRecDepth 20000 in
theorem BH_AC_rest_43 {G : MCx} (hC : C0 G "AccusedChoose" b_AC_rest 6 5) {v1 : Int32} (K43 : Int32 × Int32 × Int32 × Int32 × St → Option (Int32 × St)) (hK43 : ∀ (w2 : Int32) (w3 : Int32) (w4 : Int32) (w5 : Int32) (s : St), VO G (RI G b_AC_rest) (K43 (w2, w3, w4, w5, s)) 43 [(0, .ref (gad G 0)), (1, .int v1), (2, .int w2), (3, .int w3), (4, .int w4), (5, .int w5)] [] s) (v2 : Int32) (v3 : Int32) (v4 : Int32) (v5 : Int32) (s : St) : VO G (RI G b_AC_rest) (H_AC_rest_43 v1 K43 v2 v3 v4 v5 s) 43 [(0, .ref (gad G 0)), (1, .int v1), (2, .int v2), (3, .int v3), (4, .int v4), (5, .int v5)] [] s := by
  unfold H_AC_rest_43
  refine VO_iload hC d_AC_rest_43 5 rfl ?_
  refine VO_const hC d_AC_rest_45 ?_
  refine VO_icmp_gt hC d_AC_rest_47 (fun _ => ?_) (fun _ => ?_)
  · exact VO_sub [1, 2, 3, 4] rfl (B_AC_rest_113 hC v1 v2 v3 v4 s)
  · refine VO_aload hC d_AC_rest_50 0 rfl ?_
    refine VO_getr (r := 43) hC fl_AC_53 sh_AC rfl d_AC_rest_51 ?_
    refine VO_aload hC d_AC_rest_54 0 rfl ?_
    refine VO_getr (r := 36) hC fl_AC_39 sh_AC rfl d_AC_rest_55 ?_
    refine VO_aload hC d_AC_rest_58 0 rfl ?_
    refine VO_getr (r := 1) hC fl_AC_10 sh_AC rfl d_AC_rest_59 ?_
    refine VO_getr (r := 9) hC fl_AC_178 (sh_NI isNI_1) rfl d_AC_rest_62 ?_
    refine VO_iload hC d_AC_rest_65 4 rfl ?_
    refine VO_callVV hC [.ref (gad G 36), .ref (gad G 9), .int v4] [] ml_AC_305 d_AC_rest_67 yv_MO_hold (sh_MO isMO_43) rfl rfl (fun o h => M_MO_hold hC.inj isMO_43 isPR_36 ia_9 h) (by decide) rfl rfl (Nat.le_of_ble_eq_true rfl) (fun s4 => ?_)
    refine VO_aload hC d_AC_rest_70 0 rfl ?_
    refine VO_getr (r := 43) hC fl_AC_53 sh_AC rfl d_AC_rest_71 ?_
    refine VO_geti hC fl_AC_216 (sh_MO isMO_43) rfl d_AC_rest_74 ?_
    refine VO_iload hC d_AC_rest_77 4 rfl ?_
    refine VO_icmp_ne hC d_AC_rest_79 (fun _ => ?_) (fun _ => ?_)
    · refine VO_goto hC d_AC_rest_82 ?_
      exact VO_sub [1, 2, 3, 4] rfl (B_AC_rest_113 hC v1 v2 v3 v4 s4)
    · refine VO_iinc hC d_AC_rest_85 2 rfl (by decide : Int32.ofInt 1 = 1) [(0, .ref (gad G 0)), (1, .int v1), (3, .int v3), (4, .int v4), (5, .int v5)] rfl (by decide) ?_
      refine VO_iload hC d_AC_rest_88 3 rfl ?_
      refine VO_aload hC d_AC_rest_89 1 rfl ?_
      refine VO_getr (r := 43) hC fl_AC_53 sh_AC rfl d_AC_rest_90 ?_
      refine VO_callVI hC [] [.int v3] ml_AC_317 d_AC_rest_93 yv_MO_monthsTaken (sh_MO isMO_43) rfl rfl (fun o h => M_MO_monthsTaken hC.inj isMO_43 h) (by decide) rfl rfl (Nat.le_of_ble_eq_true rfl) (fun o5 => ?_)
      refine VO_iadd hC d_AC_rest_96 ?_
      refine VO_istoreB hC d_AC_rest_97 [(2, .int (v2 + 1)), (0, .ref (gad G 0)), (1, .int v1), (4, .int v4), (5, .int v5)] rfl (by decide) (fun x6 => ?_)
      refine VO_aload hC d_AC_rest_98 2 rfl ?_
      refine VO_getr (r := 43) hC fl_AC_53 sh_AC rfl d_AC_rest_99 ?_
      refine VO_geti hC fl_AC_216 (sh_MO isMO_43) rfl d_AC_rest_102 ?_
      refine VO_istoreB hC d_AC_rest_105 [(3, .int x6), (2, .int (v2 + 1)), (0, .ref (gad G 0)), (1, .int v1), (5, .int v5)] rfl (by decide) (fun x7 => ?_)
      refine VO_iinc hC d_AC_rest_107 5 rfl (by decide : Int32.ofInt 1 = 1) [(4, .int x7), (3, .int x6), (2, .int (v2 + 1)), (0, .ref (gad G 0)), (1, .int v1)] rfl (by decide) ?_
      refine VO_goto hC d_AC_rest_110 ?_
      exact VO_sub [4, 5, 3, 2, 1, 0] rfl (hK43 (v2 + 1) x6 x7 (v5 + 1) o5.2)
set_option maxRecDepth 20000 in
theorem B_AC_rest_43 {G : MCx} (hC : C0 G "AccusedChoose" b_AC_rest 6 5) (v1 : Int32) (v2 : Int32) (v3 : Int32) (v4 : Int32) (v5 : Int32) (s : St) : VO G (RI G b_AC_rest) (F_AC_rest_43 v1 v2 v3 v4 v5 s) 43 [(0, .ref (gad G 0)), (1, .int v1), (2, .int v2), (3, .int v3), (4, .int v4), (5, .int v5)] [] s := by
  exact VO_fix (G_AC_rest_43 v1) 43 (fun q => [(0, .ref (gad G 0)), (1, .int v1), (2, .int q.1), (3, .int q.2.1), (4, .int q.2.2.1), (5, .int q.2.2.2.1)]) (fun q => q.2.2.2.2) (fun K hK q => BH_AC_rest_43 hC K (fun w2 w3 w4 w5 s => hK (w2, w3, w4, w5, s)) q.1 q.2.1 q.2.2.1 q.2.2.2.1 q.2.2.2.2) FUEL (v2, v3, v4, v5, s)
set_option maxRecDepth 20000 in
theorem B_AC_rest {G : MCx} (hC : C0 G "AccusedChoose" b_AC_rest 6 5) (a1 : Int32) (s : St) : VO G (RI G b_AC_rest) (F_AC_rest a1 s) 0 [(0, .ref (gad G 0)), (1, .int a1)] [] s := by
  unfold F_AC_rest
  refine VO_iload hC d_AC_rest_0 1 rfl ?_
  refine VO_if_lt hC d_AC_rest_1 (fun _ => ?_) (fun _ => ?_)
  · exact VO_sub [0] rfl (B_AC_rest_9 hC s)
  · refine VO_iload hC d_AC_rest_4 1 rfl ?_
    refine VO_const hC d_AC_rest_5 ?_
    refine VO_icmp_le hC d_AC_rest_6 (fun _ => ?_) (fun _ => ?_)
    · refine VO_const hC d_AC_rest_16 ?_
      refine VO_istore hC d_AC_rest_17 [(0, .ref (gad G 0)), (1, .int a1)] rfl (by decide) ?_
      refine VO_const hC d_AC_rest_18 ?_
      refine VO_istore hC d_AC_rest_19 [(2, .int (0 : Int32)), (0, .ref (gad G 0)), (1, .int a1)] rfl (by decide) ?_
      refine VO_aload hC d_AC_rest_20 2 rfl ?_
      refine VO_getr (r := 1) hC fl_AC_10 sh_AC rfl d_AC_rest_21 ?_
      refine VO_callVI hC [] [] ml_AC_302 d_AC_rest_24 yv_NI_allDeeds (sh_NI isNI_1) rfl rfl (fun o h => M_NI_allDeeds hC.inj isNI_1 h) (by decide) rfl rfl (Nat.le_of_ble_eq_true rfl) (fun o2 => ?_)
      refine VO_istore hC d_AC_rest_27 [(3, .int (0 : Int32)), (2, .int (0 : Int32)), (0, .ref (gad G 0)), (1, .int a1)] rfl (by decide) ?_
      refine VO_aload hC d_AC_rest_29 3 rfl ?_
      refine VO_getr (r := 36) hC fl_AC_39 sh_AC rfl d_AC_rest_30 ?_
      refine VO_aload hC d_AC_rest_33 3 rfl ?_
      refine VO_getr (r := 1) hC fl_AC_10 sh_AC rfl d_AC_rest_34 ?_
      refine VO_callVV hC [.ref (gad G 1)] [] ml_AC_219 d_AC_rest_37 yv_PR_fill (sh_PR isPR_36) rfl rfl (fun o h => M_PR_fill hC.inj isPR_36 isNI_1 h) (by decide) rfl rfl (Nat.le_of_ble_eq_true rfl) (fun s3 => ?_)
      refine VO_const hC d_AC_rest_40 ?_
      refine VO_istore hC d_AC_rest_41 [(4, .int o2.1), (3, .int (0 : Int32)), (2, .int (0 : Int32)), (0, .ref (gad G 0)), (1, .int a1)] rfl (by decide) ?_
      exact VO_sub [4, 5, 3, 2, 1, 0] rfl (B_AC_rest_43 hC a1 (0 : Int32) (0 : Int32) o2.1 (0 : Int32) s3)
    · exact VO_sub [0] rfl (B_AC_rest_9 hC s)
set_option maxRecDepth 20000 in
theorem M_AC_rest {l : Launch} {D : va_G} {ad : Nat → Nat} {cI cL : ClassId} (hj : Inj ad) {a1 : Int32} {s : St} {o : Int32 × St} (h : F_AC_rest a1 s = some o) : Cn l D ad cI cL y_AC_rest b_AC_rest 6 (some .int) 5 [.ref (ad 0), .int a1] s (some (.int o.1)) o.2 := by
  refine Cn_ofI hj (plainFor_of_name (by decide)) (Nat.le_of_ble_eq_true rfl) [(0, .ref (ad 0)), (1, .int a1)] rfl (fun G hC e1 e2 e3 e4 e5 hR => ?_)
  subst e1; subst e2; subst e3; subst e4; subst e5
  exact B_AC_rest hC a1 s o h hR
theorem d_AC_even_0 : PLa b_AC_even 0 0 1 := Or.inl ⟨0, by decide +kernel, rfl, rfl⟩
theorem d_AC_even_1 : PLi b_AC_even 1 1 2 := Or.inl ⟨1, by decide +kernel, rfl, rfl⟩
theorem d_AC_even_2 : PCi b_AC_even 2 1 3 := Or.inl ⟨1, by decide +kernel, by decide, rfl⟩
theorem d_AC_even_3 : DR b_AC_even 3 (.invokevirtual 265) 3 6 := ⟨by decide +kernel, rfl⟩
theorem d_AC_even_6 : DR b_AC_even 6 (.ireturn) 1 7 := ⟨by decide +kernel, rfl⟩
set_option maxRecDepth 20000 in
theorem B_AC_even {G : MCx} (hC : C0 G "AccusedChoose" b_AC_even 2 6) (a1 : Int32) (s : St) : VO G (RI G b_AC_even) (F_AC_even a1 s) 0 [(0, .ref (gad G 0)), (1, .int a1)] [] s := by
  unfold F_AC_even
  refine VO_aload hC d_AC_even_0 0 rfl ?_
  refine VO_iload hC d_AC_even_1 1 rfl ?_
  refine VO_const hC d_AC_even_2 ?_
  refine VO_callVI hC [.int a1, .int (1 : Int32)] [] ml_AC_265 d_AC_even_3 yv_AC_soughtOrder sh_AC rfl rfl (fun o h => M_AC_soughtOrder hC.inj h) (by decide) rfl rfl (Nat.le_of_ble_eq_true rfl) (fun o1 => ?_)
  exact VO_ireturn d_AC_even_6
set_option maxRecDepth 20000 in
theorem M_AC_even {l : Launch} {D : va_G} {ad : Nat → Nat} {cI cL : ClassId} (hj : Inj ad) {a1 : Int32} {s : St} {o : Int32 × St} (h : F_AC_even a1 s = some o) : Cn l D ad cI cL y_AC_even b_AC_even 2 (some .int) 6 [.ref (ad 0), .int a1] s (some (.int o.1)) o.2 := by
  refine Cn_ofI hj (plainFor_of_name (by decide)) (Nat.le_of_ble_eq_true rfl) [(0, .ref (ad 0)), (1, .int a1)] rfl (fun G hC e1 e2 e3 e4 e5 hR => ?_)
  subst e1; subst e2; subst e3; subst e4; subst e5
  exact B_AC_even hC a1 s o h hR
theorem d_AC_turnRound_0 : PCi b_AC_turnRound 0 0 1 := Or.inl ⟨0, by decide +kernel, by decide, rfl⟩
theorem d_AC_turnRound_1 : PSi b_AC_turnRound 1 1 2 := Or.inl ⟨1, by decide +kernel, rfl, rfl⟩
theorem d_AC_turnRound_2 : PLi b_AC_turnRound 2 1 3 := Or.inl ⟨1, by decide +kernel, rfl, rfl⟩
theorem d_AC_turnRound_3 : PLa b_AC_turnRound 3 0 4 := Or.inl ⟨0, by decide +kernel, rfl, rfl⟩
theorem d_AC_turnRound_4 : DR b_AC_turnRound 4 (.getfield 10) 3 7 := ⟨by decide +kernel, rfl⟩
theorem d_AC_turnRound_7 : DR b_AC_turnRound 7 (.getfield 164) 3 10 := ⟨by decide +kernel, rfl⟩
theorem d_AC_turnRound_10 : DJ b_AC_turnRound 10 (.if_icmp .ge) 13 48 := ⟨38, by decide +kernel, rfl, by decide⟩
theorem d_AC_turnRound_13 : PLa b_AC_turnRound 13 0 14 := Or.inl ⟨0, by decide +kernel, rfl, rfl⟩
theorem d_AC_turnRound_14 : DR b_AC_turnRound 14 (.getfield 77) 3 17 := ⟨by decide +kernel, rfl⟩
theorem d_AC_turnRound_17 : PLi b_AC_turnRound 17 1 18 := Or.inl ⟨1, by decide +kernel, rfl, rfl⟩
theorem d_AC_turnRound_18 : PLa b_AC_turnRound 18 0 19 := Or.inl ⟨0, by decide +kernel, rfl, rfl⟩
theorem d_AC_turnRound_19 : DR b_AC_turnRound 19 (.getfield 10) 3 22 := ⟨by decide +kernel, rfl⟩
theorem d_AC_turnRound_22 : DR b_AC_turnRound 22 (.getfield 178) 3 25 := ⟨by decide +kernel, rfl⟩
theorem d_AC_turnRound_25 : PLa b_AC_turnRound 25 0 26 := Or.inl ⟨0, by decide +kernel, rfl, rfl⟩
theorem d_AC_turnRound_26 : DR b_AC_turnRound 26 (.getfield 10) 3 29 := ⟨by decide +kernel, rfl⟩
theorem d_AC_turnRound_29 : DR b_AC_turnRound 29 (.getfield 164) 3 32 := ⟨by decide +kernel, rfl⟩
theorem d_AC_turnRound_32 : PCi b_AC_turnRound 32 1 33 := Or.inl ⟨1, by decide +kernel, by decide, rfl⟩
theorem d_AC_turnRound_33 : DR b_AC_turnRound 33 (.isub) 1 34 := ⟨by decide +kernel, rfl⟩
theorem d_AC_turnRound_34 : PLi b_AC_turnRound 34 1 35 := Or.inl ⟨1, by decide +kernel, rfl, rfl⟩
theorem d_AC_turnRound_35 : DR b_AC_turnRound 35 (.isub) 1 36 := ⟨by decide +kernel, rfl⟩
theorem d_AC_turnRound_36 : DR b_AC_turnRound 36 (.invokestatic 122) 3 39 := ⟨by decide +kernel, rfl⟩
theorem d_AC_turnRound_39 : DR b_AC_turnRound 39 (.invokestatic 310) 3 42 := ⟨by decide +kernel, rfl⟩
theorem d_AC_turnRound_42 : DR b_AC_turnRound 42 (.iinc 1 1) 3 45 := ⟨by decide +kernel, rfl⟩
theorem d_AC_turnRound_45 : DJ b_AC_turnRound 45 .goto 48 2 := ⟨-43, by decide +kernel, rfl, by decide⟩
theorem d_AC_turnRound_48 : DR b_AC_turnRound 48 (.return_) 1 49 := ⟨by decide +kernel, rfl⟩
set_option maxRecDepth 20000 in
theorem BH_AC_turnRound_2 {G : MCx} (hC : C0 G "AccusedChoose" b_AC_turnRound 2 2) (K2 : Int32 × St → Option (St)) (hK2 : ∀ (w1 : Int32) (s : St), VO G (RV G b_AC_turnRound) (K2 (w1, s)) 2 [(0, .ref (gad G 0)), (1, .int w1)] [] s) (v1 : Int32) (s : St) : VO G (RV G b_AC_turnRound) (H_AC_turnRound_2 K2 v1 s) 2 [(0, .ref (gad G 0)), (1, .int v1)] [] s := by
  unfold H_AC_turnRound_2
  refine VO_iload hC d_AC_turnRound_2 1 rfl ?_
  refine VO_aload hC d_AC_turnRound_3 0 rfl ?_
  refine VO_getr (r := 1) hC fl_AC_10 sh_AC rfl d_AC_turnRound_4 ?_
  refine VO_geti hC fl_AC_164 (sh_NI isNI_1) rfl d_AC_turnRound_7 ?_
  refine VO_icmp_ge hC d_AC_turnRound_10 (fun _ => ?_) (fun _ => ?_)
  · exact VO_return d_AC_turnRound_48
  · refine VO_aload hC d_AC_turnRound_13 0 rfl ?_
    refine VO_getr (r := 54) hC fl_AC_77 sh_AC rfl d_AC_turnRound_14 ?_
    refine VO_iload hC d_AC_turnRound_17 1 rfl ?_
    refine VO_aload hC d_AC_turnRound_18 0 rfl ?_
    refine VO_getr (r := 1) hC fl_AC_10 sh_AC rfl d_AC_turnRound_19 ?_
    refine VO_getr (r := 9) hC fl_AC_178 (sh_NI isNI_1) rfl d_AC_turnRound_22 ?_
    refine VO_aload hC d_AC_turnRound_25 0 rfl ?_
    refine VO_getr (r := 1) hC fl_AC_10 sh_AC rfl d_AC_turnRound_26 ?_
    refine VO_geti hC fl_AC_164 (sh_NI isNI_1) rfl d_AC_turnRound_29 ?_
    refine VO_const hC d_AC_turnRound_32 ?_
    refine VO_isub hC d_AC_turnRound_33 ?_
    refine VO_iload hC d_AC_turnRound_34 1 rfl ?_
    refine VO_isub hC d_AC_turnRound_35 ?_
    refine VO_callSI hC [.ref (gad G 9), .int (((rd s 1 1) - (1 : Int32)) - v1)] [.int v1, .ref (gad G 54)] ml_AC_122 d_AC_turnRound_36 ys_AC_at (fun o h => M_AC_at hC.inj ia_9 h) (by decide) rfl rfl (Nat.le_of_ble_eq_true rfl) (fun o1 => ?_)
    refine VO_callSV hC [.ref (gad G 54), .int v1, .int o1.1] [] ml_AC_310 d_AC_turnRound_39 ys_AC_put (fun o h => M_AC_put hC.inj ia_54 h) (by decide) rfl rfl (Nat.le_of_ble_eq_true rfl) (fun s2 => ?_)
    refine VO_iinc hC d_AC_turnRound_42 1 rfl (by decide : Int32.ofInt 1 = 1) [(0, .ref (gad G 0))] rfl (by decide) ?_
    refine VO_goto hC d_AC_turnRound_45 ?_
    exact VO_sub [1, 0] rfl (hK2 (v1 + 1) s2)
set_option maxRecDepth 20000 in
theorem B_AC_turnRound_2 {G : MCx} (hC : C0 G "AccusedChoose" b_AC_turnRound 2 2) (v1 : Int32) (s : St) : VO G (RV G b_AC_turnRound) (F_AC_turnRound_2 v1 s) 2 [(0, .ref (gad G 0)), (1, .int v1)] [] s := by
  exact VO_fix (G_AC_turnRound_2) 2 (fun q => [(0, .ref (gad G 0)), (1, .int q.1)]) (fun q => q.2) (fun K hK q => BH_AC_turnRound_2 hC K (fun w1 s => hK (w1, s)) q.1 q.2) FUEL (v1, s)
set_option maxRecDepth 20000 in
theorem B_AC_turnRound {G : MCx} (hC : C0 G "AccusedChoose" b_AC_turnRound 2 2) (s : St) : VO G (RV G b_AC_turnRound) (F_AC_turnRound s) 0 [(0, .ref (gad G 0))] [] s := by
  unfold F_AC_turnRound
  refine VO_const hC d_AC_turnRound_0 ?_
  refine VO_istore hC d_AC_turnRound_1 [(0, .ref (gad G 0))] rfl (by decide) ?_
  exact VO_sub [1, 0] rfl (B_AC_turnRound_2 hC (0 : Int32) s)
set_option maxRecDepth 20000 in
theorem M_AC_turnRound {l : Launch} {D : va_G} {ad : Nat → Nat} {cI cL : ClassId} (hj : Inj ad) {s : St} {o : St} (h : F_AC_turnRound s = some o) : Cn l D ad cI cL y_AC_turnRound b_AC_turnRound 2 none 2 [.ref (ad 0)] s none o := by
  refine Cn_ofV hj (plainFor_of_name (by decide)) (Nat.le_of_ble_eq_true rfl) [(0, .ref (ad 0))] rfl (fun G hC e1 e2 e3 e4 e5 hR => ?_)
  subst e1; subst e2; subst e3; subst e4; subst e5
  exact B_AC_turnRound hC s o h hR
theorem d_AC_lastWord_0 : PLa b_AC_lastWord 0 0 1 := Or.inl ⟨0, by decide +kernel, rfl, rfl⟩
theorem d_AC_lastWord_1 : DR b_AC_lastWord 1 (.getfield 10) 3 4 := ⟨by decide +kernel, rfl⟩
theorem d_AC_lastWord_4 : PLi b_AC_lastWord 4 1 5 := Or.inl ⟨1, by decide +kernel, rfl, rfl⟩
theorem d_AC_lastWord_5 : DR b_AC_lastWord 5 (.invokevirtual 129) 3 8 := ⟨by decide +kernel, rfl⟩
theorem d_AC_lastWord_8 : DJ b_AC_lastWord 8 (.ifCond .ne) 11 17 := ⟨9, by decide +kernel, rfl, by decide⟩
theorem d_AC_lastWord_11 : PLa b_AC_lastWord 11 0 12 := Or.inl ⟨0, by decide +kernel, rfl, rfl⟩
theorem d_AC_lastWord_12 : PCi b_AC_lastWord 12 (-1) 13 := Or.inl ⟨(-1), by decide +kernel, by decide, rfl⟩
theorem d_AC_lastWord_13 : DR b_AC_lastWord 13 (.invokevirtual 90) 3 16 := ⟨by decide +kernel, rfl⟩
theorem d_AC_lastWord_16 : DR b_AC_lastWord 16 (.ireturn) 1 17 := ⟨by decide +kernel, rfl⟩
theorem d_AC_lastWord_17 : PLa b_AC_lastWord 17 0 18 := Or.inl ⟨0, by decide +kernel, rfl, rfl⟩
theorem d_AC_lastWord_18 : DR b_AC_lastWord 18 (.getfield 39) 3 21 := ⟨by decide +kernel, rfl⟩
theorem d_AC_lastWord_21 : PLa b_AC_lastWord 21 0 22 := Or.inl ⟨0, by decide +kernel, rfl, rfl⟩
theorem d_AC_lastWord_22 : DR b_AC_lastWord 22 (.getfield 10) 3 25 := ⟨by decide +kernel, rfl⟩
theorem d_AC_lastWord_25 : DR b_AC_lastWord 25 (.invokevirtual 219) 3 28 := ⟨by decide +kernel, rfl⟩
theorem d_AC_lastWord_28 : PLa b_AC_lastWord 28 0 29 := Or.inl ⟨0, by decide +kernel, rfl, rfl⟩
theorem d_AC_lastWord_29 : PLi b_AC_lastWord 29 1 30 := Or.inl ⟨1, by decide +kernel, rfl, rfl⟩
theorem d_AC_lastWord_30 : PLi b_AC_lastWord 30 1 31 := Or.inl ⟨1, by decide +kernel, rfl, rfl⟩
theorem d_AC_lastWord_31 : PLa b_AC_lastWord 31 0 32 := Or.inl ⟨0, by decide +kernel, rfl, rfl⟩
theorem d_AC_lastWord_32 : DR b_AC_lastWord 32 (.getfield 10) 3 35 := ⟨by decide +kernel, rfl⟩
theorem d_AC_lastWord_35 : DR b_AC_lastWord 35 (.getfield 164) 3 38 := ⟨by decide +kernel, rfl⟩
theorem d_AC_lastWord_38 : PCi b_AC_lastWord 38 1 39 := Or.inl ⟨1, by decide +kernel, by decide, rfl⟩
theorem d_AC_lastWord_39 : DR b_AC_lastWord 39 (.isub) 1 40 := ⟨by decide +kernel, rfl⟩
theorem d_AC_lastWord_40 : DR b_AC_lastWord 40 (.invokevirtual 259) 3 43 := ⟨by decide +kernel, rfl⟩
theorem d_AC_lastWord_43 : PSi b_AC_lastWord 43 2 44 := Or.inl ⟨2, by decide +kernel, rfl, rfl⟩
theorem d_AC_lastWord_44 : PLa b_AC_lastWord 44 0 45 := Or.inl ⟨0, by decide +kernel, rfl, rfl⟩
theorem d_AC_lastWord_45 : DR b_AC_lastWord 45 (.invokevirtual 320) 3 48 := ⟨by decide +kernel, rfl⟩
theorem d_AC_lastWord_48 : PLa b_AC_lastWord 48 0 49 := Or.inl ⟨0, by decide +kernel, rfl, rfl⟩
theorem d_AC_lastWord_49 : PLi b_AC_lastWord 49 1 50 := Or.inl ⟨1, by decide +kernel, rfl, rfl⟩
theorem d_AC_lastWord_50 : PLa b_AC_lastWord 50 0 51 := Or.inl ⟨0, by decide +kernel, rfl, rfl⟩
theorem d_AC_lastWord_51 : DR b_AC_lastWord 51 (.getfield 10) 3 54 := ⟨by decide +kernel, rfl⟩
theorem d_AC_lastWord_54 : DR b_AC_lastWord 54 (.getfield 164) 3 57 := ⟨by decide +kernel, rfl⟩
theorem d_AC_lastWord_57 : PCi b_AC_lastWord 57 1 58 := Or.inl ⟨1, by decide +kernel, by decide, rfl⟩
theorem d_AC_lastWord_58 : DR b_AC_lastWord 58 (.isub) 1 59 := ⟨by decide +kernel, rfl⟩
theorem d_AC_lastWord_59 : DR b_AC_lastWord 59 (.invokevirtual 323) 3 62 := ⟨by decide +kernel, rfl⟩
theorem d_AC_lastWord_62 : PLa b_AC_lastWord 62 0 63 := Or.inl ⟨0, by decide +kernel, rfl, rfl⟩
theorem d_AC_lastWord_63 : DR b_AC_lastWord 63 (.invokevirtual 326) 3 66 := ⟨by decide +kernel, rfl⟩
theorem d_AC_lastWord_66 : PLi b_AC_lastWord 66 2 67 := Or.inl ⟨2, by decide +kernel, rfl, rfl⟩
theorem d_AC_lastWord_67 : PLa b_AC_lastWord 67 0 68 := Or.inl ⟨0, by decide +kernel, rfl, rfl⟩
theorem d_AC_lastWord_68 : DR b_AC_lastWord 68 (.getfield 53) 3 71 := ⟨by decide +kernel, rfl⟩
theorem d_AC_lastWord_71 : DR b_AC_lastWord 71 (.getfield 207) 3 74 := ⟨by decide +kernel, rfl⟩
theorem d_AC_lastWord_74 : PLi b_AC_lastWord 74 1 75 := Or.inl ⟨1, by decide +kernel, rfl, rfl⟩
theorem d_AC_lastWord_75 : DR b_AC_lastWord 75 (.invokestatic 122) 3 78 := ⟨by decide +kernel, rfl⟩
theorem d_AC_lastWord_78 : DR b_AC_lastWord 78 (.invokestatic 329) 3 81 := ⟨by decide +kernel, rfl⟩
theorem d_AC_lastWord_81 : DR b_AC_lastWord 81 (.ireturn) 1 82 := ⟨by decide +kernel, rfl⟩
set_option maxRecDepth 20000 in
theorem B_AC_lastWord {G : MCx} (hC : C0 G "AccusedChoose" b_AC_lastWord 3 7) (a1 : Int32) (s : St) : VO G (RI G b_AC_lastWord) (F_AC_lastWord a1 s) 0 [(0, .ref (gad G 0)), (1, .int a1)] [] s := by
  unfold F_AC_lastWord
  refine VO_aload hC d_AC_lastWord_0 0 rfl ?_
  refine VO_getr (r := 1) hC fl_AC_10 sh_AC rfl d_AC_lastWord_1 ?_
  refine VO_iload hC d_AC_lastWord_4 1 rfl ?_
  refine VO_callVI hC [.int a1] [] ml_AC_129 d_AC_lastWord_5 yv_NI_hasPerson (sh_NI isNI_1) rfl rfl (fun o h => M_NI_hasPerson hC.inj isNI_1 h) (by decide) rfl rfl (Nat.le_of_ble_eq_true rfl) (fun o1 => ?_)
  refine VO_if_ne hC d_AC_lastWord_8 (fun _ => ?_) (fun _ => ?_)
  · refine VO_aload hC d_AC_lastWord_11 0 rfl ?_
    refine VO_const hC d_AC_lastWord_12 ?_
    refine VO_callVI hC [.int (-1 : Int32)] [] ml_AC_90 d_AC_lastWord_13 yv_AC_refuse sh_AC rfl rfl (fun o h => M_AC_refuse hC.inj h) (by decide) rfl rfl (Nat.le_of_ble_eq_true rfl) (fun o9 => ?_)
    exact VO_ireturn d_AC_lastWord_16
  · refine VO_aload hC d_AC_lastWord_17 0 rfl ?_
    refine VO_getr (r := 36) hC fl_AC_39 sh_AC rfl d_AC_lastWord_18 ?_
    refine VO_aload hC d_AC_lastWord_21 0 rfl ?_
    refine VO_getr (r := 1) hC fl_AC_10 sh_AC rfl d_AC_lastWord_22 ?_
    refine VO_callVV hC [.ref (gad G 1)] [] ml_AC_219 d_AC_lastWord_25 yv_PR_fill (sh_PR isPR_36) rfl rfl (fun o h => M_PR_fill hC.inj isPR_36 isNI_1 h) (by decide) rfl rfl (Nat.le_of_ble_eq_true rfl) (fun s2 => ?_)
    refine VO_aload hC d_AC_lastWord_28 0 rfl ?_
    refine VO_iload hC d_AC_lastWord_29 1 rfl ?_
    refine VO_iload hC d_AC_lastWord_30 1 rfl ?_
    refine VO_aload hC d_AC_lastWord_31 0 rfl ?_
    refine VO_getr (r := 1) hC fl_AC_10 sh_AC rfl d_AC_lastWord_32 ?_
    refine VO_geti hC fl_AC_164 (sh_NI isNI_1) rfl d_AC_lastWord_35 ?_
    refine VO_const hC d_AC_lastWord_38 ?_
    refine VO_isub hC d_AC_lastWord_39 ?_
    refine VO_callVI hC [.int a1, .int a1, .int ((rd s2 1 1) - (1 : Int32))] [] ml_AC_259 d_AC_lastWord_40 yv_AC_monthsAt sh_AC rfl rfl (fun o h => M_AC_monthsAt hC.inj h) (by decide) rfl rfl (Nat.le_of_ble_eq_true rfl) (fun o3 => ?_)
    refine VO_istore hC d_AC_lastWord_43 [(0, .ref (gad G 0)), (1, .int a1)] rfl (by decide) ?_
    refine VO_aload hC d_AC_lastWord_44 1 rfl ?_
    refine VO_callVV hC [] [] ml_AC_320 d_AC_lastWord_45 yv_AC_turnRound sh_AC rfl rfl (fun o h => M_AC_turnRound hC.inj h) (by decide) rfl rfl (Nat.le_of_ble_eq_true rfl) (fun s4 => ?_)
    refine VO_aload hC d_AC_lastWord_48 1 rfl ?_
    refine VO_iload hC d_AC_lastWord_49 2 rfl ?_
    refine VO_aload hC d_AC_lastWord_50 1 rfl ?_
    refine VO_getr (r := 1) hC fl_AC_10 sh_AC rfl d_AC_lastWord_51 ?_
    refine VO_geti hC fl_AC_164 (sh_NI isNI_1) rfl d_AC_lastWord_54 ?_
    refine VO_const hC d_AC_lastWord_57 ?_
    refine VO_isub hC d_AC_lastWord_58 ?_
    refine VO_callVV hC [.int a1, .int ((rd s4 1 1) - (1 : Int32))] [] ml_AC_323 d_AC_lastWord_59 yv_AC_moveInLine sh_AC rfl rfl (fun o h => M_AC_moveInLine hC.inj h) (by decide) rfl rfl (Nat.le_of_ble_eq_true rfl) (fun s5 => ?_)
    refine VO_aload hC d_AC_lastWord_62 1 rfl ?_
    refine VO_callVV hC [] [] ml_AC_326 d_AC_lastWord_63 yv_AC_holdLine sh_AC rfl rfl (fun o h => M_AC_holdLine hC.inj h) (by decide) rfl rfl (Nat.le_of_ble_eq_true rfl) (fun s6 => ?_)
    refine VO_iload hC d_AC_lastWord_66 0 rfl ?_
    refine VO_aload hC d_AC_lastWord_67 1 rfl ?_
    refine VO_getr (r := 43) hC fl_AC_53 sh_AC rfl d_AC_lastWord_68 ?_
    refine VO_getr (r := 45) hC fl_AC_207 (sh_MO isMO_43) rfl d_AC_lastWord_71 ?_
    refine VO_iload hC d_AC_lastWord_74 2 rfl ?_
    refine VO_callSI hC [.ref (gad G 45), .int a1] [.int o3.1] ml_AC_122 d_AC_lastWord_75 ys_AC_at (fun o h => M_AC_at hC.inj ia_45 h) (by decide) rfl rfl (Nat.le_of_ble_eq_true rfl) (fun o7 => ?_)
    refine VO_callSI hC [.int o3.1, .int o7.1] [] ml_AC_329 d_AC_lastWord_78 ys_MA_min (fun o h => M_MA_min hC.inj h) (by decide) rfl rfl (Nat.le_of_ble_eq_true rfl) (fun o8 => ?_)
    exact VO_ireturn d_AC_lastWord_81
set_option maxRecDepth 20000 in
theorem M_AC_lastWord {l : Launch} {D : va_G} {ad : Nat → Nat} {cI cL : ClassId} (hj : Inj ad) {a1 : Int32} {s : St} {o : Int32 × St} (h : F_AC_lastWord a1 s = some o) : Cn l D ad cI cL y_AC_lastWord b_AC_lastWord 3 (some .int) 7 [.ref (ad 0), .int a1] s (some (.int o.1)) o.2 := by
  refine Cn_ofI hj (plainFor_of_name (by decide)) (Nat.le_of_ble_eq_true rfl) [(0, .ref (ad 0)), (1, .int a1)] rfl (fun G hC e1 e2 e3 e4 e5 hR => ?_)
  subst e1; subst e2; subst e3; subst e4; subst e5
  exact B_AC_lastWord hC a1 s o h hR
theorem d_AC_bribe_0 : PLi b_AC_bribe 0 1 1 := Or.inl ⟨1, by decide +kernel, rfl, rfl⟩
theorem d_AC_bribe_1 : DJ b_AC_bribe 1 (.ifCond .lt) 4 9 := ⟨8, by decide +kernel, rfl, by decide⟩
theorem d_AC_bribe_4 : PLi b_AC_bribe 4 1 5 := Or.inl ⟨1, by decide +kernel, rfl, rfl⟩
theorem d_AC_bribe_5 : PCi b_AC_bribe 5 1 6 := Or.inl ⟨1, by decide +kernel, by decide, rfl⟩
theorem d_AC_bribe_6 : DJ b_AC_bribe 6 (.if_icmp .le) 9 16 := ⟨10, by decide +kernel, rfl, by decide⟩
theorem d_AC_bribe_9 : PLa b_AC_bribe 9 0 10 := Or.inl ⟨0, by decide +kernel, rfl, rfl⟩
theorem d_AC_bribe_10 : PCi b_AC_bribe 10 (-2) 12 := Or.inr (Or.inl ⟨(-2), by decide +kernel, by decide, rfl⟩)
theorem d_AC_bribe_12 : DR b_AC_bribe 12 (.invokevirtual 90) 3 15 := ⟨by decide +kernel, rfl⟩
theorem d_AC_bribe_15 : DR b_AC_bribe 15 (.ireturn) 1 16 := ⟨by decide +kernel, rfl⟩
theorem d_AC_bribe_16 : PLa b_AC_bribe 16 0 17 := Or.inl ⟨0, by decide +kernel, rfl, rfl⟩
theorem d_AC_bribe_17 : DR b_AC_bribe 17 (.invokevirtual 201) 3 20 := ⟨by decide +kernel, rfl⟩
theorem d_AC_bribe_20 : DR b_AC_bribe 20 (.ldc 255) 2 22 := ⟨by decide +kernel, rfl⟩
theorem d_AC_bribe_22 : PSi b_AC_bribe 22 2 23 := Or.inl ⟨2, by decide +kernel, rfl, rfl⟩
theorem d_AC_bribe_23 : PCi b_AC_bribe 23 (-9) 25 := Or.inr (Or.inl ⟨(-9), by decide +kernel, by decide, rfl⟩)
theorem d_AC_bribe_25 : PSi b_AC_bribe 25 3 26 := Or.inl ⟨3, by decide +kernel, rfl, rfl⟩
theorem d_AC_bribe_26 : PCi b_AC_bribe 26 (-9) 28 := Or.inr (Or.inl ⟨(-9), by decide +kernel, by decide, rfl⟩)
theorem d_AC_bribe_28 : PSi b_AC_bribe 28 4 30 := Or.inr ⟨by decide +kernel, rfl⟩
theorem d_AC_bribe_30 : PCi b_AC_bribe 30 0 31 := Or.inl ⟨0, by decide +kernel, by decide, rfl⟩
theorem d_AC_bribe_31 : PSi b_AC_bribe 31 5 33 := Or.inr ⟨by decide +kernel, rfl⟩
theorem d_AC_bribe_33 : PLi b_AC_bribe 33 5 35 := Or.inr ⟨by decide +kernel, rfl⟩
theorem d_AC_bribe_35 : PLa b_AC_bribe 35 0 36 := Or.inl ⟨0, by decide +kernel, rfl, rfl⟩
theorem d_AC_bribe_36 : DR b_AC_bribe 36 (.getfield 10) 3 39 := ⟨by decide +kernel, rfl⟩
theorem d_AC_bribe_39 : DR b_AC_bribe 39 (.getfield 164) 3 42 := ⟨by decide +kernel, rfl⟩
theorem d_AC_bribe_42 : DJ b_AC_bribe 42 (.if_icmp .ge) 45 169 := ⟨127, by decide +kernel, rfl, by decide⟩
theorem d_AC_bribe_45 : PLi b_AC_bribe 45 5 47 := Or.inr ⟨by decide +kernel, rfl⟩
theorem d_AC_bribe_47 : PCi b_AC_bribe 47 1 48 := Or.inl ⟨1, by decide +kernel, by decide, rfl⟩
theorem d_AC_bribe_48 : DR b_AC_bribe 48 (.iadd) 1 49 := ⟨by decide +kernel, rfl⟩
theorem d_AC_bribe_49 : PSi b_AC_bribe 49 6 51 := Or.inr ⟨by decide +kernel, rfl⟩
theorem d_AC_bribe_51 : PLi b_AC_bribe 51 6 53 := Or.inr ⟨by decide +kernel, rfl⟩
theorem d_AC_bribe_53 : PLa b_AC_bribe 53 0 54 := Or.inl ⟨0, by decide +kernel, rfl, rfl⟩
theorem d_AC_bribe_54 : DR b_AC_bribe 54 (.getfield 10) 3 57 := ⟨by decide +kernel, rfl⟩
theorem d_AC_bribe_57 : DR b_AC_bribe 57 (.getfield 164) 3 60 := ⟨by decide +kernel, rfl⟩
theorem d_AC_bribe_60 : DJ b_AC_bribe 60 (.if_icmp .ge) 63 163 := ⟨103, by decide +kernel, rfl, by decide⟩
theorem d_AC_bribe_63 : PLa b_AC_bribe 63 0 64 := Or.inl ⟨0, by decide +kernel, rfl, rfl⟩
theorem d_AC_bribe_64 : PLi b_AC_bribe 64 5 66 := Or.inr ⟨by decide +kernel, rfl⟩
theorem d_AC_bribe_66 : PLi b_AC_bribe 66 6 68 := Or.inr ⟨by decide +kernel, rfl⟩
theorem d_AC_bribe_68 : DR b_AC_bribe 68 (.invokevirtual 262) 3 71 := ⟨by decide +kernel, rfl⟩
theorem d_AC_bribe_71 : PLa b_AC_bribe 71 0 72 := Or.inl ⟨0, by decide +kernel, rfl, rfl⟩
theorem d_AC_bribe_72 : DR b_AC_bribe 72 (.getfield 49) 3 75 := ⟨by decide +kernel, rfl⟩
theorem d_AC_bribe_75 : DR b_AC_bribe 75 (.getfield 207) 3 78 := ⟨by decide +kernel, rfl⟩
theorem d_AC_bribe_78 : PLi b_AC_bribe 78 5 80 := Or.inr ⟨by decide +kernel, rfl⟩
theorem d_AC_bribe_80 : DR b_AC_bribe 80 (.invokestatic 122) 3 83 := ⟨by decide +kernel, rfl⟩
theorem d_AC_bribe_83 : PLa b_AC_bribe 83 0 84 := Or.inl ⟨0, by decide +kernel, rfl, rfl⟩
theorem d_AC_bribe_84 : DR b_AC_bribe 84 (.getfield 49) 3 87 := ⟨by decide +kernel, rfl⟩
theorem d_AC_bribe_87 : DR b_AC_bribe 87 (.getfield 207) 3 90 := ⟨by decide +kernel, rfl⟩
theorem d_AC_bribe_90 : PLi b_AC_bribe 90 6 92 := Or.inr ⟨by decide +kernel, rfl⟩
theorem d_AC_bribe_92 : DR b_AC_bribe 92 (.invokestatic 122) 3 95 := ⟨by decide +kernel, rfl⟩
theorem d_AC_bribe_95 : DR b_AC_bribe 95 (.iadd) 1 96 := ⟨by decide +kernel, rfl⟩
theorem d_AC_bribe_96 : PSi b_AC_bribe 96 7 98 := Or.inr ⟨by decide +kernel, rfl⟩
theorem d_AC_bribe_98 : PLa b_AC_bribe 98 0 99 := Or.inl ⟨0, by decide +kernel, rfl, rfl⟩
theorem d_AC_bribe_99 : DR b_AC_bribe 99 (.getfield 53) 3 102 := ⟨by decide +kernel, rfl⟩
theorem d_AC_bribe_102 : DR b_AC_bribe 102 (.getfield 207) 3 105 := ⟨by decide +kernel, rfl⟩
theorem d_AC_bribe_105 : PLi b_AC_bribe 105 5 107 := Or.inr ⟨by decide +kernel, rfl⟩
theorem d_AC_bribe_107 : DR b_AC_bribe 107 (.invokestatic 122) 3 110 := ⟨by decide +kernel, rfl⟩
theorem d_AC_bribe_110 : PLa b_AC_bribe 110 0 111 := Or.inl ⟨0, by decide +kernel, rfl, rfl⟩
theorem d_AC_bribe_111 : DR b_AC_bribe 111 (.getfield 53) 3 114 := ⟨by decide +kernel, rfl⟩
theorem d_AC_bribe_114 : DR b_AC_bribe 114 (.getfield 207) 3 117 := ⟨by decide +kernel, rfl⟩
theorem d_AC_bribe_117 : PLi b_AC_bribe 117 6 119 := Or.inr ⟨by decide +kernel, rfl⟩
theorem d_AC_bribe_119 : DR b_AC_bribe 119 (.invokestatic 122) 3 122 := ⟨by decide +kernel, rfl⟩
theorem d_AC_bribe_122 : DR b_AC_bribe 122 (.iadd) 1 123 := ⟨by decide +kernel, rfl⟩
theorem d_AC_bribe_123 : PSi b_AC_bribe 123 8 125 := Or.inr ⟨by decide +kernel, rfl⟩
theorem d_AC_bribe_125 : PLi b_AC_bribe 125 8 127 := Or.inr ⟨by decide +kernel, rfl⟩
theorem d_AC_bribe_127 : PLi b_AC_bribe 127 7 129 := Or.inr ⟨by decide +kernel, rfl⟩
theorem d_AC_bribe_129 : DJ b_AC_bribe 129 (.if_icmp .ge) 132 157 := ⟨28, by decide +kernel, rfl, by decide⟩
theorem d_AC_bribe_132 : PLi b_AC_bribe 132 8 134 := Or.inr ⟨by decide +kernel, rfl⟩
theorem d_AC_bribe_134 : PLi b_AC_bribe 134 2 135 := Or.inl ⟨2, by decide +kernel, rfl, rfl⟩
theorem d_AC_bribe_135 : DJ b_AC_bribe 135 (.if_icmp .ge) 138 157 := ⟨22, by decide +kernel, rfl, by decide⟩
theorem d_AC_bribe_138 : PLi b_AC_bribe 138 8 140 := Or.inr ⟨by decide +kernel, rfl⟩
theorem d_AC_bribe_140 : PSi b_AC_bribe 140 2 141 := Or.inl ⟨2, by decide +kernel, rfl, rfl⟩
theorem d_AC_bribe_141 : PCi b_AC_bribe 141 10 143 := Or.inr (Or.inl ⟨10, by decide +kernel, by decide, rfl⟩)
theorem d_AC_bribe_143 : PLi b_AC_bribe 143 5 145 := Or.inr ⟨by decide +kernel, rfl⟩
theorem d_AC_bribe_145 : DR b_AC_bribe 145 (.imul) 1 146 := ⟨by decide +kernel, rfl⟩
theorem d_AC_bribe_146 : PLi b_AC_bribe 146 6 148 := Or.inr ⟨by decide +kernel, rfl⟩
theorem d_AC_bribe_148 : DR b_AC_bribe 148 (.iadd) 1 149 := ⟨by decide +kernel, rfl⟩
theorem d_AC_bribe_149 : PSi b_AC_bribe 149 3 150 := Or.inl ⟨3, by decide +kernel, rfl, rfl⟩
theorem d_AC_bribe_150 : PLi b_AC_bribe 150 7 152 := Or.inr ⟨by decide +kernel, rfl⟩
theorem d_AC_bribe_152 : PLi b_AC_bribe 152 8 154 := Or.inr ⟨by decide +kernel, rfl⟩
theorem d_AC_bribe_154 : DR b_AC_bribe 154 (.isub) 1 155 := ⟨by decide +kernel, rfl⟩
theorem d_AC_bribe_155 : PSi b_AC_bribe 155 4 157 := Or.inr ⟨by decide +kernel, rfl⟩
theorem d_AC_bribe_157 : DR b_AC_bribe 157 (.iinc 6 1) 3 160 := ⟨by decide +kernel, rfl⟩
theorem d_AC_bribe_160 : DJ b_AC_bribe 160 .goto 163 51 := ⟨-109, by decide +kernel, rfl, by decide⟩
theorem d_AC_bribe_163 : DR b_AC_bribe 163 (.iinc 5 1) 3 166 := ⟨by decide +kernel, rfl⟩
theorem d_AC_bribe_166 : DJ b_AC_bribe 166 .goto 169 33 := ⟨-133, by decide +kernel, rfl, by decide⟩
theorem d_AC_bribe_169 : PLi b_AC_bribe 169 1 170 := Or.inl ⟨1, by decide +kernel, rfl, rfl⟩
theorem d_AC_bribe_170 : DJ b_AC_bribe 170 (.ifCond .ne) 173 177 := ⟨7, by decide +kernel, rfl, by decide⟩
theorem d_AC_bribe_173 : PLi b_AC_bribe 173 3 174 := Or.inl ⟨3, by decide +kernel, rfl, rfl⟩
theorem d_AC_bribe_174 : DJ b_AC_bribe 174 .goto 177 179 := ⟨5, by decide +kernel, rfl, by decide⟩
theorem d_AC_bribe_177 : PLi b_AC_bribe 177 4 179 := Or.inr ⟨by decide +kernel, rfl⟩
theorem d_AC_bribe_179 : DR b_AC_bribe 179 (.ireturn) 1 180 := ⟨by decide +kernel, rfl⟩
set_option maxRecDepth 20000 in
theorem B_AC_bribe_9 {G : MCx} (hC : C0 G "AccusedChoose" b_AC_bribe 9 7) (s : St) : VO G (RI G b_AC_bribe) (F_AC_bribe_9 s) 9 [(0, .ref (gad G 0))] [] s := by
  unfold F_AC_bribe_9
  refine VO_aload hC d_AC_bribe_9 0 rfl ?_
  refine VO_const hC d_AC_bribe_10 ?_
  refine VO_callVI hC [.int (-2 : Int32)] [] ml_AC_90 d_AC_bribe_12 yv_AC_refuse sh_AC rfl rfl (fun o h => M_AC_refuse hC.inj h) (by decide) rfl rfl (Nat.le_of_ble_eq_true rfl) (fun o1 => ?_)
  exact VO_ireturn d_AC_bribe_15
set_option maxRecDepth 20000 in
theorem B_AC_bribe_157 {G : MCx} (hC : C0 G "AccusedChoose" b_AC_bribe 9 7) {v1 : Int32} {v5 : Int32} (K33 : Int32 × Int32 × Int32 × Int32 × St → Option (Int32 × St)) (hK33 : ∀ (w2 : Int32) (w3 : Int32) (w4 : Int32) (w5 : Int32) (s : St), VO G (RI G b_AC_bribe) (K33 (w2, w3, w4, w5, s)) 33 [(0, .ref (gad G 0)), (1, .int v1), (2, .int w2), (3, .int w3), (4, .int w4), (5, .int w5)] [] s) (K51 : Int32 × Int32 × Int32 × Int32 × St → Option (Int32 × St)) (hK51 : ∀ (w2 : Int32) (w3 : Int32) (w4 : Int32) (w6 : Int32) (s : St), VO G (RI G b_AC_bribe) (K51 (w2, w3, w4, w6, s)) 51 [(0, .ref (gad G 0)), (1, .int v1), (2, .int w2), (3, .int w3), (4, .int w4), (5, .int v5), (6, .int w6)] [] s) (v2 : Int32) (v3 : Int32) (v4 : Int32) (v6 : Int32) (s : St) : VO G (RI G b_AC_bribe) (F_AC_bribe_157 K33 K51 v1 v2 v3 v4 v5 v6 s) 157 [(0, .ref (gad G 0)), (1, .int v1), (2, .int v2), (3, .int v3), (4, .int v4), (5, .int v5), (6, .int v6)] [] s := by
  unfold F_AC_bribe_157
  refine VO_iinc hC d_AC_bribe_157 6 rfl (by decide : Int32.ofInt 1 = 1) [(0, .ref (gad G 0)), (1, .int v1), (2, .int v2), (3, .int v3), (4, .int v4), (5, .int v5)] rfl (by decide) ?_
  refine VO_goto hC d_AC_bribe_160 ?_
  exact VO_sub [1, 2, 3, 4, 5, 6, 0] rfl (hK51 v2 v3 v4 (v6 + 1) s)
set_option maxRecDepth 20000 in
theorem BH_AC_bribe_51 {G : MCx} (hC : C0 G "AccusedChoose" b_AC_bribe 9 7) {v1 : Int32} {v5 : Int32} (K33 : Int32 × Int32 × Int32 × Int32 × St → Option (Int32 × St)) (hK33 : ∀ (w2 : Int32) (w3 : Int32) (w4 : Int32) (w5 : Int32) (s : St), VO G (RI G b_AC_bribe) (K33 (w2, w3, w4, w5, s)) 33 [(0, .ref (gad G 0)), (1, .int v1), (2, .int w2), (3, .int w3), (4, .int w4), (5, .int w5)] [] s) (K51 : Int32 × Int32 × Int32 × Int32 × St → Option (Int32 × St)) (hK51 : ∀ (w2 : Int32) (w3 : Int32) (w4 : Int32) (w6 : Int32) (s : St), VO G (RI G b_AC_bribe) (K51 (w2, w3, w4, w6, s)) 51 [(0, .ref (gad G 0)), (1, .int v1), (2, .int w2), (3, .int w3), (4, .int w4), (5, .int v5), (6, .int w6)] [] s) (v2 : Int32) (v3 : Int32) (v4 : Int32) (v6 : Int32) (s : St) : VO G (RI G b_AC_bribe) (H_AC_bribe_51 K33 v1 v5 K51 v2 v3 v4 v6 s) 51 [(0, .ref (gad G 0)), (1, .int v1), (2, .int v2), (3, .int v3), (4, .int v4), (5, .int v5), (6, .int v6)] [] s := by
  unfold H_AC_bribe_51
  refine VO_iload hC d_AC_bribe_51 6 rfl ?_
  refine VO_aload hC d_AC_bribe_53 0 rfl ?_
  refine VO_getr (r := 1) hC fl_AC_10 sh_AC rfl d_AC_bribe_54 ?_
  refine VO_geti hC fl_AC_164 (sh_NI isNI_1) rfl d_AC_bribe_57 ?_
  refine VO_icmp_ge hC d_AC_bribe_60 (fun _ => ?_) (fun _ => ?_)
  · refine VO_iinc hC d_AC_bribe_163 5 rfl (by decide : Int32.ofInt 1 = 1) [(0, .ref (gad G 0)), (1, .int v1), (2, .int v2), (3, .int v3), (4, .int v4), (6, .int v6)] rfl (by decide) ?_
    refine VO_goto hC d_AC_bribe_166 ?_
    exact VO_sub [1, 2, 3, 4, 5, 0] rfl (hK33 v2 v3 v4 (v5 + 1) s)
  · refine VO_aload hC d_AC_bribe_63 0 rfl ?_
    refine VO_iload hC d_AC_bribe_64 5 rfl ?_
    refine VO_iload hC d_AC_bribe_66 6 rfl ?_
    refine VO_callVV hC [.int v5, .int v6] [] ml_AC_262 d_AC_bribe_68 yv_AC_holdChanged sh_AC rfl rfl (fun o h => M_AC_holdChanged hC.inj h) (by decide) rfl rfl (Nat.le_of_ble_eq_true rfl) (fun s4 => ?_)
    refine VO_aload hC d_AC_bribe_71 0 rfl ?_
    refine VO_getr (r := 40) hC fl_AC_49 sh_AC rfl d_AC_bribe_72 ?_
    refine VO_getr (r := 42) hC fl_AC_207 (sh_MO isMO_40) rfl d_AC_bribe_75 ?_
    refine VO_iload hC d_AC_bribe_78 5 rfl ?_
    refine VO_callSI hC [.ref (gad G 42), .int v5] [] ml_AC_122 d_AC_bribe_80 ys_AC_at (fun o h => M_AC_at hC.inj ia_42 h) (by decide) rfl rfl (Nat.le_of_ble_eq_true rfl) (fun o5 => ?_)
    refine VO_aload hC d_AC_bribe_83 0 rfl ?_
    refine VO_getr (r := 40) hC fl_AC_49 sh_AC rfl d_AC_bribe_84 ?_
    refine VO_getr (r := 42) hC fl_AC_207 (sh_MO isMO_40) rfl d_AC_bribe_87 ?_
    refine VO_iload hC d_AC_bribe_90 6 rfl ?_
    refine VO_callSI hC [.ref (gad G 42), .int v6] [.int o5.1] ml_AC_122 d_AC_bribe_92 ys_AC_at (fun o h => M_AC_at hC.inj ia_42 h) (by decide) rfl rfl (Nat.le_of_ble_eq_true rfl) (fun o6 => ?_)
    refine VO_iadd hC d_AC_bribe_95 ?_
    refine VO_istoreB hC d_AC_bribe_96 [(0, .ref (gad G 0)), (1, .int v1), (2, .int v2), (3, .int v3), (4, .int v4), (5, .int v5), (6, .int v6)] rfl (by decide) (fun x7 => ?_)
    refine VO_aload hC d_AC_bribe_98 1 rfl ?_
    refine VO_getr (r := 43) hC fl_AC_53 sh_AC rfl d_AC_bribe_99 ?_
    refine VO_getr (r := 45) hC fl_AC_207 (sh_MO isMO_43) rfl d_AC_bribe_102 ?_
    refine VO_iload hC d_AC_bribe_105 6 rfl ?_
    refine VO_callSI hC [.ref (gad G 45), .int v5] [] ml_AC_122 d_AC_bribe_107 ys_AC_at (fun o h => M_AC_at hC.inj ia_45 h) (by decide) rfl rfl (Nat.le_of_ble_eq_true rfl) (fun o8 => ?_)
    refine VO_aload hC d_AC_bribe_110 1 rfl ?_
    refine VO_getr (r := 43) hC fl_AC_53 sh_AC rfl d_AC_bribe_111 ?_
    refine VO_getr (r := 45) hC fl_AC_207 (sh_MO isMO_43) rfl d_AC_bribe_114 ?_
    refine VO_iload hC d_AC_bribe_117 7 rfl ?_
    refine VO_callSI hC [.ref (gad G 45), .int v6] [.int o8.1] ml_AC_122 d_AC_bribe_119 ys_AC_at (fun o h => M_AC_at hC.inj ia_45 h) (by decide) rfl rfl (Nat.le_of_ble_eq_true rfl) (fun o9 => ?_)
    refine VO_iadd hC d_AC_bribe_122 ?_
    refine VO_istoreB hC d_AC_bribe_123 [(7, .int x7), (0, .ref (gad G 0)), (1, .int v1), (2, .int v2), (3, .int v3), (4, .int v4), (5, .int v5), (6, .int v6)] rfl (by decide) (fun x10 => ?_)
    refine VO_iload hC d_AC_bribe_125 0 rfl ?_
    refine VO_iload hC d_AC_bribe_127 1 rfl ?_
    refine VO_icmp_ge hC d_AC_bribe_129 (fun _ => ?_) (fun _ => ?_)
    · exact VO_sub [2, 3, 4, 5, 6, 7, 8] rfl (B_AC_bribe_157 hC K33 hK33 K51 hK51 v2 v3 v4 v6 o9.2)
    · refine VO_iload hC d_AC_bribe_132 0 rfl ?_
      refine VO_iload hC d_AC_bribe_134 4 rfl ?_
      refine VO_icmp_ge hC d_AC_bribe_135 (fun _ => ?_) (fun _ => ?_)
      · exact VO_sub [2, 3, 4, 5, 6, 7, 8] rfl (B_AC_bribe_157 hC K33 hK33 K51 hK51 v2 v3 v4 v6 o9.2)
      · refine VO_iload hC d_AC_bribe_138 0 rfl ?_
        refine VO_istore hC d_AC_bribe_140 [(8, .int x10), (7, .int x7), (0, .ref (gad G 0)), (1, .int v1), (3, .int v3), (4, .int v4), (5, .int v5), (6, .int v6)] rfl (by decide) ?_
        refine VO_const hC d_AC_bribe_141 ?_
        refine VO_iload hC d_AC_bribe_143 7 rfl ?_
        refine VO_imul hC d_AC_bribe_145 ?_
        refine VO_iload hC d_AC_bribe_146 8 rfl ?_
        refine VO_iadd hC d_AC_bribe_148 ?_
        refine VO_istoreB hC d_AC_bribe_149 [(2, .int x10), (8, .int x10), (7, .int x7), (0, .ref (gad G 0)), (1, .int v1), (4, .int v4), (5, .int v5), (6, .int v6)] rfl (by decide) (fun x11 => ?_)
        refine VO_iload hC d_AC_bribe_150 3 rfl ?_
        refine VO_iload hC d_AC_bribe_152 2 rfl ?_
        refine VO_isub hC d_AC_bribe_154 ?_
        refine VO_istoreB hC d_AC_bribe_155 [(3, .int x11), (2, .int x10), (8, .int x10), (7, .int x7), (0, .ref (gad G 0)), (1, .int v1), (5, .int v5), (6, .int v6)] rfl (by decide) (fun x12 => ?_)
        exact VO_sub [5, 6, 2, 1, 0, 7, 8] rfl (B_AC_bribe_157 hC K33 hK33 K51 hK51 x10 x11 x12 v6 o9.2)
set_option maxRecDepth 20000 in
theorem B_AC_bribe_51 {G : MCx} (hC : C0 G "AccusedChoose" b_AC_bribe 9 7) {v1 : Int32} (K33 : Int32 × Int32 × Int32 × Int32 × St → Option (Int32 × St)) (hK33 : ∀ (w2 : Int32) (w3 : Int32) (w4 : Int32) (w5 : Int32) (s : St), VO G (RI G b_AC_bribe) (K33 (w2, w3, w4, w5, s)) 33 [(0, .ref (gad G 0)), (1, .int v1), (2, .int w2), (3, .int w3), (4, .int w4), (5, .int w5)] [] s) (v2 : Int32) (v3 : Int32) (v4 : Int32) (v5 : Int32) (v6 : Int32) (s : St) : VO G (RI G b_AC_bribe) (F_AC_bribe_51 K33 v1 v2 v3 v4 v5 v6 s) 51 [(0, .ref (gad G 0)), (1, .int v1), (2, .int v2), (3, .int v3), (4, .int v4), (5, .int v5), (6, .int v6)] [] s := by
  exact VO_fix (G_AC_bribe_51 K33 v1 v5) 51 (fun q => [(0, .ref (gad G 0)), (1, .int v1), (2, .int q.1), (3, .int q.2.1), (4, .int q.2.2.1), (5, .int v5), (6, .int q.2.2.2.1)]) (fun q => q.2.2.2.2) (fun K hK q => BH_AC_bribe_51 hC K33 hK33 K (fun w2 w3 w4 w6 s => hK (w2, w3, w4, w6, s)) q.1 q.2.1 q.2.2.1 q.2.2.2.1 q.2.2.2.2) FUEL (v2, v3, v4, v6, s)
set_option maxRecDepth 20000 in
theorem BH_AC_bribe_33 {G : MCx} (hC : C0 G "AccusedChoose" b_AC_bribe 9 7) {v1 : Int32} (K33 : Int32 × Int32 × Int32 × Int32 × St → Option (Int32 × St)) (hK33 : ∀ (w2 : Int32) (w3 : Int32) (w4 : Int32) (w5 : Int32) (s : St), VO G (RI G b_AC_bribe) (K33 (w2, w3, w4, w5, s)) 33 [(0, .ref (gad G 0)), (1, .int v1), (2, .int w2), (3, .int w3), (4, .int w4), (5, .int w5)] [] s) (v2 : Int32) (v3 : Int32) (v4 : Int32) (v5 : Int32) (s : St) : VO G (RI G b_AC_bribe) (H_AC_bribe_33 v1 K33 v2 v3 v4 v5 s) 33 [(0, .ref (gad G 0)), (1, .int v1), (2, .int v2), (3, .int v3), (4, .int v4), (5, .int v5)] [] s := by
  unfold H_AC_bribe_33
  refine VO_iload hC d_AC_bribe_33 5 rfl ?_
  refine VO_aload hC d_AC_bribe_35 0 rfl ?_
  refine VO_getr (r := 1) hC fl_AC_10 sh_AC rfl d_AC_bribe_36 ?_
  refine VO_geti hC fl_AC_164 (sh_NI isNI_1) rfl d_AC_bribe_39 ?_
  refine VO_icmp_ge hC d_AC_bribe_42 (fun _ => ?_) (fun _ => ?_)
  · refine VO_iload hC d_AC_bribe_169 1 rfl ?_
    refine VO_if_ne hC d_AC_bribe_170 (fun _ => ?_) (fun _ => ?_)
    · refine VO_iload hC d_AC_bribe_173 3 rfl ?_
      refine VO_goto hC d_AC_bribe_174 ?_
      exact VO_ireturn d_AC_bribe_179
    · refine VO_iload hC d_AC_bribe_177 4 rfl ?_
      exact VO_ireturn d_AC_bribe_179
  · refine VO_iload hC d_AC_bribe_45 5 rfl ?_
    refine VO_const hC d_AC_bribe_47 ?_
    refine VO_iadd hC d_AC_bribe_48 ?_
    refine VO_istoreB hC d_AC_bribe_49 [(0, .ref (gad G 0)), (1, .int v1), (2, .int v2), (3, .int v3), (4, .int v4), (5, .int v5)] rfl (by decide) (fun x3 => ?_)
    exact VO_sub [1, 2, 3, 4, 5, 6, 0] rfl (B_AC_bribe_51 hC K33 hK33 v2 v3 v4 v5 x3 s)
set_option maxRecDepth 20000 in
theorem B_AC_bribe_33 {G : MCx} (hC : C0 G "AccusedChoose" b_AC_bribe 9 7) (v1 : Int32) (v2 : Int32) (v3 : Int32) (v4 : Int32) (v5 : Int32) (s : St) : VO G (RI G b_AC_bribe) (F_AC_bribe_33 v1 v2 v3 v4 v5 s) 33 [(0, .ref (gad G 0)), (1, .int v1), (2, .int v2), (3, .int v3), (4, .int v4), (5, .int v5)] [] s := by
  exact VO_fix (G_AC_bribe_33 v1) 33 (fun q => [(0, .ref (gad G 0)), (1, .int v1), (2, .int q.1), (3, .int q.2.1), (4, .int q.2.2.1), (5, .int q.2.2.2.1)]) (fun q => q.2.2.2.2) (fun K hK q => BH_AC_bribe_33 hC K (fun w2 w3 w4 w5 s => hK (w2, w3, w4, w5, s)) q.1 q.2.1 q.2.2.1 q.2.2.2.1 q.2.2.2.2) FUEL (v2, v3, v4, v5, s)
set_option maxRecDepth 20000 in
theorem B_AC_bribe {G : MCx} (hC : C0 G "AccusedChoose" b_AC_bribe 9 7) (a1 : Int32) (s : St) : VO G (RI G b_AC_bribe) (F_AC_bribe a1 s) 0 [(0, .ref (gad G 0)), (1, .int a1)] [] s := by
  unfold F_AC_bribe
  refine VO_iload hC d_AC_bribe_0 1 rfl ?_
  refine VO_if_lt hC d_AC_bribe_1 (fun _ => ?_) (fun _ => ?_)
  · exact VO_sub [0] rfl (B_AC_bribe_9 hC s)
  · refine VO_iload hC d_AC_bribe_4 1 rfl ?_
    refine VO_const hC d_AC_bribe_5 ?_
    refine VO_icmp_le hC d_AC_bribe_6 (fun _ => ?_) (fun _ => ?_)
    · refine VO_aload hC d_AC_bribe_16 0 rfl ?_
      refine VO_callVV hC [] [] ml_AC_201 d_AC_bribe_17 yv_AC_holdToday sh_AC rfl rfl (fun o h => M_AC_holdToday hC.inj h) (by decide) rfl rfl (Nat.le_of_ble_eq_true rfl) (fun s2 => ?_)
      refine VO_ldc hC k_AC_255 d_AC_bribe_20 ?_
      refine VO_istore hC d_AC_bribe_22 [(0, .ref (gad G 0)), (1, .int a1)] rfl (by decide) ?_
      refine VO_const hC d_AC_bribe_23 ?_
      refine VO_istore hC d_AC_bribe_25 [(2, .int (1000000 : Int32)), (0, .ref (gad G 0)), (1, .int a1)] rfl (by decide) ?_
      refine VO_const hC d_AC_bribe_26 ?_
      refine VO_istore hC d_AC_bribe_28 [(3, .int (-9 : Int32)), (2, .int (1000000 : Int32)), (0, .ref (gad G 0)), (1, .int a1)] rfl (by decide) ?_
      refine VO_const hC d_AC_bribe_30 ?_
      refine VO_istore hC d_AC_bribe_31 [(4, .int (-9 : Int32)), (3, .int (-9 : Int32)), (2, .int (1000000 : Int32)), (0, .ref (gad G 0)), (1, .int a1)] rfl (by decide) ?_
      exact VO_sub [4, 5, 3, 2, 1, 0] rfl (B_AC_bribe_33 hC a1 (1000000 : Int32) (-9 : Int32) (-9 : Int32) (0 : Int32) s2)
    · exact VO_sub [0] rfl (B_AC_bribe_9 hC s)
set_option maxRecDepth 20000 in
theorem M_AC_bribe {l : Launch} {D : va_G} {ad : Nat → Nat} {cI cL : ClassId} (hj : Inj ad) {a1 : Int32} {s : St} {o : Int32 × St} (h : F_AC_bribe a1 s = some o) : Cn l D ad cI cL y_AC_bribe b_AC_bribe 9 (some .int) 7 [.ref (ad 0), .int a1] s (some (.int o.1)) o.2 := by
  refine Cn_ofI hj (plainFor_of_name (by decide)) (Nat.le_of_ble_eq_true rfl) [(0, .ref (ad 0)), (1, .int a1)] rfl (fun G hC e1 e2 e3 e4 e5 hR => ?_)
  subst e1; subst e2; subst e3; subst e4; subst e5
  exact B_AC_bribe hC a1 s o h hR
theorem d_AC_latest_0 : PLa b_AC_latest 0 0 1 := Or.inl ⟨0, by decide +kernel, rfl, rfl⟩
theorem d_AC_latest_1 : DR b_AC_latest 1 (.getfield 10) 3 4 := ⟨by decide +kernel, rfl⟩
theorem d_AC_latest_4 : PLi b_AC_latest 4 1 5 := Or.inl ⟨1, by decide +kernel, rfl, rfl⟩
theorem d_AC_latest_5 : DR b_AC_latest 5 (.invokevirtual 129) 3 8 := ⟨by decide +kernel, rfl⟩
theorem d_AC_latest_8 : DJ b_AC_latest 8 (.ifCond .ne) 11 17 := ⟨9, by decide +kernel, rfl, by decide⟩
theorem d_AC_latest_11 : PLa b_AC_latest 11 0 12 := Or.inl ⟨0, by decide +kernel, rfl, rfl⟩
theorem d_AC_latest_12 : PCi b_AC_latest 12 (-1) 13 := Or.inl ⟨(-1), by decide +kernel, by decide, rfl⟩
theorem d_AC_latest_13 : DR b_AC_latest 13 (.invokevirtual 90) 3 16 := ⟨by decide +kernel, rfl⟩
theorem d_AC_latest_16 : DR b_AC_latest 16 (.ireturn) 1 17 := ⟨by decide +kernel, rfl⟩
theorem d_AC_latest_17 : PLi b_AC_latest 17 2 18 := Or.inl ⟨2, by decide +kernel, rfl, rfl⟩
theorem d_AC_latest_18 : DJ b_AC_latest 18 (.ifCond .lt) 21 26 := ⟨8, by decide +kernel, rfl, by decide⟩
theorem d_AC_latest_21 : PLi b_AC_latest 21 2 22 := Or.inl ⟨2, by decide +kernel, rfl, rfl⟩
theorem d_AC_latest_22 : PCi b_AC_latest 22 1 23 := Or.inl ⟨1, by decide +kernel, by decide, rfl⟩
theorem d_AC_latest_23 : DJ b_AC_latest 23 (.if_icmp .le) 26 33 := ⟨10, by decide +kernel, rfl, by decide⟩
theorem d_AC_latest_26 : PLa b_AC_latest 26 0 27 := Or.inl ⟨0, by decide +kernel, rfl, rfl⟩
theorem d_AC_latest_27 : PCi b_AC_latest 27 (-2) 29 := Or.inr (Or.inl ⟨(-2), by decide +kernel, by decide, rfl⟩)
theorem d_AC_latest_29 : DR b_AC_latest 29 (.invokevirtual 90) 3 32 := ⟨by decide +kernel, rfl⟩
theorem d_AC_latest_32 : DR b_AC_latest 32 (.ireturn) 1 33 := ⟨by decide +kernel, rfl⟩
theorem d_AC_latest_33 : PLa b_AC_latest 33 0 34 := Or.inl ⟨0, by decide +kernel, rfl, rfl⟩
theorem d_AC_latest_34 : DR b_AC_latest 34 (.getfield 39) 3 37 := ⟨by decide +kernel, rfl⟩
theorem d_AC_latest_37 : PLa b_AC_latest 37 0 38 := Or.inl ⟨0, by decide +kernel, rfl, rfl⟩
theorem d_AC_latest_38 : DR b_AC_latest 38 (.getfield 10) 3 41 := ⟨by decide +kernel, rfl⟩
theorem d_AC_latest_41 : DR b_AC_latest 41 (.invokevirtual 219) 3 44 := ⟨by decide +kernel, rfl⟩
theorem d_AC_latest_44 : PLa b_AC_latest 44 0 45 := Or.inl ⟨0, by decide +kernel, rfl, rfl⟩
theorem d_AC_latest_45 : PLi b_AC_latest 45 1 46 := Or.inl ⟨1, by decide +kernel, rfl, rfl⟩
theorem d_AC_latest_46 : PLi b_AC_latest 46 1 47 := Or.inl ⟨1, by decide +kernel, rfl, rfl⟩
theorem d_AC_latest_47 : PCi b_AC_latest 47 0 48 := Or.inl ⟨0, by decide +kernel, by decide, rfl⟩
theorem d_AC_latest_48 : DR b_AC_latest 48 (.invokevirtual 259) 3 51 := ⟨by decide +kernel, rfl⟩
theorem d_AC_latest_51 : PSi b_AC_latest 51 3 52 := Or.inl ⟨3, by decide +kernel, rfl, rfl⟩
theorem d_AC_latest_52 : PCi b_AC_latest 52 0 53 := Or.inl ⟨0, by decide +kernel, by decide, rfl⟩
theorem d_AC_latest_53 : PSi b_AC_latest 53 4 55 := Or.inr ⟨by decide +kernel, rfl⟩
theorem d_AC_latest_55 : PLi b_AC_latest 55 3 56 := Or.inl ⟨3, by decide +kernel, rfl, rfl⟩
theorem d_AC_latest_56 : PSi b_AC_latest 56 5 58 := Or.inr ⟨by decide +kernel, rfl⟩
theorem d_AC_latest_58 : PCi b_AC_latest 58 1 59 := Or.inl ⟨1, by decide +kernel, by decide, rfl⟩
theorem d_AC_latest_59 : PSi b_AC_latest 59 6 61 := Or.inr ⟨by decide +kernel, rfl⟩
theorem d_AC_latest_61 : PLi b_AC_latest 61 6 63 := Or.inr ⟨by decide +kernel, rfl⟩
theorem d_AC_latest_63 : PLa b_AC_latest 63 0 64 := Or.inl ⟨0, by decide +kernel, rfl, rfl⟩
theorem d_AC_latest_64 : DR b_AC_latest 64 (.getfield 10) 3 67 := ⟨by decide +kernel, rfl⟩
theorem d_AC_latest_67 : DR b_AC_latest 67 (.getfield 164) 3 70 := ⟨by decide +kernel, rfl⟩
theorem d_AC_latest_70 : DJ b_AC_latest 70 (.if_icmp .ge) 73 108 := ⟨38, by decide +kernel, rfl, by decide⟩
theorem d_AC_latest_73 : PLa b_AC_latest 73 0 74 := Or.inl ⟨0, by decide +kernel, rfl, rfl⟩
theorem d_AC_latest_74 : PLi b_AC_latest 74 1 75 := Or.inl ⟨1, by decide +kernel, rfl, rfl⟩
theorem d_AC_latest_75 : PLi b_AC_latest 75 1 76 := Or.inl ⟨1, by decide +kernel, rfl, rfl⟩
theorem d_AC_latest_76 : PLi b_AC_latest 76 6 78 := Or.inr ⟨by decide +kernel, rfl⟩
theorem d_AC_latest_78 : DR b_AC_latest 78 (.invokevirtual 259) 3 81 := ⟨by decide +kernel, rfl⟩
theorem d_AC_latest_81 : PSi b_AC_latest 81 7 83 := Or.inr ⟨by decide +kernel, rfl⟩
theorem d_AC_latest_83 : PLi b_AC_latest 83 7 85 := Or.inr ⟨by decide +kernel, rfl⟩
theorem d_AC_latest_85 : PLi b_AC_latest 85 3 86 := Or.inl ⟨3, by decide +kernel, rfl, rfl⟩
theorem d_AC_latest_86 : DJ b_AC_latest 86 (.if_icmp .gt) 89 93 := ⟨7, by decide +kernel, rfl, by decide⟩
theorem d_AC_latest_89 : PLi b_AC_latest 89 6 91 := Or.inr ⟨by decide +kernel, rfl⟩
theorem d_AC_latest_91 : PSi b_AC_latest 91 4 93 := Or.inr ⟨by decide +kernel, rfl⟩
theorem d_AC_latest_93 : PLi b_AC_latest 93 5 95 := Or.inr ⟨by decide +kernel, rfl⟩
theorem d_AC_latest_95 : PLi b_AC_latest 95 7 97 := Or.inr ⟨by decide +kernel, rfl⟩
theorem d_AC_latest_97 : DR b_AC_latest 97 (.invokestatic 334) 3 100 := ⟨by decide +kernel, rfl⟩
theorem d_AC_latest_100 : PSi b_AC_latest 100 5 102 := Or.inr ⟨by decide +kernel, rfl⟩
theorem d_AC_latest_102 : DR b_AC_latest 102 (.iinc 6 1) 3 105 := ⟨by decide +kernel, rfl⟩
theorem d_AC_latest_105 : DJ b_AC_latest 105 .goto 108 61 := ⟨-44, by decide +kernel, rfl, by decide⟩
theorem d_AC_latest_108 : PLi b_AC_latest 108 2 109 := Or.inl ⟨2, by decide +kernel, rfl, rfl⟩
theorem d_AC_latest_109 : DJ b_AC_latest 109 (.ifCond .ne) 112 117 := ⟨8, by decide +kernel, rfl, by decide⟩
theorem d_AC_latest_112 : PLi b_AC_latest 112 4 114 := Or.inr ⟨by decide +kernel, rfl⟩
theorem d_AC_latest_114 : DJ b_AC_latest 114 .goto 117 119 := ⟨5, by decide +kernel, rfl, by decide⟩
theorem d_AC_latest_117 : PLi b_AC_latest 117 5 119 := Or.inr ⟨by decide +kernel, rfl⟩
theorem d_AC_latest_119 : DR b_AC_latest 119 (.ireturn) 1 120 := ⟨by decide +kernel, rfl⟩
set_option maxRecDepth 20000 in
theorem B_AC_latest_26 {G : MCx} (hC : C0 G "AccusedChoose" b_AC_latest 8 7) (s : St) : VO G (RI G b_AC_latest) (F_AC_latest_26 s) 26 [(0, .ref (gad G 0))] [] s := by
  unfold F_AC_latest_26
  refine VO_aload hC d_AC_latest_26 0 rfl ?_
  refine VO_const hC d_AC_latest_27 ?_
  refine VO_callVI hC [.int (-2 : Int32)] [] ml_AC_90 d_AC_latest_29 yv_AC_refuse sh_AC rfl rfl (fun o h => M_AC_refuse hC.inj h) (by decide) rfl rfl (Nat.le_of_ble_eq_true rfl) (fun o2 => ?_)
  exact VO_ireturn d_AC_latest_32
set_option maxRecDepth 20000 in
theorem B_AC_latest_93 {G : MCx} (hC : C0 G "AccusedChoose" b_AC_latest 8 7) {v1 : Int32} {v2 : Int32} {v3 : Int32} (K61 : Int32 × Int32 × Int32 × St → Option (Int32 × St)) (hK61 : ∀ (w4 : Int32) (w5 : Int32) (w6 : Int32) (s : St), VO G (RI G b_AC_latest) (K61 (w4, w5, w6, s)) 61 [(0, .ref (gad G 0)), (1, .int v1), (2, .int v2), (3, .int v3), (4, .int w4), (5, .int w5), (6, .int w6)] [] s) (v4 : Int32) (v5 : Int32) (v6 : Int32) (v7 : Int32) (s : St) : VO G (RI G b_AC_latest) (F_AC_latest_93 K61 v1 v2 v3 v4 v5 v6 v7 s) 93 [(0, .ref (gad G 0)), (1, .int v1), (2, .int v2), (3, .int v3), (4, .int v4), (5, .int v5), (6, .int v6), (7, .int v7)] [] s := by
  unfold F_AC_latest_93
  refine VO_iload hC d_AC_latest_93 5 rfl ?_
  refine VO_iload hC d_AC_latest_95 7 rfl ?_
  refine VO_callSI hC [.int v5, .int v7] [] ml_AC_334 d_AC_latest_97 ys_MA_max (fun o h => M_MA_max hC.inj h) (by decide) rfl rfl (Nat.le_of_ble_eq_true rfl) (fun o6 => ?_)
  refine VO_istore hC d_AC_latest_100 [(0, .ref (gad G 0)), (1, .int v1), (2, .int v2), (3, .int v3), (4, .int v4), (6, .int v6), (7, .int v7)] rfl (by decide) ?_
  refine VO_iinc hC d_AC_latest_102 6 rfl (by decide : Int32.ofInt 1 = 1) [(5, .int o6.1), (0, .ref (gad G 0)), (1, .int v1), (2, .int v2), (3, .int v3), (4, .int v4), (7, .int v7)] rfl (by decide) ?_
  refine VO_goto hC d_AC_latest_105 ?_
  exact VO_sub [2, 3, 4, 5, 6, 1, 0] rfl (hK61 v4 o6.1 (v6 + 1) o6.2)
set_option maxRecDepth 20000 in
theorem BH_AC_latest_61 {G : MCx} (hC : C0 G "AccusedChoose" b_AC_latest 8 7) {v1 : Int32} {v2 : Int32} {v3 : Int32} (K61 : Int32 × Int32 × Int32 × St → Option (Int32 × St)) (hK61 : ∀ (w4 : Int32) (w5 : Int32) (w6 : Int32) (s : St), VO G (RI G b_AC_latest) (K61 (w4, w5, w6, s)) 61 [(0, .ref (gad G 0)), (1, .int v1), (2, .int v2), (3, .int v3), (4, .int w4), (5, .int w5), (6, .int w6)] [] s) (v4 : Int32) (v5 : Int32) (v6 : Int32) (s : St) : VO G (RI G b_AC_latest) (H_AC_latest_61 v1 v2 v3 K61 v4 v5 v6 s) 61 [(0, .ref (gad G 0)), (1, .int v1), (2, .int v2), (3, .int v3), (4, .int v4), (5, .int v5), (6, .int v6)] [] s := by
  unfold H_AC_latest_61
  refine VO_iload hC d_AC_latest_61 6 rfl ?_
  refine VO_aload hC d_AC_latest_63 0 rfl ?_
  refine VO_getr (r := 1) hC fl_AC_10 sh_AC rfl d_AC_latest_64 ?_
  refine VO_geti hC fl_AC_164 (sh_NI isNI_1) rfl d_AC_latest_67 ?_
  refine VO_icmp_ge hC d_AC_latest_70 (fun _ => ?_) (fun _ => ?_)
  · refine VO_iload hC d_AC_latest_108 2 rfl ?_
    refine VO_if_ne hC d_AC_latest_109 (fun _ => ?_) (fun _ => ?_)
    · refine VO_iload hC d_AC_latest_112 4 rfl ?_
      refine VO_goto hC d_AC_latest_114 ?_
      exact VO_ireturn d_AC_latest_119
    · refine VO_iload hC d_AC_latest_117 5 rfl ?_
      exact VO_ireturn d_AC_latest_119
  · refine VO_aload hC d_AC_latest_73 0 rfl ?_
    refine VO_iload hC d_AC_latest_74 1 rfl ?_
    refine VO_iload hC d_AC_latest_75 1 rfl ?_
    refine VO_iload hC d_AC_latest_76 6 rfl ?_
    refine VO_callVI hC [.int v1, .int v1, .int v6] [] ml_AC_259 d_AC_latest_78 yv_AC_monthsAt sh_AC rfl rfl (fun o h => M_AC_monthsAt hC.inj h) (by decide) rfl rfl (Nat.le_of_ble_eq_true rfl) (fun o5 => ?_)
    refine VO_istore hC d_AC_latest_81 [(0, .ref (gad G 0)), (1, .int v1), (2, .int v2), (3, .int v3), (4, .int v4), (5, .int v5), (6, .int v6)] rfl (by decide) ?_
    refine VO_iload hC d_AC_latest_83 0 rfl ?_
    refine VO_iload hC d_AC_latest_85 4 rfl ?_
    refine VO_icmp_gt hC d_AC_latest_86 (fun _ => ?_) (fun _ => ?_)
    · exact VO_sub [1, 2, 3, 4, 5, 6, 7, 0] rfl (B_AC_latest_93 hC K61 hK61 v4 v5 v6 o5.1 o5.2)
    · refine VO_iload hC d_AC_latest_89 7 rfl ?_
      refine VO_istore hC d_AC_latest_91 [(7, .int o5.1), (0, .ref (gad G 0)), (1, .int v1), (2, .int v2), (3, .int v3), (5, .int v5), (6, .int v6)] rfl (by decide) ?_
      exact VO_sub [2, 3, 4, 5, 0, 6, 7, 1] rfl (B_AC_latest_93 hC K61 hK61 v6 v5 v6 o5.1 o5.2)
set_option maxRecDepth 20000 in
theorem B_AC_latest_61 {G : MCx} (hC : C0 G "AccusedChoose" b_AC_latest 8 7) (v1 : Int32) (v2 : Int32) (v3 : Int32) (v4 : Int32) (v5 : Int32) (v6 : Int32) (s : St) : VO G (RI G b_AC_latest) (F_AC_latest_61 v1 v2 v3 v4 v5 v6 s) 61 [(0, .ref (gad G 0)), (1, .int v1), (2, .int v2), (3, .int v3), (4, .int v4), (5, .int v5), (6, .int v6)] [] s := by
  exact VO_fix (G_AC_latest_61 v1 v2 v3) 61 (fun q => [(0, .ref (gad G 0)), (1, .int v1), (2, .int v2), (3, .int v3), (4, .int q.1), (5, .int q.2.1), (6, .int q.2.2.1)]) (fun q => q.2.2.2) (fun K hK q => BH_AC_latest_61 hC K (fun w4 w5 w6 s => hK (w4, w5, w6, s)) q.1 q.2.1 q.2.2.1 q.2.2.2) FUEL (v4, v5, v6, s)
set_option maxRecDepth 20000 in
theorem B_AC_latest {G : MCx} (hC : C0 G "AccusedChoose" b_AC_latest 8 7) (a1 : Int32) (a2 : Int32) (s : St) : VO G (RI G b_AC_latest) (F_AC_latest a1 a2 s) 0 [(0, .ref (gad G 0)), (1, .int a1), (2, .int a2)] [] s := by
  unfold F_AC_latest
  refine VO_aload hC d_AC_latest_0 0 rfl ?_
  refine VO_getr (r := 1) hC fl_AC_10 sh_AC rfl d_AC_latest_1 ?_
  refine VO_iload hC d_AC_latest_4 1 rfl ?_
  refine VO_callVI hC [.int a1] [] ml_AC_129 d_AC_latest_5 yv_NI_hasPerson (sh_NI isNI_1) rfl rfl (fun o h => M_NI_hasPerson hC.inj isNI_1 h) (by decide) rfl rfl (Nat.le_of_ble_eq_true rfl) (fun o1 => ?_)
  refine VO_if_ne hC d_AC_latest_8 (fun _ => ?_) (fun _ => ?_)
  · refine VO_aload hC d_AC_latest_11 0 rfl ?_
    refine VO_const hC d_AC_latest_12 ?_
    refine VO_callVI hC [.int (-1 : Int32)] [] ml_AC_90 d_AC_latest_13 yv_AC_refuse sh_AC rfl rfl (fun o h => M_AC_refuse hC.inj h) (by decide) rfl rfl (Nat.le_of_ble_eq_true rfl) (fun o7 => ?_)
    exact VO_ireturn d_AC_latest_16
  · refine VO_iload hC d_AC_latest_17 2 rfl ?_
    refine VO_if_lt hC d_AC_latest_18 (fun _ => ?_) (fun _ => ?_)
    · exact VO_sub [0] rfl (B_AC_latest_26 hC o1.2)
    · refine VO_iload hC d_AC_latest_21 2 rfl ?_
      refine VO_const hC d_AC_latest_22 ?_
      refine VO_icmp_le hC d_AC_latest_23 (fun _ => ?_) (fun _ => ?_)
      · refine VO_aload hC d_AC_latest_33 0 rfl ?_
        refine VO_getr (r := 36) hC fl_AC_39 sh_AC rfl d_AC_latest_34 ?_
        refine VO_aload hC d_AC_latest_37 0 rfl ?_
        refine VO_getr (r := 1) hC fl_AC_10 sh_AC rfl d_AC_latest_38 ?_
        refine VO_callVV hC [.ref (gad G 1)] [] ml_AC_219 d_AC_latest_41 yv_PR_fill (sh_PR isPR_36) rfl rfl (fun o h => M_PR_fill hC.inj isPR_36 isNI_1 h) (by decide) rfl rfl (Nat.le_of_ble_eq_true rfl) (fun s3 => ?_)
        refine VO_aload hC d_AC_latest_44 0 rfl ?_
        refine VO_iload hC d_AC_latest_45 1 rfl ?_
        refine VO_iload hC d_AC_latest_46 1 rfl ?_
        refine VO_const hC d_AC_latest_47 ?_
        refine VO_callVI hC [.int a1, .int a1, .int (0 : Int32)] [] ml_AC_259 d_AC_latest_48 yv_AC_monthsAt sh_AC rfl rfl (fun o h => M_AC_monthsAt hC.inj h) (by decide) rfl rfl (Nat.le_of_ble_eq_true rfl) (fun o4 => ?_)
        refine VO_istore hC d_AC_latest_51 [(0, .ref (gad G 0)), (1, .int a1), (2, .int a2)] rfl (by decide) ?_
        refine VO_const hC d_AC_latest_52 ?_
        refine VO_istore hC d_AC_latest_53 [(3, .int o4.1), (0, .ref (gad G 0)), (1, .int a1), (2, .int a2)] rfl (by decide) ?_
        refine VO_iload hC d_AC_latest_55 1 rfl ?_
        refine VO_istore hC d_AC_latest_56 [(4, .int (0 : Int32)), (3, .int o4.1), (0, .ref (gad G 0)), (1, .int a1), (2, .int a2)] rfl (by decide) ?_
        refine VO_const hC d_AC_latest_58 ?_
        refine VO_istore hC d_AC_latest_59 [(5, .int o4.1), (4, .int (0 : Int32)), (3, .int o4.1), (0, .ref (gad G 0)), (1, .int a1), (2, .int a2)] rfl (by decide) ?_
        exact VO_sub [4, 5, 6, 3, 2, 1, 0] rfl (B_AC_latest_61 hC a1 a2 o4.1 (0 : Int32) o4.1 (1 : Int32) o4.2)
      · exact VO_sub [0] rfl (B_AC_latest_26 hC o1.2)
set_option maxRecDepth 20000 in
theorem M_AC_latest {l : Launch} {D : va_G} {ad : Nat → Nat} {cI cL : ClassId} (hj : Inj ad) {a1 : Int32} {a2 : Int32} {s : St} {o : Int32 × St} (h : F_AC_latest a1 a2 s = some o) : Cn l D ad cI cL y_AC_latest b_AC_latest 8 (some .int) 7 [.ref (ad 0), .int a1, .int a2] s (some (.int o.1)) o.2 := by
  refine Cn_ofI hj (plainFor_of_name (by decide)) (Nat.le_of_ble_eq_true rfl) [(0, .ref (ad 0)), (1, .int a1), (2, .int a2)] rfl (fun G hC e1 e2 e3 e4 e5 hR => ?_)
  subst e1; subst e2; subst e3; subst e4; subst e5
  exact B_AC_latest hC a1 a2 s o h hR
theorem d_AC_truth_0 : PLi b_AC_truth 0 1 1 := Or.inl ⟨1, by decide +kernel, rfl, rfl⟩
theorem d_AC_truth_1 : DJ b_AC_truth 1 (.ifCond .lt) 4 9 := ⟨8, by decide +kernel, rfl, by decide⟩
theorem d_AC_truth_4 : PLi b_AC_truth 4 1 5 := Or.inl ⟨1, by decide +kernel, rfl, rfl⟩
theorem d_AC_truth_5 : PCi b_AC_truth 5 1 6 := Or.inl ⟨1, by decide +kernel, by decide, rfl⟩
theorem d_AC_truth_6 : DJ b_AC_truth 6 (.if_icmp .le) 9 16 := ⟨10, by decide +kernel, rfl, by decide⟩
theorem d_AC_truth_9 : PLa b_AC_truth 9 0 10 := Or.inl ⟨0, by decide +kernel, rfl, rfl⟩
theorem d_AC_truth_10 : PCi b_AC_truth 10 (-2) 12 := Or.inr (Or.inl ⟨(-2), by decide +kernel, by decide, rfl⟩)
theorem d_AC_truth_12 : DR b_AC_truth 12 (.invokevirtual 90) 3 15 := ⟨by decide +kernel, rfl⟩
theorem d_AC_truth_15 : DR b_AC_truth 15 (.ireturn) 1 16 := ⟨by decide +kernel, rfl⟩
theorem d_AC_truth_16 : PLa b_AC_truth 16 0 17 := Or.inl ⟨0, by decide +kernel, rfl, rfl⟩
theorem d_AC_truth_17 : DR b_AC_truth 17 (.getfield 39) 3 20 := ⟨by decide +kernel, rfl⟩
theorem d_AC_truth_20 : PLa b_AC_truth 20 0 21 := Or.inl ⟨0, by decide +kernel, rfl, rfl⟩
theorem d_AC_truth_21 : DR b_AC_truth 21 (.getfield 10) 3 24 := ⟨by decide +kernel, rfl⟩
theorem d_AC_truth_24 : DR b_AC_truth 24 (.invokevirtual 219) 3 27 := ⟨by decide +kernel, rfl⟩
theorem d_AC_truth_27 : PLa b_AC_truth 27 0 28 := Or.inl ⟨0, by decide +kernel, rfl, rfl⟩
theorem d_AC_truth_28 : DR b_AC_truth 28 (.getfield 53) 3 31 := ⟨by decide +kernel, rfl⟩
theorem d_AC_truth_31 : PLa b_AC_truth 31 0 32 := Or.inl ⟨0, by decide +kernel, rfl, rfl⟩
theorem d_AC_truth_32 : DR b_AC_truth 32 (.getfield 39) 3 35 := ⟨by decide +kernel, rfl⟩
theorem d_AC_truth_35 : PLa b_AC_truth 35 0 36 := Or.inl ⟨0, by decide +kernel, rfl, rfl⟩
theorem d_AC_truth_36 : DR b_AC_truth 36 (.getfield 10) 3 39 := ⟨by decide +kernel, rfl⟩
theorem d_AC_truth_39 : DR b_AC_truth 39 (.invokevirtual 337) 3 42 := ⟨by decide +kernel, rfl⟩
theorem d_AC_truth_42 : PLi b_AC_truth 42 1 43 := Or.inl ⟨1, by decide +kernel, rfl, rfl⟩
theorem d_AC_truth_43 : DJ b_AC_truth 43 (.ifCond .ne) 46 56 := ⟨13, by decide +kernel, rfl, by decide⟩
theorem d_AC_truth_46 : PLa b_AC_truth 46 0 47 := Or.inl ⟨0, by decide +kernel, rfl, rfl⟩
theorem d_AC_truth_47 : DR b_AC_truth 47 (.getfield 53) 3 50 := ⟨by decide +kernel, rfl⟩
theorem d_AC_truth_50 : DR b_AC_truth 50 (.getfield 213) 3 53 := ⟨by decide +kernel, rfl⟩
theorem d_AC_truth_53 : DJ b_AC_truth 53 .goto 56 68 := ⟨15, by decide +kernel, rfl, by decide⟩
theorem d_AC_truth_56 : PLa b_AC_truth 56 0 57 := Or.inl ⟨0, by decide +kernel, rfl, rfl⟩
theorem d_AC_truth_57 : DR b_AC_truth 57 (.getfield 53) 3 60 := ⟨by decide +kernel, rfl⟩
theorem d_AC_truth_60 : PLa b_AC_truth 60 0 61 := Or.inl ⟨0, by decide +kernel, rfl, rfl⟩
theorem d_AC_truth_61 : DR b_AC_truth 61 (.getfield 10) 3 64 := ⟨by decide +kernel, rfl⟩
theorem d_AC_truth_64 : PCi b_AC_truth 64 1 65 := Or.inl ⟨1, by decide +kernel, by decide, rfl⟩
theorem d_AC_truth_65 : DR b_AC_truth 65 (.invokevirtual 286) 3 68 := ⟨by decide +kernel, rfl⟩
theorem d_AC_truth_68 : DR b_AC_truth 68 (.ireturn) 1 69 := ⟨by decide +kernel, rfl⟩
set_option maxRecDepth 20000 in
theorem B_AC_truth_9 {G : MCx} (hC : C0 G "AccusedChoose" b_AC_truth 2 5) (s : St) : VO G (RI G b_AC_truth) (F_AC_truth_9 s) 9 [(0, .ref (gad G 0))] [] s := by
  unfold F_AC_truth_9
  refine VO_aload hC d_AC_truth_9 0 rfl ?_
  refine VO_const hC d_AC_truth_10 ?_
  refine VO_callVI hC [.int (-2 : Int32)] [] ml_AC_90 d_AC_truth_12 yv_AC_refuse sh_AC rfl rfl (fun o h => M_AC_refuse hC.inj h) (by decide) rfl rfl (Nat.le_of_ble_eq_true rfl) (fun o1 => ?_)
  exact VO_ireturn d_AC_truth_15
set_option maxRecDepth 20000 in
theorem B_AC_truth {G : MCx} (hC : C0 G "AccusedChoose" b_AC_truth 2 5) (a1 : Int32) (s : St) : VO G (RI G b_AC_truth) (F_AC_truth a1 s) 0 [(0, .ref (gad G 0)), (1, .int a1)] [] s := by
  unfold F_AC_truth
  refine VO_iload hC d_AC_truth_0 1 rfl ?_
  refine VO_if_lt hC d_AC_truth_1 (fun _ => ?_) (fun _ => ?_)
  · exact VO_sub [0] rfl (B_AC_truth_9 hC s)
  · refine VO_iload hC d_AC_truth_4 1 rfl ?_
    refine VO_const hC d_AC_truth_5 ?_
    refine VO_icmp_le hC d_AC_truth_6 (fun _ => ?_) (fun _ => ?_)
    · refine VO_aload hC d_AC_truth_16 0 rfl ?_
      refine VO_getr (r := 36) hC fl_AC_39 sh_AC rfl d_AC_truth_17 ?_
      refine VO_aload hC d_AC_truth_20 0 rfl ?_
      refine VO_getr (r := 1) hC fl_AC_10 sh_AC rfl d_AC_truth_21 ?_
      refine VO_callVV hC [.ref (gad G 1)] [] ml_AC_219 d_AC_truth_24 yv_PR_fill (sh_PR isPR_36) rfl rfl (fun o h => M_PR_fill hC.inj isPR_36 isNI_1 h) (by decide) rfl rfl (Nat.le_of_ble_eq_true rfl) (fun s2 => ?_)
      refine VO_aload hC d_AC_truth_27 0 rfl ?_
      refine VO_getr (r := 43) hC fl_AC_53 sh_AC rfl d_AC_truth_28 ?_
      refine VO_aload hC d_AC_truth_31 0 rfl ?_
      refine VO_getr (r := 36) hC fl_AC_39 sh_AC rfl d_AC_truth_32 ?_
      refine VO_aload hC d_AC_truth_35 0 rfl ?_
      refine VO_getr (r := 1) hC fl_AC_10 sh_AC rfl d_AC_truth_36 ?_
      refine VO_callVV hC [.ref (gad G 36), .ref (gad G 1)] [] ml_AC_337 d_AC_truth_39 yv_MO_holdTrue (sh_MO isMO_43) rfl rfl (fun o h => M_MO_holdTrue hC.inj isMO_43 isPR_36 isNI_1 h) (by decide) rfl rfl (Nat.le_of_ble_eq_true rfl) (fun s3 => ?_)
      refine VO_iload hC d_AC_truth_42 1 rfl ?_
      refine VO_if_ne hC d_AC_truth_43 (fun _ => ?_) (fun _ => ?_)
      · refine VO_aload hC d_AC_truth_46 0 rfl ?_
        refine VO_getr (r := 43) hC fl_AC_53 sh_AC rfl d_AC_truth_47 ?_
        refine VO_geti hC fl_AC_213 (sh_MO isMO_43) rfl d_AC_truth_50 ?_
        refine VO_goto hC d_AC_truth_53 ?_
        exact VO_ireturn d_AC_truth_68
      · refine VO_aload hC d_AC_truth_56 0 rfl ?_
        refine VO_getr (r := 43) hC fl_AC_53 sh_AC rfl d_AC_truth_57 ?_
        refine VO_aload hC d_AC_truth_60 0 rfl ?_
        refine VO_getr (r := 1) hC fl_AC_10 sh_AC rfl d_AC_truth_61 ?_
        refine VO_const hC d_AC_truth_64 ?_
        refine VO_callVI hC [.ref (gad G 1), .int (1 : Int32)] [] ml_AC_286 d_AC_truth_65 yv_MO_owners (sh_MO isMO_43) rfl rfl (fun o h => M_MO_owners hC.inj isMO_43 isNI_1 h) (by decide) rfl rfl (Nat.le_of_ble_eq_true rfl) (fun o4 => ?_)
        exact VO_ireturn d_AC_truth_68
    · exact VO_sub [0] rfl (B_AC_truth_9 hC s)
set_option maxRecDepth 20000 in
theorem M_AC_truth {l : Launch} {D : va_G} {ad : Nat → Nat} {cI cL : ClassId} (hj : Inj ad) {a1 : Int32} {s : St} {o : Int32 × St} (h : F_AC_truth a1 s = some o) : Cn l D ad cI cL y_AC_truth b_AC_truth 2 (some .int) 5 [.ref (ad 0), .int a1] s (some (.int o.1)) o.2 := by
  refine Cn_ofI hj (plainFor_of_name (by decide)) (Nat.le_of_ble_eq_true rfl) [(0, .ref (ad 0)), (1, .int a1)] rfl (fun G hC e1 e2 e3 e4 e5 hR => ?_)
  subst e1; subst e2; subst e3; subst e4; subst e5
  exact B_AC_truth hC a1 s o h hR
theorem d_AC_parole_0 : PLa b_AC_parole 0 0 1 := Or.inl ⟨0, by decide +kernel, rfl, rfl⟩
theorem d_AC_parole_1 : DR b_AC_parole 1 (.invokevirtual 201) 3 4 := ⟨by decide +kernel, rfl⟩
theorem d_AC_parole_4 : PLa b_AC_parole 4 0 5 := Or.inl ⟨0, by decide +kernel, rfl, rfl⟩
theorem d_AC_parole_5 : DR b_AC_parole 5 (.getfield 49) 3 8 := ⟨by decide +kernel, rfl⟩
theorem d_AC_parole_8 : DR b_AC_parole 8 (.getfield 213) 3 11 := ⟨by decide +kernel, rfl⟩
theorem d_AC_parole_11 : PSi b_AC_parole 11 1 12 := Or.inl ⟨1, by decide +kernel, rfl, rfl⟩
theorem d_AC_parole_12 : PCi b_AC_parole 12 (-9) 14 := Or.inr (Or.inl ⟨(-9), by decide +kernel, by decide, rfl⟩)
theorem d_AC_parole_14 : PSi b_AC_parole 14 2 15 := Or.inl ⟨2, by decide +kernel, rfl, rfl⟩
theorem d_AC_parole_15 : PCi b_AC_parole 15 0 16 := Or.inl ⟨0, by decide +kernel, by decide, rfl⟩
theorem d_AC_parole_16 : PSi b_AC_parole 16 3 17 := Or.inl ⟨3, by decide +kernel, rfl, rfl⟩
theorem d_AC_parole_17 : PLi b_AC_parole 17 3 18 := Or.inl ⟨3, by decide +kernel, rfl, rfl⟩
theorem d_AC_parole_18 : PLa b_AC_parole 18 0 19 := Or.inl ⟨0, by decide +kernel, rfl, rfl⟩
theorem d_AC_parole_19 : DR b_AC_parole 19 (.getfield 10) 3 22 := ⟨by decide +kernel, rfl⟩
theorem d_AC_parole_22 : DR b_AC_parole 22 (.getfield 164) 3 25 := ⟨by decide +kernel, rfl⟩
theorem d_AC_parole_25 : DJ b_AC_parole 25 (.if_icmp .ge) 28 75 := ⟨50, by decide +kernel, rfl, by decide⟩
theorem d_AC_parole_28 : PLa b_AC_parole 28 0 29 := Or.inl ⟨0, by decide +kernel, rfl, rfl⟩
theorem d_AC_parole_29 : DR b_AC_parole 29 (.getfield 19) 3 32 := ⟨by decide +kernel, rfl⟩
theorem d_AC_parole_32 : PLa b_AC_parole 32 0 33 := Or.inl ⟨0, by decide +kernel, rfl, rfl⟩
theorem d_AC_parole_33 : DR b_AC_parole 33 (.getfield 10) 3 36 := ⟨by decide +kernel, rfl⟩
theorem d_AC_parole_36 : DR b_AC_parole 36 (.invokevirtual 101) 3 39 := ⟨by decide +kernel, rfl⟩
theorem d_AC_parole_39 : PLa b_AC_parole 39 0 40 := Or.inl ⟨0, by decide +kernel, rfl, rfl⟩
theorem d_AC_parole_40 : DR b_AC_parole 40 (.getfield 19) 3 43 := ⟨by decide +kernel, rfl⟩
theorem d_AC_parole_43 : DR b_AC_parole 43 (.getfield 132) 3 46 := ⟨by decide +kernel, rfl⟩
theorem d_AC_parole_46 : PLi b_AC_parole 46 3 47 := Or.inl ⟨3, by decide +kernel, rfl, rfl⟩
theorem d_AC_parole_47 : PCi b_AC_parole 47 0 48 := Or.inl ⟨0, by decide +kernel, by decide, rfl⟩
theorem d_AC_parole_48 : DR b_AC_parole 48 (.invokestatic 310) 3 51 := ⟨by decide +kernel, rfl⟩
theorem d_AC_parole_51 : PLa b_AC_parole 51 0 52 := Or.inl ⟨0, by decide +kernel, rfl, rfl⟩
theorem d_AC_parole_52 : DR b_AC_parole 52 (.invokevirtual 272) 3 55 := ⟨by decide +kernel, rfl⟩
theorem d_AC_parole_55 : PLi b_AC_parole 55 1 56 := Or.inl ⟨1, by decide +kernel, rfl, rfl⟩
theorem d_AC_parole_56 : DJ b_AC_parole 56 (.if_icmp .ge) 59 69 := ⟨13, by decide +kernel, rfl, by decide⟩
theorem d_AC_parole_59 : PLa b_AC_parole 59 0 60 := Or.inl ⟨0, by decide +kernel, rfl, rfl⟩
theorem d_AC_parole_60 : DR b_AC_parole 60 (.getfield 53) 3 63 := ⟨by decide +kernel, rfl⟩
theorem d_AC_parole_63 : DR b_AC_parole 63 (.getfield 213) 3 66 := ⟨by decide +kernel, rfl⟩
theorem d_AC_parole_66 : PSi b_AC_parole 66 1 67 := Or.inl ⟨1, by decide +kernel, rfl, rfl⟩
theorem d_AC_parole_67 : PLi b_AC_parole 67 3 68 := Or.inl ⟨3, by decide +kernel, rfl, rfl⟩
theorem d_AC_parole_68 : PSi b_AC_parole 68 2 69 := Or.inl ⟨2, by decide +kernel, rfl, rfl⟩
theorem d_AC_parole_69 : DR b_AC_parole 69 (.iinc 3 1) 3 72 := ⟨by decide +kernel, rfl⟩
theorem d_AC_parole_72 : DJ b_AC_parole 72 .goto 75 17 := ⟨-55, by decide +kernel, rfl, by decide⟩
theorem d_AC_parole_75 : PLi b_AC_parole 75 2 76 := Or.inl ⟨2, by decide +kernel, rfl, rfl⟩
theorem d_AC_parole_76 : DR b_AC_parole 76 (.ireturn) 1 77 := ⟨by decide +kernel, rfl⟩
set_option maxRecDepth 20000 in
theorem B_AC_parole_69 {G : MCx} (hC : C0 G "AccusedChoose" b_AC_parole 4 6) (K17 : Int32 × Int32 × Int32 × St → Option (Int32 × St)) (hK17 : ∀ (w1 : Int32) (w2 : Int32) (w3 : Int32) (s : St), VO G (RI G b_AC_parole) (K17 (w1, w2, w3, s)) 17 [(0, .ref (gad G 0)), (1, .int w1), (2, .int w2), (3, .int w3)] [] s) (v1 : Int32) (v2 : Int32) (v3 : Int32) (s : St) : VO G (RI G b_AC_parole) (F_AC_parole_69 K17 v1 v2 v3 s) 69 [(0, .ref (gad G 0)), (1, .int v1), (2, .int v2), (3, .int v3)] [] s := by
  unfold F_AC_parole_69
  refine VO_iinc hC d_AC_parole_69 3 rfl (by decide : Int32.ofInt 1 = 1) [(0, .ref (gad G 0)), (1, .int v1), (2, .int v2)] rfl (by decide) ?_
  refine VO_goto hC d_AC_parole_72 ?_
  exact VO_sub [1, 2, 3, 0] rfl (hK17 v1 v2 (v3 + 1) s)
set_option maxRecDepth 20000 in
theorem BH_AC_parole_17 {G : MCx} (hC : C0 G "AccusedChoose" b_AC_parole 4 6) (K17 : Int32 × Int32 × Int32 × St → Option (Int32 × St)) (hK17 : ∀ (w1 : Int32) (w2 : Int32) (w3 : Int32) (s : St), VO G (RI G b_AC_parole) (K17 (w1, w2, w3, s)) 17 [(0, .ref (gad G 0)), (1, .int w1), (2, .int w2), (3, .int w3)] [] s) (v1 : Int32) (v2 : Int32) (v3 : Int32) (s : St) : VO G (RI G b_AC_parole) (H_AC_parole_17 K17 v1 v2 v3 s) 17 [(0, .ref (gad G 0)), (1, .int v1), (2, .int v2), (3, .int v3)] [] s := by
  unfold H_AC_parole_17
  refine VO_iload hC d_AC_parole_17 3 rfl ?_
  refine VO_aload hC d_AC_parole_18 0 rfl ?_
  refine VO_getr (r := 1) hC fl_AC_10 sh_AC rfl d_AC_parole_19 ?_
  refine VO_geti hC fl_AC_164 (sh_NI isNI_1) rfl d_AC_parole_22 ?_
  refine VO_icmp_ge hC d_AC_parole_25 (fun _ => ?_) (fun _ => ?_)
  · refine VO_iload hC d_AC_parole_75 2 rfl ?_
    exact VO_ireturn d_AC_parole_76
  · refine VO_aload hC d_AC_parole_28 0 rfl ?_
    refine VO_getr (r := 19) hC fl_AC_19 sh_AC rfl d_AC_parole_29 ?_
    refine VO_aload hC d_AC_parole_32 0 rfl ?_
    refine VO_getr (r := 1) hC fl_AC_10 sh_AC rfl d_AC_parole_33 ?_
    refine VO_callVV hC [.ref (gad G 1)] [] ml_AC_101 d_AC_parole_36 yv_NI_copy (sh_NI isNI_19) rfl rfl (fun o h => M_NI_copy hC.inj isNI_19 isNI_1 h) (by decide) rfl rfl (Nat.le_of_ble_eq_true rfl) (fun s3 => ?_)
    refine VO_aload hC d_AC_parole_39 0 rfl ?_
    refine VO_getr (r := 19) hC fl_AC_19 sh_AC rfl d_AC_parole_40 ?_
    refine VO_getr (r := 22) hC fl_AC_132 (sh_NI isNI_19) rfl d_AC_parole_43 ?_
    refine VO_iload hC d_AC_parole_46 3 rfl ?_
    refine VO_const hC d_AC_parole_47 ?_
    refine VO_callSV hC [.ref (gad G 22), .int v3, .int (0 : Int32)] [] ml_AC_310 d_AC_parole_48 ys_AC_put (fun o h => M_AC_put hC.inj ia_22 h) (by decide) rfl rfl (Nat.le_of_ble_eq_true rfl) (fun s4 => ?_)
    refine VO_aload hC d_AC_parole_51 0 rfl ?_
    refine VO_callVI hC [] [] ml_AC_272 d_AC_parole_52 yv_AC_tried sh_AC rfl rfl (fun o h => M_AC_tried hC.inj h) (by decide) rfl rfl (Nat.le_of_ble_eq_true rfl) (fun o5 => ?_)
    refine VO_iload hC d_AC_parole_55 1 rfl ?_
    refine VO_icmp_ge hC d_AC_parole_56 (fun _ => ?_) (fun _ => ?_)
    · exact (B_AC_parole_69 hC K17 hK17 v1 v2 v3 o5.2)
    · refine VO_aload hC d_AC_parole_59 0 rfl ?_
      refine VO_getr (r := 43) hC fl_AC_53 sh_AC rfl d_AC_parole_60 ?_
      refine VO_geti hC fl_AC_213 (sh_MO isMO_43) rfl d_AC_parole_63 ?_
      refine VO_istoreB hC d_AC_parole_66 [(0, .ref (gad G 0)), (2, .int v2), (3, .int v3)] rfl (by decide) (fun x6 => ?_)
      refine VO_iload hC d_AC_parole_67 3 rfl ?_
      refine VO_istore hC d_AC_parole_68 [(1, .int x6), (0, .ref (gad G 0)), (3, .int v3)] rfl (by decide) ?_
      exact VO_sub [2, 1, 0, 3] rfl (B_AC_parole_69 hC K17 hK17 x6 v3 v3 o5.2)
set_option maxRecDepth 20000 in
theorem B_AC_parole_17 {G : MCx} (hC : C0 G "AccusedChoose" b_AC_parole 4 6) (v1 : Int32) (v2 : Int32) (v3 : Int32) (s : St) : VO G (RI G b_AC_parole) (F_AC_parole_17 v1 v2 v3 s) 17 [(0, .ref (gad G 0)), (1, .int v1), (2, .int v2), (3, .int v3)] [] s := by
  exact VO_fix (G_AC_parole_17) 17 (fun q => [(0, .ref (gad G 0)), (1, .int q.1), (2, .int q.2.1), (3, .int q.2.2.1)]) (fun q => q.2.2.2) (fun K hK q => BH_AC_parole_17 hC K (fun w1 w2 w3 s => hK (w1, w2, w3, s)) q.1 q.2.1 q.2.2.1 q.2.2.2) FUEL (v1, v2, v3, s)
set_option maxRecDepth 20000 in
theorem B_AC_parole {G : MCx} (hC : C0 G "AccusedChoose" b_AC_parole 4 6) (s : St) : VO G (RI G b_AC_parole) (F_AC_parole s) 0 [(0, .ref (gad G 0))] [] s := by
  unfold F_AC_parole
  refine VO_aload hC d_AC_parole_0 0 rfl ?_
  refine VO_callVV hC [] [] ml_AC_201 d_AC_parole_1 yv_AC_holdToday sh_AC rfl rfl (fun o h => M_AC_holdToday hC.inj h) (by decide) rfl rfl (Nat.le_of_ble_eq_true rfl) (fun s1 => ?_)
  refine VO_aload hC d_AC_parole_4 0 rfl ?_
  refine VO_getr (r := 40) hC fl_AC_49 sh_AC rfl d_AC_parole_5 ?_
  refine VO_geti hC fl_AC_213 (sh_MO isMO_40) rfl d_AC_parole_8 ?_
  refine VO_istoreB hC d_AC_parole_11 [(0, .ref (gad G 0))] rfl (by decide) (fun x2 => ?_)
  refine VO_const hC d_AC_parole_12 ?_
  refine VO_istore hC d_AC_parole_14 [(1, .int x2), (0, .ref (gad G 0))] rfl (by decide) ?_
  refine VO_const hC d_AC_parole_15 ?_
  refine VO_istore hC d_AC_parole_16 [(2, .int (-9 : Int32)), (1, .int x2), (0, .ref (gad G 0))] rfl (by decide) ?_
  exact VO_sub [3, 2, 1, 0] rfl (B_AC_parole_17 hC x2 (-9 : Int32) (0 : Int32) s1)
set_option maxRecDepth 20000 in
theorem M_AC_parole {l : Launch} {D : va_G} {ad : Nat → Nat} {cI cL : ClassId} (hj : Inj ad) {s : St} {o : Int32 × St} (h : F_AC_parole s = some o) : Cn l D ad cI cL y_AC_parole b_AC_parole 4 (some .int) 6 [.ref (ad 0)] s (some (.int o.1)) o.2 := by
  refine Cn_ofI hj (plainFor_of_name (by decide)) (Nat.le_of_ble_eq_true rfl) [(0, .ref (ad 0))] rfl (fun G hC e1 e2 e3 e4 e5 hR => ?_)
  subst e1; subst e2; subst e3; subst e4; subst e5
  exact B_AC_parole hC s o h hR
theorem d_AC_newBrothers_0 : PLa b_AC_newBrothers 0 0 1 := Or.inl ⟨0, by decide +kernel, rfl, rfl⟩
theorem d_AC_newBrothers_1 : DR b_AC_newBrothers 1 (.getfield 39) 3 4 := ⟨by decide +kernel, rfl⟩
theorem d_AC_newBrothers_4 : PLa b_AC_newBrothers 4 0 5 := Or.inl ⟨0, by decide +kernel, rfl, rfl⟩
theorem d_AC_newBrothers_5 : DR b_AC_newBrothers 5 (.getfield 10) 3 8 := ⟨by decide +kernel, rfl⟩
theorem d_AC_newBrothers_8 : DR b_AC_newBrothers 8 (.invokevirtual 219) 3 11 := ⟨by decide +kernel, rfl⟩
theorem d_AC_newBrothers_11 : PLa b_AC_newBrothers 11 0 12 := Or.inl ⟨0, by decide +kernel, rfl, rfl⟩
theorem d_AC_newBrothers_12 : DR b_AC_newBrothers 12 (.getfield 59) 3 15 := ⟨by decide +kernel, rfl⟩
theorem d_AC_newBrothers_15 : PLa b_AC_newBrothers 15 0 16 := Or.inl ⟨0, by decide +kernel, rfl, rfl⟩
theorem d_AC_newBrothers_16 : DR b_AC_newBrothers 16 (.getfield 39) 3 19 := ⟨by decide +kernel, rfl⟩
theorem d_AC_newBrothers_19 : PLa b_AC_newBrothers 19 0 20 := Or.inl ⟨0, by decide +kernel, rfl, rfl⟩
theorem d_AC_newBrothers_20 : DR b_AC_newBrothers 20 (.getfield 10) 3 23 := ⟨by decide +kernel, rfl⟩
theorem d_AC_newBrothers_23 : DR b_AC_newBrothers 23 (.invokevirtual 233) 3 26 := ⟨by decide +kernel, rfl⟩
theorem d_AC_newBrothers_26 : PLa b_AC_newBrothers 26 0 27 := Or.inl ⟨0, by decide +kernel, rfl, rfl⟩
theorem d_AC_newBrothers_27 : DR b_AC_newBrothers 27 (.getfield 59) 3 30 := ⟨by decide +kernel, rfl⟩
theorem d_AC_newBrothers_30 : DR b_AC_newBrothers 30 (.getfield 239) 3 33 := ⟨by decide +kernel, rfl⟩
theorem d_AC_newBrothers_33 : PSi b_AC_newBrothers 33 1 34 := Or.inl ⟨1, by decide +kernel, rfl, rfl⟩
theorem d_AC_newBrothers_34 : PCi b_AC_newBrothers 34 (-9) 36 := Or.inr (Or.inl ⟨(-9), by decide +kernel, by decide, rfl⟩)
theorem d_AC_newBrothers_36 : PSi b_AC_newBrothers 36 2 37 := Or.inl ⟨2, by decide +kernel, rfl, rfl⟩
theorem d_AC_newBrothers_37 : PCi b_AC_newBrothers 37 0 38 := Or.inl ⟨0, by decide +kernel, by decide, rfl⟩
theorem d_AC_newBrothers_38 : PSi b_AC_newBrothers 38 3 39 := Or.inl ⟨3, by decide +kernel, rfl, rfl⟩
theorem d_AC_newBrothers_39 : PLi b_AC_newBrothers 39 3 40 := Or.inl ⟨3, by decide +kernel, rfl, rfl⟩
theorem d_AC_newBrothers_40 : PLa b_AC_newBrothers 40 0 41 := Or.inl ⟨0, by decide +kernel, rfl, rfl⟩
theorem d_AC_newBrothers_41 : DR b_AC_newBrothers 41 (.getfield 10) 3 44 := ⟨by decide +kernel, rfl⟩
theorem d_AC_newBrothers_44 : DR b_AC_newBrothers 44 (.getfield 164) 3 47 := ⟨by decide +kernel, rfl⟩
theorem d_AC_newBrothers_47 : DJ b_AC_newBrothers 47 (.if_icmp .ge) 50 142 := ⟨95, by decide +kernel, rfl, by decide⟩
theorem d_AC_newBrothers_50 : PLi b_AC_newBrothers 50 3 51 := Or.inl ⟨3, by decide +kernel, rfl, rfl⟩
theorem d_AC_newBrothers_51 : PCi b_AC_newBrothers 51 1 52 := Or.inl ⟨1, by decide +kernel, by decide, rfl⟩
theorem d_AC_newBrothers_52 : DR b_AC_newBrothers 52 (.iadd) 1 53 := ⟨by decide +kernel, rfl⟩
theorem d_AC_newBrothers_53 : PSi b_AC_newBrothers 53 4 55 := Or.inr ⟨by decide +kernel, rfl⟩
theorem d_AC_newBrothers_55 : PLi b_AC_newBrothers 55 4 57 := Or.inr ⟨by decide +kernel, rfl⟩
theorem d_AC_newBrothers_57 : PLa b_AC_newBrothers 57 0 58 := Or.inl ⟨0, by decide +kernel, rfl, rfl⟩
theorem d_AC_newBrothers_58 : DR b_AC_newBrothers 58 (.getfield 10) 3 61 := ⟨by decide +kernel, rfl⟩
theorem d_AC_newBrothers_61 : DR b_AC_newBrothers 61 (.getfield 164) 3 64 := ⟨by decide +kernel, rfl⟩
theorem d_AC_newBrothers_64 : DJ b_AC_newBrothers 64 (.if_icmp .ge) 67 136 := ⟨72, by decide +kernel, rfl, by decide⟩
theorem d_AC_newBrothers_67 : PLa b_AC_newBrothers 67 0 68 := Or.inl ⟨0, by decide +kernel, rfl, rfl⟩
theorem d_AC_newBrothers_68 : DR b_AC_newBrothers 68 (.getfield 19) 3 71 := ⟨by decide +kernel, rfl⟩
theorem d_AC_newBrothers_71 : PLa b_AC_newBrothers 71 0 72 := Or.inl ⟨0, by decide +kernel, rfl, rfl⟩
theorem d_AC_newBrothers_72 : DR b_AC_newBrothers 72 (.getfield 10) 3 75 := ⟨by decide +kernel, rfl⟩
theorem d_AC_newBrothers_75 : DR b_AC_newBrothers 75 (.invokevirtual 101) 3 78 := ⟨by decide +kernel, rfl⟩
theorem d_AC_newBrothers_78 : PLa b_AC_newBrothers 78 0 79 := Or.inl ⟨0, by decide +kernel, rfl, rfl⟩
theorem d_AC_newBrothers_79 : DR b_AC_newBrothers 79 (.getfield 19) 3 82 := ⟨by decide +kernel, rfl⟩
theorem d_AC_newBrothers_82 : PLi b_AC_newBrothers 82 3 83 := Or.inl ⟨3, by decide +kernel, rfl, rfl⟩
theorem d_AC_newBrothers_83 : PLi b_AC_newBrothers 83 4 85 := Or.inr ⟨by decide +kernel, rfl⟩
theorem d_AC_newBrothers_85 : DR b_AC_newBrothers 85 (.invokevirtual 192) 3 88 := ⟨by decide +kernel, rfl⟩
theorem d_AC_newBrothers_88 : PLa b_AC_newBrothers 88 0 89 := Or.inl ⟨0, by decide +kernel, rfl, rfl⟩
theorem d_AC_newBrothers_89 : DR b_AC_newBrothers 89 (.getfield 59) 3 92 := ⟨by decide +kernel, rfl⟩
theorem d_AC_newBrothers_92 : PLa b_AC_newBrothers 92 0 93 := Or.inl ⟨0, by decide +kernel, rfl, rfl⟩
theorem d_AC_newBrothers_93 : DR b_AC_newBrothers 93 (.getfield 39) 3 96 := ⟨by decide +kernel, rfl⟩
theorem d_AC_newBrothers_96 : PLa b_AC_newBrothers 96 0 97 := Or.inl ⟨0, by decide +kernel, rfl, rfl⟩
theorem d_AC_newBrothers_97 : DR b_AC_newBrothers 97 (.getfield 19) 3 100 := ⟨by decide +kernel, rfl⟩
theorem d_AC_newBrothers_100 : DR b_AC_newBrothers 100 (.invokevirtual 233) 3 103 := ⟨by decide +kernel, rfl⟩
theorem d_AC_newBrothers_103 : PLa b_AC_newBrothers 103 0 104 := Or.inl ⟨0, by decide +kernel, rfl, rfl⟩
theorem d_AC_newBrothers_104 : DR b_AC_newBrothers 104 (.getfield 59) 3 107 := ⟨by decide +kernel, rfl⟩
theorem d_AC_newBrothers_107 : DR b_AC_newBrothers 107 (.getfield 239) 3 110 := ⟨by decide +kernel, rfl⟩
theorem d_AC_newBrothers_110 : PLi b_AC_newBrothers 110 1 111 := Or.inl ⟨1, by decide +kernel, rfl, rfl⟩
theorem d_AC_newBrothers_111 : DJ b_AC_newBrothers 111 (.if_icmp .ge) 114 130 := ⟨19, by decide +kernel, rfl, by decide⟩
theorem d_AC_newBrothers_114 : PLa b_AC_newBrothers 114 0 115 := Or.inl ⟨0, by decide +kernel, rfl, rfl⟩
theorem d_AC_newBrothers_115 : DR b_AC_newBrothers 115 (.getfield 59) 3 118 := ⟨by decide +kernel, rfl⟩
theorem d_AC_newBrothers_118 : DR b_AC_newBrothers 118 (.getfield 239) 3 121 := ⟨by decide +kernel, rfl⟩
theorem d_AC_newBrothers_121 : PSi b_AC_newBrothers 121 1 122 := Or.inl ⟨1, by decide +kernel, rfl, rfl⟩
theorem d_AC_newBrothers_122 : PCi b_AC_newBrothers 122 10 124 := Or.inr (Or.inl ⟨10, by decide +kernel, by decide, rfl⟩)
theorem d_AC_newBrothers_124 : PLi b_AC_newBrothers 124 3 125 := Or.inl ⟨3, by decide +kernel, rfl, rfl⟩
theorem d_AC_newBrothers_125 : DR b_AC_newBrothers 125 (.imul) 1 126 := ⟨by decide +kernel, rfl⟩
theorem d_AC_newBrothers_126 : PLi b_AC_newBrothers 126 4 128 := Or.inr ⟨by decide +kernel, rfl⟩
theorem d_AC_newBrothers_128 : DR b_AC_newBrothers 128 (.iadd) 1 129 := ⟨by decide +kernel, rfl⟩
theorem d_AC_newBrothers_129 : PSi b_AC_newBrothers 129 2 130 := Or.inl ⟨2, by decide +kernel, rfl, rfl⟩
theorem d_AC_newBrothers_130 : DR b_AC_newBrothers 130 (.iinc 4 1) 3 133 := ⟨by decide +kernel, rfl⟩
theorem d_AC_newBrothers_133 : DJ b_AC_newBrothers 133 .goto 136 55 := ⟨-78, by decide +kernel, rfl, by decide⟩
theorem d_AC_newBrothers_136 : DR b_AC_newBrothers 136 (.iinc 3 1) 3 139 := ⟨by decide +kernel, rfl⟩
theorem d_AC_newBrothers_139 : DJ b_AC_newBrothers 139 .goto 142 39 := ⟨-100, by decide +kernel, rfl, by decide⟩
theorem d_AC_newBrothers_142 : PLi b_AC_newBrothers 142 2 143 := Or.inl ⟨2, by decide +kernel, rfl, rfl⟩
theorem d_AC_newBrothers_143 : DR b_AC_newBrothers 143 (.ireturn) 1 144 := ⟨by decide +kernel, rfl⟩
set_option maxRecDepth 20000 in
theorem B_AC_newBrothers_130 {G : MCx} (hC : C0 G "AccusedChoose" b_AC_newBrothers 5 22) {v3 : Int32} (K39 : Int32 × Int32 × Int32 × St → Option (Int32 × St)) (hK39 : ∀ (w1 : Int32) (w2 : Int32) (w3 : Int32) (s : St), VO G (RI G b_AC_newBrothers) (K39 (w1, w2, w3, s)) 39 [(0, .ref (gad G 0)), (1, .int w1), (2, .int w2), (3, .int w3)] [] s) (K55 : Int32 × Int32 × Int32 × St → Option (Int32 × St)) (hK55 : ∀ (w1 : Int32) (w2 : Int32) (w4 : Int32) (s : St), VO G (RI G b_AC_newBrothers) (K55 (w1, w2, w4, s)) 55 [(0, .ref (gad G 0)), (1, .int w1), (2, .int w2), (3, .int v3), (4, .int w4)] [] s) (v1 : Int32) (v2 : Int32) (v4 : Int32) (s : St) : VO G (RI G b_AC_newBrothers) (F_AC_newBrothers_130 K39 K55 v1 v2 v3 v4 s) 130 [(0, .ref (gad G 0)), (1, .int v1), (2, .int v2), (3, .int v3), (4, .int v4)] [] s := by
  unfold F_AC_newBrothers_130
  refine VO_iinc hC d_AC_newBrothers_130 4 rfl (by decide : Int32.ofInt 1 = 1) [(0, .ref (gad G 0)), (1, .int v1), (2, .int v2), (3, .int v3)] rfl (by decide) ?_
  refine VO_goto hC d_AC_newBrothers_133 ?_
  exact VO_sub [1, 2, 3, 4, 0] rfl (hK55 v1 v2 (v4 + 1) s)
set_option maxRecDepth 20000 in
theorem BH_AC_newBrothers_55 {G : MCx} (hC : C0 G "AccusedChoose" b_AC_newBrothers 5 22) {v3 : Int32} (K39 : Int32 × Int32 × Int32 × St → Option (Int32 × St)) (hK39 : ∀ (w1 : Int32) (w2 : Int32) (w3 : Int32) (s : St), VO G (RI G b_AC_newBrothers) (K39 (w1, w2, w3, s)) 39 [(0, .ref (gad G 0)), (1, .int w1), (2, .int w2), (3, .int w3)] [] s) (K55 : Int32 × Int32 × Int32 × St → Option (Int32 × St)) (hK55 : ∀ (w1 : Int32) (w2 : Int32) (w4 : Int32) (s : St), VO G (RI G b_AC_newBrothers) (K55 (w1, w2, w4, s)) 55 [(0, .ref (gad G 0)), (1, .int w1), (2, .int w2), (3, .int v3), (4, .int w4)] [] s) (v1 : Int32) (v2 : Int32) (v4 : Int32) (s : St) : VO G (RI G b_AC_newBrothers) (H_AC_newBrothers_55 K39 v3 K55 v1 v2 v4 s) 55 [(0, .ref (gad G 0)), (1, .int v1), (2, .int v2), (3, .int v3), (4, .int v4)] [] s := by
  unfold H_AC_newBrothers_55
  refine VO_iload hC d_AC_newBrothers_55 4 rfl ?_
  refine VO_aload hC d_AC_newBrothers_57 0 rfl ?_
  refine VO_getr (r := 1) hC fl_AC_10 sh_AC rfl d_AC_newBrothers_58 ?_
  refine VO_geti hC fl_AC_164 (sh_NI isNI_1) rfl d_AC_newBrothers_61 ?_
  refine VO_icmp_ge hC d_AC_newBrothers_64 (fun _ => ?_) (fun _ => ?_)
  · refine VO_iinc hC d_AC_newBrothers_136 3 rfl (by decide : Int32.ofInt 1 = 1) [(0, .ref (gad G 0)), (1, .int v1), (2, .int v2), (4, .int v4)] rfl (by decide) ?_
    refine VO_goto hC d_AC_newBrothers_139 ?_
    exact VO_sub [1, 2, 3, 0] rfl (hK39 v1 v2 (v3 + 1) s)
  · refine VO_aload hC d_AC_newBrothers_67 0 rfl ?_
    refine VO_getr (r := 19) hC fl_AC_19 sh_AC rfl d_AC_newBrothers_68 ?_
    refine VO_aload hC d_AC_newBrothers_71 0 rfl ?_
    refine VO_getr (r := 1) hC fl_AC_10 sh_AC rfl d_AC_newBrothers_72 ?_
    refine VO_callVV hC [.ref (gad G 1)] [] ml_AC_101 d_AC_newBrothers_75 yv_NI_copy (sh_NI isNI_19) rfl rfl (fun o h => M_NI_copy hC.inj isNI_19 isNI_1 h) (by decide) rfl rfl (Nat.le_of_ble_eq_true rfl) (fun s5 => ?_)
    refine VO_aload hC d_AC_newBrothers_78 0 rfl ?_
    refine VO_getr (r := 19) hC fl_AC_19 sh_AC rfl d_AC_newBrothers_79 ?_
    refine VO_iload hC d_AC_newBrothers_82 3 rfl ?_
    refine VO_iload hC d_AC_newBrothers_83 4 rfl ?_
    refine VO_callVV hC [.int v3, .int v4] [] ml_AC_192 d_AC_newBrothers_85 yv_NI_pair (sh_NI isNI_19) rfl rfl (fun o h => M_NI_pair hC.inj isNI_19 h) (by decide) rfl rfl (Nat.le_of_ble_eq_true rfl) (fun s6 => ?_)
    refine VO_aload hC d_AC_newBrothers_88 0 rfl ?_
    refine VO_getr (r := 46) hC fl_AC_59 sh_AC rfl d_AC_newBrothers_89 ?_
    refine VO_aload hC d_AC_newBrothers_92 0 rfl ?_
    refine VO_getr (r := 36) hC fl_AC_39 sh_AC rfl d_AC_newBrothers_93 ?_
    refine VO_aload hC d_AC_newBrothers_96 0 rfl ?_
    refine VO_getr (r := 19) hC fl_AC_19 sh_AC rfl d_AC_newBrothers_97 ?_
    refine VO_callVV hC [.ref (gad G 36), .ref (gad G 19)] [] ml_AC_233 d_AC_newBrothers_100 yv_LB_hold sh_LB rfl rfl (fun o h => M_LB_hold hC.inj isPR_36 isNI_19 h) (by decide) rfl rfl (Nat.le_of_ble_eq_true rfl) (fun s7 => ?_)
    refine VO_aload hC d_AC_newBrothers_103 0 rfl ?_
    refine VO_getr (r := 46) hC fl_AC_59 sh_AC rfl d_AC_newBrothers_104 ?_
    refine VO_geti hC fl_AC_239 sh_LB rfl d_AC_newBrothers_107 ?_
    refine VO_iload hC d_AC_newBrothers_110 1 rfl ?_
    refine VO_icmp_ge hC d_AC_newBrothers_111 (fun _ => ?_) (fun _ => ?_)
    · exact (B_AC_newBrothers_130 hC K39 hK39 K55 hK55 v1 v2 v4 s7)
    · refine VO_aload hC d_AC_newBrothers_114 0 rfl ?_
      refine VO_getr (r := 46) hC fl_AC_59 sh_AC rfl d_AC_newBrothers_115 ?_
      refine VO_geti hC fl_AC_239 sh_LB rfl d_AC_newBrothers_118 ?_
      refine VO_istoreB hC d_AC_newBrothers_121 [(0, .ref (gad G 0)), (2, .int v2), (3, .int v3), (4, .int v4)] rfl (by decide) (fun x8 => ?_)
      refine VO_const hC d_AC_newBrothers_122 ?_
      refine VO_iload hC d_AC_newBrothers_124 3 rfl ?_
      refine VO_imul hC d_AC_newBrothers_125 ?_
      refine VO_iload hC d_AC_newBrothers_126 4 rfl ?_
      refine VO_iadd hC d_AC_newBrothers_128 ?_
      refine VO_istoreB hC d_AC_newBrothers_129 [(1, .int x8), (0, .ref (gad G 0)), (3, .int v3), (4, .int v4)] rfl (by decide) (fun x9 => ?_)
      exact VO_sub [2, 1, 0, 3, 4] rfl (B_AC_newBrothers_130 hC K39 hK39 K55 hK55 x8 x9 v4 s7)
set_option maxRecDepth 20000 in
theorem B_AC_newBrothers_55 {G : MCx} (hC : C0 G "AccusedChoose" b_AC_newBrothers 5 22) (K39 : Int32 × Int32 × Int32 × St → Option (Int32 × St)) (hK39 : ∀ (w1 : Int32) (w2 : Int32) (w3 : Int32) (s : St), VO G (RI G b_AC_newBrothers) (K39 (w1, w2, w3, s)) 39 [(0, .ref (gad G 0)), (1, .int w1), (2, .int w2), (3, .int w3)] [] s) (v1 : Int32) (v2 : Int32) (v3 : Int32) (v4 : Int32) (s : St) : VO G (RI G b_AC_newBrothers) (F_AC_newBrothers_55 K39 v1 v2 v3 v4 s) 55 [(0, .ref (gad G 0)), (1, .int v1), (2, .int v2), (3, .int v3), (4, .int v4)] [] s := by
  exact VO_fix (G_AC_newBrothers_55 K39 v3) 55 (fun q => [(0, .ref (gad G 0)), (1, .int q.1), (2, .int q.2.1), (3, .int v3), (4, .int q.2.2.1)]) (fun q => q.2.2.2) (fun K hK q => BH_AC_newBrothers_55 hC K39 hK39 K (fun w1 w2 w4 s => hK (w1, w2, w4, s)) q.1 q.2.1 q.2.2.1 q.2.2.2) FUEL (v1, v2, v4, s)
set_option maxRecDepth 20000 in
theorem BH_AC_newBrothers_39 {G : MCx} (hC : C0 G "AccusedChoose" b_AC_newBrothers 5 22) (K39 : Int32 × Int32 × Int32 × St → Option (Int32 × St)) (hK39 : ∀ (w1 : Int32) (w2 : Int32) (w3 : Int32) (s : St), VO G (RI G b_AC_newBrothers) (K39 (w1, w2, w3, s)) 39 [(0, .ref (gad G 0)), (1, .int w1), (2, .int w2), (3, .int w3)] [] s) (v1 : Int32) (v2 : Int32) (v3 : Int32) (s : St) : VO G (RI G b_AC_newBrothers) (H_AC_newBrothers_39 K39 v1 v2 v3 s) 39 [(0, .ref (gad G 0)), (1, .int v1), (2, .int v2), (3, .int v3)] [] s := by
  unfold H_AC_newBrothers_39
  refine VO_iload hC d_AC_newBrothers_39 3 rfl ?_
  refine VO_aload hC d_AC_newBrothers_40 0 rfl ?_
  refine VO_getr (r := 1) hC fl_AC_10 sh_AC rfl d_AC_newBrothers_41 ?_
  refine VO_geti hC fl_AC_164 (sh_NI isNI_1) rfl d_AC_newBrothers_44 ?_
  refine VO_icmp_ge hC d_AC_newBrothers_47 (fun _ => ?_) (fun _ => ?_)
  · refine VO_iload hC d_AC_newBrothers_142 2 rfl ?_
    exact VO_ireturn d_AC_newBrothers_143
  · refine VO_iload hC d_AC_newBrothers_50 3 rfl ?_
    refine VO_const hC d_AC_newBrothers_51 ?_
    refine VO_iadd hC d_AC_newBrothers_52 ?_
    refine VO_istoreB hC d_AC_newBrothers_53 [(0, .ref (gad G 0)), (1, .int v1), (2, .int v2), (3, .int v3)] rfl (by decide) (fun x4 => ?_)
    exact VO_sub [1, 2, 3, 4, 0] rfl (B_AC_newBrothers_55 hC K39 hK39 v1 v2 v3 x4 s)
set_option maxRecDepth 20000 in
theorem B_AC_newBrothers_39 {G : MCx} (hC : C0 G "AccusedChoose" b_AC_newBrothers 5 22) (v1 : Int32) (v2 : Int32) (v3 : Int32) (s : St) : VO G (RI G b_AC_newBrothers) (F_AC_newBrothers_39 v1 v2 v3 s) 39 [(0, .ref (gad G 0)), (1, .int v1), (2, .int v2), (3, .int v3)] [] s := by
  exact VO_fix (G_AC_newBrothers_39) 39 (fun q => [(0, .ref (gad G 0)), (1, .int q.1), (2, .int q.2.1), (3, .int q.2.2.1)]) (fun q => q.2.2.2) (fun K hK q => BH_AC_newBrothers_39 hC K (fun w1 w2 w3 s => hK (w1, w2, w3, s)) q.1 q.2.1 q.2.2.1 q.2.2.2) FUEL (v1, v2, v3, s)
set_option maxRecDepth 20000 in
theorem B_AC_newBrothers {G : MCx} (hC : C0 G "AccusedChoose" b_AC_newBrothers 5 22) (s : St) : VO G (RI G b_AC_newBrothers) (F_AC_newBrothers s) 0 [(0, .ref (gad G 0))] [] s := by
  unfold F_AC_newBrothers
  refine VO_aload hC d_AC_newBrothers_0 0 rfl ?_
  refine VO_getr (r := 36) hC fl_AC_39 sh_AC rfl d_AC_newBrothers_1 ?_
  refine VO_aload hC d_AC_newBrothers_4 0 rfl ?_
  refine VO_getr (r := 1) hC fl_AC_10 sh_AC rfl d_AC_newBrothers_5 ?_
  refine VO_callVV hC [.ref (gad G 1)] [] ml_AC_219 d_AC_newBrothers_8 yv_PR_fill (sh_PR isPR_36) rfl rfl (fun o h => M_PR_fill hC.inj isPR_36 isNI_1 h) (by decide) rfl rfl (Nat.le_of_ble_eq_true rfl) (fun s1 => ?_)
  refine VO_aload hC d_AC_newBrothers_11 0 rfl ?_
  refine VO_getr (r := 46) hC fl_AC_59 sh_AC rfl d_AC_newBrothers_12 ?_
  refine VO_aload hC d_AC_newBrothers_15 0 rfl ?_
  refine VO_getr (r := 36) hC fl_AC_39 sh_AC rfl d_AC_newBrothers_16 ?_
  refine VO_aload hC d_AC_newBrothers_19 0 rfl ?_
  refine VO_getr (r := 1) hC fl_AC_10 sh_AC rfl d_AC_newBrothers_20 ?_
  refine VO_callVV hC [.ref (gad G 36), .ref (gad G 1)] [] ml_AC_233 d_AC_newBrothers_23 yv_LB_hold sh_LB rfl rfl (fun o h => M_LB_hold hC.inj isPR_36 isNI_1 h) (by decide) rfl rfl (Nat.le_of_ble_eq_true rfl) (fun s2 => ?_)
  refine VO_aload hC d_AC_newBrothers_26 0 rfl ?_
  refine VO_getr (r := 46) hC fl_AC_59 sh_AC rfl d_AC_newBrothers_27 ?_
  refine VO_geti hC fl_AC_239 sh_LB rfl d_AC_newBrothers_30 ?_
  refine VO_istoreB hC d_AC_newBrothers_33 [(0, .ref (gad G 0))] rfl (by decide) (fun x3 => ?_)
  refine VO_const hC d_AC_newBrothers_34 ?_
  refine VO_istore hC d_AC_newBrothers_36 [(1, .int x3), (0, .ref (gad G 0))] rfl (by decide) ?_
  refine VO_const hC d_AC_newBrothers_37 ?_
  refine VO_istore hC d_AC_newBrothers_38 [(2, .int (-9 : Int32)), (1, .int x3), (0, .ref (gad G 0))] rfl (by decide) ?_
  exact VO_sub [3, 2, 1, 0] rfl (B_AC_newBrothers_39 hC x3 (-9 : Int32) (0 : Int32) s2)
set_option maxRecDepth 20000 in
theorem M_AC_newBrothers {l : Launch} {D : va_G} {ad : Nat → Nat} {cI cL : ClassId} (hj : Inj ad) {s : St} {o : Int32 × St} (h : F_AC_newBrothers s = some o) : Cn l D ad cI cL y_AC_newBrothers b_AC_newBrothers 5 (some .int) 22 [.ref (ad 0)] s (some (.int o.1)) o.2 := by
  refine Cn_ofI hj (plainFor_of_name (by decide)) (Nat.le_of_ble_eq_true rfl) [(0, .ref (ad 0))] rfl (fun G hC e1 e2 e3 e4 e5 hR => ?_)
  subst e1; subst e2; subst e3; subst e4; subst e5
  exact B_AC_newBrothers hC s o h hR
theorem d_AC_madeLight_0 : PLa b_AC_madeLight 0 0 1 := Or.inl ⟨0, by decide +kernel, rfl, rfl⟩
theorem d_AC_madeLight_1 : DR b_AC_madeLight 1 (.invokevirtual 201) 3 4 := ⟨by decide +kernel, rfl⟩
theorem d_AC_madeLight_4 : PLa b_AC_madeLight 4 0 5 := Or.inl ⟨0, by decide +kernel, rfl, rfl⟩
theorem d_AC_madeLight_5 : DR b_AC_madeLight 5 (.getfield 49) 3 8 := ⟨by decide +kernel, rfl⟩
theorem d_AC_madeLight_8 : DR b_AC_madeLight 8 (.getfield 213) 3 11 := ⟨by decide +kernel, rfl⟩
theorem d_AC_madeLight_11 : PSi b_AC_madeLight 11 1 12 := Or.inl ⟨1, by decide +kernel, rfl, rfl⟩
theorem d_AC_madeLight_12 : PCi b_AC_madeLight 12 (-9) 14 := Or.inr (Or.inl ⟨(-9), by decide +kernel, by decide, rfl⟩)
theorem d_AC_madeLight_14 : PSi b_AC_madeLight 14 2 15 := Or.inl ⟨2, by decide +kernel, rfl, rfl⟩
theorem d_AC_madeLight_15 : PCi b_AC_madeLight 15 0 16 := Or.inl ⟨0, by decide +kernel, by decide, rfl⟩
theorem d_AC_madeLight_16 : PSi b_AC_madeLight 16 3 17 := Or.inl ⟨3, by decide +kernel, rfl, rfl⟩
theorem d_AC_madeLight_17 : PLi b_AC_madeLight 17 3 18 := Or.inl ⟨3, by decide +kernel, rfl, rfl⟩
theorem d_AC_madeLight_18 : PLa b_AC_madeLight 18 0 19 := Or.inl ⟨0, by decide +kernel, rfl, rfl⟩
theorem d_AC_madeLight_19 : DR b_AC_madeLight 19 (.getfield 10) 3 22 := ⟨by decide +kernel, rfl⟩
theorem d_AC_madeLight_22 : DR b_AC_madeLight 22 (.getfield 157) 3 25 := ⟨by decide +kernel, rfl⟩
theorem d_AC_madeLight_25 : DJ b_AC_madeLight 25 (.if_icmp .ge) 28 75 := ⟨50, by decide +kernel, rfl, by decide⟩
theorem d_AC_madeLight_28 : PLa b_AC_madeLight 28 0 29 := Or.inl ⟨0, by decide +kernel, rfl, rfl⟩
theorem d_AC_madeLight_29 : DR b_AC_madeLight 29 (.getfield 19) 3 32 := ⟨by decide +kernel, rfl⟩
theorem d_AC_madeLight_32 : PLa b_AC_madeLight 32 0 33 := Or.inl ⟨0, by decide +kernel, rfl, rfl⟩
theorem d_AC_madeLight_33 : DR b_AC_madeLight 33 (.getfield 10) 3 36 := ⟨by decide +kernel, rfl⟩
theorem d_AC_madeLight_36 : DR b_AC_madeLight 36 (.invokevirtual 101) 3 39 := ⟨by decide +kernel, rfl⟩
theorem d_AC_madeLight_39 : PLa b_AC_madeLight 39 0 40 := Or.inl ⟨0, by decide +kernel, rfl, rfl⟩
theorem d_AC_madeLight_40 : DR b_AC_madeLight 40 (.getfield 19) 3 43 := ⟨by decide +kernel, rfl⟩
theorem d_AC_madeLight_43 : DR b_AC_madeLight 43 (.getfield 119) 3 46 := ⟨by decide +kernel, rfl⟩
theorem d_AC_madeLight_46 : PLi b_AC_madeLight 46 3 47 := Or.inl ⟨3, by decide +kernel, rfl, rfl⟩
theorem d_AC_madeLight_47 : PCi b_AC_madeLight 47 2 48 := Or.inl ⟨2, by decide +kernel, by decide, rfl⟩
theorem d_AC_madeLight_48 : DR b_AC_madeLight 48 (.invokestatic 310) 3 51 := ⟨by decide +kernel, rfl⟩
theorem d_AC_madeLight_51 : PLa b_AC_madeLight 51 0 52 := Or.inl ⟨0, by decide +kernel, rfl, rfl⟩
theorem d_AC_madeLight_52 : DR b_AC_madeLight 52 (.invokevirtual 272) 3 55 := ⟨by decide +kernel, rfl⟩
theorem d_AC_madeLight_55 : PLi b_AC_madeLight 55 1 56 := Or.inl ⟨1, by decide +kernel, rfl, rfl⟩
theorem d_AC_madeLight_56 : DJ b_AC_madeLight 56 (.if_icmp .ge) 59 69 := ⟨13, by decide +kernel, rfl, by decide⟩
theorem d_AC_madeLight_59 : PLa b_AC_madeLight 59 0 60 := Or.inl ⟨0, by decide +kernel, rfl, rfl⟩
theorem d_AC_madeLight_60 : DR b_AC_madeLight 60 (.getfield 53) 3 63 := ⟨by decide +kernel, rfl⟩
theorem d_AC_madeLight_63 : DR b_AC_madeLight 63 (.getfield 213) 3 66 := ⟨by decide +kernel, rfl⟩
theorem d_AC_madeLight_66 : PSi b_AC_madeLight 66 1 67 := Or.inl ⟨1, by decide +kernel, rfl, rfl⟩
theorem d_AC_madeLight_67 : PLi b_AC_madeLight 67 3 68 := Or.inl ⟨3, by decide +kernel, rfl, rfl⟩
theorem d_AC_madeLight_68 : PSi b_AC_madeLight 68 2 69 := Or.inl ⟨2, by decide +kernel, rfl, rfl⟩
theorem d_AC_madeLight_69 : DR b_AC_madeLight 69 (.iinc 3 1) 3 72 := ⟨by decide +kernel, rfl⟩
theorem d_AC_madeLight_72 : DJ b_AC_madeLight 72 .goto 75 17 := ⟨-55, by decide +kernel, rfl, by decide⟩
theorem d_AC_madeLight_75 : PLi b_AC_madeLight 75 2 76 := Or.inl ⟨2, by decide +kernel, rfl, rfl⟩
theorem d_AC_madeLight_76 : DR b_AC_madeLight 76 (.ireturn) 1 77 := ⟨by decide +kernel, rfl⟩
set_option maxRecDepth 20000 in
theorem B_AC_madeLight_69 {G : MCx} (hC : C0 G "AccusedChoose" b_AC_madeLight 4 6) (K17 : Int32 × Int32 × Int32 × St → Option (Int32 × St)) (hK17 : ∀ (w1 : Int32) (w2 : Int32) (w3 : Int32) (s : St), VO G (RI G b_AC_madeLight) (K17 (w1, w2, w3, s)) 17 [(0, .ref (gad G 0)), (1, .int w1), (2, .int w2), (3, .int w3)] [] s) (v1 : Int32) (v2 : Int32) (v3 : Int32) (s : St) : VO G (RI G b_AC_madeLight) (F_AC_madeLight_69 K17 v1 v2 v3 s) 69 [(0, .ref (gad G 0)), (1, .int v1), (2, .int v2), (3, .int v3)] [] s := by
  unfold F_AC_madeLight_69
  refine VO_iinc hC d_AC_madeLight_69 3 rfl (by decide : Int32.ofInt 1 = 1) [(0, .ref (gad G 0)), (1, .int v1), (2, .int v2)] rfl (by decide) ?_
  refine VO_goto hC d_AC_madeLight_72 ?_
  exact VO_sub [1, 2, 3, 0] rfl (hK17 v1 v2 (v3 + 1) s)
set_option maxRecDepth 20000 in
theorem BH_AC_madeLight_17 {G : MCx} (hC : C0 G "AccusedChoose" b_AC_madeLight 4 6) (K17 : Int32 × Int32 × Int32 × St → Option (Int32 × St)) (hK17 : ∀ (w1 : Int32) (w2 : Int32) (w3 : Int32) (s : St), VO G (RI G b_AC_madeLight) (K17 (w1, w2, w3, s)) 17 [(0, .ref (gad G 0)), (1, .int w1), (2, .int w2), (3, .int w3)] [] s) (v1 : Int32) (v2 : Int32) (v3 : Int32) (s : St) : VO G (RI G b_AC_madeLight) (H_AC_madeLight_17 K17 v1 v2 v3 s) 17 [(0, .ref (gad G 0)), (1, .int v1), (2, .int v2), (3, .int v3)] [] s := by
  unfold H_AC_madeLight_17
  refine VO_iload hC d_AC_madeLight_17 3 rfl ?_
  refine VO_aload hC d_AC_madeLight_18 0 rfl ?_
  refine VO_getr (r := 1) hC fl_AC_10 sh_AC rfl d_AC_madeLight_19 ?_
  refine VO_geti hC fl_AC_157 (sh_NI isNI_1) rfl d_AC_madeLight_22 ?_
  refine VO_icmp_ge hC d_AC_madeLight_25 (fun _ => ?_) (fun _ => ?_)
  · refine VO_iload hC d_AC_madeLight_75 2 rfl ?_
    exact VO_ireturn d_AC_madeLight_76
  · refine VO_aload hC d_AC_madeLight_28 0 rfl ?_
    refine VO_getr (r := 19) hC fl_AC_19 sh_AC rfl d_AC_madeLight_29 ?_
    refine VO_aload hC d_AC_madeLight_32 0 rfl ?_
    refine VO_getr (r := 1) hC fl_AC_10 sh_AC rfl d_AC_madeLight_33 ?_
    refine VO_callVV hC [.ref (gad G 1)] [] ml_AC_101 d_AC_madeLight_36 yv_NI_copy (sh_NI isNI_19) rfl rfl (fun o h => M_NI_copy hC.inj isNI_19 isNI_1 h) (by decide) rfl rfl (Nat.le_of_ble_eq_true rfl) (fun s3 => ?_)
    refine VO_aload hC d_AC_madeLight_39 0 rfl ?_
    refine VO_getr (r := 19) hC fl_AC_19 sh_AC rfl d_AC_madeLight_40 ?_
    refine VO_getr (r := 20) hC fl_AC_119 (sh_NI isNI_19) rfl d_AC_madeLight_43 ?_
    refine VO_iload hC d_AC_madeLight_46 3 rfl ?_
    refine VO_const hC d_AC_madeLight_47 ?_
    refine VO_callSV hC [.ref (gad G 20), .int v3, .int (2 : Int32)] [] ml_AC_310 d_AC_madeLight_48 ys_AC_put (fun o h => M_AC_put hC.inj ia_20 h) (by decide) rfl rfl (Nat.le_of_ble_eq_true rfl) (fun s4 => ?_)
    refine VO_aload hC d_AC_madeLight_51 0 rfl ?_
    refine VO_callVI hC [] [] ml_AC_272 d_AC_madeLight_52 yv_AC_tried sh_AC rfl rfl (fun o h => M_AC_tried hC.inj h) (by decide) rfl rfl (Nat.le_of_ble_eq_true rfl) (fun o5 => ?_)
    refine VO_iload hC d_AC_madeLight_55 1 rfl ?_
    refine VO_icmp_ge hC d_AC_madeLight_56 (fun _ => ?_) (fun _ => ?_)
    · exact (B_AC_madeLight_69 hC K17 hK17 v1 v2 v3 o5.2)
    · refine VO_aload hC d_AC_madeLight_59 0 rfl ?_
      refine VO_getr (r := 43) hC fl_AC_53 sh_AC rfl d_AC_madeLight_60 ?_
      refine VO_geti hC fl_AC_213 (sh_MO isMO_43) rfl d_AC_madeLight_63 ?_
      refine VO_istoreB hC d_AC_madeLight_66 [(0, .ref (gad G 0)), (2, .int v2), (3, .int v3)] rfl (by decide) (fun x6 => ?_)
      refine VO_iload hC d_AC_madeLight_67 3 rfl ?_
      refine VO_istore hC d_AC_madeLight_68 [(1, .int x6), (0, .ref (gad G 0)), (3, .int v3)] rfl (by decide) ?_
      exact VO_sub [2, 1, 0, 3] rfl (B_AC_madeLight_69 hC K17 hK17 x6 v3 v3 o5.2)
set_option maxRecDepth 20000 in
theorem B_AC_madeLight_17 {G : MCx} (hC : C0 G "AccusedChoose" b_AC_madeLight 4 6) (v1 : Int32) (v2 : Int32) (v3 : Int32) (s : St) : VO G (RI G b_AC_madeLight) (F_AC_madeLight_17 v1 v2 v3 s) 17 [(0, .ref (gad G 0)), (1, .int v1), (2, .int v2), (3, .int v3)] [] s := by
  exact VO_fix (G_AC_madeLight_17) 17 (fun q => [(0, .ref (gad G 0)), (1, .int q.1), (2, .int q.2.1), (3, .int q.2.2.1)]) (fun q => q.2.2.2) (fun K hK q => BH_AC_madeLight_17 hC K (fun w1 w2 w3 s => hK (w1, w2, w3, s)) q.1 q.2.1 q.2.2.1 q.2.2.2) FUEL (v1, v2, v3, s)
set_option maxRecDepth 20000 in
theorem B_AC_madeLight {G : MCx} (hC : C0 G "AccusedChoose" b_AC_madeLight 4 6) (s : St) : VO G (RI G b_AC_madeLight) (F_AC_madeLight s) 0 [(0, .ref (gad G 0))] [] s := by
  unfold F_AC_madeLight
  refine VO_aload hC d_AC_madeLight_0 0 rfl ?_
  refine VO_callVV hC [] [] ml_AC_201 d_AC_madeLight_1 yv_AC_holdToday sh_AC rfl rfl (fun o h => M_AC_holdToday hC.inj h) (by decide) rfl rfl (Nat.le_of_ble_eq_true rfl) (fun s1 => ?_)
  refine VO_aload hC d_AC_madeLight_4 0 rfl ?_
  refine VO_getr (r := 40) hC fl_AC_49 sh_AC rfl d_AC_madeLight_5 ?_
  refine VO_geti hC fl_AC_213 (sh_MO isMO_40) rfl d_AC_madeLight_8 ?_
  refine VO_istoreB hC d_AC_madeLight_11 [(0, .ref (gad G 0))] rfl (by decide) (fun x2 => ?_)
  refine VO_const hC d_AC_madeLight_12 ?_
  refine VO_istore hC d_AC_madeLight_14 [(1, .int x2), (0, .ref (gad G 0))] rfl (by decide) ?_
  refine VO_const hC d_AC_madeLight_15 ?_
  refine VO_istore hC d_AC_madeLight_16 [(2, .int (-9 : Int32)), (1, .int x2), (0, .ref (gad G 0))] rfl (by decide) ?_
  exact VO_sub [3, 2, 1, 0] rfl (B_AC_madeLight_17 hC x2 (-9 : Int32) (0 : Int32) s1)
set_option maxRecDepth 20000 in
theorem M_AC_madeLight {l : Launch} {D : va_G} {ad : Nat → Nat} {cI cL : ClassId} (hj : Inj ad) {s : St} {o : Int32 × St} (h : F_AC_madeLight s = some o) : Cn l D ad cI cL y_AC_madeLight b_AC_madeLight 4 (some .int) 6 [.ref (ad 0)] s (some (.int o.1)) o.2 := by
  refine Cn_ofI hj (plainFor_of_name (by decide)) (Nat.le_of_ble_eq_true rfl) [(0, .ref (ad 0))] rfl (fun G hC e1 e2 e3 e4 e5 hR => ?_)
  subst e1; subst e2; subst e3; subst e4; subst e5
  exact B_AC_madeLight hC s o h hR
theorem d_AC_always_0 : PLa b_AC_always 0 0 1 := Or.inl ⟨0, by decide +kernel, rfl, rfl⟩
theorem d_AC_always_1 : DR b_AC_always 1 (.getfield 10) 3 4 := ⟨by decide +kernel, rfl⟩
theorem d_AC_always_4 : DR b_AC_always 4 (.invokevirtual 302) 3 7 := ⟨by decide +kernel, rfl⟩
theorem d_AC_always_7 : PSi b_AC_always 7 1 8 := Or.inl ⟨1, by decide +kernel, rfl, rfl⟩
theorem d_AC_always_8 : PLa b_AC_always 8 0 9 := Or.inl ⟨0, by decide +kernel, rfl, rfl⟩
theorem d_AC_always_9 : DR b_AC_always 9 (.invokevirtual 201) 3 12 := ⟨by decide +kernel, rfl⟩
theorem d_AC_always_12 : PLi b_AC_always 12 1 13 := Or.inl ⟨1, by decide +kernel, rfl, rfl⟩
theorem d_AC_always_13 : PLa b_AC_always 13 0 14 := Or.inl ⟨0, by decide +kernel, rfl, rfl⟩
theorem d_AC_always_14 : DR b_AC_always 14 (.getfield 49) 3 17 := ⟨by decide +kernel, rfl⟩
theorem d_AC_always_17 : DR b_AC_always 17 (.getfield 216) 3 20 := ⟨by decide +kernel, rfl⟩
theorem d_AC_always_20 : PCi b_AC_always 20 (-1) 21 := Or.inl ⟨(-1), by decide +kernel, by decide, rfl⟩
theorem d_AC_always_21 : DR b_AC_always 21 (.ixor) 1 22 := ⟨by decide +kernel, rfl⟩
theorem d_AC_always_22 : DR b_AC_always 22 (.iand) 1 23 := ⟨by decide +kernel, rfl⟩
theorem d_AC_always_23 : PSi b_AC_always 23 2 24 := Or.inl ⟨2, by decide +kernel, rfl, rfl⟩
theorem d_AC_always_24 : PLa b_AC_always 24 0 25 := Or.inl ⟨0, by decide +kernel, rfl, rfl⟩
theorem d_AC_always_25 : DR b_AC_always 25 (.invokevirtual 320) 3 28 := ⟨by decide +kernel, rfl⟩
theorem d_AC_always_28 : PLa b_AC_always 28 0 29 := Or.inl ⟨0, by decide +kernel, rfl, rfl⟩
theorem d_AC_always_29 : DR b_AC_always 29 (.invokevirtual 326) 3 32 := ⟨by decide +kernel, rfl⟩
theorem d_AC_always_32 : PLi b_AC_always 32 2 33 := Or.inl ⟨2, by decide +kernel, rfl, rfl⟩
theorem d_AC_always_33 : PLa b_AC_always 33 0 34 := Or.inl ⟨0, by decide +kernel, rfl, rfl⟩
theorem d_AC_always_34 : DR b_AC_always 34 (.getfield 53) 3 37 := ⟨by decide +kernel, rfl⟩
theorem d_AC_always_37 : DR b_AC_always 37 (.getfield 216) 3 40 := ⟨by decide +kernel, rfl⟩
theorem d_AC_always_40 : PCi b_AC_always 40 (-1) 41 := Or.inl ⟨(-1), by decide +kernel, by decide, rfl⟩
theorem d_AC_always_41 : DR b_AC_always 41 (.ixor) 1 42 := ⟨by decide +kernel, rfl⟩
theorem d_AC_always_42 : DR b_AC_always 42 (.iand) 1 43 := ⟨by decide +kernel, rfl⟩
theorem d_AC_always_43 : PSi b_AC_always 43 2 44 := Or.inl ⟨2, by decide +kernel, rfl, rfl⟩
theorem d_AC_always_44 : PLa b_AC_always 44 0 45 := Or.inl ⟨0, by decide +kernel, rfl, rfl⟩
theorem d_AC_always_45 : PLa b_AC_always 45 0 46 := Or.inl ⟨0, by decide +kernel, rfl, rfl⟩
theorem d_AC_always_46 : DR b_AC_always 46 (.getfield 10) 3 49 := ⟨by decide +kernel, rfl⟩
theorem d_AC_always_49 : DR b_AC_always 49 (.getfield 178) 3 52 := ⟨by decide +kernel, rfl⟩
theorem d_AC_always_52 : DR b_AC_always 52 (.invokevirtual 340) 3 55 := ⟨by decide +kernel, rfl⟩
theorem d_AC_always_55 : PLa b_AC_always 55 0 56 := Or.inl ⟨0, by decide +kernel, rfl, rfl⟩
theorem d_AC_always_56 : PLa b_AC_always 56 0 57 := Or.inl ⟨0, by decide +kernel, rfl, rfl⟩
theorem d_AC_always_57 : DR b_AC_always 57 (.getfield 10) 3 60 := ⟨by decide +kernel, rfl⟩
theorem d_AC_always_60 : DR b_AC_always 60 (.getfield 178) 3 63 := ⟨by decide +kernel, rfl⟩
theorem d_AC_always_63 : PCi b_AC_always 63 0 64 := Or.inl ⟨0, by decide +kernel, by decide, rfl⟩
theorem d_AC_always_64 : DR b_AC_always 64 (.invokestatic 122) 3 67 := ⟨by decide +kernel, rfl⟩
theorem d_AC_always_67 : PLa b_AC_always 67 0 68 := Or.inl ⟨0, by decide +kernel, rfl, rfl⟩
theorem d_AC_always_68 : DR b_AC_always 68 (.getfield 10) 3 71 := ⟨by decide +kernel, rfl⟩
theorem d_AC_always_71 : DR b_AC_always 71 (.getfield 164) 3 74 := ⟨by decide +kernel, rfl⟩
theorem d_AC_always_74 : PCi b_AC_always 74 1 75 := Or.inl ⟨1, by decide +kernel, by decide, rfl⟩
theorem d_AC_always_75 : DR b_AC_always 75 (.isub) 1 76 := ⟨by decide +kernel, rfl⟩
theorem d_AC_always_76 : DR b_AC_always 76 (.invokevirtual 323) 3 79 := ⟨by decide +kernel, rfl⟩
theorem d_AC_always_79 : PLa b_AC_always 79 0 80 := Or.inl ⟨0, by decide +kernel, rfl, rfl⟩
theorem d_AC_always_80 : DR b_AC_always 80 (.invokevirtual 326) 3 83 := ⟨by decide +kernel, rfl⟩
theorem d_AC_always_83 : PLi b_AC_always 83 2 84 := Or.inl ⟨2, by decide +kernel, rfl, rfl⟩
theorem d_AC_always_84 : PLa b_AC_always 84 0 85 := Or.inl ⟨0, by decide +kernel, rfl, rfl⟩
theorem d_AC_always_85 : DR b_AC_always 85 (.getfield 53) 3 88 := ⟨by decide +kernel, rfl⟩
theorem d_AC_always_88 : DR b_AC_always 88 (.getfield 216) 3 91 := ⟨by decide +kernel, rfl⟩
theorem d_AC_always_91 : PCi b_AC_always 91 (-1) 92 := Or.inl ⟨(-1), by decide +kernel, by decide, rfl⟩
theorem d_AC_always_92 : DR b_AC_always 92 (.ixor) 1 93 := ⟨by decide +kernel, rfl⟩
theorem d_AC_always_93 : DR b_AC_always 93 (.iand) 1 94 := ⟨by decide +kernel, rfl⟩
theorem d_AC_always_94 : DR b_AC_always 94 (.ireturn) 1 95 := ⟨by decide +kernel, rfl⟩
set_option maxRecDepth 20000 in
theorem B_AC_always {G : MCx} (hC : C0 G "AccusedChoose" b_AC_always 3 6) (s : St) : VO G (RI G b_AC_always) (F_AC_always s) 0 [(0, .ref (gad G 0))] [] s := by
  unfold F_AC_always
  refine VO_aload hC d_AC_always_0 0 rfl ?_
  refine VO_getr (r := 1) hC fl_AC_10 sh_AC rfl d_AC_always_1 ?_
  refine VO_callVI hC [] [] ml_AC_302 d_AC_always_4 yv_NI_allDeeds (sh_NI isNI_1) rfl rfl (fun o h => M_NI_allDeeds hC.inj isNI_1 h) (by decide) rfl rfl (Nat.le_of_ble_eq_true rfl) (fun o1 => ?_)
  refine VO_istore hC d_AC_always_7 [(0, .ref (gad G 0))] rfl (by decide) ?_
  refine VO_aload hC d_AC_always_8 1 rfl ?_
  refine VO_callVV hC [] [] ml_AC_201 d_AC_always_9 yv_AC_holdToday sh_AC rfl rfl (fun o h => M_AC_holdToday hC.inj h) (by decide) rfl rfl (Nat.le_of_ble_eq_true rfl) (fun s2 => ?_)
  refine VO_iload hC d_AC_always_12 0 rfl ?_
  refine VO_aload hC d_AC_always_13 1 rfl ?_
  refine VO_getr (r := 40) hC fl_AC_49 sh_AC rfl d_AC_always_14 ?_
  refine VO_geti hC fl_AC_216 (sh_MO isMO_40) rfl d_AC_always_17 ?_
  refine VO_const hC d_AC_always_20 ?_
  refine VO_ixor hC d_AC_always_21 ?_
  refine VO_iand hC d_AC_always_22 ?_
  refine VO_istoreB hC d_AC_always_23 [(1, .int o1.1), (0, .ref (gad G 0))] rfl (by decide) (fun x3 => ?_)
  refine VO_aload hC d_AC_always_24 2 rfl ?_
  refine VO_callVV hC [] [] ml_AC_320 d_AC_always_25 yv_AC_turnRound sh_AC rfl rfl (fun o h => M_AC_turnRound hC.inj h) (by decide) rfl rfl (Nat.le_of_ble_eq_true rfl) (fun s4 => ?_)
  refine VO_aload hC d_AC_always_28 2 rfl ?_
  refine VO_callVV hC [] [] ml_AC_326 d_AC_always_29 yv_AC_holdLine sh_AC rfl rfl (fun o h => M_AC_holdLine hC.inj h) (by decide) rfl rfl (Nat.le_of_ble_eq_true rfl) (fun s5 => ?_)
  refine VO_iload hC d_AC_always_32 0 rfl ?_
  refine VO_aload hC d_AC_always_33 2 rfl ?_
  refine VO_getr (r := 43) hC fl_AC_53 sh_AC rfl d_AC_always_34 ?_
  refine VO_geti hC fl_AC_216 (sh_MO isMO_43) rfl d_AC_always_37 ?_
  refine VO_const hC d_AC_always_40 ?_
  refine VO_ixor hC d_AC_always_41 ?_
  refine VO_iand hC d_AC_always_42 ?_
  refine VO_istoreB hC d_AC_always_43 [(1, .int o1.1), (0, .ref (gad G 0))] rfl (by decide) (fun x6 => ?_)
  refine VO_aload hC d_AC_always_44 2 rfl ?_
  refine VO_aload hC d_AC_always_45 2 rfl ?_
  refine VO_getr (r := 1) hC fl_AC_10 sh_AC rfl d_AC_always_46 ?_
  refine VO_getr (r := 9) hC fl_AC_178 (sh_NI isNI_1) rfl d_AC_always_49 ?_
  refine VO_callVV hC [.ref (gad G 9)] [] ml_AC_340 d_AC_always_52 yv_AC_lineUp sh_AC rfl rfl (fun o h => M_AC_lineUp hC.inj ia_9 h) (by decide) rfl rfl (Nat.le_of_ble_eq_true rfl) (fun s7 => ?_)
  refine VO_aload hC d_AC_always_55 2 rfl ?_
  refine VO_aload hC d_AC_always_56 2 rfl ?_
  refine VO_getr (r := 1) hC fl_AC_10 sh_AC rfl d_AC_always_57 ?_
  refine VO_getr (r := 9) hC fl_AC_178 (sh_NI isNI_1) rfl d_AC_always_60 ?_
  refine VO_const hC d_AC_always_63 ?_
  refine VO_callSI hC [.ref (gad G 9), .int (0 : Int32)] [.ref (gad G 0)] ml_AC_122 d_AC_always_64 ys_AC_at (fun o h => M_AC_at hC.inj ia_9 h) (by decide) rfl rfl (Nat.le_of_ble_eq_true rfl) (fun o8 => ?_)
  refine VO_aload hC d_AC_always_67 2 rfl ?_
  refine VO_getr (r := 1) hC fl_AC_10 sh_AC rfl d_AC_always_68 ?_
  refine VO_geti hC fl_AC_164 (sh_NI isNI_1) rfl d_AC_always_71 ?_
  refine VO_const hC d_AC_always_74 ?_
  refine VO_isub hC d_AC_always_75 ?_
  refine VO_callVV hC [.int o8.1, .int ((rd o8.2 1 1) - (1 : Int32))] [] ml_AC_323 d_AC_always_76 yv_AC_moveInLine sh_AC rfl rfl (fun o h => M_AC_moveInLine hC.inj h) (by decide) rfl rfl (Nat.le_of_ble_eq_true rfl) (fun s9 => ?_)
  refine VO_aload hC d_AC_always_79 2 rfl ?_
  refine VO_callVV hC [] [] ml_AC_326 d_AC_always_80 yv_AC_holdLine sh_AC rfl rfl (fun o h => M_AC_holdLine hC.inj h) (by decide) rfl rfl (Nat.le_of_ble_eq_true rfl) (fun s10 => ?_)
  refine VO_iload hC d_AC_always_83 0 rfl ?_
  refine VO_aload hC d_AC_always_84 2 rfl ?_
  refine VO_getr (r := 43) hC fl_AC_53 sh_AC rfl d_AC_always_85 ?_
  refine VO_geti hC fl_AC_216 (sh_MO isMO_43) rfl d_AC_always_88 ?_
  refine VO_const hC d_AC_always_91 ?_
  refine VO_ixor hC d_AC_always_92 ?_
  refine VO_iand hC d_AC_always_93 ?_
  exact VO_ireturn d_AC_always_94
set_option maxRecDepth 20000 in
theorem M_AC_always {l : Launch} {D : va_G} {ad : Nat → Nat} {cI cL : ClassId} (hj : Inj ad) {s : St} {o : Int32 × St} (h : F_AC_always s = some o) : Cn l D ad cI cL y_AC_always b_AC_always 3 (some .int) 6 [.ref (ad 0)] s (some (.int o.1)) o.2 := by
  refine Cn_ofI hj (plainFor_of_name (by decide)) (Nat.le_of_ble_eq_true rfl) [(0, .ref (ad 0))] rfl (fun G hC e1 e2 e3 e4 e5 hR => ?_)
  subst e1; subst e2; subst e3; subst e4; subst e5
  exact B_AC_always hC s o h hR
theorem d_AC_row_0 : PLi b_AC_row 0 1 1 := Or.inl ⟨1, by decide +kernel, rfl, rfl⟩
theorem d_AC_row_1 : DJ b_AC_row 1 (.ifCond .ge) 4 11 := ⟨10, by decide +kernel, rfl, by decide⟩
theorem d_AC_row_4 : PLa b_AC_row 4 0 5 := Or.inl ⟨0, by decide +kernel, rfl, rfl⟩
theorem d_AC_row_5 : PCi b_AC_row 5 (-4) 7 := Or.inr (Or.inl ⟨(-4), by decide +kernel, by decide, rfl⟩)
theorem d_AC_row_7 : DR b_AC_row 7 (.invokevirtual 90) 3 10 := ⟨by decide +kernel, rfl⟩
theorem d_AC_row_10 : DR b_AC_row 10 (.ireturn) 1 11 := ⟨by decide +kernel, rfl⟩
theorem d_AC_row_11 : PLi b_AC_row 11 1 12 := Or.inl ⟨1, by decide +kernel, rfl, rfl⟩
theorem d_AC_row_12 : PCi b_AC_row 12 9 14 := Or.inr (Or.inl ⟨9, by decide +kernel, by decide, rfl⟩)
theorem d_AC_row_14 : DJ b_AC_row 14 (.if_icmp .gt) 17 26 := ⟨12, by decide +kernel, rfl, by decide⟩
theorem d_AC_row_17 : PLa b_AC_row 17 0 18 := Or.inl ⟨0, by decide +kernel, rfl, rfl⟩
theorem d_AC_row_18 : DR b_AC_row 18 (.getfield 344) 3 21 := ⟨by decide +kernel, rfl⟩
theorem d_AC_row_21 : PCi b_AC_row 21 12 23 := Or.inr (Or.inl ⟨12, by decide +kernel, by decide, rfl⟩)
theorem d_AC_row_23 : DJ b_AC_row 23 (.if_icmp .lt) 26 33 := ⟨10, by decide +kernel, rfl, by decide⟩
theorem d_AC_row_26 : PLa b_AC_row 26 0 27 := Or.inl ⟨0, by decide +kernel, rfl, rfl⟩
theorem d_AC_row_27 : PCi b_AC_row 27 (-6) 29 := Or.inr (Or.inl ⟨(-6), by decide +kernel, by decide, rfl⟩)
theorem d_AC_row_29 : DR b_AC_row 29 (.invokevirtual 90) 3 32 := ⟨by decide +kernel, rfl⟩
theorem d_AC_row_32 : DR b_AC_row 32 (.ireturn) 1 33 := ⟨by decide +kernel, rfl⟩
theorem d_AC_row_33 : PLa b_AC_row 33 0 34 := Or.inl ⟨0, by decide +kernel, rfl, rfl⟩
theorem d_AC_row_34 : DR b_AC_row 34 (.getfield 84) 3 37 := ⟨by decide +kernel, rfl⟩
theorem d_AC_row_37 : PLa b_AC_row 37 0 38 := Or.inl ⟨0, by decide +kernel, rfl, rfl⟩
theorem d_AC_row_38 : DR b_AC_row 38 (.getfield 344) 3 41 := ⟨by decide +kernel, rfl⟩
theorem d_AC_row_41 : PLi b_AC_row 41 1 42 := Or.inl ⟨1, by decide +kernel, rfl, rfl⟩
theorem d_AC_row_42 : DR b_AC_row 42 (.invokestatic 310) 3 45 := ⟨by decide +kernel, rfl⟩
theorem d_AC_row_45 : PLa b_AC_row 45 0 46 := Or.inl ⟨0, by decide +kernel, rfl, rfl⟩
theorem d_AC_row_46 : DR b_AC_row 46 (.dup) 1 47 := ⟨by decide +kernel, rfl⟩
theorem d_AC_row_47 : DR b_AC_row 47 (.getfield 344) 3 50 := ⟨by decide +kernel, rfl⟩
theorem d_AC_row_50 : PCi b_AC_row 50 1 51 := Or.inl ⟨1, by decide +kernel, by decide, rfl⟩
theorem d_AC_row_51 : DR b_AC_row 51 (.iadd) 1 52 := ⟨by decide +kernel, rfl⟩
theorem d_AC_row_52 : DR b_AC_row 52 (.putfield 344) 3 55 := ⟨by decide +kernel, rfl⟩
theorem d_AC_row_55 : PLa b_AC_row 55 0 56 := Or.inl ⟨0, by decide +kernel, rfl, rfl⟩
theorem d_AC_row_56 : DR b_AC_row 56 (.getfield 344) 3 59 := ⟨by decide +kernel, rfl⟩
theorem d_AC_row_59 : DR b_AC_row 59 (.ireturn) 1 60 := ⟨by decide +kernel, rfl⟩
set_option maxRecDepth 20000 in
theorem B_AC_row_26 {G : MCx} (hC : C0 G "AccusedChoose" b_AC_row 2 3) (s : St) : VO G (RI G b_AC_row) (F_AC_row_26 s) 26 [(0, .ref (gad G 0))] [] s := by
  unfold F_AC_row_26
  refine VO_aload hC d_AC_row_26 0 rfl ?_
  refine VO_const hC d_AC_row_27 ?_
  refine VO_callVI hC [.int (-6 : Int32)] [] ml_AC_90 d_AC_row_29 yv_AC_refuse sh_AC rfl rfl (fun o h => M_AC_refuse hC.inj h) (by decide) rfl rfl (Nat.le_of_ble_eq_true rfl) (fun o1 => ?_)
  exact VO_ireturn d_AC_row_32
set_option maxRecDepth 20000 in
theorem B_AC_row {G : MCx} (hC : C0 G "AccusedChoose" b_AC_row 2 3) (a1 : Int32) (s : St) : VO G (RI G b_AC_row) (F_AC_row a1 s) 0 [(0, .ref (gad G 0)), (1, .int a1)] [] s := by
  unfold F_AC_row
  refine VO_iload hC d_AC_row_0 1 rfl ?_
  refine VO_if_ge hC d_AC_row_1 (fun _ => ?_) (fun _ => ?_)
  · refine VO_iload hC d_AC_row_11 1 rfl ?_
    refine VO_const hC d_AC_row_12 ?_
    refine VO_icmp_gt hC d_AC_row_14 (fun _ => ?_) (fun _ => ?_)
    · exact VO_sub [0] rfl (B_AC_row_26 hC s)
    · refine VO_aload hC d_AC_row_17 0 rfl ?_
      refine VO_geti hC fl_AC_344 sh_AC rfl d_AC_row_18 ?_
      refine VO_const hC d_AC_row_21 ?_
      refine VO_icmp_lt hC d_AC_row_23 (fun _ => ?_) (fun _ => ?_)
      · refine VO_aload hC d_AC_row_33 0 rfl ?_
        refine VO_getr (r := 56) hC fl_AC_84 sh_AC rfl d_AC_row_34 ?_
        refine VO_aload hC d_AC_row_37 0 rfl ?_
        refine VO_geti hC fl_AC_344 sh_AC rfl d_AC_row_38 ?_
        refine VO_iload hC d_AC_row_41 1 rfl ?_
        refine VO_callSV hC [.ref (gad G 56), .int (rd s 0 16), .int a1] [] ml_AC_310 d_AC_row_42 ys_AC_put (fun o h => M_AC_put hC.inj ia_56 h) (by decide) rfl rfl (Nat.le_of_ble_eq_true rfl) (fun s2 => ?_)
        refine VO_aload hC d_AC_row_45 0 rfl ?_
        refine VO_dup hC d_AC_row_46 rfl ?_
        refine VO_geti hC fl_AC_344 sh_AC rfl d_AC_row_47 ?_
        refine VO_const hC d_AC_row_50 ?_
        refine VO_iadd hC d_AC_row_51 ?_
        refine VO_puti hC fw_AC_344 sh_AC rfl d_AC_row_52 (fun s3 => ?_)
        refine VO_aload hC d_AC_row_55 0 rfl ?_
        refine VO_geti hC fl_AC_344 sh_AC rfl d_AC_row_56 ?_
        exact VO_ireturn d_AC_row_59
      · exact VO_sub [0] rfl (B_AC_row_26 hC s)
  · refine VO_aload hC d_AC_row_4 0 rfl ?_
    refine VO_const hC d_AC_row_5 ?_
    refine VO_callVI hC [.int (-4 : Int32)] [] ml_AC_90 d_AC_row_7 yv_AC_refuse sh_AC rfl rfl (fun o h => M_AC_refuse hC.inj h) (by decide) rfl rfl (Nat.le_of_ble_eq_true rfl) (fun o4 => ?_)
    exact VO_ireturn d_AC_row_10
set_option maxRecDepth 20000 in
theorem M_AC_row {l : Launch} {D : va_G} {ad : Nat → Nat} {cI cL : ClassId} (hj : Inj ad) {a1 : Int32} {s : St} {o : Int32 × St} (h : F_AC_row a1 s = some o) : Cn l D ad cI cL y_AC_row b_AC_row 2 (some .int) 3 [.ref (ad 0), .int a1] s (some (.int o.1)) o.2 := by
  refine Cn_ofI hj (plainFor_of_name (by decide)) (Nat.le_of_ble_eq_true rfl) [(0, .ref (ad 0)), (1, .int a1)] rfl (fun G hC e1 e2 e3 e4 e5 hR => ?_)
  subst e1; subst e2; subst e3; subst e4; subst e5
  exact B_AC_row hC a1 s o h hR
theorem d_AC_firstNotSo_0 : PCi b_AC_firstNotSo 0 0 1 := Or.inl ⟨0, by decide +kernel, by decide, rfl⟩
theorem d_AC_firstNotSo_1 : PSi b_AC_firstNotSo 1 2 2 := Or.inl ⟨2, by decide +kernel, rfl, rfl⟩
theorem d_AC_firstNotSo_2 : PLi b_AC_firstNotSo 2 2 3 := Or.inl ⟨2, by decide +kernel, rfl, rfl⟩
theorem d_AC_firstNotSo_3 : PLa b_AC_firstNotSo 3 0 4 := Or.inl ⟨0, by decide +kernel, rfl, rfl⟩
theorem d_AC_firstNotSo_4 : DR b_AC_firstNotSo 4 (.getfield 344) 3 7 := ⟨by decide +kernel, rfl⟩
theorem d_AC_firstNotSo_7 : DJ b_AC_firstNotSo 7 (.if_icmp .ge) 10 65 := ⟨58, by decide +kernel, rfl, by decide⟩
theorem d_AC_firstNotSo_10 : PLa b_AC_firstNotSo 10 1 11 := Or.inl ⟨1, by decide +kernel, rfl, rfl⟩
theorem d_AC_firstNotSo_11 : DR b_AC_firstNotSo 11 (.getfield 204) 3 14 := ⟨by decide +kernel, rfl⟩
theorem d_AC_firstNotSo_14 : PLi b_AC_firstNotSo 14 2 15 := Or.inl ⟨2, by decide +kernel, rfl, rfl⟩
theorem d_AC_firstNotSo_15 : DR b_AC_firstNotSo 15 (.invokestatic 122) 3 18 := ⟨by decide +kernel, rfl⟩
theorem d_AC_firstNotSo_18 : PSi b_AC_firstNotSo 18 3 19 := Or.inl ⟨3, by decide +kernel, rfl, rfl⟩
theorem d_AC_firstNotSo_19 : PLi b_AC_firstNotSo 19 3 20 := Or.inl ⟨3, by decide +kernel, rfl, rfl⟩
theorem d_AC_firstNotSo_20 : PCi b_AC_firstNotSo 20 (-9) 22 := Or.inr (Or.inl ⟨(-9), by decide +kernel, by decide, rfl⟩)
theorem d_AC_firstNotSo_22 : DJ b_AC_firstNotSo 22 (.if_icmp .ne) 25 30 := ⟨8, by decide +kernel, rfl, by decide⟩
theorem d_AC_firstNotSo_25 : PCi b_AC_firstNotSo 25 9 27 := Or.inr (Or.inl ⟨9, by decide +kernel, by decide, rfl⟩)
theorem d_AC_firstNotSo_27 : DJ b_AC_firstNotSo 27 .goto 30 31 := ⟨4, by decide +kernel, rfl, by decide⟩
theorem d_AC_firstNotSo_30 : PLi b_AC_firstNotSo 30 3 31 := Or.inl ⟨3, by decide +kernel, rfl, rfl⟩
theorem d_AC_firstNotSo_31 : PSi b_AC_firstNotSo 31 4 33 := Or.inr ⟨by decide +kernel, rfl⟩
theorem d_AC_firstNotSo_33 : PLi b_AC_firstNotSo 33 2 34 := Or.inl ⟨2, by decide +kernel, rfl, rfl⟩
theorem d_AC_firstNotSo_34 : PLa b_AC_firstNotSo 34 0 35 := Or.inl ⟨0, by decide +kernel, rfl, rfl⟩
theorem d_AC_firstNotSo_35 : DR b_AC_firstNotSo 35 (.getfield 10) 3 38 := ⟨by decide +kernel, rfl⟩
theorem d_AC_firstNotSo_38 : DR b_AC_firstNotSo 38 (.getfield 164) 3 41 := ⟨by decide +kernel, rfl⟩
theorem d_AC_firstNotSo_41 : DJ b_AC_firstNotSo 41 (.if_icmp .ge) 44 57 := ⟨16, by decide +kernel, rfl, by decide⟩
theorem d_AC_firstNotSo_44 : PLi b_AC_firstNotSo 44 4 46 := Or.inr ⟨by decide +kernel, rfl⟩
theorem d_AC_firstNotSo_46 : PLa b_AC_firstNotSo 46 0 47 := Or.inl ⟨0, by decide +kernel, rfl, rfl⟩
theorem d_AC_firstNotSo_47 : DR b_AC_firstNotSo 47 (.getfield 84) 3 50 := ⟨by decide +kernel, rfl⟩
theorem d_AC_firstNotSo_50 : PLi b_AC_firstNotSo 50 2 51 := Or.inl ⟨2, by decide +kernel, rfl, rfl⟩
theorem d_AC_firstNotSo_51 : DR b_AC_firstNotSo 51 (.invokestatic 122) 3 54 := ⟨by decide +kernel, rfl⟩
theorem d_AC_firstNotSo_54 : DJ b_AC_firstNotSo 54 (.if_icmp .eq) 57 59 := ⟨5, by decide +kernel, rfl, by decide⟩
theorem d_AC_firstNotSo_57 : PLi b_AC_firstNotSo 57 2 58 := Or.inl ⟨2, by decide +kernel, rfl, rfl⟩
theorem d_AC_firstNotSo_58 : DR b_AC_firstNotSo 58 (.ireturn) 1 59 := ⟨by decide +kernel, rfl⟩
theorem d_AC_firstNotSo_59 : DR b_AC_firstNotSo 59 (.iinc 2 1) 3 62 := ⟨by decide +kernel, rfl⟩
theorem d_AC_firstNotSo_62 : DJ b_AC_firstNotSo 62 .goto 65 2 := ⟨-60, by decide +kernel, rfl, by decide⟩
theorem d_AC_firstNotSo_65 : PCi b_AC_firstNotSo 65 (-9) 67 := Or.inr (Or.inl ⟨(-9), by decide +kernel, by decide, rfl⟩)
theorem d_AC_firstNotSo_67 : DR b_AC_firstNotSo 67 (.ireturn) 1 68 := ⟨by decide +kernel, rfl⟩
set_option maxRecDepth 20000 in
theorem B_AC_firstNotSo_31 {G : MCx} (hC : C0 G "AccusedChoose" b_AC_firstNotSo 5 2) {t1 : Nat} (h1 : isMO t1) (K2 : Int32 × St → Option (Int32 × St)) (hK2 : ∀ (w2 : Int32) (s : St), VO G (RI G b_AC_firstNotSo) (K2 (w2, s)) 2 [(0, .ref (gad G 0)), (1, .ref (gad G t1)), (2, .int w2)] [] s) (v2 : Int32) (z0 : Int32) (s : St) : VO G (RI G b_AC_firstNotSo) (F_AC_firstNotSo_31 t1 K2 v2 z0 s) 31 [(0, .ref (gad G 0)), (1, .ref (gad G t1)), (2, .int v2)] [.int z0] s := by
  unfold F_AC_firstNotSo_31
  refine VO_istore hC d_AC_firstNotSo_31 [(0, .ref (gad G 0)), (1, .ref (gad G t1)), (2, .int v2)] rfl (by decide) ?_
  refine VO_iload hC d_AC_firstNotSo_33 3 rfl ?_
  refine VO_aload hC d_AC_firstNotSo_34 1 rfl ?_
  refine VO_getr (r := 1) hC fl_AC_10 sh_AC rfl d_AC_firstNotSo_35 ?_
  refine VO_geti hC fl_AC_164 (sh_NI isNI_1) rfl d_AC_firstNotSo_38 ?_
  refine VO_icmp_ge hC d_AC_firstNotSo_41 (fun _ => ?_) (fun _ => ?_)
  · refine VO_iload hC d_AC_firstNotSo_57 3 rfl ?_
    exact VO_ireturn d_AC_firstNotSo_58
  · refine VO_iload hC d_AC_firstNotSo_44 0 rfl ?_
    refine VO_aload hC d_AC_firstNotSo_46 1 rfl ?_
    refine VO_getr (r := 56) hC fl_AC_84 sh_AC rfl d_AC_firstNotSo_47 ?_
    refine VO_iload hC d_AC_firstNotSo_50 3 rfl ?_
    refine VO_callSI hC [.ref (gad G 56), .int v2] [.int z0] ml_AC_122 d_AC_firstNotSo_51 ys_AC_at (fun o h => M_AC_at hC.inj ia_56 h) (by decide) rfl rfl (Nat.le_of_ble_eq_true rfl) (fun o2 => ?_)
    refine VO_icmp_eq hC d_AC_firstNotSo_54 (fun _ => ?_) (fun _ => ?_)
    · refine VO_iinc hC d_AC_firstNotSo_59 3 rfl (by decide : Int32.ofInt 1 = 1) [(4, .int z0), (0, .ref (gad G 0)), (1, .ref (gad G t1))] rfl (by decide) ?_
      refine VO_goto hC d_AC_firstNotSo_62 ?_
      exact VO_sub [2, 3, 0] rfl (hK2 (v2 + 1) o2.2)
    · refine VO_iload hC d_AC_firstNotSo_57 3 rfl ?_
      exact VO_ireturn d_AC_firstNotSo_58
set_option maxRecDepth 20000 in
theorem BH_AC_firstNotSo_2 {G : MCx} (hC : C0 G "AccusedChoose" b_AC_firstNotSo 5 2) {t1 : Nat} (h1 : isMO t1) (K2 : Int32 × St → Option (Int32 × St)) (hK2 : ∀ (w2 : Int32) (s : St), VO G (RI G b_AC_firstNotSo) (K2 (w2, s)) 2 [(0, .ref (gad G 0)), (1, .ref (gad G t1)), (2, .int w2)] [] s) (v2 : Int32) (s : St) : VO G (RI G b_AC_firstNotSo) (H_AC_firstNotSo_2 t1 K2 v2 s) 2 [(0, .ref (gad G 0)), (1, .ref (gad G t1)), (2, .int v2)] [] s := by
  unfold H_AC_firstNotSo_2
  refine VO_iload hC d_AC_firstNotSo_2 2 rfl ?_
  refine VO_aload hC d_AC_firstNotSo_3 0 rfl ?_
  refine VO_geti hC fl_AC_344 sh_AC rfl d_AC_firstNotSo_4 ?_
  refine VO_icmp_ge hC d_AC_firstNotSo_7 (fun _ => ?_) (fun _ => ?_)
  · refine VO_const hC d_AC_firstNotSo_65 ?_
    exact VO_ireturn d_AC_firstNotSo_67
  · refine VO_aload hC d_AC_firstNotSo_10 1 rfl ?_
    refine VO_getr (r := (t1 + 1)) hC fl_AC_204 (sh_MO h1) rfl d_AC_firstNotSo_11 ?_
    refine VO_iload hC d_AC_firstNotSo_14 2 rfl ?_
    refine VO_callSI hC [.ref (gad G (t1 + 1)), .int v2] [] ml_AC_122 d_AC_firstNotSo_15 ys_AC_at (fun o h => M_AC_at hC.inj (ia_MO1 h1) h) (by decide) rfl rfl (Nat.le_of_ble_eq_true rfl) (fun o1 => ?_)
    refine VO_istore hC d_AC_firstNotSo_18 [(0, .ref (gad G 0)), (1, .ref (gad G t1)), (2, .int v2)] rfl (by decide) ?_
    refine VO_iload hC d_AC_firstNotSo_19 0 rfl ?_
    refine VO_const hC d_AC_firstNotSo_20 ?_
    refine VO_icmp_ne hC d_AC_firstNotSo_22 (fun _ => ?_) (fun _ => ?_)
    · refine VO_const hC d_AC_firstNotSo_25 ?_
      refine VO_goto hC d_AC_firstNotSo_27 ?_
      exact VO_sub [1, 2, 3] rfl (B_AC_firstNotSo_31 hC h1 K2 hK2 v2 (9 : Int32) o1.2)
    · refine VO_iload hC d_AC_firstNotSo_30 0 rfl ?_
      exact VO_sub [1, 2, 3] rfl (B_AC_firstNotSo_31 hC h1 K2 hK2 v2 o1.1 o1.2)
set_option maxRecDepth 20000 in
theorem B_AC_firstNotSo_2 {G : MCx} (hC : C0 G "AccusedChoose" b_AC_firstNotSo 5 2) {t1 : Nat} (h1 : isMO t1) (v2 : Int32) (s : St) : VO G (RI G b_AC_firstNotSo) (F_AC_firstNotSo_2 t1 v2 s) 2 [(0, .ref (gad G 0)), (1, .ref (gad G t1)), (2, .int v2)] [] s := by
  exact VO_fix (G_AC_firstNotSo_2 t1) 2 (fun q => [(0, .ref (gad G 0)), (1, .ref (gad G t1)), (2, .int q.1)]) (fun q => q.2) (fun K hK q => BH_AC_firstNotSo_2 hC h1 K (fun w2 s => hK (w2, s)) q.1 q.2) FUEL (v2, s)
set_option maxRecDepth 20000 in
theorem B_AC_firstNotSo {G : MCx} (hC : C0 G "AccusedChoose" b_AC_firstNotSo 5 2) {t1 : Nat} (h1 : isMO t1) (s : St) : VO G (RI G b_AC_firstNotSo) (F_AC_firstNotSo t1 s) 0 [(0, .ref (gad G 0)), (1, .ref (gad G t1))] [] s := by
  unfold F_AC_firstNotSo
  refine VO_const hC d_AC_firstNotSo_0 ?_
  refine VO_istore hC d_AC_firstNotSo_1 [(0, .ref (gad G 0)), (1, .ref (gad G t1))] rfl (by decide) ?_
  exact VO_sub [1, 2, 0] rfl (B_AC_firstNotSo_2 hC h1 (0 : Int32) s)
set_option maxRecDepth 20000 in
theorem M_AC_firstNotSo {l : Launch} {D : va_G} {ad : Nat → Nat} {cI cL : ClassId} (hj : Inj ad) {t1 : Nat} (h1 : isMO t1) {s : St} {o : Int32 × St} (h : F_AC_firstNotSo t1 s = some o) : Cn l D ad cI cL y_AC_firstNotSo b_AC_firstNotSo 5 (some .int) 2 [.ref (ad 0), .ref (ad t1)] s (some (.int o.1)) o.2 := by
  refine Cn_ofI hj (plainFor_of_name (by decide)) (Nat.le_of_ble_eq_true rfl) [(0, .ref (ad 0)), (1, .ref (ad t1))] rfl (fun G hC e1 e2 e3 e4 e5 hR => ?_)
  subst e1; subst e2; subst e3; subst e4; subst e5
  exact B_AC_firstNotSo hC h1 s o h hR
theorem d_AC_judge_0 : PLa b_AC_judge 0 0 1 := Or.inl ⟨0, by decide +kernel, rfl, rfl⟩
theorem d_AC_judge_1 : DR b_AC_judge 1 (.invokevirtual 201) 3 4 := ⟨by decide +kernel, rfl⟩
theorem d_AC_judge_4 : PLa b_AC_judge 4 0 5 := Or.inl ⟨0, by decide +kernel, rfl, rfl⟩
theorem d_AC_judge_5 : PLa b_AC_judge 5 0 6 := Or.inl ⟨0, by decide +kernel, rfl, rfl⟩
theorem d_AC_judge_6 : DR b_AC_judge 6 (.getfield 49) 3 9 := ⟨by decide +kernel, rfl⟩
theorem d_AC_judge_9 : DR b_AC_judge 9 (.invokevirtual 347) 3 12 := ⟨by decide +kernel, rfl⟩
theorem d_AC_judge_12 : PSi b_AC_judge 12 1 13 := Or.inl ⟨1, by decide +kernel, rfl, rfl⟩
theorem d_AC_judge_13 : PLa b_AC_judge 13 0 14 := Or.inl ⟨0, by decide +kernel, rfl, rfl⟩
theorem d_AC_judge_14 : PCi b_AC_judge 14 0 15 := Or.inl ⟨0, by decide +kernel, by decide, rfl⟩
theorem d_AC_judge_15 : DR b_AC_judge 15 (.putfield 344) 3 18 := ⟨by decide +kernel, rfl⟩
theorem d_AC_judge_18 : PLi b_AC_judge 18 1 19 := Or.inl ⟨1, by decide +kernel, rfl, rfl⟩
theorem d_AC_judge_19 : DR b_AC_judge 19 (.ireturn) 1 20 := ⟨by decide +kernel, rfl⟩
set_option maxRecDepth 20000 in
theorem B_AC_judge {G : MCx} (hC : C0 G "AccusedChoose" b_AC_judge 2 6) (s : St) : VO G (RI G b_AC_judge) (F_AC_judge s) 0 [(0, .ref (gad G 0))] [] s := by
  unfold F_AC_judge
  refine VO_aload hC d_AC_judge_0 0 rfl ?_
  refine VO_callVV hC [] [] ml_AC_201 d_AC_judge_1 yv_AC_holdToday sh_AC rfl rfl (fun o h => M_AC_holdToday hC.inj h) (by decide) rfl rfl (Nat.le_of_ble_eq_true rfl) (fun s1 => ?_)
  refine VO_aload hC d_AC_judge_4 0 rfl ?_
  refine VO_aload hC d_AC_judge_5 0 rfl ?_
  refine VO_getr (r := 40) hC fl_AC_49 sh_AC rfl d_AC_judge_6 ?_
  refine VO_callVI hC [.ref (gad G 40)] [] ml_AC_347 d_AC_judge_9 yv_AC_firstNotSo sh_AC rfl rfl (fun o h => M_AC_firstNotSo hC.inj isMO_40 h) (by decide) rfl rfl (Nat.le_of_ble_eq_true rfl) (fun o2 => ?_)
  refine VO_istore hC d_AC_judge_12 [(0, .ref (gad G 0))] rfl (by decide) ?_
  refine VO_aload hC d_AC_judge_13 1 rfl ?_
  refine VO_const hC d_AC_judge_14 ?_
  refine VO_puti hC fw_AC_344 sh_AC rfl d_AC_judge_15 (fun s3 => ?_)
  refine VO_iload hC d_AC_judge_18 0 rfl ?_
  exact VO_ireturn d_AC_judge_19
set_option maxRecDepth 20000 in
theorem M_AC_judge {l : Launch} {D : va_G} {ad : Nat → Nat} {cI cL : ClassId} (hj : Inj ad) {s : St} {o : Int32 × St} (h : F_AC_judge s = some o) : Cn l D ad cI cL y_AC_judge b_AC_judge 2 (some .int) 6 [.ref (ad 0)] s (some (.int o.1)) o.2 := by
  refine Cn_ofI hj (plainFor_of_name (by decide)) (Nat.le_of_ble_eq_true rfl) [(0, .ref (ad 0))] rfl (fun G hC e1 e2 e3 e4 e5 hR => ?_)
  subst e1; subst e2; subst e3; subst e4; subst e5
  exact B_AC_judge hC s o h hR
theorem d_AC_fits_0 : PLa b_AC_fits 0 0 1 := Or.inl ⟨0, by decide +kernel, rfl, rfl⟩
theorem d_AC_fits_1 : DR b_AC_fits 1 (.getfield 10) 3 4 := ⟨by decide +kernel, rfl⟩
theorem d_AC_fits_4 : DR b_AC_fits 4 (.getfield 164) 3 7 := ⟨by decide +kernel, rfl⟩
theorem d_AC_fits_7 : PCi b_AC_fits 7 5 8 := Or.inl ⟨5, by decide +kernel, by decide, rfl⟩
theorem d_AC_fits_8 : DJ b_AC_fits 8 (.if_icmp .le) 11 18 := ⟨10, by decide +kernel, rfl, by decide⟩
theorem d_AC_fits_11 : PLa b_AC_fits 11 0 12 := Or.inl ⟨0, by decide +kernel, rfl, rfl⟩
theorem d_AC_fits_12 : PCi b_AC_fits 12 (-3) 14 := Or.inr (Or.inl ⟨(-3), by decide +kernel, by decide, rfl⟩)
theorem d_AC_fits_14 : DR b_AC_fits 14 (.invokevirtual 90) 3 17 := ⟨by decide +kernel, rfl⟩
theorem d_AC_fits_17 : DR b_AC_fits 17 (.ireturn) 1 18 := ⟨by decide +kernel, rfl⟩
theorem d_AC_fits_18 : PLi b_AC_fits 18 1 19 := Or.inl ⟨1, by decide +kernel, rfl, rfl⟩
theorem d_AC_fits_19 : PCi b_AC_fits 19 (-1) 20 := Or.inl ⟨(-1), by decide +kernel, by decide, rfl⟩
theorem d_AC_fits_20 : DJ b_AC_fits 20 (.if_icmp .ge) 23 30 := ⟨10, by decide +kernel, rfl, by decide⟩
theorem d_AC_fits_23 : PLa b_AC_fits 23 0 24 := Or.inl ⟨0, by decide +kernel, rfl, rfl⟩
theorem d_AC_fits_24 : PCi b_AC_fits 24 (-4) 26 := Or.inr (Or.inl ⟨(-4), by decide +kernel, by decide, rfl⟩)
theorem d_AC_fits_26 : DR b_AC_fits 26 (.invokevirtual 90) 3 29 := ⟨by decide +kernel, rfl⟩
theorem d_AC_fits_29 : DR b_AC_fits 29 (.ireturn) 1 30 := ⟨by decide +kernel, rfl⟩
theorem d_AC_fits_30 : PCi b_AC_fits 30 0 31 := Or.inl ⟨0, by decide +kernel, by decide, rfl⟩
theorem d_AC_fits_31 : PSi b_AC_fits 31 2 32 := Or.inl ⟨2, by decide +kernel, rfl, rfl⟩
theorem d_AC_fits_32 : PLa b_AC_fits 32 0 33 := Or.inl ⟨0, by decide +kernel, rfl, rfl⟩
theorem d_AC_fits_33 : DR b_AC_fits 33 (.getfield 39) 3 36 := ⟨by decide +kernel, rfl⟩
theorem d_AC_fits_36 : PLa b_AC_fits 36 0 37 := Or.inl ⟨0, by decide +kernel, rfl, rfl⟩
theorem d_AC_fits_37 : DR b_AC_fits 37 (.getfield 10) 3 40 := ⟨by decide +kernel, rfl⟩
theorem d_AC_fits_40 : DR b_AC_fits 40 (.invokevirtual 219) 3 43 := ⟨by decide +kernel, rfl⟩
theorem d_AC_fits_43 : PLa b_AC_fits 43 0 44 := Or.inl ⟨0, by decide +kernel, rfl, rfl⟩
theorem d_AC_fits_44 : DR b_AC_fits 44 (.getfield 73) 3 47 := ⟨by decide +kernel, rfl⟩
theorem d_AC_fits_47 : PLa b_AC_fits 47 0 48 := Or.inl ⟨0, by decide +kernel, rfl, rfl⟩
theorem d_AC_fits_48 : DR b_AC_fits 48 (.getfield 10) 3 51 := ⟨by decide +kernel, rfl⟩
theorem d_AC_fits_51 : DR b_AC_fits 51 (.getfield 164) 3 54 := ⟨by decide +kernel, rfl⟩
theorem d_AC_fits_54 : DR b_AC_fits 54 (.invokevirtual 350) 3 57 := ⟨by decide +kernel, rfl⟩
theorem d_AC_fits_57 : PCi b_AC_fits 57 0 58 := Or.inl ⟨0, by decide +kernel, by decide, rfl⟩
theorem d_AC_fits_58 : PSi b_AC_fits 58 3 59 := Or.inl ⟨3, by decide +kernel, rfl, rfl⟩
theorem d_AC_fits_59 : PLi b_AC_fits 59 3 60 := Or.inl ⟨3, by decide +kernel, rfl, rfl⟩
theorem d_AC_fits_60 : PCi b_AC_fits 60 120 62 := Or.inr (Or.inl ⟨120, by decide +kernel, by decide, rfl⟩)
theorem d_AC_fits_62 : DJ b_AC_fits 62 (.if_icmp .ge) 65 136 := ⟨74, by decide +kernel, rfl, by decide⟩
theorem d_AC_fits_65 : PLa b_AC_fits 65 0 66 := Or.inl ⟨0, by decide +kernel, rfl, rfl⟩
theorem d_AC_fits_66 : DR b_AC_fits 66 (.getfield 53) 3 69 := ⟨by decide +kernel, rfl⟩
theorem d_AC_fits_69 : PLa b_AC_fits 69 0 70 := Or.inl ⟨0, by decide +kernel, rfl, rfl⟩
theorem d_AC_fits_70 : DR b_AC_fits 70 (.getfield 39) 3 73 := ⟨by decide +kernel, rfl⟩
theorem d_AC_fits_73 : PLa b_AC_fits 73 0 74 := Or.inl ⟨0, by decide +kernel, rfl, rfl⟩
theorem d_AC_fits_74 : DR b_AC_fits 74 (.getfield 73) 3 77 := ⟨by decide +kernel, rfl⟩
theorem d_AC_fits_77 : DR b_AC_fits 77 (.getfield 353) 3 80 := ⟨by decide +kernel, rfl⟩
theorem d_AC_fits_80 : PLa b_AC_fits 80 0 81 := Or.inl ⟨0, by decide +kernel, rfl, rfl⟩
theorem d_AC_fits_81 : DR b_AC_fits 81 (.getfield 10) 3 84 := ⟨by decide +kernel, rfl⟩
theorem d_AC_fits_84 : DR b_AC_fits 84 (.invokevirtual 302) 3 87 := ⟨by decide +kernel, rfl⟩
theorem d_AC_fits_87 : DR b_AC_fits 87 (.invokevirtual 305) 3 90 := ⟨by decide +kernel, rfl⟩
theorem d_AC_fits_90 : PLa b_AC_fits 90 0 91 := Or.inl ⟨0, by decide +kernel, rfl, rfl⟩
theorem d_AC_fits_91 : PLa b_AC_fits 91 0 92 := Or.inl ⟨0, by decide +kernel, rfl, rfl⟩
theorem d_AC_fits_92 : DR b_AC_fits 92 (.getfield 53) 3 95 := ⟨by decide +kernel, rfl⟩
theorem d_AC_fits_95 : DR b_AC_fits 95 (.invokevirtual 347) 3 98 := ⟨by decide +kernel, rfl⟩
theorem d_AC_fits_98 : PCi b_AC_fits 98 (-9) 100 := Or.inr (Or.inl ⟨(-9), by decide +kernel, by decide, rfl⟩)
theorem d_AC_fits_100 : DJ b_AC_fits 100 (.if_icmp .ne) 103 117 := ⟨17, by decide +kernel, rfl, by decide⟩
theorem d_AC_fits_103 : PLi b_AC_fits 103 2 104 := Or.inl ⟨2, by decide +kernel, rfl, rfl⟩
theorem d_AC_fits_104 : DJ b_AC_fits 104 (.ifCond .ne) 107 114 := ⟨10, by decide +kernel, rfl, by decide⟩
theorem d_AC_fits_107 : PLa b_AC_fits 107 0 108 := Or.inl ⟨0, by decide +kernel, rfl, rfl⟩
theorem d_AC_fits_108 : DR b_AC_fits 108 (.getfield 73) 3 111 := ⟨by decide +kernel, rfl⟩
theorem d_AC_fits_111 : DR b_AC_fits 111 (.invokevirtual 354) 3 114 := ⟨by decide +kernel, rfl⟩
theorem d_AC_fits_114 : DR b_AC_fits 114 (.iinc 2 1) 3 117 := ⟨by decide +kernel, rfl⟩
theorem d_AC_fits_117 : PLa b_AC_fits 117 0 118 := Or.inl ⟨0, by decide +kernel, rfl, rfl⟩
theorem d_AC_fits_118 : DR b_AC_fits 118 (.getfield 73) 3 121 := ⟨by decide +kernel, rfl⟩
theorem d_AC_fits_121 : DR b_AC_fits 121 (.invokevirtual 357) 3 124 := ⟨by decide +kernel, rfl⟩
theorem d_AC_fits_124 : DJ b_AC_fits 124 (.ifCond .ne) 127 130 := ⟨6, by decide +kernel, rfl, by decide⟩
theorem d_AC_fits_127 : DJ b_AC_fits 127 .goto 130 136 := ⟨9, by decide +kernel, rfl, by decide⟩
theorem d_AC_fits_130 : DR b_AC_fits 130 (.iinc 3 1) 3 133 := ⟨by decide +kernel, rfl⟩
theorem d_AC_fits_133 : DJ b_AC_fits 133 .goto 136 59 := ⟨-74, by decide +kernel, rfl, by decide⟩
theorem d_AC_fits_136 : PLi b_AC_fits 136 1 137 := Or.inl ⟨1, by decide +kernel, rfl, rfl⟩
theorem d_AC_fits_137 : PCi b_AC_fits 137 (-1) 138 := Or.inl ⟨(-1), by decide +kernel, by decide, rfl⟩
theorem d_AC_fits_138 : DJ b_AC_fits 138 (.if_icmp .ne) 141 145 := ⟨7, by decide +kernel, rfl, by decide⟩
theorem d_AC_fits_141 : PLi b_AC_fits 141 2 142 := Or.inl ⟨2, by decide +kernel, rfl, rfl⟩
theorem d_AC_fits_142 : DJ b_AC_fits 142 .goto 145 153 := ⟨11, by decide +kernel, rfl, by decide⟩
theorem d_AC_fits_145 : PLa b_AC_fits 145 0 146 := Or.inl ⟨0, by decide +kernel, rfl, rfl⟩
theorem d_AC_fits_146 : DR b_AC_fits 146 (.getfield 73) 3 149 := ⟨by decide +kernel, rfl⟩
theorem d_AC_fits_149 : PLi b_AC_fits 149 1 150 := Or.inl ⟨1, by decide +kernel, rfl, rfl⟩
theorem d_AC_fits_150 : DR b_AC_fits 150 (.invokevirtual 360) 3 153 := ⟨by decide +kernel, rfl⟩
theorem d_AC_fits_153 : DR b_AC_fits 153 (.ireturn) 1 154 := ⟨by decide +kernel, rfl⟩
set_option maxRecDepth 20000 in
theorem B_AC_fits_136 {G : MCx} (hC : C0 G "AccusedChoose" b_AC_fits 4 5) (v1 : Int32) (v2 : Int32) (s : St) : VO G (RI G b_AC_fits) (F_AC_fits_136 v1 v2 s) 136 [(0, .ref (gad G 0)), (1, .int v1), (2, .int v2)] [] s := by
  unfold F_AC_fits_136
  refine VO_iload hC d_AC_fits_136 1 rfl ?_
  refine VO_const hC d_AC_fits_137 ?_
  refine VO_icmp_ne hC d_AC_fits_138 (fun _ => ?_) (fun _ => ?_)
  · refine VO_iload hC d_AC_fits_141 2 rfl ?_
    refine VO_goto hC d_AC_fits_142 ?_
    exact VO_ireturn d_AC_fits_153
  · refine VO_aload hC d_AC_fits_145 0 rfl ?_
    refine VO_getr (r := 51) hC fl_AC_73 sh_AC rfl d_AC_fits_146 ?_
    refine VO_iload hC d_AC_fits_149 1 rfl ?_
    refine VO_callVI hC [.int v1] [] ml_AC_360 d_AC_fits_150 yv_OR_keptAt sh_OR rfl rfl (fun o h => M_OR_keptAt hC.inj h) (by decide) rfl rfl (Nat.le_of_ble_eq_true rfl) (fun o3 => ?_)
    exact VO_ireturn d_AC_fits_153
set_option maxRecDepth 20000 in
theorem B_AC_fits_117 {G : MCx} (hC : C0 G "AccusedChoose" b_AC_fits 4 5) {v1 : Int32} (K59 : Int32 × Int32 × St → Option (Int32 × St)) (hK59 : ∀ (w2 : Int32) (w3 : Int32) (s : St), VO G (RI G b_AC_fits) (K59 (w2, w3, s)) 59 [(0, .ref (gad G 0)), (1, .int v1), (2, .int w2), (3, .int w3)] [] s) (v2 : Int32) (v3 : Int32) (s : St) : VO G (RI G b_AC_fits) (F_AC_fits_117 K59 v1 v2 v3 s) 117 [(0, .ref (gad G 0)), (1, .int v1), (2, .int v2), (3, .int v3)] [] s := by
  unfold F_AC_fits_117
  refine VO_aload hC d_AC_fits_117 0 rfl ?_
  refine VO_getr (r := 51) hC fl_AC_73 sh_AC rfl d_AC_fits_118 ?_
  refine VO_callVI hC [] [] ml_AC_357 d_AC_fits_121 yv_OR_step sh_OR rfl rfl (fun o h => M_OR_step hC.inj h) (by decide) rfl rfl (Nat.le_of_ble_eq_true rfl) (fun o7 => ?_)
  refine VO_if_ne hC d_AC_fits_124 (fun _ => ?_) (fun _ => ?_)
  · refine VO_goto hC d_AC_fits_127 ?_
    exact VO_sub [0, 1, 2] rfl (B_AC_fits_136 hC v1 v2 o7.2)
  · refine VO_iinc hC d_AC_fits_130 3 rfl (by decide : Int32.ofInt 1 = 1) [(0, .ref (gad G 0)), (1, .int v1), (2, .int v2)] rfl (by decide) ?_
    refine VO_goto hC d_AC_fits_133 ?_
    exact VO_sub [1, 2, 3, 0] rfl (hK59 v2 (v3 + 1) o7.2)
set_option maxRecDepth 20000 in
theorem B_AC_fits_114 {G : MCx} (hC : C0 G "AccusedChoose" b_AC_fits 4 5) {v1 : Int32} (K59 : Int32 × Int32 × St → Option (Int32 × St)) (hK59 : ∀ (w2 : Int32) (w3 : Int32) (s : St), VO G (RI G b_AC_fits) (K59 (w2, w3, s)) 59 [(0, .ref (gad G 0)), (1, .int v1), (2, .int w2), (3, .int w3)] [] s) (v2 : Int32) (v3 : Int32) (s : St) : VO G (RI G b_AC_fits) (F_AC_fits_114 K59 v1 v2 v3 s) 114 [(0, .ref (gad G 0)), (1, .int v1), (2, .int v2), (3, .int v3)] [] s := by
  unfold F_AC_fits_114
  refine VO_iinc hC d_AC_fits_114 2 rfl (by decide : Int32.ofInt 1 = 1) [(0, .ref (gad G 0)), (1, .int v1), (3, .int v3)] rfl (by decide) ?_
  exact VO_sub [1, 2, 0, 3] rfl (B_AC_fits_117 hC K59 hK59 (v2 + 1) v3 s)
set_option maxRecDepth 20000 in
theorem BH_AC_fits_59 {G : MCx} (hC : C0 G "AccusedChoose" b_AC_fits 4 5) {v1 : Int32} (K59 : Int32 × Int32 × St → Option (Int32 × St)) (hK59 : ∀ (w2 : Int32) (w3 : Int32) (s : St), VO G (RI G b_AC_fits) (K59 (w2, w3, s)) 59 [(0, .ref (gad G 0)), (1, .int v1), (2, .int w2), (3, .int w3)] [] s) (v2 : Int32) (v3 : Int32) (s : St) : VO G (RI G b_AC_fits) (H_AC_fits_59 v1 K59 v2 v3 s) 59 [(0, .ref (gad G 0)), (1, .int v1), (2, .int v2), (3, .int v3)] [] s := by
  unfold H_AC_fits_59
  refine VO_iload hC d_AC_fits_59 3 rfl ?_
  refine VO_const hC d_AC_fits_60 ?_
  refine VO_icmp_ge hC d_AC_fits_62 (fun _ => ?_) (fun _ => ?_)
  · exact VO_sub [0, 1, 2] rfl (B_AC_fits_136 hC v1 v2 s)
  · refine VO_aload hC d_AC_fits_65 0 rfl ?_
    refine VO_getr (r := 43) hC fl_AC_53 sh_AC rfl d_AC_fits_66 ?_
    refine VO_aload hC d_AC_fits_69 0 rfl ?_
    refine VO_getr (r := 36) hC fl_AC_39 sh_AC rfl d_AC_fits_70 ?_
    refine VO_aload hC d_AC_fits_73 0 rfl ?_
    refine VO_getr (r := 51) hC fl_AC_73 sh_AC rfl d_AC_fits_74 ?_
    refine VO_getr (r := 52) hC fl_AC_353 sh_OR rfl d_AC_fits_77 ?_
    refine VO_aload hC d_AC_fits_80 0 rfl ?_
    refine VO_getr (r := 1) hC fl_AC_10 sh_AC rfl d_AC_fits_81 ?_
    refine VO_callVI hC [] [.ref (gad G 52), .ref (gad G 36), .ref (gad G 43)] ml_AC_302 d_AC_fits_84 yv_NI_allDeeds (sh_NI isNI_1) rfl rfl (fun o h => M_NI_allDeeds hC.inj isNI_1 h) (by decide) rfl rfl (Nat.le_of_ble_eq_true rfl) (fun o4 => ?_)
    refine VO_callVV hC [.ref (gad G 36), .ref (gad G 52), .int o4.1] [] ml_AC_305 d_AC_fits_87 yv_MO_hold (sh_MO isMO_43) rfl rfl (fun o h => M_MO_hold hC.inj isMO_43 isPR_36 ia_52 h) (by decide) rfl rfl (Nat.le_of_ble_eq_true rfl) (fun s5 => ?_)
    refine VO_aload hC d_AC_fits_90 0 rfl ?_
    refine VO_aload hC d_AC_fits_91 0 rfl ?_
    refine VO_getr (r := 43) hC fl_AC_53 sh_AC rfl d_AC_fits_92 ?_
    refine VO_callVI hC [.ref (gad G 43)] [] ml_AC_347 d_AC_fits_95 yv_AC_firstNotSo sh_AC rfl rfl (fun o h => M_AC_firstNotSo hC.inj isMO_43 h) (by decide) rfl rfl (Nat.le_of_ble_eq_true rfl) (fun o6 => ?_)
    refine VO_const hC d_AC_fits_98 ?_
    refine VO_icmp_ne hC d_AC_fits_100 (fun _ => ?_) (fun _ => ?_)
    · refine VO_iload hC d_AC_fits_103 2 rfl ?_
      refine VO_if_ne hC d_AC_fits_104 (fun _ => ?_) (fun _ => ?_)
      · refine VO_aload hC d_AC_fits_107 0 rfl ?_
        refine VO_getr (r := 51) hC fl_AC_73 sh_AC rfl d_AC_fits_108 ?_
        refine VO_callVV hC [] [] ml_AC_354 d_AC_fits_111 yv_OR_keep sh_OR rfl rfl (fun o h => M_OR_keep hC.inj h) (by decide) rfl rfl (Nat.le_of_ble_eq_true rfl) (fun s8 => ?_)
        exact (B_AC_fits_114 hC K59 hK59 v2 v3 s8)
      · exact (B_AC_fits_114 hC K59 hK59 v2 v3 o6.2)
    · exact (B_AC_fits_117 hC K59 hK59 v2 v3 o6.2)
set_option maxRecDepth 20000 in
theorem B_AC_fits_59 {G : MCx} (hC : C0 G "AccusedChoose" b_AC_fits 4 5) (v1 : Int32) (v2 : Int32) (v3 : Int32) (s : St) : VO G (RI G b_AC_fits) (F_AC_fits_59 v1 v2 v3 s) 59 [(0, .ref (gad G 0)), (1, .int v1), (2, .int v2), (3, .int v3)] [] s := by
  exact VO_fix (G_AC_fits_59 v1) 59 (fun q => [(0, .ref (gad G 0)), (1, .int v1), (2, .int q.1), (3, .int q.2.1)]) (fun q => q.2.2) (fun K hK q => BH_AC_fits_59 hC K (fun w2 w3 s => hK (w2, w3, s)) q.1 q.2.1 q.2.2) FUEL (v2, v3, s)
set_option maxRecDepth 20000 in
theorem B_AC_fits {G : MCx} (hC : C0 G "AccusedChoose" b_AC_fits 4 5) (a1 : Int32) (s : St) : VO G (RI G b_AC_fits) (F_AC_fits a1 s) 0 [(0, .ref (gad G 0)), (1, .int a1)] [] s := by
  unfold F_AC_fits
  refine VO_aload hC d_AC_fits_0 0 rfl ?_
  refine VO_getr (r := 1) hC fl_AC_10 sh_AC rfl d_AC_fits_1 ?_
  refine VO_geti hC fl_AC_164 (sh_NI isNI_1) rfl d_AC_fits_4 ?_
  refine VO_const hC d_AC_fits_7 ?_
  refine VO_icmp_le hC d_AC_fits_8 (fun _ => ?_) (fun _ => ?_)
  · refine VO_iload hC d_AC_fits_18 1 rfl ?_
    refine VO_const hC d_AC_fits_19 ?_
    refine VO_icmp_ge hC d_AC_fits_20 (fun _ => ?_) (fun _ => ?_)
    · refine VO_const hC d_AC_fits_30 ?_
      refine VO_istore hC d_AC_fits_31 [(0, .ref (gad G 0)), (1, .int a1)] rfl (by decide) ?_
      refine VO_aload hC d_AC_fits_32 1 rfl ?_
      refine VO_getr (r := 36) hC fl_AC_39 sh_AC rfl d_AC_fits_33 ?_
      refine VO_aload hC d_AC_fits_36 1 rfl ?_
      refine VO_getr (r := 1) hC fl_AC_10 sh_AC rfl d_AC_fits_37 ?_
      refine VO_callVV hC [.ref (gad G 1)] [] ml_AC_219 d_AC_fits_40 yv_PR_fill (sh_PR isPR_36) rfl rfl (fun o h => M_PR_fill hC.inj isPR_36 isNI_1 h) (by decide) rfl rfl (Nat.le_of_ble_eq_true rfl) (fun s1 => ?_)
      refine VO_aload hC d_AC_fits_43 1 rfl ?_
      refine VO_getr (r := 51) hC fl_AC_73 sh_AC rfl d_AC_fits_44 ?_
      refine VO_aload hC d_AC_fits_47 1 rfl ?_
      refine VO_getr (r := 1) hC fl_AC_10 sh_AC rfl d_AC_fits_48 ?_
      refine VO_geti hC fl_AC_164 (sh_NI isNI_1) rfl d_AC_fits_51 ?_
      refine VO_callVV hC [.int (rd s1 1 1)] [] ml_AC_350 d_AC_fits_54 yv_OR_begin sh_OR rfl rfl (fun o h => M_OR_begin hC.inj h) (by decide) rfl rfl (Nat.le_of_ble_eq_true rfl) (fun s2 => ?_)
      refine VO_const hC d_AC_fits_57 ?_
      refine VO_istore hC d_AC_fits_58 [(2, .int (0 : Int32)), (0, .ref (gad G 0)), (1, .int a1)] rfl (by decide) ?_
      exact VO_sub [2, 3, 1, 0] rfl (B_AC_fits_59 hC a1 (0 : Int32) (0 : Int32) s2)
    · refine VO_aload hC d_AC_fits_23 0 rfl ?_
      refine VO_const hC d_AC_fits_24 ?_
      refine VO_callVI hC [.int (-4 : Int32)] [] ml_AC_90 d_AC_fits_26 yv_AC_refuse sh_AC rfl rfl (fun o h => M_AC_refuse hC.inj h) (by decide) rfl rfl (Nat.le_of_ble_eq_true rfl) (fun o9 => ?_)
      exact VO_ireturn d_AC_fits_29
  · refine VO_aload hC d_AC_fits_11 0 rfl ?_
    refine VO_const hC d_AC_fits_12 ?_
    refine VO_callVI hC [.int (-3 : Int32)] [] ml_AC_90 d_AC_fits_14 yv_AC_refuse sh_AC rfl rfl (fun o h => M_AC_refuse hC.inj h) (by decide) rfl rfl (Nat.le_of_ble_eq_true rfl) (fun o10 => ?_)
    exact VO_ireturn d_AC_fits_17
set_option maxRecDepth 20000 in
theorem M_AC_fits {l : Launch} {D : va_G} {ad : Nat → Nat} {cI cL : ClassId} (hj : Inj ad) {a1 : Int32} {s : St} {o : Int32 × St} (h : F_AC_fits a1 s = some o) : Cn l D ad cI cL y_AC_fits b_AC_fits 4 (some .int) 5 [.ref (ad 0), .int a1] s (some (.int o.1)) o.2 := by
  refine Cn_ofI hj (plainFor_of_name (by decide)) (Nat.le_of_ble_eq_true rfl) [(0, .ref (ad 0)), (1, .int a1)] rfl (fun G hC e1 e2 e3 e4 e5 hR => ?_)
  subst e1; subst e2; subst e3; subst e4; subst e5
  exact B_AC_fits hC a1 s o h hR
