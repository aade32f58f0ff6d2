theorem d_NI_canHaveDone_0 : PLa b_NI_canHaveDone 0 0 1 := Or.inl ⟨0, by decide +kernel, rfl, rfl⟩
theorem d_NI_canHaveDone_1 : DR b_NI_canHaveDone 1 (.getfield 24) 3 4 := ⟨by decide +kernel, rfl⟩
theorem d_NI_canHaveDone_4 : PLi b_NI_canHaveDone 4 1 5 := Or.inl ⟨1, by decide +kernel, rfl, rfl⟩
theorem d_NI_canHaveDone_5 : DR b_NI_canHaveDone 5 (.invokestatic 65) 3 8 := ⟨by decide +kernel, rfl⟩
theorem d_NI_canHaveDone_8 : PSi b_NI_canHaveDone 8 3 9 := Or.inl ⟨3, by decide +kernel, rfl, rfl⟩
theorem d_NI_canHaveDone_9 : PLa b_NI_canHaveDone 9 0 10 := Or.inl ⟨0, by decide +kernel, rfl, rfl⟩
theorem d_NI_canHaveDone_10 : PLi b_NI_canHaveDone 10 1 11 := Or.inl ⟨1, by decide +kernel, rfl, rfl⟩
theorem d_NI_canHaveDone_11 : PLi b_NI_canHaveDone 11 2 12 := Or.inl ⟨2, by decide +kernel, rfl, rfl⟩
theorem d_NI_canHaveDone_12 : DR b_NI_canHaveDone 12 (.invokevirtual 80) 3 15 := ⟨by decide +kernel, rfl⟩
theorem d_NI_canHaveDone_15 : DJ b_NI_canHaveDone 15 (.ifCond .eq) 18 41 := ⟨26, by decide +kernel, rfl, by decide⟩
theorem d_NI_canHaveDone_18 : PLi b_NI_canHaveDone 18 3 19 := Or.inl ⟨3, by decide +kernel, rfl, rfl⟩
theorem d_NI_canHaveDone_19 : PCi b_NI_canHaveDone 19 7 21 := Or.inr (Or.inl ⟨7, by decide +kernel, by decide, rfl⟩)
theorem d_NI_canHaveDone_21 : DJ b_NI_canHaveDone 21 (.if_icmp .eq) 24 41 := ⟨20, by decide +kernel, rfl, by decide⟩
theorem d_NI_canHaveDone_24 : PLa b_NI_canHaveDone 24 0 25 := Or.inl ⟨0, by decide +kernel, rfl, rfl⟩
theorem d_NI_canHaveDone_25 : PLi b_NI_canHaveDone 25 3 26 := Or.inl ⟨3, by decide +kernel, rfl, rfl⟩
theorem d_NI_canHaveDone_26 : DR b_NI_canHaveDone 26 (.invokevirtual 73) 3 29 := ⟨by decide +kernel, rfl⟩
theorem d_NI_canHaveDone_29 : DJ b_NI_canHaveDone 29 (.ifCond .eq) 32 37 := ⟨8, by decide +kernel, rfl, by decide⟩
theorem d_NI_canHaveDone_32 : PLi b_NI_canHaveDone 32 3 33 := Or.inl ⟨3, by decide +kernel, rfl, rfl⟩
theorem d_NI_canHaveDone_33 : PLi b_NI_canHaveDone 33 2 34 := Or.inl ⟨2, by decide +kernel, rfl, rfl⟩
theorem d_NI_canHaveDone_34 : DJ b_NI_canHaveDone 34 (.if_icmp .ne) 37 41 := ⟨7, by decide +kernel, rfl, by decide⟩
theorem d_NI_canHaveDone_37 : PCi b_NI_canHaveDone 37 1 38 := Or.inl ⟨1, by decide +kernel, by decide, rfl⟩
theorem d_NI_canHaveDone_38 : DJ b_NI_canHaveDone 38 .goto 41 42 := ⟨4, by decide +kernel, rfl, by decide⟩
theorem d_NI_canHaveDone_41 : PCi b_NI_canHaveDone 41 0 42 := Or.inl ⟨0, by decide +kernel, by decide, rfl⟩
theorem d_NI_canHaveDone_42 : DR b_NI_canHaveDone 42 (.ireturn) 1 43 := ⟨by decide +kernel, rfl⟩
set_option maxRecDepth 20000 in
theorem B_NI_canHaveDone_41 {G : MCx} (hC : C0 G "AccusedChoose$Night" b_NI_canHaveDone 4 4) {t0 : Nat} (h0 : isNI t0) (s : St) : VO G (RZ G b_NI_canHaveDone) (F_NI_canHaveDone_41 t0 s) 41 [] [] s := by
  unfold F_NI_canHaveDone_41
  refine VO_const hC d_NI_canHaveDone_41 ?_
  exact VO_z0 d_NI_canHaveDone_42
set_option maxRecDepth 20000 in
theorem B_NI_canHaveDone_37 {G : MCx} (hC : C0 G "AccusedChoose$Night" b_NI_canHaveDone 4 4) {t0 : Nat} (h0 : isNI t0) (s : St) : VO G (RZ G b_NI_canHaveDone) (F_NI_canHaveDone_37 t0 s) 37 [] [] s := by
  unfold F_NI_canHaveDone_37
  refine VO_const hC d_NI_canHaveDone_37 ?_
  refine VO_goto hC d_NI_canHaveDone_38 ?_
  exact VO_z1 d_NI_canHaveDone_42
set_option maxRecDepth 20000 in
theorem B_NI_canHaveDone {G : MCx} (hC : C0 G "AccusedChoose$Night" b_NI_canHaveDone 4 4) {t0 : Nat} (h0 : isNI t0) (a1 : Int32) (a2 : Int32) (s : St) : VO G (RZ G b_NI_canHaveDone) (F_NI_canHaveDone t0 a1 a2 s) 0 [(0, .ref (gad G t0)), (1, .int a1), (2, .int a2)] [] s := by
  unfold F_NI_canHaveDone
  refine VO_aload hC d_NI_canHaveDone_0 0 rfl ?_
  refine VO_getr (r := (t0 + 5)) hC fl_NI_24 (sh_NI h0) rfl d_NI_canHaveDone_1 ?_
  refine VO_iload hC d_NI_canHaveDone_4 1 rfl ?_
  refine VO_callNI hC [.ref (gad G (t0 + 5)), .int a1] [] nl_NI_65 d_NI_canHaveDone_5 ys_AC_at (fun o h => M_AC_at hC.inj (ia_NI5 h0) h) (by decide) rfl rfl (Nat.le_of_ble_eq_true rfl) (fun o1 => ?_)
  refine VO_istore hC d_NI_canHaveDone_8 [(0, .ref (gad G t0)), (1, .int a1), (2, .int a2)] rfl (by decide) ?_
  refine VO_aload hC d_NI_canHaveDone_9 1 rfl ?_
  refine VO_iload hC d_NI_canHaveDone_10 2 rfl ?_
  refine VO_iload hC d_NI_canHaveDone_11 3 rfl ?_
  refine VO_callVI hC [.int a1, .int a2] [] ml_NI_80 d_NI_canHaveDone_12 yv_NI_may (sh_NI h0) rfl rfl (fun o h => M_NI_may hC.inj h0 h) (by decide) rfl rfl (Nat.le_of_ble_eq_true rfl) (fun o2 => ?_)
  refine VO_if_eq hC d_NI_canHaveDone_15 (fun _ => ?_) (fun _ => ?_)
  · exact VO_sub [] rfl (B_NI_canHaveDone_41 hC h0 o2.2)
  · refine VO_iload hC d_NI_canHaveDone_18 0 rfl ?_
    refine VO_const hC d_NI_canHaveDone_19 ?_
    refine VO_icmp_eq hC d_NI_canHaveDone_21 (fun _ => ?_) (fun _ => ?_)
    · exact VO_sub [] rfl (B_NI_canHaveDone_41 hC h0 o2.2)
    · refine VO_aload hC d_NI_canHaveDone_24 1 rfl ?_
      refine VO_iload hC d_NI_canHaveDone_25 0 rfl ?_
      refine VO_callVI hC [.int o1.1] [] ml_NI_73 d_NI_canHaveDone_26 yv_NI_hasDeed (sh_NI h0) rfl rfl (fun o h => M_NI_hasDeed hC.inj h0 h) (by decide) rfl rfl (Nat.le_of_ble_eq_true rfl) (fun o3 => ?_)
      refine VO_if_eq hC d_NI_canHaveDone_29 (fun _ => ?_) (fun _ => ?_)
      · exact VO_sub [] rfl (B_NI_canHaveDone_37 hC h0 o3.2)
      · refine VO_iload hC d_NI_canHaveDone_32 0 rfl ?_
        refine VO_iload hC d_NI_canHaveDone_33 3 rfl ?_
        refine VO_icmp_ne hC d_NI_canHaveDone_34 (fun _ => ?_) (fun _ => ?_)
        · exact VO_sub [] rfl (B_NI_canHaveDone_37 hC h0 o3.2)
        · exact VO_sub [] rfl (B_NI_canHaveDone_41 hC h0 o3.2)
set_option maxRecDepth 20000 in
theorem M_NI_canHaveDone {l : Launch} {D : va_G} {ad : Nat → Nat} {cI cL : ClassId} (hj : Inj ad) {t0 : Nat} (h0 : isNI t0) {a1 : Int32} {a2 : Int32} {s : St} {o : Int32 × St} (h : F_NI_canHaveDone t0 a1 a2 s = some o) : Cn l D ad cI cL y_NI_canHaveDone b_NI_canHaveDone 4 (some .boolean) 4 [.ref (ad t0), .int a1, .int a2] s (some (.int o.1)) o.2 := by
  refine Cn_ofZ hj (plainFor_of_name (by decide)) (Nat.le_of_ble_eq_true rfl) [(0, .ref (ad t0)), (1, .int a1), (2, .int a2)] rfl (fun G hC e1 e2 e3 e4 e5 hR => ?_)
  subst e1; subst e2; subst e3; subst e4; subst e5
  exact B_NI_canHaveDone hC h0 a1 a2 s o h hR
theorem d_AC_monthsOfKind_0 : PCi b_AC_monthsOfKind 0 2 1 := Or.inl ⟨2, by decide +kernel, by decide, rfl⟩
theorem d_AC_monthsOfKind_1 : PLi b_AC_monthsOfKind 1 1 2 := Or.inl ⟨1, by decide +kernel, rfl, rfl⟩
theorem d_AC_monthsOfKind_2 : DR b_AC_monthsOfKind 2 (.imul) 1 3 := ⟨by decide +kernel, rfl⟩
theorem d_AC_monthsOfKind_3 : PCi b_AC_monthsOfKind 3 1 4 := Or.inl ⟨1, by decide +kernel, by decide, rfl⟩
theorem d_AC_monthsOfKind_4 : DR b_AC_monthsOfKind 4 (.iadd) 1 5 := ⟨by decide +kernel, rfl⟩
theorem d_AC_monthsOfKind_5 : PSi b_AC_monthsOfKind 5 3 6 := Or.inl ⟨3, by decide +kernel, rfl, rfl⟩
theorem d_AC_monthsOfKind_6 : PLi b_AC_monthsOfKind 6 3 7 := Or.inl ⟨3, by decide +kernel, rfl, rfl⟩
theorem d_AC_monthsOfKind_7 : PCi b_AC_monthsOfKind 7 3 8 := Or.inl ⟨3, by decide +kernel, by decide, rfl⟩
theorem d_AC_monthsOfKind_8 : DR b_AC_monthsOfKind 8 (.iadd) 1 9 := ⟨by decide +kernel, rfl⟩
theorem d_AC_monthsOfKind_9 : PLi b_AC_monthsOfKind 9 2 10 := Or.inl ⟨2, by decide +kernel, rfl, rfl⟩
theorem d_AC_monthsOfKind_10 : PCi b_AC_monthsOfKind 10 2 11 := Or.inl ⟨2, by decide +kernel, by decide, rfl⟩
theorem d_AC_monthsOfKind_11 : DR b_AC_monthsOfKind 11 (.idiv) 1 12 := ⟨by decide +kernel, rfl⟩
theorem d_AC_monthsOfKind_12 : DR b_AC_monthsOfKind 12 (.iadd) 1 13 := ⟨by decide +kernel, rfl⟩
theorem d_AC_monthsOfKind_13 : PSi b_AC_monthsOfKind 13 4 15 := Or.inr ⟨by decide +kernel, rfl⟩
theorem d_AC_monthsOfKind_15 : PLi b_AC_monthsOfKind 15 3 16 := Or.inl ⟨3, by decide +kernel, rfl, rfl⟩
theorem d_AC_monthsOfKind_16 : PCi b_AC_monthsOfKind 16 2 17 := Or.inl ⟨2, by decide +kernel, by decide, rfl⟩
theorem d_AC_monthsOfKind_17 : DR b_AC_monthsOfKind 17 (.idiv) 1 18 := ⟨by decide +kernel, rfl⟩
theorem d_AC_monthsOfKind_18 : PSi b_AC_monthsOfKind 18 5 20 := Or.inr ⟨by decide +kernel, rfl⟩
theorem d_AC_monthsOfKind_20 : PLi b_AC_monthsOfKind 20 0 21 := Or.inl ⟨0, by decide +kernel, rfl, rfl⟩
theorem d_AC_monthsOfKind_21 : decode b_AC_monthsOfKind 21 = .ok (.tableswitch 60 1 5 #[35, 38, 41, 46, 51], 35) := by decide +kernel
theorem d_AC_monthsOfKind_56 : PLi b_AC_monthsOfKind 56 4 58 := Or.inr ⟨by decide +kernel, rfl⟩
theorem d_AC_monthsOfKind_58 : DR b_AC_monthsOfKind 58 (.ireturn) 1 59 := ⟨by decide +kernel, rfl⟩
theorem d_AC_monthsOfKind_59 : PLi b_AC_monthsOfKind 59 5 61 := Or.inr ⟨by decide +kernel, rfl⟩
theorem d_AC_monthsOfKind_61 : DR b_AC_monthsOfKind 61 (.ireturn) 1 62 := ⟨by decide +kernel, rfl⟩
theorem d_AC_monthsOfKind_62 : PCi b_AC_monthsOfKind 62 3 63 := Or.inl ⟨3, by decide +kernel, by decide, rfl⟩
theorem d_AC_monthsOfKind_63 : PLi b_AC_monthsOfKind 63 4 65 := Or.inr ⟨by decide +kernel, rfl⟩
theorem d_AC_monthsOfKind_65 : DR b_AC_monthsOfKind 65 (.imul) 1 66 := ⟨by decide +kernel, rfl⟩
theorem d_AC_monthsOfKind_66 : DR b_AC_monthsOfKind 66 (.ireturn) 1 67 := ⟨by decide +kernel, rfl⟩
theorem d_AC_monthsOfKind_67 : PLi b_AC_monthsOfKind 67 5 69 := Or.inr ⟨by decide +kernel, rfl⟩
theorem d_AC_monthsOfKind_69 : PCi b_AC_monthsOfKind 69 1 70 := Or.inl ⟨1, by decide +kernel, by decide, rfl⟩
theorem d_AC_monthsOfKind_70 : DR b_AC_monthsOfKind 70 (.iadd) 1 71 := ⟨by decide +kernel, rfl⟩
theorem d_AC_monthsOfKind_71 : DR b_AC_monthsOfKind 71 (.ireturn) 1 72 := ⟨by decide +kernel, rfl⟩
theorem d_AC_monthsOfKind_72 : PCi b_AC_monthsOfKind 72 1 73 := Or.inl ⟨1, by decide +kernel, by decide, rfl⟩
theorem d_AC_monthsOfKind_73 : PLi b_AC_monthsOfKind 73 4 75 := Or.inr ⟨by decide +kernel, rfl⟩
theorem d_AC_monthsOfKind_75 : PLi b_AC_monthsOfKind 75 2 76 := Or.inl ⟨2, by decide +kernel, rfl, rfl⟩
theorem d_AC_monthsOfKind_76 : DR b_AC_monthsOfKind 76 (.isub) 1 77 := ⟨by decide +kernel, rfl⟩
theorem d_AC_monthsOfKind_77 : DR b_AC_monthsOfKind 77 (.invokestatic 334) 3 80 := ⟨by decide +kernel, rfl⟩
theorem d_AC_monthsOfKind_80 : DR b_AC_monthsOfKind 80 (.ireturn) 1 81 := ⟨by decide +kernel, rfl⟩
theorem d_AC_monthsOfKind_81 : PLi b_AC_monthsOfKind 81 3 82 := Or.inl ⟨3, by decide +kernel, rfl, rfl⟩
theorem d_AC_monthsOfKind_82 : DR b_AC_monthsOfKind 82 (.ireturn) 1 83 := ⟨by decide +kernel, rfl⟩
set_option maxRecDepth 20000 in
theorem B_AC_monthsOfKind {G : MCx} (hC : C0 G "AccusedChoose" b_AC_monthsOfKind 6 2) (a0 : Int32) (a1 : Int32) (a2 : Int32) (s : St) : VO G (RI G b_AC_monthsOfKind) (F_AC_monthsOfKind a0 a1 a2 s) 0 [(0, .int a0), (1, .int a1), (2, .int a2)] [] s := by
  unfold F_AC_monthsOfKind
  refine VO_const hC d_AC_monthsOfKind_0 ?_
  refine VO_iload hC d_AC_monthsOfKind_1 1 rfl ?_
  refine VO_imul hC d_AC_monthsOfKind_2 ?_
  refine VO_const hC d_AC_monthsOfKind_3 ?_
  refine VO_iadd hC d_AC_monthsOfKind_4 ?_
  refine VO_istoreB hC d_AC_monthsOfKind_5 [(0, .int a0), (1, .int a1), (2, .int a2)] rfl (by decide) (fun x1 => ?_)
  refine VO_iload hC d_AC_monthsOfKind_6 0 rfl ?_
  refine VO_const hC d_AC_monthsOfKind_7 ?_
  refine VO_iadd hC d_AC_monthsOfKind_8 ?_
  refine VO_iload hC d_AC_monthsOfKind_9 3 rfl ?_
  refine VO_const hC d_AC_monthsOfKind_10 ?_
  refine VO_idivC hC d_AC_monthsOfKind_11 (by decide) ?_
  refine VO_iadd hC d_AC_monthsOfKind_12 ?_
  refine VO_istoreB hC d_AC_monthsOfKind_13 [(3, .int x1), (0, .int a0), (1, .int a1), (2, .int a2)] rfl (by decide) (fun x2 => ?_)
  refine VO_iload hC d_AC_monthsOfKind_15 1 rfl ?_
  refine VO_const hC d_AC_monthsOfKind_16 ?_
  refine VO_idivC hC d_AC_monthsOfKind_17 (by decide) ?_
  refine VO_istoreB hC d_AC_monthsOfKind_18 [(4, .int x2), (3, .int x1), (0, .int a0), (1, .int a1), (2, .int a2)] rfl (by decide) (fun x3 => ?_)
  refine VO_iload hC d_AC_monthsOfKind_20 3 rfl ?_
  refine VO_ite (fun c21_0 => ?_) (fun c21_0 => ?_)
  · refine VO_tin (tgt := 56) (off := (35 : Int)) hC d_AC_monthsOfKind_21 (by rw [c21_0]; decide) (by rw [c21_0]; decide) (by first | (rw [c21_0]; done) | (rw [c21_0]; rfl)) (by decide) ?_
    refine VO_iload hC d_AC_monthsOfKind_56 1 rfl ?_
    exact VO_ireturn d_AC_monthsOfKind_58
  refine VO_ite (fun c21_1 => ?_) (fun c21_1 => ?_)
  · refine VO_tin (tgt := 59) (off := (38 : Int)) hC d_AC_monthsOfKind_21 (by rw [c21_1]; decide) (by rw [c21_1]; decide) (by first | (rw [c21_1]; done) | (rw [c21_1]; rfl)) (by decide) ?_
    refine VO_iload hC d_AC_monthsOfKind_59 0 rfl ?_
    exact VO_ireturn d_AC_monthsOfKind_61
  refine VO_ite (fun c21_2 => ?_) (fun c21_2 => ?_)
  · refine VO_tin (tgt := 62) (off := (41 : Int)) hC d_AC_monthsOfKind_21 (by rw [c21_2]; decide) (by rw [c21_2]; decide) (by first | (rw [c21_2]; done) | (rw [c21_2]; rfl)) (by decide) ?_
    refine VO_const hC d_AC_monthsOfKind_62 ?_
    refine VO_iload hC d_AC_monthsOfKind_63 1 rfl ?_
    refine VO_imul hC d_AC_monthsOfKind_65 ?_
    exact VO_ireturn d_AC_monthsOfKind_66
  refine VO_ite (fun c21_3 => ?_) (fun c21_3 => ?_)
  · refine VO_tin (tgt := 67) (off := (46 : Int)) hC d_AC_monthsOfKind_21 (by rw [c21_3]; decide) (by rw [c21_3]; decide) (by first | (rw [c21_3]; done) | (rw [c21_3]; rfl)) (by decide) ?_
    refine VO_iload hC d_AC_monthsOfKind_67 0 rfl ?_
    refine VO_const hC d_AC_monthsOfKind_69 ?_
    refine VO_iadd hC d_AC_monthsOfKind_70 ?_
    exact VO_ireturn d_AC_monthsOfKind_71
  refine VO_ite (fun c21_4 => ?_) (fun c21_4 => ?_)
  · refine VO_tin (tgt := 72) (off := (51 : Int)) hC d_AC_monthsOfKind_21 (by rw [c21_4]; decide) (by rw [c21_4]; decide) (by first | (rw [c21_4]; done) | (rw [c21_4]; rfl)) (by decide) ?_
    refine VO_const hC d_AC_monthsOfKind_72 ?_
    refine VO_iload hC d_AC_monthsOfKind_73 1 rfl ?_
    refine VO_iload hC d_AC_monthsOfKind_75 5 rfl ?_
    refine VO_isub hC d_AC_monthsOfKind_76 ?_
    refine VO_callSI hC [.int (1 : Int32), .int (x2 - a2)] [] ml_AC_334 d_AC_monthsOfKind_77 ys_MA_max (fun o h => M_MA_max hC.inj h) (by decide) rfl rfl (Nat.le_of_ble_eq_true rfl) (fun o4 => ?_)
    exact VO_ireturn d_AC_monthsOfKind_80
  refine VO_tout (tgt := 81) hC d_AC_monthsOfKind_21 (by have e0 := lv_neT (a := 1) c21_0 rfl; have e1 := lv_neT (a := 2) c21_1 rfl; have e2 := lv_neT (a := 3) c21_2 rfl; have e3 := lv_neT (a := 4) c21_3 rfl; have e4 := lv_neT (a := 5) c21_4 rfl; omega) (by decide) ?_
  refine VO_iload hC d_AC_monthsOfKind_81 2 rfl ?_
  exact VO_ireturn d_AC_monthsOfKind_82
set_option maxRecDepth 20000 in
theorem M_AC_monthsOfKind {l : Launch} {D : va_G} {ad : Nat → Nat} {cI cL : ClassId} (hj : Inj ad) {a0 : Int32} {a1 : Int32} {a2 : Int32} {s : St} {o : Int32 × St} (h : F_AC_monthsOfKind a0 a1 a2 s = some o) : Cn l D ad cI cL y_AC_monthsOfKind b_AC_monthsOfKind 6 (some .int) 2 [.int a0, .int a1, .int a2] s (some (.int o.1)) o.2 := by
  refine Cn_ofI hj (plainFor_of_name (by decide)) (Nat.le_of_ble_eq_true rfl) [(0, .int a0), (1, .int a1), (2, .int a2)] rfl (fun G hC e1 e2 e3 e4 e5 hR => ?_)
  subst e1; subst e2; subst e3; subst e4; subst e5
  exact B_AC_monthsOfKind hC a0 a1 a2 s o h hR
theorem d_NI_monthsFor_0 : PLa b_NI_monthsFor 0 0 1 := Or.inl ⟨0, by decide +kernel, rfl, rfl⟩
theorem d_NI_monthsFor_1 : PLi b_NI_monthsFor 1 2 2 := Or.inl ⟨2, by decide +kernel, rfl, rfl⟩
theorem d_NI_monthsFor_2 : DR b_NI_monthsFor 2 (.invokevirtual 73) 3 5 := ⟨by decide +kernel, rfl⟩
theorem d_NI_monthsFor_5 : DJ b_NI_monthsFor 5 (.ifCond .ne) 8 11 := ⟨6, by decide +kernel, rfl, by decide⟩
theorem d_NI_monthsFor_8 : PCi b_NI_monthsFor 8 60 10 := Or.inr (Or.inl ⟨60, by decide +kernel, by decide, rfl⟩)
theorem d_NI_monthsFor_10 : DR b_NI_monthsFor 10 (.ireturn) 1 11 := ⟨by decide +kernel, rfl⟩
theorem d_NI_monthsFor_11 : PLa b_NI_monthsFor 11 0 12 := Or.inl ⟨0, by decide +kernel, rfl, rfl⟩
theorem d_NI_monthsFor_12 : DR b_NI_monthsFor 12 (.getfield 9) 3 15 := ⟨by decide +kernel, rfl⟩
theorem d_NI_monthsFor_15 : PLi b_NI_monthsFor 15 2 16 := Or.inl ⟨2, by decide +kernel, rfl, rfl⟩
theorem d_NI_monthsFor_16 : DR b_NI_monthsFor 16 (.invokestatic 65) 3 19 := ⟨by decide +kernel, rfl⟩
theorem d_NI_monthsFor_19 : PLa b_NI_monthsFor 19 0 20 := Or.inl ⟨0, by decide +kernel, rfl, rfl⟩
theorem d_NI_monthsFor_20 : DR b_NI_monthsFor 20 (.getfield 15) 3 23 := ⟨by decide +kernel, rfl⟩
theorem d_NI_monthsFor_23 : PLi b_NI_monthsFor 23 2 24 := Or.inl ⟨2, by decide +kernel, rfl, rfl⟩
theorem d_NI_monthsFor_24 : DR b_NI_monthsFor 24 (.invokestatic 65) 3 27 := ⟨by decide +kernel, rfl⟩
theorem d_NI_monthsFor_27 : PLa b_NI_monthsFor 27 0 28 := Or.inl ⟨0, by decide +kernel, rfl, rfl⟩
theorem d_NI_monthsFor_28 : DR b_NI_monthsFor 28 (.getfield 18) 3 31 := ⟨by decide +kernel, rfl⟩
theorem d_NI_monthsFor_31 : PLi b_NI_monthsFor 31 1 32 := Or.inl ⟨1, by decide +kernel, rfl, rfl⟩
theorem d_NI_monthsFor_32 : DR b_NI_monthsFor 32 (.invokestatic 65) 3 35 := ⟨by decide +kernel, rfl⟩
theorem d_NI_monthsFor_35 : DR b_NI_monthsFor 35 (.invokestatic 83) 3 38 := ⟨by decide +kernel, rfl⟩
theorem d_NI_monthsFor_38 : PSi b_NI_monthsFor 38 3 39 := Or.inl ⟨3, by decide +kernel, rfl, rfl⟩
theorem d_NI_monthsFor_39 : PLi b_NI_monthsFor 39 2 40 := Or.inl ⟨2, by decide +kernel, rfl, rfl⟩
theorem d_NI_monthsFor_40 : PCi b_NI_monthsFor 40 7 42 := Or.inr (Or.inl ⟨7, by decide +kernel, by decide, rfl⟩)
theorem d_NI_monthsFor_42 : DJ b_NI_monthsFor 42 (.if_icmp .eq) 45 61 := ⟨19, by decide +kernel, rfl, by decide⟩
theorem d_NI_monthsFor_45 : PLa b_NI_monthsFor 45 0 46 := Or.inl ⟨0, by decide +kernel, rfl, rfl⟩
theorem d_NI_monthsFor_46 : DR b_NI_monthsFor 46 (.getfield 24) 3 49 := ⟨by decide +kernel, rfl⟩
theorem d_NI_monthsFor_49 : PLi b_NI_monthsFor 49 1 50 := Or.inl ⟨1, by decide +kernel, rfl, rfl⟩
theorem d_NI_monthsFor_50 : DR b_NI_monthsFor 50 (.invokestatic 65) 3 53 := ⟨by decide +kernel, rfl⟩
theorem d_NI_monthsFor_53 : PLi b_NI_monthsFor 53 2 54 := Or.inl ⟨2, by decide +kernel, rfl, rfl⟩
theorem d_NI_monthsFor_54 : DJ b_NI_monthsFor 54 (.if_icmp .ne) 57 61 := ⟨7, by decide +kernel, rfl, by decide⟩
theorem d_NI_monthsFor_57 : PCi b_NI_monthsFor 57 1 58 := Or.inl ⟨1, by decide +kernel, by decide, rfl⟩
theorem d_NI_monthsFor_58 : DJ b_NI_monthsFor 58 .goto 61 62 := ⟨4, by decide +kernel, rfl, by decide⟩
theorem d_NI_monthsFor_61 : PCi b_NI_monthsFor 61 0 62 := Or.inl ⟨0, by decide +kernel, by decide, rfl⟩
theorem d_NI_monthsFor_62 : PSi b_NI_monthsFor 62 4 64 := Or.inr ⟨by decide +kernel, rfl⟩
theorem d_NI_monthsFor_64 : PLi b_NI_monthsFor 64 4 66 := Or.inr ⟨by decide +kernel, rfl⟩
theorem d_NI_monthsFor_66 : DJ b_NI_monthsFor 66 (.ifCond .eq) 69 77 := ⟨11, by decide +kernel, rfl, by decide⟩
theorem d_NI_monthsFor_69 : PLi b_NI_monthsFor 69 3 70 := Or.inl ⟨3, by decide +kernel, rfl, rfl⟩
theorem d_NI_monthsFor_70 : PLi b_NI_monthsFor 70 3 71 := Or.inl ⟨3, by decide +kernel, rfl, rfl⟩
theorem d_NI_monthsFor_71 : PCi b_NI_monthsFor 71 3 72 := Or.inl ⟨3, by decide +kernel, by decide, rfl⟩
theorem d_NI_monthsFor_72 : DR b_NI_monthsFor 72 (.idiv) 1 73 := ⟨by decide +kernel, rfl⟩
theorem d_NI_monthsFor_73 : DR b_NI_monthsFor 73 (.isub) 1 74 := ⟨by decide +kernel, rfl⟩
theorem d_NI_monthsFor_74 : DJ b_NI_monthsFor 74 .goto 77 78 := ⟨4, by decide +kernel, rfl, by decide⟩
theorem d_NI_monthsFor_77 : PLi b_NI_monthsFor 77 3 78 := Or.inl ⟨3, by decide +kernel, rfl, rfl⟩
theorem d_NI_monthsFor_78 : DR b_NI_monthsFor 78 (.ireturn) 1 79 := ⟨by decide +kernel, rfl⟩
set_option maxRecDepth 20000 in
theorem B_NI_monthsFor_62 {G : MCx} (hC : C0 G "AccusedChoose$Night" b_NI_monthsFor 5 3) {t0 : Nat} (h0 : isNI t0) (v3 : Int32) (z0 : Int32) (s : St) : VO G (RI G b_NI_monthsFor) (F_NI_monthsFor_62 t0 v3 z0 s) 62 [(3, .int v3)] [.int z0] s := by
  unfold F_NI_monthsFor_62
  refine VO_istore hC d_NI_monthsFor_62 [(3, .int v3)] rfl (by decide) ?_
  refine VO_iload hC d_NI_monthsFor_64 0 rfl ?_
  refine VO_if_eq hC d_NI_monthsFor_66 (fun _ => ?_) (fun _ => ?_)
  · refine VO_iload hC d_NI_monthsFor_77 1 rfl ?_
    exact VO_ireturn d_NI_monthsFor_78
  · refine VO_iload hC d_NI_monthsFor_69 1 rfl ?_
    refine VO_iload hC d_NI_monthsFor_70 1 rfl ?_
    refine VO_const hC d_NI_monthsFor_71 ?_
    refine VO_idivC hC d_NI_monthsFor_72 (by decide) ?_
    refine VO_isub hC d_NI_monthsFor_73 ?_
    refine VO_goto hC d_NI_monthsFor_74 ?_
    exact VO_ireturn d_NI_monthsFor_78
set_option maxRecDepth 20000 in
theorem B_NI_monthsFor_61 {G : MCx} (hC : C0 G "AccusedChoose$Night" b_NI_monthsFor 5 3) {t0 : Nat} (h0 : isNI t0) (v3 : Int32) (s : St) : VO G (RI G b_NI_monthsFor) (F_NI_monthsFor_61 t0 v3 s) 61 [(3, .int v3)] [] s := by
  unfold F_NI_monthsFor_61
  refine VO_const hC d_NI_monthsFor_61 ?_
  exact (B_NI_monthsFor_62 hC h0 v3 (0 : Int32) s)
set_option maxRecDepth 20000 in
theorem B_NI_monthsFor {G : MCx} (hC : C0 G "AccusedChoose$Night" b_NI_monthsFor 5 3) {t0 : Nat} (h0 : isNI t0) (a1 : Int32) (a2 : Int32) (s : St) : VO G (RI G b_NI_monthsFor) (F_NI_monthsFor t0 a1 a2 s) 0 [(0, .ref (gad G t0)), (1, .int a1), (2, .int a2)] [] s := by
  unfold F_NI_monthsFor
  refine VO_aload hC d_NI_monthsFor_0 0 rfl ?_
  refine VO_iload hC d_NI_monthsFor_1 2 rfl ?_
  refine VO_callVI hC [.int a2] [] ml_NI_73 d_NI_monthsFor_2 yv_NI_hasDeed (sh_NI h0) rfl rfl (fun o h => M_NI_hasDeed hC.inj h0 h) (by decide) rfl rfl (Nat.le_of_ble_eq_true rfl) (fun o1 => ?_)
  refine VO_if_ne hC d_NI_monthsFor_5 (fun _ => ?_) (fun _ => ?_)
  · refine VO_const hC d_NI_monthsFor_8 ?_
    exact VO_ireturn d_NI_monthsFor_10
  · refine VO_aload hC d_NI_monthsFor_11 0 rfl ?_
    refine VO_getr (r := (t0 + 1)) hC fl_NI_9 (sh_NI h0) rfl d_NI_monthsFor_12 ?_
    refine VO_iload hC d_NI_monthsFor_15 2 rfl ?_
    refine VO_callNI hC [.ref (gad G (t0 + 1)), .int a2] [] nl_NI_65 d_NI_monthsFor_16 ys_AC_at (fun o h => M_AC_at hC.inj (ia_NI1 h0) h) (by decide) rfl rfl (Nat.le_of_ble_eq_true rfl) (fun o2 => ?_)
    refine VO_aload hC d_NI_monthsFor_19 0 rfl ?_
    refine VO_getr (r := (t0 + 2)) hC fl_NI_15 (sh_NI h0) rfl d_NI_monthsFor_20 ?_
    refine VO_iload hC d_NI_monthsFor_23 2 rfl ?_
    refine VO_callNI hC [.ref (gad G (t0 + 2)), .int a2] [.int o2.1] nl_NI_65 d_NI_monthsFor_24 ys_AC_at (fun o h => M_AC_at hC.inj (ia_NI2 h0) h) (by decide) rfl rfl (Nat.le_of_ble_eq_true rfl) (fun o3 => ?_)
    refine VO_aload hC d_NI_monthsFor_27 0 rfl ?_
    refine VO_getr (r := (t0 + 3)) hC fl_NI_18 (sh_NI h0) rfl d_NI_monthsFor_28 ?_
    refine VO_iload hC d_NI_monthsFor_31 1 rfl ?_
    refine VO_callNI hC [.ref (gad G (t0 + 3)), .int a1] [.int o3.1, .int o2.1] nl_NI_65 d_NI_monthsFor_32 ys_AC_at (fun o h => M_AC_at hC.inj (ia_NI3 h0) h) (by decide) rfl rfl (Nat.le_of_ble_eq_true rfl) (fun o4 => ?_)
    refine VO_callNI hC [.int o2.1, .int o3.1, .int o4.1] [] nl_NI_83 d_NI_monthsFor_35 ys_AC_monthsOfKind (fun o h => M_AC_monthsOfKind hC.inj h) (by decide) rfl rfl (Nat.le_of_ble_eq_true rfl) (fun o5 => ?_)
    refine VO_istore hC d_NI_monthsFor_38 [(0, .ref (gad G t0)), (1, .int a1), (2, .int a2)] rfl (by decide) ?_
    refine VO_iload hC d_NI_monthsFor_39 3 rfl ?_
    refine VO_const hC d_NI_monthsFor_40 ?_
    refine VO_icmp_eq hC d_NI_monthsFor_42 (fun _ => ?_) (fun _ => ?_)
    · exact VO_sub [0] rfl (B_NI_monthsFor_61 hC h0 o5.1 o5.2)
    · refine VO_aload hC d_NI_monthsFor_45 1 rfl ?_
      refine VO_getr (r := (t0 + 5)) hC fl_NI_24 (sh_NI h0) rfl d_NI_monthsFor_46 ?_
      refine VO_iload hC d_NI_monthsFor_49 2 rfl ?_
      refine VO_callNI hC [.ref (gad G (t0 + 5)), .int a1] [] nl_NI_65 d_NI_monthsFor_50 ys_AC_at (fun o h => M_AC_at hC.inj (ia_NI5 h0) h) (by decide) rfl rfl (Nat.le_of_ble_eq_true rfl) (fun o6 => ?_)
      refine VO_iload hC d_NI_monthsFor_53 3 rfl ?_
      refine VO_icmp_ne hC d_NI_monthsFor_54 (fun _ => ?_) (fun _ => ?_)
      · refine VO_const hC d_NI_monthsFor_57 ?_
        refine VO_goto hC d_NI_monthsFor_58 ?_
        exact VO_sub [0] rfl (B_NI_monthsFor_62 hC h0 o5.1 (1 : Int32) o6.2)
      · exact VO_sub [0] rfl (B_NI_monthsFor_61 hC h0 o5.1 o6.2)
set_option maxRecDepth 20000 in
theorem M_NI_monthsFor {l : Launch} {D : va_G} {ad : Nat → Nat} {cI cL : ClassId} (hj : Inj ad) {t0 : Nat} (h0 : isNI t0) {a1 : Int32} {a2 : Int32} {s : St} {o : Int32 × St} (h : F_NI_monthsFor t0 a1 a2 s = some o) : Cn l D ad cI cL y_NI_monthsFor b_NI_monthsFor 5 (some .int) 3 [.ref (ad t0), .int a1, .int a2] s (some (.int o.1)) o.2 := by
  refine Cn_ofI hj (plainFor_of_name (by decide)) (Nat.le_of_ble_eq_true rfl) [(0, .ref (ad t0)), (1, .int a1), (2, .int a2)] rfl (fun G hC e1 e2 e3 e4 e5 hR => ?_)
  subst e1; subst e2; subst e3; subst e4; subst e5
  exact B_NI_monthsFor hC h0 a1 a2 s o h hR
theorem d_NI_forgetLaterDids_0 : PCi b_NI_forgetLaterDids 0 0 1 := Or.inl ⟨0, by decide +kernel, by decide, rfl⟩
theorem d_NI_forgetLaterDids_1 : PSi b_NI_forgetLaterDids 1 1 2 := Or.inl ⟨1, by decide +kernel, rfl, rfl⟩
theorem d_NI_forgetLaterDids_2 : PLi b_NI_forgetLaterDids 2 1 3 := Or.inl ⟨1, by decide +kernel, rfl, rfl⟩
theorem d_NI_forgetLaterDids_3 : PLa b_NI_forgetLaterDids 3 0 4 := Or.inl ⟨0, by decide +kernel, rfl, rfl⟩
theorem d_NI_forgetLaterDids_4 : DR b_NI_forgetLaterDids 4 (.getfield 40) 3 7 := ⟨by decide +kernel, rfl⟩
theorem d_NI_forgetLaterDids_7 : DJ b_NI_forgetLaterDids 7 (.if_icmp .ge) 10 41 := ⟨34, by decide +kernel, rfl, by decide⟩
theorem d_NI_forgetLaterDids_10 : PLa b_NI_forgetLaterDids 10 0 11 := Or.inl ⟨0, by decide +kernel, rfl, rfl⟩
theorem d_NI_forgetLaterDids_11 : PLa b_NI_forgetLaterDids 11 0 12 := Or.inl ⟨0, by decide +kernel, rfl, rfl⟩
theorem d_NI_forgetLaterDids_12 : DR b_NI_forgetLaterDids 12 (.getfield 24) 3 15 := ⟨by decide +kernel, rfl⟩
theorem d_NI_forgetLaterDids_15 : PLi b_NI_forgetLaterDids 15 1 16 := Or.inl ⟨1, by decide +kernel, rfl, rfl⟩
theorem d_NI_forgetLaterDids_16 : DR b_NI_forgetLaterDids 16 (.invokestatic 65) 3 19 := ⟨by decide +kernel, rfl⟩
theorem d_NI_forgetLaterDids_19 : DR b_NI_forgetLaterDids 19 (.invokevirtual 73) 3 22 := ⟨by decide +kernel, rfl⟩
theorem d_NI_forgetLaterDids_22 : DJ b_NI_forgetLaterDids 22 (.ifCond .ne) 25 35 := ⟨13, by decide +kernel, rfl, by decide⟩
theorem d_NI_forgetLaterDids_25 : PLa b_NI_forgetLaterDids 25 0 26 := Or.inl ⟨0, by decide +kernel, rfl, rfl⟩
theorem d_NI_forgetLaterDids_26 : DR b_NI_forgetLaterDids 26 (.getfield 24) 3 29 := ⟨by decide +kernel, rfl⟩
theorem d_NI_forgetLaterDids_29 : PLi b_NI_forgetLaterDids 29 1 30 := Or.inl ⟨1, by decide +kernel, rfl, rfl⟩
theorem d_NI_forgetLaterDids_30 : PCi b_NI_forgetLaterDids 30 7 32 := Or.inr (Or.inl ⟨7, by decide +kernel, by decide, rfl⟩)
theorem d_NI_forgetLaterDids_32 : DR b_NI_forgetLaterDids 32 (.invokestatic 51) 3 35 := ⟨by decide +kernel, rfl⟩
theorem d_NI_forgetLaterDids_35 : DR b_NI_forgetLaterDids 35 (.iinc 1 1) 3 38 := ⟨by decide +kernel, rfl⟩
theorem d_NI_forgetLaterDids_38 : DJ b_NI_forgetLaterDids 38 .goto 41 2 := ⟨-36, by decide +kernel, rfl, by decide⟩
theorem d_NI_forgetLaterDids_41 : DR b_NI_forgetLaterDids 41 (.return_) 1 42 := ⟨by decide +kernel, rfl⟩
set_option maxRecDepth 20000 in
theorem B_NI_forgetLaterDids_35 {G : MCx} (hC : C0 G "AccusedChoose$Night" b_NI_forgetLaterDids 2 2) {t0 : Nat} (h0 : isNI t0) (K2 : Int32 × St → Option (St)) (hK2 : ∀ (w1 : Int32) (s : St), VO G (RV G b_NI_forgetLaterDids) (K2 (w1, s)) 2 [(0, .ref (gad G t0)), (1, .int w1)] [] s) (v1 : Int32) (s : St) : VO G (RV G b_NI_forgetLaterDids) (F_NI_forgetLaterDids_35 t0 K2 v1 s) 35 [(0, .ref (gad G t0)), (1, .int v1)] [] s := by
  unfold F_NI_forgetLaterDids_35
  refine VO_iinc hC d_NI_forgetLaterDids_35 1 rfl (by decide : Int32.ofInt 1 = 1) [(0, .ref (gad G t0))] rfl (by decide) ?_
  refine VO_goto hC d_NI_forgetLaterDids_38 ?_
  exact VO_sub [1, 0] rfl (hK2 (v1 + 1) s)
set_option maxRecDepth 20000 in
theorem BH_NI_forgetLaterDids_2 {G : MCx} (hC : C0 G "AccusedChoose$Night" b_NI_forgetLaterDids 2 2) {t0 : Nat} (h0 : isNI t0) (K2 : Int32 × St → Option (St)) (hK2 : ∀ (w1 : Int32) (s : St), VO G (RV G b_NI_forgetLaterDids) (K2 (w1, s)) 2 [(0, .ref (gad G t0)), (1, .int w1)] [] s) (v1 : Int32) (s : St) : VO G (RV G b_NI_forgetLaterDids) (H_NI_forgetLaterDids_2 t0 K2 v1 s) 2 [(0, .ref (gad G t0)), (1, .int v1)] [] s := by
  unfold H_NI_forgetLaterDids_2
  refine VO_iload hC d_NI_forgetLaterDids_2 1 rfl ?_
  refine VO_aload hC d_NI_forgetLaterDids_3 0 rfl ?_
  refine VO_geti hC fl_NI_40 (sh_NI h0) rfl d_NI_forgetLaterDids_4 ?_
  refine VO_icmp_ge hC d_NI_forgetLaterDids_7 (fun _ => ?_) (fun _ => ?_)
  · exact VO_return d_NI_forgetLaterDids_41
  · refine VO_aload hC d_NI_forgetLaterDids_10 0 rfl ?_
    refine VO_aload hC d_NI_forgetLaterDids_11 0 rfl ?_
    refine VO_getr (r := (t0 + 5)) hC fl_NI_24 (sh_NI h0) rfl d_NI_forgetLaterDids_12 ?_
    refine VO_iload hC d_NI_forgetLaterDids_15 1 rfl ?_
    refine VO_callNI hC [.ref (gad G (t0 + 5)), .int v1] [.ref (gad G t0)] nl_NI_65 d_NI_forgetLaterDids_16 ys_AC_at (fun o h => M_AC_at hC.inj (ia_NI5 h0) h) (by decide) rfl rfl (Nat.le_of_ble_eq_true rfl) (fun o1 => ?_)
    refine VO_callVI hC [.int o1.1] [] ml_NI_73 d_NI_forgetLaterDids_19 yv_NI_hasDeed (sh_NI h0) rfl rfl (fun o h => M_NI_hasDeed hC.inj h0 h) (by decide) rfl rfl (Nat.le_of_ble_eq_true rfl) (fun o2 => ?_)
    refine VO_if_ne hC d_NI_forgetLaterDids_22 (fun _ => ?_) (fun _ => ?_)
    · refine VO_aload hC d_NI_forgetLaterDids_25 0 rfl ?_
      refine VO_getr (r := (t0 + 5)) hC fl_NI_24 (sh_NI h0) rfl d_NI_forgetLaterDids_26 ?_
      refine VO_iload hC d_NI_forgetLaterDids_29 1 rfl ?_
      refine VO_const hC d_NI_forgetLaterDids_30 ?_
      refine VO_callNV hC [.ref (gad G (t0 + 5)), .int v1, .int (7 : Int32)] [] nl_NI_51 d_NI_forgetLaterDids_32 ys_AC_put (fun o h => M_AC_put hC.inj (ia_NI5 h0) h) (by decide) rfl rfl (Nat.le_of_ble_eq_true rfl) (fun s3 => ?_)
      exact (B_NI_forgetLaterDids_35 hC h0 K2 hK2 v1 s3)
    · exact (B_NI_forgetLaterDids_35 hC h0 K2 hK2 v1 o2.2)
set_option maxRecDepth 20000 in
theorem B_NI_forgetLaterDids_2 {G : MCx} (hC : C0 G "AccusedChoose$Night" b_NI_forgetLaterDids 2 2) {t0 : Nat} (h0 : isNI t0) (v1 : Int32) (s : St) : VO G (RV G b_NI_forgetLaterDids) (F_NI_forgetLaterDids_2 t0 v1 s) 2 [(0, .ref (gad G t0)), (1, .int v1)] [] s := by
  exact VO_fix (G_NI_forgetLaterDids_2 t0) 2 (fun q => [(0, .ref (gad G t0)), (1, .int q.1)]) (fun q => q.2) (fun K hK q => BH_NI_forgetLaterDids_2 hC h0 K (fun w1 s => hK (w1, s)) q.1 q.2) FUEL (v1, s)
set_option maxRecDepth 20000 in
theorem B_NI_forgetLaterDids {G : MCx} (hC : C0 G "AccusedChoose$Night" b_NI_forgetLaterDids 2 2) {t0 : Nat} (h0 : isNI t0) (s : St) : VO G (RV G b_NI_forgetLaterDids) (F_NI_forgetLaterDids t0 s) 0 [(0, .ref (gad G t0))] [] s := by
  unfold F_NI_forgetLaterDids
  refine VO_const hC d_NI_forgetLaterDids_0 ?_
  refine VO_istore hC d_NI_forgetLaterDids_1 [(0, .ref (gad G t0))] rfl (by decide) ?_
  exact VO_sub [1, 0] rfl (B_NI_forgetLaterDids_2 hC h0 (0 : Int32) s)
set_option maxRecDepth 20000 in
theorem M_NI_forgetLaterDids {l : Launch} {D : va_G} {ad : Nat → Nat} {cI cL : ClassId} (hj : Inj ad) {t0 : Nat} (h0 : isNI t0) {s : St} {o : St} (h : F_NI_forgetLaterDids t0 s = some o) : Cn l D ad cI cL y_NI_forgetLaterDids b_NI_forgetLaterDids 2 none 2 [.ref (ad t0)] s none o := by
  refine Cn_ofV hj (plainFor_of_name (by decide)) (Nat.le_of_ble_eq_true rfl) [(0, .ref (ad t0))] rfl (fun G hC e1 e2 e3 e4 e5 hR => ?_)
  subst e1; subst e2; subst e3; subst e4; subst e5
  exact B_NI_forgetLaterDids hC h0 s o h hR
theorem d_NI_allRecords_0 : PCi b_NI_allRecords 0 0 1 := Or.inl ⟨0, by decide +kernel, by decide, rfl⟩
theorem d_NI_allRecords_1 : PSi b_NI_allRecords 1 1 2 := Or.inl ⟨1, by decide +kernel, rfl, rfl⟩
theorem d_NI_allRecords_2 : PCi b_NI_allRecords 2 0 3 := Or.inl ⟨0, by decide +kernel, by decide, rfl⟩
theorem d_NI_allRecords_3 : PSi b_NI_allRecords 3 2 4 := Or.inl ⟨2, by decide +kernel, rfl, rfl⟩
theorem d_NI_allRecords_4 : PLi b_NI_allRecords 4 2 5 := Or.inl ⟨2, by decide +kernel, rfl, rfl⟩
theorem d_NI_allRecords_5 : PLa b_NI_allRecords 5 0 6 := Or.inl ⟨0, by decide +kernel, rfl, rfl⟩
theorem d_NI_allRecords_6 : DR b_NI_allRecords 6 (.getfield 40) 3 9 := ⟨by decide +kernel, rfl⟩
theorem d_NI_allRecords_9 : DJ b_NI_allRecords 9 (.if_icmp .ge) 12 29 := ⟨20, by decide +kernel, rfl, by decide⟩
theorem d_NI_allRecords_12 : PLi b_NI_allRecords 12 1 13 := Or.inl ⟨1, by decide +kernel, rfl, rfl⟩
theorem d_NI_allRecords_13 : PLa b_NI_allRecords 13 0 14 := Or.inl ⟨0, by decide +kernel, rfl, rfl⟩
theorem d_NI_allRecords_14 : DR b_NI_allRecords 14 (.getfield 18) 3 17 := ⟨by decide +kernel, rfl⟩
theorem d_NI_allRecords_17 : PLi b_NI_allRecords 17 2 18 := Or.inl ⟨2, by decide +kernel, rfl, rfl⟩
theorem d_NI_allRecords_18 : DR b_NI_allRecords 18 (.invokestatic 65) 3 21 := ⟨by decide +kernel, rfl⟩
theorem d_NI_allRecords_21 : DR b_NI_allRecords 21 (.iadd) 1 22 := ⟨by decide +kernel, rfl⟩
theorem d_NI_allRecords_22 : PSi b_NI_allRecords 22 1 23 := Or.inl ⟨1, by decide +kernel, rfl, rfl⟩
theorem d_NI_allRecords_23 : DR b_NI_allRecords 23 (.iinc 2 1) 3 26 := ⟨by decide +kernel, rfl⟩
theorem d_NI_allRecords_26 : DJ b_NI_allRecords 26 .goto 29 4 := ⟨-22, by decide +kernel, rfl, by decide⟩
theorem d_NI_allRecords_29 : PLi b_NI_allRecords 29 1 30 := Or.inl ⟨1, by decide +kernel, rfl, rfl⟩
theorem d_NI_allRecords_30 : DR b_NI_allRecords 30 (.ireturn) 1 31 := ⟨by decide +kernel, rfl⟩
set_option maxRecDepth 20000 in
theorem BH_NI_allRecords_4 {G : MCx} (hC : C0 G "AccusedChoose$Night" b_NI_allRecords 3 2) {t0 : Nat} (h0 : isNI t0) (K4 : Int32 × Int32 × St → Option (Int32 × St)) (hK4 : ∀ (w1 : Int32) (w2 : Int32) (s : St), VO G (RI G b_NI_allRecords) (K4 (w1, w2, s)) 4 [(0, .ref (gad G t0)), (1, .int w1), (2, .int w2)] [] s) (v1 : Int32) (v2 : Int32) (s : St) : VO G (RI G b_NI_allRecords) (H_NI_allRecords_4 t0 K4 v1 v2 s) 4 [(0, .ref (gad G t0)), (1, .int v1), (2, .int v2)] [] s := by
  unfold H_NI_allRecords_4
  refine VO_iload hC d_NI_allRecords_4 2 rfl ?_
  refine VO_aload hC d_NI_allRecords_5 0 rfl ?_
  refine VO_geti hC fl_NI_40 (sh_NI h0) rfl d_NI_allRecords_6 ?_
  refine VO_icmp_ge hC d_NI_allRecords_9 (fun _ => ?_) (fun _ => ?_)
  · refine VO_iload hC d_NI_allRecords_29 1 rfl ?_
    exact VO_ireturn d_NI_allRecords_30
  · refine VO_iload hC d_NI_allRecords_12 1 rfl ?_
    refine VO_aload hC d_NI_allRecords_13 0 rfl ?_
    refine VO_getr (r := (t0 + 3)) hC fl_NI_18 (sh_NI h0) rfl d_NI_allRecords_14 ?_
    refine VO_iload hC d_NI_allRecords_17 2 rfl ?_
    refine VO_callNI hC [.ref (gad G (t0 + 3)), .int v2] [.int v1] nl_NI_65 d_NI_allRecords_18 ys_AC_at (fun o h => M_AC_at hC.inj (ia_NI3 h0) h) (by decide) rfl rfl (Nat.le_of_ble_eq_true rfl) (fun o1 => ?_)
    refine VO_iadd hC d_NI_allRecords_21 ?_
    refine VO_istoreB hC d_NI_allRecords_22 [(0, .ref (gad G t0)), (2, .int v2)] rfl (by decide) (fun x2 => ?_)
    refine VO_iinc hC d_NI_allRecords_23 2 rfl (by decide : Int32.ofInt 1 = 1) [(1, .int x2), (0, .ref (gad G t0))] rfl (by decide) ?_
    refine VO_goto hC d_NI_allRecords_26 ?_
    exact VO_sub [2, 1, 0] rfl (hK4 x2 (v2 + 1) o1.2)
set_option maxRecDepth 20000 in
theorem B_NI_allRecords_4 {G : MCx} (hC : C0 G "AccusedChoose$Night" b_NI_allRecords 3 2) {t0 : Nat} (h0 : isNI t0) (v1 : Int32) (v2 : Int32) (s : St) : VO G (RI G b_NI_allRecords) (F_NI_allRecords_4 t0 v1 v2 s) 4 [(0, .ref (gad G t0)), (1, .int v1), (2, .int v2)] [] s := by
  exact VO_fix (G_NI_allRecords_4 t0) 4 (fun q => [(0, .ref (gad G t0)), (1, .int q.1), (2, .int q.2.1)]) (fun q => q.2.2) (fun K hK q => BH_NI_allRecords_4 hC h0 K (fun w1 w2 s => hK (w1, w2, s)) q.1 q.2.1 q.2.2) FUEL (v1, v2, s)
set_option maxRecDepth 20000 in
theorem B_NI_allRecords {G : MCx} (hC : C0 G "AccusedChoose$Night" b_NI_allRecords 3 2) {t0 : Nat} (h0 : isNI t0) (s : St) : VO G (RI G b_NI_allRecords) (F_NI_allRecords t0 s) 0 [(0, .ref (gad G t0))] [] s := by
  unfold F_NI_allRecords
  refine VO_const hC d_NI_allRecords_0 ?_
  refine VO_istore hC d_NI_allRecords_1 [(0, .ref (gad G t0))] rfl (by decide) ?_
  refine VO_const hC d_NI_allRecords_2 ?_
  refine VO_istore hC d_NI_allRecords_3 [(1, .int (0 : Int32)), (0, .ref (gad G t0))] rfl (by decide) ?_
  exact VO_sub [2, 1, 0] rfl (B_NI_allRecords_4 hC h0 (0 : Int32) (0 : Int32) s)
set_option maxRecDepth 20000 in
theorem M_NI_allRecords {l : Launch} {D : va_G} {ad : Nat → Nat} {cI cL : ClassId} (hj : Inj ad) {t0 : Nat} (h0 : isNI t0) {s : St} {o : Int32 × St} (h : F_NI_allRecords t0 s = some o) : Cn l D ad cI cL y_NI_allRecords b_NI_allRecords 3 (some .int) 2 [.ref (ad t0)] s (some (.int o.1)) o.2 := by
  refine Cn_ofI hj (plainFor_of_name (by decide)) (Nat.le_of_ble_eq_true rfl) [(0, .ref (ad t0))] rfl (fun G hC e1 e2 e3 e4 e5 hR => ?_)
  subst e1; subst e2; subst e3; subst e4; subst e5
  exact B_NI_allRecords hC h0 s o h hR
theorem d_IG_bitCount_0 : PLi b_IG_bitCount 0 0 1 := Or.inl ⟨0, by decide +kernel, rfl, rfl⟩
theorem d_IG_bitCount_1 : PLi b_IG_bitCount 1 0 2 := Or.inl ⟨0, by decide +kernel, rfl, rfl⟩
theorem d_IG_bitCount_2 : PCi b_IG_bitCount 2 1 3 := Or.inl ⟨1, by decide +kernel, by decide, rfl⟩
theorem d_IG_bitCount_3 : DR b_IG_bitCount 3 (.iushr) 1 4 := ⟨by decide +kernel, rfl⟩
theorem d_IG_bitCount_4 : DR b_IG_bitCount 4 (.ldc_w 265) 3 7 := ⟨by decide +kernel, rfl⟩
theorem d_IG_bitCount_7 : DR b_IG_bitCount 7 (.iand) 1 8 := ⟨by decide +kernel, rfl⟩
theorem d_IG_bitCount_8 : DR b_IG_bitCount 8 (.isub) 1 9 := ⟨by decide +kernel, rfl⟩
theorem d_IG_bitCount_9 : PSi b_IG_bitCount 9 0 10 := Or.inl ⟨0, by decide +kernel, rfl, rfl⟩
theorem d_IG_bitCount_10 : PLi b_IG_bitCount 10 0 11 := Or.inl ⟨0, by decide +kernel, rfl, rfl⟩
theorem d_IG_bitCount_11 : DR b_IG_bitCount 11 (.ldc_w 266) 3 14 := ⟨by decide +kernel, rfl⟩
theorem d_IG_bitCount_14 : DR b_IG_bitCount 14 (.iand) 1 15 := ⟨by decide +kernel, rfl⟩
theorem d_IG_bitCount_15 : PLi b_IG_bitCount 15 0 16 := Or.inl ⟨0, by decide +kernel, rfl, rfl⟩
theorem d_IG_bitCount_16 : PCi b_IG_bitCount 16 2 17 := Or.inl ⟨2, by decide +kernel, by decide, rfl⟩
theorem d_IG_bitCount_17 : DR b_IG_bitCount 17 (.iushr) 1 18 := ⟨by decide +kernel, rfl⟩
theorem d_IG_bitCount_18 : DR b_IG_bitCount 18 (.ldc_w 266) 3 21 := ⟨by decide +kernel, rfl⟩
theorem d_IG_bitCount_21 : DR b_IG_bitCount 21 (.iand) 1 22 := ⟨by decide +kernel, rfl⟩
theorem d_IG_bitCount_22 : DR b_IG_bitCount 22 (.iadd) 1 23 := ⟨by decide +kernel, rfl⟩
theorem d_IG_bitCount_23 : PSi b_IG_bitCount 23 0 24 := Or.inl ⟨0, by decide +kernel, rfl, rfl⟩
theorem d_IG_bitCount_24 : PLi b_IG_bitCount 24 0 25 := Or.inl ⟨0, by decide +kernel, rfl, rfl⟩
theorem d_IG_bitCount_25 : PLi b_IG_bitCount 25 0 26 := Or.inl ⟨0, by decide +kernel, rfl, rfl⟩
theorem d_IG_bitCount_26 : PCi b_IG_bitCount 26 4 27 := Or.inl ⟨4, by decide +kernel, by decide, rfl⟩
theorem d_IG_bitCount_27 : DR b_IG_bitCount 27 (.iushr) 1 28 := ⟨by decide +kernel, rfl⟩
theorem d_IG_bitCount_28 : DR b_IG_bitCount 28 (.iadd) 1 29 := ⟨by decide +kernel, rfl⟩
theorem d_IG_bitCount_29 : DR b_IG_bitCount 29 (.ldc_w 267) 3 32 := ⟨by decide +kernel, rfl⟩
theorem d_IG_bitCount_32 : DR b_IG_bitCount 32 (.iand) 1 33 := ⟨by decide +kernel, rfl⟩
theorem d_IG_bitCount_33 : PSi b_IG_bitCount 33 0 34 := Or.inl ⟨0, by decide +kernel, rfl, rfl⟩
theorem d_IG_bitCount_34 : PLi b_IG_bitCount 34 0 35 := Or.inl ⟨0, by decide +kernel, rfl, rfl⟩
theorem d_IG_bitCount_35 : PLi b_IG_bitCount 35 0 36 := Or.inl ⟨0, by decide +kernel, rfl, rfl⟩
theorem d_IG_bitCount_36 : PCi b_IG_bitCount 36 8 38 := Or.inr (Or.inl ⟨8, by decide +kernel, by decide, rfl⟩)
theorem d_IG_bitCount_38 : DR b_IG_bitCount 38 (.iushr) 1 39 := ⟨by decide +kernel, rfl⟩
theorem d_IG_bitCount_39 : DR b_IG_bitCount 39 (.iadd) 1 40 := ⟨by decide +kernel, rfl⟩
theorem d_IG_bitCount_40 : PSi b_IG_bitCount 40 0 41 := Or.inl ⟨0, by decide +kernel, rfl, rfl⟩
theorem d_IG_bitCount_41 : PLi b_IG_bitCount 41 0 42 := Or.inl ⟨0, by decide +kernel, rfl, rfl⟩
theorem d_IG_bitCount_42 : PLi b_IG_bitCount 42 0 43 := Or.inl ⟨0, by decide +kernel, rfl, rfl⟩
theorem d_IG_bitCount_43 : PCi b_IG_bitCount 43 16 45 := Or.inr (Or.inl ⟨16, by decide +kernel, by decide, rfl⟩)
theorem d_IG_bitCount_45 : DR b_IG_bitCount 45 (.iushr) 1 46 := ⟨by decide +kernel, rfl⟩
theorem d_IG_bitCount_46 : DR b_IG_bitCount 46 (.iadd) 1 47 := ⟨by decide +kernel, rfl⟩
theorem d_IG_bitCount_47 : PSi b_IG_bitCount 47 0 48 := Or.inl ⟨0, by decide +kernel, rfl, rfl⟩
theorem d_IG_bitCount_48 : PLi b_IG_bitCount 48 0 49 := Or.inl ⟨0, by decide +kernel, rfl, rfl⟩
theorem d_IG_bitCount_49 : PCi b_IG_bitCount 49 63 51 := Or.inr (Or.inl ⟨63, by decide +kernel, by decide, rfl⟩)
theorem d_IG_bitCount_51 : DR b_IG_bitCount 51 (.iand) 1 52 := ⟨by decide +kernel, rfl⟩
theorem d_IG_bitCount_52 : DR b_IG_bitCount 52 (.ireturn) 1 53 := ⟨by decide +kernel, rfl⟩
set_option maxRecDepth 20000 in
theorem B_IG_bitCount {G : MCx} (hC : C0 G "java/lang/Integer" b_IG_bitCount 1 1) (a0 : Int32) (s : St) : VO G (RI G b_IG_bitCount) (F_IG_bitCount a0 s) 0 [(0, .int a0)] [] s := by
  unfold F_IG_bitCount
  refine VO_iload hC d_IG_bitCount_0 0 rfl ?_
  refine VO_iload hC d_IG_bitCount_1 0 rfl ?_
  refine VO_const hC d_IG_bitCount_2 ?_
  refine VO_iushr hC d_IG_bitCount_3 ?_
  refine VO_ldcw hC k_IG_265 d_IG_bitCount_4 ?_
  refine VO_iand hC d_IG_bitCount_7 ?_
  refine VO_isub hC d_IG_bitCount_8 ?_
  refine VO_istoreB hC d_IG_bitCount_9 [] rfl (by decide) (fun x1 => ?_)
  refine VO_iload hC d_IG_bitCount_10 0 rfl ?_
  refine VO_ldcw hC k_IG_266 d_IG_bitCount_11 ?_
  refine VO_iand hC d_IG_bitCount_14 ?_
  refine VO_iload hC d_IG_bitCount_15 0 rfl ?_
  refine VO_const hC d_IG_bitCount_16 ?_
  refine VO_iushr hC d_IG_bitCount_17 ?_
  refine VO_ldcw hC k_IG_266 d_IG_bitCount_18 ?_
  refine VO_iand hC d_IG_bitCount_21 ?_
  refine VO_iadd hC d_IG_bitCount_22 ?_
  refine VO_istoreB hC d_IG_bitCount_23 [] rfl (by decide) (fun x2 => ?_)
  refine VO_iload hC d_IG_bitCount_24 0 rfl ?_
  refine VO_iload hC d_IG_bitCount_25 0 rfl ?_
  refine VO_const hC d_IG_bitCount_26 ?_
  refine VO_iushr hC d_IG_bitCount_27 ?_
  refine VO_iadd hC d_IG_bitCount_28 ?_
  refine VO_ldcw hC k_IG_267 d_IG_bitCount_29 ?_
  refine VO_iand hC d_IG_bitCount_32 ?_
  refine VO_istoreB hC d_IG_bitCount_33 [] rfl (by decide) (fun x3 => ?_)
  refine VO_iload hC d_IG_bitCount_34 0 rfl ?_
  refine VO_iload hC d_IG_bitCount_35 0 rfl ?_
  refine VO_const hC d_IG_bitCount_36 ?_
  refine VO_iushr hC d_IG_bitCount_38 ?_
  refine VO_iadd hC d_IG_bitCount_39 ?_
  refine VO_istoreB hC d_IG_bitCount_40 [] rfl (by decide) (fun x4 => ?_)
  refine VO_iload hC d_IG_bitCount_41 0 rfl ?_
  refine VO_iload hC d_IG_bitCount_42 0 rfl ?_
  refine VO_const hC d_IG_bitCount_43 ?_
  refine VO_iushr hC d_IG_bitCount_45 ?_
  refine VO_iadd hC d_IG_bitCount_46 ?_
  refine VO_istoreB hC d_IG_bitCount_47 [] rfl (by decide) (fun x5 => ?_)
  refine VO_iload hC d_IG_bitCount_48 0 rfl ?_
  refine VO_const hC d_IG_bitCount_49 ?_
  refine VO_iand hC d_IG_bitCount_51 ?_
  exact VO_ireturn d_IG_bitCount_52
set_option maxRecDepth 20000 in
theorem M_IG_bitCount {l : Launch} {D : va_G} {ad : Nat → Nat} {cI cL : ClassId} (hj : Inj ad) {a0 : Int32} {s : St} {o : Int32 × St} (h : F_IG_bitCount a0 s = some o) : Cn l D ad cI cL y_IG_bitCount b_IG_bitCount 1 (some .int) 1 [.int a0] s (some (.int o.1)) o.2 := by
  refine Cn_ofI hj (by decide +kernel) (Nat.le_of_ble_eq_true rfl) [(0, .int a0)] rfl (fun G hC e1 e2 e3 e4 e5 hR => ?_)
  subst e1; subst e2; subst e3; subst e4; subst e5
  exact B_IG_bitCount hC a0 s o h hR
theorem d_NI_allAlibis_0 : PCi b_NI_allAlibis 0 0 1 := Or.inl ⟨0, by decide +kernel, by decide, rfl⟩
theorem d_NI_allAlibis_1 : PSi b_NI_allAlibis 1 1 2 := Or.inl ⟨1, by decide +kernel, rfl, rfl⟩
theorem d_NI_allAlibis_2 : PCi b_NI_allAlibis 2 0 3 := Or.inl ⟨0, by decide +kernel, by decide, rfl⟩
theorem d_NI_allAlibis_3 : PSi b_NI_allAlibis 3 2 4 := Or.inl ⟨2, by decide +kernel, rfl, rfl⟩
theorem d_NI_allAlibis_4 : PLi b_NI_allAlibis 4 2 5 := Or.inl ⟨2, by decide +kernel, rfl, rfl⟩
theorem d_NI_allAlibis_5 : PLa b_NI_allAlibis 5 0 6 := Or.inl ⟨0, by decide +kernel, rfl, rfl⟩
theorem d_NI_allAlibis_6 : DR b_NI_allAlibis 6 (.getfield 40) 3 9 := ⟨by decide +kernel, rfl⟩
theorem d_NI_allAlibis_9 : DJ b_NI_allAlibis 9 (.if_icmp .ge) 12 32 := ⟨23, by decide +kernel, rfl, by decide⟩
theorem d_NI_allAlibis_12 : PLi b_NI_allAlibis 12 1 13 := Or.inl ⟨1, by decide +kernel, rfl, rfl⟩
theorem d_NI_allAlibis_13 : PLa b_NI_allAlibis 13 0 14 := Or.inl ⟨0, by decide +kernel, rfl, rfl⟩
theorem d_NI_allAlibis_14 : DR b_NI_allAlibis 14 (.getfield 30) 3 17 := ⟨by decide +kernel, rfl⟩
theorem d_NI_allAlibis_17 : PLi b_NI_allAlibis 17 2 18 := Or.inl ⟨2, by decide +kernel, rfl, rfl⟩
theorem d_NI_allAlibis_18 : DR b_NI_allAlibis 18 (.invokestatic 65) 3 21 := ⟨by decide +kernel, rfl⟩
theorem d_NI_allAlibis_21 : DR b_NI_allAlibis 21 (.invokestatic 87) 3 24 := ⟨by decide +kernel, rfl⟩
theorem d_NI_allAlibis_24 : DR b_NI_allAlibis 24 (.iadd) 1 25 := ⟨by decide +kernel, rfl⟩
theorem d_NI_allAlibis_25 : PSi b_NI_allAlibis 25 1 26 := Or.inl ⟨1, by decide +kernel, rfl, rfl⟩
theorem d_NI_allAlibis_26 : DR b_NI_allAlibis 26 (.iinc 2 1) 3 29 := ⟨by decide +kernel, rfl⟩
theorem d_NI_allAlibis_29 : DJ b_NI_allAlibis 29 .goto 32 4 := ⟨-25, by decide +kernel, rfl, by decide⟩
theorem d_NI_allAlibis_32 : PLi b_NI_allAlibis 32 1 33 := Or.inl ⟨1, by decide +kernel, rfl, rfl⟩
theorem d_NI_allAlibis_33 : DR b_NI_allAlibis 33 (.ireturn) 1 34 := ⟨by decide +kernel, rfl⟩
set_option maxRecDepth 20000 in
theorem BH_NI_allAlibis_4 {G : MCx} (hC : C0 G "AccusedChoose$Night" b_NI_allAlibis 3 2) {t0 : Nat} (h0 : isNI t0) (K4 : Int32 × Int32 × St → Option (Int32 × St)) (hK4 : ∀ (w1 : Int32) (w2 : Int32) (s : St), VO G (RI G b_NI_allAlibis) (K4 (w1, w2, s)) 4 [(0, .ref (gad G t0)), (1, .int w1), (2, .int w2)] [] s) (v1 : Int32) (v2 : Int32) (s : St) : VO G (RI G b_NI_allAlibis) (H_NI_allAlibis_4 t0 K4 v1 v2 s) 4 [(0, .ref (gad G t0)), (1, .int v1), (2, .int v2)] [] s := by
  unfold H_NI_allAlibis_4
  refine VO_iload hC d_NI_allAlibis_4 2 rfl ?_
  refine VO_aload hC d_NI_allAlibis_5 0 rfl ?_
  refine VO_geti hC fl_NI_40 (sh_NI h0) rfl d_NI_allAlibis_6 ?_
  refine VO_icmp_ge hC d_NI_allAlibis_9 (fun _ => ?_) (fun _ => ?_)
  · refine VO_iload hC d_NI_allAlibis_32 1 rfl ?_
    exact VO_ireturn d_NI_allAlibis_33
  · refine VO_iload hC d_NI_allAlibis_12 1 rfl ?_
    refine VO_aload hC d_NI_allAlibis_13 0 rfl ?_
    refine VO_getr (r := (t0 + 7)) hC fl_NI_30 (sh_NI h0) rfl d_NI_allAlibis_14 ?_
    refine VO_iload hC d_NI_allAlibis_17 2 rfl ?_
    refine VO_callNI hC [.ref (gad G (t0 + 7)), .int v2] [.int v1] nl_NI_65 d_NI_allAlibis_18 ys_AC_at (fun o h => M_AC_at hC.inj (ia_NI7 h0) h) (by decide) rfl rfl (Nat.le_of_ble_eq_true rfl) (fun o1 => ?_)
    refine VO_callSI hC [.int o1.1] [.int v1] ml_NI_87 d_NI_allAlibis_21 ys_IG_bitCount (fun o h => M_IG_bitCount hC.inj h) (by decide) rfl rfl (Nat.le_of_ble_eq_true rfl) (fun o2 => ?_)
    refine VO_iadd hC d_NI_allAlibis_24 ?_
    refine VO_istoreB hC d_NI_allAlibis_25 [(0, .ref (gad G t0)), (2, .int v2)] rfl (by decide) (fun x3 => ?_)
    refine VO_iinc hC d_NI_allAlibis_26 2 rfl (by decide : Int32.ofInt 1 = 1) [(1, .int x3), (0, .ref (gad G t0))] rfl (by decide) ?_
    refine VO_goto hC d_NI_allAlibis_29 ?_
    exact VO_sub [2, 1, 0] rfl (hK4 x3 (v2 + 1) o2.2)
set_option maxRecDepth 20000 in
theorem B_NI_allAlibis_4 {G : MCx} (hC : C0 G "AccusedChoose$Night" b_NI_allAlibis 3 2) {t0 : Nat} (h0 : isNI t0) (v1 : Int32) (v2 : Int32) (s : St) : VO G (RI G b_NI_allAlibis) (F_NI_allAlibis_4 t0 v1 v2 s) 4 [(0, .ref (gad G t0)), (1, .int v1), (2, .int v2)] [] s := by
  exact VO_fix (G_NI_allAlibis_4 t0) 4 (fun q => [(0, .ref (gad G t0)), (1, .int q.1), (2, .int q.2.1)]) (fun q => q.2.2) (fun K hK q => BH_NI_allAlibis_4 hC h0 K (fun w1 w2 s => hK (w1, w2, s)) q.1 q.2.1 q.2.2) FUEL (v1, v2, s)
set_option maxRecDepth 20000 in
theorem B_NI_allAlibis {G : MCx} (hC : C0 G "AccusedChoose$Night" b_NI_allAlibis 3 2) {t0 : Nat} (h0 : isNI t0) (s : St) : VO G (RI G b_NI_allAlibis) (F_NI_allAlibis t0 s) 0 [(0, .ref (gad G t0))] [] s := by
  unfold F_NI_allAlibis
  refine VO_const hC d_NI_allAlibis_0 ?_
  refine VO_istore hC d_NI_allAlibis_1 [(0, .ref (gad G t0))] rfl (by decide) ?_
  refine VO_const hC d_NI_allAlibis_2 ?_
  refine VO_istore hC d_NI_allAlibis_3 [(1, .int (0 : Int32)), (0, .ref (gad G t0))] rfl (by decide) ?_
  exact VO_sub [2, 1, 0] rfl (B_NI_allAlibis_4 hC h0 (0 : Int32) (0 : Int32) s)
set_option maxRecDepth 20000 in
theorem M_NI_allAlibis {l : Launch} {D : va_G} {ad : Nat → Nat} {cI cL : ClassId} (hj : Inj ad) {t0 : Nat} (h0 : isNI t0) {s : St} {o : Int32 × St} (h : F_NI_allAlibis t0 s = some o) : Cn l D ad cI cL y_NI_allAlibis b_NI_allAlibis 3 (some .int) 2 [.ref (ad t0)] s (some (.int o.1)) o.2 := by
  refine Cn_ofI hj (plainFor_of_name (by decide)) (Nat.le_of_ble_eq_true rfl) [(0, .ref (ad t0))] rfl (fun G hC e1 e2 e3 e4 e5 hR => ?_)
  subst e1; subst e2; subst e3; subst e4; subst e5
  exact B_NI_allAlibis hC h0 s o h hR
theorem d_OR_begin_0 : PLa b_OR_begin 0 0 1 := Or.inl ⟨0, by decide +kernel, rfl, rfl⟩
theorem d_OR_begin_1 : PLi b_OR_begin 1 1 2 := Or.inl ⟨1, by decide +kernel, rfl, rfl⟩
theorem d_OR_begin_2 : DR b_OR_begin 2 (.putfield 18) 3 5 := ⟨by decide +kernel, rfl⟩
theorem d_OR_begin_5 : PLa b_OR_begin 5 0 6 := Or.inl ⟨0, by decide +kernel, rfl, rfl⟩
theorem d_OR_begin_6 : PCi b_OR_begin 6 0 7 := Or.inl ⟨0, by decide +kernel, by decide, rfl⟩
theorem d_OR_begin_7 : DR b_OR_begin 7 (.putfield 22) 3 10 := ⟨by decide +kernel, rfl⟩
theorem d_OR_begin_10 : PCi b_OR_begin 10 0 11 := Or.inl ⟨0, by decide +kernel, by decide, rfl⟩
theorem d_OR_begin_11 : PSi b_OR_begin 11 2 12 := Or.inl ⟨2, by decide +kernel, rfl, rfl⟩
theorem d_OR_begin_12 : PLi b_OR_begin 12 2 13 := Or.inl ⟨2, by decide +kernel, rfl, rfl⟩
theorem d_OR_begin_13 : PLa b_OR_begin 13 0 14 := Or.inl ⟨0, by decide +kernel, rfl, rfl⟩
theorem d_OR_begin_14 : DR b_OR_begin 14 (.getfield 9) 3 17 := ⟨by decide +kernel, rfl⟩
theorem d_OR_begin_17 : DR b_OR_begin 17 (.arraylength) 1 18 := ⟨by decide +kernel, rfl⟩
theorem d_OR_begin_18 : DJ b_OR_begin 18 (.if_icmp .ge) 21 34 := ⟨16, by decide +kernel, rfl, by decide⟩
theorem d_OR_begin_21 : PLa b_OR_begin 21 0 22 := Or.inl ⟨0, by decide +kernel, rfl, rfl⟩
theorem d_OR_begin_22 : DR b_OR_begin 22 (.getfield 9) 3 25 := ⟨by decide +kernel, rfl⟩
theorem d_OR_begin_25 : PLi b_OR_begin 25 2 26 := Or.inl ⟨2, by decide +kernel, rfl, rfl⟩
theorem d_OR_begin_26 : PLi b_OR_begin 26 2 27 := Or.inl ⟨2, by decide +kernel, rfl, rfl⟩
theorem d_OR_begin_27 : DR b_OR_begin 27 (.iastore) 1 28 := ⟨by decide +kernel, rfl⟩
theorem d_OR_begin_28 : DR b_OR_begin 28 (.iinc 2 1) 3 31 := ⟨by decide +kernel, rfl⟩
theorem d_OR_begin_31 : DJ b_OR_begin 31 .goto 34 12 := ⟨-19, by decide +kernel, rfl, by decide⟩
theorem d_OR_begin_34 : DR b_OR_begin 34 (.return_) 1 35 := ⟨by decide +kernel, rfl⟩
set_option maxRecDepth 20000 in
theorem BH_OR_begin_12 {G : MCx} (hC : C0 G "AccusedChoose$Orders" b_OR_begin 3 1) (K12 : Int32 × St → Option (St)) (hK12 : ∀ (w2 : Int32) (s : St), VO G (RV G b_OR_begin) (K12 (w2, s)) 12 [(0, .ref (gad G 51)), (2, .int w2)] [] s) (v2 : Int32) (s : St) : VO G (RV G b_OR_begin) (H_OR_begin_12 K12 v2 s) 12 [(0, .ref (gad G 51)), (2, .int v2)] [] s := by
  unfold H_OR_begin_12
  refine VO_iload hC d_OR_begin_12 1 rfl ?_
  refine VO_aload hC d_OR_begin_13 0 rfl ?_
  refine VO_getr (r := 52) hC fl_OR_9 sh_OR rfl d_OR_begin_14 ?_
  refine VO_alen hC ia_52 d_OR_begin_17 ?_
  refine VO_icmp_ge hC d_OR_begin_18 (fun _ => ?_) (fun _ => ?_)
  · exact VO_return d_OR_begin_34
  · refine VO_aload hC d_OR_begin_21 0 rfl ?_
    refine VO_getr (r := 52) hC fl_OR_9 sh_OR rfl d_OR_begin_22 ?_
    refine VO_iload hC d_OR_begin_25 1 rfl ?_
    refine VO_iload hC d_OR_begin_26 1 rfl ?_
    refine VO_iastore hC ia_52 d_OR_begin_27 (fun s3 => ?_)
    refine VO_iinc hC d_OR_begin_28 1 rfl (by decide : Int32.ofInt 1 = 1) [(0, .ref (gad G 51))] rfl (by decide) ?_
    refine VO_goto hC d_OR_begin_31 ?_
    exact VO_sub [1, 0] rfl (hK12 (v2 + 1) s3)
set_option maxRecDepth 20000 in
theorem B_OR_begin_12 {G : MCx} (hC : C0 G "AccusedChoose$Orders" b_OR_begin 3 1) (v2 : Int32) (s : St) : VO G (RV G b_OR_begin) (F_OR_begin_12 v2 s) 12 [(0, .ref (gad G 51)), (2, .int v2)] [] s := by
  exact VO_fix (G_OR_begin_12) 12 (fun q => [(0, .ref (gad G 51)), (2, .int q.1)]) (fun q => q.2) (fun K hK q => BH_OR_begin_12 hC K (fun w2 s => hK (w2, s)) q.1 q.2) FUEL (v2, s)
set_option maxRecDepth 20000 in
theorem B_OR_begin {G : MCx} (hC : C0 G "AccusedChoose$Orders" b_OR_begin 3 1) (a1 : Int32) (s : St) : VO G (RV G b_OR_begin) (F_OR_begin a1 s) 0 [(0, .ref (gad G 51)), (1, .int a1)] [] s := by
  unfold F_OR_begin
  refine VO_aload hC d_OR_begin_0 0 rfl ?_
  refine VO_iload hC d_OR_begin_1 1 rfl ?_
  refine VO_puti hC fw_OR_18 sh_OR rfl d_OR_begin_2 (fun s1 => ?_)
  refine VO_aload hC d_OR_begin_5 0 rfl ?_
  refine VO_const hC d_OR_begin_6 ?_
  refine VO_puti hC fw_OR_22 sh_OR rfl d_OR_begin_7 (fun s2 => ?_)
  refine VO_const hC d_OR_begin_10 ?_
  refine VO_istore hC d_OR_begin_11 [(0, .ref (gad G 51)), (1, .int a1)] rfl (by decide) ?_
  exact VO_sub [1, 0] rfl (B_OR_begin_12 hC (0 : Int32) s2)
set_option maxRecDepth 20000 in
theorem M_OR_begin {l : Launch} {D : va_G} {ad : Nat → Nat} {cI cL : ClassId} (hj : Inj ad) {a1 : Int32} {s : St} {o : St} (h : F_OR_begin a1 s = some o) : Cn l D ad cI cL y_OR_begin b_OR_begin 3 none 1 [.ref (ad 51), .int a1] s none o := by
  refine Cn_ofV hj (plainFor_of_name (by decide)) (Nat.le_of_ble_eq_true rfl) [(0, .ref (ad 51)), (1, .int a1)] rfl (fun G hC e1 e2 e3 e4 e5 hR => ?_)
  subst e1; subst e2; subst e3; subst e4; subst e5
  exact B_OR_begin hC a1 s o h hR
theorem d_OR_keep_0 : PLa b_OR_keep 0 0 1 := Or.inl ⟨0, by decide +kernel, rfl, rfl⟩
theorem d_OR_keep_1 : DR b_OR_keep 1 (.getfield 9) 3 4 := ⟨by decide +kernel, rfl⟩
theorem d_OR_keep_4 : PLa b_OR_keep 4 0 5 := Or.inl ⟨0, by decide +kernel, rfl, rfl⟩
theorem d_OR_keep_5 : DR b_OR_keep 5 (.getfield 15) 3 8 := ⟨by decide +kernel, rfl⟩
theorem d_OR_keep_8 : DR b_OR_keep 8 (.invokestatic 25) 3 11 := ⟨by decide +kernel, rfl⟩
theorem d_OR_keep_11 : PLa b_OR_keep 11 0 12 := Or.inl ⟨0, by decide +kernel, rfl, rfl⟩
theorem d_OR_keep_12 : PLa b_OR_keep 12 0 13 := Or.inl ⟨0, by decide +kernel, rfl, rfl⟩
theorem d_OR_keep_13 : DR b_OR_keep 13 (.getfield 18) 3 16 := ⟨by decide +kernel, rfl⟩
theorem d_OR_keep_16 : DR b_OR_keep 16 (.putfield 22) 3 19 := ⟨by decide +kernel, rfl⟩
theorem d_OR_keep_19 : DR b_OR_keep 19 (.return_) 1 20 := ⟨by decide +kernel, rfl⟩
set_option maxRecDepth 20000 in
theorem B_OR_keep {G : MCx} (hC : C0 G "AccusedChoose$Orders" b_OR_keep 1 3) (s : St) : VO G (RV G b_OR_keep) (F_OR_keep s) 0 [(0, .ref (gad G 51))] [] s := by
  unfold F_OR_keep
  refine VO_aload hC d_OR_keep_0 0 rfl ?_
  refine VO_getr (r := 52) hC fl_OR_9 sh_OR rfl d_OR_keep_1 ?_
  refine VO_aload hC d_OR_keep_4 0 rfl ?_
  refine VO_getr (r := 53) hC fl_OR_15 sh_OR rfl d_OR_keep_5 ?_
  refine VO_callNV hC [.ref (gad G 52), .ref (gad G 53)] [] nl_OR_25 d_OR_keep_8 ys_AC_copyRow (fun o h => M_AC_copyRow hC.inj ia_52 ia_53 h) (by decide) rfl rfl (Nat.le_of_ble_eq_true rfl) (fun s1 => ?_)
  refine VO_aload hC d_OR_keep_11 0 rfl ?_
  refine VO_aload hC d_OR_keep_12 0 rfl ?_
  refine VO_geti hC fl_OR_18 sh_OR rfl d_OR_keep_13 ?_
  refine VO_puti hC fw_OR_22 sh_OR rfl d_OR_keep_16 (fun s2 => ?_)
  exact VO_return d_OR_keep_19
set_option maxRecDepth 20000 in
theorem M_OR_keep {l : Launch} {D : va_G} {ad : Nat → Nat} {cI cL : ClassId} (hj : Inj ad) {s : St} {o : St} (h : F_OR_keep s = some o) : Cn l D ad cI cL y_OR_keep b_OR_keep 1 none 3 [.ref (ad 51)] s none o := by
  refine Cn_ofV hj (plainFor_of_name (by decide)) (Nat.le_of_ble_eq_true rfl) [(0, .ref (ad 51))] rfl (fun G hC e1 e2 e3 e4 e5 hR => ?_)
  subst e1; subst e2; subst e3; subst e4; subst e5
  exact B_OR_keep hC s o h hR
theorem d_OR_keptAt_0 : PLi b_OR_keptAt 0 1 1 := Or.inl ⟨1, by decide +kernel, rfl, rfl⟩
theorem d_OR_keptAt_1 : DJ b_OR_keptAt 1 (.ifCond .lt) 4 23 := ⟨22, by decide +kernel, rfl, by decide⟩
theorem d_OR_keptAt_4 : PLi b_OR_keptAt 4 1 5 := Or.inl ⟨1, by decide +kernel, rfl, rfl⟩
theorem d_OR_keptAt_5 : PLa b_OR_keptAt 5 0 6 := Or.inl ⟨0, by decide +kernel, rfl, rfl⟩
theorem d_OR_keptAt_6 : DR b_OR_keptAt 6 (.getfield 22) 3 9 := ⟨by decide +kernel, rfl⟩
theorem d_OR_keptAt_9 : DJ b_OR_keptAt 9 (.if_icmp .ge) 12 23 := ⟨14, by decide +kernel, rfl, by decide⟩
theorem d_OR_keptAt_12 : PLa b_OR_keptAt 12 0 13 := Or.inl ⟨0, by decide +kernel, rfl, rfl⟩
theorem d_OR_keptAt_13 : DR b_OR_keptAt 13 (.getfield 15) 3 16 := ⟨by decide +kernel, rfl⟩
theorem d_OR_keptAt_16 : PLi b_OR_keptAt 16 1 17 := Or.inl ⟨1, by decide +kernel, rfl, rfl⟩
theorem d_OR_keptAt_17 : DR b_OR_keptAt 17 (.invokestatic 29) 3 20 := ⟨by decide +kernel, rfl⟩
theorem d_OR_keptAt_20 : DJ b_OR_keptAt 20 .goto 23 25 := ⟨5, by decide +kernel, rfl, by decide⟩
theorem d_OR_keptAt_23 : PCi b_OR_keptAt 23 (-9) 25 := Or.inr (Or.inl ⟨(-9), by decide +kernel, by decide, rfl⟩)
theorem d_OR_keptAt_25 : DR b_OR_keptAt 25 (.ireturn) 1 26 := ⟨by decide +kernel, rfl⟩
set_option maxRecDepth 20000 in
theorem B_OR_keptAt_23 {G : MCx} (hC : C0 G "AccusedChoose$Orders" b_OR_keptAt 2 2) (s : St) : VO G (RI G b_OR_keptAt) (F_OR_keptAt_23 s) 23 [] [] s := by
  unfold F_OR_keptAt_23
  refine VO_const hC d_OR_keptAt_23 ?_
  exact VO_ireturn d_OR_keptAt_25
set_option maxRecDepth 20000 in
theorem B_OR_keptAt {G : MCx} (hC : C0 G "AccusedChoose$Orders" b_OR_keptAt 2 2) (a1 : Int32) (s : St) : VO G (RI G b_OR_keptAt) (F_OR_keptAt a1 s) 0 [(0, .ref (gad G 51)), (1, .int a1)] [] s := by
  unfold F_OR_keptAt
  refine VO_iload hC d_OR_keptAt_0 1 rfl ?_
  refine VO_if_lt hC d_OR_keptAt_1 (fun _ => ?_) (fun _ => ?_)
  · exact VO_sub [] rfl (B_OR_keptAt_23 hC s)
  · refine VO_iload hC d_OR_keptAt_4 1 rfl ?_
    refine VO_aload hC d_OR_keptAt_5 0 rfl ?_
    refine VO_geti hC fl_OR_22 sh_OR rfl d_OR_keptAt_6 ?_
    refine VO_icmp_ge hC d_OR_keptAt_9 (fun _ => ?_) (fun _ => ?_)
    · exact VO_sub [] rfl (B_OR_keptAt_23 hC s)
    · refine VO_aload hC d_OR_keptAt_12 0 rfl ?_
      refine VO_getr (r := 53) hC fl_OR_15 sh_OR rfl d_OR_keptAt_13 ?_
      refine VO_iload hC d_OR_keptAt_16 1 rfl ?_
      refine VO_callNI hC [.ref (gad G 53), .int a1] [] nl_OR_29 d_OR_keptAt_17 ys_AC_at (fun o h => M_AC_at hC.inj ia_53 h) (by decide) rfl rfl (Nat.le_of_ble_eq_true rfl) (fun o1 => ?_)
      refine VO_goto hC d_OR_keptAt_20 ?_
      exact VO_ireturn d_OR_keptAt_25
set_option maxRecDepth 20000 in
theorem M_OR_keptAt {l : Launch} {D : va_G} {ad : Nat → Nat} {cI cL : ClassId} (hj : Inj ad) {a1 : Int32} {s : St} {o : Int32 × St} (h : F_OR_keptAt a1 s = some o) : Cn l D ad cI cL y_OR_keptAt b_OR_keptAt 2 (some .int) 2 [.ref (ad 51), .int a1] s (some (.int o.1)) o.2 := by
  refine Cn_ofI hj (plainFor_of_name (by decide)) (Nat.le_of_ble_eq_true rfl) [(0, .ref (ad 51)), (1, .int a1)] rfl (fun G hC e1 e2 e3 e4 e5 hR => ?_)
  subst e1; subst e2; subst e3; subst e4; subst e5
  exact B_OR_keptAt hC a1 s o h hR
theorem d_OR_exchange_0 : PLa b_OR_exchange 0 0 1 := Or.inl ⟨0, by decide +kernel, rfl, rfl⟩
theorem d_OR_exchange_1 : DR b_OR_exchange 1 (.getfield 9) 3 4 := ⟨by decide +kernel, rfl⟩
theorem d_OR_exchange_4 : PLi b_OR_exchange 4 1 5 := Or.inl ⟨1, by decide +kernel, rfl, rfl⟩
theorem d_OR_exchange_5 : DR b_OR_exchange 5 (.invokestatic 29) 3 8 := ⟨by decide +kernel, rfl⟩
theorem d_OR_exchange_8 : PSi b_OR_exchange 8 3 9 := Or.inl ⟨3, by decide +kernel, rfl, rfl⟩
theorem d_OR_exchange_9 : PLa b_OR_exchange 9 0 10 := Or.inl ⟨0, by decide +kernel, rfl, rfl⟩
theorem d_OR_exchange_10 : DR b_OR_exchange 10 (.getfield 9) 3 13 := ⟨by decide +kernel, rfl⟩
theorem d_OR_exchange_13 : PLi b_OR_exchange 13 1 14 := Or.inl ⟨1, by decide +kernel, rfl, rfl⟩
theorem d_OR_exchange_14 : PLa b_OR_exchange 14 0 15 := Or.inl ⟨0, by decide +kernel, rfl, rfl⟩
theorem d_OR_exchange_15 : DR b_OR_exchange 15 (.getfield 9) 3 18 := ⟨by decide +kernel, rfl⟩
theorem d_OR_exchange_18 : PLi b_OR_exchange 18 2 19 := Or.inl ⟨2, by decide +kernel, rfl, rfl⟩
theorem d_OR_exchange_19 : DR b_OR_exchange 19 (.invokestatic 29) 3 22 := ⟨by decide +kernel, rfl⟩
theorem d_OR_exchange_22 : DR b_OR_exchange 22 (.invokestatic 37) 3 25 := ⟨by decide +kernel, rfl⟩
theorem d_OR_exchange_25 : PLa b_OR_exchange 25 0 26 := Or.inl ⟨0, by decide +kernel, rfl, rfl⟩
theorem d_OR_exchange_26 : DR b_OR_exchange 26 (.getfield 9) 3 29 := ⟨by decide +kernel, rfl⟩
theorem d_OR_exchange_29 : PLi b_OR_exchange 29 2 30 := Or.inl ⟨2, by decide +kernel, rfl, rfl⟩
theorem d_OR_exchange_30 : PLi b_OR_exchange 30 3 31 := Or.inl ⟨3, by decide +kernel, rfl, rfl⟩
theorem d_OR_exchange_31 : DR b_OR_exchange 31 (.invokestatic 37) 3 34 := ⟨by decide +kernel, rfl⟩
theorem d_OR_exchange_34 : DR b_OR_exchange 34 (.return_) 1 35 := ⟨by decide +kernel, rfl⟩
set_option maxRecDepth 20000 in
theorem B_OR_exchange {G : MCx} (hC : C0 G "AccusedChoose$Orders" b_OR_exchange 4 2) (a1 : Int32) (a2 : Int32) (s : St) : VO G (RV G b_OR_exchange) (F_OR_exchange a1 a2 s) 0 [(0, .ref (gad G 51)), (1, .int a1), (2, .int a2)] [] s := by
  unfold F_OR_exchange
  refine VO_aload hC d_OR_exchange_0 0 rfl ?_
  refine VO_getr (r := 52) hC fl_OR_9 sh_OR rfl d_OR_exchange_1 ?_
  refine VO_iload hC d_OR_exchange_4 1 rfl ?_
  refine VO_callNI hC [.ref (gad G 52), .int a1] [] nl_OR_29 d_OR_exchange_5 ys_AC_at (fun o h => M_AC_at hC.inj ia_52 h) (by decide) rfl rfl (Nat.le_of_ble_eq_true rfl) (fun o1 => ?_)
  refine VO_istore hC d_OR_exchange_8 [(0, .ref (gad G 51)), (1, .int a1), (2, .int a2)] rfl (by decide) ?_
  refine VO_aload hC d_OR_exchange_9 1 rfl ?_
  refine VO_getr (r := 52) hC fl_OR_9 sh_OR rfl d_OR_exchange_10 ?_
  refine VO_iload hC d_OR_exchange_13 2 rfl ?_
  refine VO_aload hC d_OR_exchange_14 1 rfl ?_
  refine VO_getr (r := 52) hC fl_OR_9 sh_OR rfl d_OR_exchange_15 ?_
  refine VO_iload hC d_OR_exchange_18 3 rfl ?_
  refine VO_callNI hC [.ref (gad G 52), .int a2] [.int a1, .ref (gad G 52)] nl_OR_29 d_OR_exchange_19 ys_AC_at (fun o h => M_AC_at hC.inj ia_52 h) (by decide) rfl rfl (Nat.le_of_ble_eq_true rfl) (fun o2 => ?_)
  refine VO_callNV hC [.ref (gad G 52), .int a1, .int o2.1] [] nl_OR_37 d_OR_exchange_22 ys_AC_put (fun o h => M_AC_put hC.inj ia_52 h) (by decide) rfl rfl (Nat.le_of_ble_eq_true rfl) (fun s3 => ?_)
  refine VO_aload hC d_OR_exchange_25 1 rfl ?_
  refine VO_getr (r := 52) hC fl_OR_9 sh_OR rfl d_OR_exchange_26 ?_
  refine VO_iload hC d_OR_exchange_29 3 rfl ?_
  refine VO_iload hC d_OR_exchange_30 0 rfl ?_
  refine VO_callNV hC [.ref (gad G 52), .int a2, .int o1.1] [] nl_OR_37 d_OR_exchange_31 ys_AC_put (fun o h => M_AC_put hC.inj ia_52 h) (by decide) rfl rfl (Nat.le_of_ble_eq_true rfl) (fun s4 => ?_)
  exact VO_return d_OR_exchange_34
set_option maxRecDepth 20000 in
theorem M_OR_exchange {l : Launch} {D : va_G} {ad : Nat → Nat} {cI cL : ClassId} (hj : Inj ad) {a1 : Int32} {a2 : Int32} {s : St} {o : St} (h : F_OR_exchange a1 a2 s = some o) : Cn l D ad cI cL y_OR_exchange b_OR_exchange 4 none 2 [.ref (ad 51), .int a1, .int a2] s none o := by
  refine Cn_ofV hj (plainFor_of_name (by decide)) (Nat.le_of_ble_eq_true rfl) [(0, .ref (ad 51)), (1, .int a1), (2, .int a2)] rfl (fun G hC e1 e2 e3 e4 e5 hR => ?_)
  subst e1; subst e2; subst e3; subst e4; subst e5
  exact B_OR_exchange hC a1 a2 s o h hR
theorem d_OR_step_0 : PLa b_OR_step 0 0 1 := Or.inl ⟨0, by decide +kernel, rfl, rfl⟩
theorem d_OR_step_1 : DR b_OR_step 1 (.getfield 18) 3 4 := ⟨by decide +kernel, rfl⟩
theorem d_OR_step_4 : PCi b_OR_step 4 2 5 := Or.inl ⟨2, by decide +kernel, by decide, rfl⟩
theorem d_OR_step_5 : DR b_OR_step 5 (.isub) 1 6 := ⟨by decide +kernel, rfl⟩
theorem d_OR_step_6 : PSi b_OR_step 6 1 7 := Or.inl ⟨1, by decide +kernel, rfl, rfl⟩
theorem d_OR_step_7 : PLi b_OR_step 7 1 8 := Or.inl ⟨1, by decide +kernel, rfl, rfl⟩
theorem d_OR_step_8 : DJ b_OR_step 8 (.ifCond .lt) 11 38 := ⟨30, by decide +kernel, rfl, by decide⟩
theorem d_OR_step_11 : PLa b_OR_step 11 0 12 := Or.inl ⟨0, by decide +kernel, rfl, rfl⟩
theorem d_OR_step_12 : DR b_OR_step 12 (.getfield 9) 3 15 := ⟨by decide +kernel, rfl⟩
theorem d_OR_step_15 : PLi b_OR_step 15 1 16 := Or.inl ⟨1, by decide +kernel, rfl, rfl⟩
theorem d_OR_step_16 : DR b_OR_step 16 (.invokestatic 29) 3 19 := ⟨by decide +kernel, rfl⟩
theorem d_OR_step_19 : PLa b_OR_step 19 0 20 := Or.inl ⟨0, by decide +kernel, rfl, rfl⟩
theorem d_OR_step_20 : DR b_OR_step 20 (.getfield 9) 3 23 := ⟨by decide +kernel, rfl⟩
theorem d_OR_step_23 : PLi b_OR_step 23 1 24 := Or.inl ⟨1, by decide +kernel, rfl, rfl⟩
theorem d_OR_step_24 : PCi b_OR_step 24 1 25 := Or.inl ⟨1, by decide +kernel, by decide, rfl⟩
theorem d_OR_step_25 : DR b_OR_step 25 (.iadd) 1 26 := ⟨by decide +kernel, rfl⟩
theorem d_OR_step_26 : DR b_OR_step 26 (.invokestatic 29) 3 29 := ⟨by decide +kernel, rfl⟩
theorem d_OR_step_29 : DJ b_OR_step 29 (.if_icmp .lt) 32 38 := ⟨9, by decide +kernel, rfl, by decide⟩
theorem d_OR_step_32 : DR b_OR_step 32 (.iinc 1 (-1)) 3 35 := ⟨by decide +kernel, rfl⟩
theorem d_OR_step_35 : DJ b_OR_step 35 .goto 38 7 := ⟨-28, by decide +kernel, rfl, by decide⟩
theorem d_OR_step_38 : PLi b_OR_step 38 1 39 := Or.inl ⟨1, by decide +kernel, rfl, rfl⟩
theorem d_OR_step_39 : DJ b_OR_step 39 (.ifCond .ge) 42 44 := ⟨5, by decide +kernel, rfl, by decide⟩
theorem d_OR_step_42 : PCi b_OR_step 42 0 43 := Or.inl ⟨0, by decide +kernel, by decide, rfl⟩
theorem d_OR_step_43 : DR b_OR_step 43 (.ireturn) 1 44 := ⟨by decide +kernel, rfl⟩
theorem d_OR_step_44 : PLa b_OR_step 44 0 45 := Or.inl ⟨0, by decide +kernel, rfl, rfl⟩
theorem d_OR_step_45 : DR b_OR_step 45 (.getfield 18) 3 48 := ⟨by decide +kernel, rfl⟩
theorem d_OR_step_48 : PCi b_OR_step 48 1 49 := Or.inl ⟨1, by decide +kernel, by decide, rfl⟩
theorem d_OR_step_49 : DR b_OR_step 49 (.isub) 1 50 := ⟨by decide +kernel, rfl⟩
theorem d_OR_step_50 : PSi b_OR_step 50 2 51 := Or.inl ⟨2, by decide +kernel, rfl, rfl⟩
theorem d_OR_step_51 : PLi b_OR_step 51 2 52 := Or.inl ⟨2, by decide +kernel, rfl, rfl⟩
theorem d_OR_step_52 : PLi b_OR_step 52 1 53 := Or.inl ⟨1, by decide +kernel, rfl, rfl⟩
theorem d_OR_step_53 : DJ b_OR_step 53 (.if_icmp .le) 56 81 := ⟨28, by decide +kernel, rfl, by decide⟩
theorem d_OR_step_56 : PLa b_OR_step 56 0 57 := Or.inl ⟨0, by decide +kernel, rfl, rfl⟩
theorem d_OR_step_57 : DR b_OR_step 57 (.getfield 9) 3 60 := ⟨by decide +kernel, rfl⟩
theorem d_OR_step_60 : PLi b_OR_step 60 2 61 := Or.inl ⟨2, by decide +kernel, rfl, rfl⟩
theorem d_OR_step_61 : DR b_OR_step 61 (.invokestatic 29) 3 64 := ⟨by decide +kernel, rfl⟩
theorem d_OR_step_64 : PLa b_OR_step 64 0 65 := Or.inl ⟨0, by decide +kernel, rfl, rfl⟩
theorem d_OR_step_65 : DR b_OR_step 65 (.getfield 9) 3 68 := ⟨by decide +kernel, rfl⟩
theorem d_OR_step_68 : PLi b_OR_step 68 1 69 := Or.inl ⟨1, by decide +kernel, rfl, rfl⟩
theorem d_OR_step_69 : DR b_OR_step 69 (.invokestatic 29) 3 72 := ⟨by decide +kernel, rfl⟩
theorem d_OR_step_72 : DJ b_OR_step 72 (.if_icmp .gt) 75 81 := ⟨9, by decide +kernel, rfl, by decide⟩
theorem d_OR_step_75 : DR b_OR_step 75 (.iinc 2 (-1)) 3 78 := ⟨by decide +kernel, rfl⟩
theorem d_OR_step_78 : DJ b_OR_step 78 .goto 81 51 := ⟨-27, by decide +kernel, rfl, by decide⟩
theorem d_OR_step_81 : PLa b_OR_step 81 0 82 := Or.inl ⟨0, by decide +kernel, rfl, rfl⟩
theorem d_OR_step_82 : PLi b_OR_step 82 1 83 := Or.inl ⟨1, by decide +kernel, rfl, rfl⟩
theorem d_OR_step_83 : PLi b_OR_step 83 2 84 := Or.inl ⟨2, by decide +kernel, rfl, rfl⟩
theorem d_OR_step_84 : DR b_OR_step 84 (.invokevirtual 33) 3 87 := ⟨by decide +kernel, rfl⟩
theorem d_OR_step_87 : PLi b_OR_step 87 1 88 := Or.inl ⟨1, by decide +kernel, rfl, rfl⟩
theorem d_OR_step_88 : PCi b_OR_step 88 1 89 := Or.inl ⟨1, by decide +kernel, by decide, rfl⟩
theorem d_OR_step_89 : DR b_OR_step 89 (.iadd) 1 90 := ⟨by decide +kernel, rfl⟩
theorem d_OR_step_90 : PSi b_OR_step 90 3 91 := Or.inl ⟨3, by decide +kernel, rfl, rfl⟩
theorem d_OR_step_91 : PLa b_OR_step 91 0 92 := Or.inl ⟨0, by decide +kernel, rfl, rfl⟩
theorem d_OR_step_92 : DR b_OR_step 92 (.getfield 18) 3 95 := ⟨by decide +kernel, rfl⟩
theorem d_OR_step_95 : PCi b_OR_step 95 1 96 := Or.inl ⟨1, by decide +kernel, by decide, rfl⟩
theorem d_OR_step_96 : DR b_OR_step 96 (.isub) 1 97 := ⟨by decide +kernel, rfl⟩
theorem d_OR_step_97 : PSi b_OR_step 97 4 99 := Or.inr ⟨by decide +kernel, rfl⟩
theorem d_OR_step_99 : PLi b_OR_step 99 3 100 := Or.inl ⟨3, by decide +kernel, rfl, rfl⟩
theorem d_OR_step_100 : PLi b_OR_step 100 4 102 := Or.inr ⟨by decide +kernel, rfl⟩
theorem d_OR_step_102 : DJ b_OR_step 102 (.if_icmp .ge) 105 121 := ⟨19, by decide +kernel, rfl, by decide⟩
theorem d_OR_step_105 : PLa b_OR_step 105 0 106 := Or.inl ⟨0, by decide +kernel, rfl, rfl⟩
theorem d_OR_step_106 : PLi b_OR_step 106 3 107 := Or.inl ⟨3, by decide +kernel, rfl, rfl⟩
theorem d_OR_step_107 : PLi b_OR_step 107 4 109 := Or.inr ⟨by decide +kernel, rfl⟩
theorem d_OR_step_109 : DR b_OR_step 109 (.invokevirtual 33) 3 112 := ⟨by decide +kernel, rfl⟩
theorem d_OR_step_112 : DR b_OR_step 112 (.iinc 3 1) 3 115 := ⟨by decide +kernel, rfl⟩
theorem d_OR_step_115 : DR b_OR_step 115 (.iinc 4 (-1)) 3 118 := ⟨by decide +kernel, rfl⟩
theorem d_OR_step_118 : DJ b_OR_step 118 .goto 121 99 := ⟨-19, by decide +kernel, rfl, by decide⟩
theorem d_OR_step_121 : PCi b_OR_step 121 1 122 := Or.inl ⟨1, by decide +kernel, by decide, rfl⟩
theorem d_OR_step_122 : DR b_OR_step 122 (.ireturn) 1 123 := ⟨by decide +kernel, rfl⟩
set_option maxRecDepth 20000 in
theorem BH_OR_step_99 {G : MCx} (hC : C0 G "AccusedChoose$Orders" b_OR_step 5 3) (K99 : Int32 × Int32 × St → Option (Int32 × St)) (hK99 : ∀ (w3 : Int32) (w4 : Int32) (s : St), VO G (RZ G b_OR_step) (K99 (w3, w4, s)) 99 [(0, .ref (gad G 51)), (3, .int w3), (4, .int w4)] [] s) (v3 : Int32) (v4 : Int32) (s : St) : VO G (RZ G b_OR_step) (H_OR_step_99 K99 v3 v4 s) 99 [(0, .ref (gad G 51)), (3, .int v3), (4, .int v4)] [] s := by
  unfold H_OR_step_99
  refine VO_iload hC d_OR_step_99 1 rfl ?_
  refine VO_iload hC d_OR_step_100 2 rfl ?_
  refine VO_icmp_ge hC d_OR_step_102 (fun _ => ?_) (fun _ => ?_)
  · refine VO_const hC d_OR_step_121 ?_
    exact VO_z1 d_OR_step_122
  · refine VO_aload hC d_OR_step_105 0 rfl ?_
    refine VO_iload hC d_OR_step_106 1 rfl ?_
    refine VO_iload hC d_OR_step_107 2 rfl ?_
    refine VO_callVV hC [.int v3, .int v4] [] ml_OR_33 d_OR_step_109 yv_OR_exchange sh_OR rfl rfl (fun o h => M_OR_exchange hC.inj h) (by decide) rfl rfl (Nat.le_of_ble_eq_true rfl) (fun s6 => ?_)
    refine VO_iinc hC d_OR_step_112 1 rfl (by decide : Int32.ofInt 1 = 1) [(0, .ref (gad G 51)), (4, .int v4)] rfl (by decide) ?_
    refine VO_iincN hC d_OR_step_115 2 rfl (by decide : Int32.ofInt (-1) = -1) [(3, .int (v3 + 1)), (0, .ref (gad G 51))] rfl (by decide) ?_
    refine VO_goto hC d_OR_step_118 ?_
    exact VO_sub [2, 1, 0] rfl (hK99 (v3 + 1) (v4 - 1) s6)
set_option maxRecDepth 20000 in
theorem B_OR_step_99 {G : MCx} (hC : C0 G "AccusedChoose$Orders" b_OR_step 5 3) (v3 : Int32) (v4 : Int32) (s : St) : VO G (RZ G b_OR_step) (F_OR_step_99 v3 v4 s) 99 [(0, .ref (gad G 51)), (3, .int v3), (4, .int v4)] [] s := by
  exact VO_fix (G_OR_step_99) 99 (fun q => [(0, .ref (gad G 51)), (3, .int q.1), (4, .int q.2.1)]) (fun q => q.2.2) (fun K hK q => BH_OR_step_99 hC K (fun w3 w4 s => hK (w3, w4, s)) q.1 q.2.1 q.2.2) FUEL (v3, v4, s)
set_option maxRecDepth 20000 in
theorem B_OR_step_81 {G : MCx} (hC : C0 G "AccusedChoose$Orders" b_OR_step 5 3) (v1 : Int32) (v2 : Int32) (s : St) : VO G (RZ G b_OR_step) (F_OR_step_81 v1 v2 s) 81 [(0, .ref (gad G 51)), (1, .int v1), (2, .int v2)] [] s := by
  unfold F_OR_step_81
  refine VO_aload hC d_OR_step_81 0 rfl ?_
  refine VO_iload hC d_OR_step_82 1 rfl ?_
  refine VO_iload hC d_OR_step_83 2 rfl ?_
  refine VO_callVV hC [.int v1, .int v2] [] ml_OR_33 d_OR_step_84 yv_OR_exchange sh_OR rfl rfl (fun o h => M_OR_exchange hC.inj h) (by decide) rfl rfl (Nat.le_of_ble_eq_true rfl) (fun s3 => ?_)
  refine VO_iload hC d_OR_step_87 1 rfl ?_
  refine VO_const hC d_OR_step_88 ?_
  refine VO_iadd hC d_OR_step_89 ?_
  refine VO_istoreB hC d_OR_step_90 [(0, .ref (gad G 51)), (1, .int v1), (2, .int v2)] rfl (by decide) (fun x4 => ?_)
  refine VO_aload hC d_OR_step_91 1 rfl ?_
  refine VO_geti hC fl_OR_18 sh_OR rfl d_OR_step_92 ?_
  refine VO_const hC d_OR_step_95 ?_
  refine VO_isub hC d_OR_step_96 ?_
  refine VO_istoreB hC d_OR_step_97 [(3, .int x4), (0, .ref (gad G 51)), (1, .int v1), (2, .int v2)] rfl (by decide) (fun x5 => ?_)
  exact VO_sub [2, 1, 0] rfl (B_OR_step_99 hC x4 x5 s3)
set_option maxRecDepth 20000 in
theorem BH_OR_step_51 {G : MCx} (hC : C0 G "AccusedChoose$Orders" b_OR_step 5 3) {v1 : Int32} (K51 : Int32 × St → Option (Int32 × St)) (hK51 : ∀ (w2 : Int32) (s : St), VO G (RZ G b_OR_step) (K51 (w2, s)) 51 [(0, .ref (gad G 51)), (1, .int v1), (2, .int w2)] [] s) (v2 : Int32) (s : St) : VO G (RZ G b_OR_step) (H_OR_step_51 v1 K51 v2 s) 51 [(0, .ref (gad G 51)), (1, .int v1), (2, .int v2)] [] s := by
  unfold H_OR_step_51
  refine VO_iload hC d_OR_step_51 2 rfl ?_
  refine VO_iload hC d_OR_step_52 1 rfl ?_
  refine VO_icmp_le hC d_OR_step_53 (fun _ => ?_) (fun _ => ?_)
  · exact (B_OR_step_81 hC v1 v2 s)
  · refine VO_aload hC d_OR_step_56 0 rfl ?_
    refine VO_getr (r := 52) hC fl_OR_9 sh_OR rfl d_OR_step_57 ?_
    refine VO_iload hC d_OR_step_60 2 rfl ?_
    refine VO_callNI hC [.ref (gad G 52), .int v2] [] nl_OR_29 d_OR_step_61 ys_AC_at (fun o h => M_AC_at hC.inj ia_52 h) (by decide) rfl rfl (Nat.le_of_ble_eq_true rfl) (fun o7 => ?_)
    refine VO_aload hC d_OR_step_64 0 rfl ?_
    refine VO_getr (r := 52) hC fl_OR_9 sh_OR rfl d_OR_step_65 ?_
    refine VO_iload hC d_OR_step_68 1 rfl ?_
    refine VO_callNI hC [.ref (gad G 52), .int v1] [.int o7.1] nl_OR_29 d_OR_step_69 ys_AC_at (fun o h => M_AC_at hC.inj ia_52 h) (by decide) rfl rfl (Nat.le_of_ble_eq_true rfl) (fun o8 => ?_)
    refine VO_icmp_gt hC d_OR_step_72 (fun _ => ?_) (fun _ => ?_)
    · exact (B_OR_step_81 hC v1 v2 o8.2)
    · refine VO_iincN hC d_OR_step_75 2 rfl (by decide : Int32.ofInt (-1) = -1) [(0, .ref (gad G 51)), (1, .int v1)] rfl (by decide) ?_
      refine VO_goto hC d_OR_step_78 ?_
      exact VO_sub [1, 2, 0] rfl (hK51 (v2 - 1) o8.2)
set_option maxRecDepth 20000 in
theorem B_OR_step_51 {G : MCx} (hC : C0 G "AccusedChoose$Orders" b_OR_step 5 3) (v1 : Int32) (v2 : Int32) (s : St) : VO G (RZ G b_OR_step) (F_OR_step_51 v1 v2 s) 51 [(0, .ref (gad G 51)), (1, .int v1), (2, .int v2)] [] s := by
  exact VO_fix (G_OR_step_51 v1) 51 (fun q => [(0, .ref (gad G 51)), (1, .int v1), (2, .int q.1)]) (fun q => q.2) (fun K hK q => BH_OR_step_51 hC K (fun w2 s => hK (w2, s)) q.1 q.2) FUEL (v2, s)
set_option maxRecDepth 20000 in
theorem B_OR_step_38 {G : MCx} (hC : C0 G "AccusedChoose$Orders" b_OR_step 5 3) (v1 : Int32) (s : St) : VO G (RZ G b_OR_step) (F_OR_step_38 v1 s) 38 [(0, .ref (gad G 51)), (1, .int v1)] [] s := by
  unfold F_OR_step_38
  refine VO_iload hC d_OR_step_38 1 rfl ?_
  refine VO_if_ge hC d_OR_step_39 (fun _ => ?_) (fun _ => ?_)
  · refine VO_aload hC d_OR_step_44 0 rfl ?_
    refine VO_geti hC fl_OR_18 sh_OR rfl d_OR_step_45 ?_
    refine VO_const hC d_OR_step_48 ?_
    refine VO_isub hC d_OR_step_49 ?_
    refine VO_istoreB hC d_OR_step_50 [(0, .ref (gad G 51)), (1, .int v1)] rfl (by decide) (fun x2 => ?_)
    exact VO_sub [1, 2, 0] rfl (B_OR_step_51 hC v1 x2 s)
  · refine VO_const hC d_OR_step_42 ?_
    exact VO_z0 d_OR_step_43
set_option maxRecDepth 20000 in
theorem BH_OR_step_7 {G : MCx} (hC : C0 G "AccusedChoose$Orders" b_OR_step 5 3) (K7 : Int32 × St → Option (Int32 × St)) (hK7 : ∀ (w1 : Int32) (s : St), VO G (RZ G b_OR_step) (K7 (w1, s)) 7 [(0, .ref (gad G 51)), (1, .int w1)] [] s) (v1 : Int32) (s : St) : VO G (RZ G b_OR_step) (H_OR_step_7 K7 v1 s) 7 [(0, .ref (gad G 51)), (1, .int v1)] [] s := by
  unfold H_OR_step_7
  refine VO_iload hC d_OR_step_7 1 rfl ?_
  refine VO_if_lt hC d_OR_step_8 (fun _ => ?_) (fun _ => ?_)
  · exact (B_OR_step_38 hC v1 s)
  · refine VO_aload hC d_OR_step_11 0 rfl ?_
    refine VO_getr (r := 52) hC fl_OR_9 sh_OR rfl d_OR_step_12 ?_
    refine VO_iload hC d_OR_step_15 1 rfl ?_
    refine VO_callNI hC [.ref (gad G 52), .int v1] [] nl_OR_29 d_OR_step_16 ys_AC_at (fun o h => M_AC_at hC.inj ia_52 h) (by decide) rfl rfl (Nat.le_of_ble_eq_true rfl) (fun o9 => ?_)
    refine VO_aload hC d_OR_step_19 0 rfl ?_
    refine VO_getr (r := 52) hC fl_OR_9 sh_OR rfl d_OR_step_20 ?_
    refine VO_iload hC d_OR_step_23 1 rfl ?_
    refine VO_const hC d_OR_step_24 ?_
    refine VO_iadd hC d_OR_step_25 ?_
    refine VO_callNI hC [.ref (gad G 52), .int (v1 + (1 : Int32))] [.int o9.1] nl_OR_29 d_OR_step_26 ys_AC_at (fun o h => M_AC_at hC.inj ia_52 h) (by decide) rfl rfl (Nat.le_of_ble_eq_true rfl) (fun o10 => ?_)
    refine VO_icmp_lt hC d_OR_step_29 (fun _ => ?_) (fun _ => ?_)
    · exact (B_OR_step_38 hC v1 o10.2)
    · refine VO_iincN hC d_OR_step_32 1 rfl (by decide : Int32.ofInt (-1) = -1) [(0, .ref (gad G 51))] rfl (by decide) ?_
      refine VO_goto hC d_OR_step_35 ?_
      exact VO_sub [1, 0] rfl (hK7 (v1 - 1) o10.2)
set_option maxRecDepth 20000 in
theorem B_OR_step_7 {G : MCx} (hC : C0 G "AccusedChoose$Orders" b_OR_step 5 3) (v1 : Int32) (s : St) : VO G (RZ G b_OR_step) (F_OR_step_7 v1 s) 7 [(0, .ref (gad G 51)), (1, .int v1)] [] s := by
  exact VO_fix (G_OR_step_7) 7 (fun q => [(0, .ref (gad G 51)), (1, .int q.1)]) (fun q => q.2) (fun K hK q => BH_OR_step_7 hC K (fun w1 s => hK (w1, s)) q.1 q.2) FUEL (v1, s)
set_option maxRecDepth 20000 in
theorem B_OR_step {G : MCx} (hC : C0 G "AccusedChoose$Orders" b_OR_step 5 3) (s : St) : VO G (RZ G b_OR_step) (F_OR_step s) 0 [(0, .ref (gad G 51))] [] s := by
  unfold F_OR_step
  refine VO_aload hC d_OR_step_0 0 rfl ?_
  refine VO_geti hC fl_OR_18 sh_OR rfl d_OR_step_1 ?_
  refine VO_const hC d_OR_step_4 ?_
  refine VO_isub hC d_OR_step_5 ?_
  refine VO_istoreB hC d_OR_step_6 [(0, .ref (gad G 51))] rfl (by decide) (fun x1 => ?_)
  exact VO_sub [1, 0] rfl (B_OR_step_7 hC x1 s)
set_option maxRecDepth 20000 in
theorem M_OR_step {l : Launch} {D : va_G} {ad : Nat → Nat} {cI cL : ClassId} (hj : Inj ad) {s : St} {o : Int32 × St} (h : F_OR_step s = some o) : Cn l D ad cI cL y_OR_step b_OR_step 5 (some .boolean) 3 [.ref (ad 51)] s (some (.int o.1)) o.2 := by
  refine Cn_ofZ hj (plainFor_of_name (by decide)) (Nat.le_of_ble_eq_true rfl) [(0, .ref (ad 51))] rfl (fun G hC e1 e2 e3 e4 e5 hR => ?_)
  subst e1; subst e2; subst e3; subst e4; subst e5
  exact B_OR_step hC s o h hR
theorem d_PA_shift_0 : PCi b_PA_shift 0 1 1 := Or.inl ⟨1, by decide +kernel, by decide, rfl⟩
theorem d_PA_shift_1 : PSi b_PA_shift 1 1 2 := Or.inl ⟨1, by decide +kernel, rfl, rfl⟩
theorem d_PA_shift_2 : PLi b_PA_shift 2 1 3 := Or.inl ⟨1, by decide +kernel, rfl, rfl⟩
theorem d_PA_shift_3 : PLa b_PA_shift 3 0 4 := Or.inl ⟨0, by decide +kernel, rfl, rfl⟩
theorem d_PA_shift_4 : DR b_PA_shift 4 (.arraylength) 1 5 := ⟨by decide +kernel, rfl⟩
theorem d_PA_shift_5 : DJ b_PA_shift 5 (.if_icmp .ge) 8 22 := ⟨17, by decide +kernel, rfl, by decide⟩
theorem d_PA_shift_8 : PLa b_PA_shift 8 0 9 := Or.inl ⟨0, by decide +kernel, rfl, rfl⟩
theorem d_PA_shift_9 : PLi b_PA_shift 9 1 10 := Or.inl ⟨1, by decide +kernel, rfl, rfl⟩
theorem d_PA_shift_10 : PCi b_PA_shift 10 1 11 := Or.inl ⟨1, by decide +kernel, by decide, rfl⟩
theorem d_PA_shift_11 : DR b_PA_shift 11 (.isub) 1 12 := ⟨by decide +kernel, rfl⟩
theorem d_PA_shift_12 : PLa b_PA_shift 12 0 13 := Or.inl ⟨0, by decide +kernel, rfl, rfl⟩
theorem d_PA_shift_13 : PLi b_PA_shift 13 1 14 := Or.inl ⟨1, by decide +kernel, rfl, rfl⟩
theorem d_PA_shift_14 : DR b_PA_shift 14 (.iaload) 1 15 := ⟨by decide +kernel, rfl⟩
theorem d_PA_shift_15 : DR b_PA_shift 15 (.iastore) 1 16 := ⟨by decide +kernel, rfl⟩
theorem d_PA_shift_16 : DR b_PA_shift 16 (.iinc 1 1) 3 19 := ⟨by decide +kernel, rfl⟩
theorem d_PA_shift_19 : DJ b_PA_shift 19 .goto 22 2 := ⟨-17, by decide +kernel, rfl, by decide⟩
theorem d_PA_shift_22 : DR b_PA_shift 22 (.return_) 1 23 := ⟨by decide +kernel, rfl⟩
set_option maxRecDepth 20000 in
theorem BH_PA_shift_2 {G : MCx} (hC : C0 G "AccusedChoose$Past" b_PA_shift 2 1) {t0 : Nat} (h0 : isIA t0) (K2 : Int32 × St → Option (St)) (hK2 : ∀ (w1 : Int32) (s : St), VO G (RV G b_PA_shift) (K2 (w1, s)) 2 [(0, .ref (gad G t0)), (1, .int w1)] [] s) (v1 : Int32) (s : St) : VO G (RV G b_PA_shift) (H_PA_shift_2 t0 K2 v1 s) 2 [(0, .ref (gad G t0)), (1, .int v1)] [] s := by
  unfold H_PA_shift_2
  refine VO_iload hC d_PA_shift_2 1 rfl ?_
  refine VO_aload hC d_PA_shift_3 0 rfl ?_
  refine VO_alen hC h0 d_PA_shift_4 ?_
  refine VO_icmp_ge hC d_PA_shift_5 (fun _ => ?_) (fun _ => ?_)
  · exact VO_return d_PA_shift_22
  · refine VO_aload hC d_PA_shift_8 0 rfl ?_
    refine VO_iload hC d_PA_shift_9 1 rfl ?_
    refine VO_const hC d_PA_shift_10 ?_
    refine VO_isub hC d_PA_shift_11 ?_
    refine VO_aload hC d_PA_shift_12 0 rfl ?_
    refine VO_iload hC d_PA_shift_13 1 rfl ?_
    refine VO_iaload hC h0 d_PA_shift_14 (fun x1 => ?_)
    refine VO_iastore hC h0 d_PA_shift_15 (fun s2 => ?_)
    refine VO_iinc hC d_PA_shift_16 1 rfl (by decide : Int32.ofInt 1 = 1) [(0, .ref (gad G t0))] rfl (by decide) ?_
    refine VO_goto hC d_PA_shift_19 ?_
    exact VO_sub [1, 0] rfl (hK2 (v1 + 1) s2)
set_option maxRecDepth 20000 in
theorem B_PA_shift_2 {G : MCx} (hC : C0 G "AccusedChoose$Past" b_PA_shift 2 1) {t0 : Nat} (h0 : isIA t0) (v1 : Int32) (s : St) : VO G (RV G b_PA_shift) (F_PA_shift_2 t0 v1 s) 2 [(0, .ref (gad G t0)), (1, .int v1)] [] s := by
  exact VO_fix (G_PA_shift_2 t0) 2 (fun q => [(0, .ref (gad G t0)), (1, .int q.1)]) (fun q => q.2) (fun K hK q => BH_PA_shift_2 hC h0 K (fun w1 s => hK (w1, s)) q.1 q.2) FUEL (v1, s)
set_option maxRecDepth 20000 in
theorem B_PA_shift {G : MCx} (hC : C0 G "AccusedChoose$Past" b_PA_shift 2 1) {t0 : Nat} (h0 : isIA t0) (s : St) : VO G (RV G b_PA_shift) (F_PA_shift t0 s) 0 [(0, .ref (gad G t0))] [] s := by
  unfold F_PA_shift
  refine VO_const hC d_PA_shift_0 ?_
  refine VO_istore hC d_PA_shift_1 [(0, .ref (gad G t0))] rfl (by decide) ?_
  exact VO_sub [1, 0] rfl (B_PA_shift_2 hC h0 (1 : Int32) s)
set_option maxRecDepth 20000 in
theorem M_PA_shift {l : Launch} {D : va_G} {ad : Nat → Nat} {cI cL : ClassId} (hj : Inj ad) {t0 : Nat} (h0 : isIA t0) {s : St} {o : St} (h : F_PA_shift t0 s = some o) : Cn l D ad cI cL y_PA_shift b_PA_shift 2 none 1 [.ref (ad t0)] s none o := by
  refine Cn_ofV hj (plainFor_of_name (by decide)) (Nat.le_of_ble_eq_true rfl) [(0, .ref (ad t0))] rfl (fun G hC e1 e2 e3 e4 e5 hR => ?_)
  subst e1; subst e2; subst e3; subst e4; subst e5
  exact B_PA_shift hC h0 s o h hR
theorem d_PA_dropOldest_0 : PLa b_PA_dropOldest 0 0 1 := Or.inl ⟨0, by decide +kernel, rfl, rfl⟩
theorem d_PA_dropOldest_1 : DR b_PA_dropOldest 1 (.getfield 9) 3 4 := ⟨by decide +kernel, rfl⟩
theorem d_PA_dropOldest_4 : DR b_PA_dropOldest 4 (.invokestatic 62) 3 7 := ⟨by decide +kernel, rfl⟩
theorem d_PA_dropOldest_7 : PLa b_PA_dropOldest 7 0 8 := Or.inl ⟨0, by decide +kernel, rfl, rfl⟩
theorem d_PA_dropOldest_8 : DR b_PA_dropOldest 8 (.getfield 13) 3 11 := ⟨by decide +kernel, rfl⟩
theorem d_PA_dropOldest_11 : DR b_PA_dropOldest 11 (.invokestatic 62) 3 14 := ⟨by decide +kernel, rfl⟩
theorem d_PA_dropOldest_14 : PLa b_PA_dropOldest 14 0 15 := Or.inl ⟨0, by decide +kernel, rfl, rfl⟩
theorem d_PA_dropOldest_15 : DR b_PA_dropOldest 15 (.getfield 16) 3 18 := ⟨by decide +kernel, rfl⟩
theorem d_PA_dropOldest_18 : DR b_PA_dropOldest 18 (.invokestatic 62) 3 21 := ⟨by decide +kernel, rfl⟩
theorem d_PA_dropOldest_21 : PLa b_PA_dropOldest 21 0 22 := Or.inl ⟨0, by decide +kernel, rfl, rfl⟩
theorem d_PA_dropOldest_22 : DR b_PA_dropOldest 22 (.getfield 19) 3 25 := ⟨by decide +kernel, rfl⟩
theorem d_PA_dropOldest_25 : DR b_PA_dropOldest 25 (.invokestatic 62) 3 28 := ⟨by decide +kernel, rfl⟩
theorem d_PA_dropOldest_28 : PLa b_PA_dropOldest 28 0 29 := Or.inl ⟨0, by decide +kernel, rfl, rfl⟩
theorem d_PA_dropOldest_29 : DR b_PA_dropOldest 29 (.getfield 22) 3 32 := ⟨by decide +kernel, rfl⟩
theorem d_PA_dropOldest_32 : DR b_PA_dropOldest 32 (.invokestatic 62) 3 35 := ⟨by decide +kernel, rfl⟩
theorem d_PA_dropOldest_35 : PLa b_PA_dropOldest 35 0 36 := Or.inl ⟨0, by decide +kernel, rfl, rfl⟩
theorem d_PA_dropOldest_36 : DR b_PA_dropOldest 36 (.dup) 1 37 := ⟨by decide +kernel, rfl⟩
theorem d_PA_dropOldest_37 : DR b_PA_dropOldest 37 (.getfield 25) 3 40 := ⟨by decide +kernel, rfl⟩
theorem d_PA_dropOldest_40 : PCi b_PA_dropOldest 40 1 41 := Or.inl ⟨1, by decide +kernel, by decide, rfl⟩
theorem d_PA_dropOldest_41 : DR b_PA_dropOldest 41 (.isub) 1 42 := ⟨by decide +kernel, rfl⟩
theorem d_PA_dropOldest_42 : DR b_PA_dropOldest 42 (.putfield 25) 3 45 := ⟨by decide +kernel, rfl⟩
theorem d_PA_dropOldest_45 : DR b_PA_dropOldest 45 (.return_) 1 46 := ⟨by decide +kernel, rfl⟩
set_option maxRecDepth 20000 in
theorem B_PA_dropOldest {G : MCx} (hC : C0 G "AccusedChoose$Past" b_PA_dropOldest 1 2) (s : St) : VO G (RV G b_PA_dropOldest) (F_PA_dropOldest s) 0 [(0, .ref (gad G 28))] [] s := by
  unfold F_PA_dropOldest
  refine VO_aload hC d_PA_dropOldest_0 0 rfl ?_
  refine VO_getr (r := 29) hC fl_PA_9 sh_PA rfl d_PA_dropOldest_1 ?_
  refine VO_callSV hC [.ref (gad G 29)] [] ml_PA_62 d_PA_dropOldest_4 ys_PA_shift (fun o h => M_PA_shift hC.inj ia_29 h) (by decide) rfl rfl (Nat.le_of_ble_eq_true rfl) (fun s1 => ?_)
  refine VO_aload hC d_PA_dropOldest_7 0 rfl ?_
  refine VO_getr (r := 30) hC fl_PA_13 sh_PA rfl d_PA_dropOldest_8 ?_
  refine VO_callSV hC [.ref (gad G 30)] [] ml_PA_62 d_PA_dropOldest_11 ys_PA_shift (fun o h => M_PA_shift hC.inj ia_30 h) (by decide) rfl rfl (Nat.le_of_ble_eq_true rfl) (fun s2 => ?_)
  refine VO_aload hC d_PA_dropOldest_14 0 rfl ?_
  refine VO_getr (r := 31) hC fl_PA_16 sh_PA rfl d_PA_dropOldest_15 ?_
  refine VO_callSV hC [.ref (gad G 31)] [] ml_PA_62 d_PA_dropOldest_18 ys_PA_shift (fun o h => M_PA_shift hC.inj ia_31 h) (by decide) rfl rfl (Nat.le_of_ble_eq_true rfl) (fun s3 => ?_)
  refine VO_aload hC d_PA_dropOldest_21 0 rfl ?_
  refine VO_getr (r := 32) hC fl_PA_19 sh_PA rfl d_PA_dropOldest_22 ?_
  refine VO_callSV hC [.ref (gad G 32)] [] ml_PA_62 d_PA_dropOldest_25 ys_PA_shift (fun o h => M_PA_shift hC.inj ia_32 h) (by decide) rfl rfl (Nat.le_of_ble_eq_true rfl) (fun s4 => ?_)
  refine VO_aload hC d_PA_dropOldest_28 0 rfl ?_
  refine VO_getr (r := 33) hC fl_PA_22 sh_PA rfl d_PA_dropOldest_29 ?_
  refine VO_callSV hC [.ref (gad G 33)] [] ml_PA_62 d_PA_dropOldest_32 ys_PA_shift (fun o h => M_PA_shift hC.inj ia_33 h) (by decide) rfl rfl (Nat.le_of_ble_eq_true rfl) (fun s5 => ?_)
  refine VO_aload hC d_PA_dropOldest_35 0 rfl ?_
  refine VO_dup hC d_PA_dropOldest_36 rfl ?_
  refine VO_geti hC fl_PA_25 sh_PA rfl d_PA_dropOldest_37 ?_
  refine VO_const hC d_PA_dropOldest_40 ?_
  refine VO_isub hC d_PA_dropOldest_41 ?_
  refine VO_puti hC fw_PA_25 sh_PA rfl d_PA_dropOldest_42 (fun s6 => ?_)
  exact VO_return d_PA_dropOldest_45
set_option maxRecDepth 20000 in
theorem M_PA_dropOldest {l : Launch} {D : va_G} {ad : Nat → Nat} {cI cL : ClassId} (hj : Inj ad) {s : St} {o : St} (h : F_PA_dropOldest s = some o) : Cn l D ad cI cL y_PA_dropOldest b_PA_dropOldest 1 none 2 [.ref (ad 28)] s none o := by
  refine Cn_ofV hj (plainFor_of_name (by decide)) (Nat.le_of_ble_eq_true rfl) [(0, .ref (ad 28))] rfl (fun G hC e1 e2 e3 e4 e5 hR => ?_)
  subst e1; subst e2; subst e3; subst e4; subst e5
  exact B_PA_dropOldest hC s o h hR
theorem d_PA_add_0 : PLa b_PA_add 0 0 1 := Or.inl ⟨0, by decide +kernel, rfl, rfl⟩
theorem d_PA_add_1 : DR b_PA_add 1 (.getfield 25) 3 4 := ⟨by decide +kernel, rfl⟩
theorem d_PA_add_4 : PCi b_PA_add 4 8 6 := Or.inr (Or.inl ⟨8, by decide +kernel, by decide, rfl⟩)
theorem d_PA_add_6 : DJ b_PA_add 6 (.if_icmp .lt) 9 13 := ⟨7, by decide +kernel, rfl, by decide⟩
theorem d_PA_add_9 : PLa b_PA_add 9 0 10 := Or.inl ⟨0, by decide +kernel, rfl, rfl⟩
theorem d_PA_add_10 : DR b_PA_add 10 (.invokevirtual 29) 3 13 := ⟨by decide +kernel, rfl⟩
theorem d_PA_add_13 : PLa b_PA_add 13 0 14 := Or.inl ⟨0, by decide +kernel, rfl, rfl⟩
theorem d_PA_add_14 : DR b_PA_add 14 (.getfield 9) 3 17 := ⟨by decide +kernel, rfl⟩
theorem d_PA_add_17 : PLa b_PA_add 17 0 18 := Or.inl ⟨0, by decide +kernel, rfl, rfl⟩
theorem d_PA_add_18 : DR b_PA_add 18 (.getfield 25) 3 21 := ⟨by decide +kernel, rfl⟩
theorem d_PA_add_21 : PLi b_PA_add 21 1 22 := Or.inl ⟨1, by decide +kernel, rfl, rfl⟩
theorem d_PA_add_22 : DR b_PA_add 22 (.invokestatic 32) 3 25 := ⟨by decide +kernel, rfl⟩
theorem d_PA_add_25 : PLa b_PA_add 25 0 26 := Or.inl ⟨0, by decide +kernel, rfl, rfl⟩
theorem d_PA_add_26 : DR b_PA_add 26 (.getfield 13) 3 29 := ⟨by decide +kernel, rfl⟩
theorem d_PA_add_29 : PLa b_PA_add 29 0 30 := Or.inl ⟨0, by decide +kernel, rfl, rfl⟩
theorem d_PA_add_30 : DR b_PA_add 30 (.getfield 25) 3 33 := ⟨by decide +kernel, rfl⟩
theorem d_PA_add_33 : PLi b_PA_add 33 2 34 := Or.inl ⟨2, by decide +kernel, rfl, rfl⟩
theorem d_PA_add_34 : DR b_PA_add 34 (.invokestatic 32) 3 37 := ⟨by decide +kernel, rfl⟩
theorem d_PA_add_37 : PLa b_PA_add 37 0 38 := Or.inl ⟨0, by decide +kernel, rfl, rfl⟩
theorem d_PA_add_38 : DR b_PA_add 38 (.getfield 16) 3 41 := ⟨by decide +kernel, rfl⟩
theorem d_PA_add_41 : PLa b_PA_add 41 0 42 := Or.inl ⟨0, by decide +kernel, rfl, rfl⟩
theorem d_PA_add_42 : DR b_PA_add 42 (.getfield 25) 3 45 := ⟨by decide +kernel, rfl⟩
theorem d_PA_add_45 : PLi b_PA_add 45 3 46 := Or.inl ⟨3, by decide +kernel, rfl, rfl⟩
theorem d_PA_add_46 : DR b_PA_add 46 (.invokestatic 32) 3 49 := ⟨by decide +kernel, rfl⟩
theorem d_PA_add_49 : PLa b_PA_add 49 0 50 := Or.inl ⟨0, by decide +kernel, rfl, rfl⟩
theorem d_PA_add_50 : DR b_PA_add 50 (.getfield 19) 3 53 := ⟨by decide +kernel, rfl⟩
theorem d_PA_add_53 : PLa b_PA_add 53 0 54 := Or.inl ⟨0, by decide +kernel, rfl, rfl⟩
theorem d_PA_add_54 : DR b_PA_add 54 (.getfield 25) 3 57 := ⟨by decide +kernel, rfl⟩
theorem d_PA_add_57 : PLi b_PA_add 57 4 59 := Or.inr ⟨by decide +kernel, rfl⟩
theorem d_PA_add_59 : DR b_PA_add 59 (.invokestatic 32) 3 62 := ⟨by decide +kernel, rfl⟩
theorem d_PA_add_62 : PLa b_PA_add 62 0 63 := Or.inl ⟨0, by decide +kernel, rfl, rfl⟩
theorem d_PA_add_63 : DR b_PA_add 63 (.getfield 22) 3 66 := ⟨by decide +kernel, rfl⟩
theorem d_PA_add_66 : PLa b_PA_add 66 0 67 := Or.inl ⟨0, by decide +kernel, rfl, rfl⟩
theorem d_PA_add_67 : DR b_PA_add 67 (.getfield 25) 3 70 := ⟨by decide +kernel, rfl⟩
theorem d_PA_add_70 : PLi b_PA_add 70 5 72 := Or.inr ⟨by decide +kernel, rfl⟩
theorem d_PA_add_72 : DR b_PA_add 72 (.invokestatic 32) 3 75 := ⟨by decide +kernel, rfl⟩
theorem d_PA_add_75 : PLa b_PA_add 75 0 76 := Or.inl ⟨0, by decide +kernel, rfl, rfl⟩
theorem d_PA_add_76 : DR b_PA_add 76 (.dup) 1 77 := ⟨by decide +kernel, rfl⟩
theorem d_PA_add_77 : DR b_PA_add 77 (.getfield 25) 3 80 := ⟨by decide +kernel, rfl⟩
theorem d_PA_add_80 : PCi b_PA_add 80 1 81 := Or.inl ⟨1, by decide +kernel, by decide, rfl⟩
theorem d_PA_add_81 : DR b_PA_add 81 (.iadd) 1 82 := ⟨by decide +kernel, rfl⟩
theorem d_PA_add_82 : DR b_PA_add 82 (.putfield 25) 3 85 := ⟨by decide +kernel, rfl⟩
theorem d_PA_add_85 : DR b_PA_add 85 (.return_) 1 86 := ⟨by decide +kernel, rfl⟩
set_option maxRecDepth 20000 in
theorem B_PA_add_13 {G : MCx} (hC : C0 G "AccusedChoose$Past" b_PA_add 6 3) (v1 : Int32) (v2 : Int32) (v3 : Int32) (v4 : Int32) (v5 : Int32) (s : St) : VO G (RV G b_PA_add) (F_PA_add_13 v1 v2 v3 v4 v5 s) 13 [(0, .ref (gad G 28)), (1, .int v1), (2, .int v2), (3, .int v3), (4, .int v4), (5, .int v5)] [] s := by
  unfold F_PA_add_13
  refine VO_aload hC d_PA_add_13 0 rfl ?_
  refine VO_getr (r := 29) hC fl_PA_9 sh_PA rfl d_PA_add_14 ?_
  refine VO_aload hC d_PA_add_17 0 rfl ?_
  refine VO_geti hC fl_PA_25 sh_PA rfl d_PA_add_18 ?_
  refine VO_iload hC d_PA_add_21 1 rfl ?_
  refine VO_callNV hC [.ref (gad G 29), .int (rd s 28 0), .int v1] [] nl_PA_32 d_PA_add_22 ys_AC_put (fun o h => M_AC_put hC.inj ia_29 h) (by decide) rfl rfl (Nat.le_of_ble_eq_true rfl) (fun s1 => ?_)
  refine VO_aload hC d_PA_add_25 0 rfl ?_
  refine VO_getr (r := 30) hC fl_PA_13 sh_PA rfl d_PA_add_26 ?_
  refine VO_aload hC d_PA_add_29 0 rfl ?_
  refine VO_geti hC fl_PA_25 sh_PA rfl d_PA_add_30 ?_
  refine VO_iload hC d_PA_add_33 2 rfl ?_
  refine VO_callNV hC [.ref (gad G 30), .int (rd s1 28 0), .int v2] [] nl_PA_32 d_PA_add_34 ys_AC_put (fun o h => M_AC_put hC.inj ia_30 h) (by decide) rfl rfl (Nat.le_of_ble_eq_true rfl) (fun s2 => ?_)
  refine VO_aload hC d_PA_add_37 0 rfl ?_
  refine VO_getr (r := 31) hC fl_PA_16 sh_PA rfl d_PA_add_38 ?_
  refine VO_aload hC d_PA_add_41 0 rfl ?_
  refine VO_geti hC fl_PA_25 sh_PA rfl d_PA_add_42 ?_
  refine VO_iload hC d_PA_add_45 3 rfl ?_
  refine VO_callNV hC [.ref (gad G 31), .int (rd s2 28 0), .int v3] [] nl_PA_32 d_PA_add_46 ys_AC_put (fun o h => M_AC_put hC.inj ia_31 h) (by decide) rfl rfl (Nat.le_of_ble_eq_true rfl) (fun s3 => ?_)
  refine VO_aload hC d_PA_add_49 0 rfl ?_
  refine VO_getr (r := 32) hC fl_PA_19 sh_PA rfl d_PA_add_50 ?_
  refine VO_aload hC d_PA_add_53 0 rfl ?_
  refine VO_geti hC fl_PA_25 sh_PA rfl d_PA_add_54 ?_
  refine VO_iload hC d_PA_add_57 4 rfl ?_
  refine VO_callNV hC [.ref (gad G 32), .int (rd s3 28 0), .int v4] [] nl_PA_32 d_PA_add_59 ys_AC_put (fun o h => M_AC_put hC.inj ia_32 h) (by decide) rfl rfl (Nat.le_of_ble_eq_true rfl) (fun s4 => ?_)
  refine VO_aload hC d_PA_add_62 0 rfl ?_
  refine VO_getr (r := 33) hC fl_PA_22 sh_PA rfl d_PA_add_63 ?_
  refine VO_aload hC d_PA_add_66 0 rfl ?_
  refine VO_geti hC fl_PA_25 sh_PA rfl d_PA_add_67 ?_
  refine VO_iload hC d_PA_add_70 5 rfl ?_
  refine VO_callNV hC [.ref (gad G 33), .int (rd s4 28 0), .int v5] [] nl_PA_32 d_PA_add_72 ys_AC_put (fun o h => M_AC_put hC.inj ia_33 h) (by decide) rfl rfl (Nat.le_of_ble_eq_true rfl) (fun s5 => ?_)
  refine VO_aload hC d_PA_add_75 0 rfl ?_
  refine VO_dup hC d_PA_add_76 rfl ?_
  refine VO_geti hC fl_PA_25 sh_PA rfl d_PA_add_77 ?_
  refine VO_const hC d_PA_add_80 ?_
  refine VO_iadd hC d_PA_add_81 ?_
  refine VO_puti hC fw_PA_25 sh_PA rfl d_PA_add_82 (fun s6 => ?_)
  exact VO_return d_PA_add_85
set_option maxRecDepth 20000 in
theorem B_PA_add {G : MCx} (hC : C0 G "AccusedChoose$Past" b_PA_add 6 3) (a1 : Int32) (a2 : Int32) (a3 : Int32) (a4 : Int32) (a5 : Int32) (s : St) : VO G (RV G b_PA_add) (F_PA_add a1 a2 a3 a4 a5 s) 0 [(0, .ref (gad G 28)), (1, .int a1), (2, .int a2), (3, .int a3), (4, .int a4), (5, .int a5)] [] s := by
  unfold F_PA_add
  refine VO_aload hC d_PA_add_0 0 rfl ?_
  refine VO_geti hC fl_PA_25 sh_PA rfl d_PA_add_1 ?_
  refine VO_const hC d_PA_add_4 ?_
  refine VO_icmp_lt hC d_PA_add_6 (fun _ => ?_) (fun _ => ?_)
  · exact (B_PA_add_13 hC a1 a2 a3 a4 a5 s)
  · refine VO_aload hC d_PA_add_9 0 rfl ?_
    refine VO_callVV hC [] [] ml_PA_29 d_PA_add_10 yv_PA_dropOldest sh_PA rfl rfl (fun o h => M_PA_dropOldest hC.inj h) (by decide) rfl rfl (Nat.le_of_ble_eq_true rfl) (fun s7 => ?_)
    exact (B_PA_add_13 hC a1 a2 a3 a4 a5 s7)
set_option maxRecDepth 20000 in
theorem M_PA_add {l : Launch} {D : va_G} {ad : Nat → Nat} {cI cL : ClassId} (hj : Inj ad) {a1 : Int32} {a2 : Int32} {a3 : Int32} {a4 : Int32} {a5 : Int32} {s : St} {o : St} (h : F_PA_add a1 a2 a3 a4 a5 s = some o) : Cn l D ad cI cL y_PA_add b_PA_add 6 none 3 [.ref (ad 28), .int a1, .int a2, .int a3, .int a4, .int a5] s none o := by
  refine Cn_ofV hj (plainFor_of_name (by decide)) (Nat.le_of_ble_eq_true rfl) [(0, .ref (ad 28)), (1, .int a1), (2, .int a2), (3, .int a3), (4, .int a4), (5, .int a5)] rfl (fun G hC e1 e2 e3 e4 e5 hR => ?_)
  subst e1; subst e2; subst e3; subst e4; subst e5
  exact B_PA_add hC a1 a2 a3 a4 a5 s o h hR
theorem d_PA_forget_0 : PLa b_PA_forget 0 0 1 := Or.inl ⟨0, by decide +kernel, rfl, rfl⟩
theorem d_PA_forget_1 : PCi b_PA_forget 1 0 2 := Or.inl ⟨0, by decide +kernel, by decide, rfl⟩
theorem d_PA_forget_2 : DR b_PA_forget 2 (.putfield 25) 3 5 := ⟨by decide +kernel, rfl⟩
theorem d_PA_forget_5 : DR b_PA_forget 5 (.return_) 1 6 := ⟨by decide +kernel, rfl⟩
set_option maxRecDepth 20000 in
theorem B_PA_forget {G : MCx} (hC : C0 G "AccusedChoose$Past" b_PA_forget 1 1) (s : St) : VO G (RV G b_PA_forget) (F_PA_forget s) 0 [(0, .ref (gad G 28))] [] s := by
  unfold F_PA_forget
  refine VO_aload hC d_PA_forget_0 0 rfl ?_
  refine VO_const hC d_PA_forget_1 ?_
  refine VO_puti hC fw_PA_25 sh_PA rfl d_PA_forget_2 (fun s1 => ?_)
  exact VO_return d_PA_forget_5
set_option maxRecDepth 20000 in
theorem M_PA_forget {l : Launch} {D : va_G} {ad : Nat → Nat} {cI cL : ClassId} (hj : Inj ad) {s : St} {o : St} (h : F_PA_forget s = some o) : Cn l D ad cI cL y_PA_forget b_PA_forget 1 none 1 [.ref (ad 28)] s none o := by
  refine Cn_ofV hj (plainFor_of_name (by decide)) (Nat.le_of_ble_eq_true rfl) [(0, .ref (ad 28))] rfl (fun G hC e1 e2 e3 e4 e5 hR => ?_)
  subst e1; subst e2; subst e3; subst e4; subst e5
  exact B_PA_forget hC s o h hR
theorem d_PA_takeBack_0 : PLa b_PA_takeBack 0 0 1 := Or.inl ⟨0, by decide +kernel, rfl, rfl⟩
theorem d_PA_takeBack_1 : DR b_PA_takeBack 1 (.getfield 25) 3 4 := ⟨by decide +kernel, rfl⟩
theorem d_PA_takeBack_4 : DJ b_PA_takeBack 4 (.ifCond .gt) 7 8 := ⟨4, by decide +kernel, rfl, by decide⟩
theorem d_PA_takeBack_7 : DR b_PA_takeBack 7 (.return_) 1 8 := ⟨by decide +kernel, rfl⟩
theorem d_PA_takeBack_8 : PLa b_PA_takeBack 8 0 9 := Or.inl ⟨0, by decide +kernel, rfl, rfl⟩
theorem d_PA_takeBack_9 : DR b_PA_takeBack 9 (.dup) 1 10 := ⟨by decide +kernel, rfl⟩
theorem d_PA_takeBack_10 : DR b_PA_takeBack 10 (.getfield 25) 3 13 := ⟨by decide +kernel, rfl⟩
theorem d_PA_takeBack_13 : PCi b_PA_takeBack 13 1 14 := Or.inl ⟨1, by decide +kernel, by decide, rfl⟩
theorem d_PA_takeBack_14 : DR b_PA_takeBack 14 (.isub) 1 15 := ⟨by decide +kernel, rfl⟩
theorem d_PA_takeBack_15 : DR b_PA_takeBack 15 (.putfield 25) 3 18 := ⟨by decide +kernel, rfl⟩
theorem d_PA_takeBack_18 : PLa b_PA_takeBack 18 0 19 := Or.inl ⟨0, by decide +kernel, rfl, rfl⟩
theorem d_PA_takeBack_19 : DR b_PA_takeBack 19 (.getfield 13) 3 22 := ⟨by decide +kernel, rfl⟩
theorem d_PA_takeBack_22 : PLa b_PA_takeBack 22 0 23 := Or.inl ⟨0, by decide +kernel, rfl, rfl⟩
theorem d_PA_takeBack_23 : DR b_PA_takeBack 23 (.getfield 25) 3 26 := ⟨by decide +kernel, rfl⟩
theorem d_PA_takeBack_26 : DR b_PA_takeBack 26 (.invokestatic 38) 3 29 := ⟨by decide +kernel, rfl⟩
theorem d_PA_takeBack_29 : PSi b_PA_takeBack 29 2 30 := Or.inl ⟨2, by decide +kernel, rfl, rfl⟩
theorem d_PA_takeBack_30 : PLa b_PA_takeBack 30 0 31 := Or.inl ⟨0, by decide +kernel, rfl, rfl⟩
theorem d_PA_takeBack_31 : DR b_PA_takeBack 31 (.getfield 16) 3 34 := ⟨by decide +kernel, rfl⟩
theorem d_PA_takeBack_34 : PLa b_PA_takeBack 34 0 35 := Or.inl ⟨0, by decide +kernel, rfl, rfl⟩
theorem d_PA_takeBack_35 : DR b_PA_takeBack 35 (.getfield 25) 3 38 := ⟨by decide +kernel, rfl⟩
theorem d_PA_takeBack_38 : DR b_PA_takeBack 38 (.invokestatic 38) 3 41 := ⟨by decide +kernel, rfl⟩
theorem d_PA_takeBack_41 : PSi b_PA_takeBack 41 3 42 := Or.inl ⟨3, by decide +kernel, rfl, rfl⟩
theorem d_PA_takeBack_42 : PLa b_PA_takeBack 42 0 43 := Or.inl ⟨0, by decide +kernel, rfl, rfl⟩
theorem d_PA_takeBack_43 : DR b_PA_takeBack 43 (.getfield 9) 3 46 := ⟨by decide +kernel, rfl⟩
theorem d_PA_takeBack_46 : PLa b_PA_takeBack 46 0 47 := Or.inl ⟨0, by decide +kernel, rfl, rfl⟩
theorem d_PA_takeBack_47 : DR b_PA_takeBack 47 (.getfield 25) 3 50 := ⟨by decide +kernel, rfl⟩
theorem d_PA_takeBack_50 : DR b_PA_takeBack 50 (.invokestatic 38) 3 53 := ⟨by decide +kernel, rfl⟩
theorem d_PA_takeBack_53 : decode b_PA_takeBack 53 = .ok (.lookupswitch 52 #[(0, 27), (1, 43)], 27) := by decide +kernel
theorem d_PA_takeBack_80 : PLa b_PA_takeBack 80 1 81 := Or.inl ⟨1, by decide +kernel, rfl, rfl⟩
theorem d_PA_takeBack_81 : DR b_PA_takeBack 81 (.getfield 42) 3 84 := ⟨by decide +kernel, rfl⟩
theorem d_PA_takeBack_84 : PLa b_PA_takeBack 84 1 85 := Or.inl ⟨1, by decide +kernel, rfl, rfl⟩
theorem d_PA_takeBack_85 : DR b_PA_takeBack 85 (.getfield 47) 3 88 := ⟨by decide +kernel, rfl⟩
theorem d_PA_takeBack_88 : PLi b_PA_takeBack 88 2 89 := Or.inl ⟨2, by decide +kernel, rfl, rfl⟩
theorem d_PA_takeBack_89 : PLi b_PA_takeBack 89 3 90 := Or.inl ⟨3, by decide +kernel, rfl, rfl⟩
theorem d_PA_takeBack_90 : DR b_PA_takeBack 90 (.invokestatic 50) 3 93 := ⟨by decide +kernel, rfl⟩
theorem d_PA_takeBack_93 : DJ b_PA_takeBack 93 .goto 96 133 := ⟨40, by decide +kernel, rfl, by decide⟩
theorem d_PA_takeBack_96 : PLa b_PA_takeBack 96 1 97 := Or.inl ⟨1, by decide +kernel, rfl, rfl⟩
theorem d_PA_takeBack_97 : PLi b_PA_takeBack 97 2 98 := Or.inl ⟨2, by decide +kernel, rfl, rfl⟩
theorem d_PA_takeBack_98 : PLi b_PA_takeBack 98 3 99 := Or.inl ⟨3, by decide +kernel, rfl, rfl⟩
theorem d_PA_takeBack_99 : DR b_PA_takeBack 99 (.invokevirtual 54) 3 102 := ⟨by decide +kernel, rfl⟩
theorem d_PA_takeBack_102 : DJ b_PA_takeBack 102 .goto 105 133 := ⟨31, by decide +kernel, rfl, by decide⟩
theorem d_PA_takeBack_105 : PLa b_PA_takeBack 105 1 106 := Or.inl ⟨1, by decide +kernel, rfl, rfl⟩
theorem d_PA_takeBack_106 : PLi b_PA_takeBack 106 2 107 := Or.inl ⟨2, by decide +kernel, rfl, rfl⟩
theorem d_PA_takeBack_107 : PLi b_PA_takeBack 107 3 108 := Or.inl ⟨3, by decide +kernel, rfl, rfl⟩
theorem d_PA_takeBack_108 : PLa b_PA_takeBack 108 0 109 := Or.inl ⟨0, by decide +kernel, rfl, rfl⟩
theorem d_PA_takeBack_109 : DR b_PA_takeBack 109 (.getfield 19) 3 112 := ⟨by decide +kernel, rfl⟩
theorem d_PA_takeBack_112 : PLa b_PA_takeBack 112 0 113 := Or.inl ⟨0, by decide +kernel, rfl, rfl⟩
theorem d_PA_takeBack_113 : DR b_PA_takeBack 113 (.getfield 25) 3 116 := ⟨by decide +kernel, rfl⟩
theorem d_PA_takeBack_116 : DR b_PA_takeBack 116 (.invokestatic 38) 3 119 := ⟨by decide +kernel, rfl⟩
theorem d_PA_takeBack_119 : PLa b_PA_takeBack 119 0 120 := Or.inl ⟨0, by decide +kernel, rfl, rfl⟩
theorem d_PA_takeBack_120 : DR b_PA_takeBack 120 (.getfield 22) 3 123 := ⟨by decide +kernel, rfl⟩
theorem d_PA_takeBack_123 : PLa b_PA_takeBack 123 0 124 := Or.inl ⟨0, by decide +kernel, rfl, rfl⟩
theorem d_PA_takeBack_124 : DR b_PA_takeBack 124 (.getfield 25) 3 127 := ⟨by decide +kernel, rfl⟩
theorem d_PA_takeBack_127 : DR b_PA_takeBack 127 (.invokestatic 38) 3 130 := ⟨by decide +kernel, rfl⟩
theorem d_PA_takeBack_130 : DR b_PA_takeBack 130 (.invokevirtual 58) 3 133 := ⟨by decide +kernel, rfl⟩
theorem d_PA_takeBack_133 : DR b_PA_takeBack 133 (.return_) 1 134 := ⟨by decide +kernel, rfl⟩
set_option maxRecDepth 20000 in
theorem B_PA_takeBack {G : MCx} (hC : C0 G "AccusedChoose$Past" b_PA_takeBack 4 3) {t1 : Nat} (h1 : isNI t1) (s : St) : VO G (RV G b_PA_takeBack) (F_PA_takeBack t1 s) 0 [(0, .ref (gad G 28)), (1, .ref (gad G t1))] [] s := by
  unfold F_PA_takeBack
  refine VO_aload hC d_PA_takeBack_0 0 rfl ?_
  refine VO_geti hC fl_PA_25 sh_PA rfl d_PA_takeBack_1 ?_
  refine VO_if_gt hC d_PA_takeBack_4 (fun _ => ?_) (fun _ => ?_)
  · refine VO_aload hC d_PA_takeBack_8 0 rfl ?_
    refine VO_dup hC d_PA_takeBack_9 rfl ?_
    refine VO_geti hC fl_PA_25 sh_PA rfl d_PA_takeBack_10 ?_
    refine VO_const hC d_PA_takeBack_13 ?_
    refine VO_isub hC d_PA_takeBack_14 ?_
    refine VO_puti hC fw_PA_25 sh_PA rfl d_PA_takeBack_15 (fun s1 => ?_)
    refine VO_aload hC d_PA_takeBack_18 0 rfl ?_
    refine VO_getr (r := 30) hC fl_PA_13 sh_PA rfl d_PA_takeBack_19 ?_
    refine VO_aload hC d_PA_takeBack_22 0 rfl ?_
    refine VO_geti hC fl_PA_25 sh_PA rfl d_PA_takeBack_23 ?_
    refine VO_callNI hC [.ref (gad G 30), .int (rd s1 28 0)] [] nl_PA_38 d_PA_takeBack_26 ys_AC_at (fun o h => M_AC_at hC.inj ia_30 h) (by decide) rfl rfl (Nat.le_of_ble_eq_true rfl) (fun o2 => ?_)
    refine VO_istore hC d_PA_takeBack_29 [(0, .ref (gad G 28)), (1, .ref (gad G t1))] rfl (by decide) ?_
    refine VO_aload hC d_PA_takeBack_30 1 rfl ?_
    refine VO_getr (r := 31) hC fl_PA_16 sh_PA rfl d_PA_takeBack_31 ?_
    refine VO_aload hC d_PA_takeBack_34 1 rfl ?_
    refine VO_geti hC fl_PA_25 sh_PA rfl d_PA_takeBack_35 ?_
    refine VO_callNI hC [.ref (gad G 31), .int (rd o2.2 28 0)] [] nl_PA_38 d_PA_takeBack_38 ys_AC_at (fun o h => M_AC_at hC.inj ia_31 h) (by decide) rfl rfl (Nat.le_of_ble_eq_true rfl) (fun o3 => ?_)
    refine VO_istore hC d_PA_takeBack_41 [(2, .int o2.1), (0, .ref (gad G 28)), (1, .ref (gad G t1))] rfl (by decide) ?_
    refine VO_aload hC d_PA_takeBack_42 2 rfl ?_
    refine VO_getr (r := 29) hC fl_PA_9 sh_PA rfl d_PA_takeBack_43 ?_
    refine VO_aload hC d_PA_takeBack_46 2 rfl ?_
    refine VO_geti hC fl_PA_25 sh_PA rfl d_PA_takeBack_47 ?_
    refine VO_callNI hC [.ref (gad G 29), .int (rd o3.2 28 0)] [] nl_PA_38 d_PA_takeBack_50 ys_AC_at (fun o h => M_AC_at hC.inj ia_29 h) (by decide) rfl rfl (Nat.le_of_ble_eq_true rfl) (fun o4 => ?_)
    refine VO_topi (fun x5 => ?_)
    refine VO_ite (fun c53_0 => ?_) (fun c53_0 => ?_)
    · refine VO_lsw (tgt := 80) (off := (27 : Int)) hC d_PA_takeBack_53 (by decide) (by first | (rw [c53_0]; done) | (rw [c53_0]; decide)) (by decide) ?_
      refine VO_aload hC d_PA_takeBack_80 3 rfl ?_
      refine VO_getr (r := (t1 + 8)) hC fl_PA_42 (sh_NI h1) rfl d_PA_takeBack_81 ?_
      refine VO_aload hC d_PA_takeBack_84 3 rfl ?_
      refine VO_geti hC fl_PA_47 (sh_NI h1) rfl d_PA_takeBack_85 ?_
      refine VO_iload hC d_PA_takeBack_88 1 rfl ?_
      refine VO_iload hC d_PA_takeBack_89 0 rfl ?_
      refine VO_callNV hC [.ref (gad G (t1 + 8)), .int (rd o4.2 t1 1), .int o2.1, .int o3.1] [] nl_PA_50 d_PA_takeBack_90 ys_AC_swapPlaces (fun o h => M_AC_swapPlaces hC.inj (ia_NI8 h1) h) (by decide) rfl rfl (Nat.le_of_ble_eq_true rfl) (fun s6 => ?_)
      refine VO_goto hC d_PA_takeBack_93 ?_
      exact VO_return d_PA_takeBack_133
    refine VO_ite (fun c53_1 => ?_) (fun c53_1 => ?_)
    · refine VO_lsw (tgt := 96) (off := (43 : Int)) hC d_PA_takeBack_53 (by decide) (by first | (rw [c53_1]; done) | (rw [c53_1]; decide)) (by decide) ?_
      refine VO_aload hC d_PA_takeBack_96 3 rfl ?_
      refine VO_iload hC d_PA_takeBack_97 1 rfl ?_
      refine VO_iload hC d_PA_takeBack_98 0 rfl ?_
      refine VO_callVV hC [.int o2.1, .int o3.1] [] ml_PA_54 d_PA_takeBack_99 yv_NI_turnAlibi (sh_NI h1) rfl rfl (fun o h => M_NI_turnAlibi hC.inj h1 h) (by decide) rfl rfl (Nat.le_of_ble_eq_true rfl) (fun s7 => ?_)
      refine VO_goto hC d_PA_takeBack_102 ?_
      exact VO_return d_PA_takeBack_133
    refine VO_lsw (tgt := 105) (off := (52 : Int)) hC d_PA_takeBack_53 (by decide) ((lv_osw c53_0 rfl).trans ((lv_osw c53_1 rfl))) (by decide) ?_
    refine VO_aload hC d_PA_takeBack_105 3 rfl ?_
    refine VO_iload hC d_PA_takeBack_106 1 rfl ?_
    refine VO_iload hC d_PA_takeBack_107 0 rfl ?_
    refine VO_aload hC d_PA_takeBack_108 2 rfl ?_
    refine VO_getr (r := 32) hC fl_PA_19 sh_PA rfl d_PA_takeBack_109 ?_
    refine VO_aload hC d_PA_takeBack_112 2 rfl ?_
    refine VO_geti hC fl_PA_25 sh_PA rfl d_PA_takeBack_113 ?_
    refine VO_callNI hC [.ref (gad G 32), .int (rd o4.2 28 0)] [.int o3.1, .int o2.1, .ref (gad G t1)] nl_PA_38 d_PA_takeBack_116 ys_AC_at (fun o h => M_AC_at hC.inj ia_32 h) (by decide) rfl rfl (Nat.le_of_ble_eq_true rfl) (fun o8 => ?_)
    refine VO_aload hC d_PA_takeBack_119 2 rfl ?_
    refine VO_getr (r := 33) hC fl_PA_22 sh_PA rfl d_PA_takeBack_120 ?_
    refine VO_aload hC d_PA_takeBack_123 2 rfl ?_
    refine VO_geti hC fl_PA_25 sh_PA rfl d_PA_takeBack_124 ?_
    refine VO_callNI hC [.ref (gad G 33), .int (rd o8.2 28 0)] [.int o8.1, .int o3.1, .int o2.1, .ref (gad G t1)] nl_PA_38 d_PA_takeBack_127 ys_AC_at (fun o h => M_AC_at hC.inj ia_33 h) (by decide) rfl rfl (Nat.le_of_ble_eq_true rfl) (fun o9 => ?_)
    refine VO_callVV hC [.int o2.1, .int o3.1, .int o8.1, .int o9.1] [] ml_PA_58 d_PA_takeBack_130 yv_NI_unpair (sh_NI h1) rfl rfl (fun o h => M_NI_unpair hC.inj h1 h) (by decide) rfl rfl (Nat.le_of_ble_eq_true rfl) (fun s10 => ?_)
    exact VO_return d_PA_takeBack_133
  · exact VO_return d_PA_takeBack_7
set_option maxRecDepth 20000 in
theorem M_PA_takeBack {l : Launch} {D : va_G} {ad : Nat → Nat} {cI cL : ClassId} (hj : Inj ad) {t1 : Nat} (h1 : isNI t1) {s : St} {o : St} (h : F_PA_takeBack t1 s = some o) : Cn l D ad cI cL y_PA_takeBack b_PA_takeBack 4 none 3 [.ref (ad 28), .ref (ad t1)] s none o := by
  refine Cn_ofV hj (plainFor_of_name (by decide)) (Nat.le_of_ble_eq_true rfl) [(0, .ref (ad 28)), (1, .ref (ad t1))] rfl (fun G hC e1 e2 e3 e4 e5 hR => ?_)
  subst e1; subst e2; subst e3; subst e4; subst e5
  exact B_PA_takeBack hC h1 s o h hR
theorem d_PR_fill_0 : PLa b_PR_fill 0 0 1 := Or.inl ⟨0, by decide +kernel, rfl, rfl⟩
theorem d_PR_fill_1 : PLa b_PR_fill 1 1 2 := Or.inl ⟨1, by decide +kernel, rfl, rfl⟩
theorem d_PR_fill_2 : DR b_PR_fill 2 (.getfield 15) 3 5 := ⟨by decide +kernel, rfl⟩
theorem d_PR_fill_5 : DR b_PR_fill 5 (.putfield 21) 3 8 := ⟨by decide +kernel, rfl⟩
theorem d_PR_fill_8 : PLa b_PR_fill 8 0 9 := Or.inl ⟨0, by decide +kernel, rfl, rfl⟩
theorem d_PR_fill_9 : PLa b_PR_fill 9 1 10 := Or.inl ⟨1, by decide +kernel, rfl, rfl⟩
theorem d_PR_fill_10 : DR b_PR_fill 10 (.getfield 22) 3 13 := ⟨by decide +kernel, rfl⟩
theorem d_PR_fill_13 : DR b_PR_fill 13 (.putfield 25) 3 16 := ⟨by decide +kernel, rfl⟩
theorem d_PR_fill_16 : PCi b_PR_fill 16 0 17 := Or.inl ⟨0, by decide +kernel, by decide, rfl⟩
theorem d_PR_fill_17 : PSi b_PR_fill 17 2 18 := Or.inl ⟨2, by decide +kernel, rfl, rfl⟩
theorem d_PR_fill_18 : PLi b_PR_fill 18 2 19 := Or.inl ⟨2, by decide +kernel, rfl, rfl⟩
theorem d_PR_fill_19 : PLa b_PR_fill 19 0 20 := Or.inl ⟨0, by decide +kernel, rfl, rfl⟩
theorem d_PR_fill_20 : DR b_PR_fill 20 (.getfield 21) 3 23 := ⟨by decide +kernel, rfl⟩
theorem d_PR_fill_23 : DJ b_PR_fill 23 (.if_icmp .ge) 26 87 := ⟨64, by decide +kernel, rfl, by decide⟩
theorem d_PR_fill_26 : PCi b_PR_fill 26 0 27 := Or.inl ⟨0, by decide +kernel, by decide, rfl⟩
theorem d_PR_fill_27 : PSi b_PR_fill 27 3 28 := Or.inl ⟨3, by decide +kernel, rfl, rfl⟩
theorem d_PR_fill_28 : PLi b_PR_fill 28 3 29 := Or.inl ⟨3, by decide +kernel, rfl, rfl⟩
theorem d_PR_fill_29 : PLa b_PR_fill 29 0 30 := Or.inl ⟨0, by decide +kernel, rfl, rfl⟩
theorem d_PR_fill_30 : DR b_PR_fill 30 (.getfield 25) 3 33 := ⟨by decide +kernel, rfl⟩
theorem d_PR_fill_33 : DJ b_PR_fill 33 (.if_icmp .ge) 36 81 := ⟨48, by decide +kernel, rfl, by decide⟩
theorem d_PR_fill_36 : PLa b_PR_fill 36 1 37 := Or.inl ⟨1, by decide +kernel, rfl, rfl⟩
theorem d_PR_fill_37 : PLi b_PR_fill 37 2 38 := Or.inl ⟨2, by decide +kernel, rfl, rfl⟩
theorem d_PR_fill_38 : PLi b_PR_fill 38 3 39 := Or.inl ⟨3, by decide +kernel, rfl, rfl⟩
theorem d_PR_fill_39 : DR b_PR_fill 39 (.invokevirtual 26) 3 42 := ⟨by decide +kernel, rfl⟩
theorem d_PR_fill_42 : DJ b_PR_fill 42 (.ifCond .eq) 45 54 := ⟨12, by decide +kernel, rfl, by decide⟩
theorem d_PR_fill_45 : PLa b_PR_fill 45 1 46 := Or.inl ⟨1, by decide +kernel, rfl, rfl⟩
theorem d_PR_fill_46 : PLi b_PR_fill 46 2 47 := Or.inl ⟨2, by decide +kernel, rfl, rfl⟩
theorem d_PR_fill_47 : PLi b_PR_fill 47 3 48 := Or.inl ⟨3, by decide +kernel, rfl, rfl⟩
theorem d_PR_fill_48 : DR b_PR_fill 48 (.invokevirtual 30) 3 51 := ⟨by decide +kernel, rfl⟩
theorem d_PR_fill_51 : DJ b_PR_fill 51 .goto 54 56 := ⟨5, by decide +kernel, rfl, by decide⟩
theorem d_PR_fill_54 : DR b_PR_fill 54 (.ldc 34) 2 56 := ⟨by decide +kernel, rfl⟩
theorem d_PR_fill_56 : PSi b_PR_fill 56 4 58 := Or.inr ⟨by decide +kernel, rfl⟩
theorem d_PR_fill_58 : PLa b_PR_fill 58 0 59 := Or.inl ⟨0, by decide +kernel, rfl, rfl⟩
theorem d_PR_fill_59 : DR b_PR_fill 59 (.getfield 9) 3 62 := ⟨by decide +kernel, rfl⟩
theorem d_PR_fill_62 : PLi b_PR_fill 62 2 63 := Or.inl ⟨2, by decide +kernel, rfl, rfl⟩
theorem d_PR_fill_63 : PCi b_PR_fill 63 2 64 := Or.inl ⟨2, by decide +kernel, by decide, rfl⟩
theorem d_PR_fill_64 : DR b_PR_fill 64 (.imul) 1 65 := ⟨by decide +kernel, rfl⟩
theorem d_PR_fill_65 : PCi b_PR_fill 65 7 67 := Or.inr (Or.inl ⟨7, by decide +kernel, by decide, rfl⟩)
theorem d_PR_fill_67 : DR b_PR_fill 67 (.imul) 1 68 := ⟨by decide +kernel, rfl⟩
theorem d_PR_fill_68 : PLi b_PR_fill 68 3 69 := Or.inl ⟨3, by decide +kernel, rfl, rfl⟩
theorem d_PR_fill_69 : DR b_PR_fill 69 (.iadd) 1 70 := ⟨by decide +kernel, rfl⟩
theorem d_PR_fill_70 : PLi b_PR_fill 70 4 72 := Or.inr ⟨by decide +kernel, rfl⟩
theorem d_PR_fill_72 : DR b_PR_fill 72 (.invokestatic 35) 3 75 := ⟨by decide +kernel, rfl⟩
theorem d_PR_fill_75 : DR b_PR_fill 75 (.iinc 3 1) 3 78 := ⟨by decide +kernel, rfl⟩
theorem d_PR_fill_78 : DJ b_PR_fill 78 .goto 81 28 := ⟨-50, by decide +kernel, rfl, by decide⟩
theorem d_PR_fill_81 : DR b_PR_fill 81 (.iinc 2 1) 3 84 := ⟨by decide +kernel, rfl⟩
theorem d_PR_fill_84 : DJ b_PR_fill 84 .goto 87 18 := ⟨-66, by decide +kernel, rfl, by decide⟩
theorem d_PR_fill_87 : DR b_PR_fill 87 (.return_) 1 88 := ⟨by decide +kernel, rfl⟩
set_option maxRecDepth 20000 in
theorem B_PR_fill_56 {G : MCx} (hC : C0 G "AccusedChoose$Prices" b_PR_fill 5 4) {t0 : Nat} (h0 : isPR t0) {t1 : Nat} (h1 : isNI t1) {v2 : Int32} (K18 : Int32 × St → Option (St)) (hK18 : ∀ (w2 : Int32) (s : St), VO G (RV G b_PR_fill) (K18 (w2, s)) 18 [(0, .ref (gad G t0)), (1, .ref (gad G t1)), (2, .int w2)] [] s) (K28 : Int32 × St → Option (St)) (hK28 : ∀ (w3 : Int32) (s : St), VO G (RV G b_PR_fill) (K28 (w3, s)) 28 [(0, .ref (gad G t0)), (1, .ref (gad G t1)), (2, .int v2), (3, .int w3)] [] s) (v3 : Int32) (z0 : Int32) (s : St) : VO G (RV G b_PR_fill) (F_PR_fill_56 t0 t1 K18 K28 v2 v3 z0 s) 56 [(0, .ref (gad G t0)), (1, .ref (gad G t1)), (2, .int v2), (3, .int v3)] [.int z0] s := by
  unfold F_PR_fill_56
  refine VO_istore hC d_PR_fill_56 [(0, .ref (gad G t0)), (1, .ref (gad G t1)), (2, .int v2), (3, .int v3)] rfl (by decide) ?_
  refine VO_aload hC d_PR_fill_58 1 rfl ?_
  refine VO_getr (r := (t0 + 1)) hC fl_PR_9 (sh_PR h0) rfl d_PR_fill_59 ?_
  refine VO_iload hC d_PR_fill_62 3 rfl ?_
  refine VO_const hC d_PR_fill_63 ?_
  refine VO_imul hC d_PR_fill_64 ?_
  refine VO_const hC d_PR_fill_65 ?_
  refine VO_imul hC d_PR_fill_67 ?_
  refine VO_iload hC d_PR_fill_68 4 rfl ?_
  refine VO_iadd hC d_PR_fill_69 ?_
  refine VO_iload hC d_PR_fill_70 0 rfl ?_
  refine VO_callNV hC [.ref (gad G (t0 + 1)), .int (((v2 * (2 : Int32)) * (7 : Int32)) + v3), .int z0] [] nl_PR_35 d_PR_fill_72 ys_AC_put (fun o h => M_AC_put hC.inj (ia_PR1 h0) h) (by decide) rfl rfl (Nat.le_of_ble_eq_true rfl) (fun s4 => ?_)
  refine VO_iinc hC d_PR_fill_75 4 rfl (by decide : Int32.ofInt 1 = 1) [(4, .int z0), (0, .ref (gad G t0)), (1, .ref (gad G t1)), (2, .int v2)] rfl (by decide) ?_
  refine VO_goto hC d_PR_fill_78 ?_
  exact VO_sub [2, 3, 4, 0] rfl (hK28 (v3 + 1) s4)
set_option maxRecDepth 20000 in
theorem BH_PR_fill_28 {G : MCx} (hC : C0 G "AccusedChoose$Prices" b_PR_fill 5 4) {t0 : Nat} (h0 : isPR t0) {t1 : Nat} (h1 : isNI t1) {v2 : Int32} (K18 : Int32 × St → Option (St)) (hK18 : ∀ (w2 : Int32) (s : St), VO G (RV G b_PR_fill) (K18 (w2, s)) 18 [(0, .ref (gad G t0)), (1, .ref (gad G t1)), (2, .int w2)] [] s) (K28 : Int32 × St → Option (St)) (hK28 : ∀ (w3 : Int32) (s : St), VO G (RV G b_PR_fill) (K28 (w3, s)) 28 [(0, .ref (gad G t0)), (1, .ref (gad G t1)), (2, .int v2), (3, .int w3)] [] s) (v3 : Int32) (s : St) : VO G (RV G b_PR_fill) (H_PR_fill_28 t0 t1 K18 v2 K28 v3 s) 28 [(0, .ref (gad G t0)), (1, .ref (gad G t1)), (2, .int v2), (3, .int v3)] [] s := by
  unfold H_PR_fill_28
  refine VO_iload hC d_PR_fill_28 3 rfl ?_
  refine VO_aload hC d_PR_fill_29 0 rfl ?_
  refine VO_geti hC fl_PR_25 (sh_PR h0) rfl d_PR_fill_30 ?_
  refine VO_icmp_ge hC d_PR_fill_33 (fun _ => ?_) (fun _ => ?_)
  · refine VO_iinc hC d_PR_fill_81 2 rfl (by decide : Int32.ofInt 1 = 1) [(0, .ref (gad G t0)), (1, .ref (gad G t1)), (3, .int v3)] rfl (by decide) ?_
    refine VO_goto hC d_PR_fill_84 ?_
    exact VO_sub [1, 2, 0] rfl (hK18 (v2 + 1) s)
  · refine VO_aload hC d_PR_fill_36 1 rfl ?_
    refine VO_iload hC d_PR_fill_37 2 rfl ?_
    refine VO_iload hC d_PR_fill_38 3 rfl ?_
    refine VO_callVI hC [.int v2, .int v3] [] ml_PR_26 d_PR_fill_39 yv_NI_may (sh_NI h1) rfl rfl (fun o h => M_NI_may hC.inj h1 h) (by decide) rfl rfl (Nat.le_of_ble_eq_true rfl) (fun o3 => ?_)
    refine VO_if_eq hC d_PR_fill_42 (fun _ => ?_) (fun _ => ?_)
    · refine VO_ldc hC k_PR_34 d_PR_fill_54 ?_
      exact (B_PR_fill_56 hC h0 h1 K18 hK18 K28 hK28 v3 (1000000 : Int32) o3.2)
    · refine VO_aload hC d_PR_fill_45 1 rfl ?_
      refine VO_iload hC d_PR_fill_46 2 rfl ?_
      refine VO_iload hC d_PR_fill_47 3 rfl ?_
      refine VO_callVI hC [.int v2, .int v3] [] ml_PR_30 d_PR_fill_48 yv_NI_monthsFor (sh_NI h1) rfl rfl (fun o h => M_NI_monthsFor hC.inj h1 h) (by decide) rfl rfl (Nat.le_of_ble_eq_true rfl) (fun o5 => ?_)
      refine VO_goto hC d_PR_fill_51 ?_
      exact (B_PR_fill_56 hC h0 h1 K18 hK18 K28 hK28 v3 o5.1 o5.2)
set_option maxRecDepth 20000 in
theorem B_PR_fill_28 {G : MCx} (hC : C0 G "AccusedChoose$Prices" b_PR_fill 5 4) {t0 : Nat} (h0 : isPR t0) {t1 : Nat} (h1 : isNI t1) (K18 : Int32 × St → Option (St)) (hK18 : ∀ (w2 : Int32) (s : St), VO G (RV G b_PR_fill) (K18 (w2, s)) 18 [(0, .ref (gad G t0)), (1, .ref (gad G t1)), (2, .int w2)] [] s) (v2 : Int32) (v3 : Int32) (s : St) : VO G (RV G b_PR_fill) (F_PR_fill_28 t0 t1 K18 v2 v3 s) 28 [(0, .ref (gad G t0)), (1, .ref (gad G t1)), (2, .int v2), (3, .int v3)] [] s := by
  exact VO_fix (G_PR_fill_28 t0 t1 K18 v2) 28 (fun q => [(0, .ref (gad G t0)), (1, .ref (gad G t1)), (2, .int v2), (3, .int q.1)]) (fun q => q.2) (fun K hK q => BH_PR_fill_28 hC h0 h1 K18 hK18 K (fun w3 s => hK (w3, s)) q.1 q.2) FUEL (v3, s)
set_option maxRecDepth 20000 in
theorem BH_PR_fill_18 {G : MCx} (hC : C0 G "AccusedChoose$Prices" b_PR_fill 5 4) {t0 : Nat} (h0 : isPR t0) {t1 : Nat} (h1 : isNI t1) (K18 : Int32 × St → Option (St)) (hK18 : ∀ (w2 : Int32) (s : St), VO G (RV G b_PR_fill) (K18 (w2, s)) 18 [(0, .ref (gad G t0)), (1, .ref (gad G t1)), (2, .int w2)] [] s) (v2 : Int32) (s : St) : VO G (RV G b_PR_fill) (H_PR_fill_18 t0 t1 K18 v2 s) 18 [(0, .ref (gad G t0)), (1, .ref (gad G t1)), (2, .int v2)] [] s := by
  unfold H_PR_fill_18
  refine VO_iload hC d_PR_fill_18 2 rfl ?_
  refine VO_aload hC d_PR_fill_19 0 rfl ?_
  refine VO_geti hC fl_PR_21 (sh_PR h0) rfl d_PR_fill_20 ?_
  refine VO_icmp_ge hC d_PR_fill_23 (fun _ => ?_) (fun _ => ?_)
  · exact VO_return d_PR_fill_87
  · refine VO_const hC d_PR_fill_26 ?_
    refine VO_istore hC d_PR_fill_27 [(0, .ref (gad G t0)), (1, .ref (gad G t1)), (2, .int v2)] rfl (by decide) ?_
    exact VO_sub [1, 2, 3, 0] rfl (B_PR_fill_28 hC h0 h1 K18 hK18 v2 (0 : Int32) s)
set_option maxRecDepth 20000 in
theorem B_PR_fill_18 {G : MCx} (hC : C0 G "AccusedChoose$Prices" b_PR_fill 5 4) {t0 : Nat} (h0 : isPR t0) {t1 : Nat} (h1 : isNI t1) (v2 : Int32) (s : St) : VO G (RV G b_PR_fill) (F_PR_fill_18 t0 t1 v2 s) 18 [(0, .ref (gad G t0)), (1, .ref (gad G t1)), (2, .int v2)] [] s := by
  exact VO_fix (G_PR_fill_18 t0 t1) 18 (fun q => [(0, .ref (gad G t0)), (1, .ref (gad G t1)), (2, .int q.1)]) (fun q => q.2) (fun K hK q => BH_PR_fill_18 hC h0 h1 K (fun w2 s => hK (w2, s)) q.1 q.2) FUEL (v2, s)
set_option maxRecDepth 20000 in
theorem B_PR_fill {G : MCx} (hC : C0 G "AccusedChoose$Prices" b_PR_fill 5 4) {t0 : Nat} (h0 : isPR t0) {t1 : Nat} (h1 : isNI t1) (s : St) : VO G (RV G b_PR_fill) (F_PR_fill t0 t1 s) 0 [(0, .ref (gad G t0)), (1, .ref (gad G t1))] [] s := by
  unfold F_PR_fill
  refine VO_aload hC d_PR_fill_0 0 rfl ?_
  refine VO_aload hC d_PR_fill_1 1 rfl ?_
  refine VO_geti hC fl_PR_15 (sh_NI h1) rfl d_PR_fill_2 ?_
  refine VO_puti hC fw_PR_21 (sh_PR h0) rfl d_PR_fill_5 (fun s1 => ?_)
  refine VO_aload hC d_PR_fill_8 0 rfl ?_
  refine VO_aload hC d_PR_fill_9 1 rfl ?_
  refine VO_geti hC fl_PR_22 (sh_NI h1) rfl d_PR_fill_10 ?_
  refine VO_puti hC fw_PR_25 (sh_PR h0) rfl d_PR_fill_13 (fun s2 => ?_)
  refine VO_const hC d_PR_fill_16 ?_
  refine VO_istore hC d_PR_fill_17 [(0, .ref (gad G t0)), (1, .ref (gad G t1))] rfl (by decide) ?_
  exact VO_sub [1, 2, 0] rfl (B_PR_fill_18 hC h0 h1 (0 : Int32) s2)
set_option maxRecDepth 20000 in
theorem M_PR_fill {l : Launch} {D : va_G} {ad : Nat → Nat} {cI cL : ClassId} (hj : Inj ad) {t0 : Nat} (h0 : isPR t0) {t1 : Nat} (h1 : isNI t1) {s : St} {o : St} (h : F_PR_fill t0 t1 s = some o) : Cn l D ad cI cL y_PR_fill b_PR_fill 5 none 4 [.ref (ad t0), .ref (ad t1)] s none o := by
  refine Cn_ofV hj (plainFor_of_name (by decide)) (Nat.le_of_ble_eq_true rfl) [(0, .ref (ad t0)), (1, .ref (ad t1))] rfl (fun G hC e1 e2 e3 e4 e5 hR => ?_)
  subst e1; subst e2; subst e3; subst e4; subst e5
  exact B_PR_fill hC h0 h1 s o h hR
theorem d_TA_get_0 : PLa b_TA_get 0 0 1 := Or.inl ⟨0, by decide +kernel, rfl, rfl⟩
theorem d_TA_get_1 : DR b_TA_get 1 (.getfield 9) 3 4 := ⟨by decide +kernel, rfl⟩
theorem d_TA_get_4 : PLi b_TA_get 4 1 5 := Or.inl ⟨1, by decide +kernel, rfl, rfl⟩
theorem d_TA_get_5 : PCi b_TA_get 5 128 8 := Or.inr (Or.inr ⟨128, by decide +kernel, by decide, rfl⟩)
theorem d_TA_get_8 : DR b_TA_get 8 (.imul) 1 9 := ⟨by decide +kernel, rfl⟩
theorem d_TA_get_9 : PLi b_TA_get 9 2 10 := Or.inl ⟨2, by decide +kernel, rfl, rfl⟩
theorem d_TA_get_10 : DR b_TA_get 10 (.iadd) 1 11 := ⟨by decide +kernel, rfl⟩
theorem d_TA_get_11 : DR b_TA_get 11 (.invokestatic 15) 3 14 := ⟨by decide +kernel, rfl⟩
theorem d_TA_get_14 : DR b_TA_get 14 (.ireturn) 1 15 := ⟨by decide +kernel, rfl⟩
set_option maxRecDepth 20000 in
theorem B_TA_get {G : MCx} (hC : C0 G "AccusedChoose$Table" b_TA_get 3 2) (a1 : Int32) (a2 : Int32) (s : St) : VO G (RI G b_TA_get) (F_TA_get a1 a2 s) 0 [(0, .ref (gad G 49)), (1, .int a1), (2, .int a2)] [] s := by
  unfold F_TA_get
  refine VO_aload hC d_TA_get_0 0 rfl ?_
  refine VO_getr (r := 50) hC fl_TA_9 sh_TA rfl d_TA_get_1 ?_
  refine VO_iload hC d_TA_get_4 1 rfl ?_
  refine VO_const hC d_TA_get_5 ?_
  refine VO_imul hC d_TA_get_8 ?_
  refine VO_iload hC d_TA_get_9 2 rfl ?_
  refine VO_iadd hC d_TA_get_10 ?_
  refine VO_callNI hC [.ref (gad G 50), .int ((a1 * (128 : Int32)) + a2)] [] nl_TA_15 d_TA_get_11 ys_AC_at (fun o h => M_AC_at hC.inj ia_50 h) (by decide) rfl rfl (Nat.le_of_ble_eq_true rfl) (fun o1 => ?_)
  exact VO_ireturn d_TA_get_14
set_option maxRecDepth 20000 in
theorem M_TA_get {l : Launch} {D : va_G} {ad : Nat → Nat} {cI cL : ClassId} (hj : Inj ad) {a1 : Int32} {a2 : Int32} {s : St} {o : Int32 × St} (h : F_TA_get a1 a2 s = some o) : Cn l D ad cI cL y_TA_get b_TA_get 3 (some .int) 2 [.ref (ad 49), .int a1, .int a2] s (some (.int o.1)) o.2 := by
  refine Cn_ofI hj (plainFor_of_name (by decide)) (Nat.le_of_ble_eq_true rfl) [(0, .ref (ad 49)), (1, .int a1), (2, .int a2)] rfl (fun G hC e1 e2 e3 e4 e5 hR => ?_)
  subst e1; subst e2; subst e3; subst e4; subst e5
  exact B_TA_get hC a1 a2 s o h hR
theorem d_TA_set_0 : PLa b_TA_set 0 0 1 := Or.inl ⟨0, by decide +kernel, rfl, rfl⟩
theorem d_TA_set_1 : DR b_TA_set 1 (.getfield 9) 3 4 := ⟨by decide +kernel, rfl⟩
theorem d_TA_set_4 : PLi b_TA_set 4 1 5 := Or.inl ⟨1, by decide +kernel, rfl, rfl⟩
theorem d_TA_set_5 : PCi b_TA_set 5 128 8 := Or.inr (Or.inr ⟨128, by decide +kernel, by decide, rfl⟩)
theorem d_TA_set_8 : DR b_TA_set 8 (.imul) 1 9 := ⟨by decide +kernel, rfl⟩
theorem d_TA_set_9 : PLi b_TA_set 9 2 10 := Or.inl ⟨2, by decide +kernel, rfl, rfl⟩
theorem d_TA_set_10 : DR b_TA_set 10 (.iadd) 1 11 := ⟨by decide +kernel, rfl⟩
theorem d_TA_set_11 : PLi b_TA_set 11 3 12 := Or.inl ⟨3, by decide +kernel, rfl, rfl⟩
theorem d_TA_set_12 : DR b_TA_set 12 (.invokestatic 19) 3 15 := ⟨by decide +kernel, rfl⟩
theorem d_TA_set_15 : DR b_TA_set 15 (.return_) 1 16 := ⟨by decide +kernel, rfl⟩
set_option maxRecDepth 20000 in
theorem B_TA_set {G : MCx} (hC : C0 G "AccusedChoose$Table" b_TA_set 4 2) (a1 : Int32) (a2 : Int32) (a3 : Int32) (s : St) : VO G (RV G b_TA_set) (F_TA_set a1 a2 a3 s) 0 [(0, .ref (gad G 49)), (1, .int a1), (2, .int a2), (3, .int a3)] [] s := by
  unfold F_TA_set
  refine VO_aload hC d_TA_set_0 0 rfl ?_
  refine VO_getr (r := 50) hC fl_TA_9 sh_TA rfl d_TA_set_1 ?_
  refine VO_iload hC d_TA_set_4 1 rfl ?_
  refine VO_const hC d_TA_set_5 ?_
  refine VO_imul hC d_TA_set_8 ?_
  refine VO_iload hC d_TA_set_9 2 rfl ?_
  refine VO_iadd hC d_TA_set_10 ?_
  refine VO_iload hC d_TA_set_11 3 rfl ?_
  refine VO_callNV hC [.ref (gad G 50), .int ((a1 * (128 : Int32)) + a2), .int a3] [] nl_TA_19 d_TA_set_12 ys_AC_put (fun o h => M_AC_put hC.inj ia_50 h) (by decide) rfl rfl (Nat.le_of_ble_eq_true rfl) (fun s1 => ?_)
  exact VO_return d_TA_set_15
set_option maxRecDepth 20000 in
theorem M_TA_set {l : Launch} {D : va_G} {ad : Nat → Nat} {cI cL : ClassId} (hj : Inj ad) {a1 : Int32} {a2 : Int32} {a3 : Int32} {s : St} {o : St} (h : F_TA_set a1 a2 a3 s = some o) : Cn l D ad cI cL y_TA_set b_TA_set 4 none 2 [.ref (ad 49), .int a1, .int a2, .int a3] s none o := by
  refine Cn_ofV hj (plainFor_of_name (by decide)) (Nat.le_of_ble_eq_true rfl) [(0, .ref (ad 49)), (1, .int a1), (2, .int a2), (3, .int a3)] rfl (fun G hC e1 e2 e3 e4 e5 hR => ?_)
  subst e1; subst e2; subst e3; subst e4; subst e5
  exact B_TA_set hC a1 a2 a3 s o h hR
theorem d_TA_closeAt_0 : PCi b_TA_closeAt 0 0 1 := Or.inl ⟨0, by decide +kernel, by decide, rfl⟩
theorem d_TA_closeAt_1 : PSi b_TA_closeAt 1 2 2 := Or.inl ⟨2, by decide +kernel, rfl, rfl⟩
theorem d_TA_closeAt_2 : PLi b_TA_closeAt 2 2 3 := Or.inl ⟨2, by decide +kernel, rfl, rfl⟩
theorem d_TA_closeAt_3 : PCi b_TA_closeAt 3 128 6 := Or.inr (Or.inr ⟨128, by decide +kernel, by decide, rfl⟩)
theorem d_TA_closeAt_6 : DJ b_TA_closeAt 6 (.if_icmp .ge) 9 22 := ⟨16, by decide +kernel, rfl, by decide⟩
theorem d_TA_closeAt_9 : PLa b_TA_closeAt 9 0 10 := Or.inl ⟨0, by decide +kernel, rfl, rfl⟩
theorem d_TA_closeAt_10 : PLi b_TA_closeAt 10 1 11 := Or.inl ⟨1, by decide +kernel, rfl, rfl⟩
theorem d_TA_closeAt_11 : PLi b_TA_closeAt 11 2 12 := Or.inl ⟨2, by decide +kernel, rfl, rfl⟩
theorem d_TA_closeAt_12 : PCi b_TA_closeAt 12 0 13 := Or.inl ⟨0, by decide +kernel, by decide, rfl⟩
theorem d_TA_closeAt_13 : DR b_TA_closeAt 13 (.invokevirtual 48) 3 16 := ⟨by decide +kernel, rfl⟩
theorem d_TA_closeAt_16 : DR b_TA_closeAt 16 (.iinc 2 1) 3 19 := ⟨by decide +kernel, rfl⟩
theorem d_TA_closeAt_19 : DJ b_TA_closeAt 19 .goto 22 2 := ⟨-17, by decide +kernel, rfl, by decide⟩
theorem d_TA_closeAt_22 : DR b_TA_closeAt 22 (.return_) 1 23 := ⟨by decide +kernel, rfl⟩
set_option maxRecDepth 20000 in
theorem BH_TA_closeAt_2 {G : MCx} (hC : C0 G "AccusedChoose$Table" b_TA_closeAt 3 3) {v1 : Int32} (K2 : Int32 × St → Option (St)) (hK2 : ∀ (w2 : Int32) (s : St), VO G (RV G b_TA_closeAt) (K2 (w2, s)) 2 [(0, .ref (gad G 49)), (1, .int v1), (2, .int w2)] [] s) (v2 : Int32) (s : St) : VO G (RV G b_TA_closeAt) (H_TA_closeAt_2 v1 K2 v2 s) 2 [(0, .ref (gad G 49)), (1, .int v1), (2, .int v2)] [] s := by
  unfold H_TA_closeAt_2
  refine VO_iload hC d_TA_closeAt_2 2 rfl ?_
  refine VO_const hC d_TA_closeAt_3 ?_
  refine VO_icmp_ge hC d_TA_closeAt_6 (fun _ => ?_) (fun _ => ?_)
  · exact VO_return d_TA_closeAt_22
  · refine VO_aload hC d_TA_closeAt_9 0 rfl ?_
    refine VO_iload hC d_TA_closeAt_10 1 rfl ?_
    refine VO_iload hC d_TA_closeAt_11 2 rfl ?_
    refine VO_const hC d_TA_closeAt_12 ?_
    refine VO_callVV hC [.int v1, .int v2, .int (0 : Int32)] [] ml_TA_48 d_TA_closeAt_13 yv_TA_set sh_TA rfl rfl (fun o h => M_TA_set hC.inj h) (by decide) rfl rfl (Nat.le_of_ble_eq_true rfl) (fun s1 => ?_)
    refine VO_iinc hC d_TA_closeAt_16 2 rfl (by decide : Int32.ofInt 1 = 1) [(0, .ref (gad G 49)), (1, .int v1)] rfl (by decide) ?_
    refine VO_goto hC d_TA_closeAt_19 ?_
    exact VO_sub [1, 2, 0] rfl (hK2 (v2 + 1) s1)
set_option maxRecDepth 20000 in
theorem B_TA_closeAt_2 {G : MCx} (hC : C0 G "AccusedChoose$Table" b_TA_closeAt 3 3) (v1 : Int32) (v2 : Int32) (s : St) : VO G (RV G b_TA_closeAt) (F_TA_closeAt_2 v1 v2 s) 2 [(0, .ref (gad G 49)), (1, .int v1), (2, .int v2)] [] s := by
  exact VO_fix (G_TA_closeAt_2 v1) 2 (fun q => [(0, .ref (gad G 49)), (1, .int v1), (2, .int q.1)]) (fun q => q.2) (fun K hK q => BH_TA_closeAt_2 hC K (fun w2 s => hK (w2, s)) q.1 q.2) FUEL (v2, s)
set_option maxRecDepth 20000 in
theorem B_TA_closeAt {G : MCx} (hC : C0 G "AccusedChoose$Table" b_TA_closeAt 3 3) (a1 : Int32) (s : St) : VO G (RV G b_TA_closeAt) (F_TA_closeAt a1 s) 0 [(0, .ref (gad G 49)), (1, .int a1)] [] s := by
  unfold F_TA_closeAt
  refine VO_const hC d_TA_closeAt_0 ?_
  refine VO_istore hC d_TA_closeAt_1 [(0, .ref (gad G 49)), (1, .int a1)] rfl (by decide) ?_
  exact VO_sub [1, 2, 0] rfl (B_TA_closeAt_2 hC a1 (0 : Int32) s)
set_option maxRecDepth 20000 in
theorem M_TA_closeAt {l : Launch} {D : va_G} {ad : Nat → Nat} {cI cL : ClassId} (hj : Inj ad) {a1 : Int32} {s : St} {o : St} (h : F_TA_closeAt a1 s = some o) : Cn l D ad cI cL y_TA_closeAt b_TA_closeAt 3 none 3 [.ref (ad 49), .int a1] s none o := by
  refine Cn_ofV hj (plainFor_of_name (by decide)) (Nat.le_of_ble_eq_true rfl) [(0, .ref (ad 49)), (1, .int a1)] rfl (fun G hC e1 e2 e3 e4 e5 hR => ?_)
  subst e1; subst e2; subst e3; subst e4; subst e5
  exact B_TA_closeAt hC a1 s o h hR
theorem d_TA_canBe_0 : PLi b_TA_canBe 0 0 1 := Or.inl ⟨0, by decide +kernel, rfl, rfl⟩
theorem d_TA_canBe_1 : DR b_TA_canBe 1 (.invokestatic 88) 3 4 := ⟨by decide +kernel, rfl⟩
theorem d_TA_canBe_4 : PLi b_TA_canBe 4 1 5 := Or.inl ⟨1, by decide +kernel, rfl, rfl⟩
theorem d_TA_canBe_5 : DJ b_TA_canBe 5 (.if_icmp .gt) 8 12 := ⟨7, by decide +kernel, rfl, by decide⟩
theorem d_TA_canBe_8 : PCi b_TA_canBe 8 1 9 := Or.inl ⟨1, by decide +kernel, by decide, rfl⟩
theorem d_TA_canBe_9 : DJ b_TA_canBe 9 .goto 12 13 := ⟨4, by decide +kernel, rfl, by decide⟩
theorem d_TA_canBe_12 : PCi b_TA_canBe 12 0 13 := Or.inl ⟨0, by decide +kernel, by decide, rfl⟩
theorem d_TA_canBe_13 : DR b_TA_canBe 13 (.ireturn) 1 14 := ⟨by decide +kernel, rfl⟩
set_option maxRecDepth 20000 in
theorem B_TA_canBe {G : MCx} (hC : C0 G "AccusedChoose$Table" b_TA_canBe 2 2) (a0 : Int32) (a1 : Int32) (s : St) : VO G (RZ G b_TA_canBe) (F_TA_canBe a0 a1 s) 0 [(0, .int a0), (1, .int a1)] [] s := by
  unfold F_TA_canBe
  refine VO_iload hC d_TA_canBe_0 0 rfl ?_
  refine VO_callSI hC [.int a0] [] ml_TA_88 d_TA_canBe_1 ys_IG_bitCount (fun o h => M_IG_bitCount hC.inj h) (by decide) rfl rfl (Nat.le_of_ble_eq_true rfl) (fun o1 => ?_)
  refine VO_iload hC d_TA_canBe_4 1 rfl ?_
  refine VO_icmp_gt hC d_TA_canBe_5 (fun _ => ?_) (fun _ => ?_)
  · refine VO_const hC d_TA_canBe_12 ?_
    exact VO_z0 d_TA_canBe_13
  · refine VO_const hC d_TA_canBe_8 ?_
    refine VO_goto hC d_TA_canBe_9 ?_
    exact VO_z1 d_TA_canBe_13
set_option maxRecDepth 20000 in
theorem M_TA_canBe {l : Launch} {D : va_G} {ad : Nat → Nat} {cI cL : ClassId} (hj : Inj ad) {a0 : Int32} {a1 : Int32} {s : St} {o : Int32 × St} (h : F_TA_canBe a0 a1 s = some o) : Cn l D ad cI cL y_TA_canBe b_TA_canBe 2 (some .boolean) 2 [.int a0, .int a1] s (some (.int o.1)) o.2 := by
  refine Cn_ofZ hj (plainFor_of_name (by decide)) (Nat.le_of_ble_eq_true rfl) [(0, .int a0), (1, .int a1)] rfl (fun G hC e1 e2 e3 e4 e5 hR => ?_)
  subst e1; subst e2; subst e3; subst e4; subst e5
  exact B_TA_canBe hC a0 a1 s o h hR
theorem d_TA_monthsWith_0 : PLa b_TA_monthsWith 0 1 1 := Or.inl ⟨1, by decide +kernel, rfl, rfl⟩
theorem d_TA_monthsWith_1 : PLi b_TA_monthsWith 1 3 2 := Or.inl ⟨3, by decide +kernel, rfl, rfl⟩
theorem d_TA_monthsWith_2 : PLi b_TA_monthsWith 2 4 4 := Or.inr ⟨by decide +kernel, rfl⟩
theorem d_TA_monthsWith_4 : DR b_TA_monthsWith 4 (.invokevirtual 85) 3 7 := ⟨by decide +kernel, rfl⟩
theorem d_TA_monthsWith_7 : PLa b_TA_monthsWith 7 0 8 := Or.inl ⟨0, by decide +kernel, rfl, rfl⟩
theorem d_TA_monthsWith_8 : PLi b_TA_monthsWith 8 2 9 := Or.inl ⟨2, by decide +kernel, rfl, rfl⟩
theorem d_TA_monthsWith_9 : PCi b_TA_monthsWith 9 1 10 := Or.inl ⟨1, by decide +kernel, by decide, rfl⟩
theorem d_TA_monthsWith_10 : DR b_TA_monthsWith 10 (.iadd) 1 11 := ⟨by decide +kernel, rfl⟩
theorem d_TA_monthsWith_11 : PLi b_TA_monthsWith 11 5 13 := Or.inr ⟨by decide +kernel, rfl⟩
theorem d_TA_monthsWith_13 : PLi b_TA_monthsWith 13 4 15 := Or.inr ⟨by decide +kernel, rfl⟩
theorem d_TA_monthsWith_15 : DR b_TA_monthsWith 15 (.invokestatic 36) 3 18 := ⟨by decide +kernel, rfl⟩
theorem d_TA_monthsWith_18 : DR b_TA_monthsWith 18 (.ior) 1 19 := ⟨by decide +kernel, rfl⟩
theorem d_TA_monthsWith_19 : DR b_TA_monthsWith 19 (.invokevirtual 52) 3 22 := ⟨by decide +kernel, rfl⟩
theorem d_TA_monthsWith_22 : DR b_TA_monthsWith 22 (.iadd) 1 23 := ⟨by decide +kernel, rfl⟩
theorem d_TA_monthsWith_23 : DR b_TA_monthsWith 23 (.ireturn) 1 24 := ⟨by decide +kernel, rfl⟩
set_option maxRecDepth 20000 in
theorem B_TA_monthsWith {G : MCx} (hC : C0 G "AccusedChoose$Table" b_TA_monthsWith 6 3) {t1 : Nat} (h1 : isPR t1) (a2 : Int32) (a3 : Int32) (a4 : Int32) (a5 : Int32) (s : St) : VO G (RI G b_TA_monthsWith) (F_TA_monthsWith t1 a2 a3 a4 a5 s) 0 [(0, .ref (gad G 49)), (1, .ref (gad G t1)), (2, .int a2), (3, .int a3), (4, .int a4), (5, .int a5)] [] s := by
  unfold F_TA_monthsWith
  refine VO_aload hC d_TA_monthsWith_0 1 rfl ?_
  refine VO_iload hC d_TA_monthsWith_1 3 rfl ?_
  refine VO_iload hC d_TA_monthsWith_2 4 rfl ?_
  refine VO_callVI hC [.int a3, .int a4] [] ml_TA_85 d_TA_monthsWith_4 yv_PR_of (sh_PR h1) rfl rfl (fun o h => M_PR_of hC.inj h1 h) (by decide) rfl rfl (Nat.le_of_ble_eq_true rfl) (fun o1 => ?_)
  refine VO_aload hC d_TA_monthsWith_7 0 rfl ?_
  refine VO_iload hC d_TA_monthsWith_8 2 rfl ?_
  refine VO_const hC d_TA_monthsWith_9 ?_
  refine VO_iadd hC d_TA_monthsWith_10 ?_
  refine VO_iload hC d_TA_monthsWith_11 5 rfl ?_
  refine VO_iload hC d_TA_monthsWith_13 4 rfl ?_
  refine VO_callNI hC [.int a4] [.int a5, .int (a2 + (1 : Int32)), .ref (gad G 49), .int o1.1] nl_TA_36 d_TA_monthsWith_15 ys_AC_bit (fun o h => M_AC_bit hC.inj h) (by decide) rfl rfl (Nat.le_of_ble_eq_true rfl) (fun o2 => ?_)
  refine VO_ior hC d_TA_monthsWith_18 ?_
  refine VO_callVI hC [.int (a2 + (1 : Int32)), .int (a5 ||| o2.1)] [.int o1.1] ml_TA_52 d_TA_monthsWith_19 yv_TA_get sh_TA rfl rfl (fun o h => M_TA_get hC.inj h) (by decide) rfl rfl (Nat.le_of_ble_eq_true rfl) (fun o3 => ?_)
  refine VO_iadd hC d_TA_monthsWith_22 ?_
  exact VO_ireturn d_TA_monthsWith_23
set_option maxRecDepth 20000 in
theorem M_TA_monthsWith {l : Launch} {D : va_G} {ad : Nat → Nat} {cI cL : ClassId} (hj : Inj ad) {t1 : Nat} (h1 : isPR t1) {a2 : Int32} {a3 : Int32} {a4 : Int32} {a5 : Int32} {s : St} {o : Int32 × St} (h : F_TA_monthsWith t1 a2 a3 a4 a5 s = some o) : Cn l D ad cI cL y_TA_monthsWith b_TA_monthsWith 6 (some .int) 3 [.ref (ad 49), .ref (ad t1), .int a2, .int a3, .int a4, .int a5] s (some (.int o.1)) o.2 := by
  refine Cn_ofI hj (plainFor_of_name (by decide)) (Nat.le_of_ble_eq_true rfl) [(0, .ref (ad 49)), (1, .ref (ad t1)), (2, .int a2), (3, .int a3), (4, .int a4), (5, .int a5)] rfl (fun G hC e1 e2 e3 e4 e5 hR => ?_)
  subst e1; subst e2; subst e3; subst e4; subst e5
  exact B_TA_monthsWith hC h1 a2 a3 a4 a5 s o h hR
theorem d_TA_leastFrom_0 : PCi b_TA_leastFrom 0 60 2 := Or.inr (Or.inl ⟨60, by decide +kernel, by decide, rfl⟩)
theorem d_TA_leastFrom_2 : PLa b_TA_leastFrom 2 0 3 := Or.inl ⟨0, by decide +kernel, rfl, rfl⟩
theorem d_TA_leastFrom_3 : PLi b_TA_leastFrom 3 2 4 := Or.inl ⟨2, by decide +kernel, rfl, rfl⟩
theorem d_TA_leastFrom_4 : PCi b_TA_leastFrom 4 1 5 := Or.inl ⟨1, by decide +kernel, by decide, rfl⟩
theorem d_TA_leastFrom_5 : DR b_TA_leastFrom 5 (.iadd) 1 6 := ⟨by decide +kernel, rfl⟩
theorem d_TA_leastFrom_6 : PLi b_TA_leastFrom 6 3 7 := Or.inl ⟨3, by decide +kernel, rfl, rfl⟩
theorem d_TA_leastFrom_7 : DR b_TA_leastFrom 7 (.invokevirtual 52) 3 10 := ⟨by decide +kernel, rfl⟩
theorem d_TA_leastFrom_10 : DR b_TA_leastFrom 10 (.iadd) 1 11 := ⟨by decide +kernel, rfl⟩
theorem d_TA_leastFrom_11 : PSi b_TA_leastFrom 11 4 13 := Or.inr ⟨by decide +kernel, rfl⟩
theorem d_TA_leastFrom_13 : PCi b_TA_leastFrom 13 0 14 := Or.inl ⟨0, by decide +kernel, by decide, rfl⟩
theorem d_TA_leastFrom_14 : PSi b_TA_leastFrom 14 5 16 := Or.inr ⟨by decide +kernel, rfl⟩
theorem d_TA_leastFrom_16 : PLi b_TA_leastFrom 16 5 18 := Or.inr ⟨by decide +kernel, rfl⟩
theorem d_TA_leastFrom_18 : PLa b_TA_leastFrom 18 1 19 := Or.inl ⟨1, by decide +kernel, rfl, rfl⟩
theorem d_TA_leastFrom_19 : DR b_TA_leastFrom 19 (.getfield 33) 3 22 := ⟨by decide +kernel, rfl⟩
theorem d_TA_leastFrom_22 : DJ b_TA_leastFrom 22 (.if_icmp .ge) 25 67 := ⟨45, by decide +kernel, rfl, by decide⟩
theorem d_TA_leastFrom_25 : PLi b_TA_leastFrom 25 3 26 := Or.inl ⟨3, by decide +kernel, rfl, rfl⟩
theorem d_TA_leastFrom_26 : PLi b_TA_leastFrom 26 5 28 := Or.inr ⟨by decide +kernel, rfl⟩
theorem d_TA_leastFrom_28 : DR b_TA_leastFrom 28 (.invokestatic 56) 3 31 := ⟨by decide +kernel, rfl⟩
theorem d_TA_leastFrom_31 : DJ b_TA_leastFrom 31 (.ifCond .ne) 34 61 := ⟨30, by decide +kernel, rfl, by decide⟩
theorem d_TA_leastFrom_34 : PLa b_TA_leastFrom 34 1 35 := Or.inl ⟨1, by decide +kernel, rfl, rfl⟩
theorem d_TA_leastFrom_35 : PLi b_TA_leastFrom 35 2 36 := Or.inl ⟨2, by decide +kernel, rfl, rfl⟩
theorem d_TA_leastFrom_36 : PLi b_TA_leastFrom 36 5 38 := Or.inr ⟨by decide +kernel, rfl⟩
theorem d_TA_leastFrom_38 : DR b_TA_leastFrom 38 (.invokevirtual 59) 3 41 := ⟨by decide +kernel, rfl⟩
theorem d_TA_leastFrom_41 : DJ b_TA_leastFrom 41 (.ifCond .eq) 44 61 := ⟨20, by decide +kernel, rfl, by decide⟩
theorem d_TA_leastFrom_44 : PLi b_TA_leastFrom 44 4 46 := Or.inr ⟨by decide +kernel, rfl⟩
theorem d_TA_leastFrom_46 : PLa b_TA_leastFrom 46 0 47 := Or.inl ⟨0, by decide +kernel, rfl, rfl⟩
theorem d_TA_leastFrom_47 : PLa b_TA_leastFrom 47 1 48 := Or.inl ⟨1, by decide +kernel, rfl, rfl⟩
theorem d_TA_leastFrom_48 : PLi b_TA_leastFrom 48 2 49 := Or.inl ⟨2, by decide +kernel, rfl, rfl⟩
theorem d_TA_leastFrom_49 : PLi b_TA_leastFrom 49 2 50 := Or.inl ⟨2, by decide +kernel, rfl, rfl⟩
theorem d_TA_leastFrom_50 : PLi b_TA_leastFrom 50 5 52 := Or.inr ⟨by decide +kernel, rfl⟩
theorem d_TA_leastFrom_52 : PLi b_TA_leastFrom 52 3 53 := Or.inl ⟨3, by decide +kernel, rfl, rfl⟩
theorem d_TA_leastFrom_53 : DR b_TA_leastFrom 53 (.invokevirtual 62) 3 56 := ⟨by decide +kernel, rfl⟩
theorem d_TA_leastFrom_56 : DR b_TA_leastFrom 56 (.invokestatic 66) 3 59 := ⟨by decide +kernel, rfl⟩
theorem d_TA_leastFrom_59 : PSi b_TA_leastFrom 59 4 61 := Or.inr ⟨by decide +kernel, rfl⟩
theorem d_TA_leastFrom_61 : DR b_TA_leastFrom 61 (.iinc 5 1) 3 64 := ⟨by decide +kernel, rfl⟩
theorem d_TA_leastFrom_64 : DJ b_TA_leastFrom 64 .goto 67 16 := ⟨-48, by decide +kernel, rfl, by decide⟩
theorem d_TA_leastFrom_67 : PLi b_TA_leastFrom 67 4 69 := Or.inr ⟨by decide +kernel, rfl⟩
theorem d_TA_leastFrom_69 : DR b_TA_leastFrom 69 (.ireturn) 1 70 := ⟨by decide +kernel, rfl⟩
set_option maxRecDepth 20000 in
theorem B_TA_leastFrom_61 {G : MCx} (hC : C0 G "AccusedChoose$Table" b_TA_leastFrom 6 4) {t1 : Nat} (h1 : isPR t1) {v2 : Int32} {v3 : Int32} (K16 : Int32 × Int32 × St → Option (Int32 × St)) (hK16 : ∀ (w4 : Int32) (w5 : Int32) (s : St), VO G (RI G b_TA_leastFrom) (K16 (w4, w5, s)) 16 [(0, .ref (gad G 49)), (1, .ref (gad G t1)), (2, .int v2), (3, .int v3), (4, .int w4), (5, .int w5)] [] s) (v4 : Int32) (v5 : Int32) (s : St) : VO G (RI G b_TA_leastFrom) (F_TA_leastFrom_61 t1 K16 v2 v3 v4 v5 s) 61 [(0, .ref (gad G 49)), (1, .ref (gad G t1)), (2, .int v2), (3, .int v3), (4, .int v4), (5, .int v5)] [] s := by
  unfold F_TA_leastFrom_61
  refine VO_iinc hC d_TA_leastFrom_61 5 rfl (by decide : Int32.ofInt 1 = 1) [(0, .ref (gad G 49)), (1, .ref (gad G t1)), (2, .int v2), (3, .int v3), (4, .int v4)] rfl (by decide) ?_
  refine VO_goto hC d_TA_leastFrom_64 ?_
  exact VO_sub [1, 2, 3, 4, 5, 0] rfl (hK16 v4 (v5 + 1) s)
set_option maxRecDepth 20000 in
theorem BH_TA_leastFrom_16 {G : MCx} (hC : C0 G "AccusedChoose$Table" b_TA_leastFrom 6 4) {t1 : Nat} (h1 : isPR t1) {v2 : Int32} {v3 : Int32} (K16 : Int32 × Int32 × St → Option (Int32 × St)) (hK16 : ∀ (w4 : Int32) (w5 : Int32) (s : St), VO G (RI G b_TA_leastFrom) (K16 (w4, w5, s)) 16 [(0, .ref (gad G 49)), (1, .ref (gad G t1)), (2, .int v2), (3, .int v3), (4, .int w4), (5, .int w5)] [] s) (v4 : Int32) (v5 : Int32) (s : St) : VO G (RI G b_TA_leastFrom) (H_TA_leastFrom_16 t1 v2 v3 K16 v4 v5 s) 16 [(0, .ref (gad G 49)), (1, .ref (gad G t1)), (2, .int v2), (3, .int v3), (4, .int v4), (5, .int v5)] [] s := by
  unfold H_TA_leastFrom_16
  refine VO_iload hC d_TA_leastFrom_16 5 rfl ?_
  refine VO_aload hC d_TA_leastFrom_18 1 rfl ?_
  refine VO_geti hC fl_TA_33 (sh_PR h1) rfl d_TA_leastFrom_19 ?_
  refine VO_icmp_ge hC d_TA_leastFrom_22 (fun _ => ?_) (fun _ => ?_)
  · refine VO_iload hC d_TA_leastFrom_67 4 rfl ?_
    exact VO_ireturn d_TA_leastFrom_69
  · refine VO_iload hC d_TA_leastFrom_25 3 rfl ?_
    refine VO_iload hC d_TA_leastFrom_26 5 rfl ?_
    refine VO_callNI hC [.int v3, .int v5] [] nl_TA_56 d_TA_leastFrom_28 ys_AC_has (fun o h => M_AC_has hC.inj h) (by decide) rfl rfl (Nat.le_of_ble_eq_true rfl) (fun o3 => ?_)
    refine VO_if_ne hC d_TA_leastFrom_31 (fun _ => ?_) (fun _ => ?_)
    · refine VO_aload hC d_TA_leastFrom_34 1 rfl ?_
      refine VO_iload hC d_TA_leastFrom_35 2 rfl ?_
      refine VO_iload hC d_TA_leastFrom_36 5 rfl ?_
      refine VO_callVI hC [.int v2, .int v5] [] ml_TA_59 d_TA_leastFrom_38 yv_PR_allows (sh_PR h1) rfl rfl (fun o h => M_PR_allows hC.inj h1 h) (by decide) rfl rfl (Nat.le_of_ble_eq_true rfl) (fun o4 => ?_)
      refine VO_if_eq hC d_TA_leastFrom_41 (fun _ => ?_) (fun _ => ?_)
      · exact (B_TA_leastFrom_61 hC h1 K16 hK16 v4 v5 o4.2)
      · refine VO_iload hC d_TA_leastFrom_44 4 rfl ?_
        refine VO_aload hC d_TA_leastFrom_46 0 rfl ?_
        refine VO_aload hC d_TA_leastFrom_47 1 rfl ?_
        refine VO_iload hC d_TA_leastFrom_48 2 rfl ?_
        refine VO_iload hC d_TA_leastFrom_49 2 rfl ?_
        refine VO_iload hC d_TA_leastFrom_50 5 rfl ?_
        refine VO_iload hC d_TA_leastFrom_52 3 rfl ?_
        refine VO_callVI hC [.ref (gad G t1), .int v2, .int v2, .int v5, .int v3] [.int v4] ml_TA_62 d_TA_leastFrom_53 yv_TA_monthsWith sh_TA rfl rfl (fun o h => M_TA_monthsWith hC.inj h1 h) (by decide) rfl rfl (Nat.le_of_ble_eq_true rfl) (fun o5 => ?_)
        refine VO_callSI hC [.int v4, .int o5.1] [] ml_TA_66 d_TA_leastFrom_56 ys_MA_min (fun o h => M_MA_min hC.inj h) (by decide) rfl rfl (Nat.le_of_ble_eq_true rfl) (fun o6 => ?_)
        refine VO_istore hC d_TA_leastFrom_59 [(0, .ref (gad G 49)), (1, .ref (gad G t1)), (2, .int v2), (3, .int v3), (5, .int v5)] rfl (by decide) ?_
        exact VO_sub [1, 2, 3, 4, 0, 5] rfl (B_TA_leastFrom_61 hC h1 K16 hK16 o6.1 v5 o6.2)
    · exact (B_TA_leastFrom_61 hC h1 K16 hK16 v4 v5 o3.2)
set_option maxRecDepth 20000 in
theorem B_TA_leastFrom_16 {G : MCx} (hC : C0 G "AccusedChoose$Table" b_TA_leastFrom 6 4) {t1 : Nat} (h1 : isPR t1) (v2 : Int32) (v3 : Int32) (v4 : Int32) (v5 : Int32) (s : St) : VO G (RI G b_TA_leastFrom) (F_TA_leastFrom_16 t1 v2 v3 v4 v5 s) 16 [(0, .ref (gad G 49)), (1, .ref (gad G t1)), (2, .int v2), (3, .int v3), (4, .int v4), (5, .int v5)] [] s := by
  exact VO_fix (G_TA_leastFrom_16 t1 v2 v3) 16 (fun q => [(0, .ref (gad G 49)), (1, .ref (gad G t1)), (2, .int v2), (3, .int v3), (4, .int q.1), (5, .int q.2.1)]) (fun q => q.2.2) (fun K hK q => BH_TA_leastFrom_16 hC h1 K (fun w4 w5 s => hK (w4, w5, s)) q.1 q.2.1 q.2.2) FUEL (v4, v5, s)
set_option maxRecDepth 20000 in
theorem B_TA_leastFrom {G : MCx} (hC : C0 G "AccusedChoose$Table" b_TA_leastFrom 6 4) {t1 : Nat} (h1 : isPR t1) (a2 : Int32) (a3 : Int32) (s : St) : VO G (RI G b_TA_leastFrom) (F_TA_leastFrom t1 a2 a3 s) 0 [(0, .ref (gad G 49)), (1, .ref (gad G t1)), (2, .int a2), (3, .int a3)] [] s := by
  unfold F_TA_leastFrom
  refine VO_const hC d_TA_leastFrom_0 ?_
  refine VO_aload hC d_TA_leastFrom_2 0 rfl ?_
  refine VO_iload hC d_TA_leastFrom_3 2 rfl ?_
  refine VO_const hC d_TA_leastFrom_4 ?_
  refine VO_iadd hC d_TA_leastFrom_5 ?_
  refine VO_iload hC d_TA_leastFrom_6 3 rfl ?_
  refine VO_callVI hC [.int (a2 + (1 : Int32)), .int a3] [.int (60 : Int32)] ml_TA_52 d_TA_leastFrom_7 yv_TA_get sh_TA rfl rfl (fun o h => M_TA_get hC.inj h) (by decide) rfl rfl (Nat.le_of_ble_eq_true rfl) (fun o1 => ?_)
  refine VO_iadd hC d_TA_leastFrom_10 ?_
  refine VO_istoreB hC d_TA_leastFrom_11 [(0, .ref (gad G 49)), (1, .ref (gad G t1)), (2, .int a2), (3, .int a3)] rfl (by decide) (fun x2 => ?_)
  refine VO_const hC d_TA_leastFrom_13 ?_
  refine VO_istore hC d_TA_leastFrom_14 [(4, .int x2), (0, .ref (gad G 49)), (1, .ref (gad G t1)), (2, .int a2), (3, .int a3)] rfl (by decide) ?_
  exact VO_sub [2, 3, 4, 5, 1, 0] rfl (B_TA_leastFrom_16 hC h1 a2 a3 x2 (0 : Int32) o1.2)
set_option maxRecDepth 20000 in
theorem M_TA_leastFrom {l : Launch} {D : va_G} {ad : Nat → Nat} {cI cL : ClassId} (hj : Inj ad) {t1 : Nat} (h1 : isPR t1) {a2 : Int32} {a3 : Int32} {s : St} {o : Int32 × St} (h : F_TA_leastFrom t1 a2 a3 s = some o) : Cn l D ad cI cL y_TA_leastFrom b_TA_leastFrom 6 (some .int) 4 [.ref (ad 49), .ref (ad t1), .int a2, .int a3] s (some (.int o.1)) o.2 := by
  refine Cn_ofI hj (plainFor_of_name (by decide)) (Nat.le_of_ble_eq_true rfl) [(0, .ref (ad 49)), (1, .ref (ad t1)), (2, .int a2), (3, .int a3)] rfl (fun G hC e1 e2 e3 e4 e5 hR => ?_)
  subst e1; subst e2; subst e3; subst e4; subst e5
  exact B_TA_leastFrom hC h1 a2 a3 s o h hR
theorem d_TA_fillLeast_0 : PLa b_TA_fillLeast 0 0 1 := Or.inl ⟨0, by decide +kernel, rfl, rfl⟩
theorem d_TA_fillLeast_1 : PLa b_TA_fillLeast 1 1 2 := Or.inl ⟨1, by decide +kernel, rfl, rfl⟩
theorem d_TA_fillLeast_2 : DR b_TA_fillLeast 2 (.getfield 23) 3 5 := ⟨by decide +kernel, rfl⟩
theorem d_TA_fillLeast_5 : DR b_TA_fillLeast 5 (.invokevirtual 29) 3 8 := ⟨by decide +kernel, rfl⟩
theorem d_TA_fillLeast_8 : PLa b_TA_fillLeast 8 1 9 := Or.inl ⟨1, by decide +kernel, rfl, rfl⟩
theorem d_TA_fillLeast_9 : DR b_TA_fillLeast 9 (.getfield 23) 3 12 := ⟨by decide +kernel, rfl⟩
theorem d_TA_fillLeast_12 : PCi b_TA_fillLeast 12 1 13 := Or.inl ⟨1, by decide +kernel, by decide, rfl⟩
theorem d_TA_fillLeast_13 : DR b_TA_fillLeast 13 (.isub) 1 14 := ⟨by decide +kernel, rfl⟩
theorem d_TA_fillLeast_14 : PSi b_TA_fillLeast 14 2 15 := Or.inl ⟨2, by decide +kernel, rfl, rfl⟩
theorem d_TA_fillLeast_15 : PLi b_TA_fillLeast 15 2 16 := Or.inl ⟨2, by decide +kernel, rfl, rfl⟩
theorem d_TA_fillLeast_16 : DJ b_TA_fillLeast 16 (.ifCond .lt) 19 65 := ⟨49, by decide +kernel, rfl, by decide⟩
theorem d_TA_fillLeast_19 : PCi b_TA_fillLeast 19 0 20 := Or.inl ⟨0, by decide +kernel, by decide, rfl⟩
theorem d_TA_fillLeast_20 : PSi b_TA_fillLeast 20 3 21 := Or.inl ⟨3, by decide +kernel, rfl, rfl⟩
theorem d_TA_fillLeast_21 : PLi b_TA_fillLeast 21 3 22 := Or.inl ⟨3, by decide +kernel, rfl, rfl⟩
theorem d_TA_fillLeast_22 : PLa b_TA_fillLeast 22 1 23 := Or.inl ⟨1, by decide +kernel, rfl, rfl⟩
theorem d_TA_fillLeast_23 : DR b_TA_fillLeast 23 (.getfield 33) 3 26 := ⟨by decide +kernel, rfl⟩
theorem d_TA_fillLeast_26 : DR b_TA_fillLeast 26 (.invokestatic 36) 3 29 := ⟨by decide +kernel, rfl⟩
theorem d_TA_fillLeast_29 : DJ b_TA_fillLeast 29 (.if_icmp .ge) 32 59 := ⟨30, by decide +kernel, rfl, by decide⟩
theorem d_TA_fillLeast_32 : PLi b_TA_fillLeast 32 3 33 := Or.inl ⟨3, by decide +kernel, rfl, rfl⟩
theorem d_TA_fillLeast_33 : PLi b_TA_fillLeast 33 2 34 := Or.inl ⟨2, by decide +kernel, rfl, rfl⟩
theorem d_TA_fillLeast_34 : DR b_TA_fillLeast 34 (.invokestatic 40) 3 37 := ⟨by decide +kernel, rfl⟩
theorem d_TA_fillLeast_37 : DJ b_TA_fillLeast 37 (.ifCond .eq) 40 53 := ⟨16, by decide +kernel, rfl, by decide⟩
theorem d_TA_fillLeast_40 : PLa b_TA_fillLeast 40 0 41 := Or.inl ⟨0, by decide +kernel, rfl, rfl⟩
theorem d_TA_fillLeast_41 : PLi b_TA_fillLeast 41 2 42 := Or.inl ⟨2, by decide +kernel, rfl, rfl⟩
theorem d_TA_fillLeast_42 : PLi b_TA_fillLeast 42 3 43 := Or.inl ⟨3, by decide +kernel, rfl, rfl⟩
theorem d_TA_fillLeast_43 : PLa b_TA_fillLeast 43 0 44 := Or.inl ⟨0, by decide +kernel, rfl, rfl⟩
theorem d_TA_fillLeast_44 : PLa b_TA_fillLeast 44 1 45 := Or.inl ⟨1, by decide +kernel, rfl, rfl⟩
theorem d_TA_fillLeast_45 : PLi b_TA_fillLeast 45 2 46 := Or.inl ⟨2, by decide +kernel, rfl, rfl⟩
theorem d_TA_fillLeast_46 : PLi b_TA_fillLeast 46 3 47 := Or.inl ⟨3, by decide +kernel, rfl, rfl⟩
theorem d_TA_fillLeast_47 : DR b_TA_fillLeast 47 (.invokevirtual 44) 3 50 := ⟨by decide +kernel, rfl⟩
theorem d_TA_fillLeast_50 : DR b_TA_fillLeast 50 (.invokevirtual 48) 3 53 := ⟨by decide +kernel, rfl⟩
theorem d_TA_fillLeast_53 : DR b_TA_fillLeast 53 (.iinc 3 1) 3 56 := ⟨by decide +kernel, rfl⟩
theorem d_TA_fillLeast_56 : DJ b_TA_fillLeast 56 .goto 59 21 := ⟨-35, by decide +kernel, rfl, by decide⟩
theorem d_TA_fillLeast_59 : DR b_TA_fillLeast 59 (.iinc 2 (-1)) 3 62 := ⟨by decide +kernel, rfl⟩
theorem d_TA_fillLeast_62 : DJ b_TA_fillLeast 62 .goto 65 15 := ⟨-47, by decide +kernel, rfl, by decide⟩
theorem d_TA_fillLeast_65 : DR b_TA_fillLeast 65 (.return_) 1 66 := ⟨by decide +kernel, rfl⟩
set_option maxRecDepth 20000 in
theorem B_TA_fillLeast_53 {G : MCx} (hC : C0 G "AccusedChoose$Table" b_TA_fillLeast 4 5) {t1 : Nat} (h1 : isPR t1) {v2 : Int32} (K15 : Int32 × St → Option (St)) (hK15 : ∀ (w2 : Int32) (s : St), VO G (RV G b_TA_fillLeast) (K15 (w2, s)) 15 [(0, .ref (gad G 49)), (1, .ref (gad G t1)), (2, .int w2)] [] s) (K21 : Int32 × St → Option (St)) (hK21 : ∀ (w3 : Int32) (s : St), VO G (RV G b_TA_fillLeast) (K21 (w3, s)) 21 [(0, .ref (gad G 49)), (1, .ref (gad G t1)), (2, .int v2), (3, .int w3)] [] s) (v3 : Int32) (s : St) : VO G (RV G b_TA_fillLeast) (F_TA_fillLeast_53 t1 K15 K21 v2 v3 s) 53 [(0, .ref (gad G 49)), (1, .ref (gad G t1)), (2, .int v2), (3, .int v3)] [] s := by
  unfold F_TA_fillLeast_53
  refine VO_iinc hC d_TA_fillLeast_53 3 rfl (by decide : Int32.ofInt 1 = 1) [(0, .ref (gad G 49)), (1, .ref (gad G t1)), (2, .int v2)] rfl (by decide) ?_
  refine VO_goto hC d_TA_fillLeast_56 ?_
  exact VO_sub [1, 2, 3, 0] rfl (hK21 (v3 + 1) s)
set_option maxRecDepth 20000 in
theorem BH_TA_fillLeast_21 {G : MCx} (hC : C0 G "AccusedChoose$Table" b_TA_fillLeast 4 5) {t1 : Nat} (h1 : isPR t1) {v2 : Int32} (K15 : Int32 × St → Option (St)) (hK15 : ∀ (w2 : Int32) (s : St), VO G (RV G b_TA_fillLeast) (K15 (w2, s)) 15 [(0, .ref (gad G 49)), (1, .ref (gad G t1)), (2, .int w2)] [] s) (K21 : Int32 × St → Option (St)) (hK21 : ∀ (w3 : Int32) (s : St), VO G (RV G b_TA_fillLeast) (K21 (w3, s)) 21 [(0, .ref (gad G 49)), (1, .ref (gad G t1)), (2, .int v2), (3, .int w3)] [] s) (v3 : Int32) (s : St) : VO G (RV G b_TA_fillLeast) (H_TA_fillLeast_21 t1 K15 v2 K21 v3 s) 21 [(0, .ref (gad G 49)), (1, .ref (gad G t1)), (2, .int v2), (3, .int v3)] [] s := by
  unfold H_TA_fillLeast_21
  refine VO_iload hC d_TA_fillLeast_21 3 rfl ?_
  refine VO_aload hC d_TA_fillLeast_22 1 rfl ?_
  refine VO_geti hC fl_TA_33 (sh_PR h1) rfl d_TA_fillLeast_23 ?_
  refine VO_callNI hC [.int (rd s t1 1)] [.int v3] nl_TA_36 d_TA_fillLeast_26 ys_AC_bit (fun o h => M_AC_bit hC.inj h) (by decide) rfl rfl (Nat.le_of_ble_eq_true rfl) (fun o3 => ?_)
  refine VO_icmp_ge hC d_TA_fillLeast_29 (fun _ => ?_) (fun _ => ?_)
  · refine VO_iincN hC d_TA_fillLeast_59 2 rfl (by decide : Int32.ofInt (-1) = -1) [(0, .ref (gad G 49)), (1, .ref (gad G t1)), (3, .int v3)] rfl (by decide) ?_
    refine VO_goto hC d_TA_fillLeast_62 ?_
    exact VO_sub [1, 2, 0] rfl (hK15 (v2 - 1) o3.2)
  · refine VO_iload hC d_TA_fillLeast_32 3 rfl ?_
    refine VO_iload hC d_TA_fillLeast_33 2 rfl ?_
    refine VO_callSI hC [.int v3, .int v2] [] ml_TA_40 d_TA_fillLeast_34 ys_TA_canBe (fun o h => M_TA_canBe hC.inj h) (by decide) rfl rfl (Nat.le_of_ble_eq_true rfl) (fun o4 => ?_)
    refine VO_if_eq hC d_TA_fillLeast_37 (fun _ => ?_) (fun _ => ?_)
    · exact (B_TA_fillLeast_53 hC h1 K15 hK15 K21 hK21 v3 o4.2)
    · refine VO_aload hC d_TA_fillLeast_40 0 rfl ?_
      refine VO_iload hC d_TA_fillLeast_41 2 rfl ?_
      refine VO_iload hC d_TA_fillLeast_42 3 rfl ?_
      refine VO_aload hC d_TA_fillLeast_43 0 rfl ?_
      refine VO_aload hC d_TA_fillLeast_44 1 rfl ?_
      refine VO_iload hC d_TA_fillLeast_45 2 rfl ?_
      refine VO_iload hC d_TA_fillLeast_46 3 rfl ?_
      refine VO_callVI hC [.ref (gad G t1), .int v2, .int v3] [.int v3, .int v2, .ref (gad G 49)] ml_TA_44 d_TA_fillLeast_47 yv_TA_leastFrom sh_TA rfl rfl (fun o h => M_TA_leastFrom hC.inj h1 h) (by decide) rfl rfl (Nat.le_of_ble_eq_true rfl) (fun o5 => ?_)
      refine VO_callVV hC [.int v2, .int v3, .int o5.1] [] ml_TA_48 d_TA_fillLeast_50 yv_TA_set sh_TA rfl rfl (fun o h => M_TA_set hC.inj h) (by decide) rfl rfl (Nat.le_of_ble_eq_true rfl) (fun s6 => ?_)
      exact (B_TA_fillLeast_53 hC h1 K15 hK15 K21 hK21 v3 s6)
set_option maxRecDepth 20000 in
theorem B_TA_fillLeast_21 {G : MCx} (hC : C0 G "AccusedChoose$Table" b_TA_fillLeast 4 5) {t1 : Nat} (h1 : isPR t1) (K15 : Int32 × St → Option (St)) (hK15 : ∀ (w2 : Int32) (s : St), VO G (RV G b_TA_fillLeast) (K15 (w2, s)) 15 [(0, .ref (gad G 49)), (1, .ref (gad G t1)), (2, .int w2)] [] s) (v2 : Int32) (v3 : Int32) (s : St) : VO G (RV G b_TA_fillLeast) (F_TA_fillLeast_21 t1 K15 v2 v3 s) 21 [(0, .ref (gad G 49)), (1, .ref (gad G t1)), (2, .int v2), (3, .int v3)] [] s := by
  exact VO_fix (G_TA_fillLeast_21 t1 K15 v2) 21 (fun q => [(0, .ref (gad G 49)), (1, .ref (gad G t1)), (2, .int v2), (3, .int q.1)]) (fun q => q.2) (fun K hK q => BH_TA_fillLeast_21 hC h1 K15 hK15 K (fun w3 s => hK (w3, s)) q.1 q.2) FUEL (v3, s)
set_option maxRecDepth 20000 in
theorem BH_TA_fillLeast_15 {G : MCx} (hC : C0 G "AccusedChoose$Table" b_TA_fillLeast 4 5) {t1 : Nat} (h1 : isPR t1) (K15 : Int32 × St → Option (St)) (hK15 : ∀ (w2 : Int32) (s : St), VO G (RV G b_TA_fillLeast) (K15 (w2, s)) 15 [(0, .ref (gad G 49)), (1, .ref (gad G t1)), (2, .int w2)] [] s) (v2 : Int32) (s : St) : VO G (RV G b_TA_fillLeast) (H_TA_fillLeast_15 t1 K15 v2 s) 15 [(0, .ref (gad G 49)), (1, .ref (gad G t1)), (2, .int v2)] [] s := by
  unfold H_TA_fillLeast_15
  refine VO_iload hC d_TA_fillLeast_15 2 rfl ?_
  refine VO_if_lt hC d_TA_fillLeast_16 (fun _ => ?_) (fun _ => ?_)
  · exact VO_return d_TA_fillLeast_65
  · refine VO_const hC d_TA_fillLeast_19 ?_
    refine VO_istore hC d_TA_fillLeast_20 [(0, .ref (gad G 49)), (1, .ref (gad G t1)), (2, .int v2)] rfl (by decide) ?_
    exact VO_sub [1, 2, 3, 0] rfl (B_TA_fillLeast_21 hC h1 K15 hK15 v2 (0 : Int32) s)
set_option maxRecDepth 20000 in
theorem B_TA_fillLeast_15 {G : MCx} (hC : C0 G "AccusedChoose$Table" b_TA_fillLeast 4 5) {t1 : Nat} (h1 : isPR t1) (v2 : Int32) (s : St) : VO G (RV G b_TA_fillLeast) (F_TA_fillLeast_15 t1 v2 s) 15 [(0, .ref (gad G 49)), (1, .ref (gad G t1)), (2, .int v2)] [] s := by
  exact VO_fix (G_TA_fillLeast_15 t1) 15 (fun q => [(0, .ref (gad G 49)), (1, .ref (gad G t1)), (2, .int q.1)]) (fun q => q.2) (fun K hK q => BH_TA_fillLeast_15 hC h1 K (fun w2 s => hK (w2, s)) q.1 q.2) FUEL (v2, s)
set_option maxRecDepth 20000 in
theorem B_TA_fillLeast {G : MCx} (hC : C0 G "AccusedChoose$Table" b_TA_fillLeast 4 5) {t1 : Nat} (h1 : isPR t1) (s : St) : VO G (RV G b_TA_fillLeast) (F_TA_fillLeast t1 s) 0 [(0, .ref (gad G 49)), (1, .ref (gad G t1))] [] s := by
  unfold F_TA_fillLeast
  refine VO_aload hC d_TA_fillLeast_0 0 rfl ?_
  refine VO_aload hC d_TA_fillLeast_1 1 rfl ?_
  refine VO_geti hC fl_TA_23 (sh_PR h1) rfl d_TA_fillLeast_2 ?_
  refine VO_callVV hC [.int (rd s t1 0)] [] ml_TA_29 d_TA_fillLeast_5 yv_TA_closeAt sh_TA rfl rfl (fun o h => M_TA_closeAt hC.inj h) (by decide) rfl rfl (Nat.le_of_ble_eq_true rfl) (fun s1 => ?_)
  refine VO_aload hC d_TA_fillLeast_8 1 rfl ?_
  refine VO_geti hC fl_TA_23 (sh_PR h1) rfl d_TA_fillLeast_9 ?_
  refine VO_const hC d_TA_fillLeast_12 ?_
  refine VO_isub hC d_TA_fillLeast_13 ?_
  refine VO_istoreB hC d_TA_fillLeast_14 [(0, .ref (gad G 49)), (1, .ref (gad G t1))] rfl (by decide) (fun x2 => ?_)
  exact VO_sub [1, 2, 0] rfl (B_TA_fillLeast_15 hC h1 x2 s1)
set_option maxRecDepth 20000 in
theorem M_TA_fillLeast {l : Launch} {D : va_G} {ad : Nat → Nat} {cI cL : ClassId} (hj : Inj ad) {t1 : Nat} (h1 : isPR t1) {s : St} {o : St} (h : F_TA_fillLeast t1 s = some o) : Cn l D ad cI cL y_TA_fillLeast b_TA_fillLeast 4 none 5 [.ref (ad 49), .ref (ad t1)] s none o := by
  refine Cn_ofV hj (plainFor_of_name (by decide)) (Nat.le_of_ble_eq_true rfl) [(0, .ref (ad 49)), (1, .ref (ad t1))] rfl (fun G hC e1 e2 e3 e4 e5 hR => ?_)
  subst e1; subst e2; subst e3; subst e4; subst e5
  exact B_TA_fillLeast hC h1 s o h hR
theorem d_TA_leastStep_0 : PLa b_TA_leastStep 0 0 1 := Or.inl ⟨0, by decide +kernel, rfl, rfl⟩
theorem d_TA_leastStep_1 : PLi b_TA_leastStep 1 2 2 := Or.inl ⟨2, by decide +kernel, rfl, rfl⟩
theorem d_TA_leastStep_2 : PLi b_TA_leastStep 2 3 3 := Or.inl ⟨3, by decide +kernel, rfl, rfl⟩
theorem d_TA_leastStep_3 : DR b_TA_leastStep 3 (.invokevirtual 52) 3 6 := ⟨by decide +kernel, rfl⟩
theorem d_TA_leastStep_6 : PSi b_TA_leastStep 6 4 8 := Or.inr ⟨by decide +kernel, rfl⟩
theorem d_TA_leastStep_8 : PCi b_TA_leastStep 8 0 9 := Or.inl ⟨0, by decide +kernel, by decide, rfl⟩
theorem d_TA_leastStep_9 : PSi b_TA_leastStep 9 5 11 := Or.inr ⟨by decide +kernel, rfl⟩
theorem d_TA_leastStep_11 : PLi b_TA_leastStep 11 5 13 := Or.inr ⟨by decide +kernel, rfl⟩
theorem d_TA_leastStep_13 : PLa b_TA_leastStep 13 1 14 := Or.inl ⟨1, by decide +kernel, rfl, rfl⟩
theorem d_TA_leastStep_14 : DR b_TA_leastStep 14 (.getfield 33) 3 17 := ⟨by decide +kernel, rfl⟩
theorem d_TA_leastStep_17 : DJ b_TA_leastStep 17 (.if_icmp .ge) 20 63 := ⟨46, by decide +kernel, rfl, by decide⟩
theorem d_TA_leastStep_20 : PLi b_TA_leastStep 20 3 21 := Or.inl ⟨3, by decide +kernel, rfl, rfl⟩
theorem d_TA_leastStep_21 : PLi b_TA_leastStep 21 5 23 := Or.inr ⟨by decide +kernel, rfl⟩
theorem d_TA_leastStep_23 : DR b_TA_leastStep 23 (.invokestatic 56) 3 26 := ⟨by decide +kernel, rfl⟩
theorem d_TA_leastStep_26 : DJ b_TA_leastStep 26 (.ifCond .ne) 29 57 := ⟨31, by decide +kernel, rfl, by decide⟩
theorem d_TA_leastStep_29 : PLa b_TA_leastStep 29 1 30 := Or.inl ⟨1, by decide +kernel, rfl, rfl⟩
theorem d_TA_leastStep_30 : PLi b_TA_leastStep 30 2 31 := Or.inl ⟨2, by decide +kernel, rfl, rfl⟩
theorem d_TA_leastStep_31 : PLi b_TA_leastStep 31 5 33 := Or.inr ⟨by decide +kernel, rfl⟩
theorem d_TA_leastStep_33 : DR b_TA_leastStep 33 (.invokevirtual 59) 3 36 := ⟨by decide +kernel, rfl⟩
theorem d_TA_leastStep_36 : DJ b_TA_leastStep 36 (.ifCond .eq) 39 57 := ⟨21, by decide +kernel, rfl, by decide⟩
theorem d_TA_leastStep_39 : PLa b_TA_leastStep 39 0 40 := Or.inl ⟨0, by decide +kernel, rfl, rfl⟩
theorem d_TA_leastStep_40 : PLa b_TA_leastStep 40 1 41 := Or.inl ⟨1, by decide +kernel, rfl, rfl⟩
theorem d_TA_leastStep_41 : PLi b_TA_leastStep 41 2 42 := Or.inl ⟨2, by decide +kernel, rfl, rfl⟩
theorem d_TA_leastStep_42 : PLi b_TA_leastStep 42 2 43 := Or.inl ⟨2, by decide +kernel, rfl, rfl⟩
theorem d_TA_leastStep_43 : PLi b_TA_leastStep 43 5 45 := Or.inr ⟨by decide +kernel, rfl⟩
theorem d_TA_leastStep_45 : PLi b_TA_leastStep 45 3 46 := Or.inl ⟨3, by decide +kernel, rfl, rfl⟩
theorem d_TA_leastStep_46 : DR b_TA_leastStep 46 (.invokevirtual 62) 3 49 := ⟨by decide +kernel, rfl⟩
theorem d_TA_leastStep_49 : PLi b_TA_leastStep 49 4 51 := Or.inr ⟨by decide +kernel, rfl⟩
theorem d_TA_leastStep_51 : DJ b_TA_leastStep 51 (.if_icmp .ne) 54 57 := ⟨6, by decide +kernel, rfl, by decide⟩
theorem d_TA_leastStep_54 : PLi b_TA_leastStep 54 5 56 := Or.inr ⟨by decide +kernel, rfl⟩
theorem d_TA_leastStep_56 : DR b_TA_leastStep 56 (.ireturn) 1 57 := ⟨by decide +kernel, rfl⟩
theorem d_TA_leastStep_57 : DR b_TA_leastStep 57 (.iinc 5 1) 3 60 := ⟨by decide +kernel, rfl⟩
theorem d_TA_leastStep_60 : DJ b_TA_leastStep 60 .goto 63 11 := ⟨-49, by decide +kernel, rfl, by decide⟩
theorem d_TA_leastStep_63 : PCi b_TA_leastStep 63 (-9) 65 := Or.inr (Or.inl ⟨(-9), by decide +kernel, by decide, rfl⟩)
theorem d_TA_leastStep_65 : DR b_TA_leastStep 65 (.ireturn) 1 66 := ⟨by decide +kernel, rfl⟩
set_option maxRecDepth 20000 in
theorem B_TA_leastStep_57 {G : MCx} (hC : C0 G "AccusedChoose$Table" b_TA_leastStep 6 4) {t1 : Nat} (h1 : isPR t1) {v2 : Int32} {v3 : Int32} {v4 : Int32} (K11 : Int32 × St → Option (Int32 × St)) (hK11 : ∀ (w5 : Int32) (s : St), VO G (RI G b_TA_leastStep) (K11 (w5, s)) 11 [(0, .ref (gad G 49)), (1, .ref (gad G t1)), (2, .int v2), (3, .int v3), (4, .int v4), (5, .int w5)] [] s) (v5 : Int32) (s : St) : VO G (RI G b_TA_leastStep) (F_TA_leastStep_57 t1 K11 v2 v3 v4 v5 s) 57 [(0, .ref (gad G 49)), (1, .ref (gad G t1)), (2, .int v2), (3, .int v3), (4, .int v4), (5, .int v5)] [] s := by
  unfold F_TA_leastStep_57
  refine VO_iinc hC d_TA_leastStep_57 5 rfl (by decide : Int32.ofInt 1 = 1) [(0, .ref (gad G 49)), (1, .ref (gad G t1)), (2, .int v2), (3, .int v3), (4, .int v4)] rfl (by decide) ?_
  refine VO_goto hC d_TA_leastStep_60 ?_
  exact VO_sub [1, 2, 3, 4, 5, 0] rfl (hK11 (v5 + 1) s)
set_option maxRecDepth 20000 in
theorem BH_TA_leastStep_11 {G : MCx} (hC : C0 G "AccusedChoose$Table" b_TA_leastStep 6 4) {t1 : Nat} (h1 : isPR t1) {v2 : Int32} {v3 : Int32} {v4 : Int32} (K11 : Int32 × St → Option (Int32 × St)) (hK11 : ∀ (w5 : Int32) (s : St), VO G (RI G b_TA_leastStep) (K11 (w5, s)) 11 [(0, .ref (gad G 49)), (1, .ref (gad G t1)), (2, .int v2), (3, .int v3), (4, .int v4), (5, .int w5)] [] s) (v5 : Int32) (s : St) : VO G (RI G b_TA_leastStep) (H_TA_leastStep_11 t1 v2 v3 v4 K11 v5 s) 11 [(0, .ref (gad G 49)), (1, .ref (gad G t1)), (2, .int v2), (3, .int v3), (4, .int v4), (5, .int v5)] [] s := by
  unfold H_TA_leastStep_11
  refine VO_iload hC d_TA_leastStep_11 5 rfl ?_
  refine VO_aload hC d_TA_leastStep_13 1 rfl ?_
  refine VO_geti hC fl_TA_33 (sh_PR h1) rfl d_TA_leastStep_14 ?_
  refine VO_icmp_ge hC d_TA_leastStep_17 (fun _ => ?_) (fun _ => ?_)
  · refine VO_const hC d_TA_leastStep_63 ?_
    exact VO_ireturn d_TA_leastStep_65
  · refine VO_iload hC d_TA_leastStep_20 3 rfl ?_
    refine VO_iload hC d_TA_leastStep_21 5 rfl ?_
    refine VO_callNI hC [.int v3, .int v5] [] nl_TA_56 d_TA_leastStep_23 ys_AC_has (fun o h => M_AC_has hC.inj h) (by decide) rfl rfl (Nat.le_of_ble_eq_true rfl) (fun o2 => ?_)
    refine VO_if_ne hC d_TA_leastStep_26 (fun _ => ?_) (fun _ => ?_)
    · refine VO_aload hC d_TA_leastStep_29 1 rfl ?_
      refine VO_iload hC d_TA_leastStep_30 2 rfl ?_
      refine VO_iload hC d_TA_leastStep_31 5 rfl ?_
      refine VO_callVI hC [.int v2, .int v5] [] ml_TA_59 d_TA_leastStep_33 yv_PR_allows (sh_PR h1) rfl rfl (fun o h => M_PR_allows hC.inj h1 h) (by decide) rfl rfl (Nat.le_of_ble_eq_true rfl) (fun o3 => ?_)
      refine VO_if_eq hC d_TA_leastStep_36 (fun _ => ?_) (fun _ => ?_)
      · exact (B_TA_leastStep_57 hC h1 K11 hK11 v5 o3.2)
      · refine VO_aload hC d_TA_leastStep_39 0 rfl ?_
        refine VO_aload hC d_TA_leastStep_40 1 rfl ?_
        refine VO_iload hC d_TA_leastStep_41 2 rfl ?_
        refine VO_iload hC d_TA_leastStep_42 2 rfl ?_
        refine VO_iload hC d_TA_leastStep_43 5 rfl ?_
        refine VO_iload hC d_TA_leastStep_45 3 rfl ?_
        refine VO_callVI hC [.ref (gad G t1), .int v2, .int v2, .int v5, .int v3] [] ml_TA_62 d_TA_leastStep_46 yv_TA_monthsWith sh_TA rfl rfl (fun o h => M_TA_monthsWith hC.inj h1 h) (by decide) rfl rfl (Nat.le_of_ble_eq_true rfl) (fun o4 => ?_)
        refine VO_iload hC d_TA_leastStep_49 4 rfl ?_
        refine VO_icmp_ne hC d_TA_leastStep_51 (fun _ => ?_) (fun _ => ?_)
        · refine VO_iload hC d_TA_leastStep_54 5 rfl ?_
          exact VO_ireturn d_TA_leastStep_56
        · exact (B_TA_leastStep_57 hC h1 K11 hK11 v5 o4.2)
    · exact (B_TA_leastStep_57 hC h1 K11 hK11 v5 o2.2)
set_option maxRecDepth 20000 in
theorem B_TA_leastStep_11 {G : MCx} (hC : C0 G "AccusedChoose$Table" b_TA_leastStep 6 4) {t1 : Nat} (h1 : isPR t1) (v2 : Int32) (v3 : Int32) (v4 : Int32) (v5 : Int32) (s : St) : VO G (RI G b_TA_leastStep) (F_TA_leastStep_11 t1 v2 v3 v4 v5 s) 11 [(0, .ref (gad G 49)), (1, .ref (gad G t1)), (2, .int v2), (3, .int v3), (4, .int v4), (5, .int v5)] [] s := by
  exact VO_fix (G_TA_leastStep_11 t1 v2 v3 v4) 11 (fun q => [(0, .ref (gad G 49)), (1, .ref (gad G t1)), (2, .int v2), (3, .int v3), (4, .int v4), (5, .int q.1)]) (fun q => q.2) (fun K hK q => BH_TA_leastStep_11 hC h1 K (fun w5 s => hK (w5, s)) q.1 q.2) FUEL (v5, s)
set_option maxRecDepth 20000 in
theorem B_TA_leastStep {G : MCx} (hC : C0 G "AccusedChoose$Table" b_TA_leastStep 6 4) {t1 : Nat} (h1 : isPR t1) (a2 : Int32) (a3 : Int32) (s : St) : VO G (RI G b_TA_leastStep) (F_TA_leastStep t1 a2 a3 s) 0 [(0, .ref (gad G 49)), (1, .ref (gad G t1)), (2, .int a2), (3, .int a3)] [] s := by
  unfold F_TA_leastStep
  refine VO_aload hC d_TA_leastStep_0 0 rfl ?_
  refine VO_iload hC d_TA_leastStep_1 2 rfl ?_
  refine VO_iload hC d_TA_leastStep_2 3 rfl ?_
  refine VO_callVI hC [.int a2, .int a3] [] ml_TA_52 d_TA_leastStep_3 yv_TA_get sh_TA rfl rfl (fun o h => M_TA_get hC.inj h) (by decide) rfl rfl (Nat.le_of_ble_eq_true rfl) (fun o1 => ?_)
  refine VO_istore hC d_TA_leastStep_6 [(0, .ref (gad G 49)), (1, .ref (gad G t1)), (2, .int a2), (3, .int a3)] rfl (by decide) ?_
  refine VO_const hC d_TA_leastStep_8 ?_
  refine VO_istore hC d_TA_leastStep_9 [(4, .int o1.1), (0, .ref (gad G 49)), (1, .ref (gad G t1)), (2, .int a2), (3, .int a3)] rfl (by decide) ?_
  exact VO_sub [2, 3, 4, 5, 1, 0] rfl (B_TA_leastStep_11 hC h1 a2 a3 o1.1 (0 : Int32) o1.2)
set_option maxRecDepth 20000 in
theorem M_TA_leastStep {l : Launch} {D : va_G} {ad : Nat → Nat} {cI cL : ClassId} (hj : Inj ad) {t1 : Nat} (h1 : isPR t1) {a2 : Int32} {a3 : Int32} {s : St} {o : Int32 × St} (h : F_TA_leastStep t1 a2 a3 s = some o) : Cn l D ad cI cL y_TA_leastStep b_TA_leastStep 6 (some .int) 4 [.ref (ad 49), .ref (ad t1), .int a2, .int a3] s (some (.int o.1)) o.2 := by
  refine Cn_ofI hj (plainFor_of_name (by decide)) (Nat.le_of_ble_eq_true rfl) [(0, .ref (ad 49)), (1, .ref (ad t1)), (2, .int a2), (3, .int a3)] rfl (fun G hC e1 e2 e3 e4 e5 hR => ?_)
  subst e1; subst e2; subst e3; subst e4; subst e5
  exact B_TA_leastStep hC h1 a2 a3 s o h hR
theorem d_TA_leastDeed_0 : PCi b_TA_leastDeed 0 0 1 := Or.inl ⟨0, by decide +kernel, by decide, rfl⟩
theorem d_TA_leastDeed_1 : PSi b_TA_leastDeed 1 3 2 := Or.inl ⟨3, by decide +kernel, rfl, rfl⟩
theorem d_TA_leastDeed_2 : PCi b_TA_leastDeed 2 (-9) 4 := Or.inr (Or.inl ⟨(-9), by decide +kernel, by decide, rfl⟩)
theorem d_TA_leastDeed_4 : PSi b_TA_leastDeed 4 4 6 := Or.inr ⟨by decide +kernel, rfl⟩
theorem d_TA_leastDeed_6 : PCi b_TA_leastDeed 6 0 7 := Or.inl ⟨0, by decide +kernel, by decide, rfl⟩
theorem d_TA_leastDeed_7 : PSi b_TA_leastDeed 7 5 9 := Or.inr ⟨by decide +kernel, rfl⟩
theorem d_TA_leastDeed_9 : PLi b_TA_leastDeed 9 5 11 := Or.inr ⟨by decide +kernel, rfl⟩
theorem d_TA_leastDeed_11 : PLi b_TA_leastDeed 11 2 12 := Or.inl ⟨2, by decide +kernel, rfl, rfl⟩
theorem d_TA_leastDeed_12 : DJ b_TA_leastDeed 12 (.if_icmp .gt) 15 39 := ⟨27, by decide +kernel, rfl, by decide⟩
theorem d_TA_leastDeed_15 : PLa b_TA_leastDeed 15 0 16 := Or.inl ⟨0, by decide +kernel, rfl, rfl⟩
theorem d_TA_leastDeed_16 : PLa b_TA_leastDeed 16 1 17 := Or.inl ⟨1, by decide +kernel, rfl, rfl⟩
theorem d_TA_leastDeed_17 : PLi b_TA_leastDeed 17 5 19 := Or.inr ⟨by decide +kernel, rfl⟩
theorem d_TA_leastDeed_19 : PLi b_TA_leastDeed 19 3 20 := Or.inl ⟨3, by decide +kernel, rfl, rfl⟩
theorem d_TA_leastDeed_20 : DR b_TA_leastDeed 20 (.invokevirtual 71) 3 23 := ⟨by decide +kernel, rfl⟩
theorem d_TA_leastDeed_23 : PSi b_TA_leastDeed 23 4 25 := Or.inr ⟨by decide +kernel, rfl⟩
theorem d_TA_leastDeed_25 : PLi b_TA_leastDeed 25 3 26 := Or.inl ⟨3, by decide +kernel, rfl, rfl⟩
theorem d_TA_leastDeed_26 : PLi b_TA_leastDeed 26 4 28 := Or.inr ⟨by decide +kernel, rfl⟩
theorem d_TA_leastDeed_28 : DR b_TA_leastDeed 28 (.invokestatic 36) 3 31 := ⟨by decide +kernel, rfl⟩
theorem d_TA_leastDeed_31 : DR b_TA_leastDeed 31 (.ior) 1 32 := ⟨by decide +kernel, rfl⟩
theorem d_TA_leastDeed_32 : PSi b_TA_leastDeed 32 3 33 := Or.inl ⟨3, by decide +kernel, rfl, rfl⟩
theorem d_TA_leastDeed_33 : DR b_TA_leastDeed 33 (.iinc 5 1) 3 36 := ⟨by decide +kernel, rfl⟩
theorem d_TA_leastDeed_36 : DJ b_TA_leastDeed 36 .goto 39 9 := ⟨-27, by decide +kernel, rfl, by decide⟩
theorem d_TA_leastDeed_39 : PLi b_TA_leastDeed 39 4 41 := Or.inr ⟨by decide +kernel, rfl⟩
theorem d_TA_leastDeed_41 : DR b_TA_leastDeed 41 (.ireturn) 1 42 := ⟨by decide +kernel, rfl⟩
set_option maxRecDepth 20000 in
theorem BH_TA_leastDeed_9 {G : MCx} (hC : C0 G "AccusedChoose$Table" b_TA_leastDeed 6 5) {t1 : Nat} (h1 : isPR t1) {v2 : Int32} (K9 : Int32 × Int32 × Int32 × St → Option (Int32 × St)) (hK9 : ∀ (w3 : Int32) (w4 : Int32) (w5 : Int32) (s : St), VO G (RI G b_TA_leastDeed) (K9 (w3, w4, w5, s)) 9 [(0, .ref (gad G 49)), (1, .ref (gad G t1)), (2, .int v2), (3, .int w3), (4, .int w4), (5, .int w5)] [] s) (v3 : Int32) (v4 : Int32) (v5 : Int32) (s : St) : VO G (RI G b_TA_leastDeed) (H_TA_leastDeed_9 t1 v2 K9 v3 v4 v5 s) 9 [(0, .ref (gad G 49)), (1, .ref (gad G t1)), (2, .int v2), (3, .int v3), (4, .int v4), (5, .int v5)] [] s := by
  unfold H_TA_leastDeed_9
  refine VO_iload hC d_TA_leastDeed_9 5 rfl ?_
  refine VO_iload hC d_TA_leastDeed_11 2 rfl ?_
  refine VO_icmp_gt hC d_TA_leastDeed_12 (fun _ => ?_) (fun _ => ?_)
  · refine VO_iload hC d_TA_leastDeed_39 4 rfl ?_
    exact VO_ireturn d_TA_leastDeed_41
  · refine VO_aload hC d_TA_leastDeed_15 0 rfl ?_
    refine VO_aload hC d_TA_leastDeed_16 1 rfl ?_
    refine VO_iload hC d_TA_leastDeed_17 5 rfl ?_
    refine VO_iload hC d_TA_leastDeed_19 3 rfl ?_
    refine VO_callVI hC [.ref (gad G t1), .int v5, .int v3] [] ml_TA_71 d_TA_leastDeed_20 yv_TA_leastStep sh_TA rfl rfl (fun o h => M_TA_leastStep hC.inj h1 h) (by decide) rfl rfl (Nat.le_of_ble_eq_true rfl) (fun o1 => ?_)
    refine VO_istore hC d_TA_leastDeed_23 [(0, .ref (gad G 49)), (1, .ref (gad G t1)), (2, .int v2), (3, .int v3), (5, .int v5)] rfl (by decide) ?_
    refine VO_iload hC d_TA_leastDeed_25 4 rfl ?_
    refine VO_iload hC d_TA_leastDeed_26 0 rfl ?_
    refine VO_callNI hC [.int o1.1] [.int v3] nl_TA_36 d_TA_leastDeed_28 ys_AC_bit (fun o h => M_AC_bit hC.inj h) (by decide) rfl rfl (Nat.le_of_ble_eq_true rfl) (fun o2 => ?_)
    refine VO_ior hC d_TA_leastDeed_31 ?_
    refine VO_istoreB hC d_TA_leastDeed_32 [(4, .int o1.1), (0, .ref (gad G 49)), (1, .ref (gad G t1)), (2, .int v2), (5, .int v5)] rfl (by decide) (fun x3 => ?_)
    refine VO_iinc hC d_TA_leastDeed_33 5 rfl (by decide : Int32.ofInt 1 = 1) [(3, .int x3), (4, .int o1.1), (0, .ref (gad G 49)), (1, .ref (gad G t1)), (2, .int v2)] rfl (by decide) ?_
    refine VO_goto hC d_TA_leastDeed_36 ?_
    exact VO_sub [3, 4, 5, 1, 2, 0] rfl (hK9 x3 o1.1 (v5 + 1) o2.2)
set_option maxRecDepth 20000 in
theorem B_TA_leastDeed_9 {G : MCx} (hC : C0 G "AccusedChoose$Table" b_TA_leastDeed 6 5) {t1 : Nat} (h1 : isPR t1) (v2 : Int32) (v3 : Int32) (v4 : Int32) (v5 : Int32) (s : St) : VO G (RI G b_TA_leastDeed) (F_TA_leastDeed_9 t1 v2 v3 v4 v5 s) 9 [(0, .ref (gad G 49)), (1, .ref (gad G t1)), (2, .int v2), (3, .int v3), (4, .int v4), (5, .int v5)] [] s := by
  exact VO_fix (G_TA_leastDeed_9 t1 v2) 9 (fun q => [(0, .ref (gad G 49)), (1, .ref (gad G t1)), (2, .int v2), (3, .int q.1), (4, .int q.2.1), (5, .int q.2.2.1)]) (fun q => q.2.2.2) (fun K hK q => BH_TA_leastDeed_9 hC h1 K (fun w3 w4 w5 s => hK (w3, w4, w5, s)) q.1 q.2.1 q.2.2.1 q.2.2.2) FUEL (v3, v4, v5, s)
set_option maxRecDepth 20000 in
theorem B_TA_leastDeed {G : MCx} (hC : C0 G "AccusedChoose$Table" b_TA_leastDeed 6 5) {t1 : Nat} (h1 : isPR t1) (a2 : Int32) (s : St) : VO G (RI G b_TA_leastDeed) (F_TA_leastDeed t1 a2 s) 0 [(0, .ref (gad G 49)), (1, .ref (gad G t1)), (2, .int a2)] [] s := by
  unfold F_TA_leastDeed
  refine VO_const hC d_TA_leastDeed_0 ?_
  refine VO_istore hC d_TA_leastDeed_1 [(0, .ref (gad G 49)), (1, .ref (gad G t1)), (2, .int a2)] rfl (by decide) ?_
  refine VO_const hC d_TA_leastDeed_2 ?_
  refine VO_istore hC d_TA_leastDeed_4 [(3, .int (0 : Int32)), (0, .ref (gad G 49)), (1, .ref (gad G t1)), (2, .int a2)] rfl (by decide) ?_
  refine VO_const hC d_TA_leastDeed_6 ?_
  refine VO_istore hC d_TA_leastDeed_7 [(4, .int (-9 : Int32)), (3, .int (0 : Int32)), (0, .ref (gad G 49)), (1, .ref (gad G t1)), (2, .int a2)] rfl (by decide) ?_
  exact VO_sub [3, 4, 5, 2, 1, 0] rfl (B_TA_leastDeed_9 hC h1 a2 (0 : Int32) (-9 : Int32) (0 : Int32) s)
set_option maxRecDepth 20000 in
theorem M_TA_leastDeed {l : Launch} {D : va_G} {ad : Nat → Nat} {cI cL : ClassId} (hj : Inj ad) {t1 : Nat} (h1 : isPR t1) {a2 : Int32} {s : St} {o : Int32 × St} (h : F_TA_leastDeed t1 a2 s = some o) : Cn l D ad cI cL y_TA_leastDeed b_TA_leastDeed 6 (some .int) 5 [.ref (ad 49), .ref (ad t1), .int a2] s (some (.int o.1)) o.2 := by
  refine Cn_ofI hj (plainFor_of_name (by decide)) (Nat.le_of_ble_eq_true rfl) [(0, .ref (ad 49)), (1, .ref (ad t1)), (2, .int a2)] rfl (fun G hC e1 e2 e3 e4 e5 hR => ?_)
  subst e1; subst e2; subst e3; subst e4; subst e5
  exact B_TA_leastDeed hC h1 a2 s o h hR
theorem d_TA_chosen_0 : DR b_TA_chosen 0 (.ldc 81) 2 2 := ⟨by decide +kernel, rfl⟩
theorem d_TA_chosen_2 : PSi b_TA_chosen 2 5 4 := Or.inr ⟨by decide +kernel, rfl⟩
theorem d_TA_chosen_4 : PCi b_TA_chosen 4 0 5 := Or.inl ⟨0, by decide +kernel, by decide, rfl⟩
theorem d_TA_chosen_5 : PSi b_TA_chosen 5 6 7 := Or.inr ⟨by decide +kernel, rfl⟩
theorem d_TA_chosen_7 : PLi b_TA_chosen 7 6 9 := Or.inr ⟨by decide +kernel, rfl⟩
theorem d_TA_chosen_9 : PLa b_TA_chosen 9 1 10 := Or.inl ⟨1, by decide +kernel, rfl, rfl⟩
theorem d_TA_chosen_10 : DR b_TA_chosen 10 (.getfield 33) 3 13 := ⟨by decide +kernel, rfl⟩
theorem d_TA_chosen_13 : DJ b_TA_chosen 13 (.if_icmp .ge) 16 60 := ⟨47, by decide +kernel, rfl, by decide⟩
theorem d_TA_chosen_16 : PLi b_TA_chosen 16 4 18 := Or.inr ⟨by decide +kernel, rfl⟩
theorem d_TA_chosen_18 : PLi b_TA_chosen 18 6 20 := Or.inr ⟨by decide +kernel, rfl⟩
theorem d_TA_chosen_20 : DR b_TA_chosen 20 (.invokestatic 56) 3 23 := ⟨by decide +kernel, rfl⟩
theorem d_TA_chosen_23 : DJ b_TA_chosen 23 (.ifCond .ne) 26 54 := ⟨31, by decide +kernel, rfl, by decide⟩
theorem d_TA_chosen_26 : PLa b_TA_chosen 26 1 27 := Or.inl ⟨1, by decide +kernel, rfl, rfl⟩
theorem d_TA_chosen_27 : PLi b_TA_chosen 27 3 28 := Or.inl ⟨3, by decide +kernel, rfl, rfl⟩
theorem d_TA_chosen_28 : PLi b_TA_chosen 28 6 30 := Or.inr ⟨by decide +kernel, rfl⟩
theorem d_TA_chosen_30 : DR b_TA_chosen 30 (.invokevirtual 59) 3 33 := ⟨by decide +kernel, rfl⟩
theorem d_TA_chosen_33 : DJ b_TA_chosen 33 (.ifCond .eq) 36 54 := ⟨21, by decide +kernel, rfl, by decide⟩
theorem d_TA_chosen_36 : PLi b_TA_chosen 36 5 38 := Or.inr ⟨by decide +kernel, rfl⟩
theorem d_TA_chosen_38 : PLa b_TA_chosen 38 0 39 := Or.inl ⟨0, by decide +kernel, rfl, rfl⟩
theorem d_TA_chosen_39 : PLa b_TA_chosen 39 1 40 := Or.inl ⟨1, by decide +kernel, rfl, rfl⟩
theorem d_TA_chosen_40 : PLi b_TA_chosen 40 2 41 := Or.inl ⟨2, by decide +kernel, rfl, rfl⟩
theorem d_TA_chosen_41 : PLi b_TA_chosen 41 3 42 := Or.inl ⟨3, by decide +kernel, rfl, rfl⟩
theorem d_TA_chosen_42 : PLi b_TA_chosen 42 6 44 := Or.inr ⟨by decide +kernel, rfl⟩
theorem d_TA_chosen_44 : PLi b_TA_chosen 44 4 46 := Or.inr ⟨by decide +kernel, rfl⟩
theorem d_TA_chosen_46 : DR b_TA_chosen 46 (.invokevirtual 62) 3 49 := ⟨by decide +kernel, rfl⟩
theorem d_TA_chosen_49 : DR b_TA_chosen 49 (.invokestatic 66) 3 52 := ⟨by decide +kernel, rfl⟩
theorem d_TA_chosen_52 : PSi b_TA_chosen 52 5 54 := Or.inr ⟨by decide +kernel, rfl⟩
theorem d_TA_chosen_54 : DR b_TA_chosen 54 (.iinc 6 1) 3 57 := ⟨by decide +kernel, rfl⟩
theorem d_TA_chosen_57 : DJ b_TA_chosen 57 .goto 60 7 := ⟨-50, by decide +kernel, rfl, by decide⟩
theorem d_TA_chosen_60 : PLi b_TA_chosen 60 5 62 := Or.inr ⟨by decide +kernel, rfl⟩
theorem d_TA_chosen_62 : DR b_TA_chosen 62 (.ldc 81) 2 64 := ⟨by decide +kernel, rfl⟩
theorem d_TA_chosen_64 : DJ b_TA_chosen 64 (.if_icmp .ge) 67 72 := ⟨8, by decide +kernel, rfl, by decide⟩
theorem d_TA_chosen_67 : PLi b_TA_chosen 67 5 69 := Or.inr ⟨by decide +kernel, rfl⟩
theorem d_TA_chosen_69 : DJ b_TA_chosen 69 .goto 72 84 := ⟨15, by decide +kernel, rfl, by decide⟩
theorem d_TA_chosen_72 : PCi b_TA_chosen 72 60 74 := Or.inr (Or.inl ⟨60, by decide +kernel, by decide, rfl⟩)
theorem d_TA_chosen_74 : PLa b_TA_chosen 74 0 75 := Or.inl ⟨0, by decide +kernel, rfl, rfl⟩
theorem d_TA_chosen_75 : PLi b_TA_chosen 75 2 76 := Or.inl ⟨2, by decide +kernel, rfl, rfl⟩
theorem d_TA_chosen_76 : PCi b_TA_chosen 76 1 77 := Or.inl ⟨1, by decide +kernel, by decide, rfl⟩
theorem d_TA_chosen_77 : DR b_TA_chosen 77 (.iadd) 1 78 := ⟨by decide +kernel, rfl⟩
theorem d_TA_chosen_78 : PLi b_TA_chosen 78 4 80 := Or.inr ⟨by decide +kernel, rfl⟩
theorem d_TA_chosen_80 : DR b_TA_chosen 80 (.invokevirtual 52) 3 83 := ⟨by decide +kernel, rfl⟩
theorem d_TA_chosen_83 : DR b_TA_chosen 83 (.iadd) 1 84 := ⟨by decide +kernel, rfl⟩
theorem d_TA_chosen_84 : DR b_TA_chosen 84 (.ireturn) 1 85 := ⟨by decide +kernel, rfl⟩
set_option maxRecDepth 20000 in
theorem B_TA_chosen_54 {G : MCx} (hC : C0 G "AccusedChoose$Table" b_TA_chosen 7 4) {t1 : Nat} (h1 : isPR t1) {v2 : Int32} {v3 : Int32} {v4 : Int32} (K7 : Int32 × Int32 × St → Option (Int32 × St)) (hK7 : ∀ (w5 : Int32) (w6 : Int32) (s : St), VO G (RI G b_TA_chosen) (K7 (w5, w6, s)) 7 [(0, .ref (gad G 49)), (1, .ref (gad G t1)), (2, .int v2), (3, .int v3), (4, .int v4), (5, .int w5), (6, .int w6)] [] s) (v5 : Int32) (v6 : Int32) (s : St) : VO G (RI G b_TA_chosen) (F_TA_chosen_54 t1 K7 v2 v3 v4 v5 v6 s) 54 [(0, .ref (gad G 49)), (1, .ref (gad G t1)), (2, .int v2), (3, .int v3), (4, .int v4), (5, .int v5), (6, .int v6)] [] s := by
  unfold F_TA_chosen_54
  refine VO_iinc hC d_TA_chosen_54 6 rfl (by decide : Int32.ofInt 1 = 1) [(0, .ref (gad G 49)), (1, .ref (gad G t1)), (2, .int v2), (3, .int v3), (4, .int v4), (5, .int v5)] rfl (by decide) ?_
  refine VO_goto hC d_TA_chosen_57 ?_
  exact VO_sub [1, 2, 3, 4, 5, 6, 0] rfl (hK7 v5 (v6 + 1) s)
set_option maxRecDepth 20000 in
theorem BH_TA_chosen_7 {G : MCx} (hC : C0 G "AccusedChoose$Table" b_TA_chosen 7 4) {t1 : Nat} (h1 : isPR t1) {v2 : Int32} {v3 : Int32} {v4 : Int32} (K7 : Int32 × Int32 × St → Option (Int32 × St)) (hK7 : ∀ (w5 : Int32) (w6 : Int32) (s : St), VO G (RI G b_TA_chosen) (K7 (w5, w6, s)) 7 [(0, .ref (gad G 49)), (1, .ref (gad G t1)), (2, .int v2), (3, .int v3), (4, .int v4), (5, .int w5), (6, .int w6)] [] s) (v5 : Int32) (v6 : Int32) (s : St) : VO G (RI G b_TA_chosen) (H_TA_chosen_7 t1 v2 v3 v4 K7 v5 v6 s) 7 [(0, .ref (gad G 49)), (1, .ref (gad G t1)), (2, .int v2), (3, .int v3), (4, .int v4), (5, .int v5), (6, .int v6)] [] s := by
  unfold H_TA_chosen_7
  refine VO_iload hC d_TA_chosen_7 6 rfl ?_
  refine VO_aload hC d_TA_chosen_9 1 rfl ?_
  refine VO_geti hC fl_TA_33 (sh_PR h1) rfl d_TA_chosen_10 ?_
  refine VO_icmp_ge hC d_TA_chosen_13 (fun _ => ?_) (fun _ => ?_)
  · refine VO_iload hC d_TA_chosen_60 5 rfl ?_
    refine VO_ldc hC k_TA_81 d_TA_chosen_62 ?_
    refine VO_icmp_ge hC d_TA_chosen_64 (fun _ => ?_) (fun _ => ?_)
    · refine VO_const hC d_TA_chosen_72 ?_
      refine VO_aload hC d_TA_chosen_74 0 rfl ?_
      refine VO_iload hC d_TA_chosen_75 2 rfl ?_
      refine VO_const hC d_TA_chosen_76 ?_
      refine VO_iadd hC d_TA_chosen_77 ?_
      refine VO_iload hC d_TA_chosen_78 4 rfl ?_
      refine VO_callVI hC [.int (v2 + (1 : Int32)), .int v4] [.int (60 : Int32)] ml_TA_52 d_TA_chosen_80 yv_TA_get sh_TA rfl rfl (fun o h => M_TA_get hC.inj h) (by decide) rfl rfl (Nat.le_of_ble_eq_true rfl) (fun o1 => ?_)
      refine VO_iadd hC d_TA_chosen_83 ?_
      exact VO_ireturn d_TA_chosen_84
    · refine VO_iload hC d_TA_chosen_67 5 rfl ?_
      refine VO_goto hC d_TA_chosen_69 ?_
      exact VO_ireturn d_TA_chosen_84
  · refine VO_iload hC d_TA_chosen_16 4 rfl ?_
    refine VO_iload hC d_TA_chosen_18 6 rfl ?_
    refine VO_callNI hC [.int v4, .int v6] [] nl_TA_56 d_TA_chosen_20 ys_AC_has (fun o h => M_AC_has hC.inj h) (by decide) rfl rfl (Nat.le_of_ble_eq_true rfl) (fun o2 => ?_)
    refine VO_if_ne hC d_TA_chosen_23 (fun _ => ?_) (fun _ => ?_)
    · refine VO_aload hC d_TA_chosen_26 1 rfl ?_
      refine VO_iload hC d_TA_chosen_27 3 rfl ?_
      refine VO_iload hC d_TA_chosen_28 6 rfl ?_
      refine VO_callVI hC [.int v3, .int v6] [] ml_TA_59 d_TA_chosen_30 yv_PR_allows (sh_PR h1) rfl rfl (fun o h => M_PR_allows hC.inj h1 h) (by decide) rfl rfl (Nat.le_of_ble_eq_true rfl) (fun o3 => ?_)
      refine VO_if_eq hC d_TA_chosen_33 (fun _ => ?_) (fun _ => ?_)
      · exact (B_TA_chosen_54 hC h1 K7 hK7 v5 v6 o3.2)
      · refine VO_iload hC d_TA_chosen_36 5 rfl ?_
        refine VO_aload hC d_TA_chosen_38 0 rfl ?_
        refine VO_aload hC d_TA_chosen_39 1 rfl ?_
        refine VO_iload hC d_TA_chosen_40 2 rfl ?_
        refine VO_iload hC d_TA_chosen_41 3 rfl ?_
        refine VO_iload hC d_TA_chosen_42 6 rfl ?_
        refine VO_iload hC d_TA_chosen_44 4 rfl ?_
        refine VO_callVI hC [.ref (gad G t1), .int v2, .int v3, .int v6, .int v4] [.int v5] ml_TA_62 d_TA_chosen_46 yv_TA_monthsWith sh_TA rfl rfl (fun o h => M_TA_monthsWith hC.inj h1 h) (by decide) rfl rfl (Nat.le_of_ble_eq_true rfl) (fun o4 => ?_)
        refine VO_callSI hC [.int v5, .int o4.1] [] ml_TA_66 d_TA_chosen_49 ys_MA_min (fun o h => M_MA_min hC.inj h) (by decide) rfl rfl (Nat.le_of_ble_eq_true rfl) (fun o5 => ?_)
        refine VO_istore hC d_TA_chosen_52 [(0, .ref (gad G 49)), (1, .ref (gad G t1)), (2, .int v2), (3, .int v3), (4, .int v4), (6, .int v6)] rfl (by decide) ?_
        exact VO_sub [1, 2, 3, 4, 5, 0, 6] rfl (B_TA_chosen_54 hC h1 K7 hK7 o5.1 v6 o5.2)
    · exact (B_TA_chosen_54 hC h1 K7 hK7 v5 v6 o2.2)
set_option maxRecDepth 20000 in
theorem B_TA_chosen_7 {G : MCx} (hC : C0 G "AccusedChoose$Table" b_TA_chosen 7 4) {t1 : Nat} (h1 : isPR t1) (v2 : Int32) (v3 : Int32) (v4 : Int32) (v5 : Int32) (v6 : Int32) (s : St) : VO G (RI G b_TA_chosen) (F_TA_chosen_7 t1 v2 v3 v4 v5 v6 s) 7 [(0, .ref (gad G 49)), (1, .ref (gad G t1)), (2, .int v2), (3, .int v3), (4, .int v4), (5, .int v5), (6, .int v6)] [] s := by
  exact VO_fix (G_TA_chosen_7 t1 v2 v3 v4) 7 (fun q => [(0, .ref (gad G 49)), (1, .ref (gad G t1)), (2, .int v2), (3, .int v3), (4, .int v4), (5, .int q.1), (6, .int q.2.1)]) (fun q => q.2.2) (fun K hK q => BH_TA_chosen_7 hC h1 K (fun w5 w6 s => hK (w5, w6, s)) q.1 q.2.1 q.2.2) FUEL (v5, v6, s)
set_option maxRecDepth 20000 in
theorem B_TA_chosen {G : MCx} (hC : C0 G "AccusedChoose$Table" b_TA_chosen 7 4) {t1 : Nat} (h1 : isPR t1) (a2 : Int32) (a3 : Int32) (a4 : Int32) (s : St) : VO G (RI G b_TA_chosen) (F_TA_chosen t1 a2 a3 a4 s) 0 [(0, .ref (gad G 49)), (1, .ref (gad G t1)), (2, .int a2), (3, .int a3), (4, .int a4)] [] s := by
  unfold F_TA_chosen
  refine VO_ldc hC k_TA_81 d_TA_chosen_0 ?_
  refine VO_istore hC d_TA_chosen_2 [(0, .ref (gad G 49)), (1, .ref (gad G t1)), (2, .int a2), (3, .int a3), (4, .int a4)] rfl (by decide) ?_
  refine VO_const hC d_TA_chosen_4 ?_
  refine VO_istore hC d_TA_chosen_5 [(5, .int (1000000 : Int32)), (0, .ref (gad G 49)), (1, .ref (gad G t1)), (2, .int a2), (3, .int a3), (4, .int a4)] rfl (by decide) ?_
  exact VO_sub [2, 3, 4, 5, 6, 1, 0] rfl (B_TA_chosen_7 hC h1 a2 a3 a4 (1000000 : Int32) (0 : Int32) s)
set_option maxRecDepth 20000 in
theorem M_TA_chosen {l : Launch} {D : va_G} {ad : Nat → Nat} {cI cL : ClassId} (hj : Inj ad) {t1 : Nat} (h1 : isPR t1) {a2 : Int32} {a3 : Int32} {a4 : Int32} {s : St} {o : Int32 × St} (h : F_TA_chosen t1 a2 a3 a4 s = some o) : Cn l D ad cI cL y_TA_chosen b_TA_chosen 7 (some .int) 4 [.ref (ad 49), .ref (ad t1), .int a2, .int a3, .int a4] s (some (.int o.1)) o.2 := by
  refine Cn_ofI hj (plainFor_of_name (by decide)) (Nat.le_of_ble_eq_true rfl) [(0, .ref (ad 49)), (1, .ref (ad t1)), (2, .int a2), (3, .int a3), (4, .int a4)] rfl (fun G hC e1 e2 e3 e4 e5 hR => ?_)
  subst e1; subst e2; subst e3; subst e4; subst e5
  exact B_TA_chosen hC h1 a2 a3 a4 s o h hR
theorem d_TA_passed_0 : PLa b_TA_passed 0 1 1 := Or.inl ⟨1, by decide +kernel, rfl, rfl⟩
theorem d_TA_passed_1 : PLi b_TA_passed 1 3 2 := Or.inl ⟨3, by decide +kernel, rfl, rfl⟩
theorem d_TA_passed_2 : PLi b_TA_passed 2 4 4 := Or.inr ⟨by decide +kernel, rfl⟩
theorem d_TA_passed_4 : PCi b_TA_passed 4 (-1) 5 := Or.inl ⟨(-1), by decide +kernel, by decide, rfl⟩
theorem d_TA_passed_5 : DR b_TA_passed 5 (.ixor) 1 6 := ⟨by decide +kernel, rfl⟩
theorem d_TA_passed_6 : DR b_TA_passed 6 (.invokevirtual 82) 3 9 := ⟨by decide +kernel, rfl⟩
theorem d_TA_passed_9 : PSi b_TA_passed 9 5 11 := Or.inr ⟨by decide +kernel, rfl⟩
theorem d_TA_passed_11 : PLa b_TA_passed 11 0 12 := Or.inl ⟨0, by decide +kernel, rfl, rfl⟩
theorem d_TA_passed_12 : PLi b_TA_passed 12 2 13 := Or.inl ⟨2, by decide +kernel, rfl, rfl⟩
theorem d_TA_passed_13 : PCi b_TA_passed 13 1 14 := Or.inl ⟨1, by decide +kernel, by decide, rfl⟩
theorem d_TA_passed_14 : DR b_TA_passed 14 (.iadd) 1 15 := ⟨by decide +kernel, rfl⟩
theorem d_TA_passed_15 : PLi b_TA_passed 15 4 17 := Or.inr ⟨by decide +kernel, rfl⟩
theorem d_TA_passed_17 : PLi b_TA_passed 17 5 19 := Or.inr ⟨by decide +kernel, rfl⟩
theorem d_TA_passed_19 : DR b_TA_passed 19 (.invokestatic 36) 3 22 := ⟨by decide +kernel, rfl⟩
theorem d_TA_passed_22 : DR b_TA_passed 22 (.ior) 1 23 := ⟨by decide +kernel, rfl⟩
theorem d_TA_passed_23 : DR b_TA_passed 23 (.invokevirtual 52) 3 26 := ⟨by decide +kernel, rfl⟩
theorem d_TA_passed_26 : DR b_TA_passed 26 (.ireturn) 1 27 := ⟨by decide +kernel, rfl⟩
set_option maxRecDepth 20000 in
theorem B_TA_passed {G : MCx} (hC : C0 G "AccusedChoose$Table" b_TA_passed 6 4) {t1 : Nat} (h1 : isPR t1) (a2 : Int32) (a3 : Int32) (a4 : Int32) (s : St) : VO G (RI G b_TA_passed) (F_TA_passed t1 a2 a3 a4 s) 0 [(0, .ref (gad G 49)), (1, .ref (gad G t1)), (2, .int a2), (3, .int a3), (4, .int a4)] [] s := by
  unfold F_TA_passed
  refine VO_aload hC d_TA_passed_0 1 rfl ?_
  refine VO_iload hC d_TA_passed_1 3 rfl ?_
  refine VO_iload hC d_TA_passed_2 4 rfl ?_
  refine VO_const hC d_TA_passed_4 ?_
  refine VO_ixor hC d_TA_passed_5 ?_
  refine VO_callVI hC [.int a3, .int (a4 ^^^ (-1 : Int32))] [] ml_TA_82 d_TA_passed_6 yv_PR_lightest (sh_PR h1) rfl rfl (fun o h => M_PR_lightest hC.inj h1 h) (by decide) rfl rfl (Nat.le_of_ble_eq_true rfl) (fun o1 => ?_)
  refine VO_istore hC d_TA_passed_9 [(0, .ref (gad G 49)), (1, .ref (gad G t1)), (2, .int a2), (3, .int a3), (4, .int a4)] rfl (by decide) ?_
  refine VO_aload hC d_TA_passed_11 1 rfl ?_
  refine VO_iload hC d_TA_passed_12 3 rfl ?_
  refine VO_const hC d_TA_passed_13 ?_
  refine VO_iadd hC d_TA_passed_14 ?_
  refine VO_iload hC d_TA_passed_15 5 rfl ?_
  refine VO_iload hC d_TA_passed_17 0 rfl ?_
  refine VO_callNI hC [.int o1.1] [.int a4, .int (a2 + (1 : Int32)), .ref (gad G 49)] nl_TA_36 d_TA_passed_19 ys_AC_bit (fun o h => M_AC_bit hC.inj h) (by decide) rfl rfl (Nat.le_of_ble_eq_true rfl) (fun o2 => ?_)
  refine VO_ior hC d_TA_passed_22 ?_
  refine VO_callVI hC [.int (a2 + (1 : Int32)), .int (a4 ||| o2.1)] [] ml_TA_52 d_TA_passed_23 yv_TA_get sh_TA rfl rfl (fun o h => M_TA_get hC.inj h) (by decide) rfl rfl (Nat.le_of_ble_eq_true rfl) (fun o3 => ?_)
  exact VO_ireturn d_TA_passed_26
set_option maxRecDepth 20000 in
theorem M_TA_passed {l : Launch} {D : va_G} {ad : Nat → Nat} {cI cL : ClassId} (hj : Inj ad) {t1 : Nat} (h1 : isPR t1) {a2 : Int32} {a3 : Int32} {a4 : Int32} {s : St} {o : Int32 × St} (h : F_TA_passed t1 a2 a3 a4 s = some o) : Cn l D ad cI cL y_TA_passed b_TA_passed 6 (some .int) 4 [.ref (ad 49), .ref (ad t1), .int a2, .int a3, .int a4] s (some (.int o.1)) o.2 := by
  refine Cn_ofI hj (plainFor_of_name (by decide)) (Nat.le_of_ble_eq_true rfl) [(0, .ref (ad 49)), (1, .ref (ad t1)), (2, .int a2), (3, .int a3), (4, .int a4)] rfl (fun G hC e1 e2 e3 e4 e5 hR => ?_)
  subst e1; subst e2; subst e3; subst e4; subst e5
  exact B_TA_passed hC h1 a2 a3 a4 s o h hR
theorem d_TA_fillTogether_0 : PLa b_TA_fillTogether 0 0 1 := Or.inl ⟨0, by decide +kernel, rfl, rfl⟩
theorem d_TA_fillTogether_1 : PLa b_TA_fillTogether 1 1 2 := Or.inl ⟨1, by decide +kernel, rfl, rfl⟩
theorem d_TA_fillTogether_2 : DR b_TA_fillTogether 2 (.getfield 23) 3 5 := ⟨by decide +kernel, rfl⟩
theorem d_TA_fillTogether_5 : DR b_TA_fillTogether 5 (.invokevirtual 29) 3 8 := ⟨by decide +kernel, rfl⟩
theorem d_TA_fillTogether_8 : PLa b_TA_fillTogether 8 1 9 := Or.inl ⟨1, by decide +kernel, rfl, rfl⟩
theorem d_TA_fillTogether_9 : DR b_TA_fillTogether 9 (.getfield 23) 3 12 := ⟨by decide +kernel, rfl⟩
theorem d_TA_fillTogether_12 : PCi b_TA_fillTogether 12 1 13 := Or.inl ⟨1, by decide +kernel, by decide, rfl⟩
theorem d_TA_fillTogether_13 : DR b_TA_fillTogether 13 (.isub) 1 14 := ⟨by decide +kernel, rfl⟩
theorem d_TA_fillTogether_14 : PSi b_TA_fillTogether 14 4 16 := Or.inr ⟨by decide +kernel, rfl⟩
theorem d_TA_fillTogether_16 : PLi b_TA_fillTogether 16 4 18 := Or.inr ⟨by decide +kernel, rfl⟩
theorem d_TA_fillTogether_18 : DJ b_TA_fillTogether 18 (.ifCond .lt) 21 112 := ⟨94, by decide +kernel, rfl, by decide⟩
theorem d_TA_fillTogether_21 : PLa b_TA_fillTogether 21 2 22 := Or.inl ⟨2, by decide +kernel, rfl, rfl⟩
theorem d_TA_fillTogether_22 : PLi b_TA_fillTogether 22 4 24 := Or.inr ⟨by decide +kernel, rfl⟩
theorem d_TA_fillTogether_24 : DR b_TA_fillTogether 24 (.invokestatic 15) 3 27 := ⟨by decide +kernel, rfl⟩
theorem d_TA_fillTogether_27 : PSi b_TA_fillTogether 27 5 29 := Or.inr ⟨by decide +kernel, rfl⟩
theorem d_TA_fillTogether_29 : PLi b_TA_fillTogether 29 3 30 := Or.inl ⟨3, by decide +kernel, rfl, rfl⟩
theorem d_TA_fillTogether_30 : PLi b_TA_fillTogether 30 5 32 := Or.inr ⟨by decide +kernel, rfl⟩
theorem d_TA_fillTogether_32 : DR b_TA_fillTogether 32 (.invokestatic 56) 3 35 := ⟨by decide +kernel, rfl⟩
theorem d_TA_fillTogether_35 : PSi b_TA_fillTogether 35 6 37 := Or.inr ⟨by decide +kernel, rfl⟩
theorem d_TA_fillTogether_37 : PCi b_TA_fillTogether 37 0 38 := Or.inl ⟨0, by decide +kernel, by decide, rfl⟩
theorem d_TA_fillTogether_38 : PSi b_TA_fillTogether 38 7 40 := Or.inr ⟨by decide +kernel, rfl⟩
theorem d_TA_fillTogether_40 : PLi b_TA_fillTogether 40 7 42 := Or.inr ⟨by decide +kernel, rfl⟩
theorem d_TA_fillTogether_42 : PLa b_TA_fillTogether 42 1 43 := Or.inl ⟨1, by decide +kernel, rfl, rfl⟩
theorem d_TA_fillTogether_43 : DR b_TA_fillTogether 43 (.getfield 33) 3 46 := ⟨by decide +kernel, rfl⟩
theorem d_TA_fillTogether_46 : DR b_TA_fillTogether 46 (.invokestatic 36) 3 49 := ⟨by decide +kernel, rfl⟩
theorem d_TA_fillTogether_49 : DJ b_TA_fillTogether 49 (.if_icmp .ge) 52 106 := ⟨57, by decide +kernel, rfl, by decide⟩
theorem d_TA_fillTogether_52 : PLi b_TA_fillTogether 52 7 54 := Or.inr ⟨by decide +kernel, rfl⟩
theorem d_TA_fillTogether_54 : PLi b_TA_fillTogether 54 4 56 := Or.inr ⟨by decide +kernel, rfl⟩
theorem d_TA_fillTogether_56 : DR b_TA_fillTogether 56 (.invokestatic 40) 3 59 := ⟨by decide +kernel, rfl⟩
theorem d_TA_fillTogether_59 : DJ b_TA_fillTogether 59 (.ifCond .eq) 62 100 := ⟨41, by decide +kernel, rfl, by decide⟩
theorem d_TA_fillTogether_62 : PLa b_TA_fillTogether 62 0 63 := Or.inl ⟨0, by decide +kernel, rfl, rfl⟩
theorem d_TA_fillTogether_63 : PLi b_TA_fillTogether 63 4 65 := Or.inr ⟨by decide +kernel, rfl⟩
theorem d_TA_fillTogether_65 : PLi b_TA_fillTogether 65 7 67 := Or.inr ⟨by decide +kernel, rfl⟩
theorem d_TA_fillTogether_67 : PLi b_TA_fillTogether 67 6 69 := Or.inr ⟨by decide +kernel, rfl⟩
theorem d_TA_fillTogether_69 : DJ b_TA_fillTogether 69 (.ifCond .eq) 72 86 := ⟨17, by decide +kernel, rfl, by decide⟩
theorem d_TA_fillTogether_72 : PLa b_TA_fillTogether 72 0 73 := Or.inl ⟨0, by decide +kernel, rfl, rfl⟩
theorem d_TA_fillTogether_73 : PLa b_TA_fillTogether 73 1 74 := Or.inl ⟨1, by decide +kernel, rfl, rfl⟩
theorem d_TA_fillTogether_74 : PLi b_TA_fillTogether 74 4 76 := Or.inr ⟨by decide +kernel, rfl⟩
theorem d_TA_fillTogether_76 : PLi b_TA_fillTogether 76 5 78 := Or.inr ⟨by decide +kernel, rfl⟩
theorem d_TA_fillTogether_78 : PLi b_TA_fillTogether 78 7 80 := Or.inr ⟨by decide +kernel, rfl⟩
theorem d_TA_fillTogether_80 : DR b_TA_fillTogether 80 (.invokevirtual 74) 3 83 := ⟨by decide +kernel, rfl⟩
theorem d_TA_fillTogether_83 : DJ b_TA_fillTogether 83 .goto 86 97 := ⟨14, by decide +kernel, rfl, by decide⟩
theorem d_TA_fillTogether_86 : PLa b_TA_fillTogether 86 0 87 := Or.inl ⟨0, by decide +kernel, rfl, rfl⟩
theorem d_TA_fillTogether_87 : PLa b_TA_fillTogether 87 1 88 := Or.inl ⟨1, by decide +kernel, rfl, rfl⟩
theorem d_TA_fillTogether_88 : PLi b_TA_fillTogether 88 4 90 := Or.inr ⟨by decide +kernel, rfl⟩
theorem d_TA_fillTogether_90 : PLi b_TA_fillTogether 90 5 92 := Or.inr ⟨by decide +kernel, rfl⟩
theorem d_TA_fillTogether_92 : PLi b_TA_fillTogether 92 7 94 := Or.inr ⟨by decide +kernel, rfl⟩
theorem d_TA_fillTogether_94 : DR b_TA_fillTogether 94 (.invokevirtual 78) 3 97 := ⟨by decide +kernel, rfl⟩
theorem d_TA_fillTogether_97 : DR b_TA_fillTogether 97 (.invokevirtual 48) 3 100 := ⟨by decide +kernel, rfl⟩
theorem d_TA_fillTogether_100 : DR b_TA_fillTogether 100 (.iinc 7 1) 3 103 := ⟨by decide +kernel, rfl⟩
theorem d_TA_fillTogether_103 : DJ b_TA_fillTogether 103 .goto 106 40 := ⟨-63, by decide +kernel, rfl, by decide⟩
theorem d_TA_fillTogether_106 : DR b_TA_fillTogether 106 (.iinc 4 (-1)) 3 109 := ⟨by decide +kernel, rfl⟩
theorem d_TA_fillTogether_109 : DJ b_TA_fillTogether 109 .goto 112 16 := ⟨-93, by decide +kernel, rfl, by decide⟩
theorem d_TA_fillTogether_112 : DR b_TA_fillTogether 112 (.return_) 1 113 := ⟨by decide +kernel, rfl⟩
set_option maxRecDepth 20000 in
theorem B_TA_fillTogether_100 {G : MCx} (hC : C0 G "AccusedChoose$Table" b_TA_fillTogether 8 5) {t1 : Nat} (h1 : isPR t1) {t2 : Nat} (h2 : isIA t2) {v3 : Int32} {v4 : Int32} {v5 : Int32} {v6 : Int32} (K16 : Int32 × St → Option (St)) (hK16 : ∀ (w4 : Int32) (s : St), VO G (RV G b_TA_fillTogether) (K16 (w4, s)) 16 [(0, .ref (gad G 49)), (1, .ref (gad G t1)), (2, .ref (gad G t2)), (3, .int v3), (4, .int w4)] [] s) (K40 : Int32 × St → Option (St)) (hK40 : ∀ (w7 : Int32) (s : St), VO G (RV G b_TA_fillTogether) (K40 (w7, s)) 40 [(0, .ref (gad G 49)), (1, .ref (gad G t1)), (2, .ref (gad G t2)), (3, .int v3), (4, .int v4), (5, .int v5), (6, .int v6), (7, .int w7)] [] s) (v7 : Int32) (s : St) : VO G (RV G b_TA_fillTogether) (F_TA_fillTogether_100 t1 t2 K16 K40 v3 v4 v5 v6 v7 s) 100 [(0, .ref (gad G 49)), (1, .ref (gad G t1)), (2, .ref (gad G t2)), (3, .int v3), (4, .int v4), (5, .int v5), (6, .int v6), (7, .int v7)] [] s := by
  unfold F_TA_fillTogether_100
  refine VO_iinc hC d_TA_fillTogether_100 7 rfl (by decide : Int32.ofInt 1 = 1) [(0, .ref (gad G 49)), (1, .ref (gad G t1)), (2, .ref (gad G t2)), (3, .int v3), (4, .int v4), (5, .int v5), (6, .int v6)] rfl (by decide) ?_
  refine VO_goto hC d_TA_fillTogether_103 ?_
  exact VO_sub [1, 2, 3, 4, 5, 6, 7, 0] rfl (hK40 (v7 + 1) s)
set_option maxRecDepth 20000 in
theorem B_TA_fillTogether_97 {G : MCx} (hC : C0 G "AccusedChoose$Table" b_TA_fillTogether 8 5) {t1 : Nat} (h1 : isPR t1) {t2 : Nat} (h2 : isIA t2) {v3 : Int32} {v4 : Int32} {v5 : Int32} {v6 : Int32} (K16 : Int32 × St → Option (St)) (hK16 : ∀ (w4 : Int32) (s : St), VO G (RV G b_TA_fillTogether) (K16 (w4, s)) 16 [(0, .ref (gad G 49)), (1, .ref (gad G t1)), (2, .ref (gad G t2)), (3, .int v3), (4, .int w4)] [] s) (K40 : Int32 × St → Option (St)) (hK40 : ∀ (w7 : Int32) (s : St), VO G (RV G b_TA_fillTogether) (K40 (w7, s)) 40 [(0, .ref (gad G 49)), (1, .ref (gad G t1)), (2, .ref (gad G t2)), (3, .int v3), (4, .int v4), (5, .int v5), (6, .int v6), (7, .int w7)] [] s) (v7 : Int32) (z0 : Int32) (z1 : Int32) (z2 : Int32) (s : St) : VO G (RV G b_TA_fillTogether) (F_TA_fillTogether_97 t1 t2 K16 K40 v3 v4 v5 v6 v7 z0 z1 z2 s) 97 [(0, .ref (gad G 49)), (1, .ref (gad G t1)), (2, .ref (gad G t2)), (3, .int v3), (4, .int v4), (5, .int v5), (6, .int v6), (7, .int v7)] [.int z0, .int z1, .int z2, .ref (gad G 49)] s := by
  unfold F_TA_fillTogether_97
  refine VO_callVV hC [.int z2, .int z1, .int z0] [] ml_TA_48 d_TA_fillTogether_97 yv_TA_set sh_TA rfl rfl (fun o h => M_TA_set hC.inj h) (by decide) rfl rfl (Nat.le_of_ble_eq_true rfl) (fun s8 => ?_)
  exact (B_TA_fillTogether_100 hC h1 h2 K16 hK16 K40 hK40 v7 s8)
set_option maxRecDepth 20000 in
theorem BH_TA_fillTogether_40 {G : MCx} (hC : C0 G "AccusedChoose$Table" b_TA_fillTogether 8 5) {t1 : Nat} (h1 : isPR t1) {t2 : Nat} (h2 : isIA t2) {v3 : Int32} {v4 : Int32} {v5 : Int32} {v6 : Int32} (K16 : Int32 × St → Option (St)) (hK16 : ∀ (w4 : Int32) (s : St), VO G (RV G b_TA_fillTogether) (K16 (w4, s)) 16 [(0, .ref (gad G 49)), (1, .ref (gad G t1)), (2, .ref (gad G t2)), (3, .int v3), (4, .int w4)] [] s) (K40 : Int32 × St → Option (St)) (hK40 : ∀ (w7 : Int32) (s : St), VO G (RV G b_TA_fillTogether) (K40 (w7, s)) 40 [(0, .ref (gad G 49)), (1, .ref (gad G t1)), (2, .ref (gad G t2)), (3, .int v3), (4, .int v4), (5, .int v5), (6, .int v6), (7, .int w7)] [] s) (v7 : Int32) (s : St) : VO G (RV G b_TA_fillTogether) (H_TA_fillTogether_40 t1 t2 K16 v3 v4 v5 v6 K40 v7 s) 40 [(0, .ref (gad G 49)), (1, .ref (gad G t1)), (2, .ref (gad G t2)), (3, .int v3), (4, .int v4), (5, .int v5), (6, .int v6), (7, .int v7)] [] s := by
  unfold H_TA_fillTogether_40
  refine VO_iload hC d_TA_fillTogether_40 7 rfl ?_
  refine VO_aload hC d_TA_fillTogether_42 1 rfl ?_
  refine VO_geti hC fl_TA_33 (sh_PR h1) rfl d_TA_fillTogether_43 ?_
  refine VO_callNI hC [.int (rd s t1 1)] [.int v7] nl_TA_36 d_TA_fillTogether_46 ys_AC_bit (fun o h => M_AC_bit hC.inj h) (by decide) rfl rfl (Nat.le_of_ble_eq_true rfl) (fun o5 => ?_)
  refine VO_icmp_ge hC d_TA_fillTogether_49 (fun _ => ?_) (fun _ => ?_)
  · refine VO_iincN hC d_TA_fillTogether_106 4 rfl (by decide : Int32.ofInt (-1) = -1) [(0, .ref (gad G 49)), (1, .ref (gad G t1)), (2, .ref (gad G t2)), (3, .int v3), (5, .int v5), (6, .int v6), (7, .int v7)] rfl (by decide) ?_
    refine VO_goto hC d_TA_fillTogether_109 ?_
    exact VO_sub [1, 2, 3, 4, 0] rfl (hK16 (v4 - 1) o5.2)
  · refine VO_iload hC d_TA_fillTogether_52 7 rfl ?_
    refine VO_iload hC d_TA_fillTogether_54 4 rfl ?_
    refine VO_callSI hC [.int v7, .int v4] [] ml_TA_40 d_TA_fillTogether_56 ys_TA_canBe (fun o h => M_TA_canBe hC.inj h) (by decide) rfl rfl (Nat.le_of_ble_eq_true rfl) (fun o6 => ?_)
    refine VO_if_eq hC d_TA_fillTogether_59 (fun _ => ?_) (fun _ => ?_)
    · exact (B_TA_fillTogether_100 hC h1 h2 K16 hK16 K40 hK40 v7 o6.2)
    · refine VO_aload hC d_TA_fillTogether_62 0 rfl ?_
      refine VO_iload hC d_TA_fillTogether_63 4 rfl ?_
      refine VO_iload hC d_TA_fillTogether_65 7 rfl ?_
      refine VO_iload hC d_TA_fillTogether_67 6 rfl ?_
      refine VO_if_eq hC d_TA_fillTogether_69 (fun _ => ?_) (fun _ => ?_)
      · refine VO_aload hC d_TA_fillTogether_86 0 rfl ?_
        refine VO_aload hC d_TA_fillTogether_87 1 rfl ?_
        refine VO_iload hC d_TA_fillTogether_88 4 rfl ?_
        refine VO_iload hC d_TA_fillTogether_90 5 rfl ?_
        refine VO_iload hC d_TA_fillTogether_92 7 rfl ?_
        refine VO_callVI hC [.ref (gad G t1), .int v4, .int v5, .int v7] [.int v7, .int v4, .ref (gad G 49)] ml_TA_78 d_TA_fillTogether_94 yv_TA_passed sh_TA rfl rfl (fun o h => M_TA_passed hC.inj h1 h) (by decide) rfl rfl (Nat.le_of_ble_eq_true rfl) (fun o7 => ?_)
        exact (B_TA_fillTogether_97 hC h1 h2 K16 hK16 K40 hK40 v7 o7.1 v7 v4 o7.2)
      · refine VO_aload hC d_TA_fillTogether_72 0 rfl ?_
        refine VO_aload hC d_TA_fillTogether_73 1 rfl ?_
        refine VO_iload hC d_TA_fillTogether_74 4 rfl ?_
        refine VO_iload hC d_TA_fillTogether_76 5 rfl ?_
        refine VO_iload hC d_TA_fillTogether_78 7 rfl ?_
        refine VO_callVI hC [.ref (gad G t1), .int v4, .int v5, .int v7] [.int v7, .int v4, .ref (gad G 49)] ml_TA_74 d_TA_fillTogether_80 yv_TA_chosen sh_TA rfl rfl (fun o h => M_TA_chosen hC.inj h1 h) (by decide) rfl rfl (Nat.le_of_ble_eq_true rfl) (fun o9 => ?_)
        refine VO_goto hC d_TA_fillTogether_83 ?_
        exact (B_TA_fillTogether_97 hC h1 h2 K16 hK16 K40 hK40 v7 o9.1 v7 v4 o9.2)
set_option maxRecDepth 20000 in
theorem B_TA_fillTogether_40 {G : MCx} (hC : C0 G "AccusedChoose$Table" b_TA_fillTogether 8 5) {t1 : Nat} (h1 : isPR t1) {t2 : Nat} (h2 : isIA t2) {v3 : Int32} (K16 : Int32 × St → Option (St)) (hK16 : ∀ (w4 : Int32) (s : St), VO G (RV G b_TA_fillTogether) (K16 (w4, s)) 16 [(0, .ref (gad G 49)), (1, .ref (gad G t1)), (2, .ref (gad G t2)), (3, .int v3), (4, .int w4)] [] s) (v4 : Int32) (v5 : Int32) (v6 : Int32) (v7 : Int32) (s : St) : VO G (RV G b_TA_fillTogether) (F_TA_fillTogether_40 t1 t2 K16 v3 v4 v5 v6 v7 s) 40 [(0, .ref (gad G 49)), (1, .ref (gad G t1)), (2, .ref (gad G t2)), (3, .int v3), (4, .int v4), (5, .int v5), (6, .int v6), (7, .int v7)] [] s := by
  exact VO_fix (G_TA_fillTogether_40 t1 t2 K16 v3 v4 v5 v6) 40 (fun q => [(0, .ref (gad G 49)), (1, .ref (gad G t1)), (2, .ref (gad G t2)), (3, .int v3), (4, .int v4), (5, .int v5), (6, .int v6), (7, .int q.1)]) (fun q => q.2) (fun K hK q => BH_TA_fillTogether_40 hC h1 h2 K16 hK16 K (fun w7 s => hK (w7, s)) q.1 q.2) FUEL (v7, s)
set_option maxRecDepth 20000 in
theorem BH_TA_fillTogether_16 {G : MCx} (hC : C0 G "AccusedChoose$Table" b_TA_fillTogether 8 5) {t1 : Nat} (h1 : isPR t1) {t2 : Nat} (h2 : isIA t2) {v3 : Int32} (K16 : Int32 × St → Option (St)) (hK16 : ∀ (w4 : Int32) (s : St), VO G (RV G b_TA_fillTogether) (K16 (w4, s)) 16 [(0, .ref (gad G 49)), (1, .ref (gad G t1)), (2, .ref (gad G t2)), (3, .int v3), (4, .int w4)] [] s) (v4 : Int32) (s : St) : VO G (RV G b_TA_fillTogether) (H_TA_fillTogether_16 t1 t2 v3 K16 v4 s) 16 [(0, .ref (gad G 49)), (1, .ref (gad G t1)), (2, .ref (gad G t2)), (3, .int v3), (4, .int v4)] [] s := by
  unfold H_TA_fillTogether_16
  refine VO_iload hC d_TA_fillTogether_16 4 rfl ?_
  refine VO_if_lt hC d_TA_fillTogether_18 (fun _ => ?_) (fun _ => ?_)
  · exact VO_return d_TA_fillTogether_112
  · refine VO_aload hC d_TA_fillTogether_21 2 rfl ?_
    refine VO_iload hC d_TA_fillTogether_22 4 rfl ?_
    refine VO_callNI hC [.ref (gad G t2), .int v4] [] nl_TA_15 d_TA_fillTogether_24 ys_AC_at (fun o h => M_AC_at hC.inj h2 h) (by decide) rfl rfl (Nat.le_of_ble_eq_true rfl) (fun o3 => ?_)
    refine VO_istore hC d_TA_fillTogether_27 [(0, .ref (gad G 49)), (1, .ref (gad G t1)), (2, .ref (gad G t2)), (3, .int v3), (4, .int v4)] rfl (by decide) ?_
    refine VO_iload hC d_TA_fillTogether_29 4 rfl ?_
    refine VO_iload hC d_TA_fillTogether_30 0 rfl ?_
    refine VO_callNI hC [.int v3, .int o3.1] [] nl_TA_56 d_TA_fillTogether_32 ys_AC_has (fun o h => M_AC_has hC.inj h) (by decide) rfl rfl (Nat.le_of_ble_eq_true rfl) (fun o4 => ?_)
    refine VO_istore hC d_TA_fillTogether_35 [(5, .int o3.1), (0, .ref (gad G 49)), (1, .ref (gad G t1)), (2, .ref (gad G t2)), (3, .int v3), (4, .int v4)] rfl (by decide) ?_
    refine VO_const hC d_TA_fillTogether_37 ?_
    refine VO_istore hC d_TA_fillTogether_38 [(6, .int o4.1), (5, .int o3.1), (0, .ref (gad G 49)), (1, .ref (gad G t1)), (2, .ref (gad G t2)), (3, .int v3), (4, .int v4)] rfl (by decide) ?_
    exact VO_sub [3, 4, 5, 6, 7, 2, 1, 0] rfl (B_TA_fillTogether_40 hC h1 h2 K16 hK16 v4 o3.1 o4.1 (0 : Int32) o4.2)
set_option maxRecDepth 20000 in
theorem B_TA_fillTogether_16 {G : MCx} (hC : C0 G "AccusedChoose$Table" b_TA_fillTogether 8 5) {t1 : Nat} (h1 : isPR t1) {t2 : Nat} (h2 : isIA t2) (v3 : Int32) (v4 : Int32) (s : St) : VO G (RV G b_TA_fillTogether) (F_TA_fillTogether_16 t1 t2 v3 v4 s) 16 [(0, .ref (gad G 49)), (1, .ref (gad G t1)), (2, .ref (gad G t2)), (3, .int v3), (4, .int v4)] [] s := by
  exact VO_fix (G_TA_fillTogether_16 t1 t2 v3) 16 (fun q => [(0, .ref (gad G 49)), (1, .ref (gad G t1)), (2, .ref (gad G t2)), (3, .int v3), (4, .int q.1)]) (fun q => q.2) (fun K hK q => BH_TA_fillTogether_16 hC h1 h2 K (fun w4 s => hK (w4, s)) q.1 q.2) FUEL (v4, s)
set_option maxRecDepth 20000 in
theorem B_TA_fillTogether {G : MCx} (hC : C0 G "AccusedChoose$Table" b_TA_fillTogether 8 5) {t1 : Nat} (h1 : isPR t1) {t2 : Nat} (h2 : isIA t2) (a3 : Int32) (s : St) : VO G (RV G b_TA_fillTogether) (F_TA_fillTogether t1 t2 a3 s) 0 [(0, .ref (gad G 49)), (1, .ref (gad G t1)), (2, .ref (gad G t2)), (3, .int a3)] [] s := by
  unfold F_TA_fillTogether
  refine VO_aload hC d_TA_fillTogether_0 0 rfl ?_
  refine VO_aload hC d_TA_fillTogether_1 1 rfl ?_
  refine VO_geti hC fl_TA_23 (sh_PR h1) rfl d_TA_fillTogether_2 ?_
  refine VO_callVV hC [.int (rd s t1 0)] [] ml_TA_29 d_TA_fillTogether_5 yv_TA_closeAt sh_TA rfl rfl (fun o h => M_TA_closeAt hC.inj h) (by decide) rfl rfl (Nat.le_of_ble_eq_true rfl) (fun s1 => ?_)
  refine VO_aload hC d_TA_fillTogether_8 1 rfl ?_
  refine VO_geti hC fl_TA_23 (sh_PR h1) rfl d_TA_fillTogether_9 ?_
  refine VO_const hC d_TA_fillTogether_12 ?_
  refine VO_isub hC d_TA_fillTogether_13 ?_
  refine VO_istoreB hC d_TA_fillTogether_14 [(0, .ref (gad G 49)), (1, .ref (gad G t1)), (2, .ref (gad G t2)), (3, .int a3)] rfl (by decide) (fun x2 => ?_)
  exact VO_sub [1, 2, 3, 4, 0] rfl (B_TA_fillTogether_16 hC h1 h2 a3 x2 s1)
set_option maxRecDepth 20000 in
theorem M_TA_fillTogether {l : Launch} {D : va_G} {ad : Nat → Nat} {cI cL : ClassId} (hj : Inj ad) {t1 : Nat} (h1 : isPR t1) {t2 : Nat} (h2 : isIA t2) {a3 : Int32} {s : St} {o : St} (h : F_TA_fillTogether t1 t2 a3 s = some o) : Cn l D ad cI cL y_TA_fillTogether b_TA_fillTogether 8 none 5 [.ref (ad 49), .ref (ad t1), .ref (ad t2), .int a3] s none o := by
  refine Cn_ofV hj (plainFor_of_name (by decide)) (Nat.le_of_ble_eq_true rfl) [(0, .ref (ad 49)), (1, .ref (ad t1)), (2, .ref (ad t2)), (3, .int a3)] rfl (fun G hC e1 e2 e3 e4 e5 hR => ?_)
  subst e1; subst e2; subst e3; subst e4; subst e5
  exact B_TA_fillTogether hC h1 h2 a3 s o h hR
theorem d_AC_refuse_0 : PLa b_AC_refuse 0 0 1 := Or.inl ⟨0, by decide +kernel, rfl, rfl⟩
theorem d_AC_refuse_1 : DR b_AC_refuse 1 (.getfield 87) 3 4 := ⟨by decide +kernel, rfl⟩
theorem d_AC_refuse_4 : PLi b_AC_refuse 4 1 5 := Or.inl ⟨1, by decide +kernel, rfl, rfl⟩
theorem d_AC_refuse_5 : DR b_AC_refuse 5 (.ineg) 1 6 := ⟨by decide +kernel, rfl⟩
theorem d_AC_refuse_6 : PLa b_AC_refuse 6 0 7 := Or.inl ⟨0, by decide +kernel, rfl, rfl⟩
theorem d_AC_refuse_7 : DR b_AC_refuse 7 (.getfield 87) 3 10 := ⟨by decide +kernel, rfl⟩
theorem d_AC_refuse_10 : PLi b_AC_refuse 10 1 11 := Or.inl ⟨1, by decide +kernel, rfl, rfl⟩
theorem d_AC_refuse_11 : DR b_AC_refuse 11 (.ineg) 1 12 := ⟨by decide +kernel, rfl⟩
theorem d_AC_refuse_12 : DR b_AC_refuse 12 (.invokestatic 122) 3 15 := ⟨by decide +kernel, rfl⟩
theorem d_AC_refuse_15 : PCi b_AC_refuse 15 1 16 := Or.inl ⟨1, by decide +kernel, by decide, rfl⟩
theorem d_AC_refuse_16 : DR b_AC_refuse 16 (.iadd) 1 17 := ⟨by decide +kernel, rfl⟩
theorem d_AC_refuse_17 : DR b_AC_refuse 17 (.invokestatic 310) 3 20 := ⟨by decide +kernel, rfl⟩
theorem d_AC_refuse_20 : PLi b_AC_refuse 20 1 21 := Or.inl ⟨1, by decide +kernel, rfl, rfl⟩
theorem d_AC_refuse_21 : DR b_AC_refuse 21 (.ireturn) 1 22 := ⟨by decide +kernel, rfl⟩
set_option maxRecDepth 20000 in
theorem B_AC_refuse {G : MCx} (hC : C0 G "AccusedChoose" b_AC_refuse 2 2) (a1 : Int32) (s : St) : VO G (RI G b_AC_refuse) (F_AC_refuse a1 s) 0 [(0, .ref (gad G 0)), (1, .int a1)] [] s := by
  unfold F_AC_refuse
  refine VO_aload hC d_AC_refuse_0 0 rfl ?_
  refine VO_getr (r := 57) hC fl_AC_87 sh_AC rfl d_AC_refuse_1 ?_
  refine VO_iload hC d_AC_refuse_4 1 rfl ?_
  refine VO_ineg hC d_AC_refuse_5 ?_
  refine VO_aload hC d_AC_refuse_6 0 rfl ?_
  refine VO_getr (r := 57) hC fl_AC_87 sh_AC rfl d_AC_refuse_7 ?_
  refine VO_iload hC d_AC_refuse_10 1 rfl ?_
  refine VO_ineg hC d_AC_refuse_11 ?_
  refine VO_callSI hC [.ref (gad G 57), .int (-a1)] [.int (-a1), .ref (gad G 57)] ml_AC_122 d_AC_refuse_12 ys_AC_at (fun o h => M_AC_at hC.inj ia_57 h) (by decide) rfl rfl (Nat.le_of_ble_eq_true rfl) (fun o1 => ?_)
  refine VO_const hC d_AC_refuse_15 ?_
  refine VO_iadd hC d_AC_refuse_16 ?_
  refine VO_callSV hC [.ref (gad G 57), .int (-a1), .int (o1.1 + (1 : Int32))] [] ml_AC_310 d_AC_refuse_17 ys_AC_put (fun o h => M_AC_put hC.inj ia_57 h) (by decide) rfl rfl (Nat.le_of_ble_eq_true rfl) (fun s2 => ?_)
  refine VO_iload hC d_AC_refuse_20 1 rfl ?_
  exact VO_ireturn d_AC_refuse_21
set_option maxRecDepth 20000 in
theorem M_AC_refuse {l : Launch} {D : va_G} {ad : Nat → Nat} {cI cL : ClassId} (hj : Inj ad) {a1 : Int32} {s : St} {o : Int32 × St} (h : F_AC_refuse a1 s = some o) : Cn l D ad cI cL y_AC_refuse b_AC_refuse 2 (some .int) 2 [.ref (ad 0), .int a1] s (some (.int o.1)) o.2 := by
  refine Cn_ofI hj (plainFor_of_name (by decide)) (Nat.le_of_ble_eq_true rfl) [(0, .ref (ad 0)), (1, .int a1)] rfl (fun G hC e1 e2 e3 e4 e5 hR => ?_)
  subst e1; subst e2; subst e3; subst e4; subst e5
  exact B_AC_refuse hC a1 s o h hR
theorem d_AC_feed_0 : PLi b_AC_feed 0 1 1 := Or.inl ⟨1, by decide +kernel, rfl, rfl⟩
theorem d_AC_feed_1 : DJ b_AC_feed 1 (.ifCond .ge) 4 11 := ⟨10, by decide +kernel, rfl, by decide⟩
theorem d_AC_feed_4 : PLa b_AC_feed 4 0 5 := Or.inl ⟨0, by decide +kernel, rfl, rfl⟩
theorem d_AC_feed_5 : PCi b_AC_feed 5 (-4) 7 := Or.inr (Or.inl ⟨(-4), by decide +kernel, by decide, rfl⟩)
theorem d_AC_feed_7 : DR b_AC_feed 7 (.invokevirtual 90) 3 10 := ⟨by decide +kernel, rfl⟩
theorem d_AC_feed_10 : DR b_AC_feed 10 (.ireturn) 1 11 := ⟨by decide +kernel, rfl⟩
theorem d_AC_feed_11 : PLi b_AC_feed 11 1 12 := Or.inl ⟨1, by decide +kernel, rfl, rfl⟩
theorem d_AC_feed_12 : PCi b_AC_feed 12 255 15 := Or.inr (Or.inr ⟨255, by decide +kernel, by decide, rfl⟩)
theorem d_AC_feed_15 : DJ b_AC_feed 15 (.if_icmp .gt) 18 28 := ⟨13, by decide +kernel, rfl, by decide⟩
theorem d_AC_feed_18 : PLa b_AC_feed 18 0 19 := Or.inl ⟨0, by decide +kernel, rfl, rfl⟩
theorem d_AC_feed_19 : DR b_AC_feed 19 (.getfield 32) 3 22 := ⟨by decide +kernel, rfl⟩
theorem d_AC_feed_22 : DR b_AC_feed 22 (.invokevirtual 94) 3 25 := ⟨by decide +kernel, rfl⟩
theorem d_AC_feed_25 : DJ b_AC_feed 25 (.ifCond .eq) 28 35 := ⟨10, by decide +kernel, rfl, by decide⟩
theorem d_AC_feed_28 : PLa b_AC_feed 28 0 29 := Or.inl ⟨0, by decide +kernel, rfl, rfl⟩
theorem d_AC_feed_29 : PCi b_AC_feed 29 (-6) 31 := Or.inr (Or.inl ⟨(-6), by decide +kernel, by decide, rfl⟩)
theorem d_AC_feed_31 : DR b_AC_feed 31 (.invokevirtual 90) 3 34 := ⟨by decide +kernel, rfl⟩
theorem d_AC_feed_34 : DR b_AC_feed 34 (.ireturn) 1 35 := ⟨by decide +kernel, rfl⟩
theorem d_AC_feed_35 : PLa b_AC_feed 35 0 36 := Or.inl ⟨0, by decide +kernel, rfl, rfl⟩
theorem d_AC_feed_36 : DR b_AC_feed 36 (.getfield 32) 3 39 := ⟨by decide +kernel, rfl⟩
theorem d_AC_feed_39 : PLi b_AC_feed 39 1 40 := Or.inl ⟨1, by decide +kernel, rfl, rfl⟩
theorem d_AC_feed_40 : DR b_AC_feed 40 (.invokevirtual 98) 3 43 := ⟨by decide +kernel, rfl⟩
theorem d_AC_feed_43 : DR b_AC_feed 43 (.ireturn) 1 44 := ⟨by decide +kernel, rfl⟩
set_option maxRecDepth 20000 in
theorem B_AC_feed_28 {G : MCx} (hC : C0 G "AccusedChoose" b_AC_feed 2 3) (s : St) : VO G (RI G b_AC_feed) (F_AC_feed_28 s) 28 [(0, .ref (gad G 0))] [] s := by
  unfold F_AC_feed_28
  refine VO_aload hC d_AC_feed_28 0 rfl ?_
  refine VO_const hC d_AC_feed_29 ?_
  refine VO_callVI hC [.int (-6 : Int32)] [] ml_AC_90 d_AC_feed_31 yv_AC_refuse sh_AC rfl rfl (fun o h => M_AC_refuse hC.inj h) (by decide) rfl rfl (Nat.le_of_ble_eq_true rfl) (fun o1 => ?_)
  exact VO_ireturn d_AC_feed_34
set_option maxRecDepth 20000 in
theorem B_AC_feed {G : MCx} (hC : C0 G "AccusedChoose" b_AC_feed 2 3) (a1 : Int32) (s : St) : VO G (RI G b_AC_feed) (F_AC_feed a1 s) 0 [(0, .ref (gad G 0)), (1, .int a1)] [] s := by
  unfold F_AC_feed
  refine VO_iload hC d_AC_feed_0 1 rfl ?_
  refine VO_if_ge hC d_AC_feed_1 (fun _ => ?_) (fun _ => ?_)
  · refine VO_iload hC d_AC_feed_11 1 rfl ?_
    refine VO_const hC d_AC_feed_12 ?_
    refine VO_icmp_gt hC d_AC_feed_15 (fun _ => ?_) (fun _ => ?_)
    · exact VO_sub [0] rfl (B_AC_feed_28 hC s)
    · refine VO_aload hC d_AC_feed_18 0 rfl ?_
      refine VO_getr (r := 34) hC fl_AC_32 sh_AC rfl d_AC_feed_19 ?_
      refine VO_callVI hC [] [] ml_AC_94 d_AC_feed_22 yv_LT_isFull sh_LT rfl rfl (fun o h => M_LT_isFull hC.inj h) (by decide) rfl rfl (Nat.le_of_ble_eq_true rfl) (fun o2 => ?_)
      refine VO_if_eq hC d_AC_feed_25 (fun _ => ?_) (fun _ => ?_)
      · refine VO_aload hC d_AC_feed_35 0 rfl ?_
        refine VO_getr (r := 34) hC fl_AC_32 sh_AC rfl d_AC_feed_36 ?_
        refine VO_iload hC d_AC_feed_39 1 rfl ?_
        refine VO_callVI hC [.int a1] [] ml_AC_98 d_AC_feed_40 yv_LT_add sh_LT rfl rfl (fun o h => M_LT_add hC.inj h) (by decide) rfl rfl (Nat.le_of_ble_eq_true rfl) (fun o3 => ?_)
        exact VO_ireturn d_AC_feed_43
      · exact VO_sub [0] rfl (B_AC_feed_28 hC o2.2)
  · refine VO_aload hC d_AC_feed_4 0 rfl ?_
    refine VO_const hC d_AC_feed_5 ?_
    refine VO_callVI hC [.int (-4 : Int32)] [] ml_AC_90 d_AC_feed_7 yv_AC_refuse sh_AC rfl rfl (fun o h => M_AC_refuse hC.inj h) (by decide) rfl rfl (Nat.le_of_ble_eq_true rfl) (fun o4 => ?_)
    exact VO_ireturn d_AC_feed_10
set_option maxRecDepth 20000 in
theorem M_AC_feed {l : Launch} {D : va_G} {ad : Nat → Nat} {cI cL : ClassId} (hj : Inj ad) {a1 : Int32} {s : St} {o : Int32 × St} (h : F_AC_feed a1 s = some o) : Cn l D ad cI cL y_AC_feed b_AC_feed 2 (some .int) 3 [.ref (ad 0), .int a1] s (some (.int o.1)) o.2 := by
  refine Cn_ofI hj (plainFor_of_name (by decide)) (Nat.le_of_ble_eq_true rfl) [(0, .ref (ad 0)), (1, .int a1)] rfl (fun G hC e1 e2 e3 e4 e5 hR => ?_)
  subst e1; subst e2; subst e3; subst e4; subst e5
  exact B_AC_feed hC a1 s o h hR
theorem d_AC_night_0 : PLa b_AC_night 0 0 1 := Or.inl ⟨0, by decide +kernel, rfl, rfl⟩
theorem d_AC_night_1 : DR b_AC_night 1 (.getfield 19) 3 4 := ⟨by decide +kernel, rfl⟩
theorem d_AC_night_4 : PLa b_AC_night 4 0 5 := Or.inl ⟨0, by decide +kernel, rfl, rfl⟩
theorem d_AC_night_5 : DR b_AC_night 5 (.getfield 10) 3 8 := ⟨by decide +kernel, rfl⟩
theorem d_AC_night_8 : DR b_AC_night 8 (.invokevirtual 101) 3 11 := ⟨by decide +kernel, rfl⟩
theorem d_AC_night_11 : PLa b_AC_night 11 0 12 := Or.inl ⟨0, by decide +kernel, rfl, rfl⟩
theorem d_AC_night_12 : DR b_AC_night 12 (.getfield 32) 3 15 := ⟨by decide +kernel, rfl⟩
theorem d_AC_night_15 : PLa b_AC_night 15 0 16 := Or.inl ⟨0, by decide +kernel, rfl, rfl⟩
theorem d_AC_night_16 : DR b_AC_night 16 (.getfield 19) 3 19 := ⟨by decide +kernel, rfl⟩
theorem d_AC_night_19 : DR b_AC_night 19 (.invokevirtual 105) 3 22 := ⟨by decide +kernel, rfl⟩
theorem d_AC_night_22 : PSi b_AC_night 22 1 23 := Or.inl ⟨1, by decide +kernel, rfl, rfl⟩
theorem d_AC_night_23 : PLa b_AC_night 23 0 24 := Or.inl ⟨0, by decide +kernel, rfl, rfl⟩
theorem d_AC_night_24 : DR b_AC_night 24 (.getfield 32) 3 27 := ⟨by decide +kernel, rfl⟩
theorem d_AC_night_27 : DR b_AC_night 27 (.invokevirtual 109) 3 30 := ⟨by decide +kernel, rfl⟩
theorem d_AC_night_30 : PLi b_AC_night 30 1 31 := Or.inl ⟨1, by decide +kernel, rfl, rfl⟩
theorem d_AC_night_31 : DJ b_AC_night 31 (.ifCond .le) 34 52 := ⟨21, by decide +kernel, rfl, by decide⟩
theorem d_AC_night_34 : PLa b_AC_night 34 0 35 := Or.inl ⟨0, by decide +kernel, rfl, rfl⟩
theorem d_AC_night_35 : DR b_AC_night 35 (.getfield 10) 3 38 := ⟨by decide +kernel, rfl⟩
theorem d_AC_night_38 : PLa b_AC_night 38 0 39 := Or.inl ⟨0, by decide +kernel, rfl, rfl⟩
theorem d_AC_night_39 : DR b_AC_night 39 (.getfield 19) 3 42 := ⟨by decide +kernel, rfl⟩
theorem d_AC_night_42 : DR b_AC_night 42 (.invokevirtual 101) 3 45 := ⟨by decide +kernel, rfl⟩
theorem d_AC_night_45 : PLa b_AC_night 45 0 46 := Or.inl ⟨0, by decide +kernel, rfl, rfl⟩
theorem d_AC_night_46 : DR b_AC_night 46 (.getfield 25) 3 49 := ⟨by decide +kernel, rfl⟩
theorem d_AC_night_49 : DR b_AC_night 49 (.invokevirtual 112) 3 52 := ⟨by decide +kernel, rfl⟩
theorem d_AC_night_52 : PLi b_AC_night 52 1 53 := Or.inl ⟨1, by decide +kernel, rfl, rfl⟩
theorem d_AC_night_53 : DR b_AC_night 53 (.ireturn) 1 54 := ⟨by decide +kernel, rfl⟩
set_option maxRecDepth 20000 in
theorem B_AC_night {G : MCx} (hC : C0 G "AccusedChoose" b_AC_night 2 6) (s : St) : VO G (RI G b_AC_night) (F_AC_night s) 0 [(0, .ref (gad G 0))] [] s := by
  unfold F_AC_night
  refine VO_aload hC d_AC_night_0 0 rfl ?_
  refine VO_getr (r := 19) hC fl_AC_19 sh_AC rfl d_AC_night_1 ?_
  refine VO_aload hC d_AC_night_4 0 rfl ?_
  refine VO_getr (r := 1) hC fl_AC_10 sh_AC rfl d_AC_night_5 ?_
  refine VO_callVV hC [.ref (gad G 1)] [] ml_AC_101 d_AC_night_8 yv_NI_copy (sh_NI isNI_19) rfl rfl (fun o h => M_NI_copy hC.inj isNI_19 isNI_1 h) (by decide) rfl rfl (Nat.le_of_ble_eq_true rfl) (fun s1 => ?_)
  refine VO_aload hC d_AC_night_11 0 rfl ?_
  refine VO_getr (r := 34) hC fl_AC_32 sh_AC rfl d_AC_night_12 ?_
  refine VO_aload hC d_AC_night_15 0 rfl ?_
  refine VO_getr (r := 19) hC fl_AC_19 sh_AC rfl d_AC_night_16 ?_
  refine VO_callVI hC [.ref (gad G 19)] [] ml_AC_105 d_AC_night_19 yv_LT_tell sh_LT rfl rfl (fun o h => M_LT_tell hC.inj isNI_19 h) (by decide) rfl rfl (Nat.le_of_ble_eq_true rfl) (fun o2 => ?_)
  refine VO_istore hC d_AC_night_22 [(0, .ref (gad G 0))] rfl (by decide) ?_
  refine VO_aload hC d_AC_night_23 1 rfl ?_
  refine VO_getr (r := 34) hC fl_AC_32 sh_AC rfl d_AC_night_24 ?_
  refine VO_callVV hC [] [] ml_AC_109 d_AC_night_27 yv_LT_drop sh_LT rfl rfl (fun o h => M_LT_drop hC.inj h) (by decide) rfl rfl (Nat.le_of_ble_eq_true rfl) (fun s3 => ?_)
  refine VO_iload hC d_AC_night_30 0 rfl ?_
  refine VO_if_le hC d_AC_night_31 (fun _ => ?_) (fun _ => ?_)
  · refine VO_iload hC d_AC_night_52 0 rfl ?_
    exact VO_ireturn d_AC_night_53
  · refine VO_aload hC d_AC_night_34 1 rfl ?_
    refine VO_getr (r := 1) hC fl_AC_10 sh_AC rfl d_AC_night_35 ?_
    refine VO_aload hC d_AC_night_38 1 rfl ?_
    refine VO_getr (r := 19) hC fl_AC_19 sh_AC rfl d_AC_night_39 ?_
    refine VO_callVV hC [.ref (gad G 19)] [] ml_AC_101 d_AC_night_42 yv_NI_copy (sh_NI isNI_1) rfl rfl (fun o h => M_NI_copy hC.inj isNI_1 isNI_19 h) (by decide) rfl rfl (Nat.le_of_ble_eq_true rfl) (fun s4 => ?_)
    refine VO_aload hC d_AC_night_45 1 rfl ?_
    refine VO_getr (r := 28) hC fl_AC_25 sh_AC rfl d_AC_night_46 ?_
    refine VO_callVV hC [] [] ml_AC_112 d_AC_night_49 yv_PA_forget sh_PA rfl rfl (fun o h => M_PA_forget hC.inj h) (by decide) rfl rfl (Nat.le_of_ble_eq_true rfl) (fun s5 => ?_)
    refine VO_iload hC d_AC_night_52 0 rfl ?_
    exact VO_ireturn d_AC_night_53
set_option maxRecDepth 20000 in
theorem M_AC_night {l : Launch} {D : va_G} {ad : Nat → Nat} {cI cL : ClassId} (hj : Inj ad) {s : St} {o : Int32 × St} (h : F_AC_night s = some o) : Cn l D ad cI cL y_AC_night b_AC_night 2 (some .int) 6 [.ref (ad 0)] s (some (.int o.1)) o.2 := by
  refine Cn_ofI hj (plainFor_of_name (by decide)) (Nat.le_of_ble_eq_true rfl) [(0, .ref (ad 0))] rfl (fun G hC e1 e2 e3 e4 e5 hR => ?_)
  subst e1; subst e2; subst e3; subst e4; subst e5
  exact B_AC_night hC s o h hR
theorem d_AC_deed_0 : PLa b_AC_deed 0 0 1 := Or.inl ⟨0, by decide +kernel, rfl, rfl⟩
theorem d_AC_deed_1 : DR b_AC_deed 1 (.getfield 10) 3 4 := ⟨by decide +kernel, rfl⟩
theorem d_AC_deed_4 : PLi b_AC_deed 4 1 5 := Or.inl ⟨1, by decide +kernel, rfl, rfl⟩
theorem d_AC_deed_5 : DR b_AC_deed 5 (.invokevirtual 115) 3 8 := ⟨by decide +kernel, rfl⟩
theorem d_AC_deed_8 : DJ b_AC_deed 8 (.ifCond .ne) 11 17 := ⟨9, by decide +kernel, rfl, by decide⟩
theorem d_AC_deed_11 : PLa b_AC_deed 11 0 12 := Or.inl ⟨0, by decide +kernel, rfl, rfl⟩
theorem d_AC_deed_12 : PCi b_AC_deed 12 (-1) 13 := Or.inl ⟨(-1), by decide +kernel, by decide, rfl⟩
theorem d_AC_deed_13 : DR b_AC_deed 13 (.invokevirtual 90) 3 16 := ⟨by decide +kernel, rfl⟩
theorem d_AC_deed_16 : DR b_AC_deed 16 (.ireturn) 1 17 := ⟨by decide +kernel, rfl⟩
theorem d_AC_deed_17 : PLi b_AC_deed 17 2 18 := Or.inl ⟨2, by decide +kernel, rfl, rfl⟩
theorem d_AC_deed_18 : decode b_AC_deed 18 = .ok (.lookupswitch 50 #[(0, 26), (1, 38)], 26) := by decide +kernel
theorem d_AC_deed_44 : PLa b_AC_deed 44 0 45 := Or.inl ⟨0, by decide +kernel, rfl, rfl⟩
theorem d_AC_deed_45 : DR b_AC_deed 45 (.getfield 10) 3 48 := ⟨by decide +kernel, rfl⟩
theorem d_AC_deed_48 : DR b_AC_deed 48 (.getfield 119) 3 51 := ⟨by decide +kernel, rfl⟩
theorem d_AC_deed_51 : PLi b_AC_deed 51 1 52 := Or.inl ⟨1, by decide +kernel, rfl, rfl⟩
theorem d_AC_deed_52 : DR b_AC_deed 52 (.invokestatic 122) 3 55 := ⟨by decide +kernel, rfl⟩
theorem d_AC_deed_55 : DR b_AC_deed 55 (.ireturn) 1 56 := ⟨by decide +kernel, rfl⟩
theorem d_AC_deed_56 : PLa b_AC_deed 56 0 57 := Or.inl ⟨0, by decide +kernel, rfl, rfl⟩
theorem d_AC_deed_57 : DR b_AC_deed 57 (.getfield 10) 3 60 := ⟨by decide +kernel, rfl⟩
theorem d_AC_deed_60 : DR b_AC_deed 60 (.getfield 126) 3 63 := ⟨by decide +kernel, rfl⟩
theorem d_AC_deed_63 : PLi b_AC_deed 63 1 64 := Or.inl ⟨1, by decide +kernel, rfl, rfl⟩
theorem d_AC_deed_64 : DR b_AC_deed 64 (.invokestatic 122) 3 67 := ⟨by decide +kernel, rfl⟩
theorem d_AC_deed_67 : DR b_AC_deed 67 (.ireturn) 1 68 := ⟨by decide +kernel, rfl⟩
theorem d_AC_deed_68 : PLa b_AC_deed 68 0 69 := Or.inl ⟨0, by decide +kernel, rfl, rfl⟩
theorem d_AC_deed_69 : PCi b_AC_deed 69 (-2) 71 := Or.inr (Or.inl ⟨(-2), by decide +kernel, by decide, rfl⟩)
theorem d_AC_deed_71 : DR b_AC_deed 71 (.invokevirtual 90) 3 74 := ⟨by decide +kernel, rfl⟩
theorem d_AC_deed_74 : DR b_AC_deed 74 (.ireturn) 1 75 := ⟨by decide +kernel, rfl⟩
set_option maxRecDepth 20000 in
theorem B_AC_deed {G : MCx} (hC : C0 G "AccusedChoose" b_AC_deed 3 3) (a1 : Int32) (a2 : Int32) (s : St) : VO G (RI G b_AC_deed) (F_AC_deed a1 a2 s) 0 [(0, .ref (gad G 0)), (1, .int a1), (2, .int a2)] [] s := by
  unfold F_AC_deed
  refine VO_aload hC d_AC_deed_0 0 rfl ?_
  refine VO_getr (r := 1) hC fl_AC_10 sh_AC rfl d_AC_deed_1 ?_
  refine VO_iload hC d_AC_deed_4 1 rfl ?_
  refine VO_callVI hC [.int a1] [] ml_AC_115 d_AC_deed_5 yv_NI_hasDeed (sh_NI isNI_1) rfl rfl (fun o h => M_NI_hasDeed hC.inj isNI_1 h) (by decide) rfl rfl (Nat.le_of_ble_eq_true rfl) (fun o1 => ?_)
  refine VO_if_ne hC d_AC_deed_8 (fun _ => ?_) (fun _ => ?_)
  · refine VO_aload hC d_AC_deed_11 0 rfl ?_
    refine VO_const hC d_AC_deed_12 ?_
    refine VO_callVI hC [.int (-1 : Int32)] [] ml_AC_90 d_AC_deed_13 yv_AC_refuse sh_AC rfl rfl (fun o h => M_AC_refuse hC.inj h) (by decide) rfl rfl (Nat.le_of_ble_eq_true rfl) (fun o5 => ?_)
    exact VO_ireturn d_AC_deed_16
  · refine VO_iload hC d_AC_deed_17 2 rfl ?_
    refine VO_ite (fun c18_0 => ?_) (fun c18_0 => ?_)
    · refine VO_lsw (tgt := 44) (off := (26 : Int)) hC d_AC_deed_18 (by decide) (by first | (rw [c18_0]; done) | (rw [c18_0]; decide)) (by decide) ?_
      refine VO_aload hC d_AC_deed_44 0 rfl ?_
      refine VO_getr (r := 1) hC fl_AC_10 sh_AC rfl d_AC_deed_45 ?_
      refine VO_getr (r := 2) hC fl_AC_119 (sh_NI isNI_1) rfl d_AC_deed_48 ?_
      refine VO_iload hC d_AC_deed_51 1 rfl ?_
      refine VO_callSI hC [.ref (gad G 2), .int a1] [] ml_AC_122 d_AC_deed_52 ys_AC_at (fun o h => M_AC_at hC.inj ia_2 h) (by decide) rfl rfl (Nat.le_of_ble_eq_true rfl) (fun o2 => ?_)
      exact VO_ireturn d_AC_deed_55
    refine VO_ite (fun c18_1 => ?_) (fun c18_1 => ?_)
    · refine VO_lsw (tgt := 56) (off := (38 : Int)) hC d_AC_deed_18 (by decide) (by first | (rw [c18_1]; done) | (rw [c18_1]; decide)) (by decide) ?_
      refine VO_aload hC d_AC_deed_56 0 rfl ?_
      refine VO_getr (r := 1) hC fl_AC_10 sh_AC rfl d_AC_deed_57 ?_
      refine VO_getr (r := 3) hC fl_AC_126 (sh_NI isNI_1) rfl d_AC_deed_60 ?_
      refine VO_iload hC d_AC_deed_63 1 rfl ?_
      refine VO_callSI hC [.ref (gad G 3), .int a1] [] ml_AC_122 d_AC_deed_64 ys_AC_at (fun o h => M_AC_at hC.inj ia_3 h) (by decide) rfl rfl (Nat.le_of_ble_eq_true rfl) (fun o3 => ?_)
      exact VO_ireturn d_AC_deed_67
    refine VO_lsw (tgt := 68) (off := (50 : Int)) hC d_AC_deed_18 (by decide) ((lv_osw c18_0 rfl).trans ((lv_osw c18_1 rfl))) (by decide) ?_
    refine VO_aload hC d_AC_deed_68 0 rfl ?_
    refine VO_const hC d_AC_deed_69 ?_
    refine VO_callVI hC [.int (-2 : Int32)] [] ml_AC_90 d_AC_deed_71 yv_AC_refuse sh_AC rfl rfl (fun o h => M_AC_refuse hC.inj h) (by decide) rfl rfl (Nat.le_of_ble_eq_true rfl) (fun o4 => ?_)
    exact VO_ireturn d_AC_deed_74
set_option maxRecDepth 20000 in
theorem M_AC_deed {l : Launch} {D : va_G} {ad : Nat → Nat} {cI cL : ClassId} (hj : Inj ad) {a1 : Int32} {a2 : Int32} {s : St} {o : Int32 × St} (h : F_AC_deed a1 a2 s = some o) : Cn l D ad cI cL y_AC_deed b_AC_deed 3 (some .int) 3 [.ref (ad 0), .int a1, .int a2] s (some (.int o.1)) o.2 := by
  refine Cn_ofI hj (plainFor_of_name (by decide)) (Nat.le_of_ble_eq_true rfl) [(0, .ref (ad 0)), (1, .int a1), (2, .int a2)] rfl (fun G hC e1 e2 e3 e4 e5 hR => ?_)
  subst e1; subst e2; subst e3; subst e4; subst e5
  exact B_AC_deed hC a1 a2 s o h hR
theorem d_AC_person_0 : PLa b_AC_person 0 0 1 := Or.inl ⟨0, by decide +kernel, rfl, rfl⟩
theorem d_AC_person_1 : DR b_AC_person 1 (.getfield 10) 3 4 := ⟨by decide +kernel, rfl⟩
theorem d_AC_person_4 : PLi b_AC_person 4 1 5 := Or.inl ⟨1, by decide +kernel, rfl, rfl⟩
theorem d_AC_person_5 : DR b_AC_person 5 (.invokevirtual 129) 3 8 := ⟨by decide +kernel, rfl⟩
theorem d_AC_person_8 : DJ b_AC_person 8 (.ifCond .ne) 11 17 := ⟨9, by decide +kernel, rfl, by decide⟩
theorem d_AC_person_11 : PLa b_AC_person 11 0 12 := Or.inl ⟨0, by decide +kernel, rfl, rfl⟩
theorem d_AC_person_12 : PCi b_AC_person 12 (-1) 13 := Or.inl ⟨(-1), by decide +kernel, by decide, rfl⟩
theorem d_AC_person_13 : DR b_AC_person 13 (.invokevirtual 90) 3 16 := ⟨by decide +kernel, rfl⟩
theorem d_AC_person_16 : DR b_AC_person 16 (.ireturn) 1 17 := ⟨by decide +kernel, rfl⟩
theorem d_AC_person_17 : PLi b_AC_person 17 2 18 := Or.inl ⟨2, by decide +kernel, rfl, rfl⟩
theorem d_AC_person_18 : decode b_AC_person 18 = .ok (.tableswitch 120 0 6 #[42, 54, 66, 78, 90, 99, 111], 42) := by decide +kernel
theorem d_AC_person_60 : PLa b_AC_person 60 0 61 := Or.inl ⟨0, by decide +kernel, rfl, rfl⟩
theorem d_AC_person_61 : DR b_AC_person 61 (.getfield 10) 3 64 := ⟨by decide +kernel, rfl⟩
theorem d_AC_person_64 : DR b_AC_person 64 (.getfield 132) 3 67 := ⟨by decide +kernel, rfl⟩
theorem d_AC_person_67 : PLi b_AC_person 67 1 68 := Or.inl ⟨1, by decide +kernel, rfl, rfl⟩
theorem d_AC_person_68 : DR b_AC_person 68 (.invokestatic 122) 3 71 := ⟨by decide +kernel, rfl⟩
theorem d_AC_person_71 : DR b_AC_person 71 (.ireturn) 1 72 := ⟨by decide +kernel, rfl⟩
theorem d_AC_person_72 : PLa b_AC_person 72 0 73 := Or.inl ⟨0, by decide +kernel, rfl, rfl⟩
theorem d_AC_person_73 : DR b_AC_person 73 (.getfield 10) 3 76 := ⟨by decide +kernel, rfl⟩
theorem d_AC_person_76 : DR b_AC_person 76 (.getfield 135) 3 79 := ⟨by decide +kernel, rfl⟩
theorem d_AC_person_79 : PLi b_AC_person 79 1 80 := Or.inl ⟨1, by decide +kernel, rfl, rfl⟩
theorem d_AC_person_80 : DR b_AC_person 80 (.invokestatic 122) 3 83 := ⟨by decide +kernel, rfl⟩
theorem d_AC_person_83 : DR b_AC_person 83 (.ireturn) 1 84 := ⟨by decide +kernel, rfl⟩
theorem d_AC_person_84 : PLa b_AC_person 84 0 85 := Or.inl ⟨0, by decide +kernel, rfl, rfl⟩
theorem d_AC_person_85 : DR b_AC_person 85 (.getfield 10) 3 88 := ⟨by decide +kernel, rfl⟩
theorem d_AC_person_88 : DR b_AC_person 88 (.getfield 138) 3 91 := ⟨by decide +kernel, rfl⟩
theorem d_AC_person_91 : PLi b_AC_person 91 1 92 := Or.inl ⟨1, by decide +kernel, rfl, rfl⟩
theorem d_AC_person_92 : DR b_AC_person 92 (.invokestatic 122) 3 95 := ⟨by decide +kernel, rfl⟩
theorem d_AC_person_95 : DR b_AC_person 95 (.ireturn) 1 96 := ⟨by decide +kernel, rfl⟩
theorem d_AC_person_96 : PLa b_AC_person 96 0 97 := Or.inl ⟨0, by decide +kernel, rfl, rfl⟩
theorem d_AC_person_97 : DR b_AC_person 97 (.getfield 10) 3 100 := ⟨by decide +kernel, rfl⟩
theorem d_AC_person_100 : DR b_AC_person 100 (.getfield 141) 3 103 := ⟨by decide +kernel, rfl⟩
theorem d_AC_person_103 : PLi b_AC_person 103 1 104 := Or.inl ⟨1, by decide +kernel, rfl, rfl⟩
theorem d_AC_person_104 : DR b_AC_person 104 (.invokestatic 122) 3 107 := ⟨by decide +kernel, rfl⟩
theorem d_AC_person_107 : DR b_AC_person 107 (.ireturn) 1 108 := ⟨by decide +kernel, rfl⟩
theorem d_AC_person_108 : PLa b_AC_person 108 0 109 := Or.inl ⟨0, by decide +kernel, rfl, rfl⟩
theorem d_AC_person_109 : DR b_AC_person 109 (.getfield 10) 3 112 := ⟨by decide +kernel, rfl⟩
theorem d_AC_person_112 : PLi b_AC_person 112 1 113 := Or.inl ⟨1, by decide +kernel, rfl, rfl⟩
theorem d_AC_person_113 : DR b_AC_person 113 (.invokevirtual 144) 3 116 := ⟨by decide +kernel, rfl⟩
theorem d_AC_person_116 : DR b_AC_person 116 (.ireturn) 1 117 := ⟨by decide +kernel, rfl⟩
theorem d_AC_person_117 : PLa b_AC_person 117 0 118 := Or.inl ⟨0, by decide +kernel, rfl, rfl⟩
theorem d_AC_person_118 : DR b_AC_person 118 (.getfield 10) 3 121 := ⟨by decide +kernel, rfl⟩
theorem d_AC_person_121 : DR b_AC_person 121 (.getfield 147) 3 124 := ⟨by decide +kernel, rfl⟩
theorem d_AC_person_124 : PLi b_AC_person 124 1 125 := Or.inl ⟨1, by decide +kernel, rfl, rfl⟩
theorem d_AC_person_125 : DR b_AC_person 125 (.invokestatic 122) 3 128 := ⟨by decide +kernel, rfl⟩
theorem d_AC_person_128 : DR b_AC_person 128 (.ireturn) 1 129 := ⟨by decide +kernel, rfl⟩
theorem d_AC_person_129 : PLa b_AC_person 129 0 130 := Or.inl ⟨0, by decide +kernel, rfl, rfl⟩
theorem d_AC_person_130 : DR b_AC_person 130 (.getfield 10) 3 133 := ⟨by decide +kernel, rfl⟩
theorem d_AC_person_133 : PLi b_AC_person 133 1 134 := Or.inl ⟨1, by decide +kernel, rfl, rfl⟩
theorem d_AC_person_134 : DR b_AC_person 134 (.invokevirtual 150) 3 137 := ⟨by decide +kernel, rfl⟩
theorem d_AC_person_137 : DR b_AC_person 137 (.ireturn) 1 138 := ⟨by decide +kernel, rfl⟩
theorem d_AC_person_138 : PLa b_AC_person 138 0 139 := Or.inl ⟨0, by decide +kernel, rfl, rfl⟩
theorem d_AC_person_139 : PCi b_AC_person 139 (-2) 141 := Or.inr (Or.inl ⟨(-2), by decide +kernel, by decide, rfl⟩)
theorem d_AC_person_141 : DR b_AC_person 141 (.invokevirtual 90) 3 144 := ⟨by decide +kernel, rfl⟩
theorem d_AC_person_144 : DR b_AC_person 144 (.ireturn) 1 145 := ⟨by decide +kernel, rfl⟩
set_option maxRecDepth 20000 in
theorem B_AC_person {G : MCx} (hC : C0 G "AccusedChoose" b_AC_person 3 5) (a1 : Int32) (a2 : Int32) (s : St) : VO G (RI G b_AC_person) (F_AC_person a1 a2 s) 0 [(0, .ref (gad G 0)), (1, .int a1), (2, .int a2)] [] s := by
  unfold F_AC_person
  refine VO_aload hC d_AC_person_0 0 rfl ?_
  refine VO_getr (r := 1) hC fl_AC_10 sh_AC rfl d_AC_person_1 ?_
  refine VO_iload hC d_AC_person_4 1 rfl ?_
  refine VO_callVI hC [.int a1] [] ml_AC_129 d_AC_person_5 yv_NI_hasPerson (sh_NI isNI_1) rfl rfl (fun o h => M_NI_hasPerson hC.inj isNI_1 h) (by decide) rfl rfl (Nat.le_of_ble_eq_true rfl) (fun o1 => ?_)
  refine VO_if_ne hC d_AC_person_8 (fun _ => ?_) (fun _ => ?_)
  · refine VO_aload hC d_AC_person_11 0 rfl ?_
    refine VO_const hC d_AC_person_12 ?_
    refine VO_callVI hC [.int (-1 : Int32)] [] ml_AC_90 d_AC_person_13 yv_AC_refuse sh_AC rfl rfl (fun o h => M_AC_refuse hC.inj h) (by decide) rfl rfl (Nat.le_of_ble_eq_true rfl) (fun o10 => ?_)
    exact VO_ireturn d_AC_person_16
  · refine VO_iload hC d_AC_person_17 2 rfl ?_
    refine VO_ite (fun c18_0 => ?_) (fun c18_0 => ?_)
    · refine VO_tin (tgt := 60) (off := (42 : Int)) hC d_AC_person_18 (by rw [c18_0]; decide) (by rw [c18_0]; decide) (by first | (rw [c18_0]; done) | (rw [c18_0]; rfl)) (by decide) ?_
      refine VO_aload hC d_AC_person_60 0 rfl ?_
      refine VO_getr (r := 1) hC fl_AC_10 sh_AC rfl d_AC_person_61 ?_
      refine VO_getr (r := 4) hC fl_AC_132 (sh_NI isNI_1) rfl d_AC_person_64 ?_
      refine VO_iload hC d_AC_person_67 1 rfl ?_
      refine VO_callSI hC [.ref (gad G 4), .int a1] [] ml_AC_122 d_AC_person_68 ys_AC_at (fun o h => M_AC_at hC.inj ia_4 h) (by decide) rfl rfl (Nat.le_of_ble_eq_true rfl) (fun o2 => ?_)
      exact VO_ireturn d_AC_person_71
    refine VO_ite (fun c18_1 => ?_) (fun c18_1 => ?_)
    · refine VO_tin (tgt := 72) (off := (54 : Int)) hC d_AC_person_18 (by rw [c18_1]; decide) (by rw [c18_1]; decide) (by first | (rw [c18_1]; done) | (rw [c18_1]; rfl)) (by decide) ?_
      refine VO_aload hC d_AC_person_72 0 rfl ?_
      refine VO_getr (r := 1) hC fl_AC_10 sh_AC rfl d_AC_person_73 ?_
      refine VO_getr (r := 5) hC fl_AC_135 (sh_NI isNI_1) rfl d_AC_person_76 ?_
      refine VO_iload hC d_AC_person_79 1 rfl ?_
      refine VO_callSI hC [.ref (gad G 5), .int a1] [] ml_AC_122 d_AC_person_80 ys_AC_at (fun o h => M_AC_at hC.inj ia_5 h) (by decide) rfl rfl (Nat.le_of_ble_eq_true rfl) (fun o3 => ?_)
      exact VO_ireturn d_AC_person_83
    refine VO_ite (fun c18_2 => ?_) (fun c18_2 => ?_)
    · refine VO_tin (tgt := 84) (off := (66 : Int)) hC d_AC_person_18 (by rw [c18_2]; decide) (by rw [c18_2]; decide) (by first | (rw [c18_2]; done) | (rw [c18_2]; rfl)) (by decide) ?_
      refine VO_aload hC d_AC_person_84 0 rfl ?_
      refine VO_getr (r := 1) hC fl_AC_10 sh_AC rfl d_AC_person_85 ?_
      refine VO_getr (r := 6) hC fl_AC_138 (sh_NI isNI_1) rfl d_AC_person_88 ?_
      refine VO_iload hC d_AC_person_91 1 rfl ?_
      refine VO_callSI hC [.ref (gad G 6), .int a1] [] ml_AC_122 d_AC_person_92 ys_AC_at (fun o h => M_AC_at hC.inj ia_6 h) (by decide) rfl rfl (Nat.le_of_ble_eq_true rfl) (fun o4 => ?_)
      exact VO_ireturn d_AC_person_95
    refine VO_ite (fun c18_3 => ?_) (fun c18_3 => ?_)
    · refine VO_tin (tgt := 96) (off := (78 : Int)) hC d_AC_person_18 (by rw [c18_3]; decide) (by rw [c18_3]; decide) (by first | (rw [c18_3]; done) | (rw [c18_3]; rfl)) (by decide) ?_
      refine VO_aload hC d_AC_person_96 0 rfl ?_
      refine VO_getr (r := 1) hC fl_AC_10 sh_AC rfl d_AC_person_97 ?_
      refine VO_getr (r := 7) hC fl_AC_141 (sh_NI isNI_1) rfl d_AC_person_100 ?_
      refine VO_iload hC d_AC_person_103 1 rfl ?_
      refine VO_callSI hC [.ref (gad G 7), .int a1] [] ml_AC_122 d_AC_person_104 ys_AC_at (fun o h => M_AC_at hC.inj ia_7 h) (by decide) rfl rfl (Nat.le_of_ble_eq_true rfl) (fun o5 => ?_)
      exact VO_ireturn d_AC_person_107
    refine VO_ite (fun c18_4 => ?_) (fun c18_4 => ?_)
    · refine VO_tin (tgt := 108) (off := (90 : Int)) hC d_AC_person_18 (by rw [c18_4]; decide) (by rw [c18_4]; decide) (by first | (rw [c18_4]; done) | (rw [c18_4]; rfl)) (by decide) ?_
      refine VO_aload hC d_AC_person_108 0 rfl ?_
      refine VO_getr (r := 1) hC fl_AC_10 sh_AC rfl d_AC_person_109 ?_
      refine VO_iload hC d_AC_person_112 1 rfl ?_
      refine VO_callVI hC [.int a1] [] ml_AC_144 d_AC_person_113 yv_NI_placeOf (sh_NI isNI_1) rfl rfl (fun o h => M_NI_placeOf hC.inj isNI_1 h) (by decide) rfl rfl (Nat.le_of_ble_eq_true rfl) (fun o6 => ?_)
      exact VO_ireturn d_AC_person_116
    refine VO_ite (fun c18_5 => ?_) (fun c18_5 => ?_)
    · refine VO_tin (tgt := 117) (off := (99 : Int)) hC d_AC_person_18 (by rw [c18_5]; decide) (by rw [c18_5]; decide) (by first | (rw [c18_5]; done) | (rw [c18_5]; rfl)) (by decide) ?_
      refine VO_aload hC d_AC_person_117 0 rfl ?_
      refine VO_getr (r := 1) hC fl_AC_10 sh_AC rfl d_AC_person_118 ?_
      refine VO_getr (r := 8) hC fl_AC_147 (sh_NI isNI_1) rfl d_AC_person_121 ?_
      refine VO_iload hC d_AC_person_124 1 rfl ?_
      refine VO_callSI hC [.ref (gad G 8), .int a1] [] ml_AC_122 d_AC_person_125 ys_AC_at (fun o h => M_AC_at hC.inj ia_8 h) (by decide) rfl rfl (Nat.le_of_ble_eq_true rfl) (fun o7 => ?_)
      exact VO_ireturn d_AC_person_128
    refine VO_ite (fun c18_6 => ?_) (fun c18_6 => ?_)
    · refine VO_tin (tgt := 129) (off := (111 : Int)) hC d_AC_person_18 (by rw [c18_6]; decide) (by rw [c18_6]; decide) (by first | (rw [c18_6]; done) | (rw [c18_6]; rfl)) (by decide) ?_
      refine VO_aload hC d_AC_person_129 0 rfl ?_
      refine VO_getr (r := 1) hC fl_AC_10 sh_AC rfl d_AC_person_130 ?_
      refine VO_iload hC d_AC_person_133 1 rfl ?_
      refine VO_callVI hC [.int a1] [] ml_AC_150 d_AC_person_134 yv_NI_mayBits (sh_NI isNI_1) rfl rfl (fun o h => M_NI_mayBits hC.inj isNI_1 h) (by decide) rfl rfl (Nat.le_of_ble_eq_true rfl) (fun o8 => ?_)
      exact VO_ireturn d_AC_person_137
    refine VO_tout (tgt := 138) hC d_AC_person_18 (by have e0 := lv_neT (a := 0) c18_0 rfl; have e1 := lv_neT (a := 1) c18_1 rfl; have e2 := lv_neT (a := 2) c18_2 rfl; have e3 := lv_neT (a := 3) c18_3 rfl; have e4 := lv_neT (a := 4) c18_4 rfl; have e5 := lv_neT (a := 5) c18_5 rfl; have e6 := lv_neT (a := 6) c18_6 rfl; omega) (by decide) ?_
    refine VO_aload hC d_AC_person_138 0 rfl ?_
    refine VO_const hC d_AC_person_139 ?_
    refine VO_callVI hC [.int (-2 : Int32)] [] ml_AC_90 d_AC_person_141 yv_AC_refuse sh_AC rfl rfl (fun o h => M_AC_refuse hC.inj h) (by decide) rfl rfl (Nat.le_of_ble_eq_true rfl) (fun o9 => ?_)
    exact VO_ireturn d_AC_person_144
set_option maxRecDepth 20000 in
theorem M_AC_person {l : Launch} {D : va_G} {ad : Nat → Nat} {cI cL : ClassId} (hj : Inj ad) {a1 : Int32} {a2 : Int32} {s : St} {o : Int32 × St} (h : F_AC_person a1 a2 s = some o) : Cn l D ad cI cL y_AC_person b_AC_person 3 (some .int) 5 [.ref (ad 0), .int a1, .int a2] s (some (.int o.1)) o.2 := by
  refine Cn_ofI hj (plainFor_of_name (by decide)) (Nat.le_of_ble_eq_true rfl) [(0, .ref (ad 0)), (1, .int a1), (2, .int a2)] rfl (fun G hC e1 e2 e3 e4 e5 hR => ?_)
  subst e1; subst e2; subst e3; subst e4; subst e5
  exact B_AC_person hC a1 a2 s o h hR
theorem d_AC_months_0 : PLa b_AC_months 0 0 1 := Or.inl ⟨0, by decide +kernel, rfl, rfl⟩
theorem d_AC_months_1 : DR b_AC_months 1 (.getfield 10) 3 4 := ⟨by decide +kernel, rfl⟩
theorem d_AC_months_4 : PLi b_AC_months 4 1 5 := Or.inl ⟨1, by decide +kernel, rfl, rfl⟩
theorem d_AC_months_5 : DR b_AC_months 5 (.invokevirtual 129) 3 8 := ⟨by decide +kernel, rfl⟩
theorem d_AC_months_8 : DJ b_AC_months 8 (.ifCond .eq) 11 22 := ⟨14, by decide +kernel, rfl, by decide⟩
theorem d_AC_months_11 : PLa b_AC_months 11 0 12 := Or.inl ⟨0, by decide +kernel, rfl, rfl⟩
theorem d_AC_months_12 : DR b_AC_months 12 (.getfield 10) 3 15 := ⟨by decide +kernel, rfl⟩
theorem d_AC_months_15 : PLi b_AC_months 15 2 16 := Or.inl ⟨2, by decide +kernel, rfl, rfl⟩
theorem d_AC_months_16 : DR b_AC_months 16 (.invokevirtual 115) 3 19 := ⟨by decide +kernel, rfl⟩
theorem d_AC_months_19 : DJ b_AC_months 19 (.ifCond .ne) 22 28 := ⟨9, by decide +kernel, rfl, by decide⟩
theorem d_AC_months_22 : PLa b_AC_months 22 0 23 := Or.inl ⟨0, by decide +kernel, rfl, rfl⟩
theorem d_AC_months_23 : PCi b_AC_months 23 (-1) 24 := Or.inl ⟨(-1), by decide +kernel, by decide, rfl⟩
theorem d_AC_months_24 : DR b_AC_months 24 (.invokevirtual 90) 3 27 := ⟨by decide +kernel, rfl⟩
theorem d_AC_months_27 : DR b_AC_months 27 (.ireturn) 1 28 := ⟨by decide +kernel, rfl⟩
theorem d_AC_months_28 : PLa b_AC_months 28 0 29 := Or.inl ⟨0, by decide +kernel, rfl, rfl⟩
theorem d_AC_months_29 : DR b_AC_months 29 (.getfield 10) 3 32 := ⟨by decide +kernel, rfl⟩
theorem d_AC_months_32 : PLi b_AC_months 32 1 33 := Or.inl ⟨1, by decide +kernel, rfl, rfl⟩
theorem d_AC_months_33 : PLi b_AC_months 33 2 34 := Or.inl ⟨2, by decide +kernel, rfl, rfl⟩
theorem d_AC_months_34 : DR b_AC_months 34 (.invokevirtual 153) 3 37 := ⟨by decide +kernel, rfl⟩
theorem d_AC_months_37 : DR b_AC_months 37 (.ireturn) 1 38 := ⟨by decide +kernel, rfl⟩
set_option maxRecDepth 20000 in
theorem B_AC_months_22 {G : MCx} (hC : C0 G "AccusedChoose" b_AC_months 3 4) (s : St) : VO G (RI G b_AC_months) (F_AC_months_22 s) 22 [(0, .ref (gad G 0))] [] s := by
  unfold F_AC_months_22
  refine VO_aload hC d_AC_months_22 0 rfl ?_
  refine VO_const hC d_AC_months_23 ?_
  refine VO_callVI hC [.int (-1 : Int32)] [] ml_AC_90 d_AC_months_24 yv_AC_refuse sh_AC rfl rfl (fun o h => M_AC_refuse hC.inj h) (by decide) rfl rfl (Nat.le_of_ble_eq_true rfl) (fun o2 => ?_)
  exact VO_ireturn d_AC_months_27
set_option maxRecDepth 20000 in
theorem B_AC_months {G : MCx} (hC : C0 G "AccusedChoose" b_AC_months 3 4) (a1 : Int32) (a2 : Int32) (s : St) : VO G (RI G b_AC_months) (F_AC_months a1 a2 s) 0 [(0, .ref (gad G 0)), (1, .int a1), (2, .int a2)] [] s := by
  unfold F_AC_months
  refine VO_aload hC d_AC_months_0 0 rfl ?_
  refine VO_getr (r := 1) hC fl_AC_10 sh_AC rfl d_AC_months_1 ?_
  refine VO_iload hC d_AC_months_4 1 rfl ?_
  refine VO_callVI hC [.int a1] [] ml_AC_129 d_AC_months_5 yv_NI_hasPerson (sh_NI isNI_1) rfl rfl (fun o h => M_NI_hasPerson hC.inj isNI_1 h) (by decide) rfl rfl (Nat.le_of_ble_eq_true rfl) (fun o1 => ?_)
  refine VO_if_eq hC d_AC_months_8 (fun _ => ?_) (fun _ => ?_)
  · exact VO_sub [0] rfl (B_AC_months_22 hC o1.2)
  · refine VO_aload hC d_AC_months_11 0 rfl ?_
    refine VO_getr (r := 1) hC fl_AC_10 sh_AC rfl d_AC_months_12 ?_
    refine VO_iload hC d_AC_months_15 2 rfl ?_
    refine VO_callVI hC [.int a2] [] ml_AC_115 d_AC_months_16 yv_NI_hasDeed (sh_NI isNI_1) rfl rfl (fun o h => M_NI_hasDeed hC.inj isNI_1 h) (by decide) rfl rfl (Nat.le_of_ble_eq_true rfl) (fun o3 => ?_)
    refine VO_if_ne hC d_AC_months_19 (fun _ => ?_) (fun _ => ?_)
    · exact VO_sub [0] rfl (B_AC_months_22 hC o3.2)
    · refine VO_aload hC d_AC_months_28 0 rfl ?_
      refine VO_getr (r := 1) hC fl_AC_10 sh_AC rfl d_AC_months_29 ?_
      refine VO_iload hC d_AC_months_32 1 rfl ?_
      refine VO_iload hC d_AC_months_33 2 rfl ?_
      refine VO_callVI hC [.int a1, .int a2] [] ml_AC_153 d_AC_months_34 yv_NI_monthsFor (sh_NI isNI_1) rfl rfl (fun o h => M_NI_monthsFor hC.inj isNI_1 h) (by decide) rfl rfl (Nat.le_of_ble_eq_true rfl) (fun o4 => ?_)
      exact VO_ireturn d_AC_months_37
set_option maxRecDepth 20000 in
theorem M_AC_months {l : Launch} {D : va_G} {ad : Nat → Nat} {cI cL : ClassId} (hj : Inj ad) {a1 : Int32} {a2 : Int32} {s : St} {o : Int32 × St} (h : F_AC_months a1 a2 s = some o) : Cn l D ad cI cL y_AC_months b_AC_months 3 (some .int) 4 [.ref (ad 0), .int a1, .int a2] s (some (.int o.1)) o.2 := by
  refine Cn_ofI hj (plainFor_of_name (by decide)) (Nat.le_of_ble_eq_true rfl) [(0, .ref (ad 0)), (1, .int a1), (2, .int a2)] rfl (fun G hC e1 e2 e3 e4 e5 hR => ?_)
  subst e1; subst e2; subst e3; subst e4; subst e5
  exact B_AC_months hC a1 a2 s o h hR
theorem d_AC_addDeed_0 : PLi b_AC_addDeed 0 1 1 := Or.inl ⟨1, by decide +kernel, rfl, rfl⟩
theorem d_AC_addDeed_1 : DJ b_AC_addDeed 1 (.ifCond .lt) 4 10 := ⟨9, by decide +kernel, rfl, by decide⟩
theorem d_AC_addDeed_4 : PLi b_AC_addDeed 4 1 5 := Or.inl ⟨1, by decide +kernel, rfl, rfl⟩
theorem d_AC_addDeed_5 : PCi b_AC_addDeed 5 6 7 := Or.inr (Or.inl ⟨6, by decide +kernel, by decide, rfl⟩)
theorem d_AC_addDeed_7 : DJ b_AC_addDeed 7 (.if_icmp .lt) 10 17 := ⟨10, by decide +kernel, rfl, by decide⟩
theorem d_AC_addDeed_10 : PLa b_AC_addDeed 10 0 11 := Or.inl ⟨0, by decide +kernel, rfl, rfl⟩
theorem d_AC_addDeed_11 : PCi b_AC_addDeed 11 (-2) 13 := Or.inr (Or.inl ⟨(-2), by decide +kernel, by decide, rfl⟩)
theorem d_AC_addDeed_13 : DR b_AC_addDeed 13 (.invokevirtual 90) 3 16 := ⟨by decide +kernel, rfl⟩
theorem d_AC_addDeed_16 : DR b_AC_addDeed 16 (.ireturn) 1 17 := ⟨by decide +kernel, rfl⟩
theorem d_AC_addDeed_17 : PLi b_AC_addDeed 17 2 18 := Or.inl ⟨2, by decide +kernel, rfl, rfl⟩
theorem d_AC_addDeed_18 : DJ b_AC_addDeed 18 (.ifCond .ge) 21 28 := ⟨10, by decide +kernel, rfl, by decide⟩
theorem d_AC_addDeed_21 : PLa b_AC_addDeed 21 0 22 := Or.inl ⟨0, by decide +kernel, rfl, rfl⟩
theorem d_AC_addDeed_22 : PCi b_AC_addDeed 22 (-4) 24 := Or.inr (Or.inl ⟨(-4), by decide +kernel, by decide, rfl⟩)
theorem d_AC_addDeed_24 : DR b_AC_addDeed 24 (.invokevirtual 90) 3 27 := ⟨by decide +kernel, rfl⟩
theorem d_AC_addDeed_27 : DR b_AC_addDeed 27 (.ireturn) 1 28 := ⟨by decide +kernel, rfl⟩
theorem d_AC_addDeed_28 : PLi b_AC_addDeed 28 2 29 := Or.inl ⟨2, by decide +kernel, rfl, rfl⟩
theorem d_AC_addDeed_29 : PCi b_AC_addDeed 29 9 31 := Or.inr (Or.inl ⟨9, by decide +kernel, by decide, rfl⟩)
theorem d_AC_addDeed_31 : DJ b_AC_addDeed 31 (.if_icmp .gt) 34 46 := ⟨15, by decide +kernel, rfl, by decide⟩
theorem d_AC_addDeed_34 : PLa b_AC_addDeed 34 0 35 := Or.inl ⟨0, by decide +kernel, rfl, rfl⟩
theorem d_AC_addDeed_35 : DR b_AC_addDeed 35 (.getfield 10) 3 38 := ⟨by decide +kernel, rfl⟩
theorem d_AC_addDeed_38 : DR b_AC_addDeed 38 (.getfield 157) 3 41 := ⟨by decide +kernel, rfl⟩
theorem d_AC_addDeed_41 : PCi b_AC_addDeed 41 7 43 := Or.inr (Or.inl ⟨7, by decide +kernel, by decide, rfl⟩)
theorem d_AC_addDeed_43 : DJ b_AC_addDeed 43 (.if_icmp .lt) 46 53 := ⟨10, by decide +kernel, rfl, by decide⟩
theorem d_AC_addDeed_46 : PLa b_AC_addDeed 46 0 47 := Or.inl ⟨0, by decide +kernel, rfl, rfl⟩
theorem d_AC_addDeed_47 : PCi b_AC_addDeed 47 (-6) 49 := Or.inr (Or.inl ⟨(-6), by decide +kernel, by decide, rfl⟩)
theorem d_AC_addDeed_49 : DR b_AC_addDeed 49 (.invokevirtual 90) 3 52 := ⟨by decide +kernel, rfl⟩
theorem d_AC_addDeed_52 : DR b_AC_addDeed 52 (.ireturn) 1 53 := ⟨by decide +kernel, rfl⟩
theorem d_AC_addDeed_53 : PLa b_AC_addDeed 53 0 54 := Or.inl ⟨0, by decide +kernel, rfl, rfl⟩
theorem d_AC_addDeed_54 : DR b_AC_addDeed 54 (.getfield 25) 3 57 := ⟨by decide +kernel, rfl⟩
theorem d_AC_addDeed_57 : DR b_AC_addDeed 57 (.invokevirtual 112) 3 60 := ⟨by decide +kernel, rfl⟩
theorem d_AC_addDeed_60 : PLa b_AC_addDeed 60 0 61 := Or.inl ⟨0, by decide +kernel, rfl, rfl⟩
theorem d_AC_addDeed_61 : DR b_AC_addDeed 61 (.getfield 10) 3 64 := ⟨by decide +kernel, rfl⟩
theorem d_AC_addDeed_64 : PLi b_AC_addDeed 64 1 65 := Or.inl ⟨1, by decide +kernel, rfl, rfl⟩
theorem d_AC_addDeed_65 : PLi b_AC_addDeed 65 2 66 := Or.inl ⟨2, by decide +kernel, rfl, rfl⟩
theorem d_AC_addDeed_66 : DR b_AC_addDeed 66 (.invokevirtual 161) 3 69 := ⟨by decide +kernel, rfl⟩
theorem d_AC_addDeed_69 : DR b_AC_addDeed 69 (.ireturn) 1 70 := ⟨by decide +kernel, rfl⟩
set_option maxRecDepth 20000 in
theorem B_AC_addDeed_10 {G : MCx} (hC : C0 G "AccusedChoose" b_AC_addDeed 3 3) (s : St) : VO G (RI G b_AC_addDeed) (F_AC_addDeed_10 s) 10 [(0, .ref (gad G 0))] [] s := by
  unfold F_AC_addDeed_10
  refine VO_aload hC d_AC_addDeed_10 0 rfl ?_
  refine VO_const hC d_AC_addDeed_11 ?_
  refine VO_callVI hC [.int (-2 : Int32)] [] ml_AC_90 d_AC_addDeed_13 yv_AC_refuse sh_AC rfl rfl (fun o h => M_AC_refuse hC.inj h) (by decide) rfl rfl (Nat.le_of_ble_eq_true rfl) (fun o1 => ?_)
  exact VO_ireturn d_AC_addDeed_16
set_option maxRecDepth 20000 in
theorem B_AC_addDeed_46 {G : MCx} (hC : C0 G "AccusedChoose" b_AC_addDeed 3 3) (s : St) : VO G (RI G b_AC_addDeed) (F_AC_addDeed_46 s) 46 [(0, .ref (gad G 0))] [] s := by
  unfold F_AC_addDeed_46
  refine VO_aload hC d_AC_addDeed_46 0 rfl ?_
  refine VO_const hC d_AC_addDeed_47 ?_
  refine VO_callVI hC [.int (-6 : Int32)] [] ml_AC_90 d_AC_addDeed_49 yv_AC_refuse sh_AC rfl rfl (fun o h => M_AC_refuse hC.inj h) (by decide) rfl rfl (Nat.le_of_ble_eq_true rfl) (fun o2 => ?_)
  exact VO_ireturn d_AC_addDeed_52
set_option maxRecDepth 20000 in
theorem B_AC_addDeed {G : MCx} (hC : C0 G "AccusedChoose" b_AC_addDeed 3 3) (a1 : Int32) (a2 : Int32) (s : St) : VO G (RI G b_AC_addDeed) (F_AC_addDeed a1 a2 s) 0 [(0, .ref (gad G 0)), (1, .int a1), (2, .int a2)] [] s := by
  unfold F_AC_addDeed
  refine VO_iload hC d_AC_addDeed_0 1 rfl ?_
  refine VO_if_lt hC d_AC_addDeed_1 (fun _ => ?_) (fun _ => ?_)
  · exact VO_sub [0] rfl (B_AC_addDeed_10 hC s)
  · refine VO_iload hC d_AC_addDeed_4 1 rfl ?_
    refine VO_const hC d_AC_addDeed_5 ?_
    refine VO_icmp_lt hC d_AC_addDeed_7 (fun _ => ?_) (fun _ => ?_)
    · refine VO_iload hC d_AC_addDeed_17 2 rfl ?_
      refine VO_if_ge hC d_AC_addDeed_18 (fun _ => ?_) (fun _ => ?_)
      · refine VO_iload hC d_AC_addDeed_28 2 rfl ?_
        refine VO_const hC d_AC_addDeed_29 ?_
        refine VO_icmp_gt hC d_AC_addDeed_31 (fun _ => ?_) (fun _ => ?_)
        · exact VO_sub [0] rfl (B_AC_addDeed_46 hC s)
        · refine VO_aload hC d_AC_addDeed_34 0 rfl ?_
          refine VO_getr (r := 1) hC fl_AC_10 sh_AC rfl d_AC_addDeed_35 ?_
          refine VO_geti hC fl_AC_157 (sh_NI isNI_1) rfl d_AC_addDeed_38 ?_
          refine VO_const hC d_AC_addDeed_41 ?_
          refine VO_icmp_lt hC d_AC_addDeed_43 (fun _ => ?_) (fun _ => ?_)
          · refine VO_aload hC d_AC_addDeed_53 0 rfl ?_
            refine VO_getr (r := 28) hC fl_AC_25 sh_AC rfl d_AC_addDeed_54 ?_
            refine VO_callVV hC [] [] ml_AC_112 d_AC_addDeed_57 yv_PA_forget sh_PA rfl rfl (fun o h => M_PA_forget hC.inj h) (by decide) rfl rfl (Nat.le_of_ble_eq_true rfl) (fun s3 => ?_)
            refine VO_aload hC d_AC_addDeed_60 0 rfl ?_
            refine VO_getr (r := 1) hC fl_AC_10 sh_AC rfl d_AC_addDeed_61 ?_
            refine VO_iload hC d_AC_addDeed_64 1 rfl ?_
            refine VO_iload hC d_AC_addDeed_65 2 rfl ?_
            refine VO_callVI hC [.int a1, .int a2] [] ml_AC_161 d_AC_addDeed_66 yv_NI_putDeed (sh_NI isNI_1) rfl rfl (fun o h => M_NI_putDeed hC.inj isNI_1 h) (by decide) rfl rfl (Nat.le_of_ble_eq_true rfl) (fun o4 => ?_)
            exact VO_ireturn d_AC_addDeed_69
          · exact VO_sub [0] rfl (B_AC_addDeed_46 hC s)
      · refine VO_aload hC d_AC_addDeed_21 0 rfl ?_
        refine VO_const hC d_AC_addDeed_22 ?_
        refine VO_callVI hC [.int (-4 : Int32)] [] ml_AC_90 d_AC_addDeed_24 yv_AC_refuse sh_AC rfl rfl (fun o h => M_AC_refuse hC.inj h) (by decide) rfl rfl (Nat.le_of_ble_eq_true rfl) (fun o5 => ?_)
        exact VO_ireturn d_AC_addDeed_27
    · exact VO_sub [0] rfl (B_AC_addDeed_10 hC s)
set_option maxRecDepth 20000 in
theorem M_AC_addDeed {l : Launch} {D : va_G} {ad : Nat → Nat} {cI cL : ClassId} (hj : Inj ad) {a1 : Int32} {a2 : Int32} {s : St} {o : Int32 × St} (h : F_AC_addDeed a1 a2 s = some o) : Cn l D ad cI cL y_AC_addDeed b_AC_addDeed 3 (some .int) 3 [.ref (ad 0), .int a1, .int a2] s (some (.int o.1)) o.2 := by
  refine Cn_ofI hj (plainFor_of_name (by decide)) (Nat.le_of_ble_eq_true rfl) [(0, .ref (ad 0)), (1, .int a1), (2, .int a2)] rfl (fun G hC e1 e2 e3 e4 e5 hR => ?_)
  subst e1; subst e2; subst e3; subst e4; subst e5
  exact B_AC_addDeed hC a1 a2 s o h hR
theorem d_AC_addPerson_0 : PLi b_AC_addPerson 0 1 1 := Or.inl ⟨1, by decide +kernel, rfl, rfl⟩
theorem d_AC_addPerson_1 : DJ b_AC_addPerson 1 (.ifCond .lt) 4 12 := ⟨11, by decide +kernel, rfl, by decide⟩
theorem d_AC_addPerson_4 : PLi b_AC_addPerson 4 2 5 := Or.inl ⟨2, by decide +kernel, rfl, rfl⟩
theorem d_AC_addPerson_5 : DJ b_AC_addPerson 5 (.ifCond .lt) 8 12 := ⟨7, by decide +kernel, rfl, by decide⟩
theorem d_AC_addPerson_8 : PLi b_AC_addPerson 8 3 9 := Or.inl ⟨3, by decide +kernel, rfl, rfl⟩
theorem d_AC_addPerson_9 : DJ b_AC_addPerson 9 (.ifCond .ge) 12 19 := ⟨10, by decide +kernel, rfl, by decide⟩
theorem d_AC_addPerson_12 : PLa b_AC_addPerson 12 0 13 := Or.inl ⟨0, by decide +kernel, rfl, rfl⟩
theorem d_AC_addPerson_13 : PCi b_AC_addPerson 13 (-4) 15 := Or.inr (Or.inl ⟨(-4), by decide +kernel, by decide, rfl⟩)
theorem d_AC_addPerson_15 : DR b_AC_addPerson 15 (.invokevirtual 90) 3 18 := ⟨by decide +kernel, rfl⟩
theorem d_AC_addPerson_18 : DR b_AC_addPerson 18 (.ireturn) 1 19 := ⟨by decide +kernel, rfl⟩
theorem d_AC_addPerson_19 : PLi b_AC_addPerson 19 1 20 := Or.inl ⟨1, by decide +kernel, rfl, rfl⟩
theorem d_AC_addPerson_20 : PCi b_AC_addPerson 20 9 22 := Or.inr (Or.inl ⟨9, by decide +kernel, by decide, rfl⟩)
theorem d_AC_addPerson_22 : DJ b_AC_addPerson 22 (.if_icmp .gt) 25 50 := ⟨28, by decide +kernel, rfl, by decide⟩
theorem d_AC_addPerson_25 : PLi b_AC_addPerson 25 2 26 := Or.inl ⟨2, by decide +kernel, rfl, rfl⟩
theorem d_AC_addPerson_26 : PCi b_AC_addPerson 26 128 29 := Or.inr (Or.inr ⟨128, by decide +kernel, by decide, rfl⟩)
theorem d_AC_addPerson_29 : DJ b_AC_addPerson 29 (.if_icmp .ge) 32 50 := ⟨21, by decide +kernel, rfl, by decide⟩
theorem d_AC_addPerson_32 : PLi b_AC_addPerson 32 3 33 := Or.inl ⟨3, by decide +kernel, rfl, rfl⟩
theorem d_AC_addPerson_33 : PCi b_AC_addPerson 33 7 35 := Or.inr (Or.inl ⟨7, by decide +kernel, by decide, rfl⟩)
theorem d_AC_addPerson_35 : DJ b_AC_addPerson 35 (.if_icmp .gt) 38 50 := ⟨15, by decide +kernel, rfl, by decide⟩
theorem d_AC_addPerson_38 : PLa b_AC_addPerson 38 0 39 := Or.inl ⟨0, by decide +kernel, rfl, rfl⟩
theorem d_AC_addPerson_39 : DR b_AC_addPerson 39 (.getfield 10) 3 42 := ⟨by decide +kernel, rfl⟩
theorem d_AC_addPerson_42 : DR b_AC_addPerson 42 (.getfield 164) 3 45 := ⟨by decide +kernel, rfl⟩
theorem d_AC_addPerson_45 : PCi b_AC_addPerson 45 7 47 := Or.inr (Or.inl ⟨7, by decide +kernel, by decide, rfl⟩)
theorem d_AC_addPerson_47 : DJ b_AC_addPerson 47 (.if_icmp .lt) 50 57 := ⟨10, by decide +kernel, rfl, by decide⟩
theorem d_AC_addPerson_50 : PLa b_AC_addPerson 50 0 51 := Or.inl ⟨0, by decide +kernel, rfl, rfl⟩
theorem d_AC_addPerson_51 : PCi b_AC_addPerson 51 (-6) 53 := Or.inr (Or.inl ⟨(-6), by decide +kernel, by decide, rfl⟩)
theorem d_AC_addPerson_53 : DR b_AC_addPerson 53 (.invokevirtual 90) 3 56 := ⟨by decide +kernel, rfl⟩
theorem d_AC_addPerson_56 : DR b_AC_addPerson 56 (.ireturn) 1 57 := ⟨by decide +kernel, rfl⟩
theorem d_AC_addPerson_57 : PLa b_AC_addPerson 57 0 58 := Or.inl ⟨0, by decide +kernel, rfl, rfl⟩
theorem d_AC_addPerson_58 : DR b_AC_addPerson 58 (.getfield 25) 3 61 := ⟨by decide +kernel, rfl⟩
theorem d_AC_addPerson_61 : DR b_AC_addPerson 61 (.invokevirtual 112) 3 64 := ⟨by decide +kernel, rfl⟩
theorem d_AC_addPerson_64 : PLa b_AC_addPerson 64 0 65 := Or.inl ⟨0, by decide +kernel, rfl, rfl⟩
theorem d_AC_addPerson_65 : DR b_AC_addPerson 65 (.getfield 10) 3 68 := ⟨by decide +kernel, rfl⟩
theorem d_AC_addPerson_68 : PLi b_AC_addPerson 68 1 69 := Or.inl ⟨1, by decide +kernel, rfl, rfl⟩
theorem d_AC_addPerson_69 : PLi b_AC_addPerson 69 2 70 := Or.inl ⟨2, by decide +kernel, rfl, rfl⟩
theorem d_AC_addPerson_70 : PLi b_AC_addPerson 70 3 71 := Or.inl ⟨3, by decide +kernel, rfl, rfl⟩
theorem d_AC_addPerson_71 : DR b_AC_addPerson 71 (.invokevirtual 167) 3 74 := ⟨by decide +kernel, rfl⟩
theorem d_AC_addPerson_74 : DR b_AC_addPerson 74 (.ireturn) 1 75 := ⟨by decide +kernel, rfl⟩
set_option maxRecDepth 20000 in
theorem B_AC_addPerson_12 {G : MCx} (hC : C0 G "AccusedChoose" b_AC_addPerson 4 3) (s : St) : VO G (RI G b_AC_addPerson) (F_AC_addPerson_12 s) 12 [(0, .ref (gad G 0))] [] s := by
  unfold F_AC_addPerson_12
  refine VO_aload hC d_AC_addPerson_12 0 rfl ?_
  refine VO_const hC d_AC_addPerson_13 ?_
  refine VO_callVI hC [.int (-4 : Int32)] [] ml_AC_90 d_AC_addPerson_15 yv_AC_refuse sh_AC rfl rfl (fun o h => M_AC_refuse hC.inj h) (by decide) rfl rfl (Nat.le_of_ble_eq_true rfl) (fun o1 => ?_)
  exact VO_ireturn d_AC_addPerson_18
set_option maxRecDepth 20000 in
theorem B_AC_addPerson_50 {G : MCx} (hC : C0 G "AccusedChoose" b_AC_addPerson 4 3) (s : St) : VO G (RI G b_AC_addPerson) (F_AC_addPerson_50 s) 50 [(0, .ref (gad G 0))] [] s := by
  unfold F_AC_addPerson_50
  refine VO_aload hC d_AC_addPerson_50 0 rfl ?_
  refine VO_const hC d_AC_addPerson_51 ?_
  refine VO_callVI hC [.int (-6 : Int32)] [] ml_AC_90 d_AC_addPerson_53 yv_AC_refuse sh_AC rfl rfl (fun o h => M_AC_refuse hC.inj h) (by decide) rfl rfl (Nat.le_of_ble_eq_true rfl) (fun o2 => ?_)
  exact VO_ireturn d_AC_addPerson_56
set_option maxRecDepth 20000 in
theorem B_AC_addPerson {G : MCx} (hC : C0 G "AccusedChoose" b_AC_addPerson 4 3) (a1 : Int32) (a2 : Int32) (a3 : Int32) (s : St) : VO G (RI G b_AC_addPerson) (F_AC_addPerson a1 a2 a3 s) 0 [(0, .ref (gad G 0)), (1, .int a1), (2, .int a2), (3, .int a3)] [] s := by
  unfold F_AC_addPerson
  refine VO_iload hC d_AC_addPerson_0 1 rfl ?_
  refine VO_if_lt hC d_AC_addPerson_1 (fun _ => ?_) (fun _ => ?_)
  · exact VO_sub [0] rfl (B_AC_addPerson_12 hC s)
  · refine VO_iload hC d_AC_addPerson_4 2 rfl ?_
    refine VO_if_lt hC d_AC_addPerson_5 (fun _ => ?_) (fun _ => ?_)
    · exact VO_sub [0] rfl (B_AC_addPerson_12 hC s)
    · refine VO_iload hC d_AC_addPerson_8 3 rfl ?_
      refine VO_if_ge hC d_AC_addPerson_9 (fun _ => ?_) (fun _ => ?_)
      · refine VO_iload hC d_AC_addPerson_19 1 rfl ?_
        refine VO_const hC d_AC_addPerson_20 ?_
        refine VO_icmp_gt hC d_AC_addPerson_22 (fun _ => ?_) (fun _ => ?_)
        · exact VO_sub [0] rfl (B_AC_addPerson_50 hC s)
        · refine VO_iload hC d_AC_addPerson_25 2 rfl ?_
          refine VO_const hC d_AC_addPerson_26 ?_
          refine VO_icmp_ge hC d_AC_addPerson_29 (fun _ => ?_) (fun _ => ?_)
          · exact VO_sub [0] rfl (B_AC_addPerson_50 hC s)
          · refine VO_iload hC d_AC_addPerson_32 3 rfl ?_
            refine VO_const hC d_AC_addPerson_33 ?_
            refine VO_icmp_gt hC d_AC_addPerson_35 (fun _ => ?_) (fun _ => ?_)
            · exact VO_sub [0] rfl (B_AC_addPerson_50 hC s)
            · refine VO_aload hC d_AC_addPerson_38 0 rfl ?_
              refine VO_getr (r := 1) hC fl_AC_10 sh_AC rfl d_AC_addPerson_39 ?_
              refine VO_geti hC fl_AC_164 (sh_NI isNI_1) rfl d_AC_addPerson_42 ?_
              refine VO_const hC d_AC_addPerson_45 ?_
              refine VO_icmp_lt hC d_AC_addPerson_47 (fun _ => ?_) (fun _ => ?_)
              · refine VO_aload hC d_AC_addPerson_57 0 rfl ?_
                refine VO_getr (r := 28) hC fl_AC_25 sh_AC rfl d_AC_addPerson_58 ?_
                refine VO_callVV hC [] [] ml_AC_112 d_AC_addPerson_61 yv_PA_forget sh_PA rfl rfl (fun o h => M_PA_forget hC.inj h) (by decide) rfl rfl (Nat.le_of_ble_eq_true rfl) (fun s3 => ?_)
                refine VO_aload hC d_AC_addPerson_64 0 rfl ?_
                refine VO_getr (r := 1) hC fl_AC_10 sh_AC rfl d_AC_addPerson_65 ?_
                refine VO_iload hC d_AC_addPerson_68 1 rfl ?_
                refine VO_iload hC d_AC_addPerson_69 2 rfl ?_
                refine VO_iload hC d_AC_addPerson_70 3 rfl ?_
                refine VO_callVI hC [.int a1, .int a2, .int a3] [] ml_AC_167 d_AC_addPerson_71 yv_NI_putPerson (sh_NI isNI_1) rfl rfl (fun o h => M_NI_putPerson hC.inj isNI_1 h) (by decide) rfl rfl (Nat.le_of_ble_eq_true rfl) (fun o4 => ?_)
                exact VO_ireturn d_AC_addPerson_74
              · exact VO_sub [0] rfl (B_AC_addPerson_50 hC s)
      · exact VO_sub [0] rfl (B_AC_addPerson_12 hC s)
set_option maxRecDepth 20000 in
theorem M_AC_addPerson {l : Launch} {D : va_G} {ad : Nat → Nat} {cI cL : ClassId} (hj : Inj ad) {a1 : Int32} {a2 : Int32} {a3 : Int32} {s : St} {o : Int32 × St} (h : F_AC_addPerson a1 a2 a3 s = some o) : Cn l D ad cI cL y_AC_addPerson b_AC_addPerson 4 (some .int) 3 [.ref (ad 0), .int a1, .int a2, .int a3] s (some (.int o.1)) o.2 := by
  refine Cn_ofI hj (plainFor_of_name (by decide)) (Nat.le_of_ble_eq_true rfl) [(0, .ref (ad 0)), (1, .int a1), (2, .int a2), (3, .int a3)] rfl (fun G hC e1 e2 e3 e4 e5 hR => ?_)
  subst e1; subst e2; subst e3; subst e4; subst e5
  exact B_AC_addPerson hC a1 a2 a3 s o h hR
theorem d_AC_change_0 : PLa b_AC_change 0 0 1 := Or.inl ⟨0, by decide +kernel, rfl, rfl⟩
theorem d_AC_change_1 : DR b_AC_change 1 (.getfield 10) 3 4 := ⟨by decide +kernel, rfl⟩
theorem d_AC_change_4 : PLi b_AC_change 4 1 5 := Or.inl ⟨1, by decide +kernel, rfl, rfl⟩
theorem d_AC_change_5 : PLi b_AC_change 5 2 6 := Or.inl ⟨2, by decide +kernel, rfl, rfl⟩
theorem d_AC_change_6 : DR b_AC_change 6 (.invokevirtual 171) 3 9 := ⟨by decide +kernel, rfl⟩
theorem d_AC_change_9 : DJ b_AC_change 9 (.ifCond .ne) 12 18 := ⟨9, by decide +kernel, rfl, by decide⟩
theorem d_AC_change_12 : PLa b_AC_change 12 0 13 := Or.inl ⟨0, by decide +kernel, rfl, rfl⟩
theorem d_AC_change_13 : PCi b_AC_change 13 (-1) 14 := Or.inl ⟨(-1), by decide +kernel, by decide, rfl⟩
theorem d_AC_change_14 : DR b_AC_change 14 (.invokevirtual 90) 3 17 := ⟨by decide +kernel, rfl⟩
theorem d_AC_change_17 : DR b_AC_change 17 (.ireturn) 1 18 := ⟨by decide +kernel, rfl⟩
theorem d_AC_change_18 : PLa b_AC_change 18 0 19 := Or.inl ⟨0, by decide +kernel, rfl, rfl⟩
theorem d_AC_change_19 : DR b_AC_change 19 (.getfield 25) 3 22 := ⟨by decide +kernel, rfl⟩
theorem d_AC_change_22 : PCi b_AC_change 22 0 23 := Or.inl ⟨0, by decide +kernel, by decide, rfl⟩
theorem d_AC_change_23 : PLi b_AC_change 23 1 24 := Or.inl ⟨1, by decide +kernel, rfl, rfl⟩
theorem d_AC_change_24 : PLi b_AC_change 24 2 25 := Or.inl ⟨2, by decide +kernel, rfl, rfl⟩
theorem d_AC_change_25 : PCi b_AC_change 25 (-9) 27 := Or.inr (Or.inl ⟨(-9), by decide +kernel, by decide, rfl⟩)
theorem d_AC_change_27 : PCi b_AC_change 27 (-9) 29 := Or.inr (Or.inl ⟨(-9), by decide +kernel, by decide, rfl⟩)
theorem d_AC_change_29 : DR b_AC_change 29 (.invokevirtual 175) 3 32 := ⟨by decide +kernel, rfl⟩
theorem d_AC_change_32 : PLa b_AC_change 32 0 33 := Or.inl ⟨0, by decide +kernel, rfl, rfl⟩
theorem d_AC_change_33 : DR b_AC_change 33 (.getfield 10) 3 36 := ⟨by decide +kernel, rfl⟩
theorem d_AC_change_36 : DR b_AC_change 36 (.getfield 178) 3 39 := ⟨by decide +kernel, rfl⟩
theorem d_AC_change_39 : PLa b_AC_change 39 0 40 := Or.inl ⟨0, by decide +kernel, rfl, rfl⟩
theorem d_AC_change_40 : DR b_AC_change 40 (.getfield 10) 3 43 := ⟨by decide +kernel, rfl⟩
theorem d_AC_change_43 : DR b_AC_change 43 (.getfield 164) 3 46 := ⟨by decide +kernel, rfl⟩
theorem d_AC_change_46 : PLi b_AC_change 46 1 47 := Or.inl ⟨1, by decide +kernel, rfl, rfl⟩
theorem d_AC_change_47 : PLi b_AC_change 47 2 48 := Or.inl ⟨2, by decide +kernel, rfl, rfl⟩
theorem d_AC_change_48 : DR b_AC_change 48 (.invokestatic 181) 3 51 := ⟨by decide +kernel, rfl⟩
theorem d_AC_change_51 : PLa b_AC_change 51 0 52 := Or.inl ⟨0, by decide +kernel, rfl, rfl⟩
theorem d_AC_change_52 : DR b_AC_change 52 (.getfield 10) 3 55 := ⟨by decide +kernel, rfl⟩
theorem d_AC_change_55 : PLi b_AC_change 55 1 56 := Or.inl ⟨1, by decide +kernel, rfl, rfl⟩
theorem d_AC_change_56 : DR b_AC_change 56 (.invokevirtual 144) 3 59 := ⟨by decide +kernel, rfl⟩
theorem d_AC_change_59 : DR b_AC_change 59 (.ireturn) 1 60 := ⟨by decide +kernel, rfl⟩
set_option maxRecDepth 20000 in
theorem B_AC_change {G : MCx} (hC : C0 G "AccusedChoose" b_AC_change 3 4) (a1 : Int32) (a2 : Int32) (s : St) : VO G (RI G b_AC_change) (F_AC_change a1 a2 s) 0 [(0, .ref (gad G 0)), (1, .int a1), (2, .int a2)] [] s := by
  unfold F_AC_change
  refine VO_aload hC d_AC_change_0 0 rfl ?_
  refine VO_getr (r := 1) hC fl_AC_10 sh_AC rfl d_AC_change_1 ?_
  refine VO_iload hC d_AC_change_4 1 rfl ?_
  refine VO_iload hC d_AC_change_5 2 rfl ?_
  refine VO_callVI hC [.int a1, .int a2] [] ml_AC_171 d_AC_change_6 yv_NI_hasTwo (sh_NI isNI_1) rfl rfl (fun o h => M_NI_hasTwo hC.inj isNI_1 h) (by decide) rfl rfl (Nat.le_of_ble_eq_true rfl) (fun o1 => ?_)
  refine VO_if_ne hC d_AC_change_9 (fun _ => ?_) (fun _ => ?_)
  · refine VO_aload hC d_AC_change_12 0 rfl ?_
    refine VO_const hC d_AC_change_13 ?_
    refine VO_callVI hC [.int (-1 : Int32)] [] ml_AC_90 d_AC_change_14 yv_AC_refuse sh_AC rfl rfl (fun o h => M_AC_refuse hC.inj h) (by decide) rfl rfl (Nat.le_of_ble_eq_true rfl) (fun o5 => ?_)
    exact VO_ireturn d_AC_change_17
  · refine VO_aload hC d_AC_change_18 0 rfl ?_
    refine VO_getr (r := 28) hC fl_AC_25 sh_AC rfl d_AC_change_19 ?_
    refine VO_const hC d_AC_change_22 ?_
    refine VO_iload hC d_AC_change_23 1 rfl ?_
    refine VO_iload hC d_AC_change_24 2 rfl ?_
    refine VO_const hC d_AC_change_25 ?_
    refine VO_const hC d_AC_change_27 ?_
    refine VO_callVV hC [.int (0 : Int32), .int a1, .int a2, .int (-9 : Int32), .int (-9 : Int32)] [] ml_AC_175 d_AC_change_29 yv_PA_add sh_PA rfl rfl (fun o h => M_PA_add hC.inj h) (by decide) rfl rfl (Nat.le_of_ble_eq_true rfl) (fun s2 => ?_)
    refine VO_aload hC d_AC_change_32 0 rfl ?_
    refine VO_getr (r := 1) hC fl_AC_10 sh_AC rfl d_AC_change_33 ?_
    refine VO_getr (r := 9) hC fl_AC_178 (sh_NI isNI_1) rfl d_AC_change_36 ?_
    refine VO_aload hC d_AC_change_39 0 rfl ?_
    refine VO_getr (r := 1) hC fl_AC_10 sh_AC rfl d_AC_change_40 ?_
    refine VO_geti hC fl_AC_164 (sh_NI isNI_1) rfl d_AC_change_43 ?_
    refine VO_iload hC d_AC_change_46 1 rfl ?_
    refine VO_iload hC d_AC_change_47 2 rfl ?_
    refine VO_callSV hC [.ref (gad G 9), .int (rd s2 1 1), .int a1, .int a2] [] ml_AC_181 d_AC_change_48 ys_AC_swapPlaces (fun o h => M_AC_swapPlaces hC.inj ia_9 h) (by decide) rfl rfl (Nat.le_of_ble_eq_true rfl) (fun s3 => ?_)
    refine VO_aload hC d_AC_change_51 0 rfl ?_
    refine VO_getr (r := 1) hC fl_AC_10 sh_AC rfl d_AC_change_52 ?_
    refine VO_iload hC d_AC_change_55 1 rfl ?_
    refine VO_callVI hC [.int a1] [] ml_AC_144 d_AC_change_56 yv_NI_placeOf (sh_NI isNI_1) rfl rfl (fun o h => M_NI_placeOf hC.inj isNI_1 h) (by decide) rfl rfl (Nat.le_of_ble_eq_true rfl) (fun o4 => ?_)
    exact VO_ireturn d_AC_change_59
set_option maxRecDepth 20000 in
theorem M_AC_change {l : Launch} {D : va_G} {ad : Nat → Nat} {cI cL : ClassId} (hj : Inj ad) {a1 : Int32} {a2 : Int32} {s : St} {o : Int32 × St} (h : F_AC_change a1 a2 s = some o) : Cn l D ad cI cL y_AC_change b_AC_change 3 (some .int) 4 [.ref (ad 0), .int a1, .int a2] s (some (.int o.1)) o.2 := by
  refine Cn_ofI hj (plainFor_of_name (by decide)) (Nat.le_of_ble_eq_true rfl) [(0, .ref (ad 0)), (1, .int a1), (2, .int a2)] rfl (fun G hC e1 e2 e3 e4 e5 hR => ?_)
  subst e1; subst e2; subst e3; subst e4; subst e5
  exact B_AC_change hC a1 a2 s o h hR
