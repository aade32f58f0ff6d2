theorem d_AC_alibi_0 : PLa b_AC_alibi 0 0 1 := Or.inl ⟨0, by decide +kernel, rfl, rfl⟩
theorem d_AC_alibi_1 : DR b_AC_alibi 1 (.getfield 10) 3 4 := ⟨by decide +kernel, rfl⟩
theorem d_AC_alibi_4 : PLi b_AC_alibi 4 1 5 := Or.inl ⟨1, by decide +kernel, rfl, rfl⟩
theorem d_AC_alibi_5 : DR b_AC_alibi 5 (.invokevirtual 129) 3 8 := ⟨by decide +kernel, rfl⟩
theorem d_AC_alibi_8 : DJ b_AC_alibi 8 (.ifCond .eq) 11 22 := ⟨14, by decide +kernel, rfl, by decide⟩
theorem d_AC_alibi_11 : PLa b_AC_alibi 11 0 12 := Or.inl ⟨0, by decide +kernel, rfl, rfl⟩
theorem d_AC_alibi_12 : DR b_AC_alibi 12 (.getfield 10) 3 15 := ⟨by decide +kernel, rfl⟩
theorem d_AC_alibi_15 : PLi b_AC_alibi 15 2 16 := Or.inl ⟨2, by decide +kernel, rfl, rfl⟩
theorem d_AC_alibi_16 : DR b_AC_alibi 16 (.invokevirtual 115) 3 19 := ⟨by decide +kernel, rfl⟩
theorem d_AC_alibi_19 : DJ b_AC_alibi 19 (.ifCond .ne) 22 28 := ⟨9, by decide +kernel, rfl, by decide⟩
theorem d_AC_alibi_22 : PLa b_AC_alibi 22 0 23 := Or.inl ⟨0, by decide +kernel, rfl, rfl⟩
theorem d_AC_alibi_23 : PCi b_AC_alibi 23 (-1) 24 := Or.inl ⟨(-1), by decide +kernel, by decide, rfl⟩
theorem d_AC_alibi_24 : DR b_AC_alibi 24 (.invokevirtual 90) 3 27 := ⟨by decide +kernel, rfl⟩
theorem d_AC_alibi_27 : DR b_AC_alibi 27 (.ireturn) 1 28 := ⟨by decide +kernel, rfl⟩
theorem d_AC_alibi_28 : PLa b_AC_alibi 28 0 29 := Or.inl ⟨0, by decide +kernel, rfl, rfl⟩
theorem d_AC_alibi_29 : DR b_AC_alibi 29 (.getfield 25) 3 32 := ⟨by decide +kernel, rfl⟩
theorem d_AC_alibi_32 : PCi b_AC_alibi 32 1 33 := Or.inl ⟨1, by decide +kernel, by decide, rfl⟩
theorem d_AC_alibi_33 : PLi b_AC_alibi 33 1 34 := Or.inl ⟨1, by decide +kernel, rfl, rfl⟩
theorem d_AC_alibi_34 : PLi b_AC_alibi 34 2 35 := Or.inl ⟨2, by decide +kernel, rfl, rfl⟩
theorem d_AC_alibi_35 : PCi b_AC_alibi 35 (-9) 37 := Or.inr (Or.inl ⟨(-9), by decide +kernel, by decide, rfl⟩)
theorem d_AC_alibi_37 : PCi b_AC_alibi 37 (-9) 39 := Or.inr (Or.inl ⟨(-9), by decide +kernel, by decide, rfl⟩)
theorem d_AC_alibi_39 : DR b_AC_alibi 39 (.invokevirtual 175) 3 42 := ⟨by decide +kernel, rfl⟩
theorem d_AC_alibi_42 : PLa b_AC_alibi 42 0 43 := Or.inl ⟨0, by decide +kernel, rfl, rfl⟩
theorem d_AC_alibi_43 : DR b_AC_alibi 43 (.getfield 10) 3 46 := ⟨by decide +kernel, rfl⟩
theorem d_AC_alibi_46 : PLi b_AC_alibi 46 1 47 := Or.inl ⟨1, by decide +kernel, rfl, rfl⟩
theorem d_AC_alibi_47 : PLi b_AC_alibi 47 2 48 := Or.inl ⟨2, by decide +kernel, rfl, rfl⟩
theorem d_AC_alibi_48 : DR b_AC_alibi 48 (.invokevirtual 185) 3 51 := ⟨by decide +kernel, rfl⟩
theorem d_AC_alibi_51 : PLa b_AC_alibi 51 0 52 := Or.inl ⟨0, by decide +kernel, rfl, rfl⟩
theorem d_AC_alibi_52 : DR b_AC_alibi 52 (.getfield 10) 3 55 := ⟨by decide +kernel, rfl⟩
theorem d_AC_alibi_55 : DR b_AC_alibi 55 (.getfield 147) 3 58 := ⟨by decide +kernel, rfl⟩
theorem d_AC_alibi_58 : PLi b_AC_alibi 58 1 59 := Or.inl ⟨1, by decide +kernel, rfl, rfl⟩
theorem d_AC_alibi_59 : DR b_AC_alibi 59 (.invokestatic 122) 3 62 := ⟨by decide +kernel, rfl⟩
theorem d_AC_alibi_62 : PLi b_AC_alibi 62 2 63 := Or.inl ⟨2, by decide +kernel, rfl, rfl⟩
theorem d_AC_alibi_63 : DR b_AC_alibi 63 (.invokestatic 189) 3 66 := ⟨by decide +kernel, rfl⟩
theorem d_AC_alibi_66 : DJ b_AC_alibi 66 (.ifCond .eq) 69 73 := ⟨7, by decide +kernel, rfl, by decide⟩
theorem d_AC_alibi_69 : PCi b_AC_alibi 69 1 70 := Or.inl ⟨1, by decide +kernel, by decide, rfl⟩
theorem d_AC_alibi_70 : DJ b_AC_alibi 70 .goto 73 74 := ⟨4, by decide +kernel, rfl, by decide⟩
theorem d_AC_alibi_73 : PCi b_AC_alibi 73 0 74 := Or.inl ⟨0, by decide +kernel, by decide, rfl⟩
theorem d_AC_alibi_74 : DR b_AC_alibi 74 (.ireturn) 1 75 := ⟨by decide +kernel, rfl⟩
set_option maxRecDepth 20000 in
theorem B_AC_alibi_22 {G : MCx} (hC : C0 G "AccusedChoose" b_AC_alibi 3 4) (s : St) : VO G (RI G b_AC_alibi) (F_AC_alibi_22 s) 22 [(0, .ref (gad G 0))] [] s := by
  unfold F_AC_alibi_22
  refine VO_aload hC d_AC_alibi_22 0 rfl ?_
  refine VO_const hC d_AC_alibi_23 ?_
  refine VO_callVI hC [.int (-1 : Int32)] [] ml_AC_90 d_AC_alibi_24 yv_AC_refuse sh_AC rfl rfl (fun o h => M_AC_refuse hC.inj h) (by decide) rfl rfl (Nat.le_of_ble_eq_true rfl) (fun o2 => ?_)
  exact VO_ireturn d_AC_alibi_27
set_option maxRecDepth 20000 in
theorem B_AC_alibi {G : MCx} (hC : C0 G "AccusedChoose" b_AC_alibi 3 4) (a1 : Int32) (a2 : Int32) (s : St) : VO G (RI G b_AC_alibi) (F_AC_alibi a1 a2 s) 0 [(0, .ref (gad G 0)), (1, .int a1), (2, .int a2)] [] s := by
  unfold F_AC_alibi
  refine VO_aload hC d_AC_alibi_0 0 rfl ?_
  refine VO_getr (r := 1) hC fl_AC_10 sh_AC rfl d_AC_alibi_1 ?_
  refine VO_iload hC d_AC_alibi_4 1 rfl ?_
  refine VO_callVI hC [.int a1] [] ml_AC_129 d_AC_alibi_5 yv_NI_hasPerson (sh_NI isNI_1) rfl rfl (fun o h => M_NI_hasPerson hC.inj isNI_1 h) (by decide) rfl rfl (Nat.le_of_ble_eq_true rfl) (fun o1 => ?_)
  refine VO_if_eq hC d_AC_alibi_8 (fun _ => ?_) (fun _ => ?_)
  · exact VO_sub [0] rfl (B_AC_alibi_22 hC o1.2)
  · refine VO_aload hC d_AC_alibi_11 0 rfl ?_
    refine VO_getr (r := 1) hC fl_AC_10 sh_AC rfl d_AC_alibi_12 ?_
    refine VO_iload hC d_AC_alibi_15 2 rfl ?_
    refine VO_callVI hC [.int a2] [] ml_AC_115 d_AC_alibi_16 yv_NI_hasDeed (sh_NI isNI_1) rfl rfl (fun o h => M_NI_hasDeed hC.inj isNI_1 h) (by decide) rfl rfl (Nat.le_of_ble_eq_true rfl) (fun o3 => ?_)
    refine VO_if_ne hC d_AC_alibi_19 (fun _ => ?_) (fun _ => ?_)
    · exact VO_sub [0] rfl (B_AC_alibi_22 hC o3.2)
    · refine VO_aload hC d_AC_alibi_28 0 rfl ?_
      refine VO_getr (r := 28) hC fl_AC_25 sh_AC rfl d_AC_alibi_29 ?_
      refine VO_const hC d_AC_alibi_32 ?_
      refine VO_iload hC d_AC_alibi_33 1 rfl ?_
      refine VO_iload hC d_AC_alibi_34 2 rfl ?_
      refine VO_const hC d_AC_alibi_35 ?_
      refine VO_const hC d_AC_alibi_37 ?_
      refine VO_callVV hC [.int (1 : Int32), .int a1, .int a2, .int (-9 : Int32), .int (-9 : Int32)] [] ml_AC_175 d_AC_alibi_39 yv_PA_add sh_PA rfl rfl (fun o h => M_PA_add hC.inj h) (by decide) rfl rfl (Nat.le_of_ble_eq_true rfl) (fun s4 => ?_)
      refine VO_aload hC d_AC_alibi_42 0 rfl ?_
      refine VO_getr (r := 1) hC fl_AC_10 sh_AC rfl d_AC_alibi_43 ?_
      refine VO_iload hC d_AC_alibi_46 1 rfl ?_
      refine VO_iload hC d_AC_alibi_47 2 rfl ?_
      refine VO_callVV hC [.int a1, .int a2] [] ml_AC_185 d_AC_alibi_48 yv_NI_turnAlibi (sh_NI isNI_1) rfl rfl (fun o h => M_NI_turnAlibi hC.inj isNI_1 h) (by decide) rfl rfl (Nat.le_of_ble_eq_true rfl) (fun s5 => ?_)
      refine VO_aload hC d_AC_alibi_51 0 rfl ?_
      refine VO_getr (r := 1) hC fl_AC_10 sh_AC rfl d_AC_alibi_52 ?_
      refine VO_getr (r := 8) hC fl_AC_147 (sh_NI isNI_1) rfl d_AC_alibi_55 ?_
      refine VO_iload hC d_AC_alibi_58 1 rfl ?_
      refine VO_callSI hC [.ref (gad G 8), .int a1] [] ml_AC_122 d_AC_alibi_59 ys_AC_at (fun o h => M_AC_at hC.inj ia_8 h) (by decide) rfl rfl (Nat.le_of_ble_eq_true rfl) (fun o6 => ?_)
      refine VO_iload hC d_AC_alibi_62 2 rfl ?_
      refine VO_callSI hC [.int o6.1, .int a2] [] ml_AC_189 d_AC_alibi_63 ys_AC_has (fun o h => M_AC_has hC.inj h) (by decide) rfl rfl (Nat.le_of_ble_eq_true rfl) (fun o7 => ?_)
      refine VO_if_eq hC d_AC_alibi_66 (fun _ => ?_) (fun _ => ?_)
      · refine VO_const hC d_AC_alibi_73 ?_
        exact VO_ireturn d_AC_alibi_74
      · refine VO_const hC d_AC_alibi_69 ?_
        refine VO_goto hC d_AC_alibi_70 ?_
        exact VO_ireturn d_AC_alibi_74
set_option maxRecDepth 20000 in
theorem M_AC_alibi {l : Launch} {D : va_G} {ad : Nat → Nat} {cI cL : ClassId} (hj : Inj ad) {a1 : Int32} {a2 : Int32} {s : St} {o : Int32 × St} (h : F_AC_alibi a1 a2 s = some o) : Cn l D ad cI cL y_AC_alibi b_AC_alibi 3 (some .int) 4 [.ref (ad 0), .int a1, .int a2] s (some (.int o.1)) o.2 := by
  refine Cn_ofI hj (plainFor_of_name (by decide)) (Nat.le_of_ble_eq_true rfl) [(0, .ref (ad 0)), (1, .int a1), (2, .int a2)] rfl (fun G hC e1 e2 e3 e4 e5 hR => ?_)
  subst e1; subst e2; subst e3; subst e4; subst e5
  exact B_AC_alibi hC a1 a2 s o h hR
theorem d_AC_brothers_0 : PLa b_AC_brothers 0 0 1 := Or.inl ⟨0, by decide +kernel, rfl, rfl⟩
theorem d_AC_brothers_1 : DR b_AC_brothers 1 (.getfield 10) 3 4 := ⟨by decide +kernel, rfl⟩
theorem d_AC_brothers_4 : PLi b_AC_brothers 4 1 5 := Or.inl ⟨1, by decide +kernel, rfl, rfl⟩
theorem d_AC_brothers_5 : PLi b_AC_brothers 5 2 6 := Or.inl ⟨2, by decide +kernel, rfl, rfl⟩
theorem d_AC_brothers_6 : DR b_AC_brothers 6 (.invokevirtual 171) 3 9 := ⟨by decide +kernel, rfl⟩
theorem d_AC_brothers_9 : DJ b_AC_brothers 9 (.ifCond .ne) 12 18 := ⟨9, by decide +kernel, rfl, by decide⟩
theorem d_AC_brothers_12 : PLa b_AC_brothers 12 0 13 := Or.inl ⟨0, by decide +kernel, rfl, rfl⟩
theorem d_AC_brothers_13 : PCi b_AC_brothers 13 (-1) 14 := Or.inl ⟨(-1), by decide +kernel, by decide, rfl⟩
theorem d_AC_brothers_14 : DR b_AC_brothers 14 (.invokevirtual 90) 3 17 := ⟨by decide +kernel, rfl⟩
theorem d_AC_brothers_17 : DR b_AC_brothers 17 (.ireturn) 1 18 := ⟨by decide +kernel, rfl⟩
theorem d_AC_brothers_18 : PLa b_AC_brothers 18 0 19 := Or.inl ⟨0, by decide +kernel, rfl, rfl⟩
theorem d_AC_brothers_19 : DR b_AC_brothers 19 (.getfield 10) 3 22 := ⟨by decide +kernel, rfl⟩
theorem d_AC_brothers_22 : DR b_AC_brothers 22 (.getfield 141) 3 25 := ⟨by decide +kernel, rfl⟩
theorem d_AC_brothers_25 : PLi b_AC_brothers 25 1 26 := Or.inl ⟨1, by decide +kernel, rfl, rfl⟩
theorem d_AC_brothers_26 : DR b_AC_brothers 26 (.invokestatic 122) 3 29 := ⟨by decide +kernel, rfl⟩
theorem d_AC_brothers_29 : PSi b_AC_brothers 29 3 30 := Or.inl ⟨3, by decide +kernel, rfl, rfl⟩
theorem d_AC_brothers_30 : PLa b_AC_brothers 30 0 31 := Or.inl ⟨0, by decide +kernel, rfl, rfl⟩
theorem d_AC_brothers_31 : DR b_AC_brothers 31 (.getfield 25) 3 34 := ⟨by decide +kernel, rfl⟩
theorem d_AC_brothers_34 : PCi b_AC_brothers 34 2 35 := Or.inl ⟨2, by decide +kernel, by decide, rfl⟩
theorem d_AC_brothers_35 : PLi b_AC_brothers 35 1 36 := Or.inl ⟨1, by decide +kernel, rfl, rfl⟩
theorem d_AC_brothers_36 : PLi b_AC_brothers 36 2 37 := Or.inl ⟨2, by decide +kernel, rfl, rfl⟩
theorem d_AC_brothers_37 : PLi b_AC_brothers 37 3 38 := Or.inl ⟨3, by decide +kernel, rfl, rfl⟩
theorem d_AC_brothers_38 : PLa b_AC_brothers 38 0 39 := Or.inl ⟨0, by decide +kernel, rfl, rfl⟩
theorem d_AC_brothers_39 : DR b_AC_brothers 39 (.getfield 10) 3 42 := ⟨by decide +kernel, rfl⟩
theorem d_AC_brothers_42 : DR b_AC_brothers 42 (.getfield 141) 3 45 := ⟨by decide +kernel, rfl⟩
theorem d_AC_brothers_45 : PLi b_AC_brothers 45 2 46 := Or.inl ⟨2, by decide +kernel, rfl, rfl⟩
theorem d_AC_brothers_46 : DR b_AC_brothers 46 (.invokestatic 122) 3 49 := ⟨by decide +kernel, rfl⟩
theorem d_AC_brothers_49 : DR b_AC_brothers 49 (.invokevirtual 175) 3 52 := ⟨by decide +kernel, rfl⟩
theorem d_AC_brothers_52 : PLa b_AC_brothers 52 0 53 := Or.inl ⟨0, by decide +kernel, rfl, rfl⟩
theorem d_AC_brothers_53 : DR b_AC_brothers 53 (.getfield 10) 3 56 := ⟨by decide +kernel, rfl⟩
theorem d_AC_brothers_56 : PLi b_AC_brothers 56 1 57 := Or.inl ⟨1, by decide +kernel, rfl, rfl⟩
theorem d_AC_brothers_57 : PLi b_AC_brothers 57 2 58 := Or.inl ⟨2, by decide +kernel, rfl, rfl⟩
theorem d_AC_brothers_58 : DR b_AC_brothers 58 (.invokevirtual 192) 3 61 := ⟨by decide +kernel, rfl⟩
theorem d_AC_brothers_61 : PLi b_AC_brothers 61 3 62 := Or.inl ⟨3, by decide +kernel, rfl, rfl⟩
theorem d_AC_brothers_62 : DR b_AC_brothers 62 (.ireturn) 1 63 := ⟨by decide +kernel, rfl⟩
set_option maxRecDepth 20000 in
theorem B_AC_brothers {G : MCx} (hC : C0 G "AccusedChoose" b_AC_brothers 4 4) (a1 : Int32) (a2 : Int32) (s : St) : VO G (RI G b_AC_brothers) (F_AC_brothers a1 a2 s) 0 [(0, .ref (gad G 0)), (1, .int a1), (2, .int a2)] [] s := by
  unfold F_AC_brothers
  refine VO_aload hC d_AC_brothers_0 0 rfl ?_
  refine VO_getr (r := 1) hC fl_AC_10 sh_AC rfl d_AC_brothers_1 ?_
  refine VO_iload hC d_AC_brothers_4 1 rfl ?_
  refine VO_iload hC d_AC_brothers_5 2 rfl ?_
  refine VO_callVI hC [.int a1, .int a2] [] ml_AC_171 d_AC_brothers_6 yv_NI_hasTwo (sh_NI isNI_1) rfl rfl (fun o h => M_NI_hasTwo hC.inj isNI_1 h) (by decide) rfl rfl (Nat.le_of_ble_eq_true rfl) (fun o1 => ?_)
  refine VO_if_ne hC d_AC_brothers_9 (fun _ => ?_) (fun _ => ?_)
  · refine VO_aload hC d_AC_brothers_12 0 rfl ?_
    refine VO_const hC d_AC_brothers_13 ?_
    refine VO_callVI hC [.int (-1 : Int32)] [] ml_AC_90 d_AC_brothers_14 yv_AC_refuse sh_AC rfl rfl (fun o h => M_AC_refuse hC.inj h) (by decide) rfl rfl (Nat.le_of_ble_eq_true rfl) (fun o6 => ?_)
    exact VO_ireturn d_AC_brothers_17
  · refine VO_aload hC d_AC_brothers_18 0 rfl ?_
    refine VO_getr (r := 1) hC fl_AC_10 sh_AC rfl d_AC_brothers_19 ?_
    refine VO_getr (r := 7) hC fl_AC_141 (sh_NI isNI_1) rfl d_AC_brothers_22 ?_
    refine VO_iload hC d_AC_brothers_25 1 rfl ?_
    refine VO_callSI hC [.ref (gad G 7), .int a1] [] ml_AC_122 d_AC_brothers_26 ys_AC_at (fun o h => M_AC_at hC.inj ia_7 h) (by decide) rfl rfl (Nat.le_of_ble_eq_true rfl) (fun o2 => ?_)
    refine VO_istore hC d_AC_brothers_29 [(0, .ref (gad G 0)), (1, .int a1), (2, .int a2)] rfl (by decide) ?_
    refine VO_aload hC d_AC_brothers_30 1 rfl ?_
    refine VO_getr (r := 28) hC fl_AC_25 sh_AC rfl d_AC_brothers_31 ?_
    refine VO_const hC d_AC_brothers_34 ?_
    refine VO_iload hC d_AC_brothers_35 2 rfl ?_
    refine VO_iload hC d_AC_brothers_36 3 rfl ?_
    refine VO_iload hC d_AC_brothers_37 0 rfl ?_
    refine VO_aload hC d_AC_brothers_38 1 rfl ?_
    refine VO_getr (r := 1) hC fl_AC_10 sh_AC rfl d_AC_brothers_39 ?_
    refine VO_getr (r := 7) hC fl_AC_141 (sh_NI isNI_1) rfl d_AC_brothers_42 ?_
    refine VO_iload hC d_AC_brothers_45 3 rfl ?_
    refine VO_callSI hC [.ref (gad G 7), .int a2] [.int o2.1, .int a2, .int a1, .int (2 : Int32), .ref (gad G 28)] ml_AC_122 d_AC_brothers_46 ys_AC_at (fun o h => M_AC_at hC.inj ia_7 h) (by decide) rfl rfl (Nat.le_of_ble_eq_true rfl) (fun o3 => ?_)
    refine VO_callVV hC [.int (2 : Int32), .int a1, .int a2, .int o2.1, .int o3.1] [] ml_AC_175 d_AC_brothers_49 yv_PA_add sh_PA rfl rfl (fun o h => M_PA_add hC.inj h) (by decide) rfl rfl (Nat.le_of_ble_eq_true rfl) (fun s4 => ?_)
    refine VO_aload hC d_AC_brothers_52 1 rfl ?_
    refine VO_getr (r := 1) hC fl_AC_10 sh_AC rfl d_AC_brothers_53 ?_
    refine VO_iload hC d_AC_brothers_56 2 rfl ?_
    refine VO_iload hC d_AC_brothers_57 3 rfl ?_
    refine VO_callVV hC [.int a1, .int a2] [] ml_AC_192 d_AC_brothers_58 yv_NI_pair (sh_NI isNI_1) rfl rfl (fun o h => M_NI_pair hC.inj isNI_1 h) (by decide) rfl rfl (Nat.le_of_ble_eq_true rfl) (fun s5 => ?_)
    refine VO_iload hC d_AC_brothers_61 0 rfl ?_
    exact VO_ireturn d_AC_brothers_62
set_option maxRecDepth 20000 in
theorem M_AC_brothers {l : Launch} {D : va_G} {ad : Nat → Nat} {cI cL : ClassId} (hj : Inj ad) {a1 : Int32} {a2 : Int32} {s : St} {o : Int32 × St} (h : F_AC_brothers a1 a2 s = some o) : Cn l D ad cI cL y_AC_brothers b_AC_brothers 4 (some .int) 4 [.ref (ad 0), .int a1, .int a2] s (some (.int o.1)) o.2 := by
  refine Cn_ofI hj (plainFor_of_name (by decide)) (Nat.le_of_ble_eq_true rfl) [(0, .ref (ad 0)), (1, .int a1), (2, .int a2)] rfl (fun G hC e1 e2 e3 e4 e5 hR => ?_)
  subst e1; subst e2; subst e3; subst e4; subst e5
  exact B_AC_brothers hC a1 a2 s o h hR
theorem d_AC_back_0 : PLa b_AC_back 0 0 1 := Or.inl ⟨0, by decide +kernel, rfl, rfl⟩
theorem d_AC_back_1 : DR b_AC_back 1 (.getfield 25) 3 4 := ⟨by decide +kernel, rfl⟩
theorem d_AC_back_4 : DR b_AC_back 4 (.getfield 195) 3 7 := ⟨by decide +kernel, rfl⟩
theorem d_AC_back_7 : DJ b_AC_back 7 (.ifCond .gt) 10 17 := ⟨10, by decide +kernel, rfl, by decide⟩
theorem d_AC_back_10 : PLa b_AC_back 10 0 11 := Or.inl ⟨0, by decide +kernel, rfl, rfl⟩
theorem d_AC_back_11 : PCi b_AC_back 11 (-3) 13 := Or.inr (Or.inl ⟨(-3), by decide +kernel, by decide, rfl⟩)
theorem d_AC_back_13 : DR b_AC_back 13 (.invokevirtual 90) 3 16 := ⟨by decide +kernel, rfl⟩
theorem d_AC_back_16 : DR b_AC_back 16 (.ireturn) 1 17 := ⟨by decide +kernel, rfl⟩
theorem d_AC_back_17 : PLa b_AC_back 17 0 18 := Or.inl ⟨0, by decide +kernel, rfl, rfl⟩
theorem d_AC_back_18 : DR b_AC_back 18 (.getfield 25) 3 21 := ⟨by decide +kernel, rfl⟩
theorem d_AC_back_21 : PLa b_AC_back 21 0 22 := Or.inl ⟨0, by decide +kernel, rfl, rfl⟩
theorem d_AC_back_22 : DR b_AC_back 22 (.getfield 10) 3 25 := ⟨by decide +kernel, rfl⟩
theorem d_AC_back_25 : DR b_AC_back 25 (.invokevirtual 198) 3 28 := ⟨by decide +kernel, rfl⟩
theorem d_AC_back_28 : PLa b_AC_back 28 0 29 := Or.inl ⟨0, by decide +kernel, rfl, rfl⟩
theorem d_AC_back_29 : DR b_AC_back 29 (.getfield 25) 3 32 := ⟨by decide +kernel, rfl⟩
theorem d_AC_back_32 : DR b_AC_back 32 (.getfield 195) 3 35 := ⟨by decide +kernel, rfl⟩
theorem d_AC_back_35 : DR b_AC_back 35 (.ireturn) 1 36 := ⟨by decide +kernel, rfl⟩
set_option maxRecDepth 20000 in
theorem B_AC_back {G : MCx} (hC : C0 G "AccusedChoose" b_AC_back 1 4) (s : St) : VO G (RI G b_AC_back) (F_AC_back s) 0 [(0, .ref (gad G 0))] [] s := by
  unfold F_AC_back
  refine VO_aload hC d_AC_back_0 0 rfl ?_
  refine VO_getr (r := 28) hC fl_AC_25 sh_AC rfl d_AC_back_1 ?_
  refine VO_geti hC fl_AC_195 sh_PA rfl d_AC_back_4 ?_
  refine VO_if_gt hC d_AC_back_7 (fun _ => ?_) (fun _ => ?_)
  · refine VO_aload hC d_AC_back_17 0 rfl ?_
    refine VO_getr (r := 28) hC fl_AC_25 sh_AC rfl d_AC_back_18 ?_
    refine VO_aload hC d_AC_back_21 0 rfl ?_
    refine VO_getr (r := 1) hC fl_AC_10 sh_AC rfl d_AC_back_22 ?_
    refine VO_callVV hC [.ref (gad G 1)] [] ml_AC_198 d_AC_back_25 yv_PA_takeBack sh_PA rfl rfl (fun o h => M_PA_takeBack hC.inj isNI_1 h) (by decide) rfl rfl (Nat.le_of_ble_eq_true rfl) (fun s1 => ?_)
    refine VO_aload hC d_AC_back_28 0 rfl ?_
    refine VO_getr (r := 28) hC fl_AC_25 sh_AC rfl d_AC_back_29 ?_
    refine VO_geti hC fl_AC_195 sh_PA rfl d_AC_back_32 ?_
    exact VO_ireturn d_AC_back_35
  · refine VO_aload hC d_AC_back_10 0 rfl ?_
    refine VO_const hC d_AC_back_11 ?_
    refine VO_callVI hC [.int (-3 : Int32)] [] ml_AC_90 d_AC_back_13 yv_AC_refuse sh_AC rfl rfl (fun o h => M_AC_refuse hC.inj h) (by decide) rfl rfl (Nat.le_of_ble_eq_true rfl) (fun o2 => ?_)
    exact VO_ireturn d_AC_back_16
set_option maxRecDepth 20000 in
theorem M_AC_back {l : Launch} {D : va_G} {ad : Nat → Nat} {cI cL : ClassId} (hj : Inj ad) {s : St} {o : Int32 × St} (h : F_AC_back s = some o) : Cn l D ad cI cL y_AC_back b_AC_back 1 (some .int) 4 [.ref (ad 0)] s (some (.int o.1)) o.2 := by
  refine Cn_ofI hj (plainFor_of_name (by decide)) (Nat.le_of_ble_eq_true rfl) [(0, .ref (ad 0))] rfl (fun G hC e1 e2 e3 e4 e5 hR => ?_)
  subst e1; subst e2; subst e3; subst e4; subst e5
  exact B_AC_back hC s o h hR
theorem d_AC_holdToday_0 : PLa b_AC_holdToday 0 0 1 := Or.inl ⟨0, by decide +kernel, rfl, rfl⟩
theorem d_AC_holdToday_1 : DR b_AC_holdToday 1 (.getfield 39) 3 4 := ⟨by decide +kernel, rfl⟩
theorem d_AC_holdToday_4 : PLa b_AC_holdToday 4 0 5 := Or.inl ⟨0, by decide +kernel, rfl, rfl⟩
theorem d_AC_holdToday_5 : DR b_AC_holdToday 5 (.getfield 10) 3 8 := ⟨by decide +kernel, rfl⟩
theorem d_AC_holdToday_8 : DR b_AC_holdToday 8 (.invokevirtual 219) 3 11 := ⟨by decide +kernel, rfl⟩
theorem d_AC_holdToday_11 : PLa b_AC_holdToday 11 0 12 := Or.inl ⟨0, by decide +kernel, rfl, rfl⟩
theorem d_AC_holdToday_12 : DR b_AC_holdToday 12 (.getfield 49) 3 15 := ⟨by decide +kernel, rfl⟩
theorem d_AC_holdToday_15 : PLa b_AC_holdToday 15 0 16 := Or.inl ⟨0, by decide +kernel, rfl, rfl⟩
theorem d_AC_holdToday_16 : DR b_AC_holdToday 16 (.getfield 39) 3 19 := ⟨by decide +kernel, rfl⟩
theorem d_AC_holdToday_19 : PLa b_AC_holdToday 19 0 20 := Or.inl ⟨0, by decide +kernel, rfl, rfl⟩
theorem d_AC_holdToday_20 : DR b_AC_holdToday 20 (.getfield 10) 3 23 := ⟨by decide +kernel, rfl⟩
theorem d_AC_holdToday_23 : DR b_AC_holdToday 23 (.getfield 178) 3 26 := ⟨by decide +kernel, rfl⟩
theorem d_AC_holdToday_26 : PLa b_AC_holdToday 26 0 27 := Or.inl ⟨0, by decide +kernel, rfl, rfl⟩
theorem d_AC_holdToday_27 : DR b_AC_holdToday 27 (.getfield 10) 3 30 := ⟨by decide +kernel, rfl⟩
theorem d_AC_holdToday_30 : DR b_AC_holdToday 30 (.invokevirtual 302) 3 33 := ⟨by decide +kernel, rfl⟩
theorem d_AC_holdToday_33 : DR b_AC_holdToday 33 (.invokevirtual 305) 3 36 := ⟨by decide +kernel, rfl⟩
theorem d_AC_holdToday_36 : DR b_AC_holdToday 36 (.return_) 1 37 := ⟨by decide +kernel, rfl⟩
set_option maxRecDepth 20000 in
theorem B_AC_holdToday {G : MCx} (hC : C0 G "AccusedChoose" b_AC_holdToday 1 5) (s : St) : VO G (RV G b_AC_holdToday) (F_AC_holdToday s) 0 [(0, .ref (gad G 0))] [] s := by
  unfold F_AC_holdToday
  refine VO_aload hC d_AC_holdToday_0 0 rfl ?_
  refine VO_getr (r := 36) hC fl_AC_39 sh_AC rfl d_AC_holdToday_1 ?_
  refine VO_aload hC d_AC_holdToday_4 0 rfl ?_
  refine VO_getr (r := 1) hC fl_AC_10 sh_AC rfl d_AC_holdToday_5 ?_
  refine VO_callVV hC [.ref (gad G 1)] [] ml_AC_219 d_AC_holdToday_8 yv_PR_fill (sh_PR isPR_36) rfl rfl (fun o h => M_PR_fill hC.inj isPR_36 isNI_1 h) (by decide) rfl rfl (Nat.le_of_ble_eq_true rfl) (fun s1 => ?_)
  refine VO_aload hC d_AC_holdToday_11 0 rfl ?_
  refine VO_getr (r := 40) hC fl_AC_49 sh_AC rfl d_AC_holdToday_12 ?_
  refine VO_aload hC d_AC_holdToday_15 0 rfl ?_
  refine VO_getr (r := 36) hC fl_AC_39 sh_AC rfl d_AC_holdToday_16 ?_
  refine VO_aload hC d_AC_holdToday_19 0 rfl ?_
  refine VO_getr (r := 1) hC fl_AC_10 sh_AC rfl d_AC_holdToday_20 ?_
  refine VO_getr (r := 9) hC fl_AC_178 (sh_NI isNI_1) rfl d_AC_holdToday_23 ?_
  refine VO_aload hC d_AC_holdToday_26 0 rfl ?_
  refine VO_getr (r := 1) hC fl_AC_10 sh_AC rfl d_AC_holdToday_27 ?_
  refine VO_callVI hC [] [.ref (gad G 9), .ref (gad G 36), .ref (gad G 40)] ml_AC_302 d_AC_holdToday_30 yv_NI_allDeeds (sh_NI isNI_1) rfl rfl (fun o h => M_NI_allDeeds hC.inj isNI_1 h) (by decide) rfl rfl (Nat.le_of_ble_eq_true rfl) (fun o2 => ?_)
  refine VO_callVV hC [.ref (gad G 36), .ref (gad G 9), .int o2.1] [] ml_AC_305 d_AC_holdToday_33 yv_MO_hold (sh_MO isMO_40) rfl rfl (fun o h => M_MO_hold hC.inj isMO_40 isPR_36 ia_9 h) (by decide) rfl rfl (Nat.le_of_ble_eq_true rfl) (fun s3 => ?_)
  exact VO_return d_AC_holdToday_36
set_option maxRecDepth 20000 in
theorem M_AC_holdToday {l : Launch} {D : va_G} {ad : Nat → Nat} {cI cL : ClassId} (hj : Inj ad) {s : St} {o : St} (h : F_AC_holdToday s = some o) : Cn l D ad cI cL y_AC_holdToday b_AC_holdToday 1 none 5 [.ref (ad 0)] s none o := by
  refine Cn_ofV hj (plainFor_of_name (by decide)) (Nat.le_of_ble_eq_true rfl) [(0, .ref (ad 0))] rfl (fun G hC e1 e2 e3 e4 e5 hR => ?_)
  subst e1; subst e2; subst e3; subst e4; subst e5
  exact B_AC_holdToday hC s o h hR
theorem d_AC_takes_0 : PLa b_AC_takes 0 0 1 := Or.inl ⟨0, by decide +kernel, rfl, rfl⟩
theorem d_AC_takes_1 : DR b_AC_takes 1 (.getfield 10) 3 4 := ⟨by decide +kernel, rfl⟩
theorem d_AC_takes_4 : PLi b_AC_takes 4 1 5 := Or.inl ⟨1, by decide +kernel, rfl, rfl⟩
theorem d_AC_takes_5 : DR b_AC_takes 5 (.invokevirtual 129) 3 8 := ⟨by decide +kernel, rfl⟩
theorem d_AC_takes_8 : DJ b_AC_takes 8 (.ifCond .ne) 11 17 := ⟨9, by decide +kernel, rfl, by decide⟩
theorem d_AC_takes_11 : PLa b_AC_takes 11 0 12 := Or.inl ⟨0, by decide +kernel, rfl, rfl⟩
theorem d_AC_takes_12 : PCi b_AC_takes 12 (-1) 13 := Or.inl ⟨(-1), by decide +kernel, by decide, rfl⟩
theorem d_AC_takes_13 : DR b_AC_takes 13 (.invokevirtual 90) 3 16 := ⟨by decide +kernel, rfl⟩
theorem d_AC_takes_16 : DR b_AC_takes 16 (.ireturn) 1 17 := ⟨by decide +kernel, rfl⟩
theorem d_AC_takes_17 : PLi b_AC_takes 17 2 18 := Or.inl ⟨2, by decide +kernel, rfl, rfl⟩
theorem d_AC_takes_18 : DJ b_AC_takes 18 (.ifCond .lt) 21 26 := ⟨8, by decide +kernel, rfl, by decide⟩
theorem d_AC_takes_21 : PLi b_AC_takes 21 2 22 := Or.inl ⟨2, by decide +kernel, rfl, rfl⟩
theorem d_AC_takes_22 : PCi b_AC_takes 22 1 23 := Or.inl ⟨1, by decide +kernel, by decide, rfl⟩
theorem d_AC_takes_23 : DJ b_AC_takes 23 (.if_icmp .le) 26 33 := ⟨10, by decide +kernel, rfl, by decide⟩
theorem d_AC_takes_26 : PLa b_AC_takes 26 0 27 := Or.inl ⟨0, by decide +kernel, rfl, rfl⟩
theorem d_AC_takes_27 : PCi b_AC_takes 27 (-2) 29 := Or.inr (Or.inl ⟨(-2), by decide +kernel, by decide, rfl⟩)
theorem d_AC_takes_29 : DR b_AC_takes 29 (.invokevirtual 90) 3 32 := ⟨by decide +kernel, rfl⟩
theorem d_AC_takes_32 : DR b_AC_takes 32 (.ireturn) 1 33 := ⟨by decide +kernel, rfl⟩
theorem d_AC_takes_33 : PLa b_AC_takes 33 0 34 := Or.inl ⟨0, by decide +kernel, rfl, rfl⟩
theorem d_AC_takes_34 : DR b_AC_takes 34 (.invokevirtual 201) 3 37 := ⟨by decide +kernel, rfl⟩
theorem d_AC_takes_37 : PLi b_AC_takes 37 2 38 := Or.inl ⟨2, by decide +kernel, rfl, rfl⟩
theorem d_AC_takes_38 : DJ b_AC_takes 38 (.ifCond .ne) 41 51 := ⟨13, by decide +kernel, rfl, by decide⟩
theorem d_AC_takes_41 : PLa b_AC_takes 41 0 42 := Or.inl ⟨0, by decide +kernel, rfl, rfl⟩
theorem d_AC_takes_42 : DR b_AC_takes 42 (.getfield 49) 3 45 := ⟨by decide +kernel, rfl⟩
theorem d_AC_takes_45 : DR b_AC_takes 45 (.getfield 204) 3 48 := ⟨by decide +kernel, rfl⟩
theorem d_AC_takes_48 : DJ b_AC_takes 48 .goto 51 58 := ⟨10, by decide +kernel, rfl, by decide⟩
theorem d_AC_takes_51 : PLa b_AC_takes 51 0 52 := Or.inl ⟨0, by decide +kernel, rfl, rfl⟩
theorem d_AC_takes_52 : DR b_AC_takes 52 (.getfield 49) 3 55 := ⟨by decide +kernel, rfl⟩
theorem d_AC_takes_55 : DR b_AC_takes 55 (.getfield 207) 3 58 := ⟨by decide +kernel, rfl⟩
theorem d_AC_takes_58 : PLi b_AC_takes 58 1 59 := Or.inl ⟨1, by decide +kernel, rfl, rfl⟩
theorem d_AC_takes_59 : DR b_AC_takes 59 (.invokestatic 122) 3 62 := ⟨by decide +kernel, rfl⟩
theorem d_AC_takes_62 : DR b_AC_takes 62 (.ireturn) 1 63 := ⟨by decide +kernel, rfl⟩
set_option maxRecDepth 20000 in
theorem B_AC_takes_26 {G : MCx} (hC : C0 G "AccusedChoose" b_AC_takes 3 6) (s : St) : VO G (RI G b_AC_takes) (F_AC_takes_26 s) 26 [(0, .ref (gad G 0))] [] s := by
  unfold F_AC_takes_26
  refine VO_aload hC d_AC_takes_26 0 rfl ?_
  refine VO_const hC d_AC_takes_27 ?_
  refine VO_callVI hC [.int (-2 : Int32)] [] ml_AC_90 d_AC_takes_29 yv_AC_refuse sh_AC rfl rfl (fun o h => M_AC_refuse hC.inj h) (by decide) rfl rfl (Nat.le_of_ble_eq_true rfl) (fun o2 => ?_)
  exact VO_ireturn d_AC_takes_32
set_option maxRecDepth 20000 in
theorem B_AC_takes {G : MCx} (hC : C0 G "AccusedChoose" b_AC_takes 3 6) (a1 : Int32) (a2 : Int32) (s : St) : VO G (RI G b_AC_takes) (F_AC_takes a1 a2 s) 0 [(0, .ref (gad G 0)), (1, .int a1), (2, .int a2)] [] s := by
  unfold F_AC_takes
  refine VO_aload hC d_AC_takes_0 0 rfl ?_
  refine VO_getr (r := 1) hC fl_AC_10 sh_AC rfl d_AC_takes_1 ?_
  refine VO_iload hC d_AC_takes_4 1 rfl ?_
  refine VO_callVI hC [.int a1] [] ml_AC_129 d_AC_takes_5 yv_NI_hasPerson (sh_NI isNI_1) rfl rfl (fun o h => M_NI_hasPerson hC.inj isNI_1 h) (by decide) rfl rfl (Nat.le_of_ble_eq_true rfl) (fun o1 => ?_)
  refine VO_if_ne hC d_AC_takes_8 (fun _ => ?_) (fun _ => ?_)
  · refine VO_aload hC d_AC_takes_11 0 rfl ?_
    refine VO_const hC d_AC_takes_12 ?_
    refine VO_callVI hC [.int (-1 : Int32)] [] ml_AC_90 d_AC_takes_13 yv_AC_refuse sh_AC rfl rfl (fun o h => M_AC_refuse hC.inj h) (by decide) rfl rfl (Nat.le_of_ble_eq_true rfl) (fun o6 => ?_)
    exact VO_ireturn d_AC_takes_16
  · refine VO_iload hC d_AC_takes_17 2 rfl ?_
    refine VO_if_lt hC d_AC_takes_18 (fun _ => ?_) (fun _ => ?_)
    · exact VO_sub [0] rfl (B_AC_takes_26 hC o1.2)
    · refine VO_iload hC d_AC_takes_21 2 rfl ?_
      refine VO_const hC d_AC_takes_22 ?_
      refine VO_icmp_le hC d_AC_takes_23 (fun _ => ?_) (fun _ => ?_)
      · refine VO_aload hC d_AC_takes_33 0 rfl ?_
        refine VO_callVV hC [] [] ml_AC_201 d_AC_takes_34 yv_AC_holdToday sh_AC rfl rfl (fun o h => M_AC_holdToday hC.inj h) (by decide) rfl rfl (Nat.le_of_ble_eq_true rfl) (fun s3 => ?_)
        refine VO_iload hC d_AC_takes_37 2 rfl ?_
        refine VO_if_ne hC d_AC_takes_38 (fun _ => ?_) (fun _ => ?_)
        · refine VO_aload hC d_AC_takes_41 0 rfl ?_
          refine VO_getr (r := 40) hC fl_AC_49 sh_AC rfl d_AC_takes_42 ?_
          refine VO_getr (r := 41) hC fl_AC_204 (sh_MO isMO_40) rfl d_AC_takes_45 ?_
          refine VO_goto hC d_AC_takes_48 ?_
          refine VO_iload hC d_AC_takes_58 1 rfl ?_
          refine VO_callSI hC [.ref (gad G 41), .int a1] [] ml_AC_122 d_AC_takes_59 ys_AC_at (fun o h => M_AC_at hC.inj ia_41 h) (by decide) rfl rfl (Nat.le_of_ble_eq_true rfl) (fun o5 => ?_)
          exact VO_ireturn d_AC_takes_62
        · refine VO_aload hC d_AC_takes_51 0 rfl ?_
          refine VO_getr (r := 40) hC fl_AC_49 sh_AC rfl d_AC_takes_52 ?_
          refine VO_getr (r := 42) hC fl_AC_207 (sh_MO isMO_40) rfl d_AC_takes_55 ?_
          refine VO_iload hC d_AC_takes_58 1 rfl ?_
          refine VO_callSI hC [.ref (gad G 42), .int a1] [] ml_AC_122 d_AC_takes_59 ys_AC_at (fun o h => M_AC_at hC.inj ia_42 h) (by decide) rfl rfl (Nat.le_of_ble_eq_true rfl) (fun o4 => ?_)
          exact VO_ireturn d_AC_takes_62
      · exact VO_sub [0] rfl (B_AC_takes_26 hC o1.2)
set_option maxRecDepth 20000 in
theorem M_AC_takes {l : Launch} {D : va_G} {ad : Nat → Nat} {cI cL : ClassId} (hj : Inj ad) {a1 : Int32} {a2 : Int32} {s : St} {o : Int32 × St} (h : F_AC_takes a1 a2 s = some o) : Cn l D ad cI cL y_AC_takes b_AC_takes 3 (some .int) 6 [.ref (ad 0), .int a1, .int a2] s (some (.int o.1)) o.2 := by
  refine Cn_ofI hj (plainFor_of_name (by decide)) (Nat.le_of_ble_eq_true rfl) [(0, .ref (ad 0)), (1, .int a1), (2, .int a2)] rfl (fun G hC e1 e2 e3 e4 e5 hR => ?_)
  subst e1; subst e2; subst e3; subst e4; subst e5
  exact B_AC_takes hC a1 a2 s o h hR
theorem d_AC_morning_0 : PLa b_AC_morning 0 0 1 := Or.inl ⟨0, by decide +kernel, rfl, rfl⟩
theorem d_AC_morning_1 : DR b_AC_morning 1 (.invokevirtual 201) 3 4 := ⟨by decide +kernel, rfl⟩
theorem d_AC_morning_4 : PLi b_AC_morning 4 1 5 := Or.inl ⟨1, by decide +kernel, rfl, rfl⟩
theorem d_AC_morning_5 : decode b_AC_morning 5 = .ok (.tableswitch 51 0 2 #[27, 35, 43], 27) := by decide +kernel
theorem d_AC_morning_32 : PLa b_AC_morning 32 0 33 := Or.inl ⟨0, by decide +kernel, rfl, rfl⟩
theorem d_AC_morning_33 : DR b_AC_morning 33 (.getfield 49) 3 36 := ⟨by decide +kernel, rfl⟩
theorem d_AC_morning_36 : DR b_AC_morning 36 (.getfield 210) 3 39 := ⟨by decide +kernel, rfl⟩
theorem d_AC_morning_39 : DR b_AC_morning 39 (.ireturn) 1 40 := ⟨by decide +kernel, rfl⟩
theorem d_AC_morning_40 : PLa b_AC_morning 40 0 41 := Or.inl ⟨0, by decide +kernel, rfl, rfl⟩
theorem d_AC_morning_41 : DR b_AC_morning 41 (.getfield 49) 3 44 := ⟨by decide +kernel, rfl⟩
theorem d_AC_morning_44 : DR b_AC_morning 44 (.getfield 213) 3 47 := ⟨by decide +kernel, rfl⟩
theorem d_AC_morning_47 : DR b_AC_morning 47 (.ireturn) 1 48 := ⟨by decide +kernel, rfl⟩
theorem d_AC_morning_48 : PLa b_AC_morning 48 0 49 := Or.inl ⟨0, by decide +kernel, rfl, rfl⟩
theorem d_AC_morning_49 : DR b_AC_morning 49 (.getfield 49) 3 52 := ⟨by decide +kernel, rfl⟩
theorem d_AC_morning_52 : DR b_AC_morning 52 (.getfield 216) 3 55 := ⟨by decide +kernel, rfl⟩
theorem d_AC_morning_55 : DR b_AC_morning 55 (.ireturn) 1 56 := ⟨by decide +kernel, rfl⟩
theorem d_AC_morning_56 : PLa b_AC_morning 56 0 57 := Or.inl ⟨0, by decide +kernel, rfl, rfl⟩
theorem d_AC_morning_57 : PCi b_AC_morning 57 (-2) 59 := Or.inr (Or.inl ⟨(-2), by decide +kernel, by decide, rfl⟩)
theorem d_AC_morning_59 : DR b_AC_morning 59 (.invokevirtual 90) 3 62 := ⟨by decide +kernel, rfl⟩
theorem d_AC_morning_62 : DR b_AC_morning 62 (.ireturn) 1 63 := ⟨by decide +kernel, rfl⟩
set_option maxRecDepth 20000 in
theorem B_AC_morning {G : MCx} (hC : C0 G "AccusedChoose" b_AC_morning 2 6) (a1 : Int32) (s : St) : VO G (RI G b_AC_morning) (F_AC_morning a1 s) 0 [(0, .ref (gad G 0)), (1, .int a1)] [] s := by
  unfold F_AC_morning
  refine VO_aload hC d_AC_morning_0 0 rfl ?_
  refine VO_callVV hC [] [] ml_AC_201 d_AC_morning_1 yv_AC_holdToday sh_AC rfl rfl (fun o h => M_AC_holdToday hC.inj h) (by decide) rfl rfl (Nat.le_of_ble_eq_true rfl) (fun s1 => ?_)
  refine VO_iload hC d_AC_morning_4 1 rfl ?_
  refine VO_ite (fun c5_0 => ?_) (fun c5_0 => ?_)
  · refine VO_tin (tgt := 32) (off := (27 : Int)) hC d_AC_morning_5 (by rw [c5_0]; decide) (by rw [c5_0]; decide) (by first | (rw [c5_0]; done) | (rw [c5_0]; rfl)) (by decide) ?_
    refine VO_aload hC d_AC_morning_32 0 rfl ?_
    refine VO_getr (r := 40) hC fl_AC_49 sh_AC rfl d_AC_morning_33 ?_
    refine VO_geti hC fl_AC_210 (sh_MO isMO_40) rfl d_AC_morning_36 ?_
    exact VO_ireturn d_AC_morning_39
  refine VO_ite (fun c5_1 => ?_) (fun c5_1 => ?_)
  · refine VO_tin (tgt := 40) (off := (35 : Int)) hC d_AC_morning_5 (by rw [c5_1]; decide) (by rw [c5_1]; decide) (by first | (rw [c5_1]; done) | (rw [c5_1]; rfl)) (by decide) ?_
    refine VO_aload hC d_AC_morning_40 0 rfl ?_
    refine VO_getr (r := 40) hC fl_AC_49 sh_AC rfl d_AC_morning_41 ?_
    refine VO_geti hC fl_AC_213 (sh_MO isMO_40) rfl d_AC_morning_44 ?_
    exact VO_ireturn d_AC_morning_47
  refine VO_ite (fun c5_2 => ?_) (fun c5_2 => ?_)
  · refine VO_tin (tgt := 48) (off := (43 : Int)) hC d_AC_morning_5 (by rw [c5_2]; decide) (by rw [c5_2]; decide) (by first | (rw [c5_2]; done) | (rw [c5_2]; rfl)) (by decide) ?_
    refine VO_aload hC d_AC_morning_48 0 rfl ?_
    refine VO_getr (r := 40) hC fl_AC_49 sh_AC rfl d_AC_morning_49 ?_
    refine VO_geti hC fl_AC_216 (sh_MO isMO_40) rfl d_AC_morning_52 ?_
    exact VO_ireturn d_AC_morning_55
  refine VO_tout (tgt := 56) hC d_AC_morning_5 (by have e0 := lv_neT (a := 0) c5_0 rfl; have e1 := lv_neT (a := 1) c5_1 rfl; have e2 := lv_neT (a := 2) c5_2 rfl; omega) (by decide) ?_
  refine VO_aload hC d_AC_morning_56 0 rfl ?_
  refine VO_const hC d_AC_morning_57 ?_
  refine VO_callVI hC [.int (-2 : Int32)] [] ml_AC_90 d_AC_morning_59 yv_AC_refuse sh_AC rfl rfl (fun o h => M_AC_refuse hC.inj h) (by decide) rfl rfl (Nat.le_of_ble_eq_true rfl) (fun o2 => ?_)
  exact VO_ireturn d_AC_morning_62
set_option maxRecDepth 20000 in
theorem M_AC_morning {l : Launch} {D : va_G} {ad : Nat → Nat} {cI cL : ClassId} (hj : Inj ad) {a1 : Int32} {s : St} {o : Int32 × St} (h : F_AC_morning a1 s = some o) : Cn l D ad cI cL y_AC_morning b_AC_morning 2 (some .int) 6 [.ref (ad 0), .int a1] s (some (.int o.1)) o.2 := by
  refine Cn_ofI hj (plainFor_of_name (by decide)) (Nat.le_of_ble_eq_true rfl) [(0, .ref (ad 0)), (1, .int a1)] rfl (fun G hC e1 e2 e3 e4 e5 hR => ?_)
  subst e1; subst e2; subst e3; subst e4; subst e5
  exact B_AC_morning hC a1 s o h hR
theorem d_AC_least_0 : PLi b_AC_least 0 1 1 := Or.inl ⟨1, by decide +kernel, rfl, rfl⟩
theorem d_AC_least_1 : PCi b_AC_least 1 (-1) 2 := Or.inl ⟨(-1), by decide +kernel, by decide, rfl⟩
theorem d_AC_least_2 : DJ b_AC_least 2 (.if_icmp .eq) 5 22 := ⟨20, by decide +kernel, rfl, by decide⟩
theorem d_AC_least_5 : PLa b_AC_least 5 0 6 := Or.inl ⟨0, by decide +kernel, rfl, rfl⟩
theorem d_AC_least_6 : DR b_AC_least 6 (.getfield 10) 3 9 := ⟨by decide +kernel, rfl⟩
theorem d_AC_least_9 : PLi b_AC_least 9 1 10 := Or.inl ⟨1, by decide +kernel, rfl, rfl⟩
theorem d_AC_least_10 : DR b_AC_least 10 (.invokevirtual 129) 3 13 := ⟨by decide +kernel, rfl⟩
theorem d_AC_least_13 : DJ b_AC_least 13 (.ifCond .ne) 16 22 := ⟨9, by decide +kernel, rfl, by decide⟩
theorem d_AC_least_16 : PLa b_AC_least 16 0 17 := Or.inl ⟨0, by decide +kernel, rfl, rfl⟩
theorem d_AC_least_17 : PCi b_AC_least 17 (-1) 18 := Or.inl ⟨(-1), by decide +kernel, by decide, rfl⟩
theorem d_AC_least_18 : DR b_AC_least 18 (.invokevirtual 90) 3 21 := ⟨by decide +kernel, rfl⟩
theorem d_AC_least_21 : DR b_AC_least 21 (.ireturn) 1 22 := ⟨by decide +kernel, rfl⟩
theorem d_AC_least_22 : PLa b_AC_least 22 0 23 := Or.inl ⟨0, by decide +kernel, rfl, rfl⟩
theorem d_AC_least_23 : DR b_AC_least 23 (.getfield 39) 3 26 := ⟨by decide +kernel, rfl⟩
theorem d_AC_least_26 : PLa b_AC_least 26 0 27 := Or.inl ⟨0, by decide +kernel, rfl, rfl⟩
theorem d_AC_least_27 : DR b_AC_least 27 (.getfield 10) 3 30 := ⟨by decide +kernel, rfl⟩
theorem d_AC_least_30 : DR b_AC_least 30 (.invokevirtual 219) 3 33 := ⟨by decide +kernel, rfl⟩
theorem d_AC_least_33 : PLa b_AC_least 33 0 34 := Or.inl ⟨0, by decide +kernel, rfl, rfl⟩
theorem d_AC_least_34 : DR b_AC_least 34 (.getfield 66) 3 37 := ⟨by decide +kernel, rfl⟩
theorem d_AC_least_37 : PLa b_AC_least 37 0 38 := Or.inl ⟨0, by decide +kernel, rfl, rfl⟩
theorem d_AC_least_38 : DR b_AC_least 38 (.getfield 39) 3 41 := ⟨by decide +kernel, rfl⟩
theorem d_AC_least_41 : DR b_AC_least 41 (.invokevirtual 222) 3 44 := ⟨by decide +kernel, rfl⟩
theorem d_AC_least_44 : PLi b_AC_least 44 1 45 := Or.inl ⟨1, by decide +kernel, rfl, rfl⟩
theorem d_AC_least_45 : PCi b_AC_least 45 (-1) 46 := Or.inl ⟨(-1), by decide +kernel, by decide, rfl⟩
theorem d_AC_least_46 : DJ b_AC_least 46 (.if_icmp .ne) 49 61 := ⟨15, by decide +kernel, rfl, by decide⟩
theorem d_AC_least_49 : PLa b_AC_least 49 0 50 := Or.inl ⟨0, by decide +kernel, rfl, rfl⟩
theorem d_AC_least_50 : DR b_AC_least 50 (.getfield 66) 3 53 := ⟨by decide +kernel, rfl⟩
theorem d_AC_least_53 : PCi b_AC_least 53 0 54 := Or.inl ⟨0, by decide +kernel, by decide, rfl⟩
theorem d_AC_least_54 : PCi b_AC_least 54 0 55 := Or.inl ⟨0, by decide +kernel, by decide, rfl⟩
theorem d_AC_least_55 : DR b_AC_least 55 (.invokevirtual 226) 3 58 := ⟨by decide +kernel, rfl⟩
theorem d_AC_least_58 : DJ b_AC_least 58 .goto 61 73 := ⟨15, by decide +kernel, rfl, by decide⟩
theorem d_AC_least_61 : PLa b_AC_least 61 0 62 := Or.inl ⟨0, by decide +kernel, rfl, rfl⟩
theorem d_AC_least_62 : DR b_AC_least 62 (.getfield 66) 3 65 := ⟨by decide +kernel, rfl⟩
theorem d_AC_least_65 : PLa b_AC_least 65 0 66 := Or.inl ⟨0, by decide +kernel, rfl, rfl⟩
theorem d_AC_least_66 : DR b_AC_least 66 (.getfield 39) 3 69 := ⟨by decide +kernel, rfl⟩
theorem d_AC_least_69 : PLi b_AC_least 69 1 70 := Or.inl ⟨1, by decide +kernel, rfl, rfl⟩
theorem d_AC_least_70 : DR b_AC_least 70 (.invokevirtual 229) 3 73 := ⟨by decide +kernel, rfl⟩
theorem d_AC_least_73 : DR b_AC_least 73 (.ireturn) 1 74 := ⟨by decide +kernel, rfl⟩
set_option maxRecDepth 20000 in
theorem B_AC_least_22 {G : MCx} (hC : C0 G "AccusedChoose" b_AC_least 2 6) (v1 : Int32) (s : St) : VO G (RI G b_AC_least) (F_AC_least_22 v1 s) 22 [(0, .ref (gad G 0)), (1, .int v1)] [] s := by
  unfold F_AC_least_22
  refine VO_aload hC d_AC_least_22 0 rfl ?_
  refine VO_getr (r := 36) hC fl_AC_39 sh_AC rfl d_AC_least_23 ?_
  refine VO_aload hC d_AC_least_26 0 rfl ?_
  refine VO_getr (r := 1) hC fl_AC_10 sh_AC rfl d_AC_least_27 ?_
  refine VO_callVV hC [.ref (gad G 1)] [] ml_AC_219 d_AC_least_30 yv_PR_fill (sh_PR isPR_36) rfl rfl (fun o h => M_PR_fill hC.inj isPR_36 isNI_1 h) (by decide) rfl rfl (Nat.le_of_ble_eq_true rfl) (fun s1 => ?_)
  refine VO_aload hC d_AC_least_33 0 rfl ?_
  refine VO_getr (r := 49) hC fl_AC_66 sh_AC rfl d_AC_least_34 ?_
  refine VO_aload hC d_AC_least_37 0 rfl ?_
  refine VO_getr (r := 36) hC fl_AC_39 sh_AC rfl d_AC_least_38 ?_
  refine VO_callVV hC [.ref (gad G 36)] [] ml_AC_222 d_AC_least_41 yv_TA_fillLeast sh_TA rfl rfl (fun o h => M_TA_fillLeast hC.inj isPR_36 h) (by decide) rfl rfl (Nat.le_of_ble_eq_true rfl) (fun s2 => ?_)
  refine VO_iload hC d_AC_least_44 1 rfl ?_
  refine VO_const hC d_AC_least_45 ?_
  refine VO_icmp_ne hC d_AC_least_46 (fun _ => ?_) (fun _ => ?_)
  · refine VO_aload hC d_AC_least_49 0 rfl ?_
    refine VO_getr (r := 49) hC fl_AC_66 sh_AC rfl d_AC_least_50 ?_
    refine VO_const hC d_AC_least_53 ?_
    refine VO_const hC d_AC_least_54 ?_
    refine VO_callVI hC [.int (0 : Int32), .int (0 : Int32)] [] ml_AC_226 d_AC_least_55 yv_TA_get sh_TA rfl rfl (fun o h => M_TA_get hC.inj h) (by decide) rfl rfl (Nat.le_of_ble_eq_true rfl) (fun o4 => ?_)
    refine VO_goto hC d_AC_least_58 ?_
    exact VO_ireturn d_AC_least_73
  · refine VO_aload hC d_AC_least_61 0 rfl ?_
    refine VO_getr (r := 49) hC fl_AC_66 sh_AC rfl d_AC_least_62 ?_
    refine VO_aload hC d_AC_least_65 0 rfl ?_
    refine VO_getr (r := 36) hC fl_AC_39 sh_AC rfl d_AC_least_66 ?_
    refine VO_iload hC d_AC_least_69 1 rfl ?_
    refine VO_callVI hC [.ref (gad G 36), .int v1] [] ml_AC_229 d_AC_least_70 yv_TA_leastDeed sh_TA rfl rfl (fun o h => M_TA_leastDeed hC.inj isPR_36 h) (by decide) rfl rfl (Nat.le_of_ble_eq_true rfl) (fun o3 => ?_)
    exact VO_ireturn d_AC_least_73
set_option maxRecDepth 20000 in
theorem B_AC_least {G : MCx} (hC : C0 G "AccusedChoose" b_AC_least 2 6) (a1 : Int32) (s : St) : VO G (RI G b_AC_least) (F_AC_least a1 s) 0 [(0, .ref (gad G 0)), (1, .int a1)] [] s := by
  unfold F_AC_least
  refine VO_iload hC d_AC_least_0 1 rfl ?_
  refine VO_const hC d_AC_least_1 ?_
  refine VO_icmp_eq hC d_AC_least_2 (fun _ => ?_) (fun _ => ?_)
  · exact (B_AC_least_22 hC a1 s)
  · refine VO_aload hC d_AC_least_5 0 rfl ?_
    refine VO_getr (r := 1) hC fl_AC_10 sh_AC rfl d_AC_least_6 ?_
    refine VO_iload hC d_AC_least_9 1 rfl ?_
    refine VO_callVI hC [.int a1] [] ml_AC_129 d_AC_least_10 yv_NI_hasPerson (sh_NI isNI_1) rfl rfl (fun o h => M_NI_hasPerson hC.inj isNI_1 h) (by decide) rfl rfl (Nat.le_of_ble_eq_true rfl) (fun o5 => ?_)
    refine VO_if_ne hC d_AC_least_13 (fun _ => ?_) (fun _ => ?_)
    · refine VO_aload hC d_AC_least_16 0 rfl ?_
      refine VO_const hC d_AC_least_17 ?_
      refine VO_callVI hC [.int (-1 : Int32)] [] ml_AC_90 d_AC_least_18 yv_AC_refuse sh_AC rfl rfl (fun o h => M_AC_refuse hC.inj h) (by decide) rfl rfl (Nat.le_of_ble_eq_true rfl) (fun o6 => ?_)
      exact VO_ireturn d_AC_least_21
    · exact (B_AC_least_22 hC a1 o5.2)
set_option maxRecDepth 20000 in
theorem M_AC_least {l : Launch} {D : va_G} {ad : Nat → Nat} {cI cL : ClassId} (hj : Inj ad) {a1 : Int32} {s : St} {o : Int32 × St} (h : F_AC_least a1 s = some o) : Cn l D ad cI cL y_AC_least b_AC_least 2 (some .int) 6 [.ref (ad 0), .int a1] s (some (.int o.1)) o.2 := by
  refine Cn_ofI hj (plainFor_of_name (by decide)) (Nat.le_of_ble_eq_true rfl) [(0, .ref (ad 0)), (1, .int a1)] rfl (fun G hC e1 e2 e3 e4 e5 hR => ?_)
  subst e1; subst e2; subst e3; subst e4; subst e5
  exact B_AC_least hC a1 s o h hR
theorem d_AC_fromLast_0 : PLa b_AC_fromLast 0 0 1 := Or.inl ⟨0, by decide +kernel, rfl, rfl⟩
theorem d_AC_fromLast_1 : DR b_AC_fromLast 1 (.getfield 10) 3 4 := ⟨by decide +kernel, rfl⟩
theorem d_AC_fromLast_4 : PLi b_AC_fromLast 4 1 5 := Or.inl ⟨1, by decide +kernel, rfl, rfl⟩
theorem d_AC_fromLast_5 : DR b_AC_fromLast 5 (.invokevirtual 129) 3 8 := ⟨by decide +kernel, rfl⟩
theorem d_AC_fromLast_8 : DJ b_AC_fromLast 8 (.ifCond .ne) 11 17 := ⟨9, by decide +kernel, rfl, by decide⟩
theorem d_AC_fromLast_11 : PLa b_AC_fromLast 11 0 12 := Or.inl ⟨0, by decide +kernel, rfl, rfl⟩
theorem d_AC_fromLast_12 : PCi b_AC_fromLast 12 (-1) 13 := Or.inl ⟨(-1), by decide +kernel, by decide, rfl⟩
theorem d_AC_fromLast_13 : DR b_AC_fromLast 13 (.invokevirtual 90) 3 16 := ⟨by decide +kernel, rfl⟩
theorem d_AC_fromLast_16 : DR b_AC_fromLast 16 (.ireturn) 1 17 := ⟨by decide +kernel, rfl⟩
theorem d_AC_fromLast_17 : PLi b_AC_fromLast 17 2 18 := Or.inl ⟨2, by decide +kernel, rfl, rfl⟩
theorem d_AC_fromLast_18 : DJ b_AC_fromLast 18 (.ifCond .lt) 21 26 := ⟨8, by decide +kernel, rfl, by decide⟩
theorem d_AC_fromLast_21 : PLi b_AC_fromLast 21 2 22 := Or.inl ⟨2, by decide +kernel, rfl, rfl⟩
theorem d_AC_fromLast_22 : PCi b_AC_fromLast 22 1 23 := Or.inl ⟨1, by decide +kernel, by decide, rfl⟩
theorem d_AC_fromLast_23 : DJ b_AC_fromLast 23 (.if_icmp .le) 26 33 := ⟨10, by decide +kernel, rfl, by decide⟩
theorem d_AC_fromLast_26 : PLa b_AC_fromLast 26 0 27 := Or.inl ⟨0, by decide +kernel, rfl, rfl⟩
theorem d_AC_fromLast_27 : PCi b_AC_fromLast 27 (-2) 29 := Or.inr (Or.inl ⟨(-2), by decide +kernel, by decide, rfl⟩)
theorem d_AC_fromLast_29 : DR b_AC_fromLast 29 (.invokevirtual 90) 3 32 := ⟨by decide +kernel, rfl⟩
theorem d_AC_fromLast_32 : DR b_AC_fromLast 32 (.ireturn) 1 33 := ⟨by decide +kernel, rfl⟩
theorem d_AC_fromLast_33 : PLa b_AC_fromLast 33 0 34 := Or.inl ⟨0, by decide +kernel, rfl, rfl⟩
theorem d_AC_fromLast_34 : DR b_AC_fromLast 34 (.getfield 39) 3 37 := ⟨by decide +kernel, rfl⟩
theorem d_AC_fromLast_37 : PLa b_AC_fromLast 37 0 38 := Or.inl ⟨0, by decide +kernel, rfl, rfl⟩
theorem d_AC_fromLast_38 : DR b_AC_fromLast 38 (.getfield 10) 3 41 := ⟨by decide +kernel, rfl⟩
theorem d_AC_fromLast_41 : DR b_AC_fromLast 41 (.invokevirtual 219) 3 44 := ⟨by decide +kernel, rfl⟩
theorem d_AC_fromLast_44 : PLa b_AC_fromLast 44 0 45 := Or.inl ⟨0, by decide +kernel, rfl, rfl⟩
theorem d_AC_fromLast_45 : DR b_AC_fromLast 45 (.getfield 59) 3 48 := ⟨by decide +kernel, rfl⟩
theorem d_AC_fromLast_48 : PLa b_AC_fromLast 48 0 49 := Or.inl ⟨0, by decide +kernel, rfl, rfl⟩
theorem d_AC_fromLast_49 : DR b_AC_fromLast 49 (.getfield 39) 3 52 := ⟨by decide +kernel, rfl⟩
theorem d_AC_fromLast_52 : PLa b_AC_fromLast 52 0 53 := Or.inl ⟨0, by decide +kernel, rfl, rfl⟩
theorem d_AC_fromLast_53 : DR b_AC_fromLast 53 (.getfield 10) 3 56 := ⟨by decide +kernel, rfl⟩
theorem d_AC_fromLast_56 : DR b_AC_fromLast 56 (.invokevirtual 233) 3 59 := ⟨by decide +kernel, rfl⟩
theorem d_AC_fromLast_59 : PLi b_AC_fromLast 59 2 60 := Or.inl ⟨2, by decide +kernel, rfl, rfl⟩
theorem d_AC_fromLast_60 : DJ b_AC_fromLast 60 (.ifCond .ne) 63 73 := ⟨13, by decide +kernel, rfl, by decide⟩
theorem d_AC_fromLast_63 : PLa b_AC_fromLast 63 0 64 := Or.inl ⟨0, by decide +kernel, rfl, rfl⟩
theorem d_AC_fromLast_64 : DR b_AC_fromLast 64 (.getfield 59) 3 67 := ⟨by decide +kernel, rfl⟩
theorem d_AC_fromLast_67 : DR b_AC_fromLast 67 (.getfield 237) 3 70 := ⟨by decide +kernel, rfl⟩
theorem d_AC_fromLast_70 : DJ b_AC_fromLast 70 .goto 73 80 := ⟨10, by decide +kernel, rfl, by decide⟩
theorem d_AC_fromLast_73 : PLa b_AC_fromLast 73 0 74 := Or.inl ⟨0, by decide +kernel, rfl, rfl⟩
theorem d_AC_fromLast_74 : DR b_AC_fromLast 74 (.getfield 59) 3 77 := ⟨by decide +kernel, rfl⟩
theorem d_AC_fromLast_77 : DR b_AC_fromLast 77 (.getfield 238) 3 80 := ⟨by decide +kernel, rfl⟩
theorem d_AC_fromLast_80 : PLi b_AC_fromLast 80 1 81 := Or.inl ⟨1, by decide +kernel, rfl, rfl⟩
theorem d_AC_fromLast_81 : DR b_AC_fromLast 81 (.invokestatic 122) 3 84 := ⟨by decide +kernel, rfl⟩
theorem d_AC_fromLast_84 : DR b_AC_fromLast 84 (.ireturn) 1 85 := ⟨by decide +kernel, rfl⟩
set_option maxRecDepth 20000 in
theorem B_AC_fromLast_26 {G : MCx} (hC : C0 G "AccusedChoose" b_AC_fromLast 3 22) (s : St) : VO G (RI G b_AC_fromLast) (F_AC_fromLast_26 s) 26 [(0, .ref (gad G 0))] [] s := by
  unfold F_AC_fromLast_26
  refine VO_aload hC d_AC_fromLast_26 0 rfl ?_
  refine VO_const hC d_AC_fromLast_27 ?_
  refine VO_callVI hC [.int (-2 : Int32)] [] ml_AC_90 d_AC_fromLast_29 yv_AC_refuse sh_AC rfl rfl (fun o h => M_AC_refuse hC.inj h) (by decide) rfl rfl (Nat.le_of_ble_eq_true rfl) (fun o2 => ?_)
  exact VO_ireturn d_AC_fromLast_32
set_option maxRecDepth 20000 in
theorem B_AC_fromLast {G : MCx} (hC : C0 G "AccusedChoose" b_AC_fromLast 3 22) (a1 : Int32) (a2 : Int32) (s : St) : VO G (RI G b_AC_fromLast) (F_AC_fromLast a1 a2 s) 0 [(0, .ref (gad G 0)), (1, .int a1), (2, .int a2)] [] s := by
  unfold F_AC_fromLast
  refine VO_aload hC d_AC_fromLast_0 0 rfl ?_
  refine VO_getr (r := 1) hC fl_AC_10 sh_AC rfl d_AC_fromLast_1 ?_
  refine VO_iload hC d_AC_fromLast_4 1 rfl ?_
  refine VO_callVI hC [.int a1] [] ml_AC_129 d_AC_fromLast_5 yv_NI_hasPerson (sh_NI isNI_1) rfl rfl (fun o h => M_NI_hasPerson hC.inj isNI_1 h) (by decide) rfl rfl (Nat.le_of_ble_eq_true rfl) (fun o1 => ?_)
  refine VO_if_ne hC d_AC_fromLast_8 (fun _ => ?_) (fun _ => ?_)
  · refine VO_aload hC d_AC_fromLast_11 0 rfl ?_
    refine VO_const hC d_AC_fromLast_12 ?_
    refine VO_callVI hC [.int (-1 : Int32)] [] ml_AC_90 d_AC_fromLast_13 yv_AC_refuse sh_AC rfl rfl (fun o h => M_AC_refuse hC.inj h) (by decide) rfl rfl (Nat.le_of_ble_eq_true rfl) (fun o7 => ?_)
    exact VO_ireturn d_AC_fromLast_16
  · refine VO_iload hC d_AC_fromLast_17 2 rfl ?_
    refine VO_if_lt hC d_AC_fromLast_18 (fun _ => ?_) (fun _ => ?_)
    · exact VO_sub [0] rfl (B_AC_fromLast_26 hC o1.2)
    · refine VO_iload hC d_AC_fromLast_21 2 rfl ?_
      refine VO_const hC d_AC_fromLast_22 ?_
      refine VO_icmp_le hC d_AC_fromLast_23 (fun _ => ?_) (fun _ => ?_)
      · refine VO_aload hC d_AC_fromLast_33 0 rfl ?_
        refine VO_getr (r := 36) hC fl_AC_39 sh_AC rfl d_AC_fromLast_34 ?_
        refine VO_aload hC d_AC_fromLast_37 0 rfl ?_
        refine VO_getr (r := 1) hC fl_AC_10 sh_AC rfl d_AC_fromLast_38 ?_
        refine VO_callVV hC [.ref (gad G 1)] [] ml_AC_219 d_AC_fromLast_41 yv_PR_fill (sh_PR isPR_36) rfl rfl (fun o h => M_PR_fill hC.inj isPR_36 isNI_1 h) (by decide) rfl rfl (Nat.le_of_ble_eq_true rfl) (fun s3 => ?_)
        refine VO_aload hC d_AC_fromLast_44 0 rfl ?_
        refine VO_getr (r := 46) hC fl_AC_59 sh_AC rfl d_AC_fromLast_45 ?_
        refine VO_aload hC d_AC_fromLast_48 0 rfl ?_
        refine VO_getr (r := 36) hC fl_AC_39 sh_AC rfl d_AC_fromLast_49 ?_
        refine VO_aload hC d_AC_fromLast_52 0 rfl ?_
        refine VO_getr (r := 1) hC fl_AC_10 sh_AC rfl d_AC_fromLast_53 ?_
        refine VO_callVV hC [.ref (gad G 36), .ref (gad G 1)] [] ml_AC_233 d_AC_fromLast_56 yv_LB_hold sh_LB rfl rfl (fun o h => M_LB_hold hC.inj isPR_36 isNI_1 h) (by decide) rfl rfl (Nat.le_of_ble_eq_true rfl) (fun s4 => ?_)
        refine VO_iload hC d_AC_fromLast_59 2 rfl ?_
        refine VO_if_ne hC d_AC_fromLast_60 (fun _ => ?_) (fun _ => ?_)
        · refine VO_aload hC d_AC_fromLast_63 0 rfl ?_
          refine VO_getr (r := 46) hC fl_AC_59 sh_AC rfl d_AC_fromLast_64 ?_
          refine VO_getr (r := 47) hC fl_AC_237 sh_LB rfl d_AC_fromLast_67 ?_
          refine VO_goto hC d_AC_fromLast_70 ?_
          refine VO_iload hC d_AC_fromLast_80 1 rfl ?_
          refine VO_callSI hC [.ref (gad G 47), .int a1] [] ml_AC_122 d_AC_fromLast_81 ys_AC_at (fun o h => M_AC_at hC.inj ia_47 h) (by decide) rfl rfl (Nat.le_of_ble_eq_true rfl) (fun o6 => ?_)
          exact VO_ireturn d_AC_fromLast_84
        · refine VO_aload hC d_AC_fromLast_73 0 rfl ?_
          refine VO_getr (r := 46) hC fl_AC_59 sh_AC rfl d_AC_fromLast_74 ?_
          refine VO_getr (r := 48) hC fl_AC_238 sh_LB rfl d_AC_fromLast_77 ?_
          refine VO_iload hC d_AC_fromLast_80 1 rfl ?_
          refine VO_callSI hC [.ref (gad G 48), .int a1] [] ml_AC_122 d_AC_fromLast_81 ys_AC_at (fun o h => M_AC_at hC.inj ia_48 h) (by decide) rfl rfl (Nat.le_of_ble_eq_true rfl) (fun o5 => ?_)
          exact VO_ireturn d_AC_fromLast_84
      · exact VO_sub [0] rfl (B_AC_fromLast_26 hC o1.2)
set_option maxRecDepth 20000 in
theorem M_AC_fromLast {l : Launch} {D : va_G} {ad : Nat → Nat} {cI cL : ClassId} (hj : Inj ad) {a1 : Int32} {a2 : Int32} {s : St} {o : Int32 × St} (h : F_AC_fromLast a1 a2 s = some o) : Cn l D ad cI cL y_AC_fromLast b_AC_fromLast 3 (some .int) 22 [.ref (ad 0), .int a1, .int a2] s (some (.int o.1)) o.2 := by
  refine Cn_ofI hj (plainFor_of_name (by decide)) (Nat.le_of_ble_eq_true rfl) [(0, .ref (ad 0)), (1, .int a1), (2, .int a2)] rfl (fun G hC e1 e2 e3 e4 e5 hR => ?_)
  subst e1; subst e2; subst e3; subst e4; subst e5
  exact B_AC_fromLast hC a1 a2 s o h hR
theorem d_AC_allFromLast_0 : PLa b_AC_allFromLast 0 0 1 := Or.inl ⟨0, by decide +kernel, rfl, rfl⟩
theorem d_AC_allFromLast_1 : DR b_AC_allFromLast 1 (.getfield 39) 3 4 := ⟨by decide +kernel, rfl⟩
theorem d_AC_allFromLast_4 : PLa b_AC_allFromLast 4 0 5 := Or.inl ⟨0, by decide +kernel, rfl, rfl⟩
theorem d_AC_allFromLast_5 : DR b_AC_allFromLast 5 (.getfield 10) 3 8 := ⟨by decide +kernel, rfl⟩
theorem d_AC_allFromLast_8 : DR b_AC_allFromLast 8 (.invokevirtual 219) 3 11 := ⟨by decide +kernel, rfl⟩
theorem d_AC_allFromLast_11 : PLa b_AC_allFromLast 11 0 12 := Or.inl ⟨0, by decide +kernel, rfl, rfl⟩
theorem d_AC_allFromLast_12 : DR b_AC_allFromLast 12 (.getfield 59) 3 15 := ⟨by decide +kernel, rfl⟩
theorem d_AC_allFromLast_15 : PLa b_AC_allFromLast 15 0 16 := Or.inl ⟨0, by decide +kernel, rfl, rfl⟩
theorem d_AC_allFromLast_16 : DR b_AC_allFromLast 16 (.getfield 39) 3 19 := ⟨by decide +kernel, rfl⟩
theorem d_AC_allFromLast_19 : PLa b_AC_allFromLast 19 0 20 := Or.inl ⟨0, by decide +kernel, rfl, rfl⟩
theorem d_AC_allFromLast_20 : DR b_AC_allFromLast 20 (.getfield 10) 3 23 := ⟨by decide +kernel, rfl⟩
theorem d_AC_allFromLast_23 : DR b_AC_allFromLast 23 (.invokevirtual 233) 3 26 := ⟨by decide +kernel, rfl⟩
theorem d_AC_allFromLast_26 : PLa b_AC_allFromLast 26 0 27 := Or.inl ⟨0, by decide +kernel, rfl, rfl⟩
theorem d_AC_allFromLast_27 : DR b_AC_allFromLast 27 (.getfield 59) 3 30 := ⟨by decide +kernel, rfl⟩
theorem d_AC_allFromLast_30 : DR b_AC_allFromLast 30 (.getfield 239) 3 33 := ⟨by decide +kernel, rfl⟩
theorem d_AC_allFromLast_33 : DR b_AC_allFromLast 33 (.ireturn) 1 34 := ⟨by decide +kernel, rfl⟩
set_option maxRecDepth 20000 in
theorem B_AC_allFromLast {G : MCx} (hC : C0 G "AccusedChoose" b_AC_allFromLast 1 22) (s : St) : VO G (RI G b_AC_allFromLast) (F_AC_allFromLast s) 0 [(0, .ref (gad G 0))] [] s := by
  unfold F_AC_allFromLast
  refine VO_aload hC d_AC_allFromLast_0 0 rfl ?_
  refine VO_getr (r := 36) hC fl_AC_39 sh_AC rfl d_AC_allFromLast_1 ?_
  refine VO_aload hC d_AC_allFromLast_4 0 rfl ?_
  refine VO_getr (r := 1) hC fl_AC_10 sh_AC rfl d_AC_allFromLast_5 ?_
  refine VO_callVV hC [.ref (gad G 1)] [] ml_AC_219 d_AC_allFromLast_8 yv_PR_fill (sh_PR isPR_36) rfl rfl (fun o h => M_PR_fill hC.inj isPR_36 isNI_1 h) (by decide) rfl rfl (Nat.le_of_ble_eq_true rfl) (fun s1 => ?_)
  refine VO_aload hC d_AC_allFromLast_11 0 rfl ?_
  refine VO_getr (r := 46) hC fl_AC_59 sh_AC rfl d_AC_allFromLast_12 ?_
  refine VO_aload hC d_AC_allFromLast_15 0 rfl ?_
  refine VO_getr (r := 36) hC fl_AC_39 sh_AC rfl d_AC_allFromLast_16 ?_
  refine VO_aload hC d_AC_allFromLast_19 0 rfl ?_
  refine VO_getr (r := 1) hC fl_AC_10 sh_AC rfl d_AC_allFromLast_20 ?_
  refine VO_callVV hC [.ref (gad G 36), .ref (gad G 1)] [] ml_AC_233 d_AC_allFromLast_23 yv_LB_hold sh_LB rfl rfl (fun o h => M_LB_hold hC.inj isPR_36 isNI_1 h) (by decide) rfl rfl (Nat.le_of_ble_eq_true rfl) (fun s2 => ?_)
  refine VO_aload hC d_AC_allFromLast_26 0 rfl ?_
  refine VO_getr (r := 46) hC fl_AC_59 sh_AC rfl d_AC_allFromLast_27 ?_
  refine VO_geti hC fl_AC_239 sh_LB rfl d_AC_allFromLast_30 ?_
  exact VO_ireturn d_AC_allFromLast_33
set_option maxRecDepth 20000 in
theorem M_AC_allFromLast {l : Launch} {D : va_G} {ad : Nat → Nat} {cI cL : ClassId} (hj : Inj ad) {s : St} {o : Int32 × St} (h : F_AC_allFromLast s = some o) : Cn l D ad cI cL y_AC_allFromLast b_AC_allFromLast 1 (some .int) 22 [.ref (ad 0)] s (some (.int o.1)) o.2 := by
  refine Cn_ofI hj (plainFor_of_name (by decide)) (Nat.le_of_ble_eq_true rfl) [(0, .ref (ad 0))] rfl (fun G hC e1 e2 e3 e4 e5 hR => ?_)
  subst e1; subst e2; subst e3; subst e4; subst e5
  exact B_AC_allFromLast hC s o h hR
theorem d_AC_refuseLong_0 : DR b_AC_refuseLong 0 (.ldc2_w 378) 3 3 := ⟨by decide +kernel, rfl⟩
theorem d_AC_refuseLong_3 : PLa b_AC_refuseLong 3 0 4 := Or.inl ⟨0, by decide +kernel, rfl, rfl⟩
theorem d_AC_refuseLong_4 : PLi b_AC_refuseLong 4 1 5 := Or.inl ⟨1, by decide +kernel, rfl, rfl⟩
theorem d_AC_refuseLong_5 : DR b_AC_refuseLong 5 (.invokevirtual 90) 3 8 := ⟨by decide +kernel, rfl⟩
theorem d_AC_refuseLong_8 : DR b_AC_refuseLong 8 (.i2l) 1 9 := ⟨by decide +kernel, rfl⟩
theorem d_AC_refuseLong_9 : DR b_AC_refuseLong 9 (.lsub) 1 10 := ⟨by decide +kernel, rfl⟩
theorem d_AC_refuseLong_10 : DR b_AC_refuseLong 10 (.lreturn) 1 11 := ⟨by decide +kernel, rfl⟩
set_option maxRecDepth 20000 in
theorem B_AC_refuseLong {G : MCx} (hC : C0 G "AccusedChoose" b_AC_refuseLong 2 3) (a1 : Int32) (s : St) : VO G (RLo G b_AC_refuseLong) (F_AC_refuseLong a1 s) 0 [(0, .ref (gad G 0)), (1, .int a1)] [] s := by
  unfold F_AC_refuseLong
  refine VO_ldc2 hC k_AC_378 d_AC_refuseLong_0 ?_
  refine VO_aload hC d_AC_refuseLong_3 0 rfl ?_
  refine VO_iload hC d_AC_refuseLong_4 1 rfl ?_
  refine VO_callVI hC [.int a1] [.long (4000000000000000000 : Int64)] ml_AC_90 d_AC_refuseLong_5 yv_AC_refuse sh_AC rfl rfl (fun o h => M_AC_refuse hC.inj h) (by decide) rfl rfl (Nat.le_of_ble_eq_true rfl) (fun o1 => ?_)
  refine VO_i2l hC d_AC_refuseLong_8 ?_
  refine VO_lsub hC d_AC_refuseLong_9 ?_
  exact VO_lreturn d_AC_refuseLong_10
set_option maxRecDepth 20000 in
theorem M_AC_refuseLong {l : Launch} {D : va_G} {ad : Nat → Nat} {cI cL : ClassId} (hj : Inj ad) {a1 : Int32} {s : St} {o : Int64 × St} (h : F_AC_refuseLong a1 s = some o) : Cn l D ad cI cL y_AC_refuseLong b_AC_refuseLong 2 (some .long) 3 [.ref (ad 0), .int a1] s (some (.long o.1)) o.2 := by
  refine Cn_ofL hj (plainFor_of_name (by decide)) (Nat.le_of_ble_eq_true rfl) [(0, .ref (ad 0)), (1, .int a1)] rfl (fun G hC e1 e2 e3 e4 e5 hR => ?_)
  subst e1; subst e2; subst e3; subst e4; subst e5
  exact B_AC_refuseLong hC a1 s o h hR
theorem d_AC_giveOut_0 : PCi b_AC_giveOut 0 0 1 := Or.inl ⟨0, by decide +kernel, by decide, rfl⟩
theorem d_AC_giveOut_1 : PSi b_AC_giveOut 1 4 3 := Or.inr ⟨by decide +kernel, rfl⟩
theorem d_AC_giveOut_3 : PLi b_AC_giveOut 3 4 5 := Or.inr ⟨by decide +kernel, rfl⟩
theorem d_AC_giveOut_5 : PLa b_AC_giveOut 5 0 6 := Or.inl ⟨0, by decide +kernel, rfl, rfl⟩
theorem d_AC_giveOut_6 : DR b_AC_giveOut 6 (.getfield 10) 3 9 := ⟨by decide +kernel, rfl⟩
theorem d_AC_giveOut_9 : DR b_AC_giveOut 9 (.getfield 164) 3 12 := ⟨by decide +kernel, rfl⟩
theorem d_AC_giveOut_12 : DJ b_AC_giveOut 12 (.if_icmp .ge) 15 103 := ⟨91, by decide +kernel, rfl, by decide⟩
theorem d_AC_giveOut_15 : PLi b_AC_giveOut 15 3 16 := Or.inl ⟨3, by decide +kernel, rfl, rfl⟩
theorem d_AC_giveOut_16 : PCi b_AC_giveOut 16 (-9) 18 := Or.inr (Or.inl ⟨(-9), by decide +kernel, by decide, rfl⟩)
theorem d_AC_giveOut_18 : DJ b_AC_giveOut 18 (.if_icmp .eq) 21 27 := ⟨9, by decide +kernel, rfl, by decide⟩
theorem d_AC_giveOut_21 : PLi b_AC_giveOut 21 3 22 := Or.inl ⟨3, by decide +kernel, rfl, rfl⟩
theorem d_AC_giveOut_22 : PLi b_AC_giveOut 22 4 24 := Or.inr ⟨by decide +kernel, rfl⟩
theorem d_AC_giveOut_24 : DJ b_AC_giveOut 24 (.if_icmp .ne) 27 31 := ⟨7, by decide +kernel, rfl, by decide⟩
theorem d_AC_giveOut_27 : PCi b_AC_giveOut 27 1 28 := Or.inl ⟨1, by decide +kernel, by decide, rfl⟩
theorem d_AC_giveOut_28 : DJ b_AC_giveOut 28 .goto 31 32 := ⟨4, by decide +kernel, rfl, by decide⟩
theorem d_AC_giveOut_31 : PCi b_AC_giveOut 31 0 32 := Or.inl ⟨0, by decide +kernel, by decide, rfl⟩
theorem d_AC_giveOut_32 : PSi b_AC_giveOut 32 5 34 := Or.inr ⟨by decide +kernel, rfl⟩
theorem d_AC_giveOut_34 : PLi b_AC_giveOut 34 5 36 := Or.inr ⟨by decide +kernel, rfl⟩
theorem d_AC_giveOut_36 : DJ b_AC_giveOut 36 (.ifCond .eq) 39 97 := ⟨61, by decide +kernel, rfl, by decide⟩
theorem d_AC_giveOut_39 : PLi b_AC_giveOut 39 1 40 := Or.inl ⟨1, by decide +kernel, rfl, rfl⟩
theorem d_AC_giveOut_40 : PLi b_AC_giveOut 40 4 42 := Or.inr ⟨by decide +kernel, rfl⟩
theorem d_AC_giveOut_42 : DR b_AC_giveOut 42 (.invokestatic 189) 3 45 := ⟨by decide +kernel, rfl⟩
theorem d_AC_giveOut_45 : DJ b_AC_giveOut 45 (.ifCond .ne) 48 97 := ⟨52, by decide +kernel, rfl, by decide⟩
theorem d_AC_giveOut_48 : PLa b_AC_giveOut 48 0 49 := Or.inl ⟨0, by decide +kernel, rfl, rfl⟩
theorem d_AC_giveOut_49 : DR b_AC_giveOut 49 (.getfield 10) 3 52 := ⟨by decide +kernel, rfl⟩
theorem d_AC_giveOut_52 : PLi b_AC_giveOut 52 4 54 := Or.inr ⟨by decide +kernel, rfl⟩
theorem d_AC_giveOut_54 : PLi b_AC_giveOut 54 2 55 := Or.inl ⟨2, by decide +kernel, rfl, rfl⟩
theorem d_AC_giveOut_55 : DR b_AC_giveOut 55 (.invokevirtual 399) 3 58 := ⟨by decide +kernel, rfl⟩
theorem d_AC_giveOut_58 : DJ b_AC_giveOut 58 (.ifCond .eq) 61 97 := ⟨39, by decide +kernel, rfl, by decide⟩
theorem d_AC_giveOut_61 : PLi b_AC_giveOut 61 1 62 := Or.inl ⟨1, by decide +kernel, rfl, rfl⟩
theorem d_AC_giveOut_62 : PLi b_AC_giveOut 62 4 64 := Or.inr ⟨by decide +kernel, rfl⟩
theorem d_AC_giveOut_64 : DR b_AC_giveOut 64 (.invokestatic 276) 3 67 := ⟨by decide +kernel, rfl⟩
theorem d_AC_giveOut_67 : DR b_AC_giveOut 67 (.ior) 1 68 := ⟨by decide +kernel, rfl⟩
theorem d_AC_giveOut_68 : PSi b_AC_giveOut 68 6 70 := Or.inr ⟨by decide +kernel, rfl⟩
theorem d_AC_giveOut_70 : PLa b_AC_giveOut 70 0 71 := Or.inl ⟨0, by decide +kernel, rfl, rfl⟩
theorem d_AC_giveOut_71 : DR b_AC_giveOut 71 (.getfield 81) 3 74 := ⟨by decide +kernel, rfl⟩
theorem d_AC_giveOut_74 : PLi b_AC_giveOut 74 6 76 := Or.inr ⟨by decide +kernel, rfl⟩
theorem d_AC_giveOut_76 : PLa b_AC_giveOut 76 0 77 := Or.inl ⟨0, by decide +kernel, rfl, rfl⟩
theorem d_AC_giveOut_77 : DR b_AC_giveOut 77 (.getfield 81) 3 80 := ⟨by decide +kernel, rfl⟩
theorem d_AC_giveOut_80 : PLi b_AC_giveOut 80 6 82 := Or.inr ⟨by decide +kernel, rfl⟩
theorem d_AC_giveOut_82 : DR b_AC_giveOut 82 (.invokestatic 122) 3 85 := ⟨by decide +kernel, rfl⟩
theorem d_AC_giveOut_85 : PLa b_AC_giveOut 85 0 86 := Or.inl ⟨0, by decide +kernel, rfl, rfl⟩
theorem d_AC_giveOut_86 : DR b_AC_giveOut 86 (.getfield 81) 3 89 := ⟨by decide +kernel, rfl⟩
theorem d_AC_giveOut_89 : PLi b_AC_giveOut 89 1 90 := Or.inl ⟨1, by decide +kernel, rfl, rfl⟩
theorem d_AC_giveOut_90 : DR b_AC_giveOut 90 (.invokestatic 122) 3 93 := ⟨by decide +kernel, rfl⟩
theorem d_AC_giveOut_93 : DR b_AC_giveOut 93 (.iadd) 1 94 := ⟨by decide +kernel, rfl⟩
theorem d_AC_giveOut_94 : DR b_AC_giveOut 94 (.invokestatic 310) 3 97 := ⟨by decide +kernel, rfl⟩
theorem d_AC_giveOut_97 : DR b_AC_giveOut 97 (.iinc 4 1) 3 100 := ⟨by decide +kernel, rfl⟩
theorem d_AC_giveOut_100 : DJ b_AC_giveOut 100 .goto 103 3 := ⟨-97, by decide +kernel, rfl, by decide⟩
theorem d_AC_giveOut_103 : DR b_AC_giveOut 103 (.return_) 1 104 := ⟨by decide +kernel, rfl⟩
set_option maxRecDepth 20000 in
theorem B_AC_giveOut_97 {G : MCx} (hC : C0 G "AccusedChoose" b_AC_giveOut 7 5) {v1 : Int32} {v2 : Int32} {v3 : Int32} (K3 : Int32 × St → Option (St)) (hK3 : ∀ (w4 : Int32) (s : St), VO G (RV G b_AC_giveOut) (K3 (w4, s)) 3 [(0, .ref (gad G 0)), (1, .int v1), (2, .int v2), (3, .int v3), (4, .int w4)] [] s) (v4 : Int32) (s : St) : VO G (RV G b_AC_giveOut) (F_AC_giveOut_97 K3 v1 v2 v3 v4 s) 97 [(0, .ref (gad G 0)), (1, .int v1), (2, .int v2), (3, .int v3), (4, .int v4)] [] s := by
  unfold F_AC_giveOut_97
  refine VO_iinc hC d_AC_giveOut_97 4 rfl (by decide : Int32.ofInt 1 = 1) [(0, .ref (gad G 0)), (1, .int v1), (2, .int v2), (3, .int v3)] rfl (by decide) ?_
  refine VO_goto hC d_AC_giveOut_100 ?_
  exact VO_sub [1, 2, 3, 4, 0] rfl (hK3 (v4 + 1) s)
set_option maxRecDepth 20000 in
theorem B_AC_giveOut_32 {G : MCx} (hC : C0 G "AccusedChoose" b_AC_giveOut 7 5) {v1 : Int32} {v2 : Int32} {v3 : Int32} (K3 : Int32 × St → Option (St)) (hK3 : ∀ (w4 : Int32) (s : St), VO G (RV G b_AC_giveOut) (K3 (w4, s)) 3 [(0, .ref (gad G 0)), (1, .int v1), (2, .int v2), (3, .int v3), (4, .int w4)] [] s) (v4 : Int32) (z0 : Int32) (s : St) : VO G (RV G b_AC_giveOut) (F_AC_giveOut_32 K3 v1 v2 v3 v4 z0 s) 32 [(0, .ref (gad G 0)), (1, .int v1), (2, .int v2), (3, .int v3), (4, .int v4)] [.int z0] s := by
  unfold F_AC_giveOut_32
  refine VO_istore hC d_AC_giveOut_32 [(0, .ref (gad G 0)), (1, .int v1), (2, .int v2), (3, .int v3), (4, .int v4)] rfl (by decide) ?_
  refine VO_iload hC d_AC_giveOut_34 0 rfl ?_
  refine VO_if_eq hC d_AC_giveOut_36 (fun _ => ?_) (fun _ => ?_)
  · exact VO_sub [1, 2, 3, 4, 5] rfl (B_AC_giveOut_97 hC K3 hK3 v4 s)
  · refine VO_iload hC d_AC_giveOut_39 2 rfl ?_
    refine VO_iload hC d_AC_giveOut_40 5 rfl ?_
    refine VO_callSI hC [.int v1, .int v4] [] ml_AC_189 d_AC_giveOut_42 ys_AC_has (fun o h => M_AC_has hC.inj h) (by decide) rfl rfl (Nat.le_of_ble_eq_true rfl) (fun o1 => ?_)
    refine VO_if_ne hC d_AC_giveOut_45 (fun _ => ?_) (fun _ => ?_)
    · refine VO_aload hC d_AC_giveOut_48 1 rfl ?_
      refine VO_getr (r := 1) hC fl_AC_10 sh_AC rfl d_AC_giveOut_49 ?_
      refine VO_iload hC d_AC_giveOut_52 5 rfl ?_
      refine VO_iload hC d_AC_giveOut_54 3 rfl ?_
      refine VO_callVI hC [.int v4, .int v2] [] ml_AC_399 d_AC_giveOut_55 yv_NI_canHaveDone (sh_NI isNI_1) rfl rfl (fun o h => M_NI_canHaveDone hC.inj isNI_1 h) (by decide) rfl rfl (Nat.le_of_ble_eq_true rfl) (fun o2 => ?_)
      refine VO_if_eq hC d_AC_giveOut_58 (fun _ => ?_) (fun _ => ?_)
      · exact VO_sub [1, 2, 3, 4, 5] rfl (B_AC_giveOut_97 hC K3 hK3 v4 o2.2)
      · refine VO_iload hC d_AC_giveOut_61 2 rfl ?_
        refine VO_iload hC d_AC_giveOut_62 5 rfl ?_
        refine VO_callSI hC [.int v4] [.int v1] ml_AC_276 d_AC_giveOut_64 ys_AC_bit (fun o h => M_AC_bit hC.inj h) (by decide) rfl rfl (Nat.le_of_ble_eq_true rfl) (fun o3 => ?_)
        refine VO_ior hC d_AC_giveOut_67 ?_
        refine VO_istoreB hC d_AC_giveOut_68 [(5, .int z0), (0, .ref (gad G 0)), (1, .int v1), (2, .int v2), (3, .int v3), (4, .int v4)] rfl (by decide) (fun x4 => ?_)
        refine VO_aload hC d_AC_giveOut_70 2 rfl ?_
        refine VO_getr (r := 55) hC fl_AC_81 sh_AC rfl d_AC_giveOut_71 ?_
        refine VO_iload hC d_AC_giveOut_74 0 rfl ?_
        refine VO_aload hC d_AC_giveOut_76 2 rfl ?_
        refine VO_getr (r := 55) hC fl_AC_81 sh_AC rfl d_AC_giveOut_77 ?_
        refine VO_iload hC d_AC_giveOut_80 0 rfl ?_
        refine VO_callSI hC [.ref (gad G 55), .int x4] [.int x4, .ref (gad G 55)] ml_AC_122 d_AC_giveOut_82 ys_AC_at (fun o h => M_AC_at hC.inj ia_55 h) (by decide) rfl rfl (Nat.le_of_ble_eq_true rfl) (fun o5 => ?_)
        refine VO_aload hC d_AC_giveOut_85 2 rfl ?_
        refine VO_getr (r := 55) hC fl_AC_81 sh_AC rfl d_AC_giveOut_86 ?_
        refine VO_iload hC d_AC_giveOut_89 3 rfl ?_
        refine VO_callSI hC [.ref (gad G 55), .int v1] [.int o5.1, .int x4, .ref (gad G 55)] ml_AC_122 d_AC_giveOut_90 ys_AC_at (fun o h => M_AC_at hC.inj ia_55 h) (by decide) rfl rfl (Nat.le_of_ble_eq_true rfl) (fun o6 => ?_)
        refine VO_iadd hC d_AC_giveOut_93 ?_
        refine VO_callSV hC [.ref (gad G 55), .int x4, .int (o5.1 + o6.1)] [] ml_AC_310 d_AC_giveOut_94 ys_AC_put (fun o h => M_AC_put hC.inj ia_55 h) (by decide) rfl rfl (Nat.le_of_ble_eq_true rfl) (fun s7 => ?_)
        exact VO_sub [2, 3, 4, 5, 6] rfl (B_AC_giveOut_97 hC K3 hK3 v4 s7)
    · exact VO_sub [1, 2, 3, 4, 5] rfl (B_AC_giveOut_97 hC K3 hK3 v4 o1.2)
set_option maxRecDepth 20000 in
theorem B_AC_giveOut_27 {G : MCx} (hC : C0 G "AccusedChoose" b_AC_giveOut 7 5) {v1 : Int32} {v2 : Int32} {v3 : Int32} (K3 : Int32 × St → Option (St)) (hK3 : ∀ (w4 : Int32) (s : St), VO G (RV G b_AC_giveOut) (K3 (w4, s)) 3 [(0, .ref (gad G 0)), (1, .int v1), (2, .int v2), (3, .int v3), (4, .int w4)] [] s) (v4 : Int32) (s : St) : VO G (RV G b_AC_giveOut) (F_AC_giveOut_27 K3 v1 v2 v3 v4 s) 27 [(0, .ref (gad G 0)), (1, .int v1), (2, .int v2), (3, .int v3), (4, .int v4)] [] s := by
  unfold F_AC_giveOut_27
  refine VO_const hC d_AC_giveOut_27 ?_
  refine VO_goto hC d_AC_giveOut_28 ?_
  exact (B_AC_giveOut_32 hC K3 hK3 v4 (1 : Int32) s)
set_option maxRecDepth 20000 in
theorem BH_AC_giveOut_3 {G : MCx} (hC : C0 G "AccusedChoose" b_AC_giveOut 7 5) {v1 : Int32} {v2 : Int32} {v3 : Int32} (K3 : Int32 × St → Option (St)) (hK3 : ∀ (w4 : Int32) (s : St), VO G (RV G b_AC_giveOut) (K3 (w4, s)) 3 [(0, .ref (gad G 0)), (1, .int v1), (2, .int v2), (3, .int v3), (4, .int w4)] [] s) (v4 : Int32) (s : St) : VO G (RV G b_AC_giveOut) (H_AC_giveOut_3 v1 v2 v3 K3 v4 s) 3 [(0, .ref (gad G 0)), (1, .int v1), (2, .int v2), (3, .int v3), (4, .int v4)] [] s := by
  unfold H_AC_giveOut_3
  refine VO_iload hC d_AC_giveOut_3 4 rfl ?_
  refine VO_aload hC d_AC_giveOut_5 0 rfl ?_
  refine VO_getr (r := 1) hC fl_AC_10 sh_AC rfl d_AC_giveOut_6 ?_
  refine VO_geti hC fl_AC_164 (sh_NI isNI_1) rfl d_AC_giveOut_9 ?_
  refine VO_icmp_ge hC d_AC_giveOut_12 (fun _ => ?_) (fun _ => ?_)
  · exact VO_return d_AC_giveOut_103
  · refine VO_iload hC d_AC_giveOut_15 3 rfl ?_
    refine VO_const hC d_AC_giveOut_16 ?_
    refine VO_icmp_eq hC d_AC_giveOut_18 (fun _ => ?_) (fun _ => ?_)
    · exact (B_AC_giveOut_27 hC K3 hK3 v4 s)
    · refine VO_iload hC d_AC_giveOut_21 3 rfl ?_
      refine VO_iload hC d_AC_giveOut_22 4 rfl ?_
      refine VO_icmp_ne hC d_AC_giveOut_24 (fun _ => ?_) (fun _ => ?_)
      · exact (B_AC_giveOut_27 hC K3 hK3 v4 s)
      · refine VO_const hC d_AC_giveOut_31 ?_
        exact (B_AC_giveOut_32 hC K3 hK3 v4 (0 : Int32) s)
set_option maxRecDepth 20000 in
theorem B_AC_giveOut_3 {G : MCx} (hC : C0 G "AccusedChoose" b_AC_giveOut 7 5) (v1 : Int32) (v2 : Int32) (v3 : Int32) (v4 : Int32) (s : St) : VO G (RV G b_AC_giveOut) (F_AC_giveOut_3 v1 v2 v3 v4 s) 3 [(0, .ref (gad G 0)), (1, .int v1), (2, .int v2), (3, .int v3), (4, .int v4)] [] s := by
  exact VO_fix (G_AC_giveOut_3 v1 v2 v3) 3 (fun q => [(0, .ref (gad G 0)), (1, .int v1), (2, .int v2), (3, .int v3), (4, .int q.1)]) (fun q => q.2) (fun K hK q => BH_AC_giveOut_3 hC K (fun w4 s => hK (w4, s)) q.1 q.2) FUEL (v4, s)
set_option maxRecDepth 20000 in
theorem B_AC_giveOut {G : MCx} (hC : C0 G "AccusedChoose" b_AC_giveOut 7 5) (a1 : Int32) (a2 : Int32) (a3 : Int32) (s : St) : VO G (RV G b_AC_giveOut) (F_AC_giveOut a1 a2 a3 s) 0 [(0, .ref (gad G 0)), (1, .int a1), (2, .int a2), (3, .int a3)] [] s := by
  unfold F_AC_giveOut
  refine VO_const hC d_AC_giveOut_0 ?_
  refine VO_istore hC d_AC_giveOut_1 [(0, .ref (gad G 0)), (1, .int a1), (2, .int a2), (3, .int a3)] rfl (by decide) ?_
  exact VO_sub [1, 2, 3, 4, 0] rfl (B_AC_giveOut_3 hC a1 a2 a3 (0 : Int32) s)
set_option maxRecDepth 20000 in
theorem M_AC_giveOut {l : Launch} {D : va_G} {ad : Nat → Nat} {cI cL : ClassId} (hj : Inj ad) {a1 : Int32} {a2 : Int32} {a3 : Int32} {s : St} {o : St} (h : F_AC_giveOut a1 a2 a3 s = some o) : Cn l D ad cI cL y_AC_giveOut b_AC_giveOut 7 none 5 [.ref (ad 0), .int a1, .int a2, .int a3] s none o := by
  refine Cn_ofV hj (plainFor_of_name (by decide)) (Nat.le_of_ble_eq_true rfl) [(0, .ref (ad 0)), (1, .int a1), (2, .int a2), (3, .int a3)] rfl (fun G hC e1 e2 e3 e4 e5 hR => ?_)
  subst e1; subst e2; subst e3; subst e4; subst e5
  exact B_AC_giveOut hC a1 a2 a3 s o h hR
theorem d_AC_countWays_0 : PLa b_AC_countWays 0 0 1 := Or.inl ⟨0, by decide +kernel, rfl, rfl⟩
theorem d_AC_countWays_1 : DR b_AC_countWays 1 (.getfield 10) 3 4 := ⟨by decide +kernel, rfl⟩
theorem d_AC_countWays_4 : DR b_AC_countWays 4 (.getfield 164) 3 7 := ⟨by decide +kernel, rfl⟩
theorem d_AC_countWays_7 : DR b_AC_countWays 7 (.invokestatic 276) 3 10 := ⟨by decide +kernel, rfl⟩
theorem d_AC_countWays_10 : PSi b_AC_countWays 10 3 11 := Or.inl ⟨3, by decide +kernel, rfl, rfl⟩
theorem d_AC_countWays_11 : PCi b_AC_countWays 11 0 12 := Or.inl ⟨0, by decide +kernel, by decide, rfl⟩
theorem d_AC_countWays_12 : PSi b_AC_countWays 12 4 14 := Or.inr ⟨by decide +kernel, rfl⟩
theorem d_AC_countWays_14 : PCi b_AC_countWays 14 0 15 := Or.inl ⟨0, by decide +kernel, by decide, rfl⟩
theorem d_AC_countWays_15 : PSi b_AC_countWays 15 5 17 := Or.inr ⟨by decide +kernel, rfl⟩
theorem d_AC_countWays_17 : PLi b_AC_countWays 17 5 19 := Or.inr ⟨by decide +kernel, rfl⟩
theorem d_AC_countWays_19 : PLa b_AC_countWays 19 0 20 := Or.inl ⟨0, by decide +kernel, rfl, rfl⟩
theorem d_AC_countWays_20 : DR b_AC_countWays 20 (.getfield 81) 3 23 := ⟨by decide +kernel, rfl⟩
theorem d_AC_countWays_23 : DR b_AC_countWays 23 (.arraylength) 1 24 := ⟨by decide +kernel, rfl⟩
theorem d_AC_countWays_24 : DJ b_AC_countWays 24 (.if_icmp .ge) 27 50 := ⟨26, by decide +kernel, rfl, by decide⟩
theorem d_AC_countWays_27 : PLa b_AC_countWays 27 0 28 := Or.inl ⟨0, by decide +kernel, rfl, rfl⟩
theorem d_AC_countWays_28 : DR b_AC_countWays 28 (.getfield 81) 3 31 := ⟨by decide +kernel, rfl⟩
theorem d_AC_countWays_31 : PLi b_AC_countWays 31 5 33 := Or.inr ⟨by decide +kernel, rfl⟩
theorem d_AC_countWays_33 : PLi b_AC_countWays 33 5 35 := Or.inr ⟨by decide +kernel, rfl⟩
theorem d_AC_countWays_35 : DJ b_AC_countWays 35 (.ifCond .ne) 38 42 := ⟨7, by decide +kernel, rfl, by decide⟩
theorem d_AC_countWays_38 : PCi b_AC_countWays 38 1 39 := Or.inl ⟨1, by decide +kernel, by decide, rfl⟩
theorem d_AC_countWays_39 : DJ b_AC_countWays 39 .goto 42 43 := ⟨4, by decide +kernel, rfl, by decide⟩
theorem d_AC_countWays_42 : PCi b_AC_countWays 42 0 43 := Or.inl ⟨0, by decide +kernel, by decide, rfl⟩
theorem d_AC_countWays_43 : DR b_AC_countWays 43 (.iastore) 1 44 := ⟨by decide +kernel, rfl⟩
theorem d_AC_countWays_44 : DR b_AC_countWays 44 (.iinc 5 1) 3 47 := ⟨by decide +kernel, rfl⟩
theorem d_AC_countWays_47 : DJ b_AC_countWays 47 .goto 50 17 := ⟨-30, by decide +kernel, rfl, by decide⟩
theorem d_AC_countWays_50 : PCi b_AC_countWays 50 0 51 := Or.inl ⟨0, by decide +kernel, by decide, rfl⟩
theorem d_AC_countWays_51 : PSi b_AC_countWays 51 5 53 := Or.inr ⟨by decide +kernel, rfl⟩
theorem d_AC_countWays_53 : PLi b_AC_countWays 53 5 55 := Or.inr ⟨by decide +kernel, rfl⟩
theorem d_AC_countWays_55 : PLi b_AC_countWays 55 3 56 := Or.inl ⟨3, by decide +kernel, rfl, rfl⟩
theorem d_AC_countWays_56 : DJ b_AC_countWays 56 (.if_icmp .ge) 59 133 := ⟨77, by decide +kernel, rfl, by decide⟩
theorem d_AC_countWays_59 : PLi b_AC_countWays 59 5 61 := Or.inr ⟨by decide +kernel, rfl⟩
theorem d_AC_countWays_61 : DR b_AC_countWays 61 (.invokestatic 390) 3 64 := ⟨by decide +kernel, rfl⟩
theorem d_AC_countWays_64 : PSi b_AC_countWays 64 6 66 := Or.inr ⟨by decide +kernel, rfl⟩
theorem d_AC_countWays_66 : PLi b_AC_countWays 66 6 68 := Or.inr ⟨by decide +kernel, rfl⟩
theorem d_AC_countWays_68 : PLa b_AC_countWays 68 0 69 := Or.inl ⟨0, by decide +kernel, rfl, rfl⟩
theorem d_AC_countWays_69 : DR b_AC_countWays 69 (.getfield 10) 3 72 := ⟨by decide +kernel, rfl⟩
theorem d_AC_countWays_72 : DR b_AC_countWays 72 (.getfield 157) 3 75 := ⟨by decide +kernel, rfl⟩
theorem d_AC_countWays_75 : DJ b_AC_countWays 75 (.if_icmp .ne) 78 95 := ⟨20, by decide +kernel, rfl, by decide⟩
theorem d_AC_countWays_78 : PLi b_AC_countWays 78 4 80 := Or.inr ⟨by decide +kernel, rfl⟩
theorem d_AC_countWays_80 : PLa b_AC_countWays 80 0 81 := Or.inl ⟨0, by decide +kernel, rfl, rfl⟩
theorem d_AC_countWays_81 : DR b_AC_countWays 81 (.getfield 81) 3 84 := ⟨by decide +kernel, rfl⟩
theorem d_AC_countWays_84 : PLi b_AC_countWays 84 5 86 := Or.inr ⟨by decide +kernel, rfl⟩
theorem d_AC_countWays_86 : DR b_AC_countWays 86 (.invokestatic 122) 3 89 := ⟨by decide +kernel, rfl⟩
theorem d_AC_countWays_89 : DR b_AC_countWays 89 (.iadd) 1 90 := ⟨by decide +kernel, rfl⟩
theorem d_AC_countWays_90 : PSi b_AC_countWays 90 4 92 := Or.inr ⟨by decide +kernel, rfl⟩
theorem d_AC_countWays_92 : DJ b_AC_countWays 92 .goto 95 127 := ⟨35, by decide +kernel, rfl, by decide⟩
theorem d_AC_countWays_95 : PLi b_AC_countWays 95 6 97 := Or.inr ⟨by decide +kernel, rfl⟩
theorem d_AC_countWays_97 : PLa b_AC_countWays 97 0 98 := Or.inl ⟨0, by decide +kernel, rfl, rfl⟩
theorem d_AC_countWays_98 : DR b_AC_countWays 98 (.getfield 10) 3 101 := ⟨by decide +kernel, rfl⟩
theorem d_AC_countWays_101 : DR b_AC_countWays 101 (.getfield 157) 3 104 := ⟨by decide +kernel, rfl⟩
theorem d_AC_countWays_104 : DJ b_AC_countWays 104 (.if_icmp .ge) 107 127 := ⟨23, by decide +kernel, rfl, by decide⟩
theorem d_AC_countWays_107 : PLa b_AC_countWays 107 0 108 := Or.inl ⟨0, by decide +kernel, rfl, rfl⟩
theorem d_AC_countWays_108 : PLi b_AC_countWays 108 5 110 := Or.inr ⟨by decide +kernel, rfl⟩
theorem d_AC_countWays_110 : PLi b_AC_countWays 110 6 112 := Or.inr ⟨by decide +kernel, rfl⟩
theorem d_AC_countWays_112 : PLi b_AC_countWays 112 6 114 := Or.inr ⟨by decide +kernel, rfl⟩
theorem d_AC_countWays_114 : PLi b_AC_countWays 114 2 115 := Or.inl ⟨2, by decide +kernel, rfl, rfl⟩
theorem d_AC_countWays_115 : DJ b_AC_countWays 115 (.if_icmp .ne) 118 122 := ⟨7, by decide +kernel, rfl, by decide⟩
theorem d_AC_countWays_118 : PLi b_AC_countWays 118 1 119 := Or.inl ⟨1, by decide +kernel, rfl, rfl⟩
theorem d_AC_countWays_119 : DJ b_AC_countWays 119 .goto 122 124 := ⟨5, by decide +kernel, rfl, by decide⟩
theorem d_AC_countWays_122 : PCi b_AC_countWays 122 (-9) 124 := Or.inr (Or.inl ⟨(-9), by decide +kernel, by decide, rfl⟩)
theorem d_AC_countWays_124 : DR b_AC_countWays 124 (.invokevirtual 395) 3 127 := ⟨by decide +kernel, rfl⟩
theorem d_AC_countWays_127 : DR b_AC_countWays 127 (.iinc 5 1) 3 130 := ⟨by decide +kernel, rfl⟩
theorem d_AC_countWays_130 : DJ b_AC_countWays 130 .goto 133 53 := ⟨-77, by decide +kernel, rfl, by decide⟩
theorem d_AC_countWays_133 : PLi b_AC_countWays 133 4 135 := Or.inr ⟨by decide +kernel, rfl⟩
theorem d_AC_countWays_135 : DR b_AC_countWays 135 (.ireturn) 1 136 := ⟨by decide +kernel, rfl⟩
set_option maxRecDepth 20000 in
theorem B_AC_countWays_127 {G : MCx} (hC : C0 G "AccusedChoose" b_AC_countWays 7 6) {v1 : Int32} {v2 : Int32} {v3 : Int32} (K53 : Int32 × Int32 × St → Option (Int32 × St)) (hK53 : ∀ (w4 : Int32) (w5 : Int32) (s : St), VO G (RI G b_AC_countWays) (K53 (w4, w5, s)) 53 [(0, .ref (gad G 0)), (1, .int v1), (2, .int v2), (3, .int v3), (4, .int w4), (5, .int w5)] [] s) (v4 : Int32) (v5 : Int32) (s : St) : VO G (RI G b_AC_countWays) (F_AC_countWays_127 K53 v1 v2 v3 v4 v5 s) 127 [(0, .ref (gad G 0)), (1, .int v1), (2, .int v2), (3, .int v3), (4, .int v4), (5, .int v5)] [] s := by
  unfold F_AC_countWays_127
  refine VO_iinc hC d_AC_countWays_127 5 rfl (by decide : Int32.ofInt 1 = 1) [(0, .ref (gad G 0)), (1, .int v1), (2, .int v2), (3, .int v3), (4, .int v4)] rfl (by decide) ?_
  refine VO_goto hC d_AC_countWays_130 ?_
  exact VO_sub [1, 2, 3, 4, 5, 0] rfl (hK53 v4 (v5 + 1) s)
set_option maxRecDepth 20000 in
theorem B_AC_countWays_124 {G : MCx} (hC : C0 G "AccusedChoose" b_AC_countWays 7 6) {v1 : Int32} {v2 : Int32} {v3 : Int32} (K53 : Int32 × Int32 × St → Option (Int32 × St)) (hK53 : ∀ (w4 : Int32) (w5 : Int32) (s : St), VO G (RI G b_AC_countWays) (K53 (w4, w5, s)) 53 [(0, .ref (gad G 0)), (1, .int v1), (2, .int v2), (3, .int v3), (4, .int w4), (5, .int w5)] [] s) (v4 : Int32) (v5 : Int32) (z0 : Int32) (z1 : Int32) (z2 : Int32) (s : St) : VO G (RI G b_AC_countWays) (F_AC_countWays_124 K53 v1 v2 v3 v4 v5 z0 z1 z2 s) 124 [(0, .ref (gad G 0)), (1, .int v1), (2, .int v2), (3, .int v3), (4, .int v4), (5, .int v5)] [.int z0, .int z1, .int z2, .ref (gad G 0)] s := by
  unfold F_AC_countWays_124
  refine VO_callVV hC [.int z2, .int z1, .int z0] [] ml_AC_395 d_AC_countWays_124 yv_AC_giveOut sh_AC rfl rfl (fun o h => M_AC_giveOut hC.inj h) (by decide) rfl rfl (Nat.le_of_ble_eq_true rfl) (fun s3 => ?_)
  exact (B_AC_countWays_127 hC K53 hK53 v4 v5 s3)
set_option maxRecDepth 20000 in
theorem BH_AC_countWays_53 {G : MCx} (hC : C0 G "AccusedChoose" b_AC_countWays 7 6) {v1 : Int32} {v2 : Int32} {v3 : Int32} (K53 : Int32 × Int32 × St → Option (Int32 × St)) (hK53 : ∀ (w4 : Int32) (w5 : Int32) (s : St), VO G (RI G b_AC_countWays) (K53 (w4, w5, s)) 53 [(0, .ref (gad G 0)), (1, .int v1), (2, .int v2), (3, .int v3), (4, .int w4), (5, .int w5)] [] s) (v4 : Int32) (v5 : Int32) (s : St) : VO G (RI G b_AC_countWays) (H_AC_countWays_53 v1 v2 v3 K53 v4 v5 s) 53 [(0, .ref (gad G 0)), (1, .int v1), (2, .int v2), (3, .int v3), (4, .int v4), (5, .int v5)] [] s := by
  unfold H_AC_countWays_53
  refine VO_iload hC d_AC_countWays_53 5 rfl ?_
  refine VO_iload hC d_AC_countWays_55 3 rfl ?_
  refine VO_icmp_ge hC d_AC_countWays_56 (fun _ => ?_) (fun _ => ?_)
  · refine VO_iload hC d_AC_countWays_133 4 rfl ?_
    exact VO_ireturn d_AC_countWays_135
  · refine VO_iload hC d_AC_countWays_59 5 rfl ?_
    refine VO_callSI hC [.int v5] [] ml_AC_390 d_AC_countWays_61 ys_IG_bitCount (fun o h => M_IG_bitCount hC.inj h) (by decide) rfl rfl (Nat.le_of_ble_eq_true rfl) (fun o2 => ?_)
    refine VO_istore hC d_AC_countWays_64 [(0, .ref (gad G 0)), (1, .int v1), (2, .int v2), (3, .int v3), (4, .int v4), (5, .int v5)] rfl (by decide) ?_
    refine VO_iload hC d_AC_countWays_66 0 rfl ?_
    refine VO_aload hC d_AC_countWays_68 1 rfl ?_
    refine VO_getr (r := 1) hC fl_AC_10 sh_AC rfl d_AC_countWays_69 ?_
    refine VO_geti hC fl_AC_157 (sh_NI isNI_1) rfl d_AC_countWays_72 ?_
    refine VO_icmp_ne hC d_AC_countWays_75 (fun _ => ?_) (fun _ => ?_)
    · refine VO_iload hC d_AC_countWays_78 5 rfl ?_
      refine VO_aload hC d_AC_countWays_80 1 rfl ?_
      refine VO_getr (r := 55) hC fl_AC_81 sh_AC rfl d_AC_countWays_81 ?_
      refine VO_iload hC d_AC_countWays_84 6 rfl ?_
      refine VO_callSI hC [.ref (gad G 55), .int v5] [.int v4] ml_AC_122 d_AC_countWays_86 ys_AC_at (fun o h => M_AC_at hC.inj ia_55 h) (by decide) rfl rfl (Nat.le_of_ble_eq_true rfl) (fun o4 => ?_)
      refine VO_iadd hC d_AC_countWays_89 ?_
      refine VO_istoreB hC d_AC_countWays_90 [(6, .int o2.1), (0, .ref (gad G 0)), (1, .int v1), (2, .int v2), (3, .int v3), (5, .int v5)] rfl (by decide) (fun x5 => ?_)
      refine VO_goto hC d_AC_countWays_92 ?_
      exact VO_sub [2, 3, 4, 5, 0, 6] rfl (B_AC_countWays_127 hC K53 hK53 x5 v5 o4.2)
    · refine VO_iload hC d_AC_countWays_95 0 rfl ?_
      refine VO_aload hC d_AC_countWays_97 1 rfl ?_
      refine VO_getr (r := 1) hC fl_AC_10 sh_AC rfl d_AC_countWays_98 ?_
      refine VO_geti hC fl_AC_157 (sh_NI isNI_1) rfl d_AC_countWays_101 ?_
      refine VO_icmp_ge hC d_AC_countWays_104 (fun _ => ?_) (fun _ => ?_)
      · exact VO_sub [1, 2, 3, 4, 5, 6] rfl (B_AC_countWays_127 hC K53 hK53 v4 v5 o2.2)
      · refine VO_aload hC d_AC_countWays_107 1 rfl ?_
        refine VO_iload hC d_AC_countWays_108 6 rfl ?_
        refine VO_iload hC d_AC_countWays_110 0 rfl ?_
        refine VO_iload hC d_AC_countWays_112 0 rfl ?_
        refine VO_iload hC d_AC_countWays_114 3 rfl ?_
        refine VO_icmp_ne hC d_AC_countWays_115 (fun _ => ?_) (fun _ => ?_)
        · refine VO_iload hC d_AC_countWays_118 2 rfl ?_
          refine VO_goto hC d_AC_countWays_119 ?_
          exact VO_sub [1, 2, 3, 4, 5, 6] rfl (B_AC_countWays_124 hC K53 hK53 v4 v5 v1 o2.1 v5 o2.2)
        · refine VO_const hC d_AC_countWays_122 ?_
          exact VO_sub [1, 2, 3, 4, 5, 6] rfl (B_AC_countWays_124 hC K53 hK53 v4 v5 (-9 : Int32) o2.1 v5 o2.2)
set_option maxRecDepth 20000 in
theorem B_AC_countWays_53 {G : MCx} (hC : C0 G "AccusedChoose" b_AC_countWays 7 6) (v1 : Int32) (v2 : Int32) (v3 : Int32) (v4 : Int32) (v5 : Int32) (s : St) : VO G (RI G b_AC_countWays) (F_AC_countWays_53 v1 v2 v3 v4 v5 s) 53 [(0, .ref (gad G 0)), (1, .int v1), (2, .int v2), (3, .int v3), (4, .int v4), (5, .int v5)] [] s := by
  exact VO_fix (G_AC_countWays_53 v1 v2 v3) 53 (fun q => [(0, .ref (gad G 0)), (1, .int v1), (2, .int v2), (3, .int v3), (4, .int q.1), (5, .int q.2.1)]) (fun q => q.2.2) (fun K hK q => BH_AC_countWays_53 hC K (fun w4 w5 s => hK (w4, w5, s)) q.1 q.2.1 q.2.2) FUEL (v4, v5, s)
set_option maxRecDepth 20000 in
theorem B_AC_countWays_43 {G : MCx} (hC : C0 G "AccusedChoose" b_AC_countWays 7 6) {v1 : Int32} {v2 : Int32} {v3 : Int32} {v4 : Int32} (K17 : Int32 × St → Option (Int32 × St)) (hK17 : ∀ (w5 : Int32) (s : St), VO G (RI G b_AC_countWays) (K17 (w5, s)) 17 [(0, .ref (gad G 0)), (1, .int v1), (2, .int v2), (3, .int v3), (4, .int v4), (5, .int w5)] [] s) (v5 : Int32) (z0 : Int32) (z1 : Int32) (s : St) : VO G (RI G b_AC_countWays) (F_AC_countWays_43 K17 v1 v2 v3 v4 v5 z0 z1 s) 43 [(0, .ref (gad G 0)), (1, .int v1), (2, .int v2), (3, .int v3), (4, .int v4), (5, .int v5)] [.int z0, .int z1, .ref (gad G 55)] s := by
  unfold F_AC_countWays_43
  refine VO_iastore hC ia_55 d_AC_countWays_43 (fun s6 => ?_)
  refine VO_iinc hC d_AC_countWays_44 5 rfl (by decide : Int32.ofInt 1 = 1) [(0, .ref (gad G 0)), (1, .int v1), (2, .int v2), (3, .int v3), (4, .int v4)] rfl (by decide) ?_
  refine VO_goto hC d_AC_countWays_47 ?_
  exact VO_sub [1, 2, 3, 4, 5, 0] rfl (hK17 (v5 + 1) s6)
set_option maxRecDepth 20000 in
theorem BH_AC_countWays_17 {G : MCx} (hC : C0 G "AccusedChoose" b_AC_countWays 7 6) {v1 : Int32} {v2 : Int32} {v3 : Int32} {v4 : Int32} (K17 : Int32 × St → Option (Int32 × St)) (hK17 : ∀ (w5 : Int32) (s : St), VO G (RI G b_AC_countWays) (K17 (w5, s)) 17 [(0, .ref (gad G 0)), (1, .int v1), (2, .int v2), (3, .int v3), (4, .int v4), (5, .int w5)] [] s) (v5 : Int32) (s : St) : VO G (RI G b_AC_countWays) (H_AC_countWays_17 v1 v2 v3 v4 K17 v5 s) 17 [(0, .ref (gad G 0)), (1, .int v1), (2, .int v2), (3, .int v3), (4, .int v4), (5, .int v5)] [] s := by
  unfold H_AC_countWays_17
  refine VO_iload hC d_AC_countWays_17 5 rfl ?_
  refine VO_aload hC d_AC_countWays_19 0 rfl ?_
  refine VO_getr (r := 55) hC fl_AC_81 sh_AC rfl d_AC_countWays_20 ?_
  refine VO_alen hC ia_55 d_AC_countWays_23 ?_
  refine VO_icmp_ge hC d_AC_countWays_24 (fun _ => ?_) (fun _ => ?_)
  · refine VO_const hC d_AC_countWays_50 ?_
    refine VO_istore hC d_AC_countWays_51 [(0, .ref (gad G 0)), (1, .int v1), (2, .int v2), (3, .int v3), (4, .int v4)] rfl (by decide) ?_
    exact VO_sub [1, 2, 3, 4, 5, 0] rfl (B_AC_countWays_53 hC v1 v2 v3 v4 (0 : Int32) s)
  · refine VO_aload hC d_AC_countWays_27 0 rfl ?_
    refine VO_getr (r := 55) hC fl_AC_81 sh_AC rfl d_AC_countWays_28 ?_
    refine VO_iload hC d_AC_countWays_31 5 rfl ?_
    refine VO_iload hC d_AC_countWays_33 5 rfl ?_
    refine VO_if_ne hC d_AC_countWays_35 (fun _ => ?_) (fun _ => ?_)
    · refine VO_const hC d_AC_countWays_38 ?_
      refine VO_goto hC d_AC_countWays_39 ?_
      exact (B_AC_countWays_43 hC K17 hK17 v5 (1 : Int32) v5 s)
    · refine VO_const hC d_AC_countWays_42 ?_
      exact (B_AC_countWays_43 hC K17 hK17 v5 (0 : Int32) v5 s)
set_option maxRecDepth 20000 in
theorem B_AC_countWays_17 {G : MCx} (hC : C0 G "AccusedChoose" b_AC_countWays 7 6) (v1 : Int32) (v2 : Int32) (v3 : Int32) (v4 : Int32) (v5 : Int32) (s : St) : VO G (RI G b_AC_countWays) (F_AC_countWays_17 v1 v2 v3 v4 v5 s) 17 [(0, .ref (gad G 0)), (1, .int v1), (2, .int v2), (3, .int v3), (4, .int v4), (5, .int v5)] [] s := by
  exact VO_fix (G_AC_countWays_17 v1 v2 v3 v4) 17 (fun q => [(0, .ref (gad G 0)), (1, .int v1), (2, .int v2), (3, .int v3), (4, .int v4), (5, .int q.1)]) (fun q => q.2) (fun K hK q => BH_AC_countWays_17 hC K (fun w5 s => hK (w5, s)) q.1 q.2) FUEL (v5, s)
set_option maxRecDepth 20000 in
theorem B_AC_countWays {G : MCx} (hC : C0 G "AccusedChoose" b_AC_countWays 7 6) (a1 : Int32) (a2 : Int32) (s : St) : VO G (RI G b_AC_countWays) (F_AC_countWays a1 a2 s) 0 [(0, .ref (gad G 0)), (1, .int a1), (2, .int a2)] [] s := by
  unfold F_AC_countWays
  refine VO_aload hC d_AC_countWays_0 0 rfl ?_
  refine VO_getr (r := 1) hC fl_AC_10 sh_AC rfl d_AC_countWays_1 ?_
  refine VO_geti hC fl_AC_164 (sh_NI isNI_1) rfl d_AC_countWays_4 ?_
  refine VO_callSI hC [.int (rd s 1 1)] [] ml_AC_276 d_AC_countWays_7 ys_AC_bit (fun o h => M_AC_bit hC.inj h) (by decide) rfl rfl (Nat.le_of_ble_eq_true rfl) (fun o1 => ?_)
  refine VO_istore hC d_AC_countWays_10 [(0, .ref (gad G 0)), (1, .int a1), (2, .int a2)] rfl (by decide) ?_
  refine VO_const hC d_AC_countWays_11 ?_
  refine VO_istore hC d_AC_countWays_12 [(3, .int o1.1), (0, .ref (gad G 0)), (1, .int a1), (2, .int a2)] rfl (by decide) ?_
  refine VO_const hC d_AC_countWays_14 ?_
  refine VO_istore hC d_AC_countWays_15 [(4, .int (0 : Int32)), (3, .int o1.1), (0, .ref (gad G 0)), (1, .int a1), (2, .int a2)] rfl (by decide) ?_
  exact VO_sub [3, 4, 5, 2, 1, 0] rfl (B_AC_countWays_17 hC a1 a2 o1.1 (0 : Int32) (0 : Int32) o1.2)
set_option maxRecDepth 20000 in
theorem M_AC_countWays {l : Launch} {D : va_G} {ad : Nat → Nat} {cI cL : ClassId} (hj : Inj ad) {a1 : Int32} {a2 : Int32} {s : St} {o : Int32 × St} (h : F_AC_countWays a1 a2 s = some o) : Cn l D ad cI cL y_AC_countWays b_AC_countWays 7 (some .int) 6 [.ref (ad 0), .int a1, .int a2] s (some (.int o.1)) o.2 := by
  refine Cn_ofI hj (plainFor_of_name (by decide)) (Nat.le_of_ble_eq_true rfl) [(0, .ref (ad 0)), (1, .int a1), (2, .int a2)] rfl (fun G hC e1 e2 e3 e4 e5 hR => ?_)
  subst e1; subst e2; subst e3; subst e4; subst e5
  exact B_AC_countWays hC a1 a2 s o h hR
theorem d_AC_whose_0 : PLi b_AC_whose 0 1 1 := Or.inl ⟨1, by decide +kernel, rfl, rfl⟩
theorem d_AC_whose_1 : PCi b_AC_whose 1 (-1) 2 := Or.inl ⟨(-1), by decide +kernel, by decide, rfl⟩
theorem d_AC_whose_2 : DJ b_AC_whose 2 (.if_icmp .ne) 5 14 := ⟨12, by decide +kernel, rfl, by decide⟩
theorem d_AC_whose_5 : PLi b_AC_whose 5 2 6 := Or.inl ⟨2, by decide +kernel, rfl, rfl⟩
theorem d_AC_whose_6 : PCi b_AC_whose 6 (-1) 7 := Or.inl ⟨(-1), by decide +kernel, by decide, rfl⟩
theorem d_AC_whose_7 : DJ b_AC_whose 7 (.if_icmp .ne) 10 14 := ⟨7, by decide +kernel, rfl, by decide⟩
theorem d_AC_whose_10 : PCi b_AC_whose 10 1 11 := Or.inl ⟨1, by decide +kernel, by decide, rfl⟩
theorem d_AC_whose_11 : DJ b_AC_whose 11 .goto 14 15 := ⟨4, by decide +kernel, rfl, by decide⟩
theorem d_AC_whose_14 : PCi b_AC_whose 14 0 15 := Or.inl ⟨0, by decide +kernel, by decide, rfl⟩
theorem d_AC_whose_15 : PSi b_AC_whose 15 3 16 := Or.inl ⟨3, by decide +kernel, rfl, rfl⟩
theorem d_AC_whose_16 : PLi b_AC_whose 16 3 17 := Or.inl ⟨3, by decide +kernel, rfl, rfl⟩
theorem d_AC_whose_17 : DJ b_AC_whose 17 (.ifCond .ne) 20 48 := ⟨31, by decide +kernel, rfl, by decide⟩
theorem d_AC_whose_20 : PLa b_AC_whose 20 0 21 := Or.inl ⟨0, by decide +kernel, rfl, rfl⟩
theorem d_AC_whose_21 : DR b_AC_whose 21 (.getfield 10) 3 24 := ⟨by decide +kernel, rfl⟩
theorem d_AC_whose_24 : PLi b_AC_whose 24 1 25 := Or.inl ⟨1, by decide +kernel, rfl, rfl⟩
theorem d_AC_whose_25 : DR b_AC_whose 25 (.invokevirtual 129) 3 28 := ⟨by decide +kernel, rfl⟩
theorem d_AC_whose_28 : DJ b_AC_whose 28 (.ifCond .eq) 31 42 := ⟨14, by decide +kernel, rfl, by decide⟩
theorem d_AC_whose_31 : PLa b_AC_whose 31 0 32 := Or.inl ⟨0, by decide +kernel, rfl, rfl⟩
theorem d_AC_whose_32 : DR b_AC_whose 32 (.getfield 10) 3 35 := ⟨by decide +kernel, rfl⟩
theorem d_AC_whose_35 : PLi b_AC_whose 35 2 36 := Or.inl ⟨2, by decide +kernel, rfl, rfl⟩
theorem d_AC_whose_36 : DR b_AC_whose 36 (.invokevirtual 115) 3 39 := ⟨by decide +kernel, rfl⟩
theorem d_AC_whose_39 : DJ b_AC_whose 39 (.ifCond .ne) 42 48 := ⟨9, by decide +kernel, rfl, by decide⟩
theorem d_AC_whose_42 : PLa b_AC_whose 42 0 43 := Or.inl ⟨0, by decide +kernel, rfl, rfl⟩
theorem d_AC_whose_43 : PCi b_AC_whose 43 (-1) 44 := Or.inl ⟨(-1), by decide +kernel, by decide, rfl⟩
theorem d_AC_whose_44 : DR b_AC_whose 44 (.invokevirtual 240) 3 47 := ⟨by decide +kernel, rfl⟩
theorem d_AC_whose_47 : DR b_AC_whose 47 (.lreturn) 1 48 := ⟨by decide +kernel, rfl⟩
theorem d_AC_whose_48 : PLa b_AC_whose 48 0 49 := Or.inl ⟨0, by decide +kernel, rfl, rfl⟩
theorem d_AC_whose_49 : PLi b_AC_whose 49 1 50 := Or.inl ⟨1, by decide +kernel, rfl, rfl⟩
theorem d_AC_whose_50 : PLi b_AC_whose 50 2 51 := Or.inl ⟨2, by decide +kernel, rfl, rfl⟩
theorem d_AC_whose_51 : DR b_AC_whose 51 (.invokevirtual 244) 3 54 := ⟨by decide +kernel, rfl⟩
theorem d_AC_whose_54 : DR b_AC_whose 54 (.i2l) 1 55 := ⟨by decide +kernel, rfl⟩
theorem d_AC_whose_55 : DR b_AC_whose 55 (.lreturn) 1 56 := ⟨by decide +kernel, rfl⟩
set_option maxRecDepth 20000 in
theorem B_AC_whose_48 {G : MCx} (hC : C0 G "AccusedChoose" b_AC_whose 4 7) (v1 : Int32) (v2 : Int32) (s : St) : VO G (RLo G b_AC_whose) (F_AC_whose_48 v1 v2 s) 48 [(0, .ref (gad G 0)), (1, .int v1), (2, .int v2)] [] s := by
  unfold F_AC_whose_48
  refine VO_aload hC d_AC_whose_48 0 rfl ?_
  refine VO_iload hC d_AC_whose_49 1 rfl ?_
  refine VO_iload hC d_AC_whose_50 2 rfl ?_
  refine VO_callVI hC [.int v1, .int v2] [] ml_AC_244 d_AC_whose_51 yv_AC_countWays sh_AC rfl rfl (fun o h => M_AC_countWays hC.inj h) (by decide) rfl rfl (Nat.le_of_ble_eq_true rfl) (fun o1 => ?_)
  refine VO_i2l hC d_AC_whose_54 ?_
  exact VO_lreturn d_AC_whose_55
set_option maxRecDepth 20000 in
theorem B_AC_whose_42 {G : MCx} (hC : C0 G "AccusedChoose" b_AC_whose 4 7) (s : St) : VO G (RLo G b_AC_whose) (F_AC_whose_42 s) 42 [(0, .ref (gad G 0))] [] s := by
  unfold F_AC_whose_42
  refine VO_aload hC d_AC_whose_42 0 rfl ?_
  refine VO_const hC d_AC_whose_43 ?_
  refine VO_callVL hC [.int (-1 : Int32)] [] ml_AC_240 d_AC_whose_44 yv_AC_refuseLong sh_AC rfl rfl (fun o h => M_AC_refuseLong hC.inj h) (by decide) rfl rfl (Nat.le_of_ble_eq_true rfl) (fun o3 => ?_)
  exact VO_lreturn d_AC_whose_47
set_option maxRecDepth 20000 in
theorem B_AC_whose_15 {G : MCx} (hC : C0 G "AccusedChoose" b_AC_whose 4 7) (v1 : Int32) (v2 : Int32) (z0 : Int32) (s : St) : VO G (RLo G b_AC_whose) (F_AC_whose_15 v1 v2 z0 s) 15 [(0, .ref (gad G 0)), (1, .int v1), (2, .int v2)] [.int z0] s := by
  unfold F_AC_whose_15
  refine VO_istore hC d_AC_whose_15 [(0, .ref (gad G 0)), (1, .int v1), (2, .int v2)] rfl (by decide) ?_
  refine VO_iload hC d_AC_whose_16 0 rfl ?_
  refine VO_if_ne hC d_AC_whose_17 (fun _ => ?_) (fun _ => ?_)
  · refine VO_aload hC d_AC_whose_20 1 rfl ?_
    refine VO_getr (r := 1) hC fl_AC_10 sh_AC rfl d_AC_whose_21 ?_
    refine VO_iload hC d_AC_whose_24 2 rfl ?_
    refine VO_callVI hC [.int v1] [] ml_AC_129 d_AC_whose_25 yv_NI_hasPerson (sh_NI isNI_1) rfl rfl (fun o h => M_NI_hasPerson hC.inj isNI_1 h) (by decide) rfl rfl (Nat.le_of_ble_eq_true rfl) (fun o2 => ?_)
    refine VO_if_eq hC d_AC_whose_28 (fun _ => ?_) (fun _ => ?_)
    · exact VO_sub [1] rfl (B_AC_whose_42 hC o2.2)
    · refine VO_aload hC d_AC_whose_31 1 rfl ?_
      refine VO_getr (r := 1) hC fl_AC_10 sh_AC rfl d_AC_whose_32 ?_
      refine VO_iload hC d_AC_whose_35 3 rfl ?_
      refine VO_callVI hC [.int v2] [] ml_AC_115 d_AC_whose_36 yv_NI_hasDeed (sh_NI isNI_1) rfl rfl (fun o h => M_NI_hasDeed hC.inj isNI_1 h) (by decide) rfl rfl (Nat.le_of_ble_eq_true rfl) (fun o4 => ?_)
      refine VO_if_ne hC d_AC_whose_39 (fun _ => ?_) (fun _ => ?_)
      · exact VO_sub [1] rfl (B_AC_whose_42 hC o4.2)
      · exact VO_sub [1, 2, 3] rfl (B_AC_whose_48 hC v1 v2 o4.2)
  · exact VO_sub [1, 2, 3] rfl (B_AC_whose_48 hC v1 v2 s)
set_option maxRecDepth 20000 in
theorem B_AC_whose_14 {G : MCx} (hC : C0 G "AccusedChoose" b_AC_whose 4 7) (v1 : Int32) (v2 : Int32) (s : St) : VO G (RLo G b_AC_whose) (F_AC_whose_14 v1 v2 s) 14 [(0, .ref (gad G 0)), (1, .int v1), (2, .int v2)] [] s := by
  unfold F_AC_whose_14
  refine VO_const hC d_AC_whose_14 ?_
  exact (B_AC_whose_15 hC v1 v2 (0 : Int32) s)
set_option maxRecDepth 20000 in
theorem B_AC_whose {G : MCx} (hC : C0 G "AccusedChoose" b_AC_whose 4 7) (a1 : Int32) (a2 : Int32) (s : St) : VO G (RLo G b_AC_whose) (F_AC_whose a1 a2 s) 0 [(0, .ref (gad G 0)), (1, .int a1), (2, .int a2)] [] s := by
  unfold F_AC_whose
  refine VO_iload hC d_AC_whose_0 1 rfl ?_
  refine VO_const hC d_AC_whose_1 ?_
  refine VO_icmp_ne hC d_AC_whose_2 (fun _ => ?_) (fun _ => ?_)
  · refine VO_iload hC d_AC_whose_5 2 rfl ?_
    refine VO_const hC d_AC_whose_6 ?_
    refine VO_icmp_ne hC d_AC_whose_7 (fun _ => ?_) (fun _ => ?_)
    · refine VO_const hC d_AC_whose_10 ?_
      refine VO_goto hC d_AC_whose_11 ?_
      exact (B_AC_whose_15 hC a1 a2 (1 : Int32) s)
    · exact (B_AC_whose_14 hC a1 a2 s)
  · exact (B_AC_whose_14 hC a1 a2 s)
set_option maxRecDepth 20000 in
theorem M_AC_whose {l : Launch} {D : va_G} {ad : Nat → Nat} {cI cL : ClassId} (hj : Inj ad) {a1 : Int32} {a2 : Int32} {s : St} {o : Int64 × St} (h : F_AC_whose a1 a2 s = some o) : Cn l D ad cI cL y_AC_whose b_AC_whose 4 (some .long) 7 [.ref (ad 0), .int a1, .int a2] s (some (.long o.1)) o.2 := by
  refine Cn_ofL hj (plainFor_of_name (by decide)) (Nat.le_of_ble_eq_true rfl) [(0, .ref (ad 0)), (1, .int a1), (2, .int a2)] rfl (fun G hC e1 e2 e3 e4 e5 hR => ?_)
  subst e1; subst e2; subst e3; subst e4; subst e5
  exact B_AC_whose hC a1 a2 s o h hR
theorem d_AC_lineUp_0 : PCi b_AC_lineUp 0 0 1 := Or.inl ⟨0, by decide +kernel, by decide, rfl⟩
theorem d_AC_lineUp_1 : PSi b_AC_lineUp 1 2 2 := Or.inl ⟨2, by decide +kernel, rfl, rfl⟩
theorem d_AC_lineUp_2 : PLi b_AC_lineUp 2 2 3 := Or.inl ⟨2, by decide +kernel, rfl, rfl⟩
theorem d_AC_lineUp_3 : PLa b_AC_lineUp 3 0 4 := Or.inl ⟨0, by decide +kernel, rfl, rfl⟩
theorem d_AC_lineUp_4 : DR b_AC_lineUp 4 (.getfield 77) 3 7 := ⟨by decide +kernel, rfl⟩
theorem d_AC_lineUp_7 : DR b_AC_lineUp 7 (.arraylength) 1 8 := ⟨by decide +kernel, rfl⟩
theorem d_AC_lineUp_8 : DJ b_AC_lineUp 8 (.if_icmp .ge) 11 28 := ⟨20, by decide +kernel, rfl, by decide⟩
theorem d_AC_lineUp_11 : PLa b_AC_lineUp 11 0 12 := Or.inl ⟨0, by decide +kernel, rfl, rfl⟩
theorem d_AC_lineUp_12 : DR b_AC_lineUp 12 (.getfield 77) 3 15 := ⟨by decide +kernel, rfl⟩
theorem d_AC_lineUp_15 : PLi b_AC_lineUp 15 2 16 := Or.inl ⟨2, by decide +kernel, rfl, rfl⟩
theorem d_AC_lineUp_16 : PLa b_AC_lineUp 16 1 17 := Or.inl ⟨1, by decide +kernel, rfl, rfl⟩
theorem d_AC_lineUp_17 : PLi b_AC_lineUp 17 2 18 := Or.inl ⟨2, by decide +kernel, rfl, rfl⟩
theorem d_AC_lineUp_18 : DR b_AC_lineUp 18 (.invokestatic 122) 3 21 := ⟨by decide +kernel, rfl⟩
theorem d_AC_lineUp_21 : DR b_AC_lineUp 21 (.iastore) 1 22 := ⟨by decide +kernel, rfl⟩
theorem d_AC_lineUp_22 : DR b_AC_lineUp 22 (.iinc 2 1) 3 25 := ⟨by decide +kernel, rfl⟩
theorem d_AC_lineUp_25 : DJ b_AC_lineUp 25 .goto 28 2 := ⟨-23, by decide +kernel, rfl, by decide⟩
theorem d_AC_lineUp_28 : DR b_AC_lineUp 28 (.return_) 1 29 := ⟨by decide +kernel, rfl⟩
set_option maxRecDepth 20000 in
theorem BH_AC_lineUp_2 {G : MCx} (hC : C0 G "AccusedChoose" b_AC_lineUp 3 2) {t1 : Nat} (h1 : isIA t1) (K2 : Int32 × St → Option (St)) (hK2 : ∀ (w2 : Int32) (s : St), VO G (RV G b_AC_lineUp) (K2 (w2, s)) 2 [(0, .ref (gad G 0)), (1, .ref (gad G t1)), (2, .int w2)] [] s) (v2 : Int32) (s : St) : VO G (RV G b_AC_lineUp) (H_AC_lineUp_2 t1 K2 v2 s) 2 [(0, .ref (gad G 0)), (1, .ref (gad G t1)), (2, .int v2)] [] s := by
  unfold H_AC_lineUp_2
  refine VO_iload hC d_AC_lineUp_2 2 rfl ?_
  refine VO_aload hC d_AC_lineUp_3 0 rfl ?_
  refine VO_getr (r := 54) hC fl_AC_77 sh_AC rfl d_AC_lineUp_4 ?_
  refine VO_alen hC ia_54 d_AC_lineUp_7 ?_
  refine VO_icmp_ge hC d_AC_lineUp_8 (fun _ => ?_) (fun _ => ?_)
  · exact VO_return d_AC_lineUp_28
  · refine VO_aload hC d_AC_lineUp_11 0 rfl ?_
    refine VO_getr (r := 54) hC fl_AC_77 sh_AC rfl d_AC_lineUp_12 ?_
    refine VO_iload hC d_AC_lineUp_15 2 rfl ?_
    refine VO_aload hC d_AC_lineUp_16 1 rfl ?_
    refine VO_iload hC d_AC_lineUp_17 2 rfl ?_
    refine VO_callSI hC [.ref (gad G t1), .int v2] [.int v2, .ref (gad G 54)] ml_AC_122 d_AC_lineUp_18 ys_AC_at (fun o h => M_AC_at hC.inj h1 h) (by decide) rfl rfl (Nat.le_of_ble_eq_true rfl) (fun o1 => ?_)
    refine VO_iastore hC ia_54 d_AC_lineUp_21 (fun s2 => ?_)
    refine VO_iinc hC d_AC_lineUp_22 2 rfl (by decide : Int32.ofInt 1 = 1) [(0, .ref (gad G 0)), (1, .ref (gad G t1))] rfl (by decide) ?_
    refine VO_goto hC d_AC_lineUp_25 ?_
    exact VO_sub [1, 2, 0] rfl (hK2 (v2 + 1) s2)
set_option maxRecDepth 20000 in
theorem B_AC_lineUp_2 {G : MCx} (hC : C0 G "AccusedChoose" b_AC_lineUp 3 2) {t1 : Nat} (h1 : isIA t1) (v2 : Int32) (s : St) : VO G (RV G b_AC_lineUp) (F_AC_lineUp_2 t1 v2 s) 2 [(0, .ref (gad G 0)), (1, .ref (gad G t1)), (2, .int v2)] [] s := by
  exact VO_fix (G_AC_lineUp_2 t1) 2 (fun q => [(0, .ref (gad G 0)), (1, .ref (gad G t1)), (2, .int q.1)]) (fun q => q.2) (fun K hK q => BH_AC_lineUp_2 hC h1 K (fun w2 s => hK (w2, s)) q.1 q.2) FUEL (v2, s)
set_option maxRecDepth 20000 in
theorem B_AC_lineUp {G : MCx} (hC : C0 G "AccusedChoose" b_AC_lineUp 3 2) {t1 : Nat} (h1 : isIA t1) (s : St) : VO G (RV G b_AC_lineUp) (F_AC_lineUp t1 s) 0 [(0, .ref (gad G 0)), (1, .ref (gad G t1))] [] s := by
  unfold F_AC_lineUp
  refine VO_const hC d_AC_lineUp_0 ?_
  refine VO_istore hC d_AC_lineUp_1 [(0, .ref (gad G 0)), (1, .ref (gad G t1))] rfl (by decide) ?_
  exact VO_sub [1, 2, 0] rfl (B_AC_lineUp_2 hC h1 (0 : Int32) s)
set_option maxRecDepth 20000 in
theorem M_AC_lineUp {l : Launch} {D : va_G} {ad : Nat → Nat} {cI cL : ClassId} (hj : Inj ad) {t1 : Nat} (h1 : isIA t1) {s : St} {o : St} (h : F_AC_lineUp t1 s = some o) : Cn l D ad cI cL y_AC_lineUp b_AC_lineUp 3 none 2 [.ref (ad 0), .ref (ad t1)] s none o := by
  refine Cn_ofV hj (plainFor_of_name (by decide)) (Nat.le_of_ble_eq_true rfl) [(0, .ref (ad 0)), (1, .ref (ad t1))] rfl (fun G hC e1 e2 e3 e4 e5 hR => ?_)
  subst e1; subst e2; subst e3; subst e4; subst e5
  exact B_AC_lineUp hC h1 s o h hR
theorem d_AC_ruleKey_0 : PLa b_AC_ruleKey 0 0 1 := Or.inl ⟨0, by decide +kernel, rfl, rfl⟩
theorem d_AC_ruleKey_1 : DR b_AC_ruleKey 1 (.getfield 10) 3 4 := ⟨by decide +kernel, rfl⟩
theorem d_AC_ruleKey_4 : DR b_AC_ruleKey 4 (.getfield 132) 3 7 := ⟨by decide +kernel, rfl⟩
theorem d_AC_ruleKey_7 : PLi b_AC_ruleKey 7 2 8 := Or.inl ⟨2, by decide +kernel, rfl, rfl⟩
theorem d_AC_ruleKey_8 : DR b_AC_ruleKey 8 (.invokestatic 122) 3 11 := ⟨by decide +kernel, rfl⟩
theorem d_AC_ruleKey_11 : PSi b_AC_ruleKey 11 3 12 := Or.inl ⟨3, by decide +kernel, rfl, rfl⟩
theorem d_AC_ruleKey_12 : PLa b_AC_ruleKey 12 0 13 := Or.inl ⟨0, by decide +kernel, rfl, rfl⟩
theorem d_AC_ruleKey_13 : DR b_AC_ruleKey 13 (.getfield 10) 3 16 := ⟨by decide +kernel, rfl⟩
theorem d_AC_ruleKey_16 : DR b_AC_ruleKey 16 (.getfield 138) 3 19 := ⟨by decide +kernel, rfl⟩
theorem d_AC_ruleKey_19 : PLi b_AC_ruleKey 19 2 20 := Or.inl ⟨2, by decide +kernel, rfl, rfl⟩
theorem d_AC_ruleKey_20 : DR b_AC_ruleKey 20 (.invokestatic 122) 3 23 := ⟨by decide +kernel, rfl⟩
theorem d_AC_ruleKey_23 : PCi b_AC_ruleKey 23 7 25 := Or.inr (Or.inl ⟨7, by decide +kernel, by decide, rfl⟩)
theorem d_AC_ruleKey_25 : DJ b_AC_ruleKey 25 (.if_icmp .ne) 28 32 := ⟨7, by decide +kernel, rfl, by decide⟩
theorem d_AC_ruleKey_28 : PCi b_AC_ruleKey 28 1 29 := Or.inl ⟨1, by decide +kernel, by decide, rfl⟩
theorem d_AC_ruleKey_29 : DJ b_AC_ruleKey 29 .goto 32 33 := ⟨4, by decide +kernel, rfl, by decide⟩
theorem d_AC_ruleKey_32 : PCi b_AC_ruleKey 32 0 33 := Or.inl ⟨0, by decide +kernel, by decide, rfl⟩
theorem d_AC_ruleKey_33 : PSi b_AC_ruleKey 33 4 35 := Or.inr ⟨by decide +kernel, rfl⟩
theorem d_AC_ruleKey_35 : PLi b_AC_ruleKey 35 1 36 := Or.inl ⟨1, by decide +kernel, rfl, rfl⟩
theorem d_AC_ruleKey_36 : decode b_AC_ruleKey 36 = .ok (.tableswitch 44 1 3 #[28, 30, 33], 28) := by decide +kernel
theorem d_AC_ruleKey_64 : PLi b_AC_ruleKey 64 3 65 := Or.inl ⟨3, by decide +kernel, rfl, rfl⟩
theorem d_AC_ruleKey_65 : DR b_AC_ruleKey 65 (.ireturn) 1 66 := ⟨by decide +kernel, rfl⟩
theorem d_AC_ruleKey_66 : PLi b_AC_ruleKey 66 3 67 := Or.inl ⟨3, by decide +kernel, rfl, rfl⟩
theorem d_AC_ruleKey_67 : DR b_AC_ruleKey 67 (.ineg) 1 68 := ⟨by decide +kernel, rfl⟩
theorem d_AC_ruleKey_68 : DR b_AC_ruleKey 68 (.ireturn) 1 69 := ⟨by decide +kernel, rfl⟩
theorem d_AC_ruleKey_69 : PLi b_AC_ruleKey 69 4 71 := Or.inr ⟨by decide +kernel, rfl⟩
theorem d_AC_ruleKey_71 : DJ b_AC_ruleKey 71 (.ifCond .eq) 74 78 := ⟨7, by decide +kernel, rfl, by decide⟩
theorem d_AC_ruleKey_74 : PCi b_AC_ruleKey 74 1 75 := Or.inl ⟨1, by decide +kernel, by decide, rfl⟩
theorem d_AC_ruleKey_75 : DJ b_AC_ruleKey 75 .goto 78 79 := ⟨4, by decide +kernel, rfl, by decide⟩
theorem d_AC_ruleKey_78 : PCi b_AC_ruleKey 78 0 79 := Or.inl ⟨0, by decide +kernel, by decide, rfl⟩
theorem d_AC_ruleKey_79 : DR b_AC_ruleKey 79 (.ireturn) 1 80 := ⟨by decide +kernel, rfl⟩
theorem d_AC_ruleKey_80 : PLi b_AC_ruleKey 80 4 82 := Or.inr ⟨by decide +kernel, rfl⟩
theorem d_AC_ruleKey_82 : DJ b_AC_ruleKey 82 (.ifCond .eq) 85 89 := ⟨7, by decide +kernel, rfl, by decide⟩
theorem d_AC_ruleKey_85 : PCi b_AC_ruleKey 85 0 86 := Or.inl ⟨0, by decide +kernel, by decide, rfl⟩
theorem d_AC_ruleKey_86 : DJ b_AC_ruleKey 86 .goto 89 90 := ⟨4, by decide +kernel, rfl, by decide⟩
theorem d_AC_ruleKey_89 : PCi b_AC_ruleKey 89 1 90 := Or.inl ⟨1, by decide +kernel, by decide, rfl⟩
theorem d_AC_ruleKey_90 : DR b_AC_ruleKey 90 (.ireturn) 1 91 := ⟨by decide +kernel, rfl⟩
set_option maxRecDepth 20000 in
theorem B_AC_ruleKey_33 {G : MCx} (hC : C0 G "AccusedChoose" b_AC_ruleKey 5 2) (v1 : Int32) (v3 : Int32) (z0 : Int32) (s : St) : VO G (RI G b_AC_ruleKey) (F_AC_ruleKey_33 v1 v3 z0 s) 33 [(1, .int v1), (3, .int v3)] [.int z0] s := by
  unfold F_AC_ruleKey_33
  refine VO_istore hC d_AC_ruleKey_33 [(1, .int v1), (3, .int v3)] rfl (by decide) ?_
  refine VO_iload hC d_AC_ruleKey_35 1 rfl ?_
  refine VO_ite (fun c36_0 => ?_) (fun c36_0 => ?_)
  · refine VO_tin (tgt := 64) (off := (28 : Int)) hC d_AC_ruleKey_36 (by rw [c36_0]; decide) (by rw [c36_0]; decide) (by first | (rw [c36_0]; done) | (rw [c36_0]; rfl)) (by decide) ?_
    refine VO_iload hC d_AC_ruleKey_64 2 rfl ?_
    exact VO_ireturn d_AC_ruleKey_65
  refine VO_ite (fun c36_1 => ?_) (fun c36_1 => ?_)
  · refine VO_tin (tgt := 66) (off := (30 : Int)) hC d_AC_ruleKey_36 (by rw [c36_1]; decide) (by rw [c36_1]; decide) (by first | (rw [c36_1]; done) | (rw [c36_1]; rfl)) (by decide) ?_
    refine VO_iload hC d_AC_ruleKey_66 2 rfl ?_
    refine VO_ineg hC d_AC_ruleKey_67 ?_
    exact VO_ireturn d_AC_ruleKey_68
  refine VO_ite (fun c36_2 => ?_) (fun c36_2 => ?_)
  · refine VO_tin (tgt := 69) (off := (33 : Int)) hC d_AC_ruleKey_36 (by rw [c36_2]; decide) (by rw [c36_2]; decide) (by first | (rw [c36_2]; done) | (rw [c36_2]; rfl)) (by decide) ?_
    refine VO_iload hC d_AC_ruleKey_69 0 rfl ?_
    refine VO_if_eq hC d_AC_ruleKey_71 (fun _ => ?_) (fun _ => ?_)
    · refine VO_const hC d_AC_ruleKey_78 ?_
      exact VO_ireturn d_AC_ruleKey_79
    · refine VO_const hC d_AC_ruleKey_74 ?_
      refine VO_goto hC d_AC_ruleKey_75 ?_
      exact VO_ireturn d_AC_ruleKey_79
  refine VO_tout (tgt := 80) hC d_AC_ruleKey_36 (by have e0 := lv_neT (a := 1) c36_0 rfl; have e1 := lv_neT (a := 2) c36_1 rfl; have e2 := lv_neT (a := 3) c36_2 rfl; omega) (by decide) ?_
  refine VO_iload hC d_AC_ruleKey_80 0 rfl ?_
  refine VO_if_eq hC d_AC_ruleKey_82 (fun _ => ?_) (fun _ => ?_)
  · refine VO_const hC d_AC_ruleKey_89 ?_
    exact VO_ireturn d_AC_ruleKey_90
  · refine VO_const hC d_AC_ruleKey_85 ?_
    refine VO_goto hC d_AC_ruleKey_86 ?_
    exact VO_ireturn d_AC_ruleKey_90
set_option maxRecDepth 20000 in
theorem B_AC_ruleKey {G : MCx} (hC : C0 G "AccusedChoose" b_AC_ruleKey 5 2) (a1 : Int32) (a2 : Int32) (s : St) : VO G (RI G b_AC_ruleKey) (F_AC_ruleKey a1 a2 s) 0 [(0, .ref (gad G 0)), (1, .int a1), (2, .int a2)] [] s := by
  unfold F_AC_ruleKey
  refine VO_aload hC d_AC_ruleKey_0 0 rfl ?_
  refine VO_getr (r := 1) hC fl_AC_10 sh_AC rfl d_AC_ruleKey_1 ?_
  refine VO_getr (r := 4) hC fl_AC_132 (sh_NI isNI_1) rfl d_AC_ruleKey_4 ?_
  refine VO_iload hC d_AC_ruleKey_7 2 rfl ?_
  refine VO_callSI hC [.ref (gad G 4), .int a2] [] ml_AC_122 d_AC_ruleKey_8 ys_AC_at (fun o h => M_AC_at hC.inj ia_4 h) (by decide) rfl rfl (Nat.le_of_ble_eq_true rfl) (fun o1 => ?_)
  refine VO_istore hC d_AC_ruleKey_11 [(0, .ref (gad G 0)), (1, .int a1), (2, .int a2)] rfl (by decide) ?_
  refine VO_aload hC d_AC_ruleKey_12 1 rfl ?_
  refine VO_getr (r := 1) hC fl_AC_10 sh_AC rfl d_AC_ruleKey_13 ?_
  refine VO_getr (r := 6) hC fl_AC_138 (sh_NI isNI_1) rfl d_AC_ruleKey_16 ?_
  refine VO_iload hC d_AC_ruleKey_19 3 rfl ?_
  refine VO_callSI hC [.ref (gad G 6), .int a2] [] ml_AC_122 d_AC_ruleKey_20 ys_AC_at (fun o h => M_AC_at hC.inj ia_6 h) (by decide) rfl rfl (Nat.le_of_ble_eq_true rfl) (fun o2 => ?_)
  refine VO_const hC d_AC_ruleKey_23 ?_
  refine VO_icmp_ne hC d_AC_ruleKey_25 (fun _ => ?_) (fun _ => ?_)
  · refine VO_const hC d_AC_ruleKey_28 ?_
    refine VO_goto hC d_AC_ruleKey_29 ?_
    exact VO_sub [2, 0] rfl (B_AC_ruleKey_33 hC a1 o1.1 (1 : Int32) o2.2)
  · refine VO_const hC d_AC_ruleKey_32 ?_
    exact VO_sub [2, 0] rfl (B_AC_ruleKey_33 hC a1 o1.1 (0 : Int32) o2.2)
set_option maxRecDepth 20000 in
theorem M_AC_ruleKey {l : Launch} {D : va_G} {ad : Nat → Nat} {cI cL : ClassId} (hj : Inj ad) {a1 : Int32} {a2 : Int32} {s : St} {o : Int32 × St} (h : F_AC_ruleKey a1 a2 s = some o) : Cn l D ad cI cL y_AC_ruleKey b_AC_ruleKey 5 (some .int) 2 [.ref (ad 0), .int a1, .int a2] s (some (.int o.1)) o.2 := by
  refine Cn_ofI hj (plainFor_of_name (by decide)) (Nat.le_of_ble_eq_true rfl) [(0, .ref (ad 0)), (1, .int a1), (2, .int a2)] rfl (fun G hC e1 e2 e3 e4 e5 hR => ?_)
  subst e1; subst e2; subst e3; subst e4; subst e5
  exact B_AC_ruleKey hC a1 a2 s o h hR
theorem d_AC_holdLine_0 : PLa b_AC_holdLine 0 0 1 := Or.inl ⟨0, by decide +kernel, rfl, rfl⟩
theorem d_AC_holdLine_1 : DR b_AC_holdLine 1 (.getfield 53) 3 4 := ⟨by decide +kernel, rfl⟩
theorem d_AC_holdLine_4 : PLa b_AC_holdLine 4 0 5 := Or.inl ⟨0, by decide +kernel, rfl, rfl⟩
theorem d_AC_holdLine_5 : DR b_AC_holdLine 5 (.getfield 39) 3 8 := ⟨by decide +kernel, rfl⟩
theorem d_AC_holdLine_8 : PLa b_AC_holdLine 8 0 9 := Or.inl ⟨0, by decide +kernel, rfl, rfl⟩
theorem d_AC_holdLine_9 : DR b_AC_holdLine 9 (.getfield 77) 3 12 := ⟨by decide +kernel, rfl⟩
theorem d_AC_holdLine_12 : PLa b_AC_holdLine 12 0 13 := Or.inl ⟨0, by decide +kernel, rfl, rfl⟩
theorem d_AC_holdLine_13 : DR b_AC_holdLine 13 (.getfield 10) 3 16 := ⟨by decide +kernel, rfl⟩
theorem d_AC_holdLine_16 : DR b_AC_holdLine 16 (.invokevirtual 302) 3 19 := ⟨by decide +kernel, rfl⟩
theorem d_AC_holdLine_19 : DR b_AC_holdLine 19 (.invokevirtual 305) 3 22 := ⟨by decide +kernel, rfl⟩
theorem d_AC_holdLine_22 : DR b_AC_holdLine 22 (.return_) 1 23 := ⟨by decide +kernel, rfl⟩
set_option maxRecDepth 20000 in
theorem B_AC_holdLine {G : MCx} (hC : C0 G "AccusedChoose" b_AC_holdLine 1 5) (s : St) : VO G (RV G b_AC_holdLine) (F_AC_holdLine s) 0 [(0, .ref (gad G 0))] [] s := by
  unfold F_AC_holdLine
  refine VO_aload hC d_AC_holdLine_0 0 rfl ?_
  refine VO_getr (r := 43) hC fl_AC_53 sh_AC rfl d_AC_holdLine_1 ?_
  refine VO_aload hC d_AC_holdLine_4 0 rfl ?_
  refine VO_getr (r := 36) hC fl_AC_39 sh_AC rfl d_AC_holdLine_5 ?_
  refine VO_aload hC d_AC_holdLine_8 0 rfl ?_
  refine VO_getr (r := 54) hC fl_AC_77 sh_AC rfl d_AC_holdLine_9 ?_
  refine VO_aload hC d_AC_holdLine_12 0 rfl ?_
  refine VO_getr (r := 1) hC fl_AC_10 sh_AC rfl d_AC_holdLine_13 ?_
  refine VO_callVI hC [] [.ref (gad G 54), .ref (gad G 36), .ref (gad G 43)] ml_AC_302 d_AC_holdLine_16 yv_NI_allDeeds (sh_NI isNI_1) rfl rfl (fun o h => M_NI_allDeeds hC.inj isNI_1 h) (by decide) rfl rfl (Nat.le_of_ble_eq_true rfl) (fun o1 => ?_)
  refine VO_callVV hC [.ref (gad G 36), .ref (gad G 54), .int o1.1] [] ml_AC_305 d_AC_holdLine_19 yv_MO_hold (sh_MO isMO_43) rfl rfl (fun o h => M_MO_hold hC.inj isMO_43 isPR_36 ia_54 h) (by decide) rfl rfl (Nat.le_of_ble_eq_true rfl) (fun s2 => ?_)
  exact VO_return d_AC_holdLine_22
set_option maxRecDepth 20000 in
theorem M_AC_holdLine {l : Launch} {D : va_G} {ad : Nat → Nat} {cI cL : ClassId} (hj : Inj ad) {s : St} {o : St} (h : F_AC_holdLine s = some o) : Cn l D ad cI cL y_AC_holdLine b_AC_holdLine 1 none 5 [.ref (ad 0)] s none o := by
  refine Cn_ofV hj (plainFor_of_name (by decide)) (Nat.le_of_ble_eq_true rfl) [(0, .ref (ad 0))] rfl (fun G hC e1 e2 e3 e4 e5 hR => ?_)
  subst e1; subst e2; subst e3; subst e4; subst e5
  exact B_AC_holdLine hC s o h hR
theorem d_AC_holdRule_0 : PLa b_AC_holdRule 0 0 1 := Or.inl ⟨0, by decide +kernel, rfl, rfl⟩
theorem d_AC_holdRule_1 : PLa b_AC_holdRule 1 0 2 := Or.inl ⟨0, by decide +kernel, rfl, rfl⟩
theorem d_AC_holdRule_2 : DR b_AC_holdRule 2 (.getfield 10) 3 5 := ⟨by decide +kernel, rfl⟩
theorem d_AC_holdRule_5 : DR b_AC_holdRule 5 (.getfield 178) 3 8 := ⟨by decide +kernel, rfl⟩
theorem d_AC_holdRule_8 : DR b_AC_holdRule 8 (.invokevirtual 340) 3 11 := ⟨by decide +kernel, rfl⟩
theorem d_AC_holdRule_11 : PLi b_AC_holdRule 11 1 12 := Or.inl ⟨1, by decide +kernel, rfl, rfl⟩
theorem d_AC_holdRule_12 : DJ b_AC_holdRule 12 (.ifCond .eq) 15 77 := ⟨65, by decide +kernel, rfl, by decide⟩
theorem d_AC_holdRule_15 : PCi b_AC_holdRule 15 0 16 := Or.inl ⟨0, by decide +kernel, by decide, rfl⟩
theorem d_AC_holdRule_16 : PSi b_AC_holdRule 16 2 17 := Or.inl ⟨2, by decide +kernel, rfl, rfl⟩
theorem d_AC_holdRule_17 : PCi b_AC_holdRule 17 (-9) 19 := Or.inr (Or.inl ⟨(-9), by decide +kernel, by decide, rfl⟩)
theorem d_AC_holdRule_19 : PSi b_AC_holdRule 19 3 20 := Or.inl ⟨3, by decide +kernel, rfl, rfl⟩
theorem d_AC_holdRule_20 : PLi b_AC_holdRule 20 3 21 := Or.inl ⟨3, by decide +kernel, rfl, rfl⟩
theorem d_AC_holdRule_21 : PCi b_AC_holdRule 21 9 23 := Or.inr (Or.inl ⟨9, by decide +kernel, by decide, rfl⟩)
theorem d_AC_holdRule_23 : DJ b_AC_holdRule 23 (.if_icmp .gt) 26 77 := ⟨54, by decide +kernel, rfl, by decide⟩
theorem d_AC_holdRule_26 : PCi b_AC_holdRule 26 0 27 := Or.inl ⟨0, by decide +kernel, by decide, rfl⟩
theorem d_AC_holdRule_27 : PSi b_AC_holdRule 27 4 29 := Or.inr ⟨by decide +kernel, rfl⟩
theorem d_AC_holdRule_29 : PLi b_AC_holdRule 29 4 31 := Or.inr ⟨by decide +kernel, rfl⟩
theorem d_AC_holdRule_31 : PLa b_AC_holdRule 31 0 32 := Or.inl ⟨0, by decide +kernel, rfl, rfl⟩
theorem d_AC_holdRule_32 : DR b_AC_holdRule 32 (.getfield 10) 3 35 := ⟨by decide +kernel, rfl⟩
theorem d_AC_holdRule_35 : DR b_AC_holdRule 35 (.getfield 164) 3 38 := ⟨by decide +kernel, rfl⟩
theorem d_AC_holdRule_38 : DJ b_AC_holdRule 38 (.if_icmp .ge) 41 71 := ⟨33, by decide +kernel, rfl, by decide⟩
theorem d_AC_holdRule_41 : PLa b_AC_holdRule 41 0 42 := Or.inl ⟨0, by decide +kernel, rfl, rfl⟩
theorem d_AC_holdRule_42 : PLi b_AC_holdRule 42 1 43 := Or.inl ⟨1, by decide +kernel, rfl, rfl⟩
theorem d_AC_holdRule_43 : PLi b_AC_holdRule 43 4 45 := Or.inr ⟨by decide +kernel, rfl⟩
theorem d_AC_holdRule_45 : DR b_AC_holdRule 45 (.invokevirtual 384) 3 48 := ⟨by decide +kernel, rfl⟩
theorem d_AC_holdRule_48 : PLi b_AC_holdRule 48 3 49 := Or.inl ⟨3, by decide +kernel, rfl, rfl⟩
theorem d_AC_holdRule_49 : DJ b_AC_holdRule 49 (.if_icmp .ne) 52 65 := ⟨16, by decide +kernel, rfl, by decide⟩
theorem d_AC_holdRule_52 : PLa b_AC_holdRule 52 0 53 := Or.inl ⟨0, by decide +kernel, rfl, rfl⟩
theorem d_AC_holdRule_53 : DR b_AC_holdRule 53 (.getfield 77) 3 56 := ⟨by decide +kernel, rfl⟩
theorem d_AC_holdRule_56 : PLi b_AC_holdRule 56 2 57 := Or.inl ⟨2, by decide +kernel, rfl, rfl⟩
theorem d_AC_holdRule_57 : PLi b_AC_holdRule 57 4 59 := Or.inr ⟨by decide +kernel, rfl⟩
theorem d_AC_holdRule_59 : DR b_AC_holdRule 59 (.invokestatic 310) 3 62 := ⟨by decide +kernel, rfl⟩
theorem d_AC_holdRule_62 : DR b_AC_holdRule 62 (.iinc 2 1) 3 65 := ⟨by decide +kernel, rfl⟩
theorem d_AC_holdRule_65 : DR b_AC_holdRule 65 (.iinc 4 1) 3 68 := ⟨by decide +kernel, rfl⟩
theorem d_AC_holdRule_68 : DJ b_AC_holdRule 68 .goto 71 29 := ⟨-39, by decide +kernel, rfl, by decide⟩
theorem d_AC_holdRule_71 : DR b_AC_holdRule 71 (.iinc 3 1) 3 74 := ⟨by decide +kernel, rfl⟩
theorem d_AC_holdRule_74 : DJ b_AC_holdRule 74 .goto 77 20 := ⟨-54, by decide +kernel, rfl, by decide⟩
theorem d_AC_holdRule_77 : PLa b_AC_holdRule 77 0 78 := Or.inl ⟨0, by decide +kernel, rfl, rfl⟩
theorem d_AC_holdRule_78 : DR b_AC_holdRule 78 (.invokevirtual 326) 3 81 := ⟨by decide +kernel, rfl⟩
theorem d_AC_holdRule_81 : DR b_AC_holdRule 81 (.return_) 1 82 := ⟨by decide +kernel, rfl⟩
set_option maxRecDepth 20000 in
theorem B_AC_holdRule_77 {G : MCx} (hC : C0 G "AccusedChoose" b_AC_holdRule 5 6) (s : St) : VO G (RV G b_AC_holdRule) (F_AC_holdRule_77 s) 77 [(0, .ref (gad G 0))] [] s := by
  unfold F_AC_holdRule_77
  refine VO_aload hC d_AC_holdRule_77 0 rfl ?_
  refine VO_callVV hC [] [] ml_AC_326 d_AC_holdRule_78 yv_AC_holdLine sh_AC rfl rfl (fun o h => M_AC_holdLine hC.inj h) (by decide) rfl rfl (Nat.le_of_ble_eq_true rfl) (fun s2 => ?_)
  exact VO_return d_AC_holdRule_81
set_option maxRecDepth 20000 in
theorem B_AC_holdRule_65 {G : MCx} (hC : C0 G "AccusedChoose" b_AC_holdRule 5 6) {v1 : Int32} {v3 : Int32} (K20 : Int32 × Int32 × St → Option (St)) (hK20 : ∀ (w2 : Int32) (w3 : Int32) (s : St), VO G (RV G b_AC_holdRule) (K20 (w2, w3, s)) 20 [(0, .ref (gad G 0)), (1, .int v1), (2, .int w2), (3, .int w3)] [] s) (K29 : Int32 × Int32 × St → Option (St)) (hK29 : ∀ (w2 : Int32) (w4 : Int32) (s : St), VO G (RV G b_AC_holdRule) (K29 (w2, w4, s)) 29 [(0, .ref (gad G 0)), (1, .int v1), (2, .int w2), (3, .int v3), (4, .int w4)] [] s) (v2 : Int32) (v4 : Int32) (s : St) : VO G (RV G b_AC_holdRule) (F_AC_holdRule_65 K20 K29 v1 v2 v3 v4 s) 65 [(0, .ref (gad G 0)), (1, .int v1), (2, .int v2), (3, .int v3), (4, .int v4)] [] s := by
  unfold F_AC_holdRule_65
  refine VO_iinc hC d_AC_holdRule_65 4 rfl (by decide : Int32.ofInt 1 = 1) [(0, .ref (gad G 0)), (1, .int v1), (2, .int v2), (3, .int v3)] rfl (by decide) ?_
  refine VO_goto hC d_AC_holdRule_68 ?_
  exact VO_sub [1, 2, 3, 4, 0] rfl (hK29 v2 (v4 + 1) s)
set_option maxRecDepth 20000 in
theorem BH_AC_holdRule_29 {G : MCx} (hC : C0 G "AccusedChoose" b_AC_holdRule 5 6) {v1 : Int32} {v3 : Int32} (K20 : Int32 × Int32 × St → Option (St)) (hK20 : ∀ (w2 : Int32) (w3 : Int32) (s : St), VO G (RV G b_AC_holdRule) (K20 (w2, w3, s)) 20 [(0, .ref (gad G 0)), (1, .int v1), (2, .int w2), (3, .int w3)] [] s) (K29 : Int32 × Int32 × St → Option (St)) (hK29 : ∀ (w2 : Int32) (w4 : Int32) (s : St), VO G (RV G b_AC_holdRule) (K29 (w2, w4, s)) 29 [(0, .ref (gad G 0)), (1, .int v1), (2, .int w2), (3, .int v3), (4, .int w4)] [] s) (v2 : Int32) (v4 : Int32) (s : St) : VO G (RV G b_AC_holdRule) (H_AC_holdRule_29 K20 v1 v3 K29 v2 v4 s) 29 [(0, .ref (gad G 0)), (1, .int v1), (2, .int v2), (3, .int v3), (4, .int v4)] [] s := by
  unfold H_AC_holdRule_29
  refine VO_iload hC d_AC_holdRule_29 4 rfl ?_
  refine VO_aload hC d_AC_holdRule_31 0 rfl ?_
  refine VO_getr (r := 1) hC fl_AC_10 sh_AC rfl d_AC_holdRule_32 ?_
  refine VO_geti hC fl_AC_164 (sh_NI isNI_1) rfl d_AC_holdRule_35 ?_
  refine VO_icmp_ge hC d_AC_holdRule_38 (fun _ => ?_) (fun _ => ?_)
  · refine VO_iinc hC d_AC_holdRule_71 3 rfl (by decide : Int32.ofInt 1 = 1) [(0, .ref (gad G 0)), (1, .int v1), (2, .int v2), (4, .int v4)] rfl (by decide) ?_
    refine VO_goto hC d_AC_holdRule_74 ?_
    exact VO_sub [1, 2, 3, 0] rfl (hK20 v2 (v3 + 1) s)
  · refine VO_aload hC d_AC_holdRule_41 0 rfl ?_
    refine VO_iload hC d_AC_holdRule_42 1 rfl ?_
    refine VO_iload hC d_AC_holdRule_43 4 rfl ?_
    refine VO_callVI hC [.int v1, .int v4] [] ml_AC_384 d_AC_holdRule_45 yv_AC_ruleKey sh_AC rfl rfl (fun o h => M_AC_ruleKey hC.inj h) (by decide) rfl rfl (Nat.le_of_ble_eq_true rfl) (fun o3 => ?_)
    refine VO_iload hC d_AC_holdRule_48 3 rfl ?_
    refine VO_icmp_ne hC d_AC_holdRule_49 (fun _ => ?_) (fun _ => ?_)
    · refine VO_aload hC d_AC_holdRule_52 0 rfl ?_
      refine VO_getr (r := 54) hC fl_AC_77 sh_AC rfl d_AC_holdRule_53 ?_
      refine VO_iload hC d_AC_holdRule_56 2 rfl ?_
      refine VO_iload hC d_AC_holdRule_57 4 rfl ?_
      refine VO_callSV hC [.ref (gad G 54), .int v2, .int v4] [] ml_AC_310 d_AC_holdRule_59 ys_AC_put (fun o h => M_AC_put hC.inj ia_54 h) (by decide) rfl rfl (Nat.le_of_ble_eq_true rfl) (fun s4 => ?_)
      refine VO_iinc hC d_AC_holdRule_62 2 rfl (by decide : Int32.ofInt 1 = 1) [(0, .ref (gad G 0)), (1, .int v1), (3, .int v3), (4, .int v4)] rfl (by decide) ?_
      exact VO_sub [1, 2, 0, 3, 4] rfl (B_AC_holdRule_65 hC K20 hK20 K29 hK29 (v2 + 1) v4 s4)
    · exact (B_AC_holdRule_65 hC K20 hK20 K29 hK29 v2 v4 o3.2)
set_option maxRecDepth 20000 in
theorem B_AC_holdRule_29 {G : MCx} (hC : C0 G "AccusedChoose" b_AC_holdRule 5 6) {v1 : Int32} (K20 : Int32 × Int32 × St → Option (St)) (hK20 : ∀ (w2 : Int32) (w3 : Int32) (s : St), VO G (RV G b_AC_holdRule) (K20 (w2, w3, s)) 20 [(0, .ref (gad G 0)), (1, .int v1), (2, .int w2), (3, .int w3)] [] s) (v2 : Int32) (v3 : Int32) (v4 : Int32) (s : St) : VO G (RV G b_AC_holdRule) (F_AC_holdRule_29 K20 v1 v2 v3 v4 s) 29 [(0, .ref (gad G 0)), (1, .int v1), (2, .int v2), (3, .int v3), (4, .int v4)] [] s := by
  exact VO_fix (G_AC_holdRule_29 K20 v1 v3) 29 (fun q => [(0, .ref (gad G 0)), (1, .int v1), (2, .int q.1), (3, .int v3), (4, .int q.2.1)]) (fun q => q.2.2) (fun K hK q => BH_AC_holdRule_29 hC K20 hK20 K (fun w2 w4 s => hK (w2, w4, s)) q.1 q.2.1 q.2.2) FUEL (v2, v4, s)
set_option maxRecDepth 20000 in
theorem BH_AC_holdRule_20 {G : MCx} (hC : C0 G "AccusedChoose" b_AC_holdRule 5 6) {v1 : Int32} (K20 : Int32 × Int32 × St → Option (St)) (hK20 : ∀ (w2 : Int32) (w3 : Int32) (s : St), VO G (RV G b_AC_holdRule) (K20 (w2, w3, s)) 20 [(0, .ref (gad G 0)), (1, .int v1), (2, .int w2), (3, .int w3)] [] s) (v2 : Int32) (v3 : Int32) (s : St) : VO G (RV G b_AC_holdRule) (H_AC_holdRule_20 v1 K20 v2 v3 s) 20 [(0, .ref (gad G 0)), (1, .int v1), (2, .int v2), (3, .int v3)] [] s := by
  unfold H_AC_holdRule_20
  refine VO_iload hC d_AC_holdRule_20 3 rfl ?_
  refine VO_const hC d_AC_holdRule_21 ?_
  refine VO_icmp_gt hC d_AC_holdRule_23 (fun _ => ?_) (fun _ => ?_)
  · exact VO_sub [0] rfl (B_AC_holdRule_77 hC s)
  · refine VO_const hC d_AC_holdRule_26 ?_
    refine VO_istore hC d_AC_holdRule_27 [(0, .ref (gad G 0)), (1, .int v1), (2, .int v2), (3, .int v3)] rfl (by decide) ?_
    exact VO_sub [1, 2, 3, 4, 0] rfl (B_AC_holdRule_29 hC K20 hK20 v2 v3 (0 : Int32) s)
set_option maxRecDepth 20000 in
theorem B_AC_holdRule_20 {G : MCx} (hC : C0 G "AccusedChoose" b_AC_holdRule 5 6) (v1 : Int32) (v2 : Int32) (v3 : Int32) (s : St) : VO G (RV G b_AC_holdRule) (F_AC_holdRule_20 v1 v2 v3 s) 20 [(0, .ref (gad G 0)), (1, .int v1), (2, .int v2), (3, .int v3)] [] s := by
  exact VO_fix (G_AC_holdRule_20 v1) 20 (fun q => [(0, .ref (gad G 0)), (1, .int v1), (2, .int q.1), (3, .int q.2.1)]) (fun q => q.2.2) (fun K hK q => BH_AC_holdRule_20 hC K (fun w2 w3 s => hK (w2, w3, s)) q.1 q.2.1 q.2.2) FUEL (v2, v3, s)
set_option maxRecDepth 20000 in
theorem B_AC_holdRule {G : MCx} (hC : C0 G "AccusedChoose" b_AC_holdRule 5 6) (a1 : Int32) (s : St) : VO G (RV G b_AC_holdRule) (F_AC_holdRule a1 s) 0 [(0, .ref (gad G 0)), (1, .int a1)] [] s := by
  unfold F_AC_holdRule
  refine VO_aload hC d_AC_holdRule_0 0 rfl ?_
  refine VO_aload hC d_AC_holdRule_1 0 rfl ?_
  refine VO_getr (r := 1) hC fl_AC_10 sh_AC rfl d_AC_holdRule_2 ?_
  refine VO_getr (r := 9) hC fl_AC_178 (sh_NI isNI_1) rfl d_AC_holdRule_5 ?_
  refine VO_callVV hC [.ref (gad G 9)] [] ml_AC_340 d_AC_holdRule_8 yv_AC_lineUp sh_AC rfl rfl (fun o h => M_AC_lineUp hC.inj ia_9 h) (by decide) rfl rfl (Nat.le_of_ble_eq_true rfl) (fun s1 => ?_)
  refine VO_iload hC d_AC_holdRule_11 1 rfl ?_
  refine VO_if_eq hC d_AC_holdRule_12 (fun _ => ?_) (fun _ => ?_)
  · exact VO_sub [0] rfl (B_AC_holdRule_77 hC s1)
  · refine VO_const hC d_AC_holdRule_15 ?_
    refine VO_istore hC d_AC_holdRule_16 [(0, .ref (gad G 0)), (1, .int a1)] rfl (by decide) ?_
    refine VO_const hC d_AC_holdRule_17 ?_
    refine VO_istore hC d_AC_holdRule_19 [(2, .int (0 : Int32)), (0, .ref (gad G 0)), (1, .int a1)] rfl (by decide) ?_
    exact VO_sub [2, 3, 1, 0] rfl (B_AC_holdRule_20 hC a1 (0 : Int32) (-9 : Int32) s1)
set_option maxRecDepth 20000 in
theorem M_AC_holdRule {l : Launch} {D : va_G} {ad : Nat → Nat} {cI cL : ClassId} (hj : Inj ad) {a1 : Int32} {s : St} {o : St} (h : F_AC_holdRule a1 s = some o) : Cn l D ad cI cL y_AC_holdRule b_AC_holdRule 5 none 6 [.ref (ad 0), .int a1] s none o := by
  refine Cn_ofV hj (plainFor_of_name (by decide)) (Nat.le_of_ble_eq_true rfl) [(0, .ref (ad 0)), (1, .int a1)] rfl (fun G hC e1 e2 e3 e4 e5 hR => ?_)
  subst e1; subst e2; subst e3; subst e4; subst e5
  exact B_AC_holdRule hC a1 s o h hR
theorem d_AC_unfairTwo_0 : PCi b_AC_unfairTwo 0 0 1 := Or.inl ⟨0, by decide +kernel, by decide, rfl⟩
theorem d_AC_unfairTwo_1 : PSi b_AC_unfairTwo 1 2 2 := Or.inl ⟨2, by decide +kernel, rfl, rfl⟩
theorem d_AC_unfairTwo_2 : PLi b_AC_unfairTwo 2 2 3 := Or.inl ⟨2, by decide +kernel, rfl, rfl⟩
theorem d_AC_unfairTwo_3 : PLa b_AC_unfairTwo 3 0 4 := Or.inl ⟨0, by decide +kernel, rfl, rfl⟩
theorem d_AC_unfairTwo_4 : DR b_AC_unfairTwo 4 (.getfield 10) 3 7 := ⟨by decide +kernel, rfl⟩
theorem d_AC_unfairTwo_7 : DR b_AC_unfairTwo 7 (.getfield 164) 3 10 := ⟨by decide +kernel, rfl⟩
theorem d_AC_unfairTwo_10 : DJ b_AC_unfairTwo 10 (.if_icmp .ge) 13 108 := ⟨98, by decide +kernel, rfl, by decide⟩
theorem d_AC_unfairTwo_13 : PCi b_AC_unfairTwo 13 0 14 := Or.inl ⟨0, by decide +kernel, by decide, rfl⟩
theorem d_AC_unfairTwo_14 : PSi b_AC_unfairTwo 14 3 15 := Or.inl ⟨3, by decide +kernel, rfl, rfl⟩
theorem d_AC_unfairTwo_15 : PLi b_AC_unfairTwo 15 3 16 := Or.inl ⟨3, by decide +kernel, rfl, rfl⟩
theorem d_AC_unfairTwo_16 : PLa b_AC_unfairTwo 16 0 17 := Or.inl ⟨0, by decide +kernel, rfl, rfl⟩
theorem d_AC_unfairTwo_17 : DR b_AC_unfairTwo 17 (.getfield 10) 3 20 := ⟨by decide +kernel, rfl⟩
theorem d_AC_unfairTwo_20 : DR b_AC_unfairTwo 20 (.getfield 164) 3 23 := ⟨by decide +kernel, rfl⟩
theorem d_AC_unfairTwo_23 : DJ b_AC_unfairTwo 23 (.if_icmp .ge) 26 102 := ⟨79, by decide +kernel, rfl, by decide⟩
theorem d_AC_unfairTwo_26 : PLa b_AC_unfairTwo 26 0 27 := Or.inl ⟨0, by decide +kernel, rfl, rfl⟩
theorem d_AC_unfairTwo_27 : DR b_AC_unfairTwo 27 (.getfield 10) 3 30 := ⟨by decide +kernel, rfl⟩
theorem d_AC_unfairTwo_30 : DR b_AC_unfairTwo 30 (.getfield 138) 3 33 := ⟨by decide +kernel, rfl⟩
theorem d_AC_unfairTwo_33 : PLi b_AC_unfairTwo 33 2 34 := Or.inl ⟨2, by decide +kernel, rfl, rfl⟩
theorem d_AC_unfairTwo_34 : DR b_AC_unfairTwo 34 (.invokestatic 122) 3 37 := ⟨by decide +kernel, rfl⟩
theorem d_AC_unfairTwo_37 : PCi b_AC_unfairTwo 37 7 39 := Or.inr (Or.inl ⟨7, by decide +kernel, by decide, rfl⟩)
theorem d_AC_unfairTwo_39 : DJ b_AC_unfairTwo 39 (.if_icmp .ne) 42 62 := ⟨23, by decide +kernel, rfl, by decide⟩
theorem d_AC_unfairTwo_42 : PLa b_AC_unfairTwo 42 0 43 := Or.inl ⟨0, by decide +kernel, rfl, rfl⟩
theorem d_AC_unfairTwo_43 : DR b_AC_unfairTwo 43 (.getfield 10) 3 46 := ⟨by decide +kernel, rfl⟩
theorem d_AC_unfairTwo_46 : DR b_AC_unfairTwo 46 (.getfield 138) 3 49 := ⟨by decide +kernel, rfl⟩
theorem d_AC_unfairTwo_49 : PLi b_AC_unfairTwo 49 3 50 := Or.inl ⟨3, by decide +kernel, rfl, rfl⟩
theorem d_AC_unfairTwo_50 : DR b_AC_unfairTwo 50 (.invokestatic 122) 3 53 := ⟨by decide +kernel, rfl⟩
theorem d_AC_unfairTwo_53 : PCi b_AC_unfairTwo 53 7 55 := Or.inr (Or.inl ⟨7, by decide +kernel, by decide, rfl⟩)
theorem d_AC_unfairTwo_55 : DJ b_AC_unfairTwo 55 (.if_icmp .eq) 58 62 := ⟨7, by decide +kernel, rfl, by decide⟩
theorem d_AC_unfairTwo_58 : PCi b_AC_unfairTwo 58 1 59 := Or.inl ⟨1, by decide +kernel, by decide, rfl⟩
theorem d_AC_unfairTwo_59 : DJ b_AC_unfairTwo 59 .goto 62 63 := ⟨4, by decide +kernel, rfl, by decide⟩
theorem d_AC_unfairTwo_62 : PCi b_AC_unfairTwo 62 0 63 := Or.inl ⟨0, by decide +kernel, by decide, rfl⟩
theorem d_AC_unfairTwo_63 : PSi b_AC_unfairTwo 63 4 65 := Or.inr ⟨by decide +kernel, rfl⟩
theorem d_AC_unfairTwo_65 : PLi b_AC_unfairTwo 65 4 67 := Or.inr ⟨by decide +kernel, rfl⟩
theorem d_AC_unfairTwo_67 : DJ b_AC_unfairTwo 67 (.ifCond .eq) 70 96 := ⟨29, by decide +kernel, rfl, by decide⟩
theorem d_AC_unfairTwo_70 : PLa b_AC_unfairTwo 70 1 71 := Or.inl ⟨1, by decide +kernel, rfl, rfl⟩
theorem d_AC_unfairTwo_71 : DR b_AC_unfairTwo 71 (.getfield 207) 3 74 := ⟨by decide +kernel, rfl⟩
theorem d_AC_unfairTwo_74 : PLi b_AC_unfairTwo 74 2 75 := Or.inl ⟨2, by decide +kernel, rfl, rfl⟩
theorem d_AC_unfairTwo_75 : DR b_AC_unfairTwo 75 (.invokestatic 122) 3 78 := ⟨by decide +kernel, rfl⟩
theorem d_AC_unfairTwo_78 : PLa b_AC_unfairTwo 78 1 79 := Or.inl ⟨1, by decide +kernel, rfl, rfl⟩
theorem d_AC_unfairTwo_79 : DR b_AC_unfairTwo 79 (.getfield 207) 3 82 := ⟨by decide +kernel, rfl⟩
theorem d_AC_unfairTwo_82 : PLi b_AC_unfairTwo 82 3 83 := Or.inl ⟨3, by decide +kernel, rfl, rfl⟩
theorem d_AC_unfairTwo_83 : DR b_AC_unfairTwo 83 (.invokestatic 122) 3 86 := ⟨by decide +kernel, rfl⟩
theorem d_AC_unfairTwo_86 : DJ b_AC_unfairTwo 86 (.if_icmp .le) 89 96 := ⟨10, by decide +kernel, rfl, by decide⟩
theorem d_AC_unfairTwo_89 : PCi b_AC_unfairTwo 89 10 91 := Or.inr (Or.inl ⟨10, by decide +kernel, by decide, rfl⟩)
theorem d_AC_unfairTwo_91 : PLi b_AC_unfairTwo 91 2 92 := Or.inl ⟨2, by decide +kernel, rfl, rfl⟩
theorem d_AC_unfairTwo_92 : DR b_AC_unfairTwo 92 (.imul) 1 93 := ⟨by decide +kernel, rfl⟩
theorem d_AC_unfairTwo_93 : PLi b_AC_unfairTwo 93 3 94 := Or.inl ⟨3, by decide +kernel, rfl, rfl⟩
theorem d_AC_unfairTwo_94 : DR b_AC_unfairTwo 94 (.iadd) 1 95 := ⟨by decide +kernel, rfl⟩
theorem d_AC_unfairTwo_95 : DR b_AC_unfairTwo 95 (.ireturn) 1 96 := ⟨by decide +kernel, rfl⟩
theorem d_AC_unfairTwo_96 : DR b_AC_unfairTwo 96 (.iinc 3 1) 3 99 := ⟨by decide +kernel, rfl⟩
theorem d_AC_unfairTwo_99 : DJ b_AC_unfairTwo 99 .goto 102 15 := ⟨-84, by decide +kernel, rfl, by decide⟩
theorem d_AC_unfairTwo_102 : DR b_AC_unfairTwo 102 (.iinc 2 1) 3 105 := ⟨by decide +kernel, rfl⟩
theorem d_AC_unfairTwo_105 : DJ b_AC_unfairTwo 105 .goto 108 2 := ⟨-103, by decide +kernel, rfl, by decide⟩
theorem d_AC_unfairTwo_108 : PCi b_AC_unfairTwo 108 (-9) 110 := Or.inr (Or.inl ⟨(-9), by decide +kernel, by decide, rfl⟩)
theorem d_AC_unfairTwo_110 : DR b_AC_unfairTwo 110 (.ireturn) 1 111 := ⟨by decide +kernel, rfl⟩
set_option maxRecDepth 20000 in
theorem B_AC_unfairTwo_96 {G : MCx} (hC : C0 G "AccusedChoose" b_AC_unfairTwo 5 2) {t1 : Nat} (h1 : isMO t1) {v2 : Int32} (K2 : Int32 × St → Option (Int32 × St)) (hK2 : ∀ (w2 : Int32) (s : St), VO G (RI G b_AC_unfairTwo) (K2 (w2, s)) 2 [(0, .ref (gad G 0)), (1, .ref (gad G t1)), (2, .int w2)] [] s) (K15 : Int32 × St → Option (Int32 × St)) (hK15 : ∀ (w3 : Int32) (s : St), VO G (RI G b_AC_unfairTwo) (K15 (w3, s)) 15 [(0, .ref (gad G 0)), (1, .ref (gad G t1)), (2, .int v2), (3, .int w3)] [] s) (v3 : Int32) (s : St) : VO G (RI G b_AC_unfairTwo) (F_AC_unfairTwo_96 t1 K2 K15 v2 v3 s) 96 [(0, .ref (gad G 0)), (1, .ref (gad G t1)), (2, .int v2), (3, .int v3)] [] s := by
  unfold F_AC_unfairTwo_96
  refine VO_iinc hC d_AC_unfairTwo_96 3 rfl (by decide : Int32.ofInt 1 = 1) [(0, .ref (gad G 0)), (1, .ref (gad G t1)), (2, .int v2)] rfl (by decide) ?_
  refine VO_goto hC d_AC_unfairTwo_99 ?_
  exact VO_sub [1, 2, 3, 0] rfl (hK15 (v3 + 1) s)
set_option maxRecDepth 20000 in
theorem B_AC_unfairTwo_63 {G : MCx} (hC : C0 G "AccusedChoose" b_AC_unfairTwo 5 2) {t1 : Nat} (h1 : isMO t1) {v2 : Int32} (K2 : Int32 × St → Option (Int32 × St)) (hK2 : ∀ (w2 : Int32) (s : St), VO G (RI G b_AC_unfairTwo) (K2 (w2, s)) 2 [(0, .ref (gad G 0)), (1, .ref (gad G t1)), (2, .int w2)] [] s) (K15 : Int32 × St → Option (Int32 × St)) (hK15 : ∀ (w3 : Int32) (s : St), VO G (RI G b_AC_unfairTwo) (K15 (w3, s)) 15 [(0, .ref (gad G 0)), (1, .ref (gad G t1)), (2, .int v2), (3, .int w3)] [] s) (v3 : Int32) (z0 : Int32) (s : St) : VO G (RI G b_AC_unfairTwo) (F_AC_unfairTwo_63 t1 K2 K15 v2 v3 z0 s) 63 [(0, .ref (gad G 0)), (1, .ref (gad G t1)), (2, .int v2), (3, .int v3)] [.int z0] s := by
  unfold F_AC_unfairTwo_63
  refine VO_istore hC d_AC_unfairTwo_63 [(0, .ref (gad G 0)), (1, .ref (gad G t1)), (2, .int v2), (3, .int v3)] rfl (by decide) ?_
  refine VO_iload hC d_AC_unfairTwo_65 0 rfl ?_
  refine VO_if_eq hC d_AC_unfairTwo_67 (fun _ => ?_) (fun _ => ?_)
  · exact VO_sub [1, 2, 3, 4] rfl (B_AC_unfairTwo_96 hC h1 K2 hK2 K15 hK15 v3 s)
  · refine VO_aload hC d_AC_unfairTwo_70 2 rfl ?_
    refine VO_getr (r := (t1 + 2)) hC fl_AC_207 (sh_MO h1) rfl d_AC_unfairTwo_71 ?_
    refine VO_iload hC d_AC_unfairTwo_74 3 rfl ?_
    refine VO_callSI hC [.ref (gad G (t1 + 2)), .int v2] [] ml_AC_122 d_AC_unfairTwo_75 ys_AC_at (fun o h => M_AC_at hC.inj (ia_MO2 h1) h) (by decide) rfl rfl (Nat.le_of_ble_eq_true rfl) (fun o2 => ?_)
    refine VO_aload hC d_AC_unfairTwo_78 2 rfl ?_
    refine VO_getr (r := (t1 + 2)) hC fl_AC_207 (sh_MO h1) rfl d_AC_unfairTwo_79 ?_
    refine VO_iload hC d_AC_unfairTwo_82 4 rfl ?_
    refine VO_callSI hC [.ref (gad G (t1 + 2)), .int v3] [.int o2.1] ml_AC_122 d_AC_unfairTwo_83 ys_AC_at (fun o h => M_AC_at hC.inj (ia_MO2 h1) h) (by decide) rfl rfl (Nat.le_of_ble_eq_true rfl) (fun o3 => ?_)
    refine VO_icmp_le hC d_AC_unfairTwo_86 (fun _ => ?_) (fun _ => ?_)
    · exact VO_sub [1, 2, 3, 4] rfl (B_AC_unfairTwo_96 hC h1 K2 hK2 K15 hK15 v3 o3.2)
    · refine VO_const hC d_AC_unfairTwo_89 ?_
      refine VO_iload hC d_AC_unfairTwo_91 3 rfl ?_
      refine VO_imul hC d_AC_unfairTwo_92 ?_
      refine VO_iload hC d_AC_unfairTwo_93 4 rfl ?_
      refine VO_iadd hC d_AC_unfairTwo_94 ?_
      exact VO_ireturn d_AC_unfairTwo_95
set_option maxRecDepth 20000 in
theorem B_AC_unfairTwo_62 {G : MCx} (hC : C0 G "AccusedChoose" b_AC_unfairTwo 5 2) {t1 : Nat} (h1 : isMO t1) {v2 : Int32} (K2 : Int32 × St → Option (Int32 × St)) (hK2 : ∀ (w2 : Int32) (s : St), VO G (RI G b_AC_unfairTwo) (K2 (w2, s)) 2 [(0, .ref (gad G 0)), (1, .ref (gad G t1)), (2, .int w2)] [] s) (K15 : Int32 × St → Option (Int32 × St)) (hK15 : ∀ (w3 : Int32) (s : St), VO G (RI G b_AC_unfairTwo) (K15 (w3, s)) 15 [(0, .ref (gad G 0)), (1, .ref (gad G t1)), (2, .int v2), (3, .int w3)] [] s) (v3 : Int32) (s : St) : VO G (RI G b_AC_unfairTwo) (F_AC_unfairTwo_62 t1 K2 K15 v2 v3 s) 62 [(0, .ref (gad G 0)), (1, .ref (gad G t1)), (2, .int v2), (3, .int v3)] [] s := by
  unfold F_AC_unfairTwo_62
  refine VO_const hC d_AC_unfairTwo_62 ?_
  exact (B_AC_unfairTwo_63 hC h1 K2 hK2 K15 hK15 v3 (0 : Int32) s)
set_option maxRecDepth 20000 in
theorem BH_AC_unfairTwo_15 {G : MCx} (hC : C0 G "AccusedChoose" b_AC_unfairTwo 5 2) {t1 : Nat} (h1 : isMO t1) {v2 : Int32} (K2 : Int32 × St → Option (Int32 × St)) (hK2 : ∀ (w2 : Int32) (s : St), VO G (RI G b_AC_unfairTwo) (K2 (w2, s)) 2 [(0, .ref (gad G 0)), (1, .ref (gad G t1)), (2, .int w2)] [] s) (K15 : Int32 × St → Option (Int32 × St)) (hK15 : ∀ (w3 : Int32) (s : St), VO G (RI G b_AC_unfairTwo) (K15 (w3, s)) 15 [(0, .ref (gad G 0)), (1, .ref (gad G t1)), (2, .int v2), (3, .int w3)] [] s) (v3 : Int32) (s : St) : VO G (RI G b_AC_unfairTwo) (H_AC_unfairTwo_15 t1 K2 v2 K15 v3 s) 15 [(0, .ref (gad G 0)), (1, .ref (gad G t1)), (2, .int v2), (3, .int v3)] [] s := by
  unfold H_AC_unfairTwo_15
  refine VO_iload hC d_AC_unfairTwo_15 3 rfl ?_
  refine VO_aload hC d_AC_unfairTwo_16 0 rfl ?_
  refine VO_getr (r := 1) hC fl_AC_10 sh_AC rfl d_AC_unfairTwo_17 ?_
  refine VO_geti hC fl_AC_164 (sh_NI isNI_1) rfl d_AC_unfairTwo_20 ?_
  refine VO_icmp_ge hC d_AC_unfairTwo_23 (fun _ => ?_) (fun _ => ?_)
  · refine VO_iinc hC d_AC_unfairTwo_102 2 rfl (by decide : Int32.ofInt 1 = 1) [(0, .ref (gad G 0)), (1, .ref (gad G t1)), (3, .int v3)] rfl (by decide) ?_
    refine VO_goto hC d_AC_unfairTwo_105 ?_
    exact VO_sub [1, 2, 0] rfl (hK2 (v2 + 1) s)
  · refine VO_aload hC d_AC_unfairTwo_26 0 rfl ?_
    refine VO_getr (r := 1) hC fl_AC_10 sh_AC rfl d_AC_unfairTwo_27 ?_
    refine VO_getr (r := 6) hC fl_AC_138 (sh_NI isNI_1) rfl d_AC_unfairTwo_30 ?_
    refine VO_iload hC d_AC_unfairTwo_33 2 rfl ?_
    refine VO_callSI hC [.ref (gad G 6), .int v2] [] ml_AC_122 d_AC_unfairTwo_34 ys_AC_at (fun o h => M_AC_at hC.inj ia_6 h) (by decide) rfl rfl (Nat.le_of_ble_eq_true rfl) (fun o1 => ?_)
    refine VO_const hC d_AC_unfairTwo_37 ?_
    refine VO_icmp_ne hC d_AC_unfairTwo_39 (fun _ => ?_) (fun _ => ?_)
    · refine VO_aload hC d_AC_unfairTwo_42 0 rfl ?_
      refine VO_getr (r := 1) hC fl_AC_10 sh_AC rfl d_AC_unfairTwo_43 ?_
      refine VO_getr (r := 6) hC fl_AC_138 (sh_NI isNI_1) rfl d_AC_unfairTwo_46 ?_
      refine VO_iload hC d_AC_unfairTwo_49 3 rfl ?_
      refine VO_callSI hC [.ref (gad G 6), .int v3] [] ml_AC_122 d_AC_unfairTwo_50 ys_AC_at (fun o h => M_AC_at hC.inj ia_6 h) (by decide) rfl rfl (Nat.le_of_ble_eq_true rfl) (fun o4 => ?_)
      refine VO_const hC d_AC_unfairTwo_53 ?_
      refine VO_icmp_eq hC d_AC_unfairTwo_55 (fun _ => ?_) (fun _ => ?_)
      · exact (B_AC_unfairTwo_62 hC h1 K2 hK2 K15 hK15 v3 o4.2)
      · refine VO_const hC d_AC_unfairTwo_58 ?_
        refine VO_goto hC d_AC_unfairTwo_59 ?_
        exact (B_AC_unfairTwo_63 hC h1 K2 hK2 K15 hK15 v3 (1 : Int32) o4.2)
    · exact (B_AC_unfairTwo_62 hC h1 K2 hK2 K15 hK15 v3 o1.2)
set_option maxRecDepth 20000 in
theorem B_AC_unfairTwo_15 {G : MCx} (hC : C0 G "AccusedChoose" b_AC_unfairTwo 5 2) {t1 : Nat} (h1 : isMO t1) (K2 : Int32 × St → Option (Int32 × St)) (hK2 : ∀ (w2 : Int32) (s : St), VO G (RI G b_AC_unfairTwo) (K2 (w2, s)) 2 [(0, .ref (gad G 0)), (1, .ref (gad G t1)), (2, .int w2)] [] s) (v2 : Int32) (v3 : Int32) (s : St) : VO G (RI G b_AC_unfairTwo) (F_AC_unfairTwo_15 t1 K2 v2 v3 s) 15 [(0, .ref (gad G 0)), (1, .ref (gad G t1)), (2, .int v2), (3, .int v3)] [] s := by
  exact VO_fix (G_AC_unfairTwo_15 t1 K2 v2) 15 (fun q => [(0, .ref (gad G 0)), (1, .ref (gad G t1)), (2, .int v2), (3, .int q.1)]) (fun q => q.2) (fun K hK q => BH_AC_unfairTwo_15 hC h1 K2 hK2 K (fun w3 s => hK (w3, s)) q.1 q.2) FUEL (v3, s)
set_option maxRecDepth 20000 in
theorem BH_AC_unfairTwo_2 {G : MCx} (hC : C0 G "AccusedChoose" b_AC_unfairTwo 5 2) {t1 : Nat} (h1 : isMO t1) (K2 : Int32 × St → Option (Int32 × St)) (hK2 : ∀ (w2 : Int32) (s : St), VO G (RI G b_AC_unfairTwo) (K2 (w2, s)) 2 [(0, .ref (gad G 0)), (1, .ref (gad G t1)), (2, .int w2)] [] s) (v2 : Int32) (s : St) : VO G (RI G b_AC_unfairTwo) (H_AC_unfairTwo_2 t1 K2 v2 s) 2 [(0, .ref (gad G 0)), (1, .ref (gad G t1)), (2, .int v2)] [] s := by
  unfold H_AC_unfairTwo_2
  refine VO_iload hC d_AC_unfairTwo_2 2 rfl ?_
  refine VO_aload hC d_AC_unfairTwo_3 0 rfl ?_
  refine VO_getr (r := 1) hC fl_AC_10 sh_AC rfl d_AC_unfairTwo_4 ?_
  refine VO_geti hC fl_AC_164 (sh_NI isNI_1) rfl d_AC_unfairTwo_7 ?_
  refine VO_icmp_ge hC d_AC_unfairTwo_10 (fun _ => ?_) (fun _ => ?_)
  · refine VO_const hC d_AC_unfairTwo_108 ?_
    exact VO_ireturn d_AC_unfairTwo_110
  · refine VO_const hC d_AC_unfairTwo_13 ?_
    refine VO_istore hC d_AC_unfairTwo_14 [(0, .ref (gad G 0)), (1, .ref (gad G t1)), (2, .int v2)] rfl (by decide) ?_
    exact VO_sub [1, 2, 3, 0] rfl (B_AC_unfairTwo_15 hC h1 K2 hK2 v2 (0 : Int32) s)
set_option maxRecDepth 20000 in
theorem B_AC_unfairTwo_2 {G : MCx} (hC : C0 G "AccusedChoose" b_AC_unfairTwo 5 2) {t1 : Nat} (h1 : isMO t1) (v2 : Int32) (s : St) : VO G (RI G b_AC_unfairTwo) (F_AC_unfairTwo_2 t1 v2 s) 2 [(0, .ref (gad G 0)), (1, .ref (gad G t1)), (2, .int v2)] [] s := by
  exact VO_fix (G_AC_unfairTwo_2 t1) 2 (fun q => [(0, .ref (gad G 0)), (1, .ref (gad G t1)), (2, .int q.1)]) (fun q => q.2) (fun K hK q => BH_AC_unfairTwo_2 hC h1 K (fun w2 s => hK (w2, s)) q.1 q.2) FUEL (v2, s)
set_option maxRecDepth 20000 in
theorem B_AC_unfairTwo {G : MCx} (hC : C0 G "AccusedChoose" b_AC_unfairTwo 5 2) {t1 : Nat} (h1 : isMO t1) (s : St) : VO G (RI G b_AC_unfairTwo) (F_AC_unfairTwo t1 s) 0 [(0, .ref (gad G 0)), (1, .ref (gad G t1))] [] s := by
  unfold F_AC_unfairTwo
  refine VO_const hC d_AC_unfairTwo_0 ?_
  refine VO_istore hC d_AC_unfairTwo_1 [(0, .ref (gad G 0)), (1, .ref (gad G t1))] rfl (by decide) ?_
  exact VO_sub [1, 2, 0] rfl (B_AC_unfairTwo_2 hC h1 (0 : Int32) s)
set_option maxRecDepth 20000 in
theorem M_AC_unfairTwo {l : Launch} {D : va_G} {ad : Nat → Nat} {cI cL : ClassId} (hj : Inj ad) {t1 : Nat} (h1 : isMO t1) {s : St} {o : Int32 × St} (h : F_AC_unfairTwo t1 s = some o) : Cn l D ad cI cL y_AC_unfairTwo b_AC_unfairTwo 5 (some .int) 2 [.ref (ad 0), .ref (ad t1)] s (some (.int o.1)) o.2 := by
  refine Cn_ofI hj (plainFor_of_name (by decide)) (Nat.le_of_ble_eq_true rfl) [(0, .ref (ad 0)), (1, .ref (ad t1))] rfl (fun G hC e1 e2 e3 e4 e5 hR => ?_)
  subst e1; subst e2; subst e3; subst e4; subst e5
  exact B_AC_unfairTwo hC h1 s o h hR
theorem d_AC_rule_0 : PLi b_AC_rule 0 1 1 := Or.inl ⟨1, by decide +kernel, rfl, rfl⟩
theorem d_AC_rule_1 : DJ b_AC_rule 1 (.ifCond .lt) 4 18 := ⟨17, by decide +kernel, rfl, by decide⟩
theorem d_AC_rule_4 : PLi b_AC_rule 4 1 5 := Or.inl ⟨1, by decide +kernel, rfl, rfl⟩
theorem d_AC_rule_5 : PCi b_AC_rule 5 4 6 := Or.inl ⟨4, by decide +kernel, by decide, rfl⟩
theorem d_AC_rule_6 : DJ b_AC_rule 6 (.if_icmp .gt) 9 18 := ⟨12, by decide +kernel, rfl, by decide⟩
theorem d_AC_rule_9 : PLi b_AC_rule 9 2 10 := Or.inl ⟨2, by decide +kernel, rfl, rfl⟩
theorem d_AC_rule_10 : DJ b_AC_rule 10 (.ifCond .lt) 13 18 := ⟨8, by decide +kernel, rfl, by decide⟩
theorem d_AC_rule_13 : PLi b_AC_rule 13 2 14 := Or.inl ⟨2, by decide +kernel, rfl, rfl⟩
theorem d_AC_rule_14 : PCi b_AC_rule 14 1 15 := Or.inl ⟨1, by decide +kernel, by decide, rfl⟩
theorem d_AC_rule_15 : DJ b_AC_rule 15 (.if_icmp .le) 18 25 := ⟨10, by decide +kernel, rfl, by decide⟩
theorem d_AC_rule_18 : PLa b_AC_rule 18 0 19 := Or.inl ⟨0, by decide +kernel, rfl, rfl⟩
theorem d_AC_rule_19 : PCi b_AC_rule 19 (-2) 21 := Or.inr (Or.inl ⟨(-2), by decide +kernel, by decide, rfl⟩)
theorem d_AC_rule_21 : DR b_AC_rule 21 (.invokevirtual 90) 3 24 := ⟨by decide +kernel, rfl⟩
theorem d_AC_rule_24 : DR b_AC_rule 24 (.ireturn) 1 25 := ⟨by decide +kernel, rfl⟩
theorem d_AC_rule_25 : PLa b_AC_rule 25 0 26 := Or.inl ⟨0, by decide +kernel, rfl, rfl⟩
theorem d_AC_rule_26 : DR b_AC_rule 26 (.getfield 39) 3 29 := ⟨by decide +kernel, rfl⟩
theorem d_AC_rule_29 : PLa b_AC_rule 29 0 30 := Or.inl ⟨0, by decide +kernel, rfl, rfl⟩
theorem d_AC_rule_30 : DR b_AC_rule 30 (.getfield 10) 3 33 := ⟨by decide +kernel, rfl⟩
theorem d_AC_rule_33 : DR b_AC_rule 33 (.invokevirtual 219) 3 36 := ⟨by decide +kernel, rfl⟩
theorem d_AC_rule_36 : PLa b_AC_rule 36 0 37 := Or.inl ⟨0, by decide +kernel, rfl, rfl⟩
theorem d_AC_rule_37 : PLi b_AC_rule 37 1 38 := Or.inl ⟨1, by decide +kernel, rfl, rfl⟩
theorem d_AC_rule_38 : DR b_AC_rule 38 (.invokevirtual 247) 3 41 := ⟨by decide +kernel, rfl⟩
theorem d_AC_rule_41 : PLi b_AC_rule 41 2 42 := Or.inl ⟨2, by decide +kernel, rfl, rfl⟩
theorem d_AC_rule_42 : DJ b_AC_rule 42 (.ifCond .ne) 45 55 := ⟨13, by decide +kernel, rfl, by decide⟩
theorem d_AC_rule_45 : PLa b_AC_rule 45 0 46 := Or.inl ⟨0, by decide +kernel, rfl, rfl⟩
theorem d_AC_rule_46 : DR b_AC_rule 46 (.getfield 53) 3 49 := ⟨by decide +kernel, rfl⟩
theorem d_AC_rule_49 : DR b_AC_rule 49 (.getfield 213) 3 52 := ⟨by decide +kernel, rfl⟩
theorem d_AC_rule_52 : DJ b_AC_rule 52 .goto 55 63 := ⟨11, by decide +kernel, rfl, by decide⟩
theorem d_AC_rule_55 : PLa b_AC_rule 55 0 56 := Or.inl ⟨0, by decide +kernel, rfl, rfl⟩
theorem d_AC_rule_56 : PLa b_AC_rule 56 0 57 := Or.inl ⟨0, by decide +kernel, rfl, rfl⟩
theorem d_AC_rule_57 : DR b_AC_rule 57 (.getfield 53) 3 60 := ⟨by decide +kernel, rfl⟩
theorem d_AC_rule_60 : DR b_AC_rule 60 (.invokevirtual 251) 3 63 := ⟨by decide +kernel, rfl⟩
theorem d_AC_rule_63 : DR b_AC_rule 63 (.ireturn) 1 64 := ⟨by decide +kernel, rfl⟩
set_option maxRecDepth 20000 in
theorem B_AC_rule_18 {G : MCx} (hC : C0 G "AccusedChoose" b_AC_rule 3 7) (s : St) : VO G (RI G b_AC_rule) (F_AC_rule_18 s) 18 [(0, .ref (gad G 0))] [] s := by
  unfold F_AC_rule_18
  refine VO_aload hC d_AC_rule_18 0 rfl ?_
  refine VO_const hC d_AC_rule_19 ?_
  refine VO_callVI hC [.int (-2 : Int32)] [] ml_AC_90 d_AC_rule_21 yv_AC_refuse sh_AC rfl rfl (fun o h => M_AC_refuse hC.inj h) (by decide) rfl rfl (Nat.le_of_ble_eq_true rfl) (fun o1 => ?_)
  exact VO_ireturn d_AC_rule_24
set_option maxRecDepth 20000 in
theorem B_AC_rule {G : MCx} (hC : C0 G "AccusedChoose" b_AC_rule 3 7) (a1 : Int32) (a2 : Int32) (s : St) : VO G (RI G b_AC_rule) (F_AC_rule a1 a2 s) 0 [(0, .ref (gad G 0)), (1, .int a1), (2, .int a2)] [] s := by
  unfold F_AC_rule
  refine VO_iload hC d_AC_rule_0 1 rfl ?_
  refine VO_if_lt hC d_AC_rule_1 (fun _ => ?_) (fun _ => ?_)
  · exact VO_sub [0] rfl (B_AC_rule_18 hC s)
  · refine VO_iload hC d_AC_rule_4 1 rfl ?_
    refine VO_const hC d_AC_rule_5 ?_
    refine VO_icmp_gt hC d_AC_rule_6 (fun _ => ?_) (fun _ => ?_)
    · exact VO_sub [0] rfl (B_AC_rule_18 hC s)
    · refine VO_iload hC d_AC_rule_9 2 rfl ?_
      refine VO_if_lt hC d_AC_rule_10 (fun _ => ?_) (fun _ => ?_)
      · exact VO_sub [0] rfl (B_AC_rule_18 hC s)
      · refine VO_iload hC d_AC_rule_13 2 rfl ?_
        refine VO_const hC d_AC_rule_14 ?_
        refine VO_icmp_le hC d_AC_rule_15 (fun _ => ?_) (fun _ => ?_)
        · refine VO_aload hC d_AC_rule_25 0 rfl ?_
          refine VO_getr (r := 36) hC fl_AC_39 sh_AC rfl d_AC_rule_26 ?_
          refine VO_aload hC d_AC_rule_29 0 rfl ?_
          refine VO_getr (r := 1) hC fl_AC_10 sh_AC rfl d_AC_rule_30 ?_
          refine VO_callVV hC [.ref (gad G 1)] [] ml_AC_219 d_AC_rule_33 yv_PR_fill (sh_PR isPR_36) rfl rfl (fun o h => M_PR_fill hC.inj isPR_36 isNI_1 h) (by decide) rfl rfl (Nat.le_of_ble_eq_true rfl) (fun s2 => ?_)
          refine VO_aload hC d_AC_rule_36 0 rfl ?_
          refine VO_iload hC d_AC_rule_37 1 rfl ?_
          refine VO_callVV hC [.int a1] [] ml_AC_247 d_AC_rule_38 yv_AC_holdRule sh_AC rfl rfl (fun o h => M_AC_holdRule hC.inj h) (by decide) rfl rfl (Nat.le_of_ble_eq_true rfl) (fun s3 => ?_)
          refine VO_iload hC d_AC_rule_41 2 rfl ?_
          refine VO_if_ne hC d_AC_rule_42 (fun _ => ?_) (fun _ => ?_)
          · refine VO_aload hC d_AC_rule_45 0 rfl ?_
            refine VO_getr (r := 43) hC fl_AC_53 sh_AC rfl d_AC_rule_46 ?_
            refine VO_geti hC fl_AC_213 (sh_MO isMO_43) rfl d_AC_rule_49 ?_
            refine VO_goto hC d_AC_rule_52 ?_
            exact VO_ireturn d_AC_rule_63
          · refine VO_aload hC d_AC_rule_55 0 rfl ?_
            refine VO_aload hC d_AC_rule_56 0 rfl ?_
            refine VO_getr (r := 43) hC fl_AC_53 sh_AC rfl d_AC_rule_57 ?_
            refine VO_callVI hC [.ref (gad G 43)] [] ml_AC_251 d_AC_rule_60 yv_AC_unfairTwo sh_AC rfl rfl (fun o h => M_AC_unfairTwo hC.inj isMO_43 h) (by decide) rfl rfl (Nat.le_of_ble_eq_true rfl) (fun o4 => ?_)
            exact VO_ireturn d_AC_rule_63
        · exact VO_sub [0] rfl (B_AC_rule_18 hC s)
set_option maxRecDepth 20000 in
theorem M_AC_rule {l : Launch} {D : va_G} {ad : Nat → Nat} {cI cL : ClassId} (hj : Inj ad) {a1 : Int32} {a2 : Int32} {s : St} {o : Int32 × St} (h : F_AC_rule a1 a2 s = some o) : Cn l D ad cI cL y_AC_rule b_AC_rule 3 (some .int) 7 [.ref (ad 0), .int a1, .int a2] s (some (.int o.1)) o.2 := by
  refine Cn_ofI hj (plainFor_of_name (by decide)) (Nat.le_of_ble_eq_true rfl) [(0, .ref (ad 0)), (1, .int a1), (2, .int a2)] rfl (fun G hC e1 e2 e3 e4 e5 hR => ?_)
  subst e1; subst e2; subst e3; subst e4; subst e5
  exact B_AC_rule hC a1 a2 s o h hR
theorem d_AC_bestRule_0 : PCi b_AC_bestRule 0 0 1 := Or.inl ⟨0, by decide +kernel, by decide, rfl⟩
theorem d_AC_bestRule_1 : PSi b_AC_bestRule 1 1 2 := Or.inl ⟨1, by decide +kernel, rfl, rfl⟩
theorem d_AC_bestRule_2 : DR b_AC_bestRule 2 (.ldc 255) 2 4 := ⟨by decide +kernel, rfl⟩
theorem d_AC_bestRule_4 : PSi b_AC_bestRule 4 2 5 := Or.inl ⟨2, by decide +kernel, rfl, rfl⟩
theorem d_AC_bestRule_5 : PLa b_AC_bestRule 5 0 6 := Or.inl ⟨0, by decide +kernel, rfl, rfl⟩
theorem d_AC_bestRule_6 : DR b_AC_bestRule 6 (.getfield 39) 3 9 := ⟨by decide +kernel, rfl⟩
theorem d_AC_bestRule_9 : PLa b_AC_bestRule 9 0 10 := Or.inl ⟨0, by decide +kernel, rfl, rfl⟩
theorem d_AC_bestRule_10 : DR b_AC_bestRule 10 (.getfield 10) 3 13 := ⟨by decide +kernel, rfl⟩
theorem d_AC_bestRule_13 : DR b_AC_bestRule 13 (.invokevirtual 219) 3 16 := ⟨by decide +kernel, rfl⟩
theorem d_AC_bestRule_16 : PCi b_AC_bestRule 16 0 17 := Or.inl ⟨0, by decide +kernel, by decide, rfl⟩
theorem d_AC_bestRule_17 : PSi b_AC_bestRule 17 3 18 := Or.inl ⟨3, by decide +kernel, rfl, rfl⟩
theorem d_AC_bestRule_18 : PLi b_AC_bestRule 18 3 19 := Or.inl ⟨3, by decide +kernel, rfl, rfl⟩
theorem d_AC_bestRule_19 : PCi b_AC_bestRule 19 4 20 := Or.inl ⟨4, by decide +kernel, by decide, rfl⟩
theorem d_AC_bestRule_20 : DJ b_AC_bestRule 20 (.if_icmp .gt) 23 55 := ⟨35, by decide +kernel, rfl, by decide⟩
theorem d_AC_bestRule_23 : PLa b_AC_bestRule 23 0 24 := Or.inl ⟨0, by decide +kernel, rfl, rfl⟩
theorem d_AC_bestRule_24 : PLi b_AC_bestRule 24 3 25 := Or.inl ⟨3, by decide +kernel, rfl, rfl⟩
theorem d_AC_bestRule_25 : DR b_AC_bestRule 25 (.invokevirtual 247) 3 28 := ⟨by decide +kernel, rfl⟩
theorem d_AC_bestRule_28 : PLa b_AC_bestRule 28 0 29 := Or.inl ⟨0, by decide +kernel, rfl, rfl⟩
theorem d_AC_bestRule_29 : DR b_AC_bestRule 29 (.getfield 53) 3 32 := ⟨by decide +kernel, rfl⟩
theorem d_AC_bestRule_32 : DR b_AC_bestRule 32 (.getfield 213) 3 35 := ⟨by decide +kernel, rfl⟩
theorem d_AC_bestRule_35 : PLi b_AC_bestRule 35 2 36 := Or.inl ⟨2, by decide +kernel, rfl, rfl⟩
theorem d_AC_bestRule_36 : DJ b_AC_bestRule 36 (.if_icmp .ge) 39 49 := ⟨13, by decide +kernel, rfl, by decide⟩
theorem d_AC_bestRule_39 : PLa b_AC_bestRule 39 0 40 := Or.inl ⟨0, by decide +kernel, rfl, rfl⟩
theorem d_AC_bestRule_40 : DR b_AC_bestRule 40 (.getfield 53) 3 43 := ⟨by decide +kernel, rfl⟩
theorem d_AC_bestRule_43 : DR b_AC_bestRule 43 (.getfield 213) 3 46 := ⟨by decide +kernel, rfl⟩
theorem d_AC_bestRule_46 : PSi b_AC_bestRule 46 2 47 := Or.inl ⟨2, by decide +kernel, rfl, rfl⟩
theorem d_AC_bestRule_47 : PLi b_AC_bestRule 47 3 48 := Or.inl ⟨3, by decide +kernel, rfl, rfl⟩
theorem d_AC_bestRule_48 : PSi b_AC_bestRule 48 1 49 := Or.inl ⟨1, by decide +kernel, rfl, rfl⟩
theorem d_AC_bestRule_49 : DR b_AC_bestRule 49 (.iinc 3 1) 3 52 := ⟨by decide +kernel, rfl⟩
theorem d_AC_bestRule_52 : DJ b_AC_bestRule 52 .goto 55 18 := ⟨-34, by decide +kernel, rfl, by decide⟩
theorem d_AC_bestRule_55 : PLi b_AC_bestRule 55 1 56 := Or.inl ⟨1, by decide +kernel, rfl, rfl⟩
theorem d_AC_bestRule_56 : DR b_AC_bestRule 56 (.ireturn) 1 57 := ⟨by decide +kernel, rfl⟩
set_option maxRecDepth 20000 in
theorem B_AC_bestRule_49 {G : MCx} (hC : C0 G "AccusedChoose" b_AC_bestRule 4 7) (K18 : Int32 × Int32 × Int32 × St → Option (Int32 × St)) (hK18 : ∀ (w1 : Int32) (w2 : Int32) (w3 : Int32) (s : St), VO G (RI G b_AC_bestRule) (K18 (w1, w2, w3, s)) 18 [(0, .ref (gad G 0)), (1, .int w1), (2, .int w2), (3, .int w3)] [] s) (v1 : Int32) (v2 : Int32) (v3 : Int32) (s : St) : VO G (RI G b_AC_bestRule) (F_AC_bestRule_49 K18 v1 v2 v3 s) 49 [(0, .ref (gad G 0)), (1, .int v1), (2, .int v2), (3, .int v3)] [] s := by
  unfold F_AC_bestRule_49
  refine VO_iinc hC d_AC_bestRule_49 3 rfl (by decide : Int32.ofInt 1 = 1) [(0, .ref (gad G 0)), (1, .int v1), (2, .int v2)] rfl (by decide) ?_
  refine VO_goto hC d_AC_bestRule_52 ?_
  exact VO_sub [1, 2, 3, 0] rfl (hK18 v1 v2 (v3 + 1) s)
set_option maxRecDepth 20000 in
theorem BH_AC_bestRule_18 {G : MCx} (hC : C0 G "AccusedChoose" b_AC_bestRule 4 7) (K18 : Int32 × Int32 × Int32 × St → Option (Int32 × St)) (hK18 : ∀ (w1 : Int32) (w2 : Int32) (w3 : Int32) (s : St), VO G (RI G b_AC_bestRule) (K18 (w1, w2, w3, s)) 18 [(0, .ref (gad G 0)), (1, .int w1), (2, .int w2), (3, .int w3)] [] s) (v1 : Int32) (v2 : Int32) (v3 : Int32) (s : St) : VO G (RI G b_AC_bestRule) (H_AC_bestRule_18 K18 v1 v2 v3 s) 18 [(0, .ref (gad G 0)), (1, .int v1), (2, .int v2), (3, .int v3)] [] s := by
  unfold H_AC_bestRule_18
  refine VO_iload hC d_AC_bestRule_18 3 rfl ?_
  refine VO_const hC d_AC_bestRule_19 ?_
  refine VO_icmp_gt hC d_AC_bestRule_20 (fun _ => ?_) (fun _ => ?_)
  · refine VO_iload hC d_AC_bestRule_55 1 rfl ?_
    exact VO_ireturn d_AC_bestRule_56
  · refine VO_aload hC d_AC_bestRule_23 0 rfl ?_
    refine VO_iload hC d_AC_bestRule_24 3 rfl ?_
    refine VO_callVV hC [.int v3] [] ml_AC_247 d_AC_bestRule_25 yv_AC_holdRule sh_AC rfl rfl (fun o h => M_AC_holdRule hC.inj h) (by decide) rfl rfl (Nat.le_of_ble_eq_true rfl) (fun s2 => ?_)
    refine VO_aload hC d_AC_bestRule_28 0 rfl ?_
    refine VO_getr (r := 43) hC fl_AC_53 sh_AC rfl d_AC_bestRule_29 ?_
    refine VO_geti hC fl_AC_213 (sh_MO isMO_43) rfl d_AC_bestRule_32 ?_
    refine VO_iload hC d_AC_bestRule_35 2 rfl ?_
    refine VO_icmp_ge hC d_AC_bestRule_36 (fun _ => ?_) (fun _ => ?_)
    · exact (B_AC_bestRule_49 hC K18 hK18 v1 v2 v3 s2)
    · refine VO_aload hC d_AC_bestRule_39 0 rfl ?_
      refine VO_getr (r := 43) hC fl_AC_53 sh_AC rfl d_AC_bestRule_40 ?_
      refine VO_geti hC fl_AC_213 (sh_MO isMO_43) rfl d_AC_bestRule_43 ?_
      refine VO_istoreB hC d_AC_bestRule_46 [(0, .ref (gad G 0)), (1, .int v1), (3, .int v3)] rfl (by decide) (fun x3 => ?_)
      refine VO_iload hC d_AC_bestRule_47 3 rfl ?_
      refine VO_istore hC d_AC_bestRule_48 [(2, .int x3), (0, .ref (gad G 0)), (3, .int v3)] rfl (by decide) ?_
      exact VO_sub [2, 0, 1, 3] rfl (B_AC_bestRule_49 hC K18 hK18 v3 x3 v3 s2)
set_option maxRecDepth 20000 in
theorem B_AC_bestRule_18 {G : MCx} (hC : C0 G "AccusedChoose" b_AC_bestRule 4 7) (v1 : Int32) (v2 : Int32) (v3 : Int32) (s : St) : VO G (RI G b_AC_bestRule) (F_AC_bestRule_18 v1 v2 v3 s) 18 [(0, .ref (gad G 0)), (1, .int v1), (2, .int v2), (3, .int v3)] [] s := by
  exact VO_fix (G_AC_bestRule_18) 18 (fun q => [(0, .ref (gad G 0)), (1, .int q.1), (2, .int q.2.1), (3, .int q.2.2.1)]) (fun q => q.2.2.2) (fun K hK q => BH_AC_bestRule_18 hC K (fun w1 w2 w3 s => hK (w1, w2, w3, s)) q.1 q.2.1 q.2.2.1 q.2.2.2) FUEL (v1, v2, v3, s)
set_option maxRecDepth 20000 in
theorem B_AC_bestRule {G : MCx} (hC : C0 G "AccusedChoose" b_AC_bestRule 4 7) (s : St) : VO G (RI G b_AC_bestRule) (F_AC_bestRule s) 0 [(0, .ref (gad G 0))] [] s := by
  unfold F_AC_bestRule
  refine VO_const hC d_AC_bestRule_0 ?_
  refine VO_istore hC d_AC_bestRule_1 [(0, .ref (gad G 0))] rfl (by decide) ?_
  refine VO_ldc hC k_AC_255 d_AC_bestRule_2 ?_
  refine VO_istore hC d_AC_bestRule_4 [(1, .int (0 : Int32)), (0, .ref (gad G 0))] rfl (by decide) ?_
  refine VO_aload hC d_AC_bestRule_5 2 rfl ?_
  refine VO_getr (r := 36) hC fl_AC_39 sh_AC rfl d_AC_bestRule_6 ?_
  refine VO_aload hC d_AC_bestRule_9 2 rfl ?_
  refine VO_getr (r := 1) hC fl_AC_10 sh_AC rfl d_AC_bestRule_10 ?_
  refine VO_callVV hC [.ref (gad G 1)] [] ml_AC_219 d_AC_bestRule_13 yv_PR_fill (sh_PR isPR_36) rfl rfl (fun o h => M_PR_fill hC.inj isPR_36 isNI_1 h) (by decide) rfl rfl (Nat.le_of_ble_eq_true rfl) (fun s1 => ?_)
  refine VO_const hC d_AC_bestRule_16 ?_
  refine VO_istore hC d_AC_bestRule_17 [(2, .int (1000000 : Int32)), (1, .int (0 : Int32)), (0, .ref (gad G 0))] rfl (by decide) ?_
  exact VO_sub [3, 2, 1, 0] rfl (B_AC_bestRule_18 hC (0 : Int32) (1000000 : Int32) (0 : Int32) s1)
set_option maxRecDepth 20000 in
theorem M_AC_bestRule {l : Launch} {D : va_G} {ad : Nat → Nat} {cI cL : ClassId} (hj : Inj ad) {s : St} {o : Int32 × St} (h : F_AC_bestRule s = some o) : Cn l D ad cI cL y_AC_bestRule b_AC_bestRule 4 (some .int) 7 [.ref (ad 0)] s (some (.int o.1)) o.2 := by
  refine Cn_ofI hj (plainFor_of_name (by decide)) (Nat.le_of_ble_eq_true rfl) [(0, .ref (ad 0))] rfl (fun G hC e1 e2 e3 e4 e5 hR => ?_)
  subst e1; subst e2; subst e3; subst e4; subst e5
  exact B_AC_bestRule hC s o h hR
theorem d_AC_refuseBig_0 : DR b_AC_refuseBig 0 (.ldc_w 377) 3 3 := ⟨by decide +kernel, rfl⟩
theorem d_AC_refuseBig_3 : PLa b_AC_refuseBig 3 0 4 := Or.inl ⟨0, by decide +kernel, rfl, rfl⟩
theorem d_AC_refuseBig_4 : PLi b_AC_refuseBig 4 1 5 := Or.inl ⟨1, by decide +kernel, rfl, rfl⟩
theorem d_AC_refuseBig_5 : DR b_AC_refuseBig 5 (.invokevirtual 90) 3 8 := ⟨by decide +kernel, rfl⟩
theorem d_AC_refuseBig_8 : DR b_AC_refuseBig 8 (.isub) 1 9 := ⟨by decide +kernel, rfl⟩
theorem d_AC_refuseBig_9 : DR b_AC_refuseBig 9 (.ireturn) 1 10 := ⟨by decide +kernel, rfl⟩
set_option maxRecDepth 20000 in
theorem B_AC_refuseBig {G : MCx} (hC : C0 G "AccusedChoose" b_AC_refuseBig 2 3) (a1 : Int32) (s : St) : VO G (RI G b_AC_refuseBig) (F_AC_refuseBig a1 s) 0 [(0, .ref (gad G 0)), (1, .int a1)] [] s := by
  unfold F_AC_refuseBig
  refine VO_ldcw hC k_AC_377 d_AC_refuseBig_0 ?_
  refine VO_aload hC d_AC_refuseBig_3 0 rfl ?_
  refine VO_iload hC d_AC_refuseBig_4 1 rfl ?_
  refine VO_callVI hC [.int a1] [.int (1000000000 : Int32)] ml_AC_90 d_AC_refuseBig_5 yv_AC_refuse sh_AC rfl rfl (fun o h => M_AC_refuse hC.inj h) (by decide) rfl rfl (Nat.le_of_ble_eq_true rfl) (fun o1 => ?_)
  refine VO_isub hC d_AC_refuseBig_8 ?_
  exact VO_ireturn d_AC_refuseBig_9
set_option maxRecDepth 20000 in
theorem M_AC_refuseBig {l : Launch} {D : va_G} {ad : Nat → Nat} {cI cL : ClassId} (hj : Inj ad) {a1 : Int32} {s : St} {o : Int32 × St} (h : F_AC_refuseBig a1 s = some o) : Cn l D ad cI cL y_AC_refuseBig b_AC_refuseBig 2 (some .int) 3 [.ref (ad 0), .int a1] s (some (.int o.1)) o.2 := by
  refine Cn_ofI hj (plainFor_of_name (by decide)) (Nat.le_of_ble_eq_true rfl) [(0, .ref (ad 0)), (1, .int a1)] rfl (fun G hC e1 e2 e3 e4 e5 hR => ?_)
  subst e1; subst e2; subst e3; subst e4; subst e5
  exact B_AC_refuseBig hC a1 s o h hR
theorem d_AC_moveInLine_0 : PLa b_AC_moveInLine 0 0 1 := Or.inl ⟨0, by decide +kernel, rfl, rfl⟩
theorem d_AC_moveInLine_1 : DR b_AC_moveInLine 1 (.getfield 77) 3 4 := ⟨by decide +kernel, rfl⟩
theorem d_AC_moveInLine_4 : PLa b_AC_moveInLine 4 0 5 := Or.inl ⟨0, by decide +kernel, rfl, rfl⟩
theorem d_AC_moveInLine_5 : DR b_AC_moveInLine 5 (.getfield 10) 3 8 := ⟨by decide +kernel, rfl⟩
theorem d_AC_moveInLine_8 : DR b_AC_moveInLine 8 (.getfield 164) 3 11 := ⟨by decide +kernel, rfl⟩
theorem d_AC_moveInLine_11 : PLi b_AC_moveInLine 11 1 12 := Or.inl ⟨1, by decide +kernel, rfl, rfl⟩
theorem d_AC_moveInLine_12 : DR b_AC_moveInLine 12 (.invokestatic 380) 3 15 := ⟨by decide +kernel, rfl⟩
theorem d_AC_moveInLine_15 : PSi b_AC_moveInLine 15 3 16 := Or.inl ⟨3, by decide +kernel, rfl, rfl⟩
theorem d_AC_moveInLine_16 : PLi b_AC_moveInLine 16 3 17 := Or.inl ⟨3, by decide +kernel, rfl, rfl⟩
theorem d_AC_moveInLine_17 : PLi b_AC_moveInLine 17 2 18 := Or.inl ⟨2, by decide +kernel, rfl, rfl⟩
theorem d_AC_moveInLine_18 : DJ b_AC_moveInLine 18 (.if_icmp .ge) 21 25 := ⟨7, by decide +kernel, rfl, by decide⟩
theorem d_AC_moveInLine_21 : PCi b_AC_moveInLine 21 1 22 := Or.inl ⟨1, by decide +kernel, by decide, rfl⟩
theorem d_AC_moveInLine_22 : DJ b_AC_moveInLine 22 .goto 25 26 := ⟨4, by decide +kernel, rfl, by decide⟩
theorem d_AC_moveInLine_25 : PCi b_AC_moveInLine 25 (-1) 26 := Or.inl ⟨(-1), by decide +kernel, by decide, rfl⟩
theorem d_AC_moveInLine_26 : PSi b_AC_moveInLine 26 4 28 := Or.inr ⟨by decide +kernel, rfl⟩
theorem d_AC_moveInLine_28 : PCi b_AC_moveInLine 28 0 29 := Or.inl ⟨0, by decide +kernel, by decide, rfl⟩
theorem d_AC_moveInLine_29 : PSi b_AC_moveInLine 29 5 31 := Or.inr ⟨by decide +kernel, rfl⟩
theorem d_AC_moveInLine_31 : PLi b_AC_moveInLine 31 5 33 := Or.inr ⟨by decide +kernel, rfl⟩
theorem d_AC_moveInLine_33 : PCi b_AC_moveInLine 33 7 35 := Or.inr (Or.inl ⟨7, by decide +kernel, by decide, rfl⟩)
theorem d_AC_moveInLine_35 : DJ b_AC_moveInLine 35 (.if_icmp .ge) 38 77 := ⟨42, by decide +kernel, rfl, by decide⟩
theorem d_AC_moveInLine_38 : PLi b_AC_moveInLine 38 3 39 := Or.inl ⟨3, by decide +kernel, rfl, rfl⟩
theorem d_AC_moveInLine_39 : DJ b_AC_moveInLine 39 (.ifCond .lt) 42 77 := ⟨38, by decide +kernel, rfl, by decide⟩
theorem d_AC_moveInLine_42 : PLi b_AC_moveInLine 42 3 43 := Or.inl ⟨3, by decide +kernel, rfl, rfl⟩
theorem d_AC_moveInLine_43 : PLi b_AC_moveInLine 43 2 44 := Or.inl ⟨2, by decide +kernel, rfl, rfl⟩
theorem d_AC_moveInLine_44 : DJ b_AC_moveInLine 44 (.if_icmp .eq) 47 77 := ⟨33, by decide +kernel, rfl, by decide⟩
theorem d_AC_moveInLine_47 : PLa b_AC_moveInLine 47 0 48 := Or.inl ⟨0, by decide +kernel, rfl, rfl⟩
theorem d_AC_moveInLine_48 : DR b_AC_moveInLine 48 (.getfield 77) 3 51 := ⟨by decide +kernel, rfl⟩
theorem d_AC_moveInLine_51 : PLi b_AC_moveInLine 51 3 52 := Or.inl ⟨3, by decide +kernel, rfl, rfl⟩
theorem d_AC_moveInLine_52 : PLa b_AC_moveInLine 52 0 53 := Or.inl ⟨0, by decide +kernel, rfl, rfl⟩
theorem d_AC_moveInLine_53 : DR b_AC_moveInLine 53 (.getfield 77) 3 56 := ⟨by decide +kernel, rfl⟩
theorem d_AC_moveInLine_56 : PLi b_AC_moveInLine 56 3 57 := Or.inl ⟨3, by decide +kernel, rfl, rfl⟩
theorem d_AC_moveInLine_57 : PLi b_AC_moveInLine 57 4 59 := Or.inr ⟨by decide +kernel, rfl⟩
theorem d_AC_moveInLine_59 : DR b_AC_moveInLine 59 (.iadd) 1 60 := ⟨by decide +kernel, rfl⟩
theorem d_AC_moveInLine_60 : DR b_AC_moveInLine 60 (.invokestatic 122) 3 63 := ⟨by decide +kernel, rfl⟩
theorem d_AC_moveInLine_63 : DR b_AC_moveInLine 63 (.invokestatic 310) 3 66 := ⟨by decide +kernel, rfl⟩
theorem d_AC_moveInLine_66 : PLi b_AC_moveInLine 66 3 67 := Or.inl ⟨3, by decide +kernel, rfl, rfl⟩
theorem d_AC_moveInLine_67 : PLi b_AC_moveInLine 67 4 69 := Or.inr ⟨by decide +kernel, rfl⟩
theorem d_AC_moveInLine_69 : DR b_AC_moveInLine 69 (.iadd) 1 70 := ⟨by decide +kernel, rfl⟩
theorem d_AC_moveInLine_70 : PSi b_AC_moveInLine 70 3 71 := Or.inl ⟨3, by decide +kernel, rfl, rfl⟩
theorem d_AC_moveInLine_71 : DR b_AC_moveInLine 71 (.iinc 5 1) 3 74 := ⟨by decide +kernel, rfl⟩
theorem d_AC_moveInLine_74 : DJ b_AC_moveInLine 74 .goto 77 31 := ⟨-43, by decide +kernel, rfl, by decide⟩
theorem d_AC_moveInLine_77 : PLa b_AC_moveInLine 77 0 78 := Or.inl ⟨0, by decide +kernel, rfl, rfl⟩
theorem d_AC_moveInLine_78 : DR b_AC_moveInLine 78 (.getfield 77) 3 81 := ⟨by decide +kernel, rfl⟩
theorem d_AC_moveInLine_81 : PLi b_AC_moveInLine 81 2 82 := Or.inl ⟨2, by decide +kernel, rfl, rfl⟩
theorem d_AC_moveInLine_82 : PLi b_AC_moveInLine 82 1 83 := Or.inl ⟨1, by decide +kernel, rfl, rfl⟩
theorem d_AC_moveInLine_83 : DR b_AC_moveInLine 83 (.invokestatic 310) 3 86 := ⟨by decide +kernel, rfl⟩
theorem d_AC_moveInLine_86 : DR b_AC_moveInLine 86 (.return_) 1 87 := ⟨by decide +kernel, rfl⟩
set_option maxRecDepth 20000 in
theorem B_AC_moveInLine_77 {G : MCx} (hC : C0 G "AccusedChoose" b_AC_moveInLine 6 2) (v1 : Int32) (v2 : Int32) (s : St) : VO G (RV G b_AC_moveInLine) (F_AC_moveInLine_77 v1 v2 s) 77 [(0, .ref (gad G 0)), (1, .int v1), (2, .int v2)] [] s := by
  unfold F_AC_moveInLine_77
  refine VO_aload hC d_AC_moveInLine_77 0 rfl ?_
  refine VO_getr (r := 54) hC fl_AC_77 sh_AC rfl d_AC_moveInLine_78 ?_
  refine VO_iload hC d_AC_moveInLine_81 2 rfl ?_
  refine VO_iload hC d_AC_moveInLine_82 1 rfl ?_
  refine VO_callSV hC [.ref (gad G 54), .int v2, .int v1] [] ml_AC_310 d_AC_moveInLine_83 ys_AC_put (fun o h => M_AC_put hC.inj ia_54 h) (by decide) rfl rfl (Nat.le_of_ble_eq_true rfl) (fun s2 => ?_)
  exact VO_return d_AC_moveInLine_86
set_option maxRecDepth 20000 in
theorem BH_AC_moveInLine_31 {G : MCx} (hC : C0 G "AccusedChoose" b_AC_moveInLine 6 2) {v1 : Int32} {v2 : Int32} {v4 : Int32} (K31 : Int32 × Int32 × St → Option (St)) (hK31 : ∀ (w3 : Int32) (w5 : Int32) (s : St), VO G (RV G b_AC_moveInLine) (K31 (w3, w5, s)) 31 [(0, .ref (gad G 0)), (1, .int v1), (2, .int v2), (3, .int w3), (4, .int v4), (5, .int w5)] [] s) (v3 : Int32) (v5 : Int32) (s : St) : VO G (RV G b_AC_moveInLine) (H_AC_moveInLine_31 v1 v2 v4 K31 v3 v5 s) 31 [(0, .ref (gad G 0)), (1, .int v1), (2, .int v2), (3, .int v3), (4, .int v4), (5, .int v5)] [] s := by
  unfold H_AC_moveInLine_31
  refine VO_iload hC d_AC_moveInLine_31 5 rfl ?_
  refine VO_const hC d_AC_moveInLine_33 ?_
  refine VO_icmp_ge hC d_AC_moveInLine_35 (fun _ => ?_) (fun _ => ?_)
  · exact VO_sub [0, 1, 2] rfl (B_AC_moveInLine_77 hC v1 v2 s)
  · refine VO_iload hC d_AC_moveInLine_38 3 rfl ?_
    refine VO_if_lt hC d_AC_moveInLine_39 (fun _ => ?_) (fun _ => ?_)
    · exact VO_sub [0, 1, 2] rfl (B_AC_moveInLine_77 hC v1 v2 s)
    · refine VO_iload hC d_AC_moveInLine_42 3 rfl ?_
      refine VO_iload hC d_AC_moveInLine_43 2 rfl ?_
      refine VO_icmp_eq hC d_AC_moveInLine_44 (fun _ => ?_) (fun _ => ?_)
      · exact VO_sub [0, 1, 2] rfl (B_AC_moveInLine_77 hC v1 v2 s)
      · refine VO_aload hC d_AC_moveInLine_47 0 rfl ?_
        refine VO_getr (r := 54) hC fl_AC_77 sh_AC rfl d_AC_moveInLine_48 ?_
        refine VO_iload hC d_AC_moveInLine_51 3 rfl ?_
        refine VO_aload hC d_AC_moveInLine_52 0 rfl ?_
        refine VO_getr (r := 54) hC fl_AC_77 sh_AC rfl d_AC_moveInLine_53 ?_
        refine VO_iload hC d_AC_moveInLine_56 3 rfl ?_
        refine VO_iload hC d_AC_moveInLine_57 4 rfl ?_
        refine VO_iadd hC d_AC_moveInLine_59 ?_
        refine VO_callSI hC [.ref (gad G 54), .int (v3 + v4)] [.int v3, .ref (gad G 54)] ml_AC_122 d_AC_moveInLine_60 ys_AC_at (fun o h => M_AC_at hC.inj ia_54 h) (by decide) rfl rfl (Nat.le_of_ble_eq_true rfl) (fun o3 => ?_)
        refine VO_callSV hC [.ref (gad G 54), .int v3, .int o3.1] [] ml_AC_310 d_AC_moveInLine_63 ys_AC_put (fun o h => M_AC_put hC.inj ia_54 h) (by decide) rfl rfl (Nat.le_of_ble_eq_true rfl) (fun s4 => ?_)
        refine VO_iload hC d_AC_moveInLine_66 3 rfl ?_
        refine VO_iload hC d_AC_moveInLine_67 4 rfl ?_
        refine VO_iadd hC d_AC_moveInLine_69 ?_
        refine VO_istoreB hC d_AC_moveInLine_70 [(0, .ref (gad G 0)), (1, .int v1), (2, .int v2), (4, .int v4), (5, .int v5)] rfl (by decide) (fun x5 => ?_)
        refine VO_iinc hC d_AC_moveInLine_71 5 rfl (by decide : Int32.ofInt 1 = 1) [(3, .int x5), (0, .ref (gad G 0)), (1, .int v1), (2, .int v2), (4, .int v4)] rfl (by decide) ?_
        refine VO_goto hC d_AC_moveInLine_74 ?_
        exact VO_sub [2, 3, 4, 1, 5, 0] rfl (hK31 x5 (v5 + 1) s4)
set_option maxRecDepth 20000 in
theorem B_AC_moveInLine_31 {G : MCx} (hC : C0 G "AccusedChoose" b_AC_moveInLine 6 2) (v1 : Int32) (v2 : Int32) (v3 : Int32) (v4 : Int32) (v5 : Int32) (s : St) : VO G (RV G b_AC_moveInLine) (F_AC_moveInLine_31 v1 v2 v3 v4 v5 s) 31 [(0, .ref (gad G 0)), (1, .int v1), (2, .int v2), (3, .int v3), (4, .int v4), (5, .int v5)] [] s := by
  exact VO_fix (G_AC_moveInLine_31 v1 v2 v4) 31 (fun q => [(0, .ref (gad G 0)), (1, .int v1), (2, .int v2), (3, .int q.1), (4, .int v4), (5, .int q.2.1)]) (fun q => q.2.2) (fun K hK q => BH_AC_moveInLine_31 hC K (fun w3 w5 s => hK (w3, w5, s)) q.1 q.2.1 q.2.2) FUEL (v3, v5, s)
set_option maxRecDepth 20000 in
theorem B_AC_moveInLine_26 {G : MCx} (hC : C0 G "AccusedChoose" b_AC_moveInLine 6 2) (v1 : Int32) (v2 : Int32) (v3 : Int32) (z0 : Int32) (s : St) : VO G (RV G b_AC_moveInLine) (F_AC_moveInLine_26 v1 v2 v3 z0 s) 26 [(0, .ref (gad G 0)), (1, .int v1), (2, .int v2), (3, .int v3)] [.int z0] s := by
  unfold F_AC_moveInLine_26
  refine VO_istore hC d_AC_moveInLine_26 [(0, .ref (gad G 0)), (1, .int v1), (2, .int v2), (3, .int v3)] rfl (by decide) ?_
  refine VO_const hC d_AC_moveInLine_28 ?_
  refine VO_istore hC d_AC_moveInLine_29 [(4, .int z0), (0, .ref (gad G 0)), (1, .int v1), (2, .int v2), (3, .int v3)] rfl (by decide) ?_
  exact VO_sub [2, 3, 4, 5, 1, 0] rfl (B_AC_moveInLine_31 hC v1 v2 v3 z0 (0 : Int32) s)
set_option maxRecDepth 20000 in
theorem B_AC_moveInLine {G : MCx} (hC : C0 G "AccusedChoose" b_AC_moveInLine 6 2) (a1 : Int32) (a2 : Int32) (s : St) : VO G (RV G b_AC_moveInLine) (F_AC_moveInLine a1 a2 s) 0 [(0, .ref (gad G 0)), (1, .int a1), (2, .int a2)] [] s := by
  unfold F_AC_moveInLine
  refine VO_aload hC d_AC_moveInLine_0 0 rfl ?_
  refine VO_getr (r := 54) hC fl_AC_77 sh_AC rfl d_AC_moveInLine_1 ?_
  refine VO_aload hC d_AC_moveInLine_4 0 rfl ?_
  refine VO_getr (r := 1) hC fl_AC_10 sh_AC rfl d_AC_moveInLine_5 ?_
  refine VO_geti hC fl_AC_164 (sh_NI isNI_1) rfl d_AC_moveInLine_8 ?_
  refine VO_iload hC d_AC_moveInLine_11 1 rfl ?_
  refine VO_callSI hC [.ref (gad G 54), .int (rd s 1 1), .int a1] [] ml_AC_380 d_AC_moveInLine_12 ys_AC_placeIn (fun o h => M_AC_placeIn hC.inj ia_54 h) (by decide) rfl rfl (Nat.le_of_ble_eq_true rfl) (fun o1 => ?_)
  refine VO_istore hC d_AC_moveInLine_15 [(0, .ref (gad G 0)), (1, .int a1), (2, .int a2)] rfl (by decide) ?_
  refine VO_iload hC d_AC_moveInLine_16 0 rfl ?_
  refine VO_iload hC d_AC_moveInLine_17 3 rfl ?_
  refine VO_icmp_ge hC d_AC_moveInLine_18 (fun _ => ?_) (fun _ => ?_)
  · refine VO_const hC d_AC_moveInLine_25 ?_
    exact VO_sub [1, 2, 3, 0] rfl (B_AC_moveInLine_26 hC a1 a2 o1.1 (-1 : Int32) o1.2)
  · refine VO_const hC d_AC_moveInLine_21 ?_
    refine VO_goto hC d_AC_moveInLine_22 ?_
    exact VO_sub [1, 2, 3, 0] rfl (B_AC_moveInLine_26 hC a1 a2 o1.1 (1 : Int32) o1.2)
set_option maxRecDepth 20000 in
theorem M_AC_moveInLine {l : Launch} {D : va_G} {ad : Nat → Nat} {cI cL : ClassId} (hj : Inj ad) {a1 : Int32} {a2 : Int32} {s : St} {o : St} (h : F_AC_moveInLine a1 a2 s = some o) : Cn l D ad cI cL y_AC_moveInLine b_AC_moveInLine 6 none 2 [.ref (ad 0), .int a1, .int a2] s none o := by
  refine Cn_ofV hj (plainFor_of_name (by decide)) (Nat.le_of_ble_eq_true rfl) [(0, .ref (ad 0)), (1, .int a1), (2, .int a2)] rfl (fun G hC e1 e2 e3 e4 e5 hR => ?_)
  subst e1; subst e2; subst e3; subst e4; subst e5
  exact B_AC_moveInLine hC a1 a2 s o h hR
theorem d_AC_monthsAt_0 : PLa b_AC_monthsAt 0 0 1 := Or.inl ⟨0, by decide +kernel, rfl, rfl⟩
theorem d_AC_monthsAt_1 : PLa b_AC_monthsAt 1 0 2 := Or.inl ⟨0, by decide +kernel, rfl, rfl⟩
theorem d_AC_monthsAt_2 : DR b_AC_monthsAt 2 (.getfield 10) 3 5 := ⟨by decide +kernel, rfl⟩
theorem d_AC_monthsAt_5 : DR b_AC_monthsAt 5 (.getfield 178) 3 8 := ⟨by decide +kernel, rfl⟩
theorem d_AC_monthsAt_8 : DR b_AC_monthsAt 8 (.invokevirtual 340) 3 11 := ⟨by decide +kernel, rfl⟩
theorem d_AC_monthsAt_11 : PLa b_AC_monthsAt 11 0 12 := Or.inl ⟨0, by decide +kernel, rfl, rfl⟩
theorem d_AC_monthsAt_12 : PLi b_AC_monthsAt 12 2 13 := Or.inl ⟨2, by decide +kernel, rfl, rfl⟩
theorem d_AC_monthsAt_13 : PLi b_AC_monthsAt 13 3 14 := Or.inl ⟨3, by decide +kernel, rfl, rfl⟩
theorem d_AC_monthsAt_14 : DR b_AC_monthsAt 14 (.invokevirtual 323) 3 17 := ⟨by decide +kernel, rfl⟩
theorem d_AC_monthsAt_17 : PLa b_AC_monthsAt 17 0 18 := Or.inl ⟨0, by decide +kernel, rfl, rfl⟩
theorem d_AC_monthsAt_18 : DR b_AC_monthsAt 18 (.invokevirtual 326) 3 21 := ⟨by decide +kernel, rfl⟩
theorem d_AC_monthsAt_21 : PLa b_AC_monthsAt 21 0 22 := Or.inl ⟨0, by decide +kernel, rfl, rfl⟩
theorem d_AC_monthsAt_22 : DR b_AC_monthsAt 22 (.getfield 53) 3 25 := ⟨by decide +kernel, rfl⟩
theorem d_AC_monthsAt_25 : DR b_AC_monthsAt 25 (.getfield 207) 3 28 := ⟨by decide +kernel, rfl⟩
theorem d_AC_monthsAt_28 : PLi b_AC_monthsAt 28 1 29 := Or.inl ⟨1, by decide +kernel, rfl, rfl⟩
theorem d_AC_monthsAt_29 : DR b_AC_monthsAt 29 (.invokestatic 122) 3 32 := ⟨by decide +kernel, rfl⟩
theorem d_AC_monthsAt_32 : DR b_AC_monthsAt 32 (.ireturn) 1 33 := ⟨by decide +kernel, rfl⟩
set_option maxRecDepth 20000 in
theorem B_AC_monthsAt {G : MCx} (hC : C0 G "AccusedChoose" b_AC_monthsAt 4 6) (a1 : Int32) (a2 : Int32) (a3 : Int32) (s : St) : VO G (RI G b_AC_monthsAt) (F_AC_monthsAt a1 a2 a3 s) 0 [(0, .ref (gad G 0)), (1, .int a1), (2, .int a2), (3, .int a3)] [] s := by
  unfold F_AC_monthsAt
  refine VO_aload hC d_AC_monthsAt_0 0 rfl ?_
  refine VO_aload hC d_AC_monthsAt_1 0 rfl ?_
  refine VO_getr (r := 1) hC fl_AC_10 sh_AC rfl d_AC_monthsAt_2 ?_
  refine VO_getr (r := 9) hC fl_AC_178 (sh_NI isNI_1) rfl d_AC_monthsAt_5 ?_
  refine VO_callVV hC [.ref (gad G 9)] [] ml_AC_340 d_AC_monthsAt_8 yv_AC_lineUp sh_AC rfl rfl (fun o h => M_AC_lineUp hC.inj ia_9 h) (by decide) rfl rfl (Nat.le_of_ble_eq_true rfl) (fun s1 => ?_)
  refine VO_aload hC d_AC_monthsAt_11 0 rfl ?_
  refine VO_iload hC d_AC_monthsAt_12 2 rfl ?_
  refine VO_iload hC d_AC_monthsAt_13 3 rfl ?_
  refine VO_callVV hC [.int a2, .int a3] [] ml_AC_323 d_AC_monthsAt_14 yv_AC_moveInLine sh_AC rfl rfl (fun o h => M_AC_moveInLine hC.inj h) (by decide) rfl rfl (Nat.le_of_ble_eq_true rfl) (fun s2 => ?_)
  refine VO_aload hC d_AC_monthsAt_17 0 rfl ?_
  refine VO_callVV hC [] [] ml_AC_326 d_AC_monthsAt_18 yv_AC_holdLine sh_AC rfl rfl (fun o h => M_AC_holdLine hC.inj h) (by decide) rfl rfl (Nat.le_of_ble_eq_true rfl) (fun s3 => ?_)
  refine VO_aload hC d_AC_monthsAt_21 0 rfl ?_
  refine VO_getr (r := 43) hC fl_AC_53 sh_AC rfl d_AC_monthsAt_22 ?_
  refine VO_getr (r := 45) hC fl_AC_207 (sh_MO isMO_43) rfl d_AC_monthsAt_25 ?_
  refine VO_iload hC d_AC_monthsAt_28 1 rfl ?_
  refine VO_callSI hC [.ref (gad G 45), .int a1] [] ml_AC_122 d_AC_monthsAt_29 ys_AC_at (fun o h => M_AC_at hC.inj ia_45 h) (by decide) rfl rfl (Nat.le_of_ble_eq_true rfl) (fun o4 => ?_)
  exact VO_ireturn d_AC_monthsAt_32
set_option maxRecDepth 20000 in
theorem M_AC_monthsAt {l : Launch} {D : va_G} {ad : Nat → Nat} {cI cL : ClassId} (hj : Inj ad) {a1 : Int32} {a2 : Int32} {a3 : Int32} {s : St} {o : Int32 × St} (h : F_AC_monthsAt a1 a2 a3 s = some o) : Cn l D ad cI cL y_AC_monthsAt b_AC_monthsAt 4 (some .int) 6 [.ref (ad 0), .int a1, .int a2, .int a3] s (some (.int o.1)) o.2 := by
  refine Cn_ofI hj (plainFor_of_name (by decide)) (Nat.le_of_ble_eq_true rfl) [(0, .ref (ad 0)), (1, .int a1), (2, .int a2), (3, .int a3)] rfl (fun G hC e1 e2 e3 e4 e5 hR => ?_)
  subst e1; subst e2; subst e3; subst e4; subst e5
  exact B_AC_monthsAt hC a1 a2 a3 s o h hR
theorem d_AC_placeWorth_0 : PLa b_AC_placeWorth 0 0 1 := Or.inl ⟨0, by decide +kernel, rfl, rfl⟩
theorem d_AC_placeWorth_1 : DR b_AC_placeWorth 1 (.getfield 10) 3 4 := ⟨by decide +kernel, rfl⟩
theorem d_AC_placeWorth_4 : PLi b_AC_placeWorth 4 1 5 := Or.inl ⟨1, by decide +kernel, rfl, rfl⟩
theorem d_AC_placeWorth_5 : DR b_AC_placeWorth 5 (.invokevirtual 129) 3 8 := ⟨by decide +kernel, rfl⟩
theorem d_AC_placeWorth_8 : DJ b_AC_placeWorth 8 (.ifCond .ne) 11 17 := ⟨9, by decide +kernel, rfl, by decide⟩
theorem d_AC_placeWorth_11 : PLa b_AC_placeWorth 11 0 12 := Or.inl ⟨0, by decide +kernel, rfl, rfl⟩
theorem d_AC_placeWorth_12 : PCi b_AC_placeWorth 12 (-1) 13 := Or.inl ⟨(-1), by decide +kernel, by decide, rfl⟩
theorem d_AC_placeWorth_13 : DR b_AC_placeWorth 13 (.invokevirtual 256) 3 16 := ⟨by decide +kernel, rfl⟩
theorem d_AC_placeWorth_16 : DR b_AC_placeWorth 16 (.ireturn) 1 17 := ⟨by decide +kernel, rfl⟩
theorem d_AC_placeWorth_17 : PLa b_AC_placeWorth 17 0 18 := Or.inl ⟨0, by decide +kernel, rfl, rfl⟩
theorem d_AC_placeWorth_18 : DR b_AC_placeWorth 18 (.getfield 39) 3 21 := ⟨by decide +kernel, rfl⟩
theorem d_AC_placeWorth_21 : PLa b_AC_placeWorth 21 0 22 := Or.inl ⟨0, by decide +kernel, rfl, rfl⟩
theorem d_AC_placeWorth_22 : DR b_AC_placeWorth 22 (.getfield 10) 3 25 := ⟨by decide +kernel, rfl⟩
theorem d_AC_placeWorth_25 : DR b_AC_placeWorth 25 (.invokevirtual 219) 3 28 := ⟨by decide +kernel, rfl⟩
theorem d_AC_placeWorth_28 : PLa b_AC_placeWorth 28 0 29 := Or.inl ⟨0, by decide +kernel, rfl, rfl⟩
theorem d_AC_placeWorth_29 : PLi b_AC_placeWorth 29 1 30 := Or.inl ⟨1, by decide +kernel, rfl, rfl⟩
theorem d_AC_placeWorth_30 : PLi b_AC_placeWorth 30 1 31 := Or.inl ⟨1, by decide +kernel, rfl, rfl⟩
theorem d_AC_placeWorth_31 : PLa b_AC_placeWorth 31 0 32 := Or.inl ⟨0, by decide +kernel, rfl, rfl⟩
theorem d_AC_placeWorth_32 : DR b_AC_placeWorth 32 (.getfield 10) 3 35 := ⟨by decide +kernel, rfl⟩
theorem d_AC_placeWorth_35 : DR b_AC_placeWorth 35 (.getfield 164) 3 38 := ⟨by decide +kernel, rfl⟩
theorem d_AC_placeWorth_38 : PCi b_AC_placeWorth 38 1 39 := Or.inl ⟨1, by decide +kernel, by decide, rfl⟩
theorem d_AC_placeWorth_39 : DR b_AC_placeWorth 39 (.isub) 1 40 := ⟨by decide +kernel, rfl⟩
theorem d_AC_placeWorth_40 : DR b_AC_placeWorth 40 (.invokevirtual 259) 3 43 := ⟨by decide +kernel, rfl⟩
theorem d_AC_placeWorth_43 : PLa b_AC_placeWorth 43 0 44 := Or.inl ⟨0, by decide +kernel, rfl, rfl⟩
theorem d_AC_placeWorth_44 : PLi b_AC_placeWorth 44 1 45 := Or.inl ⟨1, by decide +kernel, rfl, rfl⟩
theorem d_AC_placeWorth_45 : PLi b_AC_placeWorth 45 1 46 := Or.inl ⟨1, by decide +kernel, rfl, rfl⟩
theorem d_AC_placeWorth_46 : PCi b_AC_placeWorth 46 0 47 := Or.inl ⟨0, by decide +kernel, by decide, rfl⟩
theorem d_AC_placeWorth_47 : DR b_AC_placeWorth 47 (.invokevirtual 259) 3 50 := ⟨by decide +kernel, rfl⟩
theorem d_AC_placeWorth_50 : DR b_AC_placeWorth 50 (.isub) 1 51 := ⟨by decide +kernel, rfl⟩
theorem d_AC_placeWorth_51 : DR b_AC_placeWorth 51 (.ireturn) 1 52 := ⟨by decide +kernel, rfl⟩
set_option maxRecDepth 20000 in
theorem B_AC_placeWorth {G : MCx} (hC : C0 G "AccusedChoose" b_AC_placeWorth 2 7) (a1 : Int32) (s : St) : VO G (RI G b_AC_placeWorth) (F_AC_placeWorth a1 s) 0 [(0, .ref (gad G 0)), (1, .int a1)] [] s := by
  unfold F_AC_placeWorth
  refine VO_aload hC d_AC_placeWorth_0 0 rfl ?_
  refine VO_getr (r := 1) hC fl_AC_10 sh_AC rfl d_AC_placeWorth_1 ?_
  refine VO_iload hC d_AC_placeWorth_4 1 rfl ?_
  refine VO_callVI hC [.int a1] [] ml_AC_129 d_AC_placeWorth_5 yv_NI_hasPerson (sh_NI isNI_1) rfl rfl (fun o h => M_NI_hasPerson hC.inj isNI_1 h) (by decide) rfl rfl (Nat.le_of_ble_eq_true rfl) (fun o1 => ?_)
  refine VO_if_ne hC d_AC_placeWorth_8 (fun _ => ?_) (fun _ => ?_)
  · refine VO_aload hC d_AC_placeWorth_11 0 rfl ?_
    refine VO_const hC d_AC_placeWorth_12 ?_
    refine VO_callVI hC [.int (-1 : Int32)] [] ml_AC_256 d_AC_placeWorth_13 yv_AC_refuseBig sh_AC rfl rfl (fun o h => M_AC_refuseBig hC.inj h) (by decide) rfl rfl (Nat.le_of_ble_eq_true rfl) (fun o5 => ?_)
    exact VO_ireturn d_AC_placeWorth_16
  · refine VO_aload hC d_AC_placeWorth_17 0 rfl ?_
    refine VO_getr (r := 36) hC fl_AC_39 sh_AC rfl d_AC_placeWorth_18 ?_
    refine VO_aload hC d_AC_placeWorth_21 0 rfl ?_
    refine VO_getr (r := 1) hC fl_AC_10 sh_AC rfl d_AC_placeWorth_22 ?_
    refine VO_callVV hC [.ref (gad G 1)] [] ml_AC_219 d_AC_placeWorth_25 yv_PR_fill (sh_PR isPR_36) rfl rfl (fun o h => M_PR_fill hC.inj isPR_36 isNI_1 h) (by decide) rfl rfl (Nat.le_of_ble_eq_true rfl) (fun s2 => ?_)
    refine VO_aload hC d_AC_placeWorth_28 0 rfl ?_
    refine VO_iload hC d_AC_placeWorth_29 1 rfl ?_
    refine VO_iload hC d_AC_placeWorth_30 1 rfl ?_
    refine VO_aload hC d_AC_placeWorth_31 0 rfl ?_
    refine VO_getr (r := 1) hC fl_AC_10 sh_AC rfl d_AC_placeWorth_32 ?_
    refine VO_geti hC fl_AC_164 (sh_NI isNI_1) rfl d_AC_placeWorth_35 ?_
    refine VO_const hC d_AC_placeWorth_38 ?_
    refine VO_isub hC d_AC_placeWorth_39 ?_
    refine VO_callVI hC [.int a1, .int a1, .int ((rd s2 1 1) - (1 : Int32))] [] ml_AC_259 d_AC_placeWorth_40 yv_AC_monthsAt sh_AC rfl rfl (fun o h => M_AC_monthsAt hC.inj h) (by decide) rfl rfl (Nat.le_of_ble_eq_true rfl) (fun o3 => ?_)
    refine VO_aload hC d_AC_placeWorth_43 0 rfl ?_
    refine VO_iload hC d_AC_placeWorth_44 1 rfl ?_
    refine VO_iload hC d_AC_placeWorth_45 1 rfl ?_
    refine VO_const hC d_AC_placeWorth_46 ?_
    refine VO_callVI hC [.int a1, .int a1, .int (0 : Int32)] [.int o3.1] ml_AC_259 d_AC_placeWorth_47 yv_AC_monthsAt sh_AC rfl rfl (fun o h => M_AC_monthsAt hC.inj h) (by decide) rfl rfl (Nat.le_of_ble_eq_true rfl) (fun o4 => ?_)
    refine VO_isub hC d_AC_placeWorth_50 ?_
    exact VO_ireturn d_AC_placeWorth_51
set_option maxRecDepth 20000 in
theorem M_AC_placeWorth {l : Launch} {D : va_G} {ad : Nat → Nat} {cI cL : ClassId} (hj : Inj ad) {a1 : Int32} {s : St} {o : Int32 × St} (h : F_AC_placeWorth a1 s = some o) : Cn l D ad cI cL y_AC_placeWorth b_AC_placeWorth 2 (some .int) 7 [.ref (ad 0), .int a1] s (some (.int o.1)) o.2 := by
  refine Cn_ofI hj (plainFor_of_name (by decide)) (Nat.le_of_ble_eq_true rfl) [(0, .ref (ad 0)), (1, .int a1)] rfl (fun G hC e1 e2 e3 e4 e5 hR => ?_)
  subst e1; subst e2; subst e3; subst e4; subst e5
  exact B_AC_placeWorth hC a1 s o h hR
theorem d_AC_holdChanged_0 : PLa b_AC_holdChanged 0 0 1 := Or.inl ⟨0, by decide +kernel, rfl, rfl⟩
theorem d_AC_holdChanged_1 : PLa b_AC_holdChanged 1 0 2 := Or.inl ⟨0, by decide +kernel, rfl, rfl⟩
theorem d_AC_holdChanged_2 : DR b_AC_holdChanged 2 (.getfield 10) 3 5 := ⟨by decide +kernel, rfl⟩
theorem d_AC_holdChanged_5 : DR b_AC_holdChanged 5 (.getfield 178) 3 8 := ⟨by decide +kernel, rfl⟩
theorem d_AC_holdChanged_8 : DR b_AC_holdChanged 8 (.invokevirtual 340) 3 11 := ⟨by decide +kernel, rfl⟩
theorem d_AC_holdChanged_11 : PLa b_AC_holdChanged 11 0 12 := Or.inl ⟨0, by decide +kernel, rfl, rfl⟩
theorem d_AC_holdChanged_12 : DR b_AC_holdChanged 12 (.getfield 77) 3 15 := ⟨by decide +kernel, rfl⟩
theorem d_AC_holdChanged_15 : PLa b_AC_holdChanged 15 0 16 := Or.inl ⟨0, by decide +kernel, rfl, rfl⟩
theorem d_AC_holdChanged_16 : DR b_AC_holdChanged 16 (.getfield 10) 3 19 := ⟨by decide +kernel, rfl⟩
theorem d_AC_holdChanged_19 : DR b_AC_holdChanged 19 (.getfield 164) 3 22 := ⟨by decide +kernel, rfl⟩
theorem d_AC_holdChanged_22 : PLi b_AC_holdChanged 22 1 23 := Or.inl ⟨1, by decide +kernel, rfl, rfl⟩
theorem d_AC_holdChanged_23 : PLi b_AC_holdChanged 23 2 24 := Or.inl ⟨2, by decide +kernel, rfl, rfl⟩
theorem d_AC_holdChanged_24 : DR b_AC_holdChanged 24 (.invokestatic 181) 3 27 := ⟨by decide +kernel, rfl⟩
theorem d_AC_holdChanged_27 : PLa b_AC_holdChanged 27 0 28 := Or.inl ⟨0, by decide +kernel, rfl, rfl⟩
theorem d_AC_holdChanged_28 : DR b_AC_holdChanged 28 (.invokevirtual 326) 3 31 := ⟨by decide +kernel, rfl⟩
theorem d_AC_holdChanged_31 : DR b_AC_holdChanged 31 (.return_) 1 32 := ⟨by decide +kernel, rfl⟩
set_option maxRecDepth 20000 in
theorem B_AC_holdChanged {G : MCx} (hC : C0 G "AccusedChoose" b_AC_holdChanged 3 6) (a1 : Int32) (a2 : Int32) (s : St) : VO G (RV G b_AC_holdChanged) (F_AC_holdChanged a1 a2 s) 0 [(0, .ref (gad G 0)), (1, .int a1), (2, .int a2)] [] s := by
  unfold F_AC_holdChanged
  refine VO_aload hC d_AC_holdChanged_0 0 rfl ?_
  refine VO_aload hC d_AC_holdChanged_1 0 rfl ?_
  refine VO_getr (r := 1) hC fl_AC_10 sh_AC rfl d_AC_holdChanged_2 ?_
  refine VO_getr (r := 9) hC fl_AC_178 (sh_NI isNI_1) rfl d_AC_holdChanged_5 ?_
  refine VO_callVV hC [.ref (gad G 9)] [] ml_AC_340 d_AC_holdChanged_8 yv_AC_lineUp sh_AC rfl rfl (fun o h => M_AC_lineUp hC.inj ia_9 h) (by decide) rfl rfl (Nat.le_of_ble_eq_true rfl) (fun s1 => ?_)
  refine VO_aload hC d_AC_holdChanged_11 0 rfl ?_
  refine VO_getr (r := 54) hC fl_AC_77 sh_AC rfl d_AC_holdChanged_12 ?_
  refine VO_aload hC d_AC_holdChanged_15 0 rfl ?_
  refine VO_getr (r := 1) hC fl_AC_10 sh_AC rfl d_AC_holdChanged_16 ?_
  refine VO_geti hC fl_AC_164 (sh_NI isNI_1) rfl d_AC_holdChanged_19 ?_
  refine VO_iload hC d_AC_holdChanged_22 1 rfl ?_
  refine VO_iload hC d_AC_holdChanged_23 2 rfl ?_
  refine VO_callSV hC [.ref (gad G 54), .int (rd s1 1 1), .int a1, .int a2] [] ml_AC_181 d_AC_holdChanged_24 ys_AC_swapPlaces (fun o h => M_AC_swapPlaces hC.inj ia_54 h) (by decide) rfl rfl (Nat.le_of_ble_eq_true rfl) (fun s2 => ?_)
  refine VO_aload hC d_AC_holdChanged_27 0 rfl ?_
  refine VO_callVV hC [] [] ml_AC_326 d_AC_holdChanged_28 yv_AC_holdLine sh_AC rfl rfl (fun o h => M_AC_holdLine hC.inj h) (by decide) rfl rfl (Nat.le_of_ble_eq_true rfl) (fun s3 => ?_)
  exact VO_return d_AC_holdChanged_31
set_option maxRecDepth 20000 in
theorem M_AC_holdChanged {l : Launch} {D : va_G} {ad : Nat → Nat} {cI cL : ClassId} (hj : Inj ad) {a1 : Int32} {a2 : Int32} {s : St} {o : St} (h : F_AC_holdChanged a1 a2 s = some o) : Cn l D ad cI cL y_AC_holdChanged b_AC_holdChanged 3 none 6 [.ref (ad 0), .int a1, .int a2] s none o := by
  refine Cn_ofV hj (plainFor_of_name (by decide)) (Nat.le_of_ble_eq_true rfl) [(0, .ref (ad 0)), (1, .int a1), (2, .int a2)] rfl (fun G hC e1 e2 e3 e4 e5 hR => ?_)
  subst e1; subst e2; subst e3; subst e4; subst e5
  exact B_AC_holdChanged hC a1 a2 s o h hR
theorem d_AC_changes_0 : PLa b_AC_changes 0 0 1 := Or.inl ⟨0, by decide +kernel, rfl, rfl⟩
theorem d_AC_changes_1 : DR b_AC_changes 1 (.invokevirtual 201) 3 4 := ⟨by decide +kernel, rfl⟩
theorem d_AC_changes_4 : PCi b_AC_changes 4 0 5 := Or.inl ⟨0, by decide +kernel, by decide, rfl⟩
theorem d_AC_changes_5 : PSi b_AC_changes 5 1 6 := Or.inl ⟨1, by decide +kernel, rfl, rfl⟩
theorem d_AC_changes_6 : PLi b_AC_changes 6 1 7 := Or.inl ⟨1, by decide +kernel, rfl, rfl⟩
theorem d_AC_changes_7 : PLa b_AC_changes 7 0 8 := Or.inl ⟨0, by decide +kernel, rfl, rfl⟩
theorem d_AC_changes_8 : DR b_AC_changes 8 (.getfield 10) 3 11 := ⟨by decide +kernel, rfl⟩
theorem d_AC_changes_11 : DR b_AC_changes 11 (.getfield 164) 3 14 := ⟨by decide +kernel, rfl⟩
theorem d_AC_changes_14 : DJ b_AC_changes 14 (.if_icmp .ge) 17 122 := ⟨108, by decide +kernel, rfl, by decide⟩
theorem d_AC_changes_17 : PLi b_AC_changes 17 1 18 := Or.inl ⟨1, by decide +kernel, rfl, rfl⟩
theorem d_AC_changes_18 : PCi b_AC_changes 18 1 19 := Or.inl ⟨1, by decide +kernel, by decide, rfl⟩
theorem d_AC_changes_19 : DR b_AC_changes 19 (.iadd) 1 20 := ⟨by decide +kernel, rfl⟩
theorem d_AC_changes_20 : PSi b_AC_changes 20 2 21 := Or.inl ⟨2, by decide +kernel, rfl, rfl⟩
theorem d_AC_changes_21 : PLi b_AC_changes 21 2 22 := Or.inl ⟨2, by decide +kernel, rfl, rfl⟩
theorem d_AC_changes_22 : PLa b_AC_changes 22 0 23 := Or.inl ⟨0, by decide +kernel, rfl, rfl⟩
theorem d_AC_changes_23 : DR b_AC_changes 23 (.getfield 10) 3 26 := ⟨by decide +kernel, rfl⟩
theorem d_AC_changes_26 : DR b_AC_changes 26 (.getfield 164) 3 29 := ⟨by decide +kernel, rfl⟩
theorem d_AC_changes_29 : DJ b_AC_changes 29 (.if_icmp .ge) 32 116 := ⟨87, by decide +kernel, rfl, by decide⟩
theorem d_AC_changes_32 : PLa b_AC_changes 32 0 33 := Or.inl ⟨0, by decide +kernel, rfl, rfl⟩
theorem d_AC_changes_33 : PLi b_AC_changes 33 1 34 := Or.inl ⟨1, by decide +kernel, rfl, rfl⟩
theorem d_AC_changes_34 : PLi b_AC_changes 34 2 35 := Or.inl ⟨2, by decide +kernel, rfl, rfl⟩
theorem d_AC_changes_35 : DR b_AC_changes 35 (.invokevirtual 262) 3 38 := ⟨by decide +kernel, rfl⟩
theorem d_AC_changes_38 : PLa b_AC_changes 38 0 39 := Or.inl ⟨0, by decide +kernel, rfl, rfl⟩
theorem d_AC_changes_39 : DR b_AC_changes 39 (.getfield 49) 3 42 := ⟨by decide +kernel, rfl⟩
theorem d_AC_changes_42 : DR b_AC_changes 42 (.getfield 207) 3 45 := ⟨by decide +kernel, rfl⟩
theorem d_AC_changes_45 : PLi b_AC_changes 45 1 46 := Or.inl ⟨1, by decide +kernel, rfl, rfl⟩
theorem d_AC_changes_46 : DR b_AC_changes 46 (.invokestatic 122) 3 49 := ⟨by decide +kernel, rfl⟩
theorem d_AC_changes_49 : PLa b_AC_changes 49 0 50 := Or.inl ⟨0, by decide +kernel, rfl, rfl⟩
theorem d_AC_changes_50 : DR b_AC_changes 50 (.getfield 53) 3 53 := ⟨by decide +kernel, rfl⟩
theorem d_AC_changes_53 : DR b_AC_changes 53 (.getfield 207) 3 56 := ⟨by decide +kernel, rfl⟩
theorem d_AC_changes_56 : PLi b_AC_changes 56 1 57 := Or.inl ⟨1, by decide +kernel, rfl, rfl⟩
theorem d_AC_changes_57 : DR b_AC_changes 57 (.invokestatic 122) 3 60 := ⟨by decide +kernel, rfl⟩
theorem d_AC_changes_60 : DR b_AC_changes 60 (.isub) 1 61 := ⟨by decide +kernel, rfl⟩
theorem d_AC_changes_61 : PSi b_AC_changes 61 3 62 := Or.inl ⟨3, by decide +kernel, rfl, rfl⟩
theorem d_AC_changes_62 : PLa b_AC_changes 62 0 63 := Or.inl ⟨0, by decide +kernel, rfl, rfl⟩
theorem d_AC_changes_63 : DR b_AC_changes 63 (.getfield 49) 3 66 := ⟨by decide +kernel, rfl⟩
theorem d_AC_changes_66 : DR b_AC_changes 66 (.getfield 207) 3 69 := ⟨by decide +kernel, rfl⟩
theorem d_AC_changes_69 : PLi b_AC_changes 69 2 70 := Or.inl ⟨2, by decide +kernel, rfl, rfl⟩
theorem d_AC_changes_70 : DR b_AC_changes 70 (.invokestatic 122) 3 73 := ⟨by decide +kernel, rfl⟩
theorem d_AC_changes_73 : PLa b_AC_changes 73 0 74 := Or.inl ⟨0, by decide +kernel, rfl, rfl⟩
theorem d_AC_changes_74 : DR b_AC_changes 74 (.getfield 53) 3 77 := ⟨by decide +kernel, rfl⟩
theorem d_AC_changes_77 : DR b_AC_changes 77 (.getfield 207) 3 80 := ⟨by decide +kernel, rfl⟩
theorem d_AC_changes_80 : PLi b_AC_changes 80 2 81 := Or.inl ⟨2, by decide +kernel, rfl, rfl⟩
theorem d_AC_changes_81 : DR b_AC_changes 81 (.invokestatic 122) 3 84 := ⟨by decide +kernel, rfl⟩
theorem d_AC_changes_84 : DR b_AC_changes 84 (.isub) 1 85 := ⟨by decide +kernel, rfl⟩
theorem d_AC_changes_85 : PSi b_AC_changes 85 4 87 := Or.inr ⟨by decide +kernel, rfl⟩
theorem d_AC_changes_87 : PLi b_AC_changes 87 3 88 := Or.inl ⟨3, by decide +kernel, rfl, rfl⟩
theorem d_AC_changes_88 : DJ b_AC_changes 88 (.ifCond .lt) 91 110 := ⟨22, by decide +kernel, rfl, by decide⟩
theorem d_AC_changes_91 : PLi b_AC_changes 91 4 93 := Or.inr ⟨by decide +kernel, rfl⟩
theorem d_AC_changes_93 : DJ b_AC_changes 93 (.ifCond .lt) 96 110 := ⟨17, by decide +kernel, rfl, by decide⟩
theorem d_AC_changes_96 : PLi b_AC_changes 96 3 97 := Or.inl ⟨3, by decide +kernel, rfl, rfl⟩
theorem d_AC_changes_97 : PLi b_AC_changes 97 4 99 := Or.inr ⟨by decide +kernel, rfl⟩
theorem d_AC_changes_99 : DR b_AC_changes 99 (.iadd) 1 100 := ⟨by decide +kernel, rfl⟩
theorem d_AC_changes_100 : DJ b_AC_changes 100 (.ifCond .le) 103 110 := ⟨10, by decide +kernel, rfl, by decide⟩
theorem d_AC_changes_103 : PCi b_AC_changes 103 10 105 := Or.inr (Or.inl ⟨10, by decide +kernel, by decide, rfl⟩)
theorem d_AC_changes_105 : PLi b_AC_changes 105 1 106 := Or.inl ⟨1, by decide +kernel, rfl, rfl⟩
theorem d_AC_changes_106 : DR b_AC_changes 106 (.imul) 1 107 := ⟨by decide +kernel, rfl⟩
theorem d_AC_changes_107 : PLi b_AC_changes 107 2 108 := Or.inl ⟨2, by decide +kernel, rfl, rfl⟩
theorem d_AC_changes_108 : DR b_AC_changes 108 (.iadd) 1 109 := ⟨by decide +kernel, rfl⟩
theorem d_AC_changes_109 : DR b_AC_changes 109 (.ireturn) 1 110 := ⟨by decide +kernel, rfl⟩
theorem d_AC_changes_110 : DR b_AC_changes 110 (.iinc 2 1) 3 113 := ⟨by decide +kernel, rfl⟩
theorem d_AC_changes_113 : DJ b_AC_changes 113 .goto 116 21 := ⟨-92, by decide +kernel, rfl, by decide⟩
theorem d_AC_changes_116 : DR b_AC_changes 116 (.iinc 1 1) 3 119 := ⟨by decide +kernel, rfl⟩
theorem d_AC_changes_119 : DJ b_AC_changes 119 .goto 122 6 := ⟨-113, by decide +kernel, rfl, by decide⟩
theorem d_AC_changes_122 : PCi b_AC_changes 122 (-9) 124 := Or.inr (Or.inl ⟨(-9), by decide +kernel, by decide, rfl⟩)
theorem d_AC_changes_124 : DR b_AC_changes 124 (.ireturn) 1 125 := ⟨by decide +kernel, rfl⟩
set_option maxRecDepth 20000 in
theorem B_AC_changes_110 {G : MCx} (hC : C0 G "AccusedChoose" b_AC_changes 5 7) {v1 : Int32} (K6 : Int32 × St → Option (Int32 × St)) (hK6 : ∀ (w1 : Int32) (s : St), VO G (RI G b_AC_changes) (K6 (w1, s)) 6 [(0, .ref (gad G 0)), (1, .int w1)] [] s) (K21 : Int32 × St → Option (Int32 × St)) (hK21 : ∀ (w2 : Int32) (s : St), VO G (RI G b_AC_changes) (K21 (w2, s)) 21 [(0, .ref (gad G 0)), (1, .int v1), (2, .int w2)] [] s) (v2 : Int32) (s : St) : VO G (RI G b_AC_changes) (F_AC_changes_110 K6 K21 v1 v2 s) 110 [(0, .ref (gad G 0)), (1, .int v1), (2, .int v2)] [] s := by
  unfold F_AC_changes_110
  refine VO_iinc hC d_AC_changes_110 2 rfl (by decide : Int32.ofInt 1 = 1) [(0, .ref (gad G 0)), (1, .int v1)] rfl (by decide) ?_
  refine VO_goto hC d_AC_changes_113 ?_
  exact VO_sub [1, 2, 0] rfl (hK21 (v2 + 1) s)
set_option maxRecDepth 20000 in
theorem BH_AC_changes_21 {G : MCx} (hC : C0 G "AccusedChoose" b_AC_changes 5 7) {v1 : Int32} (K6 : Int32 × St → Option (Int32 × St)) (hK6 : ∀ (w1 : Int32) (s : St), VO G (RI G b_AC_changes) (K6 (w1, s)) 6 [(0, .ref (gad G 0)), (1, .int w1)] [] s) (K21 : Int32 × St → Option (Int32 × St)) (hK21 : ∀ (w2 : Int32) (s : St), VO G (RI G b_AC_changes) (K21 (w2, s)) 21 [(0, .ref (gad G 0)), (1, .int v1), (2, .int w2)] [] s) (v2 : Int32) (s : St) : VO G (RI G b_AC_changes) (H_AC_changes_21 K6 v1 K21 v2 s) 21 [(0, .ref (gad G 0)), (1, .int v1), (2, .int v2)] [] s := by
  unfold H_AC_changes_21
  refine VO_iload hC d_AC_changes_21 2 rfl ?_
  refine VO_aload hC d_AC_changes_22 0 rfl ?_
  refine VO_getr (r := 1) hC fl_AC_10 sh_AC rfl d_AC_changes_23 ?_
  refine VO_geti hC fl_AC_164 (sh_NI isNI_1) rfl d_AC_changes_26 ?_
  refine VO_icmp_ge hC d_AC_changes_29 (fun _ => ?_) (fun _ => ?_)
  · refine VO_iinc hC d_AC_changes_116 1 rfl (by decide : Int32.ofInt 1 = 1) [(0, .ref (gad G 0)), (2, .int v2)] rfl (by decide) ?_
    refine VO_goto hC d_AC_changes_119 ?_
    exact VO_sub [1, 0] rfl (hK6 (v1 + 1) s)
  · refine VO_aload hC d_AC_changes_32 0 rfl ?_
    refine VO_iload hC d_AC_changes_33 1 rfl ?_
    refine VO_iload hC d_AC_changes_34 2 rfl ?_
    refine VO_callVV hC [.int v1, .int v2] [] ml_AC_262 d_AC_changes_35 yv_AC_holdChanged sh_AC rfl rfl (fun o h => M_AC_holdChanged hC.inj h) (by decide) rfl rfl (Nat.le_of_ble_eq_true rfl) (fun s3 => ?_)
    refine VO_aload hC d_AC_changes_38 0 rfl ?_
    refine VO_getr (r := 40) hC fl_AC_49 sh_AC rfl d_AC_changes_39 ?_
    refine VO_getr (r := 42) hC fl_AC_207 (sh_MO isMO_40) rfl d_AC_changes_42 ?_
    refine VO_iload hC d_AC_changes_45 1 rfl ?_
    refine VO_callSI hC [.ref (gad G 42), .int v1] [] ml_AC_122 d_AC_changes_46 ys_AC_at (fun o h => M_AC_at hC.inj ia_42 h) (by decide) rfl rfl (Nat.le_of_ble_eq_true rfl) (fun o4 => ?_)
    refine VO_aload hC d_AC_changes_49 0 rfl ?_
    refine VO_getr (r := 43) hC fl_AC_53 sh_AC rfl d_AC_changes_50 ?_
    refine VO_getr (r := 45) hC fl_AC_207 (sh_MO isMO_43) rfl d_AC_changes_53 ?_
    refine VO_iload hC d_AC_changes_56 1 rfl ?_
    refine VO_callSI hC [.ref (gad G 45), .int v1] [.int o4.1] ml_AC_122 d_AC_changes_57 ys_AC_at (fun o h => M_AC_at hC.inj ia_45 h) (by decide) rfl rfl (Nat.le_of_ble_eq_true rfl) (fun o5 => ?_)
    refine VO_isub hC d_AC_changes_60 ?_
    refine VO_istoreB hC d_AC_changes_61 [(0, .ref (gad G 0)), (1, .int v1), (2, .int v2)] rfl (by decide) (fun x6 => ?_)
    refine VO_aload hC d_AC_changes_62 1 rfl ?_
    refine VO_getr (r := 40) hC fl_AC_49 sh_AC rfl d_AC_changes_63 ?_
    refine VO_getr (r := 42) hC fl_AC_207 (sh_MO isMO_40) rfl d_AC_changes_66 ?_
    refine VO_iload hC d_AC_changes_69 3 rfl ?_
    refine VO_callSI hC [.ref (gad G 42), .int v2] [] ml_AC_122 d_AC_changes_70 ys_AC_at (fun o h => M_AC_at hC.inj ia_42 h) (by decide) rfl rfl (Nat.le_of_ble_eq_true rfl) (fun o7 => ?_)
    refine VO_aload hC d_AC_changes_73 1 rfl ?_
    refine VO_getr (r := 43) hC fl_AC_53 sh_AC rfl d_AC_changes_74 ?_
    refine VO_getr (r := 45) hC fl_AC_207 (sh_MO isMO_43) rfl d_AC_changes_77 ?_
    refine VO_iload hC d_AC_changes_80 3 rfl ?_
    refine VO_callSI hC [.ref (gad G 45), .int v2] [.int o7.1] ml_AC_122 d_AC_changes_81 ys_AC_at (fun o h => M_AC_at hC.inj ia_45 h) (by decide) rfl rfl (Nat.le_of_ble_eq_true rfl) (fun o8 => ?_)
    refine VO_isub hC d_AC_changes_84 ?_
    refine VO_istoreB hC d_AC_changes_85 [(3, .int x6), (0, .ref (gad G 0)), (1, .int v1), (2, .int v2)] rfl (by decide) (fun x9 => ?_)
    refine VO_iload hC d_AC_changes_87 1 rfl ?_
    refine VO_if_lt hC d_AC_changes_88 (fun _ => ?_) (fun _ => ?_)
    · exact VO_sub [2, 3, 4] rfl (B_AC_changes_110 hC K6 hK6 K21 hK21 v2 o8.2)
    · refine VO_iload hC d_AC_changes_91 0 rfl ?_
      refine VO_if_lt hC d_AC_changes_93 (fun _ => ?_) (fun _ => ?_)
      · exact VO_sub [2, 3, 4] rfl (B_AC_changes_110 hC K6 hK6 K21 hK21 v2 o8.2)
      · refine VO_iload hC d_AC_changes_96 1 rfl ?_
        refine VO_iload hC d_AC_changes_97 0 rfl ?_
        refine VO_iadd hC d_AC_changes_99 ?_
        refine VO_if_le hC d_AC_changes_100 (fun _ => ?_) (fun _ => ?_)
        · exact VO_sub [2, 3, 4] rfl (B_AC_changes_110 hC K6 hK6 K21 hK21 v2 o8.2)
        · refine VO_const hC d_AC_changes_103 ?_
          refine VO_iload hC d_AC_changes_105 3 rfl ?_
          refine VO_imul hC d_AC_changes_106 ?_
          refine VO_iload hC d_AC_changes_107 4 rfl ?_
          refine VO_iadd hC d_AC_changes_108 ?_
          exact VO_ireturn d_AC_changes_109
set_option maxRecDepth 20000 in
theorem B_AC_changes_21 {G : MCx} (hC : C0 G "AccusedChoose" b_AC_changes 5 7) (K6 : Int32 × St → Option (Int32 × St)) (hK6 : ∀ (w1 : Int32) (s : St), VO G (RI G b_AC_changes) (K6 (w1, s)) 6 [(0, .ref (gad G 0)), (1, .int w1)] [] s) (v1 : Int32) (v2 : Int32) (s : St) : VO G (RI G b_AC_changes) (F_AC_changes_21 K6 v1 v2 s) 21 [(0, .ref (gad G 0)), (1, .int v1), (2, .int v2)] [] s := by
  exact VO_fix (G_AC_changes_21 K6 v1) 21 (fun q => [(0, .ref (gad G 0)), (1, .int v1), (2, .int q.1)]) (fun q => q.2) (fun K hK q => BH_AC_changes_21 hC K6 hK6 K (fun w2 s => hK (w2, s)) q.1 q.2) FUEL (v2, s)
set_option maxRecDepth 20000 in
theorem BH_AC_changes_6 {G : MCx} (hC : C0 G "AccusedChoose" b_AC_changes 5 7) (K6 : Int32 × St → Option (Int32 × St)) (hK6 : ∀ (w1 : Int32) (s : St), VO G (RI G b_AC_changes) (K6 (w1, s)) 6 [(0, .ref (gad G 0)), (1, .int w1)] [] s) (v1 : Int32) (s : St) : VO G (RI G b_AC_changes) (H_AC_changes_6 K6 v1 s) 6 [(0, .ref (gad G 0)), (1, .int v1)] [] s := by
  unfold H_AC_changes_6
  refine VO_iload hC d_AC_changes_6 1 rfl ?_
  refine VO_aload hC d_AC_changes_7 0 rfl ?_
  refine VO_getr (r := 1) hC fl_AC_10 sh_AC rfl d_AC_changes_8 ?_
  refine VO_geti hC fl_AC_164 (sh_NI isNI_1) rfl d_AC_changes_11 ?_
  refine VO_icmp_ge hC d_AC_changes_14 (fun _ => ?_) (fun _ => ?_)
  · refine VO_const hC d_AC_changes_122 ?_
    exact VO_ireturn d_AC_changes_124
  · refine VO_iload hC d_AC_changes_17 1 rfl ?_
    refine VO_const hC d_AC_changes_18 ?_
    refine VO_iadd hC d_AC_changes_19 ?_
    refine VO_istoreB hC d_AC_changes_20 [(0, .ref (gad G 0)), (1, .int v1)] rfl (by decide) (fun x2 => ?_)
    exact VO_sub [1, 2, 0] rfl (B_AC_changes_21 hC K6 hK6 v1 x2 s)
set_option maxRecDepth 20000 in
theorem B_AC_changes_6 {G : MCx} (hC : C0 G "AccusedChoose" b_AC_changes 5 7) (v1 : Int32) (s : St) : VO G (RI G b_AC_changes) (F_AC_changes_6 v1 s) 6 [(0, .ref (gad G 0)), (1, .int v1)] [] s := by
  exact VO_fix (G_AC_changes_6) 6 (fun q => [(0, .ref (gad G 0)), (1, .int q.1)]) (fun q => q.2) (fun K hK q => BH_AC_changes_6 hC K (fun w1 s => hK (w1, s)) q.1 q.2) FUEL (v1, s)
set_option maxRecDepth 20000 in
theorem B_AC_changes {G : MCx} (hC : C0 G "AccusedChoose" b_AC_changes 5 7) (s : St) : VO G (RI G b_AC_changes) (F_AC_changes s) 0 [(0, .ref (gad G 0))] [] s := by
  unfold F_AC_changes
  refine VO_aload hC d_AC_changes_0 0 rfl ?_
  refine VO_callVV hC [] [] ml_AC_201 d_AC_changes_1 yv_AC_holdToday sh_AC rfl rfl (fun o h => M_AC_holdToday hC.inj h) (by decide) rfl rfl (Nat.le_of_ble_eq_true rfl) (fun s1 => ?_)
  refine VO_const hC d_AC_changes_4 ?_
  refine VO_istore hC d_AC_changes_5 [(0, .ref (gad G 0))] rfl (by decide) ?_
  exact VO_sub [1, 0] rfl (B_AC_changes_6 hC (0 : Int32) s1)
set_option maxRecDepth 20000 in
theorem M_AC_changes {l : Launch} {D : va_G} {ad : Nat → Nat} {cI cL : ClassId} (hj : Inj ad) {s : St} {o : Int32 × St} (h : F_AC_changes s = some o) : Cn l D ad cI cL y_AC_changes b_AC_changes 5 (some .int) 7 [.ref (ad 0)] s (some (.int o.1)) o.2 := by
  refine Cn_ofI hj (plainFor_of_name (by decide)) (Nat.le_of_ble_eq_true rfl) [(0, .ref (ad 0))] rfl (fun G hC e1 e2 e3 e4 e5 hR => ?_)
  subst e1; subst e2; subst e3; subst e4; subst e5
  exact B_AC_changes hC s o h hR
theorem d_AC_soughtOrder_0 : PLa b_AC_soughtOrder 0 0 1 := Or.inl ⟨0, by decide +kernel, rfl, rfl⟩
theorem d_AC_soughtOrder_1 : DR b_AC_soughtOrder 1 (.getfield 10) 3 4 := ⟨by decide +kernel, rfl⟩
theorem d_AC_soughtOrder_4 : DR b_AC_soughtOrder 4 (.getfield 164) 3 7 := ⟨by decide +kernel, rfl⟩
theorem d_AC_soughtOrder_7 : PCi b_AC_soughtOrder 7 5 8 := Or.inl ⟨5, by decide +kernel, by decide, rfl⟩
theorem d_AC_soughtOrder_8 : DJ b_AC_soughtOrder 8 (.if_icmp .le) 11 18 := ⟨10, by decide +kernel, rfl, by decide⟩
theorem d_AC_soughtOrder_11 : PLa b_AC_soughtOrder 11 0 12 := Or.inl ⟨0, by decide +kernel, rfl, rfl⟩
theorem d_AC_soughtOrder_12 : PCi b_AC_soughtOrder 12 (-3) 14 := Or.inr (Or.inl ⟨(-3), by decide +kernel, by decide, rfl⟩)
theorem d_AC_soughtOrder_14 : DR b_AC_soughtOrder 14 (.invokevirtual 90) 3 17 := ⟨by decide +kernel, rfl⟩
theorem d_AC_soughtOrder_17 : DR b_AC_soughtOrder 17 (.ireturn) 1 18 := ⟨by decide +kernel, rfl⟩
theorem d_AC_soughtOrder_18 : PLi b_AC_soughtOrder 18 1 19 := Or.inl ⟨1, by decide +kernel, rfl, rfl⟩
theorem d_AC_soughtOrder_19 : PCi b_AC_soughtOrder 19 (-1) 20 := Or.inl ⟨(-1), by decide +kernel, by decide, rfl⟩
theorem d_AC_soughtOrder_20 : DJ b_AC_soughtOrder 20 (.if_icmp .ge) 23 30 := ⟨10, by decide +kernel, rfl, by decide⟩
theorem d_AC_soughtOrder_23 : PLa b_AC_soughtOrder 23 0 24 := Or.inl ⟨0, by decide +kernel, rfl, rfl⟩
theorem d_AC_soughtOrder_24 : PCi b_AC_soughtOrder 24 (-4) 26 := Or.inr (Or.inl ⟨(-4), by decide +kernel, by decide, rfl⟩)
theorem d_AC_soughtOrder_26 : DR b_AC_soughtOrder 26 (.invokevirtual 90) 3 29 := ⟨by decide +kernel, rfl⟩
theorem d_AC_soughtOrder_29 : DR b_AC_soughtOrder 29 (.ireturn) 1 30 := ⟨by decide +kernel, rfl⟩
theorem d_AC_soughtOrder_30 : DR b_AC_soughtOrder 30 (.ldc 255) 2 32 := ⟨by decide +kernel, rfl⟩
theorem d_AC_soughtOrder_32 : PSi b_AC_soughtOrder 32 3 33 := Or.inl ⟨3, by decide +kernel, rfl, rfl⟩
theorem d_AC_soughtOrder_33 : PLa b_AC_soughtOrder 33 0 34 := Or.inl ⟨0, by decide +kernel, rfl, rfl⟩
theorem d_AC_soughtOrder_34 : DR b_AC_soughtOrder 34 (.getfield 39) 3 37 := ⟨by decide +kernel, rfl⟩
theorem d_AC_soughtOrder_37 : PLa b_AC_soughtOrder 37 0 38 := Or.inl ⟨0, by decide +kernel, rfl, rfl⟩
theorem d_AC_soughtOrder_38 : DR b_AC_soughtOrder 38 (.getfield 10) 3 41 := ⟨by decide +kernel, rfl⟩
theorem d_AC_soughtOrder_41 : DR b_AC_soughtOrder 41 (.invokevirtual 219) 3 44 := ⟨by decide +kernel, rfl⟩
theorem d_AC_soughtOrder_44 : PLa b_AC_soughtOrder 44 0 45 := Or.inl ⟨0, by decide +kernel, rfl, rfl⟩
theorem d_AC_soughtOrder_45 : DR b_AC_soughtOrder 45 (.getfield 73) 3 48 := ⟨by decide +kernel, rfl⟩
theorem d_AC_soughtOrder_48 : PLa b_AC_soughtOrder 48 0 49 := Or.inl ⟨0, by decide +kernel, rfl, rfl⟩
theorem d_AC_soughtOrder_49 : DR b_AC_soughtOrder 49 (.getfield 10) 3 52 := ⟨by decide +kernel, rfl⟩
theorem d_AC_soughtOrder_52 : DR b_AC_soughtOrder 52 (.getfield 164) 3 55 := ⟨by decide +kernel, rfl⟩
theorem d_AC_soughtOrder_55 : DR b_AC_soughtOrder 55 (.invokevirtual 350) 3 58 := ⟨by decide +kernel, rfl⟩
theorem d_AC_soughtOrder_58 : PCi b_AC_soughtOrder 58 0 59 := Or.inl ⟨0, by decide +kernel, by decide, rfl⟩
theorem d_AC_soughtOrder_59 : PSi b_AC_soughtOrder 59 4 61 := Or.inr ⟨by decide +kernel, rfl⟩
theorem d_AC_soughtOrder_61 : PLi b_AC_soughtOrder 61 4 63 := Or.inr ⟨by decide +kernel, rfl⟩
theorem d_AC_soughtOrder_63 : PCi b_AC_soughtOrder 63 120 65 := Or.inr (Or.inl ⟨120, by decide +kernel, by decide, rfl⟩)
theorem d_AC_soughtOrder_65 : DJ b_AC_soughtOrder 65 (.if_icmp .ge) 68 151 := ⟨86, by decide +kernel, rfl, by decide⟩
theorem d_AC_soughtOrder_68 : PLa b_AC_soughtOrder 68 0 69 := Or.inl ⟨0, by decide +kernel, rfl, rfl⟩
theorem d_AC_soughtOrder_69 : DR b_AC_soughtOrder 69 (.getfield 53) 3 72 := ⟨by decide +kernel, rfl⟩
theorem d_AC_soughtOrder_72 : PLa b_AC_soughtOrder 72 0 73 := Or.inl ⟨0, by decide +kernel, rfl, rfl⟩
theorem d_AC_soughtOrder_73 : DR b_AC_soughtOrder 73 (.getfield 39) 3 76 := ⟨by decide +kernel, rfl⟩
theorem d_AC_soughtOrder_76 : PLa b_AC_soughtOrder 76 0 77 := Or.inl ⟨0, by decide +kernel, rfl, rfl⟩
theorem d_AC_soughtOrder_77 : DR b_AC_soughtOrder 77 (.getfield 73) 3 80 := ⟨by decide +kernel, rfl⟩
theorem d_AC_soughtOrder_80 : DR b_AC_soughtOrder 80 (.getfield 353) 3 83 := ⟨by decide +kernel, rfl⟩
theorem d_AC_soughtOrder_83 : PLa b_AC_soughtOrder 83 0 84 := Or.inl ⟨0, by decide +kernel, rfl, rfl⟩
theorem d_AC_soughtOrder_84 : DR b_AC_soughtOrder 84 (.getfield 10) 3 87 := ⟨by decide +kernel, rfl⟩
theorem d_AC_soughtOrder_87 : DR b_AC_soughtOrder 87 (.invokevirtual 302) 3 90 := ⟨by decide +kernel, rfl⟩
theorem d_AC_soughtOrder_90 : DR b_AC_soughtOrder 90 (.invokevirtual 305) 3 93 := ⟨by decide +kernel, rfl⟩
theorem d_AC_soughtOrder_93 : PLi b_AC_soughtOrder 93 2 94 := Or.inl ⟨2, by decide +kernel, rfl, rfl⟩
theorem d_AC_soughtOrder_94 : DJ b_AC_soughtOrder 94 (.ifCond .eq) 97 107 := ⟨13, by decide +kernel, rfl, by decide⟩
theorem d_AC_soughtOrder_97 : PLa b_AC_soughtOrder 97 0 98 := Or.inl ⟨0, by decide +kernel, rfl, rfl⟩
theorem d_AC_soughtOrder_98 : DR b_AC_soughtOrder 98 (.getfield 53) 3 101 := ⟨by decide +kernel, rfl⟩
theorem d_AC_soughtOrder_101 : DR b_AC_soughtOrder 101 (.invokevirtual 387) 3 104 := ⟨by decide +kernel, rfl⟩
theorem d_AC_soughtOrder_104 : DJ b_AC_soughtOrder 104 .goto 107 114 := ⟨10, by decide +kernel, rfl, by decide⟩
theorem d_AC_soughtOrder_107 : PLa b_AC_soughtOrder 107 0 108 := Or.inl ⟨0, by decide +kernel, rfl, rfl⟩
theorem d_AC_soughtOrder_108 : DR b_AC_soughtOrder 108 (.getfield 53) 3 111 := ⟨by decide +kernel, rfl⟩
theorem d_AC_soughtOrder_111 : DR b_AC_soughtOrder 111 (.getfield 213) 3 114 := ⟨by decide +kernel, rfl⟩
theorem d_AC_soughtOrder_114 : PSi b_AC_soughtOrder 114 5 116 := Or.inr ⟨by decide +kernel, rfl⟩
theorem d_AC_soughtOrder_116 : PLi b_AC_soughtOrder 116 5 118 := Or.inr ⟨by decide +kernel, rfl⟩
theorem d_AC_soughtOrder_118 : PLi b_AC_soughtOrder 118 3 119 := Or.inl ⟨3, by decide +kernel, rfl, rfl⟩
theorem d_AC_soughtOrder_119 : DJ b_AC_soughtOrder 119 (.if_icmp .ge) 122 132 := ⟨13, by decide +kernel, rfl, by decide⟩
theorem d_AC_soughtOrder_122 : PLi b_AC_soughtOrder 122 5 124 := Or.inr ⟨by decide +kernel, rfl⟩
theorem d_AC_soughtOrder_124 : PSi b_AC_soughtOrder 124 3 125 := Or.inl ⟨3, by decide +kernel, rfl, rfl⟩
theorem d_AC_soughtOrder_125 : PLa b_AC_soughtOrder 125 0 126 := Or.inl ⟨0, by decide +kernel, rfl, rfl⟩
theorem d_AC_soughtOrder_126 : DR b_AC_soughtOrder 126 (.getfield 73) 3 129 := ⟨by decide +kernel, rfl⟩
theorem d_AC_soughtOrder_129 : DR b_AC_soughtOrder 129 (.invokevirtual 354) 3 132 := ⟨by decide +kernel, rfl⟩
theorem d_AC_soughtOrder_132 : PLa b_AC_soughtOrder 132 0 133 := Or.inl ⟨0, by decide +kernel, rfl, rfl⟩
theorem d_AC_soughtOrder_133 : DR b_AC_soughtOrder 133 (.getfield 73) 3 136 := ⟨by decide +kernel, rfl⟩
theorem d_AC_soughtOrder_136 : DR b_AC_soughtOrder 136 (.invokevirtual 357) 3 139 := ⟨by decide +kernel, rfl⟩
theorem d_AC_soughtOrder_139 : DJ b_AC_soughtOrder 139 (.ifCond .ne) 142 145 := ⟨6, by decide +kernel, rfl, by decide⟩
theorem d_AC_soughtOrder_142 : DJ b_AC_soughtOrder 142 .goto 145 151 := ⟨9, by decide +kernel, rfl, by decide⟩
theorem d_AC_soughtOrder_145 : DR b_AC_soughtOrder 145 (.iinc 4 1) 3 148 := ⟨by decide +kernel, rfl⟩
theorem d_AC_soughtOrder_148 : DJ b_AC_soughtOrder 148 .goto 151 61 := ⟨-87, by decide +kernel, rfl, by decide⟩
theorem d_AC_soughtOrder_151 : PLi b_AC_soughtOrder 151 1 152 := Or.inl ⟨1, by decide +kernel, rfl, rfl⟩
theorem d_AC_soughtOrder_152 : PCi b_AC_soughtOrder 152 (-1) 153 := Or.inl ⟨(-1), by decide +kernel, by decide, rfl⟩
theorem d_AC_soughtOrder_153 : DJ b_AC_soughtOrder 153 (.if_icmp .ne) 156 160 := ⟨7, by decide +kernel, rfl, by decide⟩
theorem d_AC_soughtOrder_156 : PLi b_AC_soughtOrder 156 3 157 := Or.inl ⟨3, by decide +kernel, rfl, rfl⟩
theorem d_AC_soughtOrder_157 : DJ b_AC_soughtOrder 157 .goto 160 168 := ⟨11, by decide +kernel, rfl, by decide⟩
theorem d_AC_soughtOrder_160 : PLa b_AC_soughtOrder 160 0 161 := Or.inl ⟨0, by decide +kernel, rfl, rfl⟩
theorem d_AC_soughtOrder_161 : DR b_AC_soughtOrder 161 (.getfield 73) 3 164 := ⟨by decide +kernel, rfl⟩
theorem d_AC_soughtOrder_164 : PLi b_AC_soughtOrder 164 1 165 := Or.inl ⟨1, by decide +kernel, rfl, rfl⟩
theorem d_AC_soughtOrder_165 : DR b_AC_soughtOrder 165 (.invokevirtual 360) 3 168 := ⟨by decide +kernel, rfl⟩
theorem d_AC_soughtOrder_168 : DR b_AC_soughtOrder 168 (.ireturn) 1 169 := ⟨by decide +kernel, rfl⟩
set_option maxRecDepth 20000 in
theorem B_AC_soughtOrder_151 {G : MCx} (hC : C0 G "AccusedChoose" b_AC_soughtOrder 6 5) (v1 : Int32) (v3 : Int32) (s : St) : VO G (RI G b_AC_soughtOrder) (F_AC_soughtOrder_151 v1 v3 s) 151 [(0, .ref (gad G 0)), (1, .int v1), (3, .int v3)] [] s := by
  unfold F_AC_soughtOrder_151
  refine VO_iload hC d_AC_soughtOrder_151 1 rfl ?_
  refine VO_const hC d_AC_soughtOrder_152 ?_
  refine VO_icmp_ne hC d_AC_soughtOrder_153 (fun _ => ?_) (fun _ => ?_)
  · refine VO_iload hC d_AC_soughtOrder_156 2 rfl ?_
    refine VO_goto hC d_AC_soughtOrder_157 ?_
    exact VO_ireturn d_AC_soughtOrder_168
  · refine VO_aload hC d_AC_soughtOrder_160 0 rfl ?_
    refine VO_getr (r := 51) hC fl_AC_73 sh_AC rfl d_AC_soughtOrder_161 ?_
    refine VO_iload hC d_AC_soughtOrder_164 1 rfl ?_
    refine VO_callVI hC [.int v1] [] ml_AC_360 d_AC_soughtOrder_165 yv_OR_keptAt sh_OR rfl rfl (fun o h => M_OR_keptAt hC.inj h) (by decide) rfl rfl (Nat.le_of_ble_eq_true rfl) (fun o3 => ?_)
    exact VO_ireturn d_AC_soughtOrder_168
set_option maxRecDepth 20000 in
theorem B_AC_soughtOrder_132 {G : MCx} (hC : C0 G "AccusedChoose" b_AC_soughtOrder 6 5) {v1 : Int32} {v2 : Int32} (K61 : Int32 × Int32 × St → Option (Int32 × St)) (hK61 : ∀ (w3 : Int32) (w4 : Int32) (s : St), VO G (RI G b_AC_soughtOrder) (K61 (w3, w4, s)) 61 [(0, .ref (gad G 0)), (1, .int v1), (2, .int v2), (3, .int w3), (4, .int w4)] [] s) (v3 : Int32) (v4 : Int32) (s : St) : VO G (RI G b_AC_soughtOrder) (F_AC_soughtOrder_132 K61 v1 v2 v3 v4 s) 132 [(0, .ref (gad G 0)), (1, .int v1), (2, .int v2), (3, .int v3), (4, .int v4)] [] s := by
  unfold F_AC_soughtOrder_132
  refine VO_aload hC d_AC_soughtOrder_132 0 rfl ?_
  refine VO_getr (r := 51) hC fl_AC_73 sh_AC rfl d_AC_soughtOrder_133 ?_
  refine VO_callVI hC [] [] ml_AC_357 d_AC_soughtOrder_136 yv_OR_step sh_OR rfl rfl (fun o h => M_OR_step hC.inj h) (by decide) rfl rfl (Nat.le_of_ble_eq_true rfl) (fun o6 => ?_)
  refine VO_if_ne hC d_AC_soughtOrder_139 (fun _ => ?_) (fun _ => ?_)
  · refine VO_goto hC d_AC_soughtOrder_142 ?_
    exact VO_sub [0, 1, 3] rfl (B_AC_soughtOrder_151 hC v1 v3 o6.2)
  · refine VO_iinc hC d_AC_soughtOrder_145 4 rfl (by decide : Int32.ofInt 1 = 1) [(0, .ref (gad G 0)), (1, .int v1), (2, .int v2), (3, .int v3)] rfl (by decide) ?_
    refine VO_goto hC d_AC_soughtOrder_148 ?_
    exact VO_sub [1, 2, 3, 4, 0] rfl (hK61 v3 (v4 + 1) o6.2)
set_option maxRecDepth 20000 in
theorem B_AC_soughtOrder_114 {G : MCx} (hC : C0 G "AccusedChoose" b_AC_soughtOrder 6 5) {v1 : Int32} {v2 : Int32} (K61 : Int32 × Int32 × St → Option (Int32 × St)) (hK61 : ∀ (w3 : Int32) (w4 : Int32) (s : St), VO G (RI G b_AC_soughtOrder) (K61 (w3, w4, s)) 61 [(0, .ref (gad G 0)), (1, .int v1), (2, .int v2), (3, .int w3), (4, .int w4)] [] s) (v3 : Int32) (v4 : Int32) (z0 : Int32) (s : St) : VO G (RI G b_AC_soughtOrder) (F_AC_soughtOrder_114 K61 v1 v2 v3 v4 z0 s) 114 [(0, .ref (gad G 0)), (1, .int v1), (2, .int v2), (3, .int v3), (4, .int v4)] [.int z0] s := by
  unfold F_AC_soughtOrder_114
  refine VO_istore hC d_AC_soughtOrder_114 [(0, .ref (gad G 0)), (1, .int v1), (2, .int v2), (3, .int v3), (4, .int v4)] rfl (by decide) ?_
  refine VO_iload hC d_AC_soughtOrder_116 0 rfl ?_
  refine VO_iload hC d_AC_soughtOrder_118 4 rfl ?_
  refine VO_icmp_ge hC d_AC_soughtOrder_119 (fun _ => ?_) (fun _ => ?_)
  · exact VO_sub [1, 2, 3, 4, 5] rfl (B_AC_soughtOrder_132 hC K61 hK61 v3 v4 s)
  · refine VO_iload hC d_AC_soughtOrder_122 0 rfl ?_
    refine VO_istore hC d_AC_soughtOrder_124 [(5, .int z0), (0, .ref (gad G 0)), (1, .int v1), (2, .int v2), (4, .int v4)] rfl (by decide) ?_
    refine VO_aload hC d_AC_soughtOrder_125 2 rfl ?_
    refine VO_getr (r := 51) hC fl_AC_73 sh_AC rfl d_AC_soughtOrder_126 ?_
    refine VO_callVV hC [] [] ml_AC_354 d_AC_soughtOrder_129 yv_OR_keep sh_OR rfl rfl (fun o h => M_OR_keep hC.inj h) (by decide) rfl rfl (Nat.le_of_ble_eq_true rfl) (fun s7 => ?_)
    exact VO_sub [2, 3, 4, 0, 5] rfl (B_AC_soughtOrder_132 hC K61 hK61 z0 v4 s7)
set_option maxRecDepth 20000 in
theorem BH_AC_soughtOrder_61 {G : MCx} (hC : C0 G "AccusedChoose" b_AC_soughtOrder 6 5) {v1 : Int32} {v2 : Int32} (K61 : Int32 × Int32 × St → Option (Int32 × St)) (hK61 : ∀ (w3 : Int32) (w4 : Int32) (s : St), VO G (RI G b_AC_soughtOrder) (K61 (w3, w4, s)) 61 [(0, .ref (gad G 0)), (1, .int v1), (2, .int v2), (3, .int w3), (4, .int w4)] [] s) (v3 : Int32) (v4 : Int32) (s : St) : VO G (RI G b_AC_soughtOrder) (H_AC_soughtOrder_61 v1 v2 K61 v3 v4 s) 61 [(0, .ref (gad G 0)), (1, .int v1), (2, .int v2), (3, .int v3), (4, .int v4)] [] s := by
  unfold H_AC_soughtOrder_61
  refine VO_iload hC d_AC_soughtOrder_61 4 rfl ?_
  refine VO_const hC d_AC_soughtOrder_63 ?_
  refine VO_icmp_ge hC d_AC_soughtOrder_65 (fun _ => ?_) (fun _ => ?_)
  · exact VO_sub [0, 1, 3] rfl (B_AC_soughtOrder_151 hC v1 v3 s)
  · refine VO_aload hC d_AC_soughtOrder_68 0 rfl ?_
    refine VO_getr (r := 43) hC fl_AC_53 sh_AC rfl d_AC_soughtOrder_69 ?_
    refine VO_aload hC d_AC_soughtOrder_72 0 rfl ?_
    refine VO_getr (r := 36) hC fl_AC_39 sh_AC rfl d_AC_soughtOrder_73 ?_
    refine VO_aload hC d_AC_soughtOrder_76 0 rfl ?_
    refine VO_getr (r := 51) hC fl_AC_73 sh_AC rfl d_AC_soughtOrder_77 ?_
    refine VO_getr (r := 52) hC fl_AC_353 sh_OR rfl d_AC_soughtOrder_80 ?_
    refine VO_aload hC d_AC_soughtOrder_83 0 rfl ?_
    refine VO_getr (r := 1) hC fl_AC_10 sh_AC rfl d_AC_soughtOrder_84 ?_
    refine VO_callVI hC [] [.ref (gad G 52), .ref (gad G 36), .ref (gad G 43)] ml_AC_302 d_AC_soughtOrder_87 yv_NI_allDeeds (sh_NI isNI_1) rfl rfl (fun o h => M_NI_allDeeds hC.inj isNI_1 h) (by decide) rfl rfl (Nat.le_of_ble_eq_true rfl) (fun o4 => ?_)
    refine VO_callVV hC [.ref (gad G 36), .ref (gad G 52), .int o4.1] [] ml_AC_305 d_AC_soughtOrder_90 yv_MO_hold (sh_MO isMO_43) rfl rfl (fun o h => M_MO_hold hC.inj isMO_43 isPR_36 ia_52 h) (by decide) rfl rfl (Nat.le_of_ble_eq_true rfl) (fun s5 => ?_)
    refine VO_iload hC d_AC_soughtOrder_93 2 rfl ?_
    refine VO_if_eq hC d_AC_soughtOrder_94 (fun _ => ?_) (fun _ => ?_)
    · refine VO_aload hC d_AC_soughtOrder_107 0 rfl ?_
      refine VO_getr (r := 43) hC fl_AC_53 sh_AC rfl d_AC_soughtOrder_108 ?_
      refine VO_geti hC fl_AC_213 (sh_MO isMO_43) rfl d_AC_soughtOrder_111 ?_
      exact (B_AC_soughtOrder_114 hC K61 hK61 v3 v4 (rd s5 43 4) s5)
    · refine VO_aload hC d_AC_soughtOrder_97 0 rfl ?_
      refine VO_getr (r := 43) hC fl_AC_53 sh_AC rfl d_AC_soughtOrder_98 ?_
      refine VO_callVI hC [] [] ml_AC_387 d_AC_soughtOrder_101 yv_MO_most (sh_MO isMO_43) rfl rfl (fun o h => M_MO_most hC.inj isMO_43 h) (by decide) rfl rfl (Nat.le_of_ble_eq_true rfl) (fun o8 => ?_)
      refine VO_goto hC d_AC_soughtOrder_104 ?_
      exact (B_AC_soughtOrder_114 hC K61 hK61 v3 v4 o8.1 o8.2)
set_option maxRecDepth 20000 in
theorem B_AC_soughtOrder_61 {G : MCx} (hC : C0 G "AccusedChoose" b_AC_soughtOrder 6 5) (v1 : Int32) (v2 : Int32) (v3 : Int32) (v4 : Int32) (s : St) : VO G (RI G b_AC_soughtOrder) (F_AC_soughtOrder_61 v1 v2 v3 v4 s) 61 [(0, .ref (gad G 0)), (1, .int v1), (2, .int v2), (3, .int v3), (4, .int v4)] [] s := by
  exact VO_fix (G_AC_soughtOrder_61 v1 v2) 61 (fun q => [(0, .ref (gad G 0)), (1, .int v1), (2, .int v2), (3, .int q.1), (4, .int q.2.1)]) (fun q => q.2.2) (fun K hK q => BH_AC_soughtOrder_61 hC K (fun w3 w4 s => hK (w3, w4, s)) q.1 q.2.1 q.2.2) FUEL (v3, v4, s)
set_option maxRecDepth 20000 in
theorem B_AC_soughtOrder {G : MCx} (hC : C0 G "AccusedChoose" b_AC_soughtOrder 6 5) (a1 : Int32) (a2 : Int32) (s : St) : VO G (RI G b_AC_soughtOrder) (F_AC_soughtOrder a1 a2 s) 0 [(0, .ref (gad G 0)), (1, .int a1), (2, .int a2)] [] s := by
  unfold F_AC_soughtOrder
  refine VO_aload hC d_AC_soughtOrder_0 0 rfl ?_
  refine VO_getr (r := 1) hC fl_AC_10 sh_AC rfl d_AC_soughtOrder_1 ?_
  refine VO_geti hC fl_AC_164 (sh_NI isNI_1) rfl d_AC_soughtOrder_4 ?_
  refine VO_const hC d_AC_soughtOrder_7 ?_
  refine VO_icmp_le hC d_AC_soughtOrder_8 (fun _ => ?_) (fun _ => ?_)
  · refine VO_iload hC d_AC_soughtOrder_18 1 rfl ?_
    refine VO_const hC d_AC_soughtOrder_19 ?_
    refine VO_icmp_ge hC d_AC_soughtOrder_20 (fun _ => ?_) (fun _ => ?_)
    · refine VO_ldc hC k_AC_255 d_AC_soughtOrder_30 ?_
      refine VO_istore hC d_AC_soughtOrder_32 [(0, .ref (gad G 0)), (1, .int a1), (2, .int a2)] rfl (by decide) ?_
      refine VO_aload hC d_AC_soughtOrder_33 1 rfl ?_
      refine VO_getr (r := 36) hC fl_AC_39 sh_AC rfl d_AC_soughtOrder_34 ?_
      refine VO_aload hC d_AC_soughtOrder_37 1 rfl ?_
      refine VO_getr (r := 1) hC fl_AC_10 sh_AC rfl d_AC_soughtOrder_38 ?_
      refine VO_callVV hC [.ref (gad G 1)] [] ml_AC_219 d_AC_soughtOrder_41 yv_PR_fill (sh_PR isPR_36) rfl rfl (fun o h => M_PR_fill hC.inj isPR_36 isNI_1 h) (by decide) rfl rfl (Nat.le_of_ble_eq_true rfl) (fun s1 => ?_)
      refine VO_aload hC d_AC_soughtOrder_44 1 rfl ?_
      refine VO_getr (r := 51) hC fl_AC_73 sh_AC rfl d_AC_soughtOrder_45 ?_
      refine VO_aload hC d_AC_soughtOrder_48 1 rfl ?_
      refine VO_getr (r := 1) hC fl_AC_10 sh_AC rfl d_AC_soughtOrder_49 ?_
      refine VO_geti hC fl_AC_164 (sh_NI isNI_1) rfl d_AC_soughtOrder_52 ?_
      refine VO_callVV hC [.int (rd s1 1 1)] [] ml_AC_350 d_AC_soughtOrder_55 yv_OR_begin sh_OR rfl rfl (fun o h => M_OR_begin hC.inj h) (by decide) rfl rfl (Nat.le_of_ble_eq_true rfl) (fun s2 => ?_)
      refine VO_const hC d_AC_soughtOrder_58 ?_
      refine VO_istore hC d_AC_soughtOrder_59 [(3, .int (1000000 : Int32)), (0, .ref (gad G 0)), (1, .int a1), (2, .int a2)] rfl (by decide) ?_
      exact VO_sub [2, 3, 4, 1, 0] rfl (B_AC_soughtOrder_61 hC a1 a2 (1000000 : Int32) (0 : Int32) s2)
    · refine VO_aload hC d_AC_soughtOrder_23 0 rfl ?_
      refine VO_const hC d_AC_soughtOrder_24 ?_
      refine VO_callVI hC [.int (-4 : Int32)] [] ml_AC_90 d_AC_soughtOrder_26 yv_AC_refuse sh_AC rfl rfl (fun o h => M_AC_refuse hC.inj h) (by decide) rfl rfl (Nat.le_of_ble_eq_true rfl) (fun o9 => ?_)
      exact VO_ireturn d_AC_soughtOrder_29
  · refine VO_aload hC d_AC_soughtOrder_11 0 rfl ?_
    refine VO_const hC d_AC_soughtOrder_12 ?_
    refine VO_callVI hC [.int (-3 : Int32)] [] ml_AC_90 d_AC_soughtOrder_14 yv_AC_refuse sh_AC rfl rfl (fun o h => M_AC_refuse hC.inj h) (by decide) rfl rfl (Nat.le_of_ble_eq_true rfl) (fun o10 => ?_)
    exact VO_ireturn d_AC_soughtOrder_17
set_option maxRecDepth 20000 in
theorem M_AC_soughtOrder {l : Launch} {D : va_G} {ad : Nat → Nat} {cI cL : ClassId} (hj : Inj ad) {a1 : Int32} {a2 : Int32} {s : St} {o : Int32 × St} (h : F_AC_soughtOrder a1 a2 s = some o) : Cn l D ad cI cL y_AC_soughtOrder b_AC_soughtOrder 6 (some .int) 5 [.ref (ad 0), .int a1, .int a2] s (some (.int o.1)) o.2 := by
  refine Cn_ofI hj (plainFor_of_name (by decide)) (Nat.le_of_ble_eq_true rfl) [(0, .ref (ad 0)), (1, .int a1), (2, .int a2)] rfl (fun G hC e1 e2 e3 e4 e5 hR => ?_)
  subst e1; subst e2; subst e3; subst e4; subst e5
  exact B_AC_soughtOrder hC a1 a2 s o h hR
theorem d_AC_bestOrder_0 : PLa b_AC_bestOrder 0 0 1 := Or.inl ⟨0, by decide +kernel, rfl, rfl⟩
theorem d_AC_bestOrder_1 : PLi b_AC_bestOrder 1 1 2 := Or.inl ⟨1, by decide +kernel, rfl, rfl⟩
theorem d_AC_bestOrder_2 : PCi b_AC_bestOrder 2 0 3 := Or.inl ⟨0, by decide +kernel, by decide, rfl⟩
theorem d_AC_bestOrder_3 : DR b_AC_bestOrder 3 (.invokevirtual 265) 3 6 := ⟨by decide +kernel, rfl⟩
theorem d_AC_bestOrder_6 : DR b_AC_bestOrder 6 (.ireturn) 1 7 := ⟨by decide +kernel, rfl⟩
set_option maxRecDepth 20000 in
theorem B_AC_bestOrder {G : MCx} (hC : C0 G "AccusedChoose" b_AC_bestOrder 2 6) (a1 : Int32) (s : St) : VO G (RI G b_AC_bestOrder) (F_AC_bestOrder a1 s) 0 [(0, .ref (gad G 0)), (1, .int a1)] [] s := by
  unfold F_AC_bestOrder
  refine VO_aload hC d_AC_bestOrder_0 0 rfl ?_
  refine VO_iload hC d_AC_bestOrder_1 1 rfl ?_
  refine VO_const hC d_AC_bestOrder_2 ?_
  refine VO_callVI hC [.int a1, .int (0 : Int32)] [] ml_AC_265 d_AC_bestOrder_3 yv_AC_soughtOrder sh_AC rfl rfl (fun o h => M_AC_soughtOrder hC.inj h) (by decide) rfl rfl (Nat.le_of_ble_eq_true rfl) (fun o1 => ?_)
  exact VO_ireturn d_AC_bestOrder_6
set_option maxRecDepth 20000 in
theorem M_AC_bestOrder {l : Launch} {D : va_G} {ad : Nat → Nat} {cI cL : ClassId} (hj : Inj ad) {a1 : Int32} {s : St} {o : Int32 × St} (h : F_AC_bestOrder a1 s = some o) : Cn l D ad cI cL y_AC_bestOrder b_AC_bestOrder 2 (some .int) 6 [.ref (ad 0), .int a1] s (some (.int o.1)) o.2 := by
  refine Cn_ofI hj (plainFor_of_name (by decide)) (Nat.le_of_ble_eq_true rfl) [(0, .ref (ad 0)), (1, .int a1)] rfl (fun G hC e1 e2 e3 e4 e5 hR => ?_)
  subst e1; subst e2; subst e3; subst e4; subst e5
  exact B_AC_bestOrder hC a1 s o h hR
theorem d_AC_tried_0 : PLa b_AC_tried 0 0 1 := Or.inl ⟨0, by decide +kernel, rfl, rfl⟩
theorem d_AC_tried_1 : DR b_AC_tried 1 (.getfield 43) 3 4 := ⟨by decide +kernel, rfl⟩
theorem d_AC_tried_4 : PLa b_AC_tried 4 0 5 := Or.inl ⟨0, by decide +kernel, rfl, rfl⟩
theorem d_AC_tried_5 : DR b_AC_tried 5 (.getfield 19) 3 8 := ⟨by decide +kernel, rfl⟩
theorem d_AC_tried_8 : DR b_AC_tried 8 (.invokevirtual 219) 3 11 := ⟨by decide +kernel, rfl⟩
theorem d_AC_tried_11 : PLa b_AC_tried 11 0 12 := Or.inl ⟨0, by decide +kernel, rfl, rfl⟩
theorem d_AC_tried_12 : DR b_AC_tried 12 (.getfield 53) 3 15 := ⟨by decide +kernel, rfl⟩
theorem d_AC_tried_15 : PLa b_AC_tried 15 0 16 := Or.inl ⟨0, by decide +kernel, rfl, rfl⟩
theorem d_AC_tried_16 : DR b_AC_tried 16 (.getfield 43) 3 19 := ⟨by decide +kernel, rfl⟩
theorem d_AC_tried_19 : PLa b_AC_tried 19 0 20 := Or.inl ⟨0, by decide +kernel, rfl, rfl⟩
theorem d_AC_tried_20 : DR b_AC_tried 20 (.getfield 19) 3 23 := ⟨by decide +kernel, rfl⟩
theorem d_AC_tried_23 : DR b_AC_tried 23 (.getfield 178) 3 26 := ⟨by decide +kernel, rfl⟩
theorem d_AC_tried_26 : PLa b_AC_tried 26 0 27 := Or.inl ⟨0, by decide +kernel, rfl, rfl⟩
theorem d_AC_tried_27 : DR b_AC_tried 27 (.getfield 19) 3 30 := ⟨by decide +kernel, rfl⟩
theorem d_AC_tried_30 : DR b_AC_tried 30 (.invokevirtual 302) 3 33 := ⟨by decide +kernel, rfl⟩
theorem d_AC_tried_33 : DR b_AC_tried 33 (.invokevirtual 305) 3 36 := ⟨by decide +kernel, rfl⟩
theorem d_AC_tried_36 : PLa b_AC_tried 36 0 37 := Or.inl ⟨0, by decide +kernel, rfl, rfl⟩
theorem d_AC_tried_37 : DR b_AC_tried 37 (.getfield 53) 3 40 := ⟨by decide +kernel, rfl⟩
theorem d_AC_tried_40 : DR b_AC_tried 40 (.getfield 213) 3 43 := ⟨by decide +kernel, rfl⟩
theorem d_AC_tried_43 : DR b_AC_tried 43 (.ireturn) 1 44 := ⟨by decide +kernel, rfl⟩
set_option maxRecDepth 20000 in
theorem B_AC_tried {G : MCx} (hC : C0 G "AccusedChoose" b_AC_tried 1 5) (s : St) : VO G (RI G b_AC_tried) (F_AC_tried s) 0 [(0, .ref (gad G 0))] [] s := by
  unfold F_AC_tried
  refine VO_aload hC d_AC_tried_0 0 rfl ?_
  refine VO_getr (r := 38) hC fl_AC_43 sh_AC rfl d_AC_tried_1 ?_
  refine VO_aload hC d_AC_tried_4 0 rfl ?_
  refine VO_getr (r := 19) hC fl_AC_19 sh_AC rfl d_AC_tried_5 ?_
  refine VO_callVV hC [.ref (gad G 19)] [] ml_AC_219 d_AC_tried_8 yv_PR_fill (sh_PR isPR_38) rfl rfl (fun o h => M_PR_fill hC.inj isPR_38 isNI_19 h) (by decide) rfl rfl (Nat.le_of_ble_eq_true rfl) (fun s1 => ?_)
  refine VO_aload hC d_AC_tried_11 0 rfl ?_
  refine VO_getr (r := 43) hC fl_AC_53 sh_AC rfl d_AC_tried_12 ?_
  refine VO_aload hC d_AC_tried_15 0 rfl ?_
  refine VO_getr (r := 38) hC fl_AC_43 sh_AC rfl d_AC_tried_16 ?_
  refine VO_aload hC d_AC_tried_19 0 rfl ?_
  refine VO_getr (r := 19) hC fl_AC_19 sh_AC rfl d_AC_tried_20 ?_
  refine VO_getr (r := 27) hC fl_AC_178 (sh_NI isNI_19) rfl d_AC_tried_23 ?_
  refine VO_aload hC d_AC_tried_26 0 rfl ?_
  refine VO_getr (r := 19) hC fl_AC_19 sh_AC rfl d_AC_tried_27 ?_
  refine VO_callVI hC [] [.ref (gad G 27), .ref (gad G 38), .ref (gad G 43)] ml_AC_302 d_AC_tried_30 yv_NI_allDeeds (sh_NI isNI_19) rfl rfl (fun o h => M_NI_allDeeds hC.inj isNI_19 h) (by decide) rfl rfl (Nat.le_of_ble_eq_true rfl) (fun o2 => ?_)
  refine VO_callVV hC [.ref (gad G 38), .ref (gad G 27), .int o2.1] [] ml_AC_305 d_AC_tried_33 yv_MO_hold (sh_MO isMO_43) rfl rfl (fun o h => M_MO_hold hC.inj isMO_43 isPR_38 ia_27 h) (by decide) rfl rfl (Nat.le_of_ble_eq_true rfl) (fun s3 => ?_)
  refine VO_aload hC d_AC_tried_36 0 rfl ?_
  refine VO_getr (r := 43) hC fl_AC_53 sh_AC rfl d_AC_tried_37 ?_
  refine VO_geti hC fl_AC_213 (sh_MO isMO_43) rfl d_AC_tried_40 ?_
  exact VO_ireturn d_AC_tried_43
set_option maxRecDepth 20000 in
theorem M_AC_tried {l : Launch} {D : va_G} {ad : Nat → Nat} {cI cL : ClassId} (hj : Inj ad) {s : St} {o : Int32 × St} (h : F_AC_tried s = some o) : Cn l D ad cI cL y_AC_tried b_AC_tried 1 (some .int) 5 [.ref (ad 0)] s (some (.int o.1)) o.2 := by
  refine Cn_ofI hj (plainFor_of_name (by decide)) (Nat.le_of_ble_eq_true rfl) [(0, .ref (ad 0))] rfl (fun G hC e1 e2 e3 e4 e5 hR => ?_)
  subst e1; subst e2; subst e3; subst e4; subst e5
  exact B_AC_tried hC s o h hR
theorem d_AC_putIn_0 : PLi b_AC_putIn 0 1 1 := Or.inl ⟨1, by decide +kernel, rfl, rfl⟩
theorem d_AC_putIn_1 : DJ b_AC_putIn 1 (.ifCond .ge) 4 11 := ⟨10, by decide +kernel, rfl, by decide⟩
theorem d_AC_putIn_4 : PLa b_AC_putIn 4 0 5 := Or.inl ⟨0, by decide +kernel, rfl, rfl⟩
theorem d_AC_putIn_5 : PCi b_AC_putIn 5 (-4) 7 := Or.inr (Or.inl ⟨(-4), by decide +kernel, by decide, rfl⟩)
theorem d_AC_putIn_7 : DR b_AC_putIn 7 (.invokevirtual 90) 3 10 := ⟨by decide +kernel, rfl⟩
theorem d_AC_putIn_10 : DR b_AC_putIn 10 (.ireturn) 1 11 := ⟨by decide +kernel, rfl⟩
theorem d_AC_putIn_11 : PLi b_AC_putIn 11 1 12 := Or.inl ⟨1, by decide +kernel, rfl, rfl⟩
theorem d_AC_putIn_12 : PCi b_AC_putIn 12 9 14 := Or.inr (Or.inl ⟨9, by decide +kernel, by decide, rfl⟩)
theorem d_AC_putIn_14 : DJ b_AC_putIn 14 (.if_icmp .le) 17 24 := ⟨10, by decide +kernel, rfl, by decide⟩
theorem d_AC_putIn_17 : PLa b_AC_putIn 17 0 18 := Or.inl ⟨0, by decide +kernel, rfl, rfl⟩
theorem d_AC_putIn_18 : PCi b_AC_putIn 18 (-6) 20 := Or.inr (Or.inl ⟨(-6), by decide +kernel, by decide, rfl⟩)
theorem d_AC_putIn_20 : DR b_AC_putIn 20 (.invokevirtual 90) 3 23 := ⟨by decide +kernel, rfl⟩
theorem d_AC_putIn_23 : DR b_AC_putIn 23 (.ireturn) 1 24 := ⟨by decide +kernel, rfl⟩
theorem d_AC_putIn_24 : PLi b_AC_putIn 24 2 25 := Or.inl ⟨2, by decide +kernel, rfl, rfl⟩
theorem d_AC_putIn_25 : DJ b_AC_putIn 25 (.ifCond .lt) 28 33 := ⟨8, by decide +kernel, rfl, by decide⟩
theorem d_AC_putIn_28 : PLi b_AC_putIn 28 2 29 := Or.inl ⟨2, by decide +kernel, rfl, rfl⟩
theorem d_AC_putIn_29 : PCi b_AC_putIn 29 1 30 := Or.inl ⟨1, by decide +kernel, by decide, rfl⟩
theorem d_AC_putIn_30 : DJ b_AC_putIn 30 (.if_icmp .le) 33 40 := ⟨10, by decide +kernel, rfl, by decide⟩
theorem d_AC_putIn_33 : PLa b_AC_putIn 33 0 34 := Or.inl ⟨0, by decide +kernel, rfl, rfl⟩
theorem d_AC_putIn_34 : PCi b_AC_putIn 34 (-2) 36 := Or.inr (Or.inl ⟨(-2), by decide +kernel, by decide, rfl⟩)
theorem d_AC_putIn_36 : DR b_AC_putIn 36 (.invokevirtual 90) 3 39 := ⟨by decide +kernel, rfl⟩
theorem d_AC_putIn_39 : DR b_AC_putIn 39 (.ireturn) 1 40 := ⟨by decide +kernel, rfl⟩
theorem d_AC_putIn_40 : PLa b_AC_putIn 40 0 41 := Or.inl ⟨0, by decide +kernel, rfl, rfl⟩
theorem d_AC_putIn_41 : DR b_AC_putIn 41 (.getfield 19) 3 44 := ⟨by decide +kernel, rfl⟩
theorem d_AC_putIn_44 : PLa b_AC_putIn 44 0 45 := Or.inl ⟨0, by decide +kernel, rfl, rfl⟩
theorem d_AC_putIn_45 : DR b_AC_putIn 45 (.getfield 10) 3 48 := ⟨by decide +kernel, rfl⟩
theorem d_AC_putIn_48 : DR b_AC_putIn 48 (.invokevirtual 101) 3 51 := ⟨by decide +kernel, rfl⟩
theorem d_AC_putIn_51 : PLa b_AC_putIn 51 0 52 := Or.inl ⟨0, by decide +kernel, rfl, rfl⟩
theorem d_AC_putIn_52 : DR b_AC_putIn 52 (.getfield 19) 3 55 := ⟨by decide +kernel, rfl⟩
theorem d_AC_putIn_55 : DR b_AC_putIn 55 (.invokevirtual 269) 3 58 := ⟨by decide +kernel, rfl⟩
theorem d_AC_putIn_58 : PLa b_AC_putIn 58 0 59 := Or.inl ⟨0, by decide +kernel, rfl, rfl⟩
theorem d_AC_putIn_59 : DR b_AC_putIn 59 (.invokevirtual 272) 3 62 := ⟨by decide +kernel, rfl⟩
theorem d_AC_putIn_62 : PSi b_AC_putIn 62 3 63 := Or.inl ⟨3, by decide +kernel, rfl, rfl⟩
theorem d_AC_putIn_63 : PCi b_AC_putIn 63 0 64 := Or.inl ⟨0, by decide +kernel, by decide, rfl⟩
theorem d_AC_putIn_64 : PSi b_AC_putIn 64 4 66 := Or.inr ⟨by decide +kernel, rfl⟩
theorem d_AC_putIn_66 : PLa b_AC_putIn 66 0 67 := Or.inl ⟨0, by decide +kernel, rfl, rfl⟩
theorem d_AC_putIn_67 : DR b_AC_putIn 67 (.getfield 53) 3 70 := ⟨by decide +kernel, rfl⟩
theorem d_AC_putIn_70 : DR b_AC_putIn 70 (.getfield 210) 3 73 := ⟨by decide +kernel, rfl⟩
theorem d_AC_putIn_73 : PCi b_AC_putIn 73 (-9) 75 := Or.inr (Or.inl ⟨(-9), by decide +kernel, by decide, rfl⟩)
theorem d_AC_putIn_75 : DJ b_AC_putIn 75 (.if_icmp .eq) 78 106 := ⟨31, by decide +kernel, rfl, by decide⟩
theorem d_AC_putIn_78 : PLi b_AC_putIn 78 4 80 := Or.inr ⟨by decide +kernel, rfl⟩
theorem d_AC_putIn_80 : PCi b_AC_putIn 80 7 82 := Or.inr (Or.inl ⟨7, by decide +kernel, by decide, rfl⟩)
theorem d_AC_putIn_82 : DJ b_AC_putIn 82 (.if_icmp .ge) 85 106 := ⟨24, by decide +kernel, rfl, by decide⟩
theorem d_AC_putIn_85 : PLa b_AC_putIn 85 0 86 := Or.inl ⟨0, by decide +kernel, rfl, rfl⟩
theorem d_AC_putIn_86 : DR b_AC_putIn 86 (.getfield 19) 3 89 := ⟨by decide +kernel, rfl⟩
theorem d_AC_putIn_89 : PCi b_AC_putIn 89 5 90 := Or.inl ⟨5, by decide +kernel, by decide, rfl⟩
theorem d_AC_putIn_90 : PLi b_AC_putIn 90 1 91 := Or.inl ⟨1, by decide +kernel, rfl, rfl⟩
theorem d_AC_putIn_91 : DR b_AC_putIn 91 (.invokevirtual 161) 3 94 := ⟨by decide +kernel, rfl⟩
theorem d_AC_putIn_94 : DR b_AC_putIn 94 (.pop) 1 95 := ⟨by decide +kernel, rfl⟩
theorem d_AC_putIn_95 : DR b_AC_putIn 95 (.iinc 4 1) 3 98 := ⟨by decide +kernel, rfl⟩
theorem d_AC_putIn_98 : PLa b_AC_putIn 98 0 99 := Or.inl ⟨0, by decide +kernel, rfl, rfl⟩
theorem d_AC_putIn_99 : DR b_AC_putIn 99 (.invokevirtual 272) 3 102 := ⟨by decide +kernel, rfl⟩
theorem d_AC_putIn_102 : PSi b_AC_putIn 102 3 103 := Or.inl ⟨3, by decide +kernel, rfl, rfl⟩
theorem d_AC_putIn_103 : DJ b_AC_putIn 103 .goto 106 66 := ⟨-37, by decide +kernel, rfl, by decide⟩
theorem d_AC_putIn_106 : PLi b_AC_putIn 106 2 107 := Or.inl ⟨2, by decide +kernel, rfl, rfl⟩
theorem d_AC_putIn_107 : DJ b_AC_putIn 107 (.ifCond .ne) 110 115 := ⟨8, by decide +kernel, rfl, by decide⟩
theorem d_AC_putIn_110 : PLi b_AC_putIn 110 4 112 := Or.inr ⟨by decide +kernel, rfl⟩
theorem d_AC_putIn_112 : DJ b_AC_putIn 112 .goto 115 116 := ⟨4, by decide +kernel, rfl, by decide⟩
theorem d_AC_putIn_115 : PLi b_AC_putIn 115 3 116 := Or.inl ⟨3, by decide +kernel, rfl, rfl⟩
theorem d_AC_putIn_116 : DR b_AC_putIn 116 (.ireturn) 1 117 := ⟨by decide +kernel, rfl⟩
set_option maxRecDepth 20000 in
theorem B_AC_putIn_33 {G : MCx} (hC : C0 G "AccusedChoose" b_AC_putIn 5 6) (s : St) : VO G (RI G b_AC_putIn) (F_AC_putIn_33 s) 33 [(0, .ref (gad G 0))] [] s := by
  unfold F_AC_putIn_33
  refine VO_aload hC d_AC_putIn_33 0 rfl ?_
  refine VO_const hC d_AC_putIn_34 ?_
  refine VO_callVI hC [.int (-2 : Int32)] [] ml_AC_90 d_AC_putIn_36 yv_AC_refuse sh_AC rfl rfl (fun o h => M_AC_refuse hC.inj h) (by decide) rfl rfl (Nat.le_of_ble_eq_true rfl) (fun o1 => ?_)
  exact VO_ireturn d_AC_putIn_39
set_option maxRecDepth 20000 in
theorem B_AC_putIn_106 {G : MCx} (hC : C0 G "AccusedChoose" b_AC_putIn 5 6) (v2 : Int32) (v3 : Int32) (v4 : Int32) (s : St) : VO G (RI G b_AC_putIn) (F_AC_putIn_106 v2 v3 v4 s) 106 [(2, .int v2), (3, .int v3), (4, .int v4)] [] s := by
  unfold F_AC_putIn_106
  refine VO_iload hC d_AC_putIn_106 0 rfl ?_
  refine VO_if_ne hC d_AC_putIn_107 (fun _ => ?_) (fun _ => ?_)
  · refine VO_iload hC d_AC_putIn_110 2 rfl ?_
    refine VO_goto hC d_AC_putIn_112 ?_
    exact VO_ireturn d_AC_putIn_116
  · refine VO_iload hC d_AC_putIn_115 1 rfl ?_
    exact VO_ireturn d_AC_putIn_116
set_option maxRecDepth 20000 in
theorem BH_AC_putIn_66 {G : MCx} (hC : C0 G "AccusedChoose" b_AC_putIn 5 6) {v1 : Int32} {v2 : Int32} (K66 : Int32 × Int32 × St → Option (Int32 × St)) (hK66 : ∀ (w3 : Int32) (w4 : Int32) (s : St), VO G (RI G b_AC_putIn) (K66 (w3, w4, s)) 66 [(0, .ref (gad G 0)), (1, .int v1), (2, .int v2), (3, .int w3), (4, .int w4)] [] s) (v3 : Int32) (v4 : Int32) (s : St) : VO G (RI G b_AC_putIn) (H_AC_putIn_66 v1 v2 K66 v3 v4 s) 66 [(0, .ref (gad G 0)), (1, .int v1), (2, .int v2), (3, .int v3), (4, .int v4)] [] s := by
  unfold H_AC_putIn_66
  refine VO_aload hC d_AC_putIn_66 0 rfl ?_
  refine VO_getr (r := 43) hC fl_AC_53 sh_AC rfl d_AC_putIn_67 ?_
  refine VO_geti hC fl_AC_210 (sh_MO isMO_43) rfl d_AC_putIn_70 ?_
  refine VO_const hC d_AC_putIn_73 ?_
  refine VO_icmp_eq hC d_AC_putIn_75 (fun _ => ?_) (fun _ => ?_)
  · exact VO_sub [2, 3, 4] rfl (B_AC_putIn_106 hC v2 v3 v4 s)
  · refine VO_iload hC d_AC_putIn_78 4 rfl ?_
    refine VO_const hC d_AC_putIn_80 ?_
    refine VO_icmp_ge hC d_AC_putIn_82 (fun _ => ?_) (fun _ => ?_)
    · exact VO_sub [2, 3, 4] rfl (B_AC_putIn_106 hC v2 v3 v4 s)
    · refine VO_aload hC d_AC_putIn_85 0 rfl ?_
      refine VO_getr (r := 19) hC fl_AC_19 sh_AC rfl d_AC_putIn_86 ?_
      refine VO_const hC d_AC_putIn_89 ?_
      refine VO_iload hC d_AC_putIn_90 1 rfl ?_
      refine VO_callVI hC [.int (5 : Int32), .int v1] [] ml_AC_161 d_AC_putIn_91 yv_NI_putDeed (sh_NI isNI_19) rfl rfl (fun o h => M_NI_putDeed hC.inj isNI_19 h) (by decide) rfl rfl (Nat.le_of_ble_eq_true rfl) (fun o5 => ?_)
      refine VO_pop hC d_AC_putIn_94 rfl ?_
      refine VO_iinc hC d_AC_putIn_95 4 rfl (by decide : Int32.ofInt 1 = 1) [(0, .ref (gad G 0)), (1, .int v1), (2, .int v2), (3, .int v3)] rfl (by decide) ?_
      refine VO_aload hC d_AC_putIn_98 1 rfl ?_
      refine VO_callVI hC [] [] ml_AC_272 d_AC_putIn_99 yv_AC_tried sh_AC rfl rfl (fun o h => M_AC_tried hC.inj h) (by decide) rfl rfl (Nat.le_of_ble_eq_true rfl) (fun o6 => ?_)
      refine VO_istore hC d_AC_putIn_102 [(4, .int (v4 + 1)), (0, .ref (gad G 0)), (1, .int v1), (2, .int v2)] rfl (by decide) ?_
      refine VO_goto hC d_AC_putIn_103 ?_
      exact VO_sub [2, 3, 4, 0, 1] rfl (hK66 o6.1 (v4 + 1) o6.2)
set_option maxRecDepth 20000 in
theorem B_AC_putIn_66 {G : MCx} (hC : C0 G "AccusedChoose" b_AC_putIn 5 6) (v1 : Int32) (v2 : Int32) (v3 : Int32) (v4 : Int32) (s : St) : VO G (RI G b_AC_putIn) (F_AC_putIn_66 v1 v2 v3 v4 s) 66 [(0, .ref (gad G 0)), (1, .int v1), (2, .int v2), (3, .int v3), (4, .int v4)] [] s := by
  exact VO_fix (G_AC_putIn_66 v1 v2) 66 (fun q => [(0, .ref (gad G 0)), (1, .int v1), (2, .int v2), (3, .int q.1), (4, .int q.2.1)]) (fun q => q.2.2) (fun K hK q => BH_AC_putIn_66 hC K (fun w3 w4 s => hK (w3, w4, s)) q.1 q.2.1 q.2.2) FUEL (v3, v4, s)
set_option maxRecDepth 20000 in
theorem B_AC_putIn {G : MCx} (hC : C0 G "AccusedChoose" b_AC_putIn 5 6) (a1 : Int32) (a2 : Int32) (s : St) : VO G (RI G b_AC_putIn) (F_AC_putIn a1 a2 s) 0 [(0, .ref (gad G 0)), (1, .int a1), (2, .int a2)] [] s := by
  unfold F_AC_putIn
  refine VO_iload hC d_AC_putIn_0 1 rfl ?_
  refine VO_if_ge hC d_AC_putIn_1 (fun _ => ?_) (fun _ => ?_)
  · refine VO_iload hC d_AC_putIn_11 1 rfl ?_
    refine VO_const hC d_AC_putIn_12 ?_
    refine VO_icmp_le hC d_AC_putIn_14 (fun _ => ?_) (fun _ => ?_)
    · refine VO_iload hC d_AC_putIn_24 2 rfl ?_
      refine VO_if_lt hC d_AC_putIn_25 (fun _ => ?_) (fun _ => ?_)
      · exact VO_sub [0] rfl (B_AC_putIn_33 hC s)
      · refine VO_iload hC d_AC_putIn_28 2 rfl ?_
        refine VO_const hC d_AC_putIn_29 ?_
        refine VO_icmp_le hC d_AC_putIn_30 (fun _ => ?_) (fun _ => ?_)
        · refine VO_aload hC d_AC_putIn_40 0 rfl ?_
          refine VO_getr (r := 19) hC fl_AC_19 sh_AC rfl d_AC_putIn_41 ?_
          refine VO_aload hC d_AC_putIn_44 0 rfl ?_
          refine VO_getr (r := 1) hC fl_AC_10 sh_AC rfl d_AC_putIn_45 ?_
          refine VO_callVV hC [.ref (gad G 1)] [] ml_AC_101 d_AC_putIn_48 yv_NI_copy (sh_NI isNI_19) rfl rfl (fun o h => M_NI_copy hC.inj isNI_19 isNI_1 h) (by decide) rfl rfl (Nat.le_of_ble_eq_true rfl) (fun s2 => ?_)
          refine VO_aload hC d_AC_putIn_51 0 rfl ?_
          refine VO_getr (r := 19) hC fl_AC_19 sh_AC rfl d_AC_putIn_52 ?_
          refine VO_callVV hC [] [] ml_AC_269 d_AC_putIn_55 yv_NI_forgetLaterDids (sh_NI isNI_19) rfl rfl (fun o h => M_NI_forgetLaterDids hC.inj isNI_19 h) (by decide) rfl rfl (Nat.le_of_ble_eq_true rfl) (fun s3 => ?_)
          refine VO_aload hC d_AC_putIn_58 0 rfl ?_
          refine VO_callVI hC [] [] ml_AC_272 d_AC_putIn_59 yv_AC_tried sh_AC rfl rfl (fun o h => M_AC_tried hC.inj h) (by decide) rfl rfl (Nat.le_of_ble_eq_true rfl) (fun o4 => ?_)
          refine VO_istore hC d_AC_putIn_62 [(0, .ref (gad G 0)), (1, .int a1), (2, .int a2)] rfl (by decide) ?_
          refine VO_const hC d_AC_putIn_63 ?_
          refine VO_istore hC d_AC_putIn_64 [(3, .int o4.1), (0, .ref (gad G 0)), (1, .int a1), (2, .int a2)] rfl (by decide) ?_
          exact VO_sub [2, 3, 4, 1, 0] rfl (B_AC_putIn_66 hC a1 a2 o4.1 (0 : Int32) o4.2)
        · exact VO_sub [0] rfl (B_AC_putIn_33 hC s)
    · refine VO_aload hC d_AC_putIn_17 0 rfl ?_
      refine VO_const hC d_AC_putIn_18 ?_
      refine VO_callVI hC [.int (-6 : Int32)] [] ml_AC_90 d_AC_putIn_20 yv_AC_refuse sh_AC rfl rfl (fun o h => M_AC_refuse hC.inj h) (by decide) rfl rfl (Nat.le_of_ble_eq_true rfl) (fun o7 => ?_)
      exact VO_ireturn d_AC_putIn_23
  · refine VO_aload hC d_AC_putIn_4 0 rfl ?_
    refine VO_const hC d_AC_putIn_5 ?_
    refine VO_callVI hC [.int (-4 : Int32)] [] ml_AC_90 d_AC_putIn_7 yv_AC_refuse sh_AC rfl rfl (fun o h => M_AC_refuse hC.inj h) (by decide) rfl rfl (Nat.le_of_ble_eq_true rfl) (fun o8 => ?_)
    exact VO_ireturn d_AC_putIn_10
set_option maxRecDepth 20000 in
theorem M_AC_putIn {l : Launch} {D : va_G} {ad : Nat → Nat} {cI cL : ClassId} (hj : Inj ad) {a1 : Int32} {a2 : Int32} {s : St} {o : Int32 × St} (h : F_AC_putIn a1 a2 s = some o) : Cn l D ad cI cL y_AC_putIn b_AC_putIn 5 (some .int) 6 [.ref (ad 0), .int a1, .int a2] s (some (.int o.1)) o.2 := by
  refine Cn_ofI hj (plainFor_of_name (by decide)) (Nat.le_of_ble_eq_true rfl) [(0, .ref (ad 0)), (1, .int a1), (2, .int a2)] rfl (fun G hC e1 e2 e3 e4 e5 hR => ?_)
  subst e1; subst e2; subst e3; subst e4; subst e5
  exact B_AC_putIn hC a1 a2 s o h hR
theorem d_AC_todaysMonthsOf_0 : PLa b_AC_todaysMonthsOf 0 0 1 := Or.inl ⟨0, by decide +kernel, rfl, rfl⟩
theorem d_AC_todaysMonthsOf_1 : DR b_AC_todaysMonthsOf 1 (.invokevirtual 201) 3 4 := ⟨by decide +kernel, rfl⟩
theorem d_AC_todaysMonthsOf_4 : PCi b_AC_todaysMonthsOf 4 0 5 := Or.inl ⟨0, by decide +kernel, by decide, rfl⟩
theorem d_AC_todaysMonthsOf_5 : PSi b_AC_todaysMonthsOf 5 2 6 := Or.inl ⟨2, by decide +kernel, rfl, rfl⟩
theorem d_AC_todaysMonthsOf_6 : PCi b_AC_todaysMonthsOf 6 0 7 := Or.inl ⟨0, by decide +kernel, by decide, rfl⟩
theorem d_AC_todaysMonthsOf_7 : PSi b_AC_todaysMonthsOf 7 3 8 := Or.inl ⟨3, by decide +kernel, rfl, rfl⟩
theorem d_AC_todaysMonthsOf_8 : PLi b_AC_todaysMonthsOf 8 3 9 := Or.inl ⟨3, by decide +kernel, rfl, rfl⟩
theorem d_AC_todaysMonthsOf_9 : PLa b_AC_todaysMonthsOf 9 0 10 := Or.inl ⟨0, by decide +kernel, rfl, rfl⟩
theorem d_AC_todaysMonthsOf_10 : DR b_AC_todaysMonthsOf 10 (.getfield 10) 3 13 := ⟨by decide +kernel, rfl⟩
theorem d_AC_todaysMonthsOf_13 : DR b_AC_todaysMonthsOf 13 (.getfield 164) 3 16 := ⟨by decide +kernel, rfl⟩
theorem d_AC_todaysMonthsOf_16 : DJ b_AC_todaysMonthsOf 16 (.if_icmp .ge) 19 47 := ⟨31, by decide +kernel, rfl, by decide⟩
theorem d_AC_todaysMonthsOf_19 : PLi b_AC_todaysMonthsOf 19 1 20 := Or.inl ⟨1, by decide +kernel, rfl, rfl⟩
theorem d_AC_todaysMonthsOf_20 : PLi b_AC_todaysMonthsOf 20 3 21 := Or.inl ⟨3, by decide +kernel, rfl, rfl⟩
theorem d_AC_todaysMonthsOf_21 : DR b_AC_todaysMonthsOf 21 (.invokestatic 189) 3 24 := ⟨by decide +kernel, rfl⟩
theorem d_AC_todaysMonthsOf_24 : DJ b_AC_todaysMonthsOf 24 (.ifCond .eq) 27 41 := ⟨17, by decide +kernel, rfl, by decide⟩
theorem d_AC_todaysMonthsOf_27 : PLi b_AC_todaysMonthsOf 27 2 28 := Or.inl ⟨2, by decide +kernel, rfl, rfl⟩
theorem d_AC_todaysMonthsOf_28 : PLa b_AC_todaysMonthsOf 28 0 29 := Or.inl ⟨0, by decide +kernel, rfl, rfl⟩
theorem d_AC_todaysMonthsOf_29 : DR b_AC_todaysMonthsOf 29 (.getfield 49) 3 32 := ⟨by decide +kernel, rfl⟩
theorem d_AC_todaysMonthsOf_32 : DR b_AC_todaysMonthsOf 32 (.getfield 207) 3 35 := ⟨by decide +kernel, rfl⟩
theorem d_AC_todaysMonthsOf_35 : PLi b_AC_todaysMonthsOf 35 3 36 := Or.inl ⟨3, by decide +kernel, rfl, rfl⟩
theorem d_AC_todaysMonthsOf_36 : DR b_AC_todaysMonthsOf 36 (.invokestatic 122) 3 39 := ⟨by decide +kernel, rfl⟩
theorem d_AC_todaysMonthsOf_39 : DR b_AC_todaysMonthsOf 39 (.iadd) 1 40 := ⟨by decide +kernel, rfl⟩
theorem d_AC_todaysMonthsOf_40 : PSi b_AC_todaysMonthsOf 40 2 41 := Or.inl ⟨2, by decide +kernel, rfl, rfl⟩
theorem d_AC_todaysMonthsOf_41 : DR b_AC_todaysMonthsOf 41 (.iinc 3 1) 3 44 := ⟨by decide +kernel, rfl⟩
theorem d_AC_todaysMonthsOf_44 : DJ b_AC_todaysMonthsOf 44 .goto 47 8 := ⟨-36, by decide +kernel, rfl, by decide⟩
theorem d_AC_todaysMonthsOf_47 : PLi b_AC_todaysMonthsOf 47 2 48 := Or.inl ⟨2, by decide +kernel, rfl, rfl⟩
theorem d_AC_todaysMonthsOf_48 : DR b_AC_todaysMonthsOf 48 (.ireturn) 1 49 := ⟨by decide +kernel, rfl⟩
set_option maxRecDepth 20000 in
theorem B_AC_todaysMonthsOf_41 {G : MCx} (hC : C0 G "AccusedChoose" b_AC_todaysMonthsOf 4 6) {v1 : Int32} (K8 : Int32 × Int32 × St → Option (Int32 × St)) (hK8 : ∀ (w2 : Int32) (w3 : Int32) (s : St), VO G (RI G b_AC_todaysMonthsOf) (K8 (w2, w3, s)) 8 [(0, .ref (gad G 0)), (1, .int v1), (2, .int w2), (3, .int w3)] [] s) (v2 : Int32) (v3 : Int32) (s : St) : VO G (RI G b_AC_todaysMonthsOf) (F_AC_todaysMonthsOf_41 K8 v1 v2 v3 s) 41 [(0, .ref (gad G 0)), (1, .int v1), (2, .int v2), (3, .int v3)] [] s := by
  unfold F_AC_todaysMonthsOf_41
  refine VO_iinc hC d_AC_todaysMonthsOf_41 3 rfl (by decide : Int32.ofInt 1 = 1) [(0, .ref (gad G 0)), (1, .int v1), (2, .int v2)] rfl (by decide) ?_
  refine VO_goto hC d_AC_todaysMonthsOf_44 ?_
  exact VO_sub [1, 2, 3, 0] rfl (hK8 v2 (v3 + 1) s)
set_option maxRecDepth 20000 in
theorem BH_AC_todaysMonthsOf_8 {G : MCx} (hC : C0 G "AccusedChoose" b_AC_todaysMonthsOf 4 6) {v1 : Int32} (K8 : Int32 × Int32 × St → Option (Int32 × St)) (hK8 : ∀ (w2 : Int32) (w3 : Int32) (s : St), VO G (RI G b_AC_todaysMonthsOf) (K8 (w2, w3, s)) 8 [(0, .ref (gad G 0)), (1, .int v1), (2, .int w2), (3, .int w3)] [] s) (v2 : Int32) (v3 : Int32) (s : St) : VO G (RI G b_AC_todaysMonthsOf) (H_AC_todaysMonthsOf_8 v1 K8 v2 v3 s) 8 [(0, .ref (gad G 0)), (1, .int v1), (2, .int v2), (3, .int v3)] [] s := by
  unfold H_AC_todaysMonthsOf_8
  refine VO_iload hC d_AC_todaysMonthsOf_8 3 rfl ?_
  refine VO_aload hC d_AC_todaysMonthsOf_9 0 rfl ?_
  refine VO_getr (r := 1) hC fl_AC_10 sh_AC rfl d_AC_todaysMonthsOf_10 ?_
  refine VO_geti hC fl_AC_164 (sh_NI isNI_1) rfl d_AC_todaysMonthsOf_13 ?_
  refine VO_icmp_ge hC d_AC_todaysMonthsOf_16 (fun _ => ?_) (fun _ => ?_)
  · refine VO_iload hC d_AC_todaysMonthsOf_47 2 rfl ?_
    exact VO_ireturn d_AC_todaysMonthsOf_48
  · refine VO_iload hC d_AC_todaysMonthsOf_19 1 rfl ?_
    refine VO_iload hC d_AC_todaysMonthsOf_20 3 rfl ?_
    refine VO_callSI hC [.int v1, .int v3] [] ml_AC_189 d_AC_todaysMonthsOf_21 ys_AC_has (fun o h => M_AC_has hC.inj h) (by decide) rfl rfl (Nat.le_of_ble_eq_true rfl) (fun o2 => ?_)
    refine VO_if_eq hC d_AC_todaysMonthsOf_24 (fun _ => ?_) (fun _ => ?_)
    · exact (B_AC_todaysMonthsOf_41 hC K8 hK8 v2 v3 o2.2)
    · refine VO_iload hC d_AC_todaysMonthsOf_27 2 rfl ?_
      refine VO_aload hC d_AC_todaysMonthsOf_28 0 rfl ?_
      refine VO_getr (r := 40) hC fl_AC_49 sh_AC rfl d_AC_todaysMonthsOf_29 ?_
      refine VO_getr (r := 42) hC fl_AC_207 (sh_MO isMO_40) rfl d_AC_todaysMonthsOf_32 ?_
      refine VO_iload hC d_AC_todaysMonthsOf_35 3 rfl ?_
      refine VO_callSI hC [.ref (gad G 42), .int v3] [.int v2] ml_AC_122 d_AC_todaysMonthsOf_36 ys_AC_at (fun o h => M_AC_at hC.inj ia_42 h) (by decide) rfl rfl (Nat.le_of_ble_eq_true rfl) (fun o3 => ?_)
      refine VO_iadd hC d_AC_todaysMonthsOf_39 ?_
      refine VO_istoreB hC d_AC_todaysMonthsOf_40 [(0, .ref (gad G 0)), (1, .int v1), (3, .int v3)] rfl (by decide) (fun x4 => ?_)
      exact VO_sub [1, 2, 0, 3] rfl (B_AC_todaysMonthsOf_41 hC K8 hK8 x4 v3 o3.2)
set_option maxRecDepth 20000 in
theorem B_AC_todaysMonthsOf_8 {G : MCx} (hC : C0 G "AccusedChoose" b_AC_todaysMonthsOf 4 6) (v1 : Int32) (v2 : Int32) (v3 : Int32) (s : St) : VO G (RI G b_AC_todaysMonthsOf) (F_AC_todaysMonthsOf_8 v1 v2 v3 s) 8 [(0, .ref (gad G 0)), (1, .int v1), (2, .int v2), (3, .int v3)] [] s := by
  exact VO_fix (G_AC_todaysMonthsOf_8 v1) 8 (fun q => [(0, .ref (gad G 0)), (1, .int v1), (2, .int q.1), (3, .int q.2.1)]) (fun q => q.2.2) (fun K hK q => BH_AC_todaysMonthsOf_8 hC K (fun w2 w3 s => hK (w2, w3, s)) q.1 q.2.1 q.2.2) FUEL (v2, v3, s)
set_option maxRecDepth 20000 in
theorem B_AC_todaysMonthsOf {G : MCx} (hC : C0 G "AccusedChoose" b_AC_todaysMonthsOf 4 6) (a1 : Int32) (s : St) : VO G (RI G b_AC_todaysMonthsOf) (F_AC_todaysMonthsOf a1 s) 0 [(0, .ref (gad G 0)), (1, .int a1)] [] s := by
  unfold F_AC_todaysMonthsOf
  refine VO_aload hC d_AC_todaysMonthsOf_0 0 rfl ?_
  refine VO_callVV hC [] [] ml_AC_201 d_AC_todaysMonthsOf_1 yv_AC_holdToday sh_AC rfl rfl (fun o h => M_AC_holdToday hC.inj h) (by decide) rfl rfl (Nat.le_of_ble_eq_true rfl) (fun s1 => ?_)
  refine VO_const hC d_AC_todaysMonthsOf_4 ?_
  refine VO_istore hC d_AC_todaysMonthsOf_5 [(0, .ref (gad G 0)), (1, .int a1)] rfl (by decide) ?_
  refine VO_const hC d_AC_todaysMonthsOf_6 ?_
  refine VO_istore hC d_AC_todaysMonthsOf_7 [(2, .int (0 : Int32)), (0, .ref (gad G 0)), (1, .int a1)] rfl (by decide) ?_
  exact VO_sub [2, 3, 1, 0] rfl (B_AC_todaysMonthsOf_8 hC a1 (0 : Int32) (0 : Int32) s1)
set_option maxRecDepth 20000 in
theorem M_AC_todaysMonthsOf {l : Launch} {D : va_G} {ad : Nat → Nat} {cI cL : ClassId} (hj : Inj ad) {a1 : Int32} {s : St} {o : Int32 × St} (h : F_AC_todaysMonthsOf a1 s = some o) : Cn l D ad cI cL y_AC_todaysMonthsOf b_AC_todaysMonthsOf 4 (some .int) 6 [.ref (ad 0), .int a1] s (some (.int o.1)) o.2 := by
  refine Cn_ofI hj (plainFor_of_name (by decide)) (Nat.le_of_ble_eq_true rfl) [(0, .ref (ad 0)), (1, .int a1)] rfl (fun G hC e1 e2 e3 e4 e5 hR => ?_)
  subst e1; subst e2; subst e3; subst e4; subst e5
  exact B_AC_todaysMonthsOf hC a1 s o h hR
theorem d_AC_together_0 : PLi b_AC_together 0 1 1 := Or.inl ⟨1, by decide +kernel, rfl, rfl⟩
theorem d_AC_together_1 : DJ b_AC_together 1 (.ifCond .ge) 4 11 := ⟨10, by decide +kernel, rfl, by decide⟩
theorem d_AC_together_4 : PLa b_AC_together 4 0 5 := Or.inl ⟨0, by decide +kernel, rfl, rfl⟩
theorem d_AC_together_5 : PCi b_AC_together 5 (-4) 7 := Or.inr (Or.inl ⟨(-4), by decide +kernel, by decide, rfl⟩)
theorem d_AC_together_7 : DR b_AC_together 7 (.invokevirtual 90) 3 10 := ⟨by decide +kernel, rfl⟩
theorem d_AC_together_10 : DR b_AC_together 10 (.ireturn) 1 11 := ⟨by decide +kernel, rfl⟩
theorem d_AC_together_11 : PLi b_AC_together 11 1 12 := Or.inl ⟨1, by decide +kernel, rfl, rfl⟩
theorem d_AC_together_12 : PLa b_AC_together 12 0 13 := Or.inl ⟨0, by decide +kernel, rfl, rfl⟩
theorem d_AC_together_13 : DR b_AC_together 13 (.getfield 10) 3 16 := ⟨by decide +kernel, rfl⟩
theorem d_AC_together_16 : DR b_AC_together 16 (.getfield 164) 3 19 := ⟨by decide +kernel, rfl⟩
theorem d_AC_together_19 : DR b_AC_together 19 (.invokestatic 276) 3 22 := ⟨by decide +kernel, rfl⟩
theorem d_AC_together_22 : DJ b_AC_together 22 (.if_icmp .lt) 25 32 := ⟨10, by decide +kernel, rfl, by decide⟩
theorem d_AC_together_25 : PLa b_AC_together 25 0 26 := Or.inl ⟨0, by decide +kernel, rfl, rfl⟩
theorem d_AC_together_26 : PCi b_AC_together 26 (-6) 28 := Or.inr (Or.inl ⟨(-6), by decide +kernel, by decide, rfl⟩)
theorem d_AC_together_28 : DR b_AC_together 28 (.invokevirtual 90) 3 31 := ⟨by decide +kernel, rfl⟩
theorem d_AC_together_31 : DR b_AC_together 31 (.ireturn) 1 32 := ⟨by decide +kernel, rfl⟩
theorem d_AC_together_32 : PLi b_AC_together 32 2 33 := Or.inl ⟨2, by decide +kernel, rfl, rfl⟩
theorem d_AC_together_33 : DJ b_AC_together 33 (.ifCond .lt) 36 41 := ⟨8, by decide +kernel, rfl, by decide⟩
theorem d_AC_together_36 : PLi b_AC_together 36 2 37 := Or.inl ⟨2, by decide +kernel, rfl, rfl⟩
theorem d_AC_together_37 : PCi b_AC_together 37 1 38 := Or.inl ⟨1, by decide +kernel, by decide, rfl⟩
theorem d_AC_together_38 : DJ b_AC_together 38 (.if_icmp .le) 41 48 := ⟨10, by decide +kernel, rfl, by decide⟩
theorem d_AC_together_41 : PLa b_AC_together 41 0 42 := Or.inl ⟨0, by decide +kernel, rfl, rfl⟩
theorem d_AC_together_42 : PCi b_AC_together 42 (-2) 44 := Or.inr (Or.inl ⟨(-2), by decide +kernel, by decide, rfl⟩)
theorem d_AC_together_44 : DR b_AC_together 44 (.invokevirtual 90) 3 47 := ⟨by decide +kernel, rfl⟩
theorem d_AC_together_47 : DR b_AC_together 47 (.ireturn) 1 48 := ⟨by decide +kernel, rfl⟩
theorem d_AC_together_48 : PLa b_AC_together 48 0 49 := Or.inl ⟨0, by decide +kernel, rfl, rfl⟩
theorem d_AC_together_49 : DR b_AC_together 49 (.getfield 39) 3 52 := ⟨by decide +kernel, rfl⟩
theorem d_AC_together_52 : PLa b_AC_together 52 0 53 := Or.inl ⟨0, by decide +kernel, rfl, rfl⟩
theorem d_AC_together_53 : DR b_AC_together 53 (.getfield 10) 3 56 := ⟨by decide +kernel, rfl⟩
theorem d_AC_together_56 : DR b_AC_together 56 (.invokevirtual 219) 3 59 := ⟨by decide +kernel, rfl⟩
theorem d_AC_together_59 : PLa b_AC_together 59 0 60 := Or.inl ⟨0, by decide +kernel, rfl, rfl⟩
theorem d_AC_together_60 : DR b_AC_together 60 (.getfield 66) 3 63 := ⟨by decide +kernel, rfl⟩
theorem d_AC_together_63 : PLa b_AC_together 63 0 64 := Or.inl ⟨0, by decide +kernel, rfl, rfl⟩
theorem d_AC_together_64 : DR b_AC_together 64 (.getfield 39) 3 67 := ⟨by decide +kernel, rfl⟩
theorem d_AC_together_67 : PLa b_AC_together 67 0 68 := Or.inl ⟨0, by decide +kernel, rfl, rfl⟩
theorem d_AC_together_68 : DR b_AC_together 68 (.getfield 10) 3 71 := ⟨by decide +kernel, rfl⟩
theorem d_AC_together_71 : DR b_AC_together 71 (.getfield 178) 3 74 := ⟨by decide +kernel, rfl⟩
theorem d_AC_together_74 : PLi b_AC_together 74 1 75 := Or.inl ⟨1, by decide +kernel, rfl, rfl⟩
theorem d_AC_together_75 : DR b_AC_together 75 (.invokevirtual 279) 3 78 := ⟨by decide +kernel, rfl⟩
theorem d_AC_together_78 : PLa b_AC_together 78 0 79 := Or.inl ⟨0, by decide +kernel, rfl, rfl⟩
theorem d_AC_together_79 : DR b_AC_together 79 (.getfield 66) 3 82 := ⟨by decide +kernel, rfl⟩
theorem d_AC_together_82 : PCi b_AC_together 82 0 83 := Or.inl ⟨0, by decide +kernel, by decide, rfl⟩
theorem d_AC_together_83 : PCi b_AC_together 83 0 84 := Or.inl ⟨0, by decide +kernel, by decide, rfl⟩
theorem d_AC_together_84 : DR b_AC_together 84 (.invokevirtual 226) 3 87 := ⟨by decide +kernel, rfl⟩
theorem d_AC_together_87 : PSi b_AC_together 87 3 88 := Or.inl ⟨3, by decide +kernel, rfl, rfl⟩
theorem d_AC_together_88 : PLi b_AC_together 88 2 89 := Or.inl ⟨2, by decide +kernel, rfl, rfl⟩
theorem d_AC_together_89 : DJ b_AC_together 89 (.ifCond .ne) 92 96 := ⟨7, by decide +kernel, rfl, by decide⟩
theorem d_AC_together_92 : PLi b_AC_together 92 3 93 := Or.inl ⟨3, by decide +kernel, rfl, rfl⟩
theorem d_AC_together_93 : DJ b_AC_together 93 .goto 96 103 := ⟨10, by decide +kernel, rfl, by decide⟩
theorem d_AC_together_96 : PLa b_AC_together 96 0 97 := Or.inl ⟨0, by decide +kernel, rfl, rfl⟩
theorem d_AC_together_97 : PLi b_AC_together 97 1 98 := Or.inl ⟨1, by decide +kernel, rfl, rfl⟩
theorem d_AC_together_98 : DR b_AC_together 98 (.invokevirtual 283) 3 101 := ⟨by decide +kernel, rfl⟩
theorem d_AC_together_101 : PLi b_AC_together 101 3 102 := Or.inl ⟨3, by decide +kernel, rfl, rfl⟩
theorem d_AC_together_102 : DR b_AC_together 102 (.isub) 1 103 := ⟨by decide +kernel, rfl⟩
theorem d_AC_together_103 : DR b_AC_together 103 (.ireturn) 1 104 := ⟨by decide +kernel, rfl⟩
set_option maxRecDepth 20000 in
theorem B_AC_together_41 {G : MCx} (hC : C0 G "AccusedChoose" b_AC_together 4 7) (s : St) : VO G (RI G b_AC_together) (F_AC_together_41 s) 41 [(0, .ref (gad G 0))] [] s := by
  unfold F_AC_together_41
  refine VO_aload hC d_AC_together_41 0 rfl ?_
  refine VO_const hC d_AC_together_42 ?_
  refine VO_callVI hC [.int (-2 : Int32)] [] ml_AC_90 d_AC_together_44 yv_AC_refuse sh_AC rfl rfl (fun o h => M_AC_refuse hC.inj h) (by decide) rfl rfl (Nat.le_of_ble_eq_true rfl) (fun o2 => ?_)
  exact VO_ireturn d_AC_together_47
set_option maxRecDepth 20000 in
theorem B_AC_together {G : MCx} (hC : C0 G "AccusedChoose" b_AC_together 4 7) (a1 : Int32) (a2 : Int32) (s : St) : VO G (RI G b_AC_together) (F_AC_together a1 a2 s) 0 [(0, .ref (gad G 0)), (1, .int a1), (2, .int a2)] [] s := by
  unfold F_AC_together
  refine VO_iload hC d_AC_together_0 1 rfl ?_
  refine VO_if_ge hC d_AC_together_1 (fun _ => ?_) (fun _ => ?_)
  · refine VO_iload hC d_AC_together_11 1 rfl ?_
    refine VO_aload hC d_AC_together_12 0 rfl ?_
    refine VO_getr (r := 1) hC fl_AC_10 sh_AC rfl d_AC_together_13 ?_
    refine VO_geti hC fl_AC_164 (sh_NI isNI_1) rfl d_AC_together_16 ?_
    refine VO_callSI hC [.int (rd s 1 1)] [.int a1] ml_AC_276 d_AC_together_19 ys_AC_bit (fun o h => M_AC_bit hC.inj h) (by decide) rfl rfl (Nat.le_of_ble_eq_true rfl) (fun o1 => ?_)
    refine VO_icmp_lt hC d_AC_together_22 (fun _ => ?_) (fun _ => ?_)
    · refine VO_iload hC d_AC_together_32 2 rfl ?_
      refine VO_if_lt hC d_AC_together_33 (fun _ => ?_) (fun _ => ?_)
      · exact VO_sub [0] rfl (B_AC_together_41 hC o1.2)
      · refine VO_iload hC d_AC_together_36 2 rfl ?_
        refine VO_const hC d_AC_together_37 ?_
        refine VO_icmp_le hC d_AC_together_38 (fun _ => ?_) (fun _ => ?_)
        · refine VO_aload hC d_AC_together_48 0 rfl ?_
          refine VO_getr (r := 36) hC fl_AC_39 sh_AC rfl d_AC_together_49 ?_
          refine VO_aload hC d_AC_together_52 0 rfl ?_
          refine VO_getr (r := 1) hC fl_AC_10 sh_AC rfl d_AC_together_53 ?_
          refine VO_callVV hC [.ref (gad G 1)] [] ml_AC_219 d_AC_together_56 yv_PR_fill (sh_PR isPR_36) rfl rfl (fun o h => M_PR_fill hC.inj isPR_36 isNI_1 h) (by decide) rfl rfl (Nat.le_of_ble_eq_true rfl) (fun s3 => ?_)
          refine VO_aload hC d_AC_together_59 0 rfl ?_
          refine VO_getr (r := 49) hC fl_AC_66 sh_AC rfl d_AC_together_60 ?_
          refine VO_aload hC d_AC_together_63 0 rfl ?_
          refine VO_getr (r := 36) hC fl_AC_39 sh_AC rfl d_AC_together_64 ?_
          refine VO_aload hC d_AC_together_67 0 rfl ?_
          refine VO_getr (r := 1) hC fl_AC_10 sh_AC rfl d_AC_together_68 ?_
          refine VO_getr (r := 9) hC fl_AC_178 (sh_NI isNI_1) rfl d_AC_together_71 ?_
          refine VO_iload hC d_AC_together_74 1 rfl ?_
          refine VO_callVV hC [.ref (gad G 36), .ref (gad G 9), .int a1] [] ml_AC_279 d_AC_together_75 yv_TA_fillTogether sh_TA rfl rfl (fun o h => M_TA_fillTogether hC.inj isPR_36 ia_9 h) (by decide) rfl rfl (Nat.le_of_ble_eq_true rfl) (fun s4 => ?_)
          refine VO_aload hC d_AC_together_78 0 rfl ?_
          refine VO_getr (r := 49) hC fl_AC_66 sh_AC rfl d_AC_together_79 ?_
          refine VO_const hC d_AC_together_82 ?_
          refine VO_const hC d_AC_together_83 ?_
          refine VO_callVI hC [.int (0 : Int32), .int (0 : Int32)] [] ml_AC_226 d_AC_together_84 yv_TA_get sh_TA rfl rfl (fun o h => M_TA_get hC.inj h) (by decide) rfl rfl (Nat.le_of_ble_eq_true rfl) (fun o5 => ?_)
          refine VO_istore hC d_AC_together_87 [(0, .ref (gad G 0)), (1, .int a1), (2, .int a2)] rfl (by decide) ?_
          refine VO_iload hC d_AC_together_88 3 rfl ?_
          refine VO_if_ne hC d_AC_together_89 (fun _ => ?_) (fun _ => ?_)
          · refine VO_iload hC d_AC_together_92 0 rfl ?_
            refine VO_goto hC d_AC_together_93 ?_
            exact VO_ireturn d_AC_together_103
          · refine VO_aload hC d_AC_together_96 1 rfl ?_
            refine VO_iload hC d_AC_together_97 2 rfl ?_
            refine VO_callVI hC [.int a1] [] ml_AC_283 d_AC_together_98 yv_AC_todaysMonthsOf sh_AC rfl rfl (fun o h => M_AC_todaysMonthsOf hC.inj h) (by decide) rfl rfl (Nat.le_of_ble_eq_true rfl) (fun o6 => ?_)
            refine VO_iload hC d_AC_together_101 0 rfl ?_
            refine VO_isub hC d_AC_together_102 ?_
            exact VO_ireturn d_AC_together_103
        · exact VO_sub [0] rfl (B_AC_together_41 hC o1.2)
    · refine VO_aload hC d_AC_together_25 0 rfl ?_
      refine VO_const hC d_AC_together_26 ?_
      refine VO_callVI hC [.int (-6 : Int32)] [] ml_AC_90 d_AC_together_28 yv_AC_refuse sh_AC rfl rfl (fun o h => M_AC_refuse hC.inj h) (by decide) rfl rfl (Nat.le_of_ble_eq_true rfl) (fun o7 => ?_)
      exact VO_ireturn d_AC_together_31
  · refine VO_aload hC d_AC_together_4 0 rfl ?_
    refine VO_const hC d_AC_together_5 ?_
    refine VO_callVI hC [.int (-4 : Int32)] [] ml_AC_90 d_AC_together_7 yv_AC_refuse sh_AC rfl rfl (fun o h => M_AC_refuse hC.inj h) (by decide) rfl rfl (Nat.le_of_ble_eq_true rfl) (fun o8 => ?_)
    exact VO_ireturn d_AC_together_10
set_option maxRecDepth 20000 in
theorem M_AC_together {l : Launch} {D : va_G} {ad : Nat → Nat} {cI cL : ClassId} (hj : Inj ad) {a1 : Int32} {a2 : Int32} {s : St} {o : Int32 × St} (h : F_AC_together a1 a2 s = some o) : Cn l D ad cI cL y_AC_together b_AC_together 4 (some .int) 7 [.ref (ad 0), .int a1, .int a2] s (some (.int o.1)) o.2 := by
  refine Cn_ofI hj (plainFor_of_name (by decide)) (Nat.le_of_ble_eq_true rfl) [(0, .ref (ad 0)), (1, .int a1), (2, .int a2)] rfl (fun G hC e1 e2 e3 e4 e5 hR => ?_)
  subst e1; subst e2; subst e3; subst e4; subst e5
  exact B_AC_together hC a1 a2 s o h hR
theorem d_AC_alibiWorth_0 : PLa b_AC_alibiWorth 0 0 1 := Or.inl ⟨0, by decide +kernel, rfl, rfl⟩
theorem d_AC_alibiWorth_1 : DR b_AC_alibiWorth 1 (.getfield 10) 3 4 := ⟨by decide +kernel, rfl⟩
theorem d_AC_alibiWorth_4 : PLi b_AC_alibiWorth 4 1 5 := Or.inl ⟨1, by decide +kernel, rfl, rfl⟩
theorem d_AC_alibiWorth_5 : DR b_AC_alibiWorth 5 (.invokevirtual 129) 3 8 := ⟨by decide +kernel, rfl⟩
theorem d_AC_alibiWorth_8 : DJ b_AC_alibiWorth 8 (.ifCond .eq) 11 22 := ⟨14, by decide +kernel, rfl, by decide⟩
theorem d_AC_alibiWorth_11 : PLa b_AC_alibiWorth 11 0 12 := Or.inl ⟨0, by decide +kernel, rfl, rfl⟩
theorem d_AC_alibiWorth_12 : DR b_AC_alibiWorth 12 (.getfield 10) 3 15 := ⟨by decide +kernel, rfl⟩
theorem d_AC_alibiWorth_15 : PLi b_AC_alibiWorth 15 2 16 := Or.inl ⟨2, by decide +kernel, rfl, rfl⟩
theorem d_AC_alibiWorth_16 : DR b_AC_alibiWorth 16 (.invokevirtual 115) 3 19 := ⟨by decide +kernel, rfl⟩
theorem d_AC_alibiWorth_19 : DJ b_AC_alibiWorth 19 (.ifCond .ne) 22 28 := ⟨9, by decide +kernel, rfl, by decide⟩
theorem d_AC_alibiWorth_22 : PLa b_AC_alibiWorth 22 0 23 := Or.inl ⟨0, by decide +kernel, rfl, rfl⟩
theorem d_AC_alibiWorth_23 : PCi b_AC_alibiWorth 23 (-1) 24 := Or.inl ⟨(-1), by decide +kernel, by decide, rfl⟩
theorem d_AC_alibiWorth_24 : DR b_AC_alibiWorth 24 (.invokevirtual 256) 3 27 := ⟨by decide +kernel, rfl⟩
theorem d_AC_alibiWorth_27 : DR b_AC_alibiWorth 27 (.ireturn) 1 28 := ⟨by decide +kernel, rfl⟩
theorem d_AC_alibiWorth_28 : PLa b_AC_alibiWorth 28 0 29 := Or.inl ⟨0, by decide +kernel, rfl, rfl⟩
theorem d_AC_alibiWorth_29 : DR b_AC_alibiWorth 29 (.getfield 19) 3 32 := ⟨by decide +kernel, rfl⟩
theorem d_AC_alibiWorth_32 : PLa b_AC_alibiWorth 32 0 33 := Or.inl ⟨0, by decide +kernel, rfl, rfl⟩
theorem d_AC_alibiWorth_33 : DR b_AC_alibiWorth 33 (.getfield 10) 3 36 := ⟨by decide +kernel, rfl⟩
theorem d_AC_alibiWorth_36 : DR b_AC_alibiWorth 36 (.invokevirtual 101) 3 39 := ⟨by decide +kernel, rfl⟩
theorem d_AC_alibiWorth_39 : PLa b_AC_alibiWorth 39 0 40 := Or.inl ⟨0, by decide +kernel, rfl, rfl⟩
theorem d_AC_alibiWorth_40 : DR b_AC_alibiWorth 40 (.getfield 19) 3 43 := ⟨by decide +kernel, rfl⟩
theorem d_AC_alibiWorth_43 : PLi b_AC_alibiWorth 43 1 44 := Or.inl ⟨1, by decide +kernel, rfl, rfl⟩
theorem d_AC_alibiWorth_44 : PLi b_AC_alibiWorth 44 2 45 := Or.inl ⟨2, by decide +kernel, rfl, rfl⟩
theorem d_AC_alibiWorth_45 : DR b_AC_alibiWorth 45 (.invokevirtual 185) 3 48 := ⟨by decide +kernel, rfl⟩
theorem d_AC_alibiWorth_48 : PLa b_AC_alibiWorth 48 0 49 := Or.inl ⟨0, by decide +kernel, rfl, rfl⟩
theorem d_AC_alibiWorth_49 : DR b_AC_alibiWorth 49 (.invokevirtual 201) 3 52 := ⟨by decide +kernel, rfl⟩
theorem d_AC_alibiWorth_52 : PLa b_AC_alibiWorth 52 0 53 := Or.inl ⟨0, by decide +kernel, rfl, rfl⟩
theorem d_AC_alibiWorth_53 : DR b_AC_alibiWorth 53 (.invokevirtual 272) 3 56 := ⟨by decide +kernel, rfl⟩
theorem d_AC_alibiWorth_56 : PLa b_AC_alibiWorth 56 0 57 := Or.inl ⟨0, by decide +kernel, rfl, rfl⟩
theorem d_AC_alibiWorth_57 : DR b_AC_alibiWorth 57 (.getfield 49) 3 60 := ⟨by decide +kernel, rfl⟩
theorem d_AC_alibiWorth_60 : DR b_AC_alibiWorth 60 (.getfield 213) 3 63 := ⟨by decide +kernel, rfl⟩
theorem d_AC_alibiWorth_63 : DR b_AC_alibiWorth 63 (.isub) 1 64 := ⟨by decide +kernel, rfl⟩
theorem d_AC_alibiWorth_64 : DR b_AC_alibiWorth 64 (.ireturn) 1 65 := ⟨by decide +kernel, rfl⟩
set_option maxRecDepth 20000 in
theorem B_AC_alibiWorth_22 {G : MCx} (hC : C0 G "AccusedChoose" b_AC_alibiWorth 3 6) (s : St) : VO G (RI G b_AC_alibiWorth) (F_AC_alibiWorth_22 s) 22 [(0, .ref (gad G 0))] [] s := by
  unfold F_AC_alibiWorth_22
  refine VO_aload hC d_AC_alibiWorth_22 0 rfl ?_
  refine VO_const hC d_AC_alibiWorth_23 ?_
  refine VO_callVI hC [.int (-1 : Int32)] [] ml_AC_256 d_AC_alibiWorth_24 yv_AC_refuseBig sh_AC rfl rfl (fun o h => M_AC_refuseBig hC.inj h) (by decide) rfl rfl (Nat.le_of_ble_eq_true rfl) (fun o2 => ?_)
  exact VO_ireturn d_AC_alibiWorth_27
set_option maxRecDepth 20000 in
theorem B_AC_alibiWorth {G : MCx} (hC : C0 G "AccusedChoose" b_AC_alibiWorth 3 6) (a1 : Int32) (a2 : Int32) (s : St) : VO G (RI G b_AC_alibiWorth) (F_AC_alibiWorth a1 a2 s) 0 [(0, .ref (gad G 0)), (1, .int a1), (2, .int a2)] [] s := by
  unfold F_AC_alibiWorth
  refine VO_aload hC d_AC_alibiWorth_0 0 rfl ?_
  refine VO_getr (r := 1) hC fl_AC_10 sh_AC rfl d_AC_alibiWorth_1 ?_
  refine VO_iload hC d_AC_alibiWorth_4 1 rfl ?_
  refine VO_callVI hC [.int a1] [] ml_AC_129 d_AC_alibiWorth_5 yv_NI_hasPerson (sh_NI isNI_1) rfl rfl (fun o h => M_NI_hasPerson hC.inj isNI_1 h) (by decide) rfl rfl (Nat.le_of_ble_eq_true rfl) (fun o1 => ?_)
  refine VO_if_eq hC d_AC_alibiWorth_8 (fun _ => ?_) (fun _ => ?_)
  · exact VO_sub [0] rfl (B_AC_alibiWorth_22 hC o1.2)
  · refine VO_aload hC d_AC_alibiWorth_11 0 rfl ?_
    refine VO_getr (r := 1) hC fl_AC_10 sh_AC rfl d_AC_alibiWorth_12 ?_
    refine VO_iload hC d_AC_alibiWorth_15 2 rfl ?_
    refine VO_callVI hC [.int a2] [] ml_AC_115 d_AC_alibiWorth_16 yv_NI_hasDeed (sh_NI isNI_1) rfl rfl (fun o h => M_NI_hasDeed hC.inj isNI_1 h) (by decide) rfl rfl (Nat.le_of_ble_eq_true rfl) (fun o3 => ?_)
    refine VO_if_ne hC d_AC_alibiWorth_19 (fun _ => ?_) (fun _ => ?_)
    · exact VO_sub [0] rfl (B_AC_alibiWorth_22 hC o3.2)
    · refine VO_aload hC d_AC_alibiWorth_28 0 rfl ?_
      refine VO_getr (r := 19) hC fl_AC_19 sh_AC rfl d_AC_alibiWorth_29 ?_
      refine VO_aload hC d_AC_alibiWorth_32 0 rfl ?_
      refine VO_getr (r := 1) hC fl_AC_10 sh_AC rfl d_AC_alibiWorth_33 ?_
      refine VO_callVV hC [.ref (gad G 1)] [] ml_AC_101 d_AC_alibiWorth_36 yv_NI_copy (sh_NI isNI_19) rfl rfl (fun o h => M_NI_copy hC.inj isNI_19 isNI_1 h) (by decide) rfl rfl (Nat.le_of_ble_eq_true rfl) (fun s4 => ?_)
      refine VO_aload hC d_AC_alibiWorth_39 0 rfl ?_
      refine VO_getr (r := 19) hC fl_AC_19 sh_AC rfl d_AC_alibiWorth_40 ?_
      refine VO_iload hC d_AC_alibiWorth_43 1 rfl ?_
      refine VO_iload hC d_AC_alibiWorth_44 2 rfl ?_
      refine VO_callVV hC [.int a1, .int a2] [] ml_AC_185 d_AC_alibiWorth_45 yv_NI_turnAlibi (sh_NI isNI_19) rfl rfl (fun o h => M_NI_turnAlibi hC.inj isNI_19 h) (by decide) rfl rfl (Nat.le_of_ble_eq_true rfl) (fun s5 => ?_)
      refine VO_aload hC d_AC_alibiWorth_48 0 rfl ?_
      refine VO_callVV hC [] [] ml_AC_201 d_AC_alibiWorth_49 yv_AC_holdToday sh_AC rfl rfl (fun o h => M_AC_holdToday hC.inj h) (by decide) rfl rfl (Nat.le_of_ble_eq_true rfl) (fun s6 => ?_)
      refine VO_aload hC d_AC_alibiWorth_52 0 rfl ?_
      refine VO_callVI hC [] [] ml_AC_272 d_AC_alibiWorth_53 yv_AC_tried sh_AC rfl rfl (fun o h => M_AC_tried hC.inj h) (by decide) rfl rfl (Nat.le_of_ble_eq_true rfl) (fun o7 => ?_)
      refine VO_aload hC d_AC_alibiWorth_56 0 rfl ?_
      refine VO_getr (r := 40) hC fl_AC_49 sh_AC rfl d_AC_alibiWorth_57 ?_
      refine VO_geti hC fl_AC_213 (sh_MO isMO_40) rfl d_AC_alibiWorth_60 ?_
      refine VO_isub hC d_AC_alibiWorth_63 ?_
      exact VO_ireturn d_AC_alibiWorth_64
set_option maxRecDepth 20000 in
theorem M_AC_alibiWorth {l : Launch} {D : va_G} {ad : Nat → Nat} {cI cL : ClassId} (hj : Inj ad) {a1 : Int32} {a2 : Int32} {s : St} {o : Int32 × St} (h : F_AC_alibiWorth a1 a2 s = some o) : Cn l D ad cI cL y_AC_alibiWorth b_AC_alibiWorth 3 (some .int) 6 [.ref (ad 0), .int a1, .int a2] s (some (.int o.1)) o.2 := by
  refine Cn_ofI hj (plainFor_of_name (by decide)) (Nat.le_of_ble_eq_true rfl) [(0, .ref (ad 0)), (1, .int a1), (2, .int a2)] rfl (fun G hC e1 e2 e3 e4 e5 hR => ?_)
  subst e1; subst e2; subst e3; subst e4; subst e5
  exact B_AC_alibiWorth hC a1 a2 s o h hR
theorem d_AC_givenAway_0 : PLa b_AC_givenAway 0 0 1 := Or.inl ⟨0, by decide +kernel, rfl, rfl⟩
theorem d_AC_givenAway_1 : DR b_AC_givenAway 1 (.invokevirtual 201) 3 4 := ⟨by decide +kernel, rfl⟩
theorem d_AC_givenAway_4 : PLa b_AC_givenAway 4 0 5 := Or.inl ⟨0, by decide +kernel, rfl, rfl⟩
theorem d_AC_givenAway_5 : DR b_AC_givenAway 5 (.getfield 49) 3 8 := ⟨by decide +kernel, rfl⟩
theorem d_AC_givenAway_8 : DR b_AC_givenAway 8 (.getfield 213) 3 11 := ⟨by decide +kernel, rfl⟩
theorem d_AC_givenAway_11 : PSi b_AC_givenAway 11 1 12 := Or.inl ⟨1, by decide +kernel, rfl, rfl⟩
theorem d_AC_givenAway_12 : PCi b_AC_givenAway 12 (-9) 14 := Or.inr (Or.inl ⟨(-9), by decide +kernel, by decide, rfl⟩)
theorem d_AC_givenAway_14 : PSi b_AC_givenAway 14 2 15 := Or.inl ⟨2, by decide +kernel, rfl, rfl⟩
theorem d_AC_givenAway_15 : PCi b_AC_givenAway 15 0 16 := Or.inl ⟨0, by decide +kernel, by decide, rfl⟩
theorem d_AC_givenAway_16 : PSi b_AC_givenAway 16 3 17 := Or.inl ⟨3, by decide +kernel, rfl, rfl⟩
theorem d_AC_givenAway_17 : PLi b_AC_givenAway 17 3 18 := Or.inl ⟨3, by decide +kernel, rfl, rfl⟩
theorem d_AC_givenAway_18 : PLa b_AC_givenAway 18 0 19 := Or.inl ⟨0, by decide +kernel, rfl, rfl⟩
theorem d_AC_givenAway_19 : DR b_AC_givenAway 19 (.getfield 10) 3 22 := ⟨by decide +kernel, rfl⟩
theorem d_AC_givenAway_22 : DR b_AC_givenAway 22 (.getfield 164) 3 25 := ⟨by decide +kernel, rfl⟩
theorem d_AC_givenAway_25 : DJ b_AC_givenAway 25 (.if_icmp .ge) 28 119 := ⟨94, by decide +kernel, rfl, by decide⟩
theorem d_AC_givenAway_28 : PCi b_AC_givenAway 28 0 29 := Or.inl ⟨0, by decide +kernel, by decide, rfl⟩
theorem d_AC_givenAway_29 : PSi b_AC_givenAway 29 4 31 := Or.inr ⟨by decide +kernel, rfl⟩
theorem d_AC_givenAway_31 : PLi b_AC_givenAway 31 4 33 := Or.inr ⟨by decide +kernel, rfl⟩
theorem d_AC_givenAway_33 : PLa b_AC_givenAway 33 0 34 := Or.inl ⟨0, by decide +kernel, rfl, rfl⟩
theorem d_AC_givenAway_34 : DR b_AC_givenAway 34 (.getfield 10) 3 37 := ⟨by decide +kernel, rfl⟩
theorem d_AC_givenAway_37 : DR b_AC_givenAway 37 (.getfield 157) 3 40 := ⟨by decide +kernel, rfl⟩
theorem d_AC_givenAway_40 : DJ b_AC_givenAway 40 (.if_icmp .ge) 43 113 := ⟨73, by decide +kernel, rfl, by decide⟩
theorem d_AC_givenAway_43 : PLa b_AC_givenAway 43 0 44 := Or.inl ⟨0, by decide +kernel, rfl, rfl⟩
theorem d_AC_givenAway_44 : DR b_AC_givenAway 44 (.getfield 10) 3 47 := ⟨by decide +kernel, rfl⟩
theorem d_AC_givenAway_47 : DR b_AC_givenAway 47 (.getfield 147) 3 50 := ⟨by decide +kernel, rfl⟩
theorem d_AC_givenAway_50 : PLi b_AC_givenAway 50 3 51 := Or.inl ⟨3, by decide +kernel, rfl, rfl⟩
theorem d_AC_givenAway_51 : DR b_AC_givenAway 51 (.invokestatic 122) 3 54 := ⟨by decide +kernel, rfl⟩
theorem d_AC_givenAway_54 : PLi b_AC_givenAway 54 4 56 := Or.inr ⟨by decide +kernel, rfl⟩
theorem d_AC_givenAway_56 : DR b_AC_givenAway 56 (.invokestatic 189) 3 59 := ⟨by decide +kernel, rfl⟩
theorem d_AC_givenAway_59 : DJ b_AC_givenAway 59 (.ifCond .eq) 62 107 := ⟨48, by decide +kernel, rfl, by decide⟩
theorem d_AC_givenAway_62 : PLa b_AC_givenAway 62 0 63 := Or.inl ⟨0, by decide +kernel, rfl, rfl⟩
theorem d_AC_givenAway_63 : DR b_AC_givenAway 63 (.getfield 19) 3 66 := ⟨by decide +kernel, rfl⟩
theorem d_AC_givenAway_66 : PLa b_AC_givenAway 66 0 67 := Or.inl ⟨0, by decide +kernel, rfl, rfl⟩
theorem d_AC_givenAway_67 : DR b_AC_givenAway 67 (.getfield 10) 3 70 := ⟨by decide +kernel, rfl⟩
theorem d_AC_givenAway_70 : DR b_AC_givenAway 70 (.invokevirtual 101) 3 73 := ⟨by decide +kernel, rfl⟩
theorem d_AC_givenAway_73 : PLa b_AC_givenAway 73 0 74 := Or.inl ⟨0, by decide +kernel, rfl, rfl⟩
theorem d_AC_givenAway_74 : DR b_AC_givenAway 74 (.getfield 19) 3 77 := ⟨by decide +kernel, rfl⟩
theorem d_AC_givenAway_77 : PLi b_AC_givenAway 77 3 78 := Or.inl ⟨3, by decide +kernel, rfl, rfl⟩
theorem d_AC_givenAway_78 : PLi b_AC_givenAway 78 4 80 := Or.inr ⟨by decide +kernel, rfl⟩
theorem d_AC_givenAway_80 : DR b_AC_givenAway 80 (.invokevirtual 185) 3 83 := ⟨by decide +kernel, rfl⟩
theorem d_AC_givenAway_83 : PLa b_AC_givenAway 83 0 84 := Or.inl ⟨0, by decide +kernel, rfl, rfl⟩
theorem d_AC_givenAway_84 : DR b_AC_givenAway 84 (.invokevirtual 272) 3 87 := ⟨by decide +kernel, rfl⟩
theorem d_AC_givenAway_87 : PLi b_AC_givenAway 87 1 88 := Or.inl ⟨1, by decide +kernel, rfl, rfl⟩
theorem d_AC_givenAway_88 : DJ b_AC_givenAway 88 (.if_icmp .ge) 91 107 := ⟨19, by decide +kernel, rfl, by decide⟩
theorem d_AC_givenAway_91 : PLa b_AC_givenAway 91 0 92 := Or.inl ⟨0, by decide +kernel, rfl, rfl⟩
theorem d_AC_givenAway_92 : DR b_AC_givenAway 92 (.getfield 53) 3 95 := ⟨by decide +kernel, rfl⟩
theorem d_AC_givenAway_95 : DR b_AC_givenAway 95 (.getfield 213) 3 98 := ⟨by decide +kernel, rfl⟩
theorem d_AC_givenAway_98 : PSi b_AC_givenAway 98 1 99 := Or.inl ⟨1, by decide +kernel, rfl, rfl⟩
theorem d_AC_givenAway_99 : PCi b_AC_givenAway 99 10 101 := Or.inr (Or.inl ⟨10, by decide +kernel, by decide, rfl⟩)
theorem d_AC_givenAway_101 : PLi b_AC_givenAway 101 3 102 := Or.inl ⟨3, by decide +kernel, rfl, rfl⟩
theorem d_AC_givenAway_102 : DR b_AC_givenAway 102 (.imul) 1 103 := ⟨by decide +kernel, rfl⟩
theorem d_AC_givenAway_103 : PLi b_AC_givenAway 103 4 105 := Or.inr ⟨by decide +kernel, rfl⟩
theorem d_AC_givenAway_105 : DR b_AC_givenAway 105 (.iadd) 1 106 := ⟨by decide +kernel, rfl⟩
theorem d_AC_givenAway_106 : PSi b_AC_givenAway 106 2 107 := Or.inl ⟨2, by decide +kernel, rfl, rfl⟩
theorem d_AC_givenAway_107 : DR b_AC_givenAway 107 (.iinc 4 1) 3 110 := ⟨by decide +kernel, rfl⟩
theorem d_AC_givenAway_110 : DJ b_AC_givenAway 110 .goto 113 31 := ⟨-79, by decide +kernel, rfl, by decide⟩
theorem d_AC_givenAway_113 : DR b_AC_givenAway 113 (.iinc 3 1) 3 116 := ⟨by decide +kernel, rfl⟩
theorem d_AC_givenAway_116 : DJ b_AC_givenAway 116 .goto 119 17 := ⟨-99, by decide +kernel, rfl, by decide⟩
theorem d_AC_givenAway_119 : PLi b_AC_givenAway 119 2 120 := Or.inl ⟨2, by decide +kernel, rfl, rfl⟩
theorem d_AC_givenAway_120 : DR b_AC_givenAway 120 (.ireturn) 1 121 := ⟨by decide +kernel, rfl⟩
set_option maxRecDepth 20000 in
theorem B_AC_givenAway_107 {G : MCx} (hC : C0 G "AccusedChoose" b_AC_givenAway 5 6) {v3 : Int32} (K17 : Int32 × Int32 × Int32 × St → Option (Int32 × St)) (hK17 : ∀ (w1 : Int32) (w2 : Int32) (w3 : Int32) (s : St), VO G (RI G b_AC_givenAway) (K17 (w1, w2, w3, s)) 17 [(0, .ref (gad G 0)), (1, .int w1), (2, .int w2), (3, .int w3)] [] s) (K31 : Int32 × Int32 × Int32 × St → Option (Int32 × St)) (hK31 : ∀ (w1 : Int32) (w2 : Int32) (w4 : Int32) (s : St), VO G (RI G b_AC_givenAway) (K31 (w1, w2, w4, s)) 31 [(0, .ref (gad G 0)), (1, .int w1), (2, .int w2), (3, .int v3), (4, .int w4)] [] s) (v1 : Int32) (v2 : Int32) (v4 : Int32) (s : St) : VO G (RI G b_AC_givenAway) (F_AC_givenAway_107 K17 K31 v1 v2 v3 v4 s) 107 [(0, .ref (gad G 0)), (1, .int v1), (2, .int v2), (3, .int v3), (4, .int v4)] [] s := by
  unfold F_AC_givenAway_107
  refine VO_iinc hC d_AC_givenAway_107 4 rfl (by decide : Int32.ofInt 1 = 1) [(0, .ref (gad G 0)), (1, .int v1), (2, .int v2), (3, .int v3)] rfl (by decide) ?_
  refine VO_goto hC d_AC_givenAway_110 ?_
  exact VO_sub [1, 2, 3, 4, 0] rfl (hK31 v1 v2 (v4 + 1) s)
set_option maxRecDepth 20000 in
theorem BH_AC_givenAway_31 {G : MCx} (hC : C0 G "AccusedChoose" b_AC_givenAway 5 6) {v3 : Int32} (K17 : Int32 × Int32 × Int32 × St → Option (Int32 × St)) (hK17 : ∀ (w1 : Int32) (w2 : Int32) (w3 : Int32) (s : St), VO G (RI G b_AC_givenAway) (K17 (w1, w2, w3, s)) 17 [(0, .ref (gad G 0)), (1, .int w1), (2, .int w2), (3, .int w3)] [] s) (K31 : Int32 × Int32 × Int32 × St → Option (Int32 × St)) (hK31 : ∀ (w1 : Int32) (w2 : Int32) (w4 : Int32) (s : St), VO G (RI G b_AC_givenAway) (K31 (w1, w2, w4, s)) 31 [(0, .ref (gad G 0)), (1, .int w1), (2, .int w2), (3, .int v3), (4, .int w4)] [] s) (v1 : Int32) (v2 : Int32) (v4 : Int32) (s : St) : VO G (RI G b_AC_givenAway) (H_AC_givenAway_31 K17 v3 K31 v1 v2 v4 s) 31 [(0, .ref (gad G 0)), (1, .int v1), (2, .int v2), (3, .int v3), (4, .int v4)] [] s := by
  unfold H_AC_givenAway_31
  refine VO_iload hC d_AC_givenAway_31 4 rfl ?_
  refine VO_aload hC d_AC_givenAway_33 0 rfl ?_
  refine VO_getr (r := 1) hC fl_AC_10 sh_AC rfl d_AC_givenAway_34 ?_
  refine VO_geti hC fl_AC_157 (sh_NI isNI_1) rfl d_AC_givenAway_37 ?_
  refine VO_icmp_ge hC d_AC_givenAway_40 (fun _ => ?_) (fun _ => ?_)
  · refine VO_iinc hC d_AC_givenAway_113 3 rfl (by decide : Int32.ofInt 1 = 1) [(0, .ref (gad G 0)), (1, .int v1), (2, .int v2), (4, .int v4)] rfl (by decide) ?_
    refine VO_goto hC d_AC_givenAway_116 ?_
    exact VO_sub [1, 2, 3, 0] rfl (hK17 v1 v2 (v3 + 1) s)
  · refine VO_aload hC d_AC_givenAway_43 0 rfl ?_
    refine VO_getr (r := 1) hC fl_AC_10 sh_AC rfl d_AC_givenAway_44 ?_
    refine VO_getr (r := 8) hC fl_AC_147 (sh_NI isNI_1) rfl d_AC_givenAway_47 ?_
    refine VO_iload hC d_AC_givenAway_50 3 rfl ?_
    refine VO_callSI hC [.ref (gad G 8), .int v3] [] ml_AC_122 d_AC_givenAway_51 ys_AC_at (fun o h => M_AC_at hC.inj ia_8 h) (by decide) rfl rfl (Nat.le_of_ble_eq_true rfl) (fun o3 => ?_)
    refine VO_iload hC d_AC_givenAway_54 4 rfl ?_
    refine VO_callSI hC [.int o3.1, .int v4] [] ml_AC_189 d_AC_givenAway_56 ys_AC_has (fun o h => M_AC_has hC.inj h) (by decide) rfl rfl (Nat.le_of_ble_eq_true rfl) (fun o4 => ?_)
    refine VO_if_eq hC d_AC_givenAway_59 (fun _ => ?_) (fun _ => ?_)
    · exact (B_AC_givenAway_107 hC K17 hK17 K31 hK31 v1 v2 v4 o4.2)
    · refine VO_aload hC d_AC_givenAway_62 0 rfl ?_
      refine VO_getr (r := 19) hC fl_AC_19 sh_AC rfl d_AC_givenAway_63 ?_
      refine VO_aload hC d_AC_givenAway_66 0 rfl ?_
      refine VO_getr (r := 1) hC fl_AC_10 sh_AC rfl d_AC_givenAway_67 ?_
      refine VO_callVV hC [.ref (gad G 1)] [] ml_AC_101 d_AC_givenAway_70 yv_NI_copy (sh_NI isNI_19) rfl rfl (fun o h => M_NI_copy hC.inj isNI_19 isNI_1 h) (by decide) rfl rfl (Nat.le_of_ble_eq_true rfl) (fun s5 => ?_)
      refine VO_aload hC d_AC_givenAway_73 0 rfl ?_
      refine VO_getr (r := 19) hC fl_AC_19 sh_AC rfl d_AC_givenAway_74 ?_
      refine VO_iload hC d_AC_givenAway_77 3 rfl ?_
      refine VO_iload hC d_AC_givenAway_78 4 rfl ?_
      refine VO_callVV hC [.int v3, .int v4] [] ml_AC_185 d_AC_givenAway_80 yv_NI_turnAlibi (sh_NI isNI_19) rfl rfl (fun o h => M_NI_turnAlibi hC.inj isNI_19 h) (by decide) rfl rfl (Nat.le_of_ble_eq_true rfl) (fun s6 => ?_)
      refine VO_aload hC d_AC_givenAway_83 0 rfl ?_
      refine VO_callVI hC [] [] ml_AC_272 d_AC_givenAway_84 yv_AC_tried sh_AC rfl rfl (fun o h => M_AC_tried hC.inj h) (by decide) rfl rfl (Nat.le_of_ble_eq_true rfl) (fun o7 => ?_)
      refine VO_iload hC d_AC_givenAway_87 1 rfl ?_
      refine VO_icmp_ge hC d_AC_givenAway_88 (fun _ => ?_) (fun _ => ?_)
      · exact (B_AC_givenAway_107 hC K17 hK17 K31 hK31 v1 v2 v4 o7.2)
      · refine VO_aload hC d_AC_givenAway_91 0 rfl ?_
        refine VO_getr (r := 43) hC fl_AC_53 sh_AC rfl d_AC_givenAway_92 ?_
        refine VO_geti hC fl_AC_213 (sh_MO isMO_43) rfl d_AC_givenAway_95 ?_
        refine VO_istoreB hC d_AC_givenAway_98 [(0, .ref (gad G 0)), (2, .int v2), (3, .int v3), (4, .int v4)] rfl (by decide) (fun x8 => ?_)
        refine VO_const hC d_AC_givenAway_99 ?_
        refine VO_iload hC d_AC_givenAway_101 3 rfl ?_
        refine VO_imul hC d_AC_givenAway_102 ?_
        refine VO_iload hC d_AC_givenAway_103 4 rfl ?_
        refine VO_iadd hC d_AC_givenAway_105 ?_
        refine VO_istoreB hC d_AC_givenAway_106 [(1, .int x8), (0, .ref (gad G 0)), (3, .int v3), (4, .int v4)] rfl (by decide) (fun x9 => ?_)
        exact VO_sub [2, 1, 0, 3, 4] rfl (B_AC_givenAway_107 hC K17 hK17 K31 hK31 x8 x9 v4 o7.2)
set_option maxRecDepth 20000 in
theorem B_AC_givenAway_31 {G : MCx} (hC : C0 G "AccusedChoose" b_AC_givenAway 5 6) (K17 : Int32 × Int32 × Int32 × St → Option (Int32 × St)) (hK17 : ∀ (w1 : Int32) (w2 : Int32) (w3 : Int32) (s : St), VO G (RI G b_AC_givenAway) (K17 (w1, w2, w3, s)) 17 [(0, .ref (gad G 0)), (1, .int w1), (2, .int w2), (3, .int w3)] [] s) (v1 : Int32) (v2 : Int32) (v3 : Int32) (v4 : Int32) (s : St) : VO G (RI G b_AC_givenAway) (F_AC_givenAway_31 K17 v1 v2 v3 v4 s) 31 [(0, .ref (gad G 0)), (1, .int v1), (2, .int v2), (3, .int v3), (4, .int v4)] [] s := by
  exact VO_fix (G_AC_givenAway_31 K17 v3) 31 (fun q => [(0, .ref (gad G 0)), (1, .int q.1), (2, .int q.2.1), (3, .int v3), (4, .int q.2.2.1)]) (fun q => q.2.2.2) (fun K hK q => BH_AC_givenAway_31 hC K17 hK17 K (fun w1 w2 w4 s => hK (w1, w2, w4, s)) q.1 q.2.1 q.2.2.1 q.2.2.2) FUEL (v1, v2, v4, s)
set_option maxRecDepth 20000 in
theorem BH_AC_givenAway_17 {G : MCx} (hC : C0 G "AccusedChoose" b_AC_givenAway 5 6) (K17 : Int32 × Int32 × Int32 × St → Option (Int32 × St)) (hK17 : ∀ (w1 : Int32) (w2 : Int32) (w3 : Int32) (s : St), VO G (RI G b_AC_givenAway) (K17 (w1, w2, w3, s)) 17 [(0, .ref (gad G 0)), (1, .int w1), (2, .int w2), (3, .int w3)] [] s) (v1 : Int32) (v2 : Int32) (v3 : Int32) (s : St) : VO G (RI G b_AC_givenAway) (H_AC_givenAway_17 K17 v1 v2 v3 s) 17 [(0, .ref (gad G 0)), (1, .int v1), (2, .int v2), (3, .int v3)] [] s := by
  unfold H_AC_givenAway_17
  refine VO_iload hC d_AC_givenAway_17 3 rfl ?_
  refine VO_aload hC d_AC_givenAway_18 0 rfl ?_
  refine VO_getr (r := 1) hC fl_AC_10 sh_AC rfl d_AC_givenAway_19 ?_
  refine VO_geti hC fl_AC_164 (sh_NI isNI_1) rfl d_AC_givenAway_22 ?_
  refine VO_icmp_ge hC d_AC_givenAway_25 (fun _ => ?_) (fun _ => ?_)
  · refine VO_iload hC d_AC_givenAway_119 2 rfl ?_
    exact VO_ireturn d_AC_givenAway_120
  · refine VO_const hC d_AC_givenAway_28 ?_
    refine VO_istore hC d_AC_givenAway_29 [(0, .ref (gad G 0)), (1, .int v1), (2, .int v2), (3, .int v3)] rfl (by decide) ?_
    exact VO_sub [1, 2, 3, 4, 0] rfl (B_AC_givenAway_31 hC K17 hK17 v1 v2 v3 (0 : Int32) s)
set_option maxRecDepth 20000 in
theorem B_AC_givenAway_17 {G : MCx} (hC : C0 G "AccusedChoose" b_AC_givenAway 5 6) (v1 : Int32) (v2 : Int32) (v3 : Int32) (s : St) : VO G (RI G b_AC_givenAway) (F_AC_givenAway_17 v1 v2 v3 s) 17 [(0, .ref (gad G 0)), (1, .int v1), (2, .int v2), (3, .int v3)] [] s := by
  exact VO_fix (G_AC_givenAway_17) 17 (fun q => [(0, .ref (gad G 0)), (1, .int q.1), (2, .int q.2.1), (3, .int q.2.2.1)]) (fun q => q.2.2.2) (fun K hK q => BH_AC_givenAway_17 hC K (fun w1 w2 w3 s => hK (w1, w2, w3, s)) q.1 q.2.1 q.2.2.1 q.2.2.2) FUEL (v1, v2, v3, s)
set_option maxRecDepth 20000 in
theorem B_AC_givenAway {G : MCx} (hC : C0 G "AccusedChoose" b_AC_givenAway 5 6) (s : St) : VO G (RI G b_AC_givenAway) (F_AC_givenAway s) 0 [(0, .ref (gad G 0))] [] s := by
  unfold F_AC_givenAway
  refine VO_aload hC d_AC_givenAway_0 0 rfl ?_
  refine VO_callVV hC [] [] ml_AC_201 d_AC_givenAway_1 yv_AC_holdToday sh_AC rfl rfl (fun o h => M_AC_holdToday hC.inj h) (by decide) rfl rfl (Nat.le_of_ble_eq_true rfl) (fun s1 => ?_)
  refine VO_aload hC d_AC_givenAway_4 0 rfl ?_
  refine VO_getr (r := 40) hC fl_AC_49 sh_AC rfl d_AC_givenAway_5 ?_
  refine VO_geti hC fl_AC_213 (sh_MO isMO_40) rfl d_AC_givenAway_8 ?_
  refine VO_istoreB hC d_AC_givenAway_11 [(0, .ref (gad G 0))] rfl (by decide) (fun x2 => ?_)
  refine VO_const hC d_AC_givenAway_12 ?_
  refine VO_istore hC d_AC_givenAway_14 [(1, .int x2), (0, .ref (gad G 0))] rfl (by decide) ?_
  refine VO_const hC d_AC_givenAway_15 ?_
  refine VO_istore hC d_AC_givenAway_16 [(2, .int (-9 : Int32)), (1, .int x2), (0, .ref (gad G 0))] rfl (by decide) ?_
  exact VO_sub [3, 2, 1, 0] rfl (B_AC_givenAway_17 hC x2 (-9 : Int32) (0 : Int32) s1)
set_option maxRecDepth 20000 in
theorem M_AC_givenAway {l : Launch} {D : va_G} {ad : Nat → Nat} {cI cL : ClassId} (hj : Inj ad) {s : St} {o : Int32 × St} (h : F_AC_givenAway s = some o) : Cn l D ad cI cL y_AC_givenAway b_AC_givenAway 5 (some .int) 6 [.ref (ad 0)] s (some (.int o.1)) o.2 := by
  refine Cn_ofI hj (plainFor_of_name (by decide)) (Nat.le_of_ble_eq_true rfl) [(0, .ref (ad 0))] rfl (fun G hC e1 e2 e3 e4 e5 hR => ?_)
  subst e1; subst e2; subst e3; subst e4; subst e5
  exact B_AC_givenAway hC s o h hR
