theorem d_AC_bit_0 : PLi b_AC_bit 0 0 1 := Or.inl ⟨0, by decide +kernel, rfl, rfl⟩
theorem d_AC_bit_1 : DJ b_AC_bit 1 (.ifCond .lt) 4 16 := ⟨15, by decide +kernel, rfl, by decide⟩
theorem d_AC_bit_4 : PLi b_AC_bit 4 0 5 := Or.inl ⟨0, by decide +kernel, rfl, rfl⟩
theorem d_AC_bit_5 : PCi b_AC_bit 5 31 7 := Or.inr (Or.inl ⟨31, by decide +kernel, by decide, rfl⟩)
theorem d_AC_bit_7 : DJ b_AC_bit 7 (.if_icmp .ge) 10 16 := ⟨9, by decide +kernel, rfl, by decide⟩
theorem d_AC_bit_10 : PCi b_AC_bit 10 1 11 := Or.inl ⟨1, by decide +kernel, by decide, rfl⟩
theorem d_AC_bit_11 : PLi b_AC_bit 11 0 12 := Or.inl ⟨0, by decide +kernel, rfl, rfl⟩
theorem d_AC_bit_12 : DR b_AC_bit 12 (.ishl) 1 13 := ⟨by decide +kernel, rfl⟩
theorem d_AC_bit_13 : DJ b_AC_bit 13 .goto 16 17 := ⟨4, by decide +kernel, rfl, by decide⟩
theorem d_AC_bit_16 : PCi b_AC_bit 16 0 17 := Or.inl ⟨0, by decide +kernel, by decide, rfl⟩
theorem d_AC_bit_17 : DR b_AC_bit 17 (.ireturn) 1 18 := ⟨by decide +kernel, rfl⟩
set_option maxRecDepth 20000 in
theorem B_AC_bit_16 {G : MCx} (hC : C0 G "AccusedChoose" b_AC_bit 1 1) (s : St) : VO G (RI G b_AC_bit) (F_AC_bit_16 s) 16 [] [] s := by
  unfold F_AC_bit_16
  refine VO_const hC d_AC_bit_16 ?_
  exact VO_ireturn d_AC_bit_17
set_option maxRecDepth 20000 in
theorem B_AC_bit {G : MCx} (hC : C0 G "AccusedChoose" b_AC_bit 1 1) (a0 : Int32) (s : St) : VO G (RI G b_AC_bit) (F_AC_bit a0 s) 0 [(0, .int a0)] [] s := by
  unfold F_AC_bit
  refine VO_iload hC d_AC_bit_0 0 rfl ?_
  refine VO_if_lt hC d_AC_bit_1 (fun _ => ?_) (fun _ => ?_)
  · exact VO_sub [] rfl (B_AC_bit_16 hC s)
  · refine VO_iload hC d_AC_bit_4 0 rfl ?_
    refine VO_const hC d_AC_bit_5 ?_
    refine VO_icmp_ge hC d_AC_bit_7 (fun _ => ?_) (fun _ => ?_)
    · exact VO_sub [] rfl (B_AC_bit_16 hC s)
    · refine VO_const hC d_AC_bit_10 ?_
      refine VO_iload hC d_AC_bit_11 0 rfl ?_
      refine VO_ishl hC d_AC_bit_12 ?_
      refine VO_goto hC d_AC_bit_13 ?_
      exact VO_ireturn d_AC_bit_17
set_option maxRecDepth 20000 in
theorem M_AC_bit {l : Launch} {D : va_G} {ad : Nat → Nat} {cI cL : ClassId} (hj : Inj ad) {a0 : Int32} {s : St} {o : Int32 × St} (h : F_AC_bit a0 s = some o) : Cn l D ad cI cL y_AC_bit b_AC_bit 1 (some .int) 1 [.int a0] s (some (.int o.1)) o.2 := by
  refine Cn_ofI hj (plainFor_of_name (by decide)) (Nat.le_of_ble_eq_true rfl) [(0, .int a0)] rfl (fun G hC e1 e2 e3 e4 e5 hR => ?_)
  subst e1; subst e2; subst e3; subst e4; subst e5
  exact B_AC_bit hC a0 s o h hR
theorem d_NI_allDeeds_0 : PLa b_NI_allDeeds 0 0 1 := Or.inl ⟨0, by decide +kernel, rfl, rfl⟩
theorem d_NI_allDeeds_1 : DR b_NI_allDeeds 1 (.getfield 36) 3 4 := ⟨by decide +kernel, rfl⟩
theorem d_NI_allDeeds_4 : DR b_NI_allDeeds 4 (.invokestatic 69) 3 7 := ⟨by decide +kernel, rfl⟩
theorem d_NI_allDeeds_7 : PCi b_NI_allDeeds 7 1 8 := Or.inl ⟨1, by decide +kernel, by decide, rfl⟩
theorem d_NI_allDeeds_8 : DR b_NI_allDeeds 8 (.isub) 1 9 := ⟨by decide +kernel, rfl⟩
theorem d_NI_allDeeds_9 : DR b_NI_allDeeds 9 (.ireturn) 1 10 := ⟨by decide +kernel, rfl⟩
set_option maxRecDepth 20000 in
theorem B_NI_allDeeds {G : MCx} (hC : C0 G "AccusedChoose$Night" b_NI_allDeeds 1 2) {t0 : Nat} (h0 : isNI t0) (s : St) : VO G (RI G b_NI_allDeeds) (F_NI_allDeeds t0 s) 0 [(0, .ref (gad G t0))] [] s := by
  unfold F_NI_allDeeds
  refine VO_aload hC d_NI_allDeeds_0 0 rfl ?_
  refine VO_geti hC fl_NI_36 (sh_NI h0) rfl d_NI_allDeeds_1 ?_
  refine VO_callNI hC [.int (rd s t0 0)] [] nl_NI_69 d_NI_allDeeds_4 ys_AC_bit (fun o h => M_AC_bit hC.inj h) (by decide) rfl rfl (Nat.le_of_ble_eq_true rfl) (fun o1 => ?_)
  refine VO_const hC d_NI_allDeeds_7 ?_
  refine VO_isub hC d_NI_allDeeds_8 ?_
  exact VO_ireturn d_NI_allDeeds_9
set_option maxRecDepth 20000 in
theorem M_NI_allDeeds {l : Launch} {D : va_G} {ad : Nat → Nat} {cI cL : ClassId} (hj : Inj ad) {t0 : Nat} (h0 : isNI t0) {s : St} {o : Int32 × St} (h : F_NI_allDeeds t0 s = some o) : Cn l D ad cI cL y_NI_allDeeds b_NI_allDeeds 1 (some .int) 2 [.ref (ad t0)] s (some (.int o.1)) o.2 := by
  refine Cn_ofI hj (plainFor_of_name (by decide)) (Nat.le_of_ble_eq_true rfl) [(0, .ref (ad t0))] rfl (fun G hC e1 e2 e3 e4 e5 hR => ?_)
  subst e1; subst e2; subst e3; subst e4; subst e5
  exact B_NI_allDeeds hC h0 s o h hR
theorem d_AC_at_0 : PLi b_AC_at 0 1 1 := Or.inl ⟨1, by decide +kernel, rfl, rfl⟩
theorem d_AC_at_1 : DJ b_AC_at 1 (.ifCond .lt) 4 16 := ⟨15, by decide +kernel, rfl, by decide⟩
theorem d_AC_at_4 : PLi b_AC_at 4 1 5 := Or.inl ⟨1, by decide +kernel, rfl, rfl⟩
theorem d_AC_at_5 : PLa b_AC_at 5 0 6 := Or.inl ⟨0, by decide +kernel, rfl, rfl⟩
theorem d_AC_at_6 : DR b_AC_at 6 (.arraylength) 1 7 := ⟨by decide +kernel, rfl⟩
theorem d_AC_at_7 : DJ b_AC_at 7 (.if_icmp .ge) 10 16 := ⟨9, by decide +kernel, rfl, by decide⟩
theorem d_AC_at_10 : PLa b_AC_at 10 0 11 := Or.inl ⟨0, by decide +kernel, rfl, rfl⟩
theorem d_AC_at_11 : PLi b_AC_at 11 1 12 := Or.inl ⟨1, by decide +kernel, rfl, rfl⟩
theorem d_AC_at_12 : DR b_AC_at 12 (.iaload) 1 13 := ⟨by decide +kernel, rfl⟩
theorem d_AC_at_13 : DJ b_AC_at 13 .goto 16 18 := ⟨5, by decide +kernel, rfl, by decide⟩
theorem d_AC_at_16 : PCi b_AC_at 16 (-9) 18 := Or.inr (Or.inl ⟨(-9), by decide +kernel, by decide, rfl⟩)
theorem d_AC_at_18 : DR b_AC_at 18 (.ireturn) 1 19 := ⟨by decide +kernel, rfl⟩
set_option maxRecDepth 20000 in
theorem B_AC_at_16 {G : MCx} (hC : C0 G "AccusedChoose" b_AC_at 2 1) {t0 : Nat} (h0 : isIA t0) (s : St) : VO G (RI G b_AC_at) (F_AC_at_16 t0 s) 16 [] [] s := by
  unfold F_AC_at_16
  refine VO_const hC d_AC_at_16 ?_
  exact VO_ireturn d_AC_at_18
set_option maxRecDepth 20000 in
theorem B_AC_at {G : MCx} (hC : C0 G "AccusedChoose" b_AC_at 2 1) {t0 : Nat} (h0 : isIA t0) (a1 : Int32) (s : St) : VO G (RI G b_AC_at) (F_AC_at t0 a1 s) 0 [(0, .ref (gad G t0)), (1, .int a1)] [] s := by
  unfold F_AC_at
  refine VO_iload hC d_AC_at_0 1 rfl ?_
  refine VO_if_lt hC d_AC_at_1 (fun _ => ?_) (fun _ => ?_)
  · exact VO_sub [] rfl (B_AC_at_16 hC h0 s)
  · refine VO_iload hC d_AC_at_4 1 rfl ?_
    refine VO_aload hC d_AC_at_5 0 rfl ?_
    refine VO_alen hC h0 d_AC_at_6 ?_
    refine VO_icmp_ge hC d_AC_at_7 (fun _ => ?_) (fun _ => ?_)
    · exact VO_sub [] rfl (B_AC_at_16 hC h0 s)
    · refine VO_aload hC d_AC_at_10 0 rfl ?_
      refine VO_iload hC d_AC_at_11 1 rfl ?_
      refine VO_iaload hC h0 d_AC_at_12 (fun x1 => ?_)
      refine VO_goto hC d_AC_at_13 ?_
      exact VO_ireturn d_AC_at_18
set_option maxRecDepth 20000 in
theorem M_AC_at {l : Launch} {D : va_G} {ad : Nat → Nat} {cI cL : ClassId} (hj : Inj ad) {t0 : Nat} (h0 : isIA t0) {a1 : Int32} {s : St} {o : Int32 × St} (h : F_AC_at t0 a1 s = some o) : Cn l D ad cI cL y_AC_at b_AC_at 2 (some .int) 1 [.ref (ad t0), .int a1] s (some (.int o.1)) o.2 := by
  refine Cn_ofI hj (plainFor_of_name (by decide)) (Nat.le_of_ble_eq_true rfl) [(0, .ref (ad t0)), (1, .int a1)] rfl (fun G hC e1 e2 e3 e4 e5 hR => ?_)
  subst e1; subst e2; subst e3; subst e4; subst e5
  exact B_AC_at hC h0 a1 s o h hR
theorem d_PR_isThere_0 : PLi b_PR_isThere 0 1 1 := Or.inl ⟨1, by decide +kernel, rfl, rfl⟩
theorem d_PR_isThere_1 : DJ b_PR_isThere 1 (.ifCond .lt) 4 28 := ⟨27, by decide +kernel, rfl, by decide⟩
theorem d_PR_isThere_4 : PLi b_PR_isThere 4 1 5 := Or.inl ⟨1, by decide +kernel, rfl, rfl⟩
theorem d_PR_isThere_5 : PLa b_PR_isThere 5 0 6 := Or.inl ⟨0, by decide +kernel, rfl, rfl⟩
theorem d_PR_isThere_6 : DR b_PR_isThere 6 (.getfield 21) 3 9 := ⟨by decide +kernel, rfl⟩
theorem d_PR_isThere_9 : DJ b_PR_isThere 9 (.if_icmp .ge) 12 28 := ⟨19, by decide +kernel, rfl, by decide⟩
theorem d_PR_isThere_12 : PLi b_PR_isThere 12 2 13 := Or.inl ⟨2, by decide +kernel, rfl, rfl⟩
theorem d_PR_isThere_13 : DJ b_PR_isThere 13 (.ifCond .lt) 16 28 := ⟨15, by decide +kernel, rfl, by decide⟩
theorem d_PR_isThere_16 : PLi b_PR_isThere 16 2 17 := Or.inl ⟨2, by decide +kernel, rfl, rfl⟩
theorem d_PR_isThere_17 : PLa b_PR_isThere 17 0 18 := Or.inl ⟨0, by decide +kernel, rfl, rfl⟩
theorem d_PR_isThere_18 : DR b_PR_isThere 18 (.getfield 25) 3 21 := ⟨by decide +kernel, rfl⟩
theorem d_PR_isThere_21 : DJ b_PR_isThere 21 (.if_icmp .ge) 24 28 := ⟨7, by decide +kernel, rfl, by decide⟩
theorem d_PR_isThere_24 : PCi b_PR_isThere 24 1 25 := Or.inl ⟨1, by decide +kernel, by decide, rfl⟩
theorem d_PR_isThere_25 : DJ b_PR_isThere 25 .goto 28 29 := ⟨4, by decide +kernel, rfl, by decide⟩
theorem d_PR_isThere_28 : PCi b_PR_isThere 28 0 29 := Or.inl ⟨0, by decide +kernel, by decide, rfl⟩
theorem d_PR_isThere_29 : DR b_PR_isThere 29 (.ireturn) 1 30 := ⟨by decide +kernel, rfl⟩
set_option maxRecDepth 20000 in
theorem B_PR_isThere_28 {G : MCx} (hC : C0 G "AccusedChoose$Prices" b_PR_isThere 3 1) {t0 : Nat} (h0 : isPR t0) (s : St) : VO G (RZ G b_PR_isThere) (F_PR_isThere_28 t0 s) 28 [] [] s := by
  unfold F_PR_isThere_28
  refine VO_const hC d_PR_isThere_28 ?_
  exact VO_z0 d_PR_isThere_29
set_option maxRecDepth 20000 in
theorem B_PR_isThere {G : MCx} (hC : C0 G "AccusedChoose$Prices" b_PR_isThere 3 1) {t0 : Nat} (h0 : isPR t0) (a1 : Int32) (a2 : Int32) (s : St) : VO G (RZ G b_PR_isThere) (F_PR_isThere t0 a1 a2 s) 0 [(0, .ref (gad G t0)), (1, .int a1), (2, .int a2)] [] s := by
  unfold F_PR_isThere
  refine VO_iload hC d_PR_isThere_0 1 rfl ?_
  refine VO_if_lt hC d_PR_isThere_1 (fun _ => ?_) (fun _ => ?_)
  · exact VO_sub [] rfl (B_PR_isThere_28 hC h0 s)
  · refine VO_iload hC d_PR_isThere_4 1 rfl ?_
    refine VO_aload hC d_PR_isThere_5 0 rfl ?_
    refine VO_geti hC fl_PR_21 (sh_PR h0) rfl d_PR_isThere_6 ?_
    refine VO_icmp_ge hC d_PR_isThere_9 (fun _ => ?_) (fun _ => ?_)
    · exact VO_sub [] rfl (B_PR_isThere_28 hC h0 s)
    · refine VO_iload hC d_PR_isThere_12 2 rfl ?_
      refine VO_if_lt hC d_PR_isThere_13 (fun _ => ?_) (fun _ => ?_)
      · exact VO_sub [] rfl (B_PR_isThere_28 hC h0 s)
      · refine VO_iload hC d_PR_isThere_16 2 rfl ?_
        refine VO_aload hC d_PR_isThere_17 0 rfl ?_
        refine VO_geti hC fl_PR_25 (sh_PR h0) rfl d_PR_isThere_18 ?_
        refine VO_icmp_ge hC d_PR_isThere_21 (fun _ => ?_) (fun _ => ?_)
        · exact VO_sub [] rfl (B_PR_isThere_28 hC h0 s)
        · refine VO_const hC d_PR_isThere_24 ?_
          refine VO_goto hC d_PR_isThere_25 ?_
          exact VO_z1 d_PR_isThere_29
set_option maxRecDepth 20000 in
theorem M_PR_isThere {l : Launch} {D : va_G} {ad : Nat → Nat} {cI cL : ClassId} (hj : Inj ad) {t0 : Nat} (h0 : isPR t0) {a1 : Int32} {a2 : Int32} {s : St} {o : Int32 × St} (h : F_PR_isThere t0 a1 a2 s = some o) : Cn l D ad cI cL y_PR_isThere b_PR_isThere 3 (some .boolean) 1 [.ref (ad t0), .int a1, .int a2] s (some (.int o.1)) o.2 := by
  refine Cn_ofZ hj (plainFor_of_name (by decide)) (Nat.le_of_ble_eq_true rfl) [(0, .ref (ad t0)), (1, .int a1), (2, .int a2)] rfl (fun G hC e1 e2 e3 e4 e5 hR => ?_)
  subst e1; subst e2; subst e3; subst e4; subst e5
  exact B_PR_isThere hC h0 a1 a2 s o h hR
theorem d_PR_of_0 : PLa b_PR_of 0 0 1 := Or.inl ⟨0, by decide +kernel, rfl, rfl⟩
theorem d_PR_of_1 : PLi b_PR_of 1 1 2 := Or.inl ⟨1, by decide +kernel, rfl, rfl⟩
theorem d_PR_of_2 : PLi b_PR_of 2 2 3 := Or.inl ⟨2, by decide +kernel, rfl, rfl⟩
theorem d_PR_of_3 : DR b_PR_of 3 (.invokevirtual 39) 3 6 := ⟨by decide +kernel, rfl⟩
theorem d_PR_of_6 : DJ b_PR_of 6 (.ifCond .eq) 9 27 := ⟨21, by decide +kernel, rfl, by decide⟩
theorem d_PR_of_9 : PLa b_PR_of 9 0 10 := Or.inl ⟨0, by decide +kernel, rfl, rfl⟩
theorem d_PR_of_10 : DR b_PR_of 10 (.getfield 9) 3 13 := ⟨by decide +kernel, rfl⟩
theorem d_PR_of_13 : PLi b_PR_of 13 1 14 := Or.inl ⟨1, by decide +kernel, rfl, rfl⟩
theorem d_PR_of_14 : PCi b_PR_of 14 2 15 := Or.inl ⟨2, by decide +kernel, by decide, rfl⟩
theorem d_PR_of_15 : DR b_PR_of 15 (.imul) 1 16 := ⟨by decide +kernel, rfl⟩
theorem d_PR_of_16 : PCi b_PR_of 16 7 18 := Or.inr (Or.inl ⟨7, by decide +kernel, by decide, rfl⟩)
theorem d_PR_of_18 : DR b_PR_of 18 (.imul) 1 19 := ⟨by decide +kernel, rfl⟩
theorem d_PR_of_19 : PLi b_PR_of 19 2 20 := Or.inl ⟨2, by decide +kernel, rfl, rfl⟩
theorem d_PR_of_20 : DR b_PR_of 20 (.iadd) 1 21 := ⟨by decide +kernel, rfl⟩
theorem d_PR_of_21 : DR b_PR_of 21 (.invokestatic 45) 3 24 := ⟨by decide +kernel, rfl⟩
theorem d_PR_of_24 : DJ b_PR_of 24 .goto 27 29 := ⟨5, by decide +kernel, rfl, by decide⟩
theorem d_PR_of_27 : PCi b_PR_of 27 60 29 := Or.inr (Or.inl ⟨60, by decide +kernel, by decide, rfl⟩)
theorem d_PR_of_29 : DR b_PR_of 29 (.ireturn) 1 30 := ⟨by decide +kernel, rfl⟩
set_option maxRecDepth 20000 in
theorem B_PR_of {G : MCx} (hC : C0 G "AccusedChoose$Prices" b_PR_of 3 2) {t0 : Nat} (h0 : isPR t0) (a1 : Int32) (a2 : Int32) (s : St) : VO G (RI G b_PR_of) (F_PR_of t0 a1 a2 s) 0 [(0, .ref (gad G t0)), (1, .int a1), (2, .int a2)] [] s := by
  unfold F_PR_of
  refine VO_aload hC d_PR_of_0 0 rfl ?_
  refine VO_iload hC d_PR_of_1 1 rfl ?_
  refine VO_iload hC d_PR_of_2 2 rfl ?_
  refine VO_callVI hC [.int a1, .int a2] [] ml_PR_39 d_PR_of_3 yv_PR_isThere (sh_PR h0) rfl rfl (fun o h => M_PR_isThere hC.inj h0 h) (by decide) rfl rfl (Nat.le_of_ble_eq_true rfl) (fun o1 => ?_)
  refine VO_if_eq hC d_PR_of_6 (fun _ => ?_) (fun _ => ?_)
  · refine VO_const hC d_PR_of_27 ?_
    exact VO_ireturn d_PR_of_29
  · refine VO_aload hC d_PR_of_9 0 rfl ?_
    refine VO_getr (r := (t0 + 1)) hC fl_PR_9 (sh_PR h0) rfl d_PR_of_10 ?_
    refine VO_iload hC d_PR_of_13 1 rfl ?_
    refine VO_const hC d_PR_of_14 ?_
    refine VO_imul hC d_PR_of_15 ?_
    refine VO_const hC d_PR_of_16 ?_
    refine VO_imul hC d_PR_of_18 ?_
    refine VO_iload hC d_PR_of_19 2 rfl ?_
    refine VO_iadd hC d_PR_of_20 ?_
    refine VO_callNI hC [.ref (gad G (t0 + 1)), .int (((a1 * (2 : Int32)) * (7 : Int32)) + a2)] [] nl_PR_45 d_PR_of_21 ys_AC_at (fun o h => M_AC_at hC.inj (ia_PR1 h0) h) (by decide) rfl rfl (Nat.le_of_ble_eq_true rfl) (fun o2 => ?_)
    refine VO_goto hC d_PR_of_24 ?_
    exact VO_ireturn d_PR_of_29
set_option maxRecDepth 20000 in
theorem M_PR_of {l : Launch} {D : va_G} {ad : Nat → Nat} {cI cL : ClassId} (hj : Inj ad) {t0 : Nat} (h0 : isPR t0) {a1 : Int32} {a2 : Int32} {s : St} {o : Int32 × St} (h : F_PR_of t0 a1 a2 s = some o) : Cn l D ad cI cL y_PR_of b_PR_of 3 (some .int) 2 [.ref (ad t0), .int a1, .int a2] s (some (.int o.1)) o.2 := by
  refine Cn_ofI hj (plainFor_of_name (by decide)) (Nat.le_of_ble_eq_true rfl) [(0, .ref (ad t0)), (1, .int a1), (2, .int a2)] rfl (fun G hC e1 e2 e3 e4 e5 hR => ?_)
  subst e1; subst e2; subst e3; subst e4; subst e5
  exact B_PR_of hC h0 a1 a2 s o h hR
theorem d_AC_placeIn_0 : PCi b_AC_placeIn 0 0 1 := Or.inl ⟨0, by decide +kernel, by decide, rfl⟩
theorem d_AC_placeIn_1 : PSi b_AC_placeIn 1 3 2 := Or.inl ⟨3, by decide +kernel, rfl, rfl⟩
theorem d_AC_placeIn_2 : PLi b_AC_placeIn 2 3 3 := Or.inl ⟨3, by decide +kernel, rfl, rfl⟩
theorem d_AC_placeIn_3 : PLi b_AC_placeIn 3 1 4 := Or.inl ⟨1, by decide +kernel, rfl, rfl⟩
theorem d_AC_placeIn_4 : DJ b_AC_placeIn 4 (.if_icmp .ge) 7 28 := ⟨24, by decide +kernel, rfl, by decide⟩
theorem d_AC_placeIn_7 : PLi b_AC_placeIn 7 3 8 := Or.inl ⟨3, by decide +kernel, rfl, rfl⟩
theorem d_AC_placeIn_8 : PLa b_AC_placeIn 8 0 9 := Or.inl ⟨0, by decide +kernel, rfl, rfl⟩
theorem d_AC_placeIn_9 : DR b_AC_placeIn 9 (.arraylength) 1 10 := ⟨by decide +kernel, rfl⟩
theorem d_AC_placeIn_10 : DJ b_AC_placeIn 10 (.if_icmp .ge) 13 28 := ⟨18, by decide +kernel, rfl, by decide⟩
theorem d_AC_placeIn_13 : PLa b_AC_placeIn 13 0 14 := Or.inl ⟨0, by decide +kernel, rfl, rfl⟩
theorem d_AC_placeIn_14 : PLi b_AC_placeIn 14 3 15 := Or.inl ⟨3, by decide +kernel, rfl, rfl⟩
theorem d_AC_placeIn_15 : DR b_AC_placeIn 15 (.iaload) 1 16 := ⟨by decide +kernel, rfl⟩
theorem d_AC_placeIn_16 : PLi b_AC_placeIn 16 2 17 := Or.inl ⟨2, by decide +kernel, rfl, rfl⟩
theorem d_AC_placeIn_17 : DJ b_AC_placeIn 17 (.if_icmp .ne) 20 22 := ⟨5, by decide +kernel, rfl, by decide⟩
theorem d_AC_placeIn_20 : PLi b_AC_placeIn 20 3 21 := Or.inl ⟨3, by decide +kernel, rfl, rfl⟩
theorem d_AC_placeIn_21 : DR b_AC_placeIn 21 (.ireturn) 1 22 := ⟨by decide +kernel, rfl⟩
theorem d_AC_placeIn_22 : DR b_AC_placeIn 22 (.iinc 3 1) 3 25 := ⟨by decide +kernel, rfl⟩
theorem d_AC_placeIn_25 : DJ b_AC_placeIn 25 .goto 28 2 := ⟨-23, by decide +kernel, rfl, by decide⟩
theorem d_AC_placeIn_28 : PCi b_AC_placeIn 28 (-9) 30 := Or.inr (Or.inl ⟨(-9), by decide +kernel, by decide, rfl⟩)
theorem d_AC_placeIn_30 : DR b_AC_placeIn 30 (.ireturn) 1 31 := ⟨by decide +kernel, rfl⟩
set_option maxRecDepth 20000 in
theorem BH_AC_placeIn_2 {G : MCx} (hC : C0 G "AccusedChoose" b_AC_placeIn 4 1) {t0 : Nat} (h0 : isIA t0) {v1 : Int32} {v2 : Int32} (K2 : Int32 × St → Option (Int32 × St)) (hK2 : ∀ (w3 : Int32) (s : St), VO G (RI G b_AC_placeIn) (K2 (w3, s)) 2 [(0, .ref (gad G t0)), (1, .int v1), (2, .int v2), (3, .int w3)] [] s) (v3 : Int32) (s : St) : VO G (RI G b_AC_placeIn) (H_AC_placeIn_2 t0 v1 v2 K2 v3 s) 2 [(0, .ref (gad G t0)), (1, .int v1), (2, .int v2), (3, .int v3)] [] s := by
  unfold H_AC_placeIn_2
  refine VO_iload hC d_AC_placeIn_2 3 rfl ?_
  refine VO_iload hC d_AC_placeIn_3 1 rfl ?_
  refine VO_icmp_ge hC d_AC_placeIn_4 (fun _ => ?_) (fun _ => ?_)
  · refine VO_const hC d_AC_placeIn_28 ?_
    exact VO_ireturn d_AC_placeIn_30
  · refine VO_iload hC d_AC_placeIn_7 3 rfl ?_
    refine VO_aload hC d_AC_placeIn_8 0 rfl ?_
    refine VO_alen hC h0 d_AC_placeIn_9 ?_
    refine VO_icmp_ge hC d_AC_placeIn_10 (fun _ => ?_) (fun _ => ?_)
    · refine VO_const hC d_AC_placeIn_28 ?_
      exact VO_ireturn d_AC_placeIn_30
    · refine VO_aload hC d_AC_placeIn_13 0 rfl ?_
      refine VO_iload hC d_AC_placeIn_14 3 rfl ?_
      refine VO_iaload hC h0 d_AC_placeIn_15 (fun x1 => ?_)
      refine VO_iload hC d_AC_placeIn_16 2 rfl ?_
      refine VO_icmp_ne hC d_AC_placeIn_17 (fun _ => ?_) (fun _ => ?_)
      · refine VO_iload hC d_AC_placeIn_20 3 rfl ?_
        exact VO_ireturn d_AC_placeIn_21
      · refine VO_iinc hC d_AC_placeIn_22 3 rfl (by decide : Int32.ofInt 1 = 1) [(0, .ref (gad G t0)), (1, .int v1), (2, .int v2)] rfl (by decide) ?_
        refine VO_goto hC d_AC_placeIn_25 ?_
        exact VO_sub [1, 2, 3, 0] rfl (hK2 (v3 + 1) s)
set_option maxRecDepth 20000 in
theorem B_AC_placeIn_2 {G : MCx} (hC : C0 G "AccusedChoose" b_AC_placeIn 4 1) {t0 : Nat} (h0 : isIA t0) (v1 : Int32) (v2 : Int32) (v3 : Int32) (s : St) : VO G (RI G b_AC_placeIn) (F_AC_placeIn_2 t0 v1 v2 v3 s) 2 [(0, .ref (gad G t0)), (1, .int v1), (2, .int v2), (3, .int v3)] [] s := by
  exact VO_fix (G_AC_placeIn_2 t0 v1 v2) 2 (fun q => [(0, .ref (gad G t0)), (1, .int v1), (2, .int v2), (3, .int q.1)]) (fun q => q.2) (fun K hK q => BH_AC_placeIn_2 hC h0 K (fun w3 s => hK (w3, s)) q.1 q.2) FUEL (v3, s)
set_option maxRecDepth 20000 in
theorem B_AC_placeIn {G : MCx} (hC : C0 G "AccusedChoose" b_AC_placeIn 4 1) {t0 : Nat} (h0 : isIA t0) (a1 : Int32) (a2 : Int32) (s : St) : VO G (RI G b_AC_placeIn) (F_AC_placeIn t0 a1 a2 s) 0 [(0, .ref (gad G t0)), (1, .int a1), (2, .int a2)] [] s := by
  unfold F_AC_placeIn
  refine VO_const hC d_AC_placeIn_0 ?_
  refine VO_istore hC d_AC_placeIn_1 [(0, .ref (gad G t0)), (1, .int a1), (2, .int a2)] rfl (by decide) ?_
  exact VO_sub [1, 2, 3, 0] rfl (B_AC_placeIn_2 hC h0 a1 a2 (0 : Int32) s)
set_option maxRecDepth 20000 in
theorem M_AC_placeIn {l : Launch} {D : va_G} {ad : Nat → Nat} {cI cL : ClassId} (hj : Inj ad) {t0 : Nat} (h0 : isIA t0) {a1 : Int32} {a2 : Int32} {s : St} {o : Int32 × St} (h : F_AC_placeIn t0 a1 a2 s = some o) : Cn l D ad cI cL y_AC_placeIn b_AC_placeIn 4 (some .int) 1 [.ref (ad t0), .int a1, .int a2] s (some (.int o.1)) o.2 := by
  refine Cn_ofI hj (plainFor_of_name (by decide)) (Nat.le_of_ble_eq_true rfl) [(0, .ref (ad t0)), (1, .int a1), (2, .int a2)] rfl (fun G hC e1 e2 e3 e4 e5 hR => ?_)
  subst e1; subst e2; subst e3; subst e4; subst e5
  exact B_AC_placeIn hC h0 a1 a2 s o h hR
theorem d_NI_placeOf_0 : PLa b_NI_placeOf 0 0 1 := Or.inl ⟨0, by decide +kernel, rfl, rfl⟩
theorem d_NI_placeOf_1 : DR b_NI_placeOf 1 (.getfield 33) 3 4 := ⟨by decide +kernel, rfl⟩
theorem d_NI_placeOf_4 : PLa b_NI_placeOf 4 0 5 := Or.inl ⟨0, by decide +kernel, rfl, rfl⟩
theorem d_NI_placeOf_5 : DR b_NI_placeOf 5 (.getfield 40) 3 8 := ⟨by decide +kernel, rfl⟩
theorem d_NI_placeOf_8 : PLi b_NI_placeOf 8 1 9 := Or.inl ⟨1, by decide +kernel, rfl, rfl⟩
theorem d_NI_placeOf_9 : DR b_NI_placeOf 9 (.invokestatic 61) 3 12 := ⟨by decide +kernel, rfl⟩
theorem d_NI_placeOf_12 : DR b_NI_placeOf 12 (.ireturn) 1 13 := ⟨by decide +kernel, rfl⟩
set_option maxRecDepth 20000 in
theorem B_NI_placeOf {G : MCx} (hC : C0 G "AccusedChoose$Night" b_NI_placeOf 2 2) {t0 : Nat} (h0 : isNI t0) (a1 : Int32) (s : St) : VO G (RI G b_NI_placeOf) (F_NI_placeOf t0 a1 s) 0 [(0, .ref (gad G t0)), (1, .int a1)] [] s := by
  unfold F_NI_placeOf
  refine VO_aload hC d_NI_placeOf_0 0 rfl ?_
  refine VO_getr (r := (t0 + 8)) hC fl_NI_33 (sh_NI h0) rfl d_NI_placeOf_1 ?_
  refine VO_aload hC d_NI_placeOf_4 0 rfl ?_
  refine VO_geti hC fl_NI_40 (sh_NI h0) rfl d_NI_placeOf_5 ?_
  refine VO_iload hC d_NI_placeOf_8 1 rfl ?_
  refine VO_callNI hC [.ref (gad G (t0 + 8)), .int (rd s t0 1), .int a1] [] nl_NI_61 d_NI_placeOf_9 ys_AC_placeIn (fun o h => M_AC_placeIn hC.inj (ia_NI8 h0) h) (by decide) rfl rfl (Nat.le_of_ble_eq_true rfl) (fun o1 => ?_)
  exact VO_ireturn d_NI_placeOf_12
set_option maxRecDepth 20000 in
theorem M_NI_placeOf {l : Launch} {D : va_G} {ad : Nat → Nat} {cI cL : ClassId} (hj : Inj ad) {t0 : Nat} (h0 : isNI t0) {a1 : Int32} {s : St} {o : Int32 × St} (h : F_NI_placeOf t0 a1 s = some o) : Cn l D ad cI cL y_NI_placeOf b_NI_placeOf 2 (some .int) 2 [.ref (ad t0), .int a1] s (some (.int o.1)) o.2 := by
  refine Cn_ofI hj (plainFor_of_name (by decide)) (Nat.le_of_ble_eq_true rfl) [(0, .ref (ad t0)), (1, .int a1)] rfl (fun G hC e1 e2 e3 e4 e5 hR => ?_)
  subst e1; subst e2; subst e3; subst e4; subst e5
  exact B_NI_placeOf hC h0 a1 s o h hR
theorem d_PR_lightest_0 : PCi b_PR_lightest 0 (-9) 2 := Or.inr (Or.inl ⟨(-9), by decide +kernel, by decide, rfl⟩)
theorem d_PR_lightest_2 : PSi b_PR_lightest 2 3 3 := Or.inl ⟨3, by decide +kernel, rfl, rfl⟩
theorem d_PR_lightest_3 : DR b_PR_lightest 3 (.ldc 34) 2 5 := ⟨by decide +kernel, rfl⟩
theorem d_PR_lightest_5 : PSi b_PR_lightest 5 4 7 := Or.inr ⟨by decide +kernel, rfl⟩
theorem d_PR_lightest_7 : PCi b_PR_lightest 7 0 8 := Or.inl ⟨0, by decide +kernel, by decide, rfl⟩
theorem d_PR_lightest_8 : PSi b_PR_lightest 8 5 10 := Or.inr ⟨by decide +kernel, rfl⟩
theorem d_PR_lightest_10 : PLi b_PR_lightest 10 5 12 := Or.inr ⟨by decide +kernel, rfl⟩
theorem d_PR_lightest_12 : PLa b_PR_lightest 12 0 13 := Or.inl ⟨0, by decide +kernel, rfl, rfl⟩
theorem d_PR_lightest_13 : DR b_PR_lightest 13 (.getfield 25) 3 16 := ⟨by decide +kernel, rfl⟩
theorem d_PR_lightest_16 : DJ b_PR_lightest 16 (.if_icmp .ge) 19 58 := ⟨42, by decide +kernel, rfl, by decide⟩
theorem d_PR_lightest_19 : PLi b_PR_lightest 19 2 20 := Or.inl ⟨2, by decide +kernel, rfl, rfl⟩
theorem d_PR_lightest_20 : PLi b_PR_lightest 20 5 22 := Or.inr ⟨by decide +kernel, rfl⟩
theorem d_PR_lightest_22 : DR b_PR_lightest 22 (.invokestatic 49) 3 25 := ⟨by decide +kernel, rfl⟩
theorem d_PR_lightest_25 : DR b_PR_lightest 25 (.iand) 1 26 := ⟨by decide +kernel, rfl⟩
theorem d_PR_lightest_26 : DJ b_PR_lightest 26 (.ifCond .eq) 29 52 := ⟨26, by decide +kernel, rfl, by decide⟩
theorem d_PR_lightest_29 : PLa b_PR_lightest 29 0 30 := Or.inl ⟨0, by decide +kernel, rfl, rfl⟩
theorem d_PR_lightest_30 : PLi b_PR_lightest 30 1 31 := Or.inl ⟨1, by decide +kernel, rfl, rfl⟩
theorem d_PR_lightest_31 : PLi b_PR_lightest 31 5 33 := Or.inr ⟨by decide +kernel, rfl⟩
theorem d_PR_lightest_33 : DR b_PR_lightest 33 (.invokevirtual 42) 3 36 := ⟨by decide +kernel, rfl⟩
theorem d_PR_lightest_36 : PSi b_PR_lightest 36 6 38 := Or.inr ⟨by decide +kernel, rfl⟩
theorem d_PR_lightest_38 : PLi b_PR_lightest 38 6 40 := Or.inr ⟨by decide +kernel, rfl⟩
theorem d_PR_lightest_40 : PLi b_PR_lightest 40 4 42 := Or.inr ⟨by decide +kernel, rfl⟩
theorem d_PR_lightest_42 : DJ b_PR_lightest 42 (.if_icmp .ge) 45 52 := ⟨10, by decide +kernel, rfl, by decide⟩
theorem d_PR_lightest_45 : PLi b_PR_lightest 45 6 47 := Or.inr ⟨by decide +kernel, rfl⟩
theorem d_PR_lightest_47 : PSi b_PR_lightest 47 4 49 := Or.inr ⟨by decide +kernel, rfl⟩
theorem d_PR_lightest_49 : PLi b_PR_lightest 49 5 51 := Or.inr ⟨by decide +kernel, rfl⟩
theorem d_PR_lightest_51 : PSi b_PR_lightest 51 3 52 := Or.inl ⟨3, by decide +kernel, rfl, rfl⟩
theorem d_PR_lightest_52 : DR b_PR_lightest 52 (.iinc 5 1) 3 55 := ⟨by decide +kernel, rfl⟩
theorem d_PR_lightest_55 : DJ b_PR_lightest 55 .goto 58 10 := ⟨-45, by decide +kernel, rfl, by decide⟩
theorem d_PR_lightest_58 : PLi b_PR_lightest 58 3 59 := Or.inl ⟨3, by decide +kernel, rfl, rfl⟩
theorem d_PR_lightest_59 : DR b_PR_lightest 59 (.ireturn) 1 60 := ⟨by decide +kernel, rfl⟩
set_option maxRecDepth 20000 in
theorem B_PR_lightest_52 {G : MCx} (hC : C0 G "AccusedChoose$Prices" b_PR_lightest 7 3) {t0 : Nat} (h0 : isPR t0) {v1 : Int32} {v2 : Int32} (K10 : Int32 × Int32 × Int32 × St → Option (Int32 × St)) (hK10 : ∀ (w3 : Int32) (w4 : Int32) (w5 : Int32) (s : St), VO G (RI G b_PR_lightest) (K10 (w3, w4, w5, s)) 10 [(0, .ref (gad G t0)), (1, .int v1), (2, .int v2), (3, .int w3), (4, .int w4), (5, .int w5)] [] s) (v3 : Int32) (v4 : Int32) (v5 : Int32) (s : St) : VO G (RI G b_PR_lightest) (F_PR_lightest_52 t0 K10 v1 v2 v3 v4 v5 s) 52 [(0, .ref (gad G t0)), (1, .int v1), (2, .int v2), (3, .int v3), (4, .int v4), (5, .int v5)] [] s := by
  unfold F_PR_lightest_52
  refine VO_iinc hC d_PR_lightest_52 5 rfl (by decide : Int32.ofInt 1 = 1) [(0, .ref (gad G t0)), (1, .int v1), (2, .int v2), (3, .int v3), (4, .int v4)] rfl (by decide) ?_
  refine VO_goto hC d_PR_lightest_55 ?_
  exact VO_sub [1, 2, 3, 4, 5, 0] rfl (hK10 v3 v4 (v5 + 1) s)
set_option maxRecDepth 20000 in
theorem BH_PR_lightest_10 {G : MCx} (hC : C0 G "AccusedChoose$Prices" b_PR_lightest 7 3) {t0 : Nat} (h0 : isPR t0) {v1 : Int32} {v2 : Int32} (K10 : Int32 × Int32 × Int32 × St → Option (Int32 × St)) (hK10 : ∀ (w3 : Int32) (w4 : Int32) (w5 : Int32) (s : St), VO G (RI G b_PR_lightest) (K10 (w3, w4, w5, s)) 10 [(0, .ref (gad G t0)), (1, .int v1), (2, .int v2), (3, .int w3), (4, .int w4), (5, .int w5)] [] s) (v3 : Int32) (v4 : Int32) (v5 : Int32) (s : St) : VO G (RI G b_PR_lightest) (H_PR_lightest_10 t0 v1 v2 K10 v3 v4 v5 s) 10 [(0, .ref (gad G t0)), (1, .int v1), (2, .int v2), (3, .int v3), (4, .int v4), (5, .int v5)] [] s := by
  unfold H_PR_lightest_10
  refine VO_iload hC d_PR_lightest_10 5 rfl ?_
  refine VO_aload hC d_PR_lightest_12 0 rfl ?_
  refine VO_geti hC fl_PR_25 (sh_PR h0) rfl d_PR_lightest_13 ?_
  refine VO_icmp_ge hC d_PR_lightest_16 (fun _ => ?_) (fun _ => ?_)
  · refine VO_iload hC d_PR_lightest_58 3 rfl ?_
    exact VO_ireturn d_PR_lightest_59
  · refine VO_iload hC d_PR_lightest_19 2 rfl ?_
    refine VO_iload hC d_PR_lightest_20 5 rfl ?_
    refine VO_callNI hC [.int v5] [.int v2] nl_PR_49 d_PR_lightest_22 ys_AC_bit (fun o h => M_AC_bit hC.inj h) (by decide) rfl rfl (Nat.le_of_ble_eq_true rfl) (fun o1 => ?_)
    refine VO_iand hC d_PR_lightest_25 ?_
    refine VO_if_eq hC d_PR_lightest_26 (fun _ => ?_) (fun _ => ?_)
    · exact (B_PR_lightest_52 hC h0 K10 hK10 v3 v4 v5 o1.2)
    · refine VO_aload hC d_PR_lightest_29 0 rfl ?_
      refine VO_iload hC d_PR_lightest_30 1 rfl ?_
      refine VO_iload hC d_PR_lightest_31 5 rfl ?_
      refine VO_callVI hC [.int v1, .int v5] [] ml_PR_42 d_PR_lightest_33 yv_PR_of (sh_PR h0) rfl rfl (fun o h => M_PR_of hC.inj h0 h) (by decide) rfl rfl (Nat.le_of_ble_eq_true rfl) (fun o2 => ?_)
      refine VO_istore hC d_PR_lightest_36 [(0, .ref (gad G t0)), (1, .int v1), (2, .int v2), (3, .int v3), (4, .int v4), (5, .int v5)] rfl (by decide) ?_
      refine VO_iload hC d_PR_lightest_38 0 rfl ?_
      refine VO_iload hC d_PR_lightest_40 5 rfl ?_
      refine VO_icmp_ge hC d_PR_lightest_42 (fun _ => ?_) (fun _ => ?_)
      · exact VO_sub [1, 2, 3, 4, 5, 6] rfl (B_PR_lightest_52 hC h0 K10 hK10 v3 v4 v5 o2.2)
      · refine VO_iload hC d_PR_lightest_45 0 rfl ?_
        refine VO_istore hC d_PR_lightest_47 [(6, .int o2.1), (0, .ref (gad G t0)), (1, .int v1), (2, .int v2), (3, .int v3), (5, .int v5)] rfl (by decide) ?_
        refine VO_iload hC d_PR_lightest_49 6 rfl ?_
        refine VO_istore hC d_PR_lightest_51 [(4, .int o2.1), (6, .int o2.1), (0, .ref (gad G t0)), (1, .int v1), (2, .int v2), (5, .int v5)] rfl (by decide) ?_
        exact VO_sub [3, 4, 5, 0, 1, 6] rfl (B_PR_lightest_52 hC h0 K10 hK10 v5 o2.1 v5 o2.2)
set_option maxRecDepth 20000 in
theorem B_PR_lightest_10 {G : MCx} (hC : C0 G "AccusedChoose$Prices" b_PR_lightest 7 3) {t0 : Nat} (h0 : isPR t0) (v1 : Int32) (v2 : Int32) (v3 : Int32) (v4 : Int32) (v5 : Int32) (s : St) : VO G (RI G b_PR_lightest) (F_PR_lightest_10 t0 v1 v2 v3 v4 v5 s) 10 [(0, .ref (gad G t0)), (1, .int v1), (2, .int v2), (3, .int v3), (4, .int v4), (5, .int v5)] [] s := by
  exact VO_fix (G_PR_lightest_10 t0 v1 v2) 10 (fun q => [(0, .ref (gad G t0)), (1, .int v1), (2, .int v2), (3, .int q.1), (4, .int q.2.1), (5, .int q.2.2.1)]) (fun q => q.2.2.2) (fun K hK q => BH_PR_lightest_10 hC h0 K (fun w3 w4 w5 s => hK (w3, w4, w5, s)) q.1 q.2.1 q.2.2.1 q.2.2.2) FUEL (v3, v4, v5, s)
set_option maxRecDepth 20000 in
theorem B_PR_lightest {G : MCx} (hC : C0 G "AccusedChoose$Prices" b_PR_lightest 7 3) {t0 : Nat} (h0 : isPR t0) (a1 : Int32) (a2 : Int32) (s : St) : VO G (RI G b_PR_lightest) (F_PR_lightest t0 a1 a2 s) 0 [(0, .ref (gad G t0)), (1, .int a1), (2, .int a2)] [] s := by
  unfold F_PR_lightest
  refine VO_const hC d_PR_lightest_0 ?_
  refine VO_istore hC d_PR_lightest_2 [(0, .ref (gad G t0)), (1, .int a1), (2, .int a2)] rfl (by decide) ?_
  refine VO_ldc hC k_PR_34 d_PR_lightest_3 ?_
  refine VO_istore hC d_PR_lightest_5 [(3, .int (-9 : Int32)), (0, .ref (gad G t0)), (1, .int a1), (2, .int a2)] rfl (by decide) ?_
  refine VO_const hC d_PR_lightest_7 ?_
  refine VO_istore hC d_PR_lightest_8 [(4, .int (1000000 : Int32)), (3, .int (-9 : Int32)), (0, .ref (gad G t0)), (1, .int a1), (2, .int a2)] rfl (by decide) ?_
  exact VO_sub [3, 4, 5, 2, 1, 0] rfl (B_PR_lightest_10 hC h0 a1 a2 (-9 : Int32) (1000000 : Int32) (0 : Int32) s)
set_option maxRecDepth 20000 in
theorem M_PR_lightest {l : Launch} {D : va_G} {ad : Nat → Nat} {cI cL : ClassId} (hj : Inj ad) {t0 : Nat} (h0 : isPR t0) {a1 : Int32} {a2 : Int32} {s : St} {o : Int32 × St} (h : F_PR_lightest t0 a1 a2 s = some o) : Cn l D ad cI cL y_PR_lightest b_PR_lightest 7 (some .int) 3 [.ref (ad t0), .int a1, .int a2] s (some (.int o.1)) o.2 := by
  refine Cn_ofI hj (plainFor_of_name (by decide)) (Nat.le_of_ble_eq_true rfl) [(0, .ref (ad t0)), (1, .int a1), (2, .int a2)] rfl (fun G hC e1 e2 e3 e4 e5 hR => ?_)
  subst e1; subst e2; subst e3; subst e4; subst e5
  exact B_PR_lightest hC h0 a1 a2 s o h hR
theorem d_AC_has_0 : PLi b_AC_has 0 0 1 := Or.inl ⟨0, by decide +kernel, rfl, rfl⟩
theorem d_AC_has_1 : PLi b_AC_has 1 1 2 := Or.inl ⟨1, by decide +kernel, rfl, rfl⟩
theorem d_AC_has_2 : DR b_AC_has 2 (.invokestatic 276) 3 5 := ⟨by decide +kernel, rfl⟩
theorem d_AC_has_5 : DR b_AC_has 5 (.iand) 1 6 := ⟨by decide +kernel, rfl⟩
theorem d_AC_has_6 : DJ b_AC_has 6 (.ifCond .eq) 9 13 := ⟨7, by decide +kernel, rfl, by decide⟩
theorem d_AC_has_9 : PCi b_AC_has 9 1 10 := Or.inl ⟨1, by decide +kernel, by decide, rfl⟩
theorem d_AC_has_10 : DJ b_AC_has 10 .goto 13 14 := ⟨4, by decide +kernel, rfl, by decide⟩
theorem d_AC_has_13 : PCi b_AC_has 13 0 14 := Or.inl ⟨0, by decide +kernel, by decide, rfl⟩
theorem d_AC_has_14 : DR b_AC_has 14 (.ireturn) 1 15 := ⟨by decide +kernel, rfl⟩
set_option maxRecDepth 20000 in
theorem B_AC_has {G : MCx} (hC : C0 G "AccusedChoose" b_AC_has 2 2) (a0 : Int32) (a1 : Int32) (s : St) : VO G (RZ G b_AC_has) (F_AC_has a0 a1 s) 0 [(0, .int a0), (1, .int a1)] [] s := by
  unfold F_AC_has
  refine VO_iload hC d_AC_has_0 0 rfl ?_
  refine VO_iload hC d_AC_has_1 1 rfl ?_
  refine VO_callSI hC [.int a1] [.int a0] ml_AC_276 d_AC_has_2 ys_AC_bit (fun o h => M_AC_bit hC.inj h) (by decide) rfl rfl (Nat.le_of_ble_eq_true rfl) (fun o1 => ?_)
  refine VO_iand hC d_AC_has_5 ?_
  refine VO_if_eq hC d_AC_has_6 (fun _ => ?_) (fun _ => ?_)
  · refine VO_const hC d_AC_has_13 ?_
    exact VO_z0 d_AC_has_14
  · refine VO_const hC d_AC_has_9 ?_
    refine VO_goto hC d_AC_has_10 ?_
    exact VO_z1 d_AC_has_14
set_option maxRecDepth 20000 in
theorem M_AC_has {l : Launch} {D : va_G} {ad : Nat → Nat} {cI cL : ClassId} (hj : Inj ad) {a0 : Int32} {a1 : Int32} {s : St} {o : Int32 × St} (h : F_AC_has a0 a1 s = some o) : Cn l D ad cI cL y_AC_has b_AC_has 2 (some .boolean) 2 [.int a0, .int a1] s (some (.int o.1)) o.2 := by
  refine Cn_ofZ hj (plainFor_of_name (by decide)) (Nat.le_of_ble_eq_true rfl) [(0, .int a0), (1, .int a1)] rfl (fun G hC e1 e2 e3 e4 e5 hR => ?_)
  subst e1; subst e2; subst e3; subst e4; subst e5
  exact B_AC_has hC a0 a1 s o h hR
theorem d_PR_allows_0 : PLa b_PR_allows 0 0 1 := Or.inl ⟨0, by decide +kernel, rfl, rfl⟩
theorem d_PR_allows_1 : PLi b_PR_allows 1 1 2 := Or.inl ⟨1, by decide +kernel, rfl, rfl⟩
theorem d_PR_allows_2 : PLi b_PR_allows 2 2 3 := Or.inl ⟨2, by decide +kernel, rfl, rfl⟩
theorem d_PR_allows_3 : DR b_PR_allows 3 (.invokevirtual 39) 3 6 := ⟨by decide +kernel, rfl⟩
theorem d_PR_allows_6 : DJ b_PR_allows 6 (.ifCond .eq) 9 24 := ⟨18, by decide +kernel, rfl, by decide⟩
theorem d_PR_allows_9 : PLa b_PR_allows 9 0 10 := Or.inl ⟨0, by decide +kernel, rfl, rfl⟩
theorem d_PR_allows_10 : PLi b_PR_allows 10 1 11 := Or.inl ⟨1, by decide +kernel, rfl, rfl⟩
theorem d_PR_allows_11 : PLi b_PR_allows 11 2 12 := Or.inl ⟨2, by decide +kernel, rfl, rfl⟩
theorem d_PR_allows_12 : DR b_PR_allows 12 (.invokevirtual 42) 3 15 := ⟨by decide +kernel, rfl⟩
theorem d_PR_allows_15 : DR b_PR_allows 15 (.ldc 34) 2 17 := ⟨by decide +kernel, rfl⟩
theorem d_PR_allows_17 : DJ b_PR_allows 17 (.if_icmp .ge) 20 24 := ⟨7, by decide +kernel, rfl, by decide⟩
theorem d_PR_allows_20 : PCi b_PR_allows 20 1 21 := Or.inl ⟨1, by decide +kernel, by decide, rfl⟩
theorem d_PR_allows_21 : DJ b_PR_allows 21 .goto 24 25 := ⟨4, by decide +kernel, rfl, by decide⟩
theorem d_PR_allows_24 : PCi b_PR_allows 24 0 25 := Or.inl ⟨0, by decide +kernel, by decide, rfl⟩
theorem d_PR_allows_25 : DR b_PR_allows 25 (.ireturn) 1 26 := ⟨by decide +kernel, rfl⟩
set_option maxRecDepth 20000 in
theorem B_PR_allows_24 {G : MCx} (hC : C0 G "AccusedChoose$Prices" b_PR_allows 3 3) {t0 : Nat} (h0 : isPR t0) (s : St) : VO G (RZ G b_PR_allows) (F_PR_allows_24 t0 s) 24 [] [] s := by
  unfold F_PR_allows_24
  refine VO_const hC d_PR_allows_24 ?_
  exact VO_z0 d_PR_allows_25
set_option maxRecDepth 20000 in
theorem B_PR_allows {G : MCx} (hC : C0 G "AccusedChoose$Prices" b_PR_allows 3 3) {t0 : Nat} (h0 : isPR t0) (a1 : Int32) (a2 : Int32) (s : St) : VO G (RZ G b_PR_allows) (F_PR_allows t0 a1 a2 s) 0 [(0, .ref (gad G t0)), (1, .int a1), (2, .int a2)] [] s := by
  unfold F_PR_allows
  refine VO_aload hC d_PR_allows_0 0 rfl ?_
  refine VO_iload hC d_PR_allows_1 1 rfl ?_
  refine VO_iload hC d_PR_allows_2 2 rfl ?_
  refine VO_callVI hC [.int a1, .int a2] [] ml_PR_39 d_PR_allows_3 yv_PR_isThere (sh_PR h0) rfl rfl (fun o h => M_PR_isThere hC.inj h0 h) (by decide) rfl rfl (Nat.le_of_ble_eq_true rfl) (fun o1 => ?_)
  refine VO_if_eq hC d_PR_allows_6 (fun _ => ?_) (fun _ => ?_)
  · exact VO_sub [] rfl (B_PR_allows_24 hC h0 o1.2)
  · refine VO_aload hC d_PR_allows_9 0 rfl ?_
    refine VO_iload hC d_PR_allows_10 1 rfl ?_
    refine VO_iload hC d_PR_allows_11 2 rfl ?_
    refine VO_callVI hC [.int a1, .int a2] [] ml_PR_42 d_PR_allows_12 yv_PR_of (sh_PR h0) rfl rfl (fun o h => M_PR_of hC.inj h0 h) (by decide) rfl rfl (Nat.le_of_ble_eq_true rfl) (fun o2 => ?_)
    refine VO_ldc hC k_PR_34 d_PR_allows_15 ?_
    refine VO_icmp_ge hC d_PR_allows_17 (fun _ => ?_) (fun _ => ?_)
    · exact VO_sub [] rfl (B_PR_allows_24 hC h0 o2.2)
    · refine VO_const hC d_PR_allows_20 ?_
      refine VO_goto hC d_PR_allows_21 ?_
      exact VO_z1 d_PR_allows_25
set_option maxRecDepth 20000 in
theorem M_PR_allows {l : Launch} {D : va_G} {ad : Nat → Nat} {cI cL : ClassId} (hj : Inj ad) {t0 : Nat} (h0 : isPR t0) {a1 : Int32} {a2 : Int32} {s : St} {o : Int32 × St} (h : F_PR_allows t0 a1 a2 s = some o) : Cn l D ad cI cL y_PR_allows b_PR_allows 3 (some .boolean) 3 [.ref (ad t0), .int a1, .int a2] s (some (.int o.1)) o.2 := by
  refine Cn_ofZ hj (plainFor_of_name (by decide)) (Nat.le_of_ble_eq_true rfl) [(0, .ref (ad t0)), (1, .int a1), (2, .int a2)] rfl (fun G hC e1 e2 e3 e4 e5 hR => ?_)
  subst e1; subst e2; subst e3; subst e4; subst e5
  exact B_PR_allows hC h0 a1 a2 s o h hR
theorem d_LB_choice_0 : PLa b_LB_choice 0 1 1 := Or.inl ⟨1, by decide +kernel, rfl, rfl⟩
theorem d_LB_choice_1 : DR b_LB_choice 1 (.getfield 31) 3 4 := ⟨by decide +kernel, rfl⟩
theorem d_LB_choice_4 : PLi b_LB_choice 4 2 5 := Or.inl ⟨2, by decide +kernel, rfl, rfl⟩
theorem d_LB_choice_5 : DR b_LB_choice 5 (.invokestatic 34) 3 8 := ⟨by decide +kernel, rfl⟩
theorem d_LB_choice_8 : PSi b_LB_choice 8 4 10 := Or.inr ⟨by decide +kernel, rfl⟩
theorem d_LB_choice_10 : PLa b_LB_choice 10 1 11 := Or.inl ⟨1, by decide +kernel, rfl, rfl⟩
theorem d_LB_choice_11 : DR b_LB_choice 11 (.getfield 56) 3 14 := ⟨by decide +kernel, rfl⟩
theorem d_LB_choice_14 : PLi b_LB_choice 14 4 16 := Or.inr ⟨by decide +kernel, rfl⟩
theorem d_LB_choice_16 : DR b_LB_choice 16 (.invokestatic 34) 3 19 := ⟨by decide +kernel, rfl⟩
theorem d_LB_choice_19 : PSi b_LB_choice 19 5 21 := Or.inr ⟨by decide +kernel, rfl⟩
theorem d_LB_choice_21 : PLa b_LB_choice 21 1 22 := Or.inl ⟨1, by decide +kernel, rfl, rfl⟩
theorem d_LB_choice_22 : PLi b_LB_choice 22 5 24 := Or.inr ⟨by decide +kernel, rfl⟩
theorem d_LB_choice_24 : DR b_LB_choice 24 (.invokevirtual 59) 3 27 := ⟨by decide +kernel, rfl⟩
theorem d_LB_choice_27 : PLi b_LB_choice 27 2 28 := Or.inl ⟨2, by decide +kernel, rfl, rfl⟩
theorem d_LB_choice_28 : DJ b_LB_choice 28 (.if_icmp .gt) 31 39 := ⟨11, by decide +kernel, rfl, by decide⟩
theorem d_LB_choice_31 : PLa b_LB_choice 31 0 32 := Or.inl ⟨0, by decide +kernel, rfl, rfl⟩
theorem d_LB_choice_32 : PLi b_LB_choice 32 4 34 := Or.inr ⟨by decide +kernel, rfl⟩
theorem d_LB_choice_34 : PLi b_LB_choice 34 3 35 := Or.inl ⟨3, by decide +kernel, rfl, rfl⟩
theorem d_LB_choice_35 : DR b_LB_choice 35 (.invokevirtual 62) 3 38 := ⟨by decide +kernel, rfl⟩
theorem d_LB_choice_38 : DR b_LB_choice 38 (.ireturn) 1 39 := ⟨by decide +kernel, rfl⟩
theorem d_LB_choice_39 : PCi b_LB_choice 39 (-9) 41 := Or.inr (Or.inl ⟨(-9), by decide +kernel, by decide, rfl⟩)
theorem d_LB_choice_41 : PSi b_LB_choice 41 6 43 := Or.inr ⟨by decide +kernel, rfl⟩
theorem d_LB_choice_43 : DR b_LB_choice 43 (.ldc 65) 2 45 := ⟨by decide +kernel, rfl⟩
theorem d_LB_choice_45 : PSi b_LB_choice 45 7 47 := Or.inr ⟨by decide +kernel, rfl⟩
theorem d_LB_choice_47 : PCi b_LB_choice 47 0 48 := Or.inl ⟨0, by decide +kernel, by decide, rfl⟩
theorem d_LB_choice_48 : PSi b_LB_choice 48 8 50 := Or.inr ⟨by decide +kernel, rfl⟩
theorem d_LB_choice_50 : PLi b_LB_choice 50 8 52 := Or.inr ⟨by decide +kernel, rfl⟩
theorem d_LB_choice_52 : PLa b_LB_choice 52 0 53 := Or.inl ⟨0, by decide +kernel, rfl, rfl⟩
theorem d_LB_choice_53 : DR b_LB_choice 53 (.getfield 66) 3 56 := ⟨by decide +kernel, rfl⟩
theorem d_LB_choice_56 : DJ b_LB_choice 56 (.if_icmp .ge) 59 134 := ⟨78, by decide +kernel, rfl, by decide⟩
theorem d_LB_choice_59 : PLi b_LB_choice 59 3 60 := Or.inl ⟨3, by decide +kernel, rfl, rfl⟩
theorem d_LB_choice_60 : PLi b_LB_choice 60 8 62 := Or.inr ⟨by decide +kernel, rfl⟩
theorem d_LB_choice_62 : DR b_LB_choice 62 (.invokestatic 69) 3 65 := ⟨by decide +kernel, rfl⟩
theorem d_LB_choice_65 : DJ b_LB_choice 65 (.ifCond .eq) 68 128 := ⟨63, by decide +kernel, rfl, by decide⟩
theorem d_LB_choice_68 : PLa b_LB_choice 68 0 69 := Or.inl ⟨0, by decide +kernel, rfl, rfl⟩
theorem d_LB_choice_69 : PLi b_LB_choice 69 4 71 := Or.inr ⟨by decide +kernel, rfl⟩
theorem d_LB_choice_71 : PLi b_LB_choice 71 8 73 := Or.inr ⟨by decide +kernel, rfl⟩
theorem d_LB_choice_73 : DR b_LB_choice 73 (.invokevirtual 73) 3 76 := ⟨by decide +kernel, rfl⟩
theorem d_LB_choice_76 : DJ b_LB_choice 76 (.ifCond .eq) 79 128 := ⟨52, by decide +kernel, rfl, by decide⟩
theorem d_LB_choice_79 : PLa b_LB_choice 79 0 80 := Or.inl ⟨0, by decide +kernel, rfl, rfl⟩
theorem d_LB_choice_80 : PLa b_LB_choice 80 1 81 := Or.inl ⟨1, by decide +kernel, rfl, rfl⟩
theorem d_LB_choice_81 : PLi b_LB_choice 81 2 82 := Or.inl ⟨2, by decide +kernel, rfl, rfl⟩
theorem d_LB_choice_82 : PCi b_LB_choice 82 1 83 := Or.inl ⟨1, by decide +kernel, by decide, rfl⟩
theorem d_LB_choice_83 : DR b_LB_choice 83 (.iadd) 1 84 := ⟨by decide +kernel, rfl⟩
theorem d_LB_choice_84 : PLi b_LB_choice 84 3 85 := Or.inl ⟨3, by decide +kernel, rfl, rfl⟩
theorem d_LB_choice_85 : PLi b_LB_choice 85 8 87 := Or.inr ⟨by decide +kernel, rfl⟩
theorem d_LB_choice_87 : DR b_LB_choice 87 (.invokestatic 52) 3 90 := ⟨by decide +kernel, rfl⟩
theorem d_LB_choice_90 : PCi b_LB_choice 90 (-1) 91 := Or.inl ⟨(-1), by decide +kernel, by decide, rfl⟩
theorem d_LB_choice_91 : DR b_LB_choice 91 (.ixor) 1 92 := ⟨by decide +kernel, rfl⟩
theorem d_LB_choice_92 : DR b_LB_choice 92 (.iand) 1 93 := ⟨by decide +kernel, rfl⟩
theorem d_LB_choice_93 : PLi b_LB_choice 93 5 95 := Or.inr ⟨by decide +kernel, rfl⟩
theorem d_LB_choice_95 : DR b_LB_choice 95 (.invokestatic 76) 3 98 := ⟨by decide +kernel, rfl⟩
theorem d_LB_choice_98 : PSi b_LB_choice 98 9 100 := Or.inr ⟨by decide +kernel, rfl⟩
theorem d_LB_choice_100 : PLa b_LB_choice 100 0 101 := Or.inl ⟨0, by decide +kernel, rfl, rfl⟩
theorem d_LB_choice_101 : PLi b_LB_choice 101 4 103 := Or.inr ⟨by decide +kernel, rfl⟩
theorem d_LB_choice_103 : PLi b_LB_choice 103 8 105 := Or.inr ⟨by decide +kernel, rfl⟩
theorem d_LB_choice_105 : DR b_LB_choice 105 (.invokevirtual 42) 3 108 := ⟨by decide +kernel, rfl⟩
theorem d_LB_choice_108 : PLi b_LB_choice 108 9 110 := Or.inr ⟨by decide +kernel, rfl⟩
theorem d_LB_choice_110 : DR b_LB_choice 110 (.iadd) 1 111 := ⟨by decide +kernel, rfl⟩
theorem d_LB_choice_111 : PSi b_LB_choice 111 10 113 := Or.inr ⟨by decide +kernel, rfl⟩
theorem d_LB_choice_113 : PLi b_LB_choice 113 10 115 := Or.inr ⟨by decide +kernel, rfl⟩
theorem d_LB_choice_115 : PLi b_LB_choice 115 7 117 := Or.inr ⟨by decide +kernel, rfl⟩
theorem d_LB_choice_117 : DJ b_LB_choice 117 (.if_icmp .ge) 120 128 := ⟨11, by decide +kernel, rfl, by decide⟩
theorem d_LB_choice_120 : PLi b_LB_choice 120 10 122 := Or.inr ⟨by decide +kernel, rfl⟩
theorem d_LB_choice_122 : PSi b_LB_choice 122 7 124 := Or.inr ⟨by decide +kernel, rfl⟩
theorem d_LB_choice_124 : PLi b_LB_choice 124 8 126 := Or.inr ⟨by decide +kernel, rfl⟩
theorem d_LB_choice_126 : PSi b_LB_choice 126 6 128 := Or.inr ⟨by decide +kernel, rfl⟩
theorem d_LB_choice_128 : DR b_LB_choice 128 (.iinc 8 1) 3 131 := ⟨by decide +kernel, rfl⟩
theorem d_LB_choice_131 : DJ b_LB_choice 131 .goto 134 50 := ⟨-81, by decide +kernel, rfl, by decide⟩
theorem d_LB_choice_134 : PLi b_LB_choice 134 6 136 := Or.inr ⟨by decide +kernel, rfl⟩
theorem d_LB_choice_136 : DR b_LB_choice 136 (.ireturn) 1 137 := ⟨by decide +kernel, rfl⟩
theorem d_LB_monthsBehind_0 : PLi b_LB_monthsBehind 0 3 1 := Or.inl ⟨3, by decide +kernel, rfl, rfl⟩
theorem d_LB_monthsBehind_1 : PSi b_LB_monthsBehind 1 5 3 := Or.inr ⟨by decide +kernel, rfl⟩
theorem d_LB_monthsBehind_3 : PLi b_LB_monthsBehind 3 2 4 := Or.inl ⟨2, by decide +kernel, rfl, rfl⟩
theorem d_LB_monthsBehind_4 : PSi b_LB_monthsBehind 4 6 6 := Or.inr ⟨by decide +kernel, rfl⟩
theorem d_LB_monthsBehind_6 : PLi b_LB_monthsBehind 6 6 8 := Or.inr ⟨by decide +kernel, rfl⟩
theorem d_LB_monthsBehind_8 : PLa b_LB_monthsBehind 8 1 9 := Or.inl ⟨1, by decide +kernel, rfl, rfl⟩
theorem d_LB_monthsBehind_9 : DR b_LB_monthsBehind 9 (.getfield 28) 3 12 := ⟨by decide +kernel, rfl⟩
theorem d_LB_monthsBehind_12 : DJ b_LB_monthsBehind 12 (.if_icmp .ge) 15 67 := ⟨55, by decide +kernel, rfl, by decide⟩
theorem d_LB_monthsBehind_15 : PLa b_LB_monthsBehind 15 0 16 := Or.inl ⟨0, by decide +kernel, rfl, rfl⟩
theorem d_LB_monthsBehind_16 : PLa b_LB_monthsBehind 16 1 17 := Or.inl ⟨1, by decide +kernel, rfl, rfl⟩
theorem d_LB_monthsBehind_17 : PLi b_LB_monthsBehind 17 6 19 := Or.inr ⟨by decide +kernel, rfl⟩
theorem d_LB_monthsBehind_19 : PLi b_LB_monthsBehind 19 5 21 := Or.inr ⟨by decide +kernel, rfl⟩
theorem d_LB_monthsBehind_21 : DR b_LB_monthsBehind 21 (.invokestatic 38) 3 24 := ⟨by decide +kernel, rfl⟩
theorem d_LB_monthsBehind_24 : PSi b_LB_monthsBehind 24 7 26 := Or.inr ⟨by decide +kernel, rfl⟩
theorem d_LB_monthsBehind_26 : PLa b_LB_monthsBehind 26 1 27 := Or.inl ⟨1, by decide +kernel, rfl, rfl⟩
theorem d_LB_monthsBehind_27 : DR b_LB_monthsBehind 27 (.getfield 31) 3 30 := ⟨by decide +kernel, rfl⟩
theorem d_LB_monthsBehind_30 : PLi b_LB_monthsBehind 30 6 32 := Or.inr ⟨by decide +kernel, rfl⟩
theorem d_LB_monthsBehind_32 : DR b_LB_monthsBehind 32 (.invokestatic 34) 3 35 := ⟨by decide +kernel, rfl⟩
theorem d_LB_monthsBehind_35 : PLi b_LB_monthsBehind 35 4 37 := Or.inr ⟨by decide +kernel, rfl⟩
theorem d_LB_monthsBehind_37 : DJ b_LB_monthsBehind 37 (.if_icmp .ne) 40 49 := ⟨12, by decide +kernel, rfl, by decide⟩
theorem d_LB_monthsBehind_40 : PLa b_LB_monthsBehind 40 0 41 := Or.inl ⟨0, by decide +kernel, rfl, rfl⟩
theorem d_LB_monthsBehind_41 : PLi b_LB_monthsBehind 41 4 43 := Or.inr ⟨by decide +kernel, rfl⟩
theorem d_LB_monthsBehind_43 : PLi b_LB_monthsBehind 43 7 45 := Or.inr ⟨by decide +kernel, rfl⟩
theorem d_LB_monthsBehind_45 : DR b_LB_monthsBehind 45 (.invokevirtual 42) 3 48 := ⟨by decide +kernel, rfl⟩
theorem d_LB_monthsBehind_48 : DR b_LB_monthsBehind 48 (.ireturn) 1 49 := ⟨by decide +kernel, rfl⟩
theorem d_LB_monthsBehind_49 : PLi b_LB_monthsBehind 49 5 51 := Or.inr ⟨by decide +kernel, rfl⟩
theorem d_LB_monthsBehind_51 : PLi b_LB_monthsBehind 51 7 53 := Or.inr ⟨by decide +kernel, rfl⟩
theorem d_LB_monthsBehind_53 : DR b_LB_monthsBehind 53 (.invokestatic 52) 3 56 := ⟨by decide +kernel, rfl⟩
theorem d_LB_monthsBehind_56 : PCi b_LB_monthsBehind 56 (-1) 57 := Or.inl ⟨(-1), by decide +kernel, by decide, rfl⟩
theorem d_LB_monthsBehind_57 : DR b_LB_monthsBehind 57 (.ixor) 1 58 := ⟨by decide +kernel, rfl⟩
theorem d_LB_monthsBehind_58 : DR b_LB_monthsBehind 58 (.iand) 1 59 := ⟨by decide +kernel, rfl⟩
theorem d_LB_monthsBehind_59 : PSi b_LB_monthsBehind 59 5 61 := Or.inr ⟨by decide +kernel, rfl⟩
theorem d_LB_monthsBehind_61 : DR b_LB_monthsBehind 61 (.iinc 6 1) 3 64 := ⟨by decide +kernel, rfl⟩
theorem d_LB_monthsBehind_64 : DJ b_LB_monthsBehind 64 .goto 67 6 := ⟨-58, by decide +kernel, rfl, by decide⟩
theorem d_LB_monthsBehind_67 : PCi b_LB_monthsBehind 67 60 69 := Or.inr (Or.inl ⟨60, by decide +kernel, by decide, rfl⟩)
theorem d_LB_monthsBehind_69 : DR b_LB_monthsBehind 69 (.ireturn) 1 70 := ⟨by decide +kernel, rfl⟩
set_option maxRecDepth 20000 in
theorem B_LB_choice_128 {dd : Nat} (hdd : 4 ≤ dd) {G : MCx} (hC : C0 G "AccusedChoose$LastBack" b_LB_choice 11 (dd + 1)) (rMB : Nat → Nat → Int32 → Int32 → Int32 → St → Option (Int32 × St)) (hMB : ∀ (t0 : Nat) (t1 : Nat) (h0 : isPR t0) (h1 : isNI t1) (a2 : Int32) (a3 : Int32) (a4 : Int32) (s : St) (o : Int32 × St), rMB t0 t1 a2 a3 a4 s = some o → Cn (gl G) (gD G) (gad G) (gI G) (gL G) y_LB_monthsBehind b_LB_monthsBehind 8 (some .int) dd [.ref (gad G t0), .ref (gad G t1), .int a2, .int a3, .int a4] s (some (.int o.1)) o.2) {t0 : Nat} (h0 : isPR t0) {t1 : Nat} (h1 : isNI t1) {v2 : Int32} {v3 : Int32} {v4 : Int32} {v5 : Int32} (K50 : Int32 × Int32 × Int32 × St → Option (Int32 × St)) (hK50 : ∀ (w6 : Int32) (w7 : Int32) (w8 : Int32) (s : St), VO G (RI G b_LB_choice) (K50 (w6, w7, w8, s)) 50 [(0, .ref (gad G t0)), (1, .ref (gad G t1)), (2, .int v2), (3, .int v3), (4, .int v4), (5, .int v5), (6, .int w6), (7, .int w7), (8, .int w8)] [] s) (v6 : Int32) (v7 : Int32) (v8 : Int32) (s : St) : VO G (RI G b_LB_choice) (F_LB_choice_128 rMB t0 t1 K50 v2 v3 v4 v5 v6 v7 v8 s) 128 [(0, .ref (gad G t0)), (1, .ref (gad G t1)), (2, .int v2), (3, .int v3), (4, .int v4), (5, .int v5), (6, .int v6), (7, .int v7), (8, .int v8)] [] s := by
  unfold F_LB_choice_128
  refine VO_iinc hC d_LB_choice_128 8 rfl (by decide : Int32.ofInt 1 = 1) [(0, .ref (gad G t0)), (1, .ref (gad G t1)), (2, .int v2), (3, .int v3), (4, .int v4), (5, .int v5), (6, .int v6), (7, .int v7)] rfl (by decide) ?_
  refine VO_goto hC d_LB_choice_131 ?_
  exact VO_sub [1, 2, 3, 4, 5, 6, 7, 8, 0] rfl (hK50 v6 v7 (v8 + 1) s)
set_option maxRecDepth 20000 in
theorem BH_LB_choice_50 {dd : Nat} (hdd : 4 ≤ dd) {G : MCx} (hC : C0 G "AccusedChoose$LastBack" b_LB_choice 11 (dd + 1)) (rMB : Nat → Nat → Int32 → Int32 → Int32 → St → Option (Int32 × St)) (hMB : ∀ (t0 : Nat) (t1 : Nat) (h0 : isPR t0) (h1 : isNI t1) (a2 : Int32) (a3 : Int32) (a4 : Int32) (s : St) (o : Int32 × St), rMB t0 t1 a2 a3 a4 s = some o → Cn (gl G) (gD G) (gad G) (gI G) (gL G) y_LB_monthsBehind b_LB_monthsBehind 8 (some .int) dd [.ref (gad G t0), .ref (gad G t1), .int a2, .int a3, .int a4] s (some (.int o.1)) o.2) {t0 : Nat} (h0 : isPR t0) {t1 : Nat} (h1 : isNI t1) {v2 : Int32} {v3 : Int32} {v4 : Int32} {v5 : Int32} (K50 : Int32 × Int32 × Int32 × St → Option (Int32 × St)) (hK50 : ∀ (w6 : Int32) (w7 : Int32) (w8 : Int32) (s : St), VO G (RI G b_LB_choice) (K50 (w6, w7, w8, s)) 50 [(0, .ref (gad G t0)), (1, .ref (gad G t1)), (2, .int v2), (3, .int v3), (4, .int v4), (5, .int v5), (6, .int w6), (7, .int w7), (8, .int w8)] [] s) (v6 : Int32) (v7 : Int32) (v8 : Int32) (s : St) : VO G (RI G b_LB_choice) (H_LB_choice_50 rMB t0 t1 v2 v3 v4 v5 K50 v6 v7 v8 s) 50 [(0, .ref (gad G t0)), (1, .ref (gad G t1)), (2, .int v2), (3, .int v3), (4, .int v4), (5, .int v5), (6, .int v6), (7, .int v7), (8, .int v8)] [] s := by
  unfold H_LB_choice_50
  refine VO_iload hC d_LB_choice_50 8 rfl ?_
  refine VO_aload hC d_LB_choice_52 0 rfl ?_
  refine VO_geti hC fl_LB_66 (sh_PR h0) rfl d_LB_choice_53 ?_
  refine VO_icmp_ge hC d_LB_choice_56 (fun _ => ?_) (fun _ => ?_)
  · refine VO_iload hC d_LB_choice_134 6 rfl ?_
    exact VO_ireturn d_LB_choice_136
  · refine VO_iload hC d_LB_choice_59 3 rfl ?_
    refine VO_iload hC d_LB_choice_60 8 rfl ?_
    refine VO_callNI hC [.int v3, .int v8] [] nl_LB_69 d_LB_choice_62 ys_AC_has (fun o h => M_AC_has hC.inj h) (by omega) rfl rfl (Nat.le_of_ble_eq_true rfl) (fun o4 => ?_)
    refine VO_if_eq hC d_LB_choice_65 (fun _ => ?_) (fun _ => ?_)
    · exact (B_LB_choice_128 hdd hC rMB hMB h0 h1 K50 hK50 v6 v7 v8 o4.2)
    · refine VO_aload hC d_LB_choice_68 0 rfl ?_
      refine VO_iload hC d_LB_choice_69 4 rfl ?_
      refine VO_iload hC d_LB_choice_71 8 rfl ?_
      refine VO_callVI hC [.int v4, .int v8] [] ml_LB_73 d_LB_choice_73 yv_PR_allows (sh_PR h0) rfl rfl (fun o h => M_PR_allows hC.inj h0 h) (by omega) rfl rfl (Nat.le_of_ble_eq_true rfl) (fun o5 => ?_)
      refine VO_if_eq hC d_LB_choice_76 (fun _ => ?_) (fun _ => ?_)
      · exact (B_LB_choice_128 hdd hC rMB hMB h0 h1 K50 hK50 v6 v7 v8 o5.2)
      · refine VO_aload hC d_LB_choice_79 0 rfl ?_
        refine VO_aload hC d_LB_choice_80 1 rfl ?_
        refine VO_iload hC d_LB_choice_81 2 rfl ?_
        refine VO_const hC d_LB_choice_82 ?_
        refine VO_iadd hC d_LB_choice_83 ?_
        refine VO_iload hC d_LB_choice_84 3 rfl ?_
        refine VO_iload hC d_LB_choice_85 8 rfl ?_
        refine VO_callNI hC [.int v8] [.int v3, .int (v2 + (1 : Int32)), .ref (gad G t1), .ref (gad G t0)] nl_LB_52 d_LB_choice_87 ys_AC_bit (fun o h => M_AC_bit hC.inj h) (by omega) rfl rfl (Nat.le_of_ble_eq_true rfl) (fun o6 => ?_)
        refine VO_const hC d_LB_choice_90 ?_
        refine VO_ixor hC d_LB_choice_91 ?_
        refine VO_iand hC d_LB_choice_92 ?_
        refine VO_iload hC d_LB_choice_93 5 rfl ?_
        refine VO_callSI hC [.ref (gad G t0), .ref (gad G t1), .int (v2 + (1 : Int32)), .int (v3 &&& (o6.1 ^^^ (-1 : Int32))), .int v5] [] ml_LB_76 d_LB_choice_95 ys_LB_monthsBehind (fun o h => hMB t0 t1 h0 h1 (v2 + (1 : Int32)) (v3 &&& (o6.1 ^^^ (-1 : Int32))) v5 o6.2 o h) (Nat.le_refl _) rfl rfl (Nat.le_of_ble_eq_true rfl) (fun o7 => ?_)
        refine VO_istore hC d_LB_choice_98 [(0, .ref (gad G t0)), (1, .ref (gad G t1)), (2, .int v2), (3, .int v3), (4, .int v4), (5, .int v5), (6, .int v6), (7, .int v7), (8, .int v8)] rfl (by decide) ?_
        refine VO_aload hC d_LB_choice_100 1 rfl ?_
        refine VO_iload hC d_LB_choice_101 5 rfl ?_
        refine VO_iload hC d_LB_choice_103 9 rfl ?_
        refine VO_callVI hC [.int v4, .int v8] [] ml_LB_42 d_LB_choice_105 yv_PR_of (sh_PR h0) rfl rfl (fun o h => M_PR_of hC.inj h0 h) (by omega) rfl rfl (Nat.le_of_ble_eq_true rfl) (fun o8 => ?_)
        refine VO_iload hC d_LB_choice_108 0 rfl ?_
        refine VO_iadd hC d_LB_choice_110 ?_
        refine VO_istoreB hC d_LB_choice_111 [(9, .int o7.1), (0, .ref (gad G t0)), (1, .ref (gad G t1)), (2, .int v2), (3, .int v3), (4, .int v4), (5, .int v5), (6, .int v6), (7, .int v7), (8, .int v8)] rfl (by decide) (fun x9 => ?_)
        refine VO_iload hC d_LB_choice_113 0 rfl ?_
        refine VO_iload hC d_LB_choice_115 9 rfl ?_
        refine VO_icmp_ge hC d_LB_choice_117 (fun _ => ?_) (fun _ => ?_)
        · exact VO_sub [2, 3, 4, 5, 6, 7, 8, 9, 10] rfl (B_LB_choice_128 hdd hC rMB hMB h0 h1 K50 hK50 v6 v7 v8 o8.2)
        · refine VO_iload hC d_LB_choice_120 0 rfl ?_
          refine VO_istore hC d_LB_choice_122 [(10, .int x9), (9, .int o7.1), (0, .ref (gad G t0)), (1, .ref (gad G t1)), (2, .int v2), (3, .int v3), (4, .int v4), (5, .int v5), (6, .int v6), (8, .int v8)] rfl (by decide) ?_
          refine VO_iload hC d_LB_choice_124 10 rfl ?_
          refine VO_istore hC d_LB_choice_126 [(7, .int x9), (10, .int x9), (9, .int o7.1), (0, .ref (gad G t0)), (1, .ref (gad G t1)), (2, .int v2), (3, .int v3), (4, .int v4), (5, .int v5), (8, .int v8)] rfl (by decide) ?_
          exact VO_sub [4, 5, 6, 7, 8, 9, 0, 1, 10] rfl (B_LB_choice_128 hdd hC rMB hMB h0 h1 K50 hK50 v8 x9 v8 o8.2)
set_option maxRecDepth 20000 in
theorem B_LB_choice_50 {dd : Nat} (hdd : 4 ≤ dd) {G : MCx} (hC : C0 G "AccusedChoose$LastBack" b_LB_choice 11 (dd + 1)) (rMB : Nat → Nat → Int32 → Int32 → Int32 → St → Option (Int32 × St)) (hMB : ∀ (t0 : Nat) (t1 : Nat) (h0 : isPR t0) (h1 : isNI t1) (a2 : Int32) (a3 : Int32) (a4 : Int32) (s : St) (o : Int32 × St), rMB t0 t1 a2 a3 a4 s = some o → Cn (gl G) (gD G) (gad G) (gI G) (gL G) y_LB_monthsBehind b_LB_monthsBehind 8 (some .int) dd [.ref (gad G t0), .ref (gad G t1), .int a2, .int a3, .int a4] s (some (.int o.1)) o.2) {t0 : Nat} (h0 : isPR t0) {t1 : Nat} (h1 : isNI t1) (v2 : Int32) (v3 : Int32) (v4 : Int32) (v5 : Int32) (v6 : Int32) (v7 : Int32) (v8 : Int32) (s : St) : VO G (RI G b_LB_choice) (F_LB_choice_50 rMB t0 t1 v2 v3 v4 v5 v6 v7 v8 s) 50 [(0, .ref (gad G t0)), (1, .ref (gad G t1)), (2, .int v2), (3, .int v3), (4, .int v4), (5, .int v5), (6, .int v6), (7, .int v7), (8, .int v8)] [] s := by
  exact VO_fix (G_LB_choice_50 rMB t0 t1 v2 v3 v4 v5) 50 (fun q => [(0, .ref (gad G t0)), (1, .ref (gad G t1)), (2, .int v2), (3, .int v3), (4, .int v4), (5, .int v5), (6, .int q.1), (7, .int q.2.1), (8, .int q.2.2.1)]) (fun q => q.2.2.2) (fun K hK q => BH_LB_choice_50 hdd hC rMB hMB h0 h1 K (fun w6 w7 w8 s => hK (w6, w7, w8, s)) q.1 q.2.1 q.2.2.1 q.2.2.2) FUEL (v6, v7, v8, s)
set_option maxRecDepth 20000 in
theorem B_LB_choice {dd : Nat} (hdd : 4 ≤ dd) {G : MCx} (hC : C0 G "AccusedChoose$LastBack" b_LB_choice 11 (dd + 1)) (rMB : Nat → Nat → Int32 → Int32 → Int32 → St → Option (Int32 × St)) (hMB : ∀ (t0 : Nat) (t1 : Nat) (h0 : isPR t0) (h1 : isNI t1) (a2 : Int32) (a3 : Int32) (a4 : Int32) (s : St) (o : Int32 × St), rMB t0 t1 a2 a3 a4 s = some o → Cn (gl G) (gD G) (gad G) (gI G) (gL G) y_LB_monthsBehind b_LB_monthsBehind 8 (some .int) dd [.ref (gad G t0), .ref (gad G t1), .int a2, .int a3, .int a4] s (some (.int o.1)) o.2) {t0 : Nat} (h0 : isPR t0) {t1 : Nat} (h1 : isNI t1) (a2 : Int32) (a3 : Int32) (s : St) : VO G (RI G b_LB_choice) (FR_LB_choice rMB t0 t1 a2 a3 s) 0 [(0, .ref (gad G t0)), (1, .ref (gad G t1)), (2, .int a2), (3, .int a3)] [] s := by
  unfold FR_LB_choice
  refine VO_aload hC d_LB_choice_0 1 rfl ?_
  refine VO_getr (r := (t1 + 8)) hC fl_LB_31 (sh_NI h1) rfl d_LB_choice_1 ?_
  refine VO_iload hC d_LB_choice_4 2 rfl ?_
  refine VO_callNI hC [.ref (gad G (t1 + 8)), .int a2] [] nl_LB_34 d_LB_choice_5 ys_AC_at (fun o h => M_AC_at hC.inj (ia_NI8 h1) h) (by omega) rfl rfl (Nat.le_of_ble_eq_true rfl) (fun o1 => ?_)
  refine VO_istore hC d_LB_choice_8 [(0, .ref (gad G t0)), (1, .ref (gad G t1)), (2, .int a2), (3, .int a3)] rfl (by decide) ?_
  refine VO_aload hC d_LB_choice_10 2 rfl ?_
  refine VO_getr (r := (t1 + 6)) hC fl_LB_56 (sh_NI h1) rfl d_LB_choice_11 ?_
  refine VO_iload hC d_LB_choice_14 0 rfl ?_
  refine VO_callNI hC [.ref (gad G (t1 + 6)), .int o1.1] [] nl_LB_34 d_LB_choice_16 ys_AC_at (fun o h => M_AC_at hC.inj (ia_NI6 h1) h) (by omega) rfl rfl (Nat.le_of_ble_eq_true rfl) (fun o2 => ?_)
  refine VO_istore hC d_LB_choice_19 [(4, .int o1.1), (0, .ref (gad G t0)), (1, .ref (gad G t1)), (2, .int a2), (3, .int a3)] rfl (by decide) ?_
  refine VO_aload hC d_LB_choice_21 3 rfl ?_
  refine VO_iload hC d_LB_choice_22 0 rfl ?_
  refine VO_callVI hC [.int o2.1] [] ml_LB_59 d_LB_choice_24 yv_NI_placeOf (sh_NI h1) rfl rfl (fun o h => M_NI_placeOf hC.inj h1 h) (by omega) rfl rfl (Nat.le_of_ble_eq_true rfl) (fun o3 => ?_)
  refine VO_iload hC d_LB_choice_27 4 rfl ?_
  refine VO_icmp_gt hC d_LB_choice_28 (fun _ => ?_) (fun _ => ?_)
  · refine VO_const hC d_LB_choice_39 ?_
    refine VO_istore hC d_LB_choice_41 [(5, .int o2.1), (4, .int o1.1), (0, .ref (gad G t0)), (1, .ref (gad G t1)), (2, .int a2), (3, .int a3)] rfl (by decide) ?_
    refine VO_ldc hC k_LB_65 d_LB_choice_43 ?_
    refine VO_istore hC d_LB_choice_45 [(6, .int (-9 : Int32)), (5, .int o2.1), (4, .int o1.1), (0, .ref (gad G t0)), (1, .ref (gad G t1)), (2, .int a2), (3, .int a3)] rfl (by decide) ?_
    refine VO_const hC d_LB_choice_47 ?_
    refine VO_istore hC d_LB_choice_48 [(7, .int (1000000 : Int32)), (6, .int (-9 : Int32)), (5, .int o2.1), (4, .int o1.1), (0, .ref (gad G t0)), (1, .ref (gad G t1)), (2, .int a2), (3, .int a3)] rfl (by decide) ?_
    exact VO_sub [5, 6, 7, 8, 4, 3, 2, 1, 0] rfl (B_LB_choice_50 hdd hC rMB hMB h0 h1 a2 a3 o1.1 o2.1 (-9 : Int32) (1000000 : Int32) (0 : Int32) o3.2)
  · refine VO_aload hC d_LB_choice_31 2 rfl ?_
    refine VO_iload hC d_LB_choice_32 1 rfl ?_
    refine VO_iload hC d_LB_choice_34 5 rfl ?_
    refine VO_callVI hC [.int o1.1, .int a3] [] ml_LB_62 d_LB_choice_35 yv_PR_lightest (sh_PR h0) rfl rfl (fun o h => M_PR_lightest hC.inj h0 h) (by omega) rfl rfl (Nat.le_of_ble_eq_true rfl) (fun o10 => ?_)
    exact VO_ireturn d_LB_choice_38
set_option maxRecDepth 20000 in
theorem BH_LB_monthsBehind_6 {dd : Nat} (hdd : 4 ≤ dd) {G : MCx} (hC : C0 G "AccusedChoose$LastBack" b_LB_monthsBehind 8 (dd + 1)) (rCH : Nat → Nat → Int32 → Int32 → St → Option (Int32 × St)) (hCH : ∀ (t0 : Nat) (t1 : Nat) (h0 : isPR t0) (h1 : isNI t1) (a2 : Int32) (a3 : Int32) (s : St) (o : Int32 × St), rCH t0 t1 a2 a3 s = some o → Cn (gl G) (gD G) (gad G) (gI G) (gL G) y_LB_choice b_LB_choice 11 (some .int) dd [.ref (gad G t0), .ref (gad G t1), .int a2, .int a3] s (some (.int o.1)) o.2) {t0 : Nat} (h0 : isPR t0) {t1 : Nat} (h1 : isNI t1) {v4 : Int32} (K6 : Int32 × Int32 × St → Option (Int32 × St)) (hK6 : ∀ (w5 : Int32) (w6 : Int32) (s : St), VO G (RI G b_LB_monthsBehind) (K6 (w5, w6, s)) 6 [(0, .ref (gad G t0)), (1, .ref (gad G t1)), (4, .int v4), (5, .int w5), (6, .int w6)] [] s) (v5 : Int32) (v6 : Int32) (s : St) : VO G (RI G b_LB_monthsBehind) (H_LB_monthsBehind_6 rCH t0 t1 v4 K6 v5 v6 s) 6 [(0, .ref (gad G t0)), (1, .ref (gad G t1)), (4, .int v4), (5, .int v5), (6, .int v6)] [] s := by
  unfold H_LB_monthsBehind_6
  refine VO_iload hC d_LB_monthsBehind_6 4 rfl ?_
  refine VO_aload hC d_LB_monthsBehind_8 1 rfl ?_
  refine VO_geti hC fl_LB_28 (sh_NI h1) rfl d_LB_monthsBehind_9 ?_
  refine VO_icmp_ge hC d_LB_monthsBehind_12 (fun _ => ?_) (fun _ => ?_)
  · refine VO_const hC d_LB_monthsBehind_67 ?_
    exact VO_ireturn d_LB_monthsBehind_69
  · refine VO_aload hC d_LB_monthsBehind_15 0 rfl ?_
    refine VO_aload hC d_LB_monthsBehind_16 1 rfl ?_
    refine VO_iload hC d_LB_monthsBehind_17 4 rfl ?_
    refine VO_iload hC d_LB_monthsBehind_19 3 rfl ?_
    refine VO_callSI hC [.ref (gad G t0), .ref (gad G t1), .int v6, .int v5] [] ml_LB_38 d_LB_monthsBehind_21 ys_LB_choice (fun o h => hCH t0 t1 h0 h1 v6 v5 s o h) (Nat.le_refl _) rfl rfl (Nat.le_of_ble_eq_true rfl) (fun o1 => ?_)
    refine VO_istore hC d_LB_monthsBehind_24 [(0, .ref (gad G t0)), (1, .ref (gad G t1)), (4, .int v4), (5, .int v5), (6, .int v6)] rfl (by decide) ?_
    refine VO_aload hC d_LB_monthsBehind_26 2 rfl ?_
    refine VO_getr (r := (t1 + 8)) hC fl_LB_31 (sh_NI h1) rfl d_LB_monthsBehind_27 ?_
    refine VO_iload hC d_LB_monthsBehind_30 5 rfl ?_
    refine VO_callNI hC [.ref (gad G (t1 + 8)), .int v6] [] nl_LB_34 d_LB_monthsBehind_32 ys_AC_at (fun o h => M_AC_at hC.inj (ia_NI8 h1) h) (by omega) rfl rfl (Nat.le_of_ble_eq_true rfl) (fun o2 => ?_)
    refine VO_iload hC d_LB_monthsBehind_35 3 rfl ?_
    refine VO_icmp_ne hC d_LB_monthsBehind_37 (fun _ => ?_) (fun _ => ?_)
    · refine VO_aload hC d_LB_monthsBehind_40 1 rfl ?_
      refine VO_iload hC d_LB_monthsBehind_41 3 rfl ?_
      refine VO_iload hC d_LB_monthsBehind_43 0 rfl ?_
      refine VO_callVI hC [.int v4, .int o1.1] [] ml_LB_42 d_LB_monthsBehind_45 yv_PR_of (sh_PR h0) rfl rfl (fun o h => M_PR_of hC.inj h0 h) (by omega) rfl rfl (Nat.le_of_ble_eq_true rfl) (fun o5 => ?_)
      exact VO_ireturn d_LB_monthsBehind_48
    · refine VO_iload hC d_LB_monthsBehind_49 4 rfl ?_
      refine VO_iload hC d_LB_monthsBehind_51 0 rfl ?_
      refine VO_callNI hC [.int o1.1] [.int v5] nl_LB_52 d_LB_monthsBehind_53 ys_AC_bit (fun o h => M_AC_bit hC.inj h) (by omega) rfl rfl (Nat.le_of_ble_eq_true rfl) (fun o3 => ?_)
      refine VO_const hC d_LB_monthsBehind_56 ?_
      refine VO_ixor hC d_LB_monthsBehind_57 ?_
      refine VO_iand hC d_LB_monthsBehind_58 ?_
      refine VO_istoreB hC d_LB_monthsBehind_59 [(7, .int o1.1), (0, .ref (gad G t0)), (1, .ref (gad G t1)), (4, .int v4), (6, .int v6)] rfl (by decide) (fun x4 => ?_)
      refine VO_iinc hC d_LB_monthsBehind_61 5 rfl (by decide : Int32.ofInt 1 = 1) [(5, .int x4), (7, .int o1.1), (0, .ref (gad G t0)), (1, .ref (gad G t1)), (4, .int v4)] rfl (by decide) ?_
      refine VO_goto hC d_LB_monthsBehind_64 ?_
      exact VO_sub [3, 4, 5, 1, 0] rfl (hK6 x4 (v6 + 1) o3.2)
set_option maxRecDepth 20000 in
theorem B_LB_monthsBehind_6 {dd : Nat} (hdd : 4 ≤ dd) {G : MCx} (hC : C0 G "AccusedChoose$LastBack" b_LB_monthsBehind 8 (dd + 1)) (rCH : Nat → Nat → Int32 → Int32 → St → Option (Int32 × St)) (hCH : ∀ (t0 : Nat) (t1 : Nat) (h0 : isPR t0) (h1 : isNI t1) (a2 : Int32) (a3 : Int32) (s : St) (o : Int32 × St), rCH t0 t1 a2 a3 s = some o → Cn (gl G) (gD G) (gad G) (gI G) (gL G) y_LB_choice b_LB_choice 11 (some .int) dd [.ref (gad G t0), .ref (gad G t1), .int a2, .int a3] s (some (.int o.1)) o.2) {t0 : Nat} (h0 : isPR t0) {t1 : Nat} (h1 : isNI t1) (v4 : Int32) (v5 : Int32) (v6 : Int32) (s : St) : VO G (RI G b_LB_monthsBehind) (F_LB_monthsBehind_6 rCH t0 t1 v4 v5 v6 s) 6 [(0, .ref (gad G t0)), (1, .ref (gad G t1)), (4, .int v4), (5, .int v5), (6, .int v6)] [] s := by
  exact VO_fix (G_LB_monthsBehind_6 rCH t0 t1 v4) 6 (fun q => [(0, .ref (gad G t0)), (1, .ref (gad G t1)), (4, .int v4), (5, .int q.1), (6, .int q.2.1)]) (fun q => q.2.2) (fun K hK q => BH_LB_monthsBehind_6 hdd hC rCH hCH h0 h1 K (fun w5 w6 s => hK (w5, w6, s)) q.1 q.2.1 q.2.2) FUEL (v5, v6, s)
set_option maxRecDepth 20000 in
theorem B_LB_monthsBehind {dd : Nat} (hdd : 4 ≤ dd) {G : MCx} (hC : C0 G "AccusedChoose$LastBack" b_LB_monthsBehind 8 (dd + 1)) (rCH : Nat → Nat → Int32 → Int32 → St → Option (Int32 × St)) (hCH : ∀ (t0 : Nat) (t1 : Nat) (h0 : isPR t0) (h1 : isNI t1) (a2 : Int32) (a3 : Int32) (s : St) (o : Int32 × St), rCH t0 t1 a2 a3 s = some o → Cn (gl G) (gD G) (gad G) (gI G) (gL G) y_LB_choice b_LB_choice 11 (some .int) dd [.ref (gad G t0), .ref (gad G t1), .int a2, .int a3] s (some (.int o.1)) o.2) {t0 : Nat} (h0 : isPR t0) {t1 : Nat} (h1 : isNI t1) (a2 : Int32) (a3 : Int32) (a4 : Int32) (s : St) : VO G (RI G b_LB_monthsBehind) (FR_LB_monthsBehind rCH t0 t1 a2 a3 a4 s) 0 [(0, .ref (gad G t0)), (1, .ref (gad G t1)), (2, .int a2), (3, .int a3), (4, .int a4)] [] s := by
  unfold FR_LB_monthsBehind
  refine VO_iload hC d_LB_monthsBehind_0 3 rfl ?_
  refine VO_istore hC d_LB_monthsBehind_1 [(0, .ref (gad G t0)), (1, .ref (gad G t1)), (2, .int a2), (3, .int a3), (4, .int a4)] rfl (by decide) ?_
  refine VO_iload hC d_LB_monthsBehind_3 3 rfl ?_
  refine VO_istore hC d_LB_monthsBehind_4 [(5, .int a3), (0, .ref (gad G t0)), (1, .ref (gad G t1)), (2, .int a2), (3, .int a3), (4, .int a4)] rfl (by decide) ?_
  exact VO_sub [2, 3, 6, 1, 0] rfl (B_LB_monthsBehind_6 hdd hC rCH hCH h0 h1 a4 a3 a2 s)
set_option maxRecDepth 20000 in
theorem M_LB_choice : ∀ (n : Nat) {l : Launch} {D : va_G} {ad : Nat → Nat} {cI cL : ClassId} (_ : Inj ad) {t0 : Nat} (_ : isPR t0) {t1 : Nat} (_ : isNI t1) {a2 : Int32} {a3 : Int32} {s : St} {o : Int32 × St} (_ : F_LB_choice n t0 t1 a2 a3 s = some o), Cn l D ad cI cL y_LB_choice b_LB_choice 11 (some .int) (4 + 2 * n) [.ref (ad t0), .ref (ad t1), .int a2, .int a3] s (some (.int o.1)) o.2
  | 0, _, _, _, _, _, _, _, _, _, _, _, _, _, _, h => by cases h
  | n + 1, l, D, ad, cI, cL, hj, t0, h0, t1, h1, a2, a3, s, o, h => by
    show Cn l D ad cI cL y_LB_choice b_LB_choice 11 (some .int) (4 + 2 * n + 1 + 1) [.ref (ad t0), .ref (ad t1), .int a2, .int a3] s (some (.int o.1)) o.2
    refine Cn_ofI hj (plainFor_of_name (by decide)) (Nat.le_of_ble_eq_true rfl) [(0, .ref (ad t0)), (1, .ref (ad t1)), (2, .int a2), (3, .int a3)] rfl (fun G hC e1 e2 e3 e4 e5 hR => ?_)
    subst e1; subst e2; subst e3; subst e4; subst e5
    refine B_LB_choice (by omega) hC _ (fun t0 t1 h0 h1 a2 a3 a4 s o h => ?_) h0 h1 a2 a3 s o h hR
    refine Cn_ofI hj (plainFor_of_name (by decide)) (Nat.le_of_ble_eq_true rfl) [(0, .ref (gad G t0)), (1, .ref (gad G t1)), (2, .int a2), (3, .int a3), (4, .int a4)] rfl (fun G' hC' e1 e2 e3 e4 e5 hR' => ?_)
    rw [← e1, ← e2, ← e3, ← e4, ← e5] at *
    rw [← e3]
    exact B_LB_monthsBehind (by omega) hC' _ (fun t0 t1 h0 h1 a2 a3 s o h => M_LB_choice n hC'.inj h0 h1 h) h0 h1 a2 a3 a4 s o h hR'
theorem M_LB_choice8 {l : Launch} {D : va_G} {ad : Nat → Nat} {cI cL : ClassId} (hj : Inj ad) {t0 : Nat} (h0 : isPR t0) {t1 : Nat} (h1 : isNI t1) {a2 : Int32} {a3 : Int32} {s : St} {o : Int32 × St} (h : F_LB_choice 8 t0 t1 a2 a3 s = some o) : Cn l D ad cI cL y_LB_choice b_LB_choice 11 (some .int) 20 [.ref (ad t0), .ref (ad t1), .int a2, .int a3] s (some (.int o.1)) o.2 := M_LB_choice 8 hj h0 h1 h
theorem d_AC_put_0 : PLi b_AC_put 0 1 1 := Or.inl ⟨1, by decide +kernel, rfl, rfl⟩
theorem d_AC_put_1 : DJ b_AC_put 1 (.ifCond .lt) 4 14 := ⟨13, by decide +kernel, rfl, by decide⟩
theorem d_AC_put_4 : PLi b_AC_put 4 1 5 := Or.inl ⟨1, by decide +kernel, rfl, rfl⟩
theorem d_AC_put_5 : PLa b_AC_put 5 0 6 := Or.inl ⟨0, by decide +kernel, rfl, rfl⟩
theorem d_AC_put_6 : DR b_AC_put 6 (.arraylength) 1 7 := ⟨by decide +kernel, rfl⟩
theorem d_AC_put_7 : DJ b_AC_put 7 (.if_icmp .ge) 10 14 := ⟨7, by decide +kernel, rfl, by decide⟩
theorem d_AC_put_10 : PLa b_AC_put 10 0 11 := Or.inl ⟨0, by decide +kernel, rfl, rfl⟩
theorem d_AC_put_11 : PLi b_AC_put 11 1 12 := Or.inl ⟨1, by decide +kernel, rfl, rfl⟩
theorem d_AC_put_12 : PLi b_AC_put 12 2 13 := Or.inl ⟨2, by decide +kernel, rfl, rfl⟩
theorem d_AC_put_13 : DR b_AC_put 13 (.iastore) 1 14 := ⟨by decide +kernel, rfl⟩
theorem d_AC_put_14 : DR b_AC_put 14 (.return_) 1 15 := ⟨by decide +kernel, rfl⟩
set_option maxRecDepth 20000 in
theorem B_AC_put {G : MCx} (hC : C0 G "AccusedChoose" b_AC_put 3 1) {t0 : Nat} (h0 : isIA t0) (a1 : Int32) (a2 : Int32) (s : St) : VO G (RV G b_AC_put) (F_AC_put t0 a1 a2 s) 0 [(0, .ref (gad G t0)), (1, .int a1), (2, .int a2)] [] s := by
  unfold F_AC_put
  refine VO_iload hC d_AC_put_0 1 rfl ?_
  refine VO_if_lt hC d_AC_put_1 (fun _ => ?_) (fun _ => ?_)
  · exact VO_return d_AC_put_14
  · refine VO_iload hC d_AC_put_4 1 rfl ?_
    refine VO_aload hC d_AC_put_5 0 rfl ?_
    refine VO_alen hC h0 d_AC_put_6 ?_
    refine VO_icmp_ge hC d_AC_put_7 (fun _ => ?_) (fun _ => ?_)
    · exact VO_return d_AC_put_14
    · refine VO_aload hC d_AC_put_10 0 rfl ?_
      refine VO_iload hC d_AC_put_11 1 rfl ?_
      refine VO_iload hC d_AC_put_12 2 rfl ?_
      refine VO_iastore hC h0 d_AC_put_13 (fun s1 => ?_)
      exact VO_return d_AC_put_14
set_option maxRecDepth 20000 in
theorem M_AC_put {l : Launch} {D : va_G} {ad : Nat → Nat} {cI cL : ClassId} (hj : Inj ad) {t0 : Nat} (h0 : isIA t0) {a1 : Int32} {a2 : Int32} {s : St} {o : St} (h : F_AC_put t0 a1 a2 s = some o) : Cn l D ad cI cL y_AC_put b_AC_put 3 none 1 [.ref (ad t0), .int a1, .int a2] s none o := by
  refine Cn_ofV hj (plainFor_of_name (by decide)) (Nat.le_of_ble_eq_true rfl) [(0, .ref (ad t0)), (1, .int a1), (2, .int a2)] rfl (fun G hC e1 e2 e3 e4 e5 hR => ?_)
  subst e1; subst e2; subst e3; subst e4; subst e5
  exact B_AC_put hC h0 a1 a2 s o h hR
theorem d_LB_hold_0 : PLa b_LB_hold 0 2 1 := Or.inl ⟨2, by decide +kernel, rfl, rfl⟩
theorem d_LB_hold_1 : DR b_LB_hold 1 (.invokevirtual 18) 3 4 := ⟨by decide +kernel, rfl⟩
theorem d_LB_hold_4 : PSi b_LB_hold 4 3 5 := Or.inl ⟨3, by decide +kernel, rfl, rfl⟩
theorem d_LB_hold_5 : PLa b_LB_hold 5 0 6 := Or.inl ⟨0, by decide +kernel, rfl, rfl⟩
theorem d_LB_hold_6 : PCi b_LB_hold 6 0 7 := Or.inl ⟨0, by decide +kernel, by decide, rfl⟩
theorem d_LB_hold_7 : DR b_LB_hold 7 (.putfield 24) 3 10 := ⟨by decide +kernel, rfl⟩
theorem d_LB_hold_10 : PCi b_LB_hold 10 0 11 := Or.inl ⟨0, by decide +kernel, by decide, rfl⟩
theorem d_LB_hold_11 : PSi b_LB_hold 11 4 13 := Or.inr ⟨by decide +kernel, rfl⟩
theorem d_LB_hold_13 : PLi b_LB_hold 13 4 15 := Or.inr ⟨by decide +kernel, rfl⟩
theorem d_LB_hold_15 : PLa b_LB_hold 15 2 16 := Or.inl ⟨2, by decide +kernel, rfl, rfl⟩
theorem d_LB_hold_16 : DR b_LB_hold 16 (.getfield 28) 3 19 := ⟨by decide +kernel, rfl⟩
theorem d_LB_hold_19 : DJ b_LB_hold 19 (.if_icmp .ge) 22 102 := ⟨83, by decide +kernel, rfl, by decide⟩
theorem d_LB_hold_22 : PLa b_LB_hold 22 2 23 := Or.inl ⟨2, by decide +kernel, rfl, rfl⟩
theorem d_LB_hold_23 : DR b_LB_hold 23 (.getfield 31) 3 26 := ⟨by decide +kernel, rfl⟩
theorem d_LB_hold_26 : PLi b_LB_hold 26 4 28 := Or.inr ⟨by decide +kernel, rfl⟩
theorem d_LB_hold_28 : DR b_LB_hold 28 (.invokestatic 34) 3 31 := ⟨by decide +kernel, rfl⟩
theorem d_LB_hold_31 : PSi b_LB_hold 31 5 33 := Or.inr ⟨by decide +kernel, rfl⟩
theorem d_LB_hold_33 : PLa b_LB_hold 33 1 34 := Or.inl ⟨1, by decide +kernel, rfl, rfl⟩
theorem d_LB_hold_34 : PLa b_LB_hold 34 2 35 := Or.inl ⟨2, by decide +kernel, rfl, rfl⟩
theorem d_LB_hold_35 : PLi b_LB_hold 35 4 37 := Or.inr ⟨by decide +kernel, rfl⟩
theorem d_LB_hold_37 : PLi b_LB_hold 37 3 38 := Or.inl ⟨3, by decide +kernel, rfl, rfl⟩
theorem d_LB_hold_38 : DR b_LB_hold 38 (.invokestatic 38) 3 41 := ⟨by decide +kernel, rfl⟩
theorem d_LB_hold_41 : PSi b_LB_hold 41 6 43 := Or.inr ⟨by decide +kernel, rfl⟩
theorem d_LB_hold_43 : PLa b_LB_hold 43 1 44 := Or.inl ⟨1, by decide +kernel, rfl, rfl⟩
theorem d_LB_hold_44 : PLi b_LB_hold 44 5 46 := Or.inr ⟨by decide +kernel, rfl⟩
theorem d_LB_hold_46 : PLi b_LB_hold 46 6 48 := Or.inr ⟨by decide +kernel, rfl⟩
theorem d_LB_hold_48 : DR b_LB_hold 48 (.invokevirtual 42) 3 51 := ⟨by decide +kernel, rfl⟩
theorem d_LB_hold_51 : PSi b_LB_hold 51 7 53 := Or.inr ⟨by decide +kernel, rfl⟩
theorem d_LB_hold_53 : PLa b_LB_hold 53 0 54 := Or.inl ⟨0, by decide +kernel, rfl, rfl⟩
theorem d_LB_hold_54 : DR b_LB_hold 54 (.getfield 9) 3 57 := ⟨by decide +kernel, rfl⟩
theorem d_LB_hold_57 : PLi b_LB_hold 57 5 59 := Or.inr ⟨by decide +kernel, rfl⟩
theorem d_LB_hold_59 : PLi b_LB_hold 59 6 61 := Or.inr ⟨by decide +kernel, rfl⟩
theorem d_LB_hold_61 : DR b_LB_hold 61 (.invokestatic 48) 3 64 := ⟨by decide +kernel, rfl⟩
theorem d_LB_hold_64 : PLa b_LB_hold 64 0 65 := Or.inl ⟨0, by decide +kernel, rfl, rfl⟩
theorem d_LB_hold_65 : DR b_LB_hold 65 (.getfield 15) 3 68 := ⟨by decide +kernel, rfl⟩
theorem d_LB_hold_68 : PLi b_LB_hold 68 5 70 := Or.inr ⟨by decide +kernel, rfl⟩
theorem d_LB_hold_70 : PLi b_LB_hold 70 7 72 := Or.inr ⟨by decide +kernel, rfl⟩
theorem d_LB_hold_72 : DR b_LB_hold 72 (.invokestatic 48) 3 75 := ⟨by decide +kernel, rfl⟩
theorem d_LB_hold_75 : PLi b_LB_hold 75 3 76 := Or.inl ⟨3, by decide +kernel, rfl, rfl⟩
theorem d_LB_hold_76 : PLi b_LB_hold 76 6 78 := Or.inr ⟨by decide +kernel, rfl⟩
theorem d_LB_hold_78 : DR b_LB_hold 78 (.invokestatic 52) 3 81 := ⟨by decide +kernel, rfl⟩
theorem d_LB_hold_81 : PCi b_LB_hold 81 (-1) 82 := Or.inl ⟨(-1), by decide +kernel, by decide, rfl⟩
theorem d_LB_hold_82 : DR b_LB_hold 82 (.ixor) 1 83 := ⟨by decide +kernel, rfl⟩
theorem d_LB_hold_83 : DR b_LB_hold 83 (.iand) 1 84 := ⟨by decide +kernel, rfl⟩
theorem d_LB_hold_84 : PSi b_LB_hold 84 3 85 := Or.inl ⟨3, by decide +kernel, rfl, rfl⟩
theorem d_LB_hold_85 : PLa b_LB_hold 85 0 86 := Or.inl ⟨0, by decide +kernel, rfl, rfl⟩
theorem d_LB_hold_86 : DR b_LB_hold 86 (.dup) 1 87 := ⟨by decide +kernel, rfl⟩
theorem d_LB_hold_87 : DR b_LB_hold 87 (.getfield 24) 3 90 := ⟨by decide +kernel, rfl⟩
theorem d_LB_hold_90 : PLi b_LB_hold 90 7 92 := Or.inr ⟨by decide +kernel, rfl⟩
theorem d_LB_hold_92 : DR b_LB_hold 92 (.iadd) 1 93 := ⟨by decide +kernel, rfl⟩
theorem d_LB_hold_93 : DR b_LB_hold 93 (.putfield 24) 3 96 := ⟨by decide +kernel, rfl⟩
theorem d_LB_hold_96 : DR b_LB_hold 96 (.iinc 4 1) 3 99 := ⟨by decide +kernel, rfl⟩
theorem d_LB_hold_99 : DJ b_LB_hold 99 .goto 102 13 := ⟨-86, by decide +kernel, rfl, by decide⟩
theorem d_LB_hold_102 : DR b_LB_hold 102 (.return_) 1 103 := ⟨by decide +kernel, rfl⟩
set_option maxRecDepth 20000 in
theorem BH_LB_hold_13 {G : MCx} (hC : C0 G "AccusedChoose$LastBack" b_LB_hold 8 21) {t1 : Nat} (h1 : isPR t1) {t2 : Nat} (h2 : isNI t2) (K13 : Int32 × Int32 × St → Option (St)) (hK13 : ∀ (w3 : Int32) (w4 : Int32) (s : St), VO G (RV G b_LB_hold) (K13 (w3, w4, s)) 13 [(0, .ref (gad G 46)), (1, .ref (gad G t1)), (2, .ref (gad G t2)), (3, .int w3), (4, .int w4)] [] s) (v3 : Int32) (v4 : Int32) (s : St) : VO G (RV G b_LB_hold) (H_LB_hold_13 t1 t2 K13 v3 v4 s) 13 [(0, .ref (gad G 46)), (1, .ref (gad G t1)), (2, .ref (gad G t2)), (3, .int v3), (4, .int v4)] [] s := by
  unfold H_LB_hold_13
  refine VO_iload hC d_LB_hold_13 4 rfl ?_
  refine VO_aload hC d_LB_hold_15 2 rfl ?_
  refine VO_geti hC fl_LB_28 (sh_NI h2) rfl d_LB_hold_16 ?_
  refine VO_icmp_ge hC d_LB_hold_19 (fun _ => ?_) (fun _ => ?_)
  · exact VO_return d_LB_hold_102
  · refine VO_aload hC d_LB_hold_22 2 rfl ?_
    refine VO_getr (r := (t2 + 8)) hC fl_LB_31 (sh_NI h2) rfl d_LB_hold_23 ?_
    refine VO_iload hC d_LB_hold_26 4 rfl ?_
    refine VO_callNI hC [.ref (gad G (t2 + 8)), .int v4] [] nl_LB_34 d_LB_hold_28 ys_AC_at (fun o h => M_AC_at hC.inj (ia_NI8 h2) h) (by decide) rfl rfl (Nat.le_of_ble_eq_true rfl) (fun o3 => ?_)
    refine VO_istore hC d_LB_hold_31 [(0, .ref (gad G 46)), (1, .ref (gad G t1)), (2, .ref (gad G t2)), (3, .int v3), (4, .int v4)] rfl (by decide) ?_
    refine VO_aload hC d_LB_hold_33 2 rfl ?_
    refine VO_aload hC d_LB_hold_34 3 rfl ?_
    refine VO_iload hC d_LB_hold_35 5 rfl ?_
    refine VO_iload hC d_LB_hold_37 4 rfl ?_
    refine VO_callSI hC [.ref (gad G t1), .ref (gad G t2), .int v4, .int v3] [] ml_LB_38 d_LB_hold_38 ys_LB_choice (fun o h => M_LB_choice8 hC.inj h1 h2 h) (by decide) rfl rfl (Nat.le_of_ble_eq_true rfl) (fun o4 => ?_)
    refine VO_istore hC d_LB_hold_41 [(5, .int o3.1), (0, .ref (gad G 46)), (1, .ref (gad G t1)), (2, .ref (gad G t2)), (3, .int v3), (4, .int v4)] rfl (by decide) ?_
    refine VO_aload hC d_LB_hold_43 3 rfl ?_
    refine VO_iload hC d_LB_hold_44 1 rfl ?_
    refine VO_iload hC d_LB_hold_46 0 rfl ?_
    refine VO_callVI hC [.int o3.1, .int o4.1] [] ml_LB_42 d_LB_hold_48 yv_PR_of (sh_PR h1) rfl rfl (fun o h => M_PR_of hC.inj h1 h) (by decide) rfl rfl (Nat.le_of_ble_eq_true rfl) (fun o5 => ?_)
    refine VO_istore hC d_LB_hold_51 [(6, .int o4.1), (5, .int o3.1), (0, .ref (gad G 46)), (1, .ref (gad G t1)), (2, .ref (gad G t2)), (3, .int v3), (4, .int v4)] rfl (by decide) ?_
    refine VO_aload hC d_LB_hold_53 3 rfl ?_
    refine VO_getr (r := 47) hC fl_LB_9 sh_LB rfl d_LB_hold_54 ?_
    refine VO_iload hC d_LB_hold_57 2 rfl ?_
    refine VO_iload hC d_LB_hold_59 1 rfl ?_
    refine VO_callNV hC [.ref (gad G 47), .int o3.1, .int o4.1] [] nl_LB_48 d_LB_hold_61 ys_AC_put (fun o h => M_AC_put hC.inj ia_47 h) (by decide) rfl rfl (Nat.le_of_ble_eq_true rfl) (fun s6 => ?_)
    refine VO_aload hC d_LB_hold_64 3 rfl ?_
    refine VO_getr (r := 48) hC fl_LB_15 sh_LB rfl d_LB_hold_65 ?_
    refine VO_iload hC d_LB_hold_68 2 rfl ?_
    refine VO_iload hC d_LB_hold_70 0 rfl ?_
    refine VO_callNV hC [.ref (gad G 48), .int o3.1, .int o5.1] [] nl_LB_48 d_LB_hold_72 ys_AC_put (fun o h => M_AC_put hC.inj ia_48 h) (by decide) rfl rfl (Nat.le_of_ble_eq_true rfl) (fun s7 => ?_)
    refine VO_iload hC d_LB_hold_75 6 rfl ?_
    refine VO_iload hC d_LB_hold_76 1 rfl ?_
    refine VO_callNI hC [.int o4.1] [.int v3] nl_LB_52 d_LB_hold_78 ys_AC_bit (fun o h => M_AC_bit hC.inj h) (by decide) rfl rfl (Nat.le_of_ble_eq_true rfl) (fun o8 => ?_)
    refine VO_const hC d_LB_hold_81 ?_
    refine VO_ixor hC d_LB_hold_82 ?_
    refine VO_iand hC d_LB_hold_83 ?_
    refine VO_istoreB hC d_LB_hold_84 [(7, .int o5.1), (6, .int o4.1), (5, .int o3.1), (0, .ref (gad G 46)), (1, .ref (gad G t1)), (2, .ref (gad G t2)), (4, .int v4)] rfl (by decide) (fun x9 => ?_)
    refine VO_aload hC d_LB_hold_85 4 rfl ?_
    refine VO_dup hC d_LB_hold_86 rfl ?_
    refine VO_geti hC fl_LB_24 sh_LB rfl d_LB_hold_87 ?_
    refine VO_iload hC d_LB_hold_90 1 rfl ?_
    refine VO_iadd hC d_LB_hold_92 ?_
    refine VO_puti hC fw_LB_24 sh_LB rfl d_LB_hold_93 (fun s10 => ?_)
    refine VO_iinc hC d_LB_hold_96 7 rfl (by decide : Int32.ofInt 1 = 1) [(3, .int x9), (7, .int o5.1), (6, .int o4.1), (5, .int o3.1), (0, .ref (gad G 46)), (1, .ref (gad G t1)), (2, .ref (gad G t2))] rfl (by decide) ?_
    refine VO_goto hC d_LB_hold_99 ?_
    exact VO_sub [5, 6, 7, 1, 0] rfl (hK13 x9 (v4 + 1) s10)
set_option maxRecDepth 20000 in
theorem B_LB_hold_13 {G : MCx} (hC : C0 G "AccusedChoose$LastBack" b_LB_hold 8 21) {t1 : Nat} (h1 : isPR t1) {t2 : Nat} (h2 : isNI t2) (v3 : Int32) (v4 : Int32) (s : St) : VO G (RV G b_LB_hold) (F_LB_hold_13 t1 t2 v3 v4 s) 13 [(0, .ref (gad G 46)), (1, .ref (gad G t1)), (2, .ref (gad G t2)), (3, .int v3), (4, .int v4)] [] s := by
  exact VO_fix (G_LB_hold_13 t1 t2) 13 (fun q => [(0, .ref (gad G 46)), (1, .ref (gad G t1)), (2, .ref (gad G t2)), (3, .int q.1), (4, .int q.2.1)]) (fun q => q.2.2) (fun K hK q => BH_LB_hold_13 hC h1 h2 K (fun w3 w4 s => hK (w3, w4, s)) q.1 q.2.1 q.2.2) FUEL (v3, v4, s)
set_option maxRecDepth 20000 in
theorem B_LB_hold {G : MCx} (hC : C0 G "AccusedChoose$LastBack" b_LB_hold 8 21) {t1 : Nat} (h1 : isPR t1) {t2 : Nat} (h2 : isNI t2) (s : St) : VO G (RV G b_LB_hold) (F_LB_hold t1 t2 s) 0 [(0, .ref (gad G 46)), (1, .ref (gad G t1)), (2, .ref (gad G t2))] [] s := by
  unfold F_LB_hold
  refine VO_aload hC d_LB_hold_0 2 rfl ?_
  refine VO_callVI hC [] [] ml_LB_18 d_LB_hold_1 yv_NI_allDeeds (sh_NI h2) rfl rfl (fun o h => M_NI_allDeeds hC.inj h2 h) (by decide) rfl rfl (Nat.le_of_ble_eq_true rfl) (fun o1 => ?_)
  refine VO_istore hC d_LB_hold_4 [(0, .ref (gad G 46)), (1, .ref (gad G t1)), (2, .ref (gad G t2))] rfl (by decide) ?_
  refine VO_aload hC d_LB_hold_5 1 rfl ?_
  refine VO_const hC d_LB_hold_6 ?_
  refine VO_puti hC fw_LB_24 sh_LB rfl d_LB_hold_7 (fun s2 => ?_)
  refine VO_const hC d_LB_hold_10 ?_
  refine VO_istore hC d_LB_hold_11 [(3, .int o1.1), (0, .ref (gad G 46)), (1, .ref (gad G t1)), (2, .ref (gad G t2))] rfl (by decide) ?_
  exact VO_sub [2, 3, 4, 1, 0] rfl (B_LB_hold_13 hC h1 h2 o1.1 (0 : Int32) s2)
set_option maxRecDepth 20000 in
theorem M_LB_hold {l : Launch} {D : va_G} {ad : Nat → Nat} {cI cL : ClassId} (hj : Inj ad) {t1 : Nat} (h1 : isPR t1) {t2 : Nat} (h2 : isNI t2) {s : St} {o : St} (h : F_LB_hold t1 t2 s = some o) : Cn l D ad cI cL y_LB_hold b_LB_hold 8 none 21 [.ref (ad 46), .ref (ad t1), .ref (ad t2)] s none o := by
  refine Cn_ofV hj (plainFor_of_name (by decide)) (Nat.le_of_ble_eq_true rfl) [(0, .ref (ad 46)), (1, .ref (ad t1)), (2, .ref (ad t2))] rfl (fun G hC e1 e2 e3 e4 e5 hR => ?_)
  subst e1; subst e2; subst e3; subst e4; subst e5
  exact B_LB_hold hC h1 h2 s o h hR
theorem d_LT_isFull_0 : PLa b_LT_isFull 0 0 1 := Or.inl ⟨0, by decide +kernel, rfl, rfl⟩
theorem d_LT_isFull_1 : DR b_LT_isFull 1 (.getfield 15) 3 4 := ⟨by decide +kernel, rfl⟩
theorem d_LT_isFull_4 : PCi b_LT_isFull 4 96 6 := Or.inr (Or.inl ⟨96, by decide +kernel, by decide, rfl⟩)
theorem d_LT_isFull_6 : DJ b_LT_isFull 6 (.if_icmp .lt) 9 13 := ⟨7, by decide +kernel, rfl, by decide⟩
theorem d_LT_isFull_9 : PCi b_LT_isFull 9 1 10 := Or.inl ⟨1, by decide +kernel, by decide, rfl⟩
theorem d_LT_isFull_10 : DJ b_LT_isFull 10 .goto 13 14 := ⟨4, by decide +kernel, rfl, by decide⟩
theorem d_LT_isFull_13 : PCi b_LT_isFull 13 0 14 := Or.inl ⟨0, by decide +kernel, by decide, rfl⟩
theorem d_LT_isFull_14 : DR b_LT_isFull 14 (.ireturn) 1 15 := ⟨by decide +kernel, rfl⟩
set_option maxRecDepth 20000 in
theorem B_LT_isFull {G : MCx} (hC : C0 G "AccusedChoose$Letters" b_LT_isFull 1 1) (s : St) : VO G (RZ G b_LT_isFull) (F_LT_isFull s) 0 [(0, .ref (gad G 34))] [] s := by
  unfold F_LT_isFull
  refine VO_aload hC d_LT_isFull_0 0 rfl ?_
  refine VO_geti hC fl_LT_15 sh_LT rfl d_LT_isFull_1 ?_
  refine VO_const hC d_LT_isFull_4 ?_
  refine VO_icmp_lt hC d_LT_isFull_6 (fun _ => ?_) (fun _ => ?_)
  · refine VO_const hC d_LT_isFull_13 ?_
    exact VO_z0 d_LT_isFull_14
  · refine VO_const hC d_LT_isFull_9 ?_
    refine VO_goto hC d_LT_isFull_10 ?_
    exact VO_z1 d_LT_isFull_14
set_option maxRecDepth 20000 in
theorem M_LT_isFull {l : Launch} {D : va_G} {ad : Nat → Nat} {cI cL : ClassId} (hj : Inj ad) {s : St} {o : Int32 × St} (h : F_LT_isFull s = some o) : Cn l D ad cI cL y_LT_isFull b_LT_isFull 1 (some .boolean) 1 [.ref (ad 34)] s (some (.int o.1)) o.2 := by
  refine Cn_ofZ hj (plainFor_of_name (by decide)) (Nat.le_of_ble_eq_true rfl) [(0, .ref (ad 34))] rfl (fun G hC e1 e2 e3 e4 e5 hR => ?_)
  subst e1; subst e2; subst e3; subst e4; subst e5
  exact B_LT_isFull hC s o h hR
theorem d_MA_min_0 : PLi b_MA_min 0 0 1 := Or.inl ⟨0, by decide +kernel, rfl, rfl⟩
theorem d_MA_min_1 : PLi b_MA_min 1 1 2 := Or.inl ⟨1, by decide +kernel, rfl, rfl⟩
theorem d_MA_min_2 : DJ b_MA_min 2 (.if_icmp .gt) 5 9 := ⟨7, by decide +kernel, rfl, by decide⟩
theorem d_MA_min_5 : PLi b_MA_min 5 0 6 := Or.inl ⟨0, by decide +kernel, rfl, rfl⟩
theorem d_MA_min_6 : DJ b_MA_min 6 .goto 9 10 := ⟨4, by decide +kernel, rfl, by decide⟩
theorem d_MA_min_9 : PLi b_MA_min 9 1 10 := Or.inl ⟨1, by decide +kernel, rfl, rfl⟩
theorem d_MA_min_10 : DR b_MA_min 10 (.ireturn) 1 11 := ⟨by decide +kernel, rfl⟩
set_option maxRecDepth 20000 in
theorem B_MA_min {G : MCx} (hC : C0 G "java/lang/Math" b_MA_min 2 1) (a0 : Int32) (a1 : Int32) (s : St) : VO G (RI G b_MA_min) (F_MA_min a0 a1 s) 0 [(0, .int a0), (1, .int a1)] [] s := by
  unfold F_MA_min
  refine VO_iload hC d_MA_min_0 0 rfl ?_
  refine VO_iload hC d_MA_min_1 1 rfl ?_
  refine VO_icmp_gt hC d_MA_min_2 (fun _ => ?_) (fun _ => ?_)
  · refine VO_iload hC d_MA_min_9 1 rfl ?_
    exact VO_ireturn d_MA_min_10
  · refine VO_iload hC d_MA_min_5 0 rfl ?_
    refine VO_goto hC d_MA_min_6 ?_
    exact VO_ireturn d_MA_min_10
set_option maxRecDepth 20000 in
theorem M_MA_min {l : Launch} {D : va_G} {ad : Nat → Nat} {cI cL : ClassId} (hj : Inj ad) {a0 : Int32} {a1 : Int32} {s : St} {o : Int32 × St} (h : F_MA_min a0 a1 s = some o) : Cn l D ad cI cL y_MA_min b_MA_min 2 (some .int) 1 [.int a0, .int a1] s (some (.int o.1)) o.2 := by
  refine Cn_ofI hj (by decide +kernel) (Nat.le_of_ble_eq_true rfl) [(0, .int a0), (1, .int a1)] rfl (fun G hC e1 e2 e3 e4 e5 hR => ?_)
  subst e1; subst e2; subst e3; subst e4; subst e5
  exact B_MA_min hC a0 a1 s o h hR
theorem d_LT_add_0 : PLa b_LT_add 0 0 1 := Or.inl ⟨0, by decide +kernel, rfl, rfl⟩
theorem d_LT_add_1 : DR b_LT_add 1 (.getfield 11) 3 4 := ⟨by decide +kernel, rfl⟩
theorem d_LT_add_4 : PLa b_LT_add 4 0 5 := Or.inl ⟨0, by decide +kernel, rfl, rfl⟩
theorem d_LT_add_5 : DR b_LT_add 5 (.getfield 15) 3 8 := ⟨by decide +kernel, rfl⟩
theorem d_LT_add_8 : PLi b_LT_add 8 1 9 := Or.inl ⟨1, by decide +kernel, rfl, rfl⟩
theorem d_LT_add_9 : DR b_LT_add 9 (.invokestatic 19) 3 12 := ⟨by decide +kernel, rfl⟩
theorem d_LT_add_12 : PLa b_LT_add 12 0 13 := Or.inl ⟨0, by decide +kernel, rfl, rfl⟩
theorem d_LT_add_13 : PLa b_LT_add 13 0 14 := Or.inl ⟨0, by decide +kernel, rfl, rfl⟩
theorem d_LT_add_14 : DR b_LT_add 14 (.getfield 15) 3 17 := ⟨by decide +kernel, rfl⟩
theorem d_LT_add_17 : PCi b_LT_add 17 1 18 := Or.inl ⟨1, by decide +kernel, by decide, rfl⟩
theorem d_LT_add_18 : DR b_LT_add 18 (.iadd) 1 19 := ⟨by decide +kernel, rfl⟩
theorem d_LT_add_19 : PCi b_LT_add 19 96 21 := Or.inr (Or.inl ⟨96, by decide +kernel, by decide, rfl⟩)
theorem d_LT_add_21 : DR b_LT_add 21 (.invokestatic 23) 3 24 := ⟨by decide +kernel, rfl⟩
theorem d_LT_add_24 : DR b_LT_add 24 (.putfield 15) 3 27 := ⟨by decide +kernel, rfl⟩
theorem d_LT_add_27 : PLa b_LT_add 27 0 28 := Or.inl ⟨0, by decide +kernel, rfl, rfl⟩
theorem d_LT_add_28 : DR b_LT_add 28 (.getfield 15) 3 31 := ⟨by decide +kernel, rfl⟩
theorem d_LT_add_31 : DR b_LT_add 31 (.ireturn) 1 32 := ⟨by decide +kernel, rfl⟩
set_option maxRecDepth 20000 in
theorem B_LT_add {G : MCx} (hC : C0 G "AccusedChoose$Letters" b_LT_add 2 2) (a1 : Int32) (s : St) : VO G (RI G b_LT_add) (F_LT_add a1 s) 0 [(0, .ref (gad G 34)), (1, .int a1)] [] s := by
  unfold F_LT_add
  refine VO_aload hC d_LT_add_0 0 rfl ?_
  refine VO_getr (r := 35) hC fl_LT_11 sh_LT rfl d_LT_add_1 ?_
  refine VO_aload hC d_LT_add_4 0 rfl ?_
  refine VO_geti hC fl_LT_15 sh_LT rfl d_LT_add_5 ?_
  refine VO_iload hC d_LT_add_8 1 rfl ?_
  refine VO_callNV hC [.ref (gad G 35), .int (rd s 34 0), .int a1] [] nl_LT_19 d_LT_add_9 ys_AC_put (fun o h => M_AC_put hC.inj ia_35 h) (by decide) rfl rfl (Nat.le_of_ble_eq_true rfl) (fun s1 => ?_)
  refine VO_aload hC d_LT_add_12 0 rfl ?_
  refine VO_aload hC d_LT_add_13 0 rfl ?_
  refine VO_geti hC fl_LT_15 sh_LT rfl d_LT_add_14 ?_
  refine VO_const hC d_LT_add_17 ?_
  refine VO_iadd hC d_LT_add_18 ?_
  refine VO_const hC d_LT_add_19 ?_
  refine VO_callSI hC [.int ((rd s1 34 0) + (1 : Int32)), .int (96 : Int32)] [.ref (gad G 34)] ml_LT_23 d_LT_add_21 ys_MA_min (fun o h => M_MA_min hC.inj h) (by decide) rfl rfl (Nat.le_of_ble_eq_true rfl) (fun o2 => ?_)
  refine VO_puti hC fw_LT_15 sh_LT rfl d_LT_add_24 (fun s3 => ?_)
  refine VO_aload hC d_LT_add_27 0 rfl ?_
  refine VO_geti hC fl_LT_15 sh_LT rfl d_LT_add_28 ?_
  exact VO_ireturn d_LT_add_31
set_option maxRecDepth 20000 in
theorem M_LT_add {l : Launch} {D : va_G} {ad : Nat → Nat} {cI cL : ClassId} (hj : Inj ad) {a1 : Int32} {s : St} {o : Int32 × St} (h : F_LT_add a1 s = some o) : Cn l D ad cI cL y_LT_add b_LT_add 2 (some .int) 2 [.ref (ad 34), .int a1] s (some (.int o.1)) o.2 := by
  refine Cn_ofI hj (plainFor_of_name (by decide)) (Nat.le_of_ble_eq_true rfl) [(0, .ref (ad 34)), (1, .int a1)] rfl (fun G hC e1 e2 e3 e4 e5 hR => ?_)
  subst e1; subst e2; subst e3; subst e4; subst e5
  exact B_LT_add hC a1 s o h hR
theorem d_LT_drop_0 : PLa b_LT_drop 0 0 1 := Or.inl ⟨0, by decide +kernel, rfl, rfl⟩
theorem d_LT_drop_1 : PCi b_LT_drop 1 0 2 := Or.inl ⟨0, by decide +kernel, by decide, rfl⟩
theorem d_LT_drop_2 : DR b_LT_drop 2 (.putfield 15) 3 5 := ⟨by decide +kernel, rfl⟩
theorem d_LT_drop_5 : DR b_LT_drop 5 (.return_) 1 6 := ⟨by decide +kernel, rfl⟩
set_option maxRecDepth 20000 in
theorem B_LT_drop {G : MCx} (hC : C0 G "AccusedChoose$Letters" b_LT_drop 1 1) (s : St) : VO G (RV G b_LT_drop) (F_LT_drop s) 0 [(0, .ref (gad G 34))] [] s := by
  unfold F_LT_drop
  refine VO_aload hC d_LT_drop_0 0 rfl ?_
  refine VO_const hC d_LT_drop_1 ?_
  refine VO_puti hC fw_LT_15 sh_LT rfl d_LT_drop_2 (fun s1 => ?_)
  exact VO_return d_LT_drop_5
set_option maxRecDepth 20000 in
theorem M_LT_drop {l : Launch} {D : va_G} {ad : Nat → Nat} {cI cL : ClassId} (hj : Inj ad) {s : St} {o : St} (h : F_LT_drop s = some o) : Cn l D ad cI cL y_LT_drop b_LT_drop 1 none 1 [.ref (ad 34)] s none o := by
  refine Cn_ofV hj (plainFor_of_name (by decide)) (Nat.le_of_ble_eq_true rfl) [(0, .ref (ad 34))] rfl (fun G hC e1 e2 e3 e4 e5 hR => ?_)
  subst e1; subst e2; subst e3; subst e4; subst e5
  exact B_LT_drop hC s o h hR
theorem d_LT_digitsOf_0 : PLi b_LT_digitsOf 0 0 1 := Or.inl ⟨0, by decide +kernel, rfl, rfl⟩
theorem d_LT_digitsOf_1 : decode b_LT_digitsOf 1 = .ok (.lookupswitch 55 #[(97, 51), (98, 51), (100, 51), (112, 53), (120, 51)], 51) := by decide +kernel
theorem d_LT_digitsOf_52 : PCi b_LT_digitsOf 52 2 53 := Or.inl ⟨2, by decide +kernel, by decide, rfl⟩
theorem d_LT_digitsOf_53 : DR b_LT_digitsOf 53 (.ireturn) 1 54 := ⟨by decide +kernel, rfl⟩
theorem d_LT_digitsOf_54 : PCi b_LT_digitsOf 54 5 55 := Or.inl ⟨5, by decide +kernel, by decide, rfl⟩
theorem d_LT_digitsOf_55 : DR b_LT_digitsOf 55 (.ireturn) 1 56 := ⟨by decide +kernel, rfl⟩
theorem d_LT_digitsOf_56 : PCi b_LT_digitsOf 56 0 57 := Or.inl ⟨0, by decide +kernel, by decide, rfl⟩
theorem d_LT_digitsOf_57 : DR b_LT_digitsOf 57 (.ireturn) 1 58 := ⟨by decide +kernel, rfl⟩
set_option maxRecDepth 20000 in
theorem B_LT_digitsOf {G : MCx} (hC : C0 G "AccusedChoose$Letters" b_LT_digitsOf 1 1) (a0 : Int32) (s : St) : VO G (RI G b_LT_digitsOf) (F_LT_digitsOf a0 s) 0 [(0, .int a0)] [] s := by
  unfold F_LT_digitsOf
  refine VO_iload hC d_LT_digitsOf_0 0 rfl ?_
  refine VO_ite (fun c1_0 => ?_) (fun c1_0 => ?_)
  · refine VO_lsw (tgt := 52) (off := (51 : Int)) hC d_LT_digitsOf_1 (by decide) (by first | (rw [c1_0]; done) | (rw [c1_0]; decide)) (by decide) ?_
    refine VO_const hC d_LT_digitsOf_52 ?_
    exact VO_ireturn d_LT_digitsOf_53
  refine VO_ite (fun c1_1 => ?_) (fun c1_1 => ?_)
  · refine VO_lsw (tgt := 52) (off := (51 : Int)) hC d_LT_digitsOf_1 (by decide) (by first | (rw [c1_1]; done) | (rw [c1_1]; decide)) (by decide) ?_
    refine VO_const hC d_LT_digitsOf_52 ?_
    exact VO_ireturn d_LT_digitsOf_53
  refine VO_ite (fun c1_2 => ?_) (fun c1_2 => ?_)
  · refine VO_lsw (tgt := 52) (off := (51 : Int)) hC d_LT_digitsOf_1 (by decide) (by first | (rw [c1_2]; done) | (rw [c1_2]; decide)) (by decide) ?_
    refine VO_const hC d_LT_digitsOf_52 ?_
    exact VO_ireturn d_LT_digitsOf_53
  refine VO_ite (fun c1_3 => ?_) (fun c1_3 => ?_)
  · refine VO_lsw (tgt := 54) (off := (53 : Int)) hC d_LT_digitsOf_1 (by decide) (by first | (rw [c1_3]; done) | (rw [c1_3]; decide)) (by decide) ?_
    refine VO_const hC d_LT_digitsOf_54 ?_
    exact VO_ireturn d_LT_digitsOf_55
  refine VO_ite (fun c1_4 => ?_) (fun c1_4 => ?_)
  · refine VO_lsw (tgt := 52) (off := (51 : Int)) hC d_LT_digitsOf_1 (by decide) (by first | (rw [c1_4]; done) | (rw [c1_4]; decide)) (by decide) ?_
    refine VO_const hC d_LT_digitsOf_52 ?_
    exact VO_ireturn d_LT_digitsOf_53
  refine VO_lsw (tgt := 56) (off := (55 : Int)) hC d_LT_digitsOf_1 (by decide) ((lv_osw c1_0 rfl).trans ((lv_osw c1_1 rfl).trans ((lv_osw c1_2 rfl).trans ((lv_osw c1_3 rfl).trans ((lv_osw c1_4 rfl)))))) (by decide) ?_
  refine VO_const hC d_LT_digitsOf_56 ?_
  exact VO_ireturn d_LT_digitsOf_57
set_option maxRecDepth 20000 in
theorem M_LT_digitsOf {l : Launch} {D : va_G} {ad : Nat → Nat} {cI cL : ClassId} (hj : Inj ad) {a0 : Int32} {s : St} {o : Int32 × St} (h : F_LT_digitsOf a0 s = some o) : Cn l D ad cI cL y_LT_digitsOf b_LT_digitsOf 1 (some .int) 1 [.int a0] s (some (.int o.1)) o.2 := by
  refine Cn_ofI hj (plainFor_of_name (by decide)) (Nat.le_of_ble_eq_true rfl) [(0, .int a0)] rfl (fun G hC e1 e2 e3 e4 e5 hR => ?_)
  subst e1; subst e2; subst e3; subst e4; subst e5
  exact B_LT_digitsOf hC a0 s o h hR
theorem d_LT_placeOfWrongLetter_0 : PCi b_LT_placeOfWrongLetter 0 (-1) 1 := Or.inl ⟨(-1), by decide +kernel, by decide, rfl⟩
theorem d_LT_placeOfWrongLetter_1 : PSi b_LT_placeOfWrongLetter 1 1 2 := Or.inl ⟨1, by decide +kernel, rfl, rfl⟩
theorem d_LT_placeOfWrongLetter_2 : PCi b_LT_placeOfWrongLetter 2 0 3 := Or.inl ⟨0, by decide +kernel, by decide, rfl⟩
theorem d_LT_placeOfWrongLetter_3 : PSi b_LT_placeOfWrongLetter 3 2 4 := Or.inl ⟨2, by decide +kernel, rfl, rfl⟩
theorem d_LT_placeOfWrongLetter_4 : PLi b_LT_placeOfWrongLetter 4 2 5 := Or.inl ⟨2, by decide +kernel, rfl, rfl⟩
theorem d_LT_placeOfWrongLetter_5 : PLa b_LT_placeOfWrongLetter 5 0 6 := Or.inl ⟨0, by decide +kernel, rfl, rfl⟩
theorem d_LT_placeOfWrongLetter_6 : DR b_LT_placeOfWrongLetter 6 (.getfield 15) 3 9 := ⟨by decide +kernel, rfl⟩
theorem d_LT_placeOfWrongLetter_9 : DJ b_LT_placeOfWrongLetter 9 (.if_icmp .ge) 12 77 := ⟨68, by decide +kernel, rfl, by decide⟩
theorem d_LT_placeOfWrongLetter_12 : PLa b_LT_placeOfWrongLetter 12 0 13 := Or.inl ⟨0, by decide +kernel, rfl, rfl⟩
theorem d_LT_placeOfWrongLetter_13 : DR b_LT_placeOfWrongLetter 13 (.getfield 11) 3 16 := ⟨by decide +kernel, rfl⟩
theorem d_LT_placeOfWrongLetter_16 : PLi b_LT_placeOfWrongLetter 16 2 17 := Or.inl ⟨2, by decide +kernel, rfl, rfl⟩
theorem d_LT_placeOfWrongLetter_17 : DR b_LT_placeOfWrongLetter 17 (.invokestatic 37) 3 20 := ⟨by decide +kernel, rfl⟩
theorem d_LT_placeOfWrongLetter_20 : PSi b_LT_placeOfWrongLetter 20 3 21 := Or.inl ⟨3, by decide +kernel, rfl, rfl⟩
theorem d_LT_placeOfWrongLetter_21 : PLi b_LT_placeOfWrongLetter 21 1 22 := Or.inl ⟨1, by decide +kernel, rfl, rfl⟩
theorem d_LT_placeOfWrongLetter_22 : PCi b_LT_placeOfWrongLetter 22 (-1) 23 := Or.inl ⟨(-1), by decide +kernel, by decide, rfl⟩
theorem d_LT_placeOfWrongLetter_23 : DJ b_LT_placeOfWrongLetter 23 (.if_icmp .ne) 26 37 := ⟨14, by decide +kernel, rfl, by decide⟩
theorem d_LT_placeOfWrongLetter_26 : PLi b_LT_placeOfWrongLetter 26 3 27 := Or.inl ⟨3, by decide +kernel, rfl, rfl⟩
theorem d_LT_placeOfWrongLetter_27 : DR b_LT_placeOfWrongLetter 27 (.invokestatic 41) 3 30 := ⟨by decide +kernel, rfl⟩
theorem d_LT_placeOfWrongLetter_30 : PSi b_LT_placeOfWrongLetter 30 1 31 := Or.inl ⟨1, by decide +kernel, rfl, rfl⟩
theorem d_LT_placeOfWrongLetter_31 : PLi b_LT_placeOfWrongLetter 31 1 32 := Or.inl ⟨1, by decide +kernel, rfl, rfl⟩
theorem d_LT_placeOfWrongLetter_32 : DJ b_LT_placeOfWrongLetter 32 (.ifCond .ne) 35 71 := ⟨39, by decide +kernel, rfl, by decide⟩
theorem d_LT_placeOfWrongLetter_35 : PLi b_LT_placeOfWrongLetter 35 2 36 := Or.inl ⟨2, by decide +kernel, rfl, rfl⟩
theorem d_LT_placeOfWrongLetter_36 : DR b_LT_placeOfWrongLetter 36 (.ireturn) 1 37 := ⟨by decide +kernel, rfl⟩
theorem d_LT_placeOfWrongLetter_37 : PLi b_LT_placeOfWrongLetter 37 1 38 := Or.inl ⟨1, by decide +kernel, rfl, rfl⟩
theorem d_LT_placeOfWrongLetter_38 : DJ b_LT_placeOfWrongLetter 38 (.ifCond .le) 41 61 := ⟨23, by decide +kernel, rfl, by decide⟩
theorem d_LT_placeOfWrongLetter_41 : PLi b_LT_placeOfWrongLetter 41 3 42 := Or.inl ⟨3, by decide +kernel, rfl, rfl⟩
theorem d_LT_placeOfWrongLetter_42 : PCi b_LT_placeOfWrongLetter 42 48 44 := Or.inr (Or.inl ⟨48, by decide +kernel, by decide, rfl⟩)
theorem d_LT_placeOfWrongLetter_44 : DJ b_LT_placeOfWrongLetter 44 (.if_icmp .lt) 47 53 := ⟨9, by decide +kernel, rfl, by decide⟩
theorem d_LT_placeOfWrongLetter_47 : PLi b_LT_placeOfWrongLetter 47 3 48 := Or.inl ⟨3, by decide +kernel, rfl, rfl⟩
theorem d_LT_placeOfWrongLetter_48 : PCi b_LT_placeOfWrongLetter 48 57 50 := Or.inr (Or.inl ⟨57, by decide +kernel, by decide, rfl⟩)
theorem d_LT_placeOfWrongLetter_50 : DJ b_LT_placeOfWrongLetter 50 (.if_icmp .le) 53 55 := ⟨5, by decide +kernel, rfl, by decide⟩
theorem d_LT_placeOfWrongLetter_53 : PLi b_LT_placeOfWrongLetter 53 2 54 := Or.inl ⟨2, by decide +kernel, rfl, rfl⟩
theorem d_LT_placeOfWrongLetter_54 : DR b_LT_placeOfWrongLetter 54 (.ireturn) 1 55 := ⟨by decide +kernel, rfl⟩
theorem d_LT_placeOfWrongLetter_55 : DR b_LT_placeOfWrongLetter 55 (.iinc 1 (-1)) 3 58 := ⟨by decide +kernel, rfl⟩
theorem d_LT_placeOfWrongLetter_58 : DJ b_LT_placeOfWrongLetter 58 .goto 61 71 := ⟨13, by decide +kernel, rfl, by decide⟩
theorem d_LT_placeOfWrongLetter_61 : PLi b_LT_placeOfWrongLetter 61 3 62 := Or.inl ⟨3, by decide +kernel, rfl, rfl⟩
theorem d_LT_placeOfWrongLetter_62 : PCi b_LT_placeOfWrongLetter 62 59 64 := Or.inr (Or.inl ⟨59, by decide +kernel, by decide, rfl⟩)
theorem d_LT_placeOfWrongLetter_64 : DJ b_LT_placeOfWrongLetter 64 (.if_icmp .eq) 67 69 := ⟨5, by decide +kernel, rfl, by decide⟩
theorem d_LT_placeOfWrongLetter_67 : PLi b_LT_placeOfWrongLetter 67 2 68 := Or.inl ⟨2, by decide +kernel, rfl, rfl⟩
theorem d_LT_placeOfWrongLetter_68 : DR b_LT_placeOfWrongLetter 68 (.ireturn) 1 69 := ⟨by decide +kernel, rfl⟩
theorem d_LT_placeOfWrongLetter_69 : PCi b_LT_placeOfWrongLetter 69 (-1) 70 := Or.inl ⟨(-1), by decide +kernel, by decide, rfl⟩
theorem d_LT_placeOfWrongLetter_70 : PSi b_LT_placeOfWrongLetter 70 1 71 := Or.inl ⟨1, by decide +kernel, rfl, rfl⟩
theorem d_LT_placeOfWrongLetter_71 : DR b_LT_placeOfWrongLetter 71 (.iinc 2 1) 3 74 := ⟨by decide +kernel, rfl⟩
theorem d_LT_placeOfWrongLetter_74 : DJ b_LT_placeOfWrongLetter 74 .goto 77 4 := ⟨-70, by decide +kernel, rfl, by decide⟩
theorem d_LT_placeOfWrongLetter_77 : PLi b_LT_placeOfWrongLetter 77 1 78 := Or.inl ⟨1, by decide +kernel, rfl, rfl⟩
theorem d_LT_placeOfWrongLetter_78 : PCi b_LT_placeOfWrongLetter 78 (-1) 79 := Or.inl ⟨(-1), by decide +kernel, by decide, rfl⟩
theorem d_LT_placeOfWrongLetter_79 : DJ b_LT_placeOfWrongLetter 79 (.if_icmp .ne) 82 94 := ⟨15, by decide +kernel, rfl, by decide⟩
theorem d_LT_placeOfWrongLetter_82 : PLa b_LT_placeOfWrongLetter 82 0 83 := Or.inl ⟨0, by decide +kernel, rfl, rfl⟩
theorem d_LT_placeOfWrongLetter_83 : DR b_LT_placeOfWrongLetter 83 (.getfield 15) 3 86 := ⟨by decide +kernel, rfl⟩
theorem d_LT_placeOfWrongLetter_86 : DJ b_LT_placeOfWrongLetter 86 (.ifCond .le) 89 94 := ⟨8, by decide +kernel, rfl, by decide⟩
theorem d_LT_placeOfWrongLetter_89 : PCi b_LT_placeOfWrongLetter 89 (-9) 91 := Or.inr (Or.inl ⟨(-9), by decide +kernel, by decide, rfl⟩)
theorem d_LT_placeOfWrongLetter_91 : DJ b_LT_placeOfWrongLetter 91 .goto 94 98 := ⟨7, by decide +kernel, rfl, by decide⟩
theorem d_LT_placeOfWrongLetter_94 : PLa b_LT_placeOfWrongLetter 94 0 95 := Or.inl ⟨0, by decide +kernel, rfl, rfl⟩
theorem d_LT_placeOfWrongLetter_95 : DR b_LT_placeOfWrongLetter 95 (.getfield 15) 3 98 := ⟨by decide +kernel, rfl⟩
theorem d_LT_placeOfWrongLetter_98 : DR b_LT_placeOfWrongLetter 98 (.ireturn) 1 99 := ⟨by decide +kernel, rfl⟩
set_option maxRecDepth 20000 in
theorem B_LT_placeOfWrongLetter_94 {G : MCx} (hC : C0 G "AccusedChoose$Letters" b_LT_placeOfWrongLetter 4 2) (s : St) : VO G (RI G b_LT_placeOfWrongLetter) (F_LT_placeOfWrongLetter_94 s) 94 [(0, .ref (gad G 34))] [] s := by
  unfold F_LT_placeOfWrongLetter_94
  refine VO_aload hC d_LT_placeOfWrongLetter_94 0 rfl ?_
  refine VO_geti hC fl_LT_15 sh_LT rfl d_LT_placeOfWrongLetter_95 ?_
  exact VO_ireturn d_LT_placeOfWrongLetter_98
set_option maxRecDepth 20000 in
theorem B_LT_placeOfWrongLetter_71 {G : MCx} (hC : C0 G "AccusedChoose$Letters" b_LT_placeOfWrongLetter 4 2) (K4 : Int32 × Int32 × St → Option (Int32 × St)) (hK4 : ∀ (w1 : Int32) (w2 : Int32) (s : St), VO G (RI G b_LT_placeOfWrongLetter) (K4 (w1, w2, s)) 4 [(0, .ref (gad G 34)), (1, .int w1), (2, .int w2)] [] s) (v1 : Int32) (v2 : Int32) (s : St) : VO G (RI G b_LT_placeOfWrongLetter) (F_LT_placeOfWrongLetter_71 K4 v1 v2 s) 71 [(0, .ref (gad G 34)), (1, .int v1), (2, .int v2)] [] s := by
  unfold F_LT_placeOfWrongLetter_71
  refine VO_iinc hC d_LT_placeOfWrongLetter_71 2 rfl (by decide : Int32.ofInt 1 = 1) [(0, .ref (gad G 34)), (1, .int v1)] rfl (by decide) ?_
  refine VO_goto hC d_LT_placeOfWrongLetter_74 ?_
  exact VO_sub [1, 2, 0] rfl (hK4 v1 (v2 + 1) s)
set_option maxRecDepth 20000 in
theorem BH_LT_placeOfWrongLetter_4 {G : MCx} (hC : C0 G "AccusedChoose$Letters" b_LT_placeOfWrongLetter 4 2) (K4 : Int32 × Int32 × St → Option (Int32 × St)) (hK4 : ∀ (w1 : Int32) (w2 : Int32) (s : St), VO G (RI G b_LT_placeOfWrongLetter) (K4 (w1, w2, s)) 4 [(0, .ref (gad G 34)), (1, .int w1), (2, .int w2)] [] s) (v1 : Int32) (v2 : Int32) (s : St) : VO G (RI G b_LT_placeOfWrongLetter) (H_LT_placeOfWrongLetter_4 K4 v1 v2 s) 4 [(0, .ref (gad G 34)), (1, .int v1), (2, .int v2)] [] s := by
  unfold H_LT_placeOfWrongLetter_4
  refine VO_iload hC d_LT_placeOfWrongLetter_4 2 rfl ?_
  refine VO_aload hC d_LT_placeOfWrongLetter_5 0 rfl ?_
  refine VO_geti hC fl_LT_15 sh_LT rfl d_LT_placeOfWrongLetter_6 ?_
  refine VO_icmp_ge hC d_LT_placeOfWrongLetter_9 (fun _ => ?_) (fun _ => ?_)
  · refine VO_iload hC d_LT_placeOfWrongLetter_77 1 rfl ?_
    refine VO_const hC d_LT_placeOfWrongLetter_78 ?_
    refine VO_icmp_ne hC d_LT_placeOfWrongLetter_79 (fun _ => ?_) (fun _ => ?_)
    · refine VO_aload hC d_LT_placeOfWrongLetter_82 0 rfl ?_
      refine VO_geti hC fl_LT_15 sh_LT rfl d_LT_placeOfWrongLetter_83 ?_
      refine VO_if_le hC d_LT_placeOfWrongLetter_86 (fun _ => ?_) (fun _ => ?_)
      · exact VO_sub [0] rfl (B_LT_placeOfWrongLetter_94 hC s)
      · refine VO_const hC d_LT_placeOfWrongLetter_89 ?_
        refine VO_goto hC d_LT_placeOfWrongLetter_91 ?_
        exact VO_ireturn d_LT_placeOfWrongLetter_98
    · exact VO_sub [0] rfl (B_LT_placeOfWrongLetter_94 hC s)
  · refine VO_aload hC d_LT_placeOfWrongLetter_12 0 rfl ?_
    refine VO_getr (r := 35) hC fl_LT_11 sh_LT rfl d_LT_placeOfWrongLetter_13 ?_
    refine VO_iload hC d_LT_placeOfWrongLetter_16 2 rfl ?_
    refine VO_callNI hC [.ref (gad G 35), .int v2] [] nl_LT_37 d_LT_placeOfWrongLetter_17 ys_AC_at (fun o h => M_AC_at hC.inj ia_35 h) (by decide) rfl rfl (Nat.le_of_ble_eq_true rfl) (fun o1 => ?_)
    refine VO_istore hC d_LT_placeOfWrongLetter_20 [(0, .ref (gad G 34)), (1, .int v1), (2, .int v2)] rfl (by decide) ?_
    refine VO_iload hC d_LT_placeOfWrongLetter_21 2 rfl ?_
    refine VO_const hC d_LT_placeOfWrongLetter_22 ?_
    refine VO_icmp_ne hC d_LT_placeOfWrongLetter_23 (fun _ => ?_) (fun _ => ?_)
    · refine VO_iload hC d_LT_placeOfWrongLetter_26 0 rfl ?_
      refine VO_callSI hC [.int o1.1] [] ml_LT_41 d_LT_placeOfWrongLetter_27 ys_LT_digitsOf (fun o h => M_LT_digitsOf hC.inj h) (by decide) rfl rfl (Nat.le_of_ble_eq_true rfl) (fun o2 => ?_)
      refine VO_istore hC d_LT_placeOfWrongLetter_30 [(3, .int o1.1), (0, .ref (gad G 34)), (2, .int v2)] rfl (by decide) ?_
      refine VO_iload hC d_LT_placeOfWrongLetter_31 0 rfl ?_
      refine VO_if_ne hC d_LT_placeOfWrongLetter_32 (fun _ => ?_) (fun _ => ?_)
      · refine VO_iload hC d_LT_placeOfWrongLetter_35 3 rfl ?_
        exact VO_ireturn d_LT_placeOfWrongLetter_36
      · exact VO_sub [2, 0, 3] rfl (B_LT_placeOfWrongLetter_71 hC K4 hK4 o2.1 v2 o2.2)
    · refine VO_iload hC d_LT_placeOfWrongLetter_37 2 rfl ?_
      refine VO_if_le hC d_LT_placeOfWrongLetter_38 (fun _ => ?_) (fun _ => ?_)
      · refine VO_iload hC d_LT_placeOfWrongLetter_61 0 rfl ?_
        refine VO_const hC d_LT_placeOfWrongLetter_62 ?_
        refine VO_icmp_eq hC d_LT_placeOfWrongLetter_64 (fun _ => ?_) (fun _ => ?_)
        · refine VO_const hC d_LT_placeOfWrongLetter_69 ?_
          refine VO_istore hC d_LT_placeOfWrongLetter_70 [(3, .int o1.1), (0, .ref (gad G 34)), (2, .int v2)] rfl (by decide) ?_
          exact VO_sub [2, 0, 3] rfl (B_LT_placeOfWrongLetter_71 hC K4 hK4 (-1 : Int32) v2 o1.2)
        · refine VO_iload hC d_LT_placeOfWrongLetter_67 3 rfl ?_
          exact VO_ireturn d_LT_placeOfWrongLetter_68
      · refine VO_iload hC d_LT_placeOfWrongLetter_41 0 rfl ?_
        refine VO_const hC d_LT_placeOfWrongLetter_42 ?_
        refine VO_icmp_lt hC d_LT_placeOfWrongLetter_44 (fun _ => ?_) (fun _ => ?_)
        · refine VO_iload hC d_LT_placeOfWrongLetter_53 3 rfl ?_
          exact VO_ireturn d_LT_placeOfWrongLetter_54
        · refine VO_iload hC d_LT_placeOfWrongLetter_47 0 rfl ?_
          refine VO_const hC d_LT_placeOfWrongLetter_48 ?_
          refine VO_icmp_le hC d_LT_placeOfWrongLetter_50 (fun _ => ?_) (fun _ => ?_)
          · refine VO_iincN hC d_LT_placeOfWrongLetter_55 2 rfl (by decide : Int32.ofInt (-1) = -1) [(3, .int o1.1), (0, .ref (gad G 34)), (2, .int v2)] rfl (by decide) ?_
            refine VO_goto hC d_LT_placeOfWrongLetter_58 ?_
            exact VO_sub [2, 0, 3] rfl (B_LT_placeOfWrongLetter_71 hC K4 hK4 (v1 - 1) v2 o1.2)
          · refine VO_iload hC d_LT_placeOfWrongLetter_53 3 rfl ?_
            exact VO_ireturn d_LT_placeOfWrongLetter_54
set_option maxRecDepth 20000 in
theorem B_LT_placeOfWrongLetter_4 {G : MCx} (hC : C0 G "AccusedChoose$Letters" b_LT_placeOfWrongLetter 4 2) (v1 : Int32) (v2 : Int32) (s : St) : VO G (RI G b_LT_placeOfWrongLetter) (F_LT_placeOfWrongLetter_4 v1 v2 s) 4 [(0, .ref (gad G 34)), (1, .int v1), (2, .int v2)] [] s := by
  exact VO_fix (G_LT_placeOfWrongLetter_4) 4 (fun q => [(0, .ref (gad G 34)), (1, .int q.1), (2, .int q.2.1)]) (fun q => q.2.2) (fun K hK q => BH_LT_placeOfWrongLetter_4 hC K (fun w1 w2 s => hK (w1, w2, s)) q.1 q.2.1 q.2.2) FUEL (v1, v2, s)
set_option maxRecDepth 20000 in
theorem B_LT_placeOfWrongLetter {G : MCx} (hC : C0 G "AccusedChoose$Letters" b_LT_placeOfWrongLetter 4 2) (s : St) : VO G (RI G b_LT_placeOfWrongLetter) (F_LT_placeOfWrongLetter s) 0 [(0, .ref (gad G 34))] [] s := by
  unfold F_LT_placeOfWrongLetter
  refine VO_const hC d_LT_placeOfWrongLetter_0 ?_
  refine VO_istore hC d_LT_placeOfWrongLetter_1 [(0, .ref (gad G 34))] rfl (by decide) ?_
  refine VO_const hC d_LT_placeOfWrongLetter_2 ?_
  refine VO_istore hC d_LT_placeOfWrongLetter_3 [(1, .int (-1 : Int32)), (0, .ref (gad G 34))] rfl (by decide) ?_
  exact VO_sub [2, 1, 0] rfl (B_LT_placeOfWrongLetter_4 hC (-1 : Int32) (0 : Int32) s)
set_option maxRecDepth 20000 in
theorem M_LT_placeOfWrongLetter {l : Launch} {D : va_G} {ad : Nat → Nat} {cI cL : ClassId} (hj : Inj ad) {s : St} {o : Int32 × St} (h : F_LT_placeOfWrongLetter s = some o) : Cn l D ad cI cL y_LT_placeOfWrongLetter b_LT_placeOfWrongLetter 4 (some .int) 2 [.ref (ad 34)] s (some (.int o.1)) o.2 := by
  refine Cn_ofI hj (plainFor_of_name (by decide)) (Nat.le_of_ble_eq_true rfl) [(0, .ref (ad 34))] rfl (fun G hC e1 e2 e3 e4 e5 hR => ?_)
  subst e1; subst e2; subst e3; subst e4; subst e5
  exact B_LT_placeOfWrongLetter hC s o h hR
theorem d_LT_digit_0 : PLa b_LT_digit 0 0 1 := Or.inl ⟨0, by decide +kernel, rfl, rfl⟩
theorem d_LT_digit_1 : DR b_LT_digit 1 (.getfield 11) 3 4 := ⟨by decide +kernel, rfl⟩
theorem d_LT_digit_4 : PLi b_LT_digit 4 1 5 := Or.inl ⟨1, by decide +kernel, rfl, rfl⟩
theorem d_LT_digit_5 : DR b_LT_digit 5 (.invokestatic 37) 3 8 := ⟨by decide +kernel, rfl⟩
theorem d_LT_digit_8 : PCi b_LT_digit 8 48 10 := Or.inr (Or.inl ⟨48, by decide +kernel, by decide, rfl⟩)
theorem d_LT_digit_10 : DR b_LT_digit 10 (.isub) 1 11 := ⟨by decide +kernel, rfl⟩
theorem d_LT_digit_11 : DR b_LT_digit 11 (.ireturn) 1 12 := ⟨by decide +kernel, rfl⟩
set_option maxRecDepth 20000 in
theorem B_LT_digit {G : MCx} (hC : C0 G "AccusedChoose$Letters" b_LT_digit 2 2) (a1 : Int32) (s : St) : VO G (RI G b_LT_digit) (F_LT_digit a1 s) 0 [(0, .ref (gad G 34)), (1, .int a1)] [] s := by
  unfold F_LT_digit
  refine VO_aload hC d_LT_digit_0 0 rfl ?_
  refine VO_getr (r := 35) hC fl_LT_11 sh_LT rfl d_LT_digit_1 ?_
  refine VO_iload hC d_LT_digit_4 1 rfl ?_
  refine VO_callNI hC [.ref (gad G 35), .int a1] [] nl_LT_37 d_LT_digit_5 ys_AC_at (fun o h => M_AC_at hC.inj ia_35 h) (by decide) rfl rfl (Nat.le_of_ble_eq_true rfl) (fun o1 => ?_)
  refine VO_const hC d_LT_digit_8 ?_
  refine VO_isub hC d_LT_digit_10 ?_
  exact VO_ireturn d_LT_digit_11
set_option maxRecDepth 20000 in
theorem M_LT_digit {l : Launch} {D : va_G} {ad : Nat → Nat} {cI cL : ClassId} (hj : Inj ad) {a1 : Int32} {s : St} {o : Int32 × St} (h : F_LT_digit a1 s = some o) : Cn l D ad cI cL y_LT_digit b_LT_digit 2 (some .int) 2 [.ref (ad 34), .int a1] s (some (.int o.1)) o.2 := by
  refine Cn_ofI hj (plainFor_of_name (by decide)) (Nat.le_of_ble_eq_true rfl) [(0, .ref (ad 34)), (1, .int a1)] rfl (fun G hC e1 e2 e3 e4 e5 hR => ?_)
  subst e1; subst e2; subst e3; subst e4; subst e5
  exact B_LT_digit hC a1 s o h hR
theorem d_NI_putDeed_0 : PLa b_NI_putDeed 0 0 1 := Or.inl ⟨0, by decide +kernel, rfl, rfl⟩
theorem d_NI_putDeed_1 : DR b_NI_putDeed 1 (.getfield 36) 3 4 := ⟨by decide +kernel, rfl⟩
theorem d_NI_putDeed_4 : PSi b_NI_putDeed 4 3 5 := Or.inl ⟨3, by decide +kernel, rfl, rfl⟩
theorem d_NI_putDeed_5 : PLa b_NI_putDeed 5 0 6 := Or.inl ⟨0, by decide +kernel, rfl, rfl⟩
theorem d_NI_putDeed_6 : DR b_NI_putDeed 6 (.getfield 9) 3 9 := ⟨by decide +kernel, rfl⟩
theorem d_NI_putDeed_9 : PLi b_NI_putDeed 9 3 10 := Or.inl ⟨3, by decide +kernel, rfl, rfl⟩
theorem d_NI_putDeed_10 : PLi b_NI_putDeed 10 1 11 := Or.inl ⟨1, by decide +kernel, rfl, rfl⟩
theorem d_NI_putDeed_11 : DR b_NI_putDeed 11 (.invokestatic 51) 3 14 := ⟨by decide +kernel, rfl⟩
theorem d_NI_putDeed_14 : PLa b_NI_putDeed 14 0 15 := Or.inl ⟨0, by decide +kernel, rfl, rfl⟩
theorem d_NI_putDeed_15 : DR b_NI_putDeed 15 (.getfield 15) 3 18 := ⟨by decide +kernel, rfl⟩
theorem d_NI_putDeed_18 : PLi b_NI_putDeed 18 3 19 := Or.inl ⟨3, by decide +kernel, rfl, rfl⟩
theorem d_NI_putDeed_19 : PLi b_NI_putDeed 19 2 20 := Or.inl ⟨2, by decide +kernel, rfl, rfl⟩
theorem d_NI_putDeed_20 : DR b_NI_putDeed 20 (.invokestatic 51) 3 23 := ⟨by decide +kernel, rfl⟩
theorem d_NI_putDeed_23 : PLa b_NI_putDeed 23 0 24 := Or.inl ⟨0, by decide +kernel, rfl, rfl⟩
theorem d_NI_putDeed_24 : PLi b_NI_putDeed 24 3 25 := Or.inl ⟨3, by decide +kernel, rfl, rfl⟩
theorem d_NI_putDeed_25 : PCi b_NI_putDeed 25 1 26 := Or.inl ⟨1, by decide +kernel, by decide, rfl⟩
theorem d_NI_putDeed_26 : DR b_NI_putDeed 26 (.iadd) 1 27 := ⟨by decide +kernel, rfl⟩
theorem d_NI_putDeed_27 : PLa b_NI_putDeed 27 0 28 := Or.inl ⟨0, by decide +kernel, rfl, rfl⟩
theorem d_NI_putDeed_28 : DR b_NI_putDeed 28 (.getfield 9) 3 31 := ⟨by decide +kernel, rfl⟩
theorem d_NI_putDeed_31 : DR b_NI_putDeed 31 (.arraylength) 1 32 := ⟨by decide +kernel, rfl⟩
theorem d_NI_putDeed_32 : DR b_NI_putDeed 32 (.invokestatic 55) 3 35 := ⟨by decide +kernel, rfl⟩
theorem d_NI_putDeed_35 : DR b_NI_putDeed 35 (.putfield 36) 3 38 := ⟨by decide +kernel, rfl⟩
theorem d_NI_putDeed_38 : PLi b_NI_putDeed 38 3 39 := Or.inl ⟨3, by decide +kernel, rfl, rfl⟩
theorem d_NI_putDeed_39 : DR b_NI_putDeed 39 (.ireturn) 1 40 := ⟨by decide +kernel, rfl⟩
set_option maxRecDepth 20000 in
theorem B_NI_putDeed {G : MCx} (hC : C0 G "AccusedChoose$Night" b_NI_putDeed 4 2) {t0 : Nat} (h0 : isNI t0) (a1 : Int32) (a2 : Int32) (s : St) : VO G (RI G b_NI_putDeed) (F_NI_putDeed t0 a1 a2 s) 0 [(0, .ref (gad G t0)), (1, .int a1), (2, .int a2)] [] s := by
  unfold F_NI_putDeed
  refine VO_aload hC d_NI_putDeed_0 0 rfl ?_
  refine VO_geti hC fl_NI_36 (sh_NI h0) rfl d_NI_putDeed_1 ?_
  refine VO_istoreB hC d_NI_putDeed_4 [(0, .ref (gad G t0)), (1, .int a1), (2, .int a2)] rfl (by decide) (fun x1 => ?_)
  refine VO_aload hC d_NI_putDeed_5 1 rfl ?_
  refine VO_getr (r := (t0 + 1)) hC fl_NI_9 (sh_NI h0) rfl d_NI_putDeed_6 ?_
  refine VO_iload hC d_NI_putDeed_9 0 rfl ?_
  refine VO_iload hC d_NI_putDeed_10 2 rfl ?_
  refine VO_callNV hC [.ref (gad G (t0 + 1)), .int x1, .int a1] [] nl_NI_51 d_NI_putDeed_11 ys_AC_put (fun o h => M_AC_put hC.inj (ia_NI1 h0) h) (by decide) rfl rfl (Nat.le_of_ble_eq_true rfl) (fun s2 => ?_)
  refine VO_aload hC d_NI_putDeed_14 1 rfl ?_
  refine VO_getr (r := (t0 + 2)) hC fl_NI_15 (sh_NI h0) rfl d_NI_putDeed_15 ?_
  refine VO_iload hC d_NI_putDeed_18 0 rfl ?_
  refine VO_iload hC d_NI_putDeed_19 3 rfl ?_
  refine VO_callNV hC [.ref (gad G (t0 + 2)), .int x1, .int a2] [] nl_NI_51 d_NI_putDeed_20 ys_AC_put (fun o h => M_AC_put hC.inj (ia_NI2 h0) h) (by decide) rfl rfl (Nat.le_of_ble_eq_true rfl) (fun s3 => ?_)
  refine VO_aload hC d_NI_putDeed_23 1 rfl ?_
  refine VO_iload hC d_NI_putDeed_24 0 rfl ?_
  refine VO_const hC d_NI_putDeed_25 ?_
  refine VO_iadd hC d_NI_putDeed_26 ?_
  refine VO_aload hC d_NI_putDeed_27 1 rfl ?_
  refine VO_getr (r := (t0 + 1)) hC fl_NI_9 (sh_NI h0) rfl d_NI_putDeed_28 ?_
  refine VO_alen hC (ia_NI1 h0) d_NI_putDeed_31 ?_
  refine VO_callSI hC [.int (x1 + (1 : Int32)), .int (nI (alen (t0 + 1)))] [.ref (gad G t0)] ml_NI_55 d_NI_putDeed_32 ys_MA_min (fun o h => M_MA_min hC.inj h) (by decide) rfl rfl (Nat.le_of_ble_eq_true rfl) (fun o4 => ?_)
  refine VO_puti hC fw_NI_36 (sh_NI h0) rfl d_NI_putDeed_35 (fun s5 => ?_)
  refine VO_iload hC d_NI_putDeed_38 0 rfl ?_
  exact VO_ireturn d_NI_putDeed_39
set_option maxRecDepth 20000 in
theorem M_NI_putDeed {l : Launch} {D : va_G} {ad : Nat → Nat} {cI cL : ClassId} (hj : Inj ad) {t0 : Nat} (h0 : isNI t0) {a1 : Int32} {a2 : Int32} {s : St} {o : Int32 × St} (h : F_NI_putDeed t0 a1 a2 s = some o) : Cn l D ad cI cL y_NI_putDeed b_NI_putDeed 4 (some .int) 2 [.ref (ad t0), .int a1, .int a2] s (some (.int o.1)) o.2 := by
  refine Cn_ofI hj (plainFor_of_name (by decide)) (Nat.le_of_ble_eq_true rfl) [(0, .ref (ad t0)), (1, .int a1), (2, .int a2)] rfl (fun G hC e1 e2 e3 e4 e5 hR => ?_)
  subst e1; subst e2; subst e3; subst e4; subst e5
  exact B_NI_putDeed hC h0 a1 a2 s o h hR
theorem d_LT_stateDeed_0 : PLi b_LT_stateDeed 0 2 1 := Or.inl ⟨2, by decide +kernel, rfl, rfl⟩
theorem d_LT_stateDeed_1 : PCi b_LT_stateDeed 1 6 3 := Or.inr (Or.inl ⟨6, by decide +kernel, by decide, rfl⟩)
theorem d_LT_stateDeed_3 : DJ b_LT_stateDeed 3 (.if_icmp .ge) 6 15 := ⟨12, by decide +kernel, rfl, by decide⟩
theorem d_LT_stateDeed_6 : PLa b_LT_stateDeed 6 1 7 := Or.inl ⟨1, by decide +kernel, rfl, rfl⟩
theorem d_LT_stateDeed_7 : DR b_LT_stateDeed 7 (.getfield 85) 3 10 := ⟨by decide +kernel, rfl⟩
theorem d_LT_stateDeed_10 : PCi b_LT_stateDeed 10 7 12 := Or.inr (Or.inl ⟨7, by decide +kernel, by decide, rfl⟩)
theorem d_LT_stateDeed_12 : DJ b_LT_stateDeed 12 (.if_icmp .lt) 15 17 := ⟨5, by decide +kernel, rfl, by decide⟩
theorem d_LT_stateDeed_15 : PCi b_LT_stateDeed 15 0 16 := Or.inl ⟨0, by decide +kernel, by decide, rfl⟩
theorem d_LT_stateDeed_16 : DR b_LT_stateDeed 16 (.ireturn) 1 17 := ⟨by decide +kernel, rfl⟩
theorem d_LT_stateDeed_17 : PLa b_LT_stateDeed 17 1 18 := Or.inl ⟨1, by decide +kernel, rfl, rfl⟩
theorem d_LT_stateDeed_18 : PLi b_LT_stateDeed 18 2 19 := Or.inl ⟨2, by decide +kernel, rfl, rfl⟩
theorem d_LT_stateDeed_19 : PLi b_LT_stateDeed 19 3 20 := Or.inl ⟨3, by decide +kernel, rfl, rfl⟩
theorem d_LT_stateDeed_20 : DR b_LT_stateDeed 20 (.invokevirtual 88) 3 23 := ⟨by decide +kernel, rfl⟩
theorem d_LT_stateDeed_23 : DR b_LT_stateDeed 23 (.pop) 1 24 := ⟨by decide +kernel, rfl⟩
theorem d_LT_stateDeed_24 : PCi b_LT_stateDeed 24 1 25 := Or.inl ⟨1, by decide +kernel, by decide, rfl⟩
theorem d_LT_stateDeed_25 : DR b_LT_stateDeed 25 (.ireturn) 1 26 := ⟨by decide +kernel, rfl⟩
set_option maxRecDepth 20000 in
theorem B_LT_stateDeed {G : MCx} (hC : C0 G "AccusedChoose$Letters" b_LT_stateDeed 4 3) {t1 : Nat} (h1 : isNI t1) (a2 : Int32) (a3 : Int32) (s : St) : VO G (RZ G b_LT_stateDeed) (F_LT_stateDeed t1 a2 a3 s) 0 [(0, .ref (gad G 34)), (1, .ref (gad G t1)), (2, .int a2), (3, .int a3)] [] s := by
  unfold F_LT_stateDeed
  refine VO_iload hC d_LT_stateDeed_0 2 rfl ?_
  refine VO_const hC d_LT_stateDeed_1 ?_
  refine VO_icmp_ge hC d_LT_stateDeed_3 (fun _ => ?_) (fun _ => ?_)
  · refine VO_const hC d_LT_stateDeed_15 ?_
    exact VO_z0 d_LT_stateDeed_16
  · refine VO_aload hC d_LT_stateDeed_6 1 rfl ?_
    refine VO_geti hC fl_LT_85 (sh_NI h1) rfl d_LT_stateDeed_7 ?_
    refine VO_const hC d_LT_stateDeed_10 ?_
    refine VO_icmp_lt hC d_LT_stateDeed_12 (fun _ => ?_) (fun _ => ?_)
    · refine VO_aload hC d_LT_stateDeed_17 1 rfl ?_
      refine VO_iload hC d_LT_stateDeed_18 2 rfl ?_
      refine VO_iload hC d_LT_stateDeed_19 3 rfl ?_
      refine VO_callVI hC [.int a2, .int a3] [] ml_LT_88 d_LT_stateDeed_20 yv_NI_putDeed (sh_NI h1) rfl rfl (fun o h => M_NI_putDeed hC.inj h1 h) (by decide) rfl rfl (Nat.le_of_ble_eq_true rfl) (fun o1 => ?_)
      refine VO_pop hC d_LT_stateDeed_23 rfl ?_
      refine VO_const hC d_LT_stateDeed_24 ?_
      exact VO_z1 d_LT_stateDeed_25
    · refine VO_const hC d_LT_stateDeed_15 ?_
      exact VO_z0 d_LT_stateDeed_16
set_option maxRecDepth 20000 in
theorem M_LT_stateDeed {l : Launch} {D : va_G} {ad : Nat → Nat} {cI cL : ClassId} (hj : Inj ad) {t1 : Nat} (h1 : isNI t1) {a2 : Int32} {a3 : Int32} {s : St} {o : Int32 × St} (h : F_LT_stateDeed t1 a2 a3 s = some o) : Cn l D ad cI cL y_LT_stateDeed b_LT_stateDeed 4 (some .boolean) 3 [.ref (ad 34), .ref (ad t1), .int a2, .int a3] s (some (.int o.1)) o.2 := by
  refine Cn_ofZ hj (plainFor_of_name (by decide)) (Nat.le_of_ble_eq_true rfl) [(0, .ref (ad 34)), (1, .ref (ad t1)), (2, .int a2), (3, .int a3)] rfl (fun G hC e1 e2 e3 e4 e5 hR => ?_)
  subst e1; subst e2; subst e3; subst e4; subst e5
  exact B_LT_stateDeed hC h1 a2 a3 s o h hR
theorem d_NI_putPerson_0 : PLa b_NI_putPerson 0 0 1 := Or.inl ⟨0, by decide +kernel, rfl, rfl⟩
theorem d_NI_putPerson_1 : DR b_NI_putPerson 1 (.getfield 40) 3 4 := ⟨by decide +kernel, rfl⟩
theorem d_NI_putPerson_4 : PSi b_NI_putPerson 4 4 6 := Or.inr ⟨by decide +kernel, rfl⟩
theorem d_NI_putPerson_6 : PLa b_NI_putPerson 6 0 7 := Or.inl ⟨0, by decide +kernel, rfl, rfl⟩
theorem d_NI_putPerson_7 : DR b_NI_putPerson 7 (.getfield 18) 3 10 := ⟨by decide +kernel, rfl⟩
theorem d_NI_putPerson_10 : PLi b_NI_putPerson 10 4 12 := Or.inr ⟨by decide +kernel, rfl⟩
theorem d_NI_putPerson_12 : PLi b_NI_putPerson 12 1 13 := Or.inl ⟨1, by decide +kernel, rfl, rfl⟩
theorem d_NI_putPerson_13 : DR b_NI_putPerson 13 (.invokestatic 51) 3 16 := ⟨by decide +kernel, rfl⟩
theorem d_NI_putPerson_16 : PLa b_NI_putPerson 16 0 17 := Or.inl ⟨0, by decide +kernel, rfl, rfl⟩
theorem d_NI_putPerson_17 : DR b_NI_putPerson 17 (.getfield 21) 3 20 := ⟨by decide +kernel, rfl⟩
theorem d_NI_putPerson_20 : PLi b_NI_putPerson 20 4 22 := Or.inr ⟨by decide +kernel, rfl⟩
theorem d_NI_putPerson_22 : PLi b_NI_putPerson 22 2 23 := Or.inl ⟨2, by decide +kernel, rfl, rfl⟩
theorem d_NI_putPerson_23 : DR b_NI_putPerson 23 (.invokestatic 51) 3 26 := ⟨by decide +kernel, rfl⟩
theorem d_NI_putPerson_26 : PLa b_NI_putPerson 26 0 27 := Or.inl ⟨0, by decide +kernel, rfl, rfl⟩
theorem d_NI_putPerson_27 : DR b_NI_putPerson 27 (.getfield 24) 3 30 := ⟨by decide +kernel, rfl⟩
theorem d_NI_putPerson_30 : PLi b_NI_putPerson 30 4 32 := Or.inr ⟨by decide +kernel, rfl⟩
theorem d_NI_putPerson_32 : PLi b_NI_putPerson 32 3 33 := Or.inl ⟨3, by decide +kernel, rfl, rfl⟩
theorem d_NI_putPerson_33 : DR b_NI_putPerson 33 (.invokestatic 51) 3 36 := ⟨by decide +kernel, rfl⟩
theorem d_NI_putPerson_36 : PLa b_NI_putPerson 36 0 37 := Or.inl ⟨0, by decide +kernel, rfl, rfl⟩
theorem d_NI_putPerson_37 : DR b_NI_putPerson 37 (.getfield 27) 3 40 := ⟨by decide +kernel, rfl⟩
theorem d_NI_putPerson_40 : PLi b_NI_putPerson 40 4 42 := Or.inr ⟨by decide +kernel, rfl⟩
theorem d_NI_putPerson_42 : PCi b_NI_putPerson 42 (-9) 44 := Or.inr (Or.inl ⟨(-9), by decide +kernel, by decide, rfl⟩)
theorem d_NI_putPerson_44 : DR b_NI_putPerson 44 (.invokestatic 51) 3 47 := ⟨by decide +kernel, rfl⟩
theorem d_NI_putPerson_47 : PLa b_NI_putPerson 47 0 48 := Or.inl ⟨0, by decide +kernel, rfl, rfl⟩
theorem d_NI_putPerson_48 : DR b_NI_putPerson 48 (.getfield 30) 3 51 := ⟨by decide +kernel, rfl⟩
theorem d_NI_putPerson_51 : PLi b_NI_putPerson 51 4 53 := Or.inr ⟨by decide +kernel, rfl⟩
theorem d_NI_putPerson_53 : PCi b_NI_putPerson 53 0 54 := Or.inl ⟨0, by decide +kernel, by decide, rfl⟩
theorem d_NI_putPerson_54 : DR b_NI_putPerson 54 (.invokestatic 51) 3 57 := ⟨by decide +kernel, rfl⟩
theorem d_NI_putPerson_57 : PLa b_NI_putPerson 57 0 58 := Or.inl ⟨0, by decide +kernel, rfl, rfl⟩
theorem d_NI_putPerson_58 : DR b_NI_putPerson 58 (.getfield 33) 3 61 := ⟨by decide +kernel, rfl⟩
theorem d_NI_putPerson_61 : PLi b_NI_putPerson 61 4 63 := Or.inr ⟨by decide +kernel, rfl⟩
theorem d_NI_putPerson_63 : PLi b_NI_putPerson 63 4 65 := Or.inr ⟨by decide +kernel, rfl⟩
theorem d_NI_putPerson_65 : DR b_NI_putPerson 65 (.invokestatic 51) 3 68 := ⟨by decide +kernel, rfl⟩
theorem d_NI_putPerson_68 : PLa b_NI_putPerson 68 0 69 := Or.inl ⟨0, by decide +kernel, rfl, rfl⟩
theorem d_NI_putPerson_69 : PLi b_NI_putPerson 69 4 71 := Or.inr ⟨by decide +kernel, rfl⟩
theorem d_NI_putPerson_71 : PCi b_NI_putPerson 71 1 72 := Or.inl ⟨1, by decide +kernel, by decide, rfl⟩
theorem d_NI_putPerson_72 : DR b_NI_putPerson 72 (.iadd) 1 73 := ⟨by decide +kernel, rfl⟩
theorem d_NI_putPerson_73 : PCi b_NI_putPerson 73 7 75 := Or.inr (Or.inl ⟨7, by decide +kernel, by decide, rfl⟩)
theorem d_NI_putPerson_75 : DR b_NI_putPerson 75 (.invokestatic 55) 3 78 := ⟨by decide +kernel, rfl⟩
theorem d_NI_putPerson_78 : DR b_NI_putPerson 78 (.putfield 40) 3 81 := ⟨by decide +kernel, rfl⟩
theorem d_NI_putPerson_81 : PLi b_NI_putPerson 81 4 83 := Or.inr ⟨by decide +kernel, rfl⟩
theorem d_NI_putPerson_83 : DR b_NI_putPerson 83 (.ireturn) 1 84 := ⟨by decide +kernel, rfl⟩
set_option maxRecDepth 20000 in
theorem B_NI_putPerson {G : MCx} (hC : C0 G "AccusedChoose$Night" b_NI_putPerson 5 2) {t0 : Nat} (h0 : isNI t0) (a1 : Int32) (a2 : Int32) (a3 : Int32) (s : St) : VO G (RI G b_NI_putPerson) (F_NI_putPerson t0 a1 a2 a3 s) 0 [(0, .ref (gad G t0)), (1, .int a1), (2, .int a2), (3, .int a3)] [] s := by
  unfold F_NI_putPerson
  refine VO_aload hC d_NI_putPerson_0 0 rfl ?_
  refine VO_geti hC fl_NI_40 (sh_NI h0) rfl d_NI_putPerson_1 ?_
  refine VO_istoreB hC d_NI_putPerson_4 [(0, .ref (gad G t0)), (1, .int a1), (2, .int a2), (3, .int a3)] rfl (by decide) (fun x1 => ?_)
  refine VO_aload hC d_NI_putPerson_6 1 rfl ?_
  refine VO_getr (r := (t0 + 3)) hC fl_NI_18 (sh_NI h0) rfl d_NI_putPerson_7 ?_
  refine VO_iload hC d_NI_putPerson_10 0 rfl ?_
  refine VO_iload hC d_NI_putPerson_12 2 rfl ?_
  refine VO_callNV hC [.ref (gad G (t0 + 3)), .int x1, .int a1] [] nl_NI_51 d_NI_putPerson_13 ys_AC_put (fun o h => M_AC_put hC.inj (ia_NI3 h0) h) (by decide) rfl rfl (Nat.le_of_ble_eq_true rfl) (fun s2 => ?_)
  refine VO_aload hC d_NI_putPerson_16 1 rfl ?_
  refine VO_getr (r := (t0 + 4)) hC fl_NI_21 (sh_NI h0) rfl d_NI_putPerson_17 ?_
  refine VO_iload hC d_NI_putPerson_20 0 rfl ?_
  refine VO_iload hC d_NI_putPerson_22 3 rfl ?_
  refine VO_callNV hC [.ref (gad G (t0 + 4)), .int x1, .int a2] [] nl_NI_51 d_NI_putPerson_23 ys_AC_put (fun o h => M_AC_put hC.inj (ia_NI4 h0) h) (by decide) rfl rfl (Nat.le_of_ble_eq_true rfl) (fun s3 => ?_)
  refine VO_aload hC d_NI_putPerson_26 1 rfl ?_
  refine VO_getr (r := (t0 + 5)) hC fl_NI_24 (sh_NI h0) rfl d_NI_putPerson_27 ?_
  refine VO_iload hC d_NI_putPerson_30 0 rfl ?_
  refine VO_iload hC d_NI_putPerson_32 4 rfl ?_
  refine VO_callNV hC [.ref (gad G (t0 + 5)), .int x1, .int a3] [] nl_NI_51 d_NI_putPerson_33 ys_AC_put (fun o h => M_AC_put hC.inj (ia_NI5 h0) h) (by decide) rfl rfl (Nat.le_of_ble_eq_true rfl) (fun s4 => ?_)
  refine VO_aload hC d_NI_putPerson_36 1 rfl ?_
  refine VO_getr (r := (t0 + 6)) hC fl_NI_27 (sh_NI h0) rfl d_NI_putPerson_37 ?_
  refine VO_iload hC d_NI_putPerson_40 0 rfl ?_
  refine VO_const hC d_NI_putPerson_42 ?_
  refine VO_callNV hC [.ref (gad G (t0 + 6)), .int x1, .int (-9 : Int32)] [] nl_NI_51 d_NI_putPerson_44 ys_AC_put (fun o h => M_AC_put hC.inj (ia_NI6 h0) h) (by decide) rfl rfl (Nat.le_of_ble_eq_true rfl) (fun s5 => ?_)
  refine VO_aload hC d_NI_putPerson_47 1 rfl ?_
  refine VO_getr (r := (t0 + 7)) hC fl_NI_30 (sh_NI h0) rfl d_NI_putPerson_48 ?_
  refine VO_iload hC d_NI_putPerson_51 0 rfl ?_
  refine VO_const hC d_NI_putPerson_53 ?_
  refine VO_callNV hC [.ref (gad G (t0 + 7)), .int x1, .int (0 : Int32)] [] nl_NI_51 d_NI_putPerson_54 ys_AC_put (fun o h => M_AC_put hC.inj (ia_NI7 h0) h) (by decide) rfl rfl (Nat.le_of_ble_eq_true rfl) (fun s6 => ?_)
  refine VO_aload hC d_NI_putPerson_57 1 rfl ?_
  refine VO_getr (r := (t0 + 8)) hC fl_NI_33 (sh_NI h0) rfl d_NI_putPerson_58 ?_
  refine VO_iload hC d_NI_putPerson_61 0 rfl ?_
  refine VO_iload hC d_NI_putPerson_63 0 rfl ?_
  refine VO_callNV hC [.ref (gad G (t0 + 8)), .int x1, .int x1] [] nl_NI_51 d_NI_putPerson_65 ys_AC_put (fun o h => M_AC_put hC.inj (ia_NI8 h0) h) (by decide) rfl rfl (Nat.le_of_ble_eq_true rfl) (fun s7 => ?_)
  refine VO_aload hC d_NI_putPerson_68 1 rfl ?_
  refine VO_iload hC d_NI_putPerson_69 0 rfl ?_
  refine VO_const hC d_NI_putPerson_71 ?_
  refine VO_iadd hC d_NI_putPerson_72 ?_
  refine VO_const hC d_NI_putPerson_73 ?_
  refine VO_callSI hC [.int (x1 + (1 : Int32)), .int (7 : Int32)] [.ref (gad G t0)] ml_NI_55 d_NI_putPerson_75 ys_MA_min (fun o h => M_MA_min hC.inj h) (by decide) rfl rfl (Nat.le_of_ble_eq_true rfl) (fun o8 => ?_)
  refine VO_puti hC fw_NI_40 (sh_NI h0) rfl d_NI_putPerson_78 (fun s9 => ?_)
  refine VO_iload hC d_NI_putPerson_81 0 rfl ?_
  exact VO_ireturn d_NI_putPerson_83
set_option maxRecDepth 20000 in
theorem M_NI_putPerson {l : Launch} {D : va_G} {ad : Nat → Nat} {cI cL : ClassId} (hj : Inj ad) {t0 : Nat} (h0 : isNI t0) {a1 : Int32} {a2 : Int32} {a3 : Int32} {s : St} {o : Int32 × St} (h : F_NI_putPerson t0 a1 a2 a3 s = some o) : Cn l D ad cI cL y_NI_putPerson b_NI_putPerson 5 (some .int) 2 [.ref (ad t0), .int a1, .int a2, .int a3] s (some (.int o.1)) o.2 := by
  refine Cn_ofI hj (plainFor_of_name (by decide)) (Nat.le_of_ble_eq_true rfl) [(0, .ref (ad t0)), (1, .int a1), (2, .int a2), (3, .int a3)] rfl (fun G hC e1 e2 e3 e4 e5 hR => ?_)
  subst e1; subst e2; subst e3; subst e4; subst e5
  exact B_NI_putPerson hC h0 a1 a2 a3 s o h hR
theorem d_LT_statePerson_0 : PCi b_LT_statePerson 0 100 2 := Or.inr (Or.inl ⟨100, by decide +kernel, by decide, rfl⟩)
theorem d_LT_statePerson_2 : PLa b_LT_statePerson 2 0 3 := Or.inl ⟨0, by decide +kernel, rfl, rfl⟩
theorem d_LT_statePerson_3 : PLi b_LT_statePerson 3 2 4 := Or.inl ⟨2, by decide +kernel, rfl, rfl⟩
theorem d_LT_statePerson_4 : PCi b_LT_statePerson 4 2 5 := Or.inl ⟨2, by decide +kernel, by decide, rfl⟩
theorem d_LT_statePerson_5 : DR b_LT_statePerson 5 (.iadd) 1 6 := ⟨by decide +kernel, rfl⟩
theorem d_LT_statePerson_6 : DR b_LT_statePerson 6 (.invokevirtual 45) 3 9 := ⟨by decide +kernel, rfl⟩
theorem d_LT_statePerson_9 : DR b_LT_statePerson 9 (.imul) 1 10 := ⟨by decide +kernel, rfl⟩
theorem d_LT_statePerson_10 : PCi b_LT_statePerson 10 10 12 := Or.inr (Or.inl ⟨10, by decide +kernel, by decide, rfl⟩)
theorem d_LT_statePerson_12 : PLa b_LT_statePerson 12 0 13 := Or.inl ⟨0, by decide +kernel, rfl, rfl⟩
theorem d_LT_statePerson_13 : PLi b_LT_statePerson 13 2 14 := Or.inl ⟨2, by decide +kernel, rfl, rfl⟩
theorem d_LT_statePerson_14 : PCi b_LT_statePerson 14 3 15 := Or.inl ⟨3, by decide +kernel, by decide, rfl⟩
theorem d_LT_statePerson_15 : DR b_LT_statePerson 15 (.iadd) 1 16 := ⟨by decide +kernel, rfl⟩
theorem d_LT_statePerson_16 : DR b_LT_statePerson 16 (.invokevirtual 45) 3 19 := ⟨by decide +kernel, rfl⟩
theorem d_LT_statePerson_19 : DR b_LT_statePerson 19 (.imul) 1 20 := ⟨by decide +kernel, rfl⟩
theorem d_LT_statePerson_20 : DR b_LT_statePerson 20 (.iadd) 1 21 := ⟨by decide +kernel, rfl⟩
theorem d_LT_statePerson_21 : PLa b_LT_statePerson 21 0 22 := Or.inl ⟨0, by decide +kernel, rfl, rfl⟩
theorem d_LT_statePerson_22 : PLi b_LT_statePerson 22 2 23 := Or.inl ⟨2, by decide +kernel, rfl, rfl⟩
theorem d_LT_statePerson_23 : PCi b_LT_statePerson 23 4 24 := Or.inl ⟨4, by decide +kernel, by decide, rfl⟩
theorem d_LT_statePerson_24 : DR b_LT_statePerson 24 (.iadd) 1 25 := ⟨by decide +kernel, rfl⟩
theorem d_LT_statePerson_25 : DR b_LT_statePerson 25 (.invokevirtual 45) 3 28 := ⟨by decide +kernel, rfl⟩
theorem d_LT_statePerson_28 : DR b_LT_statePerson 28 (.iadd) 1 29 := ⟨by decide +kernel, rfl⟩
theorem d_LT_statePerson_29 : PSi b_LT_statePerson 29 3 30 := Or.inl ⟨3, by decide +kernel, rfl, rfl⟩
theorem d_LT_statePerson_30 : PLa b_LT_statePerson 30 0 31 := Or.inl ⟨0, by decide +kernel, rfl, rfl⟩
theorem d_LT_statePerson_31 : PLi b_LT_statePerson 31 2 32 := Or.inl ⟨2, by decide +kernel, rfl, rfl⟩
theorem d_LT_statePerson_32 : PCi b_LT_statePerson 32 5 33 := Or.inl ⟨5, by decide +kernel, by decide, rfl⟩
theorem d_LT_statePerson_33 : DR b_LT_statePerson 33 (.iadd) 1 34 := ⟨by decide +kernel, rfl⟩
theorem d_LT_statePerson_34 : DR b_LT_statePerson 34 (.invokevirtual 45) 3 37 := ⟨by decide +kernel, rfl⟩
theorem d_LT_statePerson_37 : PSi b_LT_statePerson 37 4 39 := Or.inr ⟨by decide +kernel, rfl⟩
theorem d_LT_statePerson_39 : PLi b_LT_statePerson 39 3 40 := Or.inl ⟨3, by decide +kernel, rfl, rfl⟩
theorem d_LT_statePerson_40 : PCi b_LT_statePerson 40 128 43 := Or.inr (Or.inr ⟨128, by decide +kernel, by decide, rfl⟩)
theorem d_LT_statePerson_43 : DJ b_LT_statePerson 43 (.if_icmp .ge) 46 62 := ⟨19, by decide +kernel, rfl, by decide⟩
theorem d_LT_statePerson_46 : PLi b_LT_statePerson 46 4 48 := Or.inr ⟨by decide +kernel, rfl⟩
theorem d_LT_statePerson_48 : PCi b_LT_statePerson 48 7 50 := Or.inr (Or.inl ⟨7, by decide +kernel, by decide, rfl⟩)
theorem d_LT_statePerson_50 : DJ b_LT_statePerson 50 (.if_icmp .gt) 53 62 := ⟨12, by decide +kernel, rfl, by decide⟩
theorem d_LT_statePerson_53 : PLa b_LT_statePerson 53 1 54 := Or.inl ⟨1, by decide +kernel, rfl, rfl⟩
theorem d_LT_statePerson_54 : DR b_LT_statePerson 54 (.getfield 78) 3 57 := ⟨by decide +kernel, rfl⟩
theorem d_LT_statePerson_57 : PCi b_LT_statePerson 57 7 59 := Or.inr (Or.inl ⟨7, by decide +kernel, by decide, rfl⟩)
theorem d_LT_statePerson_59 : DJ b_LT_statePerson 59 (.if_icmp .lt) 62 64 := ⟨5, by decide +kernel, rfl, by decide⟩
theorem d_LT_statePerson_62 : PCi b_LT_statePerson 62 0 63 := Or.inl ⟨0, by decide +kernel, by decide, rfl⟩
theorem d_LT_statePerson_63 : DR b_LT_statePerson 63 (.ireturn) 1 64 := ⟨by decide +kernel, rfl⟩
theorem d_LT_statePerson_64 : PLa b_LT_statePerson 64 1 65 := Or.inl ⟨1, by decide +kernel, rfl, rfl⟩
theorem d_LT_statePerson_65 : PLa b_LT_statePerson 65 0 66 := Or.inl ⟨0, by decide +kernel, rfl, rfl⟩
theorem d_LT_statePerson_66 : PLi b_LT_statePerson 66 2 67 := Or.inl ⟨2, by decide +kernel, rfl, rfl⟩
theorem d_LT_statePerson_67 : PCi b_LT_statePerson 67 1 68 := Or.inl ⟨1, by decide +kernel, by decide, rfl⟩
theorem d_LT_statePerson_68 : DR b_LT_statePerson 68 (.iadd) 1 69 := ⟨by decide +kernel, rfl⟩
theorem d_LT_statePerson_69 : DR b_LT_statePerson 69 (.invokevirtual 45) 3 72 := ⟨by decide +kernel, rfl⟩
theorem d_LT_statePerson_72 : PLi b_LT_statePerson 72 3 73 := Or.inl ⟨3, by decide +kernel, rfl, rfl⟩
theorem d_LT_statePerson_73 : PLi b_LT_statePerson 73 4 75 := Or.inr ⟨by decide +kernel, rfl⟩
theorem d_LT_statePerson_75 : DR b_LT_statePerson 75 (.invokevirtual 91) 3 78 := ⟨by decide +kernel, rfl⟩
theorem d_LT_statePerson_78 : DR b_LT_statePerson 78 (.pop) 1 79 := ⟨by decide +kernel, rfl⟩
theorem d_LT_statePerson_79 : PCi b_LT_statePerson 79 1 80 := Or.inl ⟨1, by decide +kernel, by decide, rfl⟩
theorem d_LT_statePerson_80 : DR b_LT_statePerson 80 (.ireturn) 1 81 := ⟨by decide +kernel, rfl⟩
set_option maxRecDepth 20000 in
theorem B_LT_statePerson {G : MCx} (hC : C0 G "AccusedChoose$Letters" b_LT_statePerson 5 3) {t1 : Nat} (h1 : isNI t1) (a2 : Int32) (s : St) : VO G (RZ G b_LT_statePerson) (F_LT_statePerson t1 a2 s) 0 [(0, .ref (gad G 34)), (1, .ref (gad G t1)), (2, .int a2)] [] s := by
  unfold F_LT_statePerson
  refine VO_const hC d_LT_statePerson_0 ?_
  refine VO_aload hC d_LT_statePerson_2 0 rfl ?_
  refine VO_iload hC d_LT_statePerson_3 2 rfl ?_
  refine VO_const hC d_LT_statePerson_4 ?_
  refine VO_iadd hC d_LT_statePerson_5 ?_
  refine VO_callVI hC [.int (a2 + (2 : Int32))] [.int (100 : Int32)] ml_LT_45 d_LT_statePerson_6 yv_LT_digit sh_LT rfl rfl (fun o h => M_LT_digit hC.inj h) (by decide) rfl rfl (Nat.le_of_ble_eq_true rfl) (fun o1 => ?_)
  refine VO_imul hC d_LT_statePerson_9 ?_
  refine VO_const hC d_LT_statePerson_10 ?_
  refine VO_aload hC d_LT_statePerson_12 0 rfl ?_
  refine VO_iload hC d_LT_statePerson_13 2 rfl ?_
  refine VO_const hC d_LT_statePerson_14 ?_
  refine VO_iadd hC d_LT_statePerson_15 ?_
  refine VO_callVI hC [.int (a2 + (3 : Int32))] [.int (10 : Int32), .int ((100 : Int32) * o1.1)] ml_LT_45 d_LT_statePerson_16 yv_LT_digit sh_LT rfl rfl (fun o h => M_LT_digit hC.inj h) (by decide) rfl rfl (Nat.le_of_ble_eq_true rfl) (fun o2 => ?_)
  refine VO_imul hC d_LT_statePerson_19 ?_
  refine VO_iadd hC d_LT_statePerson_20 ?_
  refine VO_aload hC d_LT_statePerson_21 0 rfl ?_
  refine VO_iload hC d_LT_statePerson_22 2 rfl ?_
  refine VO_const hC d_LT_statePerson_23 ?_
  refine VO_iadd hC d_LT_statePerson_24 ?_
  refine VO_callVI hC [.int (a2 + (4 : Int32))] [.int (((100 : Int32) * o1.1) + ((10 : Int32) * o2.1))] ml_LT_45 d_LT_statePerson_25 yv_LT_digit sh_LT rfl rfl (fun o h => M_LT_digit hC.inj h) (by decide) rfl rfl (Nat.le_of_ble_eq_true rfl) (fun o3 => ?_)
  refine VO_iadd hC d_LT_statePerson_28 ?_
  refine VO_istoreB hC d_LT_statePerson_29 [(0, .ref (gad G 34)), (1, .ref (gad G t1)), (2, .int a2)] rfl (by decide) (fun x4 => ?_)
  refine VO_aload hC d_LT_statePerson_30 1 rfl ?_
  refine VO_iload hC d_LT_statePerson_31 3 rfl ?_
  refine VO_const hC d_LT_statePerson_32 ?_
  refine VO_iadd hC d_LT_statePerson_33 ?_
  refine VO_callVI hC [.int (a2 + (5 : Int32))] [] ml_LT_45 d_LT_statePerson_34 yv_LT_digit sh_LT rfl rfl (fun o h => M_LT_digit hC.inj h) (by decide) rfl rfl (Nat.le_of_ble_eq_true rfl) (fun o5 => ?_)
  refine VO_istore hC d_LT_statePerson_37 [(3, .int x4), (0, .ref (gad G 34)), (1, .ref (gad G t1)), (2, .int a2)] rfl (by decide) ?_
  refine VO_iload hC d_LT_statePerson_39 1 rfl ?_
  refine VO_const hC d_LT_statePerson_40 ?_
  refine VO_icmp_ge hC d_LT_statePerson_43 (fun _ => ?_) (fun _ => ?_)
  · refine VO_const hC d_LT_statePerson_62 ?_
    exact VO_z0 d_LT_statePerson_63
  · refine VO_iload hC d_LT_statePerson_46 0 rfl ?_
    refine VO_const hC d_LT_statePerson_48 ?_
    refine VO_icmp_gt hC d_LT_statePerson_50 (fun _ => ?_) (fun _ => ?_)
    · refine VO_const hC d_LT_statePerson_62 ?_
      exact VO_z0 d_LT_statePerson_63
    · refine VO_aload hC d_LT_statePerson_53 3 rfl ?_
      refine VO_geti hC fl_LT_78 (sh_NI h1) rfl d_LT_statePerson_54 ?_
      refine VO_const hC d_LT_statePerson_57 ?_
      refine VO_icmp_lt hC d_LT_statePerson_59 (fun _ => ?_) (fun _ => ?_)
      · refine VO_aload hC d_LT_statePerson_64 3 rfl ?_
        refine VO_aload hC d_LT_statePerson_65 2 rfl ?_
        refine VO_iload hC d_LT_statePerson_66 4 rfl ?_
        refine VO_const hC d_LT_statePerson_67 ?_
        refine VO_iadd hC d_LT_statePerson_68 ?_
        refine VO_callVI hC [.int (a2 + (1 : Int32))] [.ref (gad G t1)] ml_LT_45 d_LT_statePerson_69 yv_LT_digit sh_LT rfl rfl (fun o h => M_LT_digit hC.inj h) (by decide) rfl rfl (Nat.le_of_ble_eq_true rfl) (fun o6 => ?_)
        refine VO_iload hC d_LT_statePerson_72 1 rfl ?_
        refine VO_iload hC d_LT_statePerson_73 0 rfl ?_
        refine VO_callVI hC [.int o6.1, .int x4, .int o5.1] [] ml_LT_91 d_LT_statePerson_75 yv_NI_putPerson (sh_NI h1) rfl rfl (fun o h => M_NI_putPerson hC.inj h1 h) (by decide) rfl rfl (Nat.le_of_ble_eq_true rfl) (fun o7 => ?_)
        refine VO_pop hC d_LT_statePerson_78 rfl ?_
        refine VO_const hC d_LT_statePerson_79 ?_
        exact VO_z1 d_LT_statePerson_80
      · refine VO_const hC d_LT_statePerson_62 ?_
        exact VO_z0 d_LT_statePerson_63
set_option maxRecDepth 20000 in
theorem M_LT_statePerson {l : Launch} {D : va_G} {ad : Nat → Nat} {cI cL : ClassId} (hj : Inj ad) {t1 : Nat} (h1 : isNI t1) {a2 : Int32} {s : St} {o : Int32 × St} (h : F_LT_statePerson t1 a2 s = some o) : Cn l D ad cI cL y_LT_statePerson b_LT_statePerson 5 (some .boolean) 3 [.ref (ad 34), .ref (ad t1), .int a2] s (some (.int o.1)) o.2 := by
  refine Cn_ofZ hj (plainFor_of_name (by decide)) (Nat.le_of_ble_eq_true rfl) [(0, .ref (ad 34)), (1, .ref (ad t1)), (2, .int a2)] rfl (fun G hC e1 e2 e3 e4 e5 hR => ?_)
  subst e1; subst e2; subst e3; subst e4; subst e5
  exact B_LT_statePerson hC h1 a2 s o h hR
theorem d_NI_hasPerson_0 : PLi b_NI_hasPerson 0 1 1 := Or.inl ⟨1, by decide +kernel, rfl, rfl⟩
theorem d_NI_hasPerson_1 : DJ b_NI_hasPerson 1 (.ifCond .lt) 4 16 := ⟨15, by decide +kernel, rfl, by decide⟩
theorem d_NI_hasPerson_4 : PLi b_NI_hasPerson 4 1 5 := Or.inl ⟨1, by decide +kernel, rfl, rfl⟩
theorem d_NI_hasPerson_5 : PLa b_NI_hasPerson 5 0 6 := Or.inl ⟨0, by decide +kernel, rfl, rfl⟩
theorem d_NI_hasPerson_6 : DR b_NI_hasPerson 6 (.getfield 40) 3 9 := ⟨by decide +kernel, rfl⟩
theorem d_NI_hasPerson_9 : DJ b_NI_hasPerson 9 (.if_icmp .ge) 12 16 := ⟨7, by decide +kernel, rfl, by decide⟩
theorem d_NI_hasPerson_12 : PCi b_NI_hasPerson 12 1 13 := Or.inl ⟨1, by decide +kernel, by decide, rfl⟩
theorem d_NI_hasPerson_13 : DJ b_NI_hasPerson 13 .goto 16 17 := ⟨4, by decide +kernel, rfl, by decide⟩
theorem d_NI_hasPerson_16 : PCi b_NI_hasPerson 16 0 17 := Or.inl ⟨0, by decide +kernel, by decide, rfl⟩
theorem d_NI_hasPerson_17 : DR b_NI_hasPerson 17 (.ireturn) 1 18 := ⟨by decide +kernel, rfl⟩
set_option maxRecDepth 20000 in
theorem B_NI_hasPerson_16 {G : MCx} (hC : C0 G "AccusedChoose$Night" b_NI_hasPerson 2 1) {t0 : Nat} (h0 : isNI t0) (s : St) : VO G (RZ G b_NI_hasPerson) (F_NI_hasPerson_16 t0 s) 16 [] [] s := by
  unfold F_NI_hasPerson_16
  refine VO_const hC d_NI_hasPerson_16 ?_
  exact VO_z0 d_NI_hasPerson_17
set_option maxRecDepth 20000 in
theorem B_NI_hasPerson {G : MCx} (hC : C0 G "AccusedChoose$Night" b_NI_hasPerson 2 1) {t0 : Nat} (h0 : isNI t0) (a1 : Int32) (s : St) : VO G (RZ G b_NI_hasPerson) (F_NI_hasPerson t0 a1 s) 0 [(0, .ref (gad G t0)), (1, .int a1)] [] s := by
  unfold F_NI_hasPerson
  refine VO_iload hC d_NI_hasPerson_0 1 rfl ?_
  refine VO_if_lt hC d_NI_hasPerson_1 (fun _ => ?_) (fun _ => ?_)
  · exact VO_sub [] rfl (B_NI_hasPerson_16 hC h0 s)
  · refine VO_iload hC d_NI_hasPerson_4 1 rfl ?_
    refine VO_aload hC d_NI_hasPerson_5 0 rfl ?_
    refine VO_geti hC fl_NI_40 (sh_NI h0) rfl d_NI_hasPerson_6 ?_
    refine VO_icmp_ge hC d_NI_hasPerson_9 (fun _ => ?_) (fun _ => ?_)
    · exact VO_sub [] rfl (B_NI_hasPerson_16 hC h0 s)
    · refine VO_const hC d_NI_hasPerson_12 ?_
      refine VO_goto hC d_NI_hasPerson_13 ?_
      exact VO_z1 d_NI_hasPerson_17
set_option maxRecDepth 20000 in
theorem M_NI_hasPerson {l : Launch} {D : va_G} {ad : Nat → Nat} {cI cL : ClassId} (hj : Inj ad) {t0 : Nat} (h0 : isNI t0) {a1 : Int32} {s : St} {o : Int32 × St} (h : F_NI_hasPerson t0 a1 s = some o) : Cn l D ad cI cL y_NI_hasPerson b_NI_hasPerson 2 (some .boolean) 1 [.ref (ad t0), .int a1] s (some (.int o.1)) o.2 := by
  refine Cn_ofZ hj (plainFor_of_name (by decide)) (Nat.le_of_ble_eq_true rfl) [(0, .ref (ad t0)), (1, .int a1)] rfl (fun G hC e1 e2 e3 e4 e5 hR => ?_)
  subst e1; subst e2; subst e3; subst e4; subst e5
  exact B_NI_hasPerson hC h0 a1 s o h hR
theorem d_NI_hasTwo_0 : PLa b_NI_hasTwo 0 0 1 := Or.inl ⟨0, by decide +kernel, rfl, rfl⟩
theorem d_NI_hasTwo_1 : PLi b_NI_hasTwo 1 1 2 := Or.inl ⟨1, by decide +kernel, rfl, rfl⟩
theorem d_NI_hasTwo_2 : DR b_NI_hasTwo 2 (.invokevirtual 47) 3 5 := ⟨by decide +kernel, rfl⟩
theorem d_NI_hasTwo_5 : DJ b_NI_hasTwo 5 (.ifCond .eq) 8 25 := ⟨20, by decide +kernel, rfl, by decide⟩
theorem d_NI_hasTwo_8 : PLa b_NI_hasTwo 8 0 9 := Or.inl ⟨0, by decide +kernel, rfl, rfl⟩
theorem d_NI_hasTwo_9 : PLi b_NI_hasTwo 9 2 10 := Or.inl ⟨2, by decide +kernel, rfl, rfl⟩
theorem d_NI_hasTwo_10 : DR b_NI_hasTwo 10 (.invokevirtual 47) 3 13 := ⟨by decide +kernel, rfl⟩
theorem d_NI_hasTwo_13 : DJ b_NI_hasTwo 13 (.ifCond .eq) 16 25 := ⟨12, by decide +kernel, rfl, by decide⟩
theorem d_NI_hasTwo_16 : PLi b_NI_hasTwo 16 1 17 := Or.inl ⟨1, by decide +kernel, rfl, rfl⟩
theorem d_NI_hasTwo_17 : PLi b_NI_hasTwo 17 2 18 := Or.inl ⟨2, by decide +kernel, rfl, rfl⟩
theorem d_NI_hasTwo_18 : DJ b_NI_hasTwo 18 (.if_icmp .eq) 21 25 := ⟨7, by decide +kernel, rfl, by decide⟩
theorem d_NI_hasTwo_21 : PCi b_NI_hasTwo 21 1 22 := Or.inl ⟨1, by decide +kernel, by decide, rfl⟩
theorem d_NI_hasTwo_22 : DJ b_NI_hasTwo 22 .goto 25 26 := ⟨4, by decide +kernel, rfl, by decide⟩
theorem d_NI_hasTwo_25 : PCi b_NI_hasTwo 25 0 26 := Or.inl ⟨0, by decide +kernel, by decide, rfl⟩
theorem d_NI_hasTwo_26 : DR b_NI_hasTwo 26 (.ireturn) 1 27 := ⟨by decide +kernel, rfl⟩
set_option maxRecDepth 20000 in
theorem B_NI_hasTwo_25 {G : MCx} (hC : C0 G "AccusedChoose$Night" b_NI_hasTwo 3 2) {t0 : Nat} (h0 : isNI t0) (s : St) : VO G (RZ G b_NI_hasTwo) (F_NI_hasTwo_25 t0 s) 25 [] [] s := by
  unfold F_NI_hasTwo_25
  refine VO_const hC d_NI_hasTwo_25 ?_
  exact VO_z0 d_NI_hasTwo_26
set_option maxRecDepth 20000 in
theorem B_NI_hasTwo {G : MCx} (hC : C0 G "AccusedChoose$Night" b_NI_hasTwo 3 2) {t0 : Nat} (h0 : isNI t0) (a1 : Int32) (a2 : Int32) (s : St) : VO G (RZ G b_NI_hasTwo) (F_NI_hasTwo t0 a1 a2 s) 0 [(0, .ref (gad G t0)), (1, .int a1), (2, .int a2)] [] s := by
  unfold F_NI_hasTwo
  refine VO_aload hC d_NI_hasTwo_0 0 rfl ?_
  refine VO_iload hC d_NI_hasTwo_1 1 rfl ?_
  refine VO_callVI hC [.int a1] [] ml_NI_47 d_NI_hasTwo_2 yv_NI_hasPerson (sh_NI h0) rfl rfl (fun o h => M_NI_hasPerson hC.inj h0 h) (by decide) rfl rfl (Nat.le_of_ble_eq_true rfl) (fun o1 => ?_)
  refine VO_if_eq hC d_NI_hasTwo_5 (fun _ => ?_) (fun _ => ?_)
  · exact VO_sub [] rfl (B_NI_hasTwo_25 hC h0 o1.2)
  · refine VO_aload hC d_NI_hasTwo_8 0 rfl ?_
    refine VO_iload hC d_NI_hasTwo_9 2 rfl ?_
    refine VO_callVI hC [.int a2] [] ml_NI_47 d_NI_hasTwo_10 yv_NI_hasPerson (sh_NI h0) rfl rfl (fun o h => M_NI_hasPerson hC.inj h0 h) (by decide) rfl rfl (Nat.le_of_ble_eq_true rfl) (fun o2 => ?_)
    refine VO_if_eq hC d_NI_hasTwo_13 (fun _ => ?_) (fun _ => ?_)
    · exact VO_sub [] rfl (B_NI_hasTwo_25 hC h0 o2.2)
    · refine VO_iload hC d_NI_hasTwo_16 1 rfl ?_
      refine VO_iload hC d_NI_hasTwo_17 2 rfl ?_
      refine VO_icmp_eq hC d_NI_hasTwo_18 (fun _ => ?_) (fun _ => ?_)
      · exact VO_sub [] rfl (B_NI_hasTwo_25 hC h0 o2.2)
      · refine VO_const hC d_NI_hasTwo_21 ?_
        refine VO_goto hC d_NI_hasTwo_22 ?_
        exact VO_z1 d_NI_hasTwo_26
set_option maxRecDepth 20000 in
theorem M_NI_hasTwo {l : Launch} {D : va_G} {ad : Nat → Nat} {cI cL : ClassId} (hj : Inj ad) {t0 : Nat} (h0 : isNI t0) {a1 : Int32} {a2 : Int32} {s : St} {o : Int32 × St} (h : F_NI_hasTwo t0 a1 a2 s = some o) : Cn l D ad cI cL y_NI_hasTwo b_NI_hasTwo 3 (some .boolean) 2 [.ref (ad t0), .int a1, .int a2] s (some (.int o.1)) o.2 := by
  refine Cn_ofZ hj (plainFor_of_name (by decide)) (Nat.le_of_ble_eq_true rfl) [(0, .ref (ad t0)), (1, .int a1), (2, .int a2)] rfl (fun G hC e1 e2 e3 e4 e5 hR => ?_)
  subst e1; subst e2; subst e3; subst e4; subst e5
  exact B_NI_hasTwo hC h0 a1 a2 s o h hR
theorem d_NI_pair_0 : PLa b_NI_pair 0 0 1 := Or.inl ⟨0, by decide +kernel, rfl, rfl⟩
theorem d_NI_pair_1 : DR b_NI_pair 1 (.getfield 27) 3 4 := ⟨by decide +kernel, rfl⟩
theorem d_NI_pair_4 : PLa b_NI_pair 4 0 5 := Or.inl ⟨0, by decide +kernel, rfl, rfl⟩
theorem d_NI_pair_5 : DR b_NI_pair 5 (.getfield 27) 3 8 := ⟨by decide +kernel, rfl⟩
theorem d_NI_pair_8 : PLi b_NI_pair 8 1 9 := Or.inl ⟨1, by decide +kernel, rfl, rfl⟩
theorem d_NI_pair_9 : DR b_NI_pair 9 (.invokestatic 65) 3 12 := ⟨by decide +kernel, rfl⟩
theorem d_NI_pair_12 : PCi b_NI_pair 12 (-9) 14 := Or.inr (Or.inl ⟨(-9), by decide +kernel, by decide, rfl⟩)
theorem d_NI_pair_14 : DR b_NI_pair 14 (.invokestatic 51) 3 17 := ⟨by decide +kernel, rfl⟩
theorem d_NI_pair_17 : PLa b_NI_pair 17 0 18 := Or.inl ⟨0, by decide +kernel, rfl, rfl⟩
theorem d_NI_pair_18 : DR b_NI_pair 18 (.getfield 27) 3 21 := ⟨by decide +kernel, rfl⟩
theorem d_NI_pair_21 : PLa b_NI_pair 21 0 22 := Or.inl ⟨0, by decide +kernel, rfl, rfl⟩
theorem d_NI_pair_22 : DR b_NI_pair 22 (.getfield 27) 3 25 := ⟨by decide +kernel, rfl⟩
theorem d_NI_pair_25 : PLi b_NI_pair 25 2 26 := Or.inl ⟨2, by decide +kernel, rfl, rfl⟩
theorem d_NI_pair_26 : DR b_NI_pair 26 (.invokestatic 65) 3 29 := ⟨by decide +kernel, rfl⟩
theorem d_NI_pair_29 : PCi b_NI_pair 29 (-9) 31 := Or.inr (Or.inl ⟨(-9), by decide +kernel, by decide, rfl⟩)
theorem d_NI_pair_31 : DR b_NI_pair 31 (.invokestatic 51) 3 34 := ⟨by decide +kernel, rfl⟩
theorem d_NI_pair_34 : PLa b_NI_pair 34 0 35 := Or.inl ⟨0, by decide +kernel, rfl, rfl⟩
theorem d_NI_pair_35 : DR b_NI_pair 35 (.getfield 27) 3 38 := ⟨by decide +kernel, rfl⟩
theorem d_NI_pair_38 : PLi b_NI_pair 38 1 39 := Or.inl ⟨1, by decide +kernel, rfl, rfl⟩
theorem d_NI_pair_39 : PLi b_NI_pair 39 2 40 := Or.inl ⟨2, by decide +kernel, rfl, rfl⟩
theorem d_NI_pair_40 : DR b_NI_pair 40 (.invokestatic 51) 3 43 := ⟨by decide +kernel, rfl⟩
theorem d_NI_pair_43 : PLa b_NI_pair 43 0 44 := Or.inl ⟨0, by decide +kernel, rfl, rfl⟩
theorem d_NI_pair_44 : DR b_NI_pair 44 (.getfield 27) 3 47 := ⟨by decide +kernel, rfl⟩
theorem d_NI_pair_47 : PLi b_NI_pair 47 2 48 := Or.inl ⟨2, by decide +kernel, rfl, rfl⟩
theorem d_NI_pair_48 : PLi b_NI_pair 48 1 49 := Or.inl ⟨1, by decide +kernel, rfl, rfl⟩
theorem d_NI_pair_49 : DR b_NI_pair 49 (.invokestatic 51) 3 52 := ⟨by decide +kernel, rfl⟩
theorem d_NI_pair_52 : DR b_NI_pair 52 (.return_) 1 53 := ⟨by decide +kernel, rfl⟩
set_option maxRecDepth 20000 in
theorem B_NI_pair {G : MCx} (hC : C0 G "AccusedChoose$Night" b_NI_pair 3 2) {t0 : Nat} (h0 : isNI t0) (a1 : Int32) (a2 : Int32) (s : St) : VO G (RV G b_NI_pair) (F_NI_pair t0 a1 a2 s) 0 [(0, .ref (gad G t0)), (1, .int a1), (2, .int a2)] [] s := by
  unfold F_NI_pair
  refine VO_aload hC d_NI_pair_0 0 rfl ?_
  refine VO_getr (r := (t0 + 6)) hC fl_NI_27 (sh_NI h0) rfl d_NI_pair_1 ?_
  refine VO_aload hC d_NI_pair_4 0 rfl ?_
  refine VO_getr (r := (t0 + 6)) hC fl_NI_27 (sh_NI h0) rfl d_NI_pair_5 ?_
  refine VO_iload hC d_NI_pair_8 1 rfl ?_
  refine VO_callNI hC [.ref (gad G (t0 + 6)), .int a1] [.ref (gad G (t0 + 6))] nl_NI_65 d_NI_pair_9 ys_AC_at (fun o h => M_AC_at hC.inj (ia_NI6 h0) h) (by decide) rfl rfl (Nat.le_of_ble_eq_true rfl) (fun o1 => ?_)
  refine VO_const hC d_NI_pair_12 ?_
  refine VO_callNV hC [.ref (gad G (t0 + 6)), .int o1.1, .int (-9 : Int32)] [] nl_NI_51 d_NI_pair_14 ys_AC_put (fun o h => M_AC_put hC.inj (ia_NI6 h0) h) (by decide) rfl rfl (Nat.le_of_ble_eq_true rfl) (fun s2 => ?_)
  refine VO_aload hC d_NI_pair_17 0 rfl ?_
  refine VO_getr (r := (t0 + 6)) hC fl_NI_27 (sh_NI h0) rfl d_NI_pair_18 ?_
  refine VO_aload hC d_NI_pair_21 0 rfl ?_
  refine VO_getr (r := (t0 + 6)) hC fl_NI_27 (sh_NI h0) rfl d_NI_pair_22 ?_
  refine VO_iload hC d_NI_pair_25 2 rfl ?_
  refine VO_callNI hC [.ref (gad G (t0 + 6)), .int a2] [.ref (gad G (t0 + 6))] nl_NI_65 d_NI_pair_26 ys_AC_at (fun o h => M_AC_at hC.inj (ia_NI6 h0) h) (by decide) rfl rfl (Nat.le_of_ble_eq_true rfl) (fun o3 => ?_)
  refine VO_const hC d_NI_pair_29 ?_
  refine VO_callNV hC [.ref (gad G (t0 + 6)), .int o3.1, .int (-9 : Int32)] [] nl_NI_51 d_NI_pair_31 ys_AC_put (fun o h => M_AC_put hC.inj (ia_NI6 h0) h) (by decide) rfl rfl (Nat.le_of_ble_eq_true rfl) (fun s4 => ?_)
  refine VO_aload hC d_NI_pair_34 0 rfl ?_
  refine VO_getr (r := (t0 + 6)) hC fl_NI_27 (sh_NI h0) rfl d_NI_pair_35 ?_
  refine VO_iload hC d_NI_pair_38 1 rfl ?_
  refine VO_iload hC d_NI_pair_39 2 rfl ?_
  refine VO_callNV hC [.ref (gad G (t0 + 6)), .int a1, .int a2] [] nl_NI_51 d_NI_pair_40 ys_AC_put (fun o h => M_AC_put hC.inj (ia_NI6 h0) h) (by decide) rfl rfl (Nat.le_of_ble_eq_true rfl) (fun s5 => ?_)
  refine VO_aload hC d_NI_pair_43 0 rfl ?_
  refine VO_getr (r := (t0 + 6)) hC fl_NI_27 (sh_NI h0) rfl d_NI_pair_44 ?_
  refine VO_iload hC d_NI_pair_47 2 rfl ?_
  refine VO_iload hC d_NI_pair_48 1 rfl ?_
  refine VO_callNV hC [.ref (gad G (t0 + 6)), .int a2, .int a1] [] nl_NI_51 d_NI_pair_49 ys_AC_put (fun o h => M_AC_put hC.inj (ia_NI6 h0) h) (by decide) rfl rfl (Nat.le_of_ble_eq_true rfl) (fun s6 => ?_)
  exact VO_return d_NI_pair_52
set_option maxRecDepth 20000 in
theorem M_NI_pair {l : Launch} {D : va_G} {ad : Nat → Nat} {cI cL : ClassId} (hj : Inj ad) {t0 : Nat} (h0 : isNI t0) {a1 : Int32} {a2 : Int32} {s : St} {o : St} (h : F_NI_pair t0 a1 a2 s = some o) : Cn l D ad cI cL y_NI_pair b_NI_pair 3 none 2 [.ref (ad t0), .int a1, .int a2] s none o := by
  refine Cn_ofV hj (plainFor_of_name (by decide)) (Nat.le_of_ble_eq_true rfl) [(0, .ref (ad t0)), (1, .int a1), (2, .int a2)] rfl (fun G hC e1 e2 e3 e4 e5 hR => ?_)
  subst e1; subst e2; subst e3; subst e4; subst e5
  exact B_NI_pair hC h0 a1 a2 s o h hR
theorem d_NI_hasDeed_0 : PLi b_NI_hasDeed 0 1 1 := Or.inl ⟨1, by decide +kernel, rfl, rfl⟩
theorem d_NI_hasDeed_1 : DJ b_NI_hasDeed 1 (.ifCond .lt) 4 16 := ⟨15, by decide +kernel, rfl, by decide⟩
theorem d_NI_hasDeed_4 : PLi b_NI_hasDeed 4 1 5 := Or.inl ⟨1, by decide +kernel, rfl, rfl⟩
theorem d_NI_hasDeed_5 : PLa b_NI_hasDeed 5 0 6 := Or.inl ⟨0, by decide +kernel, rfl, rfl⟩
theorem d_NI_hasDeed_6 : DR b_NI_hasDeed 6 (.getfield 36) 3 9 := ⟨by decide +kernel, rfl⟩
theorem d_NI_hasDeed_9 : DJ b_NI_hasDeed 9 (.if_icmp .ge) 12 16 := ⟨7, by decide +kernel, rfl, by decide⟩
theorem d_NI_hasDeed_12 : PCi b_NI_hasDeed 12 1 13 := Or.inl ⟨1, by decide +kernel, by decide, rfl⟩
theorem d_NI_hasDeed_13 : DJ b_NI_hasDeed 13 .goto 16 17 := ⟨4, by decide +kernel, rfl, by decide⟩
theorem d_NI_hasDeed_16 : PCi b_NI_hasDeed 16 0 17 := Or.inl ⟨0, by decide +kernel, by decide, rfl⟩
theorem d_NI_hasDeed_17 : DR b_NI_hasDeed 17 (.ireturn) 1 18 := ⟨by decide +kernel, rfl⟩
set_option maxRecDepth 20000 in
theorem B_NI_hasDeed_16 {G : MCx} (hC : C0 G "AccusedChoose$Night" b_NI_hasDeed 2 1) {t0 : Nat} (h0 : isNI t0) (s : St) : VO G (RZ G b_NI_hasDeed) (F_NI_hasDeed_16 t0 s) 16 [] [] s := by
  unfold F_NI_hasDeed_16
  refine VO_const hC d_NI_hasDeed_16 ?_
  exact VO_z0 d_NI_hasDeed_17
set_option maxRecDepth 20000 in
theorem B_NI_hasDeed {G : MCx} (hC : C0 G "AccusedChoose$Night" b_NI_hasDeed 2 1) {t0 : Nat} (h0 : isNI t0) (a1 : Int32) (s : St) : VO G (RZ G b_NI_hasDeed) (F_NI_hasDeed t0 a1 s) 0 [(0, .ref (gad G t0)), (1, .int a1)] [] s := by
  unfold F_NI_hasDeed
  refine VO_iload hC d_NI_hasDeed_0 1 rfl ?_
  refine VO_if_lt hC d_NI_hasDeed_1 (fun _ => ?_) (fun _ => ?_)
  · exact VO_sub [] rfl (B_NI_hasDeed_16 hC h0 s)
  · refine VO_iload hC d_NI_hasDeed_4 1 rfl ?_
    refine VO_aload hC d_NI_hasDeed_5 0 rfl ?_
    refine VO_geti hC fl_NI_36 (sh_NI h0) rfl d_NI_hasDeed_6 ?_
    refine VO_icmp_ge hC d_NI_hasDeed_9 (fun _ => ?_) (fun _ => ?_)
    · exact VO_sub [] rfl (B_NI_hasDeed_16 hC h0 s)
    · refine VO_const hC d_NI_hasDeed_12 ?_
      refine VO_goto hC d_NI_hasDeed_13 ?_
      exact VO_z1 d_NI_hasDeed_17
set_option maxRecDepth 20000 in
theorem M_NI_hasDeed {l : Launch} {D : va_G} {ad : Nat → Nat} {cI cL : ClassId} (hj : Inj ad) {t0 : Nat} (h0 : isNI t0) {a1 : Int32} {s : St} {o : Int32 × St} (h : F_NI_hasDeed t0 a1 s = some o) : Cn l D ad cI cL y_NI_hasDeed b_NI_hasDeed 2 (some .boolean) 1 [.ref (ad t0), .int a1] s (some (.int o.1)) o.2 := by
  refine Cn_ofZ hj (plainFor_of_name (by decide)) (Nat.le_of_ble_eq_true rfl) [(0, .ref (ad t0)), (1, .int a1)] rfl (fun G hC e1 e2 e3 e4 e5 hR => ?_)
  subst e1; subst e2; subst e3; subst e4; subst e5
  exact B_NI_hasDeed hC h0 a1 s o h hR
theorem d_NI_turnAlibi_0 : PLa b_NI_turnAlibi 0 0 1 := Or.inl ⟨0, by decide +kernel, rfl, rfl⟩
theorem d_NI_turnAlibi_1 : DR b_NI_turnAlibi 1 (.getfield 30) 3 4 := ⟨by decide +kernel, rfl⟩
theorem d_NI_turnAlibi_4 : PLi b_NI_turnAlibi 4 1 5 := Or.inl ⟨1, by decide +kernel, rfl, rfl⟩
theorem d_NI_turnAlibi_5 : PLa b_NI_turnAlibi 5 0 6 := Or.inl ⟨0, by decide +kernel, rfl, rfl⟩
theorem d_NI_turnAlibi_6 : DR b_NI_turnAlibi 6 (.getfield 30) 3 9 := ⟨by decide +kernel, rfl⟩
theorem d_NI_turnAlibi_9 : PLi b_NI_turnAlibi 9 1 10 := Or.inl ⟨1, by decide +kernel, rfl, rfl⟩
theorem d_NI_turnAlibi_10 : DR b_NI_turnAlibi 10 (.invokestatic 65) 3 13 := ⟨by decide +kernel, rfl⟩
theorem d_NI_turnAlibi_13 : PLi b_NI_turnAlibi 13 2 14 := Or.inl ⟨2, by decide +kernel, rfl, rfl⟩
theorem d_NI_turnAlibi_14 : DR b_NI_turnAlibi 14 (.invokestatic 69) 3 17 := ⟨by decide +kernel, rfl⟩
theorem d_NI_turnAlibi_17 : DR b_NI_turnAlibi 17 (.ixor) 1 18 := ⟨by decide +kernel, rfl⟩
theorem d_NI_turnAlibi_18 : DR b_NI_turnAlibi 18 (.invokestatic 51) 3 21 := ⟨by decide +kernel, rfl⟩
theorem d_NI_turnAlibi_21 : DR b_NI_turnAlibi 21 (.return_) 1 22 := ⟨by decide +kernel, rfl⟩
set_option maxRecDepth 20000 in
theorem B_NI_turnAlibi {G : MCx} (hC : C0 G "AccusedChoose$Night" b_NI_turnAlibi 3 2) {t0 : Nat} (h0 : isNI t0) (a1 : Int32) (a2 : Int32) (s : St) : VO G (RV G b_NI_turnAlibi) (F_NI_turnAlibi t0 a1 a2 s) 0 [(0, .ref (gad G t0)), (1, .int a1), (2, .int a2)] [] s := by
  unfold F_NI_turnAlibi
  refine VO_aload hC d_NI_turnAlibi_0 0 rfl ?_
  refine VO_getr (r := (t0 + 7)) hC fl_NI_30 (sh_NI h0) rfl d_NI_turnAlibi_1 ?_
  refine VO_iload hC d_NI_turnAlibi_4 1 rfl ?_
  refine VO_aload hC d_NI_turnAlibi_5 0 rfl ?_
  refine VO_getr (r := (t0 + 7)) hC fl_NI_30 (sh_NI h0) rfl d_NI_turnAlibi_6 ?_
  refine VO_iload hC d_NI_turnAlibi_9 1 rfl ?_
  refine VO_callNI hC [.ref (gad G (t0 + 7)), .int a1] [.int a1, .ref (gad G (t0 + 7))] nl_NI_65 d_NI_turnAlibi_10 ys_AC_at (fun o h => M_AC_at hC.inj (ia_NI7 h0) h) (by decide) rfl rfl (Nat.le_of_ble_eq_true rfl) (fun o1 => ?_)
  refine VO_iload hC d_NI_turnAlibi_13 2 rfl ?_
  refine VO_callNI hC [.int a2] [.int o1.1, .int a1, .ref (gad G (t0 + 7))] nl_NI_69 d_NI_turnAlibi_14 ys_AC_bit (fun o h => M_AC_bit hC.inj h) (by decide) rfl rfl (Nat.le_of_ble_eq_true rfl) (fun o2 => ?_)
  refine VO_ixor hC d_NI_turnAlibi_17 ?_
  refine VO_callNV hC [.ref (gad G (t0 + 7)), .int a1, .int (o1.1 ^^^ o2.1)] [] nl_NI_51 d_NI_turnAlibi_18 ys_AC_put (fun o h => M_AC_put hC.inj (ia_NI7 h0) h) (by decide) rfl rfl (Nat.le_of_ble_eq_true rfl) (fun s3 => ?_)
  exact VO_return d_NI_turnAlibi_21
set_option maxRecDepth 20000 in
theorem M_NI_turnAlibi {l : Launch} {D : va_G} {ad : Nat → Nat} {cI cL : ClassId} (hj : Inj ad) {t0 : Nat} (h0 : isNI t0) {a1 : Int32} {a2 : Int32} {s : St} {o : St} (h : F_NI_turnAlibi t0 a1 a2 s = some o) : Cn l D ad cI cL y_NI_turnAlibi b_NI_turnAlibi 3 none 2 [.ref (ad t0), .int a1, .int a2] s none o := by
  refine Cn_ofV hj (plainFor_of_name (by decide)) (Nat.le_of_ble_eq_true rfl) [(0, .ref (ad t0)), (1, .int a1), (2, .int a2)] rfl (fun G hC e1 e2 e3 e4 e5 hR => ?_)
  subst e1; subst e2; subst e3; subst e4; subst e5
  exact B_NI_turnAlibi hC h0 a1 a2 s o h hR
theorem d_AC_swapPlaces_0 : PLa b_AC_swapPlaces 0 0 1 := Or.inl ⟨0, by decide +kernel, rfl, rfl⟩
theorem d_AC_swapPlaces_1 : PLi b_AC_swapPlaces 1 1 2 := Or.inl ⟨1, by decide +kernel, rfl, rfl⟩
theorem d_AC_swapPlaces_2 : PLi b_AC_swapPlaces 2 2 3 := Or.inl ⟨2, by decide +kernel, rfl, rfl⟩
theorem d_AC_swapPlaces_3 : DR b_AC_swapPlaces 3 (.invokestatic 380) 3 6 := ⟨by decide +kernel, rfl⟩
theorem d_AC_swapPlaces_6 : PSi b_AC_swapPlaces 6 4 8 := Or.inr ⟨by decide +kernel, rfl⟩
theorem d_AC_swapPlaces_8 : PLa b_AC_swapPlaces 8 0 9 := Or.inl ⟨0, by decide +kernel, rfl, rfl⟩
theorem d_AC_swapPlaces_9 : PLi b_AC_swapPlaces 9 1 10 := Or.inl ⟨1, by decide +kernel, rfl, rfl⟩
theorem d_AC_swapPlaces_10 : PLi b_AC_swapPlaces 10 3 11 := Or.inl ⟨3, by decide +kernel, rfl, rfl⟩
theorem d_AC_swapPlaces_11 : DR b_AC_swapPlaces 11 (.invokestatic 380) 3 14 := ⟨by decide +kernel, rfl⟩
theorem d_AC_swapPlaces_14 : PSi b_AC_swapPlaces 14 5 16 := Or.inr ⟨by decide +kernel, rfl⟩
theorem d_AC_swapPlaces_16 : PLa b_AC_swapPlaces 16 0 17 := Or.inl ⟨0, by decide +kernel, rfl, rfl⟩
theorem d_AC_swapPlaces_17 : PLi b_AC_swapPlaces 17 4 19 := Or.inr ⟨by decide +kernel, rfl⟩
theorem d_AC_swapPlaces_19 : PLi b_AC_swapPlaces 19 3 20 := Or.inl ⟨3, by decide +kernel, rfl, rfl⟩
theorem d_AC_swapPlaces_20 : DR b_AC_swapPlaces 20 (.invokestatic 310) 3 23 := ⟨by decide +kernel, rfl⟩
theorem d_AC_swapPlaces_23 : PLa b_AC_swapPlaces 23 0 24 := Or.inl ⟨0, by decide +kernel, rfl, rfl⟩
theorem d_AC_swapPlaces_24 : PLi b_AC_swapPlaces 24 5 26 := Or.inr ⟨by decide +kernel, rfl⟩
theorem d_AC_swapPlaces_26 : PLi b_AC_swapPlaces 26 2 27 := Or.inl ⟨2, by decide +kernel, rfl, rfl⟩
theorem d_AC_swapPlaces_27 : DR b_AC_swapPlaces 27 (.invokestatic 310) 3 30 := ⟨by decide +kernel, rfl⟩
theorem d_AC_swapPlaces_30 : DR b_AC_swapPlaces 30 (.return_) 1 31 := ⟨by decide +kernel, rfl⟩
set_option maxRecDepth 20000 in
theorem B_AC_swapPlaces {G : MCx} (hC : C0 G "AccusedChoose" b_AC_swapPlaces 6 2) {t0 : Nat} (h0 : isIA t0) (a1 : Int32) (a2 : Int32) (a3 : Int32) (s : St) : VO G (RV G b_AC_swapPlaces) (F_AC_swapPlaces t0 a1 a2 a3 s) 0 [(0, .ref (gad G t0)), (1, .int a1), (2, .int a2), (3, .int a3)] [] s := by
  unfold F_AC_swapPlaces
  refine VO_aload hC d_AC_swapPlaces_0 0 rfl ?_
  refine VO_iload hC d_AC_swapPlaces_1 1 rfl ?_
  refine VO_iload hC d_AC_swapPlaces_2 2 rfl ?_
  refine VO_callSI hC [.ref (gad G t0), .int a1, .int a2] [] ml_AC_380 d_AC_swapPlaces_3 ys_AC_placeIn (fun o h => M_AC_placeIn hC.inj h0 h) (by decide) rfl rfl (Nat.le_of_ble_eq_true rfl) (fun o1 => ?_)
  refine VO_istore hC d_AC_swapPlaces_6 [(0, .ref (gad G t0)), (1, .int a1), (2, .int a2), (3, .int a3)] rfl (by decide) ?_
  refine VO_aload hC d_AC_swapPlaces_8 1 rfl ?_
  refine VO_iload hC d_AC_swapPlaces_9 2 rfl ?_
  refine VO_iload hC d_AC_swapPlaces_10 4 rfl ?_
  refine VO_callSI hC [.ref (gad G t0), .int a1, .int a3] [] ml_AC_380 d_AC_swapPlaces_11 ys_AC_placeIn (fun o h => M_AC_placeIn hC.inj h0 h) (by decide) rfl rfl (Nat.le_of_ble_eq_true rfl) (fun o2 => ?_)
  refine VO_istore hC d_AC_swapPlaces_14 [(4, .int o1.1), (0, .ref (gad G t0)), (1, .int a1), (2, .int a2), (3, .int a3)] rfl (by decide) ?_
  refine VO_aload hC d_AC_swapPlaces_16 2 rfl ?_
  refine VO_iload hC d_AC_swapPlaces_17 1 rfl ?_
  refine VO_iload hC d_AC_swapPlaces_19 5 rfl ?_
  refine VO_callSV hC [.ref (gad G t0), .int o1.1, .int a3] [] ml_AC_310 d_AC_swapPlaces_20 ys_AC_put (fun o h => M_AC_put hC.inj h0 h) (by decide) rfl rfl (Nat.le_of_ble_eq_true rfl) (fun s3 => ?_)
  refine VO_aload hC d_AC_swapPlaces_23 2 rfl ?_
  refine VO_iload hC d_AC_swapPlaces_24 0 rfl ?_
  refine VO_iload hC d_AC_swapPlaces_26 4 rfl ?_
  refine VO_callSV hC [.ref (gad G t0), .int o2.1, .int a2] [] ml_AC_310 d_AC_swapPlaces_27 ys_AC_put (fun o h => M_AC_put hC.inj h0 h) (by decide) rfl rfl (Nat.le_of_ble_eq_true rfl) (fun s4 => ?_)
  exact VO_return d_AC_swapPlaces_30
set_option maxRecDepth 20000 in
theorem M_AC_swapPlaces {l : Launch} {D : va_G} {ad : Nat → Nat} {cI cL : ClassId} (hj : Inj ad) {t0 : Nat} (h0 : isIA t0) {a1 : Int32} {a2 : Int32} {a3 : Int32} {s : St} {o : St} (h : F_AC_swapPlaces t0 a1 a2 a3 s = some o) : Cn l D ad cI cL y_AC_swapPlaces b_AC_swapPlaces 6 none 2 [.ref (ad t0), .int a1, .int a2, .int a3] s none o := by
  refine Cn_ofV hj (plainFor_of_name (by decide)) (Nat.le_of_ble_eq_true rfl) [(0, .ref (ad t0)), (1, .int a1), (2, .int a2), (3, .int a3)] rfl (fun G hC e1 e2 e3 e4 e5 hR => ?_)
  subst e1; subst e2; subst e3; subst e4; subst e5
  exact B_AC_swapPlaces hC h0 a1 a2 a3 s o h hR
theorem d_LT_state_0 : PLa b_LT_state 0 0 1 := Or.inl ⟨0, by decide +kernel, rfl, rfl⟩
theorem d_LT_state_1 : PLi b_LT_state 1 2 2 := Or.inl ⟨2, by decide +kernel, rfl, rfl⟩
theorem d_LT_state_2 : PCi b_LT_state 2 1 3 := Or.inl ⟨1, by decide +kernel, by decide, rfl⟩
theorem d_LT_state_3 : DR b_LT_state 3 (.iadd) 1 4 := ⟨by decide +kernel, rfl⟩
theorem d_LT_state_4 : DR b_LT_state 4 (.invokevirtual 45) 3 7 := ⟨by decide +kernel, rfl⟩
theorem d_LT_state_7 : PSi b_LT_state 7 3 8 := Or.inl ⟨3, by decide +kernel, rfl, rfl⟩
theorem d_LT_state_8 : PLa b_LT_state 8 0 9 := Or.inl ⟨0, by decide +kernel, rfl, rfl⟩
theorem d_LT_state_9 : PLi b_LT_state 9 2 10 := Or.inl ⟨2, by decide +kernel, rfl, rfl⟩
theorem d_LT_state_10 : PCi b_LT_state 10 2 11 := Or.inl ⟨2, by decide +kernel, by decide, rfl⟩
theorem d_LT_state_11 : DR b_LT_state 11 (.iadd) 1 12 := ⟨by decide +kernel, rfl⟩
theorem d_LT_state_12 : DR b_LT_state 12 (.invokevirtual 45) 3 15 := ⟨by decide +kernel, rfl⟩
theorem d_LT_state_15 : PSi b_LT_state 15 4 17 := Or.inr ⟨by decide +kernel, rfl⟩
theorem d_LT_state_17 : PLa b_LT_state 17 0 18 := Or.inl ⟨0, by decide +kernel, rfl, rfl⟩
theorem d_LT_state_18 : DR b_LT_state 18 (.getfield 11) 3 21 := ⟨by decide +kernel, rfl⟩
theorem d_LT_state_21 : PLi b_LT_state 21 2 22 := Or.inl ⟨2, by decide +kernel, rfl, rfl⟩
theorem d_LT_state_22 : DR b_LT_state 22 (.invokestatic 37) 3 25 := ⟨by decide +kernel, rfl⟩
theorem d_LT_state_25 : decode b_LT_state 25 = .ok (.lookupswitch 108 #[(97, 80), (98, 59), (100, 43), (112, 52)], 43) := by decide +kernel
theorem d_LT_state_68 : PLa b_LT_state 68 0 69 := Or.inl ⟨0, by decide +kernel, rfl, rfl⟩
theorem d_LT_state_69 : PLa b_LT_state 69 1 70 := Or.inl ⟨1, by decide +kernel, rfl, rfl⟩
theorem d_LT_state_70 : PLi b_LT_state 70 3 71 := Or.inl ⟨3, by decide +kernel, rfl, rfl⟩
theorem d_LT_state_71 : PLi b_LT_state 71 4 73 := Or.inr ⟨by decide +kernel, rfl⟩
theorem d_LT_state_73 : DR b_LT_state 73 (.invokevirtual 48) 3 76 := ⟨by decide +kernel, rfl⟩
theorem d_LT_state_76 : DR b_LT_state 76 (.ireturn) 1 77 := ⟨by decide +kernel, rfl⟩
theorem d_LT_state_77 : PLa b_LT_state 77 0 78 := Or.inl ⟨0, by decide +kernel, rfl, rfl⟩
theorem d_LT_state_78 : PLa b_LT_state 78 1 79 := Or.inl ⟨1, by decide +kernel, rfl, rfl⟩
theorem d_LT_state_79 : PLi b_LT_state 79 2 80 := Or.inl ⟨2, by decide +kernel, rfl, rfl⟩
theorem d_LT_state_80 : DR b_LT_state 80 (.invokevirtual 52) 3 83 := ⟨by decide +kernel, rfl⟩
theorem d_LT_state_83 : DR b_LT_state 83 (.ireturn) 1 84 := ⟨by decide +kernel, rfl⟩
theorem d_LT_state_84 : PLa b_LT_state 84 1 85 := Or.inl ⟨1, by decide +kernel, rfl, rfl⟩
theorem d_LT_state_85 : PLi b_LT_state 85 3 86 := Or.inl ⟨3, by decide +kernel, rfl, rfl⟩
theorem d_LT_state_86 : PLi b_LT_state 86 4 88 := Or.inr ⟨by decide +kernel, rfl⟩
theorem d_LT_state_88 : DR b_LT_state 88 (.invokevirtual 55) 3 91 := ⟨by decide +kernel, rfl⟩
theorem d_LT_state_91 : DJ b_LT_state 91 (.ifCond .ne) 94 96 := ⟨5, by decide +kernel, rfl, by decide⟩
theorem d_LT_state_94 : PCi b_LT_state 94 0 95 := Or.inl ⟨0, by decide +kernel, by decide, rfl⟩
theorem d_LT_state_95 : DR b_LT_state 95 (.ireturn) 1 96 := ⟨by decide +kernel, rfl⟩
theorem d_LT_state_96 : PLa b_LT_state 96 1 97 := Or.inl ⟨1, by decide +kernel, rfl, rfl⟩
theorem d_LT_state_97 : PLi b_LT_state 97 3 98 := Or.inl ⟨3, by decide +kernel, rfl, rfl⟩
theorem d_LT_state_98 : PLi b_LT_state 98 4 100 := Or.inr ⟨by decide +kernel, rfl⟩
theorem d_LT_state_100 : DR b_LT_state 100 (.invokevirtual 61) 3 103 := ⟨by decide +kernel, rfl⟩
theorem d_LT_state_103 : PCi b_LT_state 103 1 104 := Or.inl ⟨1, by decide +kernel, by decide, rfl⟩
theorem d_LT_state_104 : DR b_LT_state 104 (.ireturn) 1 105 := ⟨by decide +kernel, rfl⟩
theorem d_LT_state_105 : PLa b_LT_state 105 1 106 := Or.inl ⟨1, by decide +kernel, rfl, rfl⟩
theorem d_LT_state_106 : PLi b_LT_state 106 3 107 := Or.inl ⟨3, by decide +kernel, rfl, rfl⟩
theorem d_LT_state_107 : DR b_LT_state 107 (.invokevirtual 65) 3 110 := ⟨by decide +kernel, rfl⟩
theorem d_LT_state_110 : DJ b_LT_state 110 (.ifCond .eq) 113 122 := ⟨12, by decide +kernel, rfl, by decide⟩
theorem d_LT_state_113 : PLa b_LT_state 113 1 114 := Or.inl ⟨1, by decide +kernel, rfl, rfl⟩
theorem d_LT_state_114 : PLi b_LT_state 114 4 116 := Or.inr ⟨by decide +kernel, rfl⟩
theorem d_LT_state_116 : DR b_LT_state 116 (.invokevirtual 69) 3 119 := ⟨by decide +kernel, rfl⟩
theorem d_LT_state_119 : DJ b_LT_state 119 (.ifCond .ne) 122 124 := ⟨5, by decide +kernel, rfl, by decide⟩
theorem d_LT_state_122 : PCi b_LT_state 122 0 123 := Or.inl ⟨0, by decide +kernel, by decide, rfl⟩
theorem d_LT_state_123 : DR b_LT_state 123 (.ireturn) 1 124 := ⟨by decide +kernel, rfl⟩
theorem d_LT_state_124 : PLa b_LT_state 124 1 125 := Or.inl ⟨1, by decide +kernel, rfl, rfl⟩
theorem d_LT_state_125 : PLi b_LT_state 125 3 126 := Or.inl ⟨3, by decide +kernel, rfl, rfl⟩
theorem d_LT_state_126 : PLi b_LT_state 126 4 128 := Or.inr ⟨by decide +kernel, rfl⟩
theorem d_LT_state_128 : DR b_LT_state 128 (.invokevirtual 72) 3 131 := ⟨by decide +kernel, rfl⟩
theorem d_LT_state_131 : PCi b_LT_state 131 1 132 := Or.inl ⟨1, by decide +kernel, by decide, rfl⟩
theorem d_LT_state_132 : DR b_LT_state 132 (.ireturn) 1 133 := ⟨by decide +kernel, rfl⟩
theorem d_LT_state_133 : PLa b_LT_state 133 1 134 := Or.inl ⟨1, by decide +kernel, rfl, rfl⟩
theorem d_LT_state_134 : PLi b_LT_state 134 3 135 := Or.inl ⟨3, by decide +kernel, rfl, rfl⟩
theorem d_LT_state_135 : PLi b_LT_state 135 4 137 := Or.inr ⟨by decide +kernel, rfl⟩
theorem d_LT_state_137 : DR b_LT_state 137 (.invokevirtual 55) 3 140 := ⟨by decide +kernel, rfl⟩
theorem d_LT_state_140 : DJ b_LT_state 140 (.ifCond .ne) 143 145 := ⟨5, by decide +kernel, rfl, by decide⟩
theorem d_LT_state_143 : PCi b_LT_state 143 0 144 := Or.inl ⟨0, by decide +kernel, by decide, rfl⟩
theorem d_LT_state_144 : DR b_LT_state 144 (.ireturn) 1 145 := ⟨by decide +kernel, rfl⟩
theorem d_LT_state_145 : PLa b_LT_state 145 1 146 := Or.inl ⟨1, by decide +kernel, rfl, rfl⟩
theorem d_LT_state_146 : DR b_LT_state 146 (.getfield 75) 3 149 := ⟨by decide +kernel, rfl⟩
theorem d_LT_state_149 : PLa b_LT_state 149 1 150 := Or.inl ⟨1, by decide +kernel, rfl, rfl⟩
theorem d_LT_state_150 : DR b_LT_state 150 (.getfield 78) 3 153 := ⟨by decide +kernel, rfl⟩
theorem d_LT_state_153 : PLi b_LT_state 153 3 154 := Or.inl ⟨3, by decide +kernel, rfl, rfl⟩
theorem d_LT_state_154 : PLi b_LT_state 154 4 156 := Or.inr ⟨by decide +kernel, rfl⟩
theorem d_LT_state_156 : DR b_LT_state 156 (.invokestatic 81) 3 159 := ⟨by decide +kernel, rfl⟩
theorem d_LT_state_159 : PCi b_LT_state 159 1 160 := Or.inl ⟨1, by decide +kernel, by decide, rfl⟩
theorem d_LT_state_160 : DR b_LT_state 160 (.ireturn) 1 161 := ⟨by decide +kernel, rfl⟩
set_option maxRecDepth 20000 in
theorem B_LT_state {G : MCx} (hC : C0 G "AccusedChoose$Letters" b_LT_state 5 4) {t1 : Nat} (h1 : isNI t1) (a2 : Int32) (s : St) : VO G (RZ G b_LT_state) (F_LT_state t1 a2 s) 0 [(0, .ref (gad G 34)), (1, .ref (gad G t1)), (2, .int a2)] [] s := by
  unfold F_LT_state
  refine VO_aload hC d_LT_state_0 0 rfl ?_
  refine VO_iload hC d_LT_state_1 2 rfl ?_
  refine VO_const hC d_LT_state_2 ?_
  refine VO_iadd hC d_LT_state_3 ?_
  refine VO_callVI hC [.int (a2 + (1 : Int32))] [] ml_LT_45 d_LT_state_4 yv_LT_digit sh_LT rfl rfl (fun o h => M_LT_digit hC.inj h) (by decide) rfl rfl (Nat.le_of_ble_eq_true rfl) (fun o1 => ?_)
  refine VO_istore hC d_LT_state_7 [(0, .ref (gad G 34)), (1, .ref (gad G t1)), (2, .int a2)] rfl (by decide) ?_
  refine VO_aload hC d_LT_state_8 1 rfl ?_
  refine VO_iload hC d_LT_state_9 3 rfl ?_
  refine VO_const hC d_LT_state_10 ?_
  refine VO_iadd hC d_LT_state_11 ?_
  refine VO_callVI hC [.int (a2 + (2 : Int32))] [] ml_LT_45 d_LT_state_12 yv_LT_digit sh_LT rfl rfl (fun o h => M_LT_digit hC.inj h) (by decide) rfl rfl (Nat.le_of_ble_eq_true rfl) (fun o2 => ?_)
  refine VO_istore hC d_LT_state_15 [(3, .int o1.1), (0, .ref (gad G 34)), (1, .ref (gad G t1)), (2, .int a2)] rfl (by decide) ?_
  refine VO_aload hC d_LT_state_17 2 rfl ?_
  refine VO_getr (r := 35) hC fl_LT_11 sh_LT rfl d_LT_state_18 ?_
  refine VO_iload hC d_LT_state_21 4 rfl ?_
  refine VO_callNI hC [.ref (gad G 35), .int a2] [] nl_LT_37 d_LT_state_22 ys_AC_at (fun o h => M_AC_at hC.inj ia_35 h) (by decide) rfl rfl (Nat.le_of_ble_eq_true rfl) (fun o3 => ?_)
  refine VO_topi (fun x4 => ?_)
  refine VO_ite (fun c25_0 => ?_) (fun c25_0 => ?_)
  · refine VO_lsw (tgt := 105) (off := (80 : Int)) hC d_LT_state_25 (by decide) (by first | (rw [c25_0]; done) | (rw [c25_0]; decide)) (by decide) ?_
    refine VO_aload hC d_LT_state_105 3 rfl ?_
    refine VO_iload hC d_LT_state_106 1 rfl ?_
    refine VO_callVI hC [.int o1.1] [] ml_LT_65 d_LT_state_107 yv_NI_hasPerson (sh_NI h1) rfl rfl (fun o h => M_NI_hasPerson hC.inj h1 h) (by decide) rfl rfl (Nat.le_of_ble_eq_true rfl) (fun o5 => ?_)
    refine VO_if_eq hC d_LT_state_110 (fun _ => ?_) (fun _ => ?_)
    · refine VO_const hC d_LT_state_122 ?_
      exact VO_z0 d_LT_state_123
    · refine VO_aload hC d_LT_state_113 3 rfl ?_
      refine VO_iload hC d_LT_state_114 0 rfl ?_
      refine VO_callVI hC [.int o2.1] [] ml_LT_69 d_LT_state_116 yv_NI_hasDeed (sh_NI h1) rfl rfl (fun o h => M_NI_hasDeed hC.inj h1 h) (by decide) rfl rfl (Nat.le_of_ble_eq_true rfl) (fun o6 => ?_)
      refine VO_if_ne hC d_LT_state_119 (fun _ => ?_) (fun _ => ?_)
      · refine VO_const hC d_LT_state_122 ?_
        exact VO_z0 d_LT_state_123
      · refine VO_aload hC d_LT_state_124 3 rfl ?_
        refine VO_iload hC d_LT_state_125 1 rfl ?_
        refine VO_iload hC d_LT_state_126 0 rfl ?_
        refine VO_callVV hC [.int o1.1, .int o2.1] [] ml_LT_72 d_LT_state_128 yv_NI_turnAlibi (sh_NI h1) rfl rfl (fun o h => M_NI_turnAlibi hC.inj h1 h) (by decide) rfl rfl (Nat.le_of_ble_eq_true rfl) (fun s7 => ?_)
        refine VO_const hC d_LT_state_131 ?_
        exact VO_z1 d_LT_state_132
  refine VO_ite (fun c25_1 => ?_) (fun c25_1 => ?_)
  · refine VO_lsw (tgt := 84) (off := (59 : Int)) hC d_LT_state_25 (by decide) (by first | (rw [c25_1]; done) | (rw [c25_1]; decide)) (by decide) ?_
    refine VO_aload hC d_LT_state_84 3 rfl ?_
    refine VO_iload hC d_LT_state_85 1 rfl ?_
    refine VO_iload hC d_LT_state_86 0 rfl ?_
    refine VO_callVI hC [.int o1.1, .int o2.1] [] ml_LT_55 d_LT_state_88 yv_NI_hasTwo (sh_NI h1) rfl rfl (fun o h => M_NI_hasTwo hC.inj h1 h) (by decide) rfl rfl (Nat.le_of_ble_eq_true rfl) (fun o8 => ?_)
    refine VO_if_ne hC d_LT_state_91 (fun _ => ?_) (fun _ => ?_)
    · refine VO_const hC d_LT_state_94 ?_
      exact VO_z0 d_LT_state_95
    · refine VO_aload hC d_LT_state_96 3 rfl ?_
      refine VO_iload hC d_LT_state_97 1 rfl ?_
      refine VO_iload hC d_LT_state_98 0 rfl ?_
      refine VO_callVV hC [.int o1.1, .int o2.1] [] ml_LT_61 d_LT_state_100 yv_NI_pair (sh_NI h1) rfl rfl (fun o h => M_NI_pair hC.inj h1 h) (by decide) rfl rfl (Nat.le_of_ble_eq_true rfl) (fun s9 => ?_)
      refine VO_const hC d_LT_state_103 ?_
      exact VO_z1 d_LT_state_104
  refine VO_ite (fun c25_2 => ?_) (fun c25_2 => ?_)
  · refine VO_lsw (tgt := 68) (off := (43 : Int)) hC d_LT_state_25 (by decide) (by first | (rw [c25_2]; done) | (rw [c25_2]; decide)) (by decide) ?_
    refine VO_aload hC d_LT_state_68 2 rfl ?_
    refine VO_aload hC d_LT_state_69 3 rfl ?_
    refine VO_iload hC d_LT_state_70 1 rfl ?_
    refine VO_iload hC d_LT_state_71 0 rfl ?_
    refine VO_callVI hC [.ref (gad G t1), .int o1.1, .int o2.1] [] ml_LT_48 d_LT_state_73 yv_LT_stateDeed sh_LT rfl rfl (fun o h => M_LT_stateDeed hC.inj h1 h) (by decide) rfl rfl (Nat.le_of_ble_eq_true rfl) (fun o10 => ?_)
    exact VO_zreturn d_LT_state_76
  refine VO_ite (fun c25_3 => ?_) (fun c25_3 => ?_)
  · refine VO_lsw (tgt := 77) (off := (52 : Int)) hC d_LT_state_25 (by decide) (by first | (rw [c25_3]; done) | (rw [c25_3]; decide)) (by decide) ?_
    refine VO_aload hC d_LT_state_77 2 rfl ?_
    refine VO_aload hC d_LT_state_78 3 rfl ?_
    refine VO_iload hC d_LT_state_79 4 rfl ?_
    refine VO_callVI hC [.ref (gad G t1), .int a2] [] ml_LT_52 d_LT_state_80 yv_LT_statePerson sh_LT rfl rfl (fun o h => M_LT_statePerson hC.inj h1 h) (by decide) rfl rfl (Nat.le_of_ble_eq_true rfl) (fun o11 => ?_)
    exact VO_zreturn d_LT_state_83
  refine VO_lsw (tgt := 133) (off := (108 : Int)) hC d_LT_state_25 (by decide) ((lv_osw c25_0 rfl).trans ((lv_osw c25_1 rfl).trans ((lv_osw c25_2 rfl).trans ((lv_osw c25_3 rfl))))) (by decide) ?_
  refine VO_aload hC d_LT_state_133 3 rfl ?_
  refine VO_iload hC d_LT_state_134 1 rfl ?_
  refine VO_iload hC d_LT_state_135 0 rfl ?_
  refine VO_callVI hC [.int o1.1, .int o2.1] [] ml_LT_55 d_LT_state_137 yv_NI_hasTwo (sh_NI h1) rfl rfl (fun o h => M_NI_hasTwo hC.inj h1 h) (by decide) rfl rfl (Nat.le_of_ble_eq_true rfl) (fun o12 => ?_)
  refine VO_if_ne hC d_LT_state_140 (fun _ => ?_) (fun _ => ?_)
  · refine VO_const hC d_LT_state_143 ?_
    exact VO_z0 d_LT_state_144
  · refine VO_aload hC d_LT_state_145 3 rfl ?_
    refine VO_getr (r := (t1 + 8)) hC fl_LT_75 (sh_NI h1) rfl d_LT_state_146 ?_
    refine VO_aload hC d_LT_state_149 3 rfl ?_
    refine VO_geti hC fl_LT_78 (sh_NI h1) rfl d_LT_state_150 ?_
    refine VO_iload hC d_LT_state_153 1 rfl ?_
    refine VO_iload hC d_LT_state_154 0 rfl ?_
    refine VO_callNV hC [.ref (gad G (t1 + 8)), .int (rd o12.2 t1 1), .int o1.1, .int o2.1] [] nl_LT_81 d_LT_state_156 ys_AC_swapPlaces (fun o h => M_AC_swapPlaces hC.inj (ia_NI8 h1) h) (by decide) rfl rfl (Nat.le_of_ble_eq_true rfl) (fun s13 => ?_)
    refine VO_const hC d_LT_state_159 ?_
    exact VO_z1 d_LT_state_160
set_option maxRecDepth 20000 in
theorem M_LT_state {l : Launch} {D : va_G} {ad : Nat → Nat} {cI cL : ClassId} (hj : Inj ad) {t1 : Nat} (h1 : isNI t1) {a2 : Int32} {s : St} {o : Int32 × St} (h : F_LT_state t1 a2 s = some o) : Cn l D ad cI cL y_LT_state b_LT_state 5 (some .boolean) 4 [.ref (ad 34), .ref (ad t1), .int a2] s (some (.int o.1)) o.2 := by
  refine Cn_ofZ hj (plainFor_of_name (by decide)) (Nat.le_of_ble_eq_true rfl) [(0, .ref (ad 34)), (1, .ref (ad t1)), (2, .int a2)] rfl (fun G hC e1 e2 e3 e4 e5 hR => ?_)
  subst e1; subst e2; subst e3; subst e4; subst e5
  exact B_LT_state hC h1 a2 s o h hR
theorem d_LT_tell_0 : PLa b_LT_tell 0 0 1 := Or.inl ⟨0, by decide +kernel, rfl, rfl⟩
theorem d_LT_tell_1 : DR b_LT_tell 1 (.invokevirtual 29) 3 4 := ⟨by decide +kernel, rfl⟩
theorem d_LT_tell_4 : PSi b_LT_tell 4 2 5 := Or.inl ⟨2, by decide +kernel, rfl, rfl⟩
theorem d_LT_tell_5 : PLi b_LT_tell 5 2 6 := Or.inl ⟨2, by decide +kernel, rfl, rfl⟩
theorem d_LT_tell_6 : DJ b_LT_tell 6 (.ifCond .lt) 9 15 := ⟨9, by decide +kernel, rfl, by decide⟩
theorem d_LT_tell_9 : PCi b_LT_tell 9 (-1000) 12 := Or.inr (Or.inr ⟨(-1000), by decide +kernel, by decide, rfl⟩)
theorem d_LT_tell_12 : PLi b_LT_tell 12 2 13 := Or.inl ⟨2, by decide +kernel, rfl, rfl⟩
theorem d_LT_tell_13 : DR b_LT_tell 13 (.isub) 1 14 := ⟨by decide +kernel, rfl⟩
theorem d_LT_tell_14 : DR b_LT_tell 14 (.ireturn) 1 15 := ⟨by decide +kernel, rfl⟩
theorem d_LT_tell_15 : PCi b_LT_tell 15 0 16 := Or.inl ⟨0, by decide +kernel, by decide, rfl⟩
theorem d_LT_tell_16 : PSi b_LT_tell 16 3 17 := Or.inl ⟨3, by decide +kernel, rfl, rfl⟩
theorem d_LT_tell_17 : PCi b_LT_tell 17 0 18 := Or.inl ⟨0, by decide +kernel, by decide, rfl⟩
theorem d_LT_tell_18 : PSi b_LT_tell 18 4 20 := Or.inr ⟨by decide +kernel, rfl⟩
theorem d_LT_tell_20 : PLi b_LT_tell 20 4 22 := Or.inr ⟨by decide +kernel, rfl⟩
theorem d_LT_tell_22 : PLa b_LT_tell 22 0 23 := Or.inl ⟨0, by decide +kernel, rfl, rfl⟩
theorem d_LT_tell_23 : DR b_LT_tell 23 (.getfield 15) 3 26 := ⟨by decide +kernel, rfl⟩
theorem d_LT_tell_26 : DJ b_LT_tell 26 (.if_icmp .ge) 29 71 := ⟨45, by decide +kernel, rfl, by decide⟩
theorem d_LT_tell_29 : PLa b_LT_tell 29 0 30 := Or.inl ⟨0, by decide +kernel, rfl, rfl⟩
theorem d_LT_tell_30 : PLa b_LT_tell 30 1 31 := Or.inl ⟨1, by decide +kernel, rfl, rfl⟩
theorem d_LT_tell_31 : PLi b_LT_tell 31 4 33 := Or.inr ⟨by decide +kernel, rfl⟩
theorem d_LT_tell_33 : DR b_LT_tell 33 (.invokevirtual 33) 3 36 := ⟨by decide +kernel, rfl⟩
theorem d_LT_tell_36 : DJ b_LT_tell 36 (.ifCond .ne) 39 46 := ⟨10, by decide +kernel, rfl, by decide⟩
theorem d_LT_tell_39 : PCi b_LT_tell 39 (-2000) 42 := Or.inr (Or.inr ⟨(-2000), by decide +kernel, by decide, rfl⟩)
theorem d_LT_tell_42 : PLi b_LT_tell 42 4 44 := Or.inr ⟨by decide +kernel, rfl⟩
theorem d_LT_tell_44 : DR b_LT_tell 44 (.isub) 1 45 := ⟨by decide +kernel, rfl⟩
theorem d_LT_tell_45 : DR b_LT_tell 45 (.ireturn) 1 46 := ⟨by decide +kernel, rfl⟩
theorem d_LT_tell_46 : DR b_LT_tell 46 (.iinc 3 1) 3 49 := ⟨by decide +kernel, rfl⟩
theorem d_LT_tell_49 : PLi b_LT_tell 49 4 51 := Or.inr ⟨by decide +kernel, rfl⟩
theorem d_LT_tell_51 : PLa b_LT_tell 51 0 52 := Or.inl ⟨0, by decide +kernel, rfl, rfl⟩
theorem d_LT_tell_52 : DR b_LT_tell 52 (.getfield 11) 3 55 := ⟨by decide +kernel, rfl⟩
theorem d_LT_tell_55 : PLi b_LT_tell 55 4 57 := Or.inr ⟨by decide +kernel, rfl⟩
theorem d_LT_tell_57 : DR b_LT_tell 57 (.invokestatic 37) 3 60 := ⟨by decide +kernel, rfl⟩
theorem d_LT_tell_60 : DR b_LT_tell 60 (.invokestatic 41) 3 63 := ⟨by decide +kernel, rfl⟩
theorem d_LT_tell_63 : PCi b_LT_tell 63 2 64 := Or.inl ⟨2, by decide +kernel, by decide, rfl⟩
theorem d_LT_tell_64 : DR b_LT_tell 64 (.iadd) 1 65 := ⟨by decide +kernel, rfl⟩
theorem d_LT_tell_65 : DR b_LT_tell 65 (.iadd) 1 66 := ⟨by decide +kernel, rfl⟩
theorem d_LT_tell_66 : PSi b_LT_tell 66 4 68 := Or.inr ⟨by decide +kernel, rfl⟩
theorem d_LT_tell_68 : DJ b_LT_tell 68 .goto 71 20 := ⟨-48, by decide +kernel, rfl, by decide⟩
theorem d_LT_tell_71 : PLi b_LT_tell 71 3 72 := Or.inl ⟨3, by decide +kernel, rfl, rfl⟩
theorem d_LT_tell_72 : DR b_LT_tell 72 (.ireturn) 1 73 := ⟨by decide +kernel, rfl⟩
set_option maxRecDepth 20000 in
theorem BH_LT_tell_20 {G : MCx} (hC : C0 G "AccusedChoose$Letters" b_LT_tell 5 5) {t1 : Nat} (h1 : isNI t1) (K20 : Int32 × Int32 × St → Option (Int32 × St)) (hK20 : ∀ (w3 : Int32) (w4 : Int32) (s : St), VO G (RI G b_LT_tell) (K20 (w3, w4, s)) 20 [(0, .ref (gad G 34)), (1, .ref (gad G t1)), (3, .int w3), (4, .int w4)] [] s) (v3 : Int32) (v4 : Int32) (s : St) : VO G (RI G b_LT_tell) (H_LT_tell_20 t1 K20 v3 v4 s) 20 [(0, .ref (gad G 34)), (1, .ref (gad G t1)), (3, .int v3), (4, .int v4)] [] s := by
  unfold H_LT_tell_20
  refine VO_iload hC d_LT_tell_20 3 rfl ?_
  refine VO_aload hC d_LT_tell_22 0 rfl ?_
  refine VO_geti hC fl_LT_15 sh_LT rfl d_LT_tell_23 ?_
  refine VO_icmp_ge hC d_LT_tell_26 (fun _ => ?_) (fun _ => ?_)
  · refine VO_iload hC d_LT_tell_71 2 rfl ?_
    exact VO_ireturn d_LT_tell_72
  · refine VO_aload hC d_LT_tell_29 0 rfl ?_
    refine VO_aload hC d_LT_tell_30 1 rfl ?_
    refine VO_iload hC d_LT_tell_31 3 rfl ?_
    refine VO_callVI hC [.ref (gad G t1), .int v4] [] ml_LT_33 d_LT_tell_33 yv_LT_state sh_LT rfl rfl (fun o h => M_LT_state hC.inj h1 h) (by decide) rfl rfl (Nat.le_of_ble_eq_true rfl) (fun o2 => ?_)
    refine VO_if_ne hC d_LT_tell_36 (fun _ => ?_) (fun _ => ?_)
    · refine VO_const hC d_LT_tell_39 ?_
      refine VO_iload hC d_LT_tell_42 3 rfl ?_
      refine VO_isub hC d_LT_tell_44 ?_
      exact VO_ireturn d_LT_tell_45
    · refine VO_iinc hC d_LT_tell_46 2 rfl (by decide : Int32.ofInt 1 = 1) [(0, .ref (gad G 34)), (1, .ref (gad G t1)), (4, .int v4)] rfl (by decide) ?_
      refine VO_iload hC d_LT_tell_49 3 rfl ?_
      refine VO_aload hC d_LT_tell_51 1 rfl ?_
      refine VO_getr (r := 35) hC fl_LT_11 sh_LT rfl d_LT_tell_52 ?_
      refine VO_iload hC d_LT_tell_55 3 rfl ?_
      refine VO_callNI hC [.ref (gad G 35), .int v4] [.int v4] nl_LT_37 d_LT_tell_57 ys_AC_at (fun o h => M_AC_at hC.inj ia_35 h) (by decide) rfl rfl (Nat.le_of_ble_eq_true rfl) (fun o3 => ?_)
      refine VO_callSI hC [.int o3.1] [.int v4] ml_LT_41 d_LT_tell_60 ys_LT_digitsOf (fun o h => M_LT_digitsOf hC.inj h) (by decide) rfl rfl (Nat.le_of_ble_eq_true rfl) (fun o4 => ?_)
      refine VO_const hC d_LT_tell_63 ?_
      refine VO_iadd hC d_LT_tell_64 ?_
      refine VO_iadd hC d_LT_tell_65 ?_
      refine VO_istoreB hC d_LT_tell_66 [(3, .int (v3 + 1)), (0, .ref (gad G 34)), (1, .ref (gad G t1))] rfl (by decide) (fun x5 => ?_)
      refine VO_goto hC d_LT_tell_68 ?_
      exact VO_sub [2, 3, 1, 0] rfl (hK20 (v3 + 1) x5 o4.2)
set_option maxRecDepth 20000 in
theorem B_LT_tell_20 {G : MCx} (hC : C0 G "AccusedChoose$Letters" b_LT_tell 5 5) {t1 : Nat} (h1 : isNI t1) (v3 : Int32) (v4 : Int32) (s : St) : VO G (RI G b_LT_tell) (F_LT_tell_20 t1 v3 v4 s) 20 [(0, .ref (gad G 34)), (1, .ref (gad G t1)), (3, .int v3), (4, .int v4)] [] s := by
  exact VO_fix (G_LT_tell_20 t1) 20 (fun q => [(0, .ref (gad G 34)), (1, .ref (gad G t1)), (3, .int q.1), (4, .int q.2.1)]) (fun q => q.2.2) (fun K hK q => BH_LT_tell_20 hC h1 K (fun w3 w4 s => hK (w3, w4, s)) q.1 q.2.1 q.2.2) FUEL (v3, v4, s)
set_option maxRecDepth 20000 in
theorem B_LT_tell {G : MCx} (hC : C0 G "AccusedChoose$Letters" b_LT_tell 5 5) {t1 : Nat} (h1 : isNI t1) (s : St) : VO G (RI G b_LT_tell) (F_LT_tell t1 s) 0 [(0, .ref (gad G 34)), (1, .ref (gad G t1))] [] s := by
  unfold F_LT_tell
  refine VO_aload hC d_LT_tell_0 0 rfl ?_
  refine VO_callVI hC [] [] ml_LT_29 d_LT_tell_1 yv_LT_placeOfWrongLetter sh_LT rfl rfl (fun o h => M_LT_placeOfWrongLetter hC.inj h) (by decide) rfl rfl (Nat.le_of_ble_eq_true rfl) (fun o1 => ?_)
  refine VO_istore hC d_LT_tell_4 [(0, .ref (gad G 34)), (1, .ref (gad G t1))] rfl (by decide) ?_
  refine VO_iload hC d_LT_tell_5 0 rfl ?_
  refine VO_if_lt hC d_LT_tell_6 (fun _ => ?_) (fun _ => ?_)
  · refine VO_const hC d_LT_tell_15 ?_
    refine VO_istore hC d_LT_tell_16 [(2, .int o1.1), (0, .ref (gad G 34)), (1, .ref (gad G t1))] rfl (by decide) ?_
    refine VO_const hC d_LT_tell_17 ?_
    refine VO_istore hC d_LT_tell_18 [(3, .int (0 : Int32)), (2, .int o1.1), (0, .ref (gad G 34)), (1, .ref (gad G t1))] rfl (by decide) ?_
    exact VO_sub [3, 4, 1, 0] rfl (B_LT_tell_20 hC h1 (0 : Int32) (0 : Int32) o1.2)
  · refine VO_const hC d_LT_tell_9 ?_
    refine VO_iload hC d_LT_tell_12 0 rfl ?_
    refine VO_isub hC d_LT_tell_13 ?_
    exact VO_ireturn d_LT_tell_14
set_option maxRecDepth 20000 in
theorem M_LT_tell {l : Launch} {D : va_G} {ad : Nat → Nat} {cI cL : ClassId} (hj : Inj ad) {t1 : Nat} (h1 : isNI t1) {s : St} {o : Int32 × St} (h : F_LT_tell t1 s = some o) : Cn l D ad cI cL y_LT_tell b_LT_tell 5 (some .int) 5 [.ref (ad 34), .ref (ad t1)] s (some (.int o.1)) o.2 := by
  refine Cn_ofI hj (plainFor_of_name (by decide)) (Nat.le_of_ble_eq_true rfl) [(0, .ref (ad 34)), (1, .ref (ad t1))] rfl (fun G hC e1 e2 e3 e4 e5 hR => ?_)
  subst e1; subst e2; subst e3; subst e4; subst e5
  exact B_LT_tell hC h1 s o h hR
theorem d_MO_begin_0 : PLa b_MO_begin 0 0 1 := Or.inl ⟨0, by decide +kernel, rfl, rfl⟩
theorem d_MO_begin_1 : PLi b_MO_begin 1 1 2 := Or.inl ⟨1, by decide +kernel, rfl, rfl⟩
theorem d_MO_begin_2 : DR b_MO_begin 2 (.putfield 28) 3 5 := ⟨by decide +kernel, rfl⟩
theorem d_MO_begin_5 : PLa b_MO_begin 5 0 6 := Or.inl ⟨0, by decide +kernel, rfl, rfl⟩
theorem d_MO_begin_6 : PLi b_MO_begin 6 2 7 := Or.inl ⟨2, by decide +kernel, rfl, rfl⟩
theorem d_MO_begin_7 : DR b_MO_begin 7 (.putfield 33) 3 10 := ⟨by decide +kernel, rfl⟩
theorem d_MO_begin_10 : PLa b_MO_begin 10 0 11 := Or.inl ⟨0, by decide +kernel, rfl, rfl⟩
theorem d_MO_begin_11 : PCi b_MO_begin 11 0 12 := Or.inl ⟨0, by decide +kernel, by decide, rfl⟩
theorem d_MO_begin_12 : DR b_MO_begin 12 (.putfield 63) 3 15 := ⟨by decide +kernel, rfl⟩
theorem d_MO_begin_15 : PLa b_MO_begin 15 0 16 := Or.inl ⟨0, by decide +kernel, rfl, rfl⟩
theorem d_MO_begin_16 : PCi b_MO_begin 16 (-9) 18 := Or.inr (Or.inl ⟨(-9), by decide +kernel, by decide, rfl⟩)
theorem d_MO_begin_18 : DR b_MO_begin 18 (.putfield 66) 3 21 := ⟨by decide +kernel, rfl⟩
theorem d_MO_begin_21 : DR b_MO_begin 21 (.return_) 1 22 := ⟨by decide +kernel, rfl⟩
set_option maxRecDepth 20000 in
theorem B_MO_begin {G : MCx} (hC : C0 G "AccusedChoose$Morning" b_MO_begin 3 1) {t0 : Nat} (h0 : isMO t0) (a1 : Int32) (a2 : Int32) (s : St) : VO G (RV G b_MO_begin) (F_MO_begin t0 a1 a2 s) 0 [(0, .ref (gad G t0)), (1, .int a1), (2, .int a2)] [] s := by
  unfold F_MO_begin
  refine VO_aload hC d_MO_begin_0 0 rfl ?_
  refine VO_iload hC d_MO_begin_1 1 rfl ?_
  refine VO_puti hC fw_MO_28 (sh_MO h0) rfl d_MO_begin_2 (fun s1 => ?_)
  refine VO_aload hC d_MO_begin_5 0 rfl ?_
  refine VO_iload hC d_MO_begin_6 2 rfl ?_
  refine VO_puti hC fw_MO_33 (sh_MO h0) rfl d_MO_begin_7 (fun s2 => ?_)
  refine VO_aload hC d_MO_begin_10 0 rfl ?_
  refine VO_const hC d_MO_begin_11 ?_
  refine VO_puti hC fw_MO_63 (sh_MO h0) rfl d_MO_begin_12 (fun s3 => ?_)
  refine VO_aload hC d_MO_begin_15 0 rfl ?_
  refine VO_const hC d_MO_begin_16 ?_
  refine VO_puti hC fw_MO_66 (sh_MO h0) rfl d_MO_begin_18 (fun s4 => ?_)
  exact VO_return d_MO_begin_21
set_option maxRecDepth 20000 in
theorem M_MO_begin {l : Launch} {D : va_G} {ad : Nat → Nat} {cI cL : ClassId} (hj : Inj ad) {t0 : Nat} (h0 : isMO t0) {a1 : Int32} {a2 : Int32} {s : St} {o : St} (h : F_MO_begin t0 a1 a2 s = some o) : Cn l D ad cI cL y_MO_begin b_MO_begin 3 none 1 [.ref (ad t0), .int a1, .int a2] s none o := by
  refine Cn_ofV hj (plainFor_of_name (by decide)) (Nat.le_of_ble_eq_true rfl) [(0, .ref (ad t0)), (1, .int a1), (2, .int a2)] rfl (fun G hC e1 e2 e3 e4 e5 hR => ?_)
  subst e1; subst e2; subst e3; subst e4; subst e5
  exact B_MO_begin hC h0 a1 a2 s o h hR
theorem d_MO_seat_0 : PLa b_MO_seat 0 1 1 := Or.inl ⟨1, by decide +kernel, rfl, rfl⟩
theorem d_MO_seat_1 : PLi b_MO_seat 1 2 2 := Or.inl ⟨2, by decide +kernel, rfl, rfl⟩
theorem d_MO_seat_2 : PLi b_MO_seat 2 3 3 := Or.inl ⟨3, by decide +kernel, rfl, rfl⟩
theorem d_MO_seat_3 : DR b_MO_seat 3 (.invokevirtual 69) 3 6 := ⟨by decide +kernel, rfl⟩
theorem d_MO_seat_6 : PSi b_MO_seat 6 4 8 := Or.inr ⟨by decide +kernel, rfl⟩
theorem d_MO_seat_8 : PLa b_MO_seat 8 0 9 := Or.inl ⟨0, by decide +kernel, rfl, rfl⟩
theorem d_MO_seat_9 : DR b_MO_seat 9 (.getfield 9) 3 12 := ⟨by decide +kernel, rfl⟩
theorem d_MO_seat_12 : PLi b_MO_seat 12 2 13 := Or.inl ⟨2, by decide +kernel, rfl, rfl⟩
theorem d_MO_seat_13 : PLi b_MO_seat 13 3 14 := Or.inl ⟨3, by decide +kernel, rfl, rfl⟩
theorem d_MO_seat_14 : DR b_MO_seat 14 (.invokestatic 72) 3 17 := ⟨by decide +kernel, rfl⟩
theorem d_MO_seat_17 : PLa b_MO_seat 17 0 18 := Or.inl ⟨0, by decide +kernel, rfl, rfl⟩
theorem d_MO_seat_18 : DR b_MO_seat 18 (.getfield 15) 3 21 := ⟨by decide +kernel, rfl⟩
theorem d_MO_seat_21 : PLi b_MO_seat 21 2 22 := Or.inl ⟨2, by decide +kernel, rfl, rfl⟩
theorem d_MO_seat_22 : PLi b_MO_seat 22 4 24 := Or.inr ⟨by decide +kernel, rfl⟩
theorem d_MO_seat_24 : DR b_MO_seat 24 (.invokestatic 72) 3 27 := ⟨by decide +kernel, rfl⟩
theorem d_MO_seat_27 : PLa b_MO_seat 27 0 28 := Or.inl ⟨0, by decide +kernel, rfl, rfl⟩
theorem d_MO_seat_28 : DR b_MO_seat 28 (.dup) 1 29 := ⟨by decide +kernel, rfl⟩
theorem d_MO_seat_29 : DR b_MO_seat 29 (.getfield 33) 3 32 := ⟨by decide +kernel, rfl⟩
theorem d_MO_seat_32 : PLi b_MO_seat 32 3 33 := Or.inl ⟨3, by decide +kernel, rfl, rfl⟩
theorem d_MO_seat_33 : DR b_MO_seat 33 (.invokestatic 76) 3 36 := ⟨by decide +kernel, rfl⟩
theorem d_MO_seat_36 : PCi b_MO_seat 36 (-1) 37 := Or.inl ⟨(-1), by decide +kernel, by decide, rfl⟩
theorem d_MO_seat_37 : DR b_MO_seat 37 (.ixor) 1 38 := ⟨by decide +kernel, rfl⟩
theorem d_MO_seat_38 : DR b_MO_seat 38 (.iand) 1 39 := ⟨by decide +kernel, rfl⟩
theorem d_MO_seat_39 : DR b_MO_seat 39 (.putfield 33) 3 42 := ⟨by decide +kernel, rfl⟩
theorem d_MO_seat_42 : PLa b_MO_seat 42 0 43 := Or.inl ⟨0, by decide +kernel, rfl, rfl⟩
theorem d_MO_seat_43 : DR b_MO_seat 43 (.dup) 1 44 := ⟨by decide +kernel, rfl⟩
theorem d_MO_seat_44 : DR b_MO_seat 44 (.getfield 63) 3 47 := ⟨by decide +kernel, rfl⟩
theorem d_MO_seat_47 : PLi b_MO_seat 47 4 49 := Or.inr ⟨by decide +kernel, rfl⟩
theorem d_MO_seat_49 : DR b_MO_seat 49 (.iadd) 1 50 := ⟨by decide +kernel, rfl⟩
theorem d_MO_seat_50 : DR b_MO_seat 50 (.putfield 63) 3 53 := ⟨by decide +kernel, rfl⟩
theorem d_MO_seat_53 : PLi b_MO_seat 53 3 54 := Or.inl ⟨3, by decide +kernel, rfl, rfl⟩
theorem d_MO_seat_54 : PCi b_MO_seat 54 (-9) 56 := Or.inr (Or.inl ⟨(-9), by decide +kernel, by decide, rfl⟩)
theorem d_MO_seat_56 : DJ b_MO_seat 56 (.if_icmp .ne) 59 73 := ⟨17, by decide +kernel, rfl, by decide⟩
theorem d_MO_seat_59 : PLa b_MO_seat 59 0 60 := Or.inl ⟨0, by decide +kernel, rfl, rfl⟩
theorem d_MO_seat_60 : DR b_MO_seat 60 (.getfield 66) 3 63 := ⟨by decide +kernel, rfl⟩
theorem d_MO_seat_63 : PCi b_MO_seat 63 (-9) 65 := Or.inr (Or.inl ⟨(-9), by decide +kernel, by decide, rfl⟩)
theorem d_MO_seat_65 : DJ b_MO_seat 65 (.if_icmp .ne) 68 73 := ⟨8, by decide +kernel, rfl, by decide⟩
theorem d_MO_seat_68 : PLa b_MO_seat 68 0 69 := Or.inl ⟨0, by decide +kernel, rfl, rfl⟩
theorem d_MO_seat_69 : PLi b_MO_seat 69 2 70 := Or.inl ⟨2, by decide +kernel, rfl, rfl⟩
theorem d_MO_seat_70 : DR b_MO_seat 70 (.putfield 66) 3 73 := ⟨by decide +kernel, rfl⟩
theorem d_MO_seat_73 : DR b_MO_seat 73 (.return_) 1 74 := ⟨by decide +kernel, rfl⟩
set_option maxRecDepth 20000 in
theorem B_MO_seat {G : MCx} (hC : C0 G "AccusedChoose$Morning" b_MO_seat 5 3) {t0 : Nat} (h0 : isMO t0) {t1 : Nat} (h1 : isPR t1) (a2 : Int32) (a3 : Int32) (s : St) : VO G (RV G b_MO_seat) (F_MO_seat t0 t1 a2 a3 s) 0 [(0, .ref (gad G t0)), (1, .ref (gad G t1)), (2, .int a2), (3, .int a3)] [] s := by
  unfold F_MO_seat
  refine VO_aload hC d_MO_seat_0 1 rfl ?_
  refine VO_iload hC d_MO_seat_1 2 rfl ?_
  refine VO_iload hC d_MO_seat_2 3 rfl ?_
  refine VO_callVI hC [.int a2, .int a3] [] ml_MO_69 d_MO_seat_3 yv_PR_of (sh_PR h1) rfl rfl (fun o h => M_PR_of hC.inj h1 h) (by decide) rfl rfl (Nat.le_of_ble_eq_true rfl) (fun o1 => ?_)
  refine VO_istore hC d_MO_seat_6 [(0, .ref (gad G t0)), (1, .ref (gad G t1)), (2, .int a2), (3, .int a3)] rfl (by decide) ?_
  refine VO_aload hC d_MO_seat_8 1 rfl ?_
  refine VO_getr (r := (t0 + 1)) hC fl_MO_9 (sh_MO h0) rfl d_MO_seat_9 ?_
  refine VO_iload hC d_MO_seat_12 3 rfl ?_
  refine VO_iload hC d_MO_seat_13 4 rfl ?_
  refine VO_callNV hC [.ref (gad G (t0 + 1)), .int a2, .int a3] [] nl_MO_72 d_MO_seat_14 ys_AC_put (fun o h => M_AC_put hC.inj (ia_MO1 h0) h) (by decide) rfl rfl (Nat.le_of_ble_eq_true rfl) (fun s2 => ?_)
  refine VO_aload hC d_MO_seat_17 1 rfl ?_
  refine VO_getr (r := (t0 + 2)) hC fl_MO_15 (sh_MO h0) rfl d_MO_seat_18 ?_
  refine VO_iload hC d_MO_seat_21 3 rfl ?_
  refine VO_iload hC d_MO_seat_22 0 rfl ?_
  refine VO_callNV hC [.ref (gad G (t0 + 2)), .int a2, .int o1.1] [] nl_MO_72 d_MO_seat_24 ys_AC_put (fun o h => M_AC_put hC.inj (ia_MO2 h0) h) (by decide) rfl rfl (Nat.le_of_ble_eq_true rfl) (fun s3 => ?_)
  refine VO_aload hC d_MO_seat_27 1 rfl ?_
  refine VO_dup hC d_MO_seat_28 rfl ?_
  refine VO_geti hC fl_MO_33 (sh_MO h0) rfl d_MO_seat_29 ?_
  refine VO_iload hC d_MO_seat_32 4 rfl ?_
  refine VO_callNI hC [.int a3] [.int (rd s3 t0 3), .ref (gad G t0)] nl_MO_76 d_MO_seat_33 ys_AC_bit (fun o h => M_AC_bit hC.inj h) (by decide) rfl rfl (Nat.le_of_ble_eq_true rfl) (fun o4 => ?_)
  refine VO_const hC d_MO_seat_36 ?_
  refine VO_ixor hC d_MO_seat_37 ?_
  refine VO_iand hC d_MO_seat_38 ?_
  refine VO_puti hC fw_MO_33 (sh_MO h0) rfl d_MO_seat_39 (fun s5 => ?_)
  refine VO_aload hC d_MO_seat_42 1 rfl ?_
  refine VO_dup hC d_MO_seat_43 rfl ?_
  refine VO_geti hC fl_MO_63 (sh_MO h0) rfl d_MO_seat_44 ?_
  refine VO_iload hC d_MO_seat_47 0 rfl ?_
  refine VO_iadd hC d_MO_seat_49 ?_
  refine VO_puti hC fw_MO_63 (sh_MO h0) rfl d_MO_seat_50 (fun s6 => ?_)
  refine VO_iload hC d_MO_seat_53 4 rfl ?_
  refine VO_const hC d_MO_seat_54 ?_
  refine VO_icmp_ne hC d_MO_seat_56 (fun _ => ?_) (fun _ => ?_)
  · refine VO_aload hC d_MO_seat_59 1 rfl ?_
    refine VO_geti hC fl_MO_66 (sh_MO h0) rfl d_MO_seat_60 ?_
    refine VO_const hC d_MO_seat_63 ?_
    refine VO_icmp_ne hC d_MO_seat_65 (fun _ => ?_) (fun _ => ?_)
    · refine VO_aload hC d_MO_seat_68 1 rfl ?_
      refine VO_iload hC d_MO_seat_69 3 rfl ?_
      refine VO_puti hC fw_MO_66 (sh_MO h0) rfl d_MO_seat_70 (fun s7 => ?_)
      exact VO_return d_MO_seat_73
    · exact VO_return d_MO_seat_73
  · exact VO_return d_MO_seat_73
set_option maxRecDepth 20000 in
theorem M_MO_seat {l : Launch} {D : va_G} {ad : Nat → Nat} {cI cL : ClassId} (hj : Inj ad) {t0 : Nat} (h0 : isMO t0) {t1 : Nat} (h1 : isPR t1) {a2 : Int32} {a3 : Int32} {s : St} {o : St} (h : F_MO_seat t0 t1 a2 a3 s = some o) : Cn l D ad cI cL y_MO_seat b_MO_seat 5 none 3 [.ref (ad t0), .ref (ad t1), .int a2, .int a3] s none o := by
  refine Cn_ofV hj (plainFor_of_name (by decide)) (Nat.le_of_ble_eq_true rfl) [(0, .ref (ad t0)), (1, .ref (ad t1)), (2, .int a2), (3, .int a3)] rfl (fun G hC e1 e2 e3 e4 e5 hR => ?_)
  subst e1; subst e2; subst e3; subst e4; subst e5
  exact B_MO_seat hC h0 h1 a2 a3 s o h hR
theorem d_MO_hold_0 : PLa b_MO_hold 0 0 1 := Or.inl ⟨0, by decide +kernel, rfl, rfl⟩
theorem d_MO_hold_1 : PLa b_MO_hold 1 1 2 := Or.inl ⟨1, by decide +kernel, rfl, rfl⟩
theorem d_MO_hold_2 : DR b_MO_hold 2 (.getfield 18) 3 5 := ⟨by decide +kernel, rfl⟩
theorem d_MO_hold_5 : PLi b_MO_hold 5 3 6 := Or.inl ⟨3, by decide +kernel, rfl, rfl⟩
theorem d_MO_hold_6 : DR b_MO_hold 6 (.invokevirtual 24) 3 9 := ⟨by decide +kernel, rfl⟩
theorem d_MO_hold_9 : PCi b_MO_hold 9 0 10 := Or.inl ⟨0, by decide +kernel, by decide, rfl⟩
theorem d_MO_hold_10 : PSi b_MO_hold 10 4 12 := Or.inr ⟨by decide +kernel, rfl⟩
theorem d_MO_hold_12 : PLi b_MO_hold 12 4 14 := Or.inr ⟨by decide +kernel, rfl⟩
theorem d_MO_hold_14 : PLa b_MO_hold 14 0 15 := Or.inl ⟨0, by decide +kernel, rfl, rfl⟩
theorem d_MO_hold_15 : DR b_MO_hold 15 (.getfield 28) 3 18 := ⟨by decide +kernel, rfl⟩
theorem d_MO_hold_18 : DJ b_MO_hold 18 (.if_icmp .ge) 21 52 := ⟨34, by decide +kernel, rfl, by decide⟩
theorem d_MO_hold_21 : PLa b_MO_hold 21 2 22 := Or.inl ⟨2, by decide +kernel, rfl, rfl⟩
theorem d_MO_hold_22 : PLi b_MO_hold 22 4 24 := Or.inr ⟨by decide +kernel, rfl⟩
theorem d_MO_hold_24 : DR b_MO_hold 24 (.invokestatic 29) 3 27 := ⟨by decide +kernel, rfl⟩
theorem d_MO_hold_27 : PSi b_MO_hold 27 5 29 := Or.inr ⟨by decide +kernel, rfl⟩
theorem d_MO_hold_29 : PLa b_MO_hold 29 0 30 := Or.inl ⟨0, by decide +kernel, rfl, rfl⟩
theorem d_MO_hold_30 : PLa b_MO_hold 30 1 31 := Or.inl ⟨1, by decide +kernel, rfl, rfl⟩
theorem d_MO_hold_31 : PLi b_MO_hold 31 5 33 := Or.inr ⟨by decide +kernel, rfl⟩
theorem d_MO_hold_33 : PLa b_MO_hold 33 1 34 := Or.inl ⟨1, by decide +kernel, rfl, rfl⟩
theorem d_MO_hold_34 : PLi b_MO_hold 34 5 36 := Or.inr ⟨by decide +kernel, rfl⟩
theorem d_MO_hold_36 : PLa b_MO_hold 36 0 37 := Or.inl ⟨0, by decide +kernel, rfl, rfl⟩
theorem d_MO_hold_37 : DR b_MO_hold 37 (.getfield 33) 3 40 := ⟨by decide +kernel, rfl⟩
theorem d_MO_hold_40 : DR b_MO_hold 40 (.invokevirtual 36) 3 43 := ⟨by decide +kernel, rfl⟩
theorem d_MO_hold_43 : DR b_MO_hold 43 (.invokevirtual 40) 3 46 := ⟨by decide +kernel, rfl⟩
theorem d_MO_hold_46 : DR b_MO_hold 46 (.iinc 4 1) 3 49 := ⟨by decide +kernel, rfl⟩
theorem d_MO_hold_49 : DJ b_MO_hold 49 .goto 52 12 := ⟨-37, by decide +kernel, rfl, by decide⟩
theorem d_MO_hold_52 : DR b_MO_hold 52 (.return_) 1 53 := ⟨by decide +kernel, rfl⟩
set_option maxRecDepth 20000 in
theorem BH_MO_hold_12 {G : MCx} (hC : C0 G "AccusedChoose$Morning" b_MO_hold 6 4) {t0 : Nat} (h0 : isMO t0) {t1 : Nat} (h1 : isPR t1) {t2 : Nat} (h2 : isIA t2) (K12 : Int32 × St → Option (St)) (hK12 : ∀ (w4 : Int32) (s : St), VO G (RV G b_MO_hold) (K12 (w4, s)) 12 [(0, .ref (gad G t0)), (1, .ref (gad G t1)), (2, .ref (gad G t2)), (4, .int w4)] [] s) (v4 : Int32) (s : St) : VO G (RV G b_MO_hold) (H_MO_hold_12 t0 t1 t2 K12 v4 s) 12 [(0, .ref (gad G t0)), (1, .ref (gad G t1)), (2, .ref (gad G t2)), (4, .int v4)] [] s := by
  unfold H_MO_hold_12
  refine VO_iload hC d_MO_hold_12 3 rfl ?_
  refine VO_aload hC d_MO_hold_14 0 rfl ?_
  refine VO_geti hC fl_MO_28 (sh_MO h0) rfl d_MO_hold_15 ?_
  refine VO_icmp_ge hC d_MO_hold_18 (fun _ => ?_) (fun _ => ?_)
  · exact VO_return d_MO_hold_52
  · refine VO_aload hC d_MO_hold_21 2 rfl ?_
    refine VO_iload hC d_MO_hold_22 3 rfl ?_
    refine VO_callNI hC [.ref (gad G t2), .int v4] [] nl_MO_29 d_MO_hold_24 ys_AC_at (fun o h => M_AC_at hC.inj h2 h) (by decide) rfl rfl (Nat.le_of_ble_eq_true rfl) (fun o2 => ?_)
    refine VO_istore hC d_MO_hold_27 [(0, .ref (gad G t0)), (1, .ref (gad G t1)), (2, .ref (gad G t2)), (4, .int v4)] rfl (by decide) ?_
    refine VO_aload hC d_MO_hold_29 1 rfl ?_
    refine VO_aload hC d_MO_hold_30 2 rfl ?_
    refine VO_iload hC d_MO_hold_31 0 rfl ?_
    refine VO_aload hC d_MO_hold_33 2 rfl ?_
    refine VO_iload hC d_MO_hold_34 0 rfl ?_
    refine VO_aload hC d_MO_hold_36 1 rfl ?_
    refine VO_geti hC fl_MO_33 (sh_MO h0) rfl d_MO_hold_37 ?_
    refine VO_callVI hC [.int o2.1, .int (rd o2.2 t0 3)] [.int o2.1, .ref (gad G t1), .ref (gad G t0)] ml_MO_36 d_MO_hold_40 yv_PR_lightest (sh_PR h1) rfl rfl (fun o h => M_PR_lightest hC.inj h1 h) (by decide) rfl rfl (Nat.le_of_ble_eq_true rfl) (fun o3 => ?_)
    refine VO_callVV hC [.ref (gad G t1), .int o2.1, .int o3.1] [] ml_MO_40 d_MO_hold_43 yv_MO_seat (sh_MO h0) rfl rfl (fun o h => M_MO_seat hC.inj h0 h1 h) (by decide) rfl rfl (Nat.le_of_ble_eq_true rfl) (fun s4 => ?_)
    refine VO_iinc hC d_MO_hold_46 4 rfl (by decide : Int32.ofInt 1 = 1) [(5, .int o2.1), (0, .ref (gad G t0)), (1, .ref (gad G t1)), (2, .ref (gad G t2))] rfl (by decide) ?_
    refine VO_goto hC d_MO_hold_49 ?_
    exact VO_sub [2, 3, 4, 0] rfl (hK12 (v4 + 1) s4)
set_option maxRecDepth 20000 in
theorem B_MO_hold_12 {G : MCx} (hC : C0 G "AccusedChoose$Morning" b_MO_hold 6 4) {t0 : Nat} (h0 : isMO t0) {t1 : Nat} (h1 : isPR t1) {t2 : Nat} (h2 : isIA t2) (v4 : Int32) (s : St) : VO G (RV G b_MO_hold) (F_MO_hold_12 t0 t1 t2 v4 s) 12 [(0, .ref (gad G t0)), (1, .ref (gad G t1)), (2, .ref (gad G t2)), (4, .int v4)] [] s := by
  exact VO_fix (G_MO_hold_12 t0 t1 t2) 12 (fun q => [(0, .ref (gad G t0)), (1, .ref (gad G t1)), (2, .ref (gad G t2)), (4, .int q.1)]) (fun q => q.2) (fun K hK q => BH_MO_hold_12 hC h0 h1 h2 K (fun w4 s => hK (w4, s)) q.1 q.2) FUEL (v4, s)
set_option maxRecDepth 20000 in
theorem B_MO_hold {G : MCx} (hC : C0 G "AccusedChoose$Morning" b_MO_hold 6 4) {t0 : Nat} (h0 : isMO t0) {t1 : Nat} (h1 : isPR t1) {t2 : Nat} (h2 : isIA t2) (a3 : Int32) (s : St) : VO G (RV G b_MO_hold) (F_MO_hold t0 t1 t2 a3 s) 0 [(0, .ref (gad G t0)), (1, .ref (gad G t1)), (2, .ref (gad G t2)), (3, .int a3)] [] s := by
  unfold F_MO_hold
  refine VO_aload hC d_MO_hold_0 0 rfl ?_
  refine VO_aload hC d_MO_hold_1 1 rfl ?_
  refine VO_geti hC fl_MO_18 (sh_PR h1) rfl d_MO_hold_2 ?_
  refine VO_iload hC d_MO_hold_5 3 rfl ?_
  refine VO_callVV hC [.int (rd s t1 0), .int a3] [] ml_MO_24 d_MO_hold_6 yv_MO_begin (sh_MO h0) rfl rfl (fun o h => M_MO_begin hC.inj h0 h) (by decide) rfl rfl (Nat.le_of_ble_eq_true rfl) (fun s1 => ?_)
  refine VO_const hC d_MO_hold_9 ?_
  refine VO_istore hC d_MO_hold_10 [(0, .ref (gad G t0)), (1, .ref (gad G t1)), (2, .ref (gad G t2)), (3, .int a3)] rfl (by decide) ?_
  exact VO_sub [1, 2, 3, 0] rfl (B_MO_hold_12 hC h0 h1 h2 (0 : Int32) s1)
set_option maxRecDepth 20000 in
theorem M_MO_hold {l : Launch} {D : va_G} {ad : Nat → Nat} {cI cL : ClassId} (hj : Inj ad) {t0 : Nat} (h0 : isMO t0) {t1 : Nat} (h1 : isPR t1) {t2 : Nat} (h2 : isIA t2) {a3 : Int32} {s : St} {o : St} (h : F_MO_hold t0 t1 t2 a3 s = some o) : Cn l D ad cI cL y_MO_hold b_MO_hold 6 none 4 [.ref (ad t0), .ref (ad t1), .ref (ad t2), .int a3] s none o := by
  refine Cn_ofV hj (plainFor_of_name (by decide)) (Nat.le_of_ble_eq_true rfl) [(0, .ref (ad t0)), (1, .ref (ad t1)), (2, .ref (ad t2)), (3, .int a3)] rfl (fun G hC e1 e2 e3 e4 e5 hR => ?_)
  subst e1; subst e2; subst e3; subst e4; subst e5
  exact B_MO_hold hC h0 h1 h2 a3 s o h hR
theorem d_NI_may_0 : PLa b_NI_may 0 0 1 := Or.inl ⟨0, by decide +kernel, rfl, rfl⟩
theorem d_NI_may_1 : PLi b_NI_may 1 1 2 := Or.inl ⟨1, by decide +kernel, rfl, rfl⟩
theorem d_NI_may_2 : DR b_NI_may 2 (.invokevirtual 47) 3 5 := ⟨by decide +kernel, rfl⟩
theorem d_NI_may_5 : DJ b_NI_may 5 (.ifCond .eq) 8 31 := ⟨26, by decide +kernel, rfl, by decide⟩
theorem d_NI_may_8 : PLa b_NI_may 8 0 9 := Or.inl ⟨0, by decide +kernel, rfl, rfl⟩
theorem d_NI_may_9 : PLi b_NI_may 9 2 10 := Or.inl ⟨2, by decide +kernel, rfl, rfl⟩
theorem d_NI_may_10 : DR b_NI_may 10 (.invokevirtual 73) 3 13 := ⟨by decide +kernel, rfl⟩
theorem d_NI_may_13 : DJ b_NI_may 13 (.ifCond .eq) 16 31 := ⟨18, by decide +kernel, rfl, by decide⟩
theorem d_NI_may_16 : PLa b_NI_may 16 0 17 := Or.inl ⟨0, by decide +kernel, rfl, rfl⟩
theorem d_NI_may_17 : DR b_NI_may 17 (.getfield 30) 3 20 := ⟨by decide +kernel, rfl⟩
theorem d_NI_may_20 : PLi b_NI_may 20 1 21 := Or.inl ⟨1, by decide +kernel, rfl, rfl⟩
theorem d_NI_may_21 : DR b_NI_may 21 (.invokestatic 65) 3 24 := ⟨by decide +kernel, rfl⟩
theorem d_NI_may_24 : PLi b_NI_may 24 2 25 := Or.inl ⟨2, by decide +kernel, rfl, rfl⟩
theorem d_NI_may_25 : DR b_NI_may 25 (.invokestatic 76) 3 28 := ⟨by decide +kernel, rfl⟩
theorem d_NI_may_28 : DJ b_NI_may 28 (.ifCond .eq) 31 33 := ⟨5, by decide +kernel, rfl, by decide⟩
theorem d_NI_may_31 : PCi b_NI_may 31 0 32 := Or.inl ⟨0, by decide +kernel, by decide, rfl⟩
theorem d_NI_may_32 : DR b_NI_may 32 (.ireturn) 1 33 := ⟨by decide +kernel, rfl⟩
theorem d_NI_may_33 : PLa b_NI_may 33 0 34 := Or.inl ⟨0, by decide +kernel, rfl, rfl⟩
theorem d_NI_may_34 : DR b_NI_may 34 (.getfield 9) 3 37 := ⟨by decide +kernel, rfl⟩
theorem d_NI_may_37 : PLi b_NI_may 37 2 38 := Or.inl ⟨2, by decide +kernel, rfl, rfl⟩
theorem d_NI_may_38 : DR b_NI_may 38 (.invokestatic 65) 3 41 := ⟨by decide +kernel, rfl⟩
theorem d_NI_may_41 : PCi b_NI_may 41 5 42 := Or.inl ⟨5, by decide +kernel, by decide, rfl⟩
theorem d_NI_may_42 : DJ b_NI_may 42 (.if_icmp .eq) 45 60 := ⟨18, by decide +kernel, rfl, by decide⟩
theorem d_NI_may_45 : PLa b_NI_may 45 0 46 := Or.inl ⟨0, by decide +kernel, rfl, rfl⟩
theorem d_NI_may_46 : DR b_NI_may 46 (.getfield 21) 3 49 := ⟨by decide +kernel, rfl⟩
theorem d_NI_may_49 : PLi b_NI_may 49 1 50 := Or.inl ⟨1, by decide +kernel, rfl, rfl⟩
theorem d_NI_may_50 : DR b_NI_may 50 (.invokestatic 65) 3 53 := ⟨by decide +kernel, rfl⟩
theorem d_NI_may_53 : PLi b_NI_may 53 2 54 := Or.inl ⟨2, by decide +kernel, rfl, rfl⟩
theorem d_NI_may_54 : DR b_NI_may 54 (.invokestatic 76) 3 57 := ⟨by decide +kernel, rfl⟩
theorem d_NI_may_57 : DJ b_NI_may 57 (.ifCond .eq) 60 64 := ⟨7, by decide +kernel, rfl, by decide⟩
theorem d_NI_may_60 : PCi b_NI_may 60 1 61 := Or.inl ⟨1, by decide +kernel, by decide, rfl⟩
theorem d_NI_may_61 : DJ b_NI_may 61 .goto 64 65 := ⟨4, by decide +kernel, rfl, by decide⟩
theorem d_NI_may_64 : PCi b_NI_may 64 0 65 := Or.inl ⟨0, by decide +kernel, by decide, rfl⟩
theorem d_NI_may_65 : DR b_NI_may 65 (.ireturn) 1 66 := ⟨by decide +kernel, rfl⟩
set_option maxRecDepth 20000 in
theorem B_NI_may_60 {G : MCx} (hC : C0 G "AccusedChoose$Night" b_NI_may 3 3) {t0 : Nat} (h0 : isNI t0) (s : St) : VO G (RZ G b_NI_may) (F_NI_may_60 t0 s) 60 [] [] s := by
  unfold F_NI_may_60
  refine VO_const hC d_NI_may_60 ?_
  refine VO_goto hC d_NI_may_61 ?_
  exact VO_z1 d_NI_may_65
set_option maxRecDepth 20000 in
theorem B_NI_may {G : MCx} (hC : C0 G "AccusedChoose$Night" b_NI_may 3 3) {t0 : Nat} (h0 : isNI t0) (a1 : Int32) (a2 : Int32) (s : St) : VO G (RZ G b_NI_may) (F_NI_may t0 a1 a2 s) 0 [(0, .ref (gad G t0)), (1, .int a1), (2, .int a2)] [] s := by
  unfold F_NI_may
  refine VO_aload hC d_NI_may_0 0 rfl ?_
  refine VO_iload hC d_NI_may_1 1 rfl ?_
  refine VO_callVI hC [.int a1] [] ml_NI_47 d_NI_may_2 yv_NI_hasPerson (sh_NI h0) rfl rfl (fun o h => M_NI_hasPerson hC.inj h0 h) (by decide) rfl rfl (Nat.le_of_ble_eq_true rfl) (fun o1 => ?_)
  refine VO_if_eq hC d_NI_may_5 (fun _ => ?_) (fun _ => ?_)
  · refine VO_const hC d_NI_may_31 ?_
    exact VO_z0 d_NI_may_32
  · refine VO_aload hC d_NI_may_8 0 rfl ?_
    refine VO_iload hC d_NI_may_9 2 rfl ?_
    refine VO_callVI hC [.int a2] [] ml_NI_73 d_NI_may_10 yv_NI_hasDeed (sh_NI h0) rfl rfl (fun o h => M_NI_hasDeed hC.inj h0 h) (by decide) rfl rfl (Nat.le_of_ble_eq_true rfl) (fun o2 => ?_)
    refine VO_if_eq hC d_NI_may_13 (fun _ => ?_) (fun _ => ?_)
    · refine VO_const hC d_NI_may_31 ?_
      exact VO_z0 d_NI_may_32
    · refine VO_aload hC d_NI_may_16 0 rfl ?_
      refine VO_getr (r := (t0 + 7)) hC fl_NI_30 (sh_NI h0) rfl d_NI_may_17 ?_
      refine VO_iload hC d_NI_may_20 1 rfl ?_
      refine VO_callNI hC [.ref (gad G (t0 + 7)), .int a1] [] nl_NI_65 d_NI_may_21 ys_AC_at (fun o h => M_AC_at hC.inj (ia_NI7 h0) h) (by decide) rfl rfl (Nat.le_of_ble_eq_true rfl) (fun o3 => ?_)
      refine VO_iload hC d_NI_may_24 2 rfl ?_
      refine VO_callNI hC [.int o3.1, .int a2] [] nl_NI_76 d_NI_may_25 ys_AC_has (fun o h => M_AC_has hC.inj h) (by decide) rfl rfl (Nat.le_of_ble_eq_true rfl) (fun o4 => ?_)
      refine VO_if_eq hC d_NI_may_28 (fun _ => ?_) (fun _ => ?_)
      · refine VO_aload hC d_NI_may_33 0 rfl ?_
        refine VO_getr (r := (t0 + 1)) hC fl_NI_9 (sh_NI h0) rfl d_NI_may_34 ?_
        refine VO_iload hC d_NI_may_37 2 rfl ?_
        refine VO_callNI hC [.ref (gad G (t0 + 1)), .int a2] [] nl_NI_65 d_NI_may_38 ys_AC_at (fun o h => M_AC_at hC.inj (ia_NI1 h0) h) (by decide) rfl rfl (Nat.le_of_ble_eq_true rfl) (fun o5 => ?_)
        refine VO_const hC d_NI_may_41 ?_
        refine VO_icmp_eq hC d_NI_may_42 (fun _ => ?_) (fun _ => ?_)
        · exact VO_sub [] rfl (B_NI_may_60 hC h0 o5.2)
        · refine VO_aload hC d_NI_may_45 0 rfl ?_
          refine VO_getr (r := (t0 + 4)) hC fl_NI_21 (sh_NI h0) rfl d_NI_may_46 ?_
          refine VO_iload hC d_NI_may_49 1 rfl ?_
          refine VO_callNI hC [.ref (gad G (t0 + 4)), .int a1] [] nl_NI_65 d_NI_may_50 ys_AC_at (fun o h => M_AC_at hC.inj (ia_NI4 h0) h) (by decide) rfl rfl (Nat.le_of_ble_eq_true rfl) (fun o6 => ?_)
          refine VO_iload hC d_NI_may_53 2 rfl ?_
          refine VO_callNI hC [.int o6.1, .int a2] [] nl_NI_76 d_NI_may_54 ys_AC_has (fun o h => M_AC_has hC.inj h) (by decide) rfl rfl (Nat.le_of_ble_eq_true rfl) (fun o7 => ?_)
          refine VO_if_eq hC d_NI_may_57 (fun _ => ?_) (fun _ => ?_)
          · refine VO_const hC d_NI_may_64 ?_
            exact VO_z0 d_NI_may_65
          · exact VO_sub [] rfl (B_NI_may_60 hC h0 o7.2)
      · refine VO_const hC d_NI_may_31 ?_
        exact VO_z0 d_NI_may_32
set_option maxRecDepth 20000 in
theorem M_NI_may {l : Launch} {D : va_G} {ad : Nat → Nat} {cI cL : ClassId} (hj : Inj ad) {t0 : Nat} (h0 : isNI t0) {a1 : Int32} {a2 : Int32} {s : St} {o : Int32 × St} (h : F_NI_may t0 a1 a2 s = some o) : Cn l D ad cI cL y_NI_may b_NI_may 3 (some .boolean) 3 [.ref (ad t0), .int a1, .int a2] s (some (.int o.1)) o.2 := by
  refine Cn_ofZ hj (plainFor_of_name (by decide)) (Nat.le_of_ble_eq_true rfl) [(0, .ref (ad t0)), (1, .int a1), (2, .int a2)] rfl (fun G hC e1 e2 e3 e4 e5 hR => ?_)
  subst e1; subst e2; subst e3; subst e4; subst e5
  exact B_NI_may hC h0 a1 a2 s o h hR
theorem d_MO_holdTrue_0 : PLa b_MO_holdTrue 0 0 1 := Or.inl ⟨0, by decide +kernel, rfl, rfl⟩
theorem d_MO_holdTrue_1 : PLa b_MO_holdTrue 1 1 2 := Or.inl ⟨1, by decide +kernel, rfl, rfl⟩
theorem d_MO_holdTrue_2 : DR b_MO_holdTrue 2 (.getfield 18) 3 5 := ⟨by decide +kernel, rfl⟩
theorem d_MO_holdTrue_5 : PLa b_MO_holdTrue 5 2 6 := Or.inl ⟨2, by decide +kernel, rfl, rfl⟩
theorem d_MO_holdTrue_6 : DR b_MO_holdTrue 6 (.invokevirtual 44) 3 9 := ⟨by decide +kernel, rfl⟩
theorem d_MO_holdTrue_9 : DR b_MO_holdTrue 9 (.invokevirtual 24) 3 12 := ⟨by decide +kernel, rfl⟩
theorem d_MO_holdTrue_12 : PCi b_MO_holdTrue 12 0 13 := Or.inl ⟨0, by decide +kernel, by decide, rfl⟩
theorem d_MO_holdTrue_13 : PSi b_MO_holdTrue 13 3 14 := Or.inl ⟨3, by decide +kernel, rfl, rfl⟩
theorem d_MO_holdTrue_14 : PLi b_MO_holdTrue 14 3 15 := Or.inl ⟨3, by decide +kernel, rfl, rfl⟩
theorem d_MO_holdTrue_15 : PLa b_MO_holdTrue 15 0 16 := Or.inl ⟨0, by decide +kernel, rfl, rfl⟩
theorem d_MO_holdTrue_16 : DR b_MO_holdTrue 16 (.getfield 28) 3 19 := ⟨by decide +kernel, rfl⟩
theorem d_MO_holdTrue_19 : DJ b_MO_holdTrue 19 (.if_icmp .ge) 22 106 := ⟨87, by decide +kernel, rfl, by decide⟩
theorem d_MO_holdTrue_22 : PLa b_MO_holdTrue 22 2 23 := Or.inl ⟨2, by decide +kernel, rfl, rfl⟩
theorem d_MO_holdTrue_23 : DR b_MO_holdTrue 23 (.getfield 50) 3 26 := ⟨by decide +kernel, rfl⟩
theorem d_MO_holdTrue_26 : PLi b_MO_holdTrue 26 3 27 := Or.inl ⟨3, by decide +kernel, rfl, rfl⟩
theorem d_MO_holdTrue_27 : DR b_MO_holdTrue 27 (.invokestatic 29) 3 30 := ⟨by decide +kernel, rfl⟩
theorem d_MO_holdTrue_30 : PSi b_MO_holdTrue 30 4 32 := Or.inr ⟨by decide +kernel, rfl⟩
theorem d_MO_holdTrue_32 : PLa b_MO_holdTrue 32 2 33 := Or.inl ⟨2, by decide +kernel, rfl, rfl⟩
theorem d_MO_holdTrue_33 : DR b_MO_holdTrue 33 (.getfield 53) 3 36 := ⟨by decide +kernel, rfl⟩
theorem d_MO_holdTrue_36 : PLi b_MO_holdTrue 36 4 38 := Or.inr ⟨by decide +kernel, rfl⟩
theorem d_MO_holdTrue_38 : DR b_MO_holdTrue 38 (.invokestatic 29) 3 41 := ⟨by decide +kernel, rfl⟩
theorem d_MO_holdTrue_41 : PSi b_MO_holdTrue 41 5 43 := Or.inr ⟨by decide +kernel, rfl⟩
theorem d_MO_holdTrue_43 : PLa b_MO_holdTrue 43 0 44 := Or.inl ⟨0, by decide +kernel, rfl, rfl⟩
theorem d_MO_holdTrue_44 : DR b_MO_holdTrue 44 (.getfield 33) 3 47 := ⟨by decide +kernel, rfl⟩
theorem d_MO_holdTrue_47 : PLi b_MO_holdTrue 47 5 49 := Or.inr ⟨by decide +kernel, rfl⟩
theorem d_MO_holdTrue_49 : DR b_MO_holdTrue 49 (.invokestatic 56) 3 52 := ⟨by decide +kernel, rfl⟩
theorem d_MO_holdTrue_52 : DJ b_MO_holdTrue 52 (.ifCond .eq) 55 70 := ⟨18, by decide +kernel, rfl, by decide⟩
theorem d_MO_holdTrue_55 : PLa b_MO_holdTrue 55 2 56 := Or.inl ⟨2, by decide +kernel, rfl, rfl⟩
theorem d_MO_holdTrue_56 : PLi b_MO_holdTrue 56 4 58 := Or.inr ⟨by decide +kernel, rfl⟩
theorem d_MO_holdTrue_58 : PLi b_MO_holdTrue 58 5 60 := Or.inr ⟨by decide +kernel, rfl⟩
theorem d_MO_holdTrue_60 : DR b_MO_holdTrue 60 (.invokevirtual 60) 3 63 := ⟨by decide +kernel, rfl⟩
theorem d_MO_holdTrue_63 : DJ b_MO_holdTrue 63 (.ifCond .eq) 66 70 := ⟨7, by decide +kernel, rfl, by decide⟩
theorem d_MO_holdTrue_66 : PCi b_MO_holdTrue 66 1 67 := Or.inl ⟨1, by decide +kernel, by decide, rfl⟩
theorem d_MO_holdTrue_67 : DJ b_MO_holdTrue 67 .goto 70 71 := ⟨4, by decide +kernel, rfl, by decide⟩
theorem d_MO_holdTrue_70 : PCi b_MO_holdTrue 70 0 71 := Or.inl ⟨0, by decide +kernel, by decide, rfl⟩
theorem d_MO_holdTrue_71 : PSi b_MO_holdTrue 71 6 73 := Or.inr ⟨by decide +kernel, rfl⟩
theorem d_MO_holdTrue_73 : PLa b_MO_holdTrue 73 0 74 := Or.inl ⟨0, by decide +kernel, rfl, rfl⟩
theorem d_MO_holdTrue_74 : PLa b_MO_holdTrue 74 1 75 := Or.inl ⟨1, by decide +kernel, rfl, rfl⟩
theorem d_MO_holdTrue_75 : PLi b_MO_holdTrue 75 4 77 := Or.inr ⟨by decide +kernel, rfl⟩
theorem d_MO_holdTrue_77 : PLi b_MO_holdTrue 77 6 79 := Or.inr ⟨by decide +kernel, rfl⟩
theorem d_MO_holdTrue_79 : DJ b_MO_holdTrue 79 (.ifCond .eq) 82 87 := ⟨8, by decide +kernel, rfl, by decide⟩
theorem d_MO_holdTrue_82 : PLi b_MO_holdTrue 82 5 84 := Or.inr ⟨by decide +kernel, rfl⟩
theorem d_MO_holdTrue_84 : DJ b_MO_holdTrue 84 .goto 87 97 := ⟨13, by decide +kernel, rfl, by decide⟩
theorem d_MO_holdTrue_87 : PLa b_MO_holdTrue 87 1 88 := Or.inl ⟨1, by decide +kernel, rfl, rfl⟩
theorem d_MO_holdTrue_88 : PLi b_MO_holdTrue 88 4 90 := Or.inr ⟨by decide +kernel, rfl⟩
theorem d_MO_holdTrue_90 : PLa b_MO_holdTrue 90 0 91 := Or.inl ⟨0, by decide +kernel, rfl, rfl⟩
theorem d_MO_holdTrue_91 : DR b_MO_holdTrue 91 (.getfield 33) 3 94 := ⟨by decide +kernel, rfl⟩
theorem d_MO_holdTrue_94 : DR b_MO_holdTrue 94 (.invokevirtual 36) 3 97 := ⟨by decide +kernel, rfl⟩
theorem d_MO_holdTrue_97 : DR b_MO_holdTrue 97 (.invokevirtual 40) 3 100 := ⟨by decide +kernel, rfl⟩
theorem d_MO_holdTrue_100 : DR b_MO_holdTrue 100 (.iinc 3 1) 3 103 := ⟨by decide +kernel, rfl⟩
theorem d_MO_holdTrue_103 : DJ b_MO_holdTrue 103 .goto 106 14 := ⟨-89, by decide +kernel, rfl, by decide⟩
theorem d_MO_holdTrue_106 : DR b_MO_holdTrue 106 (.return_) 1 107 := ⟨by decide +kernel, rfl⟩
set_option maxRecDepth 20000 in
theorem B_MO_holdTrue_97 {G : MCx} (hC : C0 G "AccusedChoose$Morning" b_MO_holdTrue 7 4) {t0 : Nat} (h0 : isMO t0) {t1 : Nat} (h1 : isPR t1) {t2 : Nat} (h2 : isNI t2) (K14 : Int32 × St → Option (St)) (hK14 : ∀ (w3 : Int32) (s : St), VO G (RV G b_MO_holdTrue) (K14 (w3, s)) 14 [(0, .ref (gad G t0)), (1, .ref (gad G t1)), (2, .ref (gad G t2)), (3, .int w3)] [] s) (v3 : Int32) (z0 : Int32) (z1 : Int32) (s : St) : VO G (RV G b_MO_holdTrue) (F_MO_holdTrue_97 t0 t1 t2 K14 v3 z0 z1 s) 97 [(0, .ref (gad G t0)), (1, .ref (gad G t1)), (2, .ref (gad G t2)), (3, .int v3)] [.int z0, .int z1, .ref (gad G t1), .ref (gad G t0)] s := by
  unfold F_MO_holdTrue_97
  refine VO_callVV hC [.ref (gad G t1), .int z1, .int z0] [] ml_MO_40 d_MO_holdTrue_97 yv_MO_seat (sh_MO h0) rfl rfl (fun o h => M_MO_seat hC.inj h0 h1 h) (by decide) rfl rfl (Nat.le_of_ble_eq_true rfl) (fun s7 => ?_)
  refine VO_iinc hC d_MO_holdTrue_100 3 rfl (by decide : Int32.ofInt 1 = 1) [(0, .ref (gad G t0)), (1, .ref (gad G t1)), (2, .ref (gad G t2))] rfl (by decide) ?_
  refine VO_goto hC d_MO_holdTrue_103 ?_
  exact VO_sub [1, 2, 3, 0] rfl (hK14 (v3 + 1) s7)
set_option maxRecDepth 20000 in
theorem B_MO_holdTrue_71 {G : MCx} (hC : C0 G "AccusedChoose$Morning" b_MO_holdTrue 7 4) {t0 : Nat} (h0 : isMO t0) {t1 : Nat} (h1 : isPR t1) {t2 : Nat} (h2 : isNI t2) (K14 : Int32 × St → Option (St)) (hK14 : ∀ (w3 : Int32) (s : St), VO G (RV G b_MO_holdTrue) (K14 (w3, s)) 14 [(0, .ref (gad G t0)), (1, .ref (gad G t1)), (2, .ref (gad G t2)), (3, .int w3)] [] s) (v3 : Int32) (v4 : Int32) (v5 : Int32) (z0 : Int32) (s : St) : VO G (RV G b_MO_holdTrue) (F_MO_holdTrue_71 t0 t1 t2 K14 v3 v4 v5 z0 s) 71 [(0, .ref (gad G t0)), (1, .ref (gad G t1)), (2, .ref (gad G t2)), (3, .int v3), (4, .int v4), (5, .int v5)] [.int z0] s := by
  unfold F_MO_holdTrue_71
  refine VO_istore hC d_MO_holdTrue_71 [(0, .ref (gad G t0)), (1, .ref (gad G t1)), (2, .ref (gad G t2)), (3, .int v3), (4, .int v4), (5, .int v5)] rfl (by decide) ?_
  refine VO_aload hC d_MO_holdTrue_73 1 rfl ?_
  refine VO_aload hC d_MO_holdTrue_74 2 rfl ?_
  refine VO_iload hC d_MO_holdTrue_75 5 rfl ?_
  refine VO_iload hC d_MO_holdTrue_77 0 rfl ?_
  refine VO_if_eq hC d_MO_holdTrue_79 (fun _ => ?_) (fun _ => ?_)
  · refine VO_aload hC d_MO_holdTrue_87 2 rfl ?_
    refine VO_iload hC d_MO_holdTrue_88 5 rfl ?_
    refine VO_aload hC d_MO_holdTrue_90 1 rfl ?_
    refine VO_geti hC fl_MO_33 (sh_MO h0) rfl d_MO_holdTrue_91 ?_
    refine VO_callVI hC [.int v4, .int (rd s t0 3)] [.int v4, .ref (gad G t1), .ref (gad G t0)] ml_MO_36 d_MO_holdTrue_94 yv_PR_lightest (sh_PR h1) rfl rfl (fun o h => M_PR_lightest hC.inj h1 h) (by decide) rfl rfl (Nat.le_of_ble_eq_true rfl) (fun o6 => ?_)
    exact VO_sub [1, 2, 3, 4] rfl (B_MO_holdTrue_97 hC h0 h1 h2 K14 hK14 v3 o6.1 v4 o6.2)
  · refine VO_iload hC d_MO_holdTrue_82 6 rfl ?_
    refine VO_goto hC d_MO_holdTrue_84 ?_
    exact VO_sub [1, 2, 3, 4] rfl (B_MO_holdTrue_97 hC h0 h1 h2 K14 hK14 v3 v5 v4 s)
set_option maxRecDepth 20000 in
theorem B_MO_holdTrue_70 {G : MCx} (hC : C0 G "AccusedChoose$Morning" b_MO_holdTrue 7 4) {t0 : Nat} (h0 : isMO t0) {t1 : Nat} (h1 : isPR t1) {t2 : Nat} (h2 : isNI t2) (K14 : Int32 × St → Option (St)) (hK14 : ∀ (w3 : Int32) (s : St), VO G (RV G b_MO_holdTrue) (K14 (w3, s)) 14 [(0, .ref (gad G t0)), (1, .ref (gad G t1)), (2, .ref (gad G t2)), (3, .int w3)] [] s) (v3 : Int32) (v4 : Int32) (v5 : Int32) (s : St) : VO G (RV G b_MO_holdTrue) (F_MO_holdTrue_70 t0 t1 t2 K14 v3 v4 v5 s) 70 [(0, .ref (gad G t0)), (1, .ref (gad G t1)), (2, .ref (gad G t2)), (3, .int v3), (4, .int v4), (5, .int v5)] [] s := by
  unfold F_MO_holdTrue_70
  refine VO_const hC d_MO_holdTrue_70 ?_
  exact (B_MO_holdTrue_71 hC h0 h1 h2 K14 hK14 v3 v4 v5 (0 : Int32) s)
set_option maxRecDepth 20000 in
theorem BH_MO_holdTrue_14 {G : MCx} (hC : C0 G "AccusedChoose$Morning" b_MO_holdTrue 7 4) {t0 : Nat} (h0 : isMO t0) {t1 : Nat} (h1 : isPR t1) {t2 : Nat} (h2 : isNI t2) (K14 : Int32 × St → Option (St)) (hK14 : ∀ (w3 : Int32) (s : St), VO G (RV G b_MO_holdTrue) (K14 (w3, s)) 14 [(0, .ref (gad G t0)), (1, .ref (gad G t1)), (2, .ref (gad G t2)), (3, .int w3)] [] s) (v3 : Int32) (s : St) : VO G (RV G b_MO_holdTrue) (H_MO_holdTrue_14 t0 t1 t2 K14 v3 s) 14 [(0, .ref (gad G t0)), (1, .ref (gad G t1)), (2, .ref (gad G t2)), (3, .int v3)] [] s := by
  unfold H_MO_holdTrue_14
  refine VO_iload hC d_MO_holdTrue_14 3 rfl ?_
  refine VO_aload hC d_MO_holdTrue_15 0 rfl ?_
  refine VO_geti hC fl_MO_28 (sh_MO h0) rfl d_MO_holdTrue_16 ?_
  refine VO_icmp_ge hC d_MO_holdTrue_19 (fun _ => ?_) (fun _ => ?_)
  · exact VO_return d_MO_holdTrue_106
  · refine VO_aload hC d_MO_holdTrue_22 2 rfl ?_
    refine VO_getr (r := (t2 + 8)) hC fl_MO_50 (sh_NI h2) rfl d_MO_holdTrue_23 ?_
    refine VO_iload hC d_MO_holdTrue_26 3 rfl ?_
    refine VO_callNI hC [.ref (gad G (t2 + 8)), .int v3] [] nl_MO_29 d_MO_holdTrue_27 ys_AC_at (fun o h => M_AC_at hC.inj (ia_NI8 h2) h) (by decide) rfl rfl (Nat.le_of_ble_eq_true rfl) (fun o3 => ?_)
    refine VO_istore hC d_MO_holdTrue_30 [(0, .ref (gad G t0)), (1, .ref (gad G t1)), (2, .ref (gad G t2)), (3, .int v3)] rfl (by decide) ?_
    refine VO_aload hC d_MO_holdTrue_32 3 rfl ?_
    refine VO_getr (r := (t2 + 5)) hC fl_MO_53 (sh_NI h2) rfl d_MO_holdTrue_33 ?_
    refine VO_iload hC d_MO_holdTrue_36 0 rfl ?_
    refine VO_callNI hC [.ref (gad G (t2 + 5)), .int o3.1] [] nl_MO_29 d_MO_holdTrue_38 ys_AC_at (fun o h => M_AC_at hC.inj (ia_NI5 h2) h) (by decide) rfl rfl (Nat.le_of_ble_eq_true rfl) (fun o4 => ?_)
    refine VO_istore hC d_MO_holdTrue_41 [(4, .int o3.1), (0, .ref (gad G t0)), (1, .ref (gad G t1)), (2, .ref (gad G t2)), (3, .int v3)] rfl (by decide) ?_
    refine VO_aload hC d_MO_holdTrue_43 2 rfl ?_
    refine VO_geti hC fl_MO_33 (sh_MO h0) rfl d_MO_holdTrue_44 ?_
    refine VO_iload hC d_MO_holdTrue_47 0 rfl ?_
    refine VO_callNI hC [.int (rd o4.2 t0 3), .int o4.1] [] nl_MO_56 d_MO_holdTrue_49 ys_AC_has (fun o h => M_AC_has hC.inj h) (by decide) rfl rfl (Nat.le_of_ble_eq_true rfl) (fun o5 => ?_)
    refine VO_if_eq hC d_MO_holdTrue_52 (fun _ => ?_) (fun _ => ?_)
    · exact VO_sub [2, 3, 4, 5, 1, 0] rfl (B_MO_holdTrue_70 hC h0 h1 h2 K14 hK14 v3 o3.1 o4.1 o5.2)
    · refine VO_aload hC d_MO_holdTrue_55 4 rfl ?_
      refine VO_iload hC d_MO_holdTrue_56 1 rfl ?_
      refine VO_iload hC d_MO_holdTrue_58 0 rfl ?_
      refine VO_callVI hC [.int o3.1, .int o4.1] [] ml_MO_60 d_MO_holdTrue_60 yv_NI_may (sh_NI h2) rfl rfl (fun o h => M_NI_may hC.inj h2 h) (by decide) rfl rfl (Nat.le_of_ble_eq_true rfl) (fun o8 => ?_)
      refine VO_if_eq hC d_MO_holdTrue_63 (fun _ => ?_) (fun _ => ?_)
      · exact VO_sub [2, 3, 4, 5, 1, 0] rfl (B_MO_holdTrue_70 hC h0 h1 h2 K14 hK14 v3 o3.1 o4.1 o8.2)
      · refine VO_const hC d_MO_holdTrue_66 ?_
        refine VO_goto hC d_MO_holdTrue_67 ?_
        exact VO_sub [2, 3, 4, 5, 1, 0] rfl (B_MO_holdTrue_71 hC h0 h1 h2 K14 hK14 v3 o3.1 o4.1 (1 : Int32) o8.2)
set_option maxRecDepth 20000 in
theorem B_MO_holdTrue_14 {G : MCx} (hC : C0 G "AccusedChoose$Morning" b_MO_holdTrue 7 4) {t0 : Nat} (h0 : isMO t0) {t1 : Nat} (h1 : isPR t1) {t2 : Nat} (h2 : isNI t2) (v3 : Int32) (s : St) : VO G (RV G b_MO_holdTrue) (F_MO_holdTrue_14 t0 t1 t2 v3 s) 14 [(0, .ref (gad G t0)), (1, .ref (gad G t1)), (2, .ref (gad G t2)), (3, .int v3)] [] s := by
  exact VO_fix (G_MO_holdTrue_14 t0 t1 t2) 14 (fun q => [(0, .ref (gad G t0)), (1, .ref (gad G t1)), (2, .ref (gad G t2)), (3, .int q.1)]) (fun q => q.2) (fun K hK q => BH_MO_holdTrue_14 hC h0 h1 h2 K (fun w3 s => hK (w3, s)) q.1 q.2) FUEL (v3, s)
set_option maxRecDepth 20000 in
theorem B_MO_holdTrue {G : MCx} (hC : C0 G "AccusedChoose$Morning" b_MO_holdTrue 7 4) {t0 : Nat} (h0 : isMO t0) {t1 : Nat} (h1 : isPR t1) {t2 : Nat} (h2 : isNI t2) (s : St) : VO G (RV G b_MO_holdTrue) (F_MO_holdTrue t0 t1 t2 s) 0 [(0, .ref (gad G t0)), (1, .ref (gad G t1)), (2, .ref (gad G t2))] [] s := by
  unfold F_MO_holdTrue
  refine VO_aload hC d_MO_holdTrue_0 0 rfl ?_
  refine VO_aload hC d_MO_holdTrue_1 1 rfl ?_
  refine VO_geti hC fl_MO_18 (sh_PR h1) rfl d_MO_holdTrue_2 ?_
  refine VO_aload hC d_MO_holdTrue_5 2 rfl ?_
  refine VO_callVI hC [] [.int (rd s t1 0), .ref (gad G t0)] ml_MO_44 d_MO_holdTrue_6 yv_NI_allDeeds (sh_NI h2) rfl rfl (fun o h => M_NI_allDeeds hC.inj h2 h) (by decide) rfl rfl (Nat.le_of_ble_eq_true rfl) (fun o1 => ?_)
  refine VO_callVV hC [.int (rd s t1 0), .int o1.1] [] ml_MO_24 d_MO_holdTrue_9 yv_MO_begin (sh_MO h0) rfl rfl (fun o h => M_MO_begin hC.inj h0 h) (by decide) rfl rfl (Nat.le_of_ble_eq_true rfl) (fun s2 => ?_)
  refine VO_const hC d_MO_holdTrue_12 ?_
  refine VO_istore hC d_MO_holdTrue_13 [(0, .ref (gad G t0)), (1, .ref (gad G t1)), (2, .ref (gad G t2))] rfl (by decide) ?_
  exact VO_sub [1, 2, 3, 0] rfl (B_MO_holdTrue_14 hC h0 h1 h2 (0 : Int32) s2)
set_option maxRecDepth 20000 in
theorem M_MO_holdTrue {l : Launch} {D : va_G} {ad : Nat → Nat} {cI cL : ClassId} (hj : Inj ad) {t0 : Nat} (h0 : isMO t0) {t1 : Nat} (h1 : isPR t1) {t2 : Nat} (h2 : isNI t2) {s : St} {o : St} (h : F_MO_holdTrue t0 t1 t2 s = some o) : Cn l D ad cI cL y_MO_holdTrue b_MO_holdTrue 7 none 4 [.ref (ad t0), .ref (ad t1), .ref (ad t2)] s none o := by
  refine Cn_ofV hj (plainFor_of_name (by decide)) (Nat.le_of_ble_eq_true rfl) [(0, .ref (ad t0)), (1, .ref (ad t1)), (2, .ref (ad t2))] rfl (fun G hC e1 e2 e3 e4 e5 hR => ?_)
  subst e1; subst e2; subst e3; subst e4; subst e5
  exact B_MO_holdTrue hC h0 h1 h2 s o h hR
theorem d_MA_max_0 : PLi b_MA_max 0 0 1 := Or.inl ⟨0, by decide +kernel, rfl, rfl⟩
theorem d_MA_max_1 : PLi b_MA_max 1 1 2 := Or.inl ⟨1, by decide +kernel, rfl, rfl⟩
theorem d_MA_max_2 : DJ b_MA_max 2 (.if_icmp .lt) 5 9 := ⟨7, by decide +kernel, rfl, by decide⟩
theorem d_MA_max_5 : PLi b_MA_max 5 0 6 := Or.inl ⟨0, by decide +kernel, rfl, rfl⟩
theorem d_MA_max_6 : DJ b_MA_max 6 .goto 9 10 := ⟨4, by decide +kernel, rfl, by decide⟩
theorem d_MA_max_9 : PLi b_MA_max 9 1 10 := Or.inl ⟨1, by decide +kernel, rfl, rfl⟩
theorem d_MA_max_10 : DR b_MA_max 10 (.ireturn) 1 11 := ⟨by decide +kernel, rfl⟩
set_option maxRecDepth 20000 in
theorem B_MA_max {G : MCx} (hC : C0 G "java/lang/Math" b_MA_max 2 1) (a0 : Int32) (a1 : Int32) (s : St) : VO G (RI G b_MA_max) (F_MA_max a0 a1 s) 0 [(0, .int a0), (1, .int a1)] [] s := by
  unfold F_MA_max
  refine VO_iload hC d_MA_max_0 0 rfl ?_
  refine VO_iload hC d_MA_max_1 1 rfl ?_
  refine VO_icmp_lt hC d_MA_max_2 (fun _ => ?_) (fun _ => ?_)
  · refine VO_iload hC d_MA_max_9 1 rfl ?_
    exact VO_ireturn d_MA_max_10
  · refine VO_iload hC d_MA_max_5 0 rfl ?_
    refine VO_goto hC d_MA_max_6 ?_
    exact VO_ireturn d_MA_max_10
set_option maxRecDepth 20000 in
theorem M_MA_max {l : Launch} {D : va_G} {ad : Nat → Nat} {cI cL : ClassId} (hj : Inj ad) {a0 : Int32} {a1 : Int32} {s : St} {o : Int32 × St} (h : F_MA_max a0 a1 s = some o) : Cn l D ad cI cL y_MA_max b_MA_max 2 (some .int) 1 [.int a0, .int a1] s (some (.int o.1)) o.2 := by
  refine Cn_ofI hj (by decide +kernel) (Nat.le_of_ble_eq_true rfl) [(0, .int a0), (1, .int a1)] rfl (fun G hC e1 e2 e3 e4 e5 hR => ?_)
  subst e1; subst e2; subst e3; subst e4; subst e5
  exact B_MA_max hC a0 a1 s o h hR
theorem d_MO_most_0 : PCi b_MO_most 0 0 1 := Or.inl ⟨0, by decide +kernel, by decide, rfl⟩
theorem d_MO_most_1 : PSi b_MO_most 1 1 2 := Or.inl ⟨1, by decide +kernel, rfl, rfl⟩
theorem d_MO_most_2 : PCi b_MO_most 2 0 3 := Or.inl ⟨0, by decide +kernel, by decide, rfl⟩
theorem d_MO_most_3 : PSi b_MO_most 3 2 4 := Or.inl ⟨2, by decide +kernel, rfl, rfl⟩
theorem d_MO_most_4 : PLi b_MO_most 4 2 5 := Or.inl ⟨2, by decide +kernel, rfl, rfl⟩
theorem d_MO_most_5 : PLa b_MO_most 5 0 6 := Or.inl ⟨0, by decide +kernel, rfl, rfl⟩
theorem d_MO_most_6 : DR b_MO_most 6 (.getfield 28) 3 9 := ⟨by decide +kernel, rfl⟩
theorem d_MO_most_9 : DJ b_MO_most 9 (.if_icmp .ge) 12 31 := ⟨22, by decide +kernel, rfl, by decide⟩
theorem d_MO_most_12 : PLi b_MO_most 12 1 13 := Or.inl ⟨1, by decide +kernel, rfl, rfl⟩
theorem d_MO_most_13 : PLa b_MO_most 13 0 14 := Or.inl ⟨0, by decide +kernel, rfl, rfl⟩
theorem d_MO_most_14 : DR b_MO_most 14 (.getfield 15) 3 17 := ⟨by decide +kernel, rfl⟩
theorem d_MO_most_17 : PLi b_MO_most 17 2 18 := Or.inl ⟨2, by decide +kernel, rfl, rfl⟩
theorem d_MO_most_18 : DR b_MO_most 18 (.invokestatic 29) 3 21 := ⟨by decide +kernel, rfl⟩
theorem d_MO_most_21 : DR b_MO_most 21 (.invokestatic 80) 3 24 := ⟨by decide +kernel, rfl⟩
theorem d_MO_most_24 : PSi b_MO_most 24 1 25 := Or.inl ⟨1, by decide +kernel, rfl, rfl⟩
theorem d_MO_most_25 : DR b_MO_most 25 (.iinc 2 1) 3 28 := ⟨by decide +kernel, rfl⟩
theorem d_MO_most_28 : DJ b_MO_most 28 .goto 31 4 := ⟨-24, by decide +kernel, rfl, by decide⟩
theorem d_MO_most_31 : PLi b_MO_most 31 1 32 := Or.inl ⟨1, by decide +kernel, rfl, rfl⟩
theorem d_MO_most_32 : DR b_MO_most 32 (.ireturn) 1 33 := ⟨by decide +kernel, rfl⟩
set_option maxRecDepth 20000 in
theorem BH_MO_most_4 {G : MCx} (hC : C0 G "AccusedChoose$Morning" b_MO_most 3 2) {t0 : Nat} (h0 : isMO t0) (K4 : Int32 × Int32 × St → Option (Int32 × St)) (hK4 : ∀ (w1 : Int32) (w2 : Int32) (s : St), VO G (RI G b_MO_most) (K4 (w1, w2, s)) 4 [(0, .ref (gad G t0)), (1, .int w1), (2, .int w2)] [] s) (v1 : Int32) (v2 : Int32) (s : St) : VO G (RI G b_MO_most) (H_MO_most_4 t0 K4 v1 v2 s) 4 [(0, .ref (gad G t0)), (1, .int v1), (2, .int v2)] [] s := by
  unfold H_MO_most_4
  refine VO_iload hC d_MO_most_4 2 rfl ?_
  refine VO_aload hC d_MO_most_5 0 rfl ?_
  refine VO_geti hC fl_MO_28 (sh_MO h0) rfl d_MO_most_6 ?_
  refine VO_icmp_ge hC d_MO_most_9 (fun _ => ?_) (fun _ => ?_)
  · refine VO_iload hC d_MO_most_31 1 rfl ?_
    exact VO_ireturn d_MO_most_32
  · refine VO_iload hC d_MO_most_12 1 rfl ?_
    refine VO_aload hC d_MO_most_13 0 rfl ?_
    refine VO_getr (r := (t0 + 2)) hC fl_MO_15 (sh_MO h0) rfl d_MO_most_14 ?_
    refine VO_iload hC d_MO_most_17 2 rfl ?_
    refine VO_callNI hC [.ref (gad G (t0 + 2)), .int v2] [.int v1] nl_MO_29 d_MO_most_18 ys_AC_at (fun o h => M_AC_at hC.inj (ia_MO2 h0) h) (by decide) rfl rfl (Nat.le_of_ble_eq_true rfl) (fun o1 => ?_)
    refine VO_callSI hC [.int v1, .int o1.1] [] ml_MO_80 d_MO_most_21 ys_MA_max (fun o h => M_MA_max hC.inj h) (by decide) rfl rfl (Nat.le_of_ble_eq_true rfl) (fun o2 => ?_)
    refine VO_istore hC d_MO_most_24 [(0, .ref (gad G t0)), (2, .int v2)] rfl (by decide) ?_
    refine VO_iinc hC d_MO_most_25 2 rfl (by decide : Int32.ofInt 1 = 1) [(1, .int o2.1), (0, .ref (gad G t0))] rfl (by decide) ?_
    refine VO_goto hC d_MO_most_28 ?_
    exact VO_sub [2, 1, 0] rfl (hK4 o2.1 (v2 + 1) o2.2)
set_option maxRecDepth 20000 in
theorem B_MO_most_4 {G : MCx} (hC : C0 G "AccusedChoose$Morning" b_MO_most 3 2) {t0 : Nat} (h0 : isMO t0) (v1 : Int32) (v2 : Int32) (s : St) : VO G (RI G b_MO_most) (F_MO_most_4 t0 v1 v2 s) 4 [(0, .ref (gad G t0)), (1, .int v1), (2, .int v2)] [] s := by
  exact VO_fix (G_MO_most_4 t0) 4 (fun q => [(0, .ref (gad G t0)), (1, .int q.1), (2, .int q.2.1)]) (fun q => q.2.2) (fun K hK q => BH_MO_most_4 hC h0 K (fun w1 w2 s => hK (w1, w2, s)) q.1 q.2.1 q.2.2) FUEL (v1, v2, s)
set_option maxRecDepth 20000 in
theorem B_MO_most {G : MCx} (hC : C0 G "AccusedChoose$Morning" b_MO_most 3 2) {t0 : Nat} (h0 : isMO t0) (s : St) : VO G (RI G b_MO_most) (F_MO_most t0 s) 0 [(0, .ref (gad G t0))] [] s := by
  unfold F_MO_most
  refine VO_const hC d_MO_most_0 ?_
  refine VO_istore hC d_MO_most_1 [(0, .ref (gad G t0))] rfl (by decide) ?_
  refine VO_const hC d_MO_most_2 ?_
  refine VO_istore hC d_MO_most_3 [(1, .int (0 : Int32)), (0, .ref (gad G t0))] rfl (by decide) ?_
  exact VO_sub [2, 1, 0] rfl (B_MO_most_4 hC h0 (0 : Int32) (0 : Int32) s)
set_option maxRecDepth 20000 in
theorem M_MO_most {l : Launch} {D : va_G} {ad : Nat → Nat} {cI cL : ClassId} (hj : Inj ad) {t0 : Nat} (h0 : isMO t0) {s : St} {o : Int32 × St} (h : F_MO_most t0 s = some o) : Cn l D ad cI cL y_MO_most b_MO_most 3 (some .int) 2 [.ref (ad t0)] s (some (.int o.1)) o.2 := by
  refine Cn_ofI hj (plainFor_of_name (by decide)) (Nat.le_of_ble_eq_true rfl) [(0, .ref (ad t0))] rfl (fun G hC e1 e2 e3 e4 e5 hR => ?_)
  subst e1; subst e2; subst e3; subst e4; subst e5
  exact B_MO_most hC h0 s o h hR
theorem d_MO_monthsTaken_0 : PCi b_MO_monthsTaken 0 0 1 := Or.inl ⟨0, by decide +kernel, by decide, rfl⟩
theorem d_MO_monthsTaken_1 : PSi b_MO_monthsTaken 1 1 2 := Or.inl ⟨1, by decide +kernel, rfl, rfl⟩
theorem d_MO_monthsTaken_2 : PCi b_MO_monthsTaken 2 0 3 := Or.inl ⟨0, by decide +kernel, by decide, rfl⟩
theorem d_MO_monthsTaken_3 : PSi b_MO_monthsTaken 3 2 4 := Or.inl ⟨2, by decide +kernel, rfl, rfl⟩
theorem d_MO_monthsTaken_4 : PLi b_MO_monthsTaken 4 2 5 := Or.inl ⟨2, by decide +kernel, rfl, rfl⟩
theorem d_MO_monthsTaken_5 : PLa b_MO_monthsTaken 5 0 6 := Or.inl ⟨0, by decide +kernel, rfl, rfl⟩
theorem d_MO_monthsTaken_6 : DR b_MO_monthsTaken 6 (.getfield 28) 3 9 := ⟨by decide +kernel, rfl⟩
theorem d_MO_monthsTaken_9 : DJ b_MO_monthsTaken 9 (.if_icmp .ge) 12 42 := ⟨33, by decide +kernel, rfl, by decide⟩
theorem d_MO_monthsTaken_12 : PLa b_MO_monthsTaken 12 0 13 := Or.inl ⟨0, by decide +kernel, rfl, rfl⟩
theorem d_MO_monthsTaken_13 : DR b_MO_monthsTaken 13 (.getfield 9) 3 16 := ⟨by decide +kernel, rfl⟩
theorem d_MO_monthsTaken_16 : PLi b_MO_monthsTaken 16 2 17 := Or.inl ⟨2, by decide +kernel, rfl, rfl⟩
theorem d_MO_monthsTaken_17 : DR b_MO_monthsTaken 17 (.invokestatic 29) 3 20 := ⟨by decide +kernel, rfl⟩
theorem d_MO_monthsTaken_20 : PCi b_MO_monthsTaken 20 (-9) 22 := Or.inr (Or.inl ⟨(-9), by decide +kernel, by decide, rfl⟩)
theorem d_MO_monthsTaken_22 : DJ b_MO_monthsTaken 22 (.if_icmp .eq) 25 36 := ⟨14, by decide +kernel, rfl, by decide⟩
theorem d_MO_monthsTaken_25 : PLi b_MO_monthsTaken 25 1 26 := Or.inl ⟨1, by decide +kernel, rfl, rfl⟩
theorem d_MO_monthsTaken_26 : PLa b_MO_monthsTaken 26 0 27 := Or.inl ⟨0, by decide +kernel, rfl, rfl⟩
theorem d_MO_monthsTaken_27 : DR b_MO_monthsTaken 27 (.getfield 15) 3 30 := ⟨by decide +kernel, rfl⟩
theorem d_MO_monthsTaken_30 : PLi b_MO_monthsTaken 30 2 31 := Or.inl ⟨2, by decide +kernel, rfl, rfl⟩
theorem d_MO_monthsTaken_31 : DR b_MO_monthsTaken 31 (.invokestatic 29) 3 34 := ⟨by decide +kernel, rfl⟩
theorem d_MO_monthsTaken_34 : DR b_MO_monthsTaken 34 (.iadd) 1 35 := ⟨by decide +kernel, rfl⟩
theorem d_MO_monthsTaken_35 : PSi b_MO_monthsTaken 35 1 36 := Or.inl ⟨1, by decide +kernel, rfl, rfl⟩
theorem d_MO_monthsTaken_36 : DR b_MO_monthsTaken 36 (.iinc 2 1) 3 39 := ⟨by decide +kernel, rfl⟩
theorem d_MO_monthsTaken_39 : DJ b_MO_monthsTaken 39 .goto 42 4 := ⟨-35, by decide +kernel, rfl, by decide⟩
theorem d_MO_monthsTaken_42 : PLi b_MO_monthsTaken 42 1 43 := Or.inl ⟨1, by decide +kernel, rfl, rfl⟩
theorem d_MO_monthsTaken_43 : DR b_MO_monthsTaken 43 (.ireturn) 1 44 := ⟨by decide +kernel, rfl⟩
set_option maxRecDepth 20000 in
theorem B_MO_monthsTaken_36 {G : MCx} (hC : C0 G "AccusedChoose$Morning" b_MO_monthsTaken 3 2) {t0 : Nat} (h0 : isMO t0) (K4 : Int32 × Int32 × St → Option (Int32 × St)) (hK4 : ∀ (w1 : Int32) (w2 : Int32) (s : St), VO G (RI G b_MO_monthsTaken) (K4 (w1, w2, s)) 4 [(0, .ref (gad G t0)), (1, .int w1), (2, .int w2)] [] s) (v1 : Int32) (v2 : Int32) (s : St) : VO G (RI G b_MO_monthsTaken) (F_MO_monthsTaken_36 t0 K4 v1 v2 s) 36 [(0, .ref (gad G t0)), (1, .int v1), (2, .int v2)] [] s := by
  unfold F_MO_monthsTaken_36
  refine VO_iinc hC d_MO_monthsTaken_36 2 rfl (by decide : Int32.ofInt 1 = 1) [(0, .ref (gad G t0)), (1, .int v1)] rfl (by decide) ?_
  refine VO_goto hC d_MO_monthsTaken_39 ?_
  exact VO_sub [1, 2, 0] rfl (hK4 v1 (v2 + 1) s)
set_option maxRecDepth 20000 in
theorem BH_MO_monthsTaken_4 {G : MCx} (hC : C0 G "AccusedChoose$Morning" b_MO_monthsTaken 3 2) {t0 : Nat} (h0 : isMO t0) (K4 : Int32 × Int32 × St → Option (Int32 × St)) (hK4 : ∀ (w1 : Int32) (w2 : Int32) (s : St), VO G (RI G b_MO_monthsTaken) (K4 (w1, w2, s)) 4 [(0, .ref (gad G t0)), (1, .int w1), (2, .int w2)] [] s) (v1 : Int32) (v2 : Int32) (s : St) : VO G (RI G b_MO_monthsTaken) (H_MO_monthsTaken_4 t0 K4 v1 v2 s) 4 [(0, .ref (gad G t0)), (1, .int v1), (2, .int v2)] [] s := by
  unfold H_MO_monthsTaken_4
  refine VO_iload hC d_MO_monthsTaken_4 2 rfl ?_
  refine VO_aload hC d_MO_monthsTaken_5 0 rfl ?_
  refine VO_geti hC fl_MO_28 (sh_MO h0) rfl d_MO_monthsTaken_6 ?_
  refine VO_icmp_ge hC d_MO_monthsTaken_9 (fun _ => ?_) (fun _ => ?_)
  · refine VO_iload hC d_MO_monthsTaken_42 1 rfl ?_
    exact VO_ireturn d_MO_monthsTaken_43
  · refine VO_aload hC d_MO_monthsTaken_12 0 rfl ?_
    refine VO_getr (r := (t0 + 1)) hC fl_MO_9 (sh_MO h0) rfl d_MO_monthsTaken_13 ?_
    refine VO_iload hC d_MO_monthsTaken_16 2 rfl ?_
    refine VO_callNI hC [.ref (gad G (t0 + 1)), .int v2] [] nl_MO_29 d_MO_monthsTaken_17 ys_AC_at (fun o h => M_AC_at hC.inj (ia_MO1 h0) h) (by decide) rfl rfl (Nat.le_of_ble_eq_true rfl) (fun o1 => ?_)
    refine VO_const hC d_MO_monthsTaken_20 ?_
    refine VO_icmp_eq hC d_MO_monthsTaken_22 (fun _ => ?_) (fun _ => ?_)
    · exact (B_MO_monthsTaken_36 hC h0 K4 hK4 v1 v2 o1.2)
    · refine VO_iload hC d_MO_monthsTaken_25 1 rfl ?_
      refine VO_aload hC d_MO_monthsTaken_26 0 rfl ?_
      refine VO_getr (r := (t0 + 2)) hC fl_MO_15 (sh_MO h0) rfl d_MO_monthsTaken_27 ?_
      refine VO_iload hC d_MO_monthsTaken_30 2 rfl ?_
      refine VO_callNI hC [.ref (gad G (t0 + 2)), .int v2] [.int v1] nl_MO_29 d_MO_monthsTaken_31 ys_AC_at (fun o h => M_AC_at hC.inj (ia_MO2 h0) h) (by decide) rfl rfl (Nat.le_of_ble_eq_true rfl) (fun o2 => ?_)
      refine VO_iadd hC d_MO_monthsTaken_34 ?_
      refine VO_istoreB hC d_MO_monthsTaken_35 [(0, .ref (gad G t0)), (2, .int v2)] rfl (by decide) (fun x3 => ?_)
      exact VO_sub [1, 0, 2] rfl (B_MO_monthsTaken_36 hC h0 K4 hK4 x3 v2 o2.2)
set_option maxRecDepth 20000 in
theorem B_MO_monthsTaken_4 {G : MCx} (hC : C0 G "AccusedChoose$Morning" b_MO_monthsTaken 3 2) {t0 : Nat} (h0 : isMO t0) (v1 : Int32) (v2 : Int32) (s : St) : VO G (RI G b_MO_monthsTaken) (F_MO_monthsTaken_4 t0 v1 v2 s) 4 [(0, .ref (gad G t0)), (1, .int v1), (2, .int v2)] [] s := by
  exact VO_fix (G_MO_monthsTaken_4 t0) 4 (fun q => [(0, .ref (gad G t0)), (1, .int q.1), (2, .int q.2.1)]) (fun q => q.2.2) (fun K hK q => BH_MO_monthsTaken_4 hC h0 K (fun w1 w2 s => hK (w1, w2, s)) q.1 q.2.1 q.2.2) FUEL (v1, v2, s)
set_option maxRecDepth 20000 in
theorem B_MO_monthsTaken {G : MCx} (hC : C0 G "AccusedChoose$Morning" b_MO_monthsTaken 3 2) {t0 : Nat} (h0 : isMO t0) (s : St) : VO G (RI G b_MO_monthsTaken) (F_MO_monthsTaken t0 s) 0 [(0, .ref (gad G t0))] [] s := by
  unfold F_MO_monthsTaken
  refine VO_const hC d_MO_monthsTaken_0 ?_
  refine VO_istore hC d_MO_monthsTaken_1 [(0, .ref (gad G t0))] rfl (by decide) ?_
  refine VO_const hC d_MO_monthsTaken_2 ?_
  refine VO_istore hC d_MO_monthsTaken_3 [(1, .int (0 : Int32)), (0, .ref (gad G t0))] rfl (by decide) ?_
  exact VO_sub [2, 1, 0] rfl (B_MO_monthsTaken_4 hC h0 (0 : Int32) (0 : Int32) s)
set_option maxRecDepth 20000 in
theorem M_MO_monthsTaken {l : Launch} {D : va_G} {ad : Nat → Nat} {cI cL : ClassId} (hj : Inj ad) {t0 : Nat} (h0 : isMO t0) {s : St} {o : Int32 × St} (h : F_MO_monthsTaken t0 s = some o) : Cn l D ad cI cL y_MO_monthsTaken b_MO_monthsTaken 3 (some .int) 2 [.ref (ad t0)] s (some (.int o.1)) o.2 := by
  refine Cn_ofI hj (plainFor_of_name (by decide)) (Nat.le_of_ble_eq_true rfl) [(0, .ref (ad t0))] rfl (fun G hC e1 e2 e3 e4 e5 hR => ?_)
  subst e1; subst e2; subst e3; subst e4; subst e5
  exact B_MO_monthsTaken hC h0 s o h hR
theorem d_MO_owners_0 : PCi b_MO_owners 0 0 1 := Or.inl ⟨0, by decide +kernel, by decide, rfl⟩
theorem d_MO_owners_1 : PSi b_MO_owners 1 3 2 := Or.inl ⟨3, by decide +kernel, rfl, rfl⟩
theorem d_MO_owners_2 : PCi b_MO_owners 2 0 3 := Or.inl ⟨0, by decide +kernel, by decide, rfl⟩
theorem d_MO_owners_3 : PSi b_MO_owners 3 4 5 := Or.inr ⟨by decide +kernel, rfl⟩
theorem d_MO_owners_5 : PLi b_MO_owners 5 4 7 := Or.inr ⟨by decide +kernel, rfl⟩
theorem d_MO_owners_7 : PLa b_MO_owners 7 0 8 := Or.inl ⟨0, by decide +kernel, rfl, rfl⟩
theorem d_MO_owners_8 : DR b_MO_owners 8 (.getfield 28) 3 11 := ⟨by decide +kernel, rfl⟩
theorem d_MO_owners_11 : DJ b_MO_owners 11 (.if_icmp .ge) 14 64 := ⟨53, by decide +kernel, rfl, by decide⟩
theorem d_MO_owners_14 : PLa b_MO_owners 14 0 15 := Or.inl ⟨0, by decide +kernel, rfl, rfl⟩
theorem d_MO_owners_15 : DR b_MO_owners 15 (.getfield 9) 3 18 := ⟨by decide +kernel, rfl⟩
theorem d_MO_owners_18 : PLi b_MO_owners 18 4 20 := Or.inr ⟨by decide +kernel, rfl⟩
theorem d_MO_owners_20 : DR b_MO_owners 20 (.invokestatic 29) 3 23 := ⟨by decide +kernel, rfl⟩
theorem d_MO_owners_23 : PSi b_MO_owners 23 5 25 := Or.inr ⟨by decide +kernel, rfl⟩
theorem d_MO_owners_25 : PLi b_MO_owners 25 5 27 := Or.inr ⟨by decide +kernel, rfl⟩
theorem d_MO_owners_27 : PCi b_MO_owners 27 (-9) 29 := Or.inr (Or.inl ⟨(-9), by decide +kernel, by decide, rfl⟩)
theorem d_MO_owners_29 : DJ b_MO_owners 29 (.if_icmp .eq) 32 58 := ⟨29, by decide +kernel, rfl, by decide⟩
theorem d_MO_owners_32 : PLi b_MO_owners 32 5 34 := Or.inr ⟨by decide +kernel, rfl⟩
theorem d_MO_owners_34 : PLa b_MO_owners 34 1 35 := Or.inl ⟨1, by decide +kernel, rfl, rfl⟩
theorem d_MO_owners_35 : DR b_MO_owners 35 (.getfield 53) 3 38 := ⟨by decide +kernel, rfl⟩
theorem d_MO_owners_38 : PLi b_MO_owners 38 4 40 := Or.inr ⟨by decide +kernel, rfl⟩
theorem d_MO_owners_40 : DR b_MO_owners 40 (.invokestatic 29) 3 43 := ⟨by decide +kernel, rfl⟩
theorem d_MO_owners_43 : DJ b_MO_owners 43 (.if_icmp .ne) 46 50 := ⟨7, by decide +kernel, rfl, by decide⟩
theorem d_MO_owners_46 : PCi b_MO_owners 46 1 47 := Or.inl ⟨1, by decide +kernel, by decide, rfl⟩
theorem d_MO_owners_47 : DJ b_MO_owners 47 .goto 50 51 := ⟨4, by decide +kernel, rfl, by decide⟩
theorem d_MO_owners_50 : PCi b_MO_owners 50 0 51 := Or.inl ⟨0, by decide +kernel, by decide, rfl⟩
theorem d_MO_owners_51 : PLi b_MO_owners 51 2 52 := Or.inl ⟨2, by decide +kernel, rfl, rfl⟩
theorem d_MO_owners_52 : DJ b_MO_owners 52 (.if_icmp .ne) 55 58 := ⟨6, by decide +kernel, rfl, by decide⟩
theorem d_MO_owners_55 : DR b_MO_owners 55 (.iinc 3 1) 3 58 := ⟨by decide +kernel, rfl⟩
theorem d_MO_owners_58 : DR b_MO_owners 58 (.iinc 4 1) 3 61 := ⟨by decide +kernel, rfl⟩
theorem d_MO_owners_61 : DJ b_MO_owners 61 .goto 64 5 := ⟨-56, by decide +kernel, rfl, by decide⟩
theorem d_MO_owners_64 : PLi b_MO_owners 64 3 65 := Or.inl ⟨3, by decide +kernel, rfl, rfl⟩
theorem d_MO_owners_65 : DR b_MO_owners 65 (.ireturn) 1 66 := ⟨by decide +kernel, rfl⟩
set_option maxRecDepth 20000 in
theorem B_MO_owners_58 {G : MCx} (hC : C0 G "AccusedChoose$Morning" b_MO_owners 6 2) {t0 : Nat} (h0 : isMO t0) {t1 : Nat} (h1 : isNI t1) {v2 : Int32} (K5 : Int32 × Int32 × St → Option (Int32 × St)) (hK5 : ∀ (w3 : Int32) (w4 : Int32) (s : St), VO G (RI G b_MO_owners) (K5 (w3, w4, s)) 5 [(0, .ref (gad G t0)), (1, .ref (gad G t1)), (2, .int v2), (3, .int w3), (4, .int w4)] [] s) (v3 : Int32) (v4 : Int32) (s : St) : VO G (RI G b_MO_owners) (F_MO_owners_58 t0 t1 K5 v2 v3 v4 s) 58 [(0, .ref (gad G t0)), (1, .ref (gad G t1)), (2, .int v2), (3, .int v3), (4, .int v4)] [] s := by
  unfold F_MO_owners_58
  refine VO_iinc hC d_MO_owners_58 4 rfl (by decide : Int32.ofInt 1 = 1) [(0, .ref (gad G t0)), (1, .ref (gad G t1)), (2, .int v2), (3, .int v3)] rfl (by decide) ?_
  refine VO_goto hC d_MO_owners_61 ?_
  exact VO_sub [1, 2, 3, 4, 0] rfl (hK5 v3 (v4 + 1) s)
set_option maxRecDepth 20000 in
theorem B_MO_owners_51 {G : MCx} (hC : C0 G "AccusedChoose$Morning" b_MO_owners 6 2) {t0 : Nat} (h0 : isMO t0) {t1 : Nat} (h1 : isNI t1) {v2 : Int32} (K5 : Int32 × Int32 × St → Option (Int32 × St)) (hK5 : ∀ (w3 : Int32) (w4 : Int32) (s : St), VO G (RI G b_MO_owners) (K5 (w3, w4, s)) 5 [(0, .ref (gad G t0)), (1, .ref (gad G t1)), (2, .int v2), (3, .int w3), (4, .int w4)] [] s) (v3 : Int32) (v4 : Int32) (z0 : Int32) (s : St) : VO G (RI G b_MO_owners) (F_MO_owners_51 t0 t1 K5 v2 v3 v4 z0 s) 51 [(0, .ref (gad G t0)), (1, .ref (gad G t1)), (2, .int v2), (3, .int v3), (4, .int v4)] [.int z0] s := by
  unfold F_MO_owners_51
  refine VO_iload hC d_MO_owners_51 2 rfl ?_
  refine VO_icmp_ne hC d_MO_owners_52 (fun _ => ?_) (fun _ => ?_)
  · refine VO_iinc hC d_MO_owners_55 3 rfl (by decide : Int32.ofInt 1 = 1) [(0, .ref (gad G t0)), (1, .ref (gad G t1)), (2, .int v2), (4, .int v4)] rfl (by decide) ?_
    exact VO_sub [1, 2, 3, 0, 4] rfl (B_MO_owners_58 hC h0 h1 K5 hK5 (v3 + 1) v4 s)
  · exact (B_MO_owners_58 hC h0 h1 K5 hK5 v3 v4 s)
set_option maxRecDepth 20000 in
theorem BH_MO_owners_5 {G : MCx} (hC : C0 G "AccusedChoose$Morning" b_MO_owners 6 2) {t0 : Nat} (h0 : isMO t0) {t1 : Nat} (h1 : isNI t1) {v2 : Int32} (K5 : Int32 × Int32 × St → Option (Int32 × St)) (hK5 : ∀ (w3 : Int32) (w4 : Int32) (s : St), VO G (RI G b_MO_owners) (K5 (w3, w4, s)) 5 [(0, .ref (gad G t0)), (1, .ref (gad G t1)), (2, .int v2), (3, .int w3), (4, .int w4)] [] s) (v3 : Int32) (v4 : Int32) (s : St) : VO G (RI G b_MO_owners) (H_MO_owners_5 t0 t1 v2 K5 v3 v4 s) 5 [(0, .ref (gad G t0)), (1, .ref (gad G t1)), (2, .int v2), (3, .int v3), (4, .int v4)] [] s := by
  unfold H_MO_owners_5
  refine VO_iload hC d_MO_owners_5 4 rfl ?_
  refine VO_aload hC d_MO_owners_7 0 rfl ?_
  refine VO_geti hC fl_MO_28 (sh_MO h0) rfl d_MO_owners_8 ?_
  refine VO_icmp_ge hC d_MO_owners_11 (fun _ => ?_) (fun _ => ?_)
  · refine VO_iload hC d_MO_owners_64 3 rfl ?_
    exact VO_ireturn d_MO_owners_65
  · refine VO_aload hC d_MO_owners_14 0 rfl ?_
    refine VO_getr (r := (t0 + 1)) hC fl_MO_9 (sh_MO h0) rfl d_MO_owners_15 ?_
    refine VO_iload hC d_MO_owners_18 4 rfl ?_
    refine VO_callNI hC [.ref (gad G (t0 + 1)), .int v4] [] nl_MO_29 d_MO_owners_20 ys_AC_at (fun o h => M_AC_at hC.inj (ia_MO1 h0) h) (by decide) rfl rfl (Nat.le_of_ble_eq_true rfl) (fun o1 => ?_)
    refine VO_istore hC d_MO_owners_23 [(0, .ref (gad G t0)), (1, .ref (gad G t1)), (2, .int v2), (3, .int v3), (4, .int v4)] rfl (by decide) ?_
    refine VO_iload hC d_MO_owners_25 0 rfl ?_
    refine VO_const hC d_MO_owners_27 ?_
    refine VO_icmp_eq hC d_MO_owners_29 (fun _ => ?_) (fun _ => ?_)
    · exact VO_sub [1, 2, 3, 4, 5] rfl (B_MO_owners_58 hC h0 h1 K5 hK5 v3 v4 o1.2)
    · refine VO_iload hC d_MO_owners_32 0 rfl ?_
      refine VO_aload hC d_MO_owners_34 2 rfl ?_
      refine VO_getr (r := (t1 + 5)) hC fl_MO_53 (sh_NI h1) rfl d_MO_owners_35 ?_
      refine VO_iload hC d_MO_owners_38 5 rfl ?_
      refine VO_callNI hC [.ref (gad G (t1 + 5)), .int v4] [.int o1.1] nl_MO_29 d_MO_owners_40 ys_AC_at (fun o h => M_AC_at hC.inj (ia_NI5 h1) h) (by decide) rfl rfl (Nat.le_of_ble_eq_true rfl) (fun o2 => ?_)
      refine VO_icmp_ne hC d_MO_owners_43 (fun _ => ?_) (fun _ => ?_)
      · refine VO_const hC d_MO_owners_46 ?_
        refine VO_goto hC d_MO_owners_47 ?_
        exact VO_sub [1, 2, 3, 4, 5] rfl (B_MO_owners_51 hC h0 h1 K5 hK5 v3 v4 (1 : Int32) o2.2)
      · refine VO_const hC d_MO_owners_50 ?_
        exact VO_sub [1, 2, 3, 4, 5] rfl (B_MO_owners_51 hC h0 h1 K5 hK5 v3 v4 (0 : Int32) o2.2)
set_option maxRecDepth 20000 in
theorem B_MO_owners_5 {G : MCx} (hC : C0 G "AccusedChoose$Morning" b_MO_owners 6 2) {t0 : Nat} (h0 : isMO t0) {t1 : Nat} (h1 : isNI t1) (v2 : Int32) (v3 : Int32) (v4 : Int32) (s : St) : VO G (RI G b_MO_owners) (F_MO_owners_5 t0 t1 v2 v3 v4 s) 5 [(0, .ref (gad G t0)), (1, .ref (gad G t1)), (2, .int v2), (3, .int v3), (4, .int v4)] [] s := by
  exact VO_fix (G_MO_owners_5 t0 t1 v2) 5 (fun q => [(0, .ref (gad G t0)), (1, .ref (gad G t1)), (2, .int v2), (3, .int q.1), (4, .int q.2.1)]) (fun q => q.2.2) (fun K hK q => BH_MO_owners_5 hC h0 h1 K (fun w3 w4 s => hK (w3, w4, s)) q.1 q.2.1 q.2.2) FUEL (v3, v4, s)
set_option maxRecDepth 20000 in
theorem B_MO_owners {G : MCx} (hC : C0 G "AccusedChoose$Morning" b_MO_owners 6 2) {t0 : Nat} (h0 : isMO t0) {t1 : Nat} (h1 : isNI t1) (a2 : Int32) (s : St) : VO G (RI G b_MO_owners) (F_MO_owners t0 t1 a2 s) 0 [(0, .ref (gad G t0)), (1, .ref (gad G t1)), (2, .int a2)] [] s := by
  unfold F_MO_owners
  refine VO_const hC d_MO_owners_0 ?_
  refine VO_istore hC d_MO_owners_1 [(0, .ref (gad G t0)), (1, .ref (gad G t1)), (2, .int a2)] rfl (by decide) ?_
  refine VO_const hC d_MO_owners_2 ?_
  refine VO_istore hC d_MO_owners_3 [(3, .int (0 : Int32)), (0, .ref (gad G t0)), (1, .ref (gad G t1)), (2, .int a2)] rfl (by decide) ?_
  exact VO_sub [2, 3, 4, 1, 0] rfl (B_MO_owners_5 hC h0 h1 a2 (0 : Int32) (0 : Int32) s)
set_option maxRecDepth 20000 in
theorem M_MO_owners {l : Launch} {D : va_G} {ad : Nat → Nat} {cI cL : ClassId} (hj : Inj ad) {t0 : Nat} (h0 : isMO t0) {t1 : Nat} (h1 : isNI t1) {a2 : Int32} {s : St} {o : Int32 × St} (h : F_MO_owners t0 t1 a2 s = some o) : Cn l D ad cI cL y_MO_owners b_MO_owners 6 (some .int) 2 [.ref (ad t0), .ref (ad t1), .int a2] s (some (.int o.1)) o.2 := by
  refine Cn_ofI hj (plainFor_of_name (by decide)) (Nat.le_of_ble_eq_true rfl) [(0, .ref (ad t0)), (1, .ref (ad t1)), (2, .int a2)] rfl (fun G hC e1 e2 e3 e4 e5 hR => ?_)
  subst e1; subst e2; subst e3; subst e4; subst e5
  exact B_MO_owners hC h0 h1 a2 s o h hR
theorem d_AC_copyRow_0 : PCi b_AC_copyRow 0 0 1 := Or.inl ⟨0, by decide +kernel, by decide, rfl⟩
theorem d_AC_copyRow_1 : PSi b_AC_copyRow 1 2 2 := Or.inl ⟨2, by decide +kernel, rfl, rfl⟩
theorem d_AC_copyRow_2 : PLi b_AC_copyRow 2 2 3 := Or.inl ⟨2, by decide +kernel, rfl, rfl⟩
theorem d_AC_copyRow_3 : PLa b_AC_copyRow 3 1 4 := Or.inl ⟨1, by decide +kernel, rfl, rfl⟩
theorem d_AC_copyRow_4 : DR b_AC_copyRow 4 (.arraylength) 1 5 := ⟨by decide +kernel, rfl⟩
theorem d_AC_copyRow_5 : DJ b_AC_copyRow 5 (.if_icmp .ge) 8 22 := ⟨17, by decide +kernel, rfl, by decide⟩
theorem d_AC_copyRow_8 : PLa b_AC_copyRow 8 1 9 := Or.inl ⟨1, by decide +kernel, rfl, rfl⟩
theorem d_AC_copyRow_9 : PLi b_AC_copyRow 9 2 10 := Or.inl ⟨2, by decide +kernel, rfl, rfl⟩
theorem d_AC_copyRow_10 : PLa b_AC_copyRow 10 0 11 := Or.inl ⟨0, by decide +kernel, rfl, rfl⟩
theorem d_AC_copyRow_11 : PLi b_AC_copyRow 11 2 12 := Or.inl ⟨2, by decide +kernel, rfl, rfl⟩
theorem d_AC_copyRow_12 : DR b_AC_copyRow 12 (.invokestatic 122) 3 15 := ⟨by decide +kernel, rfl⟩
theorem d_AC_copyRow_15 : DR b_AC_copyRow 15 (.iastore) 1 16 := ⟨by decide +kernel, rfl⟩
theorem d_AC_copyRow_16 : DR b_AC_copyRow 16 (.iinc 2 1) 3 19 := ⟨by decide +kernel, rfl⟩
theorem d_AC_copyRow_19 : DJ b_AC_copyRow 19 .goto 22 2 := ⟨-17, by decide +kernel, rfl, by decide⟩
theorem d_AC_copyRow_22 : DR b_AC_copyRow 22 (.return_) 1 23 := ⟨by decide +kernel, rfl⟩
set_option maxRecDepth 20000 in
theorem BH_AC_copyRow_2 {G : MCx} (hC : C0 G "AccusedChoose" b_AC_copyRow 3 2) {t0 : Nat} (h0 : isIA t0) {t1 : Nat} (h1 : isIA t1) (K2 : Int32 × St → Option (St)) (hK2 : ∀ (w2 : Int32) (s : St), VO G (RV G b_AC_copyRow) (K2 (w2, s)) 2 [(0, .ref (gad G t0)), (1, .ref (gad G t1)), (2, .int w2)] [] s) (v2 : Int32) (s : St) : VO G (RV G b_AC_copyRow) (H_AC_copyRow_2 t0 t1 K2 v2 s) 2 [(0, .ref (gad G t0)), (1, .ref (gad G t1)), (2, .int v2)] [] s := by
  unfold H_AC_copyRow_2
  refine VO_iload hC d_AC_copyRow_2 2 rfl ?_
  refine VO_aload hC d_AC_copyRow_3 1 rfl ?_
  refine VO_alen hC h1 d_AC_copyRow_4 ?_
  refine VO_icmp_ge hC d_AC_copyRow_5 (fun _ => ?_) (fun _ => ?_)
  · exact VO_return d_AC_copyRow_22
  · refine VO_aload hC d_AC_copyRow_8 1 rfl ?_
    refine VO_iload hC d_AC_copyRow_9 2 rfl ?_
    refine VO_aload hC d_AC_copyRow_10 0 rfl ?_
    refine VO_iload hC d_AC_copyRow_11 2 rfl ?_
    refine VO_callSI hC [.ref (gad G t0), .int v2] [.int v2, .ref (gad G t1)] ml_AC_122 d_AC_copyRow_12 ys_AC_at (fun o h => M_AC_at hC.inj h0 h) (by decide) rfl rfl (Nat.le_of_ble_eq_true rfl) (fun o1 => ?_)
    refine VO_iastore hC h1 d_AC_copyRow_15 (fun s2 => ?_)
    refine VO_iinc hC d_AC_copyRow_16 2 rfl (by decide : Int32.ofInt 1 = 1) [(0, .ref (gad G t0)), (1, .ref (gad G t1))] rfl (by decide) ?_
    refine VO_goto hC d_AC_copyRow_19 ?_
    exact VO_sub [1, 2, 0] rfl (hK2 (v2 + 1) s2)
set_option maxRecDepth 20000 in
theorem B_AC_copyRow_2 {G : MCx} (hC : C0 G "AccusedChoose" b_AC_copyRow 3 2) {t0 : Nat} (h0 : isIA t0) {t1 : Nat} (h1 : isIA t1) (v2 : Int32) (s : St) : VO G (RV G b_AC_copyRow) (F_AC_copyRow_2 t0 t1 v2 s) 2 [(0, .ref (gad G t0)), (1, .ref (gad G t1)), (2, .int v2)] [] s := by
  exact VO_fix (G_AC_copyRow_2 t0 t1) 2 (fun q => [(0, .ref (gad G t0)), (1, .ref (gad G t1)), (2, .int q.1)]) (fun q => q.2) (fun K hK q => BH_AC_copyRow_2 hC h0 h1 K (fun w2 s => hK (w2, s)) q.1 q.2) FUEL (v2, s)
set_option maxRecDepth 20000 in
theorem B_AC_copyRow {G : MCx} (hC : C0 G "AccusedChoose" b_AC_copyRow 3 2) {t0 : Nat} (h0 : isIA t0) {t1 : Nat} (h1 : isIA t1) (s : St) : VO G (RV G b_AC_copyRow) (F_AC_copyRow t0 t1 s) 0 [(0, .ref (gad G t0)), (1, .ref (gad G t1))] [] s := by
  unfold F_AC_copyRow
  refine VO_const hC d_AC_copyRow_0 ?_
  refine VO_istore hC d_AC_copyRow_1 [(0, .ref (gad G t0)), (1, .ref (gad G t1))] rfl (by decide) ?_
  exact VO_sub [1, 2, 0] rfl (B_AC_copyRow_2 hC h0 h1 (0 : Int32) s)
set_option maxRecDepth 20000 in
theorem M_AC_copyRow {l : Launch} {D : va_G} {ad : Nat → Nat} {cI cL : ClassId} (hj : Inj ad) {t0 : Nat} (h0 : isIA t0) {t1 : Nat} (h1 : isIA t1) {s : St} {o : St} (h : F_AC_copyRow t0 t1 s = some o) : Cn l D ad cI cL y_AC_copyRow b_AC_copyRow 3 none 2 [.ref (ad t0), .ref (ad t1)] s none o := by
  refine Cn_ofV hj (plainFor_of_name (by decide)) (Nat.le_of_ble_eq_true rfl) [(0, .ref (ad t0)), (1, .ref (ad t1))] rfl (fun G hC e1 e2 e3 e4 e5 hR => ?_)
  subst e1; subst e2; subst e3; subst e4; subst e5
  exact B_AC_copyRow hC h0 h1 s o h hR
theorem d_NI_copy_0 : PLa b_NI_copy 0 0 1 := Or.inl ⟨0, by decide +kernel, rfl, rfl⟩
theorem d_NI_copy_1 : PLa b_NI_copy 1 1 2 := Or.inl ⟨1, by decide +kernel, rfl, rfl⟩
theorem d_NI_copy_2 : DR b_NI_copy 2 (.getfield 36) 3 5 := ⟨by decide +kernel, rfl⟩
theorem d_NI_copy_5 : DR b_NI_copy 5 (.putfield 36) 3 8 := ⟨by decide +kernel, rfl⟩
theorem d_NI_copy_8 : PLa b_NI_copy 8 0 9 := Or.inl ⟨0, by decide +kernel, rfl, rfl⟩
theorem d_NI_copy_9 : PLa b_NI_copy 9 1 10 := Or.inl ⟨1, by decide +kernel, rfl, rfl⟩
theorem d_NI_copy_10 : DR b_NI_copy 10 (.getfield 40) 3 13 := ⟨by decide +kernel, rfl⟩
theorem d_NI_copy_13 : DR b_NI_copy 13 (.putfield 40) 3 16 := ⟨by decide +kernel, rfl⟩
theorem d_NI_copy_16 : PLa b_NI_copy 16 1 17 := Or.inl ⟨1, by decide +kernel, rfl, rfl⟩
theorem d_NI_copy_17 : DR b_NI_copy 17 (.getfield 9) 3 20 := ⟨by decide +kernel, rfl⟩
theorem d_NI_copy_20 : PLa b_NI_copy 20 0 21 := Or.inl ⟨0, by decide +kernel, rfl, rfl⟩
theorem d_NI_copy_21 : DR b_NI_copy 21 (.getfield 9) 3 24 := ⟨by decide +kernel, rfl⟩
theorem d_NI_copy_24 : DR b_NI_copy 24 (.invokestatic 43) 3 27 := ⟨by decide +kernel, rfl⟩
theorem d_NI_copy_27 : PLa b_NI_copy 27 1 28 := Or.inl ⟨1, by decide +kernel, rfl, rfl⟩
theorem d_NI_copy_28 : DR b_NI_copy 28 (.getfield 15) 3 31 := ⟨by decide +kernel, rfl⟩
theorem d_NI_copy_31 : PLa b_NI_copy 31 0 32 := Or.inl ⟨0, by decide +kernel, rfl, rfl⟩
theorem d_NI_copy_32 : DR b_NI_copy 32 (.getfield 15) 3 35 := ⟨by decide +kernel, rfl⟩
theorem d_NI_copy_35 : DR b_NI_copy 35 (.invokestatic 43) 3 38 := ⟨by decide +kernel, rfl⟩
theorem d_NI_copy_38 : PLa b_NI_copy 38 1 39 := Or.inl ⟨1, by decide +kernel, rfl, rfl⟩
theorem d_NI_copy_39 : DR b_NI_copy 39 (.getfield 18) 3 42 := ⟨by decide +kernel, rfl⟩
theorem d_NI_copy_42 : PLa b_NI_copy 42 0 43 := Or.inl ⟨0, by decide +kernel, rfl, rfl⟩
theorem d_NI_copy_43 : DR b_NI_copy 43 (.getfield 18) 3 46 := ⟨by decide +kernel, rfl⟩
theorem d_NI_copy_46 : DR b_NI_copy 46 (.invokestatic 43) 3 49 := ⟨by decide +kernel, rfl⟩
theorem d_NI_copy_49 : PLa b_NI_copy 49 1 50 := Or.inl ⟨1, by decide +kernel, rfl, rfl⟩
theorem d_NI_copy_50 : DR b_NI_copy 50 (.getfield 21) 3 53 := ⟨by decide +kernel, rfl⟩
theorem d_NI_copy_53 : PLa b_NI_copy 53 0 54 := Or.inl ⟨0, by decide +kernel, rfl, rfl⟩
theorem d_NI_copy_54 : DR b_NI_copy 54 (.getfield 21) 3 57 := ⟨by decide +kernel, rfl⟩
theorem d_NI_copy_57 : DR b_NI_copy 57 (.invokestatic 43) 3 60 := ⟨by decide +kernel, rfl⟩
theorem d_NI_copy_60 : PLa b_NI_copy 60 1 61 := Or.inl ⟨1, by decide +kernel, rfl, rfl⟩
theorem d_NI_copy_61 : DR b_NI_copy 61 (.getfield 24) 3 64 := ⟨by decide +kernel, rfl⟩
theorem d_NI_copy_64 : PLa b_NI_copy 64 0 65 := Or.inl ⟨0, by decide +kernel, rfl, rfl⟩
theorem d_NI_copy_65 : DR b_NI_copy 65 (.getfield 24) 3 68 := ⟨by decide +kernel, rfl⟩
theorem d_NI_copy_68 : DR b_NI_copy 68 (.invokestatic 43) 3 71 := ⟨by decide +kernel, rfl⟩
theorem d_NI_copy_71 : PLa b_NI_copy 71 1 72 := Or.inl ⟨1, by decide +kernel, rfl, rfl⟩
theorem d_NI_copy_72 : DR b_NI_copy 72 (.getfield 27) 3 75 := ⟨by decide +kernel, rfl⟩
theorem d_NI_copy_75 : PLa b_NI_copy 75 0 76 := Or.inl ⟨0, by decide +kernel, rfl, rfl⟩
theorem d_NI_copy_76 : DR b_NI_copy 76 (.getfield 27) 3 79 := ⟨by decide +kernel, rfl⟩
theorem d_NI_copy_79 : DR b_NI_copy 79 (.invokestatic 43) 3 82 := ⟨by decide +kernel, rfl⟩
theorem d_NI_copy_82 : PLa b_NI_copy 82 1 83 := Or.inl ⟨1, by decide +kernel, rfl, rfl⟩
theorem d_NI_copy_83 : DR b_NI_copy 83 (.getfield 30) 3 86 := ⟨by decide +kernel, rfl⟩
theorem d_NI_copy_86 : PLa b_NI_copy 86 0 87 := Or.inl ⟨0, by decide +kernel, rfl, rfl⟩
theorem d_NI_copy_87 : DR b_NI_copy 87 (.getfield 30) 3 90 := ⟨by decide +kernel, rfl⟩
theorem d_NI_copy_90 : DR b_NI_copy 90 (.invokestatic 43) 3 93 := ⟨by decide +kernel, rfl⟩
theorem d_NI_copy_93 : PLa b_NI_copy 93 1 94 := Or.inl ⟨1, by decide +kernel, rfl, rfl⟩
theorem d_NI_copy_94 : DR b_NI_copy 94 (.getfield 33) 3 97 := ⟨by decide +kernel, rfl⟩
theorem d_NI_copy_97 : PLa b_NI_copy 97 0 98 := Or.inl ⟨0, by decide +kernel, rfl, rfl⟩
theorem d_NI_copy_98 : DR b_NI_copy 98 (.getfield 33) 3 101 := ⟨by decide +kernel, rfl⟩
theorem d_NI_copy_101 : DR b_NI_copy 101 (.invokestatic 43) 3 104 := ⟨by decide +kernel, rfl⟩
theorem d_NI_copy_104 : DR b_NI_copy 104 (.return_) 1 105 := ⟨by decide +kernel, rfl⟩
set_option maxRecDepth 20000 in
theorem B_NI_copy {G : MCx} (hC : C0 G "AccusedChoose$Night" b_NI_copy 2 3) {t0 : Nat} (h0 : isNI t0) {t1 : Nat} (h1 : isNI t1) (s : St) : VO G (RV G b_NI_copy) (F_NI_copy t0 t1 s) 0 [(0, .ref (gad G t0)), (1, .ref (gad G t1))] [] s := by
  unfold F_NI_copy
  refine VO_aload hC d_NI_copy_0 0 rfl ?_
  refine VO_aload hC d_NI_copy_1 1 rfl ?_
  refine VO_geti hC fl_NI_36 (sh_NI h1) rfl d_NI_copy_2 ?_
  refine VO_puti hC fw_NI_36 (sh_NI h0) rfl d_NI_copy_5 (fun s1 => ?_)
  refine VO_aload hC d_NI_copy_8 0 rfl ?_
  refine VO_aload hC d_NI_copy_9 1 rfl ?_
  refine VO_geti hC fl_NI_40 (sh_NI h1) rfl d_NI_copy_10 ?_
  refine VO_puti hC fw_NI_40 (sh_NI h0) rfl d_NI_copy_13 (fun s2 => ?_)
  refine VO_aload hC d_NI_copy_16 1 rfl ?_
  refine VO_getr (r := (t1 + 1)) hC fl_NI_9 (sh_NI h1) rfl d_NI_copy_17 ?_
  refine VO_aload hC d_NI_copy_20 0 rfl ?_
  refine VO_getr (r := (t0 + 1)) hC fl_NI_9 (sh_NI h0) rfl d_NI_copy_21 ?_
  refine VO_callNV hC [.ref (gad G (t1 + 1)), .ref (gad G (t0 + 1))] [] nl_NI_43 d_NI_copy_24 ys_AC_copyRow (fun o h => M_AC_copyRow hC.inj (ia_NI1 h1) (ia_NI1 h0) h) (by decide) rfl rfl (Nat.le_of_ble_eq_true rfl) (fun s3 => ?_)
  refine VO_aload hC d_NI_copy_27 1 rfl ?_
  refine VO_getr (r := (t1 + 2)) hC fl_NI_15 (sh_NI h1) rfl d_NI_copy_28 ?_
  refine VO_aload hC d_NI_copy_31 0 rfl ?_
  refine VO_getr (r := (t0 + 2)) hC fl_NI_15 (sh_NI h0) rfl d_NI_copy_32 ?_
  refine VO_callNV hC [.ref (gad G (t1 + 2)), .ref (gad G (t0 + 2))] [] nl_NI_43 d_NI_copy_35 ys_AC_copyRow (fun o h => M_AC_copyRow hC.inj (ia_NI2 h1) (ia_NI2 h0) h) (by decide) rfl rfl (Nat.le_of_ble_eq_true rfl) (fun s4 => ?_)
  refine VO_aload hC d_NI_copy_38 1 rfl ?_
  refine VO_getr (r := (t1 + 3)) hC fl_NI_18 (sh_NI h1) rfl d_NI_copy_39 ?_
  refine VO_aload hC d_NI_copy_42 0 rfl ?_
  refine VO_getr (r := (t0 + 3)) hC fl_NI_18 (sh_NI h0) rfl d_NI_copy_43 ?_
  refine VO_callNV hC [.ref (gad G (t1 + 3)), .ref (gad G (t0 + 3))] [] nl_NI_43 d_NI_copy_46 ys_AC_copyRow (fun o h => M_AC_copyRow hC.inj (ia_NI3 h1) (ia_NI3 h0) h) (by decide) rfl rfl (Nat.le_of_ble_eq_true rfl) (fun s5 => ?_)
  refine VO_aload hC d_NI_copy_49 1 rfl ?_
  refine VO_getr (r := (t1 + 4)) hC fl_NI_21 (sh_NI h1) rfl d_NI_copy_50 ?_
  refine VO_aload hC d_NI_copy_53 0 rfl ?_
  refine VO_getr (r := (t0 + 4)) hC fl_NI_21 (sh_NI h0) rfl d_NI_copy_54 ?_
  refine VO_callNV hC [.ref (gad G (t1 + 4)), .ref (gad G (t0 + 4))] [] nl_NI_43 d_NI_copy_57 ys_AC_copyRow (fun o h => M_AC_copyRow hC.inj (ia_NI4 h1) (ia_NI4 h0) h) (by decide) rfl rfl (Nat.le_of_ble_eq_true rfl) (fun s6 => ?_)
  refine VO_aload hC d_NI_copy_60 1 rfl ?_
  refine VO_getr (r := (t1 + 5)) hC fl_NI_24 (sh_NI h1) rfl d_NI_copy_61 ?_
  refine VO_aload hC d_NI_copy_64 0 rfl ?_
  refine VO_getr (r := (t0 + 5)) hC fl_NI_24 (sh_NI h0) rfl d_NI_copy_65 ?_
  refine VO_callNV hC [.ref (gad G (t1 + 5)), .ref (gad G (t0 + 5))] [] nl_NI_43 d_NI_copy_68 ys_AC_copyRow (fun o h => M_AC_copyRow hC.inj (ia_NI5 h1) (ia_NI5 h0) h) (by decide) rfl rfl (Nat.le_of_ble_eq_true rfl) (fun s7 => ?_)
  refine VO_aload hC d_NI_copy_71 1 rfl ?_
  refine VO_getr (r := (t1 + 6)) hC fl_NI_27 (sh_NI h1) rfl d_NI_copy_72 ?_
  refine VO_aload hC d_NI_copy_75 0 rfl ?_
  refine VO_getr (r := (t0 + 6)) hC fl_NI_27 (sh_NI h0) rfl d_NI_copy_76 ?_
  refine VO_callNV hC [.ref (gad G (t1 + 6)), .ref (gad G (t0 + 6))] [] nl_NI_43 d_NI_copy_79 ys_AC_copyRow (fun o h => M_AC_copyRow hC.inj (ia_NI6 h1) (ia_NI6 h0) h) (by decide) rfl rfl (Nat.le_of_ble_eq_true rfl) (fun s8 => ?_)
  refine VO_aload hC d_NI_copy_82 1 rfl ?_
  refine VO_getr (r := (t1 + 7)) hC fl_NI_30 (sh_NI h1) rfl d_NI_copy_83 ?_
  refine VO_aload hC d_NI_copy_86 0 rfl ?_
  refine VO_getr (r := (t0 + 7)) hC fl_NI_30 (sh_NI h0) rfl d_NI_copy_87 ?_
  refine VO_callNV hC [.ref (gad G (t1 + 7)), .ref (gad G (t0 + 7))] [] nl_NI_43 d_NI_copy_90 ys_AC_copyRow (fun o h => M_AC_copyRow hC.inj (ia_NI7 h1) (ia_NI7 h0) h) (by decide) rfl rfl (Nat.le_of_ble_eq_true rfl) (fun s9 => ?_)
  refine VO_aload hC d_NI_copy_93 1 rfl ?_
  refine VO_getr (r := (t1 + 8)) hC fl_NI_33 (sh_NI h1) rfl d_NI_copy_94 ?_
  refine VO_aload hC d_NI_copy_97 0 rfl ?_
  refine VO_getr (r := (t0 + 8)) hC fl_NI_33 (sh_NI h0) rfl d_NI_copy_98 ?_
  refine VO_callNV hC [.ref (gad G (t1 + 8)), .ref (gad G (t0 + 8))] [] nl_NI_43 d_NI_copy_101 ys_AC_copyRow (fun o h => M_AC_copyRow hC.inj (ia_NI8 h1) (ia_NI8 h0) h) (by decide) rfl rfl (Nat.le_of_ble_eq_true rfl) (fun s10 => ?_)
  exact VO_return d_NI_copy_104
set_option maxRecDepth 20000 in
theorem M_NI_copy {l : Launch} {D : va_G} {ad : Nat → Nat} {cI cL : ClassId} (hj : Inj ad) {t0 : Nat} (h0 : isNI t0) {t1 : Nat} (h1 : isNI t1) {s : St} {o : St} (h : F_NI_copy t0 t1 s = some o) : Cn l D ad cI cL y_NI_copy b_NI_copy 2 none 3 [.ref (ad t0), .ref (ad t1)] s none o := by
  refine Cn_ofV hj (plainFor_of_name (by decide)) (Nat.le_of_ble_eq_true rfl) [(0, .ref (ad t0)), (1, .ref (ad t1))] rfl (fun G hC e1 e2 e3 e4 e5 hR => ?_)
  subst e1; subst e2; subst e3; subst e4; subst e5
  exact B_NI_copy hC h0 h1 s o h hR
theorem d_NI_unpair_0 : PLa b_NI_unpair 0 0 1 := Or.inl ⟨0, by decide +kernel, rfl, rfl⟩
theorem d_NI_unpair_1 : DR b_NI_unpair 1 (.getfield 27) 3 4 := ⟨by decide +kernel, rfl⟩
theorem d_NI_unpair_4 : PLi b_NI_unpair 4 1 5 := Or.inl ⟨1, by decide +kernel, rfl, rfl⟩
theorem d_NI_unpair_5 : PLi b_NI_unpair 5 3 6 := Or.inl ⟨3, by decide +kernel, rfl, rfl⟩
theorem d_NI_unpair_6 : DR b_NI_unpair 6 (.invokestatic 51) 3 9 := ⟨by decide +kernel, rfl⟩
theorem d_NI_unpair_9 : PLa b_NI_unpair 9 0 10 := Or.inl ⟨0, by decide +kernel, rfl, rfl⟩
theorem d_NI_unpair_10 : DR b_NI_unpair 10 (.getfield 27) 3 13 := ⟨by decide +kernel, rfl⟩
theorem d_NI_unpair_13 : PLi b_NI_unpair 13 2 14 := Or.inl ⟨2, by decide +kernel, rfl, rfl⟩
theorem d_NI_unpair_14 : PLi b_NI_unpair 14 4 16 := Or.inr ⟨by decide +kernel, rfl⟩
theorem d_NI_unpair_16 : DR b_NI_unpair 16 (.invokestatic 51) 3 19 := ⟨by decide +kernel, rfl⟩
theorem d_NI_unpair_19 : PLa b_NI_unpair 19 0 20 := Or.inl ⟨0, by decide +kernel, rfl, rfl⟩
theorem d_NI_unpair_20 : DR b_NI_unpair 20 (.getfield 27) 3 23 := ⟨by decide +kernel, rfl⟩
theorem d_NI_unpair_23 : PLi b_NI_unpair 23 3 24 := Or.inl ⟨3, by decide +kernel, rfl, rfl⟩
theorem d_NI_unpair_24 : PLi b_NI_unpair 24 1 25 := Or.inl ⟨1, by decide +kernel, rfl, rfl⟩
theorem d_NI_unpair_25 : DR b_NI_unpair 25 (.invokestatic 51) 3 28 := ⟨by decide +kernel, rfl⟩
theorem d_NI_unpair_28 : PLa b_NI_unpair 28 0 29 := Or.inl ⟨0, by decide +kernel, rfl, rfl⟩
theorem d_NI_unpair_29 : DR b_NI_unpair 29 (.getfield 27) 3 32 := ⟨by decide +kernel, rfl⟩
theorem d_NI_unpair_32 : PLi b_NI_unpair 32 4 34 := Or.inr ⟨by decide +kernel, rfl⟩
theorem d_NI_unpair_34 : PLi b_NI_unpair 34 2 35 := Or.inl ⟨2, by decide +kernel, rfl, rfl⟩
theorem d_NI_unpair_35 : DR b_NI_unpair 35 (.invokestatic 51) 3 38 := ⟨by decide +kernel, rfl⟩
theorem d_NI_unpair_38 : DR b_NI_unpair 38 (.return_) 1 39 := ⟨by decide +kernel, rfl⟩
set_option maxRecDepth 20000 in
theorem B_NI_unpair {G : MCx} (hC : C0 G "AccusedChoose$Night" b_NI_unpair 5 2) {t0 : Nat} (h0 : isNI t0) (a1 : Int32) (a2 : Int32) (a3 : Int32) (a4 : Int32) (s : St) : VO G (RV G b_NI_unpair) (F_NI_unpair t0 a1 a2 a3 a4 s) 0 [(0, .ref (gad G t0)), (1, .int a1), (2, .int a2), (3, .int a3), (4, .int a4)] [] s := by
  unfold F_NI_unpair
  refine VO_aload hC d_NI_unpair_0 0 rfl ?_
  refine VO_getr (r := (t0 + 6)) hC fl_NI_27 (sh_NI h0) rfl d_NI_unpair_1 ?_
  refine VO_iload hC d_NI_unpair_4 1 rfl ?_
  refine VO_iload hC d_NI_unpair_5 3 rfl ?_
  refine VO_callNV hC [.ref (gad G (t0 + 6)), .int a1, .int a3] [] nl_NI_51 d_NI_unpair_6 ys_AC_put (fun o h => M_AC_put hC.inj (ia_NI6 h0) h) (by decide) rfl rfl (Nat.le_of_ble_eq_true rfl) (fun s1 => ?_)
  refine VO_aload hC d_NI_unpair_9 0 rfl ?_
  refine VO_getr (r := (t0 + 6)) hC fl_NI_27 (sh_NI h0) rfl d_NI_unpair_10 ?_
  refine VO_iload hC d_NI_unpair_13 2 rfl ?_
  refine VO_iload hC d_NI_unpair_14 4 rfl ?_
  refine VO_callNV hC [.ref (gad G (t0 + 6)), .int a2, .int a4] [] nl_NI_51 d_NI_unpair_16 ys_AC_put (fun o h => M_AC_put hC.inj (ia_NI6 h0) h) (by decide) rfl rfl (Nat.le_of_ble_eq_true rfl) (fun s2 => ?_)
  refine VO_aload hC d_NI_unpair_19 0 rfl ?_
  refine VO_getr (r := (t0 + 6)) hC fl_NI_27 (sh_NI h0) rfl d_NI_unpair_20 ?_
  refine VO_iload hC d_NI_unpair_23 3 rfl ?_
  refine VO_iload hC d_NI_unpair_24 1 rfl ?_
  refine VO_callNV hC [.ref (gad G (t0 + 6)), .int a3, .int a1] [] nl_NI_51 d_NI_unpair_25 ys_AC_put (fun o h => M_AC_put hC.inj (ia_NI6 h0) h) (by decide) rfl rfl (Nat.le_of_ble_eq_true rfl) (fun s3 => ?_)
  refine VO_aload hC d_NI_unpair_28 0 rfl ?_
  refine VO_getr (r := (t0 + 6)) hC fl_NI_27 (sh_NI h0) rfl d_NI_unpair_29 ?_
  refine VO_iload hC d_NI_unpair_32 4 rfl ?_
  refine VO_iload hC d_NI_unpair_34 2 rfl ?_
  refine VO_callNV hC [.ref (gad G (t0 + 6)), .int a4, .int a2] [] nl_NI_51 d_NI_unpair_35 ys_AC_put (fun o h => M_AC_put hC.inj (ia_NI6 h0) h) (by decide) rfl rfl (Nat.le_of_ble_eq_true rfl) (fun s4 => ?_)
  exact VO_return d_NI_unpair_38
set_option maxRecDepth 20000 in
theorem M_NI_unpair {l : Launch} {D : va_G} {ad : Nat → Nat} {cI cL : ClassId} (hj : Inj ad) {t0 : Nat} (h0 : isNI t0) {a1 : Int32} {a2 : Int32} {a3 : Int32} {a4 : Int32} {s : St} {o : St} (h : F_NI_unpair t0 a1 a2 a3 a4 s = some o) : Cn l D ad cI cL y_NI_unpair b_NI_unpair 5 none 2 [.ref (ad t0), .int a1, .int a2, .int a3, .int a4] s none o := by
  refine Cn_ofV hj (plainFor_of_name (by decide)) (Nat.le_of_ble_eq_true rfl) [(0, .ref (ad t0)), (1, .int a1), (2, .int a2), (3, .int a3), (4, .int a4)] rfl (fun G hC e1 e2 e3 e4 e5 hR => ?_)
  subst e1; subst e2; subst e3; subst e4; subst e5
  exact B_NI_unpair hC h0 a1 a2 a3 a4 s o h hR
theorem d_NI_mayBits_0 : PCi b_NI_mayBits 0 0 1 := Or.inl ⟨0, by decide +kernel, by decide, rfl⟩
theorem d_NI_mayBits_1 : PSi b_NI_mayBits 1 2 2 := Or.inl ⟨2, by decide +kernel, rfl, rfl⟩
theorem d_NI_mayBits_2 : PCi b_NI_mayBits 2 0 3 := Or.inl ⟨0, by decide +kernel, by decide, rfl⟩
theorem d_NI_mayBits_3 : PSi b_NI_mayBits 3 3 4 := Or.inl ⟨3, by decide +kernel, rfl, rfl⟩
theorem d_NI_mayBits_4 : PLi b_NI_mayBits 4 3 5 := Or.inl ⟨3, by decide +kernel, rfl, rfl⟩
theorem d_NI_mayBits_5 : PLa b_NI_mayBits 5 0 6 := Or.inl ⟨0, by decide +kernel, rfl, rfl⟩
theorem d_NI_mayBits_6 : DR b_NI_mayBits 6 (.getfield 36) 3 9 := ⟨by decide +kernel, rfl⟩
theorem d_NI_mayBits_9 : DJ b_NI_mayBits 9 (.if_icmp .ge) 12 34 := ⟨25, by decide +kernel, rfl, by decide⟩
theorem d_NI_mayBits_12 : PLa b_NI_mayBits 12 0 13 := Or.inl ⟨0, by decide +kernel, rfl, rfl⟩
theorem d_NI_mayBits_13 : PLi b_NI_mayBits 13 1 14 := Or.inl ⟨1, by decide +kernel, rfl, rfl⟩
theorem d_NI_mayBits_14 : PLi b_NI_mayBits 14 3 15 := Or.inl ⟨3, by decide +kernel, rfl, rfl⟩
theorem d_NI_mayBits_15 : DR b_NI_mayBits 15 (.invokevirtual 80) 3 18 := ⟨by decide +kernel, rfl⟩
theorem d_NI_mayBits_18 : DJ b_NI_mayBits 18 (.ifCond .eq) 21 28 := ⟨10, by decide +kernel, rfl, by decide⟩
theorem d_NI_mayBits_21 : PLi b_NI_mayBits 21 2 22 := Or.inl ⟨2, by decide +kernel, rfl, rfl⟩
theorem d_NI_mayBits_22 : PLi b_NI_mayBits 22 3 23 := Or.inl ⟨3, by decide +kernel, rfl, rfl⟩
theorem d_NI_mayBits_23 : DR b_NI_mayBits 23 (.invokestatic 69) 3 26 := ⟨by decide +kernel, rfl⟩
theorem d_NI_mayBits_26 : DR b_NI_mayBits 26 (.ior) 1 27 := ⟨by decide +kernel, rfl⟩
theorem d_NI_mayBits_27 : PSi b_NI_mayBits 27 2 28 := Or.inl ⟨2, by decide +kernel, rfl, rfl⟩
theorem d_NI_mayBits_28 : DR b_NI_mayBits 28 (.iinc 3 1) 3 31 := ⟨by decide +kernel, rfl⟩
theorem d_NI_mayBits_31 : DJ b_NI_mayBits 31 .goto 34 4 := ⟨-27, by decide +kernel, rfl, by decide⟩
theorem d_NI_mayBits_34 : PLi b_NI_mayBits 34 2 35 := Or.inl ⟨2, by decide +kernel, rfl, rfl⟩
theorem d_NI_mayBits_35 : DR b_NI_mayBits 35 (.ireturn) 1 36 := ⟨by decide +kernel, rfl⟩
set_option maxRecDepth 20000 in
theorem B_NI_mayBits_28 {G : MCx} (hC : C0 G "AccusedChoose$Night" b_NI_mayBits 4 4) {t0 : Nat} (h0 : isNI t0) {v1 : Int32} (K4 : Int32 × Int32 × St → Option (Int32 × St)) (hK4 : ∀ (w2 : Int32) (w3 : Int32) (s : St), VO G (RI G b_NI_mayBits) (K4 (w2, w3, s)) 4 [(0, .ref (gad G t0)), (1, .int v1), (2, .int w2), (3, .int w3)] [] s) (v2 : Int32) (v3 : Int32) (s : St) : VO G (RI G b_NI_mayBits) (F_NI_mayBits_28 t0 K4 v1 v2 v3 s) 28 [(0, .ref (gad G t0)), (1, .int v1), (2, .int v2), (3, .int v3)] [] s := by
  unfold F_NI_mayBits_28
  refine VO_iinc hC d_NI_mayBits_28 3 rfl (by decide : Int32.ofInt 1 = 1) [(0, .ref (gad G t0)), (1, .int v1), (2, .int v2)] rfl (by decide) ?_
  refine VO_goto hC d_NI_mayBits_31 ?_
  exact VO_sub [1, 2, 3, 0] rfl (hK4 v2 (v3 + 1) s)
set_option maxRecDepth 20000 in
theorem BH_NI_mayBits_4 {G : MCx} (hC : C0 G "AccusedChoose$Night" b_NI_mayBits 4 4) {t0 : Nat} (h0 : isNI t0) {v1 : Int32} (K4 : Int32 × Int32 × St → Option (Int32 × St)) (hK4 : ∀ (w2 : Int32) (w3 : Int32) (s : St), VO G (RI G b_NI_mayBits) (K4 (w2, w3, s)) 4 [(0, .ref (gad G t0)), (1, .int v1), (2, .int w2), (3, .int w3)] [] s) (v2 : Int32) (v3 : Int32) (s : St) : VO G (RI G b_NI_mayBits) (H_NI_mayBits_4 t0 v1 K4 v2 v3 s) 4 [(0, .ref (gad G t0)), (1, .int v1), (2, .int v2), (3, .int v3)] [] s := by
  unfold H_NI_mayBits_4
  refine VO_iload hC d_NI_mayBits_4 3 rfl ?_
  refine VO_aload hC d_NI_mayBits_5 0 rfl ?_
  refine VO_geti hC fl_NI_36 (sh_NI h0) rfl d_NI_mayBits_6 ?_
  refine VO_icmp_ge hC d_NI_mayBits_9 (fun _ => ?_) (fun _ => ?_)
  · refine VO_iload hC d_NI_mayBits_34 2 rfl ?_
    exact VO_ireturn d_NI_mayBits_35
  · refine VO_aload hC d_NI_mayBits_12 0 rfl ?_
    refine VO_iload hC d_NI_mayBits_13 1 rfl ?_
    refine VO_iload hC d_NI_mayBits_14 3 rfl ?_
    refine VO_callVI hC [.int v1, .int v3] [] ml_NI_80 d_NI_mayBits_15 yv_NI_may (sh_NI h0) rfl rfl (fun o h => M_NI_may hC.inj h0 h) (by decide) rfl rfl (Nat.le_of_ble_eq_true rfl) (fun o1 => ?_)
    refine VO_if_eq hC d_NI_mayBits_18 (fun _ => ?_) (fun _ => ?_)
    · exact (B_NI_mayBits_28 hC h0 K4 hK4 v2 v3 o1.2)
    · refine VO_iload hC d_NI_mayBits_21 2 rfl ?_
      refine VO_iload hC d_NI_mayBits_22 3 rfl ?_
      refine VO_callNI hC [.int v3] [.int v2] nl_NI_69 d_NI_mayBits_23 ys_AC_bit (fun o h => M_AC_bit hC.inj h) (by decide) rfl rfl (Nat.le_of_ble_eq_true rfl) (fun o2 => ?_)
      refine VO_ior hC d_NI_mayBits_26 ?_
      refine VO_istoreB hC d_NI_mayBits_27 [(0, .ref (gad G t0)), (1, .int v1), (3, .int v3)] rfl (by decide) (fun x3 => ?_)
      exact VO_sub [1, 2, 0, 3] rfl (B_NI_mayBits_28 hC h0 K4 hK4 x3 v3 o2.2)
set_option maxRecDepth 20000 in
theorem B_NI_mayBits_4 {G : MCx} (hC : C0 G "AccusedChoose$Night" b_NI_mayBits 4 4) {t0 : Nat} (h0 : isNI t0) (v1 : Int32) (v2 : Int32) (v3 : Int32) (s : St) : VO G (RI G b_NI_mayBits) (F_NI_mayBits_4 t0 v1 v2 v3 s) 4 [(0, .ref (gad G t0)), (1, .int v1), (2, .int v2), (3, .int v3)] [] s := by
  exact VO_fix (G_NI_mayBits_4 t0 v1) 4 (fun q => [(0, .ref (gad G t0)), (1, .int v1), (2, .int q.1), (3, .int q.2.1)]) (fun q => q.2.2) (fun K hK q => BH_NI_mayBits_4 hC h0 K (fun w2 w3 s => hK (w2, w3, s)) q.1 q.2.1 q.2.2) FUEL (v2, v3, s)
set_option maxRecDepth 20000 in
theorem B_NI_mayBits {G : MCx} (hC : C0 G "AccusedChoose$Night" b_NI_mayBits 4 4) {t0 : Nat} (h0 : isNI t0) (a1 : Int32) (s : St) : VO G (RI G b_NI_mayBits) (F_NI_mayBits t0 a1 s) 0 [(0, .ref (gad G t0)), (1, .int a1)] [] s := by
  unfold F_NI_mayBits
  refine VO_const hC d_NI_mayBits_0 ?_
  refine VO_istore hC d_NI_mayBits_1 [(0, .ref (gad G t0)), (1, .int a1)] rfl (by decide) ?_
  refine VO_const hC d_NI_mayBits_2 ?_
  refine VO_istore hC d_NI_mayBits_3 [(2, .int (0 : Int32)), (0, .ref (gad G t0)), (1, .int a1)] rfl (by decide) ?_
  exact VO_sub [2, 3, 1, 0] rfl (B_NI_mayBits_4 hC h0 a1 (0 : Int32) (0 : Int32) s)
set_option maxRecDepth 20000 in
theorem M_NI_mayBits {l : Launch} {D : va_G} {ad : Nat → Nat} {cI cL : ClassId} (hj : Inj ad) {t0 : Nat} (h0 : isNI t0) {a1 : Int32} {s : St} {o : Int32 × St} (h : F_NI_mayBits t0 a1 s = some o) : Cn l D ad cI cL y_NI_mayBits b_NI_mayBits 4 (some .int) 4 [.ref (ad t0), .int a1] s (some (.int o.1)) o.2 := by
  refine Cn_ofI hj (plainFor_of_name (by decide)) (Nat.le_of_ble_eq_true rfl) [(0, .ref (ad t0)), (1, .int a1)] rfl (fun G hC e1 e2 e3 e4 e5 hR => ?_)
  subst e1; subst e2; subst e3; subst e4; subst e5
  exact B_NI_mayBits hC h0 a1 s o h hR
