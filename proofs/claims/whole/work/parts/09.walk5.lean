theorem d_AC_clear_0 : PLa b_AC_clear 0 0 1 := Or.inl ⟨0, by decide +kernel, rfl, rfl⟩
theorem d_AC_clear_1 : DR b_AC_clear 1 (.getfield 344) 3 4 := ⟨by decide +kernel, rfl⟩
theorem d_AC_clear_4 : PSi b_AC_clear 4 1 5 := Or.inl ⟨1, by decide +kernel, rfl, rfl⟩
theorem d_AC_clear_5 : PLa b_AC_clear 5 0 6 := Or.inl ⟨0, by decide +kernel, rfl, rfl⟩
theorem d_AC_clear_6 : PCi b_AC_clear 6 0 7 := Or.inl ⟨0, by decide +kernel, by decide, rfl⟩
theorem d_AC_clear_7 : DR b_AC_clear 7 (.putfield 344) 3 10 := ⟨by decide +kernel, rfl⟩
theorem d_AC_clear_10 : PLi b_AC_clear 10 1 11 := Or.inl ⟨1, by decide +kernel, rfl, rfl⟩
theorem d_AC_clear_11 : DR b_AC_clear 11 (.ireturn) 1 12 := ⟨by decide +kernel, rfl⟩
set_option maxRecDepth 20000 in
theorem B_AC_clear {G : MCx} (hC : C0 G "AccusedChoose" b_AC_clear 2 1) (s : St) : VO G (RI G b_AC_clear) (F_AC_clear s) 0 [(0, .ref (gad G 0))] [] s := by
  unfold F_AC_clear
  refine VO_aload hC d_AC_clear_0 0 rfl ?_
  refine VO_geti hC fl_AC_344 sh_AC rfl d_AC_clear_1 ?_
  refine VO_istoreB hC d_AC_clear_4 [(0, .ref (gad G 0))] rfl (by decide) (fun x1 => ?_)
  refine VO_aload hC d_AC_clear_5 1 rfl ?_
  refine VO_const hC d_AC_clear_6 ?_
  refine VO_puti hC fw_AC_344 sh_AC rfl d_AC_clear_7 (fun s2 => ?_)
  refine VO_iload hC d_AC_clear_10 0 rfl ?_
  exact VO_ireturn d_AC_clear_11
set_option maxRecDepth 20000 in
theorem M_AC_clear {l : Launch} {D : va_G} {ad : Nat → Nat} {cI cL : ClassId} (hj : Inj ad) {s : St} {o : Int32 × St} (h : F_AC_clear s = some o) : Cn l D ad cI cL y_AC_clear b_AC_clear 2 (some .int) 1 [.ref (ad 0)] s (some (.int o.1)) o.2 := by
  refine Cn_ofI hj (plainFor_of_name (by decide)) (Nat.le_of_ble_eq_true rfl) [(0, .ref (ad 0))] rfl (fun G hC e1 e2 e3 e4 e5 hR => ?_)
  subst e1; subst e2; subst e3; subst e4; subst e5
  exact B_AC_clear hC s o h hR
theorem d_AC_lots_0 : PLi b_AC_lots 0 1 1 := Or.inl ⟨1, by decide +kernel, rfl, rfl⟩
theorem d_AC_lots_1 : PCi b_AC_lots 1 1 2 := Or.inl ⟨1, by decide +kernel, by decide, rfl⟩
theorem d_AC_lots_2 : DJ b_AC_lots 2 (.if_icmp .ge) 5 12 := ⟨10, by decide +kernel, rfl, by decide⟩
theorem d_AC_lots_5 : PLa b_AC_lots 5 0 6 := Or.inl ⟨0, by decide +kernel, rfl, rfl⟩
theorem d_AC_lots_6 : PCi b_AC_lots 6 (-4) 8 := Or.inr (Or.inl ⟨(-4), by decide +kernel, by decide, rfl⟩)
theorem d_AC_lots_8 : DR b_AC_lots 8 (.invokevirtual 90) 3 11 := ⟨by decide +kernel, rfl⟩
theorem d_AC_lots_11 : DR b_AC_lots 11 (.ireturn) 1 12 := ⟨by decide +kernel, rfl⟩
theorem d_AC_lots_12 : PLi b_AC_lots 12 1 13 := Or.inl ⟨1, by decide +kernel, rfl, rfl⟩
theorem d_AC_lots_13 : PCi b_AC_lots 13 20 15 := Or.inr (Or.inl ⟨20, by decide +kernel, by decide, rfl⟩)
theorem d_AC_lots_15 : DJ b_AC_lots 15 (.if_icmp .le) 18 25 := ⟨10, by decide +kernel, rfl, by decide⟩
theorem d_AC_lots_18 : PLa b_AC_lots 18 0 19 := Or.inl ⟨0, by decide +kernel, rfl, rfl⟩
theorem d_AC_lots_19 : PCi b_AC_lots 19 (-6) 21 := Or.inr (Or.inl ⟨(-6), by decide +kernel, by decide, rfl⟩)
theorem d_AC_lots_21 : DR b_AC_lots 21 (.invokevirtual 90) 3 24 := ⟨by decide +kernel, rfl⟩
theorem d_AC_lots_24 : DR b_AC_lots 24 (.ireturn) 1 25 := ⟨by decide +kernel, rfl⟩
theorem d_AC_lots_25 : PLi b_AC_lots 25 3 26 := Or.inl ⟨3, by decide +kernel, rfl, rfl⟩
theorem d_AC_lots_26 : DJ b_AC_lots 26 (.ifCond .lt) 29 34 := ⟨8, by decide +kernel, rfl, by decide⟩
theorem d_AC_lots_29 : PLi b_AC_lots 29 3 30 := Or.inl ⟨3, by decide +kernel, rfl, rfl⟩
theorem d_AC_lots_30 : PCi b_AC_lots 30 1 31 := Or.inl ⟨1, by decide +kernel, by decide, rfl⟩
theorem d_AC_lots_31 : DJ b_AC_lots 31 (.if_icmp .le) 34 41 := ⟨10, by decide +kernel, rfl, by decide⟩
theorem d_AC_lots_34 : PLa b_AC_lots 34 0 35 := Or.inl ⟨0, by decide +kernel, rfl, rfl⟩
theorem d_AC_lots_35 : PCi b_AC_lots 35 (-2) 37 := Or.inr (Or.inl ⟨(-2), by decide +kernel, by decide, rfl⟩)
theorem d_AC_lots_37 : DR b_AC_lots 37 (.invokevirtual 90) 3 40 := ⟨by decide +kernel, rfl⟩
theorem d_AC_lots_40 : DR b_AC_lots 40 (.ireturn) 1 41 := ⟨by decide +kernel, rfl⟩
theorem d_AC_lots_41 : PLi b_AC_lots 41 2 42 := Or.inl ⟨2, by decide +kernel, rfl, rfl⟩
theorem d_AC_lots_42 : PSi b_AC_lots 42 4 44 := Or.inr ⟨by decide +kernel, rfl⟩
theorem d_AC_lots_44 : PCi b_AC_lots 44 0 45 := Or.inl ⟨0, by decide +kernel, by decide, rfl⟩
theorem d_AC_lots_45 : PSi b_AC_lots 45 5 47 := Or.inr ⟨by decide +kernel, rfl⟩
theorem d_AC_lots_47 : PCi b_AC_lots 47 0 48 := Or.inl ⟨0, by decide +kernel, by decide, rfl⟩
theorem d_AC_lots_48 : PSi b_AC_lots 48 6 50 := Or.inr ⟨by decide +kernel, rfl⟩
theorem d_AC_lots_50 : PLa b_AC_lots 50 0 51 := Or.inl ⟨0, by decide +kernel, rfl, rfl⟩
theorem d_AC_lots_51 : DR b_AC_lots 51 (.getfield 19) 3 54 := ⟨by decide +kernel, rfl⟩
theorem d_AC_lots_54 : PLa b_AC_lots 54 0 55 := Or.inl ⟨0, by decide +kernel, rfl, rfl⟩
theorem d_AC_lots_55 : DR b_AC_lots 55 (.getfield 10) 3 58 := ⟨by decide +kernel, rfl⟩
theorem d_AC_lots_58 : DR b_AC_lots 58 (.invokevirtual 101) 3 61 := ⟨by decide +kernel, rfl⟩
theorem d_AC_lots_61 : PCi b_AC_lots 61 0 62 := Or.inl ⟨0, by decide +kernel, by decide, rfl⟩
theorem d_AC_lots_62 : PSi b_AC_lots 62 7 64 := Or.inr ⟨by decide +kernel, rfl⟩
theorem d_AC_lots_64 : PLi b_AC_lots 64 7 66 := Or.inr ⟨by decide +kernel, rfl⟩
theorem d_AC_lots_66 : PLi b_AC_lots 66 1 67 := Or.inl ⟨1, by decide +kernel, rfl, rfl⟩
theorem d_AC_lots_67 : DJ b_AC_lots 67 (.if_icmp .ge) 70 159 := ⟨92, by decide +kernel, rfl, by decide⟩
theorem d_AC_lots_70 : PCi b_AC_lots 70 0 71 := Or.inl ⟨0, by decide +kernel, by decide, rfl⟩
theorem d_AC_lots_71 : PSi b_AC_lots 71 8 73 := Or.inr ⟨by decide +kernel, rfl⟩
theorem d_AC_lots_73 : PLi b_AC_lots 73 8 75 := Or.inr ⟨by decide +kernel, rfl⟩
theorem d_AC_lots_75 : PLa b_AC_lots 75 0 76 := Or.inl ⟨0, by decide +kernel, rfl, rfl⟩
theorem d_AC_lots_76 : DR b_AC_lots 76 (.getfield 19) 3 79 := ⟨by decide +kernel, rfl⟩
theorem d_AC_lots_79 : DR b_AC_lots 79 (.getfield 164) 3 82 := ⟨by decide +kernel, rfl⟩
theorem d_AC_lots_82 : DJ b_AC_lots 82 (.if_icmp .ge) 85 129 := ⟨47, by decide +kernel, rfl, by decide⟩
theorem d_AC_lots_85 : PLi b_AC_lots 85 4 87 := Or.inr ⟨by decide +kernel, rfl⟩
theorem d_AC_lots_87 : DR b_AC_lots 87 (.ldc_w 363) 3 90 := ⟨by decide +kernel, rfl⟩
theorem d_AC_lots_90 : DR b_AC_lots 90 (.imul) 1 91 := ⟨by decide +kernel, rfl⟩
theorem d_AC_lots_91 : PCi b_AC_lots 91 12345 94 := Or.inr (Or.inr ⟨12345, by decide +kernel, by decide, rfl⟩)
theorem d_AC_lots_94 : DR b_AC_lots 94 (.iadd) 1 95 := ⟨by decide +kernel, rfl⟩
theorem d_AC_lots_95 : PSi b_AC_lots 95 4 97 := Or.inr ⟨by decide +kernel, rfl⟩
theorem d_AC_lots_97 : PLa b_AC_lots 97 0 98 := Or.inl ⟨0, by decide +kernel, rfl, rfl⟩
theorem d_AC_lots_98 : DR b_AC_lots 98 (.getfield 19) 3 101 := ⟨by decide +kernel, rfl⟩
theorem d_AC_lots_101 : DR b_AC_lots 101 (.getfield 135) 3 104 := ⟨by decide +kernel, rfl⟩
theorem d_AC_lots_104 : PLi b_AC_lots 104 8 106 := Or.inr ⟨by decide +kernel, rfl⟩
theorem d_AC_lots_106 : PLi b_AC_lots 106 4 108 := Or.inr ⟨by decide +kernel, rfl⟩
theorem d_AC_lots_108 : DR b_AC_lots 108 (.ldc_w 364) 3 111 := ⟨by decide +kernel, rfl⟩
theorem d_AC_lots_111 : DR b_AC_lots 111 (.iand) 1 112 := ⟨by decide +kernel, rfl⟩
theorem d_AC_lots_112 : DR b_AC_lots 112 (.ldc_w 365) 3 115 := ⟨by decide +kernel, rfl⟩
theorem d_AC_lots_115 : DR b_AC_lots 115 (.idiv) 1 116 := ⟨by decide +kernel, rfl⟩
theorem d_AC_lots_116 : PCi b_AC_lots 116 128 119 := Or.inr (Or.inr ⟨128, by decide +kernel, by decide, rfl⟩)
theorem d_AC_lots_119 : DR b_AC_lots 119 (.irem) 1 120 := ⟨by decide +kernel, rfl⟩
theorem d_AC_lots_120 : DR b_AC_lots 120 (.invokestatic 310) 3 123 := ⟨by decide +kernel, rfl⟩
theorem d_AC_lots_123 : DR b_AC_lots 123 (.iinc 8 1) 3 126 := ⟨by decide +kernel, rfl⟩
theorem d_AC_lots_126 : DJ b_AC_lots 126 .goto 129 73 := ⟨-53, by decide +kernel, rfl, by decide⟩
theorem d_AC_lots_129 : PLi b_AC_lots 129 5 131 := Or.inr ⟨by decide +kernel, rfl⟩
theorem d_AC_lots_131 : PLa b_AC_lots 131 0 132 := Or.inl ⟨0, by decide +kernel, rfl, rfl⟩
theorem d_AC_lots_132 : DR b_AC_lots 132 (.invokevirtual 272) 3 135 := ⟨by decide +kernel, rfl⟩
theorem d_AC_lots_135 : DR b_AC_lots 135 (.iadd) 1 136 := ⟨by decide +kernel, rfl⟩
theorem d_AC_lots_136 : PSi b_AC_lots 136 5 138 := Or.inr ⟨by decide +kernel, rfl⟩
theorem d_AC_lots_138 : PLa b_AC_lots 138 0 139 := Or.inl ⟨0, by decide +kernel, rfl, rfl⟩
theorem d_AC_lots_139 : DR b_AC_lots 139 (.getfield 53) 3 142 := ⟨by decide +kernel, rfl⟩
theorem d_AC_lots_142 : DR b_AC_lots 142 (.getfield 210) 3 145 := ⟨by decide +kernel, rfl⟩
theorem d_AC_lots_145 : PCi b_AC_lots 145 (-9) 147 := Or.inr (Or.inl ⟨(-9), by decide +kernel, by decide, rfl⟩)
theorem d_AC_lots_147 : DJ b_AC_lots 147 (.if_icmp .ne) 150 153 := ⟨6, by decide +kernel, rfl, by decide⟩
theorem d_AC_lots_150 : DR b_AC_lots 150 (.iinc 6 1) 3 153 := ⟨by decide +kernel, rfl⟩
theorem d_AC_lots_153 : DR b_AC_lots 153 (.iinc 7 1) 3 156 := ⟨by decide +kernel, rfl⟩
theorem d_AC_lots_156 : DJ b_AC_lots 156 .goto 159 64 := ⟨-92, by decide +kernel, rfl, by decide⟩
theorem d_AC_lots_159 : PLi b_AC_lots 159 3 160 := Or.inl ⟨3, by decide +kernel, rfl, rfl⟩
theorem d_AC_lots_160 : DJ b_AC_lots 160 (.ifCond .ne) 163 168 := ⟨8, by decide +kernel, rfl, by decide⟩
theorem d_AC_lots_163 : PLi b_AC_lots 163 5 165 := Or.inr ⟨by decide +kernel, rfl⟩
theorem d_AC_lots_165 : DJ b_AC_lots 165 .goto 168 170 := ⟨5, by decide +kernel, rfl, by decide⟩
theorem d_AC_lots_168 : PLi b_AC_lots 168 6 170 := Or.inr ⟨by decide +kernel, rfl⟩
theorem d_AC_lots_170 : DR b_AC_lots 170 (.ireturn) 1 171 := ⟨by decide +kernel, rfl⟩
set_option maxRecDepth 20000 in
theorem B_AC_lots_34 {G : MCx} (hC : C0 G "AccusedChoose" b_AC_lots 9 6) (s : St) : VO G (RI G b_AC_lots) (F_AC_lots_34 s) 34 [(0, .ref (gad G 0))] [] s := by
  unfold F_AC_lots_34
  refine VO_aload hC d_AC_lots_34 0 rfl ?_
  refine VO_const hC d_AC_lots_35 ?_
  refine VO_callVI hC [.int (-2 : Int32)] [] ml_AC_90 d_AC_lots_37 yv_AC_refuse sh_AC rfl rfl (fun o h => M_AC_refuse hC.inj h) (by decide) rfl rfl (Nat.le_of_ble_eq_true rfl) (fun o1 => ?_)
  exact VO_ireturn d_AC_lots_40
set_option maxRecDepth 20000 in
theorem B_AC_lots_153 {G : MCx} (hC : C0 G "AccusedChoose" b_AC_lots 9 6) {v1 : Int32} {v3 : Int32} (K64 : Int32 × Int32 × Int32 × Int32 × St → Option (Int32 × St)) (hK64 : ∀ (w4 : Int32) (w5 : Int32) (w6 : Int32) (w7 : Int32) (s : St), VO G (RI G b_AC_lots) (K64 (w4, w5, w6, w7, s)) 64 [(0, .ref (gad G 0)), (1, .int v1), (3, .int v3), (4, .int w4), (5, .int w5), (6, .int w6), (7, .int w7)] [] s) (v4 : Int32) (v5 : Int32) (v6 : Int32) (v7 : Int32) (s : St) : VO G (RI G b_AC_lots) (F_AC_lots_153 K64 v1 v3 v4 v5 v6 v7 s) 153 [(0, .ref (gad G 0)), (1, .int v1), (3, .int v3), (4, .int v4), (5, .int v5), (6, .int v6), (7, .int v7)] [] s := by
  unfold F_AC_lots_153
  refine VO_iinc hC d_AC_lots_153 6 rfl (by decide : Int32.ofInt 1 = 1) [(0, .ref (gad G 0)), (1, .int v1), (3, .int v3), (4, .int v4), (5, .int v5), (6, .int v6)] rfl (by decide) ?_
  refine VO_goto hC d_AC_lots_156 ?_
  exact VO_sub [1, 2, 3, 4, 5, 6, 0] rfl (hK64 v4 v5 v6 (v7 + 1) s)
set_option maxRecDepth 20000 in
theorem BH_AC_lots_73 {G : MCx} (hC : C0 G "AccusedChoose" b_AC_lots 9 6) {v1 : Int32} {v3 : Int32} {v5 : Int32} {v6 : Int32} {v7 : Int32} (K64 : Int32 × Int32 × Int32 × Int32 × St → Option (Int32 × St)) (hK64 : ∀ (w4 : Int32) (w5 : Int32) (w6 : Int32) (w7 : Int32) (s : St), VO G (RI G b_AC_lots) (K64 (w4, w5, w6, w7, s)) 64 [(0, .ref (gad G 0)), (1, .int v1), (3, .int v3), (4, .int w4), (5, .int w5), (6, .int w6), (7, .int w7)] [] s) (K73 : Int32 × Int32 × St → Option (Int32 × St)) (hK73 : ∀ (w4 : Int32) (w8 : Int32) (s : St), VO G (RI G b_AC_lots) (K73 (w4, w8, s)) 73 [(0, .ref (gad G 0)), (1, .int v1), (3, .int v3), (4, .int w4), (5, .int v5), (6, .int v6), (7, .int v7), (8, .int w8)] [] s) (v4 : Int32) (v8 : Int32) (s : St) : VO G (RI G b_AC_lots) (H_AC_lots_73 K64 v1 v3 v5 v6 v7 K73 v4 v8 s) 73 [(0, .ref (gad G 0)), (1, .int v1), (3, .int v3), (4, .int v4), (5, .int v5), (6, .int v6), (7, .int v7), (8, .int v8)] [] s := by
  unfold H_AC_lots_73
  refine VO_iload hC d_AC_lots_73 7 rfl ?_
  refine VO_aload hC d_AC_lots_75 0 rfl ?_
  refine VO_getr (r := 19) hC fl_AC_19 sh_AC rfl d_AC_lots_76 ?_
  refine VO_geti hC fl_AC_164 (sh_NI isNI_19) rfl d_AC_lots_79 ?_
  refine VO_icmp_ge hC d_AC_lots_82 (fun _ => ?_) (fun _ => ?_)
  · refine VO_iload hC d_AC_lots_129 4 rfl ?_
    refine VO_aload hC d_AC_lots_131 0 rfl ?_
    refine VO_callVI hC [] [.int v5] ml_AC_272 d_AC_lots_132 yv_AC_tried sh_AC rfl rfl (fun o h => M_AC_tried hC.inj h) (by decide) rfl rfl (Nat.le_of_ble_eq_true rfl) (fun o3 => ?_)
    refine VO_iadd hC d_AC_lots_135 ?_
    refine VO_istoreB hC d_AC_lots_136 [(0, .ref (gad G 0)), (1, .int v1), (3, .int v3), (4, .int v4), (6, .int v6), (7, .int v7), (8, .int v8)] rfl (by decide) (fun x4 => ?_)
    refine VO_aload hC d_AC_lots_138 1 rfl ?_
    refine VO_getr (r := 43) hC fl_AC_53 sh_AC rfl d_AC_lots_139 ?_
    refine VO_geti hC fl_AC_210 (sh_MO isMO_43) rfl d_AC_lots_142 ?_
    refine VO_const hC d_AC_lots_145 ?_
    refine VO_icmp_ne hC d_AC_lots_147 (fun _ => ?_) (fun _ => ?_)
    · refine VO_iinc hC d_AC_lots_150 5 rfl (by decide : Int32.ofInt 1 = 1) [(5, .int x4), (0, .ref (gad G 0)), (1, .int v1), (3, .int v3), (4, .int v4), (7, .int v7), (8, .int v8)] rfl (by decide) ?_
      exact VO_sub [2, 3, 4, 5, 1, 0, 6] rfl (B_AC_lots_153 hC K64 hK64 v4 x4 (v6 + 1) v7 o3.2)
    · exact VO_sub [1, 2, 3, 4, 0, 5, 6] rfl (B_AC_lots_153 hC K64 hK64 v4 x4 v6 v7 o3.2)
  · refine VO_iload hC d_AC_lots_85 3 rfl ?_
    refine VO_ldcw hC k_AC_363 d_AC_lots_87 ?_
    refine VO_imul hC d_AC_lots_90 ?_
    refine VO_const hC d_AC_lots_91 ?_
    refine VO_iadd hC d_AC_lots_94 ?_
    refine VO_istoreB hC d_AC_lots_95 [(0, .ref (gad G 0)), (1, .int v1), (3, .int v3), (5, .int v5), (6, .int v6), (7, .int v7), (8, .int v8)] rfl (by decide) (fun x5 => ?_)
    refine VO_aload hC d_AC_lots_97 1 rfl ?_
    refine VO_getr (r := 19) hC fl_AC_19 sh_AC rfl d_AC_lots_98 ?_
    refine VO_getr (r := 23) hC fl_AC_135 (sh_NI isNI_19) rfl d_AC_lots_101 ?_
    refine VO_iload hC d_AC_lots_104 7 rfl ?_
    refine VO_iload hC d_AC_lots_106 0 rfl ?_
    refine VO_ldcw hC k_AC_364 d_AC_lots_108 ?_
    refine VO_iand hC d_AC_lots_111 ?_
    refine VO_ldcw hC k_AC_365 d_AC_lots_112 ?_
    refine VO_idivC hC d_AC_lots_115 (by decide) ?_
    refine VO_const hC d_AC_lots_116 ?_
    refine VO_iremC hC d_AC_lots_119 (by decide) ?_
    refine VO_callSV hC [.ref (gad G 23), .int v8, .int (((x5 &&& (2147483647 : Int32)) / (65536 : Int32)) - ((x5 &&& (2147483647 : Int32)) / (65536 : Int32)) / (128 : Int32) * (128 : Int32))] [] ml_AC_310 d_AC_lots_120 ys_AC_put (fun o h => M_AC_put hC.inj ia_23 h) (by decide) rfl rfl (Nat.le_of_ble_eq_true rfl) (fun s6 => ?_)
    refine VO_iinc hC d_AC_lots_123 7 rfl (by decide : Int32.ofInt 1 = 1) [(4, .int x5), (0, .ref (gad G 0)), (1, .int v1), (3, .int v3), (5, .int v5), (6, .int v6), (7, .int v7)] rfl (by decide) ?_
    refine VO_goto hC d_AC_lots_126 ?_
    exact VO_sub [2, 3, 4, 1, 5, 6, 7, 0] rfl (hK73 x5 (v8 + 1) s6)
set_option maxRecDepth 20000 in
theorem B_AC_lots_73 {G : MCx} (hC : C0 G "AccusedChoose" b_AC_lots 9 6) {v1 : Int32} {v3 : Int32} (K64 : Int32 × Int32 × Int32 × Int32 × St → Option (Int32 × St)) (hK64 : ∀ (w4 : Int32) (w5 : Int32) (w6 : Int32) (w7 : Int32) (s : St), VO G (RI G b_AC_lots) (K64 (w4, w5, w6, w7, s)) 64 [(0, .ref (gad G 0)), (1, .int v1), (3, .int v3), (4, .int w4), (5, .int w5), (6, .int w6), (7, .int w7)] [] s) (v4 : Int32) (v5 : Int32) (v6 : Int32) (v7 : Int32) (v8 : Int32) (s : St) : VO G (RI G b_AC_lots) (F_AC_lots_73 K64 v1 v3 v4 v5 v6 v7 v8 s) 73 [(0, .ref (gad G 0)), (1, .int v1), (3, .int v3), (4, .int v4), (5, .int v5), (6, .int v6), (7, .int v7), (8, .int v8)] [] s := by
  exact VO_fix (G_AC_lots_73 K64 v1 v3 v5 v6 v7) 73 (fun q => [(0, .ref (gad G 0)), (1, .int v1), (3, .int v3), (4, .int q.1), (5, .int v5), (6, .int v6), (7, .int v7), (8, .int q.2.1)]) (fun q => q.2.2) (fun K hK q => BH_AC_lots_73 hC K64 hK64 K (fun w4 w8 s => hK (w4, w8, s)) q.1 q.2.1 q.2.2) FUEL (v4, v8, s)
set_option maxRecDepth 20000 in
theorem BH_AC_lots_64 {G : MCx} (hC : C0 G "AccusedChoose" b_AC_lots 9 6) {v1 : Int32} {v3 : Int32} (K64 : Int32 × Int32 × Int32 × Int32 × St → Option (Int32 × St)) (hK64 : ∀ (w4 : Int32) (w5 : Int32) (w6 : Int32) (w7 : Int32) (s : St), VO G (RI G b_AC_lots) (K64 (w4, w5, w6, w7, s)) 64 [(0, .ref (gad G 0)), (1, .int v1), (3, .int v3), (4, .int w4), (5, .int w5), (6, .int w6), (7, .int w7)] [] s) (v4 : Int32) (v5 : Int32) (v6 : Int32) (v7 : Int32) (s : St) : VO G (RI G b_AC_lots) (H_AC_lots_64 v1 v3 K64 v4 v5 v6 v7 s) 64 [(0, .ref (gad G 0)), (1, .int v1), (3, .int v3), (4, .int v4), (5, .int v5), (6, .int v6), (7, .int v7)] [] s := by
  unfold H_AC_lots_64
  refine VO_iload hC d_AC_lots_64 6 rfl ?_
  refine VO_iload hC d_AC_lots_66 1 rfl ?_
  refine VO_icmp_ge hC d_AC_lots_67 (fun _ => ?_) (fun _ => ?_)
  · refine VO_iload hC d_AC_lots_159 2 rfl ?_
    refine VO_if_ne hC d_AC_lots_160 (fun _ => ?_) (fun _ => ?_)
    · refine VO_iload hC d_AC_lots_163 4 rfl ?_
      refine VO_goto hC d_AC_lots_165 ?_
      exact VO_ireturn d_AC_lots_170
    · refine VO_iload hC d_AC_lots_168 5 rfl ?_
      exact VO_ireturn d_AC_lots_170
  · refine VO_const hC d_AC_lots_70 ?_
    refine VO_istore hC d_AC_lots_71 [(0, .ref (gad G 0)), (1, .int v1), (3, .int v3), (4, .int v4), (5, .int v5), (6, .int v6), (7, .int v7)] rfl (by decide) ?_
    exact VO_sub [1, 2, 3, 4, 5, 6, 7, 0] rfl (B_AC_lots_73 hC K64 hK64 v4 v5 v6 v7 (0 : Int32) s)
set_option maxRecDepth 20000 in
theorem B_AC_lots_64 {G : MCx} (hC : C0 G "AccusedChoose" b_AC_lots 9 6) (v1 : Int32) (v3 : Int32) (v4 : Int32) (v5 : Int32) (v6 : Int32) (v7 : Int32) (s : St) : VO G (RI G b_AC_lots) (F_AC_lots_64 v1 v3 v4 v5 v6 v7 s) 64 [(0, .ref (gad G 0)), (1, .int v1), (3, .int v3), (4, .int v4), (5, .int v5), (6, .int v6), (7, .int v7)] [] s := by
  exact VO_fix (G_AC_lots_64 v1 v3) 64 (fun q => [(0, .ref (gad G 0)), (1, .int v1), (3, .int v3), (4, .int q.1), (5, .int q.2.1), (6, .int q.2.2.1), (7, .int q.2.2.2.1)]) (fun q => q.2.2.2.2) (fun K hK q => BH_AC_lots_64 hC K (fun w4 w5 w6 w7 s => hK (w4, w5, w6, w7, s)) q.1 q.2.1 q.2.2.1 q.2.2.2.1 q.2.2.2.2) FUEL (v4, v5, v6, v7, s)
set_option maxRecDepth 20000 in
theorem B_AC_lots {G : MCx} (hC : C0 G "AccusedChoose" b_AC_lots 9 6) (a1 : Int32) (a2 : Int32) (a3 : Int32) (s : St) : VO G (RI G b_AC_lots) (F_AC_lots a1 a2 a3 s) 0 [(0, .ref (gad G 0)), (1, .int a1), (2, .int a2), (3, .int a3)] [] s := by
  unfold F_AC_lots
  refine VO_iload hC d_AC_lots_0 1 rfl ?_
  refine VO_const hC d_AC_lots_1 ?_
  refine VO_icmp_ge hC d_AC_lots_2 (fun _ => ?_) (fun _ => ?_)
  · refine VO_iload hC d_AC_lots_12 1 rfl ?_
    refine VO_const hC d_AC_lots_13 ?_
    refine VO_icmp_le hC d_AC_lots_15 (fun _ => ?_) (fun _ => ?_)
    · refine VO_iload hC d_AC_lots_25 3 rfl ?_
      refine VO_if_lt hC d_AC_lots_26 (fun _ => ?_) (fun _ => ?_)
      · exact VO_sub [0] rfl (B_AC_lots_34 hC s)
      · refine VO_iload hC d_AC_lots_29 3 rfl ?_
        refine VO_const hC d_AC_lots_30 ?_
        refine VO_icmp_le hC d_AC_lots_31 (fun _ => ?_) (fun _ => ?_)
        · refine VO_iload hC d_AC_lots_41 2 rfl ?_
          refine VO_istore hC d_AC_lots_42 [(0, .ref (gad G 0)), (1, .int a1), (2, .int a2), (3, .int a3)] rfl (by decide) ?_
          refine VO_const hC d_AC_lots_44 ?_
          refine VO_istore hC d_AC_lots_45 [(4, .int a2), (0, .ref (gad G 0)), (1, .int a1), (2, .int a2), (3, .int a3)] rfl (by decide) ?_
          refine VO_const hC d_AC_lots_47 ?_
          refine VO_istore hC d_AC_lots_48 [(5, .int (0 : Int32)), (4, .int a2), (0, .ref (gad G 0)), (1, .int a1), (2, .int a2), (3, .int a3)] rfl (by decide) ?_
          refine VO_aload hC d_AC_lots_50 3 rfl ?_
          refine VO_getr (r := 19) hC fl_AC_19 sh_AC rfl d_AC_lots_51 ?_
          refine VO_aload hC d_AC_lots_54 3 rfl ?_
          refine VO_getr (r := 1) hC fl_AC_10 sh_AC rfl d_AC_lots_55 ?_
          refine VO_callVV hC [.ref (gad G 1)] [] ml_AC_101 d_AC_lots_58 yv_NI_copy (sh_NI isNI_19) rfl rfl (fun o h => M_NI_copy hC.inj isNI_19 isNI_1 h) (by decide) rfl rfl (Nat.le_of_ble_eq_true rfl) (fun s2 => ?_)
          refine VO_const hC d_AC_lots_61 ?_
          refine VO_istore hC d_AC_lots_62 [(6, .int (0 : Int32)), (5, .int (0 : Int32)), (4, .int a2), (0, .ref (gad G 0)), (1, .int a1), (2, .int a2), (3, .int a3)] rfl (by decide) ?_
          exact VO_sub [4, 5, 7, 3, 2, 1, 0] rfl (B_AC_lots_64 hC a1 a3 a2 (0 : Int32) (0 : Int32) (0 : Int32) s2)
        · exact VO_sub [0] rfl (B_AC_lots_34 hC s)
    · refine VO_aload hC d_AC_lots_18 0 rfl ?_
      refine VO_const hC d_AC_lots_19 ?_
      refine VO_callVI hC [.int (-6 : Int32)] [] ml_AC_90 d_AC_lots_21 yv_AC_refuse sh_AC rfl rfl (fun o h => M_AC_refuse hC.inj h) (by decide) rfl rfl (Nat.le_of_ble_eq_true rfl) (fun o7 => ?_)
      exact VO_ireturn d_AC_lots_24
  · refine VO_aload hC d_AC_lots_5 0 rfl ?_
    refine VO_const hC d_AC_lots_6 ?_
    refine VO_callVI hC [.int (-4 : Int32)] [] ml_AC_90 d_AC_lots_8 yv_AC_refuse sh_AC rfl rfl (fun o h => M_AC_refuse hC.inj h) (by decide) rfl rfl (Nat.le_of_ble_eq_true rfl) (fun o8 => ?_)
    exact VO_ireturn d_AC_lots_11
set_option maxRecDepth 20000 in
theorem M_AC_lots {l : Launch} {D : va_G} {ad : Nat → Nat} {cI cL : ClassId} (hj : Inj ad) {a1 : Int32} {a2 : Int32} {a3 : Int32} {s : St} {o : Int32 × St} (h : F_AC_lots a1 a2 a3 s = some o) : Cn l D ad cI cL y_AC_lots b_AC_lots 9 (some .int) 6 [.ref (ad 0), .int a1, .int a2, .int a3] s (some (.int o.1)) o.2 := by
  refine Cn_ofI hj (plainFor_of_name (by decide)) (Nat.le_of_ble_eq_true rfl) [(0, .ref (ad 0)), (1, .int a1), (2, .int a2), (3, .int a3)] rfl (fun G hC e1 e2 e3 e4 e5 hR => ?_)
  subst e1; subst e2; subst e3; subst e4; subst e5
  exact B_AC_lots hC a1 a2 a3 s o h hR
theorem d_AC_image_0 : PLa b_AC_image 0 0 1 := Or.inl ⟨0, by decide +kernel, rfl, rfl⟩
theorem d_AC_image_1 : DR b_AC_image 1 (.getfield 16) 3 4 := ⟨by decide +kernel, rfl⟩
theorem d_AC_image_4 : PLa b_AC_image 4 0 5 := Or.inl ⟨0, by decide +kernel, rfl, rfl⟩
theorem d_AC_image_5 : DR b_AC_image 5 (.getfield 10) 3 8 := ⟨by decide +kernel, rfl⟩
theorem d_AC_image_8 : DR b_AC_image 8 (.invokevirtual 101) 3 11 := ⟨by decide +kernel, rfl⟩
theorem d_AC_image_11 : PLa b_AC_image 11 0 12 := Or.inl ⟨0, by decide +kernel, rfl, rfl⟩
theorem d_AC_image_12 : PCi b_AC_image 12 1 13 := Or.inl ⟨1, by decide +kernel, by decide, rfl⟩
theorem d_AC_image_13 : DR b_AC_image 13 (.putfield 366) 3 16 := ⟨by decide +kernel, rfl⟩
theorem d_AC_image_16 : PLa b_AC_image 16 0 17 := Or.inl ⟨0, by decide +kernel, rfl, rfl⟩
theorem d_AC_image_17 : DR b_AC_image 17 (.getfield 10) 3 20 := ⟨by decide +kernel, rfl⟩
theorem d_AC_image_20 : DR b_AC_image 20 (.getfield 164) 3 23 := ⟨by decide +kernel, rfl⟩
theorem d_AC_image_23 : DR b_AC_image 23 (.ireturn) 1 24 := ⟨by decide +kernel, rfl⟩
set_option maxRecDepth 20000 in
theorem B_AC_image {G : MCx} (hC : C0 G "AccusedChoose" b_AC_image 1 4) (s : St) : VO G (RI G b_AC_image) (F_AC_image s) 0 [(0, .ref (gad G 0))] [] s := by
  unfold F_AC_image
  refine VO_aload hC d_AC_image_0 0 rfl ?_
  refine VO_getr (r := 10) hC fl_AC_16 sh_AC rfl d_AC_image_1 ?_
  refine VO_aload hC d_AC_image_4 0 rfl ?_
  refine VO_getr (r := 1) hC fl_AC_10 sh_AC rfl d_AC_image_5 ?_
  refine VO_callVV hC [.ref (gad G 1)] [] ml_AC_101 d_AC_image_8 yv_NI_copy (sh_NI isNI_10) rfl rfl (fun o h => M_NI_copy hC.inj isNI_10 isNI_1 h) (by decide) rfl rfl (Nat.le_of_ble_eq_true rfl) (fun s1 => ?_)
  refine VO_aload hC d_AC_image_11 0 rfl ?_
  refine VO_const hC d_AC_image_12 ?_
  refine VO_putz hC fw_AC_366 sh_AC rfl d_AC_image_13 (fun s2 => ?_)
  refine VO_aload hC d_AC_image_16 0 rfl ?_
  refine VO_getr (r := 1) hC fl_AC_10 sh_AC rfl d_AC_image_17 ?_
  refine VO_geti hC fl_AC_164 (sh_NI isNI_1) rfl d_AC_image_20 ?_
  exact VO_ireturn d_AC_image_23
set_option maxRecDepth 20000 in
theorem M_AC_image {l : Launch} {D : va_G} {ad : Nat → Nat} {cI cL : ClassId} (hj : Inj ad) {s : St} {o : Int32 × St} (h : F_AC_image s = some o) : Cn l D ad cI cL y_AC_image b_AC_image 1 (some .int) 4 [.ref (ad 0)] s (some (.int o.1)) o.2 := by
  refine Cn_ofI hj (plainFor_of_name (by decide)) (Nat.le_of_ble_eq_true rfl) [(0, .ref (ad 0))] rfl (fun G hC e1 e2 e3 e4 e5 hR => ?_)
  subst e1; subst e2; subst e3; subst e4; subst e5
  exact B_AC_image hC s o h hR
theorem d_AC_restore_0 : PLa b_AC_restore 0 0 1 := Or.inl ⟨0, by decide +kernel, rfl, rfl⟩
theorem d_AC_restore_1 : DR b_AC_restore 1 (.getfield 366) 3 4 := ⟨by decide +kernel, rfl⟩
theorem d_AC_restore_4 : DJ b_AC_restore 4 (.ifCond .ne) 7 14 := ⟨10, by decide +kernel, rfl, by decide⟩
theorem d_AC_restore_7 : PLa b_AC_restore 7 0 8 := Or.inl ⟨0, by decide +kernel, rfl, rfl⟩
theorem d_AC_restore_8 : PCi b_AC_restore 8 (-3) 10 := Or.inr (Or.inl ⟨(-3), by decide +kernel, by decide, rfl⟩)
theorem d_AC_restore_10 : DR b_AC_restore 10 (.invokevirtual 90) 3 13 := ⟨by decide +kernel, rfl⟩
theorem d_AC_restore_13 : DR b_AC_restore 13 (.ireturn) 1 14 := ⟨by decide +kernel, rfl⟩
theorem d_AC_restore_14 : PLa b_AC_restore 14 0 15 := Or.inl ⟨0, by decide +kernel, rfl, rfl⟩
theorem d_AC_restore_15 : DR b_AC_restore 15 (.getfield 10) 3 18 := ⟨by decide +kernel, rfl⟩
theorem d_AC_restore_18 : PLa b_AC_restore 18 0 19 := Or.inl ⟨0, by decide +kernel, rfl, rfl⟩
theorem d_AC_restore_19 : DR b_AC_restore 19 (.getfield 16) 3 22 := ⟨by decide +kernel, rfl⟩
theorem d_AC_restore_22 : DR b_AC_restore 22 (.invokevirtual 101) 3 25 := ⟨by decide +kernel, rfl⟩
theorem d_AC_restore_25 : PLa b_AC_restore 25 0 26 := Or.inl ⟨0, by decide +kernel, rfl, rfl⟩
theorem d_AC_restore_26 : DR b_AC_restore 26 (.getfield 25) 3 29 := ⟨by decide +kernel, rfl⟩
theorem d_AC_restore_29 : DR b_AC_restore 29 (.invokevirtual 112) 3 32 := ⟨by decide +kernel, rfl⟩
theorem d_AC_restore_32 : PLa b_AC_restore 32 0 33 := Or.inl ⟨0, by decide +kernel, rfl, rfl⟩
theorem d_AC_restore_33 : DR b_AC_restore 33 (.getfield 10) 3 36 := ⟨by decide +kernel, rfl⟩
theorem d_AC_restore_36 : DR b_AC_restore 36 (.getfield 164) 3 39 := ⟨by decide +kernel, rfl⟩
theorem d_AC_restore_39 : DR b_AC_restore 39 (.ireturn) 1 40 := ⟨by decide +kernel, rfl⟩
set_option maxRecDepth 20000 in
theorem B_AC_restore {G : MCx} (hC : C0 G "AccusedChoose" b_AC_restore 1 4) (s : St) : VO G (RI G b_AC_restore) (F_AC_restore s) 0 [(0, .ref (gad G 0))] [] s := by
  unfold F_AC_restore
  refine VO_aload hC d_AC_restore_0 0 rfl ?_
  refine VO_geti hC fl_AC_366 sh_AC rfl d_AC_restore_1 ?_
  refine VO_if_ne hC d_AC_restore_4 (fun _ => ?_) (fun _ => ?_)
  · refine VO_aload hC d_AC_restore_7 0 rfl ?_
    refine VO_const hC d_AC_restore_8 ?_
    refine VO_callVI hC [.int (-3 : Int32)] [] ml_AC_90 d_AC_restore_10 yv_AC_refuse sh_AC rfl rfl (fun o h => M_AC_refuse hC.inj h) (by decide) rfl rfl (Nat.le_of_ble_eq_true rfl) (fun o3 => ?_)
    exact VO_ireturn d_AC_restore_13
  · refine VO_aload hC d_AC_restore_14 0 rfl ?_
    refine VO_getr (r := 1) hC fl_AC_10 sh_AC rfl d_AC_restore_15 ?_
    refine VO_aload hC d_AC_restore_18 0 rfl ?_
    refine VO_getr (r := 10) hC fl_AC_16 sh_AC rfl d_AC_restore_19 ?_
    refine VO_callVV hC [.ref (gad G 10)] [] ml_AC_101 d_AC_restore_22 yv_NI_copy (sh_NI isNI_1) rfl rfl (fun o h => M_NI_copy hC.inj isNI_1 isNI_10 h) (by decide) rfl rfl (Nat.le_of_ble_eq_true rfl) (fun s1 => ?_)
    refine VO_aload hC d_AC_restore_25 0 rfl ?_
    refine VO_getr (r := 28) hC fl_AC_25 sh_AC rfl d_AC_restore_26 ?_
    refine VO_callVV hC [] [] ml_AC_112 d_AC_restore_29 yv_PA_forget sh_PA rfl rfl (fun o h => M_PA_forget hC.inj h) (by decide) rfl rfl (Nat.le_of_ble_eq_true rfl) (fun s2 => ?_)
    refine VO_aload hC d_AC_restore_32 0 rfl ?_
    refine VO_getr (r := 1) hC fl_AC_10 sh_AC rfl d_AC_restore_33 ?_
    refine VO_geti hC fl_AC_164 (sh_NI isNI_1) rfl d_AC_restore_36 ?_
    exact VO_ireturn d_AC_restore_39
set_option maxRecDepth 20000 in
theorem M_AC_restore {l : Launch} {D : va_G} {ad : Nat → Nat} {cI cL : ClassId} (hj : Inj ad) {s : St} {o : Int32 × St} (h : F_AC_restore s = some o) : Cn l D ad cI cL y_AC_restore b_AC_restore 1 (some .int) 4 [.ref (ad 0)] s (some (.int o.1)) o.2 := by
  refine Cn_ofI hj (plainFor_of_name (by decide)) (Nat.le_of_ble_eq_true rfl) [(0, .ref (ad 0))] rfl (fun G hC e1 e2 e3 e4 e5 hR => ?_)
  subst e1; subst e2; subst e3; subst e4; subst e5
  exact B_AC_restore hC s o h hR
theorem d_AC_count_0 : PLi b_AC_count 0 1 1 := Or.inl ⟨1, by decide +kernel, rfl, rfl⟩
theorem d_AC_count_1 : decode b_AC_count 1 = .ok (.tableswitch 96 0 6 #[43, 51, 59, 67, 75, 83, 88], 43) := by decide +kernel
theorem d_AC_count_44 : PLa b_AC_count 44 0 45 := Or.inl ⟨0, by decide +kernel, rfl, rfl⟩
theorem d_AC_count_45 : DR b_AC_count 45 (.getfield 10) 3 48 := ⟨by decide +kernel, rfl⟩
theorem d_AC_count_48 : DR b_AC_count 48 (.getfield 164) 3 51 := ⟨by decide +kernel, rfl⟩
theorem d_AC_count_51 : DR b_AC_count 51 (.ireturn) 1 52 := ⟨by decide +kernel, rfl⟩
theorem d_AC_count_52 : PLa b_AC_count 52 0 53 := Or.inl ⟨0, by decide +kernel, rfl, rfl⟩
theorem d_AC_count_53 : DR b_AC_count 53 (.getfield 10) 3 56 := ⟨by decide +kernel, rfl⟩
theorem d_AC_count_56 : DR b_AC_count 56 (.getfield 157) 3 59 := ⟨by decide +kernel, rfl⟩
theorem d_AC_count_59 : DR b_AC_count 59 (.ireturn) 1 60 := ⟨by decide +kernel, rfl⟩
theorem d_AC_count_60 : PLa b_AC_count 60 0 61 := Or.inl ⟨0, by decide +kernel, rfl, rfl⟩
theorem d_AC_count_61 : DR b_AC_count 61 (.getfield 10) 3 64 := ⟨by decide +kernel, rfl⟩
theorem d_AC_count_64 : DR b_AC_count 64 (.invokevirtual 370) 3 67 := ⟨by decide +kernel, rfl⟩
theorem d_AC_count_67 : DR b_AC_count 67 (.ireturn) 1 68 := ⟨by decide +kernel, rfl⟩
theorem d_AC_count_68 : PLa b_AC_count 68 0 69 := Or.inl ⟨0, by decide +kernel, rfl, rfl⟩
theorem d_AC_count_69 : DR b_AC_count 69 (.getfield 10) 3 72 := ⟨by decide +kernel, rfl⟩
theorem d_AC_count_72 : DR b_AC_count 72 (.invokevirtual 373) 3 75 := ⟨by decide +kernel, rfl⟩
theorem d_AC_count_75 : DR b_AC_count 75 (.ireturn) 1 76 := ⟨by decide +kernel, rfl⟩
theorem d_AC_count_76 : PLa b_AC_count 76 0 77 := Or.inl ⟨0, by decide +kernel, rfl, rfl⟩
theorem d_AC_count_77 : DR b_AC_count 77 (.getfield 32) 3 80 := ⟨by decide +kernel, rfl⟩
theorem d_AC_count_80 : DR b_AC_count 80 (.getfield 376) 3 83 := ⟨by decide +kernel, rfl⟩
theorem d_AC_count_83 : DR b_AC_count 83 (.ireturn) 1 84 := ⟨by decide +kernel, rfl⟩
theorem d_AC_count_84 : PLa b_AC_count 84 0 85 := Or.inl ⟨0, by decide +kernel, rfl, rfl⟩
theorem d_AC_count_85 : DR b_AC_count 85 (.getfield 344) 3 88 := ⟨by decide +kernel, rfl⟩
theorem d_AC_count_88 : DR b_AC_count 88 (.ireturn) 1 89 := ⟨by decide +kernel, rfl⟩
theorem d_AC_count_89 : PLa b_AC_count 89 0 90 := Or.inl ⟨0, by decide +kernel, rfl, rfl⟩
theorem d_AC_count_90 : DR b_AC_count 90 (.getfield 25) 3 93 := ⟨by decide +kernel, rfl⟩
theorem d_AC_count_93 : DR b_AC_count 93 (.getfield 195) 3 96 := ⟨by decide +kernel, rfl⟩
theorem d_AC_count_96 : DR b_AC_count 96 (.ireturn) 1 97 := ⟨by decide +kernel, rfl⟩
theorem d_AC_count_97 : PLi b_AC_count 97 1 98 := Or.inl ⟨1, by decide +kernel, rfl, rfl⟩
theorem d_AC_count_98 : PCi b_AC_count 98 11 100 := Or.inr (Or.inl ⟨11, by decide +kernel, by decide, rfl⟩)
theorem d_AC_count_100 : DJ b_AC_count 100 (.if_icmp .lt) 103 123 := ⟨23, by decide +kernel, rfl, by decide⟩
theorem d_AC_count_103 : PLi b_AC_count 103 1 104 := Or.inl ⟨1, by decide +kernel, rfl, rfl⟩
theorem d_AC_count_104 : PCi b_AC_count 104 16 106 := Or.inr (Or.inl ⟨16, by decide +kernel, by decide, rfl⟩)
theorem d_AC_count_106 : DJ b_AC_count 106 (.if_icmp .gt) 109 123 := ⟨17, by decide +kernel, rfl, by decide⟩
theorem d_AC_count_109 : PLa b_AC_count 109 0 110 := Or.inl ⟨0, by decide +kernel, rfl, rfl⟩
theorem d_AC_count_110 : DR b_AC_count 110 (.getfield 87) 3 113 := ⟨by decide +kernel, rfl⟩
theorem d_AC_count_113 : PLi b_AC_count 113 1 114 := Or.inl ⟨1, by decide +kernel, rfl, rfl⟩
theorem d_AC_count_114 : PCi b_AC_count 114 10 116 := Or.inr (Or.inl ⟨10, by decide +kernel, by decide, rfl⟩)
theorem d_AC_count_116 : DR b_AC_count 116 (.isub) 1 117 := ⟨by decide +kernel, rfl⟩
theorem d_AC_count_117 : DR b_AC_count 117 (.invokestatic 122) 3 120 := ⟨by decide +kernel, rfl⟩
theorem d_AC_count_120 : DJ b_AC_count 120 .goto 123 125 := ⟨5, by decide +kernel, rfl, by decide⟩
theorem d_AC_count_123 : PCi b_AC_count 123 (-9) 125 := Or.inr (Or.inl ⟨(-9), by decide +kernel, by decide, rfl⟩)
theorem d_AC_count_125 : DR b_AC_count 125 (.ireturn) 1 126 := ⟨by decide +kernel, rfl⟩
set_option maxRecDepth 20000 in
theorem B_AC_count_123 {G : MCx} (hC : C0 G "AccusedChoose" b_AC_count 2 3) (s : St) : VO G (RI G b_AC_count) (F_AC_count_123 s) 123 [] [] s := by
  unfold F_AC_count_123
  refine VO_const hC d_AC_count_123 ?_
  exact VO_ireturn d_AC_count_125
set_option maxRecDepth 20000 in
theorem B_AC_count {G : MCx} (hC : C0 G "AccusedChoose" b_AC_count 2 3) (a1 : Int32) (s : St) : VO G (RI G b_AC_count) (F_AC_count a1 s) 0 [(0, .ref (gad G 0)), (1, .int a1)] [] s := by
  unfold F_AC_count
  refine VO_iload hC d_AC_count_0 1 rfl ?_
  refine VO_ite (fun c1_0 => ?_) (fun c1_0 => ?_)
  · refine VO_tin (tgt := 44) (off := (43 : Int)) hC d_AC_count_1 (by rw [c1_0]; decide) (by rw [c1_0]; decide) (by first | (rw [c1_0]; done) | (rw [c1_0]; rfl)) (by decide) ?_
    refine VO_aload hC d_AC_count_44 0 rfl ?_
    refine VO_getr (r := 1) hC fl_AC_10 sh_AC rfl d_AC_count_45 ?_
    refine VO_geti hC fl_AC_164 (sh_NI isNI_1) rfl d_AC_count_48 ?_
    exact VO_ireturn d_AC_count_51
  refine VO_ite (fun c1_1 => ?_) (fun c1_1 => ?_)
  · refine VO_tin (tgt := 52) (off := (51 : Int)) hC d_AC_count_1 (by rw [c1_1]; decide) (by rw [c1_1]; decide) (by first | (rw [c1_1]; done) | (rw [c1_1]; rfl)) (by decide) ?_
    refine VO_aload hC d_AC_count_52 0 rfl ?_
    refine VO_getr (r := 1) hC fl_AC_10 sh_AC rfl d_AC_count_53 ?_
    refine VO_geti hC fl_AC_157 (sh_NI isNI_1) rfl d_AC_count_56 ?_
    exact VO_ireturn d_AC_count_59
  refine VO_ite (fun c1_2 => ?_) (fun c1_2 => ?_)
  · refine VO_tin (tgt := 60) (off := (59 : Int)) hC d_AC_count_1 (by rw [c1_2]; decide) (by rw [c1_2]; decide) (by first | (rw [c1_2]; done) | (rw [c1_2]; rfl)) (by decide) ?_
    refine VO_aload hC d_AC_count_60 0 rfl ?_
    refine VO_getr (r := 1) hC fl_AC_10 sh_AC rfl d_AC_count_61 ?_
    refine VO_callVI hC [] [] ml_AC_370 d_AC_count_64 yv_NI_allRecords (sh_NI isNI_1) rfl rfl (fun o h => M_NI_allRecords hC.inj isNI_1 h) (by decide) rfl rfl (Nat.le_of_ble_eq_true rfl) (fun o1 => ?_)
    exact VO_ireturn d_AC_count_67
  refine VO_ite (fun c1_3 => ?_) (fun c1_3 => ?_)
  · refine VO_tin (tgt := 68) (off := (67 : Int)) hC d_AC_count_1 (by rw [c1_3]; decide) (by rw [c1_3]; decide) (by first | (rw [c1_3]; done) | (rw [c1_3]; rfl)) (by decide) ?_
    refine VO_aload hC d_AC_count_68 0 rfl ?_
    refine VO_getr (r := 1) hC fl_AC_10 sh_AC rfl d_AC_count_69 ?_
    refine VO_callVI hC [] [] ml_AC_373 d_AC_count_72 yv_NI_allAlibis (sh_NI isNI_1) rfl rfl (fun o h => M_NI_allAlibis hC.inj isNI_1 h) (by decide) rfl rfl (Nat.le_of_ble_eq_true rfl) (fun o2 => ?_)
    exact VO_ireturn d_AC_count_75
  refine VO_ite (fun c1_4 => ?_) (fun c1_4 => ?_)
  · refine VO_tin (tgt := 76) (off := (75 : Int)) hC d_AC_count_1 (by rw [c1_4]; decide) (by rw [c1_4]; decide) (by first | (rw [c1_4]; done) | (rw [c1_4]; rfl)) (by decide) ?_
    refine VO_aload hC d_AC_count_76 0 rfl ?_
    refine VO_getr (r := 34) hC fl_AC_32 sh_AC rfl d_AC_count_77 ?_
    refine VO_geti hC fl_AC_376 sh_LT rfl d_AC_count_80 ?_
    exact VO_ireturn d_AC_count_83
  refine VO_ite (fun c1_5 => ?_) (fun c1_5 => ?_)
  · refine VO_tin (tgt := 84) (off := (83 : Int)) hC d_AC_count_1 (by rw [c1_5]; decide) (by rw [c1_5]; decide) (by first | (rw [c1_5]; done) | (rw [c1_5]; rfl)) (by decide) ?_
    refine VO_aload hC d_AC_count_84 0 rfl ?_
    refine VO_geti hC fl_AC_344 sh_AC rfl d_AC_count_85 ?_
    exact VO_ireturn d_AC_count_88
  refine VO_ite (fun c1_6 => ?_) (fun c1_6 => ?_)
  · refine VO_tin (tgt := 89) (off := (88 : Int)) hC d_AC_count_1 (by rw [c1_6]; decide) (by rw [c1_6]; decide) (by first | (rw [c1_6]; done) | (rw [c1_6]; rfl)) (by decide) ?_
    refine VO_aload hC d_AC_count_89 0 rfl ?_
    refine VO_getr (r := 28) hC fl_AC_25 sh_AC rfl d_AC_count_90 ?_
    refine VO_geti hC fl_AC_195 sh_PA rfl d_AC_count_93 ?_
    exact VO_ireturn d_AC_count_96
  refine VO_tout (tgt := 97) hC d_AC_count_1 (by have e0 := lv_neT (a := 0) c1_0 rfl; have e1 := lv_neT (a := 1) c1_1 rfl; have e2 := lv_neT (a := 2) c1_2 rfl; have e3 := lv_neT (a := 3) c1_3 rfl; have e4 := lv_neT (a := 4) c1_4 rfl; have e5 := lv_neT (a := 5) c1_5 rfl; have e6 := lv_neT (a := 6) c1_6 rfl; omega) (by decide) ?_
  refine VO_iload hC d_AC_count_97 1 rfl ?_
  refine VO_const hC d_AC_count_98 ?_
  refine VO_icmp_lt hC d_AC_count_100 (fun _ => ?_) (fun _ => ?_)
  · exact VO_sub [] rfl (B_AC_count_123 hC s)
  · refine VO_iload hC d_AC_count_103 1 rfl ?_
    refine VO_const hC d_AC_count_104 ?_
    refine VO_icmp_gt hC d_AC_count_106 (fun _ => ?_) (fun _ => ?_)
    · exact VO_sub [] rfl (B_AC_count_123 hC s)
    · refine VO_aload hC d_AC_count_109 0 rfl ?_
      refine VO_getr (r := 57) hC fl_AC_87 sh_AC rfl d_AC_count_110 ?_
      refine VO_iload hC d_AC_count_113 1 rfl ?_
      refine VO_const hC d_AC_count_114 ?_
      refine VO_isub hC d_AC_count_116 ?_
      refine VO_callSI hC [.ref (gad G 57), .int (a1 - (10 : Int32))] [] ml_AC_122 d_AC_count_117 ys_AC_at (fun o h => M_AC_at hC.inj ia_57 h) (by decide) rfl rfl (Nat.le_of_ble_eq_true rfl) (fun o3 => ?_)
      refine VO_goto hC d_AC_count_120 ?_
      exact VO_ireturn d_AC_count_125
set_option maxRecDepth 20000 in
theorem M_AC_count {l : Launch} {D : va_G} {ad : Nat → Nat} {cI cL : ClassId} (hj : Inj ad) {a1 : Int32} {s : St} {o : Int32 × St} (h : F_AC_count a1 s = some o) : Cn l D ad cI cL y_AC_count b_AC_count 2 (some .int) 3 [.ref (ad 0), .int a1] s (some (.int o.1)) o.2 := by
  refine Cn_ofI hj (plainFor_of_name (by decide)) (Nat.le_of_ble_eq_true rfl) [(0, .ref (ad 0)), (1, .int a1)] rfl (fun G hC e1 e2 e3 e4 e5 hR => ?_)
  subst e1; subst e2; subst e3; subst e4; subst e5
  exact B_AC_count hC a1 s o h hR
theorem d_MD_no_0 : PLa b_MD_no 0 0 1 := Or.inl ⟨0, by decide +kernel, rfl, rfl⟩
theorem d_MD_no_1 : DR b_MD_no 1 (.getfield 7) 3 4 := ⟨by decide +kernel, rfl⟩
theorem d_MD_no_4 : PLi b_MD_no 4 1 5 := Or.inl ⟨1, by decide +kernel, rfl, rfl⟩
theorem d_MD_no_5 : DR b_MD_no 5 (.ineg) 1 6 := ⟨by decide +kernel, rfl⟩
theorem d_MD_no_6 : DR b_MD_no 6 (.dup2) 1 7 := ⟨by decide +kernel, rfl⟩
theorem d_MD_no_7 : DR b_MD_no 7 (.iaload) 1 8 := ⟨by decide +kernel, rfl⟩
theorem d_MD_no_8 : PCi b_MD_no 8 1 9 := Or.inl ⟨1, by decide +kernel, by decide, rfl⟩
theorem d_MD_no_9 : DR b_MD_no 9 (.iadd) 1 10 := ⟨by decide +kernel, rfl⟩
theorem d_MD_no_10 : DR b_MD_no 10 (.iastore) 1 11 := ⟨by decide +kernel, rfl⟩
theorem d_MD_no_11 : PLi b_MD_no 11 1 12 := Or.inl ⟨1, by decide +kernel, rfl, rfl⟩
theorem d_MD_no_12 : DR b_MD_no 12 (.ireturn) 1 13 := ⟨by decide +kernel, rfl⟩
set_option maxRecDepth 20000 in
theorem B_MD_no {G : MCx} (hC : C0 G "AccusedChooseModel" b_MD_no 2 1) (a1 : Int32) (s : St) : VO G (RI G b_MD_no) (F_MD_no a1 s) 0 [(0, .ref (gad G 58)), (1, .int a1)] [] s := by
  unfold F_MD_no
  refine VO_aload hC d_MD_no_0 0 rfl ?_
  refine VO_getr (r := 59) hC fl_MD_7 sh_MD rfl d_MD_no_1 ?_
  refine VO_iload hC d_MD_no_4 1 rfl ?_
  refine VO_ineg hC d_MD_no_5 ?_
  refine VO_topi (fun x1 => ?_)
  refine VO_dup2 hC d_MD_no_6 rfl rfl ?_
  refine VO_iaload hC ia_59 d_MD_no_7 (fun x2 => ?_)
  refine VO_const hC d_MD_no_8 ?_
  refine VO_iadd hC d_MD_no_9 ?_
  refine VO_iastore hC ia_59 d_MD_no_10 (fun s3 => ?_)
  refine VO_iload hC d_MD_no_11 1 rfl ?_
  exact VO_ireturn d_MD_no_12
set_option maxRecDepth 20000 in
theorem M_MD_no {l : Launch} {D : va_G} {ad : Nat → Nat} {cI cL : ClassId} (hj : Inj ad) {a1 : Int32} {s : St} {o : Int32 × St} (h : F_MD_no a1 s = some o) : Cn l D ad cI cL y_MD_no b_MD_no 2 (some .int) 1 [.ref (ad 58), .int a1] s (some (.int o.1)) o.2 := by
  refine Cn_ofI hj (plainFor_of_name (by decide)) (Nat.le_of_ble_eq_true rfl) [(0, .ref (ad 58)), (1, .int a1)] rfl (fun G hC e1 e2 e3 e4 e5 hR => ?_)
  subst e1; subst e2; subst e3; subst e4; subst e5
  exact B_MD_no hC a1 s o h hR
theorem d_MD_lower_0 : PLa b_MD_lower 0 0 1 := Or.inl ⟨0, by decide +kernel, rfl, rfl⟩
theorem d_MD_lower_1 : DR b_MD_lower 1 (.getfield 7) 3 4 := ⟨by decide +kernel, rfl⟩
theorem d_MD_lower_4 : PLi b_MD_lower 4 1 5 := Or.inl ⟨1, by decide +kernel, rfl, rfl⟩
theorem d_MD_lower_5 : DR b_MD_lower 5 (.ineg) 1 6 := ⟨by decide +kernel, rfl⟩
theorem d_MD_lower_6 : DR b_MD_lower 6 (.dup2) 1 7 := ⟨by decide +kernel, rfl⟩
theorem d_MD_lower_7 : DR b_MD_lower 7 (.iaload) 1 8 := ⟨by decide +kernel, rfl⟩
theorem d_MD_lower_8 : PCi b_MD_lower 8 1 9 := Or.inl ⟨1, by decide +kernel, by decide, rfl⟩
theorem d_MD_lower_9 : DR b_MD_lower 9 (.iadd) 1 10 := ⟨by decide +kernel, rfl⟩
theorem d_MD_lower_10 : DR b_MD_lower 10 (.iastore) 1 11 := ⟨by decide +kernel, rfl⟩
theorem d_MD_lower_11 : DR b_MD_lower 11 (.ldc 87) 2 13 := ⟨by decide +kernel, rfl⟩
theorem d_MD_lower_13 : PLi b_MD_lower 13 1 14 := Or.inl ⟨1, by decide +kernel, rfl, rfl⟩
theorem d_MD_lower_14 : DR b_MD_lower 14 (.isub) 1 15 := ⟨by decide +kernel, rfl⟩
theorem d_MD_lower_15 : DR b_MD_lower 15 (.ireturn) 1 16 := ⟨by decide +kernel, rfl⟩
set_option maxRecDepth 20000 in
theorem B_MD_lower {G : MCx} (hC : C0 G "AccusedChooseModel" b_MD_lower 2 1) (a1 : Int32) (s : St) : VO G (RI G b_MD_lower) (F_MD_lower a1 s) 0 [(0, .ref (gad G 58)), (1, .int a1)] [] s := by
  unfold F_MD_lower
  refine VO_aload hC d_MD_lower_0 0 rfl ?_
  refine VO_getr (r := 59) hC fl_MD_7 sh_MD rfl d_MD_lower_1 ?_
  refine VO_iload hC d_MD_lower_4 1 rfl ?_
  refine VO_ineg hC d_MD_lower_5 ?_
  refine VO_topi (fun x1 => ?_)
  refine VO_dup2 hC d_MD_lower_6 rfl rfl ?_
  refine VO_iaload hC ia_59 d_MD_lower_7 (fun x2 => ?_)
  refine VO_const hC d_MD_lower_8 ?_
  refine VO_iadd hC d_MD_lower_9 ?_
  refine VO_iastore hC ia_59 d_MD_lower_10 (fun s3 => ?_)
  refine VO_ldc hC k_MD_87 d_MD_lower_11 ?_
  refine VO_iload hC d_MD_lower_13 1 rfl ?_
  refine VO_isub hC d_MD_lower_14 ?_
  exact VO_ireturn d_MD_lower_15
set_option maxRecDepth 20000 in
theorem M_MD_lower {l : Launch} {D : va_G} {ad : Nat → Nat} {cI cL : ClassId} (hj : Inj ad) {a1 : Int32} {s : St} {o : Int32 × St} (h : F_MD_lower a1 s = some o) : Cn l D ad cI cL y_MD_lower b_MD_lower 2 (some .int) 1 [.ref (ad 58), .int a1] s (some (.int o.1)) o.2 := by
  refine Cn_ofI hj (plainFor_of_name (by decide)) (Nat.le_of_ble_eq_true rfl) [(0, .ref (ad 58)), (1, .int a1)] rfl (fun G hC e1 e2 e3 e4 e5 hR => ?_)
  subst e1; subst e2; subst e3; subst e4; subst e5
  exact B_MD_lower hC a1 s o h hR
theorem d_MD_lowest_0 : PLa b_MD_lowest 0 0 1 := Or.inl ⟨0, by decide +kernel, rfl, rfl⟩
theorem d_MD_lowest_1 : DR b_MD_lowest 1 (.getfield 7) 3 4 := ⟨by decide +kernel, rfl⟩
theorem d_MD_lowest_4 : PLi b_MD_lowest 4 1 5 := Or.inl ⟨1, by decide +kernel, rfl, rfl⟩
theorem d_MD_lowest_5 : DR b_MD_lowest 5 (.ineg) 1 6 := ⟨by decide +kernel, rfl⟩
theorem d_MD_lowest_6 : DR b_MD_lowest 6 (.dup2) 1 7 := ⟨by decide +kernel, rfl⟩
theorem d_MD_lowest_7 : DR b_MD_lowest 7 (.iaload) 1 8 := ⟨by decide +kernel, rfl⟩
theorem d_MD_lowest_8 : PCi b_MD_lowest 8 1 9 := Or.inl ⟨1, by decide +kernel, by decide, rfl⟩
theorem d_MD_lowest_9 : DR b_MD_lowest 9 (.iadd) 1 10 := ⟨by decide +kernel, rfl⟩
theorem d_MD_lowest_10 : DR b_MD_lowest 10 (.iastore) 1 11 := ⟨by decide +kernel, rfl⟩
theorem d_MD_lowest_11 : DR b_MD_lowest 11 (.ldc2_w 88) 3 14 := ⟨by decide +kernel, rfl⟩
theorem d_MD_lowest_14 : PLi b_MD_lowest 14 1 15 := Or.inl ⟨1, by decide +kernel, rfl, rfl⟩
theorem d_MD_lowest_15 : DR b_MD_lowest 15 (.i2l) 1 16 := ⟨by decide +kernel, rfl⟩
theorem d_MD_lowest_16 : DR b_MD_lowest 16 (.lsub) 1 17 := ⟨by decide +kernel, rfl⟩
theorem d_MD_lowest_17 : DR b_MD_lowest 17 (.lreturn) 1 18 := ⟨by decide +kernel, rfl⟩
set_option maxRecDepth 20000 in
theorem B_MD_lowest {G : MCx} (hC : C0 G "AccusedChooseModel" b_MD_lowest 2 1) (a1 : Int32) (s : St) : VO G (RLo G b_MD_lowest) (F_MD_lowest a1 s) 0 [(0, .ref (gad G 58)), (1, .int a1)] [] s := by
  unfold F_MD_lowest
  refine VO_aload hC d_MD_lowest_0 0 rfl ?_
  refine VO_getr (r := 59) hC fl_MD_7 sh_MD rfl d_MD_lowest_1 ?_
  refine VO_iload hC d_MD_lowest_4 1 rfl ?_
  refine VO_ineg hC d_MD_lowest_5 ?_
  refine VO_topi (fun x1 => ?_)
  refine VO_dup2 hC d_MD_lowest_6 rfl rfl ?_
  refine VO_iaload hC ia_59 d_MD_lowest_7 (fun x2 => ?_)
  refine VO_const hC d_MD_lowest_8 ?_
  refine VO_iadd hC d_MD_lowest_9 ?_
  refine VO_iastore hC ia_59 d_MD_lowest_10 (fun s3 => ?_)
  refine VO_ldc2 hC k_MD_88 d_MD_lowest_11 ?_
  refine VO_iload hC d_MD_lowest_14 1 rfl ?_
  refine VO_i2l hC d_MD_lowest_15 ?_
  refine VO_lsub hC d_MD_lowest_16 ?_
  exact VO_lreturn d_MD_lowest_17
set_option maxRecDepth 20000 in
theorem M_MD_lowest {l : Launch} {D : va_G} {ad : Nat → Nat} {cI cL : ClassId} (hj : Inj ad) {a1 : Int32} {s : St} {o : Int64 × St} (h : F_MD_lowest a1 s = some o) : Cn l D ad cI cL y_MD_lowest b_MD_lowest 2 (some .long) 1 [.ref (ad 58), .int a1] s (some (.long o.1)) o.2 := by
  refine Cn_ofL hj (plainFor_of_name (by decide)) (Nat.le_of_ble_eq_true rfl) [(0, .ref (ad 58)), (1, .int a1)] rfl (fun G hC e1 e2 e3 e4 e5 hR => ?_)
  subst e1; subst e2; subst e3; subst e4; subst e5
  exact B_MD_lowest hC a1 s o h hR
theorem d_MD_isIn_0 : PLi b_MD_isIn 0 0 1 := Or.inl ⟨0, by decide +kernel, rfl, rfl⟩
theorem d_MD_isIn_1 : PLi b_MD_isIn 1 1 2 := Or.inl ⟨1, by decide +kernel, rfl, rfl⟩
theorem d_MD_isIn_2 : DJ b_MD_isIn 2 (.if_icmp .lt) 5 14 := ⟨12, by decide +kernel, rfl, by decide⟩
theorem d_MD_isIn_5 : PLi b_MD_isIn 5 0 6 := Or.inl ⟨0, by decide +kernel, rfl, rfl⟩
theorem d_MD_isIn_6 : PLi b_MD_isIn 6 2 7 := Or.inl ⟨2, by decide +kernel, rfl, rfl⟩
theorem d_MD_isIn_7 : DJ b_MD_isIn 7 (.if_icmp .gt) 10 14 := ⟨7, by decide +kernel, rfl, by decide⟩
theorem d_MD_isIn_10 : PCi b_MD_isIn 10 1 11 := Or.inl ⟨1, by decide +kernel, by decide, rfl⟩
theorem d_MD_isIn_11 : DJ b_MD_isIn 11 .goto 14 15 := ⟨4, by decide +kernel, rfl, by decide⟩
theorem d_MD_isIn_14 : PCi b_MD_isIn 14 0 15 := Or.inl ⟨0, by decide +kernel, by decide, rfl⟩
theorem d_MD_isIn_15 : DR b_MD_isIn 15 (.ireturn) 1 16 := ⟨by decide +kernel, rfl⟩
set_option maxRecDepth 20000 in
theorem B_MD_isIn_14 {G : MCx} (hC : C0 G "AccusedChooseModel" b_MD_isIn 3 1) (s : St) : VO G (RZ G b_MD_isIn) (F_MD_isIn_14 s) 14 [] [] s := by
  unfold F_MD_isIn_14
  refine VO_const hC d_MD_isIn_14 ?_
  exact VO_z0 d_MD_isIn_15
set_option maxRecDepth 20000 in
theorem B_MD_isIn {G : MCx} (hC : C0 G "AccusedChooseModel" b_MD_isIn 3 1) (a0 : Int32) (a1 : Int32) (a2 : Int32) (s : St) : VO G (RZ G b_MD_isIn) (F_MD_isIn a0 a1 a2 s) 0 [(0, .int a0), (1, .int a1), (2, .int a2)] [] s := by
  unfold F_MD_isIn
  refine VO_iload hC d_MD_isIn_0 0 rfl ?_
  refine VO_iload hC d_MD_isIn_1 1 rfl ?_
  refine VO_icmp_lt hC d_MD_isIn_2 (fun _ => ?_) (fun _ => ?_)
  · exact VO_sub [] rfl (B_MD_isIn_14 hC s)
  · refine VO_iload hC d_MD_isIn_5 0 rfl ?_
    refine VO_iload hC d_MD_isIn_6 2 rfl ?_
    refine VO_icmp_gt hC d_MD_isIn_7 (fun _ => ?_) (fun _ => ?_)
    · exact VO_sub [] rfl (B_MD_isIn_14 hC s)
    · refine VO_const hC d_MD_isIn_10 ?_
      refine VO_goto hC d_MD_isIn_11 ?_
      exact VO_z1 d_MD_isIn_15
set_option maxRecDepth 20000 in
theorem M_MD_isIn {l : Launch} {D : va_G} {ad : Nat → Nat} {cI cL : ClassId} (hj : Inj ad) {a0 : Int32} {a1 : Int32} {a2 : Int32} {s : St} {o : Int32 × St} (h : F_MD_isIn a0 a1 a2 s = some o) : Cn l D ad cI cL y_MD_isIn b_MD_isIn 3 (some .boolean) 1 [.int a0, .int a1, .int a2] s (some (.int o.1)) o.2 := by
  refine Cn_ofZ hj (plainFor_of_name (by decide)) (Nat.le_of_ble_eq_true rfl) [(0, .int a0), (1, .int a1), (2, .int a2)] rfl (fun G hC e1 e2 e3 e4 e5 hR => ?_)
  subst e1; subst e2; subst e3; subst e4; subst e5
  exact B_MD_isIn hC a0 a1 a2 s o h hR
theorem d_MD_bound_0 : PLi b_MD_bound 0 0 1 := Or.inl ⟨0, by decide +kernel, rfl, rfl⟩
theorem d_MD_bound_1 : PLi b_MD_bound 1 1 2 := Or.inl ⟨1, by decide +kernel, rfl, rfl⟩
theorem d_MD_bound_2 : DJ b_MD_bound 2 (.if_icmp .ge) 5 10 := ⟨8, by decide +kernel, rfl, by decide⟩
theorem d_MD_bound_5 : PCi b_MD_bound 5 (-4) 7 := Or.inr (Or.inl ⟨(-4), by decide +kernel, by decide, rfl⟩)
theorem d_MD_bound_7 : DJ b_MD_bound 7 .goto 10 21 := ⟨14, by decide +kernel, rfl, by decide⟩
theorem d_MD_bound_10 : PLi b_MD_bound 10 0 11 := Or.inl ⟨0, by decide +kernel, rfl, rfl⟩
theorem d_MD_bound_11 : PLi b_MD_bound 11 2 12 := Or.inl ⟨2, by decide +kernel, rfl, rfl⟩
theorem d_MD_bound_12 : DJ b_MD_bound 12 (.if_icmp .le) 15 20 := ⟨8, by decide +kernel, rfl, by decide⟩
theorem d_MD_bound_15 : PCi b_MD_bound 15 (-6) 17 := Or.inr (Or.inl ⟨(-6), by decide +kernel, by decide, rfl⟩)
theorem d_MD_bound_17 : DJ b_MD_bound 17 .goto 20 21 := ⟨4, by decide +kernel, rfl, by decide⟩
theorem d_MD_bound_20 : PCi b_MD_bound 20 0 21 := Or.inl ⟨0, by decide +kernel, by decide, rfl⟩
theorem d_MD_bound_21 : DR b_MD_bound 21 (.ireturn) 1 22 := ⟨by decide +kernel, rfl⟩
set_option maxRecDepth 20000 in
theorem B_MD_bound {G : MCx} (hC : C0 G "AccusedChooseModel" b_MD_bound 3 1) (a0 : Int32) (a1 : Int32) (a2 : Int32) (s : St) : VO G (RI G b_MD_bound) (F_MD_bound a0 a1 a2 s) 0 [(0, .int a0), (1, .int a1), (2, .int a2)] [] s := by
  unfold F_MD_bound
  refine VO_iload hC d_MD_bound_0 0 rfl ?_
  refine VO_iload hC d_MD_bound_1 1 rfl ?_
  refine VO_icmp_ge hC d_MD_bound_2 (fun _ => ?_) (fun _ => ?_)
  · refine VO_iload hC d_MD_bound_10 0 rfl ?_
    refine VO_iload hC d_MD_bound_11 2 rfl ?_
    refine VO_icmp_le hC d_MD_bound_12 (fun _ => ?_) (fun _ => ?_)
    · refine VO_const hC d_MD_bound_20 ?_
      exact VO_ireturn d_MD_bound_21
    · refine VO_const hC d_MD_bound_15 ?_
      refine VO_goto hC d_MD_bound_17 ?_
      exact VO_ireturn d_MD_bound_21
  · refine VO_const hC d_MD_bound_5 ?_
    refine VO_goto hC d_MD_bound_7 ?_
    exact VO_ireturn d_MD_bound_21
set_option maxRecDepth 20000 in
theorem M_MD_bound {l : Launch} {D : va_G} {ad : Nat → Nat} {cI cL : ClassId} (hj : Inj ad) {a0 : Int32} {a1 : Int32} {a2 : Int32} {s : St} {o : Int32 × St} (h : F_MD_bound a0 a1 a2 s = some o) : Cn l D ad cI cL y_MD_bound b_MD_bound 3 (some .int) 1 [.int a0, .int a1, .int a2] s (some (.int o.1)) o.2 := by
  refine Cn_ofI hj (plainFor_of_name (by decide)) (Nat.le_of_ble_eq_true rfl) [(0, .int a0), (1, .int a1), (2, .int a2)] rfl (fun G hC e1 e2 e3 e4 e5 hR => ?_)
  subst e1; subst e2; subst e3; subst e4; subst e5
  exact B_MD_bound hC a0 a1 a2 s o h hR
theorem d_MD_has_0 : PLi b_MD_has 0 0 1 := Or.inl ⟨0, by decide +kernel, rfl, rfl⟩
theorem d_MD_has_1 : PLi b_MD_has 1 1 2 := Or.inl ⟨1, by decide +kernel, rfl, rfl⟩
theorem d_MD_has_2 : DR b_MD_has 2 (.ishr) 1 3 := ⟨by decide +kernel, rfl⟩
theorem d_MD_has_3 : PCi b_MD_has 3 1 4 := Or.inl ⟨1, by decide +kernel, by decide, rfl⟩
theorem d_MD_has_4 : DR b_MD_has 4 (.iand) 1 5 := ⟨by decide +kernel, rfl⟩
theorem d_MD_has_5 : PCi b_MD_has 5 1 6 := Or.inl ⟨1, by decide +kernel, by decide, rfl⟩
theorem d_MD_has_6 : DJ b_MD_has 6 (.if_icmp .ne) 9 13 := ⟨7, by decide +kernel, rfl, by decide⟩
theorem d_MD_has_9 : PCi b_MD_has 9 1 10 := Or.inl ⟨1, by decide +kernel, by decide, rfl⟩
theorem d_MD_has_10 : DJ b_MD_has 10 .goto 13 14 := ⟨4, by decide +kernel, rfl, by decide⟩
theorem d_MD_has_13 : PCi b_MD_has 13 0 14 := Or.inl ⟨0, by decide +kernel, by decide, rfl⟩
theorem d_MD_has_14 : DR b_MD_has 14 (.ireturn) 1 15 := ⟨by decide +kernel, rfl⟩
set_option maxRecDepth 20000 in
theorem B_MD_has {G : MCx} (hC : C0 G "AccusedChooseModel" b_MD_has 2 1) (a0 : Int32) (a1 : Int32) (s : St) : VO G (RZ G b_MD_has) (F_MD_has a0 a1 s) 0 [(0, .int a0), (1, .int a1)] [] s := by
  unfold F_MD_has
  refine VO_iload hC d_MD_has_0 0 rfl ?_
  refine VO_iload hC d_MD_has_1 1 rfl ?_
  refine VO_ishr hC d_MD_has_2 ?_
  refine VO_const hC d_MD_has_3 ?_
  refine VO_iand hC d_MD_has_4 ?_
  refine VO_const hC d_MD_has_5 ?_
  refine VO_icmp_ne hC d_MD_has_6 (fun _ => ?_) (fun _ => ?_)
  · refine VO_const hC d_MD_has_9 ?_
    refine VO_goto hC d_MD_has_10 ?_
    exact VO_z1 d_MD_has_14
  · refine VO_const hC d_MD_has_13 ?_
    exact VO_z0 d_MD_has_14
set_option maxRecDepth 20000 in
theorem M_MD_has {l : Launch} {D : va_G} {ad : Nat → Nat} {cI cL : ClassId} (hj : Inj ad) {a0 : Int32} {a1 : Int32} {s : St} {o : Int32 × St} (h : F_MD_has a0 a1 s = some o) : Cn l D ad cI cL y_MD_has b_MD_has 2 (some .boolean) 1 [.int a0, .int a1] s (some (.int o.1)) o.2 := by
  refine Cn_ofZ hj (plainFor_of_name (by decide)) (Nat.le_of_ble_eq_true rfl) [(0, .int a0), (1, .int a1)] rfl (fun G hC e1 e2 e3 e4 e5 hR => ?_)
  subst e1; subst e2; subst e3; subst e4; subst e5
  exact B_MD_has hC a0 a1 s o h hR
theorem d_MD_isPerson_0 : PLi b_MD_isPerson 0 1 1 := Or.inl ⟨1, by decide +kernel, rfl, rfl⟩
theorem d_MD_isPerson_1 : DJ b_MD_isPerson 1 (.ifCond .lt) 4 16 := ⟨15, by decide +kernel, rfl, by decide⟩
theorem d_MD_isPerson_4 : PLi b_MD_isPerson 4 1 5 := Or.inl ⟨1, by decide +kernel, rfl, rfl⟩
theorem d_MD_isPerson_5 : PLa b_MD_isPerson 5 0 6 := Or.inl ⟨0, by decide +kernel, rfl, rfl⟩
theorem d_MD_isPerson_6 : DR b_MD_isPerson 6 (.getfield 90) 3 9 := ⟨by decide +kernel, rfl⟩
theorem d_MD_isPerson_9 : DJ b_MD_isPerson 9 (.if_icmp .ge) 12 16 := ⟨7, by decide +kernel, rfl, by decide⟩
theorem d_MD_isPerson_12 : PCi b_MD_isPerson 12 1 13 := Or.inl ⟨1, by decide +kernel, by decide, rfl⟩
theorem d_MD_isPerson_13 : DJ b_MD_isPerson 13 .goto 16 17 := ⟨4, by decide +kernel, rfl, by decide⟩
theorem d_MD_isPerson_16 : PCi b_MD_isPerson 16 0 17 := Or.inl ⟨0, by decide +kernel, by decide, rfl⟩
theorem d_MD_isPerson_17 : DR b_MD_isPerson 17 (.ireturn) 1 18 := ⟨by decide +kernel, rfl⟩
set_option maxRecDepth 20000 in
theorem B_MD_isPerson_16 {G : MCx} (hC : C0 G "AccusedChooseModel" b_MD_isPerson 2 1) (s : St) : VO G (RZ G b_MD_isPerson) (F_MD_isPerson_16 s) 16 [] [] s := by
  unfold F_MD_isPerson_16
  refine VO_const hC d_MD_isPerson_16 ?_
  exact VO_z0 d_MD_isPerson_17
set_option maxRecDepth 20000 in
theorem B_MD_isPerson {G : MCx} (hC : C0 G "AccusedChooseModel" b_MD_isPerson 2 1) (a1 : Int32) (s : St) : VO G (RZ G b_MD_isPerson) (F_MD_isPerson a1 s) 0 [(0, .ref (gad G 58)), (1, .int a1)] [] s := by
  unfold F_MD_isPerson
  refine VO_iload hC d_MD_isPerson_0 1 rfl ?_
  refine VO_if_lt hC d_MD_isPerson_1 (fun _ => ?_) (fun _ => ?_)
  · exact VO_sub [] rfl (B_MD_isPerson_16 hC s)
  · refine VO_iload hC d_MD_isPerson_4 1 rfl ?_
    refine VO_aload hC d_MD_isPerson_5 0 rfl ?_
    refine VO_geti hC fl_MD_90 sh_MD rfl d_MD_isPerson_6 ?_
    refine VO_icmp_ge hC d_MD_isPerson_9 (fun _ => ?_) (fun _ => ?_)
    · exact VO_sub [] rfl (B_MD_isPerson_16 hC s)
    · refine VO_const hC d_MD_isPerson_12 ?_
      refine VO_goto hC d_MD_isPerson_13 ?_
      exact VO_z1 d_MD_isPerson_17
set_option maxRecDepth 20000 in
theorem M_MD_isPerson {l : Launch} {D : va_G} {ad : Nat → Nat} {cI cL : ClassId} (hj : Inj ad) {a1 : Int32} {s : St} {o : Int32 × St} (h : F_MD_isPerson a1 s = some o) : Cn l D ad cI cL y_MD_isPerson b_MD_isPerson 2 (some .boolean) 1 [.ref (ad 58), .int a1] s (some (.int o.1)) o.2 := by
  refine Cn_ofZ hj (plainFor_of_name (by decide)) (Nat.le_of_ble_eq_true rfl) [(0, .ref (ad 58)), (1, .int a1)] rfl (fun G hC e1 e2 e3 e4 e5 hR => ?_)
  subst e1; subst e2; subst e3; subst e4; subst e5
  exact B_MD_isPerson hC a1 s o h hR
theorem d_MD_isDeed_0 : PLi b_MD_isDeed 0 1 1 := Or.inl ⟨1, by decide +kernel, rfl, rfl⟩
theorem d_MD_isDeed_1 : DJ b_MD_isDeed 1 (.ifCond .lt) 4 16 := ⟨15, by decide +kernel, rfl, by decide⟩
theorem d_MD_isDeed_4 : PLi b_MD_isDeed 4 1 5 := Or.inl ⟨1, by decide +kernel, rfl, rfl⟩
theorem d_MD_isDeed_5 : PLa b_MD_isDeed 5 0 6 := Or.inl ⟨0, by decide +kernel, rfl, rfl⟩
theorem d_MD_isDeed_6 : DR b_MD_isDeed 6 (.getfield 84) 3 9 := ⟨by decide +kernel, rfl⟩
theorem d_MD_isDeed_9 : DJ b_MD_isDeed 9 (.if_icmp .ge) 12 16 := ⟨7, by decide +kernel, rfl, by decide⟩
theorem d_MD_isDeed_12 : PCi b_MD_isDeed 12 1 13 := Or.inl ⟨1, by decide +kernel, by decide, rfl⟩
theorem d_MD_isDeed_13 : DJ b_MD_isDeed 13 .goto 16 17 := ⟨4, by decide +kernel, rfl, by decide⟩
theorem d_MD_isDeed_16 : PCi b_MD_isDeed 16 0 17 := Or.inl ⟨0, by decide +kernel, by decide, rfl⟩
theorem d_MD_isDeed_17 : DR b_MD_isDeed 17 (.ireturn) 1 18 := ⟨by decide +kernel, rfl⟩
set_option maxRecDepth 20000 in
theorem B_MD_isDeed_16 {G : MCx} (hC : C0 G "AccusedChooseModel" b_MD_isDeed 2 1) (s : St) : VO G (RZ G b_MD_isDeed) (F_MD_isDeed_16 s) 16 [] [] s := by
  unfold F_MD_isDeed_16
  refine VO_const hC d_MD_isDeed_16 ?_
  exact VO_z0 d_MD_isDeed_17
set_option maxRecDepth 20000 in
theorem B_MD_isDeed {G : MCx} (hC : C0 G "AccusedChooseModel" b_MD_isDeed 2 1) (a1 : Int32) (s : St) : VO G (RZ G b_MD_isDeed) (F_MD_isDeed a1 s) 0 [(0, .ref (gad G 58)), (1, .int a1)] [] s := by
  unfold F_MD_isDeed
  refine VO_iload hC d_MD_isDeed_0 1 rfl ?_
  refine VO_if_lt hC d_MD_isDeed_1 (fun _ => ?_) (fun _ => ?_)
  · exact VO_sub [] rfl (B_MD_isDeed_16 hC s)
  · refine VO_iload hC d_MD_isDeed_4 1 rfl ?_
    refine VO_aload hC d_MD_isDeed_5 0 rfl ?_
    refine VO_geti hC fl_MD_84 sh_MD rfl d_MD_isDeed_6 ?_
    refine VO_icmp_ge hC d_MD_isDeed_9 (fun _ => ?_) (fun _ => ?_)
    · exact VO_sub [] rfl (B_MD_isDeed_16 hC s)
    · refine VO_const hC d_MD_isDeed_12 ?_
      refine VO_goto hC d_MD_isDeed_13 ?_
      exact VO_z1 d_MD_isDeed_17
set_option maxRecDepth 20000 in
theorem M_MD_isDeed {l : Launch} {D : va_G} {ad : Nat → Nat} {cI cL : ClassId} (hj : Inj ad) {a1 : Int32} {s : St} {o : Int32 × St} (h : F_MD_isDeed a1 s = some o) : Cn l D ad cI cL y_MD_isDeed b_MD_isDeed 2 (some .boolean) 1 [.ref (ad 58), .int a1] s (some (.int o.1)) o.2 := by
  refine Cn_ofZ hj (plainFor_of_name (by decide)) (Nat.le_of_ble_eq_true rfl) [(0, .ref (ad 58)), (1, .int a1)] rfl (fun G hC e1 e2 e3 e4 e5 hR => ?_)
  subst e1; subst e2; subst e3; subst e4; subst e5
  exact B_MD_isDeed hC a1 s o h hR
theorem d_MD_areTwo_0 : PLa b_MD_areTwo 0 0 1 := Or.inl ⟨0, by decide +kernel, rfl, rfl⟩
theorem d_MD_areTwo_1 : PLi b_MD_areTwo 1 1 2 := Or.inl ⟨1, by decide +kernel, rfl, rfl⟩
theorem d_MD_areTwo_2 : DR b_MD_areTwo 2 (.invokevirtual 93) 3 5 := ⟨by decide +kernel, rfl⟩
theorem d_MD_areTwo_5 : DJ b_MD_areTwo 5 (.ifCond .eq) 8 25 := ⟨20, by decide +kernel, rfl, by decide⟩
theorem d_MD_areTwo_8 : PLa b_MD_areTwo 8 0 9 := Or.inl ⟨0, by decide +kernel, rfl, rfl⟩
theorem d_MD_areTwo_9 : PLi b_MD_areTwo 9 2 10 := Or.inl ⟨2, by decide +kernel, rfl, rfl⟩
theorem d_MD_areTwo_10 : DR b_MD_areTwo 10 (.invokevirtual 93) 3 13 := ⟨by decide +kernel, rfl⟩
theorem d_MD_areTwo_13 : DJ b_MD_areTwo 13 (.ifCond .eq) 16 25 := ⟨12, by decide +kernel, rfl, by decide⟩
theorem d_MD_areTwo_16 : PLi b_MD_areTwo 16 1 17 := Or.inl ⟨1, by decide +kernel, rfl, rfl⟩
theorem d_MD_areTwo_17 : PLi b_MD_areTwo 17 2 18 := Or.inl ⟨2, by decide +kernel, rfl, rfl⟩
theorem d_MD_areTwo_18 : DJ b_MD_areTwo 18 (.if_icmp .eq) 21 25 := ⟨7, by decide +kernel, rfl, by decide⟩
theorem d_MD_areTwo_21 : PCi b_MD_areTwo 21 1 22 := Or.inl ⟨1, by decide +kernel, by decide, rfl⟩
theorem d_MD_areTwo_22 : DJ b_MD_areTwo 22 .goto 25 26 := ⟨4, by decide +kernel, rfl, by decide⟩
theorem d_MD_areTwo_25 : PCi b_MD_areTwo 25 0 26 := Or.inl ⟨0, by decide +kernel, by decide, rfl⟩
theorem d_MD_areTwo_26 : DR b_MD_areTwo 26 (.ireturn) 1 27 := ⟨by decide +kernel, rfl⟩
set_option maxRecDepth 20000 in
theorem B_MD_areTwo_25 {G : MCx} (hC : C0 G "AccusedChooseModel" b_MD_areTwo 3 2) (s : St) : VO G (RZ G b_MD_areTwo) (F_MD_areTwo_25 s) 25 [] [] s := by
  unfold F_MD_areTwo_25
  refine VO_const hC d_MD_areTwo_25 ?_
  exact VO_z0 d_MD_areTwo_26
set_option maxRecDepth 20000 in
theorem B_MD_areTwo {G : MCx} (hC : C0 G "AccusedChooseModel" b_MD_areTwo 3 2) (a1 : Int32) (a2 : Int32) (s : St) : VO G (RZ G b_MD_areTwo) (F_MD_areTwo a1 a2 s) 0 [(0, .ref (gad G 58)), (1, .int a1), (2, .int a2)] [] s := by
  unfold F_MD_areTwo
  refine VO_aload hC d_MD_areTwo_0 0 rfl ?_
  refine VO_iload hC d_MD_areTwo_1 1 rfl ?_
  refine VO_callVI hC [.int a1] [] ml_MD_93 d_MD_areTwo_2 yv_MD_isPerson sh_MD rfl rfl (fun o h => M_MD_isPerson hC.inj h) (by decide) rfl rfl (Nat.le_of_ble_eq_true rfl) (fun o1 => ?_)
  refine VO_if_eq hC d_MD_areTwo_5 (fun _ => ?_) (fun _ => ?_)
  · exact VO_sub [] rfl (B_MD_areTwo_25 hC o1.2)
  · refine VO_aload hC d_MD_areTwo_8 0 rfl ?_
    refine VO_iload hC d_MD_areTwo_9 2 rfl ?_
    refine VO_callVI hC [.int a2] [] ml_MD_93 d_MD_areTwo_10 yv_MD_isPerson sh_MD rfl rfl (fun o h => M_MD_isPerson hC.inj h) (by decide) rfl rfl (Nat.le_of_ble_eq_true rfl) (fun o2 => ?_)
    refine VO_if_eq hC d_MD_areTwo_13 (fun _ => ?_) (fun _ => ?_)
    · exact VO_sub [] rfl (B_MD_areTwo_25 hC o2.2)
    · refine VO_iload hC d_MD_areTwo_16 1 rfl ?_
      refine VO_iload hC d_MD_areTwo_17 2 rfl ?_
      refine VO_icmp_eq hC d_MD_areTwo_18 (fun _ => ?_) (fun _ => ?_)
      · exact VO_sub [] rfl (B_MD_areTwo_25 hC o2.2)
      · refine VO_const hC d_MD_areTwo_21 ?_
        refine VO_goto hC d_MD_areTwo_22 ?_
        exact VO_z1 d_MD_areTwo_26
set_option maxRecDepth 20000 in
theorem M_MD_areTwo {l : Launch} {D : va_G} {ad : Nat → Nat} {cI cL : ClassId} (hj : Inj ad) {a1 : Int32} {a2 : Int32} {s : St} {o : Int32 × St} (h : F_MD_areTwo a1 a2 s = some o) : Cn l D ad cI cL y_MD_areTwo b_MD_areTwo 3 (some .boolean) 2 [.ref (ad 58), .int a1, .int a2] s (some (.int o.1)) o.2 := by
  refine Cn_ofZ hj (plainFor_of_name (by decide)) (Nat.le_of_ble_eq_true rfl) [(0, .ref (ad 58)), (1, .int a1), (2, .int a2)] rfl (fun G hC e1 e2 e3 e4 e5 hR => ?_)
  subst e1; subst e2; subst e3; subst e4; subst e5
  exact B_MD_areTwo hC a1 a2 s o h hR
theorem d_MD_feed_0 : PLi b_MD_feed 0 1 1 := Or.inl ⟨1, by decide +kernel, rfl, rfl⟩
theorem d_MD_feed_1 : PCi b_MD_feed 1 0 2 := Or.inl ⟨0, by decide +kernel, by decide, rfl⟩
theorem d_MD_feed_2 : PCi b_MD_feed 2 255 5 := Or.inr (Or.inr ⟨255, by decide +kernel, by decide, rfl⟩)
theorem d_MD_feed_5 : DR b_MD_feed 5 (.invokestatic 97) 3 8 := ⟨by decide +kernel, rfl⟩
theorem d_MD_feed_8 : PSi b_MD_feed 8 2 9 := Or.inl ⟨2, by decide +kernel, rfl, rfl⟩
theorem d_MD_feed_9 : PLi b_MD_feed 9 2 10 := Or.inl ⟨2, by decide +kernel, rfl, rfl⟩
theorem d_MD_feed_10 : DJ b_MD_feed 10 (.ifCond .ne) 13 25 := ⟨15, by decide +kernel, rfl, by decide⟩
theorem d_MD_feed_13 : PLa b_MD_feed 13 0 14 := Or.inl ⟨0, by decide +kernel, rfl, rfl⟩
theorem d_MD_feed_14 : DR b_MD_feed 14 (.getfield 101) 3 17 := ⟨by decide +kernel, rfl⟩
theorem d_MD_feed_17 : PCi b_MD_feed 17 96 19 := Or.inr (Or.inl ⟨96, by decide +kernel, by decide, rfl⟩)
theorem d_MD_feed_19 : DJ b_MD_feed 19 (.if_icmp .ne) 22 25 := ⟨6, by decide +kernel, rfl, by decide⟩
theorem d_MD_feed_22 : PCi b_MD_feed 22 (-6) 24 := Or.inr (Or.inl ⟨(-6), by decide +kernel, by decide, rfl⟩)
theorem d_MD_feed_24 : PSi b_MD_feed 24 2 25 := Or.inl ⟨2, by decide +kernel, rfl, rfl⟩
theorem d_MD_feed_25 : PLi b_MD_feed 25 2 26 := Or.inl ⟨2, by decide +kernel, rfl, rfl⟩
theorem d_MD_feed_26 : DJ b_MD_feed 26 (.ifCond .eq) 29 35 := ⟨9, by decide +kernel, rfl, by decide⟩
theorem d_MD_feed_29 : PLa b_MD_feed 29 0 30 := Or.inl ⟨0, by decide +kernel, rfl, rfl⟩
theorem d_MD_feed_30 : PLi b_MD_feed 30 2 31 := Or.inl ⟨2, by decide +kernel, rfl, rfl⟩
theorem d_MD_feed_31 : DR b_MD_feed 31 (.invokevirtual 104) 3 34 := ⟨by decide +kernel, rfl⟩
theorem d_MD_feed_34 : DR b_MD_feed 34 (.ireturn) 1 35 := ⟨by decide +kernel, rfl⟩
theorem d_MD_feed_35 : PLa b_MD_feed 35 0 36 := Or.inl ⟨0, by decide +kernel, rfl, rfl⟩
theorem d_MD_feed_36 : DR b_MD_feed 36 (.getfield 37) 3 39 := ⟨by decide +kernel, rfl⟩
theorem d_MD_feed_39 : PLa b_MD_feed 39 0 40 := Or.inl ⟨0, by decide +kernel, rfl, rfl⟩
theorem d_MD_feed_40 : DR b_MD_feed 40 (.getfield 101) 3 43 := ⟨by decide +kernel, rfl⟩
theorem d_MD_feed_43 : PLi b_MD_feed 43 1 44 := Or.inl ⟨1, by decide +kernel, rfl, rfl⟩
theorem d_MD_feed_44 : DR b_MD_feed 44 (.iastore) 1 45 := ⟨by decide +kernel, rfl⟩
theorem d_MD_feed_45 : PLa b_MD_feed 45 0 46 := Or.inl ⟨0, by decide +kernel, rfl, rfl⟩
theorem d_MD_feed_46 : DR b_MD_feed 46 (.dup) 1 47 := ⟨by decide +kernel, rfl⟩
theorem d_MD_feed_47 : DR b_MD_feed 47 (.getfield 101) 3 50 := ⟨by decide +kernel, rfl⟩
theorem d_MD_feed_50 : PCi b_MD_feed 50 1 51 := Or.inl ⟨1, by decide +kernel, by decide, rfl⟩
theorem d_MD_feed_51 : DR b_MD_feed 51 (.iadd) 1 52 := ⟨by decide +kernel, rfl⟩
theorem d_MD_feed_52 : DR b_MD_feed 52 (.putfield 101) 3 55 := ⟨by decide +kernel, rfl⟩
theorem d_MD_feed_55 : PLa b_MD_feed 55 0 56 := Or.inl ⟨0, by decide +kernel, rfl, rfl⟩
theorem d_MD_feed_56 : DR b_MD_feed 56 (.getfield 101) 3 59 := ⟨by decide +kernel, rfl⟩
theorem d_MD_feed_59 : DR b_MD_feed 59 (.ireturn) 1 60 := ⟨by decide +kernel, rfl⟩
set_option maxRecDepth 20000 in
theorem B_MD_feed_25 {G : MCx} (hC : C0 G "AccusedChooseModel" b_MD_feed 3 2) (v1 : Int32) (v2 : Int32) (s : St) : VO G (RI G b_MD_feed) (F_MD_feed_25 v1 v2 s) 25 [(0, .ref (gad G 58)), (1, .int v1), (2, .int v2)] [] s := by
  unfold F_MD_feed_25
  refine VO_iload hC d_MD_feed_25 2 rfl ?_
  refine VO_if_eq hC d_MD_feed_26 (fun _ => ?_) (fun _ => ?_)
  · refine VO_aload hC d_MD_feed_35 0 rfl ?_
    refine VO_getr (r := 68) hC fl_MD_37 sh_MD rfl d_MD_feed_36 ?_
    refine VO_aload hC d_MD_feed_39 0 rfl ?_
    refine VO_geti hC fl_MD_101 sh_MD rfl d_MD_feed_40 ?_
    refine VO_iload hC d_MD_feed_43 1 rfl ?_
    refine VO_iastore hC ia_68 d_MD_feed_44 (fun s2 => ?_)
    refine VO_aload hC d_MD_feed_45 0 rfl ?_
    refine VO_dup hC d_MD_feed_46 rfl ?_
    refine VO_geti hC fl_MD_101 sh_MD rfl d_MD_feed_47 ?_
    refine VO_const hC d_MD_feed_50 ?_
    refine VO_iadd hC d_MD_feed_51 ?_
    refine VO_puti hC fw_MD_101 sh_MD rfl d_MD_feed_52 (fun s3 => ?_)
    refine VO_aload hC d_MD_feed_55 0 rfl ?_
    refine VO_geti hC fl_MD_101 sh_MD rfl d_MD_feed_56 ?_
    exact VO_ireturn d_MD_feed_59
  · refine VO_aload hC d_MD_feed_29 0 rfl ?_
    refine VO_iload hC d_MD_feed_30 2 rfl ?_
    refine VO_callVI hC [.int v2] [] ml_MD_104 d_MD_feed_31 yv_MD_no sh_MD rfl rfl (fun o h => M_MD_no hC.inj h) (by decide) rfl rfl (Nat.le_of_ble_eq_true rfl) (fun o4 => ?_)
    exact VO_ireturn d_MD_feed_34
set_option maxRecDepth 20000 in
theorem B_MD_feed {G : MCx} (hC : C0 G "AccusedChooseModel" b_MD_feed 3 2) (a1 : Int32) (s : St) : VO G (RI G b_MD_feed) (F_MD_feed a1 s) 0 [(0, .ref (gad G 58)), (1, .int a1)] [] s := by
  unfold F_MD_feed
  refine VO_iload hC d_MD_feed_0 1 rfl ?_
  refine VO_const hC d_MD_feed_1 ?_
  refine VO_const hC d_MD_feed_2 ?_
  refine VO_callSI hC [.int a1, .int (0 : Int32), .int (255 : Int32)] [] ml_MD_97 d_MD_feed_5 ys_MD_bound (fun o h => M_MD_bound hC.inj h) (by decide) rfl rfl (Nat.le_of_ble_eq_true rfl) (fun o1 => ?_)
  refine VO_istore hC d_MD_feed_8 [(0, .ref (gad G 58)), (1, .int a1)] rfl (by decide) ?_
  refine VO_iload hC d_MD_feed_9 0 rfl ?_
  refine VO_if_ne hC d_MD_feed_10 (fun _ => ?_) (fun _ => ?_)
  · refine VO_aload hC d_MD_feed_13 1 rfl ?_
    refine VO_geti hC fl_MD_101 sh_MD rfl d_MD_feed_14 ?_
    refine VO_const hC d_MD_feed_17 ?_
    refine VO_icmp_ne hC d_MD_feed_19 (fun _ => ?_) (fun _ => ?_)
    · refine VO_const hC d_MD_feed_22 ?_
      refine VO_istore hC d_MD_feed_24 [(0, .ref (gad G 58)), (1, .int a1)] rfl (by decide) ?_
      exact VO_sub [1, 2, 0] rfl (B_MD_feed_25 hC a1 (-6 : Int32) o1.2)
    · exact VO_sub [1, 2, 0] rfl (B_MD_feed_25 hC a1 o1.1 o1.2)
  · exact VO_sub [1, 2, 0] rfl (B_MD_feed_25 hC a1 o1.1 o1.2)
set_option maxRecDepth 20000 in
theorem M_MD_feed {l : Launch} {D : va_G} {ad : Nat → Nat} {cI cL : ClassId} (hj : Inj ad) {a1 : Int32} {s : St} {o : Int32 × St} (h : F_MD_feed a1 s = some o) : Cn l D ad cI cL y_MD_feed b_MD_feed 3 (some .int) 2 [.ref (ad 58), .int a1] s (some (.int o.1)) o.2 := by
  refine Cn_ofI hj (plainFor_of_name (by decide)) (Nat.le_of_ble_eq_true rfl) [(0, .ref (ad 58)), (1, .int a1)] rfl (fun G hC e1 e2 e3 e4 e5 hR => ?_)
  subst e1; subst e2; subst e3; subst e4; subst e5
  exact B_MD_feed hC a1 s o h hR
theorem d_MD_next_0 : PLa b_MD_next 0 0 1 := Or.inl ⟨0, by decide +kernel, rfl, rfl⟩
theorem d_MD_next_1 : DR b_MD_next 1 (.getfield 108) 3 4 := ⟨by decide +kernel, rfl⟩
theorem d_MD_next_4 : PLa b_MD_next 4 0 5 := Or.inl ⟨0, by decide +kernel, rfl, rfl⟩
theorem d_MD_next_5 : DR b_MD_next 5 (.getfield 101) 3 8 := ⟨by decide +kernel, rfl⟩
theorem d_MD_next_8 : DJ b_MD_next 8 (.if_icmp .ge) 11 23 := ⟨15, by decide +kernel, rfl, by decide⟩
theorem d_MD_next_11 : PLa b_MD_next 11 0 12 := Or.inl ⟨0, by decide +kernel, rfl, rfl⟩
theorem d_MD_next_12 : DR b_MD_next 12 (.getfield 37) 3 15 := ⟨by decide +kernel, rfl⟩
theorem d_MD_next_15 : PLa b_MD_next 15 0 16 := Or.inl ⟨0, by decide +kernel, rfl, rfl⟩
theorem d_MD_next_16 : DR b_MD_next 16 (.getfield 108) 3 19 := ⟨by decide +kernel, rfl⟩
theorem d_MD_next_19 : DR b_MD_next 19 (.iaload) 1 20 := ⟨by decide +kernel, rfl⟩
theorem d_MD_next_20 : DJ b_MD_next 20 .goto 23 24 := ⟨4, by decide +kernel, rfl, by decide⟩
theorem d_MD_next_23 : PCi b_MD_next 23 (-1) 24 := Or.inl ⟨(-1), by decide +kernel, by decide, rfl⟩
theorem d_MD_next_24 : DR b_MD_next 24 (.ireturn) 1 25 := ⟨by decide +kernel, rfl⟩
set_option maxRecDepth 20000 in
theorem B_MD_next {G : MCx} (hC : C0 G "AccusedChooseModel" b_MD_next 1 1) (s : St) : VO G (RI G b_MD_next) (F_MD_next s) 0 [(0, .ref (gad G 58))] [] s := by
  unfold F_MD_next
  refine VO_aload hC d_MD_next_0 0 rfl ?_
  refine VO_geti hC fl_MD_108 sh_MD rfl d_MD_next_1 ?_
  refine VO_aload hC d_MD_next_4 0 rfl ?_
  refine VO_geti hC fl_MD_101 sh_MD rfl d_MD_next_5 ?_
  refine VO_icmp_ge hC d_MD_next_8 (fun _ => ?_) (fun _ => ?_)
  · refine VO_const hC d_MD_next_23 ?_
    exact VO_ireturn d_MD_next_24
  · refine VO_aload hC d_MD_next_11 0 rfl ?_
    refine VO_getr (r := 68) hC fl_MD_37 sh_MD rfl d_MD_next_12 ?_
    refine VO_aload hC d_MD_next_15 0 rfl ?_
    refine VO_geti hC fl_MD_108 sh_MD rfl d_MD_next_16 ?_
    refine VO_iaload hC ia_68 d_MD_next_19 (fun x1 => ?_)
    refine VO_goto hC d_MD_next_20 ?_
    exact VO_ireturn d_MD_next_24
set_option maxRecDepth 20000 in
theorem M_MD_next {l : Launch} {D : va_G} {ad : Nat → Nat} {cI cL : ClassId} (hj : Inj ad) {s : St} {o : Int32 × St} (h : F_MD_next s = some o) : Cn l D ad cI cL y_MD_next b_MD_next 1 (some .int) 1 [.ref (ad 58)] s (some (.int o.1)) o.2 := by
  refine Cn_ofI hj (plainFor_of_name (by decide)) (Nat.le_of_ble_eq_true rfl) [(0, .ref (ad 58))] rfl (fun G hC e1 e2 e3 e4 e5 hR => ?_)
  subst e1; subst e2; subst e3; subst e4; subst e5
  exact B_MD_next hC s o h hR
theorem d_MD_readsDigits_0 : PCi b_MD_readsDigits 0 0 1 := Or.inl ⟨0, by decide +kernel, by decide, rfl⟩
theorem d_MD_readsDigits_1 : PSi b_MD_readsDigits 1 3 2 := Or.inl ⟨3, by decide +kernel, rfl, rfl⟩
theorem d_MD_readsDigits_2 : PCi b_MD_readsDigits 2 0 3 := Or.inl ⟨0, by decide +kernel, by decide, rfl⟩
theorem d_MD_readsDigits_3 : PSi b_MD_readsDigits 3 4 5 := Or.inr ⟨by decide +kernel, rfl⟩
theorem d_MD_readsDigits_5 : PLi b_MD_readsDigits 5 4 7 := Or.inr ⟨by decide +kernel, rfl⟩
theorem d_MD_readsDigits_7 : PLi b_MD_readsDigits 7 2 8 := Or.inl ⟨2, by decide +kernel, rfl, rfl⟩
theorem d_MD_readsDigits_8 : DJ b_MD_readsDigits 8 (.if_icmp .ge) 11 56 := ⟨48, by decide +kernel, rfl, by decide⟩
theorem d_MD_readsDigits_11 : PLa b_MD_readsDigits 11 0 12 := Or.inl ⟨0, by decide +kernel, rfl, rfl⟩
theorem d_MD_readsDigits_12 : DR b_MD_readsDigits 12 (.invokevirtual 111) 3 15 := ⟨by decide +kernel, rfl⟩
theorem d_MD_readsDigits_15 : PCi b_MD_readsDigits 15 48 17 := Or.inr (Or.inl ⟨48, by decide +kernel, by decide, rfl⟩)
theorem d_MD_readsDigits_17 : PCi b_MD_readsDigits 17 57 19 := Or.inr (Or.inl ⟨57, by decide +kernel, by decide, rfl⟩)
theorem d_MD_readsDigits_19 : DR b_MD_readsDigits 19 (.invokestatic 115) 3 22 := ⟨by decide +kernel, rfl⟩
theorem d_MD_readsDigits_22 : DJ b_MD_readsDigits 22 (.ifCond .ne) 25 27 := ⟨5, by decide +kernel, rfl, by decide⟩
theorem d_MD_readsDigits_25 : PCi b_MD_readsDigits 25 0 26 := Or.inl ⟨0, by decide +kernel, by decide, rfl⟩
theorem d_MD_readsDigits_26 : DR b_MD_readsDigits 26 (.ireturn) 1 27 := ⟨by decide +kernel, rfl⟩
theorem d_MD_readsDigits_27 : PCi b_MD_readsDigits 27 10 29 := Or.inr (Or.inl ⟨10, by decide +kernel, by decide, rfl⟩)
theorem d_MD_readsDigits_29 : PLi b_MD_readsDigits 29 3 30 := Or.inl ⟨3, by decide +kernel, rfl, rfl⟩
theorem d_MD_readsDigits_30 : DR b_MD_readsDigits 30 (.imul) 1 31 := ⟨by decide +kernel, rfl⟩
theorem d_MD_readsDigits_31 : PLa b_MD_readsDigits 31 0 32 := Or.inl ⟨0, by decide +kernel, rfl, rfl⟩
theorem d_MD_readsDigits_32 : DR b_MD_readsDigits 32 (.invokevirtual 111) 3 35 := ⟨by decide +kernel, rfl⟩
theorem d_MD_readsDigits_35 : DR b_MD_readsDigits 35 (.iadd) 1 36 := ⟨by decide +kernel, rfl⟩
theorem d_MD_readsDigits_36 : PCi b_MD_readsDigits 36 48 38 := Or.inr (Or.inl ⟨48, by decide +kernel, by decide, rfl⟩)
theorem d_MD_readsDigits_38 : DR b_MD_readsDigits 38 (.isub) 1 39 := ⟨by decide +kernel, rfl⟩
theorem d_MD_readsDigits_39 : PSi b_MD_readsDigits 39 3 40 := Or.inl ⟨3, by decide +kernel, rfl, rfl⟩
theorem d_MD_readsDigits_40 : PLa b_MD_readsDigits 40 0 41 := Or.inl ⟨0, by decide +kernel, rfl, rfl⟩
theorem d_MD_readsDigits_41 : DR b_MD_readsDigits 41 (.dup) 1 42 := ⟨by decide +kernel, rfl⟩
theorem d_MD_readsDigits_42 : DR b_MD_readsDigits 42 (.getfield 108) 3 45 := ⟨by decide +kernel, rfl⟩
theorem d_MD_readsDigits_45 : PCi b_MD_readsDigits 45 1 46 := Or.inl ⟨1, by decide +kernel, by decide, rfl⟩
theorem d_MD_readsDigits_46 : DR b_MD_readsDigits 46 (.iadd) 1 47 := ⟨by decide +kernel, rfl⟩
theorem d_MD_readsDigits_47 : DR b_MD_readsDigits 47 (.putfield 108) 3 50 := ⟨by decide +kernel, rfl⟩
theorem d_MD_readsDigits_50 : DR b_MD_readsDigits 50 (.iinc 4 1) 3 53 := ⟨by decide +kernel, rfl⟩
theorem d_MD_readsDigits_53 : DJ b_MD_readsDigits 53 .goto 56 5 := ⟨-48, by decide +kernel, rfl, by decide⟩
theorem d_MD_readsDigits_56 : PLa b_MD_readsDigits 56 0 57 := Or.inl ⟨0, by decide +kernel, rfl, rfl⟩
theorem d_MD_readsDigits_57 : DR b_MD_readsDigits 57 (.getfield 46) 3 60 := ⟨by decide +kernel, rfl⟩
theorem d_MD_readsDigits_60 : PLi b_MD_readsDigits 60 1 61 := Or.inl ⟨1, by decide +kernel, rfl, rfl⟩
theorem d_MD_readsDigits_61 : PLi b_MD_readsDigits 61 3 62 := Or.inl ⟨3, by decide +kernel, rfl, rfl⟩
theorem d_MD_readsDigits_62 : DR b_MD_readsDigits 62 (.iastore) 1 63 := ⟨by decide +kernel, rfl⟩
theorem d_MD_readsDigits_63 : PCi b_MD_readsDigits 63 1 64 := Or.inl ⟨1, by decide +kernel, by decide, rfl⟩
theorem d_MD_readsDigits_64 : DR b_MD_readsDigits 64 (.ireturn) 1 65 := ⟨by decide +kernel, rfl⟩
set_option maxRecDepth 20000 in
theorem BH_MD_readsDigits_5 {G : MCx} (hC : C0 G "AccusedChooseModel" b_MD_readsDigits 5 2) {v1 : Int32} {v2 : Int32} (K5 : Int32 × Int32 × St → Option (Int32 × St)) (hK5 : ∀ (w3 : Int32) (w4 : Int32) (s : St), VO G (RZ G b_MD_readsDigits) (K5 (w3, w4, s)) 5 [(0, .ref (gad G 58)), (1, .int v1), (2, .int v2), (3, .int w3), (4, .int w4)] [] s) (v3 : Int32) (v4 : Int32) (s : St) : VO G (RZ G b_MD_readsDigits) (H_MD_readsDigits_5 v1 v2 K5 v3 v4 s) 5 [(0, .ref (gad G 58)), (1, .int v1), (2, .int v2), (3, .int v3), (4, .int v4)] [] s := by
  unfold H_MD_readsDigits_5
  refine VO_iload hC d_MD_readsDigits_5 4 rfl ?_
  refine VO_iload hC d_MD_readsDigits_7 2 rfl ?_
  refine VO_icmp_ge hC d_MD_readsDigits_8 (fun _ => ?_) (fun _ => ?_)
  · refine VO_aload hC d_MD_readsDigits_56 0 rfl ?_
    refine VO_getr (r := 71) hC fl_MD_46 sh_MD rfl d_MD_readsDigits_57 ?_
    refine VO_iload hC d_MD_readsDigits_60 1 rfl ?_
    refine VO_iload hC d_MD_readsDigits_61 3 rfl ?_
    refine VO_iastore hC ia_71 d_MD_readsDigits_62 (fun s1 => ?_)
    refine VO_const hC d_MD_readsDigits_63 ?_
    exact VO_z1 d_MD_readsDigits_64
  · refine VO_aload hC d_MD_readsDigits_11 0 rfl ?_
    refine VO_callVI hC [] [] ml_MD_111 d_MD_readsDigits_12 yv_MD_next sh_MD rfl rfl (fun o h => M_MD_next hC.inj h) (by decide) rfl rfl (Nat.le_of_ble_eq_true rfl) (fun o2 => ?_)
    refine VO_const hC d_MD_readsDigits_15 ?_
    refine VO_const hC d_MD_readsDigits_17 ?_
    refine VO_callSI hC [.int o2.1, .int (48 : Int32), .int (57 : Int32)] [] ml_MD_115 d_MD_readsDigits_19 ys_MD_isIn (fun o h => M_MD_isIn hC.inj h) (by decide) rfl rfl (Nat.le_of_ble_eq_true rfl) (fun o3 => ?_)
    refine VO_if_ne hC d_MD_readsDigits_22 (fun _ => ?_) (fun _ => ?_)
    · refine VO_const hC d_MD_readsDigits_25 ?_
      exact VO_z0 d_MD_readsDigits_26
    · refine VO_const hC d_MD_readsDigits_27 ?_
      refine VO_iload hC d_MD_readsDigits_29 3 rfl ?_
      refine VO_imul hC d_MD_readsDigits_30 ?_
      refine VO_aload hC d_MD_readsDigits_31 0 rfl ?_
      refine VO_callVI hC [] [.int ((10 : Int32) * v3)] ml_MD_111 d_MD_readsDigits_32 yv_MD_next sh_MD rfl rfl (fun o h => M_MD_next hC.inj h) (by decide) rfl rfl (Nat.le_of_ble_eq_true rfl) (fun o4 => ?_)
      refine VO_iadd hC d_MD_readsDigits_35 ?_
      refine VO_const hC d_MD_readsDigits_36 ?_
      refine VO_isub hC d_MD_readsDigits_38 ?_
      refine VO_istoreB hC d_MD_readsDigits_39 [(0, .ref (gad G 58)), (1, .int v1), (2, .int v2), (4, .int v4)] rfl (by decide) (fun x5 => ?_)
      refine VO_aload hC d_MD_readsDigits_40 1 rfl ?_
      refine VO_dup hC d_MD_readsDigits_41 rfl ?_
      refine VO_geti hC fl_MD_108 sh_MD rfl d_MD_readsDigits_42 ?_
      refine VO_const hC d_MD_readsDigits_45 ?_
      refine VO_iadd hC d_MD_readsDigits_46 ?_
      refine VO_puti hC fw_MD_108 sh_MD rfl d_MD_readsDigits_47 (fun s6 => ?_)
      refine VO_iinc hC d_MD_readsDigits_50 4 rfl (by decide : Int32.ofInt 1 = 1) [(3, .int x5), (0, .ref (gad G 58)), (1, .int v1), (2, .int v2)] rfl (by decide) ?_
      refine VO_goto hC d_MD_readsDigits_53 ?_
      exact VO_sub [2, 3, 4, 1, 0] rfl (hK5 x5 (v4 + 1) s6)
set_option maxRecDepth 20000 in
theorem B_MD_readsDigits_5 {G : MCx} (hC : C0 G "AccusedChooseModel" b_MD_readsDigits 5 2) (v1 : Int32) (v2 : Int32) (v3 : Int32) (v4 : Int32) (s : St) : VO G (RZ G b_MD_readsDigits) (F_MD_readsDigits_5 v1 v2 v3 v4 s) 5 [(0, .ref (gad G 58)), (1, .int v1), (2, .int v2), (3, .int v3), (4, .int v4)] [] s := by
  exact VO_fix (G_MD_readsDigits_5 v1 v2) 5 (fun q => [(0, .ref (gad G 58)), (1, .int v1), (2, .int v2), (3, .int q.1), (4, .int q.2.1)]) (fun q => q.2.2) (fun K hK q => BH_MD_readsDigits_5 hC K (fun w3 w4 s => hK (w3, w4, s)) q.1 q.2.1 q.2.2) FUEL (v3, v4, s)
set_option maxRecDepth 20000 in
theorem B_MD_readsDigits {G : MCx} (hC : C0 G "AccusedChooseModel" b_MD_readsDigits 5 2) (a1 : Int32) (a2 : Int32) (s : St) : VO G (RZ G b_MD_readsDigits) (F_MD_readsDigits a1 a2 s) 0 [(0, .ref (gad G 58)), (1, .int a1), (2, .int a2)] [] s := by
  unfold F_MD_readsDigits
  refine VO_const hC d_MD_readsDigits_0 ?_
  refine VO_istore hC d_MD_readsDigits_1 [(0, .ref (gad G 58)), (1, .int a1), (2, .int a2)] rfl (by decide) ?_
  refine VO_const hC d_MD_readsDigits_2 ?_
  refine VO_istore hC d_MD_readsDigits_3 [(3, .int (0 : Int32)), (0, .ref (gad G 58)), (1, .int a1), (2, .int a2)] rfl (by decide) ?_
  exact VO_sub [2, 3, 4, 1, 0] rfl (B_MD_readsDigits_5 hC a1 a2 (0 : Int32) (0 : Int32) s)
set_option maxRecDepth 20000 in
theorem M_MD_readsDigits {l : Launch} {D : va_G} {ad : Nat → Nat} {cI cL : ClassId} (hj : Inj ad) {a1 : Int32} {a2 : Int32} {s : St} {o : Int32 × St} (h : F_MD_readsDigits a1 a2 s = some o) : Cn l D ad cI cL y_MD_readsDigits b_MD_readsDigits 5 (some .boolean) 2 [.ref (ad 58), .int a1, .int a2] s (some (.int o.1)) o.2 := by
  refine Cn_ofZ hj (plainFor_of_name (by decide)) (Nat.le_of_ble_eq_true rfl) [(0, .ref (ad 58)), (1, .int a1), (2, .int a2)] rfl (fun G hC e1 e2 e3 e4 e5 hR => ?_)
  subst e1; subst e2; subst e3; subst e4; subst e5
  exact B_MD_readsDigits hC a1 a2 s o h hR
theorem d_MD_statement_0 : PLa b_MD_statement 0 0 1 := Or.inl ⟨0, by decide +kernel, rfl, rfl⟩
theorem d_MD_statement_1 : DR b_MD_statement 1 (.invokevirtual 111) 3 4 := ⟨by decide +kernel, rfl⟩
theorem d_MD_statement_4 : PSi b_MD_statement 4 1 5 := Or.inl ⟨1, by decide +kernel, rfl, rfl⟩
theorem d_MD_statement_5 : PLi b_MD_statement 5 1 6 := Or.inl ⟨1, by decide +kernel, rfl, rfl⟩
theorem d_MD_statement_6 : PCi b_MD_statement 6 100 8 := Or.inr (Or.inl ⟨100, by decide +kernel, by decide, rfl⟩)
theorem d_MD_statement_8 : DJ b_MD_statement 8 (.if_icmp .eq) 11 37 := ⟨29, by decide +kernel, rfl, by decide⟩
theorem d_MD_statement_11 : PLi b_MD_statement 11 1 12 := Or.inl ⟨1, by decide +kernel, rfl, rfl⟩
theorem d_MD_statement_12 : PCi b_MD_statement 12 112 14 := Or.inr (Or.inl ⟨112, by decide +kernel, by decide, rfl⟩)
theorem d_MD_statement_14 : DJ b_MD_statement 14 (.if_icmp .eq) 17 37 := ⟨23, by decide +kernel, rfl, by decide⟩
theorem d_MD_statement_17 : PLi b_MD_statement 17 1 18 := Or.inl ⟨1, by decide +kernel, rfl, rfl⟩
theorem d_MD_statement_18 : PCi b_MD_statement 18 98 20 := Or.inr (Or.inl ⟨98, by decide +kernel, by decide, rfl⟩)
theorem d_MD_statement_20 : DJ b_MD_statement 20 (.if_icmp .eq) 23 37 := ⟨17, by decide +kernel, rfl, by decide⟩
theorem d_MD_statement_23 : PLi b_MD_statement 23 1 24 := Or.inl ⟨1, by decide +kernel, rfl, rfl⟩
theorem d_MD_statement_24 : PCi b_MD_statement 24 97 26 := Or.inr (Or.inl ⟨97, by decide +kernel, by decide, rfl⟩)
theorem d_MD_statement_26 : DJ b_MD_statement 26 (.if_icmp .eq) 29 37 := ⟨11, by decide +kernel, rfl, by decide⟩
theorem d_MD_statement_29 : PLi b_MD_statement 29 1 30 := Or.inl ⟨1, by decide +kernel, rfl, rfl⟩
theorem d_MD_statement_30 : PCi b_MD_statement 30 120 32 := Or.inr (Or.inl ⟨120, by decide +kernel, by decide, rfl⟩)
theorem d_MD_statement_32 : DJ b_MD_statement 32 (.if_icmp .eq) 35 37 := ⟨5, by decide +kernel, rfl, by decide⟩
theorem d_MD_statement_35 : PCi b_MD_statement 35 0 36 := Or.inl ⟨0, by decide +kernel, by decide, rfl⟩
theorem d_MD_statement_36 : DR b_MD_statement 36 (.ireturn) 1 37 := ⟨by decide +kernel, rfl⟩
theorem d_MD_statement_37 : PLa b_MD_statement 37 0 38 := Or.inl ⟨0, by decide +kernel, rfl, rfl⟩
theorem d_MD_statement_38 : DR b_MD_statement 38 (.getfield 40) 3 41 := ⟨by decide +kernel, rfl⟩
theorem d_MD_statement_41 : PLa b_MD_statement 41 0 42 := Or.inl ⟨0, by decide +kernel, rfl, rfl⟩
theorem d_MD_statement_42 : DR b_MD_statement 42 (.getfield 119) 3 45 := ⟨by decide +kernel, rfl⟩
theorem d_MD_statement_45 : PLi b_MD_statement 45 1 46 := Or.inl ⟨1, by decide +kernel, rfl, rfl⟩
theorem d_MD_statement_46 : DR b_MD_statement 46 (.iastore) 1 47 := ⟨by decide +kernel, rfl⟩
theorem d_MD_statement_47 : PLa b_MD_statement 47 0 48 := Or.inl ⟨0, by decide +kernel, rfl, rfl⟩
theorem d_MD_statement_48 : DR b_MD_statement 48 (.getfield 43) 3 51 := ⟨by decide +kernel, rfl⟩
theorem d_MD_statement_51 : PLa b_MD_statement 51 0 52 := Or.inl ⟨0, by decide +kernel, rfl, rfl⟩
theorem d_MD_statement_52 : DR b_MD_statement 52 (.getfield 119) 3 55 := ⟨by decide +kernel, rfl⟩
theorem d_MD_statement_55 : PLa b_MD_statement 55 0 56 := Or.inl ⟨0, by decide +kernel, rfl, rfl⟩
theorem d_MD_statement_56 : DR b_MD_statement 56 (.getfield 108) 3 59 := ⟨by decide +kernel, rfl⟩
theorem d_MD_statement_59 : DR b_MD_statement 59 (.iastore) 1 60 := ⟨by decide +kernel, rfl⟩
theorem d_MD_statement_60 : PLa b_MD_statement 60 0 61 := Or.inl ⟨0, by decide +kernel, rfl, rfl⟩
theorem d_MD_statement_61 : DR b_MD_statement 61 (.dup) 1 62 := ⟨by decide +kernel, rfl⟩
theorem d_MD_statement_62 : DR b_MD_statement 62 (.getfield 108) 3 65 := ⟨by decide +kernel, rfl⟩
theorem d_MD_statement_65 : PCi b_MD_statement 65 1 66 := Or.inl ⟨1, by decide +kernel, by decide, rfl⟩
theorem d_MD_statement_66 : DR b_MD_statement 66 (.iadd) 1 67 := ⟨by decide +kernel, rfl⟩
theorem d_MD_statement_67 : DR b_MD_statement 67 (.putfield 108) 3 70 := ⟨by decide +kernel, rfl⟩
theorem d_MD_statement_70 : PCi b_MD_statement 70 3 71 := Or.inl ⟨3, by decide +kernel, by decide, rfl⟩
theorem d_MD_statement_71 : PLa b_MD_statement 71 0 72 := Or.inl ⟨0, by decide +kernel, rfl, rfl⟩
theorem d_MD_statement_72 : DR b_MD_statement 72 (.getfield 119) 3 75 := ⟨by decide +kernel, rfl⟩
theorem d_MD_statement_75 : DR b_MD_statement 75 (.imul) 1 76 := ⟨by decide +kernel, rfl⟩
theorem d_MD_statement_76 : PSi b_MD_statement 76 2 77 := Or.inl ⟨2, by decide +kernel, rfl, rfl⟩
theorem d_MD_statement_77 : PLa b_MD_statement 77 0 78 := Or.inl ⟨0, by decide +kernel, rfl, rfl⟩
theorem d_MD_statement_78 : PLi b_MD_statement 78 2 79 := Or.inl ⟨2, by decide +kernel, rfl, rfl⟩
theorem d_MD_statement_79 : PCi b_MD_statement 79 1 80 := Or.inl ⟨1, by decide +kernel, by decide, rfl⟩
theorem d_MD_statement_80 : DR b_MD_statement 80 (.invokevirtual 122) 3 83 := ⟨by decide +kernel, rfl⟩
theorem d_MD_statement_83 : DJ b_MD_statement 83 (.ifCond .eq) 86 128 := ⟨45, by decide +kernel, rfl, by decide⟩
theorem d_MD_statement_86 : PLa b_MD_statement 86 0 87 := Or.inl ⟨0, by decide +kernel, rfl, rfl⟩
theorem d_MD_statement_87 : PLi b_MD_statement 87 2 88 := Or.inl ⟨2, by decide +kernel, rfl, rfl⟩
theorem d_MD_statement_88 : PCi b_MD_statement 88 1 89 := Or.inl ⟨1, by decide +kernel, by decide, rfl⟩
theorem d_MD_statement_89 : DR b_MD_statement 89 (.iadd) 1 90 := ⟨by decide +kernel, rfl⟩
theorem d_MD_statement_90 : PLi b_MD_statement 90 1 91 := Or.inl ⟨1, by decide +kernel, rfl, rfl⟩
theorem d_MD_statement_91 : PCi b_MD_statement 91 112 93 := Or.inr (Or.inl ⟨112, by decide +kernel, by decide, rfl⟩)
theorem d_MD_statement_93 : DJ b_MD_statement 93 (.if_icmp .ne) 96 100 := ⟨7, by decide +kernel, rfl, by decide⟩
theorem d_MD_statement_96 : PCi b_MD_statement 96 3 97 := Or.inl ⟨3, by decide +kernel, by decide, rfl⟩
theorem d_MD_statement_97 : DJ b_MD_statement 97 .goto 100 101 := ⟨4, by decide +kernel, rfl, by decide⟩
theorem d_MD_statement_100 : PCi b_MD_statement 100 1 101 := Or.inl ⟨1, by decide +kernel, by decide, rfl⟩
theorem d_MD_statement_101 : DR b_MD_statement 101 (.invokevirtual 122) 3 104 := ⟨by decide +kernel, rfl⟩
theorem d_MD_statement_104 : DJ b_MD_statement 104 (.ifCond .eq) 107 128 := ⟨24, by decide +kernel, rfl, by decide⟩
theorem d_MD_statement_107 : PLi b_MD_statement 107 1 108 := Or.inl ⟨1, by decide +kernel, rfl, rfl⟩
theorem d_MD_statement_108 : PCi b_MD_statement 108 112 110 := Or.inr (Or.inl ⟨112, by decide +kernel, by decide, rfl⟩)
theorem d_MD_statement_110 : DJ b_MD_statement 110 (.if_icmp .ne) 113 124 := ⟨14, by decide +kernel, rfl, by decide⟩
theorem d_MD_statement_113 : PLa b_MD_statement 113 0 114 := Or.inl ⟨0, by decide +kernel, rfl, rfl⟩
theorem d_MD_statement_114 : PLi b_MD_statement 114 2 115 := Or.inl ⟨2, by decide +kernel, rfl, rfl⟩
theorem d_MD_statement_115 : PCi b_MD_statement 115 2 116 := Or.inl ⟨2, by decide +kernel, by decide, rfl⟩
theorem d_MD_statement_116 : DR b_MD_statement 116 (.iadd) 1 117 := ⟨by decide +kernel, rfl⟩
theorem d_MD_statement_117 : PCi b_MD_statement 117 1 118 := Or.inl ⟨1, by decide +kernel, by decide, rfl⟩
theorem d_MD_statement_118 : DR b_MD_statement 118 (.invokevirtual 122) 3 121 := ⟨by decide +kernel, rfl⟩
theorem d_MD_statement_121 : DJ b_MD_statement 121 (.ifCond .eq) 124 128 := ⟨7, by decide +kernel, rfl, by decide⟩
theorem d_MD_statement_124 : PCi b_MD_statement 124 1 125 := Or.inl ⟨1, by decide +kernel, by decide, rfl⟩
theorem d_MD_statement_125 : DJ b_MD_statement 125 .goto 128 129 := ⟨4, by decide +kernel, rfl, by decide⟩
theorem d_MD_statement_128 : PCi b_MD_statement 128 0 129 := Or.inl ⟨0, by decide +kernel, by decide, rfl⟩
theorem d_MD_statement_129 : PSi b_MD_statement 129 3 130 := Or.inl ⟨3, by decide +kernel, rfl, rfl⟩
theorem d_MD_statement_130 : PLi b_MD_statement 130 3 131 := Or.inl ⟨3, by decide +kernel, rfl, rfl⟩
theorem d_MD_statement_131 : DJ b_MD_statement 131 (.ifCond .eq) 134 143 := ⟨12, by decide +kernel, rfl, by decide⟩
theorem d_MD_statement_134 : PLa b_MD_statement 134 0 135 := Or.inl ⟨0, by decide +kernel, rfl, rfl⟩
theorem d_MD_statement_135 : DR b_MD_statement 135 (.invokevirtual 111) 3 138 := ⟨by decide +kernel, rfl⟩
theorem d_MD_statement_138 : PCi b_MD_statement 138 59 140 := Or.inr (Or.inl ⟨59, by decide +kernel, by decide, rfl⟩)
theorem d_MD_statement_140 : DJ b_MD_statement 140 (.if_icmp .eq) 143 145 := ⟨5, by decide +kernel, rfl, by decide⟩
theorem d_MD_statement_143 : PCi b_MD_statement 143 0 144 := Or.inl ⟨0, by decide +kernel, by decide, rfl⟩
theorem d_MD_statement_144 : DR b_MD_statement 144 (.ireturn) 1 145 := ⟨by decide +kernel, rfl⟩
theorem d_MD_statement_145 : PLa b_MD_statement 145 0 146 := Or.inl ⟨0, by decide +kernel, rfl, rfl⟩
theorem d_MD_statement_146 : DR b_MD_statement 146 (.dup) 1 147 := ⟨by decide +kernel, rfl⟩
theorem d_MD_statement_147 : DR b_MD_statement 147 (.getfield 108) 3 150 := ⟨by decide +kernel, rfl⟩
theorem d_MD_statement_150 : PCi b_MD_statement 150 1 151 := Or.inl ⟨1, by decide +kernel, by decide, rfl⟩
theorem d_MD_statement_151 : DR b_MD_statement 151 (.iadd) 1 152 := ⟨by decide +kernel, rfl⟩
theorem d_MD_statement_152 : DR b_MD_statement 152 (.putfield 108) 3 155 := ⟨by decide +kernel, rfl⟩
theorem d_MD_statement_155 : PCi b_MD_statement 155 1 156 := Or.inl ⟨1, by decide +kernel, by decide, rfl⟩
theorem d_MD_statement_156 : DR b_MD_statement 156 (.ireturn) 1 157 := ⟨by decide +kernel, rfl⟩
set_option maxRecDepth 20000 in
theorem B_MD_statement_129 {G : MCx} (hC : C0 G "AccusedChooseModel" b_MD_statement 4 3) (z0 : Int32) (s : St) : VO G (RZ G b_MD_statement) (F_MD_statement_129 z0 s) 129 [(0, .ref (gad G 58))] [.int z0] s := by
  unfold F_MD_statement_129
  refine VO_istore hC d_MD_statement_129 [(0, .ref (gad G 58))] rfl (by decide) ?_
  refine VO_iload hC d_MD_statement_130 0 rfl ?_
  refine VO_if_eq hC d_MD_statement_131 (fun _ => ?_) (fun _ => ?_)
  · refine VO_const hC d_MD_statement_143 ?_
    exact VO_z0 d_MD_statement_144
  · refine VO_aload hC d_MD_statement_134 1 rfl ?_
    refine VO_callVI hC [] [] ml_MD_111 d_MD_statement_135 yv_MD_next sh_MD rfl rfl (fun o h => M_MD_next hC.inj h) (by decide) rfl rfl (Nat.le_of_ble_eq_true rfl) (fun o7 => ?_)
    refine VO_const hC d_MD_statement_138 ?_
    refine VO_icmp_eq hC d_MD_statement_140 (fun _ => ?_) (fun _ => ?_)
    · refine VO_aload hC d_MD_statement_145 1 rfl ?_
      refine VO_dup hC d_MD_statement_146 rfl ?_
      refine VO_geti hC fl_MD_108 sh_MD rfl d_MD_statement_147 ?_
      refine VO_const hC d_MD_statement_150 ?_
      refine VO_iadd hC d_MD_statement_151 ?_
      refine VO_puti hC fw_MD_108 sh_MD rfl d_MD_statement_152 (fun s8 => ?_)
      refine VO_const hC d_MD_statement_155 ?_
      exact VO_z1 d_MD_statement_156
    · refine VO_const hC d_MD_statement_143 ?_
      exact VO_z0 d_MD_statement_144
set_option maxRecDepth 20000 in
theorem B_MD_statement_128 {G : MCx} (hC : C0 G "AccusedChooseModel" b_MD_statement 4 3) (s : St) : VO G (RZ G b_MD_statement) (F_MD_statement_128 s) 128 [(0, .ref (gad G 58))] [] s := by
  unfold F_MD_statement_128
  refine VO_const hC d_MD_statement_128 ?_
  exact (B_MD_statement_129 hC (0 : Int32) s)
set_option maxRecDepth 20000 in
theorem B_MD_statement_124 {G : MCx} (hC : C0 G "AccusedChooseModel" b_MD_statement 4 3) (s : St) : VO G (RZ G b_MD_statement) (F_MD_statement_124 s) 124 [(0, .ref (gad G 58))] [] s := by
  unfold F_MD_statement_124
  refine VO_const hC d_MD_statement_124 ?_
  refine VO_goto hC d_MD_statement_125 ?_
  exact (B_MD_statement_129 hC (1 : Int32) s)
set_option maxRecDepth 20000 in
theorem B_MD_statement_101 {G : MCx} (hC : C0 G "AccusedChooseModel" b_MD_statement 4 3) (v1 : Int32) (v2 : Int32) (z0 : Int32) (z1 : Int32) (s : St) : VO G (RZ G b_MD_statement) (F_MD_statement_101 v1 v2 z0 z1 s) 101 [(0, .ref (gad G 58)), (1, .int v1), (2, .int v2)] [.int z0, .int z1, .ref (gad G 58)] s := by
  unfold F_MD_statement_101
  refine VO_callVI hC [.int z1, .int z0] [] ml_MD_122 d_MD_statement_101 yv_MD_readsDigits sh_MD rfl rfl (fun o h => M_MD_readsDigits hC.inj h) (by decide) rfl rfl (Nat.le_of_ble_eq_true rfl) (fun o9 => ?_)
  refine VO_if_eq hC d_MD_statement_104 (fun _ => ?_) (fun _ => ?_)
  · exact VO_sub [0] rfl (B_MD_statement_128 hC o9.2)
  · refine VO_iload hC d_MD_statement_107 1 rfl ?_
    refine VO_const hC d_MD_statement_108 ?_
    refine VO_icmp_ne hC d_MD_statement_110 (fun _ => ?_) (fun _ => ?_)
    · refine VO_aload hC d_MD_statement_113 0 rfl ?_
      refine VO_iload hC d_MD_statement_114 2 rfl ?_
      refine VO_const hC d_MD_statement_115 ?_
      refine VO_iadd hC d_MD_statement_116 ?_
      refine VO_const hC d_MD_statement_117 ?_
      refine VO_callVI hC [.int (v2 + (2 : Int32)), .int (1 : Int32)] [] ml_MD_122 d_MD_statement_118 yv_MD_readsDigits sh_MD rfl rfl (fun o h => M_MD_readsDigits hC.inj h) (by decide) rfl rfl (Nat.le_of_ble_eq_true rfl) (fun o10 => ?_)
      refine VO_if_eq hC d_MD_statement_121 (fun _ => ?_) (fun _ => ?_)
      · exact VO_sub [0] rfl (B_MD_statement_128 hC o10.2)
      · exact VO_sub [0] rfl (B_MD_statement_124 hC o10.2)
    · exact VO_sub [0] rfl (B_MD_statement_124 hC o9.2)
set_option maxRecDepth 20000 in
theorem B_MD_statement_37 {G : MCx} (hC : C0 G "AccusedChooseModel" b_MD_statement 4 3) (v1 : Int32) (s : St) : VO G (RZ G b_MD_statement) (F_MD_statement_37 v1 s) 37 [(0, .ref (gad G 58)), (1, .int v1)] [] s := by
  unfold F_MD_statement_37
  refine VO_aload hC d_MD_statement_37 0 rfl ?_
  refine VO_getr (r := 69) hC fl_MD_40 sh_MD rfl d_MD_statement_38 ?_
  refine VO_aload hC d_MD_statement_41 0 rfl ?_
  refine VO_geti hC fl_MD_119 sh_MD rfl d_MD_statement_42 ?_
  refine VO_iload hC d_MD_statement_45 1 rfl ?_
  refine VO_iastore hC ia_69 d_MD_statement_46 (fun s2 => ?_)
  refine VO_aload hC d_MD_statement_47 0 rfl ?_
  refine VO_getr (r := 70) hC fl_MD_43 sh_MD rfl d_MD_statement_48 ?_
  refine VO_aload hC d_MD_statement_51 0 rfl ?_
  refine VO_geti hC fl_MD_119 sh_MD rfl d_MD_statement_52 ?_
  refine VO_aload hC d_MD_statement_55 0 rfl ?_
  refine VO_geti hC fl_MD_108 sh_MD rfl d_MD_statement_56 ?_
  refine VO_iastore hC ia_70 d_MD_statement_59 (fun s3 => ?_)
  refine VO_aload hC d_MD_statement_60 0 rfl ?_
  refine VO_dup hC d_MD_statement_61 rfl ?_
  refine VO_geti hC fl_MD_108 sh_MD rfl d_MD_statement_62 ?_
  refine VO_const hC d_MD_statement_65 ?_
  refine VO_iadd hC d_MD_statement_66 ?_
  refine VO_puti hC fw_MD_108 sh_MD rfl d_MD_statement_67 (fun s4 => ?_)
  refine VO_const hC d_MD_statement_70 ?_
  refine VO_aload hC d_MD_statement_71 0 rfl ?_
  refine VO_geti hC fl_MD_119 sh_MD rfl d_MD_statement_72 ?_
  refine VO_imul hC d_MD_statement_75 ?_
  refine VO_istoreB hC d_MD_statement_76 [(0, .ref (gad G 58)), (1, .int v1)] rfl (by decide) (fun x5 => ?_)
  refine VO_aload hC d_MD_statement_77 1 rfl ?_
  refine VO_iload hC d_MD_statement_78 0 rfl ?_
  refine VO_const hC d_MD_statement_79 ?_
  refine VO_callVI hC [.int x5, .int (1 : Int32)] [] ml_MD_122 d_MD_statement_80 yv_MD_readsDigits sh_MD rfl rfl (fun o h => M_MD_readsDigits hC.inj h) (by decide) rfl rfl (Nat.le_of_ble_eq_true rfl) (fun o6 => ?_)
  refine VO_if_eq hC d_MD_statement_83 (fun _ => ?_) (fun _ => ?_)
  · exact VO_sub [1] rfl (B_MD_statement_128 hC o6.2)
  · refine VO_aload hC d_MD_statement_86 1 rfl ?_
    refine VO_iload hC d_MD_statement_87 0 rfl ?_
    refine VO_const hC d_MD_statement_88 ?_
    refine VO_iadd hC d_MD_statement_89 ?_
    refine VO_iload hC d_MD_statement_90 2 rfl ?_
    refine VO_const hC d_MD_statement_91 ?_
    refine VO_icmp_ne hC d_MD_statement_93 (fun _ => ?_) (fun _ => ?_)
    · refine VO_const hC d_MD_statement_96 ?_
      refine VO_goto hC d_MD_statement_97 ?_
      exact VO_sub [1, 2, 0] rfl (B_MD_statement_101 hC v1 x5 (3 : Int32) (x5 + (1 : Int32)) o6.2)
    · refine VO_const hC d_MD_statement_100 ?_
      exact VO_sub [1, 2, 0] rfl (B_MD_statement_101 hC v1 x5 (1 : Int32) (x5 + (1 : Int32)) o6.2)
set_option maxRecDepth 20000 in
theorem B_MD_statement {G : MCx} (hC : C0 G "AccusedChooseModel" b_MD_statement 4 3) (s : St) : VO G (RZ G b_MD_statement) (F_MD_statement s) 0 [(0, .ref (gad G 58))] [] s := by
  unfold F_MD_statement
  refine VO_aload hC d_MD_statement_0 0 rfl ?_
  refine VO_callVI hC [] [] ml_MD_111 d_MD_statement_1 yv_MD_next sh_MD rfl rfl (fun o h => M_MD_next hC.inj h) (by decide) rfl rfl (Nat.le_of_ble_eq_true rfl) (fun o1 => ?_)
  refine VO_istore hC d_MD_statement_4 [(0, .ref (gad G 58))] rfl (by decide) ?_
  refine VO_iload hC d_MD_statement_5 0 rfl ?_
  refine VO_const hC d_MD_statement_6 ?_
  refine VO_icmp_eq hC d_MD_statement_8 (fun _ => ?_) (fun _ => ?_)
  · exact VO_sub [1, 0] rfl (B_MD_statement_37 hC o1.1 o1.2)
  · refine VO_iload hC d_MD_statement_11 0 rfl ?_
    refine VO_const hC d_MD_statement_12 ?_
    refine VO_icmp_eq hC d_MD_statement_14 (fun _ => ?_) (fun _ => ?_)
    · exact VO_sub [1, 0] rfl (B_MD_statement_37 hC o1.1 o1.2)
    · refine VO_iload hC d_MD_statement_17 0 rfl ?_
      refine VO_const hC d_MD_statement_18 ?_
      refine VO_icmp_eq hC d_MD_statement_20 (fun _ => ?_) (fun _ => ?_)
      · exact VO_sub [1, 0] rfl (B_MD_statement_37 hC o1.1 o1.2)
      · refine VO_iload hC d_MD_statement_23 0 rfl ?_
        refine VO_const hC d_MD_statement_24 ?_
        refine VO_icmp_eq hC d_MD_statement_26 (fun _ => ?_) (fun _ => ?_)
        · exact VO_sub [1, 0] rfl (B_MD_statement_37 hC o1.1 o1.2)
        · refine VO_iload hC d_MD_statement_29 0 rfl ?_
          refine VO_const hC d_MD_statement_30 ?_
          refine VO_icmp_eq hC d_MD_statement_32 (fun _ => ?_) (fun _ => ?_)
          · exact VO_sub [1, 0] rfl (B_MD_statement_37 hC o1.1 o1.2)
          · refine VO_const hC d_MD_statement_35 ?_
            exact VO_z0 d_MD_statement_36
set_option maxRecDepth 20000 in
theorem M_MD_statement {l : Launch} {D : va_G} {ad : Nat → Nat} {cI cL : ClassId} (hj : Inj ad) {s : St} {o : Int32 × St} (h : F_MD_statement s = some o) : Cn l D ad cI cL y_MD_statement b_MD_statement 4 (some .boolean) 3 [.ref (ad 58)] s (some (.int o.1)) o.2 := by
  refine Cn_ofZ hj (plainFor_of_name (by decide)) (Nat.le_of_ble_eq_true rfl) [(0, .ref (ad 58))] rfl (fun G hC e1 e2 e3 e4 e5 hR => ?_)
  subst e1; subst e2; subst e3; subst e4; subst e5
  exact B_MD_statement hC s o h hR
theorem d_MD_addsDeed_0 : PLa b_MD_addsDeed 0 0 1 := Or.inl ⟨0, by decide +kernel, rfl, rfl⟩
theorem d_MD_addsDeed_1 : DR b_MD_addsDeed 1 (.getfield 13) 3 4 := ⟨by decide +kernel, rfl⟩
theorem d_MD_addsDeed_4 : PLa b_MD_addsDeed 4 0 5 := Or.inl ⟨0, by decide +kernel, rfl, rfl⟩
theorem d_MD_addsDeed_5 : DR b_MD_addsDeed 5 (.getfield 84) 3 8 := ⟨by decide +kernel, rfl⟩
theorem d_MD_addsDeed_8 : PLi b_MD_addsDeed 8 1 9 := Or.inl ⟨1, by decide +kernel, rfl, rfl⟩
theorem d_MD_addsDeed_9 : DR b_MD_addsDeed 9 (.iastore) 1 10 := ⟨by decide +kernel, rfl⟩
theorem d_MD_addsDeed_10 : PLa b_MD_addsDeed 10 0 11 := Or.inl ⟨0, by decide +kernel, rfl, rfl⟩
theorem d_MD_addsDeed_11 : DR b_MD_addsDeed 11 (.getfield 16) 3 14 := ⟨by decide +kernel, rfl⟩
theorem d_MD_addsDeed_14 : PLa b_MD_addsDeed 14 0 15 := Or.inl ⟨0, by decide +kernel, rfl, rfl⟩
theorem d_MD_addsDeed_15 : DR b_MD_addsDeed 15 (.getfield 84) 3 18 := ⟨by decide +kernel, rfl⟩
theorem d_MD_addsDeed_18 : PLi b_MD_addsDeed 18 2 19 := Or.inl ⟨2, by decide +kernel, rfl, rfl⟩
theorem d_MD_addsDeed_19 : DR b_MD_addsDeed 19 (.iastore) 1 20 := ⟨by decide +kernel, rfl⟩
theorem d_MD_addsDeed_20 : PLa b_MD_addsDeed 20 0 21 := Or.inl ⟨0, by decide +kernel, rfl, rfl⟩
theorem d_MD_addsDeed_21 : DR b_MD_addsDeed 21 (.dup) 1 22 := ⟨by decide +kernel, rfl⟩
theorem d_MD_addsDeed_22 : DR b_MD_addsDeed 22 (.getfield 84) 3 25 := ⟨by decide +kernel, rfl⟩
theorem d_MD_addsDeed_25 : PCi b_MD_addsDeed 25 1 26 := Or.inl ⟨1, by decide +kernel, by decide, rfl⟩
theorem d_MD_addsDeed_26 : DR b_MD_addsDeed 26 (.iadd) 1 27 := ⟨by decide +kernel, rfl⟩
theorem d_MD_addsDeed_27 : DR b_MD_addsDeed 27 (.putfield 84) 3 30 := ⟨by decide +kernel, rfl⟩
theorem d_MD_addsDeed_30 : DR b_MD_addsDeed 30 (.return_) 1 31 := ⟨by decide +kernel, rfl⟩
set_option maxRecDepth 20000 in
theorem B_MD_addsDeed {G : MCx} (hC : C0 G "AccusedChooseModel" b_MD_addsDeed 3 1) (a1 : Int32) (a2 : Int32) (s : St) : VO G (RV G b_MD_addsDeed) (F_MD_addsDeed a1 a2 s) 0 [(0, .ref (gad G 58)), (1, .int a1), (2, .int a2)] [] s := by
  unfold F_MD_addsDeed
  refine VO_aload hC d_MD_addsDeed_0 0 rfl ?_
  refine VO_getr (r := 60) hC fl_MD_13 sh_MD rfl d_MD_addsDeed_1 ?_
  refine VO_aload hC d_MD_addsDeed_4 0 rfl ?_
  refine VO_geti hC fl_MD_84 sh_MD rfl d_MD_addsDeed_5 ?_
  refine VO_iload hC d_MD_addsDeed_8 1 rfl ?_
  refine VO_iastore hC ia_60 d_MD_addsDeed_9 (fun s1 => ?_)
  refine VO_aload hC d_MD_addsDeed_10 0 rfl ?_
  refine VO_getr (r := 61) hC fl_MD_16 sh_MD rfl d_MD_addsDeed_11 ?_
  refine VO_aload hC d_MD_addsDeed_14 0 rfl ?_
  refine VO_geti hC fl_MD_84 sh_MD rfl d_MD_addsDeed_15 ?_
  refine VO_iload hC d_MD_addsDeed_18 2 rfl ?_
  refine VO_iastore hC ia_61 d_MD_addsDeed_19 (fun s2 => ?_)
  refine VO_aload hC d_MD_addsDeed_20 0 rfl ?_
  refine VO_dup hC d_MD_addsDeed_21 rfl ?_
  refine VO_geti hC fl_MD_84 sh_MD rfl d_MD_addsDeed_22 ?_
  refine VO_const hC d_MD_addsDeed_25 ?_
  refine VO_iadd hC d_MD_addsDeed_26 ?_
  refine VO_puti hC fw_MD_84 sh_MD rfl d_MD_addsDeed_27 (fun s3 => ?_)
  exact VO_return d_MD_addsDeed_30
set_option maxRecDepth 20000 in
theorem M_MD_addsDeed {l : Launch} {D : va_G} {ad : Nat → Nat} {cI cL : ClassId} (hj : Inj ad) {a1 : Int32} {a2 : Int32} {s : St} {o : St} (h : F_MD_addsDeed a1 a2 s = some o) : Cn l D ad cI cL y_MD_addsDeed b_MD_addsDeed 3 none 1 [.ref (ad 58), .int a1, .int a2] s none o := by
  refine Cn_ofV hj (plainFor_of_name (by decide)) (Nat.le_of_ble_eq_true rfl) [(0, .ref (ad 58)), (1, .int a1), (2, .int a2)] rfl (fun G hC e1 e2 e3 e4 e5 hR => ?_)
  subst e1; subst e2; subst e3; subst e4; subst e5
  exact B_MD_addsDeed hC a1 a2 s o h hR
theorem d_MD_addsPerson_0 : PLa b_MD_addsPerson 0 0 1 := Or.inl ⟨0, by decide +kernel, rfl, rfl⟩
theorem d_MD_addsPerson_1 : DR b_MD_addsPerson 1 (.getfield 19) 3 4 := ⟨by decide +kernel, rfl⟩
theorem d_MD_addsPerson_4 : PLa b_MD_addsPerson 4 0 5 := Or.inl ⟨0, by decide +kernel, rfl, rfl⟩
theorem d_MD_addsPerson_5 : DR b_MD_addsPerson 5 (.getfield 90) 3 8 := ⟨by decide +kernel, rfl⟩
theorem d_MD_addsPerson_8 : PLi b_MD_addsPerson 8 1 9 := Or.inl ⟨1, by decide +kernel, rfl, rfl⟩
theorem d_MD_addsPerson_9 : DR b_MD_addsPerson 9 (.iastore) 1 10 := ⟨by decide +kernel, rfl⟩
theorem d_MD_addsPerson_10 : PLa b_MD_addsPerson 10 0 11 := Or.inl ⟨0, by decide +kernel, rfl, rfl⟩
theorem d_MD_addsPerson_11 : DR b_MD_addsPerson 11 (.getfield 22) 3 14 := ⟨by decide +kernel, rfl⟩
theorem d_MD_addsPerson_14 : PLa b_MD_addsPerson 14 0 15 := Or.inl ⟨0, by decide +kernel, rfl, rfl⟩
theorem d_MD_addsPerson_15 : DR b_MD_addsPerson 15 (.getfield 90) 3 18 := ⟨by decide +kernel, rfl⟩
theorem d_MD_addsPerson_18 : PLi b_MD_addsPerson 18 2 19 := Or.inl ⟨2, by decide +kernel, rfl, rfl⟩
theorem d_MD_addsPerson_19 : DR b_MD_addsPerson 19 (.iastore) 1 20 := ⟨by decide +kernel, rfl⟩
theorem d_MD_addsPerson_20 : PLa b_MD_addsPerson 20 0 21 := Or.inl ⟨0, by decide +kernel, rfl, rfl⟩
theorem d_MD_addsPerson_21 : DR b_MD_addsPerson 21 (.getfield 25) 3 24 := ⟨by decide +kernel, rfl⟩
theorem d_MD_addsPerson_24 : PLa b_MD_addsPerson 24 0 25 := Or.inl ⟨0, by decide +kernel, rfl, rfl⟩
theorem d_MD_addsPerson_25 : DR b_MD_addsPerson 25 (.getfield 90) 3 28 := ⟨by decide +kernel, rfl⟩
theorem d_MD_addsPerson_28 : PLi b_MD_addsPerson 28 3 29 := Or.inl ⟨3, by decide +kernel, rfl, rfl⟩
theorem d_MD_addsPerson_29 : DR b_MD_addsPerson 29 (.iastore) 1 30 := ⟨by decide +kernel, rfl⟩
theorem d_MD_addsPerson_30 : PLa b_MD_addsPerson 30 0 31 := Or.inl ⟨0, by decide +kernel, rfl, rfl⟩
theorem d_MD_addsPerson_31 : DR b_MD_addsPerson 31 (.getfield 28) 3 34 := ⟨by decide +kernel, rfl⟩
theorem d_MD_addsPerson_34 : PLa b_MD_addsPerson 34 0 35 := Or.inl ⟨0, by decide +kernel, rfl, rfl⟩
theorem d_MD_addsPerson_35 : DR b_MD_addsPerson 35 (.getfield 90) 3 38 := ⟨by decide +kernel, rfl⟩
theorem d_MD_addsPerson_38 : PCi b_MD_addsPerson 38 (-9) 40 := Or.inr (Or.inl ⟨(-9), by decide +kernel, by decide, rfl⟩)
theorem d_MD_addsPerson_40 : DR b_MD_addsPerson 40 (.iastore) 1 41 := ⟨by decide +kernel, rfl⟩
theorem d_MD_addsPerson_41 : PLa b_MD_addsPerson 41 0 42 := Or.inl ⟨0, by decide +kernel, rfl, rfl⟩
theorem d_MD_addsPerson_42 : DR b_MD_addsPerson 42 (.getfield 31) 3 45 := ⟨by decide +kernel, rfl⟩
theorem d_MD_addsPerson_45 : PLa b_MD_addsPerson 45 0 46 := Or.inl ⟨0, by decide +kernel, rfl, rfl⟩
theorem d_MD_addsPerson_46 : DR b_MD_addsPerson 46 (.getfield 90) 3 49 := ⟨by decide +kernel, rfl⟩
theorem d_MD_addsPerson_49 : PCi b_MD_addsPerson 49 0 50 := Or.inl ⟨0, by decide +kernel, by decide, rfl⟩
theorem d_MD_addsPerson_50 : DR b_MD_addsPerson 50 (.iastore) 1 51 := ⟨by decide +kernel, rfl⟩
theorem d_MD_addsPerson_51 : PLa b_MD_addsPerson 51 0 52 := Or.inl ⟨0, by decide +kernel, rfl, rfl⟩
theorem d_MD_addsPerson_52 : DR b_MD_addsPerson 52 (.getfield 34) 3 55 := ⟨by decide +kernel, rfl⟩
theorem d_MD_addsPerson_55 : PLa b_MD_addsPerson 55 0 56 := Or.inl ⟨0, by decide +kernel, rfl, rfl⟩
theorem d_MD_addsPerson_56 : DR b_MD_addsPerson 56 (.getfield 90) 3 59 := ⟨by decide +kernel, rfl⟩
theorem d_MD_addsPerson_59 : PLa b_MD_addsPerson 59 0 60 := Or.inl ⟨0, by decide +kernel, rfl, rfl⟩
theorem d_MD_addsPerson_60 : DR b_MD_addsPerson 60 (.getfield 90) 3 63 := ⟨by decide +kernel, rfl⟩
theorem d_MD_addsPerson_63 : DR b_MD_addsPerson 63 (.iastore) 1 64 := ⟨by decide +kernel, rfl⟩
theorem d_MD_addsPerson_64 : PLa b_MD_addsPerson 64 0 65 := Or.inl ⟨0, by decide +kernel, rfl, rfl⟩
theorem d_MD_addsPerson_65 : DR b_MD_addsPerson 65 (.dup) 1 66 := ⟨by decide +kernel, rfl⟩
theorem d_MD_addsPerson_66 : DR b_MD_addsPerson 66 (.getfield 90) 3 69 := ⟨by decide +kernel, rfl⟩
theorem d_MD_addsPerson_69 : PCi b_MD_addsPerson 69 1 70 := Or.inl ⟨1, by decide +kernel, by decide, rfl⟩
theorem d_MD_addsPerson_70 : DR b_MD_addsPerson 70 (.iadd) 1 71 := ⟨by decide +kernel, rfl⟩
theorem d_MD_addsPerson_71 : DR b_MD_addsPerson 71 (.putfield 90) 3 74 := ⟨by decide +kernel, rfl⟩
theorem d_MD_addsPerson_74 : DR b_MD_addsPerson 74 (.return_) 1 75 := ⟨by decide +kernel, rfl⟩
set_option maxRecDepth 20000 in
theorem B_MD_addsPerson {G : MCx} (hC : C0 G "AccusedChooseModel" b_MD_addsPerson 4 1) (a1 : Int32) (a2 : Int32) (a3 : Int32) (s : St) : VO G (RV G b_MD_addsPerson) (F_MD_addsPerson a1 a2 a3 s) 0 [(0, .ref (gad G 58)), (1, .int a1), (2, .int a2), (3, .int a3)] [] s := by
  unfold F_MD_addsPerson
  refine VO_aload hC d_MD_addsPerson_0 0 rfl ?_
  refine VO_getr (r := 62) hC fl_MD_19 sh_MD rfl d_MD_addsPerson_1 ?_
  refine VO_aload hC d_MD_addsPerson_4 0 rfl ?_
  refine VO_geti hC fl_MD_90 sh_MD rfl d_MD_addsPerson_5 ?_
  refine VO_iload hC d_MD_addsPerson_8 1 rfl ?_
  refine VO_iastore hC ia_62 d_MD_addsPerson_9 (fun s1 => ?_)
  refine VO_aload hC d_MD_addsPerson_10 0 rfl ?_
  refine VO_getr (r := 63) hC fl_MD_22 sh_MD rfl d_MD_addsPerson_11 ?_
  refine VO_aload hC d_MD_addsPerson_14 0 rfl ?_
  refine VO_geti hC fl_MD_90 sh_MD rfl d_MD_addsPerson_15 ?_
  refine VO_iload hC d_MD_addsPerson_18 2 rfl ?_
  refine VO_iastore hC ia_63 d_MD_addsPerson_19 (fun s2 => ?_)
  refine VO_aload hC d_MD_addsPerson_20 0 rfl ?_
  refine VO_getr (r := 64) hC fl_MD_25 sh_MD rfl d_MD_addsPerson_21 ?_
  refine VO_aload hC d_MD_addsPerson_24 0 rfl ?_
  refine VO_geti hC fl_MD_90 sh_MD rfl d_MD_addsPerson_25 ?_
  refine VO_iload hC d_MD_addsPerson_28 3 rfl ?_
  refine VO_iastore hC ia_64 d_MD_addsPerson_29 (fun s3 => ?_)
  refine VO_aload hC d_MD_addsPerson_30 0 rfl ?_
  refine VO_getr (r := 65) hC fl_MD_28 sh_MD rfl d_MD_addsPerson_31 ?_
  refine VO_aload hC d_MD_addsPerson_34 0 rfl ?_
  refine VO_geti hC fl_MD_90 sh_MD rfl d_MD_addsPerson_35 ?_
  refine VO_const hC d_MD_addsPerson_38 ?_
  refine VO_iastore hC ia_65 d_MD_addsPerson_40 (fun s4 => ?_)
  refine VO_aload hC d_MD_addsPerson_41 0 rfl ?_
  refine VO_getr (r := 66) hC fl_MD_31 sh_MD rfl d_MD_addsPerson_42 ?_
  refine VO_aload hC d_MD_addsPerson_45 0 rfl ?_
  refine VO_geti hC fl_MD_90 sh_MD rfl d_MD_addsPerson_46 ?_
  refine VO_const hC d_MD_addsPerson_49 ?_
  refine VO_iastore hC ia_66 d_MD_addsPerson_50 (fun s5 => ?_)
  refine VO_aload hC d_MD_addsPerson_51 0 rfl ?_
  refine VO_getr (r := 67) hC fl_MD_34 sh_MD rfl d_MD_addsPerson_52 ?_
  refine VO_aload hC d_MD_addsPerson_55 0 rfl ?_
  refine VO_geti hC fl_MD_90 sh_MD rfl d_MD_addsPerson_56 ?_
  refine VO_aload hC d_MD_addsPerson_59 0 rfl ?_
  refine VO_geti hC fl_MD_90 sh_MD rfl d_MD_addsPerson_60 ?_
  refine VO_iastore hC ia_67 d_MD_addsPerson_63 (fun s6 => ?_)
  refine VO_aload hC d_MD_addsPerson_64 0 rfl ?_
  refine VO_dup hC d_MD_addsPerson_65 rfl ?_
  refine VO_geti hC fl_MD_90 sh_MD rfl d_MD_addsPerson_66 ?_
  refine VO_const hC d_MD_addsPerson_69 ?_
  refine VO_iadd hC d_MD_addsPerson_70 ?_
  refine VO_puti hC fw_MD_90 sh_MD rfl d_MD_addsPerson_71 (fun s7 => ?_)
  exact VO_return d_MD_addsPerson_74
set_option maxRecDepth 20000 in
theorem M_MD_addsPerson {l : Launch} {D : va_G} {ad : Nat → Nat} {cI cL : ClassId} (hj : Inj ad) {a1 : Int32} {a2 : Int32} {a3 : Int32} {s : St} {o : St} (h : F_MD_addsPerson a1 a2 a3 s = some o) : Cn l D ad cI cL y_MD_addsPerson b_MD_addsPerson 4 none 1 [.ref (ad 58), .int a1, .int a2, .int a3] s none o := by
  refine Cn_ofV hj (plainFor_of_name (by decide)) (Nat.le_of_ble_eq_true rfl) [(0, .ref (ad 58)), (1, .int a1), (2, .int a2), (3, .int a3)] rfl (fun G hC e1 e2 e3 e4 e5 hR => ?_)
  subst e1; subst e2; subst e3; subst e4; subst e5
  exact B_MD_addsPerson hC a1 a2 a3 s o h hR
theorem d_MD_parts_0 : PLa b_MD_parts 0 0 1 := Or.inl ⟨0, by decide +kernel, rfl, rfl⟩
theorem d_MD_parts_1 : DR b_MD_parts 1 (.getfield 28) 3 4 := ⟨by decide +kernel, rfl⟩
theorem d_MD_parts_4 : PLi b_MD_parts 4 1 5 := Or.inl ⟨1, by decide +kernel, rfl, rfl⟩
theorem d_MD_parts_5 : DR b_MD_parts 5 (.iaload) 1 6 := ⟨by decide +kernel, rfl⟩
theorem d_MD_parts_6 : DJ b_MD_parts 6 (.ifCond .lt) 9 22 := ⟨16, by decide +kernel, rfl, by decide⟩
theorem d_MD_parts_9 : PLa b_MD_parts 9 0 10 := Or.inl ⟨0, by decide +kernel, rfl, rfl⟩
theorem d_MD_parts_10 : DR b_MD_parts 10 (.getfield 28) 3 13 := ⟨by decide +kernel, rfl⟩
theorem d_MD_parts_13 : PLa b_MD_parts 13 0 14 := Or.inl ⟨0, by decide +kernel, rfl, rfl⟩
theorem d_MD_parts_14 : DR b_MD_parts 14 (.getfield 28) 3 17 := ⟨by decide +kernel, rfl⟩
theorem d_MD_parts_17 : PLi b_MD_parts 17 1 18 := Or.inl ⟨1, by decide +kernel, rfl, rfl⟩
theorem d_MD_parts_18 : DR b_MD_parts 18 (.iaload) 1 19 := ⟨by decide +kernel, rfl⟩
theorem d_MD_parts_19 : PCi b_MD_parts 19 (-9) 21 := Or.inr (Or.inl ⟨(-9), by decide +kernel, by decide, rfl⟩)
theorem d_MD_parts_21 : DR b_MD_parts 21 (.iastore) 1 22 := ⟨by decide +kernel, rfl⟩
theorem d_MD_parts_22 : PLa b_MD_parts 22 0 23 := Or.inl ⟨0, by decide +kernel, rfl, rfl⟩
theorem d_MD_parts_23 : DR b_MD_parts 23 (.getfield 28) 3 26 := ⟨by decide +kernel, rfl⟩
theorem d_MD_parts_26 : PLi b_MD_parts 26 1 27 := Or.inl ⟨1, by decide +kernel, rfl, rfl⟩
theorem d_MD_parts_27 : PCi b_MD_parts 27 (-9) 29 := Or.inr (Or.inl ⟨(-9), by decide +kernel, by decide, rfl⟩)
theorem d_MD_parts_29 : DR b_MD_parts 29 (.iastore) 1 30 := ⟨by decide +kernel, rfl⟩
theorem d_MD_parts_30 : DR b_MD_parts 30 (.return_) 1 31 := ⟨by decide +kernel, rfl⟩
set_option maxRecDepth 20000 in
theorem B_MD_parts_22 {G : MCx} (hC : C0 G "AccusedChooseModel" b_MD_parts 2 1) (v1 : Int32) (s : St) : VO G (RV G b_MD_parts) (F_MD_parts_22 v1 s) 22 [(0, .ref (gad G 58)), (1, .int v1)] [] s := by
  unfold F_MD_parts_22
  refine VO_aload hC d_MD_parts_22 0 rfl ?_
  refine VO_getr (r := 65) hC fl_MD_28 sh_MD rfl d_MD_parts_23 ?_
  refine VO_iload hC d_MD_parts_26 1 rfl ?_
  refine VO_const hC d_MD_parts_27 ?_
  refine VO_iastore hC ia_65 d_MD_parts_29 (fun s2 => ?_)
  exact VO_return d_MD_parts_30
set_option maxRecDepth 20000 in
theorem B_MD_parts {G : MCx} (hC : C0 G "AccusedChooseModel" b_MD_parts 2 1) (a1 : Int32) (s : St) : VO G (RV G b_MD_parts) (F_MD_parts a1 s) 0 [(0, .ref (gad G 58)), (1, .int a1)] [] s := by
  unfold F_MD_parts
  refine VO_aload hC d_MD_parts_0 0 rfl ?_
  refine VO_getr (r := 65) hC fl_MD_28 sh_MD rfl d_MD_parts_1 ?_
  refine VO_iload hC d_MD_parts_4 1 rfl ?_
  refine VO_iaload hC ia_65 d_MD_parts_5 (fun x1 => ?_)
  refine VO_if_lt hC d_MD_parts_6 (fun _ => ?_) (fun _ => ?_)
  · exact (B_MD_parts_22 hC a1 s)
  · refine VO_aload hC d_MD_parts_9 0 rfl ?_
    refine VO_getr (r := 65) hC fl_MD_28 sh_MD rfl d_MD_parts_10 ?_
    refine VO_aload hC d_MD_parts_13 0 rfl ?_
    refine VO_getr (r := 65) hC fl_MD_28 sh_MD rfl d_MD_parts_14 ?_
    refine VO_iload hC d_MD_parts_17 1 rfl ?_
    refine VO_iaload hC ia_65 d_MD_parts_18 (fun x3 => ?_)
    refine VO_const hC d_MD_parts_19 ?_
    refine VO_iastore hC ia_65 d_MD_parts_21 (fun s4 => ?_)
    exact (B_MD_parts_22 hC a1 s4)
set_option maxRecDepth 20000 in
theorem M_MD_parts {l : Launch} {D : va_G} {ad : Nat → Nat} {cI cL : ClassId} (hj : Inj ad) {a1 : Int32} {s : St} {o : St} (h : F_MD_parts a1 s = some o) : Cn l D ad cI cL y_MD_parts b_MD_parts 2 none 1 [.ref (ad 58), .int a1] s none o := by
  refine Cn_ofV hj (plainFor_of_name (by decide)) (Nat.le_of_ble_eq_true rfl) [(0, .ref (ad 58)), (1, .int a1)] rfl (fun G hC e1 e2 e3 e4 e5 hR => ?_)
  subst e1; subst e2; subst e3; subst e4; subst e5
  exact B_MD_parts hC a1 s o h hR
theorem d_MD_areBrothers_0 : PLa b_MD_areBrothers 0 0 1 := Or.inl ⟨0, by decide +kernel, rfl, rfl⟩
theorem d_MD_areBrothers_1 : PLi b_MD_areBrothers 1 1 2 := Or.inl ⟨1, by decide +kernel, rfl, rfl⟩
theorem d_MD_areBrothers_2 : DR b_MD_areBrothers 2 (.invokevirtual 180) 3 5 := ⟨by decide +kernel, rfl⟩
theorem d_MD_areBrothers_5 : PLa b_MD_areBrothers 5 0 6 := Or.inl ⟨0, by decide +kernel, rfl, rfl⟩
theorem d_MD_areBrothers_6 : PLi b_MD_areBrothers 6 2 7 := Or.inl ⟨2, by decide +kernel, rfl, rfl⟩
theorem d_MD_areBrothers_7 : DR b_MD_areBrothers 7 (.invokevirtual 180) 3 10 := ⟨by decide +kernel, rfl⟩
theorem d_MD_areBrothers_10 : PLa b_MD_areBrothers 10 0 11 := Or.inl ⟨0, by decide +kernel, rfl, rfl⟩
theorem d_MD_areBrothers_11 : DR b_MD_areBrothers 11 (.getfield 28) 3 14 := ⟨by decide +kernel, rfl⟩
theorem d_MD_areBrothers_14 : PLi b_MD_areBrothers 14 1 15 := Or.inl ⟨1, by decide +kernel, rfl, rfl⟩
theorem d_MD_areBrothers_15 : PLi b_MD_areBrothers 15 2 16 := Or.inl ⟨2, by decide +kernel, rfl, rfl⟩
theorem d_MD_areBrothers_16 : DR b_MD_areBrothers 16 (.iastore) 1 17 := ⟨by decide +kernel, rfl⟩
theorem d_MD_areBrothers_17 : PLa b_MD_areBrothers 17 0 18 := Or.inl ⟨0, by decide +kernel, rfl, rfl⟩
theorem d_MD_areBrothers_18 : DR b_MD_areBrothers 18 (.getfield 28) 3 21 := ⟨by decide +kernel, rfl⟩
theorem d_MD_areBrothers_21 : PLi b_MD_areBrothers 21 2 22 := Or.inl ⟨2, by decide +kernel, rfl, rfl⟩
theorem d_MD_areBrothers_22 : PLi b_MD_areBrothers 22 1 23 := Or.inl ⟨1, by decide +kernel, rfl, rfl⟩
theorem d_MD_areBrothers_23 : DR b_MD_areBrothers 23 (.iastore) 1 24 := ⟨by decide +kernel, rfl⟩
theorem d_MD_areBrothers_24 : DR b_MD_areBrothers 24 (.return_) 1 25 := ⟨by decide +kernel, rfl⟩
set_option maxRecDepth 20000 in
theorem B_MD_areBrothers {G : MCx} (hC : C0 G "AccusedChooseModel" b_MD_areBrothers 3 2) (a1 : Int32) (a2 : Int32) (s : St) : VO G (RV G b_MD_areBrothers) (F_MD_areBrothers a1 a2 s) 0 [(0, .ref (gad G 58)), (1, .int a1), (2, .int a2)] [] s := by
  unfold F_MD_areBrothers
  refine VO_aload hC d_MD_areBrothers_0 0 rfl ?_
  refine VO_iload hC d_MD_areBrothers_1 1 rfl ?_
  refine VO_callVV hC [.int a1] [] ml_MD_180 d_MD_areBrothers_2 yv_MD_parts sh_MD rfl rfl (fun o h => M_MD_parts hC.inj h) (by decide) rfl rfl (Nat.le_of_ble_eq_true rfl) (fun s1 => ?_)
  refine VO_aload hC d_MD_areBrothers_5 0 rfl ?_
  refine VO_iload hC d_MD_areBrothers_6 2 rfl ?_
  refine VO_callVV hC [.int a2] [] ml_MD_180 d_MD_areBrothers_7 yv_MD_parts sh_MD rfl rfl (fun o h => M_MD_parts hC.inj h) (by decide) rfl rfl (Nat.le_of_ble_eq_true rfl) (fun s2 => ?_)
  refine VO_aload hC d_MD_areBrothers_10 0 rfl ?_
  refine VO_getr (r := 65) hC fl_MD_28 sh_MD rfl d_MD_areBrothers_11 ?_
  refine VO_iload hC d_MD_areBrothers_14 1 rfl ?_
  refine VO_iload hC d_MD_areBrothers_15 2 rfl ?_
  refine VO_iastore hC ia_65 d_MD_areBrothers_16 (fun s3 => ?_)
  refine VO_aload hC d_MD_areBrothers_17 0 rfl ?_
  refine VO_getr (r := 65) hC fl_MD_28 sh_MD rfl d_MD_areBrothers_18 ?_
  refine VO_iload hC d_MD_areBrothers_21 2 rfl ?_
  refine VO_iload hC d_MD_areBrothers_22 1 rfl ?_
  refine VO_iastore hC ia_65 d_MD_areBrothers_23 (fun s4 => ?_)
  exact VO_return d_MD_areBrothers_24
set_option maxRecDepth 20000 in
theorem M_MD_areBrothers {l : Launch} {D : va_G} {ad : Nat → Nat} {cI cL : ClassId} (hj : Inj ad) {a1 : Int32} {a2 : Int32} {s : St} {o : St} (h : F_MD_areBrothers a1 a2 s = some o) : Cn l D ad cI cL y_MD_areBrothers b_MD_areBrothers 3 none 2 [.ref (ad 58), .int a1, .int a2] s none o := by
  refine Cn_ofV hj (plainFor_of_name (by decide)) (Nat.le_of_ble_eq_true rfl) [(0, .ref (ad 58)), (1, .int a1), (2, .int a2)] rfl (fun G hC e1 e2 e3 e4 e5 hR => ?_)
  subst e1; subst e2; subst e3; subst e4; subst e5
  exact B_MD_areBrothers hC a1 a2 s o h hR
theorem d_MD_placeOf_0 : PCi b_MD_placeOf 0 0 1 := Or.inl ⟨0, by decide +kernel, by decide, rfl⟩
theorem d_MD_placeOf_1 : PSi b_MD_placeOf 1 2 2 := Or.inl ⟨2, by decide +kernel, rfl, rfl⟩
theorem d_MD_placeOf_2 : PLa b_MD_placeOf 2 0 3 := Or.inl ⟨0, by decide +kernel, rfl, rfl⟩
theorem d_MD_placeOf_3 : DR b_MD_placeOf 3 (.getfield 34) 3 6 := ⟨by decide +kernel, rfl⟩
theorem d_MD_placeOf_6 : PLi b_MD_placeOf 6 2 7 := Or.inl ⟨2, by decide +kernel, rfl, rfl⟩
theorem d_MD_placeOf_7 : DR b_MD_placeOf 7 (.iaload) 1 8 := ⟨by decide +kernel, rfl⟩
theorem d_MD_placeOf_8 : PLi b_MD_placeOf 8 1 9 := Or.inl ⟨1, by decide +kernel, rfl, rfl⟩
theorem d_MD_placeOf_9 : DJ b_MD_placeOf 9 (.if_icmp .eq) 12 18 := ⟨9, by decide +kernel, rfl, by decide⟩
theorem d_MD_placeOf_12 : DR b_MD_placeOf 12 (.iinc 2 1) 3 15 := ⟨by decide +kernel, rfl⟩
theorem d_MD_placeOf_15 : DJ b_MD_placeOf 15 .goto 18 2 := ⟨-13, by decide +kernel, rfl, by decide⟩
theorem d_MD_placeOf_18 : PLi b_MD_placeOf 18 2 19 := Or.inl ⟨2, by decide +kernel, rfl, rfl⟩
theorem d_MD_placeOf_19 : DR b_MD_placeOf 19 (.ireturn) 1 20 := ⟨by decide +kernel, rfl⟩
set_option maxRecDepth 20000 in
theorem BH_MD_placeOf_2 {G : MCx} (hC : C0 G "AccusedChooseModel" b_MD_placeOf 3 1) {v1 : Int32} (K2 : Int32 × St → Option (Int32 × St)) (hK2 : ∀ (w2 : Int32) (s : St), VO G (RI G b_MD_placeOf) (K2 (w2, s)) 2 [(0, .ref (gad G 58)), (1, .int v1), (2, .int w2)] [] s) (v2 : Int32) (s : St) : VO G (RI G b_MD_placeOf) (H_MD_placeOf_2 v1 K2 v2 s) 2 [(0, .ref (gad G 58)), (1, .int v1), (2, .int v2)] [] s := by
  unfold H_MD_placeOf_2
  refine VO_aload hC d_MD_placeOf_2 0 rfl ?_
  refine VO_getr (r := 67) hC fl_MD_34 sh_MD rfl d_MD_placeOf_3 ?_
  refine VO_iload hC d_MD_placeOf_6 2 rfl ?_
  refine VO_iaload hC ia_67 d_MD_placeOf_7 (fun x1 => ?_)
  refine VO_iload hC d_MD_placeOf_8 1 rfl ?_
  refine VO_icmp_eq hC d_MD_placeOf_9 (fun _ => ?_) (fun _ => ?_)
  · refine VO_iload hC d_MD_placeOf_18 2 rfl ?_
    exact VO_ireturn d_MD_placeOf_19
  · refine VO_iinc hC d_MD_placeOf_12 2 rfl (by decide : Int32.ofInt 1 = 1) [(0, .ref (gad G 58)), (1, .int v1)] rfl (by decide) ?_
    refine VO_goto hC d_MD_placeOf_15 ?_
    exact VO_sub [1, 2, 0] rfl (hK2 (v2 + 1) s)
set_option maxRecDepth 20000 in
theorem B_MD_placeOf_2 {G : MCx} (hC : C0 G "AccusedChooseModel" b_MD_placeOf 3 1) (v1 : Int32) (v2 : Int32) (s : St) : VO G (RI G b_MD_placeOf) (F_MD_placeOf_2 v1 v2 s) 2 [(0, .ref (gad G 58)), (1, .int v1), (2, .int v2)] [] s := by
  exact VO_fix (G_MD_placeOf_2 v1) 2 (fun q => [(0, .ref (gad G 58)), (1, .int v1), (2, .int q.1)]) (fun q => q.2) (fun K hK q => BH_MD_placeOf_2 hC K (fun w2 s => hK (w2, s)) q.1 q.2) FUEL (v2, s)
set_option maxRecDepth 20000 in
theorem B_MD_placeOf {G : MCx} (hC : C0 G "AccusedChooseModel" b_MD_placeOf 3 1) (a1 : Int32) (s : St) : VO G (RI G b_MD_placeOf) (F_MD_placeOf a1 s) 0 [(0, .ref (gad G 58)), (1, .int a1)] [] s := by
  unfold F_MD_placeOf
  refine VO_const hC d_MD_placeOf_0 ?_
  refine VO_istore hC d_MD_placeOf_1 [(0, .ref (gad G 58)), (1, .int a1)] rfl (by decide) ?_
  exact VO_sub [1, 2, 0] rfl (B_MD_placeOf_2 hC a1 (0 : Int32) s)
set_option maxRecDepth 20000 in
theorem M_MD_placeOf {l : Launch} {D : va_G} {ad : Nat → Nat} {cI cL : ClassId} (hj : Inj ad) {a1 : Int32} {s : St} {o : Int32 × St} (h : F_MD_placeOf a1 s = some o) : Cn l D ad cI cL y_MD_placeOf b_MD_placeOf 3 (some .int) 1 [.ref (ad 58), .int a1] s (some (.int o.1)) o.2 := by
  refine Cn_ofI hj (plainFor_of_name (by decide)) (Nat.le_of_ble_eq_true rfl) [(0, .ref (ad 58)), (1, .int a1)] rfl (fun G hC e1 e2 e3 e4 e5 hR => ?_)
  subst e1; subst e2; subst e3; subst e4; subst e5
  exact B_MD_placeOf hC a1 s o h hR
theorem d_MD_exchanges_0 : PLa b_MD_exchanges 0 0 1 := Or.inl ⟨0, by decide +kernel, rfl, rfl⟩
theorem d_MD_exchanges_1 : PLi b_MD_exchanges 1 1 2 := Or.inl ⟨1, by decide +kernel, rfl, rfl⟩
theorem d_MD_exchanges_2 : DR b_MD_exchanges 2 (.invokevirtual 177) 3 5 := ⟨by decide +kernel, rfl⟩
theorem d_MD_exchanges_5 : PSi b_MD_exchanges 5 3 6 := Or.inl ⟨3, by decide +kernel, rfl, rfl⟩
theorem d_MD_exchanges_6 : PLa b_MD_exchanges 6 0 7 := Or.inl ⟨0, by decide +kernel, rfl, rfl⟩
theorem d_MD_exchanges_7 : DR b_MD_exchanges 7 (.getfield 34) 3 10 := ⟨by decide +kernel, rfl⟩
theorem d_MD_exchanges_10 : PLa b_MD_exchanges 10 0 11 := Or.inl ⟨0, by decide +kernel, rfl, rfl⟩
theorem d_MD_exchanges_11 : PLi b_MD_exchanges 11 2 12 := Or.inl ⟨2, by decide +kernel, rfl, rfl⟩
theorem d_MD_exchanges_12 : DR b_MD_exchanges 12 (.invokevirtual 177) 3 15 := ⟨by decide +kernel, rfl⟩
theorem d_MD_exchanges_15 : PLi b_MD_exchanges 15 1 16 := Or.inl ⟨1, by decide +kernel, rfl, rfl⟩
theorem d_MD_exchanges_16 : DR b_MD_exchanges 16 (.iastore) 1 17 := ⟨by decide +kernel, rfl⟩
theorem d_MD_exchanges_17 : PLa b_MD_exchanges 17 0 18 := Or.inl ⟨0, by decide +kernel, rfl, rfl⟩
theorem d_MD_exchanges_18 : DR b_MD_exchanges 18 (.getfield 34) 3 21 := ⟨by decide +kernel, rfl⟩
theorem d_MD_exchanges_21 : PLi b_MD_exchanges 21 3 22 := Or.inl ⟨3, by decide +kernel, rfl, rfl⟩
theorem d_MD_exchanges_22 : PLi b_MD_exchanges 22 2 23 := Or.inl ⟨2, by decide +kernel, rfl, rfl⟩
theorem d_MD_exchanges_23 : DR b_MD_exchanges 23 (.iastore) 1 24 := ⟨by decide +kernel, rfl⟩
theorem d_MD_exchanges_24 : DR b_MD_exchanges 24 (.return_) 1 25 := ⟨by decide +kernel, rfl⟩
set_option maxRecDepth 20000 in
theorem B_MD_exchanges {G : MCx} (hC : C0 G "AccusedChooseModel" b_MD_exchanges 4 2) (a1 : Int32) (a2 : Int32) (s : St) : VO G (RV G b_MD_exchanges) (F_MD_exchanges a1 a2 s) 0 [(0, .ref (gad G 58)), (1, .int a1), (2, .int a2)] [] s := by
  unfold F_MD_exchanges
  refine VO_aload hC d_MD_exchanges_0 0 rfl ?_
  refine VO_iload hC d_MD_exchanges_1 1 rfl ?_
  refine VO_callVI hC [.int a1] [] ml_MD_177 d_MD_exchanges_2 yv_MD_placeOf sh_MD rfl rfl (fun o h => M_MD_placeOf hC.inj h) (by decide) rfl rfl (Nat.le_of_ble_eq_true rfl) (fun o1 => ?_)
  refine VO_istore hC d_MD_exchanges_5 [(0, .ref (gad G 58)), (1, .int a1), (2, .int a2)] rfl (by decide) ?_
  refine VO_aload hC d_MD_exchanges_6 1 rfl ?_
  refine VO_getr (r := 67) hC fl_MD_34 sh_MD rfl d_MD_exchanges_7 ?_
  refine VO_aload hC d_MD_exchanges_10 1 rfl ?_
  refine VO_iload hC d_MD_exchanges_11 3 rfl ?_
  refine VO_callVI hC [.int a2] [.ref (gad G 67)] ml_MD_177 d_MD_exchanges_12 yv_MD_placeOf sh_MD rfl rfl (fun o h => M_MD_placeOf hC.inj h) (by decide) rfl rfl (Nat.le_of_ble_eq_true rfl) (fun o2 => ?_)
  refine VO_iload hC d_MD_exchanges_15 2 rfl ?_
  refine VO_iastore hC ia_67 d_MD_exchanges_16 (fun s3 => ?_)
  refine VO_aload hC d_MD_exchanges_17 1 rfl ?_
  refine VO_getr (r := 67) hC fl_MD_34 sh_MD rfl d_MD_exchanges_18 ?_
  refine VO_iload hC d_MD_exchanges_21 0 rfl ?_
  refine VO_iload hC d_MD_exchanges_22 3 rfl ?_
  refine VO_iastore hC ia_67 d_MD_exchanges_23 (fun s4 => ?_)
  exact VO_return d_MD_exchanges_24
set_option maxRecDepth 20000 in
theorem M_MD_exchanges {l : Launch} {D : va_G} {ad : Nat → Nat} {cI cL : ClassId} (hj : Inj ad) {a1 : Int32} {a2 : Int32} {s : St} {o : St} (h : F_MD_exchanges a1 a2 s = some o) : Cn l D ad cI cL y_MD_exchanges b_MD_exchanges 4 none 2 [.ref (ad 58), .int a1, .int a2] s none o := by
  refine Cn_ofV hj (plainFor_of_name (by decide)) (Nat.le_of_ble_eq_true rfl) [(0, .ref (ad 58)), (1, .int a1), (2, .int a2)] rfl (fun G hC e1 e2 e3 e4 e5 hR => ?_)
  subst e1; subst e2; subst e3; subst e4; subst e5
  exact B_MD_exchanges hC a1 a2 s o h hR
theorem d_MD_comes_0 : PLa b_MD_comes 0 0 1 := Or.inl ⟨0, by decide +kernel, rfl, rfl⟩
theorem d_MD_comes_1 : DR b_MD_comes 1 (.getfield 46) 3 4 := ⟨by decide +kernel, rfl⟩
theorem d_MD_comes_4 : PCi b_MD_comes 4 3 5 := Or.inl ⟨3, by decide +kernel, by decide, rfl⟩
theorem d_MD_comes_5 : PLi b_MD_comes 5 1 6 := Or.inl ⟨1, by decide +kernel, rfl, rfl⟩
theorem d_MD_comes_6 : DR b_MD_comes 6 (.imul) 1 7 := ⟨by decide +kernel, rfl⟩
theorem d_MD_comes_7 : DR b_MD_comes 7 (.iaload) 1 8 := ⟨by decide +kernel, rfl⟩
theorem d_MD_comes_8 : PSi b_MD_comes 8 2 9 := Or.inl ⟨2, by decide +kernel, rfl, rfl⟩
theorem d_MD_comes_9 : PLa b_MD_comes 9 0 10 := Or.inl ⟨0, by decide +kernel, rfl, rfl⟩
theorem d_MD_comes_10 : DR b_MD_comes 10 (.getfield 46) 3 13 := ⟨by decide +kernel, rfl⟩
theorem d_MD_comes_13 : PCi b_MD_comes 13 3 14 := Or.inl ⟨3, by decide +kernel, by decide, rfl⟩
theorem d_MD_comes_14 : PLi b_MD_comes 14 1 15 := Or.inl ⟨1, by decide +kernel, rfl, rfl⟩
theorem d_MD_comes_15 : DR b_MD_comes 15 (.imul) 1 16 := ⟨by decide +kernel, rfl⟩
theorem d_MD_comes_16 : PCi b_MD_comes 16 1 17 := Or.inl ⟨1, by decide +kernel, by decide, rfl⟩
theorem d_MD_comes_17 : DR b_MD_comes 17 (.iadd) 1 18 := ⟨by decide +kernel, rfl⟩
theorem d_MD_comes_18 : DR b_MD_comes 18 (.iaload) 1 19 := ⟨by decide +kernel, rfl⟩
theorem d_MD_comes_19 : PSi b_MD_comes 19 3 20 := Or.inl ⟨3, by decide +kernel, rfl, rfl⟩
theorem d_MD_comes_20 : PLa b_MD_comes 20 0 21 := Or.inl ⟨0, by decide +kernel, rfl, rfl⟩
theorem d_MD_comes_21 : DR b_MD_comes 21 (.getfield 40) 3 24 := ⟨by decide +kernel, rfl⟩
theorem d_MD_comes_24 : PLi b_MD_comes 24 1 25 := Or.inl ⟨1, by decide +kernel, rfl, rfl⟩
theorem d_MD_comes_25 : DR b_MD_comes 25 (.iaload) 1 26 := ⟨by decide +kernel, rfl⟩
theorem d_MD_comes_26 : decode b_MD_comes 26 = .ok (.lookupswitch 168 #[(97, 136), (98, 117), (100, 42), (112, 66)], 42) := by decide +kernel
theorem d_MD_comes_68 : PLi b_MD_comes 68 2 69 := Or.inl ⟨2, by decide +kernel, rfl, rfl⟩
theorem d_MD_comes_69 : PCi b_MD_comes 69 5 70 := Or.inl ⟨5, by decide +kernel, by decide, rfl⟩
theorem d_MD_comes_70 : DJ b_MD_comes 70 (.if_icmp .gt) 73 82 := ⟨12, by decide +kernel, rfl, by decide⟩
theorem d_MD_comes_73 : PLa b_MD_comes 73 0 74 := Or.inl ⟨0, by decide +kernel, rfl, rfl⟩
theorem d_MD_comes_74 : DR b_MD_comes 74 (.getfield 84) 3 77 := ⟨by decide +kernel, rfl⟩
theorem d_MD_comes_77 : PCi b_MD_comes 77 7 79 := Or.inr (Or.inl ⟨7, by decide +kernel, by decide, rfl⟩)
theorem d_MD_comes_79 : DJ b_MD_comes 79 (.if_icmp .ne) 82 84 := ⟨5, by decide +kernel, rfl, by decide⟩
theorem d_MD_comes_82 : PCi b_MD_comes 82 0 83 := Or.inl ⟨0, by decide +kernel, by decide, rfl⟩
theorem d_MD_comes_83 : DR b_MD_comes 83 (.ireturn) 1 84 := ⟨by decide +kernel, rfl⟩
theorem d_MD_comes_84 : PLa b_MD_comes 84 0 85 := Or.inl ⟨0, by decide +kernel, rfl, rfl⟩
theorem d_MD_comes_85 : PLi b_MD_comes 85 2 86 := Or.inl ⟨2, by decide +kernel, rfl, rfl⟩
theorem d_MD_comes_86 : PLi b_MD_comes 86 3 87 := Or.inl ⟨3, by decide +kernel, rfl, rfl⟩
theorem d_MD_comes_87 : DR b_MD_comes 87 (.invokevirtual 126) 3 90 := ⟨by decide +kernel, rfl⟩
theorem d_MD_comes_90 : PCi b_MD_comes 90 1 91 := Or.inl ⟨1, by decide +kernel, by decide, rfl⟩
theorem d_MD_comes_91 : DR b_MD_comes 91 (.ireturn) 1 92 := ⟨by decide +kernel, rfl⟩
theorem d_MD_comes_92 : PLi b_MD_comes 92 3 93 := Or.inl ⟨3, by decide +kernel, rfl, rfl⟩
theorem d_MD_comes_93 : PCi b_MD_comes 93 128 96 := Or.inr (Or.inr ⟨128, by decide +kernel, by decide, rfl⟩)
theorem d_MD_comes_96 : DJ b_MD_comes 96 (.if_icmp .ge) 99 123 := ⟨27, by decide +kernel, rfl, by decide⟩
theorem d_MD_comes_99 : PLa b_MD_comes 99 0 100 := Or.inl ⟨0, by decide +kernel, rfl, rfl⟩
theorem d_MD_comes_100 : DR b_MD_comes 100 (.getfield 46) 3 103 := ⟨by decide +kernel, rfl⟩
theorem d_MD_comes_103 : PCi b_MD_comes 103 3 104 := Or.inl ⟨3, by decide +kernel, by decide, rfl⟩
theorem d_MD_comes_104 : PLi b_MD_comes 104 1 105 := Or.inl ⟨1, by decide +kernel, rfl, rfl⟩
theorem d_MD_comes_105 : DR b_MD_comes 105 (.imul) 1 106 := ⟨by decide +kernel, rfl⟩
theorem d_MD_comes_106 : PCi b_MD_comes 106 2 107 := Or.inl ⟨2, by decide +kernel, by decide, rfl⟩
theorem d_MD_comes_107 : DR b_MD_comes 107 (.iadd) 1 108 := ⟨by decide +kernel, rfl⟩
theorem d_MD_comes_108 : DR b_MD_comes 108 (.iaload) 1 109 := ⟨by decide +kernel, rfl⟩
theorem d_MD_comes_109 : PCi b_MD_comes 109 7 111 := Or.inr (Or.inl ⟨7, by decide +kernel, by decide, rfl⟩)
theorem d_MD_comes_111 : DJ b_MD_comes 111 (.if_icmp .gt) 114 123 := ⟨12, by decide +kernel, rfl, by decide⟩
theorem d_MD_comes_114 : PLa b_MD_comes 114 0 115 := Or.inl ⟨0, by decide +kernel, rfl, rfl⟩
theorem d_MD_comes_115 : DR b_MD_comes 115 (.getfield 90) 3 118 := ⟨by decide +kernel, rfl⟩
theorem d_MD_comes_118 : PCi b_MD_comes 118 7 120 := Or.inr (Or.inl ⟨7, by decide +kernel, by decide, rfl⟩)
theorem d_MD_comes_120 : DJ b_MD_comes 120 (.if_icmp .ne) 123 125 := ⟨5, by decide +kernel, rfl, by decide⟩
theorem d_MD_comes_123 : PCi b_MD_comes 123 0 124 := Or.inl ⟨0, by decide +kernel, by decide, rfl⟩
theorem d_MD_comes_124 : DR b_MD_comes 124 (.ireturn) 1 125 := ⟨by decide +kernel, rfl⟩
theorem d_MD_comes_125 : PLa b_MD_comes 125 0 126 := Or.inl ⟨0, by decide +kernel, rfl, rfl⟩
theorem d_MD_comes_126 : PLi b_MD_comes 126 2 127 := Or.inl ⟨2, by decide +kernel, rfl, rfl⟩
theorem d_MD_comes_127 : PLi b_MD_comes 127 3 128 := Or.inl ⟨3, by decide +kernel, rfl, rfl⟩
theorem d_MD_comes_128 : PLa b_MD_comes 128 0 129 := Or.inl ⟨0, by decide +kernel, rfl, rfl⟩
theorem d_MD_comes_129 : DR b_MD_comes 129 (.getfield 46) 3 132 := ⟨by decide +kernel, rfl⟩
theorem d_MD_comes_132 : PCi b_MD_comes 132 3 133 := Or.inl ⟨3, by decide +kernel, by decide, rfl⟩
theorem d_MD_comes_133 : PLi b_MD_comes 133 1 134 := Or.inl ⟨1, by decide +kernel, rfl, rfl⟩
theorem d_MD_comes_134 : DR b_MD_comes 134 (.imul) 1 135 := ⟨by decide +kernel, rfl⟩
theorem d_MD_comes_135 : PCi b_MD_comes 135 2 136 := Or.inl ⟨2, by decide +kernel, by decide, rfl⟩
theorem d_MD_comes_136 : DR b_MD_comes 136 (.iadd) 1 137 := ⟨by decide +kernel, rfl⟩
theorem d_MD_comes_137 : DR b_MD_comes 137 (.iaload) 1 138 := ⟨by decide +kernel, rfl⟩
theorem d_MD_comes_138 : DR b_MD_comes 138 (.invokevirtual 130) 3 141 := ⟨by decide +kernel, rfl⟩
theorem d_MD_comes_141 : PCi b_MD_comes 141 1 142 := Or.inl ⟨1, by decide +kernel, by decide, rfl⟩
theorem d_MD_comes_142 : DR b_MD_comes 142 (.ireturn) 1 143 := ⟨by decide +kernel, rfl⟩
theorem d_MD_comes_143 : PLa b_MD_comes 143 0 144 := Or.inl ⟨0, by decide +kernel, rfl, rfl⟩
theorem d_MD_comes_144 : PLi b_MD_comes 144 2 145 := Or.inl ⟨2, by decide +kernel, rfl, rfl⟩
theorem d_MD_comes_145 : PLi b_MD_comes 145 3 146 := Or.inl ⟨3, by decide +kernel, rfl, rfl⟩
theorem d_MD_comes_146 : DR b_MD_comes 146 (.invokevirtual 134) 3 149 := ⟨by decide +kernel, rfl⟩
theorem d_MD_comes_149 : DJ b_MD_comes 149 (.ifCond .ne) 152 154 := ⟨5, by decide +kernel, rfl, by decide⟩
theorem d_MD_comes_152 : PCi b_MD_comes 152 0 153 := Or.inl ⟨0, by decide +kernel, by decide, rfl⟩
theorem d_MD_comes_153 : DR b_MD_comes 153 (.ireturn) 1 154 := ⟨by decide +kernel, rfl⟩
theorem d_MD_comes_154 : PLa b_MD_comes 154 0 155 := Or.inl ⟨0, by decide +kernel, rfl, rfl⟩
theorem d_MD_comes_155 : PLi b_MD_comes 155 2 156 := Or.inl ⟨2, by decide +kernel, rfl, rfl⟩
theorem d_MD_comes_156 : PLi b_MD_comes 156 3 157 := Or.inl ⟨3, by decide +kernel, rfl, rfl⟩
theorem d_MD_comes_157 : DR b_MD_comes 157 (.invokevirtual 137) 3 160 := ⟨by decide +kernel, rfl⟩
theorem d_MD_comes_160 : PCi b_MD_comes 160 1 161 := Or.inl ⟨1, by decide +kernel, by decide, rfl⟩
theorem d_MD_comes_161 : DR b_MD_comes 161 (.ireturn) 1 162 := ⟨by decide +kernel, rfl⟩
theorem d_MD_comes_162 : PLa b_MD_comes 162 0 163 := Or.inl ⟨0, by decide +kernel, rfl, rfl⟩
theorem d_MD_comes_163 : PLi b_MD_comes 163 2 164 := Or.inl ⟨2, by decide +kernel, rfl, rfl⟩
theorem d_MD_comes_164 : DR b_MD_comes 164 (.invokevirtual 93) 3 167 := ⟨by decide +kernel, rfl⟩
theorem d_MD_comes_167 : DJ b_MD_comes 167 (.ifCond .eq) 170 178 := ⟨11, by decide +kernel, rfl, by decide⟩
theorem d_MD_comes_170 : PLa b_MD_comes 170 0 171 := Or.inl ⟨0, by decide +kernel, rfl, rfl⟩
theorem d_MD_comes_171 : PLi b_MD_comes 171 3 172 := Or.inl ⟨3, by decide +kernel, rfl, rfl⟩
theorem d_MD_comes_172 : DR b_MD_comes 172 (.invokevirtual 140) 3 175 := ⟨by decide +kernel, rfl⟩
theorem d_MD_comes_175 : DJ b_MD_comes 175 (.ifCond .ne) 178 180 := ⟨5, by decide +kernel, rfl, by decide⟩
theorem d_MD_comes_178 : PCi b_MD_comes 178 0 179 := Or.inl ⟨0, by decide +kernel, by decide, rfl⟩
theorem d_MD_comes_179 : DR b_MD_comes 179 (.ireturn) 1 180 := ⟨by decide +kernel, rfl⟩
theorem d_MD_comes_180 : PLa b_MD_comes 180 0 181 := Or.inl ⟨0, by decide +kernel, rfl, rfl⟩
theorem d_MD_comes_181 : DR b_MD_comes 181 (.getfield 31) 3 184 := ⟨by decide +kernel, rfl⟩
theorem d_MD_comes_184 : PLi b_MD_comes 184 2 185 := Or.inl ⟨2, by decide +kernel, rfl, rfl⟩
theorem d_MD_comes_185 : DR b_MD_comes 185 (.dup2) 1 186 := ⟨by decide +kernel, rfl⟩
theorem d_MD_comes_186 : DR b_MD_comes 186 (.iaload) 1 187 := ⟨by decide +kernel, rfl⟩
theorem d_MD_comes_187 : PCi b_MD_comes 187 1 188 := Or.inl ⟨1, by decide +kernel, by decide, rfl⟩
theorem d_MD_comes_188 : PLi b_MD_comes 188 3 189 := Or.inl ⟨3, by decide +kernel, rfl, rfl⟩
theorem d_MD_comes_189 : DR b_MD_comes 189 (.ishl) 1 190 := ⟨by decide +kernel, rfl⟩
theorem d_MD_comes_190 : DR b_MD_comes 190 (.ixor) 1 191 := ⟨by decide +kernel, rfl⟩
theorem d_MD_comes_191 : DR b_MD_comes 191 (.iastore) 1 192 := ⟨by decide +kernel, rfl⟩
theorem d_MD_comes_192 : PCi b_MD_comes 192 1 193 := Or.inl ⟨1, by decide +kernel, by decide, rfl⟩
theorem d_MD_comes_193 : DR b_MD_comes 193 (.ireturn) 1 194 := ⟨by decide +kernel, rfl⟩
theorem d_MD_comes_194 : PLa b_MD_comes 194 0 195 := Or.inl ⟨0, by decide +kernel, rfl, rfl⟩
theorem d_MD_comes_195 : PLi b_MD_comes 195 2 196 := Or.inl ⟨2, by decide +kernel, rfl, rfl⟩
theorem d_MD_comes_196 : PLi b_MD_comes 196 3 197 := Or.inl ⟨3, by decide +kernel, rfl, rfl⟩
theorem d_MD_comes_197 : DR b_MD_comes 197 (.invokevirtual 134) 3 200 := ⟨by decide +kernel, rfl⟩
theorem d_MD_comes_200 : DJ b_MD_comes 200 (.ifCond .ne) 203 205 := ⟨5, by decide +kernel, rfl, by decide⟩
theorem d_MD_comes_203 : PCi b_MD_comes 203 0 204 := Or.inl ⟨0, by decide +kernel, by decide, rfl⟩
theorem d_MD_comes_204 : DR b_MD_comes 204 (.ireturn) 1 205 := ⟨by decide +kernel, rfl⟩
theorem d_MD_comes_205 : PLa b_MD_comes 205 0 206 := Or.inl ⟨0, by decide +kernel, rfl, rfl⟩
theorem d_MD_comes_206 : PLi b_MD_comes 206 2 207 := Or.inl ⟨2, by decide +kernel, rfl, rfl⟩
theorem d_MD_comes_207 : PLi b_MD_comes 207 3 208 := Or.inl ⟨3, by decide +kernel, rfl, rfl⟩
theorem d_MD_comes_208 : DR b_MD_comes 208 (.invokevirtual 143) 3 211 := ⟨by decide +kernel, rfl⟩
theorem d_MD_comes_211 : PCi b_MD_comes 211 1 212 := Or.inl ⟨1, by decide +kernel, by decide, rfl⟩
theorem d_MD_comes_212 : DR b_MD_comes 212 (.ireturn) 1 213 := ⟨by decide +kernel, rfl⟩
set_option maxRecDepth 20000 in
theorem B_MD_comes {G : MCx} (hC : C0 G "AccusedChooseModel" b_MD_comes 4 3) (a1 : Int32) (s : St) : VO G (RZ G b_MD_comes) (F_MD_comes a1 s) 0 [(0, .ref (gad G 58)), (1, .int a1)] [] s := by
  unfold F_MD_comes
  refine VO_aload hC d_MD_comes_0 0 rfl ?_
  refine VO_getr (r := 71) hC fl_MD_46 sh_MD rfl d_MD_comes_1 ?_
  refine VO_const hC d_MD_comes_4 ?_
  refine VO_iload hC d_MD_comes_5 1 rfl ?_
  refine VO_imul hC d_MD_comes_6 ?_
  refine VO_iaload hC ia_71 d_MD_comes_7 (fun x1 => ?_)
  refine VO_istore hC d_MD_comes_8 [(0, .ref (gad G 58)), (1, .int a1)] rfl (by decide) ?_
  refine VO_aload hC d_MD_comes_9 1 rfl ?_
  refine VO_getr (r := 71) hC fl_MD_46 sh_MD rfl d_MD_comes_10 ?_
  refine VO_const hC d_MD_comes_13 ?_
  refine VO_iload hC d_MD_comes_14 2 rfl ?_
  refine VO_imul hC d_MD_comes_15 ?_
  refine VO_const hC d_MD_comes_16 ?_
  refine VO_iadd hC d_MD_comes_17 ?_
  refine VO_iaload hC ia_71 d_MD_comes_18 (fun x2 => ?_)
  refine VO_istore hC d_MD_comes_19 [(2, .int x1), (0, .ref (gad G 58)), (1, .int a1)] rfl (by decide) ?_
  refine VO_aload hC d_MD_comes_20 2 rfl ?_
  refine VO_getr (r := 69) hC fl_MD_40 sh_MD rfl d_MD_comes_21 ?_
  refine VO_iload hC d_MD_comes_24 3 rfl ?_
  refine VO_iaload hC ia_69 d_MD_comes_25 (fun x3 => ?_)
  refine VO_ite (fun c26_0 => ?_) (fun c26_0 => ?_)
  · refine VO_lsw (tgt := 162) (off := (136 : Int)) hC d_MD_comes_26 (by decide) (by first | (rw [c26_0]; done) | (rw [c26_0]; decide)) (by decide) ?_
    refine VO_aload hC d_MD_comes_162 2 rfl ?_
    refine VO_iload hC d_MD_comes_163 1 rfl ?_
    refine VO_callVI hC [.int x1] [] ml_MD_93 d_MD_comes_164 yv_MD_isPerson sh_MD rfl rfl (fun o h => M_MD_isPerson hC.inj h) (by decide) rfl rfl (Nat.le_of_ble_eq_true rfl) (fun o4 => ?_)
    refine VO_if_eq hC d_MD_comes_167 (fun _ => ?_) (fun _ => ?_)
    · refine VO_const hC d_MD_comes_178 ?_
      exact VO_z0 d_MD_comes_179
    · refine VO_aload hC d_MD_comes_170 2 rfl ?_
      refine VO_iload hC d_MD_comes_171 0 rfl ?_
      refine VO_callVI hC [.int x2] [] ml_MD_140 d_MD_comes_172 yv_MD_isDeed sh_MD rfl rfl (fun o h => M_MD_isDeed hC.inj h) (by decide) rfl rfl (Nat.le_of_ble_eq_true rfl) (fun o5 => ?_)
      refine VO_if_ne hC d_MD_comes_175 (fun _ => ?_) (fun _ => ?_)
      · refine VO_const hC d_MD_comes_178 ?_
        exact VO_z0 d_MD_comes_179
      · refine VO_aload hC d_MD_comes_180 2 rfl ?_
        refine VO_getr (r := 66) hC fl_MD_31 sh_MD rfl d_MD_comes_181 ?_
        refine VO_iload hC d_MD_comes_184 1 rfl ?_
        refine VO_dup2 hC d_MD_comes_185 rfl rfl ?_
        refine VO_iaload hC ia_66 d_MD_comes_186 (fun x6 => ?_)
        refine VO_const hC d_MD_comes_187 ?_
        refine VO_iload hC d_MD_comes_188 0 rfl ?_
        refine VO_ishl hC d_MD_comes_189 ?_
        refine VO_ixor hC d_MD_comes_190 ?_
        refine VO_iastore hC ia_66 d_MD_comes_191 (fun s7 => ?_)
        refine VO_const hC d_MD_comes_192 ?_
        exact VO_z1 d_MD_comes_193
  refine VO_ite (fun c26_1 => ?_) (fun c26_1 => ?_)
  · refine VO_lsw (tgt := 143) (off := (117 : Int)) hC d_MD_comes_26 (by decide) (by first | (rw [c26_1]; done) | (rw [c26_1]; decide)) (by decide) ?_
    refine VO_aload hC d_MD_comes_143 2 rfl ?_
    refine VO_iload hC d_MD_comes_144 1 rfl ?_
    refine VO_iload hC d_MD_comes_145 0 rfl ?_
    refine VO_callVI hC [.int x1, .int x2] [] ml_MD_134 d_MD_comes_146 yv_MD_areTwo sh_MD rfl rfl (fun o h => M_MD_areTwo hC.inj h) (by decide) rfl rfl (Nat.le_of_ble_eq_true rfl) (fun o8 => ?_)
    refine VO_if_ne hC d_MD_comes_149 (fun _ => ?_) (fun _ => ?_)
    · refine VO_const hC d_MD_comes_152 ?_
      exact VO_z0 d_MD_comes_153
    · refine VO_aload hC d_MD_comes_154 2 rfl ?_
      refine VO_iload hC d_MD_comes_155 1 rfl ?_
      refine VO_iload hC d_MD_comes_156 0 rfl ?_
      refine VO_callVV hC [.int x1, .int x2] [] ml_MD_137 d_MD_comes_157 yv_MD_areBrothers sh_MD rfl rfl (fun o h => M_MD_areBrothers hC.inj h) (by decide) rfl rfl (Nat.le_of_ble_eq_true rfl) (fun s9 => ?_)
      refine VO_const hC d_MD_comes_160 ?_
      exact VO_z1 d_MD_comes_161
  refine VO_ite (fun c26_2 => ?_) (fun c26_2 => ?_)
  · refine VO_lsw (tgt := 68) (off := (42 : Int)) hC d_MD_comes_26 (by decide) (by first | (rw [c26_2]; done) | (rw [c26_2]; decide)) (by decide) ?_
    refine VO_iload hC d_MD_comes_68 1 rfl ?_
    refine VO_const hC d_MD_comes_69 ?_
    refine VO_icmp_gt hC d_MD_comes_70 (fun _ => ?_) (fun _ => ?_)
    · refine VO_const hC d_MD_comes_82 ?_
      exact VO_z0 d_MD_comes_83
    · refine VO_aload hC d_MD_comes_73 2 rfl ?_
      refine VO_geti hC fl_MD_84 sh_MD rfl d_MD_comes_74 ?_
      refine VO_const hC d_MD_comes_77 ?_
      refine VO_icmp_ne hC d_MD_comes_79 (fun _ => ?_) (fun _ => ?_)
      · refine VO_const hC d_MD_comes_82 ?_
        exact VO_z0 d_MD_comes_83
      · refine VO_aload hC d_MD_comes_84 2 rfl ?_
        refine VO_iload hC d_MD_comes_85 1 rfl ?_
        refine VO_iload hC d_MD_comes_86 0 rfl ?_
        refine VO_callVV hC [.int x1, .int x2] [] ml_MD_126 d_MD_comes_87 yv_MD_addsDeed sh_MD rfl rfl (fun o h => M_MD_addsDeed hC.inj h) (by decide) rfl rfl (Nat.le_of_ble_eq_true rfl) (fun s10 => ?_)
        refine VO_const hC d_MD_comes_90 ?_
        exact VO_z1 d_MD_comes_91
  refine VO_ite (fun c26_3 => ?_) (fun c26_3 => ?_)
  · refine VO_lsw (tgt := 92) (off := (66 : Int)) hC d_MD_comes_26 (by decide) (by first | (rw [c26_3]; done) | (rw [c26_3]; decide)) (by decide) ?_
    refine VO_iload hC d_MD_comes_92 0 rfl ?_
    refine VO_const hC d_MD_comes_93 ?_
    refine VO_icmp_ge hC d_MD_comes_96 (fun _ => ?_) (fun _ => ?_)
    · refine VO_const hC d_MD_comes_123 ?_
      exact VO_z0 d_MD_comes_124
    · refine VO_aload hC d_MD_comes_99 2 rfl ?_
      refine VO_getr (r := 71) hC fl_MD_46 sh_MD rfl d_MD_comes_100 ?_
      refine VO_const hC d_MD_comes_103 ?_
      refine VO_iload hC d_MD_comes_104 3 rfl ?_
      refine VO_imul hC d_MD_comes_105 ?_
      refine VO_const hC d_MD_comes_106 ?_
      refine VO_iadd hC d_MD_comes_107 ?_
      refine VO_iaload hC ia_71 d_MD_comes_108 (fun x11 => ?_)
      refine VO_const hC d_MD_comes_109 ?_
      refine VO_icmp_gt hC d_MD_comes_111 (fun _ => ?_) (fun _ => ?_)
      · refine VO_const hC d_MD_comes_123 ?_
        exact VO_z0 d_MD_comes_124
      · refine VO_aload hC d_MD_comes_114 2 rfl ?_
        refine VO_geti hC fl_MD_90 sh_MD rfl d_MD_comes_115 ?_
        refine VO_const hC d_MD_comes_118 ?_
        refine VO_icmp_ne hC d_MD_comes_120 (fun _ => ?_) (fun _ => ?_)
        · refine VO_const hC d_MD_comes_123 ?_
          exact VO_z0 d_MD_comes_124
        · refine VO_aload hC d_MD_comes_125 2 rfl ?_
          refine VO_iload hC d_MD_comes_126 1 rfl ?_
          refine VO_iload hC d_MD_comes_127 0 rfl ?_
          refine VO_aload hC d_MD_comes_128 2 rfl ?_
          refine VO_getr (r := 71) hC fl_MD_46 sh_MD rfl d_MD_comes_129 ?_
          refine VO_const hC d_MD_comes_132 ?_
          refine VO_iload hC d_MD_comes_133 3 rfl ?_
          refine VO_imul hC d_MD_comes_134 ?_
          refine VO_const hC d_MD_comes_135 ?_
          refine VO_iadd hC d_MD_comes_136 ?_
          refine VO_iaload hC ia_71 d_MD_comes_137 (fun x12 => ?_)
          refine VO_callVV hC [.int x1, .int x2, .int x12] [] ml_MD_130 d_MD_comes_138 yv_MD_addsPerson sh_MD rfl rfl (fun o h => M_MD_addsPerson hC.inj h) (by decide) rfl rfl (Nat.le_of_ble_eq_true rfl) (fun s13 => ?_)
          refine VO_const hC d_MD_comes_141 ?_
          exact VO_z1 d_MD_comes_142
  refine VO_lsw (tgt := 194) (off := (168 : Int)) hC d_MD_comes_26 (by decide) ((lv_osw c26_0 rfl).trans ((lv_osw c26_1 rfl).trans ((lv_osw c26_2 rfl).trans ((lv_osw c26_3 rfl))))) (by decide) ?_
  refine VO_aload hC d_MD_comes_194 2 rfl ?_
  refine VO_iload hC d_MD_comes_195 1 rfl ?_
  refine VO_iload hC d_MD_comes_196 0 rfl ?_
  refine VO_callVI hC [.int x1, .int x2] [] ml_MD_134 d_MD_comes_197 yv_MD_areTwo sh_MD rfl rfl (fun o h => M_MD_areTwo hC.inj h) (by decide) rfl rfl (Nat.le_of_ble_eq_true rfl) (fun o14 => ?_)
  refine VO_if_ne hC d_MD_comes_200 (fun _ => ?_) (fun _ => ?_)
  · refine VO_const hC d_MD_comes_203 ?_
    exact VO_z0 d_MD_comes_204
  · refine VO_aload hC d_MD_comes_205 2 rfl ?_
    refine VO_iload hC d_MD_comes_206 1 rfl ?_
    refine VO_iload hC d_MD_comes_207 0 rfl ?_
    refine VO_callVV hC [.int x1, .int x2] [] ml_MD_143 d_MD_comes_208 yv_MD_exchanges sh_MD rfl rfl (fun o h => M_MD_exchanges hC.inj h) (by decide) rfl rfl (Nat.le_of_ble_eq_true rfl) (fun s15 => ?_)
    refine VO_const hC d_MD_comes_211 ?_
    exact VO_z1 d_MD_comes_212
set_option maxRecDepth 20000 in
theorem M_MD_comes {l : Launch} {D : va_G} {ad : Nat → Nat} {cI cL : ClassId} (hj : Inj ad) {a1 : Int32} {s : St} {o : Int32 × St} (h : F_MD_comes a1 s = some o) : Cn l D ad cI cL y_MD_comes b_MD_comes 4 (some .boolean) 3 [.ref (ad 58), .int a1] s (some (.int o.1)) o.2 := by
  refine Cn_ofZ hj (plainFor_of_name (by decide)) (Nat.le_of_ble_eq_true rfl) [(0, .ref (ad 58)), (1, .int a1)] rfl (fun G hC e1 e2 e3 e4 e5 hR => ?_)
  subst e1; subst e2; subst e3; subst e4; subst e5
  exact B_MD_comes hC a1 s o h hR
theorem d_MD_passes_0 : PCi b_MD_passes 0 0 1 := Or.inl ⟨0, by decide +kernel, by decide, rfl⟩
theorem d_MD_passes_1 : PSi b_MD_passes 1 2 2 := Or.inl ⟨2, by decide +kernel, rfl, rfl⟩
theorem d_MD_passes_2 : PLi b_MD_passes 2 2 3 := Or.inl ⟨2, by decide +kernel, rfl, rfl⟩
theorem d_MD_passes_3 : PLa b_MD_passes 3 1 4 := Or.inl ⟨1, by decide +kernel, rfl, rfl⟩
theorem d_MD_passes_4 : DR b_MD_passes 4 (.arraylength) 1 5 := ⟨by decide +kernel, rfl⟩
theorem d_MD_passes_5 : DJ b_MD_passes 5 (.if_icmp .ge) 8 58 := ⟨53, by decide +kernel, rfl, by decide⟩
theorem d_MD_passes_8 : PLa b_MD_passes 8 0 9 := Or.inl ⟨0, by decide +kernel, rfl, rfl⟩
theorem d_MD_passes_9 : DR b_MD_passes 9 (.getfield 160) 3 12 := ⟨by decide +kernel, rfl⟩
theorem d_MD_passes_12 : DJ b_MD_passes 12 (.ifCond .eq) 15 30 := ⟨18, by decide +kernel, rfl, by decide⟩
theorem d_MD_passes_15 : PLa b_MD_passes 15 0 16 := Or.inl ⟨0, by decide +kernel, rfl, rfl⟩
theorem d_MD_passes_16 : DR b_MD_passes 16 (.getfield 49) 3 19 := ⟨by decide +kernel, rfl⟩
theorem d_MD_passes_19 : PLa b_MD_passes 19 0 20 := Or.inl ⟨0, by decide +kernel, rfl, rfl⟩
theorem d_MD_passes_20 : DR b_MD_passes 20 (.getfield 164) 3 23 := ⟨by decide +kernel, rfl⟩
theorem d_MD_passes_23 : PLa b_MD_passes 23 1 24 := Or.inl ⟨1, by decide +kernel, rfl, rfl⟩
theorem d_MD_passes_24 : PLi b_MD_passes 24 2 25 := Or.inl ⟨2, by decide +kernel, rfl, rfl⟩
theorem d_MD_passes_25 : DR b_MD_passes 25 (.iaload) 1 26 := ⟨by decide +kernel, rfl⟩
theorem d_MD_passes_26 : DR b_MD_passes 26 (.iastore) 1 27 := ⟨by decide +kernel, rfl⟩
theorem d_MD_passes_27 : DJ b_MD_passes 27 .goto 30 42 := ⟨15, by decide +kernel, rfl, by decide⟩
theorem d_MD_passes_30 : PLa b_MD_passes 30 1 31 := Or.inl ⟨1, by decide +kernel, rfl, rfl⟩
theorem d_MD_passes_31 : PLi b_MD_passes 31 2 32 := Or.inl ⟨2, by decide +kernel, rfl, rfl⟩
theorem d_MD_passes_32 : PLa b_MD_passes 32 0 33 := Or.inl ⟨0, by decide +kernel, rfl, rfl⟩
theorem d_MD_passes_33 : DR b_MD_passes 33 (.getfield 49) 3 36 := ⟨by decide +kernel, rfl⟩
theorem d_MD_passes_36 : PLa b_MD_passes 36 0 37 := Or.inl ⟨0, by decide +kernel, rfl, rfl⟩
theorem d_MD_passes_37 : DR b_MD_passes 37 (.getfield 164) 3 40 := ⟨by decide +kernel, rfl⟩
theorem d_MD_passes_40 : DR b_MD_passes 40 (.iaload) 1 41 := ⟨by decide +kernel, rfl⟩
theorem d_MD_passes_41 : DR b_MD_passes 41 (.iastore) 1 42 := ⟨by decide +kernel, rfl⟩
theorem d_MD_passes_42 : PLa b_MD_passes 42 0 43 := Or.inl ⟨0, by decide +kernel, rfl, rfl⟩
theorem d_MD_passes_43 : DR b_MD_passes 43 (.dup) 1 44 := ⟨by decide +kernel, rfl⟩
theorem d_MD_passes_44 : DR b_MD_passes 44 (.getfield 164) 3 47 := ⟨by decide +kernel, rfl⟩
theorem d_MD_passes_47 : PCi b_MD_passes 47 1 48 := Or.inl ⟨1, by decide +kernel, by decide, rfl⟩
theorem d_MD_passes_48 : DR b_MD_passes 48 (.iadd) 1 49 := ⟨by decide +kernel, rfl⟩
theorem d_MD_passes_49 : DR b_MD_passes 49 (.putfield 164) 3 52 := ⟨by decide +kernel, rfl⟩
theorem d_MD_passes_52 : DR b_MD_passes 52 (.iinc 2 1) 3 55 := ⟨by decide +kernel, rfl⟩
theorem d_MD_passes_55 : DJ b_MD_passes 55 .goto 58 2 := ⟨-53, by decide +kernel, rfl, by decide⟩
theorem d_MD_passes_58 : DR b_MD_passes 58 (.return_) 1 59 := ⟨by decide +kernel, rfl⟩
set_option maxRecDepth 20000 in
theorem B_MD_passes_42 {G : MCx} (hC : C0 G "AccusedChooseModel" b_MD_passes 3 1) {t1 : Nat} (h1 : isIA t1) (K2 : Int32 × St → Option (St)) (hK2 : ∀ (w2 : Int32) (s : St), VO G (RV G b_MD_passes) (K2 (w2, s)) 2 [(0, .ref (gad G 58)), (1, .ref (gad G t1)), (2, .int w2)] [] s) (v2 : Int32) (s : St) : VO G (RV G b_MD_passes) (F_MD_passes_42 t1 K2 v2 s) 42 [(0, .ref (gad G 58)), (1, .ref (gad G t1)), (2, .int v2)] [] s := by
  unfold F_MD_passes_42
  refine VO_aload hC d_MD_passes_42 0 rfl ?_
  refine VO_dup hC d_MD_passes_43 rfl ?_
  refine VO_geti hC fl_MD_164 sh_MD rfl d_MD_passes_44 ?_
  refine VO_const hC d_MD_passes_47 ?_
  refine VO_iadd hC d_MD_passes_48 ?_
  refine VO_puti hC fw_MD_164 sh_MD rfl d_MD_passes_49 (fun s3 => ?_)
  refine VO_iinc hC d_MD_passes_52 2 rfl (by decide : Int32.ofInt 1 = 1) [(0, .ref (gad G 58)), (1, .ref (gad G t1))] rfl (by decide) ?_
  refine VO_goto hC d_MD_passes_55 ?_
  exact VO_sub [1, 2, 0] rfl (hK2 (v2 + 1) s3)
set_option maxRecDepth 20000 in
theorem BH_MD_passes_2 {G : MCx} (hC : C0 G "AccusedChooseModel" b_MD_passes 3 1) {t1 : Nat} (h1 : isIA t1) (K2 : Int32 × St → Option (St)) (hK2 : ∀ (w2 : Int32) (s : St), VO G (RV G b_MD_passes) (K2 (w2, s)) 2 [(0, .ref (gad G 58)), (1, .ref (gad G t1)), (2, .int w2)] [] s) (v2 : Int32) (s : St) : VO G (RV G b_MD_passes) (H_MD_passes_2 t1 K2 v2 s) 2 [(0, .ref (gad G 58)), (1, .ref (gad G t1)), (2, .int v2)] [] s := by
  unfold H_MD_passes_2
  refine VO_iload hC d_MD_passes_2 2 rfl ?_
  refine VO_aload hC d_MD_passes_3 1 rfl ?_
  refine VO_alen hC h1 d_MD_passes_4 ?_
  refine VO_icmp_ge hC d_MD_passes_5 (fun _ => ?_) (fun _ => ?_)
  · exact VO_return d_MD_passes_58
  · refine VO_aload hC d_MD_passes_8 0 rfl ?_
    refine VO_geti hC fl_MD_160 sh_MD rfl d_MD_passes_9 ?_
    refine VO_if_eq hC d_MD_passes_12 (fun _ => ?_) (fun _ => ?_)
    · refine VO_aload hC d_MD_passes_30 1 rfl ?_
      refine VO_iload hC d_MD_passes_31 2 rfl ?_
      refine VO_aload hC d_MD_passes_32 0 rfl ?_
      refine VO_getr (r := 72) hC fl_MD_49 sh_MD rfl d_MD_passes_33 ?_
      refine VO_aload hC d_MD_passes_36 0 rfl ?_
      refine VO_geti hC fl_MD_164 sh_MD rfl d_MD_passes_37 ?_
      refine VO_iaload hC ia_72 d_MD_passes_40 (fun x1 => ?_)
      refine VO_iastore hC h1 d_MD_passes_41 (fun s2 => ?_)
      exact (B_MD_passes_42 hC h1 K2 hK2 v2 s2)
    · refine VO_aload hC d_MD_passes_15 0 rfl ?_
      refine VO_getr (r := 72) hC fl_MD_49 sh_MD rfl d_MD_passes_16 ?_
      refine VO_aload hC d_MD_passes_19 0 rfl ?_
      refine VO_geti hC fl_MD_164 sh_MD rfl d_MD_passes_20 ?_
      refine VO_aload hC d_MD_passes_23 1 rfl ?_
      refine VO_iload hC d_MD_passes_24 2 rfl ?_
      refine VO_iaload hC h1 d_MD_passes_25 (fun x4 => ?_)
      refine VO_iastore hC ia_72 d_MD_passes_26 (fun s5 => ?_)
      refine VO_goto hC d_MD_passes_27 ?_
      exact (B_MD_passes_42 hC h1 K2 hK2 v2 s5)
set_option maxRecDepth 20000 in
theorem B_MD_passes_2 {G : MCx} (hC : C0 G "AccusedChooseModel" b_MD_passes 3 1) {t1 : Nat} (h1 : isIA t1) (v2 : Int32) (s : St) : VO G (RV G b_MD_passes) (F_MD_passes_2 t1 v2 s) 2 [(0, .ref (gad G 58)), (1, .ref (gad G t1)), (2, .int v2)] [] s := by
  exact VO_fix (G_MD_passes_2 t1) 2 (fun q => [(0, .ref (gad G 58)), (1, .ref (gad G t1)), (2, .int q.1)]) (fun q => q.2) (fun K hK q => BH_MD_passes_2 hC h1 K (fun w2 s => hK (w2, s)) q.1 q.2) FUEL (v2, s)
set_option maxRecDepth 20000 in
theorem B_MD_passes {G : MCx} (hC : C0 G "AccusedChooseModel" b_MD_passes 3 1) {t1 : Nat} (h1 : isIA t1) (s : St) : VO G (RV G b_MD_passes) (F_MD_passes t1 s) 0 [(0, .ref (gad G 58)), (1, .ref (gad G t1))] [] s := by
  unfold F_MD_passes
  refine VO_const hC d_MD_passes_0 ?_
  refine VO_istore hC d_MD_passes_1 [(0, .ref (gad G 58)), (1, .ref (gad G t1))] rfl (by decide) ?_
  exact VO_sub [1, 2, 0] rfl (B_MD_passes_2 hC h1 (0 : Int32) s)
set_option maxRecDepth 20000 in
theorem M_MD_passes {l : Launch} {D : va_G} {ad : Nat → Nat} {cI cL : ClassId} (hj : Inj ad) {t1 : Nat} (h1 : isIA t1) {s : St} {o : St} (h : F_MD_passes t1 s = some o) : Cn l D ad cI cL y_MD_passes b_MD_passes 3 none 1 [.ref (ad 58), .ref (ad t1)] s none o := by
  refine Cn_ofV hj (plainFor_of_name (by decide)) (Nat.le_of_ble_eq_true rfl) [(0, .ref (ad 58)), (1, .ref (ad t1))] rfl (fun G hC e1 e2 e3 e4 e5 hR => ?_)
  subst e1; subst e2; subst e3; subst e4; subst e5
  exact B_MD_passes hC h1 s o h hR
theorem d_MD_passOne_0 : PLa b_MD_passOne 0 0 1 := Or.inl ⟨0, by decide +kernel, rfl, rfl⟩
theorem d_MD_passOne_1 : DR b_MD_passOne 1 (.getfield 160) 3 4 := ⟨by decide +kernel, rfl⟩
theorem d_MD_passOne_4 : DJ b_MD_passOne 4 (.ifCond .eq) 7 11 := ⟨7, by decide +kernel, rfl, by decide⟩
theorem d_MD_passOne_7 : PLi b_MD_passOne 7 1 8 := Or.inl ⟨1, by decide +kernel, rfl, rfl⟩
theorem d_MD_passOne_8 : DJ b_MD_passOne 8 .goto 11 20 := ⟨12, by decide +kernel, rfl, by decide⟩
theorem d_MD_passOne_11 : PLa b_MD_passOne 11 0 12 := Or.inl ⟨0, by decide +kernel, rfl, rfl⟩
theorem d_MD_passOne_12 : DR b_MD_passOne 12 (.getfield 49) 3 15 := ⟨by decide +kernel, rfl⟩
theorem d_MD_passOne_15 : PLa b_MD_passOne 15 0 16 := Or.inl ⟨0, by decide +kernel, rfl, rfl⟩
theorem d_MD_passOne_16 : DR b_MD_passOne 16 (.getfield 164) 3 19 := ⟨by decide +kernel, rfl⟩
theorem d_MD_passOne_19 : DR b_MD_passOne 19 (.iaload) 1 20 := ⟨by decide +kernel, rfl⟩
theorem d_MD_passOne_20 : PSi b_MD_passOne 20 2 21 := Or.inl ⟨2, by decide +kernel, rfl, rfl⟩
theorem d_MD_passOne_21 : PLa b_MD_passOne 21 0 22 := Or.inl ⟨0, by decide +kernel, rfl, rfl⟩
theorem d_MD_passOne_22 : DR b_MD_passOne 22 (.getfield 160) 3 25 := ⟨by decide +kernel, rfl⟩
theorem d_MD_passOne_25 : DJ b_MD_passOne 25 (.ifCond .eq) 28 38 := ⟨13, by decide +kernel, rfl, by decide⟩
theorem d_MD_passOne_28 : PLa b_MD_passOne 28 0 29 := Or.inl ⟨0, by decide +kernel, rfl, rfl⟩
theorem d_MD_passOne_29 : DR b_MD_passOne 29 (.getfield 49) 3 32 := ⟨by decide +kernel, rfl⟩
theorem d_MD_passOne_32 : PLa b_MD_passOne 32 0 33 := Or.inl ⟨0, by decide +kernel, rfl, rfl⟩
theorem d_MD_passOne_33 : DR b_MD_passOne 33 (.getfield 164) 3 36 := ⟨by decide +kernel, rfl⟩
theorem d_MD_passOne_36 : PLi b_MD_passOne 36 1 37 := Or.inl ⟨1, by decide +kernel, rfl, rfl⟩
theorem d_MD_passOne_37 : DR b_MD_passOne 37 (.iastore) 1 38 := ⟨by decide +kernel, rfl⟩
theorem d_MD_passOne_38 : PLa b_MD_passOne 38 0 39 := Or.inl ⟨0, by decide +kernel, rfl, rfl⟩
theorem d_MD_passOne_39 : DR b_MD_passOne 39 (.dup) 1 40 := ⟨by decide +kernel, rfl⟩
theorem d_MD_passOne_40 : DR b_MD_passOne 40 (.getfield 164) 3 43 := ⟨by decide +kernel, rfl⟩
theorem d_MD_passOne_43 : PCi b_MD_passOne 43 1 44 := Or.inl ⟨1, by decide +kernel, by decide, rfl⟩
theorem d_MD_passOne_44 : DR b_MD_passOne 44 (.iadd) 1 45 := ⟨by decide +kernel, rfl⟩
theorem d_MD_passOne_45 : DR b_MD_passOne 45 (.putfield 164) 3 48 := ⟨by decide +kernel, rfl⟩
theorem d_MD_passOne_48 : PLi b_MD_passOne 48 2 49 := Or.inl ⟨2, by decide +kernel, rfl, rfl⟩
theorem d_MD_passOne_49 : DR b_MD_passOne 49 (.ireturn) 1 50 := ⟨by decide +kernel, rfl⟩
set_option maxRecDepth 20000 in
theorem B_MD_passOne_38 {G : MCx} (hC : C0 G "AccusedChooseModel" b_MD_passOne 3 1) (v2 : Int32) (s : St) : VO G (RI G b_MD_passOne) (F_MD_passOne_38 v2 s) 38 [(0, .ref (gad G 58)), (2, .int v2)] [] s := by
  unfold F_MD_passOne_38
  refine VO_aload hC d_MD_passOne_38 0 rfl ?_
  refine VO_dup hC d_MD_passOne_39 rfl ?_
  refine VO_geti hC fl_MD_164 sh_MD rfl d_MD_passOne_40 ?_
  refine VO_const hC d_MD_passOne_43 ?_
  refine VO_iadd hC d_MD_passOne_44 ?_
  refine VO_puti hC fw_MD_164 sh_MD rfl d_MD_passOne_45 (fun s2 => ?_)
  refine VO_iload hC d_MD_passOne_48 1 rfl ?_
  exact VO_ireturn d_MD_passOne_49
set_option maxRecDepth 20000 in
theorem B_MD_passOne_20 {G : MCx} (hC : C0 G "AccusedChooseModel" b_MD_passOne 3 1) (v1 : Int32) (z0 : Int32) (s : St) : VO G (RI G b_MD_passOne) (F_MD_passOne_20 v1 z0 s) 20 [(0, .ref (gad G 58)), (1, .int v1)] [.int z0] s := by
  unfold F_MD_passOne_20
  refine VO_istore hC d_MD_passOne_20 [(0, .ref (gad G 58)), (1, .int v1)] rfl (by decide) ?_
  refine VO_aload hC d_MD_passOne_21 1 rfl ?_
  refine VO_geti hC fl_MD_160 sh_MD rfl d_MD_passOne_22 ?_
  refine VO_if_eq hC d_MD_passOne_25 (fun _ => ?_) (fun _ => ?_)
  · exact VO_sub [1, 0] rfl (B_MD_passOne_38 hC z0 s)
  · refine VO_aload hC d_MD_passOne_28 1 rfl ?_
    refine VO_getr (r := 72) hC fl_MD_49 sh_MD rfl d_MD_passOne_29 ?_
    refine VO_aload hC d_MD_passOne_32 1 rfl ?_
    refine VO_geti hC fl_MD_164 sh_MD rfl d_MD_passOne_33 ?_
    refine VO_iload hC d_MD_passOne_36 2 rfl ?_
    refine VO_iastore hC ia_72 d_MD_passOne_37 (fun s3 => ?_)
    exact VO_sub [1, 0] rfl (B_MD_passOne_38 hC z0 s3)
set_option maxRecDepth 20000 in
theorem B_MD_passOne {G : MCx} (hC : C0 G "AccusedChooseModel" b_MD_passOne 3 1) (a1 : Int32) (s : St) : VO G (RI G b_MD_passOne) (F_MD_passOne a1 s) 0 [(0, .ref (gad G 58)), (1, .int a1)] [] s := by
  unfold F_MD_passOne
  refine VO_aload hC d_MD_passOne_0 0 rfl ?_
  refine VO_geti hC fl_MD_160 sh_MD rfl d_MD_passOne_1 ?_
  refine VO_if_eq hC d_MD_passOne_4 (fun _ => ?_) (fun _ => ?_)
  · refine VO_aload hC d_MD_passOne_11 0 rfl ?_
    refine VO_getr (r := 72) hC fl_MD_49 sh_MD rfl d_MD_passOne_12 ?_
    refine VO_aload hC d_MD_passOne_15 0 rfl ?_
    refine VO_geti hC fl_MD_164 sh_MD rfl d_MD_passOne_16 ?_
    refine VO_iaload hC ia_72 d_MD_passOne_19 (fun x1 => ?_)
    exact (B_MD_passOne_20 hC a1 x1 s)
  · refine VO_iload hC d_MD_passOne_7 1 rfl ?_
    refine VO_goto hC d_MD_passOne_8 ?_
    exact (B_MD_passOne_20 hC a1 a1 s)
set_option maxRecDepth 20000 in
theorem M_MD_passOne {l : Launch} {D : va_G} {ad : Nat → Nat} {cI cL : ClassId} (hj : Inj ad) {a1 : Int32} {s : St} {o : Int32 × St} (h : F_MD_passOne a1 s = some o) : Cn l D ad cI cL y_MD_passOne b_MD_passOne 3 (some .int) 1 [.ref (ad 58), .int a1] s (some (.int o.1)) o.2 := by
  refine Cn_ofI hj (plainFor_of_name (by decide)) (Nat.le_of_ble_eq_true rfl) [(0, .ref (ad 58)), (1, .int a1)] rfl (fun G hC e1 e2 e3 e4 e5 hR => ?_)
  subst e1; subst e2; subst e3; subst e4; subst e5
  exact B_MD_passOne hC a1 s o h hR
theorem d_MD_passesAll_0 : PLa b_MD_passesAll 0 0 1 := Or.inl ⟨0, by decide +kernel, rfl, rfl⟩
theorem d_MD_passesAll_1 : PCi b_MD_passesAll 1 80 3 := Or.inr (Or.inl ⟨80, by decide +kernel, by decide, rfl⟩)
theorem d_MD_passesAll_3 : PLi b_MD_passesAll 3 1 4 := Or.inl ⟨1, by decide +kernel, rfl, rfl⟩
theorem d_MD_passesAll_4 : DR b_MD_passesAll 4 (.imul) 1 5 := ⟨by decide +kernel, rfl⟩
theorem d_MD_passesAll_5 : DR b_MD_passesAll 5 (.putfield 164) 3 8 := ⟨by decide +kernel, rfl⟩
theorem d_MD_passesAll_8 : PLa b_MD_passesAll 8 0 9 := Or.inl ⟨0, by decide +kernel, rfl, rfl⟩
theorem d_MD_passesAll_9 : PLi b_MD_passesAll 9 2 10 := Or.inl ⟨2, by decide +kernel, rfl, rfl⟩
theorem d_MD_passesAll_10 : DR b_MD_passesAll 10 (.putfield 160) 3 13 := ⟨by decide +kernel, rfl⟩
theorem d_MD_passesAll_13 : PLa b_MD_passesAll 13 0 14 := Or.inl ⟨0, by decide +kernel, rfl, rfl⟩
theorem d_MD_passesAll_14 : PLa b_MD_passesAll 14 0 15 := Or.inl ⟨0, by decide +kernel, rfl, rfl⟩
theorem d_MD_passesAll_15 : DR b_MD_passesAll 15 (.getfield 13) 3 18 := ⟨by decide +kernel, rfl⟩
theorem d_MD_passesAll_18 : DR b_MD_passesAll 18 (.invokevirtual 167) 3 21 := ⟨by decide +kernel, rfl⟩
theorem d_MD_passesAll_21 : PLa b_MD_passesAll 21 0 22 := Or.inl ⟨0, by decide +kernel, rfl, rfl⟩
theorem d_MD_passesAll_22 : PLa b_MD_passesAll 22 0 23 := Or.inl ⟨0, by decide +kernel, rfl, rfl⟩
theorem d_MD_passesAll_23 : DR b_MD_passesAll 23 (.getfield 16) 3 26 := ⟨by decide +kernel, rfl⟩
theorem d_MD_passesAll_26 : DR b_MD_passesAll 26 (.invokevirtual 167) 3 29 := ⟨by decide +kernel, rfl⟩
theorem d_MD_passesAll_29 : PLa b_MD_passesAll 29 0 30 := Or.inl ⟨0, by decide +kernel, rfl, rfl⟩
theorem d_MD_passesAll_30 : PLa b_MD_passesAll 30 0 31 := Or.inl ⟨0, by decide +kernel, rfl, rfl⟩
theorem d_MD_passesAll_31 : DR b_MD_passesAll 31 (.getfield 19) 3 34 := ⟨by decide +kernel, rfl⟩
theorem d_MD_passesAll_34 : DR b_MD_passesAll 34 (.invokevirtual 167) 3 37 := ⟨by decide +kernel, rfl⟩
theorem d_MD_passesAll_37 : PLa b_MD_passesAll 37 0 38 := Or.inl ⟨0, by decide +kernel, rfl, rfl⟩
theorem d_MD_passesAll_38 : PLa b_MD_passesAll 38 0 39 := Or.inl ⟨0, by decide +kernel, rfl, rfl⟩
theorem d_MD_passesAll_39 : DR b_MD_passesAll 39 (.getfield 22) 3 42 := ⟨by decide +kernel, rfl⟩
theorem d_MD_passesAll_42 : DR b_MD_passesAll 42 (.invokevirtual 167) 3 45 := ⟨by decide +kernel, rfl⟩
theorem d_MD_passesAll_45 : PLa b_MD_passesAll 45 0 46 := Or.inl ⟨0, by decide +kernel, rfl, rfl⟩
theorem d_MD_passesAll_46 : PLa b_MD_passesAll 46 0 47 := Or.inl ⟨0, by decide +kernel, rfl, rfl⟩
theorem d_MD_passesAll_47 : DR b_MD_passesAll 47 (.getfield 25) 3 50 := ⟨by decide +kernel, rfl⟩
theorem d_MD_passesAll_50 : DR b_MD_passesAll 50 (.invokevirtual 167) 3 53 := ⟨by decide +kernel, rfl⟩
theorem d_MD_passesAll_53 : PLa b_MD_passesAll 53 0 54 := Or.inl ⟨0, by decide +kernel, rfl, rfl⟩
theorem d_MD_passesAll_54 : PLa b_MD_passesAll 54 0 55 := Or.inl ⟨0, by decide +kernel, rfl, rfl⟩
theorem d_MD_passesAll_55 : DR b_MD_passesAll 55 (.getfield 28) 3 58 := ⟨by decide +kernel, rfl⟩
theorem d_MD_passesAll_58 : DR b_MD_passesAll 58 (.invokevirtual 167) 3 61 := ⟨by decide +kernel, rfl⟩
theorem d_MD_passesAll_61 : PLa b_MD_passesAll 61 0 62 := Or.inl ⟨0, by decide +kernel, rfl, rfl⟩
theorem d_MD_passesAll_62 : PLa b_MD_passesAll 62 0 63 := Or.inl ⟨0, by decide +kernel, rfl, rfl⟩
theorem d_MD_passesAll_63 : DR b_MD_passesAll 63 (.getfield 31) 3 66 := ⟨by decide +kernel, rfl⟩
theorem d_MD_passesAll_66 : DR b_MD_passesAll 66 (.invokevirtual 167) 3 69 := ⟨by decide +kernel, rfl⟩
theorem d_MD_passesAll_69 : PLa b_MD_passesAll 69 0 70 := Or.inl ⟨0, by decide +kernel, rfl, rfl⟩
theorem d_MD_passesAll_70 : PLa b_MD_passesAll 70 0 71 := Or.inl ⟨0, by decide +kernel, rfl, rfl⟩
theorem d_MD_passesAll_71 : DR b_MD_passesAll 71 (.getfield 34) 3 74 := ⟨by decide +kernel, rfl⟩
theorem d_MD_passesAll_74 : DR b_MD_passesAll 74 (.invokevirtual 167) 3 77 := ⟨by decide +kernel, rfl⟩
theorem d_MD_passesAll_77 : PLa b_MD_passesAll 77 0 78 := Or.inl ⟨0, by decide +kernel, rfl, rfl⟩
theorem d_MD_passesAll_78 : PLa b_MD_passesAll 78 0 79 := Or.inl ⟨0, by decide +kernel, rfl, rfl⟩
theorem d_MD_passesAll_79 : PLa b_MD_passesAll 79 0 80 := Or.inl ⟨0, by decide +kernel, rfl, rfl⟩
theorem d_MD_passesAll_80 : DR b_MD_passesAll 80 (.getfield 84) 3 83 := ⟨by decide +kernel, rfl⟩
theorem d_MD_passesAll_83 : DR b_MD_passesAll 83 (.invokevirtual 171) 3 86 := ⟨by decide +kernel, rfl⟩
theorem d_MD_passesAll_86 : DR b_MD_passesAll 86 (.putfield 84) 3 89 := ⟨by decide +kernel, rfl⟩
theorem d_MD_passesAll_89 : PLa b_MD_passesAll 89 0 90 := Or.inl ⟨0, by decide +kernel, rfl, rfl⟩
theorem d_MD_passesAll_90 : PLa b_MD_passesAll 90 0 91 := Or.inl ⟨0, by decide +kernel, rfl, rfl⟩
theorem d_MD_passesAll_91 : PLa b_MD_passesAll 91 0 92 := Or.inl ⟨0, by decide +kernel, rfl, rfl⟩
theorem d_MD_passesAll_92 : DR b_MD_passesAll 92 (.getfield 90) 3 95 := ⟨by decide +kernel, rfl⟩
theorem d_MD_passesAll_95 : DR b_MD_passesAll 95 (.invokevirtual 171) 3 98 := ⟨by decide +kernel, rfl⟩
theorem d_MD_passesAll_98 : DR b_MD_passesAll 98 (.putfield 90) 3 101 := ⟨by decide +kernel, rfl⟩
theorem d_MD_passesAll_101 : DR b_MD_passesAll 101 (.return_) 1 102 := ⟨by decide +kernel, rfl⟩
set_option maxRecDepth 20000 in
theorem B_MD_passesAll {G : MCx} (hC : C0 G "AccusedChooseModel" b_MD_passesAll 3 2) (a1 : Int32) (a2 : Int32) (s : St) : VO G (RV G b_MD_passesAll) (F_MD_passesAll a1 a2 s) 0 [(0, .ref (gad G 58)), (1, .int a1), (2, .int a2)] [] s := by
  unfold F_MD_passesAll
  refine VO_aload hC d_MD_passesAll_0 0 rfl ?_
  refine VO_const hC d_MD_passesAll_1 ?_
  refine VO_iload hC d_MD_passesAll_3 1 rfl ?_
  refine VO_imul hC d_MD_passesAll_4 ?_
  refine VO_puti hC fw_MD_164 sh_MD rfl d_MD_passesAll_5 (fun s1 => ?_)
  refine VO_aload hC d_MD_passesAll_8 0 rfl ?_
  refine VO_iload hC d_MD_passesAll_9 2 rfl ?_
  refine VO_putz hC fw_MD_160 sh_MD rfl d_MD_passesAll_10 (fun s2 => ?_)
  refine VO_aload hC d_MD_passesAll_13 0 rfl ?_
  refine VO_aload hC d_MD_passesAll_14 0 rfl ?_
  refine VO_getr (r := 60) hC fl_MD_13 sh_MD rfl d_MD_passesAll_15 ?_
  refine VO_callVV hC [.ref (gad G 60)] [] ml_MD_167 d_MD_passesAll_18 yv_MD_passes sh_MD rfl rfl (fun o h => M_MD_passes hC.inj ia_60 h) (by decide) rfl rfl (Nat.le_of_ble_eq_true rfl) (fun s3 => ?_)
  refine VO_aload hC d_MD_passesAll_21 0 rfl ?_
  refine VO_aload hC d_MD_passesAll_22 0 rfl ?_
  refine VO_getr (r := 61) hC fl_MD_16 sh_MD rfl d_MD_passesAll_23 ?_
  refine VO_callVV hC [.ref (gad G 61)] [] ml_MD_167 d_MD_passesAll_26 yv_MD_passes sh_MD rfl rfl (fun o h => M_MD_passes hC.inj ia_61 h) (by decide) rfl rfl (Nat.le_of_ble_eq_true rfl) (fun s4 => ?_)
  refine VO_aload hC d_MD_passesAll_29 0 rfl ?_
  refine VO_aload hC d_MD_passesAll_30 0 rfl ?_
  refine VO_getr (r := 62) hC fl_MD_19 sh_MD rfl d_MD_passesAll_31 ?_
  refine VO_callVV hC [.ref (gad G 62)] [] ml_MD_167 d_MD_passesAll_34 yv_MD_passes sh_MD rfl rfl (fun o h => M_MD_passes hC.inj ia_62 h) (by decide) rfl rfl (Nat.le_of_ble_eq_true rfl) (fun s5 => ?_)
  refine VO_aload hC d_MD_passesAll_37 0 rfl ?_
  refine VO_aload hC d_MD_passesAll_38 0 rfl ?_
  refine VO_getr (r := 63) hC fl_MD_22 sh_MD rfl d_MD_passesAll_39 ?_
  refine VO_callVV hC [.ref (gad G 63)] [] ml_MD_167 d_MD_passesAll_42 yv_MD_passes sh_MD rfl rfl (fun o h => M_MD_passes hC.inj ia_63 h) (by decide) rfl rfl (Nat.le_of_ble_eq_true rfl) (fun s6 => ?_)
  refine VO_aload hC d_MD_passesAll_45 0 rfl ?_
  refine VO_aload hC d_MD_passesAll_46 0 rfl ?_
  refine VO_getr (r := 64) hC fl_MD_25 sh_MD rfl d_MD_passesAll_47 ?_
  refine VO_callVV hC [.ref (gad G 64)] [] ml_MD_167 d_MD_passesAll_50 yv_MD_passes sh_MD rfl rfl (fun o h => M_MD_passes hC.inj ia_64 h) (by decide) rfl rfl (Nat.le_of_ble_eq_true rfl) (fun s7 => ?_)
  refine VO_aload hC d_MD_passesAll_53 0 rfl ?_
  refine VO_aload hC d_MD_passesAll_54 0 rfl ?_
  refine VO_getr (r := 65) hC fl_MD_28 sh_MD rfl d_MD_passesAll_55 ?_
  refine VO_callVV hC [.ref (gad G 65)] [] ml_MD_167 d_MD_passesAll_58 yv_MD_passes sh_MD rfl rfl (fun o h => M_MD_passes hC.inj ia_65 h) (by decide) rfl rfl (Nat.le_of_ble_eq_true rfl) (fun s8 => ?_)
  refine VO_aload hC d_MD_passesAll_61 0 rfl ?_
  refine VO_aload hC d_MD_passesAll_62 0 rfl ?_
  refine VO_getr (r := 66) hC fl_MD_31 sh_MD rfl d_MD_passesAll_63 ?_
  refine VO_callVV hC [.ref (gad G 66)] [] ml_MD_167 d_MD_passesAll_66 yv_MD_passes sh_MD rfl rfl (fun o h => M_MD_passes hC.inj ia_66 h) (by decide) rfl rfl (Nat.le_of_ble_eq_true rfl) (fun s9 => ?_)
  refine VO_aload hC d_MD_passesAll_69 0 rfl ?_
  refine VO_aload hC d_MD_passesAll_70 0 rfl ?_
  refine VO_getr (r := 67) hC fl_MD_34 sh_MD rfl d_MD_passesAll_71 ?_
  refine VO_callVV hC [.ref (gad G 67)] [] ml_MD_167 d_MD_passesAll_74 yv_MD_passes sh_MD rfl rfl (fun o h => M_MD_passes hC.inj ia_67 h) (by decide) rfl rfl (Nat.le_of_ble_eq_true rfl) (fun s10 => ?_)
  refine VO_aload hC d_MD_passesAll_77 0 rfl ?_
  refine VO_aload hC d_MD_passesAll_78 0 rfl ?_
  refine VO_aload hC d_MD_passesAll_79 0 rfl ?_
  refine VO_geti hC fl_MD_84 sh_MD rfl d_MD_passesAll_80 ?_
  refine VO_callVI hC [.int (rd s10 58 9)] [.ref (gad G 58)] ml_MD_171 d_MD_passesAll_83 yv_MD_passOne sh_MD rfl rfl (fun o h => M_MD_passOne hC.inj h) (by decide) rfl rfl (Nat.le_of_ble_eq_true rfl) (fun o11 => ?_)
  refine VO_puti hC fw_MD_84 sh_MD rfl d_MD_passesAll_86 (fun s12 => ?_)
  refine VO_aload hC d_MD_passesAll_89 0 rfl ?_
  refine VO_aload hC d_MD_passesAll_90 0 rfl ?_
  refine VO_aload hC d_MD_passesAll_91 0 rfl ?_
  refine VO_geti hC fl_MD_90 sh_MD rfl d_MD_passesAll_92 ?_
  refine VO_callVI hC [.int (rd s12 58 10)] [.ref (gad G 58)] ml_MD_171 d_MD_passesAll_95 yv_MD_passOne sh_MD rfl rfl (fun o h => M_MD_passOne hC.inj h) (by decide) rfl rfl (Nat.le_of_ble_eq_true rfl) (fun o13 => ?_)
  refine VO_puti hC fw_MD_90 sh_MD rfl d_MD_passesAll_98 (fun s14 => ?_)
  exact VO_return d_MD_passesAll_101
set_option maxRecDepth 20000 in
theorem M_MD_passesAll {l : Launch} {D : va_G} {ad : Nat → Nat} {cI cL : ClassId} (hj : Inj ad) {a1 : Int32} {a2 : Int32} {s : St} {o : St} (h : F_MD_passesAll a1 a2 s = some o) : Cn l D ad cI cL y_MD_passesAll b_MD_passesAll 3 none 2 [.ref (ad 58), .int a1, .int a2] s none o := by
  refine Cn_ofV hj (plainFor_of_name (by decide)) (Nat.le_of_ble_eq_true rfl) [(0, .ref (ad 58)), (1, .int a1), (2, .int a2)] rfl (fun G hC e1 e2 e3 e4 e5 hR => ?_)
  subst e1; subst e2; subst e3; subst e4; subst e5
  exact B_MD_passesAll hC a1 a2 s o h hR
theorem d_MD_night_0 : PLa b_MD_night 0 0 1 := Or.inl ⟨0, by decide +kernel, rfl, rfl⟩
theorem d_MD_night_1 : PCi b_MD_night 1 0 2 := Or.inl ⟨0, by decide +kernel, by decide, rfl⟩
theorem d_MD_night_2 : DR b_MD_night 2 (.putfield 108) 3 5 := ⟨by decide +kernel, rfl⟩
theorem d_MD_night_5 : PLa b_MD_night 5 0 6 := Or.inl ⟨0, by decide +kernel, rfl, rfl⟩
theorem d_MD_night_6 : PCi b_MD_night 6 0 7 := Or.inl ⟨0, by decide +kernel, by decide, rfl⟩
theorem d_MD_night_7 : DR b_MD_night 7 (.putfield 119) 3 10 := ⟨by decide +kernel, rfl⟩
theorem d_MD_night_10 : PCi b_MD_night 10 1 11 := Or.inl ⟨1, by decide +kernel, by decide, rfl⟩
theorem d_MD_night_11 : PSi b_MD_night 11 1 12 := Or.inl ⟨1, by decide +kernel, rfl, rfl⟩
theorem d_MD_night_12 : PLi b_MD_night 12 1 13 := Or.inl ⟨1, by decide +kernel, rfl, rfl⟩
theorem d_MD_night_13 : DJ b_MD_night 13 (.ifCond .eq) 16 60 := ⟨47, by decide +kernel, rfl, by decide⟩
theorem d_MD_night_16 : PLa b_MD_night 16 0 17 := Or.inl ⟨0, by decide +kernel, rfl, rfl⟩
theorem d_MD_night_17 : DR b_MD_night 17 (.getfield 108) 3 20 := ⟨by decide +kernel, rfl⟩
theorem d_MD_night_20 : PLa b_MD_night 20 0 21 := Or.inl ⟨0, by decide +kernel, rfl, rfl⟩
theorem d_MD_night_21 : DR b_MD_night 21 (.getfield 101) 3 24 := ⟨by decide +kernel, rfl⟩
theorem d_MD_night_24 : DJ b_MD_night 24 (.if_icmp .lt) 27 34 := ⟨10, by decide +kernel, rfl, by decide⟩
theorem d_MD_night_27 : PLa b_MD_night 27 0 28 := Or.inl ⟨0, by decide +kernel, rfl, rfl⟩
theorem d_MD_night_28 : DR b_MD_night 28 (.getfield 119) 3 31 := ⟨by decide +kernel, rfl⟩
theorem d_MD_night_31 : DJ b_MD_night 31 (.ifCond .ne) 34 60 := ⟨29, by decide +kernel, rfl, by decide⟩
theorem d_MD_night_34 : PLa b_MD_night 34 0 35 := Or.inl ⟨0, by decide +kernel, rfl, rfl⟩
theorem d_MD_night_35 : DR b_MD_night 35 (.invokevirtual 146) 3 38 := ⟨by decide +kernel, rfl⟩
theorem d_MD_night_38 : PSi b_MD_night 38 1 39 := Or.inl ⟨1, by decide +kernel, rfl, rfl⟩
theorem d_MD_night_39 : PLa b_MD_night 39 0 40 := Or.inl ⟨0, by decide +kernel, rfl, rfl⟩
theorem d_MD_night_40 : DR b_MD_night 40 (.dup) 1 41 := ⟨by decide +kernel, rfl⟩
theorem d_MD_night_41 : DR b_MD_night 41 (.getfield 119) 3 44 := ⟨by decide +kernel, rfl⟩
theorem d_MD_night_44 : PLi b_MD_night 44 1 45 := Or.inl ⟨1, by decide +kernel, rfl, rfl⟩
theorem d_MD_night_45 : DJ b_MD_night 45 (.ifCond .eq) 48 52 := ⟨7, by decide +kernel, rfl, by decide⟩
theorem d_MD_night_48 : PCi b_MD_night 48 1 49 := Or.inl ⟨1, by decide +kernel, by decide, rfl⟩
theorem d_MD_night_49 : DJ b_MD_night 49 .goto 52 53 := ⟨4, by decide +kernel, rfl, by decide⟩
theorem d_MD_night_52 : PCi b_MD_night 52 0 53 := Or.inl ⟨0, by decide +kernel, by decide, rfl⟩
theorem d_MD_night_53 : DR b_MD_night 53 (.iadd) 1 54 := ⟨by decide +kernel, rfl⟩
theorem d_MD_night_54 : DR b_MD_night 54 (.putfield 119) 3 57 := ⟨by decide +kernel, rfl⟩
theorem d_MD_night_57 : DJ b_MD_night 57 .goto 60 12 := ⟨-45, by decide +kernel, rfl, by decide⟩
theorem d_MD_night_60 : PLa b_MD_night 60 0 61 := Or.inl ⟨0, by decide +kernel, rfl, rfl⟩
theorem d_MD_night_61 : PCi b_MD_night 61 0 62 := Or.inl ⟨0, by decide +kernel, by decide, rfl⟩
theorem d_MD_night_62 : DR b_MD_night 62 (.putfield 101) 3 65 := ⟨by decide +kernel, rfl⟩
theorem d_MD_night_65 : PLi b_MD_night 65 1 66 := Or.inl ⟨1, by decide +kernel, rfl, rfl⟩
theorem d_MD_night_66 : DJ b_MD_night 66 (.ifCond .ne) 69 78 := ⟨12, by decide +kernel, rfl, by decide⟩
theorem d_MD_night_69 : PCi b_MD_night 69 (-1000) 72 := Or.inr (Or.inr ⟨(-1000), by decide +kernel, by decide, rfl⟩)
theorem d_MD_night_72 : PLa b_MD_night 72 0 73 := Or.inl ⟨0, by decide +kernel, rfl, rfl⟩
theorem d_MD_night_73 : DR b_MD_night 73 (.getfield 108) 3 76 := ⟨by decide +kernel, rfl⟩
theorem d_MD_night_76 : DR b_MD_night 76 (.isub) 1 77 := ⟨by decide +kernel, rfl⟩
theorem d_MD_night_77 : DR b_MD_night 77 (.ireturn) 1 78 := ⟨by decide +kernel, rfl⟩
theorem d_MD_night_78 : PLa b_MD_night 78 0 79 := Or.inl ⟨0, by decide +kernel, rfl, rfl⟩
theorem d_MD_night_79 : PCi b_MD_night 79 1 80 := Or.inl ⟨1, by decide +kernel, by decide, rfl⟩
theorem d_MD_night_80 : PCi b_MD_night 80 1 81 := Or.inl ⟨1, by decide +kernel, by decide, rfl⟩
theorem d_MD_night_81 : DR b_MD_night 81 (.invokevirtual 150) 3 84 := ⟨by decide +kernel, rfl⟩
theorem d_MD_night_84 : PCi b_MD_night 84 0 85 := Or.inl ⟨0, by decide +kernel, by decide, rfl⟩
theorem d_MD_night_85 : PSi b_MD_night 85 2 86 := Or.inl ⟨2, by decide +kernel, rfl, rfl⟩
theorem d_MD_night_86 : PLi b_MD_night 86 2 87 := Or.inl ⟨2, by decide +kernel, rfl, rfl⟩
theorem d_MD_night_87 : PLa b_MD_night 87 0 88 := Or.inl ⟨0, by decide +kernel, rfl, rfl⟩
theorem d_MD_night_88 : DR b_MD_night 88 (.getfield 119) 3 91 := ⟨by decide +kernel, rfl⟩
theorem d_MD_night_91 : DJ b_MD_night 91 (.if_icmp .ge) 94 128 := ⟨37, by decide +kernel, rfl, by decide⟩
theorem d_MD_night_94 : PLa b_MD_night 94 0 95 := Or.inl ⟨0, by decide +kernel, rfl, rfl⟩
theorem d_MD_night_95 : PLi b_MD_night 95 2 96 := Or.inl ⟨2, by decide +kernel, rfl, rfl⟩
theorem d_MD_night_96 : DR b_MD_night 96 (.invokevirtual 154) 3 99 := ⟨by decide +kernel, rfl⟩
theorem d_MD_night_99 : DJ b_MD_night 99 (.ifCond .eq) 102 105 := ⟨6, by decide +kernel, rfl, by decide⟩
theorem d_MD_night_102 : DJ b_MD_night 102 .goto 105 122 := ⟨20, by decide +kernel, rfl, by decide⟩
theorem d_MD_night_105 : PLa b_MD_night 105 0 106 := Or.inl ⟨0, by decide +kernel, rfl, rfl⟩
theorem d_MD_night_106 : PCi b_MD_night 106 1 107 := Or.inl ⟨1, by decide +kernel, by decide, rfl⟩
theorem d_MD_night_107 : PCi b_MD_night 107 0 108 := Or.inl ⟨0, by decide +kernel, by decide, rfl⟩
theorem d_MD_night_108 : DR b_MD_night 108 (.invokevirtual 150) 3 111 := ⟨by decide +kernel, rfl⟩
theorem d_MD_night_111 : PCi b_MD_night 111 (-2000) 114 := Or.inr (Or.inr ⟨(-2000), by decide +kernel, by decide, rfl⟩)
theorem d_MD_night_114 : PLa b_MD_night 114 0 115 := Or.inl ⟨0, by decide +kernel, rfl, rfl⟩
theorem d_MD_night_115 : DR b_MD_night 115 (.getfield 43) 3 118 := ⟨by decide +kernel, rfl⟩
theorem d_MD_night_118 : PLi b_MD_night 118 2 119 := Or.inl ⟨2, by decide +kernel, rfl, rfl⟩
theorem d_MD_night_119 : DR b_MD_night 119 (.iaload) 1 120 := ⟨by decide +kernel, rfl⟩
theorem d_MD_night_120 : DR b_MD_night 120 (.isub) 1 121 := ⟨by decide +kernel, rfl⟩
theorem d_MD_night_121 : DR b_MD_night 121 (.ireturn) 1 122 := ⟨by decide +kernel, rfl⟩
theorem d_MD_night_122 : DR b_MD_night 122 (.iinc 2 1) 3 125 := ⟨by decide +kernel, rfl⟩
theorem d_MD_night_125 : DJ b_MD_night 125 .goto 128 86 := ⟨-39, by decide +kernel, rfl, by decide⟩
theorem d_MD_night_128 : PLa b_MD_night 128 0 129 := Or.inl ⟨0, by decide +kernel, rfl, rfl⟩
theorem d_MD_night_129 : PCi b_MD_night 129 0 130 := Or.inl ⟨0, by decide +kernel, by decide, rfl⟩
theorem d_MD_night_130 : DR b_MD_night 130 (.putfield 157) 3 133 := ⟨by decide +kernel, rfl⟩
theorem d_MD_night_133 : PLa b_MD_night 133 0 134 := Or.inl ⟨0, by decide +kernel, rfl, rfl⟩
theorem d_MD_night_134 : DR b_MD_night 134 (.getfield 119) 3 137 := ⟨by decide +kernel, rfl⟩
theorem d_MD_night_137 : DR b_MD_night 137 (.ireturn) 1 138 := ⟨by decide +kernel, rfl⟩
set_option maxRecDepth 20000 in
theorem BH_MD_night_86 {G : MCx} (hC : C0 G "AccusedChooseModel" b_MD_night 3 4) (K86 : Int32 × St → Option (Int32 × St)) (hK86 : ∀ (w2 : Int32) (s : St), VO G (RI G b_MD_night) (K86 (w2, s)) 86 [(0, .ref (gad G 58)), (2, .int w2)] [] s) (v2 : Int32) (s : St) : VO G (RI G b_MD_night) (H_MD_night_86 K86 v2 s) 86 [(0, .ref (gad G 58)), (2, .int v2)] [] s := by
  unfold H_MD_night_86
  refine VO_iload hC d_MD_night_86 1 rfl ?_
  refine VO_aload hC d_MD_night_87 0 rfl ?_
  refine VO_geti hC fl_MD_119 sh_MD rfl d_MD_night_88 ?_
  refine VO_icmp_ge hC d_MD_night_91 (fun _ => ?_) (fun _ => ?_)
  · refine VO_aload hC d_MD_night_128 0 rfl ?_
    refine VO_const hC d_MD_night_129 ?_
    refine VO_puti hC fw_MD_157 sh_MD rfl d_MD_night_130 (fun s5 => ?_)
    refine VO_aload hC d_MD_night_133 0 rfl ?_
    refine VO_geti hC fl_MD_119 sh_MD rfl d_MD_night_134 ?_
    exact VO_ireturn d_MD_night_137
  · refine VO_aload hC d_MD_night_94 0 rfl ?_
    refine VO_iload hC d_MD_night_95 1 rfl ?_
    refine VO_callVI hC [.int v2] [] ml_MD_154 d_MD_night_96 yv_MD_comes sh_MD rfl rfl (fun o h => M_MD_comes hC.inj h) (by decide) rfl rfl (Nat.le_of_ble_eq_true rfl) (fun o6 => ?_)
    refine VO_if_eq hC d_MD_night_99 (fun _ => ?_) (fun _ => ?_)
    · refine VO_aload hC d_MD_night_105 0 rfl ?_
      refine VO_const hC d_MD_night_106 ?_
      refine VO_const hC d_MD_night_107 ?_
      refine VO_callVV hC [.int (1 : Int32), .int (0 : Int32)] [] ml_MD_150 d_MD_night_108 yv_MD_passesAll sh_MD rfl rfl (fun o h => M_MD_passesAll hC.inj h) (by decide) rfl rfl (Nat.le_of_ble_eq_true rfl) (fun s7 => ?_)
      refine VO_const hC d_MD_night_111 ?_
      refine VO_aload hC d_MD_night_114 0 rfl ?_
      refine VO_getr (r := 70) hC fl_MD_43 sh_MD rfl d_MD_night_115 ?_
      refine VO_iload hC d_MD_night_118 1 rfl ?_
      refine VO_iaload hC ia_70 d_MD_night_119 (fun x8 => ?_)
      refine VO_isub hC d_MD_night_120 ?_
      exact VO_ireturn d_MD_night_121
    · refine VO_goto hC d_MD_night_102 ?_
      refine VO_iinc hC d_MD_night_122 1 rfl (by decide : Int32.ofInt 1 = 1) [(0, .ref (gad G 58))] rfl (by decide) ?_
      refine VO_goto hC d_MD_night_125 ?_
      exact VO_sub [1, 0] rfl (hK86 (v2 + 1) o6.2)
set_option maxRecDepth 20000 in
theorem B_MD_night_86 {G : MCx} (hC : C0 G "AccusedChooseModel" b_MD_night 3 4) (v2 : Int32) (s : St) : VO G (RI G b_MD_night) (F_MD_night_86 v2 s) 86 [(0, .ref (gad G 58)), (2, .int v2)] [] s := by
  exact VO_fix (G_MD_night_86) 86 (fun q => [(0, .ref (gad G 58)), (2, .int q.1)]) (fun q => q.2) (fun K hK q => BH_MD_night_86 hC K (fun w2 s => hK (w2, s)) q.1 q.2) FUEL (v2, s)
set_option maxRecDepth 20000 in
theorem B_MD_night_60 {G : MCx} (hC : C0 G "AccusedChooseModel" b_MD_night 3 4) (v1 : Int32) (s : St) : VO G (RI G b_MD_night) (F_MD_night_60 v1 s) 60 [(0, .ref (gad G 58)), (1, .int v1)] [] s := by
  unfold F_MD_night_60
  refine VO_aload hC d_MD_night_60 0 rfl ?_
  refine VO_const hC d_MD_night_61 ?_
  refine VO_puti hC fw_MD_101 sh_MD rfl d_MD_night_62 (fun s3 => ?_)
  refine VO_iload hC d_MD_night_65 1 rfl ?_
  refine VO_if_ne hC d_MD_night_66 (fun _ => ?_) (fun _ => ?_)
  · refine VO_const hC d_MD_night_69 ?_
    refine VO_aload hC d_MD_night_72 0 rfl ?_
    refine VO_geti hC fl_MD_108 sh_MD rfl d_MD_night_73 ?_
    refine VO_isub hC d_MD_night_76 ?_
    exact VO_ireturn d_MD_night_77
  · refine VO_aload hC d_MD_night_78 0 rfl ?_
    refine VO_const hC d_MD_night_79 ?_
    refine VO_const hC d_MD_night_80 ?_
    refine VO_callVV hC [.int (1 : Int32), .int (1 : Int32)] [] ml_MD_150 d_MD_night_81 yv_MD_passesAll sh_MD rfl rfl (fun o h => M_MD_passesAll hC.inj h) (by decide) rfl rfl (Nat.le_of_ble_eq_true rfl) (fun s4 => ?_)
    refine VO_const hC d_MD_night_84 ?_
    refine VO_istore hC d_MD_night_85 [(0, .ref (gad G 58)), (1, .int v1)] rfl (by decide) ?_
    exact VO_sub [1, 0] rfl (B_MD_night_86 hC (0 : Int32) s4)
set_option maxRecDepth 20000 in
theorem B_MD_night_53 {G : MCx} (hC : C0 G "AccusedChooseModel" b_MD_night 3 4) (K12 : Int32 × St → Option (Int32 × St)) (hK12 : ∀ (w1 : Int32) (s : St), VO G (RI G b_MD_night) (K12 (w1, s)) 12 [(0, .ref (gad G 58)), (1, .int w1)] [] s) (v1 : Int32) (z0 : Int32) (z1 : Int32) (s : St) : VO G (RI G b_MD_night) (F_MD_night_53 K12 v1 z0 z1 s) 53 [(0, .ref (gad G 58)), (1, .int v1)] [.int z0, .int z1, .ref (gad G 58)] s := by
  unfold F_MD_night_53
  refine VO_iadd hC d_MD_night_53 ?_
  refine VO_puti hC fw_MD_119 sh_MD rfl d_MD_night_54 (fun s10 => ?_)
  refine VO_goto hC d_MD_night_57 ?_
  exact (hK12 v1 s10)
set_option maxRecDepth 20000 in
theorem B_MD_night_34 {G : MCx} (hC : C0 G "AccusedChooseModel" b_MD_night 3 4) (K12 : Int32 × St → Option (Int32 × St)) (hK12 : ∀ (w1 : Int32) (s : St), VO G (RI G b_MD_night) (K12 (w1, s)) 12 [(0, .ref (gad G 58)), (1, .int w1)] [] s) (s : St) : VO G (RI G b_MD_night) (F_MD_night_34 K12 s) 34 [(0, .ref (gad G 58))] [] s := by
  unfold F_MD_night_34
  refine VO_aload hC d_MD_night_34 0 rfl ?_
  refine VO_callVI hC [] [] ml_MD_146 d_MD_night_35 yv_MD_statement sh_MD rfl rfl (fun o h => M_MD_statement hC.inj h) (by decide) rfl rfl (Nat.le_of_ble_eq_true rfl) (fun o9 => ?_)
  refine VO_istore hC d_MD_night_38 [(0, .ref (gad G 58))] rfl (by decide) ?_
  refine VO_aload hC d_MD_night_39 1 rfl ?_
  refine VO_dup hC d_MD_night_40 rfl ?_
  refine VO_geti hC fl_MD_119 sh_MD rfl d_MD_night_41 ?_
  refine VO_iload hC d_MD_night_44 0 rfl ?_
  refine VO_if_eq hC d_MD_night_45 (fun _ => ?_) (fun _ => ?_)
  · refine VO_const hC d_MD_night_52 ?_
    exact VO_sub [1, 0] rfl (B_MD_night_53 hC K12 hK12 o9.1 (0 : Int32) (rd o9.2 58 17) o9.2)
  · refine VO_const hC d_MD_night_48 ?_
    refine VO_goto hC d_MD_night_49 ?_
    exact VO_sub [1, 0] rfl (B_MD_night_53 hC K12 hK12 o9.1 (1 : Int32) (rd o9.2 58 17) o9.2)
set_option maxRecDepth 20000 in
theorem BH_MD_night_12 {G : MCx} (hC : C0 G "AccusedChooseModel" b_MD_night 3 4) (K12 : Int32 × St → Option (Int32 × St)) (hK12 : ∀ (w1 : Int32) (s : St), VO G (RI G b_MD_night) (K12 (w1, s)) 12 [(0, .ref (gad G 58)), (1, .int w1)] [] s) (v1 : Int32) (s : St) : VO G (RI G b_MD_night) (H_MD_night_12 K12 v1 s) 12 [(0, .ref (gad G 58)), (1, .int v1)] [] s := by
  unfold H_MD_night_12
  refine VO_iload hC d_MD_night_12 1 rfl ?_
  refine VO_if_eq hC d_MD_night_13 (fun _ => ?_) (fun _ => ?_)
  · exact (B_MD_night_60 hC v1 s)
  · refine VO_aload hC d_MD_night_16 0 rfl ?_
    refine VO_geti hC fl_MD_108 sh_MD rfl d_MD_night_17 ?_
    refine VO_aload hC d_MD_night_20 0 rfl ?_
    refine VO_geti hC fl_MD_101 sh_MD rfl d_MD_night_21 ?_
    refine VO_icmp_lt hC d_MD_night_24 (fun _ => ?_) (fun _ => ?_)
    · exact VO_sub [0] rfl (B_MD_night_34 hC K12 hK12 s)
    · refine VO_aload hC d_MD_night_27 0 rfl ?_
      refine VO_geti hC fl_MD_119 sh_MD rfl d_MD_night_28 ?_
      refine VO_if_ne hC d_MD_night_31 (fun _ => ?_) (fun _ => ?_)
      · exact VO_sub [0] rfl (B_MD_night_34 hC K12 hK12 s)
      · exact (B_MD_night_60 hC v1 s)
set_option maxRecDepth 20000 in
theorem B_MD_night_12 {G : MCx} (hC : C0 G "AccusedChooseModel" b_MD_night 3 4) (v1 : Int32) (s : St) : VO G (RI G b_MD_night) (F_MD_night_12 v1 s) 12 [(0, .ref (gad G 58)), (1, .int v1)] [] s := by
  exact VO_fix (G_MD_night_12) 12 (fun q => [(0, .ref (gad G 58)), (1, .int q.1)]) (fun q => q.2) (fun K hK q => BH_MD_night_12 hC K (fun w1 s => hK (w1, s)) q.1 q.2) FUEL (v1, s)
set_option maxRecDepth 20000 in
theorem B_MD_night {G : MCx} (hC : C0 G "AccusedChooseModel" b_MD_night 3 4) (s : St) : VO G (RI G b_MD_night) (F_MD_night s) 0 [(0, .ref (gad G 58))] [] s := by
  unfold F_MD_night
  refine VO_aload hC d_MD_night_0 0 rfl ?_
  refine VO_const hC d_MD_night_1 ?_
  refine VO_puti hC fw_MD_108 sh_MD rfl d_MD_night_2 (fun s1 => ?_)
  refine VO_aload hC d_MD_night_5 0 rfl ?_
  refine VO_const hC d_MD_night_6 ?_
  refine VO_puti hC fw_MD_119 sh_MD rfl d_MD_night_7 (fun s2 => ?_)
  refine VO_const hC d_MD_night_10 ?_
  refine VO_istore hC d_MD_night_11 [(0, .ref (gad G 58))] rfl (by decide) ?_
  exact VO_sub [1, 0] rfl (B_MD_night_12 hC (1 : Int32) s2)
set_option maxRecDepth 20000 in
theorem M_MD_night {l : Launch} {D : va_G} {ad : Nat → Nat} {cI cL : ClassId} (hj : Inj ad) {s : St} {o : Int32 × St} (h : F_MD_night s = some o) : Cn l D ad cI cL y_MD_night b_MD_night 3 (some .int) 4 [.ref (ad 58)] s (some (.int o.1)) o.2 := by
  refine Cn_ofI hj (plainFor_of_name (by decide)) (Nat.le_of_ble_eq_true rfl) [(0, .ref (ad 58))] rfl (fun G hC e1 e2 e3 e4 e5 hR => ?_)
  subst e1; subst e2; subst e3; subst e4; subst e5
  exact B_MD_night hC s o h hR
theorem d_MD_keepsBack_0 : PLa b_MD_keepsBack 0 0 1 := Or.inl ⟨0, by decide +kernel, rfl, rfl⟩
theorem d_MD_keepsBack_1 : DR b_MD_keepsBack 1 (.getfield 157) 3 4 := ⟨by decide +kernel, rfl⟩
theorem d_MD_keepsBack_4 : PCi b_MD_keepsBack 4 8 6 := Or.inr (Or.inl ⟨8, by decide +kernel, by decide, rfl⟩)
theorem d_MD_keepsBack_6 : DJ b_MD_keepsBack 6 (.if_icmp .ne) 9 51 := ⟨45, by decide +kernel, rfl, by decide⟩
theorem d_MD_keepsBack_9 : PCi b_MD_keepsBack 9 160 12 := Or.inr (Or.inr ⟨160, by decide +kernel, by decide, rfl⟩)
theorem d_MD_keepsBack_12 : PSi b_MD_keepsBack 12 1 13 := Or.inl ⟨1, by decide +kernel, rfl, rfl⟩
theorem d_MD_keepsBack_13 : PLi b_MD_keepsBack 13 1 14 := Or.inl ⟨1, by decide +kernel, rfl, rfl⟩
theorem d_MD_keepsBack_14 : PCi b_MD_keepsBack 14 720 17 := Or.inr (Or.inr ⟨720, by decide +kernel, by decide, rfl⟩)
theorem d_MD_keepsBack_17 : DJ b_MD_keepsBack 17 (.if_icmp .ge) 20 41 := ⟨24, by decide +kernel, rfl, by decide⟩
theorem d_MD_keepsBack_20 : PLa b_MD_keepsBack 20 0 21 := Or.inl ⟨0, by decide +kernel, rfl, rfl⟩
theorem d_MD_keepsBack_21 : DR b_MD_keepsBack 21 (.getfield 49) 3 24 := ⟨by decide +kernel, rfl⟩
theorem d_MD_keepsBack_24 : PLi b_MD_keepsBack 24 1 25 := Or.inl ⟨1, by decide +kernel, rfl, rfl⟩
theorem d_MD_keepsBack_25 : PLa b_MD_keepsBack 25 0 26 := Or.inl ⟨0, by decide +kernel, rfl, rfl⟩
theorem d_MD_keepsBack_26 : DR b_MD_keepsBack 26 (.getfield 49) 3 29 := ⟨by decide +kernel, rfl⟩
theorem d_MD_keepsBack_29 : PLi b_MD_keepsBack 29 1 30 := Or.inl ⟨1, by decide +kernel, rfl, rfl⟩
theorem d_MD_keepsBack_30 : PCi b_MD_keepsBack 30 80 32 := Or.inr (Or.inl ⟨80, by decide +kernel, by decide, rfl⟩)
theorem d_MD_keepsBack_32 : DR b_MD_keepsBack 32 (.iadd) 1 33 := ⟨by decide +kernel, rfl⟩
theorem d_MD_keepsBack_33 : DR b_MD_keepsBack 33 (.iaload) 1 34 := ⟨by decide +kernel, rfl⟩
theorem d_MD_keepsBack_34 : DR b_MD_keepsBack 34 (.iastore) 1 35 := ⟨by decide +kernel, rfl⟩
theorem d_MD_keepsBack_35 : DR b_MD_keepsBack 35 (.iinc 1 1) 3 38 := ⟨by decide +kernel, rfl⟩
theorem d_MD_keepsBack_38 : DJ b_MD_keepsBack 38 .goto 41 13 := ⟨-25, by decide +kernel, rfl, by decide⟩
theorem d_MD_keepsBack_41 : PLa b_MD_keepsBack 41 0 42 := Or.inl ⟨0, by decide +kernel, rfl, rfl⟩
theorem d_MD_keepsBack_42 : DR b_MD_keepsBack 42 (.dup) 1 43 := ⟨by decide +kernel, rfl⟩
theorem d_MD_keepsBack_43 : DR b_MD_keepsBack 43 (.getfield 157) 3 46 := ⟨by decide +kernel, rfl⟩
theorem d_MD_keepsBack_46 : PCi b_MD_keepsBack 46 1 47 := Or.inl ⟨1, by decide +kernel, by decide, rfl⟩
theorem d_MD_keepsBack_47 : DR b_MD_keepsBack 47 (.isub) 1 48 := ⟨by decide +kernel, rfl⟩
theorem d_MD_keepsBack_48 : DR b_MD_keepsBack 48 (.putfield 157) 3 51 := ⟨by decide +kernel, rfl⟩
theorem d_MD_keepsBack_51 : PLa b_MD_keepsBack 51 0 52 := Or.inl ⟨0, by decide +kernel, rfl, rfl⟩
theorem d_MD_keepsBack_52 : PCi b_MD_keepsBack 52 2 53 := Or.inl ⟨2, by decide +kernel, by decide, rfl⟩
theorem d_MD_keepsBack_53 : PLa b_MD_keepsBack 53 0 54 := Or.inl ⟨0, by decide +kernel, rfl, rfl⟩
theorem d_MD_keepsBack_54 : DR b_MD_keepsBack 54 (.getfield 157) 3 57 := ⟨by decide +kernel, rfl⟩
theorem d_MD_keepsBack_57 : DR b_MD_keepsBack 57 (.iadd) 1 58 := ⟨by decide +kernel, rfl⟩
theorem d_MD_keepsBack_58 : PCi b_MD_keepsBack 58 1 59 := Or.inl ⟨1, by decide +kernel, by decide, rfl⟩
theorem d_MD_keepsBack_59 : DR b_MD_keepsBack 59 (.invokevirtual 150) 3 62 := ⟨by decide +kernel, rfl⟩
theorem d_MD_keepsBack_62 : PLa b_MD_keepsBack 62 0 63 := Or.inl ⟨0, by decide +kernel, rfl, rfl⟩
theorem d_MD_keepsBack_63 : DR b_MD_keepsBack 63 (.dup) 1 64 := ⟨by decide +kernel, rfl⟩
theorem d_MD_keepsBack_64 : DR b_MD_keepsBack 64 (.getfield 157) 3 67 := ⟨by decide +kernel, rfl⟩
theorem d_MD_keepsBack_67 : PCi b_MD_keepsBack 67 1 68 := Or.inl ⟨1, by decide +kernel, by decide, rfl⟩
theorem d_MD_keepsBack_68 : DR b_MD_keepsBack 68 (.iadd) 1 69 := ⟨by decide +kernel, rfl⟩
theorem d_MD_keepsBack_69 : DR b_MD_keepsBack 69 (.putfield 157) 3 72 := ⟨by decide +kernel, rfl⟩
theorem d_MD_keepsBack_72 : DR b_MD_keepsBack 72 (.return_) 1 73 := ⟨by decide +kernel, rfl⟩
set_option maxRecDepth 20000 in
theorem B_MD_keepsBack_51 {G : MCx} (hC : C0 G "AccusedChooseModel" b_MD_keepsBack 2 3) (s : St) : VO G (RV G b_MD_keepsBack) (F_MD_keepsBack_51 s) 51 [(0, .ref (gad G 58))] [] s := by
  unfold F_MD_keepsBack_51
  refine VO_aload hC d_MD_keepsBack_51 0 rfl ?_
  refine VO_const hC d_MD_keepsBack_52 ?_
  refine VO_aload hC d_MD_keepsBack_53 0 rfl ?_
  refine VO_geti hC fl_MD_157 sh_MD rfl d_MD_keepsBack_54 ?_
  refine VO_iadd hC d_MD_keepsBack_57 ?_
  refine VO_const hC d_MD_keepsBack_58 ?_
  refine VO_callVV hC [.int ((2 : Int32) + (rd s 58 22)), .int (1 : Int32)] [] ml_MD_150 d_MD_keepsBack_59 yv_MD_passesAll sh_MD rfl rfl (fun o h => M_MD_passesAll hC.inj h) (by decide) rfl rfl (Nat.le_of_ble_eq_true rfl) (fun s1 => ?_)
  refine VO_aload hC d_MD_keepsBack_62 0 rfl ?_
  refine VO_dup hC d_MD_keepsBack_63 rfl ?_
  refine VO_geti hC fl_MD_157 sh_MD rfl d_MD_keepsBack_64 ?_
  refine VO_const hC d_MD_keepsBack_67 ?_
  refine VO_iadd hC d_MD_keepsBack_68 ?_
  refine VO_puti hC fw_MD_157 sh_MD rfl d_MD_keepsBack_69 (fun s2 => ?_)
  exact VO_return d_MD_keepsBack_72
set_option maxRecDepth 20000 in
theorem BH_MD_keepsBack_13 {G : MCx} (hC : C0 G "AccusedChooseModel" b_MD_keepsBack 2 3) (K13 : Int32 × St → Option (St)) (hK13 : ∀ (w1 : Int32) (s : St), VO G (RV G b_MD_keepsBack) (K13 (w1, s)) 13 [(0, .ref (gad G 58)), (1, .int w1)] [] s) (v1 : Int32) (s : St) : VO G (RV G b_MD_keepsBack) (H_MD_keepsBack_13 K13 v1 s) 13 [(0, .ref (gad G 58)), (1, .int v1)] [] s := by
  unfold H_MD_keepsBack_13
  refine VO_iload hC d_MD_keepsBack_13 1 rfl ?_
  refine VO_const hC d_MD_keepsBack_14 ?_
  refine VO_icmp_ge hC d_MD_keepsBack_17 (fun _ => ?_) (fun _ => ?_)
  · refine VO_aload hC d_MD_keepsBack_41 0 rfl ?_
    refine VO_dup hC d_MD_keepsBack_42 rfl ?_
    refine VO_geti hC fl_MD_157 sh_MD rfl d_MD_keepsBack_43 ?_
    refine VO_const hC d_MD_keepsBack_46 ?_
    refine VO_isub hC d_MD_keepsBack_47 ?_
    refine VO_puti hC fw_MD_157 sh_MD rfl d_MD_keepsBack_48 (fun s3 => ?_)
    exact VO_sub [0] rfl (B_MD_keepsBack_51 hC s3)
  · refine VO_aload hC d_MD_keepsBack_20 0 rfl ?_
    refine VO_getr (r := 72) hC fl_MD_49 sh_MD rfl d_MD_keepsBack_21 ?_
    refine VO_iload hC d_MD_keepsBack_24 1 rfl ?_
    refine VO_aload hC d_MD_keepsBack_25 0 rfl ?_
    refine VO_getr (r := 72) hC fl_MD_49 sh_MD rfl d_MD_keepsBack_26 ?_
    refine VO_iload hC d_MD_keepsBack_29 1 rfl ?_
    refine VO_const hC d_MD_keepsBack_30 ?_
    refine VO_iadd hC d_MD_keepsBack_32 ?_
    refine VO_iaload hC ia_72 d_MD_keepsBack_33 (fun x4 => ?_)
    refine VO_iastore hC ia_72 d_MD_keepsBack_34 (fun s5 => ?_)
    refine VO_iinc hC d_MD_keepsBack_35 1 rfl (by decide : Int32.ofInt 1 = 1) [(0, .ref (gad G 58))] rfl (by decide) ?_
    refine VO_goto hC d_MD_keepsBack_38 ?_
    exact VO_sub [1, 0] rfl (hK13 (v1 + 1) s5)
set_option maxRecDepth 20000 in
theorem B_MD_keepsBack_13 {G : MCx} (hC : C0 G "AccusedChooseModel" b_MD_keepsBack 2 3) (v1 : Int32) (s : St) : VO G (RV G b_MD_keepsBack) (F_MD_keepsBack_13 v1 s) 13 [(0, .ref (gad G 58)), (1, .int v1)] [] s := by
  exact VO_fix (G_MD_keepsBack_13) 13 (fun q => [(0, .ref (gad G 58)), (1, .int q.1)]) (fun q => q.2) (fun K hK q => BH_MD_keepsBack_13 hC K (fun w1 s => hK (w1, s)) q.1 q.2) FUEL (v1, s)
set_option maxRecDepth 20000 in
theorem B_MD_keepsBack {G : MCx} (hC : C0 G "AccusedChooseModel" b_MD_keepsBack 2 3) (s : St) : VO G (RV G b_MD_keepsBack) (F_MD_keepsBack s) 0 [(0, .ref (gad G 58))] [] s := by
  unfold F_MD_keepsBack
  refine VO_aload hC d_MD_keepsBack_0 0 rfl ?_
  refine VO_geti hC fl_MD_157 sh_MD rfl d_MD_keepsBack_1 ?_
  refine VO_const hC d_MD_keepsBack_4 ?_
  refine VO_icmp_ne hC d_MD_keepsBack_6 (fun _ => ?_) (fun _ => ?_)
  · refine VO_const hC d_MD_keepsBack_9 ?_
    refine VO_istore hC d_MD_keepsBack_12 [(0, .ref (gad G 58))] rfl (by decide) ?_
    exact VO_sub [1, 0] rfl (B_MD_keepsBack_13 hC (160 : Int32) s)
  · exact (B_MD_keepsBack_51 hC s)
set_option maxRecDepth 20000 in
theorem M_MD_keepsBack {l : Launch} {D : va_G} {ad : Nat → Nat} {cI cL : ClassId} (hj : Inj ad) {s : St} {o : St} (h : F_MD_keepsBack s = some o) : Cn l D ad cI cL y_MD_keepsBack b_MD_keepsBack 2 none 3 [.ref (ad 58)] s none o := by
  refine Cn_ofV hj (plainFor_of_name (by decide)) (Nat.le_of_ble_eq_true rfl) [(0, .ref (ad 58))] rfl (fun G hC e1 e2 e3 e4 e5 hR => ?_)
  subst e1; subst e2; subst e3; subst e4; subst e5
  exact B_MD_keepsBack hC s o h hR
theorem d_MD_back_0 : PLa b_MD_back 0 0 1 := Or.inl ⟨0, by decide +kernel, rfl, rfl⟩
theorem d_MD_back_1 : DR b_MD_back 1 (.getfield 157) 3 4 := ⟨by decide +kernel, rfl⟩
theorem d_MD_back_4 : DJ b_MD_back 4 (.ifCond .ne) 7 14 := ⟨10, by decide +kernel, rfl, by decide⟩
theorem d_MD_back_7 : PLa b_MD_back 7 0 8 := Or.inl ⟨0, by decide +kernel, rfl, rfl⟩
theorem d_MD_back_8 : PCi b_MD_back 8 (-3) 10 := Or.inr (Or.inl ⟨(-3), by decide +kernel, by decide, rfl⟩)
theorem d_MD_back_10 : DR b_MD_back 10 (.invokevirtual 104) 3 13 := ⟨by decide +kernel, rfl⟩
theorem d_MD_back_13 : DR b_MD_back 13 (.ireturn) 1 14 := ⟨by decide +kernel, rfl⟩
theorem d_MD_back_14 : PLa b_MD_back 14 0 15 := Or.inl ⟨0, by decide +kernel, rfl, rfl⟩
theorem d_MD_back_15 : DR b_MD_back 15 (.dup) 1 16 := ⟨by decide +kernel, rfl⟩
theorem d_MD_back_16 : DR b_MD_back 16 (.getfield 157) 3 19 := ⟨by decide +kernel, rfl⟩
theorem d_MD_back_19 : PCi b_MD_back 19 1 20 := Or.inl ⟨1, by decide +kernel, by decide, rfl⟩
theorem d_MD_back_20 : DR b_MD_back 20 (.isub) 1 21 := ⟨by decide +kernel, rfl⟩
theorem d_MD_back_21 : DR b_MD_back 21 (.putfield 157) 3 24 := ⟨by decide +kernel, rfl⟩
theorem d_MD_back_24 : PLa b_MD_back 24 0 25 := Or.inl ⟨0, by decide +kernel, rfl, rfl⟩
theorem d_MD_back_25 : PCi b_MD_back 25 2 26 := Or.inl ⟨2, by decide +kernel, by decide, rfl⟩
theorem d_MD_back_26 : PLa b_MD_back 26 0 27 := Or.inl ⟨0, by decide +kernel, rfl, rfl⟩
theorem d_MD_back_27 : DR b_MD_back 27 (.getfield 157) 3 30 := ⟨by decide +kernel, rfl⟩
theorem d_MD_back_30 : DR b_MD_back 30 (.iadd) 1 31 := ⟨by decide +kernel, rfl⟩
theorem d_MD_back_31 : PCi b_MD_back 31 0 32 := Or.inl ⟨0, by decide +kernel, by decide, rfl⟩
theorem d_MD_back_32 : DR b_MD_back 32 (.invokevirtual 150) 3 35 := ⟨by decide +kernel, rfl⟩
theorem d_MD_back_35 : PLa b_MD_back 35 0 36 := Or.inl ⟨0, by decide +kernel, rfl, rfl⟩
theorem d_MD_back_36 : DR b_MD_back 36 (.getfield 157) 3 39 := ⟨by decide +kernel, rfl⟩
theorem d_MD_back_39 : DR b_MD_back 39 (.ireturn) 1 40 := ⟨by decide +kernel, rfl⟩
set_option maxRecDepth 20000 in
theorem B_MD_back {G : MCx} (hC : C0 G "AccusedChooseModel" b_MD_back 1 3) (s : St) : VO G (RI G b_MD_back) (F_MD_back s) 0 [(0, .ref (gad G 58))] [] s := by
  unfold F_MD_back
  refine VO_aload hC d_MD_back_0 0 rfl ?_
  refine VO_geti hC fl_MD_157 sh_MD rfl d_MD_back_1 ?_
  refine VO_if_ne hC d_MD_back_4 (fun _ => ?_) (fun _ => ?_)
  · refine VO_aload hC d_MD_back_7 0 rfl ?_
    refine VO_const hC d_MD_back_8 ?_
    refine VO_callVI hC [.int (-3 : Int32)] [] ml_MD_104 d_MD_back_10 yv_MD_no sh_MD rfl rfl (fun o h => M_MD_no hC.inj h) (by decide) rfl rfl (Nat.le_of_ble_eq_true rfl) (fun o3 => ?_)
    exact VO_ireturn d_MD_back_13
  · refine VO_aload hC d_MD_back_14 0 rfl ?_
    refine VO_dup hC d_MD_back_15 rfl ?_
    refine VO_geti hC fl_MD_157 sh_MD rfl d_MD_back_16 ?_
    refine VO_const hC d_MD_back_19 ?_
    refine VO_isub hC d_MD_back_20 ?_
    refine VO_puti hC fw_MD_157 sh_MD rfl d_MD_back_21 (fun s1 => ?_)
    refine VO_aload hC d_MD_back_24 0 rfl ?_
    refine VO_const hC d_MD_back_25 ?_
    refine VO_aload hC d_MD_back_26 0 rfl ?_
    refine VO_geti hC fl_MD_157 sh_MD rfl d_MD_back_27 ?_
    refine VO_iadd hC d_MD_back_30 ?_
    refine VO_const hC d_MD_back_31 ?_
    refine VO_callVV hC [.int ((2 : Int32) + (rd s1 58 22)), .int (0 : Int32)] [] ml_MD_150 d_MD_back_32 yv_MD_passesAll sh_MD rfl rfl (fun o h => M_MD_passesAll hC.inj h) (by decide) rfl rfl (Nat.le_of_ble_eq_true rfl) (fun s2 => ?_)
    refine VO_aload hC d_MD_back_35 0 rfl ?_
    refine VO_geti hC fl_MD_157 sh_MD rfl d_MD_back_36 ?_
    exact VO_ireturn d_MD_back_39
set_option maxRecDepth 20000 in
theorem M_MD_back {l : Launch} {D : va_G} {ad : Nat → Nat} {cI cL : ClassId} (hj : Inj ad) {s : St} {o : Int32 × St} (h : F_MD_back s = some o) : Cn l D ad cI cL y_MD_back b_MD_back 1 (some .int) 3 [.ref (ad 58)] s (some (.int o.1)) o.2 := by
  refine Cn_ofI hj (plainFor_of_name (by decide)) (Nat.le_of_ble_eq_true rfl) [(0, .ref (ad 58))] rfl (fun G hC e1 e2 e3 e4 e5 hR => ?_)
  subst e1; subst e2; subst e3; subst e4; subst e5
  exact B_MD_back hC s o h hR
theorem d_MD_image_0 : PLa b_MD_image 0 0 1 := Or.inl ⟨0, by decide +kernel, rfl, rfl⟩
theorem d_MD_image_1 : PCi b_MD_image 1 1 2 := Or.inl ⟨1, by decide +kernel, by decide, rfl⟩
theorem d_MD_image_2 : DR b_MD_image 2 (.putfield 174) 3 5 := ⟨by decide +kernel, rfl⟩
theorem d_MD_image_5 : PLa b_MD_image 5 0 6 := Or.inl ⟨0, by decide +kernel, rfl, rfl⟩
theorem d_MD_image_6 : PCi b_MD_image 6 0 7 := Or.inl ⟨0, by decide +kernel, by decide, rfl⟩
theorem d_MD_image_7 : PCi b_MD_image 7 1 8 := Or.inl ⟨1, by decide +kernel, by decide, rfl⟩
theorem d_MD_image_8 : DR b_MD_image 8 (.invokevirtual 150) 3 11 := ⟨by decide +kernel, rfl⟩
theorem d_MD_image_11 : PLa b_MD_image 11 0 12 := Or.inl ⟨0, by decide +kernel, rfl, rfl⟩
theorem d_MD_image_12 : DR b_MD_image 12 (.getfield 90) 3 15 := ⟨by decide +kernel, rfl⟩
theorem d_MD_image_15 : DR b_MD_image 15 (.ireturn) 1 16 := ⟨by decide +kernel, rfl⟩
set_option maxRecDepth 20000 in
theorem B_MD_image {G : MCx} (hC : C0 G "AccusedChooseModel" b_MD_image 1 3) (s : St) : VO G (RI G b_MD_image) (F_MD_image s) 0 [(0, .ref (gad G 58))] [] s := by
  unfold F_MD_image
  refine VO_aload hC d_MD_image_0 0 rfl ?_
  refine VO_const hC d_MD_image_1 ?_
  refine VO_putz hC fw_MD_174 sh_MD rfl d_MD_image_2 (fun s1 => ?_)
  refine VO_aload hC d_MD_image_5 0 rfl ?_
  refine VO_const hC d_MD_image_6 ?_
  refine VO_const hC d_MD_image_7 ?_
  refine VO_callVV hC [.int (0 : Int32), .int (1 : Int32)] [] ml_MD_150 d_MD_image_8 yv_MD_passesAll sh_MD rfl rfl (fun o h => M_MD_passesAll hC.inj h) (by decide) rfl rfl (Nat.le_of_ble_eq_true rfl) (fun s2 => ?_)
  refine VO_aload hC d_MD_image_11 0 rfl ?_
  refine VO_geti hC fl_MD_90 sh_MD rfl d_MD_image_12 ?_
  exact VO_ireturn d_MD_image_15
set_option maxRecDepth 20000 in
theorem M_MD_image {l : Launch} {D : va_G} {ad : Nat → Nat} {cI cL : ClassId} (hj : Inj ad) {s : St} {o : Int32 × St} (h : F_MD_image s = some o) : Cn l D ad cI cL y_MD_image b_MD_image 1 (some .int) 3 [.ref (ad 58)] s (some (.int o.1)) o.2 := by
  refine Cn_ofI hj (plainFor_of_name (by decide)) (Nat.le_of_ble_eq_true rfl) [(0, .ref (ad 58))] rfl (fun G hC e1 e2 e3 e4 e5 hR => ?_)
  subst e1; subst e2; subst e3; subst e4; subst e5
  exact B_MD_image hC s o h hR
theorem d_MD_restore_0 : PLa b_MD_restore 0 0 1 := Or.inl ⟨0, by decide +kernel, rfl, rfl⟩
theorem d_MD_restore_1 : DR b_MD_restore 1 (.getfield 174) 3 4 := ⟨by decide +kernel, rfl⟩
theorem d_MD_restore_4 : DJ b_MD_restore 4 (.ifCond .ne) 7 14 := ⟨10, by decide +kernel, rfl, by decide⟩
theorem d_MD_restore_7 : PLa b_MD_restore 7 0 8 := Or.inl ⟨0, by decide +kernel, rfl, rfl⟩
theorem d_MD_restore_8 : PCi b_MD_restore 8 (-3) 10 := Or.inr (Or.inl ⟨(-3), by decide +kernel, by decide, rfl⟩)
theorem d_MD_restore_10 : DR b_MD_restore 10 (.invokevirtual 104) 3 13 := ⟨by decide +kernel, rfl⟩
theorem d_MD_restore_13 : DR b_MD_restore 13 (.ireturn) 1 14 := ⟨by decide +kernel, rfl⟩
theorem d_MD_restore_14 : PLa b_MD_restore 14 0 15 := Or.inl ⟨0, by decide +kernel, rfl, rfl⟩
theorem d_MD_restore_15 : PCi b_MD_restore 15 0 16 := Or.inl ⟨0, by decide +kernel, by decide, rfl⟩
theorem d_MD_restore_16 : PCi b_MD_restore 16 0 17 := Or.inl ⟨0, by decide +kernel, by decide, rfl⟩
theorem d_MD_restore_17 : DR b_MD_restore 17 (.invokevirtual 150) 3 20 := ⟨by decide +kernel, rfl⟩
theorem d_MD_restore_20 : PLa b_MD_restore 20 0 21 := Or.inl ⟨0, by decide +kernel, rfl, rfl⟩
theorem d_MD_restore_21 : PCi b_MD_restore 21 0 22 := Or.inl ⟨0, by decide +kernel, by decide, rfl⟩
theorem d_MD_restore_22 : DR b_MD_restore 22 (.putfield 157) 3 25 := ⟨by decide +kernel, rfl⟩
theorem d_MD_restore_25 : PLa b_MD_restore 25 0 26 := Or.inl ⟨0, by decide +kernel, rfl, rfl⟩
theorem d_MD_restore_26 : DR b_MD_restore 26 (.getfield 90) 3 29 := ⟨by decide +kernel, rfl⟩
theorem d_MD_restore_29 : DR b_MD_restore 29 (.ireturn) 1 30 := ⟨by decide +kernel, rfl⟩
set_option maxRecDepth 20000 in
theorem B_MD_restore {G : MCx} (hC : C0 G "AccusedChooseModel" b_MD_restore 1 3) (s : St) : VO G (RI G b_MD_restore) (F_MD_restore s) 0 [(0, .ref (gad G 58))] [] s := by
  unfold F_MD_restore
  refine VO_aload hC d_MD_restore_0 0 rfl ?_
  refine VO_geti hC fl_MD_174 sh_MD rfl d_MD_restore_1 ?_
  refine VO_if_ne hC d_MD_restore_4 (fun _ => ?_) (fun _ => ?_)
  · refine VO_aload hC d_MD_restore_7 0 rfl ?_
    refine VO_const hC d_MD_restore_8 ?_
    refine VO_callVI hC [.int (-3 : Int32)] [] ml_MD_104 d_MD_restore_10 yv_MD_no sh_MD rfl rfl (fun o h => M_MD_no hC.inj h) (by decide) rfl rfl (Nat.le_of_ble_eq_true rfl) (fun o3 => ?_)
    exact VO_ireturn d_MD_restore_13
  · refine VO_aload hC d_MD_restore_14 0 rfl ?_
    refine VO_const hC d_MD_restore_15 ?_
    refine VO_const hC d_MD_restore_16 ?_
    refine VO_callVV hC [.int (0 : Int32), .int (0 : Int32)] [] ml_MD_150 d_MD_restore_17 yv_MD_passesAll sh_MD rfl rfl (fun o h => M_MD_passesAll hC.inj h) (by decide) rfl rfl (Nat.le_of_ble_eq_true rfl) (fun s1 => ?_)
    refine VO_aload hC d_MD_restore_20 0 rfl ?_
    refine VO_const hC d_MD_restore_21 ?_
    refine VO_puti hC fw_MD_157 sh_MD rfl d_MD_restore_22 (fun s2 => ?_)
    refine VO_aload hC d_MD_restore_25 0 rfl ?_
    refine VO_geti hC fl_MD_90 sh_MD rfl d_MD_restore_26 ?_
    exact VO_ireturn d_MD_restore_29
set_option maxRecDepth 20000 in
theorem M_MD_restore {l : Launch} {D : va_G} {ad : Nat → Nat} {cI cL : ClassId} (hj : Inj ad) {s : St} {o : Int32 × St} (h : F_MD_restore s = some o) : Cn l D ad cI cL y_MD_restore b_MD_restore 1 (some .int) 3 [.ref (ad 58)] s (some (.int o.1)) o.2 := by
  refine Cn_ofI hj (plainFor_of_name (by decide)) (Nat.le_of_ble_eq_true rfl) [(0, .ref (ad 58))] rfl (fun G hC e1 e2 e3 e4 e5 hR => ?_)
  subst e1; subst e2; subst e3; subst e4; subst e5
  exact B_MD_restore hC s o h hR
theorem d_MD_may_0 : PLa b_MD_may 0 0 1 := Or.inl ⟨0, by decide +kernel, rfl, rfl⟩
theorem d_MD_may_1 : DR b_MD_may 1 (.getfield 31) 3 4 := ⟨by decide +kernel, rfl⟩
theorem d_MD_may_4 : PLi b_MD_may 4 1 5 := Or.inl ⟨1, by decide +kernel, rfl, rfl⟩
theorem d_MD_may_5 : DR b_MD_may 5 (.iaload) 1 6 := ⟨by decide +kernel, rfl⟩
theorem d_MD_may_6 : PLi b_MD_may 6 2 7 := Or.inl ⟨2, by decide +kernel, rfl, rfl⟩
theorem d_MD_may_7 : DR b_MD_may 7 (.invokestatic 184) 3 10 := ⟨by decide +kernel, rfl⟩
theorem d_MD_may_10 : DJ b_MD_may 10 (.ifCond .ne) 13 40 := ⟨30, by decide +kernel, rfl, by decide⟩
theorem d_MD_may_13 : PLa b_MD_may 13 0 14 := Or.inl ⟨0, by decide +kernel, rfl, rfl⟩
theorem d_MD_may_14 : DR b_MD_may 14 (.getfield 13) 3 17 := ⟨by decide +kernel, rfl⟩
theorem d_MD_may_17 : PLi b_MD_may 17 2 18 := Or.inl ⟨2, by decide +kernel, rfl, rfl⟩
theorem d_MD_may_18 : DR b_MD_may 18 (.iaload) 1 19 := ⟨by decide +kernel, rfl⟩
theorem d_MD_may_19 : PCi b_MD_may 19 5 20 := Or.inl ⟨5, by decide +kernel, by decide, rfl⟩
theorem d_MD_may_20 : DJ b_MD_may 20 (.if_icmp .eq) 23 36 := ⟨16, by decide +kernel, rfl, by decide⟩
theorem d_MD_may_23 : PLa b_MD_may 23 0 24 := Or.inl ⟨0, by decide +kernel, rfl, rfl⟩
theorem d_MD_may_24 : DR b_MD_may 24 (.getfield 22) 3 27 := ⟨by decide +kernel, rfl⟩
theorem d_MD_may_27 : PLi b_MD_may 27 1 28 := Or.inl ⟨1, by decide +kernel, rfl, rfl⟩
theorem d_MD_may_28 : DR b_MD_may 28 (.iaload) 1 29 := ⟨by decide +kernel, rfl⟩
theorem d_MD_may_29 : PLi b_MD_may 29 2 30 := Or.inl ⟨2, by decide +kernel, rfl, rfl⟩
theorem d_MD_may_30 : DR b_MD_may 30 (.invokestatic 184) 3 33 := ⟨by decide +kernel, rfl⟩
theorem d_MD_may_33 : DJ b_MD_may 33 (.ifCond .eq) 36 40 := ⟨7, by decide +kernel, rfl, by decide⟩
theorem d_MD_may_36 : PCi b_MD_may 36 1 37 := Or.inl ⟨1, by decide +kernel, by decide, rfl⟩
theorem d_MD_may_37 : DJ b_MD_may 37 .goto 40 41 := ⟨4, by decide +kernel, rfl, by decide⟩
theorem d_MD_may_40 : PCi b_MD_may 40 0 41 := Or.inl ⟨0, by decide +kernel, by decide, rfl⟩
theorem d_MD_may_41 : DR b_MD_may 41 (.ireturn) 1 42 := ⟨by decide +kernel, rfl⟩
set_option maxRecDepth 20000 in
theorem B_MD_may_40 {G : MCx} (hC : C0 G "AccusedChooseModel" b_MD_may 3 2) (s : St) : VO G (RZ G b_MD_may) (F_MD_may_40 s) 40 [] [] s := by
  unfold F_MD_may_40
  refine VO_const hC d_MD_may_40 ?_
  exact VO_z0 d_MD_may_41
set_option maxRecDepth 20000 in
theorem B_MD_may_36 {G : MCx} (hC : C0 G "AccusedChooseModel" b_MD_may 3 2) (s : St) : VO G (RZ G b_MD_may) (F_MD_may_36 s) 36 [] [] s := by
  unfold F_MD_may_36
  refine VO_const hC d_MD_may_36 ?_
  refine VO_goto hC d_MD_may_37 ?_
  exact VO_z1 d_MD_may_41
set_option maxRecDepth 20000 in
theorem B_MD_may {G : MCx} (hC : C0 G "AccusedChooseModel" b_MD_may 3 2) (a1 : Int32) (a2 : Int32) (s : St) : VO G (RZ G b_MD_may) (F_MD_may a1 a2 s) 0 [(0, .ref (gad G 58)), (1, .int a1), (2, .int a2)] [] s := by
  unfold F_MD_may
  refine VO_aload hC d_MD_may_0 0 rfl ?_
  refine VO_getr (r := 66) hC fl_MD_31 sh_MD rfl d_MD_may_1 ?_
  refine VO_iload hC d_MD_may_4 1 rfl ?_
  refine VO_iaload hC ia_66 d_MD_may_5 (fun x1 => ?_)
  refine VO_iload hC d_MD_may_6 2 rfl ?_
  refine VO_callSI hC [.int x1, .int a2] [] ml_MD_184 d_MD_may_7 ys_MD_has (fun o h => M_MD_has hC.inj h) (by decide) rfl rfl (Nat.le_of_ble_eq_true rfl) (fun o2 => ?_)
  refine VO_if_ne hC d_MD_may_10 (fun _ => ?_) (fun _ => ?_)
  · refine VO_aload hC d_MD_may_13 0 rfl ?_
    refine VO_getr (r := 60) hC fl_MD_13 sh_MD rfl d_MD_may_14 ?_
    refine VO_iload hC d_MD_may_17 2 rfl ?_
    refine VO_iaload hC ia_60 d_MD_may_18 (fun x3 => ?_)
    refine VO_const hC d_MD_may_19 ?_
    refine VO_icmp_eq hC d_MD_may_20 (fun _ => ?_) (fun _ => ?_)
    · exact VO_sub [] rfl (B_MD_may_36 hC o2.2)
    · refine VO_aload hC d_MD_may_23 0 rfl ?_
      refine VO_getr (r := 63) hC fl_MD_22 sh_MD rfl d_MD_may_24 ?_
      refine VO_iload hC d_MD_may_27 1 rfl ?_
      refine VO_iaload hC ia_63 d_MD_may_28 (fun x4 => ?_)
      refine VO_iload hC d_MD_may_29 2 rfl ?_
      refine VO_callSI hC [.int x4, .int a2] [] ml_MD_184 d_MD_may_30 ys_MD_has (fun o h => M_MD_has hC.inj h) (by decide) rfl rfl (Nat.le_of_ble_eq_true rfl) (fun o5 => ?_)
      refine VO_if_eq hC d_MD_may_33 (fun _ => ?_) (fun _ => ?_)
      · exact VO_sub [] rfl (B_MD_may_40 hC o5.2)
      · exact VO_sub [] rfl (B_MD_may_36 hC o5.2)
  · exact VO_sub [] rfl (B_MD_may_40 hC o2.2)
set_option maxRecDepth 20000 in
theorem M_MD_may {l : Launch} {D : va_G} {ad : Nat → Nat} {cI cL : ClassId} (hj : Inj ad) {a1 : Int32} {a2 : Int32} {s : St} {o : Int32 × St} (h : F_MD_may a1 a2 s = some o) : Cn l D ad cI cL y_MD_may b_MD_may 3 (some .boolean) 2 [.ref (ad 58), .int a1, .int a2] s (some (.int o.1)) o.2 := by
  refine Cn_ofZ hj (plainFor_of_name (by decide)) (Nat.le_of_ble_eq_true rfl) [(0, .ref (ad 58)), (1, .int a1), (2, .int a2)] rfl (fun G hC e1 e2 e3 e4 e5 hR => ?_)
  subst e1; subst e2; subst e3; subst e4; subst e5
  exact B_MD_may hC a1 a2 s o h hR
theorem d_MD_plainMonths_0 : PCi b_MD_plainMonths 0 2 1 := Or.inl ⟨2, by decide +kernel, by decide, rfl⟩
theorem d_MD_plainMonths_1 : PLa b_MD_plainMonths 1 0 2 := Or.inl ⟨0, by decide +kernel, rfl, rfl⟩
theorem d_MD_plainMonths_2 : DR b_MD_plainMonths 2 (.getfield 16) 3 5 := ⟨by decide +kernel, rfl⟩
theorem d_MD_plainMonths_5 : PLi b_MD_plainMonths 5 2 6 := Or.inl ⟨2, by decide +kernel, rfl, rfl⟩
theorem d_MD_plainMonths_6 : DR b_MD_plainMonths 6 (.iaload) 1 7 := ⟨by decide +kernel, rfl⟩
theorem d_MD_plainMonths_7 : DR b_MD_plainMonths 7 (.imul) 1 8 := ⟨by decide +kernel, rfl⟩
theorem d_MD_plainMonths_8 : PCi b_MD_plainMonths 8 1 9 := Or.inl ⟨1, by decide +kernel, by decide, rfl⟩
theorem d_MD_plainMonths_9 : DR b_MD_plainMonths 9 (.iadd) 1 10 := ⟨by decide +kernel, rfl⟩
theorem d_MD_plainMonths_10 : PSi b_MD_plainMonths 10 3 11 := Or.inl ⟨3, by decide +kernel, rfl, rfl⟩
theorem d_MD_plainMonths_11 : PLi b_MD_plainMonths 11 3 12 := Or.inl ⟨3, by decide +kernel, rfl, rfl⟩
theorem d_MD_plainMonths_12 : PCi b_MD_plainMonths 12 3 13 := Or.inl ⟨3, by decide +kernel, by decide, rfl⟩
theorem d_MD_plainMonths_13 : DR b_MD_plainMonths 13 (.iadd) 1 14 := ⟨by decide +kernel, rfl⟩
theorem d_MD_plainMonths_14 : PLa b_MD_plainMonths 14 0 15 := Or.inl ⟨0, by decide +kernel, rfl, rfl⟩
theorem d_MD_plainMonths_15 : DR b_MD_plainMonths 15 (.getfield 19) 3 18 := ⟨by decide +kernel, rfl⟩
theorem d_MD_plainMonths_18 : PLi b_MD_plainMonths 18 1 19 := Or.inl ⟨1, by decide +kernel, rfl, rfl⟩
theorem d_MD_plainMonths_19 : DR b_MD_plainMonths 19 (.iaload) 1 20 := ⟨by decide +kernel, rfl⟩
theorem d_MD_plainMonths_20 : PCi b_MD_plainMonths 20 2 21 := Or.inl ⟨2, by decide +kernel, by decide, rfl⟩
theorem d_MD_plainMonths_21 : DR b_MD_plainMonths 21 (.idiv) 1 22 := ⟨by decide +kernel, rfl⟩
theorem d_MD_plainMonths_22 : DR b_MD_plainMonths 22 (.iadd) 1 23 := ⟨by decide +kernel, rfl⟩
theorem d_MD_plainMonths_23 : PSi b_MD_plainMonths 23 4 25 := Or.inr ⟨by decide +kernel, rfl⟩
theorem d_MD_plainMonths_25 : PLa b_MD_plainMonths 25 0 26 := Or.inl ⟨0, by decide +kernel, rfl, rfl⟩
theorem d_MD_plainMonths_26 : DR b_MD_plainMonths 26 (.getfield 13) 3 29 := ⟨by decide +kernel, rfl⟩
theorem d_MD_plainMonths_29 : PLi b_MD_plainMonths 29 2 30 := Or.inl ⟨2, by decide +kernel, rfl, rfl⟩
theorem d_MD_plainMonths_30 : DR b_MD_plainMonths 30 (.iaload) 1 31 := ⟨by decide +kernel, rfl⟩
theorem d_MD_plainMonths_31 : decode b_MD_plainMonths 31 = .ok (.tableswitch 78 1 5 #[33, 36, 40, 45, 51], 33) := by decide +kernel
theorem d_MD_plainMonths_64 : PLi b_MD_plainMonths 64 4 66 := Or.inr ⟨by decide +kernel, rfl⟩
theorem d_MD_plainMonths_66 : DR b_MD_plainMonths 66 (.ireturn) 1 67 := ⟨by decide +kernel, rfl⟩
theorem d_MD_plainMonths_67 : PLi b_MD_plainMonths 67 3 68 := Or.inl ⟨3, by decide +kernel, rfl, rfl⟩
theorem d_MD_plainMonths_68 : PCi b_MD_plainMonths 68 2 69 := Or.inl ⟨2, by decide +kernel, by decide, rfl⟩
theorem d_MD_plainMonths_69 : DR b_MD_plainMonths 69 (.idiv) 1 70 := ⟨by decide +kernel, rfl⟩
theorem d_MD_plainMonths_70 : DR b_MD_plainMonths 70 (.ireturn) 1 71 := ⟨by decide +kernel, rfl⟩
theorem d_MD_plainMonths_71 : PCi b_MD_plainMonths 71 3 72 := Or.inl ⟨3, by decide +kernel, by decide, rfl⟩
theorem d_MD_plainMonths_72 : PLi b_MD_plainMonths 72 4 74 := Or.inr ⟨by decide +kernel, rfl⟩
theorem d_MD_plainMonths_74 : DR b_MD_plainMonths 74 (.imul) 1 75 := ⟨by decide +kernel, rfl⟩
theorem d_MD_plainMonths_75 : DR b_MD_plainMonths 75 (.ireturn) 1 76 := ⟨by decide +kernel, rfl⟩
theorem d_MD_plainMonths_76 : PLi b_MD_plainMonths 76 3 77 := Or.inl ⟨3, by decide +kernel, rfl, rfl⟩
theorem d_MD_plainMonths_77 : PCi b_MD_plainMonths 77 2 78 := Or.inl ⟨2, by decide +kernel, by decide, rfl⟩
theorem d_MD_plainMonths_78 : DR b_MD_plainMonths 78 (.idiv) 1 79 := ⟨by decide +kernel, rfl⟩
theorem d_MD_plainMonths_79 : PCi b_MD_plainMonths 79 1 80 := Or.inl ⟨1, by decide +kernel, by decide, rfl⟩
theorem d_MD_plainMonths_80 : DR b_MD_plainMonths 80 (.iadd) 1 81 := ⟨by decide +kernel, rfl⟩
theorem d_MD_plainMonths_81 : DR b_MD_plainMonths 81 (.ireturn) 1 82 := ⟨by decide +kernel, rfl⟩
theorem d_MD_plainMonths_82 : PLi b_MD_plainMonths 82 4 84 := Or.inr ⟨by decide +kernel, rfl⟩
theorem d_MD_plainMonths_84 : PLa b_MD_plainMonths 84 0 85 := Or.inl ⟨0, by decide +kernel, rfl, rfl⟩
theorem d_MD_plainMonths_85 : DR b_MD_plainMonths 85 (.getfield 19) 3 88 := ⟨by decide +kernel, rfl⟩
theorem d_MD_plainMonths_88 : PLi b_MD_plainMonths 88 1 89 := Or.inl ⟨1, by decide +kernel, rfl, rfl⟩
theorem d_MD_plainMonths_89 : DR b_MD_plainMonths 89 (.iaload) 1 90 := ⟨by decide +kernel, rfl⟩
theorem d_MD_plainMonths_90 : DR b_MD_plainMonths 90 (.isub) 1 91 := ⟨by decide +kernel, rfl⟩
theorem d_MD_plainMonths_91 : PCi b_MD_plainMonths 91 1 92 := Or.inl ⟨1, by decide +kernel, by decide, rfl⟩
theorem d_MD_plainMonths_92 : DJ b_MD_plainMonths 92 (.if_icmp .ge) 95 99 := ⟨7, by decide +kernel, rfl, by decide⟩
theorem d_MD_plainMonths_95 : PCi b_MD_plainMonths 95 1 96 := Or.inl ⟨1, by decide +kernel, by decide, rfl⟩
theorem d_MD_plainMonths_96 : DJ b_MD_plainMonths 96 .goto 99 108 := ⟨12, by decide +kernel, rfl, by decide⟩
theorem d_MD_plainMonths_99 : PLi b_MD_plainMonths 99 4 101 := Or.inr ⟨by decide +kernel, rfl⟩
theorem d_MD_plainMonths_101 : PLa b_MD_plainMonths 101 0 102 := Or.inl ⟨0, by decide +kernel, rfl, rfl⟩
theorem d_MD_plainMonths_102 : DR b_MD_plainMonths 102 (.getfield 19) 3 105 := ⟨by decide +kernel, rfl⟩
theorem d_MD_plainMonths_105 : PLi b_MD_plainMonths 105 1 106 := Or.inl ⟨1, by decide +kernel, rfl, rfl⟩
theorem d_MD_plainMonths_106 : DR b_MD_plainMonths 106 (.iaload) 1 107 := ⟨by decide +kernel, rfl⟩
theorem d_MD_plainMonths_107 : DR b_MD_plainMonths 107 (.isub) 1 108 := ⟨by decide +kernel, rfl⟩
theorem d_MD_plainMonths_108 : DR b_MD_plainMonths 108 (.ireturn) 1 109 := ⟨by decide +kernel, rfl⟩
theorem d_MD_plainMonths_109 : PLi b_MD_plainMonths 109 3 110 := Or.inl ⟨3, by decide +kernel, rfl, rfl⟩
theorem d_MD_plainMonths_110 : DR b_MD_plainMonths 110 (.ireturn) 1 111 := ⟨by decide +kernel, rfl⟩
set_option maxRecDepth 20000 in
theorem B_MD_plainMonths {G : MCx} (hC : C0 G "AccusedChooseModel" b_MD_plainMonths 5 1) (a1 : Int32) (a2 : Int32) (s : St) : VO G (RI G b_MD_plainMonths) (F_MD_plainMonths a1 a2 s) 0 [(0, .ref (gad G 58)), (1, .int a1), (2, .int a2)] [] s := by
  unfold F_MD_plainMonths
  refine VO_const hC d_MD_plainMonths_0 ?_
  refine VO_aload hC d_MD_plainMonths_1 0 rfl ?_
  refine VO_getr (r := 61) hC fl_MD_16 sh_MD rfl d_MD_plainMonths_2 ?_
  refine VO_iload hC d_MD_plainMonths_5 2 rfl ?_
  refine VO_iaload hC ia_61 d_MD_plainMonths_6 (fun x1 => ?_)
  refine VO_imul hC d_MD_plainMonths_7 ?_
  refine VO_const hC d_MD_plainMonths_8 ?_
  refine VO_iadd hC d_MD_plainMonths_9 ?_
  refine VO_istoreB hC d_MD_plainMonths_10 [(0, .ref (gad G 58)), (1, .int a1), (2, .int a2)] rfl (by decide) (fun x2 => ?_)
  refine VO_iload hC d_MD_plainMonths_11 0 rfl ?_
  refine VO_const hC d_MD_plainMonths_12 ?_
  refine VO_iadd hC d_MD_plainMonths_13 ?_
  refine VO_aload hC d_MD_plainMonths_14 1 rfl ?_
  refine VO_getr (r := 62) hC fl_MD_19 sh_MD rfl d_MD_plainMonths_15 ?_
  refine VO_iload hC d_MD_plainMonths_18 2 rfl ?_
  refine VO_iaload hC ia_62 d_MD_plainMonths_19 (fun x3 => ?_)
  refine VO_const hC d_MD_plainMonths_20 ?_
  refine VO_idivC hC d_MD_plainMonths_21 (by decide) ?_
  refine VO_iadd hC d_MD_plainMonths_22 ?_
  refine VO_istoreB hC d_MD_plainMonths_23 [(3, .int x2), (0, .ref (gad G 58)), (1, .int a1), (2, .int a2)] rfl (by decide) (fun x4 => ?_)
  refine VO_aload hC d_MD_plainMonths_25 2 rfl ?_
  refine VO_getr (r := 60) hC fl_MD_13 sh_MD rfl d_MD_plainMonths_26 ?_
  refine VO_iload hC d_MD_plainMonths_29 4 rfl ?_
  refine VO_iaload hC ia_60 d_MD_plainMonths_30 (fun x5 => ?_)
  refine VO_ite (fun c31_0 => ?_) (fun c31_0 => ?_)
  · refine VO_tin (tgt := 64) (off := (33 : Int)) hC d_MD_plainMonths_31 (by rw [c31_0]; decide) (by rw [c31_0]; decide) (by first | (rw [c31_0]; done) | (rw [c31_0]; rfl)) (by decide) ?_
    refine VO_iload hC d_MD_plainMonths_64 0 rfl ?_
    exact VO_ireturn d_MD_plainMonths_66
  refine VO_ite (fun c31_1 => ?_) (fun c31_1 => ?_)
  · refine VO_tin (tgt := 67) (off := (36 : Int)) hC d_MD_plainMonths_31 (by rw [c31_1]; decide) (by rw [c31_1]; decide) (by first | (rw [c31_1]; done) | (rw [c31_1]; rfl)) (by decide) ?_
    refine VO_iload hC d_MD_plainMonths_67 1 rfl ?_
    refine VO_const hC d_MD_plainMonths_68 ?_
    refine VO_idivC hC d_MD_plainMonths_69 (by decide) ?_
    exact VO_ireturn d_MD_plainMonths_70
  refine VO_ite (fun c31_2 => ?_) (fun c31_2 => ?_)
  · refine VO_tin (tgt := 71) (off := (40 : Int)) hC d_MD_plainMonths_31 (by rw [c31_2]; decide) (by rw [c31_2]; decide) (by first | (rw [c31_2]; done) | (rw [c31_2]; rfl)) (by decide) ?_
    refine VO_const hC d_MD_plainMonths_71 ?_
    refine VO_iload hC d_MD_plainMonths_72 0 rfl ?_
    refine VO_imul hC d_MD_plainMonths_74 ?_
    exact VO_ireturn d_MD_plainMonths_75
  refine VO_ite (fun c31_3 => ?_) (fun c31_3 => ?_)
  · refine VO_tin (tgt := 76) (off := (45 : Int)) hC d_MD_plainMonths_31 (by rw [c31_3]; decide) (by rw [c31_3]; decide) (by first | (rw [c31_3]; done) | (rw [c31_3]; rfl)) (by decide) ?_
    refine VO_iload hC d_MD_plainMonths_76 1 rfl ?_
    refine VO_const hC d_MD_plainMonths_77 ?_
    refine VO_idivC hC d_MD_plainMonths_78 (by decide) ?_
    refine VO_const hC d_MD_plainMonths_79 ?_
    refine VO_iadd hC d_MD_plainMonths_80 ?_
    exact VO_ireturn d_MD_plainMonths_81
  refine VO_ite (fun c31_4 => ?_) (fun c31_4 => ?_)
  · refine VO_tin (tgt := 82) (off := (51 : Int)) hC d_MD_plainMonths_31 (by rw [c31_4]; decide) (by rw [c31_4]; decide) (by first | (rw [c31_4]; done) | (rw [c31_4]; rfl)) (by decide) ?_
    refine VO_iload hC d_MD_plainMonths_82 0 rfl ?_
    refine VO_aload hC d_MD_plainMonths_84 2 rfl ?_
    refine VO_getr (r := 62) hC fl_MD_19 sh_MD rfl d_MD_plainMonths_85 ?_
    refine VO_iload hC d_MD_plainMonths_88 3 rfl ?_
    refine VO_iaload hC ia_62 d_MD_plainMonths_89 (fun x6 => ?_)
    refine VO_isub hC d_MD_plainMonths_90 ?_
    refine VO_const hC d_MD_plainMonths_91 ?_
    refine VO_icmp_ge hC d_MD_plainMonths_92 (fun _ => ?_) (fun _ => ?_)
    · refine VO_iload hC d_MD_plainMonths_99 0 rfl ?_
      refine VO_aload hC d_MD_plainMonths_101 2 rfl ?_
      refine VO_getr (r := 62) hC fl_MD_19 sh_MD rfl d_MD_plainMonths_102 ?_
      refine VO_iload hC d_MD_plainMonths_105 3 rfl ?_
      refine VO_iaload hC ia_62 d_MD_plainMonths_106 (fun x7 => ?_)
      refine VO_isub hC d_MD_plainMonths_107 ?_
      exact VO_ireturn d_MD_plainMonths_108
    · refine VO_const hC d_MD_plainMonths_95 ?_
      refine VO_goto hC d_MD_plainMonths_96 ?_
      exact VO_ireturn d_MD_plainMonths_108
  refine VO_tout (tgt := 109) hC d_MD_plainMonths_31 (by have e0 := lv_neT (a := 1) c31_0 rfl; have e1 := lv_neT (a := 2) c31_1 rfl; have e2 := lv_neT (a := 3) c31_2 rfl; have e3 := lv_neT (a := 4) c31_3 rfl; have e4 := lv_neT (a := 5) c31_4 rfl; omega) (by decide) ?_
  refine VO_iload hC d_MD_plainMonths_109 1 rfl ?_
  exact VO_ireturn d_MD_plainMonths_110
set_option maxRecDepth 20000 in
theorem M_MD_plainMonths {l : Launch} {D : va_G} {ad : Nat → Nat} {cI cL : ClassId} (hj : Inj ad) {a1 : Int32} {a2 : Int32} {s : St} {o : Int32 × St} (h : F_MD_plainMonths a1 a2 s = some o) : Cn l D ad cI cL y_MD_plainMonths b_MD_plainMonths 5 (some .int) 1 [.ref (ad 58), .int a1, .int a2] s (some (.int o.1)) o.2 := by
  refine Cn_ofI hj (plainFor_of_name (by decide)) (Nat.le_of_ble_eq_true rfl) [(0, .ref (ad 58)), (1, .int a1), (2, .int a2)] rfl (fun G hC e1 e2 e3 e4 e5 hR => ?_)
  subst e1; subst e2; subst e3; subst e4; subst e5
  exact B_MD_plainMonths hC a1 a2 s o h hR
theorem d_MD_monthsOf_0 : PLi b_MD_monthsOf 0 2 1 := Or.inl ⟨2, by decide +kernel, rfl, rfl⟩
theorem d_MD_monthsOf_1 : DJ b_MD_monthsOf 1 (.ifCond .ge) 4 7 := ⟨6, by decide +kernel, rfl, by decide⟩
theorem d_MD_monthsOf_4 : PCi b_MD_monthsOf 4 60 6 := Or.inr (Or.inl ⟨60, by decide +kernel, by decide, rfl⟩)
theorem d_MD_monthsOf_6 : DR b_MD_monthsOf 6 (.ireturn) 1 7 := ⟨by decide +kernel, rfl⟩
theorem d_MD_monthsOf_7 : PLa b_MD_monthsOf 7 0 8 := Or.inl ⟨0, by decide +kernel, rfl, rfl⟩
theorem d_MD_monthsOf_8 : PLi b_MD_monthsOf 8 1 9 := Or.inl ⟨1, by decide +kernel, rfl, rfl⟩
theorem d_MD_monthsOf_9 : PLi b_MD_monthsOf 9 2 10 := Or.inl ⟨2, by decide +kernel, rfl, rfl⟩
theorem d_MD_monthsOf_10 : DR b_MD_monthsOf 10 (.invokevirtual 187) 3 13 := ⟨by decide +kernel, rfl⟩
theorem d_MD_monthsOf_13 : PSi b_MD_monthsOf 13 3 14 := Or.inl ⟨3, by decide +kernel, rfl, rfl⟩
theorem d_MD_monthsOf_14 : PLa b_MD_monthsOf 14 0 15 := Or.inl ⟨0, by decide +kernel, rfl, rfl⟩
theorem d_MD_monthsOf_15 : DR b_MD_monthsOf 15 (.getfield 25) 3 18 := ⟨by decide +kernel, rfl⟩
theorem d_MD_monthsOf_18 : PLi b_MD_monthsOf 18 1 19 := Or.inl ⟨1, by decide +kernel, rfl, rfl⟩
theorem d_MD_monthsOf_19 : DR b_MD_monthsOf 19 (.iaload) 1 20 := ⟨by decide +kernel, rfl⟩
theorem d_MD_monthsOf_20 : PLi b_MD_monthsOf 20 2 21 := Or.inl ⟨2, by decide +kernel, rfl, rfl⟩
theorem d_MD_monthsOf_21 : DJ b_MD_monthsOf 21 (.if_icmp .ne) 24 40 := ⟨19, by decide +kernel, rfl, by decide⟩
theorem d_MD_monthsOf_24 : PLi b_MD_monthsOf 24 2 25 := Or.inl ⟨2, by decide +kernel, rfl, rfl⟩
theorem d_MD_monthsOf_25 : PLa b_MD_monthsOf 25 0 26 := Or.inl ⟨0, by decide +kernel, rfl, rfl⟩
theorem d_MD_monthsOf_26 : DR b_MD_monthsOf 26 (.getfield 52) 3 29 := ⟨by decide +kernel, rfl⟩
theorem d_MD_monthsOf_29 : DJ b_MD_monthsOf 29 (.if_icmp .ge) 32 40 := ⟨11, by decide +kernel, rfl, by decide⟩
theorem d_MD_monthsOf_32 : PLi b_MD_monthsOf 32 3 33 := Or.inl ⟨3, by decide +kernel, rfl, rfl⟩
theorem d_MD_monthsOf_33 : PLi b_MD_monthsOf 33 3 34 := Or.inl ⟨3, by decide +kernel, rfl, rfl⟩
theorem d_MD_monthsOf_34 : PCi b_MD_monthsOf 34 3 35 := Or.inl ⟨3, by decide +kernel, by decide, rfl⟩
theorem d_MD_monthsOf_35 : DR b_MD_monthsOf 35 (.idiv) 1 36 := ⟨by decide +kernel, rfl⟩
theorem d_MD_monthsOf_36 : DR b_MD_monthsOf 36 (.isub) 1 37 := ⟨by decide +kernel, rfl⟩
theorem d_MD_monthsOf_37 : DJ b_MD_monthsOf 37 .goto 40 41 := ⟨4, by decide +kernel, rfl, by decide⟩
theorem d_MD_monthsOf_40 : PLi b_MD_monthsOf 40 3 41 := Or.inl ⟨3, by decide +kernel, rfl, rfl⟩
theorem d_MD_monthsOf_41 : DR b_MD_monthsOf 41 (.ireturn) 1 42 := ⟨by decide +kernel, rfl⟩
set_option maxRecDepth 20000 in
theorem B_MD_monthsOf_40 {G : MCx} (hC : C0 G "AccusedChooseModel" b_MD_monthsOf 4 2) (v3 : Int32) (s : St) : VO G (RI G b_MD_monthsOf) (F_MD_monthsOf_40 v3 s) 40 [(3, .int v3)] [] s := by
  unfold F_MD_monthsOf_40
  refine VO_iload hC d_MD_monthsOf_40 0 rfl ?_
  exact VO_ireturn d_MD_monthsOf_41
set_option maxRecDepth 20000 in
theorem B_MD_monthsOf {G : MCx} (hC : C0 G "AccusedChooseModel" b_MD_monthsOf 4 2) (a1 : Int32) (a2 : Int32) (s : St) : VO G (RI G b_MD_monthsOf) (F_MD_monthsOf a1 a2 s) 0 [(0, .ref (gad G 58)), (1, .int a1), (2, .int a2)] [] s := by
  unfold F_MD_monthsOf
  refine VO_iload hC d_MD_monthsOf_0 2 rfl ?_
  refine VO_if_ge hC d_MD_monthsOf_1 (fun _ => ?_) (fun _ => ?_)
  · refine VO_aload hC d_MD_monthsOf_7 0 rfl ?_
    refine VO_iload hC d_MD_monthsOf_8 1 rfl ?_
    refine VO_iload hC d_MD_monthsOf_9 2 rfl ?_
    refine VO_callVI hC [.int a1, .int a2] [] ml_MD_187 d_MD_monthsOf_10 yv_MD_plainMonths sh_MD rfl rfl (fun o h => M_MD_plainMonths hC.inj h) (by decide) rfl rfl (Nat.le_of_ble_eq_true rfl) (fun o1 => ?_)
    refine VO_istore hC d_MD_monthsOf_13 [(0, .ref (gad G 58)), (1, .int a1), (2, .int a2)] rfl (by decide) ?_
    refine VO_aload hC d_MD_monthsOf_14 1 rfl ?_
    refine VO_getr (r := 64) hC fl_MD_25 sh_MD rfl d_MD_monthsOf_15 ?_
    refine VO_iload hC d_MD_monthsOf_18 2 rfl ?_
    refine VO_iaload hC ia_64 d_MD_monthsOf_19 (fun x2 => ?_)
    refine VO_iload hC d_MD_monthsOf_20 3 rfl ?_
    refine VO_icmp_ne hC d_MD_monthsOf_21 (fun _ => ?_) (fun _ => ?_)
    · refine VO_iload hC d_MD_monthsOf_24 3 rfl ?_
      refine VO_aload hC d_MD_monthsOf_25 1 rfl ?_
      refine VO_geti hC fl_MD_52 sh_MD rfl d_MD_monthsOf_26 ?_
      refine VO_icmp_ge hC d_MD_monthsOf_29 (fun _ => ?_) (fun _ => ?_)
      · exact VO_sub [0] rfl (B_MD_monthsOf_40 hC o1.1 o1.2)
      · refine VO_iload hC d_MD_monthsOf_32 0 rfl ?_
        refine VO_iload hC d_MD_monthsOf_33 0 rfl ?_
        refine VO_const hC d_MD_monthsOf_34 ?_
        refine VO_idivC hC d_MD_monthsOf_35 (by decide) ?_
        refine VO_isub hC d_MD_monthsOf_36 ?_
        refine VO_goto hC d_MD_monthsOf_37 ?_
        exact VO_ireturn d_MD_monthsOf_41
    · exact VO_sub [0] rfl (B_MD_monthsOf_40 hC o1.1 o1.2)
  · refine VO_const hC d_MD_monthsOf_4 ?_
    exact VO_ireturn d_MD_monthsOf_6
set_option maxRecDepth 20000 in
theorem M_MD_monthsOf {l : Launch} {D : va_G} {ad : Nat → Nat} {cI cL : ClassId} (hj : Inj ad) {a1 : Int32} {a2 : Int32} {s : St} {o : Int32 × St} (h : F_MD_monthsOf a1 a2 s = some o) : Cn l D ad cI cL y_MD_monthsOf b_MD_monthsOf 4 (some .int) 2 [.ref (ad 58), .int a1, .int a2] s (some (.int o.1)) o.2 := by
  refine Cn_ofI hj (plainFor_of_name (by decide)) (Nat.le_of_ble_eq_true rfl) [(0, .ref (ad 58)), (1, .int a1), (2, .int a2)] rfl (fun G hC e1 e2 e3 e4 e5 hR => ?_)
  subst e1; subst e2; subst e3; subst e4; subst e5
  exact B_MD_monthsOf hC a1 a2 s o h hR
theorem d_MD_deed_0 : PLa b_MD_deed 0 0 1 := Or.inl ⟨0, by decide +kernel, rfl, rfl⟩
theorem d_MD_deed_1 : PLi b_MD_deed 1 1 2 := Or.inl ⟨1, by decide +kernel, rfl, rfl⟩
theorem d_MD_deed_2 : DR b_MD_deed 2 (.invokevirtual 140) 3 5 := ⟨by decide +kernel, rfl⟩
theorem d_MD_deed_5 : DJ b_MD_deed 5 (.ifCond .ne) 8 14 := ⟨9, by decide +kernel, rfl, by decide⟩
theorem d_MD_deed_8 : PLa b_MD_deed 8 0 9 := Or.inl ⟨0, by decide +kernel, rfl, rfl⟩
theorem d_MD_deed_9 : PCi b_MD_deed 9 (-1) 10 := Or.inl ⟨(-1), by decide +kernel, by decide, rfl⟩
theorem d_MD_deed_10 : DR b_MD_deed 10 (.invokevirtual 104) 3 13 := ⟨by decide +kernel, rfl⟩
theorem d_MD_deed_13 : DR b_MD_deed 13 (.ireturn) 1 14 := ⟨by decide +kernel, rfl⟩
theorem d_MD_deed_14 : PLi b_MD_deed 14 2 15 := Or.inl ⟨2, by decide +kernel, rfl, rfl⟩
theorem d_MD_deed_15 : DJ b_MD_deed 15 (.ifCond .ne) 18 27 := ⟨12, by decide +kernel, rfl, by decide⟩
theorem d_MD_deed_18 : PLa b_MD_deed 18 0 19 := Or.inl ⟨0, by decide +kernel, rfl, rfl⟩
theorem d_MD_deed_19 : DR b_MD_deed 19 (.getfield 13) 3 22 := ⟨by decide +kernel, rfl⟩
theorem d_MD_deed_22 : PLi b_MD_deed 22 1 23 := Or.inl ⟨1, by decide +kernel, rfl, rfl⟩
theorem d_MD_deed_23 : DR b_MD_deed 23 (.iaload) 1 24 := ⟨by decide +kernel, rfl⟩
theorem d_MD_deed_24 : DJ b_MD_deed 24 .goto 27 47 := ⟨23, by decide +kernel, rfl, by decide⟩
theorem d_MD_deed_27 : PLi b_MD_deed 27 2 28 := Or.inl ⟨2, by decide +kernel, rfl, rfl⟩
theorem d_MD_deed_28 : PCi b_MD_deed 28 1 29 := Or.inl ⟨1, by decide +kernel, by decide, rfl⟩
theorem d_MD_deed_29 : DJ b_MD_deed 29 (.if_icmp .ne) 32 41 := ⟨12, by decide +kernel, rfl, by decide⟩
theorem d_MD_deed_32 : PLa b_MD_deed 32 0 33 := Or.inl ⟨0, by decide +kernel, rfl, rfl⟩
theorem d_MD_deed_33 : DR b_MD_deed 33 (.getfield 16) 3 36 := ⟨by decide +kernel, rfl⟩
theorem d_MD_deed_36 : PLi b_MD_deed 36 1 37 := Or.inl ⟨1, by decide +kernel, rfl, rfl⟩
theorem d_MD_deed_37 : DR b_MD_deed 37 (.iaload) 1 38 := ⟨by decide +kernel, rfl⟩
theorem d_MD_deed_38 : DJ b_MD_deed 38 .goto 41 47 := ⟨9, by decide +kernel, rfl, by decide⟩
theorem d_MD_deed_41 : PLa b_MD_deed 41 0 42 := Or.inl ⟨0, by decide +kernel, rfl, rfl⟩
theorem d_MD_deed_42 : PCi b_MD_deed 42 (-2) 44 := Or.inr (Or.inl ⟨(-2), by decide +kernel, by decide, rfl⟩)
theorem d_MD_deed_44 : DR b_MD_deed 44 (.invokevirtual 104) 3 47 := ⟨by decide +kernel, rfl⟩
theorem d_MD_deed_47 : DR b_MD_deed 47 (.ireturn) 1 48 := ⟨by decide +kernel, rfl⟩
set_option maxRecDepth 20000 in
theorem B_MD_deed {G : MCx} (hC : C0 G "AccusedChooseModel" b_MD_deed 3 2) (a1 : Int32) (a2 : Int32) (s : St) : VO G (RI G b_MD_deed) (F_MD_deed a1 a2 s) 0 [(0, .ref (gad G 58)), (1, .int a1), (2, .int a2)] [] s := by
  unfold F_MD_deed
  refine VO_aload hC d_MD_deed_0 0 rfl ?_
  refine VO_iload hC d_MD_deed_1 1 rfl ?_
  refine VO_callVI hC [.int a1] [] ml_MD_140 d_MD_deed_2 yv_MD_isDeed sh_MD rfl rfl (fun o h => M_MD_isDeed hC.inj h) (by decide) rfl rfl (Nat.le_of_ble_eq_true rfl) (fun o1 => ?_)
  refine VO_if_ne hC d_MD_deed_5 (fun _ => ?_) (fun _ => ?_)
  · refine VO_aload hC d_MD_deed_8 0 rfl ?_
    refine VO_const hC d_MD_deed_9 ?_
    refine VO_callVI hC [.int (-1 : Int32)] [] ml_MD_104 d_MD_deed_10 yv_MD_no sh_MD rfl rfl (fun o h => M_MD_no hC.inj h) (by decide) rfl rfl (Nat.le_of_ble_eq_true rfl) (fun o5 => ?_)
    exact VO_ireturn d_MD_deed_13
  · refine VO_iload hC d_MD_deed_14 2 rfl ?_
    refine VO_if_ne hC d_MD_deed_15 (fun _ => ?_) (fun _ => ?_)
    · refine VO_aload hC d_MD_deed_18 0 rfl ?_
      refine VO_getr (r := 60) hC fl_MD_13 sh_MD rfl d_MD_deed_19 ?_
      refine VO_iload hC d_MD_deed_22 1 rfl ?_
      refine VO_iaload hC ia_60 d_MD_deed_23 (fun x4 => ?_)
      refine VO_goto hC d_MD_deed_24 ?_
      exact VO_ireturn d_MD_deed_47
    · refine VO_iload hC d_MD_deed_27 2 rfl ?_
      refine VO_const hC d_MD_deed_28 ?_
      refine VO_icmp_ne hC d_MD_deed_29 (fun _ => ?_) (fun _ => ?_)
      · refine VO_aload hC d_MD_deed_32 0 rfl ?_
        refine VO_getr (r := 61) hC fl_MD_16 sh_MD rfl d_MD_deed_33 ?_
        refine VO_iload hC d_MD_deed_36 1 rfl ?_
        refine VO_iaload hC ia_61 d_MD_deed_37 (fun x3 => ?_)
        refine VO_goto hC d_MD_deed_38 ?_
        exact VO_ireturn d_MD_deed_47
      · refine VO_aload hC d_MD_deed_41 0 rfl ?_
        refine VO_const hC d_MD_deed_42 ?_
        refine VO_callVI hC [.int (-2 : Int32)] [] ml_MD_104 d_MD_deed_44 yv_MD_no sh_MD rfl rfl (fun o h => M_MD_no hC.inj h) (by decide) rfl rfl (Nat.le_of_ble_eq_true rfl) (fun o2 => ?_)
        exact VO_ireturn d_MD_deed_47
set_option maxRecDepth 20000 in
theorem M_MD_deed {l : Launch} {D : va_G} {ad : Nat → Nat} {cI cL : ClassId} (hj : Inj ad) {a1 : Int32} {a2 : Int32} {s : St} {o : Int32 × St} (h : F_MD_deed a1 a2 s = some o) : Cn l D ad cI cL y_MD_deed b_MD_deed 3 (some .int) 2 [.ref (ad 58), .int a1, .int a2] s (some (.int o.1)) o.2 := by
  refine Cn_ofI hj (plainFor_of_name (by decide)) (Nat.le_of_ble_eq_true rfl) [(0, .ref (ad 58)), (1, .int a1), (2, .int a2)] rfl (fun G hC e1 e2 e3 e4 e5 hR => ?_)
  subst e1; subst e2; subst e3; subst e4; subst e5
  exact B_MD_deed hC a1 a2 s o h hR
