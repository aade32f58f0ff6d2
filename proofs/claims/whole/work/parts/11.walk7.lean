theorem d_MD_sortsBy_0 : PCi b_MD_sortsBy 0 0 1 := Or.inl ⟨0, by decide +kernel, by decide, rfl⟩
theorem d_MD_sortsBy_1 : PSi b_MD_sortsBy 1 2 2 := Or.inl ⟨2, by decide +kernel, rfl, rfl⟩
theorem d_MD_sortsBy_2 : PLi b_MD_sortsBy 2 2 3 := Or.inl ⟨2, by decide +kernel, rfl, rfl⟩
theorem d_MD_sortsBy_3 : PLa b_MD_sortsBy 3 0 4 := Or.inl ⟨0, by decide +kernel, rfl, rfl⟩
theorem d_MD_sortsBy_4 : DR b_MD_sortsBy 4 (.getfield 90) 3 7 := ⟨by decide +kernel, rfl⟩
theorem d_MD_sortsBy_7 : DJ b_MD_sortsBy 7 (.if_icmp .ge) 10 103 := ⟨96, by decide +kernel, rfl, by decide⟩
theorem d_MD_sortsBy_10 : PLa b_MD_sortsBy 10 0 11 := Or.inl ⟨0, by decide +kernel, rfl, rfl⟩
theorem d_MD_sortsBy_11 : PLi b_MD_sortsBy 11 1 12 := Or.inl ⟨1, by decide +kernel, rfl, rfl⟩
theorem d_MD_sortsBy_12 : PLi b_MD_sortsBy 12 2 13 := Or.inl ⟨2, by decide +kernel, rfl, rfl⟩
theorem d_MD_sortsBy_13 : DR b_MD_sortsBy 13 (.invokevirtual 253) 3 16 := ⟨by decide +kernel, rfl⟩
theorem d_MD_sortsBy_16 : PSi b_MD_sortsBy 16 3 17 := Or.inl ⟨3, by decide +kernel, rfl, rfl⟩
theorem d_MD_sortsBy_17 : PLi b_MD_sortsBy 17 2 18 := Or.inl ⟨2, by decide +kernel, rfl, rfl⟩
theorem d_MD_sortsBy_18 : PSi b_MD_sortsBy 18 4 20 := Or.inr ⟨by decide +kernel, rfl⟩
theorem d_MD_sortsBy_20 : PLi b_MD_sortsBy 20 4 22 := Or.inr ⟨by decide +kernel, rfl⟩
theorem d_MD_sortsBy_22 : DJ b_MD_sortsBy 22 (.ifCond .le) 25 76 := ⟨54, by decide +kernel, rfl, by decide⟩
theorem d_MD_sortsBy_25 : PLa b_MD_sortsBy 25 0 26 := Or.inl ⟨0, by decide +kernel, rfl, rfl⟩
theorem d_MD_sortsBy_26 : DR b_MD_sortsBy 26 (.getfield 75) 3 29 := ⟨by decide +kernel, rfl⟩
theorem d_MD_sortsBy_29 : PLi b_MD_sortsBy 29 4 31 := Or.inr ⟨by decide +kernel, rfl⟩
theorem d_MD_sortsBy_31 : PCi b_MD_sortsBy 31 1 32 := Or.inl ⟨1, by decide +kernel, by decide, rfl⟩
theorem d_MD_sortsBy_32 : DR b_MD_sortsBy 32 (.isub) 1 33 := ⟨by decide +kernel, rfl⟩
theorem d_MD_sortsBy_33 : DR b_MD_sortsBy 33 (.iaload) 1 34 := ⟨by decide +kernel, rfl⟩
theorem d_MD_sortsBy_34 : PLi b_MD_sortsBy 34 3 35 := Or.inl ⟨3, by decide +kernel, rfl, rfl⟩
theorem d_MD_sortsBy_35 : DJ b_MD_sortsBy 35 (.if_icmp .le) 38 76 := ⟨41, by decide +kernel, rfl, by decide⟩
theorem d_MD_sortsBy_38 : PLa b_MD_sortsBy 38 0 39 := Or.inl ⟨0, by decide +kernel, rfl, rfl⟩
theorem d_MD_sortsBy_39 : DR b_MD_sortsBy 39 (.getfield 75) 3 42 := ⟨by decide +kernel, rfl⟩
theorem d_MD_sortsBy_42 : PLi b_MD_sortsBy 42 4 44 := Or.inr ⟨by decide +kernel, rfl⟩
theorem d_MD_sortsBy_44 : PLa b_MD_sortsBy 44 0 45 := Or.inl ⟨0, by decide +kernel, rfl, rfl⟩
theorem d_MD_sortsBy_45 : DR b_MD_sortsBy 45 (.getfield 75) 3 48 := ⟨by decide +kernel, rfl⟩
theorem d_MD_sortsBy_48 : PLi b_MD_sortsBy 48 4 50 := Or.inr ⟨by decide +kernel, rfl⟩
theorem d_MD_sortsBy_50 : PCi b_MD_sortsBy 50 1 51 := Or.inl ⟨1, by decide +kernel, by decide, rfl⟩
theorem d_MD_sortsBy_51 : DR b_MD_sortsBy 51 (.isub) 1 52 := ⟨by decide +kernel, rfl⟩
theorem d_MD_sortsBy_52 : DR b_MD_sortsBy 52 (.iaload) 1 53 := ⟨by decide +kernel, rfl⟩
theorem d_MD_sortsBy_53 : DR b_MD_sortsBy 53 (.iastore) 1 54 := ⟨by decide +kernel, rfl⟩
theorem d_MD_sortsBy_54 : PLa b_MD_sortsBy 54 0 55 := Or.inl ⟨0, by decide +kernel, rfl, rfl⟩
theorem d_MD_sortsBy_55 : DR b_MD_sortsBy 55 (.getfield 59) 3 58 := ⟨by decide +kernel, rfl⟩
theorem d_MD_sortsBy_58 : PLi b_MD_sortsBy 58 4 60 := Or.inr ⟨by decide +kernel, rfl⟩
theorem d_MD_sortsBy_60 : PLa b_MD_sortsBy 60 0 61 := Or.inl ⟨0, by decide +kernel, rfl, rfl⟩
theorem d_MD_sortsBy_61 : DR b_MD_sortsBy 61 (.getfield 59) 3 64 := ⟨by decide +kernel, rfl⟩
theorem d_MD_sortsBy_64 : PLi b_MD_sortsBy 64 4 66 := Or.inr ⟨by decide +kernel, rfl⟩
theorem d_MD_sortsBy_66 : PCi b_MD_sortsBy 66 1 67 := Or.inl ⟨1, by decide +kernel, by decide, rfl⟩
theorem d_MD_sortsBy_67 : DR b_MD_sortsBy 67 (.isub) 1 68 := ⟨by decide +kernel, rfl⟩
theorem d_MD_sortsBy_68 : DR b_MD_sortsBy 68 (.iaload) 1 69 := ⟨by decide +kernel, rfl⟩
theorem d_MD_sortsBy_69 : DR b_MD_sortsBy 69 (.iastore) 1 70 := ⟨by decide +kernel, rfl⟩
theorem d_MD_sortsBy_70 : DR b_MD_sortsBy 70 (.iinc 4 (-1)) 3 73 := ⟨by decide +kernel, rfl⟩
theorem d_MD_sortsBy_73 : DJ b_MD_sortsBy 73 .goto 76 20 := ⟨-53, by decide +kernel, rfl, by decide⟩
theorem d_MD_sortsBy_76 : PLa b_MD_sortsBy 76 0 77 := Or.inl ⟨0, by decide +kernel, rfl, rfl⟩
theorem d_MD_sortsBy_77 : DR b_MD_sortsBy 77 (.getfield 75) 3 80 := ⟨by decide +kernel, rfl⟩
theorem d_MD_sortsBy_80 : PLi b_MD_sortsBy 80 4 82 := Or.inr ⟨by decide +kernel, rfl⟩
theorem d_MD_sortsBy_82 : PLi b_MD_sortsBy 82 3 83 := Or.inl ⟨3, by decide +kernel, rfl, rfl⟩
theorem d_MD_sortsBy_83 : DR b_MD_sortsBy 83 (.iastore) 1 84 := ⟨by decide +kernel, rfl⟩
theorem d_MD_sortsBy_84 : PLa b_MD_sortsBy 84 0 85 := Or.inl ⟨0, by decide +kernel, rfl, rfl⟩
theorem d_MD_sortsBy_85 : DR b_MD_sortsBy 85 (.getfield 59) 3 88 := ⟨by decide +kernel, rfl⟩
theorem d_MD_sortsBy_88 : PLi b_MD_sortsBy 88 4 90 := Or.inr ⟨by decide +kernel, rfl⟩
theorem d_MD_sortsBy_90 : PLa b_MD_sortsBy 90 0 91 := Or.inl ⟨0, by decide +kernel, rfl, rfl⟩
theorem d_MD_sortsBy_91 : DR b_MD_sortsBy 91 (.getfield 34) 3 94 := ⟨by decide +kernel, rfl⟩
theorem d_MD_sortsBy_94 : PLi b_MD_sortsBy 94 2 95 := Or.inl ⟨2, by decide +kernel, rfl, rfl⟩
theorem d_MD_sortsBy_95 : DR b_MD_sortsBy 95 (.iaload) 1 96 := ⟨by decide +kernel, rfl⟩
theorem d_MD_sortsBy_96 : DR b_MD_sortsBy 96 (.iastore) 1 97 := ⟨by decide +kernel, rfl⟩
theorem d_MD_sortsBy_97 : DR b_MD_sortsBy 97 (.iinc 2 1) 3 100 := ⟨by decide +kernel, rfl⟩
theorem d_MD_sortsBy_100 : DJ b_MD_sortsBy 100 .goto 103 2 := ⟨-98, by decide +kernel, rfl, by decide⟩
theorem d_MD_sortsBy_103 : DR b_MD_sortsBy 103 (.return_) 1 104 := ⟨by decide +kernel, rfl⟩
set_option maxRecDepth 20000 in
theorem B_MD_sortsBy_76 {G : MCx} (hC : C0 G "AccusedChooseModel" b_MD_sortsBy 5 2) {v1 : Int32} (K2 : Int32 × St → Option (St)) (hK2 : ∀ (w2 : Int32) (s : St), VO G (RV G b_MD_sortsBy) (K2 (w2, s)) 2 [(0, .ref (gad G 58)), (1, .int v1), (2, .int w2)] [] s) (v2 : Int32) (v3 : Int32) (v4 : Int32) (s : St) : VO G (RV G b_MD_sortsBy) (F_MD_sortsBy_76 K2 v1 v2 v3 v4 s) 76 [(0, .ref (gad G 58)), (1, .int v1), (2, .int v2), (3, .int v3), (4, .int v4)] [] s := by
  unfold F_MD_sortsBy_76
  refine VO_aload hC d_MD_sortsBy_76 0 rfl ?_
  refine VO_getr (r := 79) hC fl_MD_75 sh_MD rfl d_MD_sortsBy_77 ?_
  refine VO_iload hC d_MD_sortsBy_80 4 rfl ?_
  refine VO_iload hC d_MD_sortsBy_82 3 rfl ?_
  refine VO_iastore hC ia_79 d_MD_sortsBy_83 (fun s2 => ?_)
  refine VO_aload hC d_MD_sortsBy_84 0 rfl ?_
  refine VO_getr (r := 74) hC fl_MD_59 sh_MD rfl d_MD_sortsBy_85 ?_
  refine VO_iload hC d_MD_sortsBy_88 4 rfl ?_
  refine VO_aload hC d_MD_sortsBy_90 0 rfl ?_
  refine VO_getr (r := 67) hC fl_MD_34 sh_MD rfl d_MD_sortsBy_91 ?_
  refine VO_iload hC d_MD_sortsBy_94 2 rfl ?_
  refine VO_iaload hC ia_67 d_MD_sortsBy_95 (fun x3 => ?_)
  refine VO_iastore hC ia_74 d_MD_sortsBy_96 (fun s4 => ?_)
  refine VO_iinc hC d_MD_sortsBy_97 2 rfl (by decide : Int32.ofInt 1 = 1) [(0, .ref (gad G 58)), (1, .int v1), (3, .int v3), (4, .int v4)] rfl (by decide) ?_
  refine VO_goto hC d_MD_sortsBy_100 ?_
  exact VO_sub [1, 2, 0] rfl (hK2 (v2 + 1) s4)
set_option maxRecDepth 20000 in
theorem BH_MD_sortsBy_20 {G : MCx} (hC : C0 G "AccusedChooseModel" b_MD_sortsBy 5 2) {v1 : Int32} {v2 : Int32} {v3 : Int32} (K2 : Int32 × St → Option (St)) (hK2 : ∀ (w2 : Int32) (s : St), VO G (RV G b_MD_sortsBy) (K2 (w2, s)) 2 [(0, .ref (gad G 58)), (1, .int v1), (2, .int w2)] [] s) (K20 : Int32 × St → Option (St)) (hK20 : ∀ (w4 : Int32) (s : St), VO G (RV G b_MD_sortsBy) (K20 (w4, s)) 20 [(0, .ref (gad G 58)), (1, .int v1), (2, .int v2), (3, .int v3), (4, .int w4)] [] s) (v4 : Int32) (s : St) : VO G (RV G b_MD_sortsBy) (H_MD_sortsBy_20 K2 v1 v2 v3 K20 v4 s) 20 [(0, .ref (gad G 58)), (1, .int v1), (2, .int v2), (3, .int v3), (4, .int v4)] [] s := by
  unfold H_MD_sortsBy_20
  refine VO_iload hC d_MD_sortsBy_20 4 rfl ?_
  refine VO_if_le hC d_MD_sortsBy_22 (fun _ => ?_) (fun _ => ?_)
  · exact (B_MD_sortsBy_76 hC K2 hK2 v2 v3 v4 s)
  · refine VO_aload hC d_MD_sortsBy_25 0 rfl ?_
    refine VO_getr (r := 79) hC fl_MD_75 sh_MD rfl d_MD_sortsBy_26 ?_
    refine VO_iload hC d_MD_sortsBy_29 4 rfl ?_
    refine VO_const hC d_MD_sortsBy_31 ?_
    refine VO_isub hC d_MD_sortsBy_32 ?_
    refine VO_iaload hC ia_79 d_MD_sortsBy_33 (fun x5 => ?_)
    refine VO_iload hC d_MD_sortsBy_34 3 rfl ?_
    refine VO_icmp_le hC d_MD_sortsBy_35 (fun _ => ?_) (fun _ => ?_)
    · exact (B_MD_sortsBy_76 hC K2 hK2 v2 v3 v4 s)
    · refine VO_aload hC d_MD_sortsBy_38 0 rfl ?_
      refine VO_getr (r := 79) hC fl_MD_75 sh_MD rfl d_MD_sortsBy_39 ?_
      refine VO_iload hC d_MD_sortsBy_42 4 rfl ?_
      refine VO_aload hC d_MD_sortsBy_44 0 rfl ?_
      refine VO_getr (r := 79) hC fl_MD_75 sh_MD rfl d_MD_sortsBy_45 ?_
      refine VO_iload hC d_MD_sortsBy_48 4 rfl ?_
      refine VO_const hC d_MD_sortsBy_50 ?_
      refine VO_isub hC d_MD_sortsBy_51 ?_
      refine VO_iaload hC ia_79 d_MD_sortsBy_52 (fun x6 => ?_)
      refine VO_iastore hC ia_79 d_MD_sortsBy_53 (fun s7 => ?_)
      refine VO_aload hC d_MD_sortsBy_54 0 rfl ?_
      refine VO_getr (r := 74) hC fl_MD_59 sh_MD rfl d_MD_sortsBy_55 ?_
      refine VO_iload hC d_MD_sortsBy_58 4 rfl ?_
      refine VO_aload hC d_MD_sortsBy_60 0 rfl ?_
      refine VO_getr (r := 74) hC fl_MD_59 sh_MD rfl d_MD_sortsBy_61 ?_
      refine VO_iload hC d_MD_sortsBy_64 4 rfl ?_
      refine VO_const hC d_MD_sortsBy_66 ?_
      refine VO_isub hC d_MD_sortsBy_67 ?_
      refine VO_iaload hC ia_74 d_MD_sortsBy_68 (fun x8 => ?_)
      refine VO_iastore hC ia_74 d_MD_sortsBy_69 (fun s9 => ?_)
      refine VO_iincN hC d_MD_sortsBy_70 4 rfl (by decide : Int32.ofInt (-1) = -1) [(0, .ref (gad G 58)), (1, .int v1), (2, .int v2), (3, .int v3)] rfl (by decide) ?_
      refine VO_goto hC d_MD_sortsBy_73 ?_
      exact VO_sub [1, 2, 3, 4, 0] rfl (hK20 (v4 - 1) s9)
set_option maxRecDepth 20000 in
theorem B_MD_sortsBy_20 {G : MCx} (hC : C0 G "AccusedChooseModel" b_MD_sortsBy 5 2) {v1 : Int32} (K2 : Int32 × St → Option (St)) (hK2 : ∀ (w2 : Int32) (s : St), VO G (RV G b_MD_sortsBy) (K2 (w2, s)) 2 [(0, .ref (gad G 58)), (1, .int v1), (2, .int w2)] [] s) (v2 : Int32) (v3 : Int32) (v4 : Int32) (s : St) : VO G (RV G b_MD_sortsBy) (F_MD_sortsBy_20 K2 v1 v2 v3 v4 s) 20 [(0, .ref (gad G 58)), (1, .int v1), (2, .int v2), (3, .int v3), (4, .int v4)] [] s := by
  exact VO_fix (G_MD_sortsBy_20 K2 v1 v2 v3) 20 (fun q => [(0, .ref (gad G 58)), (1, .int v1), (2, .int v2), (3, .int v3), (4, .int q.1)]) (fun q => q.2) (fun K hK q => BH_MD_sortsBy_20 hC K2 hK2 K (fun w4 s => hK (w4, s)) q.1 q.2) FUEL (v4, s)
set_option maxRecDepth 20000 in
theorem BH_MD_sortsBy_2 {G : MCx} (hC : C0 G "AccusedChooseModel" b_MD_sortsBy 5 2) {v1 : Int32} (K2 : Int32 × St → Option (St)) (hK2 : ∀ (w2 : Int32) (s : St), VO G (RV G b_MD_sortsBy) (K2 (w2, s)) 2 [(0, .ref (gad G 58)), (1, .int v1), (2, .int w2)] [] s) (v2 : Int32) (s : St) : VO G (RV G b_MD_sortsBy) (H_MD_sortsBy_2 v1 K2 v2 s) 2 [(0, .ref (gad G 58)), (1, .int v1), (2, .int v2)] [] s := by
  unfold H_MD_sortsBy_2
  refine VO_iload hC d_MD_sortsBy_2 2 rfl ?_
  refine VO_aload hC d_MD_sortsBy_3 0 rfl ?_
  refine VO_geti hC fl_MD_90 sh_MD rfl d_MD_sortsBy_4 ?_
  refine VO_icmp_ge hC d_MD_sortsBy_7 (fun _ => ?_) (fun _ => ?_)
  · exact VO_return d_MD_sortsBy_103
  · refine VO_aload hC d_MD_sortsBy_10 0 rfl ?_
    refine VO_iload hC d_MD_sortsBy_11 1 rfl ?_
    refine VO_iload hC d_MD_sortsBy_12 2 rfl ?_
    refine VO_callVI hC [.int v1, .int v2] [] ml_MD_253 d_MD_sortsBy_13 yv_MD_keyBy sh_MD rfl rfl (fun o h => M_MD_keyBy hC.inj h) (by decide) rfl rfl (Nat.le_of_ble_eq_true rfl) (fun o1 => ?_)
    refine VO_istore hC d_MD_sortsBy_16 [(0, .ref (gad G 58)), (1, .int v1), (2, .int v2)] rfl (by decide) ?_
    refine VO_iload hC d_MD_sortsBy_17 3 rfl ?_
    refine VO_istore hC d_MD_sortsBy_18 [(3, .int o1.1), (0, .ref (gad G 58)), (1, .int v1), (2, .int v2)] rfl (by decide) ?_
    exact VO_sub [2, 3, 4, 1, 0] rfl (B_MD_sortsBy_20 hC K2 hK2 v2 o1.1 v2 o1.2)
set_option maxRecDepth 20000 in
theorem B_MD_sortsBy_2 {G : MCx} (hC : C0 G "AccusedChooseModel" b_MD_sortsBy 5 2) (v1 : Int32) (v2 : Int32) (s : St) : VO G (RV G b_MD_sortsBy) (F_MD_sortsBy_2 v1 v2 s) 2 [(0, .ref (gad G 58)), (1, .int v1), (2, .int v2)] [] s := by
  exact VO_fix (G_MD_sortsBy_2 v1) 2 (fun q => [(0, .ref (gad G 58)), (1, .int v1), (2, .int q.1)]) (fun q => q.2) (fun K hK q => BH_MD_sortsBy_2 hC K (fun w2 s => hK (w2, s)) q.1 q.2) FUEL (v2, s)
set_option maxRecDepth 20000 in
theorem B_MD_sortsBy {G : MCx} (hC : C0 G "AccusedChooseModel" b_MD_sortsBy 5 2) (a1 : Int32) (s : St) : VO G (RV G b_MD_sortsBy) (F_MD_sortsBy a1 s) 0 [(0, .ref (gad G 58)), (1, .int a1)] [] s := by
  unfold F_MD_sortsBy
  refine VO_const hC d_MD_sortsBy_0 ?_
  refine VO_istore hC d_MD_sortsBy_1 [(0, .ref (gad G 58)), (1, .int a1)] rfl (by decide) ?_
  exact VO_sub [1, 2, 0] rfl (B_MD_sortsBy_2 hC a1 (0 : Int32) s)
set_option maxRecDepth 20000 in
theorem M_MD_sortsBy {l : Launch} {D : va_G} {ad : Nat → Nat} {cI cL : ClassId} (hj : Inj ad) {a1 : Int32} {s : St} {o : St} (h : F_MD_sortsBy a1 s = some o) : Cn l D ad cI cL y_MD_sortsBy b_MD_sortsBy 5 none 2 [.ref (ad 58), .int a1] s none o := by
  refine Cn_ofV hj (plainFor_of_name (by decide)) (Nat.le_of_ble_eq_true rfl) [(0, .ref (ad 58)), (1, .int a1)] rfl (fun G hC e1 e2 e3 e4 e5 hR => ?_)
  subst e1; subst e2; subst e3; subst e4; subst e5
  exact B_MD_sortsBy hC a1 s o h hR
theorem d_MD_monthsBy_0 : PLa b_MD_monthsBy 0 0 1 := Or.inl ⟨0, by decide +kernel, rfl, rfl⟩
theorem d_MD_monthsBy_1 : PLi b_MD_monthsBy 1 1 2 := Or.inl ⟨1, by decide +kernel, rfl, rfl⟩
theorem d_MD_monthsBy_2 : DR b_MD_monthsBy 2 (.invokevirtual 256) 3 5 := ⟨by decide +kernel, rfl⟩
theorem d_MD_monthsBy_5 : PLa b_MD_monthsBy 5 0 6 := Or.inl ⟨0, by decide +kernel, rfl, rfl⟩
theorem d_MD_monthsBy_6 : DR b_MD_monthsBy 6 (.invokevirtual 209) 3 9 := ⟨by decide +kernel, rfl⟩
theorem d_MD_monthsBy_9 : PLa b_MD_monthsBy 9 0 10 := Or.inl ⟨0, by decide +kernel, rfl, rfl⟩
theorem d_MD_monthsBy_10 : DR b_MD_monthsBy 10 (.invokevirtual 218) 3 13 := ⟨by decide +kernel, rfl⟩
theorem d_MD_monthsBy_13 : DR b_MD_monthsBy 13 (.ireturn) 1 14 := ⟨by decide +kernel, rfl⟩
set_option maxRecDepth 20000 in
theorem B_MD_monthsBy {G : MCx} (hC : C0 G "AccusedChooseModel" b_MD_monthsBy 2 5) (a1 : Int32) (s : St) : VO G (RI G b_MD_monthsBy) (F_MD_monthsBy a1 s) 0 [(0, .ref (gad G 58)), (1, .int a1)] [] s := by
  unfold F_MD_monthsBy
  refine VO_aload hC d_MD_monthsBy_0 0 rfl ?_
  refine VO_iload hC d_MD_monthsBy_1 1 rfl ?_
  refine VO_callVV hC [.int a1] [] ml_MD_256 d_MD_monthsBy_2 yv_MD_sortsBy sh_MD rfl rfl (fun o h => M_MD_sortsBy hC.inj h) (by decide) rfl rfl (Nat.le_of_ble_eq_true rfl) (fun s1 => ?_)
  refine VO_aload hC d_MD_monthsBy_5 0 rfl ?_
  refine VO_callVV hC [] [] ml_MD_209 d_MD_monthsBy_6 yv_MD_goesBy sh_MD rfl rfl (fun o h => M_MD_goesBy hC.inj h) (by decide) rfl rfl (Nat.le_of_ble_eq_true rfl) (fun s2 => ?_)
  refine VO_aload hC d_MD_monthsBy_9 0 rfl ?_
  refine VO_callVI hC [] [] ml_MD_218 d_MD_monthsBy_10 yv_MD_allMonths sh_MD rfl rfl (fun o h => M_MD_allMonths hC.inj h) (by decide) rfl rfl (Nat.le_of_ble_eq_true rfl) (fun o3 => ?_)
  exact VO_ireturn d_MD_monthsBy_13
set_option maxRecDepth 20000 in
theorem M_MD_monthsBy {l : Launch} {D : va_G} {ad : Nat → Nat} {cI cL : ClassId} (hj : Inj ad) {a1 : Int32} {s : St} {o : Int32 × St} (h : F_MD_monthsBy a1 s = some o) : Cn l D ad cI cL y_MD_monthsBy b_MD_monthsBy 2 (some .int) 5 [.ref (ad 58), .int a1] s (some (.int o.1)) o.2 := by
  refine Cn_ofI hj (plainFor_of_name (by decide)) (Nat.le_of_ble_eq_true rfl) [(0, .ref (ad 58)), (1, .int a1)] rfl (fun G hC e1 e2 e3 e4 e5 hR => ?_)
  subst e1; subst e2; subst e3; subst e4; subst e5
  exact B_MD_monthsBy hC a1 s o h hR
theorem d_MD_unfair_0 : PCi b_MD_unfair 0 0 1 := Or.inl ⟨0, by decide +kernel, by decide, rfl⟩
theorem d_MD_unfair_1 : PSi b_MD_unfair 1 1 2 := Or.inl ⟨1, by decide +kernel, rfl, rfl⟩
theorem d_MD_unfair_2 : PLi b_MD_unfair 2 1 3 := Or.inl ⟨1, by decide +kernel, rfl, rfl⟩
theorem d_MD_unfair_3 : PLa b_MD_unfair 3 0 4 := Or.inl ⟨0, by decide +kernel, rfl, rfl⟩
theorem d_MD_unfair_4 : DR b_MD_unfair 4 (.getfield 90) 3 7 := ⟨by decide +kernel, rfl⟩
theorem d_MD_unfair_7 : DJ b_MD_unfair 7 (.if_icmp .ge) 10 74 := ⟨67, by decide +kernel, rfl, by decide⟩
theorem d_MD_unfair_10 : PCi b_MD_unfair 10 0 11 := Or.inl ⟨0, by decide +kernel, by decide, rfl⟩
theorem d_MD_unfair_11 : PSi b_MD_unfair 11 2 12 := Or.inl ⟨2, by decide +kernel, rfl, rfl⟩
theorem d_MD_unfair_12 : PLi b_MD_unfair 12 2 13 := Or.inl ⟨2, by decide +kernel, rfl, rfl⟩
theorem d_MD_unfair_13 : PLa b_MD_unfair 13 0 14 := Or.inl ⟨0, by decide +kernel, rfl, rfl⟩
theorem d_MD_unfair_14 : DR b_MD_unfair 14 (.getfield 90) 3 17 := ⟨by decide +kernel, rfl⟩
theorem d_MD_unfair_17 : DJ b_MD_unfair 17 (.if_icmp .ge) 20 68 := ⟨51, by decide +kernel, rfl, by decide⟩
theorem d_MD_unfair_20 : PLa b_MD_unfair 20 0 21 := Or.inl ⟨0, by decide +kernel, rfl, rfl⟩
theorem d_MD_unfair_21 : DR b_MD_unfair 21 (.getfield 25) 3 24 := ⟨by decide +kernel, rfl⟩
theorem d_MD_unfair_24 : PLi b_MD_unfair 24 1 25 := Or.inl ⟨1, by decide +kernel, rfl, rfl⟩
theorem d_MD_unfair_25 : DR b_MD_unfair 25 (.iaload) 1 26 := ⟨by decide +kernel, rfl⟩
theorem d_MD_unfair_26 : PCi b_MD_unfair 26 7 28 := Or.inr (Or.inl ⟨7, by decide +kernel, by decide, rfl⟩)
theorem d_MD_unfair_28 : DJ b_MD_unfair 28 (.if_icmp .ne) 31 62 := ⟨34, by decide +kernel, rfl, by decide⟩
theorem d_MD_unfair_31 : PLa b_MD_unfair 31 0 32 := Or.inl ⟨0, by decide +kernel, rfl, rfl⟩
theorem d_MD_unfair_32 : DR b_MD_unfair 32 (.getfield 25) 3 35 := ⟨by decide +kernel, rfl⟩
theorem d_MD_unfair_35 : PLi b_MD_unfair 35 2 36 := Or.inl ⟨2, by decide +kernel, rfl, rfl⟩
theorem d_MD_unfair_36 : DR b_MD_unfair 36 (.iaload) 1 37 := ⟨by decide +kernel, rfl⟩
theorem d_MD_unfair_37 : PCi b_MD_unfair 37 7 39 := Or.inr (Or.inl ⟨7, by decide +kernel, by decide, rfl⟩)
theorem d_MD_unfair_39 : DJ b_MD_unfair 39 (.if_icmp .eq) 42 62 := ⟨23, by decide +kernel, rfl, by decide⟩
theorem d_MD_unfair_42 : PLa b_MD_unfair 42 0 43 := Or.inl ⟨0, by decide +kernel, rfl, rfl⟩
theorem d_MD_unfair_43 : PLi b_MD_unfair 43 1 44 := Or.inl ⟨1, by decide +kernel, rfl, rfl⟩
theorem d_MD_unfair_44 : DR b_MD_unfair 44 (.invokevirtual 212) 3 47 := ⟨by decide +kernel, rfl⟩
theorem d_MD_unfair_47 : PLa b_MD_unfair 47 0 48 := Or.inl ⟨0, by decide +kernel, rfl, rfl⟩
theorem d_MD_unfair_48 : PLi b_MD_unfair 48 2 49 := Or.inl ⟨2, by decide +kernel, rfl, rfl⟩
theorem d_MD_unfair_49 : DR b_MD_unfair 49 (.invokevirtual 212) 3 52 := ⟨by decide +kernel, rfl⟩
theorem d_MD_unfair_52 : DJ b_MD_unfair 52 (.if_icmp .le) 55 62 := ⟨10, by decide +kernel, rfl, by decide⟩
theorem d_MD_unfair_55 : PCi b_MD_unfair 55 10 57 := Or.inr (Or.inl ⟨10, by decide +kernel, by decide, rfl⟩)
theorem d_MD_unfair_57 : PLi b_MD_unfair 57 1 58 := Or.inl ⟨1, by decide +kernel, rfl, rfl⟩
theorem d_MD_unfair_58 : DR b_MD_unfair 58 (.imul) 1 59 := ⟨by decide +kernel, rfl⟩
theorem d_MD_unfair_59 : PLi b_MD_unfair 59 2 60 := Or.inl ⟨2, by decide +kernel, rfl, rfl⟩
theorem d_MD_unfair_60 : DR b_MD_unfair 60 (.iadd) 1 61 := ⟨by decide +kernel, rfl⟩
theorem d_MD_unfair_61 : DR b_MD_unfair 61 (.ireturn) 1 62 := ⟨by decide +kernel, rfl⟩
theorem d_MD_unfair_62 : DR b_MD_unfair 62 (.iinc 2 1) 3 65 := ⟨by decide +kernel, rfl⟩
theorem d_MD_unfair_65 : DJ b_MD_unfair 65 .goto 68 12 := ⟨-53, by decide +kernel, rfl, by decide⟩
theorem d_MD_unfair_68 : DR b_MD_unfair 68 (.iinc 1 1) 3 71 := ⟨by decide +kernel, rfl⟩
theorem d_MD_unfair_71 : DJ b_MD_unfair 71 .goto 74 2 := ⟨-69, by decide +kernel, rfl, by decide⟩
theorem d_MD_unfair_74 : PCi b_MD_unfair 74 (-9) 76 := Or.inr (Or.inl ⟨(-9), by decide +kernel, by decide, rfl⟩)
theorem d_MD_unfair_76 : DR b_MD_unfair 76 (.ireturn) 1 77 := ⟨by decide +kernel, rfl⟩
set_option maxRecDepth 20000 in
theorem B_MD_unfair_62 {G : MCx} (hC : C0 G "AccusedChooseModel" b_MD_unfair 3 4) {v1 : Int32} (K2 : Int32 × St → Option (Int32 × St)) (hK2 : ∀ (w1 : Int32) (s : St), VO G (RI G b_MD_unfair) (K2 (w1, s)) 2 [(0, .ref (gad G 58)), (1, .int w1)] [] s) (K12 : Int32 × St → Option (Int32 × St)) (hK12 : ∀ (w2 : Int32) (s : St), VO G (RI G b_MD_unfair) (K12 (w2, s)) 12 [(0, .ref (gad G 58)), (1, .int v1), (2, .int w2)] [] s) (v2 : Int32) (s : St) : VO G (RI G b_MD_unfair) (F_MD_unfair_62 K2 K12 v1 v2 s) 62 [(0, .ref (gad G 58)), (1, .int v1), (2, .int v2)] [] s := by
  unfold F_MD_unfair_62
  refine VO_iinc hC d_MD_unfair_62 2 rfl (by decide : Int32.ofInt 1 = 1) [(0, .ref (gad G 58)), (1, .int v1)] rfl (by decide) ?_
  refine VO_goto hC d_MD_unfair_65 ?_
  exact VO_sub [1, 2, 0] rfl (hK12 (v2 + 1) s)
set_option maxRecDepth 20000 in
theorem BH_MD_unfair_12 {G : MCx} (hC : C0 G "AccusedChooseModel" b_MD_unfair 3 4) {v1 : Int32} (K2 : Int32 × St → Option (Int32 × St)) (hK2 : ∀ (w1 : Int32) (s : St), VO G (RI G b_MD_unfair) (K2 (w1, s)) 2 [(0, .ref (gad G 58)), (1, .int w1)] [] s) (K12 : Int32 × St → Option (Int32 × St)) (hK12 : ∀ (w2 : Int32) (s : St), VO G (RI G b_MD_unfair) (K12 (w2, s)) 12 [(0, .ref (gad G 58)), (1, .int v1), (2, .int w2)] [] s) (v2 : Int32) (s : St) : VO G (RI G b_MD_unfair) (H_MD_unfair_12 K2 v1 K12 v2 s) 12 [(0, .ref (gad G 58)), (1, .int v1), (2, .int v2)] [] s := by
  unfold H_MD_unfair_12
  refine VO_iload hC d_MD_unfair_12 2 rfl ?_
  refine VO_aload hC d_MD_unfair_13 0 rfl ?_
  refine VO_geti hC fl_MD_90 sh_MD rfl d_MD_unfair_14 ?_
  refine VO_icmp_ge hC d_MD_unfair_17 (fun _ => ?_) (fun _ => ?_)
  · refine VO_iinc hC d_MD_unfair_68 1 rfl (by decide : Int32.ofInt 1 = 1) [(0, .ref (gad G 58)), (2, .int v2)] rfl (by decide) ?_
    refine VO_goto hC d_MD_unfair_71 ?_
    exact VO_sub [1, 0] rfl (hK2 (v1 + 1) s)
  · refine VO_aload hC d_MD_unfair_20 0 rfl ?_
    refine VO_getr (r := 64) hC fl_MD_25 sh_MD rfl d_MD_unfair_21 ?_
    refine VO_iload hC d_MD_unfair_24 1 rfl ?_
    refine VO_iaload hC ia_64 d_MD_unfair_25 (fun x1 => ?_)
    refine VO_const hC d_MD_unfair_26 ?_
    refine VO_icmp_ne hC d_MD_unfair_28 (fun _ => ?_) (fun _ => ?_)
    · refine VO_aload hC d_MD_unfair_31 0 rfl ?_
      refine VO_getr (r := 64) hC fl_MD_25 sh_MD rfl d_MD_unfair_32 ?_
      refine VO_iload hC d_MD_unfair_35 2 rfl ?_
      refine VO_iaload hC ia_64 d_MD_unfair_36 (fun x2 => ?_)
      refine VO_const hC d_MD_unfair_37 ?_
      refine VO_icmp_eq hC d_MD_unfair_39 (fun _ => ?_) (fun _ => ?_)
      · exact (B_MD_unfair_62 hC K2 hK2 K12 hK12 v2 s)
      · refine VO_aload hC d_MD_unfair_42 0 rfl ?_
        refine VO_iload hC d_MD_unfair_43 1 rfl ?_
        refine VO_callVI hC [.int v1] [] ml_MD_212 d_MD_unfair_44 yv_MD_hasMonths sh_MD rfl rfl (fun o h => M_MD_hasMonths hC.inj h) (by decide) rfl rfl (Nat.le_of_ble_eq_true rfl) (fun o3 => ?_)
        refine VO_aload hC d_MD_unfair_47 0 rfl ?_
        refine VO_iload hC d_MD_unfair_48 2 rfl ?_
        refine VO_callVI hC [.int v2] [.int o3.1] ml_MD_212 d_MD_unfair_49 yv_MD_hasMonths sh_MD rfl rfl (fun o h => M_MD_hasMonths hC.inj h) (by decide) rfl rfl (Nat.le_of_ble_eq_true rfl) (fun o4 => ?_)
        refine VO_icmp_le hC d_MD_unfair_52 (fun _ => ?_) (fun _ => ?_)
        · exact (B_MD_unfair_62 hC K2 hK2 K12 hK12 v2 o4.2)
        · refine VO_const hC d_MD_unfair_55 ?_
          refine VO_iload hC d_MD_unfair_57 1 rfl ?_
          refine VO_imul hC d_MD_unfair_58 ?_
          refine VO_iload hC d_MD_unfair_59 2 rfl ?_
          refine VO_iadd hC d_MD_unfair_60 ?_
          exact VO_ireturn d_MD_unfair_61
    · exact (B_MD_unfair_62 hC K2 hK2 K12 hK12 v2 s)
set_option maxRecDepth 20000 in
theorem B_MD_unfair_12 {G : MCx} (hC : C0 G "AccusedChooseModel" b_MD_unfair 3 4) (K2 : Int32 × St → Option (Int32 × St)) (hK2 : ∀ (w1 : Int32) (s : St), VO G (RI G b_MD_unfair) (K2 (w1, s)) 2 [(0, .ref (gad G 58)), (1, .int w1)] [] s) (v1 : Int32) (v2 : Int32) (s : St) : VO G (RI G b_MD_unfair) (F_MD_unfair_12 K2 v1 v2 s) 12 [(0, .ref (gad G 58)), (1, .int v1), (2, .int v2)] [] s := by
  exact VO_fix (G_MD_unfair_12 K2 v1) 12 (fun q => [(0, .ref (gad G 58)), (1, .int v1), (2, .int q.1)]) (fun q => q.2) (fun K hK q => BH_MD_unfair_12 hC K2 hK2 K (fun w2 s => hK (w2, s)) q.1 q.2) FUEL (v2, s)
set_option maxRecDepth 20000 in
theorem BH_MD_unfair_2 {G : MCx} (hC : C0 G "AccusedChooseModel" b_MD_unfair 3 4) (K2 : Int32 × St → Option (Int32 × St)) (hK2 : ∀ (w1 : Int32) (s : St), VO G (RI G b_MD_unfair) (K2 (w1, s)) 2 [(0, .ref (gad G 58)), (1, .int w1)] [] s) (v1 : Int32) (s : St) : VO G (RI G b_MD_unfair) (H_MD_unfair_2 K2 v1 s) 2 [(0, .ref (gad G 58)), (1, .int v1)] [] s := by
  unfold H_MD_unfair_2
  refine VO_iload hC d_MD_unfair_2 1 rfl ?_
  refine VO_aload hC d_MD_unfair_3 0 rfl ?_
  refine VO_geti hC fl_MD_90 sh_MD rfl d_MD_unfair_4 ?_
  refine VO_icmp_ge hC d_MD_unfair_7 (fun _ => ?_) (fun _ => ?_)
  · refine VO_const hC d_MD_unfair_74 ?_
    exact VO_ireturn d_MD_unfair_76
  · refine VO_const hC d_MD_unfair_10 ?_
    refine VO_istore hC d_MD_unfair_11 [(0, .ref (gad G 58)), (1, .int v1)] rfl (by decide) ?_
    exact VO_sub [1, 2, 0] rfl (B_MD_unfair_12 hC K2 hK2 v1 (0 : Int32) s)
set_option maxRecDepth 20000 in
theorem B_MD_unfair_2 {G : MCx} (hC : C0 G "AccusedChooseModel" b_MD_unfair 3 4) (v1 : Int32) (s : St) : VO G (RI G b_MD_unfair) (F_MD_unfair_2 v1 s) 2 [(0, .ref (gad G 58)), (1, .int v1)] [] s := by
  exact VO_fix (G_MD_unfair_2) 2 (fun q => [(0, .ref (gad G 58)), (1, .int q.1)]) (fun q => q.2) (fun K hK q => BH_MD_unfair_2 hC K (fun w1 s => hK (w1, s)) q.1 q.2) FUEL (v1, s)
set_option maxRecDepth 20000 in
theorem B_MD_unfair {G : MCx} (hC : C0 G "AccusedChooseModel" b_MD_unfair 3 4) (s : St) : VO G (RI G b_MD_unfair) (F_MD_unfair s) 0 [(0, .ref (gad G 58))] [] s := by
  unfold F_MD_unfair
  refine VO_const hC d_MD_unfair_0 ?_
  refine VO_istore hC d_MD_unfair_1 [(0, .ref (gad G 58))] rfl (by decide) ?_
  exact VO_sub [1, 0] rfl (B_MD_unfair_2 hC (0 : Int32) s)
set_option maxRecDepth 20000 in
theorem M_MD_unfair {l : Launch} {D : va_G} {ad : Nat → Nat} {cI cL : ClassId} (hj : Inj ad) {s : St} {o : Int32 × St} (h : F_MD_unfair s = some o) : Cn l D ad cI cL y_MD_unfair b_MD_unfair 3 (some .int) 4 [.ref (ad 58)] s (some (.int o.1)) o.2 := by
  refine Cn_ofI hj (plainFor_of_name (by decide)) (Nat.le_of_ble_eq_true rfl) [(0, .ref (ad 58))] rfl (fun G hC e1 e2 e3 e4 e5 hR => ?_)
  subst e1; subst e2; subst e3; subst e4; subst e5
  exact B_MD_unfair hC s o h hR
theorem d_MD_rule_0 : PLi b_MD_rule 0 1 1 := Or.inl ⟨1, by decide +kernel, rfl, rfl⟩
theorem d_MD_rule_1 : PCi b_MD_rule 1 0 2 := Or.inl ⟨0, by decide +kernel, by decide, rfl⟩
theorem d_MD_rule_2 : PCi b_MD_rule 2 4 3 := Or.inl ⟨4, by decide +kernel, by decide, rfl⟩
theorem d_MD_rule_3 : DR b_MD_rule 3 (.invokestatic 115) 3 6 := ⟨by decide +kernel, rfl⟩
theorem d_MD_rule_6 : DJ b_MD_rule 6 (.ifCond .eq) 9 18 := ⟨12, by decide +kernel, rfl, by decide⟩
theorem d_MD_rule_9 : PLi b_MD_rule 9 2 10 := Or.inl ⟨2, by decide +kernel, rfl, rfl⟩
theorem d_MD_rule_10 : PCi b_MD_rule 10 0 11 := Or.inl ⟨0, by decide +kernel, by decide, rfl⟩
theorem d_MD_rule_11 : PCi b_MD_rule 11 1 12 := Or.inl ⟨1, by decide +kernel, by decide, rfl⟩
theorem d_MD_rule_12 : DR b_MD_rule 12 (.invokestatic 115) 3 15 := ⟨by decide +kernel, rfl⟩
theorem d_MD_rule_15 : DJ b_MD_rule 15 (.ifCond .ne) 18 25 := ⟨10, by decide +kernel, rfl, by decide⟩
theorem d_MD_rule_18 : PLa b_MD_rule 18 0 19 := Or.inl ⟨0, by decide +kernel, rfl, rfl⟩
theorem d_MD_rule_19 : PCi b_MD_rule 19 (-2) 21 := Or.inr (Or.inl ⟨(-2), by decide +kernel, by decide, rfl⟩)
theorem d_MD_rule_21 : DR b_MD_rule 21 (.invokevirtual 104) 3 24 := ⟨by decide +kernel, rfl⟩
theorem d_MD_rule_24 : DR b_MD_rule 24 (.ireturn) 1 25 := ⟨by decide +kernel, rfl⟩
theorem d_MD_rule_25 : PLa b_MD_rule 25 0 26 := Or.inl ⟨0, by decide +kernel, rfl, rfl⟩
theorem d_MD_rule_26 : PLi b_MD_rule 26 1 27 := Or.inl ⟨1, by decide +kernel, rfl, rfl⟩
theorem d_MD_rule_27 : DR b_MD_rule 27 (.invokevirtual 259) 3 30 := ⟨by decide +kernel, rfl⟩
theorem d_MD_rule_30 : PSi b_MD_rule 30 3 31 := Or.inl ⟨3, by decide +kernel, rfl, rfl⟩
theorem d_MD_rule_31 : PLi b_MD_rule 31 2 32 := Or.inl ⟨2, by decide +kernel, rfl, rfl⟩
theorem d_MD_rule_32 : DJ b_MD_rule 32 (.ifCond .ne) 35 39 := ⟨7, by decide +kernel, rfl, by decide⟩
theorem d_MD_rule_35 : PLi b_MD_rule 35 3 36 := Or.inl ⟨3, by decide +kernel, rfl, rfl⟩
theorem d_MD_rule_36 : DJ b_MD_rule 36 .goto 39 43 := ⟨7, by decide +kernel, rfl, by decide⟩
theorem d_MD_rule_39 : PLa b_MD_rule 39 0 40 := Or.inl ⟨0, by decide +kernel, rfl, rfl⟩
theorem d_MD_rule_40 : DR b_MD_rule 40 (.invokevirtual 262) 3 43 := ⟨by decide +kernel, rfl⟩
theorem d_MD_rule_43 : DR b_MD_rule 43 (.ireturn) 1 44 := ⟨by decide +kernel, rfl⟩
set_option maxRecDepth 20000 in
theorem B_MD_rule_18 {G : MCx} (hC : C0 G "AccusedChooseModel" b_MD_rule 4 6) (s : St) : VO G (RI G b_MD_rule) (F_MD_rule_18 s) 18 [(0, .ref (gad G 58))] [] s := by
  unfold F_MD_rule_18
  refine VO_aload hC d_MD_rule_18 0 rfl ?_
  refine VO_const hC d_MD_rule_19 ?_
  refine VO_callVI hC [.int (-2 : Int32)] [] ml_MD_104 d_MD_rule_21 yv_MD_no sh_MD rfl rfl (fun o h => M_MD_no hC.inj h) (by decide) rfl rfl (Nat.le_of_ble_eq_true rfl) (fun o2 => ?_)
  exact VO_ireturn d_MD_rule_24
set_option maxRecDepth 20000 in
theorem B_MD_rule {G : MCx} (hC : C0 G "AccusedChooseModel" b_MD_rule 4 6) (a1 : Int32) (a2 : Int32) (s : St) : VO G (RI G b_MD_rule) (F_MD_rule a1 a2 s) 0 [(0, .ref (gad G 58)), (1, .int a1), (2, .int a2)] [] s := by
  unfold F_MD_rule
  refine VO_iload hC d_MD_rule_0 1 rfl ?_
  refine VO_const hC d_MD_rule_1 ?_
  refine VO_const hC d_MD_rule_2 ?_
  refine VO_callSI hC [.int a1, .int (0 : Int32), .int (4 : Int32)] [] ml_MD_115 d_MD_rule_3 ys_MD_isIn (fun o h => M_MD_isIn hC.inj h) (by decide) rfl rfl (Nat.le_of_ble_eq_true rfl) (fun o1 => ?_)
  refine VO_if_eq hC d_MD_rule_6 (fun _ => ?_) (fun _ => ?_)
  · exact VO_sub [0] rfl (B_MD_rule_18 hC o1.2)
  · refine VO_iload hC d_MD_rule_9 2 rfl ?_
    refine VO_const hC d_MD_rule_10 ?_
    refine VO_const hC d_MD_rule_11 ?_
    refine VO_callSI hC [.int a2, .int (0 : Int32), .int (1 : Int32)] [] ml_MD_115 d_MD_rule_12 ys_MD_isIn (fun o h => M_MD_isIn hC.inj h) (by decide) rfl rfl (Nat.le_of_ble_eq_true rfl) (fun o3 => ?_)
    refine VO_if_ne hC d_MD_rule_15 (fun _ => ?_) (fun _ => ?_)
    · exact VO_sub [0] rfl (B_MD_rule_18 hC o3.2)
    · refine VO_aload hC d_MD_rule_25 0 rfl ?_
      refine VO_iload hC d_MD_rule_26 1 rfl ?_
      refine VO_callVI hC [.int a1] [] ml_MD_259 d_MD_rule_27 yv_MD_monthsBy sh_MD rfl rfl (fun o h => M_MD_monthsBy hC.inj h) (by decide) rfl rfl (Nat.le_of_ble_eq_true rfl) (fun o4 => ?_)
      refine VO_istore hC d_MD_rule_30 [(0, .ref (gad G 58)), (1, .int a1), (2, .int a2)] rfl (by decide) ?_
      refine VO_iload hC d_MD_rule_31 3 rfl ?_
      refine VO_if_ne hC d_MD_rule_32 (fun _ => ?_) (fun _ => ?_)
      · refine VO_iload hC d_MD_rule_35 0 rfl ?_
        refine VO_goto hC d_MD_rule_36 ?_
        exact VO_ireturn d_MD_rule_43
      · refine VO_aload hC d_MD_rule_39 1 rfl ?_
        refine VO_callVI hC [] [] ml_MD_262 d_MD_rule_40 yv_MD_unfair sh_MD rfl rfl (fun o h => M_MD_unfair hC.inj h) (by decide) rfl rfl (Nat.le_of_ble_eq_true rfl) (fun o5 => ?_)
        exact VO_ireturn d_MD_rule_43
set_option maxRecDepth 20000 in
theorem M_MD_rule {l : Launch} {D : va_G} {ad : Nat → Nat} {cI cL : ClassId} (hj : Inj ad) {a1 : Int32} {a2 : Int32} {s : St} {o : Int32 × St} (h : F_MD_rule a1 a2 s = some o) : Cn l D ad cI cL y_MD_rule b_MD_rule 4 (some .int) 6 [.ref (ad 58), .int a1, .int a2] s (some (.int o.1)) o.2 := by
  refine Cn_ofI hj (plainFor_of_name (by decide)) (Nat.le_of_ble_eq_true rfl) [(0, .ref (ad 58)), (1, .int a1), (2, .int a2)] rfl (fun G hC e1 e2 e3 e4 e5 hR => ?_)
  subst e1; subst e2; subst e3; subst e4; subst e5
  exact B_MD_rule hC a1 a2 s o h hR
theorem d_MD_bestRule_0 : PCi b_MD_bestRule 0 0 1 := Or.inl ⟨0, by decide +kernel, by decide, rfl⟩
theorem d_MD_bestRule_1 : PSi b_MD_bestRule 1 1 2 := Or.inl ⟨1, by decide +kernel, rfl, rfl⟩
theorem d_MD_bestRule_2 : PCi b_MD_bestRule 2 1 3 := Or.inl ⟨1, by decide +kernel, by decide, rfl⟩
theorem d_MD_bestRule_3 : PSi b_MD_bestRule 3 2 4 := Or.inl ⟨2, by decide +kernel, rfl, rfl⟩
theorem d_MD_bestRule_4 : PLi b_MD_bestRule 4 2 5 := Or.inl ⟨2, by decide +kernel, rfl, rfl⟩
theorem d_MD_bestRule_5 : PCi b_MD_bestRule 5 5 6 := Or.inl ⟨5, by decide +kernel, by decide, rfl⟩
theorem d_MD_bestRule_6 : DJ b_MD_bestRule 6 (.if_icmp .ge) 9 34 := ⟨28, by decide +kernel, rfl, by decide⟩
theorem d_MD_bestRule_9 : PLa b_MD_bestRule 9 0 10 := Or.inl ⟨0, by decide +kernel, rfl, rfl⟩
theorem d_MD_bestRule_10 : PLi b_MD_bestRule 10 2 11 := Or.inl ⟨2, by decide +kernel, rfl, rfl⟩
theorem d_MD_bestRule_11 : DR b_MD_bestRule 11 (.invokevirtual 259) 3 14 := ⟨by decide +kernel, rfl⟩
theorem d_MD_bestRule_14 : PLa b_MD_bestRule 14 0 15 := Or.inl ⟨0, by decide +kernel, rfl, rfl⟩
theorem d_MD_bestRule_15 : PLi b_MD_bestRule 15 1 16 := Or.inl ⟨1, by decide +kernel, rfl, rfl⟩
theorem d_MD_bestRule_16 : DR b_MD_bestRule 16 (.invokevirtual 259) 3 19 := ⟨by decide +kernel, rfl⟩
theorem d_MD_bestRule_19 : DJ b_MD_bestRule 19 (.if_icmp .ge) 22 26 := ⟨7, by decide +kernel, rfl, by decide⟩
theorem d_MD_bestRule_22 : PLi b_MD_bestRule 22 2 23 := Or.inl ⟨2, by decide +kernel, rfl, rfl⟩
theorem d_MD_bestRule_23 : DJ b_MD_bestRule 23 .goto 26 27 := ⟨4, by decide +kernel, rfl, by decide⟩
theorem d_MD_bestRule_26 : PLi b_MD_bestRule 26 1 27 := Or.inl ⟨1, by decide +kernel, rfl, rfl⟩
theorem d_MD_bestRule_27 : PSi b_MD_bestRule 27 1 28 := Or.inl ⟨1, by decide +kernel, rfl, rfl⟩
theorem d_MD_bestRule_28 : DR b_MD_bestRule 28 (.iinc 2 1) 3 31 := ⟨by decide +kernel, rfl⟩
theorem d_MD_bestRule_31 : DJ b_MD_bestRule 31 .goto 34 4 := ⟨-27, by decide +kernel, rfl, by decide⟩
theorem d_MD_bestRule_34 : PLi b_MD_bestRule 34 1 35 := Or.inl ⟨1, by decide +kernel, rfl, rfl⟩
theorem d_MD_bestRule_35 : DR b_MD_bestRule 35 (.ireturn) 1 36 := ⟨by decide +kernel, rfl⟩
set_option maxRecDepth 20000 in
theorem B_MD_bestRule_27 {G : MCx} (hC : C0 G "AccusedChooseModel" b_MD_bestRule 3 6) (K4 : Int32 × Int32 × St → Option (Int32 × St)) (hK4 : ∀ (w1 : Int32) (w2 : Int32) (s : St), VO G (RI G b_MD_bestRule) (K4 (w1, w2, s)) 4 [(0, .ref (gad G 58)), (1, .int w1), (2, .int w2)] [] s) (v2 : Int32) (z0 : Int32) (s : St) : VO G (RI G b_MD_bestRule) (F_MD_bestRule_27 K4 v2 z0 s) 27 [(0, .ref (gad G 58)), (2, .int v2)] [.int z0] s := by
  unfold F_MD_bestRule_27
  refine VO_istore hC d_MD_bestRule_27 [(0, .ref (gad G 58)), (2, .int v2)] rfl (by decide) ?_
  refine VO_iinc hC d_MD_bestRule_28 2 rfl (by decide : Int32.ofInt 1 = 1) [(1, .int z0), (0, .ref (gad G 58))] rfl (by decide) ?_
  refine VO_goto hC d_MD_bestRule_31 ?_
  exact VO_sub [2, 1, 0] rfl (hK4 z0 (v2 + 1) s)
set_option maxRecDepth 20000 in
theorem BH_MD_bestRule_4 {G : MCx} (hC : C0 G "AccusedChooseModel" b_MD_bestRule 3 6) (K4 : Int32 × Int32 × St → Option (Int32 × St)) (hK4 : ∀ (w1 : Int32) (w2 : Int32) (s : St), VO G (RI G b_MD_bestRule) (K4 (w1, w2, s)) 4 [(0, .ref (gad G 58)), (1, .int w1), (2, .int w2)] [] s) (v1 : Int32) (v2 : Int32) (s : St) : VO G (RI G b_MD_bestRule) (H_MD_bestRule_4 K4 v1 v2 s) 4 [(0, .ref (gad G 58)), (1, .int v1), (2, .int v2)] [] s := by
  unfold H_MD_bestRule_4
  refine VO_iload hC d_MD_bestRule_4 2 rfl ?_
  refine VO_const hC d_MD_bestRule_5 ?_
  refine VO_icmp_ge hC d_MD_bestRule_6 (fun _ => ?_) (fun _ => ?_)
  · refine VO_iload hC d_MD_bestRule_34 1 rfl ?_
    exact VO_ireturn d_MD_bestRule_35
  · refine VO_aload hC d_MD_bestRule_9 0 rfl ?_
    refine VO_iload hC d_MD_bestRule_10 2 rfl ?_
    refine VO_callVI hC [.int v2] [] ml_MD_259 d_MD_bestRule_11 yv_MD_monthsBy sh_MD rfl rfl (fun o h => M_MD_monthsBy hC.inj h) (by decide) rfl rfl (Nat.le_of_ble_eq_true rfl) (fun o1 => ?_)
    refine VO_aload hC d_MD_bestRule_14 0 rfl ?_
    refine VO_iload hC d_MD_bestRule_15 1 rfl ?_
    refine VO_callVI hC [.int v1] [.int o1.1] ml_MD_259 d_MD_bestRule_16 yv_MD_monthsBy sh_MD rfl rfl (fun o h => M_MD_monthsBy hC.inj h) (by decide) rfl rfl (Nat.le_of_ble_eq_true rfl) (fun o2 => ?_)
    refine VO_icmp_ge hC d_MD_bestRule_19 (fun _ => ?_) (fun _ => ?_)
    · refine VO_iload hC d_MD_bestRule_26 1 rfl ?_
      exact VO_sub [0, 2] rfl (B_MD_bestRule_27 hC K4 hK4 v2 v1 o2.2)
    · refine VO_iload hC d_MD_bestRule_22 2 rfl ?_
      refine VO_goto hC d_MD_bestRule_23 ?_
      exact VO_sub [0, 2] rfl (B_MD_bestRule_27 hC K4 hK4 v2 v2 o2.2)
set_option maxRecDepth 20000 in
theorem B_MD_bestRule_4 {G : MCx} (hC : C0 G "AccusedChooseModel" b_MD_bestRule 3 6) (v1 : Int32) (v2 : Int32) (s : St) : VO G (RI G b_MD_bestRule) (F_MD_bestRule_4 v1 v2 s) 4 [(0, .ref (gad G 58)), (1, .int v1), (2, .int v2)] [] s := by
  exact VO_fix (G_MD_bestRule_4) 4 (fun q => [(0, .ref (gad G 58)), (1, .int q.1), (2, .int q.2.1)]) (fun q => q.2.2) (fun K hK q => BH_MD_bestRule_4 hC K (fun w1 w2 s => hK (w1, w2, s)) q.1 q.2.1 q.2.2) FUEL (v1, v2, s)
set_option maxRecDepth 20000 in
theorem B_MD_bestRule {G : MCx} (hC : C0 G "AccusedChooseModel" b_MD_bestRule 3 6) (s : St) : VO G (RI G b_MD_bestRule) (F_MD_bestRule s) 0 [(0, .ref (gad G 58))] [] s := by
  unfold F_MD_bestRule
  refine VO_const hC d_MD_bestRule_0 ?_
  refine VO_istore hC d_MD_bestRule_1 [(0, .ref (gad G 58))] rfl (by decide) ?_
  refine VO_const hC d_MD_bestRule_2 ?_
  refine VO_istore hC d_MD_bestRule_3 [(1, .int (0 : Int32)), (0, .ref (gad G 58))] rfl (by decide) ?_
  exact VO_sub [2, 1, 0] rfl (B_MD_bestRule_4 hC (0 : Int32) (1 : Int32) s)
set_option maxRecDepth 20000 in
theorem M_MD_bestRule {l : Launch} {D : va_G} {ad : Nat → Nat} {cI cL : ClassId} (hj : Inj ad) {s : St} {o : Int32 × St} (h : F_MD_bestRule s = some o) : Cn l D ad cI cL y_MD_bestRule b_MD_bestRule 3 (some .int) 6 [.ref (ad 58)] s (some (.int o.1)) o.2 := by
  refine Cn_ofI hj (plainFor_of_name (by decide)) (Nat.le_of_ble_eq_true rfl) [(0, .ref (ad 58))] rfl (fun G hC e1 e2 e3 e4 e5 hR => ?_)
  subst e1; subst e2; subst e3; subst e4; subst e5
  exact B_MD_bestRule hC s o h hR
theorem d_MD_monthsAt_0 : PCi b_MD_monthsAt 0 0 1 := Or.inl ⟨0, by decide +kernel, by decide, rfl⟩
theorem d_MD_monthsAt_1 : PSi b_MD_monthsAt 1 3 2 := Or.inl ⟨3, by decide +kernel, rfl, rfl⟩
theorem d_MD_monthsAt_2 : PCi b_MD_monthsAt 2 0 3 := Or.inl ⟨0, by decide +kernel, by decide, rfl⟩
theorem d_MD_monthsAt_3 : PSi b_MD_monthsAt 3 4 5 := Or.inr ⟨by decide +kernel, rfl⟩
theorem d_MD_monthsAt_5 : PLi b_MD_monthsAt 5 4 7 := Or.inr ⟨by decide +kernel, rfl⟩
theorem d_MD_monthsAt_7 : PLa b_MD_monthsAt 7 0 8 := Or.inl ⟨0, by decide +kernel, rfl, rfl⟩
theorem d_MD_monthsAt_8 : DR b_MD_monthsAt 8 (.getfield 90) 3 11 := ⟨by decide +kernel, rfl⟩
theorem d_MD_monthsAt_11 : DJ b_MD_monthsAt 11 (.if_icmp .ge) 14 61 := ⟨50, by decide +kernel, rfl, by decide⟩
theorem d_MD_monthsAt_14 : PLa b_MD_monthsAt 14 0 15 := Or.inl ⟨0, by decide +kernel, rfl, rfl⟩
theorem d_MD_monthsAt_15 : DR b_MD_monthsAt 15 (.getfield 34) 3 18 := ⟨by decide +kernel, rfl⟩
theorem d_MD_monthsAt_18 : PLi b_MD_monthsAt 18 4 20 := Or.inr ⟨by decide +kernel, rfl⟩
theorem d_MD_monthsAt_20 : DR b_MD_monthsAt 20 (.iaload) 1 21 := ⟨by decide +kernel, rfl⟩
theorem d_MD_monthsAt_21 : PLi b_MD_monthsAt 21 1 22 := Or.inl ⟨1, by decide +kernel, rfl, rfl⟩
theorem d_MD_monthsAt_22 : DJ b_MD_monthsAt 22 (.if_icmp .ne) 25 28 := ⟨6, by decide +kernel, rfl, by decide⟩
theorem d_MD_monthsAt_25 : DJ b_MD_monthsAt 25 .goto 28 55 := ⟨30, by decide +kernel, rfl, by decide⟩
theorem d_MD_monthsAt_28 : PLa b_MD_monthsAt 28 0 29 := Or.inl ⟨0, by decide +kernel, rfl, rfl⟩
theorem d_MD_monthsAt_29 : DR b_MD_monthsAt 29 (.getfield 59) 3 32 := ⟨by decide +kernel, rfl⟩
theorem d_MD_monthsAt_32 : PLi b_MD_monthsAt 32 3 33 := Or.inl ⟨3, by decide +kernel, rfl, rfl⟩
theorem d_MD_monthsAt_33 : PLi b_MD_monthsAt 33 2 34 := Or.inl ⟨2, by decide +kernel, rfl, rfl⟩
theorem d_MD_monthsAt_34 : DJ b_MD_monthsAt 34 (.if_icmp .ge) 37 41 := ⟨7, by decide +kernel, rfl, by decide⟩
theorem d_MD_monthsAt_37 : PLi b_MD_monthsAt 37 3 38 := Or.inl ⟨3, by decide +kernel, rfl, rfl⟩
theorem d_MD_monthsAt_38 : DJ b_MD_monthsAt 38 .goto 41 44 := ⟨6, by decide +kernel, rfl, by decide⟩
theorem d_MD_monthsAt_41 : PLi b_MD_monthsAt 41 3 42 := Or.inl ⟨3, by decide +kernel, rfl, rfl⟩
theorem d_MD_monthsAt_42 : PCi b_MD_monthsAt 42 1 43 := Or.inl ⟨1, by decide +kernel, by decide, rfl⟩
theorem d_MD_monthsAt_43 : DR b_MD_monthsAt 43 (.iadd) 1 44 := ⟨by decide +kernel, rfl⟩
theorem d_MD_monthsAt_44 : PLa b_MD_monthsAt 44 0 45 := Or.inl ⟨0, by decide +kernel, rfl, rfl⟩
theorem d_MD_monthsAt_45 : DR b_MD_monthsAt 45 (.getfield 34) 3 48 := ⟨by decide +kernel, rfl⟩
theorem d_MD_monthsAt_48 : PLi b_MD_monthsAt 48 4 50 := Or.inr ⟨by decide +kernel, rfl⟩
theorem d_MD_monthsAt_50 : DR b_MD_monthsAt 50 (.iaload) 1 51 := ⟨by decide +kernel, rfl⟩
theorem d_MD_monthsAt_51 : DR b_MD_monthsAt 51 (.iastore) 1 52 := ⟨by decide +kernel, rfl⟩
theorem d_MD_monthsAt_52 : DR b_MD_monthsAt 52 (.iinc 3 1) 3 55 := ⟨by decide +kernel, rfl⟩
theorem d_MD_monthsAt_55 : DR b_MD_monthsAt 55 (.iinc 4 1) 3 58 := ⟨by decide +kernel, rfl⟩
theorem d_MD_monthsAt_58 : DJ b_MD_monthsAt 58 .goto 61 5 := ⟨-53, by decide +kernel, rfl, by decide⟩
theorem d_MD_monthsAt_61 : PLa b_MD_monthsAt 61 0 62 := Or.inl ⟨0, by decide +kernel, rfl, rfl⟩
theorem d_MD_monthsAt_62 : DR b_MD_monthsAt 62 (.getfield 59) 3 65 := ⟨by decide +kernel, rfl⟩
theorem d_MD_monthsAt_65 : PLi b_MD_monthsAt 65 2 66 := Or.inl ⟨2, by decide +kernel, rfl, rfl⟩
theorem d_MD_monthsAt_66 : PLi b_MD_monthsAt 66 1 67 := Or.inl ⟨1, by decide +kernel, rfl, rfl⟩
theorem d_MD_monthsAt_67 : DR b_MD_monthsAt 67 (.iastore) 1 68 := ⟨by decide +kernel, rfl⟩
theorem d_MD_monthsAt_68 : PLa b_MD_monthsAt 68 0 69 := Or.inl ⟨0, by decide +kernel, rfl, rfl⟩
theorem d_MD_monthsAt_69 : DR b_MD_monthsAt 69 (.invokevirtual 209) 3 72 := ⟨by decide +kernel, rfl⟩
theorem d_MD_monthsAt_72 : PLa b_MD_monthsAt 72 0 73 := Or.inl ⟨0, by decide +kernel, rfl, rfl⟩
theorem d_MD_monthsAt_73 : PLi b_MD_monthsAt 73 1 74 := Or.inl ⟨1, by decide +kernel, rfl, rfl⟩
theorem d_MD_monthsAt_74 : DR b_MD_monthsAt 74 (.invokevirtual 212) 3 77 := ⟨by decide +kernel, rfl⟩
theorem d_MD_monthsAt_77 : DR b_MD_monthsAt 77 (.ireturn) 1 78 := ⟨by decide +kernel, rfl⟩
set_option maxRecDepth 20000 in
theorem B_MD_monthsAt_55 {G : MCx} (hC : C0 G "AccusedChooseModel" b_MD_monthsAt 5 5) {v1 : Int32} {v2 : Int32} (K5 : Int32 × Int32 × St → Option (Int32 × St)) (hK5 : ∀ (w3 : Int32) (w4 : Int32) (s : St), VO G (RI G b_MD_monthsAt) (K5 (w3, w4, s)) 5 [(0, .ref (gad G 58)), (1, .int v1), (2, .int v2), (3, .int w3), (4, .int w4)] [] s) (v3 : Int32) (v4 : Int32) (s : St) : VO G (RI G b_MD_monthsAt) (F_MD_monthsAt_55 K5 v1 v2 v3 v4 s) 55 [(0, .ref (gad G 58)), (1, .int v1), (2, .int v2), (3, .int v3), (4, .int v4)] [] s := by
  unfold F_MD_monthsAt_55
  refine VO_iinc hC d_MD_monthsAt_55 4 rfl (by decide : Int32.ofInt 1 = 1) [(0, .ref (gad G 58)), (1, .int v1), (2, .int v2), (3, .int v3)] rfl (by decide) ?_
  refine VO_goto hC d_MD_monthsAt_58 ?_
  exact VO_sub [1, 2, 3, 4, 0] rfl (hK5 v3 (v4 + 1) s)
set_option maxRecDepth 20000 in
theorem B_MD_monthsAt_44 {G : MCx} (hC : C0 G "AccusedChooseModel" b_MD_monthsAt 5 5) {v1 : Int32} {v2 : Int32} (K5 : Int32 × Int32 × St → Option (Int32 × St)) (hK5 : ∀ (w3 : Int32) (w4 : Int32) (s : St), VO G (RI G b_MD_monthsAt) (K5 (w3, w4, s)) 5 [(0, .ref (gad G 58)), (1, .int v1), (2, .int v2), (3, .int w3), (4, .int w4)] [] s) (v3 : Int32) (v4 : Int32) (z0 : Int32) (s : St) : VO G (RI G b_MD_monthsAt) (F_MD_monthsAt_44 K5 v1 v2 v3 v4 z0 s) 44 [(0, .ref (gad G 58)), (1, .int v1), (2, .int v2), (3, .int v3), (4, .int v4)] [.int z0, .ref (gad G 74)] s := by
  unfold F_MD_monthsAt_44
  refine VO_aload hC d_MD_monthsAt_44 0 rfl ?_
  refine VO_getr (r := 67) hC fl_MD_34 sh_MD rfl d_MD_monthsAt_45 ?_
  refine VO_iload hC d_MD_monthsAt_48 4 rfl ?_
  refine VO_iaload hC ia_67 d_MD_monthsAt_50 (fun x5 => ?_)
  refine VO_iastore hC ia_74 d_MD_monthsAt_51 (fun s6 => ?_)
  refine VO_iinc hC d_MD_monthsAt_52 3 rfl (by decide : Int32.ofInt 1 = 1) [(0, .ref (gad G 58)), (1, .int v1), (2, .int v2), (4, .int v4)] rfl (by decide) ?_
  exact VO_sub [1, 2, 3, 0, 4] rfl (B_MD_monthsAt_55 hC K5 hK5 (v3 + 1) v4 s6)
set_option maxRecDepth 20000 in
theorem BH_MD_monthsAt_5 {G : MCx} (hC : C0 G "AccusedChooseModel" b_MD_monthsAt 5 5) {v1 : Int32} {v2 : Int32} (K5 : Int32 × Int32 × St → Option (Int32 × St)) (hK5 : ∀ (w3 : Int32) (w4 : Int32) (s : St), VO G (RI G b_MD_monthsAt) (K5 (w3, w4, s)) 5 [(0, .ref (gad G 58)), (1, .int v1), (2, .int v2), (3, .int w3), (4, .int w4)] [] s) (v3 : Int32) (v4 : Int32) (s : St) : VO G (RI G b_MD_monthsAt) (H_MD_monthsAt_5 v1 v2 K5 v3 v4 s) 5 [(0, .ref (gad G 58)), (1, .int v1), (2, .int v2), (3, .int v3), (4, .int v4)] [] s := by
  unfold H_MD_monthsAt_5
  refine VO_iload hC d_MD_monthsAt_5 4 rfl ?_
  refine VO_aload hC d_MD_monthsAt_7 0 rfl ?_
  refine VO_geti hC fl_MD_90 sh_MD rfl d_MD_monthsAt_8 ?_
  refine VO_icmp_ge hC d_MD_monthsAt_11 (fun _ => ?_) (fun _ => ?_)
  · refine VO_aload hC d_MD_monthsAt_61 0 rfl ?_
    refine VO_getr (r := 74) hC fl_MD_59 sh_MD rfl d_MD_monthsAt_62 ?_
    refine VO_iload hC d_MD_monthsAt_65 2 rfl ?_
    refine VO_iload hC d_MD_monthsAt_66 1 rfl ?_
    refine VO_iastore hC ia_74 d_MD_monthsAt_67 (fun s1 => ?_)
    refine VO_aload hC d_MD_monthsAt_68 0 rfl ?_
    refine VO_callVV hC [] [] ml_MD_209 d_MD_monthsAt_69 yv_MD_goesBy sh_MD rfl rfl (fun o h => M_MD_goesBy hC.inj h) (by decide) rfl rfl (Nat.le_of_ble_eq_true rfl) (fun s2 => ?_)
    refine VO_aload hC d_MD_monthsAt_72 0 rfl ?_
    refine VO_iload hC d_MD_monthsAt_73 1 rfl ?_
    refine VO_callVI hC [.int v1] [] ml_MD_212 d_MD_monthsAt_74 yv_MD_hasMonths sh_MD rfl rfl (fun o h => M_MD_hasMonths hC.inj h) (by decide) rfl rfl (Nat.le_of_ble_eq_true rfl) (fun o3 => ?_)
    exact VO_ireturn d_MD_monthsAt_77
  · refine VO_aload hC d_MD_monthsAt_14 0 rfl ?_
    refine VO_getr (r := 67) hC fl_MD_34 sh_MD rfl d_MD_monthsAt_15 ?_
    refine VO_iload hC d_MD_monthsAt_18 4 rfl ?_
    refine VO_iaload hC ia_67 d_MD_monthsAt_20 (fun x4 => ?_)
    refine VO_iload hC d_MD_monthsAt_21 1 rfl ?_
    refine VO_icmp_ne hC d_MD_monthsAt_22 (fun _ => ?_) (fun _ => ?_)
    · refine VO_goto hC d_MD_monthsAt_25 ?_
      exact (B_MD_monthsAt_55 hC K5 hK5 v3 v4 s)
    · refine VO_aload hC d_MD_monthsAt_28 0 rfl ?_
      refine VO_getr (r := 74) hC fl_MD_59 sh_MD rfl d_MD_monthsAt_29 ?_
      refine VO_iload hC d_MD_monthsAt_32 3 rfl ?_
      refine VO_iload hC d_MD_monthsAt_33 2 rfl ?_
      refine VO_icmp_ge hC d_MD_monthsAt_34 (fun _ => ?_) (fun _ => ?_)
      · refine VO_iload hC d_MD_monthsAt_41 3 rfl ?_
        refine VO_const hC d_MD_monthsAt_42 ?_
        refine VO_iadd hC d_MD_monthsAt_43 ?_
        exact (B_MD_monthsAt_44 hC K5 hK5 v3 v4 (v3 + (1 : Int32)) s)
      · refine VO_iload hC d_MD_monthsAt_37 3 rfl ?_
        refine VO_goto hC d_MD_monthsAt_38 ?_
        exact (B_MD_monthsAt_44 hC K5 hK5 v3 v4 v3 s)
set_option maxRecDepth 20000 in
theorem B_MD_monthsAt_5 {G : MCx} (hC : C0 G "AccusedChooseModel" b_MD_monthsAt 5 5) (v1 : Int32) (v2 : Int32) (v3 : Int32) (v4 : Int32) (s : St) : VO G (RI G b_MD_monthsAt) (F_MD_monthsAt_5 v1 v2 v3 v4 s) 5 [(0, .ref (gad G 58)), (1, .int v1), (2, .int v2), (3, .int v3), (4, .int v4)] [] s := by
  exact VO_fix (G_MD_monthsAt_5 v1 v2) 5 (fun q => [(0, .ref (gad G 58)), (1, .int v1), (2, .int v2), (3, .int q.1), (4, .int q.2.1)]) (fun q => q.2.2) (fun K hK q => BH_MD_monthsAt_5 hC K (fun w3 w4 s => hK (w3, w4, s)) q.1 q.2.1 q.2.2) FUEL (v3, v4, s)
set_option maxRecDepth 20000 in
theorem B_MD_monthsAt {G : MCx} (hC : C0 G "AccusedChooseModel" b_MD_monthsAt 5 5) (a1 : Int32) (a2 : Int32) (s : St) : VO G (RI G b_MD_monthsAt) (F_MD_monthsAt a1 a2 s) 0 [(0, .ref (gad G 58)), (1, .int a1), (2, .int a2)] [] s := by
  unfold F_MD_monthsAt
  refine VO_const hC d_MD_monthsAt_0 ?_
  refine VO_istore hC d_MD_monthsAt_1 [(0, .ref (gad G 58)), (1, .int a1), (2, .int a2)] rfl (by decide) ?_
  refine VO_const hC d_MD_monthsAt_2 ?_
  refine VO_istore hC d_MD_monthsAt_3 [(3, .int (0 : Int32)), (0, .ref (gad G 58)), (1, .int a1), (2, .int a2)] rfl (by decide) ?_
  exact VO_sub [2, 3, 4, 1, 0] rfl (B_MD_monthsAt_5 hC a1 a2 (0 : Int32) (0 : Int32) s)
set_option maxRecDepth 20000 in
theorem M_MD_monthsAt {l : Launch} {D : va_G} {ad : Nat → Nat} {cI cL : ClassId} (hj : Inj ad) {a1 : Int32} {a2 : Int32} {s : St} {o : Int32 × St} (h : F_MD_monthsAt a1 a2 s = some o) : Cn l D ad cI cL y_MD_monthsAt b_MD_monthsAt 5 (some .int) 5 [.ref (ad 58), .int a1, .int a2] s (some (.int o.1)) o.2 := by
  refine Cn_ofI hj (plainFor_of_name (by decide)) (Nat.le_of_ble_eq_true rfl) [(0, .ref (ad 58)), (1, .int a1), (2, .int a2)] rfl (fun G hC e1 e2 e3 e4 e5 hR => ?_)
  subst e1; subst e2; subst e3; subst e4; subst e5
  exact B_MD_monthsAt hC a1 a2 s o h hR
theorem d_MD_placeWorth_0 : PLa b_MD_placeWorth 0 0 1 := Or.inl ⟨0, by decide +kernel, rfl, rfl⟩
theorem d_MD_placeWorth_1 : PLi b_MD_placeWorth 1 1 2 := Or.inl ⟨1, by decide +kernel, rfl, rfl⟩
theorem d_MD_placeWorth_2 : DR b_MD_placeWorth 2 (.invokevirtual 93) 3 5 := ⟨by decide +kernel, rfl⟩
theorem d_MD_placeWorth_5 : DJ b_MD_placeWorth 5 (.ifCond .ne) 8 14 := ⟨9, by decide +kernel, rfl, by decide⟩
theorem d_MD_placeWorth_8 : PLa b_MD_placeWorth 8 0 9 := Or.inl ⟨0, by decide +kernel, rfl, rfl⟩
theorem d_MD_placeWorth_9 : PCi b_MD_placeWorth 9 (-1) 10 := Or.inl ⟨(-1), by decide +kernel, by decide, rfl⟩
theorem d_MD_placeWorth_10 : DR b_MD_placeWorth 10 (.invokevirtual 265) 3 13 := ⟨by decide +kernel, rfl⟩
theorem d_MD_placeWorth_13 : DR b_MD_placeWorth 13 (.ireturn) 1 14 := ⟨by decide +kernel, rfl⟩
theorem d_MD_placeWorth_14 : PLa b_MD_placeWorth 14 0 15 := Or.inl ⟨0, by decide +kernel, rfl, rfl⟩
theorem d_MD_placeWorth_15 : PLi b_MD_placeWorth 15 1 16 := Or.inl ⟨1, by decide +kernel, rfl, rfl⟩
theorem d_MD_placeWorth_16 : PLa b_MD_placeWorth 16 0 17 := Or.inl ⟨0, by decide +kernel, rfl, rfl⟩
theorem d_MD_placeWorth_17 : DR b_MD_placeWorth 17 (.getfield 90) 3 20 := ⟨by decide +kernel, rfl⟩
theorem d_MD_placeWorth_20 : PCi b_MD_placeWorth 20 1 21 := Or.inl ⟨1, by decide +kernel, by decide, rfl⟩
theorem d_MD_placeWorth_21 : DR b_MD_placeWorth 21 (.isub) 1 22 := ⟨by decide +kernel, rfl⟩
theorem d_MD_placeWorth_22 : DR b_MD_placeWorth 22 (.invokevirtual 268) 3 25 := ⟨by decide +kernel, rfl⟩
theorem d_MD_placeWorth_25 : PSi b_MD_placeWorth 25 2 26 := Or.inl ⟨2, by decide +kernel, rfl, rfl⟩
theorem d_MD_placeWorth_26 : PLi b_MD_placeWorth 26 2 27 := Or.inl ⟨2, by decide +kernel, rfl, rfl⟩
theorem d_MD_placeWorth_27 : PLa b_MD_placeWorth 27 0 28 := Or.inl ⟨0, by decide +kernel, rfl, rfl⟩
theorem d_MD_placeWorth_28 : PLi b_MD_placeWorth 28 1 29 := Or.inl ⟨1, by decide +kernel, rfl, rfl⟩
theorem d_MD_placeWorth_29 : PCi b_MD_placeWorth 29 0 30 := Or.inl ⟨0, by decide +kernel, by decide, rfl⟩
theorem d_MD_placeWorth_30 : DR b_MD_placeWorth 30 (.invokevirtual 268) 3 33 := ⟨by decide +kernel, rfl⟩
theorem d_MD_placeWorth_33 : DR b_MD_placeWorth 33 (.isub) 1 34 := ⟨by decide +kernel, rfl⟩
theorem d_MD_placeWorth_34 : DR b_MD_placeWorth 34 (.ireturn) 1 35 := ⟨by decide +kernel, rfl⟩
set_option maxRecDepth 20000 in
theorem B_MD_placeWorth {G : MCx} (hC : C0 G "AccusedChooseModel" b_MD_placeWorth 3 6) (a1 : Int32) (s : St) : VO G (RI G b_MD_placeWorth) (F_MD_placeWorth a1 s) 0 [(0, .ref (gad G 58)), (1, .int a1)] [] s := by
  unfold F_MD_placeWorth
  refine VO_aload hC d_MD_placeWorth_0 0 rfl ?_
  refine VO_iload hC d_MD_placeWorth_1 1 rfl ?_
  refine VO_callVI hC [.int a1] [] ml_MD_93 d_MD_placeWorth_2 yv_MD_isPerson sh_MD rfl rfl (fun o h => M_MD_isPerson hC.inj h) (by decide) rfl rfl (Nat.le_of_ble_eq_true rfl) (fun o1 => ?_)
  refine VO_if_ne hC d_MD_placeWorth_5 (fun _ => ?_) (fun _ => ?_)
  · refine VO_aload hC d_MD_placeWorth_8 0 rfl ?_
    refine VO_const hC d_MD_placeWorth_9 ?_
    refine VO_callVI hC [.int (-1 : Int32)] [] ml_MD_265 d_MD_placeWorth_10 yv_MD_lower sh_MD rfl rfl (fun o h => M_MD_lower hC.inj h) (by decide) rfl rfl (Nat.le_of_ble_eq_true rfl) (fun o4 => ?_)
    exact VO_ireturn d_MD_placeWorth_13
  · refine VO_aload hC d_MD_placeWorth_14 0 rfl ?_
    refine VO_iload hC d_MD_placeWorth_15 1 rfl ?_
    refine VO_aload hC d_MD_placeWorth_16 0 rfl ?_
    refine VO_geti hC fl_MD_90 sh_MD rfl d_MD_placeWorth_17 ?_
    refine VO_const hC d_MD_placeWorth_20 ?_
    refine VO_isub hC d_MD_placeWorth_21 ?_
    refine VO_callVI hC [.int a1, .int ((rd o1.2 58 10) - (1 : Int32))] [] ml_MD_268 d_MD_placeWorth_22 yv_MD_monthsAt sh_MD rfl rfl (fun o h => M_MD_monthsAt hC.inj h) (by decide) rfl rfl (Nat.le_of_ble_eq_true rfl) (fun o2 => ?_)
    refine VO_istore hC d_MD_placeWorth_25 [(0, .ref (gad G 58)), (1, .int a1)] rfl (by decide) ?_
    refine VO_iload hC d_MD_placeWorth_26 0 rfl ?_
    refine VO_aload hC d_MD_placeWorth_27 1 rfl ?_
    refine VO_iload hC d_MD_placeWorth_28 2 rfl ?_
    refine VO_const hC d_MD_placeWorth_29 ?_
    refine VO_callVI hC [.int a1, .int (0 : Int32)] [.int o2.1] ml_MD_268 d_MD_placeWorth_30 yv_MD_monthsAt sh_MD rfl rfl (fun o h => M_MD_monthsAt hC.inj h) (by decide) rfl rfl (Nat.le_of_ble_eq_true rfl) (fun o3 => ?_)
    refine VO_isub hC d_MD_placeWorth_33 ?_
    exact VO_ireturn d_MD_placeWorth_34
set_option maxRecDepth 20000 in
theorem M_MD_placeWorth {l : Launch} {D : va_G} {ad : Nat → Nat} {cI cL : ClassId} (hj : Inj ad) {a1 : Int32} {s : St} {o : Int32 × St} (h : F_MD_placeWorth a1 s = some o) : Cn l D ad cI cL y_MD_placeWorth b_MD_placeWorth 3 (some .int) 6 [.ref (ad 58), .int a1] s (some (.int o.1)) o.2 := by
  refine Cn_ofI hj (plainFor_of_name (by decide)) (Nat.le_of_ble_eq_true rfl) [(0, .ref (ad 58)), (1, .int a1)] rfl (fun G hC e1 e2 e3 e4 e5 hR => ?_)
  subst e1; subst e2; subst e3; subst e4; subst e5
  exact B_MD_placeWorth hC a1 s o h hR
theorem d_MD_areBetter_0 : PLa b_MD_areBetter 0 0 1 := Or.inl ⟨0, by decide +kernel, rfl, rfl⟩
theorem d_MD_areBetter_1 : DR b_MD_areBetter 1 (.invokevirtual 215) 3 4 := ⟨by decide +kernel, rfl⟩
theorem d_MD_areBetter_4 : PLa b_MD_areBetter 4 0 5 := Or.inl ⟨0, by decide +kernel, rfl, rfl⟩
theorem d_MD_areBetter_5 : PLi b_MD_areBetter 5 1 6 := Or.inl ⟨1, by decide +kernel, rfl, rfl⟩
theorem d_MD_areBetter_6 : DR b_MD_areBetter 6 (.invokevirtual 212) 3 9 := ⟨by decide +kernel, rfl⟩
theorem d_MD_areBetter_9 : PSi b_MD_areBetter 9 3 10 := Or.inl ⟨3, by decide +kernel, rfl, rfl⟩
theorem d_MD_areBetter_10 : PLa b_MD_areBetter 10 0 11 := Or.inl ⟨0, by decide +kernel, rfl, rfl⟩
theorem d_MD_areBetter_11 : PLi b_MD_areBetter 11 2 12 := Or.inl ⟨2, by decide +kernel, rfl, rfl⟩
theorem d_MD_areBetter_12 : DR b_MD_areBetter 12 (.invokevirtual 212) 3 15 := ⟨by decide +kernel, rfl⟩
theorem d_MD_areBetter_15 : PSi b_MD_areBetter 15 4 17 := Or.inr ⟨by decide +kernel, rfl⟩
theorem d_MD_areBetter_17 : PLa b_MD_areBetter 17 0 18 := Or.inl ⟨0, by decide +kernel, rfl, rfl⟩
theorem d_MD_areBetter_18 : DR b_MD_areBetter 18 (.invokevirtual 206) 3 21 := ⟨by decide +kernel, rfl⟩
theorem d_MD_areBetter_21 : PLa b_MD_areBetter 21 0 22 := Or.inl ⟨0, by decide +kernel, rfl, rfl⟩
theorem d_MD_areBetter_22 : DR b_MD_areBetter 22 (.getfield 59) 3 25 := ⟨by decide +kernel, rfl⟩
theorem d_MD_areBetter_25 : PLa b_MD_areBetter 25 0 26 := Or.inl ⟨0, by decide +kernel, rfl, rfl⟩
theorem d_MD_areBetter_26 : PLi b_MD_areBetter 26 1 27 := Or.inl ⟨1, by decide +kernel, rfl, rfl⟩
theorem d_MD_areBetter_27 : DR b_MD_areBetter 27 (.invokevirtual 177) 3 30 := ⟨by decide +kernel, rfl⟩
theorem d_MD_areBetter_30 : PLi b_MD_areBetter 30 2 31 := Or.inl ⟨2, by decide +kernel, rfl, rfl⟩
theorem d_MD_areBetter_31 : DR b_MD_areBetter 31 (.iastore) 1 32 := ⟨by decide +kernel, rfl⟩
theorem d_MD_areBetter_32 : PLa b_MD_areBetter 32 0 33 := Or.inl ⟨0, by decide +kernel, rfl, rfl⟩
theorem d_MD_areBetter_33 : DR b_MD_areBetter 33 (.getfield 59) 3 36 := ⟨by decide +kernel, rfl⟩
theorem d_MD_areBetter_36 : PLa b_MD_areBetter 36 0 37 := Or.inl ⟨0, by decide +kernel, rfl, rfl⟩
theorem d_MD_areBetter_37 : PLi b_MD_areBetter 37 2 38 := Or.inl ⟨2, by decide +kernel, rfl, rfl⟩
theorem d_MD_areBetter_38 : DR b_MD_areBetter 38 (.invokevirtual 177) 3 41 := ⟨by decide +kernel, rfl⟩
theorem d_MD_areBetter_41 : PLi b_MD_areBetter 41 1 42 := Or.inl ⟨1, by decide +kernel, rfl, rfl⟩
theorem d_MD_areBetter_42 : DR b_MD_areBetter 42 (.iastore) 1 43 := ⟨by decide +kernel, rfl⟩
theorem d_MD_areBetter_43 : PLa b_MD_areBetter 43 0 44 := Or.inl ⟨0, by decide +kernel, rfl, rfl⟩
theorem d_MD_areBetter_44 : DR b_MD_areBetter 44 (.invokevirtual 209) 3 47 := ⟨by decide +kernel, rfl⟩
theorem d_MD_areBetter_47 : PLa b_MD_areBetter 47 0 48 := Or.inl ⟨0, by decide +kernel, rfl, rfl⟩
theorem d_MD_areBetter_48 : PLi b_MD_areBetter 48 1 49 := Or.inl ⟨1, by decide +kernel, rfl, rfl⟩
theorem d_MD_areBetter_49 : DR b_MD_areBetter 49 (.invokevirtual 212) 3 52 := ⟨by decide +kernel, rfl⟩
theorem d_MD_areBetter_52 : PLi b_MD_areBetter 52 3 53 := Or.inl ⟨3, by decide +kernel, rfl, rfl⟩
theorem d_MD_areBetter_53 : DJ b_MD_areBetter 53 (.if_icmp .gt) 56 88 := ⟨35, by decide +kernel, rfl, by decide⟩
theorem d_MD_areBetter_56 : PLa b_MD_areBetter 56 0 57 := Or.inl ⟨0, by decide +kernel, rfl, rfl⟩
theorem d_MD_areBetter_57 : PLi b_MD_areBetter 57 2 58 := Or.inl ⟨2, by decide +kernel, rfl, rfl⟩
theorem d_MD_areBetter_58 : DR b_MD_areBetter 58 (.invokevirtual 212) 3 61 := ⟨by decide +kernel, rfl⟩
theorem d_MD_areBetter_61 : PLi b_MD_areBetter 61 4 63 := Or.inr ⟨by decide +kernel, rfl⟩
theorem d_MD_areBetter_63 : DJ b_MD_areBetter 63 (.if_icmp .gt) 66 88 := ⟨25, by decide +kernel, rfl, by decide⟩
theorem d_MD_areBetter_66 : PLa b_MD_areBetter 66 0 67 := Or.inl ⟨0, by decide +kernel, rfl, rfl⟩
theorem d_MD_areBetter_67 : PLi b_MD_areBetter 67 1 68 := Or.inl ⟨1, by decide +kernel, rfl, rfl⟩
theorem d_MD_areBetter_68 : DR b_MD_areBetter 68 (.invokevirtual 212) 3 71 := ⟨by decide +kernel, rfl⟩
theorem d_MD_areBetter_71 : PLa b_MD_areBetter 71 0 72 := Or.inl ⟨0, by decide +kernel, rfl, rfl⟩
theorem d_MD_areBetter_72 : PLi b_MD_areBetter 72 2 73 := Or.inl ⟨2, by decide +kernel, rfl, rfl⟩
theorem d_MD_areBetter_73 : DR b_MD_areBetter 73 (.invokevirtual 212) 3 76 := ⟨by decide +kernel, rfl⟩
theorem d_MD_areBetter_76 : DR b_MD_areBetter 76 (.iadd) 1 77 := ⟨by decide +kernel, rfl⟩
theorem d_MD_areBetter_77 : PLi b_MD_areBetter 77 3 78 := Or.inl ⟨3, by decide +kernel, rfl, rfl⟩
theorem d_MD_areBetter_78 : PLi b_MD_areBetter 78 4 80 := Or.inr ⟨by decide +kernel, rfl⟩
theorem d_MD_areBetter_80 : DR b_MD_areBetter 80 (.iadd) 1 81 := ⟨by decide +kernel, rfl⟩
theorem d_MD_areBetter_81 : DJ b_MD_areBetter 81 (.if_icmp .ge) 84 88 := ⟨7, by decide +kernel, rfl, by decide⟩
theorem d_MD_areBetter_84 : PCi b_MD_areBetter 84 1 85 := Or.inl ⟨1, by decide +kernel, by decide, rfl⟩
theorem d_MD_areBetter_85 : DJ b_MD_areBetter 85 .goto 88 89 := ⟨4, by decide +kernel, rfl, by decide⟩
theorem d_MD_areBetter_88 : PCi b_MD_areBetter 88 0 89 := Or.inl ⟨0, by decide +kernel, by decide, rfl⟩
theorem d_MD_areBetter_89 : DR b_MD_areBetter 89 (.ireturn) 1 90 := ⟨by decide +kernel, rfl⟩
set_option maxRecDepth 20000 in
theorem B_MD_areBetter_88 {G : MCx} (hC : C0 G "AccusedChooseModel" b_MD_areBetter 5 6) (s : St) : VO G (RZ G b_MD_areBetter) (F_MD_areBetter_88 s) 88 [] [] s := by
  unfold F_MD_areBetter_88
  refine VO_const hC d_MD_areBetter_88 ?_
  exact VO_z0 d_MD_areBetter_89
set_option maxRecDepth 20000 in
theorem B_MD_areBetter {G : MCx} (hC : C0 G "AccusedChooseModel" b_MD_areBetter 5 6) (a1 : Int32) (a2 : Int32) (s : St) : VO G (RZ G b_MD_areBetter) (F_MD_areBetter a1 a2 s) 0 [(0, .ref (gad G 58)), (1, .int a1), (2, .int a2)] [] s := by
  unfold F_MD_areBetter
  refine VO_aload hC d_MD_areBetter_0 0 rfl ?_
  refine VO_callVV hC [] [] ml_MD_215 d_MD_areBetter_1 yv_MD_goes sh_MD rfl rfl (fun o h => M_MD_goes hC.inj h) (by decide) rfl rfl (Nat.le_of_ble_eq_true rfl) (fun s1 => ?_)
  refine VO_aload hC d_MD_areBetter_4 0 rfl ?_
  refine VO_iload hC d_MD_areBetter_5 1 rfl ?_
  refine VO_callVI hC [.int a1] [] ml_MD_212 d_MD_areBetter_6 yv_MD_hasMonths sh_MD rfl rfl (fun o h => M_MD_hasMonths hC.inj h) (by decide) rfl rfl (Nat.le_of_ble_eq_true rfl) (fun o2 => ?_)
  refine VO_istore hC d_MD_areBetter_9 [(0, .ref (gad G 58)), (1, .int a1), (2, .int a2)] rfl (by decide) ?_
  refine VO_aload hC d_MD_areBetter_10 1 rfl ?_
  refine VO_iload hC d_MD_areBetter_11 3 rfl ?_
  refine VO_callVI hC [.int a2] [] ml_MD_212 d_MD_areBetter_12 yv_MD_hasMonths sh_MD rfl rfl (fun o h => M_MD_hasMonths hC.inj h) (by decide) rfl rfl (Nat.le_of_ble_eq_true rfl) (fun o3 => ?_)
  refine VO_istore hC d_MD_areBetter_15 [(3, .int o2.1), (0, .ref (gad G 58)), (1, .int a1), (2, .int a2)] rfl (by decide) ?_
  refine VO_aload hC d_MD_areBetter_17 2 rfl ?_
  refine VO_callVV hC [] [] ml_MD_206 d_MD_areBetter_18 yv_MD_asItIs sh_MD rfl rfl (fun o h => M_MD_asItIs hC.inj h) (by decide) rfl rfl (Nat.le_of_ble_eq_true rfl) (fun s4 => ?_)
  refine VO_aload hC d_MD_areBetter_21 2 rfl ?_
  refine VO_getr (r := 74) hC fl_MD_59 sh_MD rfl d_MD_areBetter_22 ?_
  refine VO_aload hC d_MD_areBetter_25 2 rfl ?_
  refine VO_iload hC d_MD_areBetter_26 3 rfl ?_
  refine VO_callVI hC [.int a1] [.ref (gad G 74)] ml_MD_177 d_MD_areBetter_27 yv_MD_placeOf sh_MD rfl rfl (fun o h => M_MD_placeOf hC.inj h) (by decide) rfl rfl (Nat.le_of_ble_eq_true rfl) (fun o5 => ?_)
  refine VO_iload hC d_MD_areBetter_30 4 rfl ?_
  refine VO_iastore hC ia_74 d_MD_areBetter_31 (fun s6 => ?_)
  refine VO_aload hC d_MD_areBetter_32 2 rfl ?_
  refine VO_getr (r := 74) hC fl_MD_59 sh_MD rfl d_MD_areBetter_33 ?_
  refine VO_aload hC d_MD_areBetter_36 2 rfl ?_
  refine VO_iload hC d_MD_areBetter_37 4 rfl ?_
  refine VO_callVI hC [.int a2] [.ref (gad G 74)] ml_MD_177 d_MD_areBetter_38 yv_MD_placeOf sh_MD rfl rfl (fun o h => M_MD_placeOf hC.inj h) (by decide) rfl rfl (Nat.le_of_ble_eq_true rfl) (fun o7 => ?_)
  refine VO_iload hC d_MD_areBetter_41 3 rfl ?_
  refine VO_iastore hC ia_74 d_MD_areBetter_42 (fun s8 => ?_)
  refine VO_aload hC d_MD_areBetter_43 2 rfl ?_
  refine VO_callVV hC [] [] ml_MD_209 d_MD_areBetter_44 yv_MD_goesBy sh_MD rfl rfl (fun o h => M_MD_goesBy hC.inj h) (by decide) rfl rfl (Nat.le_of_ble_eq_true rfl) (fun s9 => ?_)
  refine VO_aload hC d_MD_areBetter_47 2 rfl ?_
  refine VO_iload hC d_MD_areBetter_48 3 rfl ?_
  refine VO_callVI hC [.int a1] [] ml_MD_212 d_MD_areBetter_49 yv_MD_hasMonths sh_MD rfl rfl (fun o h => M_MD_hasMonths hC.inj h) (by decide) rfl rfl (Nat.le_of_ble_eq_true rfl) (fun o10 => ?_)
  refine VO_iload hC d_MD_areBetter_52 1 rfl ?_
  refine VO_icmp_gt hC d_MD_areBetter_53 (fun _ => ?_) (fun _ => ?_)
  · exact VO_sub [] rfl (B_MD_areBetter_88 hC o10.2)
  · refine VO_aload hC d_MD_areBetter_56 2 rfl ?_
    refine VO_iload hC d_MD_areBetter_57 4 rfl ?_
    refine VO_callVI hC [.int a2] [] ml_MD_212 d_MD_areBetter_58 yv_MD_hasMonths sh_MD rfl rfl (fun o h => M_MD_hasMonths hC.inj h) (by decide) rfl rfl (Nat.le_of_ble_eq_true rfl) (fun o11 => ?_)
    refine VO_iload hC d_MD_areBetter_61 0 rfl ?_
    refine VO_icmp_gt hC d_MD_areBetter_63 (fun _ => ?_) (fun _ => ?_)
    · exact VO_sub [] rfl (B_MD_areBetter_88 hC o11.2)
    · refine VO_aload hC d_MD_areBetter_66 2 rfl ?_
      refine VO_iload hC d_MD_areBetter_67 3 rfl ?_
      refine VO_callVI hC [.int a1] [] ml_MD_212 d_MD_areBetter_68 yv_MD_hasMonths sh_MD rfl rfl (fun o h => M_MD_hasMonths hC.inj h) (by decide) rfl rfl (Nat.le_of_ble_eq_true rfl) (fun o12 => ?_)
      refine VO_aload hC d_MD_areBetter_71 2 rfl ?_
      refine VO_iload hC d_MD_areBetter_72 4 rfl ?_
      refine VO_callVI hC [.int a2] [.int o12.1] ml_MD_212 d_MD_areBetter_73 yv_MD_hasMonths sh_MD rfl rfl (fun o h => M_MD_hasMonths hC.inj h) (by decide) rfl rfl (Nat.le_of_ble_eq_true rfl) (fun o13 => ?_)
      refine VO_iadd hC d_MD_areBetter_76 ?_
      refine VO_iload hC d_MD_areBetter_77 1 rfl ?_
      refine VO_iload hC d_MD_areBetter_78 0 rfl ?_
      refine VO_iadd hC d_MD_areBetter_80 ?_
      refine VO_icmp_ge hC d_MD_areBetter_81 (fun _ => ?_) (fun _ => ?_)
      · exact VO_sub [] rfl (B_MD_areBetter_88 hC o13.2)
      · refine VO_const hC d_MD_areBetter_84 ?_
        refine VO_goto hC d_MD_areBetter_85 ?_
        exact VO_z1 d_MD_areBetter_89
set_option maxRecDepth 20000 in
theorem M_MD_areBetter {l : Launch} {D : va_G} {ad : Nat → Nat} {cI cL : ClassId} (hj : Inj ad) {a1 : Int32} {a2 : Int32} {s : St} {o : Int32 × St} (h : F_MD_areBetter a1 a2 s = some o) : Cn l D ad cI cL y_MD_areBetter b_MD_areBetter 5 (some .boolean) 6 [.ref (ad 58), .int a1, .int a2] s (some (.int o.1)) o.2 := by
  refine Cn_ofZ hj (plainFor_of_name (by decide)) (Nat.le_of_ble_eq_true rfl) [(0, .ref (ad 58)), (1, .int a1), (2, .int a2)] rfl (fun G hC e1 e2 e3 e4 e5 hR => ?_)
  subst e1; subst e2; subst e3; subst e4; subst e5
  exact B_MD_areBetter hC a1 a2 s o h hR
theorem d_MD_changes_0 : PCi b_MD_changes 0 0 1 := Or.inl ⟨0, by decide +kernel, by decide, rfl⟩
theorem d_MD_changes_1 : PSi b_MD_changes 1 1 2 := Or.inl ⟨1, by decide +kernel, rfl, rfl⟩
theorem d_MD_changes_2 : PLi b_MD_changes 2 1 3 := Or.inl ⟨1, by decide +kernel, rfl, rfl⟩
theorem d_MD_changes_3 : PLa b_MD_changes 3 0 4 := Or.inl ⟨0, by decide +kernel, rfl, rfl⟩
theorem d_MD_changes_4 : DR b_MD_changes 4 (.getfield 90) 3 7 := ⟨by decide +kernel, rfl⟩
theorem d_MD_changes_7 : DJ b_MD_changes 7 (.if_icmp .ge) 10 50 := ⟨43, by decide +kernel, rfl, by decide⟩
theorem d_MD_changes_10 : PLi b_MD_changes 10 1 11 := Or.inl ⟨1, by decide +kernel, rfl, rfl⟩
theorem d_MD_changes_11 : PCi b_MD_changes 11 1 12 := Or.inl ⟨1, by decide +kernel, by decide, rfl⟩
theorem d_MD_changes_12 : DR b_MD_changes 12 (.iadd) 1 13 := ⟨by decide +kernel, rfl⟩
theorem d_MD_changes_13 : PSi b_MD_changes 13 2 14 := Or.inl ⟨2, by decide +kernel, rfl, rfl⟩
theorem d_MD_changes_14 : PLi b_MD_changes 14 2 15 := Or.inl ⟨2, by decide +kernel, rfl, rfl⟩
theorem d_MD_changes_15 : PLa b_MD_changes 15 0 16 := Or.inl ⟨0, by decide +kernel, rfl, rfl⟩
theorem d_MD_changes_16 : DR b_MD_changes 16 (.getfield 90) 3 19 := ⟨by decide +kernel, rfl⟩
theorem d_MD_changes_19 : DJ b_MD_changes 19 (.if_icmp .ge) 22 44 := ⟨25, by decide +kernel, rfl, by decide⟩
theorem d_MD_changes_22 : PLa b_MD_changes 22 0 23 := Or.inl ⟨0, by decide +kernel, rfl, rfl⟩
theorem d_MD_changes_23 : PLi b_MD_changes 23 1 24 := Or.inl ⟨1, by decide +kernel, rfl, rfl⟩
theorem d_MD_changes_24 : PLi b_MD_changes 24 2 25 := Or.inl ⟨2, by decide +kernel, rfl, rfl⟩
theorem d_MD_changes_25 : DR b_MD_changes 25 (.invokevirtual 271) 3 28 := ⟨by decide +kernel, rfl⟩
theorem d_MD_changes_28 : DJ b_MD_changes 28 (.ifCond .eq) 31 38 := ⟨10, by decide +kernel, rfl, by decide⟩
theorem d_MD_changes_31 : PCi b_MD_changes 31 10 33 := Or.inr (Or.inl ⟨10, by decide +kernel, by decide, rfl⟩)
theorem d_MD_changes_33 : PLi b_MD_changes 33 1 34 := Or.inl ⟨1, by decide +kernel, rfl, rfl⟩
theorem d_MD_changes_34 : DR b_MD_changes 34 (.imul) 1 35 := ⟨by decide +kernel, rfl⟩
theorem d_MD_changes_35 : PLi b_MD_changes 35 2 36 := Or.inl ⟨2, by decide +kernel, rfl, rfl⟩
theorem d_MD_changes_36 : DR b_MD_changes 36 (.iadd) 1 37 := ⟨by decide +kernel, rfl⟩
theorem d_MD_changes_37 : DR b_MD_changes 37 (.ireturn) 1 38 := ⟨by decide +kernel, rfl⟩
theorem d_MD_changes_38 : DR b_MD_changes 38 (.iinc 2 1) 3 41 := ⟨by decide +kernel, rfl⟩
theorem d_MD_changes_41 : DJ b_MD_changes 41 .goto 44 14 := ⟨-27, by decide +kernel, rfl, by decide⟩
theorem d_MD_changes_44 : DR b_MD_changes 44 (.iinc 1 1) 3 47 := ⟨by decide +kernel, rfl⟩
theorem d_MD_changes_47 : DJ b_MD_changes 47 .goto 50 2 := ⟨-45, by decide +kernel, rfl, by decide⟩
theorem d_MD_changes_50 : PCi b_MD_changes 50 (-9) 52 := Or.inr (Or.inl ⟨(-9), by decide +kernel, by decide, rfl⟩)
theorem d_MD_changes_52 : DR b_MD_changes 52 (.ireturn) 1 53 := ⟨by decide +kernel, rfl⟩
set_option maxRecDepth 20000 in
theorem BH_MD_changes_14 {G : MCx} (hC : C0 G "AccusedChooseModel" b_MD_changes 3 7) {v1 : Int32} (K2 : Int32 × St → Option (Int32 × St)) (hK2 : ∀ (w1 : Int32) (s : St), VO G (RI G b_MD_changes) (K2 (w1, s)) 2 [(0, .ref (gad G 58)), (1, .int w1)] [] s) (K14 : Int32 × St → Option (Int32 × St)) (hK14 : ∀ (w2 : Int32) (s : St), VO G (RI G b_MD_changes) (K14 (w2, s)) 14 [(0, .ref (gad G 58)), (1, .int v1), (2, .int w2)] [] s) (v2 : Int32) (s : St) : VO G (RI G b_MD_changes) (H_MD_changes_14 K2 v1 K14 v2 s) 14 [(0, .ref (gad G 58)), (1, .int v1), (2, .int v2)] [] s := by
  unfold H_MD_changes_14
  refine VO_iload hC d_MD_changes_14 2 rfl ?_
  refine VO_aload hC d_MD_changes_15 0 rfl ?_
  refine VO_geti hC fl_MD_90 sh_MD rfl d_MD_changes_16 ?_
  refine VO_icmp_ge hC d_MD_changes_19 (fun _ => ?_) (fun _ => ?_)
  · refine VO_iinc hC d_MD_changes_44 1 rfl (by decide : Int32.ofInt 1 = 1) [(0, .ref (gad G 58)), (2, .int v2)] rfl (by decide) ?_
    refine VO_goto hC d_MD_changes_47 ?_
    exact VO_sub [1, 0] rfl (hK2 (v1 + 1) s)
  · refine VO_aload hC d_MD_changes_22 0 rfl ?_
    refine VO_iload hC d_MD_changes_23 1 rfl ?_
    refine VO_iload hC d_MD_changes_24 2 rfl ?_
    refine VO_callVI hC [.int v1, .int v2] [] ml_MD_271 d_MD_changes_25 yv_MD_areBetter sh_MD rfl rfl (fun o h => M_MD_areBetter hC.inj h) (by decide) rfl rfl (Nat.le_of_ble_eq_true rfl) (fun o2 => ?_)
    refine VO_if_eq hC d_MD_changes_28 (fun _ => ?_) (fun _ => ?_)
    · refine VO_iinc hC d_MD_changes_38 2 rfl (by decide : Int32.ofInt 1 = 1) [(0, .ref (gad G 58)), (1, .int v1)] rfl (by decide) ?_
      refine VO_goto hC d_MD_changes_41 ?_
      exact VO_sub [1, 2, 0] rfl (hK14 (v2 + 1) o2.2)
    · refine VO_const hC d_MD_changes_31 ?_
      refine VO_iload hC d_MD_changes_33 1 rfl ?_
      refine VO_imul hC d_MD_changes_34 ?_
      refine VO_iload hC d_MD_changes_35 2 rfl ?_
      refine VO_iadd hC d_MD_changes_36 ?_
      exact VO_ireturn d_MD_changes_37
set_option maxRecDepth 20000 in
theorem B_MD_changes_14 {G : MCx} (hC : C0 G "AccusedChooseModel" b_MD_changes 3 7) (K2 : Int32 × St → Option (Int32 × St)) (hK2 : ∀ (w1 : Int32) (s : St), VO G (RI G b_MD_changes) (K2 (w1, s)) 2 [(0, .ref (gad G 58)), (1, .int w1)] [] s) (v1 : Int32) (v2 : Int32) (s : St) : VO G (RI G b_MD_changes) (F_MD_changes_14 K2 v1 v2 s) 14 [(0, .ref (gad G 58)), (1, .int v1), (2, .int v2)] [] s := by
  exact VO_fix (G_MD_changes_14 K2 v1) 14 (fun q => [(0, .ref (gad G 58)), (1, .int v1), (2, .int q.1)]) (fun q => q.2) (fun K hK q => BH_MD_changes_14 hC K2 hK2 K (fun w2 s => hK (w2, s)) q.1 q.2) FUEL (v2, s)
set_option maxRecDepth 20000 in
theorem BH_MD_changes_2 {G : MCx} (hC : C0 G "AccusedChooseModel" b_MD_changes 3 7) (K2 : Int32 × St → Option (Int32 × St)) (hK2 : ∀ (w1 : Int32) (s : St), VO G (RI G b_MD_changes) (K2 (w1, s)) 2 [(0, .ref (gad G 58)), (1, .int w1)] [] s) (v1 : Int32) (s : St) : VO G (RI G b_MD_changes) (H_MD_changes_2 K2 v1 s) 2 [(0, .ref (gad G 58)), (1, .int v1)] [] s := by
  unfold H_MD_changes_2
  refine VO_iload hC d_MD_changes_2 1 rfl ?_
  refine VO_aload hC d_MD_changes_3 0 rfl ?_
  refine VO_geti hC fl_MD_90 sh_MD rfl d_MD_changes_4 ?_
  refine VO_icmp_ge hC d_MD_changes_7 (fun _ => ?_) (fun _ => ?_)
  · refine VO_const hC d_MD_changes_50 ?_
    exact VO_ireturn d_MD_changes_52
  · refine VO_iload hC d_MD_changes_10 1 rfl ?_
    refine VO_const hC d_MD_changes_11 ?_
    refine VO_iadd hC d_MD_changes_12 ?_
    refine VO_istoreB hC d_MD_changes_13 [(0, .ref (gad G 58)), (1, .int v1)] rfl (by decide) (fun x1 => ?_)
    exact VO_sub [1, 2, 0] rfl (B_MD_changes_14 hC K2 hK2 v1 x1 s)
set_option maxRecDepth 20000 in
theorem B_MD_changes_2 {G : MCx} (hC : C0 G "AccusedChooseModel" b_MD_changes 3 7) (v1 : Int32) (s : St) : VO G (RI G b_MD_changes) (F_MD_changes_2 v1 s) 2 [(0, .ref (gad G 58)), (1, .int v1)] [] s := by
  exact VO_fix (G_MD_changes_2) 2 (fun q => [(0, .ref (gad G 58)), (1, .int q.1)]) (fun q => q.2) (fun K hK q => BH_MD_changes_2 hC K (fun w1 s => hK (w1, s)) q.1 q.2) FUEL (v1, s)
set_option maxRecDepth 20000 in
theorem B_MD_changes {G : MCx} (hC : C0 G "AccusedChooseModel" b_MD_changes 3 7) (s : St) : VO G (RI G b_MD_changes) (F_MD_changes s) 0 [(0, .ref (gad G 58))] [] s := by
  unfold F_MD_changes
  refine VO_const hC d_MD_changes_0 ?_
  refine VO_istore hC d_MD_changes_1 [(0, .ref (gad G 58))] rfl (by decide) ?_
  exact VO_sub [1, 0] rfl (B_MD_changes_2 hC (0 : Int32) s)
set_option maxRecDepth 20000 in
theorem M_MD_changes {l : Launch} {D : va_G} {ad : Nat → Nat} {cI cL : ClassId} (hj : Inj ad) {s : St} {o : Int32 × St} (h : F_MD_changes s = some o) : Cn l D ad cI cL y_MD_changes b_MD_changes 3 (some .int) 7 [.ref (ad 58)] s (some (.int o.1)) o.2 := by
  refine Cn_ofI hj (plainFor_of_name (by decide)) (Nat.le_of_ble_eq_true rfl) [(0, .ref (ad 58))] rfl (fun G hC e1 e2 e3 e4 e5 hR => ?_)
  subst e1; subst e2; subst e3; subst e4; subst e5
  exact B_MD_changes hC s o h hR
theorem d_MD_laysOrder_0 : PLi b_MD_laysOrder 0 1 1 := Or.inl ⟨1, by decide +kernel, rfl, rfl⟩
theorem d_MD_laysOrder_1 : PSi b_MD_laysOrder 1 2 2 := Or.inl ⟨2, by decide +kernel, rfl, rfl⟩
theorem d_MD_laysOrder_2 : PCi b_MD_laysOrder 2 0 3 := Or.inl ⟨0, by decide +kernel, by decide, rfl⟩
theorem d_MD_laysOrder_3 : PSi b_MD_laysOrder 3 3 4 := Or.inl ⟨3, by decide +kernel, rfl, rfl⟩
theorem d_MD_laysOrder_4 : PLa b_MD_laysOrder 4 0 5 := Or.inl ⟨0, by decide +kernel, rfl, rfl⟩
theorem d_MD_laysOrder_5 : DR b_MD_laysOrder 5 (.getfield 90) 3 8 := ⟨by decide +kernel, rfl⟩
theorem d_MD_laysOrder_8 : PCi b_MD_laysOrder 8 1 9 := Or.inl ⟨1, by decide +kernel, by decide, rfl⟩
theorem d_MD_laysOrder_9 : DR b_MD_laysOrder 9 (.isub) 1 10 := ⟨by decide +kernel, rfl⟩
theorem d_MD_laysOrder_10 : PSi b_MD_laysOrder 10 4 12 := Or.inr ⟨by decide +kernel, rfl⟩
theorem d_MD_laysOrder_12 : PLi b_MD_laysOrder 12 4 14 := Or.inr ⟨by decide +kernel, rfl⟩
theorem d_MD_laysOrder_14 : DJ b_MD_laysOrder 14 (.ifCond .lt) 17 55 := ⟨41, by decide +kernel, rfl, by decide⟩
theorem d_MD_laysOrder_17 : PLa b_MD_laysOrder 17 0 18 := Or.inl ⟨0, by decide +kernel, rfl, rfl⟩
theorem d_MD_laysOrder_18 : DR b_MD_laysOrder 18 (.getfield 59) 3 21 := ⟨by decide +kernel, rfl⟩
theorem d_MD_laysOrder_21 : PLi b_MD_laysOrder 21 4 23 := Or.inr ⟨by decide +kernel, rfl⟩
theorem d_MD_laysOrder_23 : PLi b_MD_laysOrder 23 2 24 := Or.inl ⟨2, by decide +kernel, rfl, rfl⟩
theorem d_MD_laysOrder_24 : PLa b_MD_laysOrder 24 0 25 := Or.inl ⟨0, by decide +kernel, rfl, rfl⟩
theorem d_MD_laysOrder_25 : DR b_MD_laysOrder 25 (.getfield 90) 3 28 := ⟨by decide +kernel, rfl⟩
theorem d_MD_laysOrder_28 : DR b_MD_laysOrder 28 (.irem) 1 29 := ⟨by decide +kernel, rfl⟩
theorem d_MD_laysOrder_29 : DR b_MD_laysOrder 29 (.iastore) 1 30 := ⟨by decide +kernel, rfl⟩
theorem d_MD_laysOrder_30 : PLi b_MD_laysOrder 30 2 31 := Or.inl ⟨2, by decide +kernel, rfl, rfl⟩
theorem d_MD_laysOrder_31 : PLa b_MD_laysOrder 31 0 32 := Or.inl ⟨0, by decide +kernel, rfl, rfl⟩
theorem d_MD_laysOrder_32 : DR b_MD_laysOrder 32 (.getfield 90) 3 35 := ⟨by decide +kernel, rfl⟩
theorem d_MD_laysOrder_35 : DR b_MD_laysOrder 35 (.idiv) 1 36 := ⟨by decide +kernel, rfl⟩
theorem d_MD_laysOrder_36 : PSi b_MD_laysOrder 36 2 37 := Or.inl ⟨2, by decide +kernel, rfl, rfl⟩
theorem d_MD_laysOrder_37 : PLi b_MD_laysOrder 37 3 38 := Or.inl ⟨3, by decide +kernel, rfl, rfl⟩
theorem d_MD_laysOrder_38 : PCi b_MD_laysOrder 38 1 39 := Or.inl ⟨1, by decide +kernel, by decide, rfl⟩
theorem d_MD_laysOrder_39 : PLa b_MD_laysOrder 39 0 40 := Or.inl ⟨0, by decide +kernel, rfl, rfl⟩
theorem d_MD_laysOrder_40 : DR b_MD_laysOrder 40 (.getfield 59) 3 43 := ⟨by decide +kernel, rfl⟩
theorem d_MD_laysOrder_43 : PLi b_MD_laysOrder 43 4 45 := Or.inr ⟨by decide +kernel, rfl⟩
theorem d_MD_laysOrder_45 : DR b_MD_laysOrder 45 (.iaload) 1 46 := ⟨by decide +kernel, rfl⟩
theorem d_MD_laysOrder_46 : DR b_MD_laysOrder 46 (.ishl) 1 47 := ⟨by decide +kernel, rfl⟩
theorem d_MD_laysOrder_47 : DR b_MD_laysOrder 47 (.ior) 1 48 := ⟨by decide +kernel, rfl⟩
theorem d_MD_laysOrder_48 : PSi b_MD_laysOrder 48 3 49 := Or.inl ⟨3, by decide +kernel, rfl, rfl⟩
theorem d_MD_laysOrder_49 : DR b_MD_laysOrder 49 (.iinc 4 (-1)) 3 52 := ⟨by decide +kernel, rfl⟩
theorem d_MD_laysOrder_52 : DJ b_MD_laysOrder 52 .goto 55 12 := ⟨-40, by decide +kernel, rfl, by decide⟩
theorem d_MD_laysOrder_55 : PLi b_MD_laysOrder 55 3 56 := Or.inl ⟨3, by decide +kernel, rfl, rfl⟩
theorem d_MD_laysOrder_56 : PCi b_MD_laysOrder 56 1 57 := Or.inl ⟨1, by decide +kernel, by decide, rfl⟩
theorem d_MD_laysOrder_57 : PLa b_MD_laysOrder 57 0 58 := Or.inl ⟨0, by decide +kernel, rfl, rfl⟩
theorem d_MD_laysOrder_58 : DR b_MD_laysOrder 58 (.getfield 90) 3 61 := ⟨by decide +kernel, rfl⟩
theorem d_MD_laysOrder_61 : DR b_MD_laysOrder 61 (.ishl) 1 62 := ⟨by decide +kernel, rfl⟩
theorem d_MD_laysOrder_62 : PCi b_MD_laysOrder 62 1 63 := Or.inl ⟨1, by decide +kernel, by decide, rfl⟩
theorem d_MD_laysOrder_63 : DR b_MD_laysOrder 63 (.isub) 1 64 := ⟨by decide +kernel, rfl⟩
theorem d_MD_laysOrder_64 : DJ b_MD_laysOrder 64 (.if_icmp .ne) 67 71 := ⟨7, by decide +kernel, rfl, by decide⟩
theorem d_MD_laysOrder_67 : PCi b_MD_laysOrder 67 1 68 := Or.inl ⟨1, by decide +kernel, by decide, rfl⟩
theorem d_MD_laysOrder_68 : DJ b_MD_laysOrder 68 .goto 71 72 := ⟨4, by decide +kernel, rfl, by decide⟩
theorem d_MD_laysOrder_71 : PCi b_MD_laysOrder 71 0 72 := Or.inl ⟨0, by decide +kernel, by decide, rfl⟩
theorem d_MD_laysOrder_72 : DR b_MD_laysOrder 72 (.ireturn) 1 73 := ⟨by decide +kernel, rfl⟩
set_option maxRecDepth 20000 in
theorem BH_MD_laysOrder_12 {G : MCx} (hC : C0 G "AccusedChooseModel" b_MD_laysOrder 5 1) (K12 : Int32 × Int32 × Int32 × St → Option (Int32 × St)) (hK12 : ∀ (w2 : Int32) (w3 : Int32) (w4 : Int32) (s : St), VO G (RZ G b_MD_laysOrder) (K12 (w2, w3, w4, s)) 12 [(0, .ref (gad G 58)), (2, .int w2), (3, .int w3), (4, .int w4)] [] s) (v2 : Int32) (v3 : Int32) (v4 : Int32) (s : St) : VO G (RZ G b_MD_laysOrder) (H_MD_laysOrder_12 K12 v2 v3 v4 s) 12 [(0, .ref (gad G 58)), (2, .int v2), (3, .int v3), (4, .int v4)] [] s := by
  unfold H_MD_laysOrder_12
  refine VO_iload hC d_MD_laysOrder_12 3 rfl ?_
  refine VO_if_lt hC d_MD_laysOrder_14 (fun _ => ?_) (fun _ => ?_)
  · refine VO_iload hC d_MD_laysOrder_55 2 rfl ?_
    refine VO_const hC d_MD_laysOrder_56 ?_
    refine VO_aload hC d_MD_laysOrder_57 0 rfl ?_
    refine VO_geti hC fl_MD_90 sh_MD rfl d_MD_laysOrder_58 ?_
    refine VO_ishl hC d_MD_laysOrder_61 ?_
    refine VO_const hC d_MD_laysOrder_62 ?_
    refine VO_isub hC d_MD_laysOrder_63 ?_
    refine VO_icmp_ne hC d_MD_laysOrder_64 (fun _ => ?_) (fun _ => ?_)
    · refine VO_const hC d_MD_laysOrder_67 ?_
      refine VO_goto hC d_MD_laysOrder_68 ?_
      exact VO_z1 d_MD_laysOrder_72
    · refine VO_const hC d_MD_laysOrder_71 ?_
      exact VO_z0 d_MD_laysOrder_72
  · refine VO_aload hC d_MD_laysOrder_17 0 rfl ?_
    refine VO_getr (r := 74) hC fl_MD_59 sh_MD rfl d_MD_laysOrder_18 ?_
    refine VO_iload hC d_MD_laysOrder_21 3 rfl ?_
    refine VO_iload hC d_MD_laysOrder_23 1 rfl ?_
    refine VO_aload hC d_MD_laysOrder_24 0 rfl ?_
    refine VO_geti hC fl_MD_90 sh_MD rfl d_MD_laysOrder_25 ?_
    refine VO_irem hC d_MD_laysOrder_28 ?_
    refine VO_iastore hC ia_74 d_MD_laysOrder_29 (fun s2 => ?_)
    refine VO_iload hC d_MD_laysOrder_30 1 rfl ?_
    refine VO_aload hC d_MD_laysOrder_31 0 rfl ?_
    refine VO_geti hC fl_MD_90 sh_MD rfl d_MD_laysOrder_32 ?_
    refine VO_idiv hC d_MD_laysOrder_35 ?_
    refine VO_istoreB hC d_MD_laysOrder_36 [(0, .ref (gad G 58)), (3, .int v3), (4, .int v4)] rfl (by decide) (fun x3 => ?_)
    refine VO_iload hC d_MD_laysOrder_37 2 rfl ?_
    refine VO_const hC d_MD_laysOrder_38 ?_
    refine VO_aload hC d_MD_laysOrder_39 1 rfl ?_
    refine VO_getr (r := 74) hC fl_MD_59 sh_MD rfl d_MD_laysOrder_40 ?_
    refine VO_iload hC d_MD_laysOrder_43 3 rfl ?_
    refine VO_iaload hC ia_74 d_MD_laysOrder_45 (fun x4 => ?_)
    refine VO_ishl hC d_MD_laysOrder_46 ?_
    refine VO_ior hC d_MD_laysOrder_47 ?_
    refine VO_istoreB hC d_MD_laysOrder_48 [(2, .int x3), (0, .ref (gad G 58)), (4, .int v4)] rfl (by decide) (fun x5 => ?_)
    refine VO_iincN hC d_MD_laysOrder_49 3 rfl (by decide : Int32.ofInt (-1) = -1) [(3, .int x5), (2, .int x3), (0, .ref (gad G 58))] rfl (by decide) ?_
    refine VO_goto hC d_MD_laysOrder_52 ?_
    exact VO_sub [3, 2, 1, 0] rfl (hK12 x3 x5 (v4 - 1) s2)
set_option maxRecDepth 20000 in
theorem B_MD_laysOrder_12 {G : MCx} (hC : C0 G "AccusedChooseModel" b_MD_laysOrder 5 1) (v2 : Int32) (v3 : Int32) (v4 : Int32) (s : St) : VO G (RZ G b_MD_laysOrder) (F_MD_laysOrder_12 v2 v3 v4 s) 12 [(0, .ref (gad G 58)), (2, .int v2), (3, .int v3), (4, .int v4)] [] s := by
  exact VO_fix (G_MD_laysOrder_12) 12 (fun q => [(0, .ref (gad G 58)), (2, .int q.1), (3, .int q.2.1), (4, .int q.2.2.1)]) (fun q => q.2.2.2) (fun K hK q => BH_MD_laysOrder_12 hC K (fun w2 w3 w4 s => hK (w2, w3, w4, s)) q.1 q.2.1 q.2.2.1 q.2.2.2) FUEL (v2, v3, v4, s)
set_option maxRecDepth 20000 in
theorem B_MD_laysOrder {G : MCx} (hC : C0 G "AccusedChooseModel" b_MD_laysOrder 5 1) (a1 : Int32) (s : St) : VO G (RZ G b_MD_laysOrder) (F_MD_laysOrder a1 s) 0 [(0, .ref (gad G 58)), (1, .int a1)] [] s := by
  unfold F_MD_laysOrder
  refine VO_iload hC d_MD_laysOrder_0 1 rfl ?_
  refine VO_istore hC d_MD_laysOrder_1 [(0, .ref (gad G 58)), (1, .int a1)] rfl (by decide) ?_
  refine VO_const hC d_MD_laysOrder_2 ?_
  refine VO_istore hC d_MD_laysOrder_3 [(2, .int a1), (0, .ref (gad G 58)), (1, .int a1)] rfl (by decide) ?_
  refine VO_aload hC d_MD_laysOrder_4 2 rfl ?_
  refine VO_geti hC fl_MD_90 sh_MD rfl d_MD_laysOrder_5 ?_
  refine VO_const hC d_MD_laysOrder_8 ?_
  refine VO_isub hC d_MD_laysOrder_9 ?_
  refine VO_istoreB hC d_MD_laysOrder_10 [(3, .int (0 : Int32)), (2, .int a1), (0, .ref (gad G 58)), (1, .int a1)] rfl (by decide) (fun x1 => ?_)
  exact VO_sub [3, 2, 1, 0] rfl (B_MD_laysOrder_12 hC a1 (0 : Int32) x1 s)
set_option maxRecDepth 20000 in
theorem M_MD_laysOrder {l : Launch} {D : va_G} {ad : Nat → Nat} {cI cL : ClassId} (hj : Inj ad) {a1 : Int32} {s : St} {o : Int32 × St} (h : F_MD_laysOrder a1 s = some o) : Cn l D ad cI cL y_MD_laysOrder b_MD_laysOrder 5 (some .boolean) 1 [.ref (ad 58), .int a1] s (some (.int o.1)) o.2 := by
  refine Cn_ofZ hj (plainFor_of_name (by decide)) (Nat.le_of_ble_eq_true rfl) [(0, .ref (ad 58)), (1, .int a1)] rfl (fun G hC e1 e2 e3 e4 e5 hR => ?_)
  subst e1; subst e2; subst e3; subst e4; subst e5
  exact B_MD_laysOrder hC a1 s o h hR
theorem d_MD_numbers_0 : PCi b_MD_numbers 0 1 1 := Or.inl ⟨1, by decide +kernel, by decide, rfl⟩
theorem d_MD_numbers_1 : PSi b_MD_numbers 1 1 2 := Or.inl ⟨1, by decide +kernel, rfl, rfl⟩
theorem d_MD_numbers_2 : PCi b_MD_numbers 2 0 3 := Or.inl ⟨0, by decide +kernel, by decide, rfl⟩
theorem d_MD_numbers_3 : PSi b_MD_numbers 3 2 4 := Or.inl ⟨2, by decide +kernel, rfl, rfl⟩
theorem d_MD_numbers_4 : PLi b_MD_numbers 4 2 5 := Or.inl ⟨2, by decide +kernel, rfl, rfl⟩
theorem d_MD_numbers_5 : PLa b_MD_numbers 5 0 6 := Or.inl ⟨0, by decide +kernel, rfl, rfl⟩
theorem d_MD_numbers_6 : DR b_MD_numbers 6 (.getfield 90) 3 9 := ⟨by decide +kernel, rfl⟩
theorem d_MD_numbers_9 : DJ b_MD_numbers 9 (.if_icmp .ge) 12 25 := ⟨16, by decide +kernel, rfl, by decide⟩
theorem d_MD_numbers_12 : PLi b_MD_numbers 12 1 13 := Or.inl ⟨1, by decide +kernel, rfl, rfl⟩
theorem d_MD_numbers_13 : PLa b_MD_numbers 13 0 14 := Or.inl ⟨0, by decide +kernel, rfl, rfl⟩
theorem d_MD_numbers_14 : DR b_MD_numbers 14 (.getfield 90) 3 17 := ⟨by decide +kernel, rfl⟩
theorem d_MD_numbers_17 : DR b_MD_numbers 17 (.imul) 1 18 := ⟨by decide +kernel, rfl⟩
theorem d_MD_numbers_18 : PSi b_MD_numbers 18 1 19 := Or.inl ⟨1, by decide +kernel, rfl, rfl⟩
theorem d_MD_numbers_19 : DR b_MD_numbers 19 (.iinc 2 1) 3 22 := ⟨by decide +kernel, rfl⟩
theorem d_MD_numbers_22 : DJ b_MD_numbers 22 .goto 25 4 := ⟨-18, by decide +kernel, rfl, by decide⟩
theorem d_MD_numbers_25 : PLi b_MD_numbers 25 1 26 := Or.inl ⟨1, by decide +kernel, rfl, rfl⟩
theorem d_MD_numbers_26 : DR b_MD_numbers 26 (.ireturn) 1 27 := ⟨by decide +kernel, rfl⟩
set_option maxRecDepth 20000 in
theorem BH_MD_numbers_4 {G : MCx} (hC : C0 G "AccusedChooseModel" b_MD_numbers 3 1) (K4 : Int32 × Int32 × St → Option (Int32 × St)) (hK4 : ∀ (w1 : Int32) (w2 : Int32) (s : St), VO G (RI G b_MD_numbers) (K4 (w1, w2, s)) 4 [(0, .ref (gad G 58)), (1, .int w1), (2, .int w2)] [] s) (v1 : Int32) (v2 : Int32) (s : St) : VO G (RI G b_MD_numbers) (H_MD_numbers_4 K4 v1 v2 s) 4 [(0, .ref (gad G 58)), (1, .int v1), (2, .int v2)] [] s := by
  unfold H_MD_numbers_4
  refine VO_iload hC d_MD_numbers_4 2 rfl ?_
  refine VO_aload hC d_MD_numbers_5 0 rfl ?_
  refine VO_geti hC fl_MD_90 sh_MD rfl d_MD_numbers_6 ?_
  refine VO_icmp_ge hC d_MD_numbers_9 (fun _ => ?_) (fun _ => ?_)
  · refine VO_iload hC d_MD_numbers_25 1 rfl ?_
    exact VO_ireturn d_MD_numbers_26
  · refine VO_iload hC d_MD_numbers_12 1 rfl ?_
    refine VO_aload hC d_MD_numbers_13 0 rfl ?_
    refine VO_geti hC fl_MD_90 sh_MD rfl d_MD_numbers_14 ?_
    refine VO_imul hC d_MD_numbers_17 ?_
    refine VO_istoreB hC d_MD_numbers_18 [(0, .ref (gad G 58)), (2, .int v2)] rfl (by decide) (fun x1 => ?_)
    refine VO_iinc hC d_MD_numbers_19 2 rfl (by decide : Int32.ofInt 1 = 1) [(1, .int x1), (0, .ref (gad G 58))] rfl (by decide) ?_
    refine VO_goto hC d_MD_numbers_22 ?_
    exact VO_sub [2, 1, 0] rfl (hK4 x1 (v2 + 1) s)
set_option maxRecDepth 20000 in
theorem B_MD_numbers_4 {G : MCx} (hC : C0 G "AccusedChooseModel" b_MD_numbers 3 1) (v1 : Int32) (v2 : Int32) (s : St) : VO G (RI G b_MD_numbers) (F_MD_numbers_4 v1 v2 s) 4 [(0, .ref (gad G 58)), (1, .int v1), (2, .int v2)] [] s := by
  exact VO_fix (G_MD_numbers_4) 4 (fun q => [(0, .ref (gad G 58)), (1, .int q.1), (2, .int q.2.1)]) (fun q => q.2.2) (fun K hK q => BH_MD_numbers_4 hC K (fun w1 w2 s => hK (w1, w2, s)) q.1 q.2.1 q.2.2) FUEL (v1, v2, s)
set_option maxRecDepth 20000 in
theorem B_MD_numbers {G : MCx} (hC : C0 G "AccusedChooseModel" b_MD_numbers 3 1) (s : St) : VO G (RI G b_MD_numbers) (F_MD_numbers s) 0 [(0, .ref (gad G 58))] [] s := by
  unfold F_MD_numbers
  refine VO_const hC d_MD_numbers_0 ?_
  refine VO_istore hC d_MD_numbers_1 [(0, .ref (gad G 58))] rfl (by decide) ?_
  refine VO_const hC d_MD_numbers_2 ?_
  refine VO_istore hC d_MD_numbers_3 [(1, .int (1 : Int32)), (0, .ref (gad G 58))] rfl (by decide) ?_
  exact VO_sub [2, 1, 0] rfl (B_MD_numbers_4 hC (1 : Int32) (0 : Int32) s)
set_option maxRecDepth 20000 in
theorem M_MD_numbers {l : Launch} {D : va_G} {ad : Nat → Nat} {cI cL : ClassId} (hj : Inj ad) {s : St} {o : Int32 × St} (h : F_MD_numbers s = some o) : Cn l D ad cI cL y_MD_numbers b_MD_numbers 3 (some .int) 1 [.ref (ad 58)] s (some (.int o.1)) o.2 := by
  refine Cn_ofI hj (plainFor_of_name (by decide)) (Nat.le_of_ble_eq_true rfl) [(0, .ref (ad 58))] rfl (fun G hC e1 e2 e3 e4 e5 hR => ?_)
  subst e1; subst e2; subst e3; subst e4; subst e5
  exact B_MD_numbers hC s o h hR
theorem d_MD_keepsFound_0 : PCi b_MD_keepsFound 0 0 1 := Or.inl ⟨0, by decide +kernel, by decide, rfl⟩
theorem d_MD_keepsFound_1 : PSi b_MD_keepsFound 1 2 2 := Or.inl ⟨2, by decide +kernel, rfl, rfl⟩
theorem d_MD_keepsFound_2 : PLi b_MD_keepsFound 2 2 3 := Or.inl ⟨2, by decide +kernel, rfl, rfl⟩
theorem d_MD_keepsFound_3 : PLa b_MD_keepsFound 3 0 4 := Or.inl ⟨0, by decide +kernel, rfl, rfl⟩
theorem d_MD_keepsFound_4 : DR b_MD_keepsFound 4 (.getfield 90) 3 7 := ⟨by decide +kernel, rfl⟩
theorem d_MD_keepsFound_7 : DJ b_MD_keepsFound 7 (.if_icmp .ge) 10 28 := ⟨21, by decide +kernel, rfl, by decide⟩
theorem d_MD_keepsFound_10 : PLa b_MD_keepsFound 10 0 11 := Or.inl ⟨0, by decide +kernel, rfl, rfl⟩
theorem d_MD_keepsFound_11 : DR b_MD_keepsFound 11 (.getfield 78) 3 14 := ⟨by decide +kernel, rfl⟩
theorem d_MD_keepsFound_14 : PLi b_MD_keepsFound 14 2 15 := Or.inl ⟨2, by decide +kernel, rfl, rfl⟩
theorem d_MD_keepsFound_15 : PLa b_MD_keepsFound 15 0 16 := Or.inl ⟨0, by decide +kernel, rfl, rfl⟩
theorem d_MD_keepsFound_16 : DR b_MD_keepsFound 16 (.getfield 59) 3 19 := ⟨by decide +kernel, rfl⟩
theorem d_MD_keepsFound_19 : PLi b_MD_keepsFound 19 2 20 := Or.inl ⟨2, by decide +kernel, rfl, rfl⟩
theorem d_MD_keepsFound_20 : DR b_MD_keepsFound 20 (.iaload) 1 21 := ⟨by decide +kernel, rfl⟩
theorem d_MD_keepsFound_21 : DR b_MD_keepsFound 21 (.iastore) 1 22 := ⟨by decide +kernel, rfl⟩
theorem d_MD_keepsFound_22 : DR b_MD_keepsFound 22 (.iinc 2 1) 3 25 := ⟨by decide +kernel, rfl⟩
theorem d_MD_keepsFound_25 : DJ b_MD_keepsFound 25 .goto 28 2 := ⟨-23, by decide +kernel, rfl, by decide⟩
theorem d_MD_keepsFound_28 : PLa b_MD_keepsFound 28 0 29 := Or.inl ⟨0, by decide +kernel, rfl, rfl⟩
theorem d_MD_keepsFound_29 : PLi b_MD_keepsFound 29 1 30 := Or.inl ⟨1, by decide +kernel, rfl, rfl⟩
theorem d_MD_keepsFound_30 : DR b_MD_keepsFound 30 (.putfield 274) 3 33 := ⟨by decide +kernel, rfl⟩
theorem d_MD_keepsFound_33 : DR b_MD_keepsFound 33 (.return_) 1 34 := ⟨by decide +kernel, rfl⟩
set_option maxRecDepth 20000 in
theorem BH_MD_keepsFound_2 {G : MCx} (hC : C0 G "AccusedChooseModel" b_MD_keepsFound 3 1) {v1 : Int32} (K2 : Int32 × St → Option (St)) (hK2 : ∀ (w2 : Int32) (s : St), VO G (RV G b_MD_keepsFound) (K2 (w2, s)) 2 [(0, .ref (gad G 58)), (1, .int v1), (2, .int w2)] [] s) (v2 : Int32) (s : St) : VO G (RV G b_MD_keepsFound) (H_MD_keepsFound_2 v1 K2 v2 s) 2 [(0, .ref (gad G 58)), (1, .int v1), (2, .int v2)] [] s := by
  unfold H_MD_keepsFound_2
  refine VO_iload hC d_MD_keepsFound_2 2 rfl ?_
  refine VO_aload hC d_MD_keepsFound_3 0 rfl ?_
  refine VO_geti hC fl_MD_90 sh_MD rfl d_MD_keepsFound_4 ?_
  refine VO_icmp_ge hC d_MD_keepsFound_7 (fun _ => ?_) (fun _ => ?_)
  · refine VO_aload hC d_MD_keepsFound_28 0 rfl ?_
    refine VO_iload hC d_MD_keepsFound_29 1 rfl ?_
    refine VO_puti hC fw_MD_274 sh_MD rfl d_MD_keepsFound_30 (fun s1 => ?_)
    exact VO_return d_MD_keepsFound_33
  · refine VO_aload hC d_MD_keepsFound_10 0 rfl ?_
    refine VO_getr (r := 80) hC fl_MD_78 sh_MD rfl d_MD_keepsFound_11 ?_
    refine VO_iload hC d_MD_keepsFound_14 2 rfl ?_
    refine VO_aload hC d_MD_keepsFound_15 0 rfl ?_
    refine VO_getr (r := 74) hC fl_MD_59 sh_MD rfl d_MD_keepsFound_16 ?_
    refine VO_iload hC d_MD_keepsFound_19 2 rfl ?_
    refine VO_iaload hC ia_74 d_MD_keepsFound_20 (fun x2 => ?_)
    refine VO_iastore hC ia_80 d_MD_keepsFound_21 (fun s3 => ?_)
    refine VO_iinc hC d_MD_keepsFound_22 2 rfl (by decide : Int32.ofInt 1 = 1) [(0, .ref (gad G 58)), (1, .int v1)] rfl (by decide) ?_
    refine VO_goto hC d_MD_keepsFound_25 ?_
    exact VO_sub [1, 2, 0] rfl (hK2 (v2 + 1) s3)
set_option maxRecDepth 20000 in
theorem B_MD_keepsFound_2 {G : MCx} (hC : C0 G "AccusedChooseModel" b_MD_keepsFound 3 1) (v1 : Int32) (v2 : Int32) (s : St) : VO G (RV G b_MD_keepsFound) (F_MD_keepsFound_2 v1 v2 s) 2 [(0, .ref (gad G 58)), (1, .int v1), (2, .int v2)] [] s := by
  exact VO_fix (G_MD_keepsFound_2 v1) 2 (fun q => [(0, .ref (gad G 58)), (1, .int v1), (2, .int q.1)]) (fun q => q.2) (fun K hK q => BH_MD_keepsFound_2 hC K (fun w2 s => hK (w2, s)) q.1 q.2) FUEL (v2, s)
set_option maxRecDepth 20000 in
theorem B_MD_keepsFound {G : MCx} (hC : C0 G "AccusedChooseModel" b_MD_keepsFound 3 1) (a1 : Int32) (s : St) : VO G (RV G b_MD_keepsFound) (F_MD_keepsFound a1 s) 0 [(0, .ref (gad G 58)), (1, .int a1)] [] s := by
  unfold F_MD_keepsFound
  refine VO_const hC d_MD_keepsFound_0 ?_
  refine VO_istore hC d_MD_keepsFound_1 [(0, .ref (gad G 58)), (1, .int a1)] rfl (by decide) ?_
  exact VO_sub [1, 2, 0] rfl (B_MD_keepsFound_2 hC a1 (0 : Int32) s)
set_option maxRecDepth 20000 in
theorem M_MD_keepsFound {l : Launch} {D : va_G} {ad : Nat → Nat} {cI cL : ClassId} (hj : Inj ad) {a1 : Int32} {s : St} {o : St} (h : F_MD_keepsFound a1 s = some o) : Cn l D ad cI cL y_MD_keepsFound b_MD_keepsFound 3 none 1 [.ref (ad 58), .int a1] s none o := by
  refine Cn_ofV hj (plainFor_of_name (by decide)) (Nat.le_of_ble_eq_true rfl) [(0, .ref (ad 58)), (1, .int a1)] rfl (fun G hC e1 e2 e3 e4 e5 hR => ?_)
  subst e1; subst e2; subst e3; subst e4; subst e5
  exact B_MD_keepsFound hC a1 s o h hR
theorem d_MD_foundOr_0 : PLi b_MD_foundOr 0 1 1 := Or.inl ⟨1, by decide +kernel, rfl, rfl⟩
theorem d_MD_foundOr_1 : DJ b_MD_foundOr 1 (.ifCond .ge) 4 11 := ⟨10, by decide +kernel, rfl, by decide⟩
theorem d_MD_foundOr_4 : PLa b_MD_foundOr 4 0 5 := Or.inl ⟨0, by decide +kernel, rfl, rfl⟩
theorem d_MD_foundOr_5 : DR b_MD_foundOr 5 (.getfield 274) 3 8 := ⟨by decide +kernel, rfl⟩
theorem d_MD_foundOr_8 : DJ b_MD_foundOr 8 .goto 11 30 := ⟨22, by decide +kernel, rfl, by decide⟩
theorem d_MD_foundOr_11 : PLi b_MD_foundOr 11 1 12 := Or.inl ⟨1, by decide +kernel, rfl, rfl⟩
theorem d_MD_foundOr_12 : PLa b_MD_foundOr 12 0 13 := Or.inl ⟨0, by decide +kernel, rfl, rfl⟩
theorem d_MD_foundOr_13 : DR b_MD_foundOr 13 (.getfield 90) 3 16 := ⟨by decide +kernel, rfl⟩
theorem d_MD_foundOr_16 : DJ b_MD_foundOr 16 (.if_icmp .ge) 19 28 := ⟨12, by decide +kernel, rfl, by decide⟩
theorem d_MD_foundOr_19 : PLa b_MD_foundOr 19 0 20 := Or.inl ⟨0, by decide +kernel, rfl, rfl⟩
theorem d_MD_foundOr_20 : DR b_MD_foundOr 20 (.getfield 78) 3 23 := ⟨by decide +kernel, rfl⟩
theorem d_MD_foundOr_23 : PLi b_MD_foundOr 23 1 24 := Or.inl ⟨1, by decide +kernel, rfl, rfl⟩
theorem d_MD_foundOr_24 : DR b_MD_foundOr 24 (.iaload) 1 25 := ⟨by decide +kernel, rfl⟩
theorem d_MD_foundOr_25 : DJ b_MD_foundOr 25 .goto 28 30 := ⟨5, by decide +kernel, rfl, by decide⟩
theorem d_MD_foundOr_28 : PCi b_MD_foundOr 28 (-9) 30 := Or.inr (Or.inl ⟨(-9), by decide +kernel, by decide, rfl⟩)
theorem d_MD_foundOr_30 : DR b_MD_foundOr 30 (.ireturn) 1 31 := ⟨by decide +kernel, rfl⟩
set_option maxRecDepth 20000 in
theorem B_MD_foundOr {G : MCx} (hC : C0 G "AccusedChooseModel" b_MD_foundOr 2 1) (a1 : Int32) (s : St) : VO G (RI G b_MD_foundOr) (F_MD_foundOr a1 s) 0 [(0, .ref (gad G 58)), (1, .int a1)] [] s := by
  unfold F_MD_foundOr
  refine VO_iload hC d_MD_foundOr_0 1 rfl ?_
  refine VO_if_ge hC d_MD_foundOr_1 (fun _ => ?_) (fun _ => ?_)
  · refine VO_iload hC d_MD_foundOr_11 1 rfl ?_
    refine VO_aload hC d_MD_foundOr_12 0 rfl ?_
    refine VO_geti hC fl_MD_90 sh_MD rfl d_MD_foundOr_13 ?_
    refine VO_icmp_ge hC d_MD_foundOr_16 (fun _ => ?_) (fun _ => ?_)
    · refine VO_const hC d_MD_foundOr_28 ?_
      exact VO_ireturn d_MD_foundOr_30
    · refine VO_aload hC d_MD_foundOr_19 0 rfl ?_
      refine VO_getr (r := 80) hC fl_MD_78 sh_MD rfl d_MD_foundOr_20 ?_
      refine VO_iload hC d_MD_foundOr_23 1 rfl ?_
      refine VO_iaload hC ia_80 d_MD_foundOr_24 (fun x1 => ?_)
      refine VO_goto hC d_MD_foundOr_25 ?_
      exact VO_ireturn d_MD_foundOr_30
  · refine VO_aload hC d_MD_foundOr_4 0 rfl ?_
    refine VO_geti hC fl_MD_274 sh_MD rfl d_MD_foundOr_5 ?_
    refine VO_goto hC d_MD_foundOr_8 ?_
    exact VO_ireturn d_MD_foundOr_30
set_option maxRecDepth 20000 in
theorem M_MD_foundOr {l : Launch} {D : va_G} {ad : Nat → Nat} {cI cL : ClassId} (hj : Inj ad) {a1 : Int32} {s : St} {o : Int32 × St} (h : F_MD_foundOr a1 s = some o) : Cn l D ad cI cL y_MD_foundOr b_MD_foundOr 2 (some .int) 1 [.ref (ad 58), .int a1] s (some (.int o.1)) o.2 := by
  refine Cn_ofI hj (plainFor_of_name (by decide)) (Nat.le_of_ble_eq_true rfl) [(0, .ref (ad 58)), (1, .int a1)] rfl (fun G hC e1 e2 e3 e4 e5 hR => ?_)
  subst e1; subst e2; subst e3; subst e4; subst e5
  exact B_MD_foundOr hC a1 s o h hR
theorem d_MD_notFew_0 : PLa b_MD_notFew 0 0 1 := Or.inl ⟨0, by decide +kernel, rfl, rfl⟩
theorem d_MD_notFew_1 : DR b_MD_notFew 1 (.getfield 90) 3 4 := ⟨by decide +kernel, rfl⟩
theorem d_MD_notFew_4 : PCi b_MD_notFew 4 5 5 := Or.inl ⟨5, by decide +kernel, by decide, rfl⟩
theorem d_MD_notFew_5 : DJ b_MD_notFew 5 (.if_icmp .le) 8 13 := ⟨8, by decide +kernel, rfl, by decide⟩
theorem d_MD_notFew_8 : PCi b_MD_notFew 8 (-3) 10 := Or.inr (Or.inl ⟨(-3), by decide +kernel, by decide, rfl⟩)
theorem d_MD_notFew_10 : DJ b_MD_notFew 10 .goto 13 24 := ⟨14, by decide +kernel, rfl, by decide⟩
theorem d_MD_notFew_13 : PLi b_MD_notFew 13 1 14 := Or.inl ⟨1, by decide +kernel, rfl, rfl⟩
theorem d_MD_notFew_14 : PCi b_MD_notFew 14 (-1) 15 := Or.inl ⟨(-1), by decide +kernel, by decide, rfl⟩
theorem d_MD_notFew_15 : DJ b_MD_notFew 15 (.if_icmp .ge) 18 23 := ⟨8, by decide +kernel, rfl, by decide⟩
theorem d_MD_notFew_18 : PCi b_MD_notFew 18 (-4) 20 := Or.inr (Or.inl ⟨(-4), by decide +kernel, by decide, rfl⟩)
theorem d_MD_notFew_20 : DJ b_MD_notFew 20 .goto 23 24 := ⟨4, by decide +kernel, rfl, by decide⟩
theorem d_MD_notFew_23 : PCi b_MD_notFew 23 0 24 := Or.inl ⟨0, by decide +kernel, by decide, rfl⟩
theorem d_MD_notFew_24 : DR b_MD_notFew 24 (.ireturn) 1 25 := ⟨by decide +kernel, rfl⟩
set_option maxRecDepth 20000 in
theorem B_MD_notFew {G : MCx} (hC : C0 G "AccusedChooseModel" b_MD_notFew 2 1) (a1 : Int32) (s : St) : VO G (RI G b_MD_notFew) (F_MD_notFew a1 s) 0 [(0, .ref (gad G 58)), (1, .int a1)] [] s := by
  unfold F_MD_notFew
  refine VO_aload hC d_MD_notFew_0 0 rfl ?_
  refine VO_geti hC fl_MD_90 sh_MD rfl d_MD_notFew_1 ?_
  refine VO_const hC d_MD_notFew_4 ?_
  refine VO_icmp_le hC d_MD_notFew_5 (fun _ => ?_) (fun _ => ?_)
  · refine VO_iload hC d_MD_notFew_13 1 rfl ?_
    refine VO_const hC d_MD_notFew_14 ?_
    refine VO_icmp_ge hC d_MD_notFew_15 (fun _ => ?_) (fun _ => ?_)
    · refine VO_const hC d_MD_notFew_23 ?_
      exact VO_ireturn d_MD_notFew_24
    · refine VO_const hC d_MD_notFew_18 ?_
      refine VO_goto hC d_MD_notFew_20 ?_
      exact VO_ireturn d_MD_notFew_24
  · refine VO_const hC d_MD_notFew_8 ?_
    refine VO_goto hC d_MD_notFew_10 ?_
    exact VO_ireturn d_MD_notFew_24
set_option maxRecDepth 20000 in
theorem M_MD_notFew {l : Launch} {D : va_G} {ad : Nat → Nat} {cI cL : ClassId} (hj : Inj ad) {a1 : Int32} {s : St} {o : Int32 × St} (h : F_MD_notFew a1 s = some o) : Cn l D ad cI cL y_MD_notFew b_MD_notFew 2 (some .int) 1 [.ref (ad 58), .int a1] s (some (.int o.1)) o.2 := by
  refine Cn_ofI hj (plainFor_of_name (by decide)) (Nat.le_of_ble_eq_true rfl) [(0, .ref (ad 58)), (1, .int a1)] rfl (fun G hC e1 e2 e3 e4 e5 hR => ?_)
  subst e1; subst e2; subst e3; subst e4; subst e5
  exact B_MD_notFew hC a1 s o h hR
theorem d_MD_greatest_0 : PCi b_MD_greatest 0 0 1 := Or.inl ⟨0, by decide +kernel, by decide, rfl⟩
theorem d_MD_greatest_1 : PSi b_MD_greatest 1 1 2 := Or.inl ⟨1, by decide +kernel, rfl, rfl⟩
theorem d_MD_greatest_2 : PCi b_MD_greatest 2 0 3 := Or.inl ⟨0, by decide +kernel, by decide, rfl⟩
theorem d_MD_greatest_3 : PSi b_MD_greatest 3 2 4 := Or.inl ⟨2, by decide +kernel, rfl, rfl⟩
theorem d_MD_greatest_4 : PLi b_MD_greatest 4 2 5 := Or.inl ⟨2, by decide +kernel, rfl, rfl⟩
theorem d_MD_greatest_5 : PLa b_MD_greatest 5 0 6 := Or.inl ⟨0, by decide +kernel, rfl, rfl⟩
theorem d_MD_greatest_6 : DR b_MD_greatest 6 (.getfield 90) 3 9 := ⟨by decide +kernel, rfl⟩
theorem d_MD_greatest_9 : DJ b_MD_greatest 9 (.if_icmp .ge) 12 37 := ⟨28, by decide +kernel, rfl, by decide⟩
theorem d_MD_greatest_12 : PLa b_MD_greatest 12 0 13 := Or.inl ⟨0, by decide +kernel, rfl, rfl⟩
theorem d_MD_greatest_13 : PLi b_MD_greatest 13 2 14 := Or.inl ⟨2, by decide +kernel, rfl, rfl⟩
theorem d_MD_greatest_14 : DR b_MD_greatest 14 (.invokevirtual 212) 3 17 := ⟨by decide +kernel, rfl⟩
theorem d_MD_greatest_17 : PLi b_MD_greatest 17 1 18 := Or.inl ⟨1, by decide +kernel, rfl, rfl⟩
theorem d_MD_greatest_18 : DJ b_MD_greatest 18 (.if_icmp .le) 21 29 := ⟨11, by decide +kernel, rfl, by decide⟩
theorem d_MD_greatest_21 : PLa b_MD_greatest 21 0 22 := Or.inl ⟨0, by decide +kernel, rfl, rfl⟩
theorem d_MD_greatest_22 : PLi b_MD_greatest 22 2 23 := Or.inl ⟨2, by decide +kernel, rfl, rfl⟩
theorem d_MD_greatest_23 : DR b_MD_greatest 23 (.invokevirtual 212) 3 26 := ⟨by decide +kernel, rfl⟩
theorem d_MD_greatest_26 : DJ b_MD_greatest 26 .goto 29 30 := ⟨4, by decide +kernel, rfl, by decide⟩
theorem d_MD_greatest_29 : PLi b_MD_greatest 29 1 30 := Or.inl ⟨1, by decide +kernel, rfl, rfl⟩
theorem d_MD_greatest_30 : PSi b_MD_greatest 30 1 31 := Or.inl ⟨1, by decide +kernel, rfl, rfl⟩
theorem d_MD_greatest_31 : DR b_MD_greatest 31 (.iinc 2 1) 3 34 := ⟨by decide +kernel, rfl⟩
theorem d_MD_greatest_34 : DJ b_MD_greatest 34 .goto 37 4 := ⟨-30, by decide +kernel, rfl, by decide⟩
theorem d_MD_greatest_37 : PLi b_MD_greatest 37 1 38 := Or.inl ⟨1, by decide +kernel, rfl, rfl⟩
theorem d_MD_greatest_38 : DR b_MD_greatest 38 (.ireturn) 1 39 := ⟨by decide +kernel, rfl⟩
set_option maxRecDepth 20000 in
theorem B_MD_greatest_30 {G : MCx} (hC : C0 G "AccusedChooseModel" b_MD_greatest 3 4) (K4 : Int32 × Int32 × St → Option (Int32 × St)) (hK4 : ∀ (w1 : Int32) (w2 : Int32) (s : St), VO G (RI G b_MD_greatest) (K4 (w1, w2, s)) 4 [(0, .ref (gad G 58)), (1, .int w1), (2, .int w2)] [] s) (v2 : Int32) (z0 : Int32) (s : St) : VO G (RI G b_MD_greatest) (F_MD_greatest_30 K4 v2 z0 s) 30 [(0, .ref (gad G 58)), (2, .int v2)] [.int z0] s := by
  unfold F_MD_greatest_30
  refine VO_istore hC d_MD_greatest_30 [(0, .ref (gad G 58)), (2, .int v2)] rfl (by decide) ?_
  refine VO_iinc hC d_MD_greatest_31 2 rfl (by decide : Int32.ofInt 1 = 1) [(1, .int z0), (0, .ref (gad G 58))] rfl (by decide) ?_
  refine VO_goto hC d_MD_greatest_34 ?_
  exact VO_sub [2, 1, 0] rfl (hK4 z0 (v2 + 1) s)
set_option maxRecDepth 20000 in
theorem BH_MD_greatest_4 {G : MCx} (hC : C0 G "AccusedChooseModel" b_MD_greatest 3 4) (K4 : Int32 × Int32 × St → Option (Int32 × St)) (hK4 : ∀ (w1 : Int32) (w2 : Int32) (s : St), VO G (RI G b_MD_greatest) (K4 (w1, w2, s)) 4 [(0, .ref (gad G 58)), (1, .int w1), (2, .int w2)] [] s) (v1 : Int32) (v2 : Int32) (s : St) : VO G (RI G b_MD_greatest) (H_MD_greatest_4 K4 v1 v2 s) 4 [(0, .ref (gad G 58)), (1, .int v1), (2, .int v2)] [] s := by
  unfold H_MD_greatest_4
  refine VO_iload hC d_MD_greatest_4 2 rfl ?_
  refine VO_aload hC d_MD_greatest_5 0 rfl ?_
  refine VO_geti hC fl_MD_90 sh_MD rfl d_MD_greatest_6 ?_
  refine VO_icmp_ge hC d_MD_greatest_9 (fun _ => ?_) (fun _ => ?_)
  · refine VO_iload hC d_MD_greatest_37 1 rfl ?_
    exact VO_ireturn d_MD_greatest_38
  · refine VO_aload hC d_MD_greatest_12 0 rfl ?_
    refine VO_iload hC d_MD_greatest_13 2 rfl ?_
    refine VO_callVI hC [.int v2] [] ml_MD_212 d_MD_greatest_14 yv_MD_hasMonths sh_MD rfl rfl (fun o h => M_MD_hasMonths hC.inj h) (by decide) rfl rfl (Nat.le_of_ble_eq_true rfl) (fun o1 => ?_)
    refine VO_iload hC d_MD_greatest_17 1 rfl ?_
    refine VO_icmp_le hC d_MD_greatest_18 (fun _ => ?_) (fun _ => ?_)
    · refine VO_iload hC d_MD_greatest_29 1 rfl ?_
      exact VO_sub [0, 2] rfl (B_MD_greatest_30 hC K4 hK4 v2 v1 o1.2)
    · refine VO_aload hC d_MD_greatest_21 0 rfl ?_
      refine VO_iload hC d_MD_greatest_22 2 rfl ?_
      refine VO_callVI hC [.int v2] [] ml_MD_212 d_MD_greatest_23 yv_MD_hasMonths sh_MD rfl rfl (fun o h => M_MD_hasMonths hC.inj h) (by decide) rfl rfl (Nat.le_of_ble_eq_true rfl) (fun o2 => ?_)
      refine VO_goto hC d_MD_greatest_26 ?_
      exact VO_sub [0, 2] rfl (B_MD_greatest_30 hC K4 hK4 v2 o2.1 o2.2)
set_option maxRecDepth 20000 in
theorem B_MD_greatest_4 {G : MCx} (hC : C0 G "AccusedChooseModel" b_MD_greatest 3 4) (v1 : Int32) (v2 : Int32) (s : St) : VO G (RI G b_MD_greatest) (F_MD_greatest_4 v1 v2 s) 4 [(0, .ref (gad G 58)), (1, .int v1), (2, .int v2)] [] s := by
  exact VO_fix (G_MD_greatest_4) 4 (fun q => [(0, .ref (gad G 58)), (1, .int q.1), (2, .int q.2.1)]) (fun q => q.2.2) (fun K hK q => BH_MD_greatest_4 hC K (fun w1 w2 s => hK (w1, w2, s)) q.1 q.2.1 q.2.2) FUEL (v1, v2, s)
set_option maxRecDepth 20000 in
theorem B_MD_greatest {G : MCx} (hC : C0 G "AccusedChooseModel" b_MD_greatest 3 4) (s : St) : VO G (RI G b_MD_greatest) (F_MD_greatest s) 0 [(0, .ref (gad G 58))] [] s := by
  unfold F_MD_greatest
  refine VO_const hC d_MD_greatest_0 ?_
  refine VO_istore hC d_MD_greatest_1 [(0, .ref (gad G 58))] rfl (by decide) ?_
  refine VO_const hC d_MD_greatest_2 ?_
  refine VO_istore hC d_MD_greatest_3 [(1, .int (0 : Int32)), (0, .ref (gad G 58))] rfl (by decide) ?_
  exact VO_sub [2, 1, 0] rfl (B_MD_greatest_4 hC (0 : Int32) (0 : Int32) s)
set_option maxRecDepth 20000 in
theorem M_MD_greatest {l : Launch} {D : va_G} {ad : Nat → Nat} {cI cL : ClassId} (hj : Inj ad) {s : St} {o : Int32 × St} (h : F_MD_greatest s = some o) : Cn l D ad cI cL y_MD_greatest b_MD_greatest 3 (some .int) 4 [.ref (ad 58)] s (some (.int o.1)) o.2 := by
  refine Cn_ofI hj (plainFor_of_name (by decide)) (Nat.le_of_ble_eq_true rfl) [(0, .ref (ad 58))] rfl (fun G hC e1 e2 e3 e4 e5 hR => ?_)
  subst e1; subst e2; subst e3; subst e4; subst e5
  exact B_MD_greatest hC s o h hR
theorem d_MD_findOrder_0 : PLa b_MD_findOrder 0 0 1 := Or.inl ⟨0, by decide +kernel, rfl, rfl⟩
theorem d_MD_findOrder_1 : DR b_MD_findOrder 1 (.ldc 87) 2 3 := ⟨by decide +kernel, rfl⟩
theorem d_MD_findOrder_3 : DR b_MD_findOrder 3 (.putfield 274) 3 6 := ⟨by decide +kernel, rfl⟩
theorem d_MD_findOrder_6 : PCi b_MD_findOrder 6 0 7 := Or.inl ⟨0, by decide +kernel, by decide, rfl⟩
theorem d_MD_findOrder_7 : PSi b_MD_findOrder 7 2 8 := Or.inl ⟨2, by decide +kernel, rfl, rfl⟩
theorem d_MD_findOrder_8 : PLi b_MD_findOrder 8 2 9 := Or.inl ⟨2, by decide +kernel, rfl, rfl⟩
theorem d_MD_findOrder_9 : PLa b_MD_findOrder 9 0 10 := Or.inl ⟨0, by decide +kernel, rfl, rfl⟩
theorem d_MD_findOrder_10 : DR b_MD_findOrder 10 (.invokevirtual 277) 3 13 := ⟨by decide +kernel, rfl⟩
theorem d_MD_findOrder_13 : DJ b_MD_findOrder 13 (.if_icmp .ge) 16 66 := ⟨53, by decide +kernel, rfl, by decide⟩
theorem d_MD_findOrder_16 : PLa b_MD_findOrder 16 0 17 := Or.inl ⟨0, by decide +kernel, rfl, rfl⟩
theorem d_MD_findOrder_17 : PLi b_MD_findOrder 17 2 18 := Or.inl ⟨2, by decide +kernel, rfl, rfl⟩
theorem d_MD_findOrder_18 : DR b_MD_findOrder 18 (.invokevirtual 280) 3 21 := ⟨by decide +kernel, rfl⟩
theorem d_MD_findOrder_21 : DJ b_MD_findOrder 21 (.ifCond .ne) 24 27 := ⟨6, by decide +kernel, rfl, by decide⟩
theorem d_MD_findOrder_24 : DJ b_MD_findOrder 24 .goto 27 60 := ⟨36, by decide +kernel, rfl, by decide⟩
theorem d_MD_findOrder_27 : PLa b_MD_findOrder 27 0 28 := Or.inl ⟨0, by decide +kernel, rfl, rfl⟩
theorem d_MD_findOrder_28 : DR b_MD_findOrder 28 (.invokevirtual 209) 3 31 := ⟨by decide +kernel, rfl⟩
theorem d_MD_findOrder_31 : PLi b_MD_findOrder 31 1 32 := Or.inl ⟨1, by decide +kernel, rfl, rfl⟩
theorem d_MD_findOrder_32 : DJ b_MD_findOrder 32 (.ifCond .eq) 35 42 := ⟨10, by decide +kernel, rfl, by decide⟩
theorem d_MD_findOrder_35 : PLa b_MD_findOrder 35 0 36 := Or.inl ⟨0, by decide +kernel, rfl, rfl⟩
theorem d_MD_findOrder_36 : DR b_MD_findOrder 36 (.invokevirtual 283) 3 39 := ⟨by decide +kernel, rfl⟩
theorem d_MD_findOrder_39 : DJ b_MD_findOrder 39 .goto 42 46 := ⟨7, by decide +kernel, rfl, by decide⟩
theorem d_MD_findOrder_42 : PLa b_MD_findOrder 42 0 43 := Or.inl ⟨0, by decide +kernel, rfl, rfl⟩
theorem d_MD_findOrder_43 : DR b_MD_findOrder 43 (.invokevirtual 218) 3 46 := ⟨by decide +kernel, rfl⟩
theorem d_MD_findOrder_46 : PSi b_MD_findOrder 46 3 47 := Or.inl ⟨3, by decide +kernel, rfl, rfl⟩
theorem d_MD_findOrder_47 : PLi b_MD_findOrder 47 3 48 := Or.inl ⟨3, by decide +kernel, rfl, rfl⟩
theorem d_MD_findOrder_48 : PLa b_MD_findOrder 48 0 49 := Or.inl ⟨0, by decide +kernel, rfl, rfl⟩
theorem d_MD_findOrder_49 : DR b_MD_findOrder 49 (.getfield 274) 3 52 := ⟨by decide +kernel, rfl⟩
theorem d_MD_findOrder_52 : DJ b_MD_findOrder 52 (.if_icmp .ge) 55 60 := ⟨8, by decide +kernel, rfl, by decide⟩
theorem d_MD_findOrder_55 : PLa b_MD_findOrder 55 0 56 := Or.inl ⟨0, by decide +kernel, rfl, rfl⟩
theorem d_MD_findOrder_56 : PLi b_MD_findOrder 56 3 57 := Or.inl ⟨3, by decide +kernel, rfl, rfl⟩
theorem d_MD_findOrder_57 : DR b_MD_findOrder 57 (.invokevirtual 286) 3 60 := ⟨by decide +kernel, rfl⟩
theorem d_MD_findOrder_60 : DR b_MD_findOrder 60 (.iinc 2 1) 3 63 := ⟨by decide +kernel, rfl⟩
theorem d_MD_findOrder_63 : DJ b_MD_findOrder 63 .goto 66 8 := ⟨-55, by decide +kernel, rfl, by decide⟩
theorem d_MD_findOrder_66 : DR b_MD_findOrder 66 (.return_) 1 67 := ⟨by decide +kernel, rfl⟩
set_option maxRecDepth 20000 in
theorem B_MD_findOrder_60 {G : MCx} (hC : C0 G "AccusedChooseModel" b_MD_findOrder 4 5) {v1 : Int32} (K8 : Int32 × St → Option (St)) (hK8 : ∀ (w2 : Int32) (s : St), VO G (RV G b_MD_findOrder) (K8 (w2, s)) 8 [(0, .ref (gad G 58)), (1, .int v1), (2, .int w2)] [] s) (v2 : Int32) (s : St) : VO G (RV G b_MD_findOrder) (F_MD_findOrder_60 K8 v1 v2 s) 60 [(0, .ref (gad G 58)), (1, .int v1), (2, .int v2)] [] s := by
  unfold F_MD_findOrder_60
  refine VO_iinc hC d_MD_findOrder_60 2 rfl (by decide : Int32.ofInt 1 = 1) [(0, .ref (gad G 58)), (1, .int v1)] rfl (by decide) ?_
  refine VO_goto hC d_MD_findOrder_63 ?_
  exact VO_sub [1, 2, 0] rfl (hK8 (v2 + 1) s)
set_option maxRecDepth 20000 in
theorem B_MD_findOrder_46 {G : MCx} (hC : C0 G "AccusedChooseModel" b_MD_findOrder 4 5) {v1 : Int32} (K8 : Int32 × St → Option (St)) (hK8 : ∀ (w2 : Int32) (s : St), VO G (RV G b_MD_findOrder) (K8 (w2, s)) 8 [(0, .ref (gad G 58)), (1, .int v1), (2, .int w2)] [] s) (v2 : Int32) (z0 : Int32) (s : St) : VO G (RV G b_MD_findOrder) (F_MD_findOrder_46 K8 v1 v2 z0 s) 46 [(0, .ref (gad G 58)), (1, .int v1), (2, .int v2)] [.int z0] s := by
  unfold F_MD_findOrder_46
  refine VO_istore hC d_MD_findOrder_46 [(0, .ref (gad G 58)), (1, .int v1), (2, .int v2)] rfl (by decide) ?_
  refine VO_iload hC d_MD_findOrder_47 0 rfl ?_
  refine VO_aload hC d_MD_findOrder_48 1 rfl ?_
  refine VO_geti hC fl_MD_274 sh_MD rfl d_MD_findOrder_49 ?_
  refine VO_icmp_ge hC d_MD_findOrder_52 (fun _ => ?_) (fun _ => ?_)
  · exact VO_sub [1, 2, 3] rfl (B_MD_findOrder_60 hC K8 hK8 v2 s)
  · refine VO_aload hC d_MD_findOrder_55 1 rfl ?_
    refine VO_iload hC d_MD_findOrder_56 0 rfl ?_
    refine VO_callVV hC [.int z0] [] ml_MD_286 d_MD_findOrder_57 yv_MD_keepsFound sh_MD rfl rfl (fun o h => M_MD_keepsFound hC.inj h) (by decide) rfl rfl (Nat.le_of_ble_eq_true rfl) (fun s6 => ?_)
    exact VO_sub [1, 2, 3] rfl (B_MD_findOrder_60 hC K8 hK8 v2 s6)
set_option maxRecDepth 20000 in
theorem BH_MD_findOrder_8 {G : MCx} (hC : C0 G "AccusedChooseModel" b_MD_findOrder 4 5) {v1 : Int32} (K8 : Int32 × St → Option (St)) (hK8 : ∀ (w2 : Int32) (s : St), VO G (RV G b_MD_findOrder) (K8 (w2, s)) 8 [(0, .ref (gad G 58)), (1, .int v1), (2, .int w2)] [] s) (v2 : Int32) (s : St) : VO G (RV G b_MD_findOrder) (H_MD_findOrder_8 v1 K8 v2 s) 8 [(0, .ref (gad G 58)), (1, .int v1), (2, .int v2)] [] s := by
  unfold H_MD_findOrder_8
  refine VO_iload hC d_MD_findOrder_8 2 rfl ?_
  refine VO_aload hC d_MD_findOrder_9 0 rfl ?_
  refine VO_callVI hC [] [.int v2] ml_MD_277 d_MD_findOrder_10 yv_MD_numbers sh_MD rfl rfl (fun o h => M_MD_numbers hC.inj h) (by decide) rfl rfl (Nat.le_of_ble_eq_true rfl) (fun o2 => ?_)
  refine VO_icmp_ge hC d_MD_findOrder_13 (fun _ => ?_) (fun _ => ?_)
  · exact VO_return d_MD_findOrder_66
  · refine VO_aload hC d_MD_findOrder_16 0 rfl ?_
    refine VO_iload hC d_MD_findOrder_17 2 rfl ?_
    refine VO_callVI hC [.int v2] [] ml_MD_280 d_MD_findOrder_18 yv_MD_laysOrder sh_MD rfl rfl (fun o h => M_MD_laysOrder hC.inj h) (by decide) rfl rfl (Nat.le_of_ble_eq_true rfl) (fun o3 => ?_)
    refine VO_if_ne hC d_MD_findOrder_21 (fun _ => ?_) (fun _ => ?_)
    · refine VO_goto hC d_MD_findOrder_24 ?_
      exact (B_MD_findOrder_60 hC K8 hK8 v2 o3.2)
    · refine VO_aload hC d_MD_findOrder_27 0 rfl ?_
      refine VO_callVV hC [] [] ml_MD_209 d_MD_findOrder_28 yv_MD_goesBy sh_MD rfl rfl (fun o h => M_MD_goesBy hC.inj h) (by decide) rfl rfl (Nat.le_of_ble_eq_true rfl) (fun s4 => ?_)
      refine VO_iload hC d_MD_findOrder_31 1 rfl ?_
      refine VO_if_eq hC d_MD_findOrder_32 (fun _ => ?_) (fun _ => ?_)
      · refine VO_aload hC d_MD_findOrder_42 0 rfl ?_
        refine VO_callVI hC [] [] ml_MD_218 d_MD_findOrder_43 yv_MD_allMonths sh_MD rfl rfl (fun o h => M_MD_allMonths hC.inj h) (by decide) rfl rfl (Nat.le_of_ble_eq_true rfl) (fun o5 => ?_)
        exact (B_MD_findOrder_46 hC K8 hK8 v2 o5.1 o5.2)
      · refine VO_aload hC d_MD_findOrder_35 0 rfl ?_
        refine VO_callVI hC [] [] ml_MD_283 d_MD_findOrder_36 yv_MD_greatest sh_MD rfl rfl (fun o h => M_MD_greatest hC.inj h) (by decide) rfl rfl (Nat.le_of_ble_eq_true rfl) (fun o7 => ?_)
        refine VO_goto hC d_MD_findOrder_39 ?_
        exact (B_MD_findOrder_46 hC K8 hK8 v2 o7.1 o7.2)
set_option maxRecDepth 20000 in
theorem B_MD_findOrder_8 {G : MCx} (hC : C0 G "AccusedChooseModel" b_MD_findOrder 4 5) (v1 : Int32) (v2 : Int32) (s : St) : VO G (RV G b_MD_findOrder) (F_MD_findOrder_8 v1 v2 s) 8 [(0, .ref (gad G 58)), (1, .int v1), (2, .int v2)] [] s := by
  exact VO_fix (G_MD_findOrder_8 v1) 8 (fun q => [(0, .ref (gad G 58)), (1, .int v1), (2, .int q.1)]) (fun q => q.2) (fun K hK q => BH_MD_findOrder_8 hC K (fun w2 s => hK (w2, s)) q.1 q.2) FUEL (v2, s)
set_option maxRecDepth 20000 in
theorem B_MD_findOrder {G : MCx} (hC : C0 G "AccusedChooseModel" b_MD_findOrder 4 5) (a1 : Int32) (s : St) : VO G (RV G b_MD_findOrder) (F_MD_findOrder a1 s) 0 [(0, .ref (gad G 58)), (1, .int a1)] [] s := by
  unfold F_MD_findOrder
  refine VO_aload hC d_MD_findOrder_0 0 rfl ?_
  refine VO_ldc hC k_MD_87 d_MD_findOrder_1 ?_
  refine VO_puti hC fw_MD_274 sh_MD rfl d_MD_findOrder_3 (fun s1 => ?_)
  refine VO_const hC d_MD_findOrder_6 ?_
  refine VO_istore hC d_MD_findOrder_7 [(0, .ref (gad G 58)), (1, .int a1)] rfl (by decide) ?_
  exact VO_sub [1, 2, 0] rfl (B_MD_findOrder_8 hC a1 (0 : Int32) s1)
set_option maxRecDepth 20000 in
theorem M_MD_findOrder {l : Launch} {D : va_G} {ad : Nat → Nat} {cI cL : ClassId} (hj : Inj ad) {a1 : Int32} {s : St} {o : St} (h : F_MD_findOrder a1 s = some o) : Cn l D ad cI cL y_MD_findOrder b_MD_findOrder 4 none 5 [.ref (ad 58), .int a1] s none o := by
  refine Cn_ofV hj (plainFor_of_name (by decide)) (Nat.le_of_ble_eq_true rfl) [(0, .ref (ad 58)), (1, .int a1)] rfl (fun G hC e1 e2 e3 e4 e5 hR => ?_)
  subst e1; subst e2; subst e3; subst e4; subst e5
  exact B_MD_findOrder hC a1 s o h hR
theorem d_MD_bestOrder_0 : PLa b_MD_bestOrder 0 0 1 := Or.inl ⟨0, by decide +kernel, rfl, rfl⟩
theorem d_MD_bestOrder_1 : PLi b_MD_bestOrder 1 1 2 := Or.inl ⟨1, by decide +kernel, rfl, rfl⟩
theorem d_MD_bestOrder_2 : DR b_MD_bestOrder 2 (.invokevirtual 289) 3 5 := ⟨by decide +kernel, rfl⟩
theorem d_MD_bestOrder_5 : PSi b_MD_bestOrder 5 2 6 := Or.inl ⟨2, by decide +kernel, rfl, rfl⟩
theorem d_MD_bestOrder_6 : PLi b_MD_bestOrder 6 2 7 := Or.inl ⟨2, by decide +kernel, rfl, rfl⟩
theorem d_MD_bestOrder_7 : DJ b_MD_bestOrder 7 (.ifCond .eq) 10 16 := ⟨9, by decide +kernel, rfl, by decide⟩
theorem d_MD_bestOrder_10 : PLa b_MD_bestOrder 10 0 11 := Or.inl ⟨0, by decide +kernel, rfl, rfl⟩
theorem d_MD_bestOrder_11 : PLi b_MD_bestOrder 11 2 12 := Or.inl ⟨2, by decide +kernel, rfl, rfl⟩
theorem d_MD_bestOrder_12 : DR b_MD_bestOrder 12 (.invokevirtual 104) 3 15 := ⟨by decide +kernel, rfl⟩
theorem d_MD_bestOrder_15 : DR b_MD_bestOrder 15 (.ireturn) 1 16 := ⟨by decide +kernel, rfl⟩
theorem d_MD_bestOrder_16 : PLa b_MD_bestOrder 16 0 17 := Or.inl ⟨0, by decide +kernel, rfl, rfl⟩
theorem d_MD_bestOrder_17 : PCi b_MD_bestOrder 17 0 18 := Or.inl ⟨0, by decide +kernel, by decide, rfl⟩
theorem d_MD_bestOrder_18 : DR b_MD_bestOrder 18 (.invokevirtual 292) 3 21 := ⟨by decide +kernel, rfl⟩
theorem d_MD_bestOrder_21 : PLa b_MD_bestOrder 21 0 22 := Or.inl ⟨0, by decide +kernel, rfl, rfl⟩
theorem d_MD_bestOrder_22 : PLi b_MD_bestOrder 22 1 23 := Or.inl ⟨1, by decide +kernel, rfl, rfl⟩
theorem d_MD_bestOrder_23 : DR b_MD_bestOrder 23 (.invokevirtual 296) 3 26 := ⟨by decide +kernel, rfl⟩
theorem d_MD_bestOrder_26 : DR b_MD_bestOrder 26 (.ireturn) 1 27 := ⟨by decide +kernel, rfl⟩
set_option maxRecDepth 20000 in
theorem B_MD_bestOrder {G : MCx} (hC : C0 G "AccusedChooseModel" b_MD_bestOrder 3 6) (a1 : Int32) (s : St) : VO G (RI G b_MD_bestOrder) (F_MD_bestOrder a1 s) 0 [(0, .ref (gad G 58)), (1, .int a1)] [] s := by
  unfold F_MD_bestOrder
  refine VO_aload hC d_MD_bestOrder_0 0 rfl ?_
  refine VO_iload hC d_MD_bestOrder_1 1 rfl ?_
  refine VO_callVI hC [.int a1] [] ml_MD_289 d_MD_bestOrder_2 yv_MD_notFew sh_MD rfl rfl (fun o h => M_MD_notFew hC.inj h) (by decide) rfl rfl (Nat.le_of_ble_eq_true rfl) (fun o1 => ?_)
  refine VO_istore hC d_MD_bestOrder_5 [(0, .ref (gad G 58)), (1, .int a1)] rfl (by decide) ?_
  refine VO_iload hC d_MD_bestOrder_6 0 rfl ?_
  refine VO_if_eq hC d_MD_bestOrder_7 (fun _ => ?_) (fun _ => ?_)
  · refine VO_aload hC d_MD_bestOrder_16 1 rfl ?_
    refine VO_const hC d_MD_bestOrder_17 ?_
    refine VO_callVV hC [.int (0 : Int32)] [] ml_MD_292 d_MD_bestOrder_18 yv_MD_findOrder sh_MD rfl rfl (fun o h => M_MD_findOrder hC.inj h) (by decide) rfl rfl (Nat.le_of_ble_eq_true rfl) (fun s2 => ?_)
    refine VO_aload hC d_MD_bestOrder_21 1 rfl ?_
    refine VO_iload hC d_MD_bestOrder_22 2 rfl ?_
    refine VO_callVI hC [.int a1] [] ml_MD_296 d_MD_bestOrder_23 yv_MD_foundOr sh_MD rfl rfl (fun o h => M_MD_foundOr hC.inj h) (by decide) rfl rfl (Nat.le_of_ble_eq_true rfl) (fun o3 => ?_)
    exact VO_ireturn d_MD_bestOrder_26
  · refine VO_aload hC d_MD_bestOrder_10 1 rfl ?_
    refine VO_iload hC d_MD_bestOrder_11 0 rfl ?_
    refine VO_callVI hC [.int o1.1] [] ml_MD_104 d_MD_bestOrder_12 yv_MD_no sh_MD rfl rfl (fun o h => M_MD_no hC.inj h) (by decide) rfl rfl (Nat.le_of_ble_eq_true rfl) (fun o4 => ?_)
    exact VO_ireturn d_MD_bestOrder_15
set_option maxRecDepth 20000 in
theorem M_MD_bestOrder {l : Launch} {D : va_G} {ad : Nat → Nat} {cI cL : ClassId} (hj : Inj ad) {a1 : Int32} {s : St} {o : Int32 × St} (h : F_MD_bestOrder a1 s = some o) : Cn l D ad cI cL y_MD_bestOrder b_MD_bestOrder 3 (some .int) 6 [.ref (ad 58), .int a1] s (some (.int o.1)) o.2 := by
  refine Cn_ofI hj (plainFor_of_name (by decide)) (Nat.le_of_ble_eq_true rfl) [(0, .ref (ad 58)), (1, .int a1)] rfl (fun G hC e1 e2 e3 e4 e5 hR => ?_)
  subst e1; subst e2; subst e3; subst e4; subst e5
  exact B_MD_bestOrder hC a1 s o h hR
theorem d_MD_even_0 : PLa b_MD_even 0 0 1 := Or.inl ⟨0, by decide +kernel, rfl, rfl⟩
theorem d_MD_even_1 : PLi b_MD_even 1 1 2 := Or.inl ⟨1, by decide +kernel, rfl, rfl⟩
theorem d_MD_even_2 : DR b_MD_even 2 (.invokevirtual 289) 3 5 := ⟨by decide +kernel, rfl⟩
theorem d_MD_even_5 : PSi b_MD_even 5 2 6 := Or.inl ⟨2, by decide +kernel, rfl, rfl⟩
theorem d_MD_even_6 : PLi b_MD_even 6 2 7 := Or.inl ⟨2, by decide +kernel, rfl, rfl⟩
theorem d_MD_even_7 : DJ b_MD_even 7 (.ifCond .eq) 10 16 := ⟨9, by decide +kernel, rfl, by decide⟩
theorem d_MD_even_10 : PLa b_MD_even 10 0 11 := Or.inl ⟨0, by decide +kernel, rfl, rfl⟩
theorem d_MD_even_11 : PLi b_MD_even 11 2 12 := Or.inl ⟨2, by decide +kernel, rfl, rfl⟩
theorem d_MD_even_12 : DR b_MD_even 12 (.invokevirtual 104) 3 15 := ⟨by decide +kernel, rfl⟩
theorem d_MD_even_15 : DR b_MD_even 15 (.ireturn) 1 16 := ⟨by decide +kernel, rfl⟩
theorem d_MD_even_16 : PLa b_MD_even 16 0 17 := Or.inl ⟨0, by decide +kernel, rfl, rfl⟩
theorem d_MD_even_17 : PCi b_MD_even 17 1 18 := Or.inl ⟨1, by decide +kernel, by decide, rfl⟩
theorem d_MD_even_18 : DR b_MD_even 18 (.invokevirtual 292) 3 21 := ⟨by decide +kernel, rfl⟩
theorem d_MD_even_21 : PLa b_MD_even 21 0 22 := Or.inl ⟨0, by decide +kernel, rfl, rfl⟩
theorem d_MD_even_22 : PLi b_MD_even 22 1 23 := Or.inl ⟨1, by decide +kernel, rfl, rfl⟩
theorem d_MD_even_23 : DR b_MD_even 23 (.invokevirtual 296) 3 26 := ⟨by decide +kernel, rfl⟩
theorem d_MD_even_26 : DR b_MD_even 26 (.ireturn) 1 27 := ⟨by decide +kernel, rfl⟩
set_option maxRecDepth 20000 in
theorem B_MD_even {G : MCx} (hC : C0 G "AccusedChooseModel" b_MD_even 3 6) (a1 : Int32) (s : St) : VO G (RI G b_MD_even) (F_MD_even a1 s) 0 [(0, .ref (gad G 58)), (1, .int a1)] [] s := by
  unfold F_MD_even
  refine VO_aload hC d_MD_even_0 0 rfl ?_
  refine VO_iload hC d_MD_even_1 1 rfl ?_
  refine VO_callVI hC [.int a1] [] ml_MD_289 d_MD_even_2 yv_MD_notFew sh_MD rfl rfl (fun o h => M_MD_notFew hC.inj h) (by decide) rfl rfl (Nat.le_of_ble_eq_true rfl) (fun o1 => ?_)
  refine VO_istore hC d_MD_even_5 [(0, .ref (gad G 58)), (1, .int a1)] rfl (by decide) ?_
  refine VO_iload hC d_MD_even_6 0 rfl ?_
  refine VO_if_eq hC d_MD_even_7 (fun _ => ?_) (fun _ => ?_)
  · refine VO_aload hC d_MD_even_16 1 rfl ?_
    refine VO_const hC d_MD_even_17 ?_
    refine VO_callVV hC [.int (1 : Int32)] [] ml_MD_292 d_MD_even_18 yv_MD_findOrder sh_MD rfl rfl (fun o h => M_MD_findOrder hC.inj h) (by decide) rfl rfl (Nat.le_of_ble_eq_true rfl) (fun s2 => ?_)
    refine VO_aload hC d_MD_even_21 1 rfl ?_
    refine VO_iload hC d_MD_even_22 2 rfl ?_
    refine VO_callVI hC [.int a1] [] ml_MD_296 d_MD_even_23 yv_MD_foundOr sh_MD rfl rfl (fun o h => M_MD_foundOr hC.inj h) (by decide) rfl rfl (Nat.le_of_ble_eq_true rfl) (fun o3 => ?_)
    exact VO_ireturn d_MD_even_26
  · refine VO_aload hC d_MD_even_10 1 rfl ?_
    refine VO_iload hC d_MD_even_11 0 rfl ?_
    refine VO_callVI hC [.int o1.1] [] ml_MD_104 d_MD_even_12 yv_MD_no sh_MD rfl rfl (fun o h => M_MD_no hC.inj h) (by decide) rfl rfl (Nat.le_of_ble_eq_true rfl) (fun o4 => ?_)
    exact VO_ireturn d_MD_even_15
set_option maxRecDepth 20000 in
theorem M_MD_even {l : Launch} {D : va_G} {ad : Nat → Nat} {cI cL : ClassId} (hj : Inj ad) {a1 : Int32} {s : St} {o : Int32 × St} (h : F_MD_even a1 s = some o) : Cn l D ad cI cL y_MD_even b_MD_even 3 (some .int) 6 [.ref (ad 58), .int a1] s (some (.int o.1)) o.2 := by
  refine Cn_ofI hj (plainFor_of_name (by decide)) (Nat.le_of_ble_eq_true rfl) [(0, .ref (ad 58)), (1, .int a1)] rfl (fun G hC e1 e2 e3 e4 e5 hR => ?_)
  subst e1; subst e2; subst e3; subst e4; subst e5
  exact B_MD_even hC a1 s o h hR
theorem d_MD_putIn_0 : PLi b_MD_putIn 0 1 1 := Or.inl ⟨1, by decide +kernel, rfl, rfl⟩
theorem d_MD_putIn_1 : PCi b_MD_putIn 1 0 2 := Or.inl ⟨0, by decide +kernel, by decide, rfl⟩
theorem d_MD_putIn_2 : PCi b_MD_putIn 2 9 4 := Or.inr (Or.inl ⟨9, by decide +kernel, by decide, rfl⟩)
theorem d_MD_putIn_4 : DR b_MD_putIn 4 (.invokestatic 97) 3 7 := ⟨by decide +kernel, rfl⟩
theorem d_MD_putIn_7 : PSi b_MD_putIn 7 3 8 := Or.inl ⟨3, by decide +kernel, rfl, rfl⟩
theorem d_MD_putIn_8 : PLi b_MD_putIn 8 3 9 := Or.inl ⟨3, by decide +kernel, rfl, rfl⟩
theorem d_MD_putIn_9 : DJ b_MD_putIn 9 (.ifCond .ne) 12 24 := ⟨15, by decide +kernel, rfl, by decide⟩
theorem d_MD_putIn_12 : PLi b_MD_putIn 12 2 13 := Or.inl ⟨2, by decide +kernel, rfl, rfl⟩
theorem d_MD_putIn_13 : PCi b_MD_putIn 13 0 14 := Or.inl ⟨0, by decide +kernel, by decide, rfl⟩
theorem d_MD_putIn_14 : PCi b_MD_putIn 14 1 15 := Or.inl ⟨1, by decide +kernel, by decide, rfl⟩
theorem d_MD_putIn_15 : DR b_MD_putIn 15 (.invokestatic 115) 3 18 := ⟨by decide +kernel, rfl⟩
theorem d_MD_putIn_18 : DJ b_MD_putIn 18 (.ifCond .ne) 21 24 := ⟨6, by decide +kernel, rfl, by decide⟩
theorem d_MD_putIn_21 : PCi b_MD_putIn 21 (-2) 23 := Or.inr (Or.inl ⟨(-2), by decide +kernel, by decide, rfl⟩)
theorem d_MD_putIn_23 : PSi b_MD_putIn 23 3 24 := Or.inl ⟨3, by decide +kernel, rfl, rfl⟩
theorem d_MD_putIn_24 : PLi b_MD_putIn 24 3 25 := Or.inl ⟨3, by decide +kernel, rfl, rfl⟩
theorem d_MD_putIn_25 : DJ b_MD_putIn 25 (.ifCond .eq) 28 34 := ⟨9, by decide +kernel, rfl, by decide⟩
theorem d_MD_putIn_28 : PLa b_MD_putIn 28 0 29 := Or.inl ⟨0, by decide +kernel, rfl, rfl⟩
theorem d_MD_putIn_29 : PLi b_MD_putIn 29 3 30 := Or.inl ⟨3, by decide +kernel, rfl, rfl⟩
theorem d_MD_putIn_30 : DR b_MD_putIn 30 (.invokevirtual 104) 3 33 := ⟨by decide +kernel, rfl⟩
theorem d_MD_putIn_33 : DR b_MD_putIn 33 (.ireturn) 1 34 := ⟨by decide +kernel, rfl⟩
theorem d_MD_putIn_34 : PLa b_MD_putIn 34 0 35 := Or.inl ⟨0, by decide +kernel, rfl, rfl⟩
theorem d_MD_putIn_35 : DR b_MD_putIn 35 (.getfield 84) 3 38 := ⟨by decide +kernel, rfl⟩
theorem d_MD_putIn_38 : PSi b_MD_putIn 38 4 40 := Or.inr ⟨by decide +kernel, rfl⟩
theorem d_MD_putIn_40 : PLa b_MD_putIn 40 0 41 := Or.inl ⟨0, by decide +kernel, rfl, rfl⟩
theorem d_MD_putIn_41 : PLi b_MD_putIn 41 4 43 := Or.inr ⟨by decide +kernel, rfl⟩
theorem d_MD_putIn_43 : DR b_MD_putIn 43 (.putfield 52) 3 46 := ⟨by decide +kernel, rfl⟩
theorem d_MD_putIn_46 : PCi b_MD_putIn 46 0 47 := Or.inl ⟨0, by decide +kernel, by decide, rfl⟩
theorem d_MD_putIn_47 : PSi b_MD_putIn 47 5 49 := Or.inr ⟨by decide +kernel, rfl⟩
theorem d_MD_putIn_49 : PLa b_MD_putIn 49 0 50 := Or.inl ⟨0, by decide +kernel, rfl, rfl⟩
theorem d_MD_putIn_50 : DR b_MD_putIn 50 (.invokevirtual 299) 3 53 := ⟨by decide +kernel, rfl⟩
theorem d_MD_putIn_53 : PSi b_MD_putIn 53 6 55 := Or.inr ⟨by decide +kernel, rfl⟩
theorem d_MD_putIn_55 : PLi b_MD_putIn 55 5 57 := Or.inr ⟨by decide +kernel, rfl⟩
theorem d_MD_putIn_57 : PCi b_MD_putIn 57 7 59 := Or.inr (Or.inl ⟨7, by decide +kernel, by decide, rfl⟩)
theorem d_MD_putIn_59 : DJ b_MD_putIn 59 (.if_icmp .ge) 62 87 := ⟨28, by decide +kernel, rfl, by decide⟩
theorem d_MD_putIn_62 : PLa b_MD_putIn 62 0 63 := Or.inl ⟨0, by decide +kernel, rfl, rfl⟩
theorem d_MD_putIn_63 : DR b_MD_putIn 63 (.invokevirtual 221) 3 66 := ⟨by decide +kernel, rfl⟩
theorem d_MD_putIn_66 : DJ b_MD_putIn 66 (.ifCond .lt) 69 87 := ⟨21, by decide +kernel, rfl, by decide⟩
theorem d_MD_putIn_69 : PLa b_MD_putIn 69 0 70 := Or.inl ⟨0, by decide +kernel, rfl, rfl⟩
theorem d_MD_putIn_70 : PCi b_MD_putIn 70 5 71 := Or.inl ⟨5, by decide +kernel, by decide, rfl⟩
theorem d_MD_putIn_71 : PLi b_MD_putIn 71 1 72 := Or.inl ⟨1, by decide +kernel, rfl, rfl⟩
theorem d_MD_putIn_72 : DR b_MD_putIn 72 (.invokevirtual 126) 3 75 := ⟨by decide +kernel, rfl⟩
theorem d_MD_putIn_75 : DR b_MD_putIn 75 (.iinc 5 1) 3 78 := ⟨by decide +kernel, rfl⟩
theorem d_MD_putIn_78 : PLa b_MD_putIn 78 0 79 := Or.inl ⟨0, by decide +kernel, rfl, rfl⟩
theorem d_MD_putIn_79 : DR b_MD_putIn 79 (.invokevirtual 299) 3 82 := ⟨by decide +kernel, rfl⟩
theorem d_MD_putIn_82 : PSi b_MD_putIn 82 6 84 := Or.inr ⟨by decide +kernel, rfl⟩
theorem d_MD_putIn_84 : DJ b_MD_putIn 84 .goto 87 55 := ⟨-29, by decide +kernel, rfl, by decide⟩
theorem d_MD_putIn_87 : PLa b_MD_putIn 87 0 88 := Or.inl ⟨0, by decide +kernel, rfl, rfl⟩
theorem d_MD_putIn_88 : DR b_MD_putIn 88 (.invokevirtual 221) 3 91 := ⟨by decide +kernel, rfl⟩
theorem d_MD_putIn_91 : DJ b_MD_putIn 91 (.ifCond .ge) 94 98 := ⟨7, by decide +kernel, rfl, by decide⟩
theorem d_MD_putIn_94 : PCi b_MD_putIn 94 1 95 := Or.inl ⟨1, by decide +kernel, by decide, rfl⟩
theorem d_MD_putIn_95 : DJ b_MD_putIn 95 .goto 98 99 := ⟨4, by decide +kernel, rfl, by decide⟩
theorem d_MD_putIn_98 : PCi b_MD_putIn 98 0 99 := Or.inl ⟨0, by decide +kernel, by decide, rfl⟩
theorem d_MD_putIn_99 : PSi b_MD_putIn 99 7 101 := Or.inr ⟨by decide +kernel, rfl⟩
theorem d_MD_putIn_101 : PLa b_MD_putIn 101 0 102 := Or.inl ⟨0, by decide +kernel, rfl, rfl⟩
theorem d_MD_putIn_102 : PLi b_MD_putIn 102 4 104 := Or.inr ⟨by decide +kernel, rfl⟩
theorem d_MD_putIn_104 : DR b_MD_putIn 104 (.putfield 84) 3 107 := ⟨by decide +kernel, rfl⟩
theorem d_MD_putIn_107 : PLa b_MD_putIn 107 0 108 := Or.inl ⟨0, by decide +kernel, rfl, rfl⟩
theorem d_MD_putIn_108 : PCi b_MD_putIn 108 7 110 := Or.inr (Or.inl ⟨7, by decide +kernel, by decide, rfl⟩)
theorem d_MD_putIn_110 : DR b_MD_putIn 110 (.putfield 52) 3 113 := ⟨by decide +kernel, rfl⟩
theorem d_MD_putIn_113 : PLi b_MD_putIn 113 7 115 := Or.inr ⟨by decide +kernel, rfl⟩
theorem d_MD_putIn_115 : DJ b_MD_putIn 115 (.ifCond .ne) 118 123 := ⟨8, by decide +kernel, rfl, by decide⟩
theorem d_MD_putIn_118 : PCi b_MD_putIn 118 (-9) 120 := Or.inr (Or.inl ⟨(-9), by decide +kernel, by decide, rfl⟩)
theorem d_MD_putIn_120 : DJ b_MD_putIn 120 .goto 123 134 := ⟨14, by decide +kernel, rfl, by decide⟩
theorem d_MD_putIn_123 : PLi b_MD_putIn 123 2 124 := Or.inl ⟨2, by decide +kernel, rfl, rfl⟩
theorem d_MD_putIn_124 : DJ b_MD_putIn 124 (.ifCond .ne) 127 132 := ⟨8, by decide +kernel, rfl, by decide⟩
theorem d_MD_putIn_127 : PLi b_MD_putIn 127 5 129 := Or.inr ⟨by decide +kernel, rfl⟩
theorem d_MD_putIn_129 : DJ b_MD_putIn 129 .goto 132 134 := ⟨5, by decide +kernel, rfl, by decide⟩
theorem d_MD_putIn_132 : PLi b_MD_putIn 132 6 134 := Or.inr ⟨by decide +kernel, rfl⟩
theorem d_MD_putIn_134 : DR b_MD_putIn 134 (.ireturn) 1 135 := ⟨by decide +kernel, rfl⟩
set_option maxRecDepth 20000 in
theorem B_MD_putIn_99 {G : MCx} (hC : C0 G "AccusedChooseModel" b_MD_putIn 8 7) (v2 : Int32) (v4 : Int32) (v5 : Int32) (v6 : Int32) (z0 : Int32) (s : St) : VO G (RI G b_MD_putIn) (F_MD_putIn_99 v2 v4 v5 v6 z0 s) 99 [(0, .ref (gad G 58)), (2, .int v2), (4, .int v4), (5, .int v5), (6, .int v6)] [.int z0] s := by
  unfold F_MD_putIn_99
  refine VO_istore hC d_MD_putIn_99 [(0, .ref (gad G 58)), (2, .int v2), (4, .int v4), (5, .int v5), (6, .int v6)] rfl (by decide) ?_
  refine VO_aload hC d_MD_putIn_101 1 rfl ?_
  refine VO_iload hC d_MD_putIn_102 3 rfl ?_
  refine VO_puti hC fw_MD_84 sh_MD rfl d_MD_putIn_104 (fun s6 => ?_)
  refine VO_aload hC d_MD_putIn_107 1 rfl ?_
  refine VO_const hC d_MD_putIn_108 ?_
  refine VO_puti hC fw_MD_52 sh_MD rfl d_MD_putIn_110 (fun s7 => ?_)
  refine VO_iload hC d_MD_putIn_113 0 rfl ?_
  refine VO_if_ne hC d_MD_putIn_115 (fun _ => ?_) (fun _ => ?_)
  · refine VO_const hC d_MD_putIn_118 ?_
    refine VO_goto hC d_MD_putIn_120 ?_
    exact VO_ireturn d_MD_putIn_134
  · refine VO_iload hC d_MD_putIn_123 2 rfl ?_
    refine VO_if_ne hC d_MD_putIn_124 (fun _ => ?_) (fun _ => ?_)
    · refine VO_iload hC d_MD_putIn_127 4 rfl ?_
      refine VO_goto hC d_MD_putIn_129 ?_
      exact VO_ireturn d_MD_putIn_134
    · refine VO_iload hC d_MD_putIn_132 5 rfl ?_
      exact VO_ireturn d_MD_putIn_134
set_option maxRecDepth 20000 in
theorem B_MD_putIn_87 {G : MCx} (hC : C0 G "AccusedChooseModel" b_MD_putIn 8 7) (v2 : Int32) (v4 : Int32) (v5 : Int32) (v6 : Int32) (s : St) : VO G (RI G b_MD_putIn) (F_MD_putIn_87 v2 v4 v5 v6 s) 87 [(0, .ref (gad G 58)), (2, .int v2), (4, .int v4), (5, .int v5), (6, .int v6)] [] s := by
  unfold F_MD_putIn_87
  refine VO_aload hC d_MD_putIn_87 0 rfl ?_
  refine VO_callVI hC [] [] ml_MD_221 d_MD_putIn_88 yv_MD_firstWithout sh_MD rfl rfl (fun o h => M_MD_firstWithout hC.inj h) (by decide) rfl rfl (Nat.le_of_ble_eq_true rfl) (fun o5 => ?_)
  refine VO_if_ge hC d_MD_putIn_91 (fun _ => ?_) (fun _ => ?_)
  · refine VO_const hC d_MD_putIn_98 ?_
    exact (B_MD_putIn_99 hC v2 v4 v5 v6 (0 : Int32) o5.2)
  · refine VO_const hC d_MD_putIn_94 ?_
    refine VO_goto hC d_MD_putIn_95 ?_
    exact (B_MD_putIn_99 hC v2 v4 v5 v6 (1 : Int32) o5.2)
set_option maxRecDepth 20000 in
theorem BH_MD_putIn_55 {G : MCx} (hC : C0 G "AccusedChooseModel" b_MD_putIn 8 7) {v1 : Int32} {v2 : Int32} {v4 : Int32} (K55 : Int32 × Int32 × St → Option (Int32 × St)) (hK55 : ∀ (w5 : Int32) (w6 : Int32) (s : St), VO G (RI G b_MD_putIn) (K55 (w5, w6, s)) 55 [(0, .ref (gad G 58)), (1, .int v1), (2, .int v2), (4, .int v4), (5, .int w5), (6, .int w6)] [] s) (v5 : Int32) (v6 : Int32) (s : St) : VO G (RI G b_MD_putIn) (H_MD_putIn_55 v1 v2 v4 K55 v5 v6 s) 55 [(0, .ref (gad G 58)), (1, .int v1), (2, .int v2), (4, .int v4), (5, .int v5), (6, .int v6)] [] s := by
  unfold H_MD_putIn_55
  refine VO_iload hC d_MD_putIn_55 4 rfl ?_
  refine VO_const hC d_MD_putIn_57 ?_
  refine VO_icmp_ge hC d_MD_putIn_59 (fun _ => ?_) (fun _ => ?_)
  · exact VO_sub [0, 2, 3, 4, 5] rfl (B_MD_putIn_87 hC v2 v4 v5 v6 s)
  · refine VO_aload hC d_MD_putIn_62 0 rfl ?_
    refine VO_callVI hC [] [] ml_MD_221 d_MD_putIn_63 yv_MD_firstWithout sh_MD rfl rfl (fun o h => M_MD_firstWithout hC.inj h) (by decide) rfl rfl (Nat.le_of_ble_eq_true rfl) (fun o8 => ?_)
    refine VO_if_lt hC d_MD_putIn_66 (fun _ => ?_) (fun _ => ?_)
    · exact VO_sub [0, 2, 3, 4, 5] rfl (B_MD_putIn_87 hC v2 v4 v5 v6 o8.2)
    · refine VO_aload hC d_MD_putIn_69 0 rfl ?_
      refine VO_const hC d_MD_putIn_70 ?_
      refine VO_iload hC d_MD_putIn_71 1 rfl ?_
      refine VO_callVV hC [.int (5 : Int32), .int v1] [] ml_MD_126 d_MD_putIn_72 yv_MD_addsDeed sh_MD rfl rfl (fun o h => M_MD_addsDeed hC.inj h) (by decide) rfl rfl (Nat.le_of_ble_eq_true rfl) (fun s9 => ?_)
      refine VO_iinc hC d_MD_putIn_75 4 rfl (by decide : Int32.ofInt 1 = 1) [(0, .ref (gad G 58)), (1, .int v1), (2, .int v2), (4, .int v4), (6, .int v6)] rfl (by decide) ?_
      refine VO_aload hC d_MD_putIn_78 1 rfl ?_
      refine VO_callVI hC [] [] ml_MD_299 d_MD_putIn_79 yv_MD_monthsNow sh_MD rfl rfl (fun o h => M_MD_monthsNow hC.inj h) (by decide) rfl rfl (Nat.le_of_ble_eq_true rfl) (fun o10 => ?_)
      refine VO_istore hC d_MD_putIn_82 [(5, .int (v5 + 1)), (0, .ref (gad G 58)), (1, .int v1), (2, .int v2), (4, .int v4)] rfl (by decide) ?_
      refine VO_goto hC d_MD_putIn_84 ?_
      exact VO_sub [2, 3, 4, 5, 1, 0] rfl (hK55 (v5 + 1) o10.1 o10.2)
set_option maxRecDepth 20000 in
theorem B_MD_putIn_55 {G : MCx} (hC : C0 G "AccusedChooseModel" b_MD_putIn 8 7) (v1 : Int32) (v2 : Int32) (v4 : Int32) (v5 : Int32) (v6 : Int32) (s : St) : VO G (RI G b_MD_putIn) (F_MD_putIn_55 v1 v2 v4 v5 v6 s) 55 [(0, .ref (gad G 58)), (1, .int v1), (2, .int v2), (4, .int v4), (5, .int v5), (6, .int v6)] [] s := by
  exact VO_fix (G_MD_putIn_55 v1 v2 v4) 55 (fun q => [(0, .ref (gad G 58)), (1, .int v1), (2, .int v2), (4, .int v4), (5, .int q.1), (6, .int q.2.1)]) (fun q => q.2.2) (fun K hK q => BH_MD_putIn_55 hC K (fun w5 w6 s => hK (w5, w6, s)) q.1 q.2.1 q.2.2) FUEL (v5, v6, s)
set_option maxRecDepth 20000 in
theorem B_MD_putIn_24 {G : MCx} (hC : C0 G "AccusedChooseModel" b_MD_putIn 8 7) (v1 : Int32) (v2 : Int32) (v3 : Int32) (s : St) : VO G (RI G b_MD_putIn) (F_MD_putIn_24 v1 v2 v3 s) 24 [(0, .ref (gad G 58)), (1, .int v1), (2, .int v2), (3, .int v3)] [] s := by
  unfold F_MD_putIn_24
  refine VO_iload hC d_MD_putIn_24 3 rfl ?_
  refine VO_if_eq hC d_MD_putIn_25 (fun _ => ?_) (fun _ => ?_)
  · refine VO_aload hC d_MD_putIn_34 0 rfl ?_
    refine VO_geti hC fl_MD_84 sh_MD rfl d_MD_putIn_35 ?_
    refine VO_istoreB hC d_MD_putIn_38 [(0, .ref (gad G 58)), (1, .int v1), (2, .int v2), (3, .int v3)] rfl (by decide) (fun x2 => ?_)
    refine VO_aload hC d_MD_putIn_40 1 rfl ?_
    refine VO_iload hC d_MD_putIn_41 0 rfl ?_
    refine VO_puti hC fw_MD_52 sh_MD rfl d_MD_putIn_43 (fun s3 => ?_)
    refine VO_const hC d_MD_putIn_46 ?_
    refine VO_istore hC d_MD_putIn_47 [(4, .int x2), (0, .ref (gad G 58)), (1, .int v1), (2, .int v2), (3, .int v3)] rfl (by decide) ?_
    refine VO_aload hC d_MD_putIn_49 2 rfl ?_
    refine VO_callVI hC [] [] ml_MD_299 d_MD_putIn_50 yv_MD_monthsNow sh_MD rfl rfl (fun o h => M_MD_monthsNow hC.inj h) (by decide) rfl rfl (Nat.le_of_ble_eq_true rfl) (fun o4 => ?_)
    refine VO_istore hC d_MD_putIn_53 [(5, .int (0 : Int32)), (4, .int x2), (0, .ref (gad G 58)), (1, .int v1), (2, .int v2), (3, .int v3)] rfl (by decide) ?_
    exact VO_sub [3, 4, 5, 2, 1, 0] rfl (B_MD_putIn_55 hC v1 v2 x2 (0 : Int32) o4.1 o4.2)
  · refine VO_aload hC d_MD_putIn_28 0 rfl ?_
    refine VO_iload hC d_MD_putIn_29 3 rfl ?_
    refine VO_callVI hC [.int v3] [] ml_MD_104 d_MD_putIn_30 yv_MD_no sh_MD rfl rfl (fun o h => M_MD_no hC.inj h) (by decide) rfl rfl (Nat.le_of_ble_eq_true rfl) (fun o11 => ?_)
    exact VO_ireturn d_MD_putIn_33
set_option maxRecDepth 20000 in
theorem B_MD_putIn {G : MCx} (hC : C0 G "AccusedChooseModel" b_MD_putIn 8 7) (a1 : Int32) (a2 : Int32) (s : St) : VO G (RI G b_MD_putIn) (F_MD_putIn a1 a2 s) 0 [(0, .ref (gad G 58)), (1, .int a1), (2, .int a2)] [] s := by
  unfold F_MD_putIn
  refine VO_iload hC d_MD_putIn_0 1 rfl ?_
  refine VO_const hC d_MD_putIn_1 ?_
  refine VO_const hC d_MD_putIn_2 ?_
  refine VO_callSI hC [.int a1, .int (0 : Int32), .int (9 : Int32)] [] ml_MD_97 d_MD_putIn_4 ys_MD_bound (fun o h => M_MD_bound hC.inj h) (by decide) rfl rfl (Nat.le_of_ble_eq_true rfl) (fun o1 => ?_)
  refine VO_istore hC d_MD_putIn_7 [(0, .ref (gad G 58)), (1, .int a1), (2, .int a2)] rfl (by decide) ?_
  refine VO_iload hC d_MD_putIn_8 0 rfl ?_
  refine VO_if_ne hC d_MD_putIn_9 (fun _ => ?_) (fun _ => ?_)
  · refine VO_iload hC d_MD_putIn_12 3 rfl ?_
    refine VO_const hC d_MD_putIn_13 ?_
    refine VO_const hC d_MD_putIn_14 ?_
    refine VO_callSI hC [.int a2, .int (0 : Int32), .int (1 : Int32)] [] ml_MD_115 d_MD_putIn_15 ys_MD_isIn (fun o h => M_MD_isIn hC.inj h) (by decide) rfl rfl (Nat.le_of_ble_eq_true rfl) (fun o12 => ?_)
    refine VO_if_ne hC d_MD_putIn_18 (fun _ => ?_) (fun _ => ?_)
    · refine VO_const hC d_MD_putIn_21 ?_
      refine VO_istore hC d_MD_putIn_23 [(0, .ref (gad G 58)), (1, .int a1), (2, .int a2)] rfl (by decide) ?_
      exact VO_sub [1, 2, 3, 0] rfl (B_MD_putIn_24 hC a1 a2 (-2 : Int32) o12.2)
    · exact VO_sub [1, 2, 3, 0] rfl (B_MD_putIn_24 hC a1 a2 o1.1 o12.2)
  · exact VO_sub [1, 2, 3, 0] rfl (B_MD_putIn_24 hC a1 a2 o1.1 o1.2)
set_option maxRecDepth 20000 in
theorem M_MD_putIn {l : Launch} {D : va_G} {ad : Nat → Nat} {cI cL : ClassId} (hj : Inj ad) {a1 : Int32} {a2 : Int32} {s : St} {o : Int32 × St} (h : F_MD_putIn a1 a2 s = some o) : Cn l D ad cI cL y_MD_putIn b_MD_putIn 8 (some .int) 7 [.ref (ad 58), .int a1, .int a2] s (some (.int o.1)) o.2 := by
  refine Cn_ofI hj (plainFor_of_name (by decide)) (Nat.le_of_ble_eq_true rfl) [(0, .ref (ad 58)), (1, .int a1), (2, .int a2)] rfl (fun G hC e1 e2 e3 e4 e5 hR => ?_)
  subst e1; subst e2; subst e3; subst e4; subst e5
  exact B_MD_putIn hC a1 a2 s o h hR
theorem d_MD_setMonths_0 : PCi b_MD_setMonths 0 0 1 := Or.inl ⟨0, by decide +kernel, by decide, rfl⟩
theorem d_MD_setMonths_1 : PSi b_MD_setMonths 1 2 2 := Or.inl ⟨2, by decide +kernel, rfl, rfl⟩
theorem d_MD_setMonths_2 : PCi b_MD_setMonths 2 0 3 := Or.inl ⟨0, by decide +kernel, by decide, rfl⟩
theorem d_MD_setMonths_3 : PSi b_MD_setMonths 3 3 4 := Or.inl ⟨3, by decide +kernel, rfl, rfl⟩
theorem d_MD_setMonths_4 : PLi b_MD_setMonths 4 3 5 := Or.inl ⟨3, by decide +kernel, rfl, rfl⟩
theorem d_MD_setMonths_5 : PLa b_MD_setMonths 5 0 6 := Or.inl ⟨0, by decide +kernel, rfl, rfl⟩
theorem d_MD_setMonths_6 : DR b_MD_setMonths 6 (.getfield 90) 3 9 := ⟨by decide +kernel, rfl⟩
theorem d_MD_setMonths_9 : DJ b_MD_setMonths 9 (.if_icmp .ge) 12 38 := ⟨29, by decide +kernel, rfl, by decide⟩
theorem d_MD_setMonths_12 : PLi b_MD_setMonths 12 2 13 := Or.inl ⟨2, by decide +kernel, rfl, rfl⟩
theorem d_MD_setMonths_13 : PLi b_MD_setMonths 13 1 14 := Or.inl ⟨1, by decide +kernel, rfl, rfl⟩
theorem d_MD_setMonths_14 : PLi b_MD_setMonths 14 3 15 := Or.inl ⟨3, by decide +kernel, rfl, rfl⟩
theorem d_MD_setMonths_15 : DR b_MD_setMonths 15 (.invokestatic 184) 3 18 := ⟨by decide +kernel, rfl⟩
theorem d_MD_setMonths_18 : DJ b_MD_setMonths 18 (.ifCond .eq) 21 29 := ⟨11, by decide +kernel, rfl, by decide⟩
theorem d_MD_setMonths_21 : PLa b_MD_setMonths 21 0 22 := Or.inl ⟨0, by decide +kernel, rfl, rfl⟩
theorem d_MD_setMonths_22 : PLi b_MD_setMonths 22 3 23 := Or.inl ⟨3, by decide +kernel, rfl, rfl⟩
theorem d_MD_setMonths_23 : DR b_MD_setMonths 23 (.invokevirtual 212) 3 26 := ⟨by decide +kernel, rfl⟩
theorem d_MD_setMonths_26 : DJ b_MD_setMonths 26 .goto 29 30 := ⟨4, by decide +kernel, rfl, by decide⟩
theorem d_MD_setMonths_29 : PCi b_MD_setMonths 29 0 30 := Or.inl ⟨0, by decide +kernel, by decide, rfl⟩
theorem d_MD_setMonths_30 : DR b_MD_setMonths 30 (.iadd) 1 31 := ⟨by decide +kernel, rfl⟩
theorem d_MD_setMonths_31 : PSi b_MD_setMonths 31 2 32 := Or.inl ⟨2, by decide +kernel, rfl, rfl⟩
theorem d_MD_setMonths_32 : DR b_MD_setMonths 32 (.iinc 3 1) 3 35 := ⟨by decide +kernel, rfl⟩
theorem d_MD_setMonths_35 : DJ b_MD_setMonths 35 .goto 38 4 := ⟨-31, by decide +kernel, rfl, by decide⟩
theorem d_MD_setMonths_38 : PLi b_MD_setMonths 38 2 39 := Or.inl ⟨2, by decide +kernel, rfl, rfl⟩
theorem d_MD_setMonths_39 : DR b_MD_setMonths 39 (.ireturn) 1 40 := ⟨by decide +kernel, rfl⟩
set_option maxRecDepth 20000 in
theorem B_MD_setMonths_30 {G : MCx} (hC : C0 G "AccusedChooseModel" b_MD_setMonths 4 4) {v1 : Int32} (K4 : Int32 × Int32 × St → Option (Int32 × St)) (hK4 : ∀ (w2 : Int32) (w3 : Int32) (s : St), VO G (RI G b_MD_setMonths) (K4 (w2, w3, s)) 4 [(0, .ref (gad G 58)), (1, .int v1), (2, .int w2), (3, .int w3)] [] s) (v3 : Int32) (z0 : Int32) (z1 : Int32) (s : St) : VO G (RI G b_MD_setMonths) (F_MD_setMonths_30 K4 v1 v3 z0 z1 s) 30 [(0, .ref (gad G 58)), (1, .int v1), (3, .int v3)] [.int z0, .int z1] s := by
  unfold F_MD_setMonths_30
  refine VO_iadd hC d_MD_setMonths_30 ?_
  refine VO_istoreB hC d_MD_setMonths_31 [(0, .ref (gad G 58)), (1, .int v1), (3, .int v3)] rfl (by decide) (fun x2 => ?_)
  refine VO_iinc hC d_MD_setMonths_32 3 rfl (by decide : Int32.ofInt 1 = 1) [(2, .int x2), (0, .ref (gad G 58)), (1, .int v1)] rfl (by decide) ?_
  refine VO_goto hC d_MD_setMonths_35 ?_
  exact VO_sub [2, 3, 1, 0] rfl (hK4 x2 (v3 + 1) s)
set_option maxRecDepth 20000 in
theorem BH_MD_setMonths_4 {G : MCx} (hC : C0 G "AccusedChooseModel" b_MD_setMonths 4 4) {v1 : Int32} (K4 : Int32 × Int32 × St → Option (Int32 × St)) (hK4 : ∀ (w2 : Int32) (w3 : Int32) (s : St), VO G (RI G b_MD_setMonths) (K4 (w2, w3, s)) 4 [(0, .ref (gad G 58)), (1, .int v1), (2, .int w2), (3, .int w3)] [] s) (v2 : Int32) (v3 : Int32) (s : St) : VO G (RI G b_MD_setMonths) (H_MD_setMonths_4 v1 K4 v2 v3 s) 4 [(0, .ref (gad G 58)), (1, .int v1), (2, .int v2), (3, .int v3)] [] s := by
  unfold H_MD_setMonths_4
  refine VO_iload hC d_MD_setMonths_4 3 rfl ?_
  refine VO_aload hC d_MD_setMonths_5 0 rfl ?_
  refine VO_geti hC fl_MD_90 sh_MD rfl d_MD_setMonths_6 ?_
  refine VO_icmp_ge hC d_MD_setMonths_9 (fun _ => ?_) (fun _ => ?_)
  · refine VO_iload hC d_MD_setMonths_38 2 rfl ?_
    exact VO_ireturn d_MD_setMonths_39
  · refine VO_iload hC d_MD_setMonths_12 2 rfl ?_
    refine VO_iload hC d_MD_setMonths_13 1 rfl ?_
    refine VO_iload hC d_MD_setMonths_14 3 rfl ?_
    refine VO_callSI hC [.int v1, .int v3] [.int v2] ml_MD_184 d_MD_setMonths_15 ys_MD_has (fun o h => M_MD_has hC.inj h) (by decide) rfl rfl (Nat.le_of_ble_eq_true rfl) (fun o1 => ?_)
    refine VO_if_eq hC d_MD_setMonths_18 (fun _ => ?_) (fun _ => ?_)
    · refine VO_const hC d_MD_setMonths_29 ?_
      exact VO_sub [0, 1, 3] rfl (B_MD_setMonths_30 hC K4 hK4 v3 (0 : Int32) v2 o1.2)
    · refine VO_aload hC d_MD_setMonths_21 0 rfl ?_
      refine VO_iload hC d_MD_setMonths_22 3 rfl ?_
      refine VO_callVI hC [.int v3] [.int v2] ml_MD_212 d_MD_setMonths_23 yv_MD_hasMonths sh_MD rfl rfl (fun o h => M_MD_hasMonths hC.inj h) (by decide) rfl rfl (Nat.le_of_ble_eq_true rfl) (fun o3 => ?_)
      refine VO_goto hC d_MD_setMonths_26 ?_
      exact VO_sub [0, 1, 3] rfl (B_MD_setMonths_30 hC K4 hK4 v3 o3.1 v2 o3.2)
set_option maxRecDepth 20000 in
theorem B_MD_setMonths_4 {G : MCx} (hC : C0 G "AccusedChooseModel" b_MD_setMonths 4 4) (v1 : Int32) (v2 : Int32) (v3 : Int32) (s : St) : VO G (RI G b_MD_setMonths) (F_MD_setMonths_4 v1 v2 v3 s) 4 [(0, .ref (gad G 58)), (1, .int v1), (2, .int v2), (3, .int v3)] [] s := by
  exact VO_fix (G_MD_setMonths_4 v1) 4 (fun q => [(0, .ref (gad G 58)), (1, .int v1), (2, .int q.1), (3, .int q.2.1)]) (fun q => q.2.2) (fun K hK q => BH_MD_setMonths_4 hC K (fun w2 w3 s => hK (w2, w3, s)) q.1 q.2.1 q.2.2) FUEL (v2, v3, s)
set_option maxRecDepth 20000 in
theorem B_MD_setMonths {G : MCx} (hC : C0 G "AccusedChooseModel" b_MD_setMonths 4 4) (a1 : Int32) (s : St) : VO G (RI G b_MD_setMonths) (F_MD_setMonths a1 s) 0 [(0, .ref (gad G 58)), (1, .int a1)] [] s := by
  unfold F_MD_setMonths
  refine VO_const hC d_MD_setMonths_0 ?_
  refine VO_istore hC d_MD_setMonths_1 [(0, .ref (gad G 58)), (1, .int a1)] rfl (by decide) ?_
  refine VO_const hC d_MD_setMonths_2 ?_
  refine VO_istore hC d_MD_setMonths_3 [(2, .int (0 : Int32)), (0, .ref (gad G 58)), (1, .int a1)] rfl (by decide) ?_
  exact VO_sub [2, 3, 1, 0] rfl (B_MD_setMonths_4 hC a1 (0 : Int32) (0 : Int32) s)
set_option maxRecDepth 20000 in
theorem M_MD_setMonths {l : Launch} {D : va_G} {ad : Nat → Nat} {cI cL : ClassId} (hj : Inj ad) {a1 : Int32} {s : St} {o : Int32 × St} (h : F_MD_setMonths a1 s = some o) : Cn l D ad cI cL y_MD_setMonths b_MD_setMonths 4 (some .int) 4 [.ref (ad 58), .int a1] s (some (.int o.1)) o.2 := by
  refine Cn_ofI hj (plainFor_of_name (by decide)) (Nat.le_of_ble_eq_true rfl) [(0, .ref (ad 58)), (1, .int a1)] rfl (fun G hC e1 e2 e3 e4 e5 hR => ?_)
  subst e1; subst e2; subst e3; subst e4; subst e5
  exact B_MD_setMonths hC a1 s o h hR
theorem d_MD_fewestOf_0 : PCi b_MD_fewestOf 0 0 1 := Or.inl ⟨0, by decide +kernel, by decide, rfl⟩
theorem d_MD_fewestOf_1 : PSi b_MD_fewestOf 1 2 2 := Or.inl ⟨2, by decide +kernel, rfl, rfl⟩
theorem d_MD_fewestOf_2 : PLi b_MD_fewestOf 2 2 3 := Or.inl ⟨2, by decide +kernel, rfl, rfl⟩
theorem d_MD_fewestOf_3 : PCi b_MD_fewestOf 3 128 6 := Or.inr (Or.inr ⟨128, by decide +kernel, by decide, rfl⟩)
theorem d_MD_fewestOf_6 : DJ b_MD_fewestOf 6 (.if_icmp .ge) 9 31 := ⟨25, by decide +kernel, rfl, by decide⟩
theorem d_MD_fewestOf_9 : PLa b_MD_fewestOf 9 0 10 := Or.inl ⟨0, by decide +kernel, rfl, rfl⟩
theorem d_MD_fewestOf_10 : DR b_MD_fewestOf 10 (.getfield 62) 3 13 := ⟨by decide +kernel, rfl⟩
theorem d_MD_fewestOf_13 : PCi b_MD_fewestOf 13 128 16 := Or.inr (Or.inr ⟨128, by decide +kernel, by decide, rfl⟩)
theorem d_MD_fewestOf_16 : PLa b_MD_fewestOf 16 0 17 := Or.inl ⟨0, by decide +kernel, rfl, rfl⟩
theorem d_MD_fewestOf_17 : DR b_MD_fewestOf 17 (.getfield 90) 3 20 := ⟨by decide +kernel, rfl⟩
theorem d_MD_fewestOf_20 : DR b_MD_fewestOf 20 (.imul) 1 21 := ⟨by decide +kernel, rfl⟩
theorem d_MD_fewestOf_21 : PLi b_MD_fewestOf 21 2 22 := Or.inl ⟨2, by decide +kernel, rfl, rfl⟩
theorem d_MD_fewestOf_22 : DR b_MD_fewestOf 22 (.iadd) 1 23 := ⟨by decide +kernel, rfl⟩
theorem d_MD_fewestOf_23 : PCi b_MD_fewestOf 23 0 24 := Or.inl ⟨0, by decide +kernel, by decide, rfl⟩
theorem d_MD_fewestOf_24 : DR b_MD_fewestOf 24 (.iastore) 1 25 := ⟨by decide +kernel, rfl⟩
theorem d_MD_fewestOf_25 : DR b_MD_fewestOf 25 (.iinc 2 1) 3 28 := ⟨by decide +kernel, rfl⟩
theorem d_MD_fewestOf_28 : DJ b_MD_fewestOf 28 .goto 31 2 := ⟨-26, by decide +kernel, rfl, by decide⟩
theorem d_MD_fewestOf_31 : PLa b_MD_fewestOf 31 0 32 := Or.inl ⟨0, by decide +kernel, rfl, rfl⟩
theorem d_MD_fewestOf_32 : DR b_MD_fewestOf 32 (.getfield 90) 3 35 := ⟨by decide +kernel, rfl⟩
theorem d_MD_fewestOf_35 : PCi b_MD_fewestOf 35 1 36 := Or.inl ⟨1, by decide +kernel, by decide, rfl⟩
theorem d_MD_fewestOf_36 : DR b_MD_fewestOf 36 (.isub) 1 37 := ⟨by decide +kernel, rfl⟩
theorem d_MD_fewestOf_37 : PSi b_MD_fewestOf 37 2 38 := Or.inl ⟨2, by decide +kernel, rfl, rfl⟩
theorem d_MD_fewestOf_38 : PLi b_MD_fewestOf 38 2 39 := Or.inl ⟨2, by decide +kernel, rfl, rfl⟩
theorem d_MD_fewestOf_39 : DJ b_MD_fewestOf 39 (.ifCond .lt) 42 243 := ⟨204, by decide +kernel, rfl, by decide⟩
theorem d_MD_fewestOf_42 : PLa b_MD_fewestOf 42 0 43 := Or.inl ⟨0, by decide +kernel, rfl, rfl⟩
theorem d_MD_fewestOf_43 : DR b_MD_fewestOf 43 (.getfield 34) 3 46 := ⟨by decide +kernel, rfl⟩
theorem d_MD_fewestOf_46 : PLi b_MD_fewestOf 46 2 47 := Or.inl ⟨2, by decide +kernel, rfl, rfl⟩
theorem d_MD_fewestOf_47 : DR b_MD_fewestOf 47 (.iaload) 1 48 := ⟨by decide +kernel, rfl⟩
theorem d_MD_fewestOf_48 : PSi b_MD_fewestOf 48 3 49 := Or.inl ⟨3, by decide +kernel, rfl, rfl⟩
theorem d_MD_fewestOf_49 : PCi b_MD_fewestOf 49 0 50 := Or.inl ⟨0, by decide +kernel, by decide, rfl⟩
theorem d_MD_fewestOf_50 : PSi b_MD_fewestOf 50 4 52 := Or.inr ⟨by decide +kernel, rfl⟩
theorem d_MD_fewestOf_52 : PLi b_MD_fewestOf 52 4 54 := Or.inr ⟨by decide +kernel, rfl⟩
theorem d_MD_fewestOf_54 : PCi b_MD_fewestOf 54 128 57 := Or.inr (Or.inr ⟨128, by decide +kernel, by decide, rfl⟩)
theorem d_MD_fewestOf_57 : DJ b_MD_fewestOf 57 (.if_icmp .ge) 60 237 := ⟨180, by decide +kernel, rfl, by decide⟩
theorem d_MD_fewestOf_60 : PLa b_MD_fewestOf 60 0 61 := Or.inl ⟨0, by decide +kernel, rfl, rfl⟩
theorem d_MD_fewestOf_61 : PLi b_MD_fewestOf 61 3 62 := Or.inl ⟨3, by decide +kernel, rfl, rfl⟩
theorem d_MD_fewestOf_62 : PLi b_MD_fewestOf 62 4 64 := Or.inr ⟨by decide +kernel, rfl⟩
theorem d_MD_fewestOf_64 : DR b_MD_fewestOf 64 (.invokevirtual 203) 3 67 := ⟨by decide +kernel, rfl⟩
theorem d_MD_fewestOf_67 : PSi b_MD_fewestOf 67 5 69 := Or.inr ⟨by decide +kernel, rfl⟩
theorem d_MD_fewestOf_69 : PLa b_MD_fewestOf 69 0 70 := Or.inl ⟨0, by decide +kernel, rfl, rfl⟩
theorem d_MD_fewestOf_70 : DR b_MD_fewestOf 70 (.getfield 62) 3 73 := ⟨by decide +kernel, rfl⟩
theorem d_MD_fewestOf_73 : PCi b_MD_fewestOf 73 128 76 := Or.inr (Or.inr ⟨128, by decide +kernel, by decide, rfl⟩)
theorem d_MD_fewestOf_76 : PLi b_MD_fewestOf 76 2 77 := Or.inl ⟨2, by decide +kernel, rfl, rfl⟩
theorem d_MD_fewestOf_77 : PCi b_MD_fewestOf 77 1 78 := Or.inl ⟨1, by decide +kernel, by decide, rfl⟩
theorem d_MD_fewestOf_78 : DR b_MD_fewestOf 78 (.iadd) 1 79 := ⟨by decide +kernel, rfl⟩
theorem d_MD_fewestOf_79 : DR b_MD_fewestOf 79 (.imul) 1 80 := ⟨by decide +kernel, rfl⟩
theorem d_MD_fewestOf_80 : PLi b_MD_fewestOf 80 5 82 := Or.inr ⟨by decide +kernel, rfl⟩
theorem d_MD_fewestOf_82 : DJ b_MD_fewestOf 82 (.ifCond .ge) 85 90 := ⟨8, by decide +kernel, rfl, by decide⟩
theorem d_MD_fewestOf_85 : PLi b_MD_fewestOf 85 4 87 := Or.inr ⟨by decide +kernel, rfl⟩
theorem d_MD_fewestOf_87 : DJ b_MD_fewestOf 87 .goto 90 97 := ⟨10, by decide +kernel, rfl, by decide⟩
theorem d_MD_fewestOf_90 : PLi b_MD_fewestOf 90 4 92 := Or.inr ⟨by decide +kernel, rfl⟩
theorem d_MD_fewestOf_92 : PCi b_MD_fewestOf 92 1 93 := Or.inl ⟨1, by decide +kernel, by decide, rfl⟩
theorem d_MD_fewestOf_93 : PLi b_MD_fewestOf 93 5 95 := Or.inr ⟨by decide +kernel, rfl⟩
theorem d_MD_fewestOf_95 : DR b_MD_fewestOf 95 (.ishl) 1 96 := ⟨by decide +kernel, rfl⟩
theorem d_MD_fewestOf_96 : DR b_MD_fewestOf 96 (.ior) 1 97 := ⟨by decide +kernel, rfl⟩
theorem d_MD_fewestOf_97 : DR b_MD_fewestOf 97 (.iadd) 1 98 := ⟨by decide +kernel, rfl⟩
theorem d_MD_fewestOf_98 : DR b_MD_fewestOf 98 (.iaload) 1 99 := ⟨by decide +kernel, rfl⟩
theorem d_MD_fewestOf_99 : PLi b_MD_fewestOf 99 1 100 := Or.inl ⟨1, by decide +kernel, rfl, rfl⟩
theorem d_MD_fewestOf_100 : PLi b_MD_fewestOf 100 3 101 := Or.inl ⟨3, by decide +kernel, rfl, rfl⟩
theorem d_MD_fewestOf_101 : DR b_MD_fewestOf 101 (.invokestatic 184) 3 104 := ⟨by decide +kernel, rfl⟩
theorem d_MD_fewestOf_104 : DJ b_MD_fewestOf 104 (.ifCond .eq) 107 117 := ⟨13, by decide +kernel, rfl, by decide⟩
theorem d_MD_fewestOf_107 : PLa b_MD_fewestOf 107 0 108 := Or.inl ⟨0, by decide +kernel, rfl, rfl⟩
theorem d_MD_fewestOf_108 : PLi b_MD_fewestOf 108 3 109 := Or.inl ⟨3, by decide +kernel, rfl, rfl⟩
theorem d_MD_fewestOf_109 : PLi b_MD_fewestOf 109 5 111 := Or.inr ⟨by decide +kernel, rfl⟩
theorem d_MD_fewestOf_111 : DR b_MD_fewestOf 111 (.invokevirtual 194) 3 114 := ⟨by decide +kernel, rfl⟩
theorem d_MD_fewestOf_114 : DJ b_MD_fewestOf 114 .goto 117 118 := ⟨4, by decide +kernel, rfl, by decide⟩
theorem d_MD_fewestOf_117 : PCi b_MD_fewestOf 117 0 118 := Or.inl ⟨0, by decide +kernel, by decide, rfl⟩
theorem d_MD_fewestOf_118 : DR b_MD_fewestOf 118 (.iadd) 1 119 := ⟨by decide +kernel, rfl⟩
theorem d_MD_fewestOf_119 : PSi b_MD_fewestOf 119 6 121 := Or.inr ⟨by decide +kernel, rfl⟩
theorem d_MD_fewestOf_121 : PCi b_MD_fewestOf 121 0 122 := Or.inl ⟨0, by decide +kernel, by decide, rfl⟩
theorem d_MD_fewestOf_122 : PSi b_MD_fewestOf 122 7 124 := Or.inr ⟨by decide +kernel, rfl⟩
theorem d_MD_fewestOf_124 : PLi b_MD_fewestOf 124 7 126 := Or.inr ⟨by decide +kernel, rfl⟩
theorem d_MD_fewestOf_126 : PLa b_MD_fewestOf 126 0 127 := Or.inl ⟨0, by decide +kernel, rfl, rfl⟩
theorem d_MD_fewestOf_127 : DR b_MD_fewestOf 127 (.getfield 84) 3 130 := ⟨by decide +kernel, rfl⟩
theorem d_MD_fewestOf_130 : DJ b_MD_fewestOf 130 (.if_icmp .ge) 133 216 := ⟨86, by decide +kernel, rfl, by decide⟩
theorem d_MD_fewestOf_133 : PLi b_MD_fewestOf 133 1 134 := Or.inl ⟨1, by decide +kernel, rfl, rfl⟩
theorem d_MD_fewestOf_134 : PLi b_MD_fewestOf 134 3 135 := Or.inl ⟨3, by decide +kernel, rfl, rfl⟩
theorem d_MD_fewestOf_135 : DR b_MD_fewestOf 135 (.invokestatic 184) 3 138 := ⟨by decide +kernel, rfl⟩
theorem d_MD_fewestOf_138 : DJ b_MD_fewestOf 138 (.ifCond .eq) 141 216 := ⟨78, by decide +kernel, rfl, by decide⟩
theorem d_MD_fewestOf_141 : PLi b_MD_fewestOf 141 4 143 := Or.inr ⟨by decide +kernel, rfl⟩
theorem d_MD_fewestOf_143 : PLi b_MD_fewestOf 143 7 145 := Or.inr ⟨by decide +kernel, rfl⟩
theorem d_MD_fewestOf_145 : DR b_MD_fewestOf 145 (.invokestatic 184) 3 148 := ⟨by decide +kernel, rfl⟩
theorem d_MD_fewestOf_148 : DJ b_MD_fewestOf 148 (.ifCond .ne) 151 210 := ⟨62, by decide +kernel, rfl, by decide⟩
theorem d_MD_fewestOf_151 : PLa b_MD_fewestOf 151 0 152 := Or.inl ⟨0, by decide +kernel, rfl, rfl⟩
theorem d_MD_fewestOf_152 : PLi b_MD_fewestOf 152 3 153 := Or.inl ⟨3, by decide +kernel, rfl, rfl⟩
theorem d_MD_fewestOf_153 : PLi b_MD_fewestOf 153 7 155 := Or.inr ⟨by decide +kernel, rfl⟩
theorem d_MD_fewestOf_155 : DR b_MD_fewestOf 155 (.invokevirtual 191) 3 158 := ⟨by decide +kernel, rfl⟩
theorem d_MD_fewestOf_158 : DJ b_MD_fewestOf 158 (.ifCond .ne) 161 164 := ⟨6, by decide +kernel, rfl, by decide⟩
theorem d_MD_fewestOf_161 : DJ b_MD_fewestOf 161 .goto 164 210 := ⟨49, by decide +kernel, rfl, by decide⟩
theorem d_MD_fewestOf_164 : PLa b_MD_fewestOf 164 0 165 := Or.inl ⟨0, by decide +kernel, rfl, rfl⟩
theorem d_MD_fewestOf_165 : PLi b_MD_fewestOf 165 3 166 := Or.inl ⟨3, by decide +kernel, rfl, rfl⟩
theorem d_MD_fewestOf_166 : PLi b_MD_fewestOf 166 7 168 := Or.inr ⟨by decide +kernel, rfl⟩
theorem d_MD_fewestOf_168 : DR b_MD_fewestOf 168 (.invokevirtual 194) 3 171 := ⟨by decide +kernel, rfl⟩
theorem d_MD_fewestOf_171 : PLa b_MD_fewestOf 171 0 172 := Or.inl ⟨0, by decide +kernel, rfl, rfl⟩
theorem d_MD_fewestOf_172 : DR b_MD_fewestOf 172 (.getfield 62) 3 175 := ⟨by decide +kernel, rfl⟩
theorem d_MD_fewestOf_175 : PCi b_MD_fewestOf 175 128 178 := Or.inr (Or.inr ⟨128, by decide +kernel, by decide, rfl⟩)
theorem d_MD_fewestOf_178 : PLi b_MD_fewestOf 178 2 179 := Or.inl ⟨2, by decide +kernel, rfl, rfl⟩
theorem d_MD_fewestOf_179 : PCi b_MD_fewestOf 179 1 180 := Or.inl ⟨1, by decide +kernel, by decide, rfl⟩
theorem d_MD_fewestOf_180 : DR b_MD_fewestOf 180 (.iadd) 1 181 := ⟨by decide +kernel, rfl⟩
theorem d_MD_fewestOf_181 : DR b_MD_fewestOf 181 (.imul) 1 182 := ⟨by decide +kernel, rfl⟩
theorem d_MD_fewestOf_182 : PLi b_MD_fewestOf 182 4 184 := Or.inr ⟨by decide +kernel, rfl⟩
theorem d_MD_fewestOf_184 : PCi b_MD_fewestOf 184 1 185 := Or.inl ⟨1, by decide +kernel, by decide, rfl⟩
theorem d_MD_fewestOf_185 : PLi b_MD_fewestOf 185 7 187 := Or.inr ⟨by decide +kernel, rfl⟩
theorem d_MD_fewestOf_187 : DR b_MD_fewestOf 187 (.ishl) 1 188 := ⟨by decide +kernel, rfl⟩
theorem d_MD_fewestOf_188 : DR b_MD_fewestOf 188 (.ior) 1 189 := ⟨by decide +kernel, rfl⟩
theorem d_MD_fewestOf_189 : DR b_MD_fewestOf 189 (.iadd) 1 190 := ⟨by decide +kernel, rfl⟩
theorem d_MD_fewestOf_190 : DR b_MD_fewestOf 190 (.iaload) 1 191 := ⟨by decide +kernel, rfl⟩
theorem d_MD_fewestOf_191 : DR b_MD_fewestOf 191 (.iadd) 1 192 := ⟨by decide +kernel, rfl⟩
theorem d_MD_fewestOf_192 : PSi b_MD_fewestOf 192 8 194 := Or.inr ⟨by decide +kernel, rfl⟩
theorem d_MD_fewestOf_194 : PLi b_MD_fewestOf 194 8 196 := Or.inr ⟨by decide +kernel, rfl⟩
theorem d_MD_fewestOf_196 : PLi b_MD_fewestOf 196 6 198 := Or.inr ⟨by decide +kernel, rfl⟩
theorem d_MD_fewestOf_198 : DJ b_MD_fewestOf 198 (.if_icmp .ge) 201 206 := ⟨8, by decide +kernel, rfl, by decide⟩
theorem d_MD_fewestOf_201 : PLi b_MD_fewestOf 201 8 203 := Or.inr ⟨by decide +kernel, rfl⟩
theorem d_MD_fewestOf_203 : DJ b_MD_fewestOf 203 .goto 206 208 := ⟨5, by decide +kernel, rfl, by decide⟩
theorem d_MD_fewestOf_206 : PLi b_MD_fewestOf 206 6 208 := Or.inr ⟨by decide +kernel, rfl⟩
theorem d_MD_fewestOf_208 : PSi b_MD_fewestOf 208 6 210 := Or.inr ⟨by decide +kernel, rfl⟩
theorem d_MD_fewestOf_210 : DR b_MD_fewestOf 210 (.iinc 7 1) 3 213 := ⟨by decide +kernel, rfl⟩
theorem d_MD_fewestOf_213 : DJ b_MD_fewestOf 213 .goto 216 124 := ⟨-89, by decide +kernel, rfl, by decide⟩
theorem d_MD_fewestOf_216 : PLa b_MD_fewestOf 216 0 217 := Or.inl ⟨0, by decide +kernel, rfl, rfl⟩
theorem d_MD_fewestOf_217 : DR b_MD_fewestOf 217 (.getfield 62) 3 220 := ⟨by decide +kernel, rfl⟩
theorem d_MD_fewestOf_220 : PCi b_MD_fewestOf 220 128 223 := Or.inr (Or.inr ⟨128, by decide +kernel, by decide, rfl⟩)
theorem d_MD_fewestOf_223 : PLi b_MD_fewestOf 223 2 224 := Or.inl ⟨2, by decide +kernel, rfl, rfl⟩
theorem d_MD_fewestOf_224 : DR b_MD_fewestOf 224 (.imul) 1 225 := ⟨by decide +kernel, rfl⟩
theorem d_MD_fewestOf_225 : PLi b_MD_fewestOf 225 4 227 := Or.inr ⟨by decide +kernel, rfl⟩
theorem d_MD_fewestOf_227 : DR b_MD_fewestOf 227 (.iadd) 1 228 := ⟨by decide +kernel, rfl⟩
theorem d_MD_fewestOf_228 : PLi b_MD_fewestOf 228 6 230 := Or.inr ⟨by decide +kernel, rfl⟩
theorem d_MD_fewestOf_230 : DR b_MD_fewestOf 230 (.iastore) 1 231 := ⟨by decide +kernel, rfl⟩
theorem d_MD_fewestOf_231 : DR b_MD_fewestOf 231 (.iinc 4 1) 3 234 := ⟨by decide +kernel, rfl⟩
theorem d_MD_fewestOf_234 : DJ b_MD_fewestOf 234 .goto 237 52 := ⟨-182, by decide +kernel, rfl, by decide⟩
theorem d_MD_fewestOf_237 : DR b_MD_fewestOf 237 (.iinc 2 (-1)) 3 240 := ⟨by decide +kernel, rfl⟩
theorem d_MD_fewestOf_240 : DJ b_MD_fewestOf 240 .goto 243 38 := ⟨-202, by decide +kernel, rfl, by decide⟩
theorem d_MD_fewestOf_243 : PLa b_MD_fewestOf 243 0 244 := Or.inl ⟨0, by decide +kernel, rfl, rfl⟩
theorem d_MD_fewestOf_244 : DR b_MD_fewestOf 244 (.getfield 62) 3 247 := ⟨by decide +kernel, rfl⟩
theorem d_MD_fewestOf_247 : PCi b_MD_fewestOf 247 0 248 := Or.inl ⟨0, by decide +kernel, by decide, rfl⟩
theorem d_MD_fewestOf_248 : DR b_MD_fewestOf 248 (.iaload) 1 249 := ⟨by decide +kernel, rfl⟩
theorem d_MD_fewestOf_249 : DR b_MD_fewestOf 249 (.ireturn) 1 250 := ⟨by decide +kernel, rfl⟩
set_option maxRecDepth 20000 in
theorem B_MD_fewestOf_216 {G : MCx} (hC : C0 G "AccusedChooseModel" b_MD_fewestOf 9 4) {v1 : Int32} {v2 : Int32} {v3 : Int32} (K38 : Int32 × St → Option (Int32 × St)) (hK38 : ∀ (w2 : Int32) (s : St), VO G (RI G b_MD_fewestOf) (K38 (w2, s)) 38 [(0, .ref (gad G 58)), (1, .int v1), (2, .int w2)] [] s) (K52 : Int32 × St → Option (Int32 × St)) (hK52 : ∀ (w4 : Int32) (s : St), VO G (RI G b_MD_fewestOf) (K52 (w4, s)) 52 [(0, .ref (gad G 58)), (1, .int v1), (2, .int v2), (3, .int v3), (4, .int w4)] [] s) (v4 : Int32) (v6 : Int32) (s : St) : VO G (RI G b_MD_fewestOf) (F_MD_fewestOf_216 K38 K52 v1 v2 v3 v4 v6 s) 216 [(0, .ref (gad G 58)), (1, .int v1), (2, .int v2), (3, .int v3), (4, .int v4), (6, .int v6)] [] s := by
  unfold F_MD_fewestOf_216
  refine VO_aload hC d_MD_fewestOf_216 0 rfl ?_
  refine VO_getr (r := 75) hC fl_MD_62 sh_MD rfl d_MD_fewestOf_217 ?_
  refine VO_const hC d_MD_fewestOf_220 ?_
  refine VO_iload hC d_MD_fewestOf_223 2 rfl ?_
  refine VO_imul hC d_MD_fewestOf_224 ?_
  refine VO_iload hC d_MD_fewestOf_225 4 rfl ?_
  refine VO_iadd hC d_MD_fewestOf_227 ?_
  refine VO_iload hC d_MD_fewestOf_228 5 rfl ?_
  refine VO_iastore hC ia_75 d_MD_fewestOf_230 (fun s8 => ?_)
  refine VO_iinc hC d_MD_fewestOf_231 4 rfl (by decide : Int32.ofInt 1 = 1) [(0, .ref (gad G 58)), (1, .int v1), (2, .int v2), (3, .int v3), (6, .int v6)] rfl (by decide) ?_
  refine VO_goto hC d_MD_fewestOf_234 ?_
  exact VO_sub [1, 2, 3, 4, 0] rfl (hK52 (v4 + 1) s8)
set_option maxRecDepth 20000 in
theorem B_MD_fewestOf_210 {G : MCx} (hC : C0 G "AccusedChooseModel" b_MD_fewestOf 9 4) {v1 : Int32} {v2 : Int32} {v3 : Int32} {v4 : Int32} (K38 : Int32 × St → Option (Int32 × St)) (hK38 : ∀ (w2 : Int32) (s : St), VO G (RI G b_MD_fewestOf) (K38 (w2, s)) 38 [(0, .ref (gad G 58)), (1, .int v1), (2, .int w2)] [] s) (K52 : Int32 × St → Option (Int32 × St)) (hK52 : ∀ (w4 : Int32) (s : St), VO G (RI G b_MD_fewestOf) (K52 (w4, s)) 52 [(0, .ref (gad G 58)), (1, .int v1), (2, .int v2), (3, .int v3), (4, .int w4)] [] s) (K124 : Int32 × Int32 × St → Option (Int32 × St)) (hK124 : ∀ (w6 : Int32) (w7 : Int32) (s : St), VO G (RI G b_MD_fewestOf) (K124 (w6, w7, s)) 124 [(0, .ref (gad G 58)), (1, .int v1), (2, .int v2), (3, .int v3), (4, .int v4), (6, .int w6), (7, .int w7)] [] s) (v6 : Int32) (v7 : Int32) (s : St) : VO G (RI G b_MD_fewestOf) (F_MD_fewestOf_210 K38 K52 K124 v1 v2 v3 v4 v6 v7 s) 210 [(0, .ref (gad G 58)), (1, .int v1), (2, .int v2), (3, .int v3), (4, .int v4), (6, .int v6), (7, .int v7)] [] s := by
  unfold F_MD_fewestOf_210
  refine VO_iinc hC d_MD_fewestOf_210 6 rfl (by decide : Int32.ofInt 1 = 1) [(0, .ref (gad G 58)), (1, .int v1), (2, .int v2), (3, .int v3), (4, .int v4), (6, .int v6)] rfl (by decide) ?_
  refine VO_goto hC d_MD_fewestOf_213 ?_
  exact VO_sub [1, 2, 3, 4, 5, 6, 0] rfl (hK124 v6 (v7 + 1) s)
set_option maxRecDepth 20000 in
theorem B_MD_fewestOf_208 {G : MCx} (hC : C0 G "AccusedChooseModel" b_MD_fewestOf 9 4) {v1 : Int32} {v2 : Int32} {v3 : Int32} {v4 : Int32} (K38 : Int32 × St → Option (Int32 × St)) (hK38 : ∀ (w2 : Int32) (s : St), VO G (RI G b_MD_fewestOf) (K38 (w2, s)) 38 [(0, .ref (gad G 58)), (1, .int v1), (2, .int w2)] [] s) (K52 : Int32 × St → Option (Int32 × St)) (hK52 : ∀ (w4 : Int32) (s : St), VO G (RI G b_MD_fewestOf) (K52 (w4, s)) 52 [(0, .ref (gad G 58)), (1, .int v1), (2, .int v2), (3, .int v3), (4, .int w4)] [] s) (K124 : Int32 × Int32 × St → Option (Int32 × St)) (hK124 : ∀ (w6 : Int32) (w7 : Int32) (s : St), VO G (RI G b_MD_fewestOf) (K124 (w6, w7, s)) 124 [(0, .ref (gad G 58)), (1, .int v1), (2, .int v2), (3, .int v3), (4, .int v4), (6, .int w6), (7, .int w7)] [] s) (v7 : Int32) (z0 : Int32) (s : St) : VO G (RI G b_MD_fewestOf) (F_MD_fewestOf_208 K38 K52 K124 v1 v2 v3 v4 v7 z0 s) 208 [(0, .ref (gad G 58)), (1, .int v1), (2, .int v2), (3, .int v3), (4, .int v4), (7, .int v7)] [.int z0] s := by
  unfold F_MD_fewestOf_208
  refine VO_istore hC d_MD_fewestOf_208 [(0, .ref (gad G 58)), (1, .int v1), (2, .int v2), (3, .int v3), (4, .int v4), (7, .int v7)] rfl (by decide) ?_
  exact VO_sub [1, 2, 3, 4, 5, 0, 6] rfl (B_MD_fewestOf_210 hC K38 hK38 K52 hK52 K124 hK124 z0 v7 s)
set_option maxRecDepth 20000 in
theorem BH_MD_fewestOf_124 {G : MCx} (hC : C0 G "AccusedChooseModel" b_MD_fewestOf 9 4) {v1 : Int32} {v2 : Int32} {v3 : Int32} {v4 : Int32} (K38 : Int32 × St → Option (Int32 × St)) (hK38 : ∀ (w2 : Int32) (s : St), VO G (RI G b_MD_fewestOf) (K38 (w2, s)) 38 [(0, .ref (gad G 58)), (1, .int v1), (2, .int w2)] [] s) (K52 : Int32 × St → Option (Int32 × St)) (hK52 : ∀ (w4 : Int32) (s : St), VO G (RI G b_MD_fewestOf) (K52 (w4, s)) 52 [(0, .ref (gad G 58)), (1, .int v1), (2, .int v2), (3, .int v3), (4, .int w4)] [] s) (K124 : Int32 × Int32 × St → Option (Int32 × St)) (hK124 : ∀ (w6 : Int32) (w7 : Int32) (s : St), VO G (RI G b_MD_fewestOf) (K124 (w6, w7, s)) 124 [(0, .ref (gad G 58)), (1, .int v1), (2, .int v2), (3, .int v3), (4, .int v4), (6, .int w6), (7, .int w7)] [] s) (v6 : Int32) (v7 : Int32) (s : St) : VO G (RI G b_MD_fewestOf) (H_MD_fewestOf_124 K38 K52 v1 v2 v3 v4 K124 v6 v7 s) 124 [(0, .ref (gad G 58)), (1, .int v1), (2, .int v2), (3, .int v3), (4, .int v4), (6, .int v6), (7, .int v7)] [] s := by
  unfold H_MD_fewestOf_124
  refine VO_iload hC d_MD_fewestOf_124 6 rfl ?_
  refine VO_aload hC d_MD_fewestOf_126 0 rfl ?_
  refine VO_geti hC fl_MD_84 sh_MD rfl d_MD_fewestOf_127 ?_
  refine VO_icmp_ge hC d_MD_fewestOf_130 (fun _ => ?_) (fun _ => ?_)
  · exact VO_sub [0, 1, 2, 3, 4, 5] rfl (B_MD_fewestOf_216 hC K38 hK38 K52 hK52 v4 v6 s)
  · refine VO_iload hC d_MD_fewestOf_133 1 rfl ?_
    refine VO_iload hC d_MD_fewestOf_134 3 rfl ?_
    refine VO_callSI hC [.int v1, .int v3] [] ml_MD_184 d_MD_fewestOf_135 ys_MD_has (fun o h => M_MD_has hC.inj h) (by decide) rfl rfl (Nat.le_of_ble_eq_true rfl) (fun o9 => ?_)
    refine VO_if_eq hC d_MD_fewestOf_138 (fun _ => ?_) (fun _ => ?_)
    · exact VO_sub [0, 1, 2, 3, 4, 5] rfl (B_MD_fewestOf_216 hC K38 hK38 K52 hK52 v4 v6 o9.2)
    · refine VO_iload hC d_MD_fewestOf_141 4 rfl ?_
      refine VO_iload hC d_MD_fewestOf_143 6 rfl ?_
      refine VO_callSI hC [.int v4, .int v7] [] ml_MD_184 d_MD_fewestOf_145 ys_MD_has (fun o h => M_MD_has hC.inj h) (by decide) rfl rfl (Nat.le_of_ble_eq_true rfl) (fun o10 => ?_)
      refine VO_if_ne hC d_MD_fewestOf_148 (fun _ => ?_) (fun _ => ?_)
      · refine VO_aload hC d_MD_fewestOf_151 0 rfl ?_
        refine VO_iload hC d_MD_fewestOf_152 3 rfl ?_
        refine VO_iload hC d_MD_fewestOf_153 6 rfl ?_
        refine VO_callVI hC [.int v3, .int v7] [] ml_MD_191 d_MD_fewestOf_155 yv_MD_may sh_MD rfl rfl (fun o h => M_MD_may hC.inj h) (by decide) rfl rfl (Nat.le_of_ble_eq_true rfl) (fun o11 => ?_)
        refine VO_if_ne hC d_MD_fewestOf_158 (fun _ => ?_) (fun _ => ?_)
        · refine VO_goto hC d_MD_fewestOf_161 ?_
          exact (B_MD_fewestOf_210 hC K38 hK38 K52 hK52 K124 hK124 v6 v7 o11.2)
        · refine VO_aload hC d_MD_fewestOf_164 0 rfl ?_
          refine VO_iload hC d_MD_fewestOf_165 3 rfl ?_
          refine VO_iload hC d_MD_fewestOf_166 6 rfl ?_
          refine VO_callVI hC [.int v3, .int v7] [] ml_MD_194 d_MD_fewestOf_168 yv_MD_monthsOf sh_MD rfl rfl (fun o h => M_MD_monthsOf hC.inj h) (by decide) rfl rfl (Nat.le_of_ble_eq_true rfl) (fun o12 => ?_)
          refine VO_aload hC d_MD_fewestOf_171 0 rfl ?_
          refine VO_getr (r := 75) hC fl_MD_62 sh_MD rfl d_MD_fewestOf_172 ?_
          refine VO_const hC d_MD_fewestOf_175 ?_
          refine VO_iload hC d_MD_fewestOf_178 2 rfl ?_
          refine VO_const hC d_MD_fewestOf_179 ?_
          refine VO_iadd hC d_MD_fewestOf_180 ?_
          refine VO_imul hC d_MD_fewestOf_181 ?_
          refine VO_iload hC d_MD_fewestOf_182 4 rfl ?_
          refine VO_const hC d_MD_fewestOf_184 ?_
          refine VO_iload hC d_MD_fewestOf_185 6 rfl ?_
          refine VO_ishl hC d_MD_fewestOf_187 ?_
          refine VO_ior hC d_MD_fewestOf_188 ?_
          refine VO_iadd hC d_MD_fewestOf_189 ?_
          refine VO_iaload hC ia_75 d_MD_fewestOf_190 (fun x13 => ?_)
          refine VO_iadd hC d_MD_fewestOf_191 ?_
          refine VO_istoreB hC d_MD_fewestOf_192 [(0, .ref (gad G 58)), (1, .int v1), (2, .int v2), (3, .int v3), (4, .int v4), (6, .int v6), (7, .int v7)] rfl (by decide) (fun x14 => ?_)
          refine VO_iload hC d_MD_fewestOf_194 0 rfl ?_
          refine VO_iload hC d_MD_fewestOf_196 6 rfl ?_
          refine VO_icmp_ge hC d_MD_fewestOf_198 (fun _ => ?_) (fun _ => ?_)
          · refine VO_iload hC d_MD_fewestOf_206 6 rfl ?_
            exact VO_sub [1, 2, 3, 4, 5, 7] rfl (B_MD_fewestOf_208 hC K38 hK38 K52 hK52 K124 hK124 v7 v6 o12.2)
          · refine VO_iload hC d_MD_fewestOf_201 0 rfl ?_
            refine VO_goto hC d_MD_fewestOf_203 ?_
            exact VO_sub [1, 2, 3, 4, 5, 7] rfl (B_MD_fewestOf_208 hC K38 hK38 K52 hK52 K124 hK124 v7 x14 o12.2)
      · exact (B_MD_fewestOf_210 hC K38 hK38 K52 hK52 K124 hK124 v6 v7 o10.2)
set_option maxRecDepth 20000 in
theorem B_MD_fewestOf_124 {G : MCx} (hC : C0 G "AccusedChooseModel" b_MD_fewestOf 9 4) {v1 : Int32} {v2 : Int32} {v3 : Int32} (K38 : Int32 × St → Option (Int32 × St)) (hK38 : ∀ (w2 : Int32) (s : St), VO G (RI G b_MD_fewestOf) (K38 (w2, s)) 38 [(0, .ref (gad G 58)), (1, .int v1), (2, .int w2)] [] s) (K52 : Int32 × St → Option (Int32 × St)) (hK52 : ∀ (w4 : Int32) (s : St), VO G (RI G b_MD_fewestOf) (K52 (w4, s)) 52 [(0, .ref (gad G 58)), (1, .int v1), (2, .int v2), (3, .int v3), (4, .int w4)] [] s) (v4 : Int32) (v6 : Int32) (v7 : Int32) (s : St) : VO G (RI G b_MD_fewestOf) (F_MD_fewestOf_124 K38 K52 v1 v2 v3 v4 v6 v7 s) 124 [(0, .ref (gad G 58)), (1, .int v1), (2, .int v2), (3, .int v3), (4, .int v4), (6, .int v6), (7, .int v7)] [] s := by
  exact VO_fix (G_MD_fewestOf_124 K38 K52 v1 v2 v3 v4) 124 (fun q => [(0, .ref (gad G 58)), (1, .int v1), (2, .int v2), (3, .int v3), (4, .int v4), (6, .int q.1), (7, .int q.2.1)]) (fun q => q.2.2) (fun K hK q => BH_MD_fewestOf_124 hC K38 hK38 K52 hK52 K (fun w6 w7 s => hK (w6, w7, s)) q.1 q.2.1 q.2.2) FUEL (v6, v7, s)
set_option maxRecDepth 20000 in
theorem B_MD_fewestOf_118 {G : MCx} (hC : C0 G "AccusedChooseModel" b_MD_fewestOf 9 4) {v1 : Int32} {v2 : Int32} {v3 : Int32} (K38 : Int32 × St → Option (Int32 × St)) (hK38 : ∀ (w2 : Int32) (s : St), VO G (RI G b_MD_fewestOf) (K38 (w2, s)) 38 [(0, .ref (gad G 58)), (1, .int v1), (2, .int w2)] [] s) (K52 : Int32 × St → Option (Int32 × St)) (hK52 : ∀ (w4 : Int32) (s : St), VO G (RI G b_MD_fewestOf) (K52 (w4, s)) 52 [(0, .ref (gad G 58)), (1, .int v1), (2, .int v2), (3, .int v3), (4, .int w4)] [] s) (v4 : Int32) (z0 : Int32) (z1 : Int32) (s : St) : VO G (RI G b_MD_fewestOf) (F_MD_fewestOf_118 K38 K52 v1 v2 v3 v4 z0 z1 s) 118 [(0, .ref (gad G 58)), (1, .int v1), (2, .int v2), (3, .int v3), (4, .int v4)] [.int z0, .int z1] s := by
  unfold F_MD_fewestOf_118
  refine VO_iadd hC d_MD_fewestOf_118 ?_
  refine VO_istoreB hC d_MD_fewestOf_119 [(0, .ref (gad G 58)), (1, .int v1), (2, .int v2), (3, .int v3), (4, .int v4)] rfl (by decide) (fun x7 => ?_)
  refine VO_const hC d_MD_fewestOf_121 ?_
  refine VO_istore hC d_MD_fewestOf_122 [(6, .int x7), (0, .ref (gad G 58)), (1, .int v1), (2, .int v2), (3, .int v3), (4, .int v4)] rfl (by decide) ?_
  exact VO_sub [2, 3, 4, 5, 6, 1, 0] rfl (B_MD_fewestOf_124 hC K38 hK38 K52 hK52 v4 x7 (0 : Int32) s)
set_option maxRecDepth 20000 in
theorem B_MD_fewestOf_97 {G : MCx} (hC : C0 G "AccusedChooseModel" b_MD_fewestOf 9 4) {v1 : Int32} {v2 : Int32} {v3 : Int32} (K38 : Int32 × St → Option (Int32 × St)) (hK38 : ∀ (w2 : Int32) (s : St), VO G (RI G b_MD_fewestOf) (K38 (w2, s)) 38 [(0, .ref (gad G 58)), (1, .int v1), (2, .int w2)] [] s) (K52 : Int32 × St → Option (Int32 × St)) (hK52 : ∀ (w4 : Int32) (s : St), VO G (RI G b_MD_fewestOf) (K52 (w4, s)) 52 [(0, .ref (gad G 58)), (1, .int v1), (2, .int v2), (3, .int v3), (4, .int w4)] [] s) (v4 : Int32) (v5 : Int32) (z0 : Int32) (z1 : Int32) (s : St) : VO G (RI G b_MD_fewestOf) (F_MD_fewestOf_97 K38 K52 v1 v2 v3 v4 v5 z0 z1 s) 97 [(0, .ref (gad G 58)), (1, .int v1), (2, .int v2), (3, .int v3), (4, .int v4), (5, .int v5)] [.int z0, .int z1, .ref (gad G 75)] s := by
  unfold F_MD_fewestOf_97
  refine VO_iadd hC d_MD_fewestOf_97 ?_
  refine VO_iaload hC ia_75 d_MD_fewestOf_98 (fun x5 => ?_)
  refine VO_iload hC d_MD_fewestOf_99 1 rfl ?_
  refine VO_iload hC d_MD_fewestOf_100 3 rfl ?_
  refine VO_callSI hC [.int v1, .int v3] [.int x5] ml_MD_184 d_MD_fewestOf_101 ys_MD_has (fun o h => M_MD_has hC.inj h) (by decide) rfl rfl (Nat.le_of_ble_eq_true rfl) (fun o6 => ?_)
  refine VO_if_eq hC d_MD_fewestOf_104 (fun _ => ?_) (fun _ => ?_)
  · refine VO_const hC d_MD_fewestOf_117 ?_
    exact VO_sub [0, 1, 2, 3, 4] rfl (B_MD_fewestOf_118 hC K38 hK38 K52 hK52 v4 (0 : Int32) x5 o6.2)
  · refine VO_aload hC d_MD_fewestOf_107 0 rfl ?_
    refine VO_iload hC d_MD_fewestOf_108 3 rfl ?_
    refine VO_iload hC d_MD_fewestOf_109 5 rfl ?_
    refine VO_callVI hC [.int v3, .int v5] [.int x5] ml_MD_194 d_MD_fewestOf_111 yv_MD_monthsOf sh_MD rfl rfl (fun o h => M_MD_monthsOf hC.inj h) (by decide) rfl rfl (Nat.le_of_ble_eq_true rfl) (fun o15 => ?_)
    refine VO_goto hC d_MD_fewestOf_114 ?_
    exact VO_sub [0, 1, 2, 3, 4] rfl (B_MD_fewestOf_118 hC K38 hK38 K52 hK52 v4 o15.1 x5 o15.2)
set_option maxRecDepth 20000 in
theorem BH_MD_fewestOf_52 {G : MCx} (hC : C0 G "AccusedChooseModel" b_MD_fewestOf 9 4) {v1 : Int32} {v2 : Int32} {v3 : Int32} (K38 : Int32 × St → Option (Int32 × St)) (hK38 : ∀ (w2 : Int32) (s : St), VO G (RI G b_MD_fewestOf) (K38 (w2, s)) 38 [(0, .ref (gad G 58)), (1, .int v1), (2, .int w2)] [] s) (K52 : Int32 × St → Option (Int32 × St)) (hK52 : ∀ (w4 : Int32) (s : St), VO G (RI G b_MD_fewestOf) (K52 (w4, s)) 52 [(0, .ref (gad G 58)), (1, .int v1), (2, .int v2), (3, .int v3), (4, .int w4)] [] s) (v4 : Int32) (s : St) : VO G (RI G b_MD_fewestOf) (H_MD_fewestOf_52 K38 v1 v2 v3 K52 v4 s) 52 [(0, .ref (gad G 58)), (1, .int v1), (2, .int v2), (3, .int v3), (4, .int v4)] [] s := by
  unfold H_MD_fewestOf_52
  refine VO_iload hC d_MD_fewestOf_52 4 rfl ?_
  refine VO_const hC d_MD_fewestOf_54 ?_
  refine VO_icmp_ge hC d_MD_fewestOf_57 (fun _ => ?_) (fun _ => ?_)
  · refine VO_iincN hC d_MD_fewestOf_237 2 rfl (by decide : Int32.ofInt (-1) = -1) [(0, .ref (gad G 58)), (1, .int v1), (3, .int v3), (4, .int v4)] rfl (by decide) ?_
    refine VO_goto hC d_MD_fewestOf_240 ?_
    exact VO_sub [1, 2, 0] rfl (hK38 (v2 - 1) s)
  · refine VO_aload hC d_MD_fewestOf_60 0 rfl ?_
    refine VO_iload hC d_MD_fewestOf_61 3 rfl ?_
    refine VO_iload hC d_MD_fewestOf_62 4 rfl ?_
    refine VO_callVI hC [.int v3, .int v4] [] ml_MD_203 d_MD_fewestOf_64 yv_MD_best sh_MD rfl rfl (fun o h => M_MD_best hC.inj h) (by decide) rfl rfl (Nat.le_of_ble_eq_true rfl) (fun o4 => ?_)
    refine VO_istore hC d_MD_fewestOf_67 [(0, .ref (gad G 58)), (1, .int v1), (2, .int v2), (3, .int v3), (4, .int v4)] rfl (by decide) ?_
    refine VO_aload hC d_MD_fewestOf_69 1 rfl ?_
    refine VO_getr (r := 75) hC fl_MD_62 sh_MD rfl d_MD_fewestOf_70 ?_
    refine VO_const hC d_MD_fewestOf_73 ?_
    refine VO_iload hC d_MD_fewestOf_76 3 rfl ?_
    refine VO_const hC d_MD_fewestOf_77 ?_
    refine VO_iadd hC d_MD_fewestOf_78 ?_
    refine VO_imul hC d_MD_fewestOf_79 ?_
    refine VO_iload hC d_MD_fewestOf_80 0 rfl ?_
    refine VO_if_ge hC d_MD_fewestOf_82 (fun _ => ?_) (fun _ => ?_)
    · refine VO_iload hC d_MD_fewestOf_90 5 rfl ?_
      refine VO_const hC d_MD_fewestOf_92 ?_
      refine VO_iload hC d_MD_fewestOf_93 0 rfl ?_
      refine VO_ishl hC d_MD_fewestOf_95 ?_
      refine VO_ior hC d_MD_fewestOf_96 ?_
      exact VO_sub [1, 2, 3, 4, 5, 0] rfl (B_MD_fewestOf_97 hC K38 hK38 K52 hK52 v4 o4.1 (v4 ||| ((1 : Int32) <<< (o4.1 &&& 31))) ((128 : Int32) * (v2 + (1 : Int32))) o4.2)
    · refine VO_iload hC d_MD_fewestOf_85 5 rfl ?_
      refine VO_goto hC d_MD_fewestOf_87 ?_
      exact VO_sub [1, 2, 3, 4, 5, 0] rfl (B_MD_fewestOf_97 hC K38 hK38 K52 hK52 v4 o4.1 v4 ((128 : Int32) * (v2 + (1 : Int32))) o4.2)
set_option maxRecDepth 20000 in
theorem B_MD_fewestOf_52 {G : MCx} (hC : C0 G "AccusedChooseModel" b_MD_fewestOf 9 4) {v1 : Int32} (K38 : Int32 × St → Option (Int32 × St)) (hK38 : ∀ (w2 : Int32) (s : St), VO G (RI G b_MD_fewestOf) (K38 (w2, s)) 38 [(0, .ref (gad G 58)), (1, .int v1), (2, .int w2)] [] s) (v2 : Int32) (v3 : Int32) (v4 : Int32) (s : St) : VO G (RI G b_MD_fewestOf) (F_MD_fewestOf_52 K38 v1 v2 v3 v4 s) 52 [(0, .ref (gad G 58)), (1, .int v1), (2, .int v2), (3, .int v3), (4, .int v4)] [] s := by
  exact VO_fix (G_MD_fewestOf_52 K38 v1 v2 v3) 52 (fun q => [(0, .ref (gad G 58)), (1, .int v1), (2, .int v2), (3, .int v3), (4, .int q.1)]) (fun q => q.2) (fun K hK q => BH_MD_fewestOf_52 hC K38 hK38 K (fun w4 s => hK (w4, s)) q.1 q.2) FUEL (v4, s)
set_option maxRecDepth 20000 in
theorem BH_MD_fewestOf_38 {G : MCx} (hC : C0 G "AccusedChooseModel" b_MD_fewestOf 9 4) {v1 : Int32} (K38 : Int32 × St → Option (Int32 × St)) (hK38 : ∀ (w2 : Int32) (s : St), VO G (RI G b_MD_fewestOf) (K38 (w2, s)) 38 [(0, .ref (gad G 58)), (1, .int v1), (2, .int w2)] [] s) (v2 : Int32) (s : St) : VO G (RI G b_MD_fewestOf) (H_MD_fewestOf_38 v1 K38 v2 s) 38 [(0, .ref (gad G 58)), (1, .int v1), (2, .int v2)] [] s := by
  unfold H_MD_fewestOf_38
  refine VO_iload hC d_MD_fewestOf_38 2 rfl ?_
  refine VO_if_lt hC d_MD_fewestOf_39 (fun _ => ?_) (fun _ => ?_)
  · refine VO_aload hC d_MD_fewestOf_243 0 rfl ?_
    refine VO_getr (r := 75) hC fl_MD_62 sh_MD rfl d_MD_fewestOf_244 ?_
    refine VO_const hC d_MD_fewestOf_247 ?_
    refine VO_iaload hC ia_75 d_MD_fewestOf_248 (fun x2 => ?_)
    exact VO_ireturn d_MD_fewestOf_249
  · refine VO_aload hC d_MD_fewestOf_42 0 rfl ?_
    refine VO_getr (r := 67) hC fl_MD_34 sh_MD rfl d_MD_fewestOf_43 ?_
    refine VO_iload hC d_MD_fewestOf_46 2 rfl ?_
    refine VO_iaload hC ia_67 d_MD_fewestOf_47 (fun x3 => ?_)
    refine VO_istore hC d_MD_fewestOf_48 [(0, .ref (gad G 58)), (1, .int v1), (2, .int v2)] rfl (by decide) ?_
    refine VO_const hC d_MD_fewestOf_49 ?_
    refine VO_istore hC d_MD_fewestOf_50 [(3, .int x3), (0, .ref (gad G 58)), (1, .int v1), (2, .int v2)] rfl (by decide) ?_
    exact VO_sub [2, 3, 4, 1, 0] rfl (B_MD_fewestOf_52 hC K38 hK38 v2 x3 (0 : Int32) s)
set_option maxRecDepth 20000 in
theorem B_MD_fewestOf_38 {G : MCx} (hC : C0 G "AccusedChooseModel" b_MD_fewestOf 9 4) (v1 : Int32) (v2 : Int32) (s : St) : VO G (RI G b_MD_fewestOf) (F_MD_fewestOf_38 v1 v2 s) 38 [(0, .ref (gad G 58)), (1, .int v1), (2, .int v2)] [] s := by
  exact VO_fix (G_MD_fewestOf_38 v1) 38 (fun q => [(0, .ref (gad G 58)), (1, .int v1), (2, .int q.1)]) (fun q => q.2) (fun K hK q => BH_MD_fewestOf_38 hC K (fun w2 s => hK (w2, s)) q.1 q.2) FUEL (v2, s)
set_option maxRecDepth 20000 in
theorem BH_MD_fewestOf_2 {G : MCx} (hC : C0 G "AccusedChooseModel" b_MD_fewestOf 9 4) {v1 : Int32} (K2 : Int32 × St → Option (Int32 × St)) (hK2 : ∀ (w2 : Int32) (s : St), VO G (RI G b_MD_fewestOf) (K2 (w2, s)) 2 [(0, .ref (gad G 58)), (1, .int v1), (2, .int w2)] [] s) (v2 : Int32) (s : St) : VO G (RI G b_MD_fewestOf) (H_MD_fewestOf_2 v1 K2 v2 s) 2 [(0, .ref (gad G 58)), (1, .int v1), (2, .int v2)] [] s := by
  unfold H_MD_fewestOf_2
  refine VO_iload hC d_MD_fewestOf_2 2 rfl ?_
  refine VO_const hC d_MD_fewestOf_3 ?_
  refine VO_icmp_ge hC d_MD_fewestOf_6 (fun _ => ?_) (fun _ => ?_)
  · refine VO_aload hC d_MD_fewestOf_31 0 rfl ?_
    refine VO_geti hC fl_MD_90 sh_MD rfl d_MD_fewestOf_32 ?_
    refine VO_const hC d_MD_fewestOf_35 ?_
    refine VO_isub hC d_MD_fewestOf_36 ?_
    refine VO_istoreB hC d_MD_fewestOf_37 [(0, .ref (gad G 58)), (1, .int v1)] rfl (by decide) (fun x1 => ?_)
    exact VO_sub [1, 2, 0] rfl (B_MD_fewestOf_38 hC v1 x1 s)
  · refine VO_aload hC d_MD_fewestOf_9 0 rfl ?_
    refine VO_getr (r := 75) hC fl_MD_62 sh_MD rfl d_MD_fewestOf_10 ?_
    refine VO_const hC d_MD_fewestOf_13 ?_
    refine VO_aload hC d_MD_fewestOf_16 0 rfl ?_
    refine VO_geti hC fl_MD_90 sh_MD rfl d_MD_fewestOf_17 ?_
    refine VO_imul hC d_MD_fewestOf_20 ?_
    refine VO_iload hC d_MD_fewestOf_21 2 rfl ?_
    refine VO_iadd hC d_MD_fewestOf_22 ?_
    refine VO_const hC d_MD_fewestOf_23 ?_
    refine VO_iastore hC ia_75 d_MD_fewestOf_24 (fun s16 => ?_)
    refine VO_iinc hC d_MD_fewestOf_25 2 rfl (by decide : Int32.ofInt 1 = 1) [(0, .ref (gad G 58)), (1, .int v1)] rfl (by decide) ?_
    refine VO_goto hC d_MD_fewestOf_28 ?_
    exact VO_sub [1, 2, 0] rfl (hK2 (v2 + 1) s16)
set_option maxRecDepth 20000 in
theorem B_MD_fewestOf_2 {G : MCx} (hC : C0 G "AccusedChooseModel" b_MD_fewestOf 9 4) (v1 : Int32) (v2 : Int32) (s : St) : VO G (RI G b_MD_fewestOf) (F_MD_fewestOf_2 v1 v2 s) 2 [(0, .ref (gad G 58)), (1, .int v1), (2, .int v2)] [] s := by
  exact VO_fix (G_MD_fewestOf_2 v1) 2 (fun q => [(0, .ref (gad G 58)), (1, .int v1), (2, .int q.1)]) (fun q => q.2) (fun K hK q => BH_MD_fewestOf_2 hC K (fun w2 s => hK (w2, s)) q.1 q.2) FUEL (v2, s)
set_option maxRecDepth 20000 in
theorem B_MD_fewestOf {G : MCx} (hC : C0 G "AccusedChooseModel" b_MD_fewestOf 9 4) (a1 : Int32) (s : St) : VO G (RI G b_MD_fewestOf) (F_MD_fewestOf a1 s) 0 [(0, .ref (gad G 58)), (1, .int a1)] [] s := by
  unfold F_MD_fewestOf
  refine VO_const hC d_MD_fewestOf_0 ?_
  refine VO_istore hC d_MD_fewestOf_1 [(0, .ref (gad G 58)), (1, .int a1)] rfl (by decide) ?_
  exact VO_sub [1, 2, 0] rfl (B_MD_fewestOf_2 hC a1 (0 : Int32) s)
set_option maxRecDepth 20000 in
theorem M_MD_fewestOf {l : Launch} {D : va_G} {ad : Nat → Nat} {cI cL : ClassId} (hj : Inj ad) {a1 : Int32} {s : St} {o : Int32 × St} (h : F_MD_fewestOf a1 s = some o) : Cn l D ad cI cL y_MD_fewestOf b_MD_fewestOf 9 (some .int) 4 [.ref (ad 58), .int a1] s (some (.int o.1)) o.2 := by
  refine Cn_ofI hj (plainFor_of_name (by decide)) (Nat.le_of_ble_eq_true rfl) [(0, .ref (ad 58)), (1, .int a1)] rfl (fun G hC e1 e2 e3 e4 e5 hR => ?_)
  subst e1; subst e2; subst e3; subst e4; subst e5
  exact B_MD_fewestOf hC a1 s o h hR
theorem d_MD_together_0 : PLi b_MD_together 0 1 1 := Or.inl ⟨1, by decide +kernel, rfl, rfl⟩
theorem d_MD_together_1 : DJ b_MD_together 1 (.ifCond .ge) 4 9 := ⟨8, by decide +kernel, rfl, by decide⟩
theorem d_MD_together_4 : PCi b_MD_together 4 (-4) 6 := Or.inr (Or.inl ⟨(-4), by decide +kernel, by decide, rfl⟩)
theorem d_MD_together_6 : DJ b_MD_together 6 .goto 9 38 := ⟨32, by decide +kernel, rfl, by decide⟩
theorem d_MD_together_9 : PLi b_MD_together 9 1 10 := Or.inl ⟨1, by decide +kernel, rfl, rfl⟩
theorem d_MD_together_10 : PLa b_MD_together 10 0 11 := Or.inl ⟨0, by decide +kernel, rfl, rfl⟩
theorem d_MD_together_11 : DR b_MD_together 11 (.getfield 90) 3 14 := ⟨by decide +kernel, rfl⟩
theorem d_MD_together_14 : DR b_MD_together 14 (.ishr) 1 15 := ⟨by decide +kernel, rfl⟩
theorem d_MD_together_15 : DJ b_MD_together 15 (.ifCond .eq) 18 23 := ⟨8, by decide +kernel, rfl, by decide⟩
theorem d_MD_together_18 : PCi b_MD_together 18 (-6) 20 := Or.inr (Or.inl ⟨(-6), by decide +kernel, by decide, rfl⟩)
theorem d_MD_together_20 : DJ b_MD_together 20 .goto 23 38 := ⟨18, by decide +kernel, rfl, by decide⟩
theorem d_MD_together_23 : PLi b_MD_together 23 2 24 := Or.inl ⟨2, by decide +kernel, rfl, rfl⟩
theorem d_MD_together_24 : PCi b_MD_together 24 0 25 := Or.inl ⟨0, by decide +kernel, by decide, rfl⟩
theorem d_MD_together_25 : PCi b_MD_together 25 1 26 := Or.inl ⟨1, by decide +kernel, by decide, rfl⟩
theorem d_MD_together_26 : DR b_MD_together 26 (.invokestatic 115) 3 29 := ⟨by decide +kernel, rfl⟩
theorem d_MD_together_29 : DJ b_MD_together 29 (.ifCond .ne) 32 37 := ⟨8, by decide +kernel, rfl, by decide⟩
theorem d_MD_together_32 : PCi b_MD_together 32 (-2) 34 := Or.inr (Or.inl ⟨(-2), by decide +kernel, by decide, rfl⟩)
theorem d_MD_together_34 : DJ b_MD_together 34 .goto 37 38 := ⟨4, by decide +kernel, rfl, by decide⟩
theorem d_MD_together_37 : PCi b_MD_together 37 0 38 := Or.inl ⟨0, by decide +kernel, by decide, rfl⟩
theorem d_MD_together_38 : PSi b_MD_together 38 3 39 := Or.inl ⟨3, by decide +kernel, rfl, rfl⟩
theorem d_MD_together_39 : PLi b_MD_together 39 3 40 := Or.inl ⟨3, by decide +kernel, rfl, rfl⟩
theorem d_MD_together_40 : DJ b_MD_together 40 (.ifCond .eq) 43 49 := ⟨9, by decide +kernel, rfl, by decide⟩
theorem d_MD_together_43 : PLa b_MD_together 43 0 44 := Or.inl ⟨0, by decide +kernel, rfl, rfl⟩
theorem d_MD_together_44 : PLi b_MD_together 44 3 45 := Or.inl ⟨3, by decide +kernel, rfl, rfl⟩
theorem d_MD_together_45 : DR b_MD_together 45 (.invokevirtual 104) 3 48 := ⟨by decide +kernel, rfl⟩
theorem d_MD_together_48 : DR b_MD_together 48 (.ireturn) 1 49 := ⟨by decide +kernel, rfl⟩
theorem d_MD_together_49 : PLa b_MD_together 49 0 50 := Or.inl ⟨0, by decide +kernel, rfl, rfl⟩
theorem d_MD_together_50 : PLi b_MD_together 50 1 51 := Or.inl ⟨1, by decide +kernel, rfl, rfl⟩
theorem d_MD_together_51 : DR b_MD_together 51 (.invokevirtual 302) 3 54 := ⟨by decide +kernel, rfl⟩
theorem d_MD_together_54 : PSi b_MD_together 54 4 56 := Or.inr ⟨by decide +kernel, rfl⟩
theorem d_MD_together_56 : PLa b_MD_together 56 0 57 := Or.inl ⟨0, by decide +kernel, rfl, rfl⟩
theorem d_MD_together_57 : DR b_MD_together 57 (.invokevirtual 215) 3 60 := ⟨by decide +kernel, rfl⟩
theorem d_MD_together_60 : PLi b_MD_together 60 2 61 := Or.inl ⟨2, by decide +kernel, rfl, rfl⟩
theorem d_MD_together_61 : DJ b_MD_together 61 (.ifCond .ne) 64 69 := ⟨8, by decide +kernel, rfl, by decide⟩
theorem d_MD_together_64 : PLi b_MD_together 64 4 66 := Or.inr ⟨by decide +kernel, rfl⟩
theorem d_MD_together_66 : DJ b_MD_together 66 .goto 69 77 := ⟨11, by decide +kernel, rfl, by decide⟩
theorem d_MD_together_69 : PLa b_MD_together 69 0 70 := Or.inl ⟨0, by decide +kernel, rfl, rfl⟩
theorem d_MD_together_70 : PLi b_MD_together 70 1 71 := Or.inl ⟨1, by decide +kernel, rfl, rfl⟩
theorem d_MD_together_71 : DR b_MD_together 71 (.invokevirtual 305) 3 74 := ⟨by decide +kernel, rfl⟩
theorem d_MD_together_74 : PLi b_MD_together 74 4 76 := Or.inr ⟨by decide +kernel, rfl⟩
theorem d_MD_together_76 : DR b_MD_together 76 (.isub) 1 77 := ⟨by decide +kernel, rfl⟩
theorem d_MD_together_77 : DR b_MD_together 77 (.ireturn) 1 78 := ⟨by decide +kernel, rfl⟩
set_option maxRecDepth 20000 in
theorem B_MD_together_38 {G : MCx} (hC : C0 G "AccusedChooseModel" b_MD_together 5 6) (v1 : Int32) (v2 : Int32) (z0 : Int32) (s : St) : VO G (RI G b_MD_together) (F_MD_together_38 v1 v2 z0 s) 38 [(0, .ref (gad G 58)), (1, .int v1), (2, .int v2)] [.int z0] s := by
  unfold F_MD_together_38
  refine VO_istore hC d_MD_together_38 [(0, .ref (gad G 58)), (1, .int v1), (2, .int v2)] rfl (by decide) ?_
  refine VO_iload hC d_MD_together_39 0 rfl ?_
  refine VO_if_eq hC d_MD_together_40 (fun _ => ?_) (fun _ => ?_)
  · refine VO_aload hC d_MD_together_49 1 rfl ?_
    refine VO_iload hC d_MD_together_50 2 rfl ?_
    refine VO_callVI hC [.int v1] [] ml_MD_302 d_MD_together_51 yv_MD_fewestOf sh_MD rfl rfl (fun o h => M_MD_fewestOf hC.inj h) (by decide) rfl rfl (Nat.le_of_ble_eq_true rfl) (fun o2 => ?_)
    refine VO_istore hC d_MD_together_54 [(3, .int z0), (0, .ref (gad G 58)), (1, .int v1), (2, .int v2)] rfl (by decide) ?_
    refine VO_aload hC d_MD_together_56 2 rfl ?_
    refine VO_callVV hC [] [] ml_MD_215 d_MD_together_57 yv_MD_goes sh_MD rfl rfl (fun o h => M_MD_goes hC.inj h) (by decide) rfl rfl (Nat.le_of_ble_eq_true rfl) (fun s3 => ?_)
    refine VO_iload hC d_MD_together_60 4 rfl ?_
    refine VO_if_ne hC d_MD_together_61 (fun _ => ?_) (fun _ => ?_)
    · refine VO_iload hC d_MD_together_64 0 rfl ?_
      refine VO_goto hC d_MD_together_66 ?_
      exact VO_ireturn d_MD_together_77
    · refine VO_aload hC d_MD_together_69 2 rfl ?_
      refine VO_iload hC d_MD_together_70 3 rfl ?_
      refine VO_callVI hC [.int v1] [] ml_MD_305 d_MD_together_71 yv_MD_setMonths sh_MD rfl rfl (fun o h => M_MD_setMonths hC.inj h) (by decide) rfl rfl (Nat.le_of_ble_eq_true rfl) (fun o4 => ?_)
      refine VO_iload hC d_MD_together_74 0 rfl ?_
      refine VO_isub hC d_MD_together_76 ?_
      exact VO_ireturn d_MD_together_77
  · refine VO_aload hC d_MD_together_43 1 rfl ?_
    refine VO_iload hC d_MD_together_44 0 rfl ?_
    refine VO_callVI hC [.int z0] [] ml_MD_104 d_MD_together_45 yv_MD_no sh_MD rfl rfl (fun o h => M_MD_no hC.inj h) (by decide) rfl rfl (Nat.le_of_ble_eq_true rfl) (fun o5 => ?_)
    exact VO_ireturn d_MD_together_48
set_option maxRecDepth 20000 in
theorem B_MD_together {G : MCx} (hC : C0 G "AccusedChooseModel" b_MD_together 5 6) (a1 : Int32) (a2 : Int32) (s : St) : VO G (RI G b_MD_together) (F_MD_together a1 a2 s) 0 [(0, .ref (gad G 58)), (1, .int a1), (2, .int a2)] [] s := by
  unfold F_MD_together
  refine VO_iload hC d_MD_together_0 1 rfl ?_
  refine VO_if_ge hC d_MD_together_1 (fun _ => ?_) (fun _ => ?_)
  · refine VO_iload hC d_MD_together_9 1 rfl ?_
    refine VO_aload hC d_MD_together_10 0 rfl ?_
    refine VO_geti hC fl_MD_90 sh_MD rfl d_MD_together_11 ?_
    refine VO_ishr hC d_MD_together_14 ?_
    refine VO_if_eq hC d_MD_together_15 (fun _ => ?_) (fun _ => ?_)
    · refine VO_iload hC d_MD_together_23 2 rfl ?_
      refine VO_const hC d_MD_together_24 ?_
      refine VO_const hC d_MD_together_25 ?_
      refine VO_callSI hC [.int a2, .int (0 : Int32), .int (1 : Int32)] [] ml_MD_115 d_MD_together_26 ys_MD_isIn (fun o h => M_MD_isIn hC.inj h) (by decide) rfl rfl (Nat.le_of_ble_eq_true rfl) (fun o1 => ?_)
      refine VO_if_ne hC d_MD_together_29 (fun _ => ?_) (fun _ => ?_)
      · refine VO_const hC d_MD_together_32 ?_
        refine VO_goto hC d_MD_together_34 ?_
        exact (B_MD_together_38 hC a1 a2 (-2 : Int32) o1.2)
      · refine VO_const hC d_MD_together_37 ?_
        exact (B_MD_together_38 hC a1 a2 (0 : Int32) o1.2)
    · refine VO_const hC d_MD_together_18 ?_
      refine VO_goto hC d_MD_together_20 ?_
      exact (B_MD_together_38 hC a1 a2 (-6 : Int32) s)
  · refine VO_const hC d_MD_together_4 ?_
    refine VO_goto hC d_MD_together_6 ?_
    exact (B_MD_together_38 hC a1 a2 (-4 : Int32) s)
set_option maxRecDepth 20000 in
theorem M_MD_together {l : Launch} {D : va_G} {ad : Nat → Nat} {cI cL : ClassId} (hj : Inj ad) {a1 : Int32} {a2 : Int32} {s : St} {o : Int32 × St} (h : F_MD_together a1 a2 s = some o) : Cn l D ad cI cL y_MD_together b_MD_together 5 (some .int) 6 [.ref (ad 58), .int a1, .int a2] s (some (.int o.1)) o.2 := by
  refine Cn_ofI hj (plainFor_of_name (by decide)) (Nat.le_of_ble_eq_true rfl) [(0, .ref (ad 58)), (1, .int a1), (2, .int a2)] rfl (fun G hC e1 e2 e3 e4 e5 hR => ?_)
  subst e1; subst e2; subst e3; subst e4; subst e5
  exact B_MD_together hC a1 a2 s o h hR
theorem d_MD_monthsTurned_0 : PLa b_MD_monthsTurned 0 0 1 := Or.inl ⟨0, by decide +kernel, rfl, rfl⟩
theorem d_MD_monthsTurned_1 : DR b_MD_monthsTurned 1 (.getfield 31) 3 4 := ⟨by decide +kernel, rfl⟩
theorem d_MD_monthsTurned_4 : PLi b_MD_monthsTurned 4 1 5 := Or.inl ⟨1, by decide +kernel, rfl, rfl⟩
theorem d_MD_monthsTurned_5 : DR b_MD_monthsTurned 5 (.dup2) 1 6 := ⟨by decide +kernel, rfl⟩
theorem d_MD_monthsTurned_6 : DR b_MD_monthsTurned 6 (.iaload) 1 7 := ⟨by decide +kernel, rfl⟩
theorem d_MD_monthsTurned_7 : PCi b_MD_monthsTurned 7 1 8 := Or.inl ⟨1, by decide +kernel, by decide, rfl⟩
theorem d_MD_monthsTurned_8 : PLi b_MD_monthsTurned 8 2 9 := Or.inl ⟨2, by decide +kernel, rfl, rfl⟩
theorem d_MD_monthsTurned_9 : DR b_MD_monthsTurned 9 (.ishl) 1 10 := ⟨by decide +kernel, rfl⟩
theorem d_MD_monthsTurned_10 : DR b_MD_monthsTurned 10 (.ixor) 1 11 := ⟨by decide +kernel, rfl⟩
theorem d_MD_monthsTurned_11 : DR b_MD_monthsTurned 11 (.iastore) 1 12 := ⟨by decide +kernel, rfl⟩
theorem d_MD_monthsTurned_12 : PLa b_MD_monthsTurned 12 0 13 := Or.inl ⟨0, by decide +kernel, rfl, rfl⟩
theorem d_MD_monthsTurned_13 : DR b_MD_monthsTurned 13 (.invokevirtual 299) 3 16 := ⟨by decide +kernel, rfl⟩
theorem d_MD_monthsTurned_16 : PSi b_MD_monthsTurned 16 3 17 := Or.inl ⟨3, by decide +kernel, rfl, rfl⟩
theorem d_MD_monthsTurned_17 : PLa b_MD_monthsTurned 17 0 18 := Or.inl ⟨0, by decide +kernel, rfl, rfl⟩
theorem d_MD_monthsTurned_18 : DR b_MD_monthsTurned 18 (.getfield 31) 3 21 := ⟨by decide +kernel, rfl⟩
theorem d_MD_monthsTurned_21 : PLi b_MD_monthsTurned 21 1 22 := Or.inl ⟨1, by decide +kernel, rfl, rfl⟩
theorem d_MD_monthsTurned_22 : DR b_MD_monthsTurned 22 (.dup2) 1 23 := ⟨by decide +kernel, rfl⟩
theorem d_MD_monthsTurned_23 : DR b_MD_monthsTurned 23 (.iaload) 1 24 := ⟨by decide +kernel, rfl⟩
theorem d_MD_monthsTurned_24 : PCi b_MD_monthsTurned 24 1 25 := Or.inl ⟨1, by decide +kernel, by decide, rfl⟩
theorem d_MD_monthsTurned_25 : PLi b_MD_monthsTurned 25 2 26 := Or.inl ⟨2, by decide +kernel, rfl, rfl⟩
theorem d_MD_monthsTurned_26 : DR b_MD_monthsTurned 26 (.ishl) 1 27 := ⟨by decide +kernel, rfl⟩
theorem d_MD_monthsTurned_27 : DR b_MD_monthsTurned 27 (.ixor) 1 28 := ⟨by decide +kernel, rfl⟩
theorem d_MD_monthsTurned_28 : DR b_MD_monthsTurned 28 (.iastore) 1 29 := ⟨by decide +kernel, rfl⟩
theorem d_MD_monthsTurned_29 : PLi b_MD_monthsTurned 29 3 30 := Or.inl ⟨3, by decide +kernel, rfl, rfl⟩
theorem d_MD_monthsTurned_30 : DR b_MD_monthsTurned 30 (.ireturn) 1 31 := ⟨by decide +kernel, rfl⟩
set_option maxRecDepth 20000 in
theorem B_MD_monthsTurned {G : MCx} (hC : C0 G "AccusedChooseModel" b_MD_monthsTurned 4 7) (a1 : Int32) (a2 : Int32) (s : St) : VO G (RI G b_MD_monthsTurned) (F_MD_monthsTurned a1 a2 s) 0 [(0, .ref (gad G 58)), (1, .int a1), (2, .int a2)] [] s := by
  unfold F_MD_monthsTurned
  refine VO_aload hC d_MD_monthsTurned_0 0 rfl ?_
  refine VO_getr (r := 66) hC fl_MD_31 sh_MD rfl d_MD_monthsTurned_1 ?_
  refine VO_iload hC d_MD_monthsTurned_4 1 rfl ?_
  refine VO_dup2 hC d_MD_monthsTurned_5 rfl rfl ?_
  refine VO_iaload hC ia_66 d_MD_monthsTurned_6 (fun x1 => ?_)
  refine VO_const hC d_MD_monthsTurned_7 ?_
  refine VO_iload hC d_MD_monthsTurned_8 2 rfl ?_
  refine VO_ishl hC d_MD_monthsTurned_9 ?_
  refine VO_ixor hC d_MD_monthsTurned_10 ?_
  refine VO_iastore hC ia_66 d_MD_monthsTurned_11 (fun s2 => ?_)
  refine VO_aload hC d_MD_monthsTurned_12 0 rfl ?_
  refine VO_callVI hC [] [] ml_MD_299 d_MD_monthsTurned_13 yv_MD_monthsNow sh_MD rfl rfl (fun o h => M_MD_monthsNow hC.inj h) (by decide) rfl rfl (Nat.le_of_ble_eq_true rfl) (fun o3 => ?_)
  refine VO_istore hC d_MD_monthsTurned_16 [(0, .ref (gad G 58)), (1, .int a1), (2, .int a2)] rfl (by decide) ?_
  refine VO_aload hC d_MD_monthsTurned_17 1 rfl ?_
  refine VO_getr (r := 66) hC fl_MD_31 sh_MD rfl d_MD_monthsTurned_18 ?_
  refine VO_iload hC d_MD_monthsTurned_21 2 rfl ?_
  refine VO_dup2 hC d_MD_monthsTurned_22 rfl rfl ?_
  refine VO_iaload hC ia_66 d_MD_monthsTurned_23 (fun x4 => ?_)
  refine VO_const hC d_MD_monthsTurned_24 ?_
  refine VO_iload hC d_MD_monthsTurned_25 3 rfl ?_
  refine VO_ishl hC d_MD_monthsTurned_26 ?_
  refine VO_ixor hC d_MD_monthsTurned_27 ?_
  refine VO_iastore hC ia_66 d_MD_monthsTurned_28 (fun s5 => ?_)
  refine VO_iload hC d_MD_monthsTurned_29 0 rfl ?_
  exact VO_ireturn d_MD_monthsTurned_30
set_option maxRecDepth 20000 in
theorem M_MD_monthsTurned {l : Launch} {D : va_G} {ad : Nat → Nat} {cI cL : ClassId} (hj : Inj ad) {a1 : Int32} {a2 : Int32} {s : St} {o : Int32 × St} (h : F_MD_monthsTurned a1 a2 s = some o) : Cn l D ad cI cL y_MD_monthsTurned b_MD_monthsTurned 4 (some .int) 7 [.ref (ad 58), .int a1, .int a2] s (some (.int o.1)) o.2 := by
  refine Cn_ofI hj (plainFor_of_name (by decide)) (Nat.le_of_ble_eq_true rfl) [(0, .ref (ad 58)), (1, .int a1), (2, .int a2)] rfl (fun G hC e1 e2 e3 e4 e5 hR => ?_)
  subst e1; subst e2; subst e3; subst e4; subst e5
  exact B_MD_monthsTurned hC a1 a2 s o h hR
theorem d_MD_alibiWorth_0 : PLa b_MD_alibiWorth 0 0 1 := Or.inl ⟨0, by decide +kernel, rfl, rfl⟩
theorem d_MD_alibiWorth_1 : PLi b_MD_alibiWorth 1 1 2 := Or.inl ⟨1, by decide +kernel, rfl, rfl⟩
theorem d_MD_alibiWorth_2 : DR b_MD_alibiWorth 2 (.invokevirtual 93) 3 5 := ⟨by decide +kernel, rfl⟩
theorem d_MD_alibiWorth_5 : DJ b_MD_alibiWorth 5 (.ifCond .eq) 8 16 := ⟨11, by decide +kernel, rfl, by decide⟩
theorem d_MD_alibiWorth_8 : PLa b_MD_alibiWorth 8 0 9 := Or.inl ⟨0, by decide +kernel, rfl, rfl⟩
theorem d_MD_alibiWorth_9 : PLi b_MD_alibiWorth 9 2 10 := Or.inl ⟨2, by decide +kernel, rfl, rfl⟩
theorem d_MD_alibiWorth_10 : DR b_MD_alibiWorth 10 (.invokevirtual 140) 3 13 := ⟨by decide +kernel, rfl⟩
theorem d_MD_alibiWorth_13 : DJ b_MD_alibiWorth 13 (.ifCond .ne) 16 22 := ⟨9, by decide +kernel, rfl, by decide⟩
theorem d_MD_alibiWorth_16 : PLa b_MD_alibiWorth 16 0 17 := Or.inl ⟨0, by decide +kernel, rfl, rfl⟩
theorem d_MD_alibiWorth_17 : PCi b_MD_alibiWorth 17 (-1) 18 := Or.inl ⟨(-1), by decide +kernel, by decide, rfl⟩
theorem d_MD_alibiWorth_18 : DR b_MD_alibiWorth 18 (.invokevirtual 265) 3 21 := ⟨by decide +kernel, rfl⟩
theorem d_MD_alibiWorth_21 : DR b_MD_alibiWorth 21 (.ireturn) 1 22 := ⟨by decide +kernel, rfl⟩
theorem d_MD_alibiWorth_22 : PLa b_MD_alibiWorth 22 0 23 := Or.inl ⟨0, by decide +kernel, rfl, rfl⟩
theorem d_MD_alibiWorth_23 : DR b_MD_alibiWorth 23 (.invokevirtual 299) 3 26 := ⟨by decide +kernel, rfl⟩
theorem d_MD_alibiWorth_26 : PSi b_MD_alibiWorth 26 3 27 := Or.inl ⟨3, by decide +kernel, rfl, rfl⟩
theorem d_MD_alibiWorth_27 : PLa b_MD_alibiWorth 27 0 28 := Or.inl ⟨0, by decide +kernel, rfl, rfl⟩
theorem d_MD_alibiWorth_28 : PLi b_MD_alibiWorth 28 1 29 := Or.inl ⟨1, by decide +kernel, rfl, rfl⟩
theorem d_MD_alibiWorth_29 : PLi b_MD_alibiWorth 29 2 30 := Or.inl ⟨2, by decide +kernel, rfl, rfl⟩
theorem d_MD_alibiWorth_30 : DR b_MD_alibiWorth 30 (.invokevirtual 308) 3 33 := ⟨by decide +kernel, rfl⟩
theorem d_MD_alibiWorth_33 : PLi b_MD_alibiWorth 33 3 34 := Or.inl ⟨3, by decide +kernel, rfl, rfl⟩
theorem d_MD_alibiWorth_34 : DR b_MD_alibiWorth 34 (.isub) 1 35 := ⟨by decide +kernel, rfl⟩
theorem d_MD_alibiWorth_35 : DR b_MD_alibiWorth 35 (.ireturn) 1 36 := ⟨by decide +kernel, rfl⟩
set_option maxRecDepth 20000 in
theorem B_MD_alibiWorth_16 {G : MCx} (hC : C0 G "AccusedChooseModel" b_MD_alibiWorth 4 8) (s : St) : VO G (RI G b_MD_alibiWorth) (F_MD_alibiWorth_16 s) 16 [(0, .ref (gad G 58))] [] s := by
  unfold F_MD_alibiWorth_16
  refine VO_aload hC d_MD_alibiWorth_16 0 rfl ?_
  refine VO_const hC d_MD_alibiWorth_17 ?_
  refine VO_callVI hC [.int (-1 : Int32)] [] ml_MD_265 d_MD_alibiWorth_18 yv_MD_lower sh_MD rfl rfl (fun o h => M_MD_lower hC.inj h) (by decide) rfl rfl (Nat.le_of_ble_eq_true rfl) (fun o2 => ?_)
  exact VO_ireturn d_MD_alibiWorth_21
set_option maxRecDepth 20000 in
theorem B_MD_alibiWorth {G : MCx} (hC : C0 G "AccusedChooseModel" b_MD_alibiWorth 4 8) (a1 : Int32) (a2 : Int32) (s : St) : VO G (RI G b_MD_alibiWorth) (F_MD_alibiWorth a1 a2 s) 0 [(0, .ref (gad G 58)), (1, .int a1), (2, .int a2)] [] s := by
  unfold F_MD_alibiWorth
  refine VO_aload hC d_MD_alibiWorth_0 0 rfl ?_
  refine VO_iload hC d_MD_alibiWorth_1 1 rfl ?_
  refine VO_callVI hC [.int a1] [] ml_MD_93 d_MD_alibiWorth_2 yv_MD_isPerson sh_MD rfl rfl (fun o h => M_MD_isPerson hC.inj h) (by decide) rfl rfl (Nat.le_of_ble_eq_true rfl) (fun o1 => ?_)
  refine VO_if_eq hC d_MD_alibiWorth_5 (fun _ => ?_) (fun _ => ?_)
  · exact VO_sub [0] rfl (B_MD_alibiWorth_16 hC o1.2)
  · refine VO_aload hC d_MD_alibiWorth_8 0 rfl ?_
    refine VO_iload hC d_MD_alibiWorth_9 2 rfl ?_
    refine VO_callVI hC [.int a2] [] ml_MD_140 d_MD_alibiWorth_10 yv_MD_isDeed sh_MD rfl rfl (fun o h => M_MD_isDeed hC.inj h) (by decide) rfl rfl (Nat.le_of_ble_eq_true rfl) (fun o3 => ?_)
    refine VO_if_ne hC d_MD_alibiWorth_13 (fun _ => ?_) (fun _ => ?_)
    · exact VO_sub [0] rfl (B_MD_alibiWorth_16 hC o3.2)
    · refine VO_aload hC d_MD_alibiWorth_22 0 rfl ?_
      refine VO_callVI hC [] [] ml_MD_299 d_MD_alibiWorth_23 yv_MD_monthsNow sh_MD rfl rfl (fun o h => M_MD_monthsNow hC.inj h) (by decide) rfl rfl (Nat.le_of_ble_eq_true rfl) (fun o4 => ?_)
      refine VO_istore hC d_MD_alibiWorth_26 [(0, .ref (gad G 58)), (1, .int a1), (2, .int a2)] rfl (by decide) ?_
      refine VO_aload hC d_MD_alibiWorth_27 1 rfl ?_
      refine VO_iload hC d_MD_alibiWorth_28 2 rfl ?_
      refine VO_iload hC d_MD_alibiWorth_29 3 rfl ?_
      refine VO_callVI hC [.int a1, .int a2] [] ml_MD_308 d_MD_alibiWorth_30 yv_MD_monthsTurned sh_MD rfl rfl (fun o h => M_MD_monthsTurned hC.inj h) (by decide) rfl rfl (Nat.le_of_ble_eq_true rfl) (fun o5 => ?_)
      refine VO_iload hC d_MD_alibiWorth_33 0 rfl ?_
      refine VO_isub hC d_MD_alibiWorth_34 ?_
      exact VO_ireturn d_MD_alibiWorth_35
set_option maxRecDepth 20000 in
theorem M_MD_alibiWorth {l : Launch} {D : va_G} {ad : Nat → Nat} {cI cL : ClassId} (hj : Inj ad) {a1 : Int32} {a2 : Int32} {s : St} {o : Int32 × St} (h : F_MD_alibiWorth a1 a2 s = some o) : Cn l D ad cI cL y_MD_alibiWorth b_MD_alibiWorth 4 (some .int) 8 [.ref (ad 58), .int a1, .int a2] s (some (.int o.1)) o.2 := by
  refine Cn_ofI hj (plainFor_of_name (by decide)) (Nat.le_of_ble_eq_true rfl) [(0, .ref (ad 58)), (1, .int a1), (2, .int a2)] rfl (fun G hC e1 e2 e3 e4 e5 hR => ?_)
  subst e1; subst e2; subst e3; subst e4; subst e5
  exact B_MD_alibiWorth hC a1 a2 s o h hR
theorem d_MD_givenAway_0 : PLa b_MD_givenAway 0 0 1 := Or.inl ⟨0, by decide +kernel, rfl, rfl⟩
theorem d_MD_givenAway_1 : DR b_MD_givenAway 1 (.invokevirtual 299) 3 4 := ⟨by decide +kernel, rfl⟩
theorem d_MD_givenAway_4 : PSi b_MD_givenAway 4 1 5 := Or.inl ⟨1, by decide +kernel, rfl, rfl⟩
theorem d_MD_givenAway_5 : PCi b_MD_givenAway 5 (-9) 7 := Or.inr (Or.inl ⟨(-9), by decide +kernel, by decide, rfl⟩)
theorem d_MD_givenAway_7 : PSi b_MD_givenAway 7 2 8 := Or.inl ⟨2, by decide +kernel, rfl, rfl⟩
theorem d_MD_givenAway_8 : PCi b_MD_givenAway 8 0 9 := Or.inl ⟨0, by decide +kernel, by decide, rfl⟩
theorem d_MD_givenAway_9 : PSi b_MD_givenAway 9 3 10 := Or.inl ⟨3, by decide +kernel, rfl, rfl⟩
theorem d_MD_givenAway_10 : PLi b_MD_givenAway 10 3 11 := Or.inl ⟨3, by decide +kernel, rfl, rfl⟩
theorem d_MD_givenAway_11 : PLa b_MD_givenAway 11 0 12 := Or.inl ⟨0, by decide +kernel, rfl, rfl⟩
theorem d_MD_givenAway_12 : DR b_MD_givenAway 12 (.getfield 90) 3 15 := ⟨by decide +kernel, rfl⟩
theorem d_MD_givenAway_15 : DJ b_MD_givenAway 15 (.if_icmp .ge) 18 89 := ⟨74, by decide +kernel, rfl, by decide⟩
theorem d_MD_givenAway_18 : PCi b_MD_givenAway 18 0 19 := Or.inl ⟨0, by decide +kernel, by decide, rfl⟩
theorem d_MD_givenAway_19 : PSi b_MD_givenAway 19 4 21 := Or.inr ⟨by decide +kernel, rfl⟩
theorem d_MD_givenAway_21 : PLi b_MD_givenAway 21 4 23 := Or.inr ⟨by decide +kernel, rfl⟩
theorem d_MD_givenAway_23 : PLa b_MD_givenAway 23 0 24 := Or.inl ⟨0, by decide +kernel, rfl, rfl⟩
theorem d_MD_givenAway_24 : DR b_MD_givenAway 24 (.getfield 84) 3 27 := ⟨by decide +kernel, rfl⟩
theorem d_MD_givenAway_27 : DJ b_MD_givenAway 27 (.if_icmp .ge) 30 83 := ⟨56, by decide +kernel, rfl, by decide⟩
theorem d_MD_givenAway_30 : PLa b_MD_givenAway 30 0 31 := Or.inl ⟨0, by decide +kernel, rfl, rfl⟩
theorem d_MD_givenAway_31 : DR b_MD_givenAway 31 (.getfield 31) 3 34 := ⟨by decide +kernel, rfl⟩
theorem d_MD_givenAway_34 : PLi b_MD_givenAway 34 3 35 := Or.inl ⟨3, by decide +kernel, rfl, rfl⟩
theorem d_MD_givenAway_35 : DR b_MD_givenAway 35 (.iaload) 1 36 := ⟨by decide +kernel, rfl⟩
theorem d_MD_givenAway_36 : PLi b_MD_givenAway 36 4 38 := Or.inr ⟨by decide +kernel, rfl⟩
theorem d_MD_givenAway_38 : DR b_MD_givenAway 38 (.invokestatic 184) 3 41 := ⟨by decide +kernel, rfl⟩
theorem d_MD_givenAway_41 : DJ b_MD_givenAway 41 (.ifCond .eq) 44 54 := ⟨13, by decide +kernel, rfl, by decide⟩
theorem d_MD_givenAway_44 : PLa b_MD_givenAway 44 0 45 := Or.inl ⟨0, by decide +kernel, rfl, rfl⟩
theorem d_MD_givenAway_45 : PLi b_MD_givenAway 45 3 46 := Or.inl ⟨3, by decide +kernel, rfl, rfl⟩
theorem d_MD_givenAway_46 : PLi b_MD_givenAway 46 4 48 := Or.inr ⟨by decide +kernel, rfl⟩
theorem d_MD_givenAway_48 : DR b_MD_givenAway 48 (.invokevirtual 308) 3 51 := ⟨by decide +kernel, rfl⟩
theorem d_MD_givenAway_51 : DJ b_MD_givenAway 51 .goto 54 55 := ⟨4, by decide +kernel, rfl, by decide⟩
theorem d_MD_givenAway_54 : PLi b_MD_givenAway 54 1 55 := Or.inl ⟨1, by decide +kernel, rfl, rfl⟩
theorem d_MD_givenAway_55 : PSi b_MD_givenAway 55 5 57 := Or.inr ⟨by decide +kernel, rfl⟩
theorem d_MD_givenAway_57 : PLi b_MD_givenAway 57 5 59 := Or.inr ⟨by decide +kernel, rfl⟩
theorem d_MD_givenAway_59 : PLi b_MD_givenAway 59 1 60 := Or.inl ⟨1, by decide +kernel, rfl, rfl⟩
theorem d_MD_givenAway_60 : DJ b_MD_givenAway 60 (.if_icmp .lt) 63 66 := ⟨6, by decide +kernel, rfl, by decide⟩
theorem d_MD_givenAway_63 : DJ b_MD_givenAway 63 .goto 66 77 := ⟨14, by decide +kernel, rfl, by decide⟩
theorem d_MD_givenAway_66 : PLi b_MD_givenAway 66 5 68 := Or.inr ⟨by decide +kernel, rfl⟩
theorem d_MD_givenAway_68 : PSi b_MD_givenAway 68 1 69 := Or.inl ⟨1, by decide +kernel, rfl, rfl⟩
theorem d_MD_givenAway_69 : PCi b_MD_givenAway 69 10 71 := Or.inr (Or.inl ⟨10, by decide +kernel, by decide, rfl⟩)
theorem d_MD_givenAway_71 : PLi b_MD_givenAway 71 3 72 := Or.inl ⟨3, by decide +kernel, rfl, rfl⟩
theorem d_MD_givenAway_72 : DR b_MD_givenAway 72 (.imul) 1 73 := ⟨by decide +kernel, rfl⟩
theorem d_MD_givenAway_73 : PLi b_MD_givenAway 73 4 75 := Or.inr ⟨by decide +kernel, rfl⟩
theorem d_MD_givenAway_75 : DR b_MD_givenAway 75 (.iadd) 1 76 := ⟨by decide +kernel, rfl⟩
theorem d_MD_givenAway_76 : PSi b_MD_givenAway 76 2 77 := Or.inl ⟨2, by decide +kernel, rfl, rfl⟩
theorem d_MD_givenAway_77 : DR b_MD_givenAway 77 (.iinc 4 1) 3 80 := ⟨by decide +kernel, rfl⟩
theorem d_MD_givenAway_80 : DJ b_MD_givenAway 80 .goto 83 21 := ⟨-59, by decide +kernel, rfl, by decide⟩
theorem d_MD_givenAway_83 : DR b_MD_givenAway 83 (.iinc 3 1) 3 86 := ⟨by decide +kernel, rfl⟩
theorem d_MD_givenAway_86 : DJ b_MD_givenAway 86 .goto 89 10 := ⟨-76, by decide +kernel, rfl, by decide⟩
theorem d_MD_givenAway_89 : PLi b_MD_givenAway 89 2 90 := Or.inl ⟨2, by decide +kernel, rfl, rfl⟩
theorem d_MD_givenAway_90 : DR b_MD_givenAway 90 (.ireturn) 1 91 := ⟨by decide +kernel, rfl⟩
set_option maxRecDepth 20000 in
theorem B_MD_givenAway_77 {G : MCx} (hC : C0 G "AccusedChooseModel" b_MD_givenAway 6 8) {v3 : Int32} (K10 : Int32 × Int32 × Int32 × St → Option (Int32 × St)) (hK10 : ∀ (w1 : Int32) (w2 : Int32) (w3 : Int32) (s : St), VO G (RI G b_MD_givenAway) (K10 (w1, w2, w3, s)) 10 [(0, .ref (gad G 58)), (1, .int w1), (2, .int w2), (3, .int w3)] [] s) (K21 : Int32 × Int32 × Int32 × St → Option (Int32 × St)) (hK21 : ∀ (w1 : Int32) (w2 : Int32) (w4 : Int32) (s : St), VO G (RI G b_MD_givenAway) (K21 (w1, w2, w4, s)) 21 [(0, .ref (gad G 58)), (1, .int w1), (2, .int w2), (3, .int v3), (4, .int w4)] [] s) (v1 : Int32) (v2 : Int32) (v4 : Int32) (s : St) : VO G (RI G b_MD_givenAway) (F_MD_givenAway_77 K10 K21 v1 v2 v3 v4 s) 77 [(0, .ref (gad G 58)), (1, .int v1), (2, .int v2), (3, .int v3), (4, .int v4)] [] s := by
  unfold F_MD_givenAway_77
  refine VO_iinc hC d_MD_givenAway_77 4 rfl (by decide : Int32.ofInt 1 = 1) [(0, .ref (gad G 58)), (1, .int v1), (2, .int v2), (3, .int v3)] rfl (by decide) ?_
  refine VO_goto hC d_MD_givenAway_80 ?_
  exact VO_sub [1, 2, 3, 4, 0] rfl (hK21 v1 v2 (v4 + 1) s)
set_option maxRecDepth 20000 in
theorem B_MD_givenAway_55 {G : MCx} (hC : C0 G "AccusedChooseModel" b_MD_givenAway 6 8) {v3 : Int32} (K10 : Int32 × Int32 × Int32 × St → Option (Int32 × St)) (hK10 : ∀ (w1 : Int32) (w2 : Int32) (w3 : Int32) (s : St), VO G (RI G b_MD_givenAway) (K10 (w1, w2, w3, s)) 10 [(0, .ref (gad G 58)), (1, .int w1), (2, .int w2), (3, .int w3)] [] s) (K21 : Int32 × Int32 × Int32 × St → Option (Int32 × St)) (hK21 : ∀ (w1 : Int32) (w2 : Int32) (w4 : Int32) (s : St), VO G (RI G b_MD_givenAway) (K21 (w1, w2, w4, s)) 21 [(0, .ref (gad G 58)), (1, .int w1), (2, .int w2), (3, .int v3), (4, .int w4)] [] s) (v1 : Int32) (v2 : Int32) (v4 : Int32) (z0 : Int32) (s : St) : VO G (RI G b_MD_givenAway) (F_MD_givenAway_55 K10 K21 v1 v2 v3 v4 z0 s) 55 [(0, .ref (gad G 58)), (1, .int v1), (2, .int v2), (3, .int v3), (4, .int v4)] [.int z0] s := by
  unfold F_MD_givenAway_55
  refine VO_istore hC d_MD_givenAway_55 [(0, .ref (gad G 58)), (1, .int v1), (2, .int v2), (3, .int v3), (4, .int v4)] rfl (by decide) ?_
  refine VO_iload hC d_MD_givenAway_57 0 rfl ?_
  refine VO_iload hC d_MD_givenAway_59 2 rfl ?_
  refine VO_icmp_lt hC d_MD_givenAway_60 (fun _ => ?_) (fun _ => ?_)
  · refine VO_iload hC d_MD_givenAway_66 0 rfl ?_
    refine VO_istore hC d_MD_givenAway_68 [(5, .int z0), (0, .ref (gad G 58)), (2, .int v2), (3, .int v3), (4, .int v4)] rfl (by decide) ?_
    refine VO_const hC d_MD_givenAway_69 ?_
    refine VO_iload hC d_MD_givenAway_71 4 rfl ?_
    refine VO_imul hC d_MD_givenAway_72 ?_
    refine VO_iload hC d_MD_givenAway_73 5 rfl ?_
    refine VO_iadd hC d_MD_givenAway_75 ?_
    refine VO_istoreB hC d_MD_givenAway_76 [(1, .int z0), (5, .int z0), (0, .ref (gad G 58)), (3, .int v3), (4, .int v4)] rfl (by decide) (fun x4 => ?_)
    exact VO_sub [3, 1, 0, 4, 5] rfl (B_MD_givenAway_77 hC K10 hK10 K21 hK21 z0 x4 v4 s)
  · refine VO_goto hC d_MD_givenAway_63 ?_
    exact VO_sub [1, 2, 3, 4, 5] rfl (B_MD_givenAway_77 hC K10 hK10 K21 hK21 v1 v2 v4 s)
set_option maxRecDepth 20000 in
theorem BH_MD_givenAway_21 {G : MCx} (hC : C0 G "AccusedChooseModel" b_MD_givenAway 6 8) {v3 : Int32} (K10 : Int32 × Int32 × Int32 × St → Option (Int32 × St)) (hK10 : ∀ (w1 : Int32) (w2 : Int32) (w3 : Int32) (s : St), VO G (RI G b_MD_givenAway) (K10 (w1, w2, w3, s)) 10 [(0, .ref (gad G 58)), (1, .int w1), (2, .int w2), (3, .int w3)] [] s) (K21 : Int32 × Int32 × Int32 × St → Option (Int32 × St)) (hK21 : ∀ (w1 : Int32) (w2 : Int32) (w4 : Int32) (s : St), VO G (RI G b_MD_givenAway) (K21 (w1, w2, w4, s)) 21 [(0, .ref (gad G 58)), (1, .int w1), (2, .int w2), (3, .int v3), (4, .int w4)] [] s) (v1 : Int32) (v2 : Int32) (v4 : Int32) (s : St) : VO G (RI G b_MD_givenAway) (H_MD_givenAway_21 K10 v3 K21 v1 v2 v4 s) 21 [(0, .ref (gad G 58)), (1, .int v1), (2, .int v2), (3, .int v3), (4, .int v4)] [] s := by
  unfold H_MD_givenAway_21
  refine VO_iload hC d_MD_givenAway_21 4 rfl ?_
  refine VO_aload hC d_MD_givenAway_23 0 rfl ?_
  refine VO_geti hC fl_MD_84 sh_MD rfl d_MD_givenAway_24 ?_
  refine VO_icmp_ge hC d_MD_givenAway_27 (fun _ => ?_) (fun _ => ?_)
  · refine VO_iinc hC d_MD_givenAway_83 3 rfl (by decide : Int32.ofInt 1 = 1) [(0, .ref (gad G 58)), (1, .int v1), (2, .int v2), (4, .int v4)] rfl (by decide) ?_
    refine VO_goto hC d_MD_givenAway_86 ?_
    exact VO_sub [1, 2, 3, 0] rfl (hK10 v1 v2 (v3 + 1) s)
  · refine VO_aload hC d_MD_givenAway_30 0 rfl ?_
    refine VO_getr (r := 66) hC fl_MD_31 sh_MD rfl d_MD_givenAway_31 ?_
    refine VO_iload hC d_MD_givenAway_34 3 rfl ?_
    refine VO_iaload hC ia_66 d_MD_givenAway_35 (fun x2 => ?_)
    refine VO_iload hC d_MD_givenAway_36 4 rfl ?_
    refine VO_callSI hC [.int x2, .int v4] [] ml_MD_184 d_MD_givenAway_38 ys_MD_has (fun o h => M_MD_has hC.inj h) (by decide) rfl rfl (Nat.le_of_ble_eq_true rfl) (fun o3 => ?_)
    refine VO_if_eq hC d_MD_givenAway_41 (fun _ => ?_) (fun _ => ?_)
    · refine VO_iload hC d_MD_givenAway_54 1 rfl ?_
      exact (B_MD_givenAway_55 hC K10 hK10 K21 hK21 v1 v2 v4 v1 o3.2)
    · refine VO_aload hC d_MD_givenAway_44 0 rfl ?_
      refine VO_iload hC d_MD_givenAway_45 3 rfl ?_
      refine VO_iload hC d_MD_givenAway_46 4 rfl ?_
      refine VO_callVI hC [.int v3, .int v4] [] ml_MD_308 d_MD_givenAway_48 yv_MD_monthsTurned sh_MD rfl rfl (fun o h => M_MD_monthsTurned hC.inj h) (by decide) rfl rfl (Nat.le_of_ble_eq_true rfl) (fun o5 => ?_)
      refine VO_goto hC d_MD_givenAway_51 ?_
      exact (B_MD_givenAway_55 hC K10 hK10 K21 hK21 v1 v2 v4 o5.1 o5.2)
set_option maxRecDepth 20000 in
theorem B_MD_givenAway_21 {G : MCx} (hC : C0 G "AccusedChooseModel" b_MD_givenAway 6 8) (K10 : Int32 × Int32 × Int32 × St → Option (Int32 × St)) (hK10 : ∀ (w1 : Int32) (w2 : Int32) (w3 : Int32) (s : St), VO G (RI G b_MD_givenAway) (K10 (w1, w2, w3, s)) 10 [(0, .ref (gad G 58)), (1, .int w1), (2, .int w2), (3, .int w3)] [] s) (v1 : Int32) (v2 : Int32) (v3 : Int32) (v4 : Int32) (s : St) : VO G (RI G b_MD_givenAway) (F_MD_givenAway_21 K10 v1 v2 v3 v4 s) 21 [(0, .ref (gad G 58)), (1, .int v1), (2, .int v2), (3, .int v3), (4, .int v4)] [] s := by
  exact VO_fix (G_MD_givenAway_21 K10 v3) 21 (fun q => [(0, .ref (gad G 58)), (1, .int q.1), (2, .int q.2.1), (3, .int v3), (4, .int q.2.2.1)]) (fun q => q.2.2.2) (fun K hK q => BH_MD_givenAway_21 hC K10 hK10 K (fun w1 w2 w4 s => hK (w1, w2, w4, s)) q.1 q.2.1 q.2.2.1 q.2.2.2) FUEL (v1, v2, v4, s)
set_option maxRecDepth 20000 in
theorem BH_MD_givenAway_10 {G : MCx} (hC : C0 G "AccusedChooseModel" b_MD_givenAway 6 8) (K10 : Int32 × Int32 × Int32 × St → Option (Int32 × St)) (hK10 : ∀ (w1 : Int32) (w2 : Int32) (w3 : Int32) (s : St), VO G (RI G b_MD_givenAway) (K10 (w1, w2, w3, s)) 10 [(0, .ref (gad G 58)), (1, .int w1), (2, .int w2), (3, .int w3)] [] s) (v1 : Int32) (v2 : Int32) (v3 : Int32) (s : St) : VO G (RI G b_MD_givenAway) (H_MD_givenAway_10 K10 v1 v2 v3 s) 10 [(0, .ref (gad G 58)), (1, .int v1), (2, .int v2), (3, .int v3)] [] s := by
  unfold H_MD_givenAway_10
  refine VO_iload hC d_MD_givenAway_10 3 rfl ?_
  refine VO_aload hC d_MD_givenAway_11 0 rfl ?_
  refine VO_geti hC fl_MD_90 sh_MD rfl d_MD_givenAway_12 ?_
  refine VO_icmp_ge hC d_MD_givenAway_15 (fun _ => ?_) (fun _ => ?_)
  · refine VO_iload hC d_MD_givenAway_89 2 rfl ?_
    exact VO_ireturn d_MD_givenAway_90
  · refine VO_const hC d_MD_givenAway_18 ?_
    refine VO_istore hC d_MD_givenAway_19 [(0, .ref (gad G 58)), (1, .int v1), (2, .int v2), (3, .int v3)] rfl (by decide) ?_
    exact VO_sub [1, 2, 3, 4, 0] rfl (B_MD_givenAway_21 hC K10 hK10 v1 v2 v3 (0 : Int32) s)
set_option maxRecDepth 20000 in
theorem B_MD_givenAway_10 {G : MCx} (hC : C0 G "AccusedChooseModel" b_MD_givenAway 6 8) (v1 : Int32) (v2 : Int32) (v3 : Int32) (s : St) : VO G (RI G b_MD_givenAway) (F_MD_givenAway_10 v1 v2 v3 s) 10 [(0, .ref (gad G 58)), (1, .int v1), (2, .int v2), (3, .int v3)] [] s := by
  exact VO_fix (G_MD_givenAway_10) 10 (fun q => [(0, .ref (gad G 58)), (1, .int q.1), (2, .int q.2.1), (3, .int q.2.2.1)]) (fun q => q.2.2.2) (fun K hK q => BH_MD_givenAway_10 hC K (fun w1 w2 w3 s => hK (w1, w2, w3, s)) q.1 q.2.1 q.2.2.1 q.2.2.2) FUEL (v1, v2, v3, s)
set_option maxRecDepth 20000 in
theorem B_MD_givenAway {G : MCx} (hC : C0 G "AccusedChooseModel" b_MD_givenAway 6 8) (s : St) : VO G (RI G b_MD_givenAway) (F_MD_givenAway s) 0 [(0, .ref (gad G 58))] [] s := by
  unfold F_MD_givenAway
  refine VO_aload hC d_MD_givenAway_0 0 rfl ?_
  refine VO_callVI hC [] [] ml_MD_299 d_MD_givenAway_1 yv_MD_monthsNow sh_MD rfl rfl (fun o h => M_MD_monthsNow hC.inj h) (by decide) rfl rfl (Nat.le_of_ble_eq_true rfl) (fun o1 => ?_)
  refine VO_istore hC d_MD_givenAway_4 [(0, .ref (gad G 58))] rfl (by decide) ?_
  refine VO_const hC d_MD_givenAway_5 ?_
  refine VO_istore hC d_MD_givenAway_7 [(1, .int o1.1), (0, .ref (gad G 58))] rfl (by decide) ?_
  refine VO_const hC d_MD_givenAway_8 ?_
  refine VO_istore hC d_MD_givenAway_9 [(2, .int (-9 : Int32)), (1, .int o1.1), (0, .ref (gad G 58))] rfl (by decide) ?_
  exact VO_sub [3, 2, 1, 0] rfl (B_MD_givenAway_10 hC o1.1 (-9 : Int32) (0 : Int32) o1.2)
set_option maxRecDepth 20000 in
theorem M_MD_givenAway {l : Launch} {D : va_G} {ad : Nat → Nat} {cI cL : ClassId} (hj : Inj ad) {s : St} {o : Int32 × St} (h : F_MD_givenAway s = some o) : Cn l D ad cI cL y_MD_givenAway b_MD_givenAway 6 (some .int) 8 [.ref (ad 58)] s (some (.int o.1)) o.2 := by
  refine Cn_ofI hj (plainFor_of_name (by decide)) (Nat.le_of_ble_eq_true rfl) [(0, .ref (ad 58))] rfl (fun G hC e1 e2 e3 e4 e5 hR => ?_)
  subst e1; subst e2; subst e3; subst e4; subst e5
  exact B_MD_givenAway hC s o h hR
theorem d_MD_divisor_0 : PLl b_MD_divisor 0 0 1 := Or.inl ⟨0, by decide +kernel, rfl, rfl⟩
theorem d_MD_divisor_1 : PSl b_MD_divisor 1 4 3 := Or.inr ⟨by decide +kernel, rfl⟩
theorem d_MD_divisor_3 : PLl b_MD_divisor 3 2 4 := Or.inl ⟨2, by decide +kernel, rfl, rfl⟩
theorem d_MD_divisor_4 : PSl b_MD_divisor 4 6 6 := Or.inr ⟨by decide +kernel, rfl⟩
theorem d_MD_divisor_6 : PLl b_MD_divisor 6 6 8 := Or.inr ⟨by decide +kernel, rfl⟩
theorem d_MD_divisor_8 : DR b_MD_divisor 8 (.lconst 0) 1 9 := ⟨by decide +kernel, rfl⟩
theorem d_MD_divisor_9 : DR b_MD_divisor 9 (.lcmp) 1 10 := ⟨by decide +kernel, rfl⟩
theorem d_MD_divisor_10 : DJ b_MD_divisor 10 (.ifCond .eq) 13 31 := ⟨21, by decide +kernel, rfl, by decide⟩
theorem d_MD_divisor_13 : PLl b_MD_divisor 13 4 15 := Or.inr ⟨by decide +kernel, rfl⟩
theorem d_MD_divisor_15 : PLl b_MD_divisor 15 6 17 := Or.inr ⟨by decide +kernel, rfl⟩
theorem d_MD_divisor_17 : DR b_MD_divisor 17 (.lrem) 1 18 := ⟨by decide +kernel, rfl⟩
theorem d_MD_divisor_18 : PSl b_MD_divisor 18 8 20 := Or.inr ⟨by decide +kernel, rfl⟩
theorem d_MD_divisor_20 : PLl b_MD_divisor 20 6 22 := Or.inr ⟨by decide +kernel, rfl⟩
theorem d_MD_divisor_22 : PSl b_MD_divisor 22 4 24 := Or.inr ⟨by decide +kernel, rfl⟩
theorem d_MD_divisor_24 : PLl b_MD_divisor 24 8 26 := Or.inr ⟨by decide +kernel, rfl⟩
theorem d_MD_divisor_26 : PSl b_MD_divisor 26 6 28 := Or.inr ⟨by decide +kernel, rfl⟩
theorem d_MD_divisor_28 : DJ b_MD_divisor 28 .goto 31 6 := ⟨-22, by decide +kernel, rfl, by decide⟩
theorem d_MD_divisor_31 : PLl b_MD_divisor 31 4 33 := Or.inr ⟨by decide +kernel, rfl⟩
theorem d_MD_divisor_33 : DR b_MD_divisor 33 (.lreturn) 1 34 := ⟨by decide +kernel, rfl⟩
set_option maxRecDepth 20000 in
theorem BH_MD_divisor_6 {G : MCx} (hC : C0 G "AccusedChooseModel" b_MD_divisor 10 1) (K6 : Int64 × Int64 × St → Option (Int64 × St)) (hK6 : ∀ (w4 : Int64) (w6 : Int64) (s : St), VO G (RLo G b_MD_divisor) (K6 (w4, w6, s)) 6 [(4, .long w4), (6, .long w6)] [] s) (v4 : Int64) (v6 : Int64) (s : St) : VO G (RLo G b_MD_divisor) (H_MD_divisor_6 K6 v4 v6 s) 6 [(4, .long v4), (6, .long v6)] [] s := by
  unfold H_MD_divisor_6
  refine VO_lload hC d_MD_divisor_6 1 rfl ?_
  refine VO_lconst hC d_MD_divisor_8 rfl ?_
  refine VO_lcmp hC d_MD_divisor_9 ?_
  refine VO_if_eq hC d_MD_divisor_10 (fun _ => ?_) (fun _ => ?_)
  · refine VO_lload hC d_MD_divisor_31 0 rfl ?_
    exact VO_lreturn d_MD_divisor_33
  · refine VO_lload hC d_MD_divisor_13 0 rfl ?_
    refine VO_lload hC d_MD_divisor_15 1 rfl ?_
    refine VO_lrem hC d_MD_divisor_17 ?_
    refine VO_lstoreB hC d_MD_divisor_18 [(4, .long v4), (6, .long v6)] rfl (by decide) (fun x1 => ?_)
    refine VO_lload hC d_MD_divisor_20 2 rfl ?_
    refine VO_lstore hC d_MD_divisor_22 [(8, .long x1), (6, .long v6)] rfl (by decide) ?_
    refine VO_lload hC d_MD_divisor_24 1 rfl ?_
    refine VO_lstore hC d_MD_divisor_26 [(4, .long v6), (8, .long x1)] rfl (by decide) ?_
    refine VO_goto hC d_MD_divisor_28 ?_
    exact VO_sub [1, 0] rfl (hK6 v6 x1 s)
set_option maxRecDepth 20000 in
theorem B_MD_divisor_6 {G : MCx} (hC : C0 G "AccusedChooseModel" b_MD_divisor 10 1) (v4 : Int64) (v6 : Int64) (s : St) : VO G (RLo G b_MD_divisor) (F_MD_divisor_6 v4 v6 s) 6 [(4, .long v4), (6, .long v6)] [] s := by
  exact VO_fix (G_MD_divisor_6) 6 (fun q => [(4, .long q.1), (6, .long q.2.1)]) (fun q => q.2.2) (fun K hK q => BH_MD_divisor_6 hC K (fun w4 w6 s => hK (w4, w6, s)) q.1 q.2.1 q.2.2) FUEL (v4, v6, s)
set_option maxRecDepth 20000 in
theorem B_MD_divisor {G : MCx} (hC : C0 G "AccusedChooseModel" b_MD_divisor 10 1) (a0 : Int64) (a2 : Int64) (s : St) : VO G (RLo G b_MD_divisor) (F_MD_divisor a0 a2 s) 0 [(0, .long a0), (2, .long a2)] [] s := by
  unfold F_MD_divisor
  refine VO_lload hC d_MD_divisor_0 0 rfl ?_
  refine VO_lstore hC d_MD_divisor_1 [(0, .long a0), (2, .long a2)] rfl (by decide) ?_
  refine VO_lload hC d_MD_divisor_3 2 rfl ?_
  refine VO_lstore hC d_MD_divisor_4 [(4, .long a0), (0, .long a0), (2, .long a2)] rfl (by decide) ?_
  exact VO_sub [1, 0] rfl (B_MD_divisor_6 hC a0 a2 s)
set_option maxRecDepth 20000 in
theorem M_MD_divisor {l : Launch} {D : va_G} {ad : Nat → Nat} {cI cL : ClassId} (hj : Inj ad) {a0 : Int64} {a2 : Int64} {s : St} {o : Int64 × St} (h : F_MD_divisor a0 a2 s = some o) : Cn l D ad cI cL y_MD_divisor b_MD_divisor 10 (some .long) 1 [.long a0, .long a2] s (some (.long o.1)) o.2 := by
  refine Cn_ofL hj (plainFor_of_name (by decide)) (Nat.le_of_ble_eq_true rfl) [(0, .long a0), (2, .long a2)] rfl (fun G hC e1 e2 e3 e4 e5 hR => ?_)
  subst e1; subst e2; subst e3; subst e4; subst e5
  exact B_MD_divisor hC a0 a2 s o h hR
theorem d_MD_caught_0 : PLi b_MD_caught 0 1 1 := Or.inl ⟨1, by decide +kernel, rfl, rfl⟩
theorem d_MD_caught_1 : PCi b_MD_caught 1 2 2 := Or.inl ⟨2, by decide +kernel, by decide, rfl⟩
theorem d_MD_caught_2 : DJ b_MD_caught 2 (.if_icmp .lt) 5 9 := ⟨7, by decide +kernel, rfl, by decide⟩
theorem d_MD_caught_5 : PLi b_MD_caught 5 2 6 := Or.inl ⟨2, by decide +kernel, rfl, rfl⟩
theorem d_MD_caught_6 : DJ b_MD_caught 6 (.ifCond .ge) 9 14 := ⟨8, by decide +kernel, rfl, by decide⟩
theorem d_MD_caught_9 : PCi b_MD_caught 9 (-4) 11 := Or.inr (Or.inl ⟨(-4), by decide +kernel, by decide, rfl⟩)
theorem d_MD_caught_11 : DJ b_MD_caught 11 .goto 14 46 := ⟨35, by decide +kernel, rfl, by decide⟩
theorem d_MD_caught_14 : PLi b_MD_caught 14 1 15 := Or.inl ⟨1, by decide +kernel, rfl, rfl⟩
theorem d_MD_caught_15 : PCi b_MD_caught 15 20 17 := Or.inr (Or.inl ⟨20, by decide +kernel, by decide, rfl⟩)
theorem d_MD_caught_17 : DJ b_MD_caught 17 (.if_icmp .gt) 20 26 := ⟨9, by decide +kernel, rfl, by decide⟩
theorem d_MD_caught_20 : PLi b_MD_caught 20 2 21 := Or.inl ⟨2, by decide +kernel, rfl, rfl⟩
theorem d_MD_caught_21 : PCi b_MD_caught 21 7 23 := Or.inr (Or.inl ⟨7, by decide +kernel, by decide, rfl⟩)
theorem d_MD_caught_23 : DJ b_MD_caught 23 (.if_icmp .le) 26 31 := ⟨8, by decide +kernel, rfl, by decide⟩
theorem d_MD_caught_26 : PCi b_MD_caught 26 (-6) 28 := Or.inr (Or.inl ⟨(-6), by decide +kernel, by decide, rfl⟩)
theorem d_MD_caught_28 : DJ b_MD_caught 28 .goto 31 46 := ⟨18, by decide +kernel, rfl, by decide⟩
theorem d_MD_caught_31 : PLi b_MD_caught 31 3 32 := Or.inl ⟨3, by decide +kernel, rfl, rfl⟩
theorem d_MD_caught_32 : PCi b_MD_caught 32 0 33 := Or.inl ⟨0, by decide +kernel, by decide, rfl⟩
theorem d_MD_caught_33 : PCi b_MD_caught 33 1 34 := Or.inl ⟨1, by decide +kernel, by decide, rfl⟩
theorem d_MD_caught_34 : DR b_MD_caught 34 (.invokestatic 115) 3 37 := ⟨by decide +kernel, rfl⟩
theorem d_MD_caught_37 : DJ b_MD_caught 37 (.ifCond .ne) 40 45 := ⟨8, by decide +kernel, rfl, by decide⟩
theorem d_MD_caught_40 : PCi b_MD_caught 40 (-2) 42 := Or.inr (Or.inl ⟨(-2), by decide +kernel, by decide, rfl⟩)
theorem d_MD_caught_42 : DJ b_MD_caught 42 .goto 45 46 := ⟨4, by decide +kernel, rfl, by decide⟩
theorem d_MD_caught_45 : PCi b_MD_caught 45 0 46 := Or.inl ⟨0, by decide +kernel, by decide, rfl⟩
theorem d_MD_caught_46 : PSi b_MD_caught 46 4 48 := Or.inr ⟨by decide +kernel, rfl⟩
theorem d_MD_caught_48 : PLi b_MD_caught 48 4 50 := Or.inr ⟨by decide +kernel, rfl⟩
theorem d_MD_caught_50 : DJ b_MD_caught 50 (.ifCond .eq) 53 60 := ⟨10, by decide +kernel, rfl, by decide⟩
theorem d_MD_caught_53 : PLa b_MD_caught 53 0 54 := Or.inl ⟨0, by decide +kernel, rfl, rfl⟩
theorem d_MD_caught_54 : PLi b_MD_caught 54 4 56 := Or.inr ⟨by decide +kernel, rfl⟩
theorem d_MD_caught_56 : DR b_MD_caught 56 (.invokevirtual 245) 3 59 := ⟨by decide +kernel, rfl⟩
theorem d_MD_caught_59 : DR b_MD_caught 59 (.lreturn) 1 60 := ⟨by decide +kernel, rfl⟩
theorem d_MD_caught_60 : PLa b_MD_caught 60 0 61 := Or.inl ⟨0, by decide +kernel, rfl, rfl⟩
theorem d_MD_caught_61 : DR b_MD_caught 61 (.invokevirtual 215) 3 64 := ⟨by decide +kernel, rfl⟩
theorem d_MD_caught_64 : PCi b_MD_caught 64 0 65 := Or.inl ⟨0, by decide +kernel, by decide, rfl⟩
theorem d_MD_caught_65 : PSi b_MD_caught 65 5 67 := Or.inr ⟨by decide +kernel, rfl⟩
theorem d_MD_caught_67 : PCi b_MD_caught 67 0 68 := Or.inl ⟨0, by decide +kernel, by decide, rfl⟩
theorem d_MD_caught_68 : PSi b_MD_caught 68 6 70 := Or.inr ⟨by decide +kernel, rfl⟩
theorem d_MD_caught_70 : PLi b_MD_caught 70 6 72 := Or.inr ⟨by decide +kernel, rfl⟩
theorem d_MD_caught_72 : PLa b_MD_caught 72 0 73 := Or.inl ⟨0, by decide +kernel, rfl, rfl⟩
theorem d_MD_caught_73 : DR b_MD_caught 73 (.getfield 90) 3 76 := ⟨by decide +kernel, rfl⟩
theorem d_MD_caught_76 : DJ b_MD_caught 76 (.if_icmp .ge) 79 122 := ⟨46, by decide +kernel, rfl, by decide⟩
theorem d_MD_caught_79 : PLi b_MD_caught 79 5 81 := Or.inr ⟨by decide +kernel, rfl⟩
theorem d_MD_caught_81 : PLa b_MD_caught 81 0 82 := Or.inl ⟨0, by decide +kernel, rfl, rfl⟩
theorem d_MD_caught_82 : DR b_MD_caught 82 (.getfield 56) 3 85 := ⟨by decide +kernel, rfl⟩
theorem d_MD_caught_85 : PLi b_MD_caught 85 6 87 := Or.inr ⟨by decide +kernel, rfl⟩
theorem d_MD_caught_87 : DR b_MD_caught 87 (.iaload) 1 88 := ⟨by decide +kernel, rfl⟩
theorem d_MD_caught_88 : DJ b_MD_caught 88 (.ifCond .lt) 91 112 := ⟨24, by decide +kernel, rfl, by decide⟩
theorem d_MD_caught_91 : PLa b_MD_caught 91 0 92 := Or.inl ⟨0, by decide +kernel, rfl, rfl⟩
theorem d_MD_caught_92 : DR b_MD_caught 92 (.getfield 56) 3 95 := ⟨by decide +kernel, rfl⟩
theorem d_MD_caught_95 : PLi b_MD_caught 95 6 97 := Or.inr ⟨by decide +kernel, rfl⟩
theorem d_MD_caught_97 : DR b_MD_caught 97 (.iaload) 1 98 := ⟨by decide +kernel, rfl⟩
theorem d_MD_caught_98 : PLa b_MD_caught 98 0 99 := Or.inl ⟨0, by decide +kernel, rfl, rfl⟩
theorem d_MD_caught_99 : DR b_MD_caught 99 (.getfield 25) 3 102 := ⟨by decide +kernel, rfl⟩
theorem d_MD_caught_102 : PLi b_MD_caught 102 6 104 := Or.inr ⟨by decide +kernel, rfl⟩
theorem d_MD_caught_104 : DR b_MD_caught 104 (.iaload) 1 105 := ⟨by decide +kernel, rfl⟩
theorem d_MD_caught_105 : DJ b_MD_caught 105 (.if_icmp .eq) 108 112 := ⟨7, by decide +kernel, rfl, by decide⟩
theorem d_MD_caught_108 : PCi b_MD_caught 108 1 109 := Or.inl ⟨1, by decide +kernel, by decide, rfl⟩
theorem d_MD_caught_109 : DJ b_MD_caught 109 .goto 112 113 := ⟨4, by decide +kernel, rfl, by decide⟩
theorem d_MD_caught_112 : PCi b_MD_caught 112 0 113 := Or.inl ⟨0, by decide +kernel, by decide, rfl⟩
theorem d_MD_caught_113 : DR b_MD_caught 113 (.iadd) 1 114 := ⟨by decide +kernel, rfl⟩
theorem d_MD_caught_114 : PSi b_MD_caught 114 5 116 := Or.inr ⟨by decide +kernel, rfl⟩
theorem d_MD_caught_116 : DR b_MD_caught 116 (.iinc 6 1) 3 119 := ⟨by decide +kernel, rfl⟩
theorem d_MD_caught_119 : DJ b_MD_caught 119 .goto 122 70 := ⟨-49, by decide +kernel, rfl, by decide⟩
theorem d_MD_caught_122 : PLi b_MD_caught 122 2 123 := Or.inl ⟨2, by decide +kernel, rfl, rfl⟩
theorem d_MD_caught_123 : PLi b_MD_caught 123 5 125 := Or.inr ⟨by decide +kernel, rfl⟩
theorem d_MD_caught_125 : DJ b_MD_caught 125 (.if_icmp .le) 128 132 := ⟨7, by decide +kernel, rfl, by decide⟩
theorem d_MD_caught_128 : DR b_MD_caught 128 (.lconst 0) 1 129 := ⟨by decide +kernel, rfl⟩
theorem d_MD_caught_129 : DJ b_MD_caught 129 .goto 132 133 := ⟨4, by decide +kernel, rfl, by decide⟩
theorem d_MD_caught_132 : DR b_MD_caught 132 (.lconst 1) 1 133 := ⟨by decide +kernel, rfl⟩
theorem d_MD_caught_133 : PSl b_MD_caught 133 6 135 := Or.inr ⟨by decide +kernel, rfl⟩
theorem d_MD_caught_135 : DR b_MD_caught 135 (.lconst 1) 1 136 := ⟨by decide +kernel, rfl⟩
theorem d_MD_caught_136 : PSl b_MD_caught 136 8 138 := Or.inr ⟨by decide +kernel, rfl⟩
theorem d_MD_caught_138 : PCi b_MD_caught 138 0 139 := Or.inl ⟨0, by decide +kernel, by decide, rfl⟩
theorem d_MD_caught_139 : PSi b_MD_caught 139 10 141 := Or.inr ⟨by decide +kernel, rfl⟩
theorem d_MD_caught_141 : PLi b_MD_caught 141 10 143 := Or.inr ⟨by decide +kernel, rfl⟩
theorem d_MD_caught_143 : PLi b_MD_caught 143 5 145 := Or.inr ⟨by decide +kernel, rfl⟩
theorem d_MD_caught_145 : DJ b_MD_caught 145 (.if_icmp .ge) 148 180 := ⟨35, by decide +kernel, rfl, by decide⟩
theorem d_MD_caught_148 : PLl b_MD_caught 148 6 150 := Or.inr ⟨by decide +kernel, rfl⟩
theorem d_MD_caught_150 : PLi b_MD_caught 150 10 152 := Or.inr ⟨by decide +kernel, rfl⟩
theorem d_MD_caught_152 : PLi b_MD_caught 152 2 153 := Or.inl ⟨2, by decide +kernel, rfl, rfl⟩
theorem d_MD_caught_153 : DJ b_MD_caught 153 (.if_icmp .ge) 156 160 := ⟨7, by decide +kernel, rfl, by decide⟩
theorem d_MD_caught_156 : DR b_MD_caught 156 (.lconst 1) 1 157 := ⟨by decide +kernel, rfl⟩
theorem d_MD_caught_157 : DJ b_MD_caught 157 .goto 160 164 := ⟨7, by decide +kernel, rfl, by decide⟩
theorem d_MD_caught_160 : PLi b_MD_caught 160 1 161 := Or.inl ⟨1, by decide +kernel, rfl, rfl⟩
theorem d_MD_caught_161 : PCi b_MD_caught 161 1 162 := Or.inl ⟨1, by decide +kernel, by decide, rfl⟩
theorem d_MD_caught_162 : DR b_MD_caught 162 (.isub) 1 163 := ⟨by decide +kernel, rfl⟩
theorem d_MD_caught_163 : DR b_MD_caught 163 (.i2l) 1 164 := ⟨by decide +kernel, rfl⟩
theorem d_MD_caught_164 : DR b_MD_caught 164 (.lmul) 1 165 := ⟨by decide +kernel, rfl⟩
theorem d_MD_caught_165 : PSl b_MD_caught 165 6 167 := Or.inr ⟨by decide +kernel, rfl⟩
theorem d_MD_caught_167 : PLl b_MD_caught 167 8 169 := Or.inr ⟨by decide +kernel, rfl⟩
theorem d_MD_caught_169 : PLi b_MD_caught 169 1 170 := Or.inl ⟨1, by decide +kernel, rfl, rfl⟩
theorem d_MD_caught_170 : DR b_MD_caught 170 (.i2l) 1 171 := ⟨by decide +kernel, rfl⟩
theorem d_MD_caught_171 : DR b_MD_caught 171 (.lmul) 1 172 := ⟨by decide +kernel, rfl⟩
theorem d_MD_caught_172 : PSl b_MD_caught 172 8 174 := Or.inr ⟨by decide +kernel, rfl⟩
theorem d_MD_caught_174 : DR b_MD_caught 174 (.iinc 10 1) 3 177 := ⟨by decide +kernel, rfl⟩
theorem d_MD_caught_177 : DJ b_MD_caught 177 .goto 180 141 := ⟨-36, by decide +kernel, rfl, by decide⟩
theorem d_MD_caught_180 : PCi b_MD_caught 180 1 181 := Or.inl ⟨1, by decide +kernel, by decide, rfl⟩
theorem d_MD_caught_181 : PSi b_MD_caught 181 10 183 := Or.inr ⟨by decide +kernel, rfl⟩
theorem d_MD_caught_183 : PLi b_MD_caught 183 10 185 := Or.inr ⟨by decide +kernel, rfl⟩
theorem d_MD_caught_185 : PLi b_MD_caught 185 2 186 := Or.inl ⟨2, by decide +kernel, rfl, rfl⟩
theorem d_MD_caught_186 : DJ b_MD_caught 186 (.if_icmp .gt) 189 218 := ⟨32, by decide +kernel, rfl, by decide⟩
theorem d_MD_caught_189 : PLi b_MD_caught 189 2 190 := Or.inl ⟨2, by decide +kernel, rfl, rfl⟩
theorem d_MD_caught_190 : PLi b_MD_caught 190 5 192 := Or.inr ⟨by decide +kernel, rfl⟩
theorem d_MD_caught_192 : DJ b_MD_caught 192 (.if_icmp .gt) 195 218 := ⟨26, by decide +kernel, rfl, by decide⟩
theorem d_MD_caught_195 : PLl b_MD_caught 195 6 197 := Or.inr ⟨by decide +kernel, rfl⟩
theorem d_MD_caught_197 : PLi b_MD_caught 197 5 199 := Or.inr ⟨by decide +kernel, rfl⟩
theorem d_MD_caught_199 : PCi b_MD_caught 199 1 200 := Or.inl ⟨1, by decide +kernel, by decide, rfl⟩
theorem d_MD_caught_200 : DR b_MD_caught 200 (.iadd) 1 201 := ⟨by decide +kernel, rfl⟩
theorem d_MD_caught_201 : PLi b_MD_caught 201 10 203 := Or.inr ⟨by decide +kernel, rfl⟩
theorem d_MD_caught_203 : DR b_MD_caught 203 (.isub) 1 204 := ⟨by decide +kernel, rfl⟩
theorem d_MD_caught_204 : DR b_MD_caught 204 (.i2l) 1 205 := ⟨by decide +kernel, rfl⟩
theorem d_MD_caught_205 : DR b_MD_caught 205 (.lmul) 1 206 := ⟨by decide +kernel, rfl⟩
theorem d_MD_caught_206 : PLi b_MD_caught 206 10 208 := Or.inr ⟨by decide +kernel, rfl⟩
theorem d_MD_caught_208 : DR b_MD_caught 208 (.i2l) 1 209 := ⟨by decide +kernel, rfl⟩
theorem d_MD_caught_209 : DR b_MD_caught 209 (.ldiv) 1 210 := ⟨by decide +kernel, rfl⟩
theorem d_MD_caught_210 : PSl b_MD_caught 210 6 212 := Or.inr ⟨by decide +kernel, rfl⟩
theorem d_MD_caught_212 : DR b_MD_caught 212 (.iinc 10 1) 3 215 := ⟨by decide +kernel, rfl⟩
theorem d_MD_caught_215 : DJ b_MD_caught 215 .goto 218 183 := ⟨-32, by decide +kernel, rfl, by decide⟩
theorem d_MD_caught_218 : PLi b_MD_caught 218 3 219 := Or.inl ⟨3, by decide +kernel, rfl, rfl⟩
theorem d_MD_caught_219 : DJ b_MD_caught 219 (.ifCond .ne) 222 227 := ⟨8, by decide +kernel, rfl, by decide⟩
theorem d_MD_caught_222 : PLl b_MD_caught 222 6 224 := Or.inr ⟨by decide +kernel, rfl⟩
theorem d_MD_caught_224 : DJ b_MD_caught 224 .goto 227 229 := ⟨5, by decide +kernel, rfl, by decide⟩
theorem d_MD_caught_227 : PLl b_MD_caught 227 8 229 := Or.inr ⟨by decide +kernel, rfl⟩
theorem d_MD_caught_229 : PLl b_MD_caught 229 6 231 := Or.inr ⟨by decide +kernel, rfl⟩
theorem d_MD_caught_231 : PLl b_MD_caught 231 8 233 := Or.inr ⟨by decide +kernel, rfl⟩
theorem d_MD_caught_233 : DR b_MD_caught 233 (.invokestatic 311) 3 236 := ⟨by decide +kernel, rfl⟩
theorem d_MD_caught_236 : DR b_MD_caught 236 (.ldiv) 1 237 := ⟨by decide +kernel, rfl⟩
theorem d_MD_caught_237 : DR b_MD_caught 237 (.lreturn) 1 238 := ⟨by decide +kernel, rfl⟩
set_option maxRecDepth 20000 in
theorem B_MD_caught_229 {G : MCx} (hC : C0 G "AccusedChooseModel" b_MD_caught 11 6) (v6 : Int64) (v8 : Int64) (z0 : Int64) (s : St) : VO G (RLo G b_MD_caught) (F_MD_caught_229 v6 v8 z0 s) 229 [(6, .long v6), (8, .long v8)] [.long z0] s := by
  unfold F_MD_caught_229
  refine VO_lload hC d_MD_caught_229 0 rfl ?_
  refine VO_lload hC d_MD_caught_231 1 rfl ?_
  refine VO_callSL hC [.long v6, .long v8] [.long z0] ml_MD_311 d_MD_caught_233 ys_MD_divisor (fun o h => M_MD_divisor hC.inj h) (by decide) rfl rfl (Nat.le_of_ble_eq_true rfl) (fun o2 => ?_)
  refine VO_ldiv hC d_MD_caught_236 ?_
  exact VO_lreturn d_MD_caught_237
set_option maxRecDepth 20000 in
theorem B_MD_caught_218 {G : MCx} (hC : C0 G "AccusedChooseModel" b_MD_caught 11 6) (v3 : Int32) (v6 : Int64) (v8 : Int64) (s : St) : VO G (RLo G b_MD_caught) (F_MD_caught_218 v3 v6 v8 s) 218 [(3, .int v3), (6, .long v6), (8, .long v8)] [] s := by
  unfold F_MD_caught_218
  refine VO_iload hC d_MD_caught_218 0 rfl ?_
  refine VO_if_ne hC d_MD_caught_219 (fun _ => ?_) (fun _ => ?_)
  · refine VO_lload hC d_MD_caught_222 1 rfl ?_
    refine VO_goto hC d_MD_caught_224 ?_
    exact VO_sub [1, 2] rfl (B_MD_caught_229 hC v6 v8 v6 s)
  · refine VO_lload hC d_MD_caught_227 2 rfl ?_
    exact VO_sub [1, 2] rfl (B_MD_caught_229 hC v6 v8 v8 s)
set_option maxRecDepth 20000 in
theorem BH_MD_caught_183 {G : MCx} (hC : C0 G "AccusedChooseModel" b_MD_caught 11 6) {v2 : Int32} {v3 : Int32} {v5 : Int32} {v8 : Int64} (K183 : Int64 × Int32 × St → Option (Int64 × St)) (hK183 : ∀ (w6 : Int64) (w10 : Int32) (s : St), VO G (RLo G b_MD_caught) (K183 (w6, w10, s)) 183 [(2, .int v2), (3, .int v3), (5, .int v5), (6, .long w6), (8, .long v8), (10, .int w10)] [] s) (v6 : Int64) (v10 : Int32) (s : St) : VO G (RLo G b_MD_caught) (H_MD_caught_183 v2 v3 v5 v8 K183 v6 v10 s) 183 [(2, .int v2), (3, .int v3), (5, .int v5), (6, .long v6), (8, .long v8), (10, .int v10)] [] s := by
  unfold H_MD_caught_183
  refine VO_iload hC d_MD_caught_183 5 rfl ?_
  refine VO_iload hC d_MD_caught_185 0 rfl ?_
  refine VO_icmp_gt hC d_MD_caught_186 (fun _ => ?_) (fun _ => ?_)
  · exact VO_sub [1, 3, 4] rfl (B_MD_caught_218 hC v3 v6 v8 s)
  · refine VO_iload hC d_MD_caught_189 0 rfl ?_
    refine VO_iload hC d_MD_caught_190 2 rfl ?_
    refine VO_icmp_gt hC d_MD_caught_192 (fun _ => ?_) (fun _ => ?_)
    · exact VO_sub [1, 3, 4] rfl (B_MD_caught_218 hC v3 v6 v8 s)
    · refine VO_lload hC d_MD_caught_195 3 rfl ?_
      refine VO_iload hC d_MD_caught_197 2 rfl ?_
      refine VO_const hC d_MD_caught_199 ?_
      refine VO_iadd hC d_MD_caught_200 ?_
      refine VO_iload hC d_MD_caught_201 5 rfl ?_
      refine VO_isub hC d_MD_caught_203 ?_
      refine VO_i2l hC d_MD_caught_204 ?_
      refine VO_lmul hC d_MD_caught_205 ?_
      refine VO_iload hC d_MD_caught_206 5 rfl ?_
      refine VO_i2l hC d_MD_caught_208 ?_
      refine VO_ldiv hC d_MD_caught_209 ?_
      refine VO_lstoreB hC d_MD_caught_210 [(2, .int v2), (3, .int v3), (5, .int v5), (8, .long v8), (10, .int v10)] rfl (by decide) (fun x3 => ?_)
      refine VO_iinc hC d_MD_caught_212 5 rfl (by decide : Int32.ofInt 1 = 1) [(6, .long x3), (2, .int v2), (3, .int v3), (5, .int v5), (8, .long v8)] rfl (by decide) ?_
      refine VO_goto hC d_MD_caught_215 ?_
      exact VO_sub [2, 3, 4, 1, 5, 0] rfl (hK183 x3 (v10 + 1) s)
set_option maxRecDepth 20000 in
theorem B_MD_caught_183 {G : MCx} (hC : C0 G "AccusedChooseModel" b_MD_caught 11 6) (v2 : Int32) (v3 : Int32) (v5 : Int32) (v6 : Int64) (v8 : Int64) (v10 : Int32) (s : St) : VO G (RLo G b_MD_caught) (F_MD_caught_183 v2 v3 v5 v6 v8 v10 s) 183 [(2, .int v2), (3, .int v3), (5, .int v5), (6, .long v6), (8, .long v8), (10, .int v10)] [] s := by
  exact VO_fix (G_MD_caught_183 v2 v3 v5 v8) 183 (fun q => [(2, .int v2), (3, .int v3), (5, .int v5), (6, .long q.1), (8, .long v8), (10, .int q.2.1)]) (fun q => q.2.2) (fun K hK q => BH_MD_caught_183 hC K (fun w6 w10 s => hK (w6, w10, s)) q.1 q.2.1 q.2.2) FUEL (v6, v10, s)
set_option maxRecDepth 20000 in
theorem B_MD_caught_164 {G : MCx} (hC : C0 G "AccusedChooseModel" b_MD_caught 11 6) {v1 : Int32} {v2 : Int32} {v3 : Int32} {v5 : Int32} (K141 : Int64 × Int64 × Int32 × St → Option (Int64 × St)) (hK141 : ∀ (w6 : Int64) (w8 : Int64) (w10 : Int32) (s : St), VO G (RLo G b_MD_caught) (K141 (w6, w8, w10, s)) 141 [(1, .int v1), (2, .int v2), (3, .int v3), (5, .int v5), (6, .long w6), (8, .long w8), (10, .int w10)] [] s) (v8 : Int64) (v10 : Int32) (z0 : Int64) (z1 : Int64) (s : St) : VO G (RLo G b_MD_caught) (F_MD_caught_164 K141 v1 v2 v3 v5 v8 v10 z0 z1 s) 164 [(1, .int v1), (2, .int v2), (3, .int v3), (5, .int v5), (8, .long v8), (10, .int v10)] [.long z0, .long z1] s := by
  unfold F_MD_caught_164
  refine VO_lmul hC d_MD_caught_164 ?_
  refine VO_lstoreB hC d_MD_caught_165 [(1, .int v1), (2, .int v2), (3, .int v3), (5, .int v5), (8, .long v8), (10, .int v10)] rfl (by decide) (fun x4 => ?_)
  refine VO_lload hC d_MD_caught_167 5 rfl ?_
  refine VO_iload hC d_MD_caught_169 1 rfl ?_
  refine VO_i2l hC d_MD_caught_170 ?_
  refine VO_lmul hC d_MD_caught_171 ?_
  refine VO_lstoreB hC d_MD_caught_172 [(6, .long x4), (1, .int v1), (2, .int v2), (3, .int v3), (5, .int v5), (10, .int v10)] rfl (by decide) (fun x5 => ?_)
  refine VO_iinc hC d_MD_caught_174 6 rfl (by decide : Int32.ofInt 1 = 1) [(8, .long x5), (6, .long x4), (1, .int v1), (2, .int v2), (3, .int v3), (5, .int v5)] rfl (by decide) ?_
  refine VO_goto hC d_MD_caught_177 ?_
  exact VO_sub [3, 4, 5, 6, 2, 1, 0] rfl (hK141 x4 x5 (v10 + 1) s)
set_option maxRecDepth 20000 in
theorem BH_MD_caught_141 {G : MCx} (hC : C0 G "AccusedChooseModel" b_MD_caught 11 6) {v1 : Int32} {v2 : Int32} {v3 : Int32} {v5 : Int32} (K141 : Int64 × Int64 × Int32 × St → Option (Int64 × St)) (hK141 : ∀ (w6 : Int64) (w8 : Int64) (w10 : Int32) (s : St), VO G (RLo G b_MD_caught) (K141 (w6, w8, w10, s)) 141 [(1, .int v1), (2, .int v2), (3, .int v3), (5, .int v5), (6, .long w6), (8, .long w8), (10, .int w10)] [] s) (v6 : Int64) (v8 : Int64) (v10 : Int32) (s : St) : VO G (RLo G b_MD_caught) (H_MD_caught_141 v1 v2 v3 v5 K141 v6 v8 v10 s) 141 [(1, .int v1), (2, .int v2), (3, .int v3), (5, .int v5), (6, .long v6), (8, .long v8), (10, .int v10)] [] s := by
  unfold H_MD_caught_141
  refine VO_iload hC d_MD_caught_141 6 rfl ?_
  refine VO_iload hC d_MD_caught_143 3 rfl ?_
  refine VO_icmp_ge hC d_MD_caught_145 (fun _ => ?_) (fun _ => ?_)
  · refine VO_const hC d_MD_caught_180 ?_
    refine VO_istore hC d_MD_caught_181 [(1, .int v1), (2, .int v2), (3, .int v3), (5, .int v5), (6, .long v6), (8, .long v8)] rfl (by decide) ?_
    exact VO_sub [2, 3, 4, 5, 6, 0] rfl (B_MD_caught_183 hC v2 v3 v5 v6 v8 (1 : Int32) s)
  · refine VO_lload hC d_MD_caught_148 4 rfl ?_
    refine VO_iload hC d_MD_caught_150 6 rfl ?_
    refine VO_iload hC d_MD_caught_152 1 rfl ?_
    refine VO_icmp_ge hC d_MD_caught_153 (fun _ => ?_) (fun _ => ?_)
    · refine VO_iload hC d_MD_caught_160 0 rfl ?_
      refine VO_const hC d_MD_caught_161 ?_
      refine VO_isub hC d_MD_caught_162 ?_
      refine VO_i2l hC d_MD_caught_163 ?_
      exact VO_sub [0, 1, 2, 3, 5, 6] rfl (B_MD_caught_164 hC K141 hK141 v8 v10 ((v1 - (1 : Int32))).toInt64 v6 s)
    · refine VO_lconst hC d_MD_caught_156 rfl ?_
      refine VO_goto hC d_MD_caught_157 ?_
      exact VO_sub [0, 1, 2, 3, 5, 6] rfl (B_MD_caught_164 hC K141 hK141 v8 v10 (1 : Int64) v6 s)
set_option maxRecDepth 20000 in
theorem B_MD_caught_141 {G : MCx} (hC : C0 G "AccusedChooseModel" b_MD_caught 11 6) (v1 : Int32) (v2 : Int32) (v3 : Int32) (v5 : Int32) (v6 : Int64) (v8 : Int64) (v10 : Int32) (s : St) : VO G (RLo G b_MD_caught) (F_MD_caught_141 v1 v2 v3 v5 v6 v8 v10 s) 141 [(1, .int v1), (2, .int v2), (3, .int v3), (5, .int v5), (6, .long v6), (8, .long v8), (10, .int v10)] [] s := by
  exact VO_fix (G_MD_caught_141 v1 v2 v3 v5) 141 (fun q => [(1, .int v1), (2, .int v2), (3, .int v3), (5, .int v5), (6, .long q.1), (8, .long q.2.1), (10, .int q.2.2.1)]) (fun q => q.2.2.2) (fun K hK q => BH_MD_caught_141 hC K (fun w6 w8 w10 s => hK (w6, w8, w10, s)) q.1 q.2.1 q.2.2.1 q.2.2.2) FUEL (v6, v8, v10, s)
set_option maxRecDepth 20000 in
theorem B_MD_caught_133 {G : MCx} (hC : C0 G "AccusedChooseModel" b_MD_caught 11 6) (v1 : Int32) (v2 : Int32) (v3 : Int32) (v5 : Int32) (z0 : Int64) (s : St) : VO G (RLo G b_MD_caught) (F_MD_caught_133 v1 v2 v3 v5 z0 s) 133 [(1, .int v1), (2, .int v2), (3, .int v3), (5, .int v5)] [.long z0] s := by
  unfold F_MD_caught_133
  refine VO_lstore hC d_MD_caught_133 [(1, .int v1), (2, .int v2), (3, .int v3), (5, .int v5)] rfl (by decide) ?_
  refine VO_lconst hC d_MD_caught_135 rfl ?_
  refine VO_lstore hC d_MD_caught_136 [(6, .long z0), (1, .int v1), (2, .int v2), (3, .int v3), (5, .int v5)] rfl (by decide) ?_
  refine VO_const hC d_MD_caught_138 ?_
  refine VO_istore hC d_MD_caught_139 [(8, .long (1 : Int64)), (6, .long z0), (1, .int v1), (2, .int v2), (3, .int v3), (5, .int v5)] rfl (by decide) ?_
  exact VO_sub [3, 4, 5, 6, 2, 1, 0] rfl (B_MD_caught_141 hC v1 v2 v3 v5 z0 (1 : Int64) (0 : Int32) s)
set_option maxRecDepth 20000 in
theorem B_MD_caught_113 {G : MCx} (hC : C0 G "AccusedChooseModel" b_MD_caught 11 6) {v1 : Int32} {v2 : Int32} {v3 : Int32} (K70 : Int32 × Int32 × St → Option (Int64 × St)) (hK70 : ∀ (w5 : Int32) (w6 : Int32) (s : St), VO G (RLo G b_MD_caught) (K70 (w5, w6, s)) 70 [(0, .ref (gad G 58)), (1, .int v1), (2, .int v2), (3, .int v3), (5, .int w5), (6, .int w6)] [] s) (v6 : Int32) (z0 : Int32) (z1 : Int32) (s : St) : VO G (RLo G b_MD_caught) (F_MD_caught_113 K70 v1 v2 v3 v6 z0 z1 s) 113 [(0, .ref (gad G 58)), (1, .int v1), (2, .int v2), (3, .int v3), (6, .int v6)] [.int z0, .int z1] s := by
  unfold F_MD_caught_113
  refine VO_iadd hC d_MD_caught_113 ?_
  refine VO_istoreB hC d_MD_caught_114 [(0, .ref (gad G 58)), (1, .int v1), (2, .int v2), (3, .int v3), (6, .int v6)] rfl (by decide) (fun x7 => ?_)
  refine VO_iinc hC d_MD_caught_116 5 rfl (by decide : Int32.ofInt 1 = 1) [(5, .int x7), (0, .ref (gad G 58)), (1, .int v1), (2, .int v2), (3, .int v3)] rfl (by decide) ?_
  refine VO_goto hC d_MD_caught_119 ?_
  exact VO_sub [2, 3, 4, 5, 1, 0] rfl (hK70 x7 (v6 + 1) s)
set_option maxRecDepth 20000 in
theorem B_MD_caught_112 {G : MCx} (hC : C0 G "AccusedChooseModel" b_MD_caught 11 6) {v1 : Int32} {v2 : Int32} {v3 : Int32} (K70 : Int32 × Int32 × St → Option (Int64 × St)) (hK70 : ∀ (w5 : Int32) (w6 : Int32) (s : St), VO G (RLo G b_MD_caught) (K70 (w5, w6, s)) 70 [(0, .ref (gad G 58)), (1, .int v1), (2, .int v2), (3, .int v3), (5, .int w5), (6, .int w6)] [] s) (v6 : Int32) (z0 : Int32) (s : St) : VO G (RLo G b_MD_caught) (F_MD_caught_112 K70 v1 v2 v3 v6 z0 s) 112 [(0, .ref (gad G 58)), (1, .int v1), (2, .int v2), (3, .int v3), (6, .int v6)] [.int z0] s := by
  unfold F_MD_caught_112
  refine VO_const hC d_MD_caught_112 ?_
  exact (B_MD_caught_113 hC K70 hK70 v6 (0 : Int32) z0 s)
set_option maxRecDepth 20000 in
theorem BH_MD_caught_70 {G : MCx} (hC : C0 G "AccusedChooseModel" b_MD_caught 11 6) {v1 : Int32} {v2 : Int32} {v3 : Int32} (K70 : Int32 × Int32 × St → Option (Int64 × St)) (hK70 : ∀ (w5 : Int32) (w6 : Int32) (s : St), VO G (RLo G b_MD_caught) (K70 (w5, w6, s)) 70 [(0, .ref (gad G 58)), (1, .int v1), (2, .int v2), (3, .int v3), (5, .int w5), (6, .int w6)] [] s) (v5 : Int32) (v6 : Int32) (s : St) : VO G (RLo G b_MD_caught) (H_MD_caught_70 v1 v2 v3 K70 v5 v6 s) 70 [(0, .ref (gad G 58)), (1, .int v1), (2, .int v2), (3, .int v3), (5, .int v5), (6, .int v6)] [] s := by
  unfold H_MD_caught_70
  refine VO_iload hC d_MD_caught_70 5 rfl ?_
  refine VO_aload hC d_MD_caught_72 0 rfl ?_
  refine VO_geti hC fl_MD_90 sh_MD rfl d_MD_caught_73 ?_
  refine VO_icmp_ge hC d_MD_caught_76 (fun _ => ?_) (fun _ => ?_)
  · refine VO_iload hC d_MD_caught_122 2 rfl ?_
    refine VO_iload hC d_MD_caught_123 4 rfl ?_
    refine VO_icmp_le hC d_MD_caught_125 (fun _ => ?_) (fun _ => ?_)
    · refine VO_lconst hC d_MD_caught_132 rfl ?_
      exact VO_sub [1, 2, 3, 4] rfl (B_MD_caught_133 hC v1 v2 v3 v5 (1 : Int64) s)
    · refine VO_lconst hC d_MD_caught_128 rfl ?_
      refine VO_goto hC d_MD_caught_129 ?_
      exact VO_sub [1, 2, 3, 4] rfl (B_MD_caught_133 hC v1 v2 v3 v5 (0 : Int64) s)
  · refine VO_iload hC d_MD_caught_79 4 rfl ?_
    refine VO_aload hC d_MD_caught_81 0 rfl ?_
    refine VO_getr (r := 73) hC fl_MD_56 sh_MD rfl d_MD_caught_82 ?_
    refine VO_iload hC d_MD_caught_85 5 rfl ?_
    refine VO_iaload hC ia_73 d_MD_caught_87 (fun x6 => ?_)
    refine VO_if_lt hC d_MD_caught_88 (fun _ => ?_) (fun _ => ?_)
    · exact VO_sub [0, 1, 2, 3, 5] rfl (B_MD_caught_112 hC K70 hK70 v6 v5 s)
    · refine VO_aload hC d_MD_caught_91 0 rfl ?_
      refine VO_getr (r := 73) hC fl_MD_56 sh_MD rfl d_MD_caught_92 ?_
      refine VO_iload hC d_MD_caught_95 5 rfl ?_
      refine VO_iaload hC ia_73 d_MD_caught_97 (fun x8 => ?_)
      refine VO_aload hC d_MD_caught_98 0 rfl ?_
      refine VO_getr (r := 64) hC fl_MD_25 sh_MD rfl d_MD_caught_99 ?_
      refine VO_iload hC d_MD_caught_102 5 rfl ?_
      refine VO_iaload hC ia_64 d_MD_caught_104 (fun x9 => ?_)
      refine VO_icmp_eq hC d_MD_caught_105 (fun _ => ?_) (fun _ => ?_)
      · exact VO_sub [0, 1, 2, 3, 5] rfl (B_MD_caught_112 hC K70 hK70 v6 v5 s)
      · refine VO_const hC d_MD_caught_108 ?_
        refine VO_goto hC d_MD_caught_109 ?_
        exact VO_sub [0, 1, 2, 3, 5] rfl (B_MD_caught_113 hC K70 hK70 v6 (1 : Int32) v5 s)
set_option maxRecDepth 20000 in
theorem B_MD_caught_70 {G : MCx} (hC : C0 G "AccusedChooseModel" b_MD_caught 11 6) (v1 : Int32) (v2 : Int32) (v3 : Int32) (v5 : Int32) (v6 : Int32) (s : St) : VO G (RLo G b_MD_caught) (F_MD_caught_70 v1 v2 v3 v5 v6 s) 70 [(0, .ref (gad G 58)), (1, .int v1), (2, .int v2), (3, .int v3), (5, .int v5), (6, .int v6)] [] s := by
  exact VO_fix (G_MD_caught_70 v1 v2 v3) 70 (fun q => [(0, .ref (gad G 58)), (1, .int v1), (2, .int v2), (3, .int v3), (5, .int q.1), (6, .int q.2.1)]) (fun q => q.2.2) (fun K hK q => BH_MD_caught_70 hC K (fun w5 w6 s => hK (w5, w6, s)) q.1 q.2.1 q.2.2) FUEL (v5, v6, s)
set_option maxRecDepth 20000 in
theorem B_MD_caught_46 {G : MCx} (hC : C0 G "AccusedChooseModel" b_MD_caught 11 6) (v1 : Int32) (v2 : Int32) (v3 : Int32) (z0 : Int32) (s : St) : VO G (RLo G b_MD_caught) (F_MD_caught_46 v1 v2 v3 z0 s) 46 [(0, .ref (gad G 58)), (1, .int v1), (2, .int v2), (3, .int v3)] [.int z0] s := by
  unfold F_MD_caught_46
  refine VO_istore hC d_MD_caught_46 [(0, .ref (gad G 58)), (1, .int v1), (2, .int v2), (3, .int v3)] rfl (by decide) ?_
  refine VO_iload hC d_MD_caught_48 0 rfl ?_
  refine VO_if_eq hC d_MD_caught_50 (fun _ => ?_) (fun _ => ?_)
  · refine VO_aload hC d_MD_caught_60 1 rfl ?_
    refine VO_callVV hC [] [] ml_MD_215 d_MD_caught_61 yv_MD_goes sh_MD rfl rfl (fun o h => M_MD_goes hC.inj h) (by decide) rfl rfl (Nat.le_of_ble_eq_true rfl) (fun s1 => ?_)
    refine VO_const hC d_MD_caught_64 ?_
    refine VO_istore hC d_MD_caught_65 [(4, .int z0), (0, .ref (gad G 58)), (1, .int v1), (2, .int v2), (3, .int v3)] rfl (by decide) ?_
    refine VO_const hC d_MD_caught_67 ?_
    refine VO_istore hC d_MD_caught_68 [(5, .int (0 : Int32)), (4, .int z0), (0, .ref (gad G 58)), (1, .int v1), (2, .int v2), (3, .int v3)] rfl (by decide) ?_
    exact VO_sub [3, 4, 5, 6, 1, 0] rfl (B_MD_caught_70 hC v1 v2 v3 (0 : Int32) (0 : Int32) s1)
  · refine VO_aload hC d_MD_caught_53 1 rfl ?_
    refine VO_iload hC d_MD_caught_54 0 rfl ?_
    refine VO_callVL hC [.int z0] [] ml_MD_245 d_MD_caught_56 yv_MD_lowest sh_MD rfl rfl (fun o h => M_MD_lowest hC.inj h) (by decide) rfl rfl (Nat.le_of_ble_eq_true rfl) (fun o10 => ?_)
    exact VO_lreturn d_MD_caught_59
set_option maxRecDepth 20000 in
theorem B_MD_caught_9 {G : MCx} (hC : C0 G "AccusedChooseModel" b_MD_caught 11 6) (v1 : Int32) (v2 : Int32) (v3 : Int32) (s : St) : VO G (RLo G b_MD_caught) (F_MD_caught_9 v1 v2 v3 s) 9 [(0, .ref (gad G 58)), (1, .int v1), (2, .int v2), (3, .int v3)] [] s := by
  unfold F_MD_caught_9
  refine VO_const hC d_MD_caught_9 ?_
  refine VO_goto hC d_MD_caught_11 ?_
  exact (B_MD_caught_46 hC v1 v2 v3 (-4 : Int32) s)
set_option maxRecDepth 20000 in
theorem B_MD_caught_26 {G : MCx} (hC : C0 G "AccusedChooseModel" b_MD_caught 11 6) (v1 : Int32) (v2 : Int32) (v3 : Int32) (s : St) : VO G (RLo G b_MD_caught) (F_MD_caught_26 v1 v2 v3 s) 26 [(0, .ref (gad G 58)), (1, .int v1), (2, .int v2), (3, .int v3)] [] s := by
  unfold F_MD_caught_26
  refine VO_const hC d_MD_caught_26 ?_
  refine VO_goto hC d_MD_caught_28 ?_
  exact (B_MD_caught_46 hC v1 v2 v3 (-6 : Int32) s)
set_option maxRecDepth 20000 in
theorem B_MD_caught {G : MCx} (hC : C0 G "AccusedChooseModel" b_MD_caught 11 6) (a1 : Int32) (a2 : Int32) (a3 : Int32) (s : St) : VO G (RLo G b_MD_caught) (F_MD_caught a1 a2 a3 s) 0 [(0, .ref (gad G 58)), (1, .int a1), (2, .int a2), (3, .int a3)] [] s := by
  unfold F_MD_caught
  refine VO_iload hC d_MD_caught_0 1 rfl ?_
  refine VO_const hC d_MD_caught_1 ?_
  refine VO_icmp_lt hC d_MD_caught_2 (fun _ => ?_) (fun _ => ?_)
  · exact (B_MD_caught_9 hC a1 a2 a3 s)
  · refine VO_iload hC d_MD_caught_5 2 rfl ?_
    refine VO_if_ge hC d_MD_caught_6 (fun _ => ?_) (fun _ => ?_)
    · refine VO_iload hC d_MD_caught_14 1 rfl ?_
      refine VO_const hC d_MD_caught_15 ?_
      refine VO_icmp_gt hC d_MD_caught_17 (fun _ => ?_) (fun _ => ?_)
      · exact (B_MD_caught_26 hC a1 a2 a3 s)
      · refine VO_iload hC d_MD_caught_20 2 rfl ?_
        refine VO_const hC d_MD_caught_21 ?_
        refine VO_icmp_le hC d_MD_caught_23 (fun _ => ?_) (fun _ => ?_)
        · refine VO_iload hC d_MD_caught_31 3 rfl ?_
          refine VO_const hC d_MD_caught_32 ?_
          refine VO_const hC d_MD_caught_33 ?_
          refine VO_callSI hC [.int a3, .int (0 : Int32), .int (1 : Int32)] [] ml_MD_115 d_MD_caught_34 ys_MD_isIn (fun o h => M_MD_isIn hC.inj h) (by decide) rfl rfl (Nat.le_of_ble_eq_true rfl) (fun o11 => ?_)
          refine VO_if_ne hC d_MD_caught_37 (fun _ => ?_) (fun _ => ?_)
          · refine VO_const hC d_MD_caught_40 ?_
            refine VO_goto hC d_MD_caught_42 ?_
            exact (B_MD_caught_46 hC a1 a2 a3 (-2 : Int32) o11.2)
          · refine VO_const hC d_MD_caught_45 ?_
            exact (B_MD_caught_46 hC a1 a2 a3 (0 : Int32) o11.2)
        · exact (B_MD_caught_26 hC a1 a2 a3 s)
    · exact (B_MD_caught_9 hC a1 a2 a3 s)
set_option maxRecDepth 20000 in
theorem M_MD_caught {l : Launch} {D : va_G} {ad : Nat → Nat} {cI cL : ClassId} (hj : Inj ad) {a1 : Int32} {a2 : Int32} {a3 : Int32} {s : St} {o : Int64 × St} (h : F_MD_caught a1 a2 a3 s = some o) : Cn l D ad cI cL y_MD_caught b_MD_caught 11 (some .long) 6 [.ref (ad 58), .int a1, .int a2, .int a3] s (some (.long o.1)) o.2 := by
  refine Cn_ofL hj (plainFor_of_name (by decide)) (Nat.le_of_ble_eq_true rfl) [(0, .ref (ad 58)), (1, .int a1), (2, .int a2), (3, .int a3)] rfl (fun G hC e1 e2 e3 e4 e5 hR => ?_)
  subst e1; subst e2; subst e3; subst e4; subst e5
  exact B_MD_caught hC a1 a2 a3 s o h hR
theorem d_MD_spared_0 : PLa b_MD_spared 0 0 1 := Or.inl ⟨0, by decide +kernel, rfl, rfl⟩
theorem d_MD_spared_1 : DR b_MD_spared 1 (.invokevirtual 299) 3 4 := ⟨by decide +kernel, rfl⟩
theorem d_MD_spared_4 : PSi b_MD_spared 4 1 5 := Or.inl ⟨1, by decide +kernel, rfl, rfl⟩
theorem d_MD_spared_5 : PCi b_MD_spared 5 0 6 := Or.inl ⟨0, by decide +kernel, by decide, rfl⟩
theorem d_MD_spared_6 : PSi b_MD_spared 6 2 7 := Or.inl ⟨2, by decide +kernel, rfl, rfl⟩
theorem d_MD_spared_7 : PCi b_MD_spared 7 0 8 := Or.inl ⟨0, by decide +kernel, by decide, rfl⟩
theorem d_MD_spared_8 : PSi b_MD_spared 8 3 9 := Or.inl ⟨3, by decide +kernel, rfl, rfl⟩
theorem d_MD_spared_9 : PLi b_MD_spared 9 3 10 := Or.inl ⟨3, by decide +kernel, rfl, rfl⟩
theorem d_MD_spared_10 : PLa b_MD_spared 10 0 11 := Or.inl ⟨0, by decide +kernel, rfl, rfl⟩
theorem d_MD_spared_11 : DR b_MD_spared 11 (.getfield 84) 3 14 := ⟨by decide +kernel, rfl⟩
theorem d_MD_spared_14 : DJ b_MD_spared 14 (.if_icmp .ge) 17 48 := ⟨34, by decide +kernel, rfl, by decide⟩
theorem d_MD_spared_17 : PLa b_MD_spared 17 0 18 := Or.inl ⟨0, by decide +kernel, rfl, rfl⟩
theorem d_MD_spared_18 : PCi b_MD_spared 18 1 19 := Or.inl ⟨1, by decide +kernel, by decide, rfl⟩
theorem d_MD_spared_19 : PLi b_MD_spared 19 3 20 := Or.inl ⟨3, by decide +kernel, rfl, rfl⟩
theorem d_MD_spared_20 : DR b_MD_spared 20 (.ishl) 1 21 := ⟨by decide +kernel, rfl⟩
theorem d_MD_spared_21 : DR b_MD_spared 21 (.putfield 200) 3 24 := ⟨by decide +kernel, rfl⟩
theorem d_MD_spared_24 : PLi b_MD_spared 24 2 25 := Or.inl ⟨2, by decide +kernel, rfl, rfl⟩
theorem d_MD_spared_25 : PLa b_MD_spared 25 0 26 := Or.inl ⟨0, by decide +kernel, rfl, rfl⟩
theorem d_MD_spared_26 : DR b_MD_spared 26 (.invokevirtual 299) 3 29 := ⟨by decide +kernel, rfl⟩
theorem d_MD_spared_29 : PLi b_MD_spared 29 1 30 := Or.inl ⟨1, by decide +kernel, rfl, rfl⟩
theorem d_MD_spared_30 : DJ b_MD_spared 30 (.if_icmp .ne) 33 39 := ⟨9, by decide +kernel, rfl, by decide⟩
theorem d_MD_spared_33 : PCi b_MD_spared 33 1 34 := Or.inl ⟨1, by decide +kernel, by decide, rfl⟩
theorem d_MD_spared_34 : PLi b_MD_spared 34 3 35 := Or.inl ⟨3, by decide +kernel, rfl, rfl⟩
theorem d_MD_spared_35 : DR b_MD_spared 35 (.ishl) 1 36 := ⟨by decide +kernel, rfl⟩
theorem d_MD_spared_36 : DJ b_MD_spared 36 .goto 39 40 := ⟨4, by decide +kernel, rfl, by decide⟩
theorem d_MD_spared_39 : PCi b_MD_spared 39 0 40 := Or.inl ⟨0, by decide +kernel, by decide, rfl⟩
theorem d_MD_spared_40 : DR b_MD_spared 40 (.ior) 1 41 := ⟨by decide +kernel, rfl⟩
theorem d_MD_spared_41 : PSi b_MD_spared 41 2 42 := Or.inl ⟨2, by decide +kernel, rfl, rfl⟩
theorem d_MD_spared_42 : DR b_MD_spared 42 (.iinc 3 1) 3 45 := ⟨by decide +kernel, rfl⟩
theorem d_MD_spared_45 : DJ b_MD_spared 45 .goto 48 9 := ⟨-36, by decide +kernel, rfl, by decide⟩
theorem d_MD_spared_48 : PLa b_MD_spared 48 0 49 := Or.inl ⟨0, by decide +kernel, rfl, rfl⟩
theorem d_MD_spared_49 : PCi b_MD_spared 49 0 50 := Or.inl ⟨0, by decide +kernel, by decide, rfl⟩
theorem d_MD_spared_50 : DR b_MD_spared 50 (.putfield 200) 3 53 := ⟨by decide +kernel, rfl⟩
theorem d_MD_spared_53 : PLi b_MD_spared 53 2 54 := Or.inl ⟨2, by decide +kernel, rfl, rfl⟩
theorem d_MD_spared_54 : DR b_MD_spared 54 (.ireturn) 1 55 := ⟨by decide +kernel, rfl⟩
set_option maxRecDepth 20000 in
theorem B_MD_spared_40 {G : MCx} (hC : C0 G "AccusedChooseModel" b_MD_spared 4 7) {v1 : Int32} (K9 : Int32 × Int32 × St → Option (Int32 × St)) (hK9 : ∀ (w2 : Int32) (w3 : Int32) (s : St), VO G (RI G b_MD_spared) (K9 (w2, w3, s)) 9 [(0, .ref (gad G 58)), (1, .int v1), (2, .int w2), (3, .int w3)] [] s) (v3 : Int32) (z0 : Int32) (z1 : Int32) (s : St) : VO G (RI G b_MD_spared) (F_MD_spared_40 K9 v1 v3 z0 z1 s) 40 [(0, .ref (gad G 58)), (1, .int v1), (3, .int v3)] [.int z0, .int z1] s := by
  unfold F_MD_spared_40
  refine VO_ior hC d_MD_spared_40 ?_
  refine VO_istoreB hC d_MD_spared_41 [(0, .ref (gad G 58)), (1, .int v1), (3, .int v3)] rfl (by decide) (fun x5 => ?_)
  refine VO_iinc hC d_MD_spared_42 3 rfl (by decide : Int32.ofInt 1 = 1) [(2, .int x5), (0, .ref (gad G 58)), (1, .int v1)] rfl (by decide) ?_
  refine VO_goto hC d_MD_spared_45 ?_
  exact VO_sub [2, 3, 1, 0] rfl (hK9 x5 (v3 + 1) s)
set_option maxRecDepth 20000 in
theorem BH_MD_spared_9 {G : MCx} (hC : C0 G "AccusedChooseModel" b_MD_spared 4 7) {v1 : Int32} (K9 : Int32 × Int32 × St → Option (Int32 × St)) (hK9 : ∀ (w2 : Int32) (w3 : Int32) (s : St), VO G (RI G b_MD_spared) (K9 (w2, w3, s)) 9 [(0, .ref (gad G 58)), (1, .int v1), (2, .int w2), (3, .int w3)] [] s) (v2 : Int32) (v3 : Int32) (s : St) : VO G (RI G b_MD_spared) (H_MD_spared_9 v1 K9 v2 v3 s) 9 [(0, .ref (gad G 58)), (1, .int v1), (2, .int v2), (3, .int v3)] [] s := by
  unfold H_MD_spared_9
  refine VO_iload hC d_MD_spared_9 3 rfl ?_
  refine VO_aload hC d_MD_spared_10 0 rfl ?_
  refine VO_geti hC fl_MD_84 sh_MD rfl d_MD_spared_11 ?_
  refine VO_icmp_ge hC d_MD_spared_14 (fun _ => ?_) (fun _ => ?_)
  · refine VO_aload hC d_MD_spared_48 0 rfl ?_
    refine VO_const hC d_MD_spared_49 ?_
    refine VO_puti hC fw_MD_200 sh_MD rfl d_MD_spared_50 (fun s2 => ?_)
    refine VO_iload hC d_MD_spared_53 2 rfl ?_
    exact VO_ireturn d_MD_spared_54
  · refine VO_aload hC d_MD_spared_17 0 rfl ?_
    refine VO_const hC d_MD_spared_18 ?_
    refine VO_iload hC d_MD_spared_19 3 rfl ?_
    refine VO_ishl hC d_MD_spared_20 ?_
    refine VO_puti hC fw_MD_200 sh_MD rfl d_MD_spared_21 (fun s3 => ?_)
    refine VO_iload hC d_MD_spared_24 2 rfl ?_
    refine VO_aload hC d_MD_spared_25 0 rfl ?_
    refine VO_callVI hC [] [.int v2] ml_MD_299 d_MD_spared_26 yv_MD_monthsNow sh_MD rfl rfl (fun o h => M_MD_monthsNow hC.inj h) (by decide) rfl rfl (Nat.le_of_ble_eq_true rfl) (fun o4 => ?_)
    refine VO_iload hC d_MD_spared_29 1 rfl ?_
    refine VO_icmp_ne hC d_MD_spared_30 (fun _ => ?_) (fun _ => ?_)
    · refine VO_const hC d_MD_spared_33 ?_
      refine VO_iload hC d_MD_spared_34 3 rfl ?_
      refine VO_ishl hC d_MD_spared_35 ?_
      refine VO_goto hC d_MD_spared_36 ?_
      exact VO_sub [0, 1, 3] rfl (B_MD_spared_40 hC K9 hK9 v3 ((1 : Int32) <<< (v3 &&& 31)) v2 o4.2)
    · refine VO_const hC d_MD_spared_39 ?_
      exact VO_sub [0, 1, 3] rfl (B_MD_spared_40 hC K9 hK9 v3 (0 : Int32) v2 o4.2)
set_option maxRecDepth 20000 in
theorem B_MD_spared_9 {G : MCx} (hC : C0 G "AccusedChooseModel" b_MD_spared 4 7) (v1 : Int32) (v2 : Int32) (v3 : Int32) (s : St) : VO G (RI G b_MD_spared) (F_MD_spared_9 v1 v2 v3 s) 9 [(0, .ref (gad G 58)), (1, .int v1), (2, .int v2), (3, .int v3)] [] s := by
  exact VO_fix (G_MD_spared_9 v1) 9 (fun q => [(0, .ref (gad G 58)), (1, .int v1), (2, .int q.1), (3, .int q.2.1)]) (fun q => q.2.2) (fun K hK q => BH_MD_spared_9 hC K (fun w2 w3 s => hK (w2, w3, s)) q.1 q.2.1 q.2.2) FUEL (v2, v3, s)
set_option maxRecDepth 20000 in
theorem B_MD_spared {G : MCx} (hC : C0 G "AccusedChooseModel" b_MD_spared 4 7) (s : St) : VO G (RI G b_MD_spared) (F_MD_spared s) 0 [(0, .ref (gad G 58))] [] s := by
  unfold F_MD_spared
  refine VO_aload hC d_MD_spared_0 0 rfl ?_
  refine VO_callVI hC [] [] ml_MD_299 d_MD_spared_1 yv_MD_monthsNow sh_MD rfl rfl (fun o h => M_MD_monthsNow hC.inj h) (by decide) rfl rfl (Nat.le_of_ble_eq_true rfl) (fun o1 => ?_)
  refine VO_istore hC d_MD_spared_4 [(0, .ref (gad G 58))] rfl (by decide) ?_
  refine VO_const hC d_MD_spared_5 ?_
  refine VO_istore hC d_MD_spared_6 [(1, .int o1.1), (0, .ref (gad G 58))] rfl (by decide) ?_
  refine VO_const hC d_MD_spared_7 ?_
  refine VO_istore hC d_MD_spared_8 [(2, .int (0 : Int32)), (1, .int o1.1), (0, .ref (gad G 58))] rfl (by decide) ?_
  exact VO_sub [3, 2, 1, 0] rfl (B_MD_spared_9 hC o1.1 (0 : Int32) (0 : Int32) o1.2)
set_option maxRecDepth 20000 in
theorem M_MD_spared {l : Launch} {D : va_G} {ad : Nat → Nat} {cI cL : ClassId} (hj : Inj ad) {s : St} {o : Int32 × St} (h : F_MD_spared s = some o) : Cn l D ad cI cL y_MD_spared b_MD_spared 4 (some .int) 7 [.ref (ad 58)] s (some (.int o.1)) o.2 := by
  refine Cn_ofI hj (plainFor_of_name (by decide)) (Nat.le_of_ble_eq_true rfl) [(0, .ref (ad 58))] rfl (fun G hC e1 e2 e3 e4 e5 hR => ?_)
  subst e1; subst e2; subst e3; subst e4; subst e5
  exact B_MD_spared hC s o h hR
theorem d_MD_keeper_0 : PCi b_MD_keeper 0 (-9) 2 := Or.inr (Or.inl ⟨(-9), by decide +kernel, by decide, rfl⟩)
theorem d_MD_keeper_2 : PSi b_MD_keeper 2 1 3 := Or.inl ⟨1, by decide +kernel, rfl, rfl⟩
theorem d_MD_keeper_3 : DR b_MD_keeper 3 (.ldc 87) 2 5 := ⟨by decide +kernel, rfl⟩
theorem d_MD_keeper_5 : PSi b_MD_keeper 5 2 6 := Or.inl ⟨2, by decide +kernel, rfl, rfl⟩
theorem d_MD_keeper_6 : PCi b_MD_keeper 6 0 7 := Or.inl ⟨0, by decide +kernel, by decide, rfl⟩
theorem d_MD_keeper_7 : PSi b_MD_keeper 7 3 8 := Or.inl ⟨3, by decide +kernel, rfl, rfl⟩
theorem d_MD_keeper_8 : PLi b_MD_keeper 8 3 9 := Or.inl ⟨3, by decide +kernel, rfl, rfl⟩
theorem d_MD_keeper_9 : PLa b_MD_keeper 9 0 10 := Or.inl ⟨0, by decide +kernel, rfl, rfl⟩
theorem d_MD_keeper_10 : DR b_MD_keeper 10 (.getfield 90) 3 13 := ⟨by decide +kernel, rfl⟩
theorem d_MD_keeper_13 : DJ b_MD_keeper 13 (.if_icmp .ge) 16 95 := ⟨82, by decide +kernel, rfl, by decide⟩
theorem d_MD_keeper_16 : PLa b_MD_keeper 16 0 17 := Or.inl ⟨0, by decide +kernel, rfl, rfl⟩
theorem d_MD_keeper_17 : DR b_MD_keeper 17 (.getfield 28) 3 20 := ⟨by decide +kernel, rfl⟩
theorem d_MD_keeper_20 : PLi b_MD_keeper 20 3 21 := Or.inl ⟨3, by decide +kernel, rfl, rfl⟩
theorem d_MD_keeper_21 : DR b_MD_keeper 21 (.iaload) 1 22 := ⟨by decide +kernel, rfl⟩
theorem d_MD_keeper_22 : DJ b_MD_keeper 22 (.ifCond .ge) 25 28 := ⟨6, by decide +kernel, rfl, by decide⟩
theorem d_MD_keeper_25 : DJ b_MD_keeper 25 .goto 28 89 := ⟨64, by decide +kernel, rfl, by decide⟩
theorem d_MD_keeper_28 : PLa b_MD_keeper 28 0 29 := Or.inl ⟨0, by decide +kernel, rfl, rfl⟩
theorem d_MD_keeper_29 : DR b_MD_keeper 29 (.invokevirtual 215) 3 32 := ⟨by decide +kernel, rfl⟩
theorem d_MD_keeper_32 : PLa b_MD_keeper 32 0 33 := Or.inl ⟨0, by decide +kernel, rfl, rfl⟩
theorem d_MD_keeper_33 : PLa b_MD_keeper 33 0 34 := Or.inl ⟨0, by decide +kernel, rfl, rfl⟩
theorem d_MD_keeper_34 : DR b_MD_keeper 34 (.getfield 28) 3 37 := ⟨by decide +kernel, rfl⟩
theorem d_MD_keeper_37 : PLi b_MD_keeper 37 3 38 := Or.inl ⟨3, by decide +kernel, rfl, rfl⟩
theorem d_MD_keeper_38 : DR b_MD_keeper 38 (.iaload) 1 39 := ⟨by decide +kernel, rfl⟩
theorem d_MD_keeper_39 : DR b_MD_keeper 39 (.invokevirtual 212) 3 42 := ⟨by decide +kernel, rfl⟩
theorem d_MD_keeper_42 : PSi b_MD_keeper 42 4 44 := Or.inr ⟨by decide +kernel, rfl⟩
theorem d_MD_keeper_44 : PLa b_MD_keeper 44 0 45 := Or.inl ⟨0, by decide +kernel, rfl, rfl⟩
theorem d_MD_keeper_45 : PLi b_MD_keeper 45 3 46 := Or.inl ⟨3, by decide +kernel, rfl, rfl⟩
theorem d_MD_keeper_46 : PLa b_MD_keeper 46 0 47 := Or.inl ⟨0, by decide +kernel, rfl, rfl⟩
theorem d_MD_keeper_47 : DR b_MD_keeper 47 (.getfield 90) 3 50 := ⟨by decide +kernel, rfl⟩
theorem d_MD_keeper_50 : PCi b_MD_keeper 50 1 51 := Or.inl ⟨1, by decide +kernel, by decide, rfl⟩
theorem d_MD_keeper_51 : DR b_MD_keeper 51 (.isub) 1 52 := ⟨by decide +kernel, rfl⟩
theorem d_MD_keeper_52 : DR b_MD_keeper 52 (.invokevirtual 268) 3 55 := ⟨by decide +kernel, rfl⟩
theorem d_MD_keeper_55 : DR b_MD_keeper 55 (.pop) 1 56 := ⟨by decide +kernel, rfl⟩
theorem d_MD_keeper_56 : PLa b_MD_keeper 56 0 57 := Or.inl ⟨0, by decide +kernel, rfl, rfl⟩
theorem d_MD_keeper_57 : PLa b_MD_keeper 57 0 58 := Or.inl ⟨0, by decide +kernel, rfl, rfl⟩
theorem d_MD_keeper_58 : DR b_MD_keeper 58 (.getfield 28) 3 61 := ⟨by decide +kernel, rfl⟩
theorem d_MD_keeper_61 : PLi b_MD_keeper 61 3 62 := Or.inl ⟨3, by decide +kernel, rfl, rfl⟩
theorem d_MD_keeper_62 : DR b_MD_keeper 62 (.iaload) 1 63 := ⟨by decide +kernel, rfl⟩
theorem d_MD_keeper_63 : DR b_MD_keeper 63 (.invokevirtual 212) 3 66 := ⟨by decide +kernel, rfl⟩
theorem d_MD_keeper_66 : PSi b_MD_keeper 66 5 68 := Or.inr ⟨by decide +kernel, rfl⟩
theorem d_MD_keeper_68 : PLi b_MD_keeper 68 5 70 := Or.inr ⟨by decide +kernel, rfl⟩
theorem d_MD_keeper_70 : PLi b_MD_keeper 70 4 72 := Or.inr ⟨by decide +kernel, rfl⟩
theorem d_MD_keeper_72 : DJ b_MD_keeper 72 (.if_icmp .ge) 75 89 := ⟨17, by decide +kernel, rfl, by decide⟩
theorem d_MD_keeper_75 : PLi b_MD_keeper 75 5 77 := Or.inr ⟨by decide +kernel, rfl⟩
theorem d_MD_keeper_77 : PLi b_MD_keeper 77 2 78 := Or.inl ⟨2, by decide +kernel, rfl, rfl⟩
theorem d_MD_keeper_78 : DJ b_MD_keeper 78 (.if_icmp .lt) 81 84 := ⟨6, by decide +kernel, rfl, by decide⟩
theorem d_MD_keeper_81 : DJ b_MD_keeper 81 .goto 84 89 := ⟨8, by decide +kernel, rfl, by decide⟩
theorem d_MD_keeper_84 : PLi b_MD_keeper 84 3 85 := Or.inl ⟨3, by decide +kernel, rfl, rfl⟩
theorem d_MD_keeper_85 : PSi b_MD_keeper 85 1 86 := Or.inl ⟨1, by decide +kernel, rfl, rfl⟩
theorem d_MD_keeper_86 : PLi b_MD_keeper 86 5 88 := Or.inr ⟨by decide +kernel, rfl⟩
theorem d_MD_keeper_88 : PSi b_MD_keeper 88 2 89 := Or.inl ⟨2, by decide +kernel, rfl, rfl⟩
theorem d_MD_keeper_89 : DR b_MD_keeper 89 (.iinc 3 1) 3 92 := ⟨by decide +kernel, rfl⟩
theorem d_MD_keeper_92 : DJ b_MD_keeper 92 .goto 95 8 := ⟨-84, by decide +kernel, rfl, by decide⟩
theorem d_MD_keeper_95 : PLi b_MD_keeper 95 1 96 := Or.inl ⟨1, by decide +kernel, rfl, rfl⟩
theorem d_MD_keeper_96 : DR b_MD_keeper 96 (.ireturn) 1 97 := ⟨by decide +kernel, rfl⟩
set_option maxRecDepth 20000 in
theorem B_MD_keeper_89 {G : MCx} (hC : C0 G "AccusedChooseModel" b_MD_keeper 6 6) (K8 : Int32 × Int32 × Int32 × St → Option (Int32 × St)) (hK8 : ∀ (w1 : Int32) (w2 : Int32) (w3 : Int32) (s : St), VO G (RI G b_MD_keeper) (K8 (w1, w2, w3, s)) 8 [(0, .ref (gad G 58)), (1, .int w1), (2, .int w2), (3, .int w3)] [] s) (v1 : Int32) (v2 : Int32) (v3 : Int32) (s : St) : VO G (RI G b_MD_keeper) (F_MD_keeper_89 K8 v1 v2 v3 s) 89 [(0, .ref (gad G 58)), (1, .int v1), (2, .int v2), (3, .int v3)] [] s := by
  unfold F_MD_keeper_89
  refine VO_iinc hC d_MD_keeper_89 3 rfl (by decide : Int32.ofInt 1 = 1) [(0, .ref (gad G 58)), (1, .int v1), (2, .int v2)] rfl (by decide) ?_
  refine VO_goto hC d_MD_keeper_92 ?_
  exact VO_sub [1, 2, 3, 0] rfl (hK8 v1 v2 (v3 + 1) s)
set_option maxRecDepth 20000 in
theorem BH_MD_keeper_8 {G : MCx} (hC : C0 G "AccusedChooseModel" b_MD_keeper 6 6) (K8 : Int32 × Int32 × Int32 × St → Option (Int32 × St)) (hK8 : ∀ (w1 : Int32) (w2 : Int32) (w3 : Int32) (s : St), VO G (RI G b_MD_keeper) (K8 (w1, w2, w3, s)) 8 [(0, .ref (gad G 58)), (1, .int w1), (2, .int w2), (3, .int w3)] [] s) (v1 : Int32) (v2 : Int32) (v3 : Int32) (s : St) : VO G (RI G b_MD_keeper) (H_MD_keeper_8 K8 v1 v2 v3 s) 8 [(0, .ref (gad G 58)), (1, .int v1), (2, .int v2), (3, .int v3)] [] s := by
  unfold H_MD_keeper_8
  refine VO_iload hC d_MD_keeper_8 3 rfl ?_
  refine VO_aload hC d_MD_keeper_9 0 rfl ?_
  refine VO_geti hC fl_MD_90 sh_MD rfl d_MD_keeper_10 ?_
  refine VO_icmp_ge hC d_MD_keeper_13 (fun _ => ?_) (fun _ => ?_)
  · refine VO_iload hC d_MD_keeper_95 1 rfl ?_
    exact VO_ireturn d_MD_keeper_96
  · refine VO_aload hC d_MD_keeper_16 0 rfl ?_
    refine VO_getr (r := 65) hC fl_MD_28 sh_MD rfl d_MD_keeper_17 ?_
    refine VO_iload hC d_MD_keeper_20 3 rfl ?_
    refine VO_iaload hC ia_65 d_MD_keeper_21 (fun x1 => ?_)
    refine VO_if_ge hC d_MD_keeper_22 (fun _ => ?_) (fun _ => ?_)
    · refine VO_aload hC d_MD_keeper_28 0 rfl ?_
      refine VO_callVV hC [] [] ml_MD_215 d_MD_keeper_29 yv_MD_goes sh_MD rfl rfl (fun o h => M_MD_goes hC.inj h) (by decide) rfl rfl (Nat.le_of_ble_eq_true rfl) (fun s2 => ?_)
      refine VO_aload hC d_MD_keeper_32 0 rfl ?_
      refine VO_aload hC d_MD_keeper_33 0 rfl ?_
      refine VO_getr (r := 65) hC fl_MD_28 sh_MD rfl d_MD_keeper_34 ?_
      refine VO_iload hC d_MD_keeper_37 3 rfl ?_
      refine VO_iaload hC ia_65 d_MD_keeper_38 (fun x3 => ?_)
      refine VO_callVI hC [.int x3] [] ml_MD_212 d_MD_keeper_39 yv_MD_hasMonths sh_MD rfl rfl (fun o h => M_MD_hasMonths hC.inj h) (by decide) rfl rfl (Nat.le_of_ble_eq_true rfl) (fun o4 => ?_)
      refine VO_istore hC d_MD_keeper_42 [(0, .ref (gad G 58)), (1, .int v1), (2, .int v2), (3, .int v3)] rfl (by decide) ?_
      refine VO_aload hC d_MD_keeper_44 1 rfl ?_
      refine VO_iload hC d_MD_keeper_45 4 rfl ?_
      refine VO_aload hC d_MD_keeper_46 1 rfl ?_
      refine VO_geti hC fl_MD_90 sh_MD rfl d_MD_keeper_47 ?_
      refine VO_const hC d_MD_keeper_50 ?_
      refine VO_isub hC d_MD_keeper_51 ?_
      refine VO_callVI hC [.int v3, .int ((rd o4.2 58 10) - (1 : Int32))] [] ml_MD_268 d_MD_keeper_52 yv_MD_monthsAt sh_MD rfl rfl (fun o h => M_MD_monthsAt hC.inj h) (by decide) rfl rfl (Nat.le_of_ble_eq_true rfl) (fun o5 => ?_)
      refine VO_pop hC d_MD_keeper_55 rfl ?_
      refine VO_aload hC d_MD_keeper_56 1 rfl ?_
      refine VO_aload hC d_MD_keeper_57 1 rfl ?_
      refine VO_getr (r := 65) hC fl_MD_28 sh_MD rfl d_MD_keeper_58 ?_
      refine VO_iload hC d_MD_keeper_61 4 rfl ?_
      refine VO_iaload hC ia_65 d_MD_keeper_62 (fun x6 => ?_)
      refine VO_callVI hC [.int x6] [] ml_MD_212 d_MD_keeper_63 yv_MD_hasMonths sh_MD rfl rfl (fun o h => M_MD_hasMonths hC.inj h) (by decide) rfl rfl (Nat.le_of_ble_eq_true rfl) (fun o7 => ?_)
      refine VO_istore hC d_MD_keeper_66 [(4, .int o4.1), (0, .ref (gad G 58)), (1, .int v1), (2, .int v2), (3, .int v3)] rfl (by decide) ?_
      refine VO_iload hC d_MD_keeper_68 0 rfl ?_
      refine VO_iload hC d_MD_keeper_70 1 rfl ?_
      refine VO_icmp_ge hC d_MD_keeper_72 (fun _ => ?_) (fun _ => ?_)
      · exact VO_sub [2, 3, 4, 5] rfl (B_MD_keeper_89 hC K8 hK8 v1 v2 v3 o7.2)
      · refine VO_iload hC d_MD_keeper_75 0 rfl ?_
        refine VO_iload hC d_MD_keeper_77 4 rfl ?_
        refine VO_icmp_lt hC d_MD_keeper_78 (fun _ => ?_) (fun _ => ?_)
        · refine VO_iload hC d_MD_keeper_84 5 rfl ?_
          refine VO_istore hC d_MD_keeper_85 [(5, .int o7.1), (4, .int o4.1), (0, .ref (gad G 58)), (2, .int v2), (3, .int v3)] rfl (by decide) ?_
          refine VO_iload hC d_MD_keeper_86 1 rfl ?_
          refine VO_istore hC d_MD_keeper_88 [(1, .int v3), (5, .int o7.1), (4, .int o4.1), (0, .ref (gad G 58)), (3, .int v3)] rfl (by decide) ?_
          exact VO_sub [4, 1, 0, 5] rfl (B_MD_keeper_89 hC K8 hK8 v3 o7.1 v3 o7.2)
        · refine VO_goto hC d_MD_keeper_81 ?_
          exact VO_sub [2, 3, 4, 5] rfl (B_MD_keeper_89 hC K8 hK8 v1 v2 v3 o7.2)
    · refine VO_goto hC d_MD_keeper_25 ?_
      exact (B_MD_keeper_89 hC K8 hK8 v1 v2 v3 s)
set_option maxRecDepth 20000 in
theorem B_MD_keeper_8 {G : MCx} (hC : C0 G "AccusedChooseModel" b_MD_keeper 6 6) (v1 : Int32) (v2 : Int32) (v3 : Int32) (s : St) : VO G (RI G b_MD_keeper) (F_MD_keeper_8 v1 v2 v3 s) 8 [(0, .ref (gad G 58)), (1, .int v1), (2, .int v2), (3, .int v3)] [] s := by
  exact VO_fix (G_MD_keeper_8) 8 (fun q => [(0, .ref (gad G 58)), (1, .int q.1), (2, .int q.2.1), (3, .int q.2.2.1)]) (fun q => q.2.2.2) (fun K hK q => BH_MD_keeper_8 hC K (fun w1 w2 w3 s => hK (w1, w2, w3, s)) q.1 q.2.1 q.2.2.1 q.2.2.2) FUEL (v1, v2, v3, s)
set_option maxRecDepth 20000 in
theorem B_MD_keeper {G : MCx} (hC : C0 G "AccusedChooseModel" b_MD_keeper 6 6) (s : St) : VO G (RI G b_MD_keeper) (F_MD_keeper s) 0 [(0, .ref (gad G 58))] [] s := by
  unfold F_MD_keeper
  refine VO_const hC d_MD_keeper_0 ?_
  refine VO_istore hC d_MD_keeper_2 [(0, .ref (gad G 58))] rfl (by decide) ?_
  refine VO_ldc hC k_MD_87 d_MD_keeper_3 ?_
  refine VO_istore hC d_MD_keeper_5 [(1, .int (-9 : Int32)), (0, .ref (gad G 58))] rfl (by decide) ?_
  refine VO_const hC d_MD_keeper_6 ?_
  refine VO_istore hC d_MD_keeper_7 [(2, .int (1000000000 : Int32)), (1, .int (-9 : Int32)), (0, .ref (gad G 58))] rfl (by decide) ?_
  exact VO_sub [3, 2, 1, 0] rfl (B_MD_keeper_8 hC (-9 : Int32) (1000000000 : Int32) (0 : Int32) s)
set_option maxRecDepth 20000 in
theorem M_MD_keeper {l : Launch} {D : va_G} {ad : Nat → Nat} {cI cL : ClassId} (hj : Inj ad) {s : St} {o : Int32 × St} (h : F_MD_keeper s = some o) : Cn l D ad cI cL y_MD_keeper b_MD_keeper 6 (some .int) 6 [.ref (ad 58)] s (some (.int o.1)) o.2 := by
  refine Cn_ofI hj (plainFor_of_name (by decide)) (Nat.le_of_ble_eq_true rfl) [(0, .ref (ad 58))] rfl (fun G hC e1 e2 e3 e4 e5 hR => ?_)
  subst e1; subst e2; subst e3; subst e4; subst e5
  exact B_MD_keeper hC s o h hR
