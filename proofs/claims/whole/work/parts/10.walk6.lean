theorem d_MD_person_0 : PLa b_MD_person 0 0 1 := Or.inl ⟨0, by decide +kernel, rfl, rfl⟩
theorem d_MD_person_1 : PLi b_MD_person 1 1 2 := Or.inl ⟨1, by decide +kernel, rfl, rfl⟩
theorem d_MD_person_2 : DR b_MD_person 2 (.invokevirtual 93) 3 5 := ⟨by decide +kernel, rfl⟩
theorem d_MD_person_5 : DJ b_MD_person 5 (.ifCond .ne) 8 14 := ⟨9, by decide +kernel, rfl, by decide⟩
theorem d_MD_person_8 : PLa b_MD_person 8 0 9 := Or.inl ⟨0, by decide +kernel, rfl, rfl⟩
theorem d_MD_person_9 : PCi b_MD_person 9 (-1) 10 := Or.inl ⟨(-1), by decide +kernel, by decide, rfl⟩
theorem d_MD_person_10 : DR b_MD_person 10 (.invokevirtual 104) 3 13 := ⟨by decide +kernel, rfl⟩
theorem d_MD_person_13 : DR b_MD_person 13 (.ireturn) 1 14 := ⟨by decide +kernel, rfl⟩
theorem d_MD_person_14 : PCi b_MD_person 14 0 15 := Or.inl ⟨0, by decide +kernel, by decide, rfl⟩
theorem d_MD_person_15 : PSi b_MD_person 15 3 16 := Or.inl ⟨3, by decide +kernel, rfl, rfl⟩
theorem d_MD_person_16 : PLi b_MD_person 16 2 17 := Or.inl ⟨2, by decide +kernel, rfl, rfl⟩
theorem d_MD_person_17 : decode b_MD_person 17 = .ok (.tableswitch 125 0 6 #[43, 50, 57, 64, 71, 77, 84], 43) := by decide +kernel
theorem d_MD_person_60 : PLa b_MD_person 60 0 61 := Or.inl ⟨0, by decide +kernel, rfl, rfl⟩
theorem d_MD_person_61 : DR b_MD_person 61 (.getfield 19) 3 64 := ⟨by decide +kernel, rfl⟩
theorem d_MD_person_64 : PLi b_MD_person 64 1 65 := Or.inl ⟨1, by decide +kernel, rfl, rfl⟩
theorem d_MD_person_65 : DR b_MD_person 65 (.iaload) 1 66 := ⟨by decide +kernel, rfl⟩
theorem d_MD_person_66 : DR b_MD_person 66 (.ireturn) 1 67 := ⟨by decide +kernel, rfl⟩
theorem d_MD_person_67 : PLa b_MD_person 67 0 68 := Or.inl ⟨0, by decide +kernel, rfl, rfl⟩
theorem d_MD_person_68 : DR b_MD_person 68 (.getfield 22) 3 71 := ⟨by decide +kernel, rfl⟩
theorem d_MD_person_71 : PLi b_MD_person 71 1 72 := Or.inl ⟨1, by decide +kernel, rfl, rfl⟩
theorem d_MD_person_72 : DR b_MD_person 72 (.iaload) 1 73 := ⟨by decide +kernel, rfl⟩
theorem d_MD_person_73 : DR b_MD_person 73 (.ireturn) 1 74 := ⟨by decide +kernel, rfl⟩
theorem d_MD_person_74 : PLa b_MD_person 74 0 75 := Or.inl ⟨0, by decide +kernel, rfl, rfl⟩
theorem d_MD_person_75 : DR b_MD_person 75 (.getfield 25) 3 78 := ⟨by decide +kernel, rfl⟩
theorem d_MD_person_78 : PLi b_MD_person 78 1 79 := Or.inl ⟨1, by decide +kernel, rfl, rfl⟩
theorem d_MD_person_79 : DR b_MD_person 79 (.iaload) 1 80 := ⟨by decide +kernel, rfl⟩
theorem d_MD_person_80 : DR b_MD_person 80 (.ireturn) 1 81 := ⟨by decide +kernel, rfl⟩
theorem d_MD_person_81 : PLa b_MD_person 81 0 82 := Or.inl ⟨0, by decide +kernel, rfl, rfl⟩
theorem d_MD_person_82 : DR b_MD_person 82 (.getfield 28) 3 85 := ⟨by decide +kernel, rfl⟩
theorem d_MD_person_85 : PLi b_MD_person 85 1 86 := Or.inl ⟨1, by decide +kernel, rfl, rfl⟩
theorem d_MD_person_86 : DR b_MD_person 86 (.iaload) 1 87 := ⟨by decide +kernel, rfl⟩
theorem d_MD_person_87 : DR b_MD_person 87 (.ireturn) 1 88 := ⟨by decide +kernel, rfl⟩
theorem d_MD_person_88 : PLa b_MD_person 88 0 89 := Or.inl ⟨0, by decide +kernel, rfl, rfl⟩
theorem d_MD_person_89 : PLi b_MD_person 89 1 90 := Or.inl ⟨1, by decide +kernel, rfl, rfl⟩
theorem d_MD_person_90 : DR b_MD_person 90 (.invokevirtual 177) 3 93 := ⟨by decide +kernel, rfl⟩
theorem d_MD_person_93 : DR b_MD_person 93 (.ireturn) 1 94 := ⟨by decide +kernel, rfl⟩
theorem d_MD_person_94 : PLa b_MD_person 94 0 95 := Or.inl ⟨0, by decide +kernel, rfl, rfl⟩
theorem d_MD_person_95 : DR b_MD_person 95 (.getfield 31) 3 98 := ⟨by decide +kernel, rfl⟩
theorem d_MD_person_98 : PLi b_MD_person 98 1 99 := Or.inl ⟨1, by decide +kernel, rfl, rfl⟩
theorem d_MD_person_99 : DR b_MD_person 99 (.iaload) 1 100 := ⟨by decide +kernel, rfl⟩
theorem d_MD_person_100 : DR b_MD_person 100 (.ireturn) 1 101 := ⟨by decide +kernel, rfl⟩
theorem d_MD_person_101 : PCi b_MD_person 101 0 102 := Or.inl ⟨0, by decide +kernel, by decide, rfl⟩
theorem d_MD_person_102 : PSi b_MD_person 102 4 104 := Or.inr ⟨by decide +kernel, rfl⟩
theorem d_MD_person_104 : PLi b_MD_person 104 4 106 := Or.inr ⟨by decide +kernel, rfl⟩
theorem d_MD_person_106 : PLa b_MD_person 106 0 107 := Or.inl ⟨0, by decide +kernel, rfl, rfl⟩
theorem d_MD_person_107 : DR b_MD_person 107 (.getfield 84) 3 110 := ⟨by decide +kernel, rfl⟩
theorem d_MD_person_110 : DJ b_MD_person 110 (.if_icmp .ge) 113 140 := ⟨30, by decide +kernel, rfl, by decide⟩
theorem d_MD_person_113 : PLi b_MD_person 113 3 114 := Or.inl ⟨3, by decide +kernel, rfl, rfl⟩
theorem d_MD_person_114 : PLa b_MD_person 114 0 115 := Or.inl ⟨0, by decide +kernel, rfl, rfl⟩
theorem d_MD_person_115 : PLi b_MD_person 115 1 116 := Or.inl ⟨1, by decide +kernel, rfl, rfl⟩
theorem d_MD_person_116 : PLi b_MD_person 116 4 118 := Or.inr ⟨by decide +kernel, rfl⟩
theorem d_MD_person_118 : DR b_MD_person 118 (.invokevirtual 191) 3 121 := ⟨by decide +kernel, rfl⟩
theorem d_MD_person_121 : DJ b_MD_person 121 (.ifCond .eq) 124 131 := ⟨10, by decide +kernel, rfl, by decide⟩
theorem d_MD_person_124 : PCi b_MD_person 124 1 125 := Or.inl ⟨1, by decide +kernel, by decide, rfl⟩
theorem d_MD_person_125 : PLi b_MD_person 125 4 127 := Or.inr ⟨by decide +kernel, rfl⟩
theorem d_MD_person_127 : DR b_MD_person 127 (.ishl) 1 128 := ⟨by decide +kernel, rfl⟩
theorem d_MD_person_128 : DJ b_MD_person 128 .goto 131 132 := ⟨4, by decide +kernel, rfl, by decide⟩
theorem d_MD_person_131 : PCi b_MD_person 131 0 132 := Or.inl ⟨0, by decide +kernel, by decide, rfl⟩
theorem d_MD_person_132 : DR b_MD_person 132 (.ior) 1 133 := ⟨by decide +kernel, rfl⟩
theorem d_MD_person_133 : PSi b_MD_person 133 3 134 := Or.inl ⟨3, by decide +kernel, rfl, rfl⟩
theorem d_MD_person_134 : DR b_MD_person 134 (.iinc 4 1) 3 137 := ⟨by decide +kernel, rfl⟩
theorem d_MD_person_137 : DJ b_MD_person 137 .goto 140 104 := ⟨-33, by decide +kernel, rfl, by decide⟩
theorem d_MD_person_140 : PLi b_MD_person 140 3 141 := Or.inl ⟨3, by decide +kernel, rfl, rfl⟩
theorem d_MD_person_141 : DR b_MD_person 141 (.ireturn) 1 142 := ⟨by decide +kernel, rfl⟩
theorem d_MD_person_142 : PLa b_MD_person 142 0 143 := Or.inl ⟨0, by decide +kernel, rfl, rfl⟩
theorem d_MD_person_143 : PCi b_MD_person 143 (-2) 145 := Or.inr (Or.inl ⟨(-2), by decide +kernel, by decide, rfl⟩)
theorem d_MD_person_145 : DR b_MD_person 145 (.invokevirtual 104) 3 148 := ⟨by decide +kernel, rfl⟩
theorem d_MD_person_148 : DR b_MD_person 148 (.ireturn) 1 149 := ⟨by decide +kernel, rfl⟩
set_option maxRecDepth 20000 in
theorem B_MD_person_132 {G : MCx} (hC : C0 G "AccusedChooseModel" b_MD_person 5 3) {v1 : Int32} (K104 : Int32 × Int32 × St → Option (Int32 × St)) (hK104 : ∀ (w3 : Int32) (w4 : Int32) (s : St), VO G (RI G b_MD_person) (K104 (w3, w4, s)) 104 [(0, .ref (gad G 58)), (1, .int v1), (3, .int w3), (4, .int w4)] [] s) (v4 : Int32) (z0 : Int32) (z1 : Int32) (s : St) : VO G (RI G b_MD_person) (F_MD_person_132 K104 v1 v4 z0 z1 s) 132 [(0, .ref (gad G 58)), (1, .int v1), (4, .int v4)] [.int z0, .int z1] s := by
  unfold F_MD_person_132
  refine VO_ior hC d_MD_person_132 ?_
  refine VO_istoreB hC d_MD_person_133 [(0, .ref (gad G 58)), (1, .int v1), (4, .int v4)] rfl (by decide) (fun x9 => ?_)
  refine VO_iinc hC d_MD_person_134 3 rfl (by decide : Int32.ofInt 1 = 1) [(3, .int x9), (0, .ref (gad G 58)), (1, .int v1)] rfl (by decide) ?_
  refine VO_goto hC d_MD_person_137 ?_
  exact VO_sub [2, 3, 1, 0] rfl (hK104 x9 (v4 + 1) s)
set_option maxRecDepth 20000 in
theorem BH_MD_person_104 {G : MCx} (hC : C0 G "AccusedChooseModel" b_MD_person 5 3) {v1 : Int32} (K104 : Int32 × Int32 × St → Option (Int32 × St)) (hK104 : ∀ (w3 : Int32) (w4 : Int32) (s : St), VO G (RI G b_MD_person) (K104 (w3, w4, s)) 104 [(0, .ref (gad G 58)), (1, .int v1), (3, .int w3), (4, .int w4)] [] s) (v3 : Int32) (v4 : Int32) (s : St) : VO G (RI G b_MD_person) (H_MD_person_104 v1 K104 v3 v4 s) 104 [(0, .ref (gad G 58)), (1, .int v1), (3, .int v3), (4, .int v4)] [] s := by
  unfold H_MD_person_104
  refine VO_iload hC d_MD_person_104 3 rfl ?_
  refine VO_aload hC d_MD_person_106 0 rfl ?_
  refine VO_geti hC fl_MD_84 sh_MD rfl d_MD_person_107 ?_
  refine VO_icmp_ge hC d_MD_person_110 (fun _ => ?_) (fun _ => ?_)
  · refine VO_iload hC d_MD_person_140 2 rfl ?_
    exact VO_ireturn d_MD_person_141
  · refine VO_iload hC d_MD_person_113 2 rfl ?_
    refine VO_aload hC d_MD_person_114 0 rfl ?_
    refine VO_iload hC d_MD_person_115 1 rfl ?_
    refine VO_iload hC d_MD_person_116 3 rfl ?_
    refine VO_callVI hC [.int v1, .int v4] [.int v3] ml_MD_191 d_MD_person_118 yv_MD_may sh_MD rfl rfl (fun o h => M_MD_may hC.inj h) (by decide) rfl rfl (Nat.le_of_ble_eq_true rfl) (fun o8 => ?_)
    refine VO_if_eq hC d_MD_person_121 (fun _ => ?_) (fun _ => ?_)
    · refine VO_const hC d_MD_person_131 ?_
      exact VO_sub [0, 1, 3] rfl (B_MD_person_132 hC K104 hK104 v4 (0 : Int32) v3 o8.2)
    · refine VO_const hC d_MD_person_124 ?_
      refine VO_iload hC d_MD_person_125 3 rfl ?_
      refine VO_ishl hC d_MD_person_127 ?_
      refine VO_goto hC d_MD_person_128 ?_
      exact VO_sub [0, 1, 3] rfl (B_MD_person_132 hC K104 hK104 v4 ((1 : Int32) <<< (v4 &&& 31)) v3 o8.2)
set_option maxRecDepth 20000 in
theorem B_MD_person_104 {G : MCx} (hC : C0 G "AccusedChooseModel" b_MD_person 5 3) (v1 : Int32) (v3 : Int32) (v4 : Int32) (s : St) : VO G (RI G b_MD_person) (F_MD_person_104 v1 v3 v4 s) 104 [(0, .ref (gad G 58)), (1, .int v1), (3, .int v3), (4, .int v4)] [] s := by
  exact VO_fix (G_MD_person_104 v1) 104 (fun q => [(0, .ref (gad G 58)), (1, .int v1), (3, .int q.1), (4, .int q.2.1)]) (fun q => q.2.2) (fun K hK q => BH_MD_person_104 hC K (fun w3 w4 s => hK (w3, w4, s)) q.1 q.2.1 q.2.2) FUEL (v3, v4, s)
set_option maxRecDepth 20000 in
theorem B_MD_person {G : MCx} (hC : C0 G "AccusedChooseModel" b_MD_person 5 3) (a1 : Int32) (a2 : Int32) (s : St) : VO G (RI G b_MD_person) (F_MD_person a1 a2 s) 0 [(0, .ref (gad G 58)), (1, .int a1), (2, .int a2)] [] s := by
  unfold F_MD_person
  refine VO_aload hC d_MD_person_0 0 rfl ?_
  refine VO_iload hC d_MD_person_1 1 rfl ?_
  refine VO_callVI hC [.int a1] [] ml_MD_93 d_MD_person_2 yv_MD_isPerson sh_MD rfl rfl (fun o h => M_MD_isPerson hC.inj h) (by decide) rfl rfl (Nat.le_of_ble_eq_true rfl) (fun o1 => ?_)
  refine VO_if_ne hC d_MD_person_5 (fun _ => ?_) (fun _ => ?_)
  · refine VO_aload hC d_MD_person_8 0 rfl ?_
    refine VO_const hC d_MD_person_9 ?_
    refine VO_callVI hC [.int (-1 : Int32)] [] ml_MD_104 d_MD_person_10 yv_MD_no sh_MD rfl rfl (fun o h => M_MD_no hC.inj h) (by decide) rfl rfl (Nat.le_of_ble_eq_true rfl) (fun o11 => ?_)
    exact VO_ireturn d_MD_person_13
  · refine VO_const hC d_MD_person_14 ?_
    refine VO_istore hC d_MD_person_15 [(0, .ref (gad G 58)), (1, .int a1), (2, .int a2)] rfl (by decide) ?_
    refine VO_iload hC d_MD_person_16 3 rfl ?_
    refine VO_ite (fun c17_0 => ?_) (fun c17_0 => ?_)
    · refine VO_tin (tgt := 60) (off := (43 : Int)) hC d_MD_person_17 (by rw [c17_0]; decide) (by rw [c17_0]; decide) (by first | (rw [c17_0]; done) | (rw [c17_0]; rfl)) (by decide) ?_
      refine VO_aload hC d_MD_person_60 1 rfl ?_
      refine VO_getr (r := 62) hC fl_MD_19 sh_MD rfl d_MD_person_61 ?_
      refine VO_iload hC d_MD_person_64 2 rfl ?_
      refine VO_iaload hC ia_62 d_MD_person_65 (fun x2 => ?_)
      exact VO_ireturn d_MD_person_66
    refine VO_ite (fun c17_1 => ?_) (fun c17_1 => ?_)
    · refine VO_tin (tgt := 67) (off := (50 : Int)) hC d_MD_person_17 (by rw [c17_1]; decide) (by rw [c17_1]; decide) (by first | (rw [c17_1]; done) | (rw [c17_1]; rfl)) (by decide) ?_
      refine VO_aload hC d_MD_person_67 1 rfl ?_
      refine VO_getr (r := 63) hC fl_MD_22 sh_MD rfl d_MD_person_68 ?_
      refine VO_iload hC d_MD_person_71 2 rfl ?_
      refine VO_iaload hC ia_63 d_MD_person_72 (fun x3 => ?_)
      exact VO_ireturn d_MD_person_73
    refine VO_ite (fun c17_2 => ?_) (fun c17_2 => ?_)
    · refine VO_tin (tgt := 74) (off := (57 : Int)) hC d_MD_person_17 (by rw [c17_2]; decide) (by rw [c17_2]; decide) (by first | (rw [c17_2]; done) | (rw [c17_2]; rfl)) (by decide) ?_
      refine VO_aload hC d_MD_person_74 1 rfl ?_
      refine VO_getr (r := 64) hC fl_MD_25 sh_MD rfl d_MD_person_75 ?_
      refine VO_iload hC d_MD_person_78 2 rfl ?_
      refine VO_iaload hC ia_64 d_MD_person_79 (fun x4 => ?_)
      exact VO_ireturn d_MD_person_80
    refine VO_ite (fun c17_3 => ?_) (fun c17_3 => ?_)
    · refine VO_tin (tgt := 81) (off := (64 : Int)) hC d_MD_person_17 (by rw [c17_3]; decide) (by rw [c17_3]; decide) (by first | (rw [c17_3]; done) | (rw [c17_3]; rfl)) (by decide) ?_
      refine VO_aload hC d_MD_person_81 1 rfl ?_
      refine VO_getr (r := 65) hC fl_MD_28 sh_MD rfl d_MD_person_82 ?_
      refine VO_iload hC d_MD_person_85 2 rfl ?_
      refine VO_iaload hC ia_65 d_MD_person_86 (fun x5 => ?_)
      exact VO_ireturn d_MD_person_87
    refine VO_ite (fun c17_4 => ?_) (fun c17_4 => ?_)
    · refine VO_tin (tgt := 88) (off := (71 : Int)) hC d_MD_person_17 (by rw [c17_4]; decide) (by rw [c17_4]; decide) (by first | (rw [c17_4]; done) | (rw [c17_4]; rfl)) (by decide) ?_
      refine VO_aload hC d_MD_person_88 1 rfl ?_
      refine VO_iload hC d_MD_person_89 2 rfl ?_
      refine VO_callVI hC [.int a1] [] ml_MD_177 d_MD_person_90 yv_MD_placeOf sh_MD rfl rfl (fun o h => M_MD_placeOf hC.inj h) (by decide) rfl rfl (Nat.le_of_ble_eq_true rfl) (fun o6 => ?_)
      exact VO_ireturn d_MD_person_93
    refine VO_ite (fun c17_5 => ?_) (fun c17_5 => ?_)
    · refine VO_tin (tgt := 94) (off := (77 : Int)) hC d_MD_person_17 (by rw [c17_5]; decide) (by rw [c17_5]; decide) (by first | (rw [c17_5]; done) | (rw [c17_5]; rfl)) (by decide) ?_
      refine VO_aload hC d_MD_person_94 1 rfl ?_
      refine VO_getr (r := 66) hC fl_MD_31 sh_MD rfl d_MD_person_95 ?_
      refine VO_iload hC d_MD_person_98 2 rfl ?_
      refine VO_iaload hC ia_66 d_MD_person_99 (fun x7 => ?_)
      exact VO_ireturn d_MD_person_100
    refine VO_ite (fun c17_6 => ?_) (fun c17_6 => ?_)
    · refine VO_tin (tgt := 101) (off := (84 : Int)) hC d_MD_person_17 (by rw [c17_6]; decide) (by rw [c17_6]; decide) (by first | (rw [c17_6]; done) | (rw [c17_6]; rfl)) (by decide) ?_
      refine VO_const hC d_MD_person_101 ?_
      refine VO_istore hC d_MD_person_102 [(3, .int (0 : Int32)), (0, .ref (gad G 58)), (1, .int a1), (2, .int a2)] rfl (by decide) ?_
      exact VO_sub [2, 3, 1, 0] rfl (B_MD_person_104 hC a1 (0 : Int32) (0 : Int32) o1.2)
    refine VO_tout (tgt := 142) hC d_MD_person_17 (by have e0 := lv_neT (a := 0) c17_0 rfl; have e1 := lv_neT (a := 1) c17_1 rfl; have e2 := lv_neT (a := 2) c17_2 rfl; have e3 := lv_neT (a := 3) c17_3 rfl; have e4 := lv_neT (a := 4) c17_4 rfl; have e5 := lv_neT (a := 5) c17_5 rfl; have e6 := lv_neT (a := 6) c17_6 rfl; omega) (by decide) ?_
    refine VO_aload hC d_MD_person_142 1 rfl ?_
    refine VO_const hC d_MD_person_143 ?_
    refine VO_callVI hC [.int (-2 : Int32)] [] ml_MD_104 d_MD_person_145 yv_MD_no sh_MD rfl rfl (fun o h => M_MD_no hC.inj h) (by decide) rfl rfl (Nat.le_of_ble_eq_true rfl) (fun o10 => ?_)
    exact VO_ireturn d_MD_person_148
set_option maxRecDepth 20000 in
theorem M_MD_person {l : Launch} {D : va_G} {ad : Nat → Nat} {cI cL : ClassId} (hj : Inj ad) {a1 : Int32} {a2 : Int32} {s : St} {o : Int32 × St} (h : F_MD_person a1 a2 s = some o) : Cn l D ad cI cL y_MD_person b_MD_person 5 (some .int) 3 [.ref (ad 58), .int a1, .int a2] s (some (.int o.1)) o.2 := by
  refine Cn_ofI hj (plainFor_of_name (by decide)) (Nat.le_of_ble_eq_true rfl) [(0, .ref (ad 58)), (1, .int a1), (2, .int a2)] rfl (fun G hC e1 e2 e3 e4 e5 hR => ?_)
  subst e1; subst e2; subst e3; subst e4; subst e5
  exact B_MD_person hC a1 a2 s o h hR
theorem d_MD_months_0 : PLa b_MD_months 0 0 1 := Or.inl ⟨0, by decide +kernel, rfl, rfl⟩
theorem d_MD_months_1 : PLi b_MD_months 1 1 2 := Or.inl ⟨1, by decide +kernel, rfl, rfl⟩
theorem d_MD_months_2 : DR b_MD_months 2 (.invokevirtual 93) 3 5 := ⟨by decide +kernel, rfl⟩
theorem d_MD_months_5 : DJ b_MD_months 5 (.ifCond .eq) 8 25 := ⟨20, by decide +kernel, rfl, by decide⟩
theorem d_MD_months_8 : PLa b_MD_months 8 0 9 := Or.inl ⟨0, by decide +kernel, rfl, rfl⟩
theorem d_MD_months_9 : PLi b_MD_months 9 2 10 := Or.inl ⟨2, by decide +kernel, rfl, rfl⟩
theorem d_MD_months_10 : DR b_MD_months 10 (.invokevirtual 140) 3 13 := ⟨by decide +kernel, rfl⟩
theorem d_MD_months_13 : DJ b_MD_months 13 (.ifCond .eq) 16 25 := ⟨12, by decide +kernel, rfl, by decide⟩
theorem d_MD_months_16 : PLa b_MD_months 16 0 17 := Or.inl ⟨0, by decide +kernel, rfl, rfl⟩
theorem d_MD_months_17 : PLi b_MD_months 17 1 18 := Or.inl ⟨1, by decide +kernel, rfl, rfl⟩
theorem d_MD_months_18 : PLi b_MD_months 18 2 19 := Or.inl ⟨2, by decide +kernel, rfl, rfl⟩
theorem d_MD_months_19 : DR b_MD_months 19 (.invokevirtual 194) 3 22 := ⟨by decide +kernel, rfl⟩
theorem d_MD_months_22 : DJ b_MD_months 22 .goto 25 30 := ⟨8, by decide +kernel, rfl, by decide⟩
theorem d_MD_months_25 : PLa b_MD_months 25 0 26 := Or.inl ⟨0, by decide +kernel, rfl, rfl⟩
theorem d_MD_months_26 : PCi b_MD_months 26 (-1) 27 := Or.inl ⟨(-1), by decide +kernel, by decide, rfl⟩
theorem d_MD_months_27 : DR b_MD_months 27 (.invokevirtual 104) 3 30 := ⟨by decide +kernel, rfl⟩
theorem d_MD_months_30 : DR b_MD_months 30 (.ireturn) 1 31 := ⟨by decide +kernel, rfl⟩
set_option maxRecDepth 20000 in
theorem B_MD_months_25 {G : MCx} (hC : C0 G "AccusedChooseModel" b_MD_months 3 3) (s : St) : VO G (RI G b_MD_months) (F_MD_months_25 s) 25 [(0, .ref (gad G 58))] [] s := by
  unfold F_MD_months_25
  refine VO_aload hC d_MD_months_25 0 rfl ?_
  refine VO_const hC d_MD_months_26 ?_
  refine VO_callVI hC [.int (-1 : Int32)] [] ml_MD_104 d_MD_months_27 yv_MD_no sh_MD rfl rfl (fun o h => M_MD_no hC.inj h) (by decide) rfl rfl (Nat.le_of_ble_eq_true rfl) (fun o2 => ?_)
  exact VO_ireturn d_MD_months_30
set_option maxRecDepth 20000 in
theorem B_MD_months {G : MCx} (hC : C0 G "AccusedChooseModel" b_MD_months 3 3) (a1 : Int32) (a2 : Int32) (s : St) : VO G (RI G b_MD_months) (F_MD_months a1 a2 s) 0 [(0, .ref (gad G 58)), (1, .int a1), (2, .int a2)] [] s := by
  unfold F_MD_months
  refine VO_aload hC d_MD_months_0 0 rfl ?_
  refine VO_iload hC d_MD_months_1 1 rfl ?_
  refine VO_callVI hC [.int a1] [] ml_MD_93 d_MD_months_2 yv_MD_isPerson sh_MD rfl rfl (fun o h => M_MD_isPerson hC.inj h) (by decide) rfl rfl (Nat.le_of_ble_eq_true rfl) (fun o1 => ?_)
  refine VO_if_eq hC d_MD_months_5 (fun _ => ?_) (fun _ => ?_)
  · exact VO_sub [0] rfl (B_MD_months_25 hC o1.2)
  · refine VO_aload hC d_MD_months_8 0 rfl ?_
    refine VO_iload hC d_MD_months_9 2 rfl ?_
    refine VO_callVI hC [.int a2] [] ml_MD_140 d_MD_months_10 yv_MD_isDeed sh_MD rfl rfl (fun o h => M_MD_isDeed hC.inj h) (by decide) rfl rfl (Nat.le_of_ble_eq_true rfl) (fun o3 => ?_)
    refine VO_if_eq hC d_MD_months_13 (fun _ => ?_) (fun _ => ?_)
    · exact VO_sub [0] rfl (B_MD_months_25 hC o3.2)
    · refine VO_aload hC d_MD_months_16 0 rfl ?_
      refine VO_iload hC d_MD_months_17 1 rfl ?_
      refine VO_iload hC d_MD_months_18 2 rfl ?_
      refine VO_callVI hC [.int a1, .int a2] [] ml_MD_194 d_MD_months_19 yv_MD_monthsOf sh_MD rfl rfl (fun o h => M_MD_monthsOf hC.inj h) (by decide) rfl rfl (Nat.le_of_ble_eq_true rfl) (fun o4 => ?_)
      refine VO_goto hC d_MD_months_22 ?_
      exact VO_ireturn d_MD_months_30
set_option maxRecDepth 20000 in
theorem M_MD_months {l : Launch} {D : va_G} {ad : Nat → Nat} {cI cL : ClassId} (hj : Inj ad) {a1 : Int32} {a2 : Int32} {s : St} {o : Int32 × St} (h : F_MD_months a1 a2 s = some o) : Cn l D ad cI cL y_MD_months b_MD_months 3 (some .int) 3 [.ref (ad 58), .int a1, .int a2] s (some (.int o.1)) o.2 := by
  refine Cn_ofI hj (plainFor_of_name (by decide)) (Nat.le_of_ble_eq_true rfl) [(0, .ref (ad 58)), (1, .int a1), (2, .int a2)] rfl (fun G hC e1 e2 e3 e4 e5 hR => ?_)
  subst e1; subst e2; subst e3; subst e4; subst e5
  exact B_MD_months hC a1 a2 s o h hR
theorem d_MD_addDeed_0 : PLi b_MD_addDeed 0 1 1 := Or.inl ⟨1, by decide +kernel, rfl, rfl⟩
theorem d_MD_addDeed_1 : PCi b_MD_addDeed 1 0 2 := Or.inl ⟨0, by decide +kernel, by decide, rfl⟩
theorem d_MD_addDeed_2 : PCi b_MD_addDeed 2 5 3 := Or.inl ⟨5, by decide +kernel, by decide, rfl⟩
theorem d_MD_addDeed_3 : DR b_MD_addDeed 3 (.invokestatic 115) 3 6 := ⟨by decide +kernel, rfl⟩
theorem d_MD_addDeed_6 : DJ b_MD_addDeed 6 (.ifCond .ne) 9 14 := ⟨8, by decide +kernel, rfl, by decide⟩
theorem d_MD_addDeed_9 : PCi b_MD_addDeed 9 (-2) 11 := Or.inr (Or.inl ⟨(-2), by decide +kernel, by decide, rfl⟩)
theorem d_MD_addDeed_11 : DJ b_MD_addDeed 11 .goto 14 21 := ⟨10, by decide +kernel, rfl, by decide⟩
theorem d_MD_addDeed_14 : PLi b_MD_addDeed 14 2 15 := Or.inl ⟨2, by decide +kernel, rfl, rfl⟩
theorem d_MD_addDeed_15 : PCi b_MD_addDeed 15 0 16 := Or.inl ⟨0, by decide +kernel, by decide, rfl⟩
theorem d_MD_addDeed_16 : PCi b_MD_addDeed 16 9 18 := Or.inr (Or.inl ⟨9, by decide +kernel, by decide, rfl⟩)
theorem d_MD_addDeed_18 : DR b_MD_addDeed 18 (.invokestatic 97) 3 21 := ⟨by decide +kernel, rfl⟩
theorem d_MD_addDeed_21 : PSi b_MD_addDeed 21 3 22 := Or.inl ⟨3, by decide +kernel, rfl, rfl⟩
theorem d_MD_addDeed_22 : PLi b_MD_addDeed 22 3 23 := Or.inl ⟨3, by decide +kernel, rfl, rfl⟩
theorem d_MD_addDeed_23 : DJ b_MD_addDeed 23 (.ifCond .ne) 26 38 := ⟨15, by decide +kernel, rfl, by decide⟩
theorem d_MD_addDeed_26 : PLa b_MD_addDeed 26 0 27 := Or.inl ⟨0, by decide +kernel, rfl, rfl⟩
theorem d_MD_addDeed_27 : DR b_MD_addDeed 27 (.getfield 84) 3 30 := ⟨by decide +kernel, rfl⟩
theorem d_MD_addDeed_30 : PCi b_MD_addDeed 30 7 32 := Or.inr (Or.inl ⟨7, by decide +kernel, by decide, rfl⟩)
theorem d_MD_addDeed_32 : DJ b_MD_addDeed 32 (.if_icmp .ne) 35 38 := ⟨6, by decide +kernel, rfl, by decide⟩
theorem d_MD_addDeed_35 : PCi b_MD_addDeed 35 (-6) 37 := Or.inr (Or.inl ⟨(-6), by decide +kernel, by decide, rfl⟩)
theorem d_MD_addDeed_37 : PSi b_MD_addDeed 37 3 38 := Or.inl ⟨3, by decide +kernel, rfl, rfl⟩
theorem d_MD_addDeed_38 : PLi b_MD_addDeed 38 3 39 := Or.inl ⟨3, by decide +kernel, rfl, rfl⟩
theorem d_MD_addDeed_39 : DJ b_MD_addDeed 39 (.ifCond .eq) 42 48 := ⟨9, by decide +kernel, rfl, by decide⟩
theorem d_MD_addDeed_42 : PLa b_MD_addDeed 42 0 43 := Or.inl ⟨0, by decide +kernel, rfl, rfl⟩
theorem d_MD_addDeed_43 : PLi b_MD_addDeed 43 3 44 := Or.inl ⟨3, by decide +kernel, rfl, rfl⟩
theorem d_MD_addDeed_44 : DR b_MD_addDeed 44 (.invokevirtual 104) 3 47 := ⟨by decide +kernel, rfl⟩
theorem d_MD_addDeed_47 : DR b_MD_addDeed 47 (.ireturn) 1 48 := ⟨by decide +kernel, rfl⟩
theorem d_MD_addDeed_48 : PLa b_MD_addDeed 48 0 49 := Or.inl ⟨0, by decide +kernel, rfl, rfl⟩
theorem d_MD_addDeed_49 : PCi b_MD_addDeed 49 0 50 := Or.inl ⟨0, by decide +kernel, by decide, rfl⟩
theorem d_MD_addDeed_50 : DR b_MD_addDeed 50 (.putfield 157) 3 53 := ⟨by decide +kernel, rfl⟩
theorem d_MD_addDeed_53 : PLa b_MD_addDeed 53 0 54 := Or.inl ⟨0, by decide +kernel, rfl, rfl⟩
theorem d_MD_addDeed_54 : PLi b_MD_addDeed 54 1 55 := Or.inl ⟨1, by decide +kernel, rfl, rfl⟩
theorem d_MD_addDeed_55 : PLi b_MD_addDeed 55 2 56 := Or.inl ⟨2, by decide +kernel, rfl, rfl⟩
theorem d_MD_addDeed_56 : DR b_MD_addDeed 56 (.invokevirtual 126) 3 59 := ⟨by decide +kernel, rfl⟩
theorem d_MD_addDeed_59 : PLa b_MD_addDeed 59 0 60 := Or.inl ⟨0, by decide +kernel, rfl, rfl⟩
theorem d_MD_addDeed_60 : DR b_MD_addDeed 60 (.getfield 84) 3 63 := ⟨by decide +kernel, rfl⟩
theorem d_MD_addDeed_63 : PCi b_MD_addDeed 63 1 64 := Or.inl ⟨1, by decide +kernel, by decide, rfl⟩
theorem d_MD_addDeed_64 : DR b_MD_addDeed 64 (.isub) 1 65 := ⟨by decide +kernel, rfl⟩
theorem d_MD_addDeed_65 : DR b_MD_addDeed 65 (.ireturn) 1 66 := ⟨by decide +kernel, rfl⟩
set_option maxRecDepth 20000 in
theorem B_MD_addDeed_38 {G : MCx} (hC : C0 G "AccusedChooseModel" b_MD_addDeed 4 2) (v1 : Int32) (v2 : Int32) (v3 : Int32) (s : St) : VO G (RI G b_MD_addDeed) (F_MD_addDeed_38 v1 v2 v3 s) 38 [(0, .ref (gad G 58)), (1, .int v1), (2, .int v2), (3, .int v3)] [] s := by
  unfold F_MD_addDeed_38
  refine VO_iload hC d_MD_addDeed_38 3 rfl ?_
  refine VO_if_eq hC d_MD_addDeed_39 (fun _ => ?_) (fun _ => ?_)
  · refine VO_aload hC d_MD_addDeed_48 0 rfl ?_
    refine VO_const hC d_MD_addDeed_49 ?_
    refine VO_puti hC fw_MD_157 sh_MD rfl d_MD_addDeed_50 (fun s3 => ?_)
    refine VO_aload hC d_MD_addDeed_53 0 rfl ?_
    refine VO_iload hC d_MD_addDeed_54 1 rfl ?_
    refine VO_iload hC d_MD_addDeed_55 2 rfl ?_
    refine VO_callVV hC [.int v1, .int v2] [] ml_MD_126 d_MD_addDeed_56 yv_MD_addsDeed sh_MD rfl rfl (fun o h => M_MD_addsDeed hC.inj h) (by decide) rfl rfl (Nat.le_of_ble_eq_true rfl) (fun s4 => ?_)
    refine VO_aload hC d_MD_addDeed_59 0 rfl ?_
    refine VO_geti hC fl_MD_84 sh_MD rfl d_MD_addDeed_60 ?_
    refine VO_const hC d_MD_addDeed_63 ?_
    refine VO_isub hC d_MD_addDeed_64 ?_
    exact VO_ireturn d_MD_addDeed_65
  · refine VO_aload hC d_MD_addDeed_42 0 rfl ?_
    refine VO_iload hC d_MD_addDeed_43 3 rfl ?_
    refine VO_callVI hC [.int v3] [] ml_MD_104 d_MD_addDeed_44 yv_MD_no sh_MD rfl rfl (fun o h => M_MD_no hC.inj h) (by decide) rfl rfl (Nat.le_of_ble_eq_true rfl) (fun o5 => ?_)
    exact VO_ireturn d_MD_addDeed_47
set_option maxRecDepth 20000 in
theorem B_MD_addDeed_21 {G : MCx} (hC : C0 G "AccusedChooseModel" b_MD_addDeed 4 2) (v1 : Int32) (v2 : Int32) (z0 : Int32) (s : St) : VO G (RI G b_MD_addDeed) (F_MD_addDeed_21 v1 v2 z0 s) 21 [(0, .ref (gad G 58)), (1, .int v1), (2, .int v2)] [.int z0] s := by
  unfold F_MD_addDeed_21
  refine VO_istore hC d_MD_addDeed_21 [(0, .ref (gad G 58)), (1, .int v1), (2, .int v2)] rfl (by decide) ?_
  refine VO_iload hC d_MD_addDeed_22 0 rfl ?_
  refine VO_if_ne hC d_MD_addDeed_23 (fun _ => ?_) (fun _ => ?_)
  · refine VO_aload hC d_MD_addDeed_26 1 rfl ?_
    refine VO_geti hC fl_MD_84 sh_MD rfl d_MD_addDeed_27 ?_
    refine VO_const hC d_MD_addDeed_30 ?_
    refine VO_icmp_ne hC d_MD_addDeed_32 (fun _ => ?_) (fun _ => ?_)
    · refine VO_const hC d_MD_addDeed_35 ?_
      refine VO_istore hC d_MD_addDeed_37 [(0, .ref (gad G 58)), (1, .int v1), (2, .int v2)] rfl (by decide) ?_
      exact VO_sub [1, 2, 3, 0] rfl (B_MD_addDeed_38 hC v1 v2 (-6 : Int32) s)
    · exact VO_sub [1, 2, 3, 0] rfl (B_MD_addDeed_38 hC v1 v2 z0 s)
  · exact VO_sub [1, 2, 3, 0] rfl (B_MD_addDeed_38 hC v1 v2 z0 s)
set_option maxRecDepth 20000 in
theorem B_MD_addDeed {G : MCx} (hC : C0 G "AccusedChooseModel" b_MD_addDeed 4 2) (a1 : Int32) (a2 : Int32) (s : St) : VO G (RI G b_MD_addDeed) (F_MD_addDeed a1 a2 s) 0 [(0, .ref (gad G 58)), (1, .int a1), (2, .int a2)] [] s := by
  unfold F_MD_addDeed
  refine VO_iload hC d_MD_addDeed_0 1 rfl ?_
  refine VO_const hC d_MD_addDeed_1 ?_
  refine VO_const hC d_MD_addDeed_2 ?_
  refine VO_callSI hC [.int a1, .int (0 : Int32), .int (5 : Int32)] [] ml_MD_115 d_MD_addDeed_3 ys_MD_isIn (fun o h => M_MD_isIn hC.inj h) (by decide) rfl rfl (Nat.le_of_ble_eq_true rfl) (fun o1 => ?_)
  refine VO_if_ne hC d_MD_addDeed_6 (fun _ => ?_) (fun _ => ?_)
  · refine VO_const hC d_MD_addDeed_9 ?_
    refine VO_goto hC d_MD_addDeed_11 ?_
    exact (B_MD_addDeed_21 hC a1 a2 (-2 : Int32) o1.2)
  · refine VO_iload hC d_MD_addDeed_14 2 rfl ?_
    refine VO_const hC d_MD_addDeed_15 ?_
    refine VO_const hC d_MD_addDeed_16 ?_
    refine VO_callSI hC [.int a2, .int (0 : Int32), .int (9 : Int32)] [] ml_MD_97 d_MD_addDeed_18 ys_MD_bound (fun o h => M_MD_bound hC.inj h) (by decide) rfl rfl (Nat.le_of_ble_eq_true rfl) (fun o2 => ?_)
    exact (B_MD_addDeed_21 hC a1 a2 o2.1 o2.2)
set_option maxRecDepth 20000 in
theorem M_MD_addDeed {l : Launch} {D : va_G} {ad : Nat → Nat} {cI cL : ClassId} (hj : Inj ad) {a1 : Int32} {a2 : Int32} {s : St} {o : Int32 × St} (h : F_MD_addDeed a1 a2 s = some o) : Cn l D ad cI cL y_MD_addDeed b_MD_addDeed 4 (some .int) 2 [.ref (ad 58), .int a1, .int a2] s (some (.int o.1)) o.2 := by
  refine Cn_ofI hj (plainFor_of_name (by decide)) (Nat.le_of_ble_eq_true rfl) [(0, .ref (ad 58)), (1, .int a1), (2, .int a2)] rfl (fun G hC e1 e2 e3 e4 e5 hR => ?_)
  subst e1; subst e2; subst e3; subst e4; subst e5
  exact B_MD_addDeed hC a1 a2 s o h hR
theorem d_MD_addPerson_0 : PLi b_MD_addPerson 0 1 1 := Or.inl ⟨1, by decide +kernel, rfl, rfl⟩
theorem d_MD_addPerson_1 : DJ b_MD_addPerson 1 (.ifCond .lt) 4 12 := ⟨11, by decide +kernel, rfl, by decide⟩
theorem d_MD_addPerson_4 : PLi b_MD_addPerson 4 2 5 := Or.inl ⟨2, by decide +kernel, rfl, rfl⟩
theorem d_MD_addPerson_5 : DJ b_MD_addPerson 5 (.ifCond .lt) 8 12 := ⟨7, by decide +kernel, rfl, by decide⟩
theorem d_MD_addPerson_8 : PLi b_MD_addPerson 8 3 9 := Or.inl ⟨3, by decide +kernel, rfl, rfl⟩
theorem d_MD_addPerson_9 : DJ b_MD_addPerson 9 (.ifCond .ge) 12 17 := ⟨8, by decide +kernel, rfl, by decide⟩
theorem d_MD_addPerson_12 : PCi b_MD_addPerson 12 (-4) 14 := Or.inr (Or.inl ⟨(-4), by decide +kernel, by decide, rfl⟩)
theorem d_MD_addPerson_14 : DJ b_MD_addPerson 14 .goto 17 51 := ⟨37, by decide +kernel, rfl, by decide⟩
theorem d_MD_addPerson_17 : PLi b_MD_addPerson 17 1 18 := Or.inl ⟨1, by decide +kernel, rfl, rfl⟩
theorem d_MD_addPerson_18 : PCi b_MD_addPerson 18 9 20 := Or.inr (Or.inl ⟨9, by decide +kernel, by decide, rfl⟩)
theorem d_MD_addPerson_20 : DJ b_MD_addPerson 20 (.if_icmp .gt) 23 45 := ⟨25, by decide +kernel, rfl, by decide⟩
theorem d_MD_addPerson_23 : PLi b_MD_addPerson 23 2 24 := Or.inl ⟨2, by decide +kernel, rfl, rfl⟩
theorem d_MD_addPerson_24 : PCi b_MD_addPerson 24 128 27 := Or.inr (Or.inr ⟨128, by decide +kernel, by decide, rfl⟩)
theorem d_MD_addPerson_27 : DJ b_MD_addPerson 27 (.if_icmp .ge) 30 45 := ⟨18, by decide +kernel, rfl, by decide⟩
theorem d_MD_addPerson_30 : PLi b_MD_addPerson 30 3 31 := Or.inl ⟨3, by decide +kernel, rfl, rfl⟩
theorem d_MD_addPerson_31 : PCi b_MD_addPerson 31 7 33 := Or.inr (Or.inl ⟨7, by decide +kernel, by decide, rfl⟩)
theorem d_MD_addPerson_33 : DJ b_MD_addPerson 33 (.if_icmp .gt) 36 45 := ⟨12, by decide +kernel, rfl, by decide⟩
theorem d_MD_addPerson_36 : PLa b_MD_addPerson 36 0 37 := Or.inl ⟨0, by decide +kernel, rfl, rfl⟩
theorem d_MD_addPerson_37 : DR b_MD_addPerson 37 (.getfield 90) 3 40 := ⟨by decide +kernel, rfl⟩
theorem d_MD_addPerson_40 : PCi b_MD_addPerson 40 7 42 := Or.inr (Or.inl ⟨7, by decide +kernel, by decide, rfl⟩)
theorem d_MD_addPerson_42 : DJ b_MD_addPerson 42 (.if_icmp .ne) 45 50 := ⟨8, by decide +kernel, rfl, by decide⟩
theorem d_MD_addPerson_45 : PCi b_MD_addPerson 45 (-6) 47 := Or.inr (Or.inl ⟨(-6), by decide +kernel, by decide, rfl⟩)
theorem d_MD_addPerson_47 : DJ b_MD_addPerson 47 .goto 50 51 := ⟨4, by decide +kernel, rfl, by decide⟩
theorem d_MD_addPerson_50 : PCi b_MD_addPerson 50 0 51 := Or.inl ⟨0, by decide +kernel, by decide, rfl⟩
theorem d_MD_addPerson_51 : PSi b_MD_addPerson 51 4 53 := Or.inr ⟨by decide +kernel, rfl⟩
theorem d_MD_addPerson_53 : PLi b_MD_addPerson 53 4 55 := Or.inr ⟨by decide +kernel, rfl⟩
theorem d_MD_addPerson_55 : DJ b_MD_addPerson 55 (.ifCond .eq) 58 65 := ⟨10, by decide +kernel, rfl, by decide⟩
theorem d_MD_addPerson_58 : PLa b_MD_addPerson 58 0 59 := Or.inl ⟨0, by decide +kernel, rfl, rfl⟩
theorem d_MD_addPerson_59 : PLi b_MD_addPerson 59 4 61 := Or.inr ⟨by decide +kernel, rfl⟩
theorem d_MD_addPerson_61 : DR b_MD_addPerson 61 (.invokevirtual 104) 3 64 := ⟨by decide +kernel, rfl⟩
theorem d_MD_addPerson_64 : DR b_MD_addPerson 64 (.ireturn) 1 65 := ⟨by decide +kernel, rfl⟩
theorem d_MD_addPerson_65 : PLa b_MD_addPerson 65 0 66 := Or.inl ⟨0, by decide +kernel, rfl, rfl⟩
theorem d_MD_addPerson_66 : PCi b_MD_addPerson 66 0 67 := Or.inl ⟨0, by decide +kernel, by decide, rfl⟩
theorem d_MD_addPerson_67 : DR b_MD_addPerson 67 (.putfield 157) 3 70 := ⟨by decide +kernel, rfl⟩
theorem d_MD_addPerson_70 : PLa b_MD_addPerson 70 0 71 := Or.inl ⟨0, by decide +kernel, rfl, rfl⟩
theorem d_MD_addPerson_71 : PLi b_MD_addPerson 71 1 72 := Or.inl ⟨1, by decide +kernel, rfl, rfl⟩
theorem d_MD_addPerson_72 : PLi b_MD_addPerson 72 2 73 := Or.inl ⟨2, by decide +kernel, rfl, rfl⟩
theorem d_MD_addPerson_73 : PLi b_MD_addPerson 73 3 74 := Or.inl ⟨3, by decide +kernel, rfl, rfl⟩
theorem d_MD_addPerson_74 : DR b_MD_addPerson 74 (.invokevirtual 130) 3 77 := ⟨by decide +kernel, rfl⟩
theorem d_MD_addPerson_77 : PLa b_MD_addPerson 77 0 78 := Or.inl ⟨0, by decide +kernel, rfl, rfl⟩
theorem d_MD_addPerson_78 : DR b_MD_addPerson 78 (.getfield 90) 3 81 := ⟨by decide +kernel, rfl⟩
theorem d_MD_addPerson_81 : PCi b_MD_addPerson 81 1 82 := Or.inl ⟨1, by decide +kernel, by decide, rfl⟩
theorem d_MD_addPerson_82 : DR b_MD_addPerson 82 (.isub) 1 83 := ⟨by decide +kernel, rfl⟩
theorem d_MD_addPerson_83 : DR b_MD_addPerson 83 (.ireturn) 1 84 := ⟨by decide +kernel, rfl⟩
set_option maxRecDepth 20000 in
theorem B_MD_addPerson_51 {G : MCx} (hC : C0 G "AccusedChooseModel" b_MD_addPerson 5 2) (v1 : Int32) (v2 : Int32) (v3 : Int32) (z0 : Int32) (s : St) : VO G (RI G b_MD_addPerson) (F_MD_addPerson_51 v1 v2 v3 z0 s) 51 [(0, .ref (gad G 58)), (1, .int v1), (2, .int v2), (3, .int v3)] [.int z0] s := by
  unfold F_MD_addPerson_51
  refine VO_istore hC d_MD_addPerson_51 [(0, .ref (gad G 58)), (1, .int v1), (2, .int v2), (3, .int v3)] rfl (by decide) ?_
  refine VO_iload hC d_MD_addPerson_53 0 rfl ?_
  refine VO_if_eq hC d_MD_addPerson_55 (fun _ => ?_) (fun _ => ?_)
  · refine VO_aload hC d_MD_addPerson_65 1 rfl ?_
    refine VO_const hC d_MD_addPerson_66 ?_
    refine VO_puti hC fw_MD_157 sh_MD rfl d_MD_addPerson_67 (fun s1 => ?_)
    refine VO_aload hC d_MD_addPerson_70 1 rfl ?_
    refine VO_iload hC d_MD_addPerson_71 2 rfl ?_
    refine VO_iload hC d_MD_addPerson_72 3 rfl ?_
    refine VO_iload hC d_MD_addPerson_73 4 rfl ?_
    refine VO_callVV hC [.int v1, .int v2, .int v3] [] ml_MD_130 d_MD_addPerson_74 yv_MD_addsPerson sh_MD rfl rfl (fun o h => M_MD_addsPerson hC.inj h) (by decide) rfl rfl (Nat.le_of_ble_eq_true rfl) (fun s2 => ?_)
    refine VO_aload hC d_MD_addPerson_77 1 rfl ?_
    refine VO_geti hC fl_MD_90 sh_MD rfl d_MD_addPerson_78 ?_
    refine VO_const hC d_MD_addPerson_81 ?_
    refine VO_isub hC d_MD_addPerson_82 ?_
    exact VO_ireturn d_MD_addPerson_83
  · refine VO_aload hC d_MD_addPerson_58 1 rfl ?_
    refine VO_iload hC d_MD_addPerson_59 0 rfl ?_
    refine VO_callVI hC [.int z0] [] ml_MD_104 d_MD_addPerson_61 yv_MD_no sh_MD rfl rfl (fun o h => M_MD_no hC.inj h) (by decide) rfl rfl (Nat.le_of_ble_eq_true rfl) (fun o3 => ?_)
    exact VO_ireturn d_MD_addPerson_64
set_option maxRecDepth 20000 in
theorem B_MD_addPerson_12 {G : MCx} (hC : C0 G "AccusedChooseModel" b_MD_addPerson 5 2) (v1 : Int32) (v2 : Int32) (v3 : Int32) (s : St) : VO G (RI G b_MD_addPerson) (F_MD_addPerson_12 v1 v2 v3 s) 12 [(0, .ref (gad G 58)), (1, .int v1), (2, .int v2), (3, .int v3)] [] s := by
  unfold F_MD_addPerson_12
  refine VO_const hC d_MD_addPerson_12 ?_
  refine VO_goto hC d_MD_addPerson_14 ?_
  exact (B_MD_addPerson_51 hC v1 v2 v3 (-4 : Int32) s)
set_option maxRecDepth 20000 in
theorem B_MD_addPerson_45 {G : MCx} (hC : C0 G "AccusedChooseModel" b_MD_addPerson 5 2) (v1 : Int32) (v2 : Int32) (v3 : Int32) (s : St) : VO G (RI G b_MD_addPerson) (F_MD_addPerson_45 v1 v2 v3 s) 45 [(0, .ref (gad G 58)), (1, .int v1), (2, .int v2), (3, .int v3)] [] s := by
  unfold F_MD_addPerson_45
  refine VO_const hC d_MD_addPerson_45 ?_
  refine VO_goto hC d_MD_addPerson_47 ?_
  exact (B_MD_addPerson_51 hC v1 v2 v3 (-6 : Int32) s)
set_option maxRecDepth 20000 in
theorem B_MD_addPerson {G : MCx} (hC : C0 G "AccusedChooseModel" b_MD_addPerson 5 2) (a1 : Int32) (a2 : Int32) (a3 : Int32) (s : St) : VO G (RI G b_MD_addPerson) (F_MD_addPerson a1 a2 a3 s) 0 [(0, .ref (gad G 58)), (1, .int a1), (2, .int a2), (3, .int a3)] [] s := by
  unfold F_MD_addPerson
  refine VO_iload hC d_MD_addPerson_0 1 rfl ?_
  refine VO_if_lt hC d_MD_addPerson_1 (fun _ => ?_) (fun _ => ?_)
  · exact (B_MD_addPerson_12 hC a1 a2 a3 s)
  · refine VO_iload hC d_MD_addPerson_4 2 rfl ?_
    refine VO_if_lt hC d_MD_addPerson_5 (fun _ => ?_) (fun _ => ?_)
    · exact (B_MD_addPerson_12 hC a1 a2 a3 s)
    · refine VO_iload hC d_MD_addPerson_8 3 rfl ?_
      refine VO_if_ge hC d_MD_addPerson_9 (fun _ => ?_) (fun _ => ?_)
      · refine VO_iload hC d_MD_addPerson_17 1 rfl ?_
        refine VO_const hC d_MD_addPerson_18 ?_
        refine VO_icmp_gt hC d_MD_addPerson_20 (fun _ => ?_) (fun _ => ?_)
        · exact (B_MD_addPerson_45 hC a1 a2 a3 s)
        · refine VO_iload hC d_MD_addPerson_23 2 rfl ?_
          refine VO_const hC d_MD_addPerson_24 ?_
          refine VO_icmp_ge hC d_MD_addPerson_27 (fun _ => ?_) (fun _ => ?_)
          · exact (B_MD_addPerson_45 hC a1 a2 a3 s)
          · refine VO_iload hC d_MD_addPerson_30 3 rfl ?_
            refine VO_const hC d_MD_addPerson_31 ?_
            refine VO_icmp_gt hC d_MD_addPerson_33 (fun _ => ?_) (fun _ => ?_)
            · exact (B_MD_addPerson_45 hC a1 a2 a3 s)
            · refine VO_aload hC d_MD_addPerson_36 0 rfl ?_
              refine VO_geti hC fl_MD_90 sh_MD rfl d_MD_addPerson_37 ?_
              refine VO_const hC d_MD_addPerson_40 ?_
              refine VO_icmp_ne hC d_MD_addPerson_42 (fun _ => ?_) (fun _ => ?_)
              · exact (B_MD_addPerson_45 hC a1 a2 a3 s)
              · refine VO_const hC d_MD_addPerson_50 ?_
                exact (B_MD_addPerson_51 hC a1 a2 a3 (0 : Int32) s)
      · exact (B_MD_addPerson_12 hC a1 a2 a3 s)
set_option maxRecDepth 20000 in
theorem M_MD_addPerson {l : Launch} {D : va_G} {ad : Nat → Nat} {cI cL : ClassId} (hj : Inj ad) {a1 : Int32} {a2 : Int32} {a3 : Int32} {s : St} {o : Int32 × St} (h : F_MD_addPerson a1 a2 a3 s = some o) : Cn l D ad cI cL y_MD_addPerson b_MD_addPerson 5 (some .int) 2 [.ref (ad 58), .int a1, .int a2, .int a3] s (some (.int o.1)) o.2 := by
  refine Cn_ofI hj (plainFor_of_name (by decide)) (Nat.le_of_ble_eq_true rfl) [(0, .ref (ad 58)), (1, .int a1), (2, .int a2), (3, .int a3)] rfl (fun G hC e1 e2 e3 e4 e5 hR => ?_)
  subst e1; subst e2; subst e3; subst e4; subst e5
  exact B_MD_addPerson hC a1 a2 a3 s o h hR
theorem d_MD_change_0 : PLa b_MD_change 0 0 1 := Or.inl ⟨0, by decide +kernel, rfl, rfl⟩
theorem d_MD_change_1 : PLi b_MD_change 1 1 2 := Or.inl ⟨1, by decide +kernel, rfl, rfl⟩
theorem d_MD_change_2 : PLi b_MD_change 2 2 3 := Or.inl ⟨2, by decide +kernel, rfl, rfl⟩
theorem d_MD_change_3 : DR b_MD_change 3 (.invokevirtual 134) 3 6 := ⟨by decide +kernel, rfl⟩
theorem d_MD_change_6 : DJ b_MD_change 6 (.ifCond .ne) 9 15 := ⟨9, by decide +kernel, rfl, by decide⟩
theorem d_MD_change_9 : PLa b_MD_change 9 0 10 := Or.inl ⟨0, by decide +kernel, rfl, rfl⟩
theorem d_MD_change_10 : PCi b_MD_change 10 (-1) 11 := Or.inl ⟨(-1), by decide +kernel, by decide, rfl⟩
theorem d_MD_change_11 : DR b_MD_change 11 (.invokevirtual 104) 3 14 := ⟨by decide +kernel, rfl⟩
theorem d_MD_change_14 : DR b_MD_change 14 (.ireturn) 1 15 := ⟨by decide +kernel, rfl⟩
theorem d_MD_change_15 : PLa b_MD_change 15 0 16 := Or.inl ⟨0, by decide +kernel, rfl, rfl⟩
theorem d_MD_change_16 : DR b_MD_change 16 (.invokevirtual 197) 3 19 := ⟨by decide +kernel, rfl⟩
theorem d_MD_change_19 : PLa b_MD_change 19 0 20 := Or.inl ⟨0, by decide +kernel, rfl, rfl⟩
theorem d_MD_change_20 : PLi b_MD_change 20 1 21 := Or.inl ⟨1, by decide +kernel, rfl, rfl⟩
theorem d_MD_change_21 : PLi b_MD_change 21 2 22 := Or.inl ⟨2, by decide +kernel, rfl, rfl⟩
theorem d_MD_change_22 : DR b_MD_change 22 (.invokevirtual 143) 3 25 := ⟨by decide +kernel, rfl⟩
theorem d_MD_change_25 : PLa b_MD_change 25 0 26 := Or.inl ⟨0, by decide +kernel, rfl, rfl⟩
theorem d_MD_change_26 : PLi b_MD_change 26 1 27 := Or.inl ⟨1, by decide +kernel, rfl, rfl⟩
theorem d_MD_change_27 : DR b_MD_change 27 (.invokevirtual 177) 3 30 := ⟨by decide +kernel, rfl⟩
theorem d_MD_change_30 : DR b_MD_change 30 (.ireturn) 1 31 := ⟨by decide +kernel, rfl⟩
set_option maxRecDepth 20000 in
theorem B_MD_change {G : MCx} (hC : C0 G "AccusedChooseModel" b_MD_change 3 4) (a1 : Int32) (a2 : Int32) (s : St) : VO G (RI G b_MD_change) (F_MD_change a1 a2 s) 0 [(0, .ref (gad G 58)), (1, .int a1), (2, .int a2)] [] s := by
  unfold F_MD_change
  refine VO_aload hC d_MD_change_0 0 rfl ?_
  refine VO_iload hC d_MD_change_1 1 rfl ?_
  refine VO_iload hC d_MD_change_2 2 rfl ?_
  refine VO_callVI hC [.int a1, .int a2] [] ml_MD_134 d_MD_change_3 yv_MD_areTwo sh_MD rfl rfl (fun o h => M_MD_areTwo hC.inj h) (by decide) rfl rfl (Nat.le_of_ble_eq_true rfl) (fun o1 => ?_)
  refine VO_if_ne hC d_MD_change_6 (fun _ => ?_) (fun _ => ?_)
  · refine VO_aload hC d_MD_change_9 0 rfl ?_
    refine VO_const hC d_MD_change_10 ?_
    refine VO_callVI hC [.int (-1 : Int32)] [] ml_MD_104 d_MD_change_11 yv_MD_no sh_MD rfl rfl (fun o h => M_MD_no hC.inj h) (by decide) rfl rfl (Nat.le_of_ble_eq_true rfl) (fun o5 => ?_)
    exact VO_ireturn d_MD_change_14
  · refine VO_aload hC d_MD_change_15 0 rfl ?_
    refine VO_callVV hC [] [] ml_MD_197 d_MD_change_16 yv_MD_keepsBack sh_MD rfl rfl (fun o h => M_MD_keepsBack hC.inj h) (by decide) rfl rfl (Nat.le_of_ble_eq_true rfl) (fun s2 => ?_)
    refine VO_aload hC d_MD_change_19 0 rfl ?_
    refine VO_iload hC d_MD_change_20 1 rfl ?_
    refine VO_iload hC d_MD_change_21 2 rfl ?_
    refine VO_callVV hC [.int a1, .int a2] [] ml_MD_143 d_MD_change_22 yv_MD_exchanges sh_MD rfl rfl (fun o h => M_MD_exchanges hC.inj h) (by decide) rfl rfl (Nat.le_of_ble_eq_true rfl) (fun s3 => ?_)
    refine VO_aload hC d_MD_change_25 0 rfl ?_
    refine VO_iload hC d_MD_change_26 1 rfl ?_
    refine VO_callVI hC [.int a1] [] ml_MD_177 d_MD_change_27 yv_MD_placeOf sh_MD rfl rfl (fun o h => M_MD_placeOf hC.inj h) (by decide) rfl rfl (Nat.le_of_ble_eq_true rfl) (fun o4 => ?_)
    exact VO_ireturn d_MD_change_30
set_option maxRecDepth 20000 in
theorem M_MD_change {l : Launch} {D : va_G} {ad : Nat → Nat} {cI cL : ClassId} (hj : Inj ad) {a1 : Int32} {a2 : Int32} {s : St} {o : Int32 × St} (h : F_MD_change a1 a2 s = some o) : Cn l D ad cI cL y_MD_change b_MD_change 3 (some .int) 4 [.ref (ad 58), .int a1, .int a2] s (some (.int o.1)) o.2 := by
  refine Cn_ofI hj (plainFor_of_name (by decide)) (Nat.le_of_ble_eq_true rfl) [(0, .ref (ad 58)), (1, .int a1), (2, .int a2)] rfl (fun G hC e1 e2 e3 e4 e5 hR => ?_)
  subst e1; subst e2; subst e3; subst e4; subst e5
  exact B_MD_change hC a1 a2 s o h hR
theorem d_MD_alibi_0 : PLa b_MD_alibi 0 0 1 := Or.inl ⟨0, by decide +kernel, rfl, rfl⟩
theorem d_MD_alibi_1 : PLi b_MD_alibi 1 1 2 := Or.inl ⟨1, by decide +kernel, rfl, rfl⟩
theorem d_MD_alibi_2 : DR b_MD_alibi 2 (.invokevirtual 93) 3 5 := ⟨by decide +kernel, rfl⟩
theorem d_MD_alibi_5 : DJ b_MD_alibi 5 (.ifCond .eq) 8 16 := ⟨11, by decide +kernel, rfl, by decide⟩
theorem d_MD_alibi_8 : PLa b_MD_alibi 8 0 9 := Or.inl ⟨0, by decide +kernel, rfl, rfl⟩
theorem d_MD_alibi_9 : PLi b_MD_alibi 9 2 10 := Or.inl ⟨2, by decide +kernel, rfl, rfl⟩
theorem d_MD_alibi_10 : DR b_MD_alibi 10 (.invokevirtual 140) 3 13 := ⟨by decide +kernel, rfl⟩
theorem d_MD_alibi_13 : DJ b_MD_alibi 13 (.ifCond .ne) 16 22 := ⟨9, by decide +kernel, rfl, by decide⟩
theorem d_MD_alibi_16 : PLa b_MD_alibi 16 0 17 := Or.inl ⟨0, by decide +kernel, rfl, rfl⟩
theorem d_MD_alibi_17 : PCi b_MD_alibi 17 (-1) 18 := Or.inl ⟨(-1), by decide +kernel, by decide, rfl⟩
theorem d_MD_alibi_18 : DR b_MD_alibi 18 (.invokevirtual 104) 3 21 := ⟨by decide +kernel, rfl⟩
theorem d_MD_alibi_21 : DR b_MD_alibi 21 (.ireturn) 1 22 := ⟨by decide +kernel, rfl⟩
theorem d_MD_alibi_22 : PLa b_MD_alibi 22 0 23 := Or.inl ⟨0, by decide +kernel, rfl, rfl⟩
theorem d_MD_alibi_23 : DR b_MD_alibi 23 (.invokevirtual 197) 3 26 := ⟨by decide +kernel, rfl⟩
theorem d_MD_alibi_26 : PLa b_MD_alibi 26 0 27 := Or.inl ⟨0, by decide +kernel, rfl, rfl⟩
theorem d_MD_alibi_27 : DR b_MD_alibi 27 (.getfield 31) 3 30 := ⟨by decide +kernel, rfl⟩
theorem d_MD_alibi_30 : PLi b_MD_alibi 30 1 31 := Or.inl ⟨1, by decide +kernel, rfl, rfl⟩
theorem d_MD_alibi_31 : DR b_MD_alibi 31 (.dup2) 1 32 := ⟨by decide +kernel, rfl⟩
theorem d_MD_alibi_32 : DR b_MD_alibi 32 (.iaload) 1 33 := ⟨by decide +kernel, rfl⟩
theorem d_MD_alibi_33 : PCi b_MD_alibi 33 1 34 := Or.inl ⟨1, by decide +kernel, by decide, rfl⟩
theorem d_MD_alibi_34 : PLi b_MD_alibi 34 2 35 := Or.inl ⟨2, by decide +kernel, rfl, rfl⟩
theorem d_MD_alibi_35 : DR b_MD_alibi 35 (.ishl) 1 36 := ⟨by decide +kernel, rfl⟩
theorem d_MD_alibi_36 : DR b_MD_alibi 36 (.ixor) 1 37 := ⟨by decide +kernel, rfl⟩
theorem d_MD_alibi_37 : DR b_MD_alibi 37 (.iastore) 1 38 := ⟨by decide +kernel, rfl⟩
theorem d_MD_alibi_38 : PLa b_MD_alibi 38 0 39 := Or.inl ⟨0, by decide +kernel, rfl, rfl⟩
theorem d_MD_alibi_39 : DR b_MD_alibi 39 (.getfield 31) 3 42 := ⟨by decide +kernel, rfl⟩
theorem d_MD_alibi_42 : PLi b_MD_alibi 42 1 43 := Or.inl ⟨1, by decide +kernel, rfl, rfl⟩
theorem d_MD_alibi_43 : DR b_MD_alibi 43 (.iaload) 1 44 := ⟨by decide +kernel, rfl⟩
theorem d_MD_alibi_44 : PLi b_MD_alibi 44 2 45 := Or.inl ⟨2, by decide +kernel, rfl, rfl⟩
theorem d_MD_alibi_45 : DR b_MD_alibi 45 (.ishr) 1 46 := ⟨by decide +kernel, rfl⟩
theorem d_MD_alibi_46 : PCi b_MD_alibi 46 1 47 := Or.inl ⟨1, by decide +kernel, by decide, rfl⟩
theorem d_MD_alibi_47 : DR b_MD_alibi 47 (.iand) 1 48 := ⟨by decide +kernel, rfl⟩
theorem d_MD_alibi_48 : DR b_MD_alibi 48 (.ireturn) 1 49 := ⟨by decide +kernel, rfl⟩
set_option maxRecDepth 20000 in
theorem B_MD_alibi_16 {G : MCx} (hC : C0 G "AccusedChooseModel" b_MD_alibi 3 4) (s : St) : VO G (RI G b_MD_alibi) (F_MD_alibi_16 s) 16 [(0, .ref (gad G 58))] [] s := by
  unfold F_MD_alibi_16
  refine VO_aload hC d_MD_alibi_16 0 rfl ?_
  refine VO_const hC d_MD_alibi_17 ?_
  refine VO_callVI hC [.int (-1 : Int32)] [] ml_MD_104 d_MD_alibi_18 yv_MD_no sh_MD rfl rfl (fun o h => M_MD_no hC.inj h) (by decide) rfl rfl (Nat.le_of_ble_eq_true rfl) (fun o2 => ?_)
  exact VO_ireturn d_MD_alibi_21
set_option maxRecDepth 20000 in
theorem B_MD_alibi {G : MCx} (hC : C0 G "AccusedChooseModel" b_MD_alibi 3 4) (a1 : Int32) (a2 : Int32) (s : St) : VO G (RI G b_MD_alibi) (F_MD_alibi a1 a2 s) 0 [(0, .ref (gad G 58)), (1, .int a1), (2, .int a2)] [] s := by
  unfold F_MD_alibi
  refine VO_aload hC d_MD_alibi_0 0 rfl ?_
  refine VO_iload hC d_MD_alibi_1 1 rfl ?_
  refine VO_callVI hC [.int a1] [] ml_MD_93 d_MD_alibi_2 yv_MD_isPerson sh_MD rfl rfl (fun o h => M_MD_isPerson hC.inj h) (by decide) rfl rfl (Nat.le_of_ble_eq_true rfl) (fun o1 => ?_)
  refine VO_if_eq hC d_MD_alibi_5 (fun _ => ?_) (fun _ => ?_)
  · exact VO_sub [0] rfl (B_MD_alibi_16 hC o1.2)
  · refine VO_aload hC d_MD_alibi_8 0 rfl ?_
    refine VO_iload hC d_MD_alibi_9 2 rfl ?_
    refine VO_callVI hC [.int a2] [] ml_MD_140 d_MD_alibi_10 yv_MD_isDeed sh_MD rfl rfl (fun o h => M_MD_isDeed hC.inj h) (by decide) rfl rfl (Nat.le_of_ble_eq_true rfl) (fun o3 => ?_)
    refine VO_if_ne hC d_MD_alibi_13 (fun _ => ?_) (fun _ => ?_)
    · exact VO_sub [0] rfl (B_MD_alibi_16 hC o3.2)
    · refine VO_aload hC d_MD_alibi_22 0 rfl ?_
      refine VO_callVV hC [] [] ml_MD_197 d_MD_alibi_23 yv_MD_keepsBack sh_MD rfl rfl (fun o h => M_MD_keepsBack hC.inj h) (by decide) rfl rfl (Nat.le_of_ble_eq_true rfl) (fun s4 => ?_)
      refine VO_aload hC d_MD_alibi_26 0 rfl ?_
      refine VO_getr (r := 66) hC fl_MD_31 sh_MD rfl d_MD_alibi_27 ?_
      refine VO_iload hC d_MD_alibi_30 1 rfl ?_
      refine VO_dup2 hC d_MD_alibi_31 rfl rfl ?_
      refine VO_iaload hC ia_66 d_MD_alibi_32 (fun x5 => ?_)
      refine VO_const hC d_MD_alibi_33 ?_
      refine VO_iload hC d_MD_alibi_34 2 rfl ?_
      refine VO_ishl hC d_MD_alibi_35 ?_
      refine VO_ixor hC d_MD_alibi_36 ?_
      refine VO_iastore hC ia_66 d_MD_alibi_37 (fun s6 => ?_)
      refine VO_aload hC d_MD_alibi_38 0 rfl ?_
      refine VO_getr (r := 66) hC fl_MD_31 sh_MD rfl d_MD_alibi_39 ?_
      refine VO_iload hC d_MD_alibi_42 1 rfl ?_
      refine VO_iaload hC ia_66 d_MD_alibi_43 (fun x7 => ?_)
      refine VO_iload hC d_MD_alibi_44 2 rfl ?_
      refine VO_ishr hC d_MD_alibi_45 ?_
      refine VO_const hC d_MD_alibi_46 ?_
      refine VO_iand hC d_MD_alibi_47 ?_
      exact VO_ireturn d_MD_alibi_48
set_option maxRecDepth 20000 in
theorem M_MD_alibi {l : Launch} {D : va_G} {ad : Nat → Nat} {cI cL : ClassId} (hj : Inj ad) {a1 : Int32} {a2 : Int32} {s : St} {o : Int32 × St} (h : F_MD_alibi a1 a2 s = some o) : Cn l D ad cI cL y_MD_alibi b_MD_alibi 3 (some .int) 4 [.ref (ad 58), .int a1, .int a2] s (some (.int o.1)) o.2 := by
  refine Cn_ofI hj (plainFor_of_name (by decide)) (Nat.le_of_ble_eq_true rfl) [(0, .ref (ad 58)), (1, .int a1), (2, .int a2)] rfl (fun G hC e1 e2 e3 e4 e5 hR => ?_)
  subst e1; subst e2; subst e3; subst e4; subst e5
  exact B_MD_alibi hC a1 a2 s o h hR
theorem d_MD_brothers_0 : PLa b_MD_brothers 0 0 1 := Or.inl ⟨0, by decide +kernel, rfl, rfl⟩
theorem d_MD_brothers_1 : PLi b_MD_brothers 1 1 2 := Or.inl ⟨1, by decide +kernel, rfl, rfl⟩
theorem d_MD_brothers_2 : PLi b_MD_brothers 2 2 3 := Or.inl ⟨2, by decide +kernel, rfl, rfl⟩
theorem d_MD_brothers_3 : DR b_MD_brothers 3 (.invokevirtual 134) 3 6 := ⟨by decide +kernel, rfl⟩
theorem d_MD_brothers_6 : DJ b_MD_brothers 6 (.ifCond .ne) 9 15 := ⟨9, by decide +kernel, rfl, by decide⟩
theorem d_MD_brothers_9 : PLa b_MD_brothers 9 0 10 := Or.inl ⟨0, by decide +kernel, rfl, rfl⟩
theorem d_MD_brothers_10 : PCi b_MD_brothers 10 (-1) 11 := Or.inl ⟨(-1), by decide +kernel, by decide, rfl⟩
theorem d_MD_brothers_11 : DR b_MD_brothers 11 (.invokevirtual 104) 3 14 := ⟨by decide +kernel, rfl⟩
theorem d_MD_brothers_14 : DR b_MD_brothers 14 (.ireturn) 1 15 := ⟨by decide +kernel, rfl⟩
theorem d_MD_brothers_15 : PLa b_MD_brothers 15 0 16 := Or.inl ⟨0, by decide +kernel, rfl, rfl⟩
theorem d_MD_brothers_16 : DR b_MD_brothers 16 (.invokevirtual 197) 3 19 := ⟨by decide +kernel, rfl⟩
theorem d_MD_brothers_19 : PLa b_MD_brothers 19 0 20 := Or.inl ⟨0, by decide +kernel, rfl, rfl⟩
theorem d_MD_brothers_20 : DR b_MD_brothers 20 (.getfield 28) 3 23 := ⟨by decide +kernel, rfl⟩
theorem d_MD_brothers_23 : PLi b_MD_brothers 23 1 24 := Or.inl ⟨1, by decide +kernel, rfl, rfl⟩
theorem d_MD_brothers_24 : DR b_MD_brothers 24 (.iaload) 1 25 := ⟨by decide +kernel, rfl⟩
theorem d_MD_brothers_25 : PSi b_MD_brothers 25 3 26 := Or.inl ⟨3, by decide +kernel, rfl, rfl⟩
theorem d_MD_brothers_26 : PLa b_MD_brothers 26 0 27 := Or.inl ⟨0, by decide +kernel, rfl, rfl⟩
theorem d_MD_brothers_27 : PLi b_MD_brothers 27 1 28 := Or.inl ⟨1, by decide +kernel, rfl, rfl⟩
theorem d_MD_brothers_28 : PLi b_MD_brothers 28 2 29 := Or.inl ⟨2, by decide +kernel, rfl, rfl⟩
theorem d_MD_brothers_29 : DR b_MD_brothers 29 (.invokevirtual 137) 3 32 := ⟨by decide +kernel, rfl⟩
theorem d_MD_brothers_32 : PLi b_MD_brothers 32 3 33 := Or.inl ⟨3, by decide +kernel, rfl, rfl⟩
theorem d_MD_brothers_33 : DR b_MD_brothers 33 (.ireturn) 1 34 := ⟨by decide +kernel, rfl⟩
set_option maxRecDepth 20000 in
theorem B_MD_brothers {G : MCx} (hC : C0 G "AccusedChooseModel" b_MD_brothers 4 4) (a1 : Int32) (a2 : Int32) (s : St) : VO G (RI G b_MD_brothers) (F_MD_brothers a1 a2 s) 0 [(0, .ref (gad G 58)), (1, .int a1), (2, .int a2)] [] s := by
  unfold F_MD_brothers
  refine VO_aload hC d_MD_brothers_0 0 rfl ?_
  refine VO_iload hC d_MD_brothers_1 1 rfl ?_
  refine VO_iload hC d_MD_brothers_2 2 rfl ?_
  refine VO_callVI hC [.int a1, .int a2] [] ml_MD_134 d_MD_brothers_3 yv_MD_areTwo sh_MD rfl rfl (fun o h => M_MD_areTwo hC.inj h) (by decide) rfl rfl (Nat.le_of_ble_eq_true rfl) (fun o1 => ?_)
  refine VO_if_ne hC d_MD_brothers_6 (fun _ => ?_) (fun _ => ?_)
  · refine VO_aload hC d_MD_brothers_9 0 rfl ?_
    refine VO_const hC d_MD_brothers_10 ?_
    refine VO_callVI hC [.int (-1 : Int32)] [] ml_MD_104 d_MD_brothers_11 yv_MD_no sh_MD rfl rfl (fun o h => M_MD_no hC.inj h) (by decide) rfl rfl (Nat.le_of_ble_eq_true rfl) (fun o5 => ?_)
    exact VO_ireturn d_MD_brothers_14
  · refine VO_aload hC d_MD_brothers_15 0 rfl ?_
    refine VO_callVV hC [] [] ml_MD_197 d_MD_brothers_16 yv_MD_keepsBack sh_MD rfl rfl (fun o h => M_MD_keepsBack hC.inj h) (by decide) rfl rfl (Nat.le_of_ble_eq_true rfl) (fun s2 => ?_)
    refine VO_aload hC d_MD_brothers_19 0 rfl ?_
    refine VO_getr (r := 65) hC fl_MD_28 sh_MD rfl d_MD_brothers_20 ?_
    refine VO_iload hC d_MD_brothers_23 1 rfl ?_
    refine VO_iaload hC ia_65 d_MD_brothers_24 (fun x3 => ?_)
    refine VO_istore hC d_MD_brothers_25 [(0, .ref (gad G 58)), (1, .int a1), (2, .int a2)] rfl (by decide) ?_
    refine VO_aload hC d_MD_brothers_26 1 rfl ?_
    refine VO_iload hC d_MD_brothers_27 2 rfl ?_
    refine VO_iload hC d_MD_brothers_28 3 rfl ?_
    refine VO_callVV hC [.int a1, .int a2] [] ml_MD_137 d_MD_brothers_29 yv_MD_areBrothers sh_MD rfl rfl (fun o h => M_MD_areBrothers hC.inj h) (by decide) rfl rfl (Nat.le_of_ble_eq_true rfl) (fun s4 => ?_)
    refine VO_iload hC d_MD_brothers_32 0 rfl ?_
    exact VO_ireturn d_MD_brothers_33
set_option maxRecDepth 20000 in
theorem M_MD_brothers {l : Launch} {D : va_G} {ad : Nat → Nat} {cI cL : ClassId} (hj : Inj ad) {a1 : Int32} {a2 : Int32} {s : St} {o : Int32 × St} (h : F_MD_brothers a1 a2 s = some o) : Cn l D ad cI cL y_MD_brothers b_MD_brothers 4 (some .int) 4 [.ref (ad 58), .int a1, .int a2] s (some (.int o.1)) o.2 := by
  refine Cn_ofI hj (plainFor_of_name (by decide)) (Nat.le_of_ble_eq_true rfl) [(0, .ref (ad 58)), (1, .int a1), (2, .int a2)] rfl (fun G hC e1 e2 e3 e4 e5 hR => ?_)
  subst e1; subst e2; subst e3; subst e4; subst e5
  exact B_MD_brothers hC a1 a2 s o h hR
theorem d_MD_best_0 : PCi b_MD_best 0 (-9) 2 := Or.inr (Or.inl ⟨(-9), by decide +kernel, by decide, rfl⟩)
theorem d_MD_best_2 : PSi b_MD_best 2 3 3 := Or.inl ⟨3, by decide +kernel, rfl, rfl⟩
theorem d_MD_best_3 : PCi b_MD_best 3 0 4 := Or.inl ⟨0, by decide +kernel, by decide, rfl⟩
theorem d_MD_best_4 : PSi b_MD_best 4 4 6 := Or.inr ⟨by decide +kernel, rfl⟩
theorem d_MD_best_6 : PLi b_MD_best 6 4 8 := Or.inr ⟨by decide +kernel, rfl⟩
theorem d_MD_best_8 : PLa b_MD_best 8 0 9 := Or.inl ⟨0, by decide +kernel, rfl, rfl⟩
theorem d_MD_best_9 : DR b_MD_best 9 (.getfield 84) 3 12 := ⟨by decide +kernel, rfl⟩
theorem d_MD_best_12 : DJ b_MD_best 12 (.if_icmp .ge) 15 66 := ⟨54, by decide +kernel, rfl, by decide⟩
theorem d_MD_best_15 : PLi b_MD_best 15 2 16 := Or.inl ⟨2, by decide +kernel, rfl, rfl⟩
theorem d_MD_best_16 : PLi b_MD_best 16 4 18 := Or.inr ⟨by decide +kernel, rfl⟩
theorem d_MD_best_18 : DR b_MD_best 18 (.invokestatic 184) 3 21 := ⟨by decide +kernel, rfl⟩
theorem d_MD_best_21 : DJ b_MD_best 21 (.ifCond .ne) 24 60 := ⟨39, by decide +kernel, rfl, by decide⟩
theorem d_MD_best_24 : PLa b_MD_best 24 0 25 := Or.inl ⟨0, by decide +kernel, rfl, rfl⟩
theorem d_MD_best_25 : PLi b_MD_best 25 1 26 := Or.inl ⟨1, by decide +kernel, rfl, rfl⟩
theorem d_MD_best_26 : PLi b_MD_best 26 4 28 := Or.inr ⟨by decide +kernel, rfl⟩
theorem d_MD_best_28 : DR b_MD_best 28 (.invokevirtual 191) 3 31 := ⟨by decide +kernel, rfl⟩
theorem d_MD_best_31 : DJ b_MD_best 31 (.ifCond .ne) 34 37 := ⟨6, by decide +kernel, rfl, by decide⟩
theorem d_MD_best_34 : DJ b_MD_best 34 .goto 37 60 := ⟨26, by decide +kernel, rfl, by decide⟩
theorem d_MD_best_37 : PLi b_MD_best 37 3 38 := Or.inl ⟨3, by decide +kernel, rfl, rfl⟩
theorem d_MD_best_38 : DJ b_MD_best 38 (.ifCond .lt) 41 57 := ⟨19, by decide +kernel, rfl, by decide⟩
theorem d_MD_best_41 : PLa b_MD_best 41 0 42 := Or.inl ⟨0, by decide +kernel, rfl, rfl⟩
theorem d_MD_best_42 : PLi b_MD_best 42 1 43 := Or.inl ⟨1, by decide +kernel, rfl, rfl⟩
theorem d_MD_best_43 : PLi b_MD_best 43 4 45 := Or.inr ⟨by decide +kernel, rfl⟩
theorem d_MD_best_45 : DR b_MD_best 45 (.invokevirtual 194) 3 48 := ⟨by decide +kernel, rfl⟩
theorem d_MD_best_48 : PLa b_MD_best 48 0 49 := Or.inl ⟨0, by decide +kernel, rfl, rfl⟩
theorem d_MD_best_49 : PLi b_MD_best 49 1 50 := Or.inl ⟨1, by decide +kernel, rfl, rfl⟩
theorem d_MD_best_50 : PLi b_MD_best 50 3 51 := Or.inl ⟨3, by decide +kernel, rfl, rfl⟩
theorem d_MD_best_51 : DR b_MD_best 51 (.invokevirtual 194) 3 54 := ⟨by decide +kernel, rfl⟩
theorem d_MD_best_54 : DJ b_MD_best 54 (.if_icmp .ge) 57 60 := ⟨6, by decide +kernel, rfl, by decide⟩
theorem d_MD_best_57 : PLi b_MD_best 57 4 59 := Or.inr ⟨by decide +kernel, rfl⟩
theorem d_MD_best_59 : PSi b_MD_best 59 3 60 := Or.inl ⟨3, by decide +kernel, rfl, rfl⟩
theorem d_MD_best_60 : DR b_MD_best 60 (.iinc 4 1) 3 63 := ⟨by decide +kernel, rfl⟩
theorem d_MD_best_63 : DJ b_MD_best 63 .goto 66 6 := ⟨-57, by decide +kernel, rfl, by decide⟩
theorem d_MD_best_66 : PLi b_MD_best 66 3 67 := Or.inl ⟨3, by decide +kernel, rfl, rfl⟩
theorem d_MD_best_67 : DR b_MD_best 67 (.ireturn) 1 68 := ⟨by decide +kernel, rfl⟩
set_option maxRecDepth 20000 in
theorem B_MD_best_60 {G : MCx} (hC : C0 G "AccusedChooseModel" b_MD_best 5 3) {v1 : Int32} {v2 : Int32} (K6 : Int32 × Int32 × St → Option (Int32 × St)) (hK6 : ∀ (w3 : Int32) (w4 : Int32) (s : St), VO G (RI G b_MD_best) (K6 (w3, w4, s)) 6 [(0, .ref (gad G 58)), (1, .int v1), (2, .int v2), (3, .int w3), (4, .int w4)] [] s) (v3 : Int32) (v4 : Int32) (s : St) : VO G (RI G b_MD_best) (F_MD_best_60 K6 v1 v2 v3 v4 s) 60 [(0, .ref (gad G 58)), (1, .int v1), (2, .int v2), (3, .int v3), (4, .int v4)] [] s := by
  unfold F_MD_best_60
  refine VO_iinc hC d_MD_best_60 4 rfl (by decide : Int32.ofInt 1 = 1) [(0, .ref (gad G 58)), (1, .int v1), (2, .int v2), (3, .int v3)] rfl (by decide) ?_
  refine VO_goto hC d_MD_best_63 ?_
  exact VO_sub [1, 2, 3, 4, 0] rfl (hK6 v3 (v4 + 1) s)
set_option maxRecDepth 20000 in
theorem B_MD_best_57 {G : MCx} (hC : C0 G "AccusedChooseModel" b_MD_best 5 3) {v1 : Int32} {v2 : Int32} (K6 : Int32 × Int32 × St → Option (Int32 × St)) (hK6 : ∀ (w3 : Int32) (w4 : Int32) (s : St), VO G (RI G b_MD_best) (K6 (w3, w4, s)) 6 [(0, .ref (gad G 58)), (1, .int v1), (2, .int v2), (3, .int w3), (4, .int w4)] [] s) (v4 : Int32) (s : St) : VO G (RI G b_MD_best) (F_MD_best_57 K6 v1 v2 v4 s) 57 [(0, .ref (gad G 58)), (1, .int v1), (2, .int v2), (4, .int v4)] [] s := by
  unfold F_MD_best_57
  refine VO_iload hC d_MD_best_57 3 rfl ?_
  refine VO_istore hC d_MD_best_59 [(0, .ref (gad G 58)), (1, .int v1), (2, .int v2), (4, .int v4)] rfl (by decide) ?_
  exact VO_sub [1, 2, 3, 0, 4] rfl (B_MD_best_60 hC K6 hK6 v4 v4 s)
set_option maxRecDepth 20000 in
theorem BH_MD_best_6 {G : MCx} (hC : C0 G "AccusedChooseModel" b_MD_best 5 3) {v1 : Int32} {v2 : Int32} (K6 : Int32 × Int32 × St → Option (Int32 × St)) (hK6 : ∀ (w3 : Int32) (w4 : Int32) (s : St), VO G (RI G b_MD_best) (K6 (w3, w4, s)) 6 [(0, .ref (gad G 58)), (1, .int v1), (2, .int v2), (3, .int w3), (4, .int w4)] [] s) (v3 : Int32) (v4 : Int32) (s : St) : VO G (RI G b_MD_best) (H_MD_best_6 v1 v2 K6 v3 v4 s) 6 [(0, .ref (gad G 58)), (1, .int v1), (2, .int v2), (3, .int v3), (4, .int v4)] [] s := by
  unfold H_MD_best_6
  refine VO_iload hC d_MD_best_6 4 rfl ?_
  refine VO_aload hC d_MD_best_8 0 rfl ?_
  refine VO_geti hC fl_MD_84 sh_MD rfl d_MD_best_9 ?_
  refine VO_icmp_ge hC d_MD_best_12 (fun _ => ?_) (fun _ => ?_)
  · refine VO_iload hC d_MD_best_66 3 rfl ?_
    exact VO_ireturn d_MD_best_67
  · refine VO_iload hC d_MD_best_15 2 rfl ?_
    refine VO_iload hC d_MD_best_16 4 rfl ?_
    refine VO_callSI hC [.int v2, .int v4] [] ml_MD_184 d_MD_best_18 ys_MD_has (fun o h => M_MD_has hC.inj h) (by decide) rfl rfl (Nat.le_of_ble_eq_true rfl) (fun o1 => ?_)
    refine VO_if_ne hC d_MD_best_21 (fun _ => ?_) (fun _ => ?_)
    · refine VO_aload hC d_MD_best_24 0 rfl ?_
      refine VO_iload hC d_MD_best_25 1 rfl ?_
      refine VO_iload hC d_MD_best_26 4 rfl ?_
      refine VO_callVI hC [.int v1, .int v4] [] ml_MD_191 d_MD_best_28 yv_MD_may sh_MD rfl rfl (fun o h => M_MD_may hC.inj h) (by decide) rfl rfl (Nat.le_of_ble_eq_true rfl) (fun o2 => ?_)
      refine VO_if_ne hC d_MD_best_31 (fun _ => ?_) (fun _ => ?_)
      · refine VO_goto hC d_MD_best_34 ?_
        exact (B_MD_best_60 hC K6 hK6 v3 v4 o2.2)
      · refine VO_iload hC d_MD_best_37 3 rfl ?_
        refine VO_if_lt hC d_MD_best_38 (fun _ => ?_) (fun _ => ?_)
        · exact VO_sub [0, 1, 2, 4] rfl (B_MD_best_57 hC K6 hK6 v4 o2.2)
        · refine VO_aload hC d_MD_best_41 0 rfl ?_
          refine VO_iload hC d_MD_best_42 1 rfl ?_
          refine VO_iload hC d_MD_best_43 4 rfl ?_
          refine VO_callVI hC [.int v1, .int v4] [] ml_MD_194 d_MD_best_45 yv_MD_monthsOf sh_MD rfl rfl (fun o h => M_MD_monthsOf hC.inj h) (by decide) rfl rfl (Nat.le_of_ble_eq_true rfl) (fun o3 => ?_)
          refine VO_aload hC d_MD_best_48 0 rfl ?_
          refine VO_iload hC d_MD_best_49 1 rfl ?_
          refine VO_iload hC d_MD_best_50 3 rfl ?_
          refine VO_callVI hC [.int v1, .int v3] [.int o3.1] ml_MD_194 d_MD_best_51 yv_MD_monthsOf sh_MD rfl rfl (fun o h => M_MD_monthsOf hC.inj h) (by decide) rfl rfl (Nat.le_of_ble_eq_true rfl) (fun o4 => ?_)
          refine VO_icmp_ge hC d_MD_best_54 (fun _ => ?_) (fun _ => ?_)
          · exact (B_MD_best_60 hC K6 hK6 v3 v4 o4.2)
          · exact VO_sub [0, 1, 2, 4] rfl (B_MD_best_57 hC K6 hK6 v4 o4.2)
    · exact (B_MD_best_60 hC K6 hK6 v3 v4 o1.2)
set_option maxRecDepth 20000 in
theorem B_MD_best_6 {G : MCx} (hC : C0 G "AccusedChooseModel" b_MD_best 5 3) (v1 : Int32) (v2 : Int32) (v3 : Int32) (v4 : Int32) (s : St) : VO G (RI G b_MD_best) (F_MD_best_6 v1 v2 v3 v4 s) 6 [(0, .ref (gad G 58)), (1, .int v1), (2, .int v2), (3, .int v3), (4, .int v4)] [] s := by
  exact VO_fix (G_MD_best_6 v1 v2) 6 (fun q => [(0, .ref (gad G 58)), (1, .int v1), (2, .int v2), (3, .int q.1), (4, .int q.2.1)]) (fun q => q.2.2) (fun K hK q => BH_MD_best_6 hC K (fun w3 w4 s => hK (w3, w4, s)) q.1 q.2.1 q.2.2) FUEL (v3, v4, s)
set_option maxRecDepth 20000 in
theorem B_MD_best {G : MCx} (hC : C0 G "AccusedChooseModel" b_MD_best 5 3) (a1 : Int32) (a2 : Int32) (s : St) : VO G (RI G b_MD_best) (F_MD_best a1 a2 s) 0 [(0, .ref (gad G 58)), (1, .int a1), (2, .int a2)] [] s := by
  unfold F_MD_best
  refine VO_const hC d_MD_best_0 ?_
  refine VO_istore hC d_MD_best_2 [(0, .ref (gad G 58)), (1, .int a1), (2, .int a2)] rfl (by decide) ?_
  refine VO_const hC d_MD_best_3 ?_
  refine VO_istore hC d_MD_best_4 [(3, .int (-9 : Int32)), (0, .ref (gad G 58)), (1, .int a1), (2, .int a2)] rfl (by decide) ?_
  exact VO_sub [2, 3, 4, 1, 0] rfl (B_MD_best_6 hC a1 a2 (-9 : Int32) (0 : Int32) s)
set_option maxRecDepth 20000 in
theorem M_MD_best {l : Launch} {D : va_G} {ad : Nat → Nat} {cI cL : ClassId} (hj : Inj ad) {a1 : Int32} {a2 : Int32} {s : St} {o : Int32 × St} (h : F_MD_best a1 a2 s = some o) : Cn l D ad cI cL y_MD_best b_MD_best 5 (some .int) 3 [.ref (ad 58), .int a1, .int a2] s (some (.int o.1)) o.2 := by
  refine Cn_ofI hj (plainFor_of_name (by decide)) (Nat.le_of_ble_eq_true rfl) [(0, .ref (ad 58)), (1, .int a1), (2, .int a2)] rfl (fun G hC e1 e2 e3 e4 e5 hR => ?_)
  subst e1; subst e2; subst e3; subst e4; subst e5
  exact B_MD_best hC a1 a2 s o h hR
theorem d_MD_goesBy_0 : PLa b_MD_goesBy 0 0 1 := Or.inl ⟨0, by decide +kernel, rfl, rfl⟩
theorem d_MD_goesBy_1 : DR b_MD_goesBy 1 (.getfield 200) 3 4 := ⟨by decide +kernel, rfl⟩
theorem d_MD_goesBy_4 : PSi b_MD_goesBy 4 1 5 := Or.inl ⟨1, by decide +kernel, rfl, rfl⟩
theorem d_MD_goesBy_5 : PCi b_MD_goesBy 5 0 6 := Or.inl ⟨0, by decide +kernel, by decide, rfl⟩
theorem d_MD_goesBy_6 : PSi b_MD_goesBy 6 2 7 := Or.inl ⟨2, by decide +kernel, rfl, rfl⟩
theorem d_MD_goesBy_7 : PLi b_MD_goesBy 7 2 8 := Or.inl ⟨2, by decide +kernel, rfl, rfl⟩
theorem d_MD_goesBy_8 : PLa b_MD_goesBy 8 0 9 := Or.inl ⟨0, by decide +kernel, rfl, rfl⟩
theorem d_MD_goesBy_9 : DR b_MD_goesBy 9 (.getfield 90) 3 12 := ⟨by decide +kernel, rfl⟩
theorem d_MD_goesBy_12 : DJ b_MD_goesBy 12 (.if_icmp .ge) 15 59 := ⟨47, by decide +kernel, rfl, by decide⟩
theorem d_MD_goesBy_15 : PLa b_MD_goesBy 15 0 16 := Or.inl ⟨0, by decide +kernel, rfl, rfl⟩
theorem d_MD_goesBy_16 : PLa b_MD_goesBy 16 0 17 := Or.inl ⟨0, by decide +kernel, rfl, rfl⟩
theorem d_MD_goesBy_17 : DR b_MD_goesBy 17 (.getfield 59) 3 20 := ⟨by decide +kernel, rfl⟩
theorem d_MD_goesBy_20 : PLi b_MD_goesBy 20 2 21 := Or.inl ⟨2, by decide +kernel, rfl, rfl⟩
theorem d_MD_goesBy_21 : DR b_MD_goesBy 21 (.iaload) 1 22 := ⟨by decide +kernel, rfl⟩
theorem d_MD_goesBy_22 : PLi b_MD_goesBy 22 1 23 := Or.inl ⟨1, by decide +kernel, rfl, rfl⟩
theorem d_MD_goesBy_23 : DR b_MD_goesBy 23 (.invokevirtual 203) 3 26 := ⟨by decide +kernel, rfl⟩
theorem d_MD_goesBy_26 : PSi b_MD_goesBy 26 3 27 := Or.inl ⟨3, by decide +kernel, rfl, rfl⟩
theorem d_MD_goesBy_27 : PLa b_MD_goesBy 27 0 28 := Or.inl ⟨0, by decide +kernel, rfl, rfl⟩
theorem d_MD_goesBy_28 : DR b_MD_goesBy 28 (.getfield 56) 3 31 := ⟨by decide +kernel, rfl⟩
theorem d_MD_goesBy_31 : PLa b_MD_goesBy 31 0 32 := Or.inl ⟨0, by decide +kernel, rfl, rfl⟩
theorem d_MD_goesBy_32 : DR b_MD_goesBy 32 (.getfield 59) 3 35 := ⟨by decide +kernel, rfl⟩
theorem d_MD_goesBy_35 : PLi b_MD_goesBy 35 2 36 := Or.inl ⟨2, by decide +kernel, rfl, rfl⟩
theorem d_MD_goesBy_36 : DR b_MD_goesBy 36 (.iaload) 1 37 := ⟨by decide +kernel, rfl⟩
theorem d_MD_goesBy_37 : PLi b_MD_goesBy 37 3 38 := Or.inl ⟨3, by decide +kernel, rfl, rfl⟩
theorem d_MD_goesBy_38 : DR b_MD_goesBy 38 (.iastore) 1 39 := ⟨by decide +kernel, rfl⟩
theorem d_MD_goesBy_39 : PLi b_MD_goesBy 39 1 40 := Or.inl ⟨1, by decide +kernel, rfl, rfl⟩
theorem d_MD_goesBy_40 : PLi b_MD_goesBy 40 3 41 := Or.inl ⟨3, by decide +kernel, rfl, rfl⟩
theorem d_MD_goesBy_41 : DJ b_MD_goesBy 41 (.ifCond .ge) 44 48 := ⟨7, by decide +kernel, rfl, by decide⟩
theorem d_MD_goesBy_44 : PCi b_MD_goesBy 44 0 45 := Or.inl ⟨0, by decide +kernel, by decide, rfl⟩
theorem d_MD_goesBy_45 : DJ b_MD_goesBy 45 .goto 48 51 := ⟨6, by decide +kernel, rfl, by decide⟩
theorem d_MD_goesBy_48 : PCi b_MD_goesBy 48 1 49 := Or.inl ⟨1, by decide +kernel, by decide, rfl⟩
theorem d_MD_goesBy_49 : PLi b_MD_goesBy 49 3 50 := Or.inl ⟨3, by decide +kernel, rfl, rfl⟩
theorem d_MD_goesBy_50 : DR b_MD_goesBy 50 (.ishl) 1 51 := ⟨by decide +kernel, rfl⟩
theorem d_MD_goesBy_51 : DR b_MD_goesBy 51 (.ior) 1 52 := ⟨by decide +kernel, rfl⟩
theorem d_MD_goesBy_52 : PSi b_MD_goesBy 52 1 53 := Or.inl ⟨1, by decide +kernel, rfl, rfl⟩
theorem d_MD_goesBy_53 : DR b_MD_goesBy 53 (.iinc 2 1) 3 56 := ⟨by decide +kernel, rfl⟩
theorem d_MD_goesBy_56 : DJ b_MD_goesBy 56 .goto 59 7 := ⟨-49, by decide +kernel, rfl, by decide⟩
theorem d_MD_goesBy_59 : DR b_MD_goesBy 59 (.return_) 1 60 := ⟨by decide +kernel, rfl⟩
set_option maxRecDepth 20000 in
theorem B_MD_goesBy_51 {G : MCx} (hC : C0 G "AccusedChooseModel" b_MD_goesBy 4 4) (K7 : Int32 × Int32 × St → Option (St)) (hK7 : ∀ (w1 : Int32) (w2 : Int32) (s : St), VO G (RV G b_MD_goesBy) (K7 (w1, w2, s)) 7 [(0, .ref (gad G 58)), (1, .int w1), (2, .int w2)] [] s) (v2 : Int32) (z0 : Int32) (z1 : Int32) (s : St) : VO G (RV G b_MD_goesBy) (F_MD_goesBy_51 K7 v2 z0 z1 s) 51 [(0, .ref (gad G 58)), (2, .int v2)] [.int z0, .int z1] s := by
  unfold F_MD_goesBy_51
  refine VO_ior hC d_MD_goesBy_51 ?_
  refine VO_istoreB hC d_MD_goesBy_52 [(0, .ref (gad G 58)), (2, .int v2)] rfl (by decide) (fun x6 => ?_)
  refine VO_iinc hC d_MD_goesBy_53 2 rfl (by decide : Int32.ofInt 1 = 1) [(1, .int x6), (0, .ref (gad G 58))] rfl (by decide) ?_
  refine VO_goto hC d_MD_goesBy_56 ?_
  exact VO_sub [2, 1, 0] rfl (hK7 x6 (v2 + 1) s)
set_option maxRecDepth 20000 in
theorem BH_MD_goesBy_7 {G : MCx} (hC : C0 G "AccusedChooseModel" b_MD_goesBy 4 4) (K7 : Int32 × Int32 × St → Option (St)) (hK7 : ∀ (w1 : Int32) (w2 : Int32) (s : St), VO G (RV G b_MD_goesBy) (K7 (w1, w2, s)) 7 [(0, .ref (gad G 58)), (1, .int w1), (2, .int w2)] [] s) (v1 : Int32) (v2 : Int32) (s : St) : VO G (RV G b_MD_goesBy) (H_MD_goesBy_7 K7 v1 v2 s) 7 [(0, .ref (gad G 58)), (1, .int v1), (2, .int v2)] [] s := by
  unfold H_MD_goesBy_7
  refine VO_iload hC d_MD_goesBy_7 2 rfl ?_
  refine VO_aload hC d_MD_goesBy_8 0 rfl ?_
  refine VO_geti hC fl_MD_90 sh_MD rfl d_MD_goesBy_9 ?_
  refine VO_icmp_ge hC d_MD_goesBy_12 (fun _ => ?_) (fun _ => ?_)
  · exact VO_return d_MD_goesBy_59
  · refine VO_aload hC d_MD_goesBy_15 0 rfl ?_
    refine VO_aload hC d_MD_goesBy_16 0 rfl ?_
    refine VO_getr (r := 74) hC fl_MD_59 sh_MD rfl d_MD_goesBy_17 ?_
    refine VO_iload hC d_MD_goesBy_20 2 rfl ?_
    refine VO_iaload hC ia_74 d_MD_goesBy_21 (fun x2 => ?_)
    refine VO_iload hC d_MD_goesBy_22 1 rfl ?_
    refine VO_callVI hC [.int x2, .int v1] [] ml_MD_203 d_MD_goesBy_23 yv_MD_best sh_MD rfl rfl (fun o h => M_MD_best hC.inj h) (by decide) rfl rfl (Nat.le_of_ble_eq_true rfl) (fun o3 => ?_)
    refine VO_istore hC d_MD_goesBy_26 [(0, .ref (gad G 58)), (1, .int v1), (2, .int v2)] rfl (by decide) ?_
    refine VO_aload hC d_MD_goesBy_27 1 rfl ?_
    refine VO_getr (r := 73) hC fl_MD_56 sh_MD rfl d_MD_goesBy_28 ?_
    refine VO_aload hC d_MD_goesBy_31 1 rfl ?_
    refine VO_getr (r := 74) hC fl_MD_59 sh_MD rfl d_MD_goesBy_32 ?_
    refine VO_iload hC d_MD_goesBy_35 3 rfl ?_
    refine VO_iaload hC ia_74 d_MD_goesBy_36 (fun x4 => ?_)
    refine VO_iload hC d_MD_goesBy_37 0 rfl ?_
    refine VO_iastore hC ia_73 d_MD_goesBy_38 (fun s5 => ?_)
    refine VO_iload hC d_MD_goesBy_39 2 rfl ?_
    refine VO_iload hC d_MD_goesBy_40 0 rfl ?_
    refine VO_if_ge hC d_MD_goesBy_41 (fun _ => ?_) (fun _ => ?_)
    · refine VO_const hC d_MD_goesBy_48 ?_
      refine VO_iload hC d_MD_goesBy_49 0 rfl ?_
      refine VO_ishl hC d_MD_goesBy_50 ?_
      exact VO_sub [1, 3] rfl (B_MD_goesBy_51 hC K7 hK7 v2 ((1 : Int32) <<< (o3.1 &&& 31)) v1 s5)
    · refine VO_const hC d_MD_goesBy_44 ?_
      refine VO_goto hC d_MD_goesBy_45 ?_
      exact VO_sub [1, 3] rfl (B_MD_goesBy_51 hC K7 hK7 v2 (0 : Int32) v1 s5)
set_option maxRecDepth 20000 in
theorem B_MD_goesBy_7 {G : MCx} (hC : C0 G "AccusedChooseModel" b_MD_goesBy 4 4) (v1 : Int32) (v2 : Int32) (s : St) : VO G (RV G b_MD_goesBy) (F_MD_goesBy_7 v1 v2 s) 7 [(0, .ref (gad G 58)), (1, .int v1), (2, .int v2)] [] s := by
  exact VO_fix (G_MD_goesBy_7) 7 (fun q => [(0, .ref (gad G 58)), (1, .int q.1), (2, .int q.2.1)]) (fun q => q.2.2) (fun K hK q => BH_MD_goesBy_7 hC K (fun w1 w2 s => hK (w1, w2, s)) q.1 q.2.1 q.2.2) FUEL (v1, v2, s)
set_option maxRecDepth 20000 in
theorem B_MD_goesBy {G : MCx} (hC : C0 G "AccusedChooseModel" b_MD_goesBy 4 4) (s : St) : VO G (RV G b_MD_goesBy) (F_MD_goesBy s) 0 [(0, .ref (gad G 58))] [] s := by
  unfold F_MD_goesBy
  refine VO_aload hC d_MD_goesBy_0 0 rfl ?_
  refine VO_geti hC fl_MD_200 sh_MD rfl d_MD_goesBy_1 ?_
  refine VO_istoreB hC d_MD_goesBy_4 [(0, .ref (gad G 58))] rfl (by decide) (fun x1 => ?_)
  refine VO_const hC d_MD_goesBy_5 ?_
  refine VO_istore hC d_MD_goesBy_6 [(1, .int x1), (0, .ref (gad G 58))] rfl (by decide) ?_
  exact VO_sub [2, 1, 0] rfl (B_MD_goesBy_7 hC x1 (0 : Int32) s)
set_option maxRecDepth 20000 in
theorem M_MD_goesBy {l : Launch} {D : va_G} {ad : Nat → Nat} {cI cL : ClassId} (hj : Inj ad) {s : St} {o : St} (h : F_MD_goesBy s = some o) : Cn l D ad cI cL y_MD_goesBy b_MD_goesBy 4 none 4 [.ref (ad 58)] s none o := by
  refine Cn_ofV hj (plainFor_of_name (by decide)) (Nat.le_of_ble_eq_true rfl) [(0, .ref (ad 58))] rfl (fun G hC e1 e2 e3 e4 e5 hR => ?_)
  subst e1; subst e2; subst e3; subst e4; subst e5
  exact B_MD_goesBy hC s o h hR
theorem d_MD_asItIs_0 : PCi b_MD_asItIs 0 0 1 := Or.inl ⟨0, by decide +kernel, by decide, rfl⟩
theorem d_MD_asItIs_1 : PSi b_MD_asItIs 1 1 2 := Or.inl ⟨1, by decide +kernel, rfl, rfl⟩
theorem d_MD_asItIs_2 : PLi b_MD_asItIs 2 1 3 := Or.inl ⟨1, by decide +kernel, rfl, rfl⟩
theorem d_MD_asItIs_3 : PLa b_MD_asItIs 3 0 4 := Or.inl ⟨0, by decide +kernel, rfl, rfl⟩
theorem d_MD_asItIs_4 : DR b_MD_asItIs 4 (.getfield 90) 3 7 := ⟨by decide +kernel, rfl⟩
theorem d_MD_asItIs_7 : DJ b_MD_asItIs 7 (.if_icmp .ge) 10 28 := ⟨21, by decide +kernel, rfl, by decide⟩
theorem d_MD_asItIs_10 : PLa b_MD_asItIs 10 0 11 := Or.inl ⟨0, by decide +kernel, rfl, rfl⟩
theorem d_MD_asItIs_11 : DR b_MD_asItIs 11 (.getfield 59) 3 14 := ⟨by decide +kernel, rfl⟩
theorem d_MD_asItIs_14 : PLi b_MD_asItIs 14 1 15 := Or.inl ⟨1, by decide +kernel, rfl, rfl⟩
theorem d_MD_asItIs_15 : PLa b_MD_asItIs 15 0 16 := Or.inl ⟨0, by decide +kernel, rfl, rfl⟩
theorem d_MD_asItIs_16 : DR b_MD_asItIs 16 (.getfield 34) 3 19 := ⟨by decide +kernel, rfl⟩
theorem d_MD_asItIs_19 : PLi b_MD_asItIs 19 1 20 := Or.inl ⟨1, by decide +kernel, rfl, rfl⟩
theorem d_MD_asItIs_20 : DR b_MD_asItIs 20 (.iaload) 1 21 := ⟨by decide +kernel, rfl⟩
theorem d_MD_asItIs_21 : DR b_MD_asItIs 21 (.iastore) 1 22 := ⟨by decide +kernel, rfl⟩
theorem d_MD_asItIs_22 : DR b_MD_asItIs 22 (.iinc 1 1) 3 25 := ⟨by decide +kernel, rfl⟩
theorem d_MD_asItIs_25 : DJ b_MD_asItIs 25 .goto 28 2 := ⟨-23, by decide +kernel, rfl, by decide⟩
theorem d_MD_asItIs_28 : DR b_MD_asItIs 28 (.return_) 1 29 := ⟨by decide +kernel, rfl⟩
set_option maxRecDepth 20000 in
theorem BH_MD_asItIs_2 {G : MCx} (hC : C0 G "AccusedChooseModel" b_MD_asItIs 2 1) (K2 : Int32 × St → Option (St)) (hK2 : ∀ (w1 : Int32) (s : St), VO G (RV G b_MD_asItIs) (K2 (w1, s)) 2 [(0, .ref (gad G 58)), (1, .int w1)] [] s) (v1 : Int32) (s : St) : VO G (RV G b_MD_asItIs) (H_MD_asItIs_2 K2 v1 s) 2 [(0, .ref (gad G 58)), (1, .int v1)] [] s := by
  unfold H_MD_asItIs_2
  refine VO_iload hC d_MD_asItIs_2 1 rfl ?_
  refine VO_aload hC d_MD_asItIs_3 0 rfl ?_
  refine VO_geti hC fl_MD_90 sh_MD rfl d_MD_asItIs_4 ?_
  refine VO_icmp_ge hC d_MD_asItIs_7 (fun _ => ?_) (fun _ => ?_)
  · exact VO_return d_MD_asItIs_28
  · refine VO_aload hC d_MD_asItIs_10 0 rfl ?_
    refine VO_getr (r := 74) hC fl_MD_59 sh_MD rfl d_MD_asItIs_11 ?_
    refine VO_iload hC d_MD_asItIs_14 1 rfl ?_
    refine VO_aload hC d_MD_asItIs_15 0 rfl ?_
    refine VO_getr (r := 67) hC fl_MD_34 sh_MD rfl d_MD_asItIs_16 ?_
    refine VO_iload hC d_MD_asItIs_19 1 rfl ?_
    refine VO_iaload hC ia_67 d_MD_asItIs_20 (fun x1 => ?_)
    refine VO_iastore hC ia_74 d_MD_asItIs_21 (fun s2 => ?_)
    refine VO_iinc hC d_MD_asItIs_22 1 rfl (by decide : Int32.ofInt 1 = 1) [(0, .ref (gad G 58))] rfl (by decide) ?_
    refine VO_goto hC d_MD_asItIs_25 ?_
    exact VO_sub [1, 0] rfl (hK2 (v1 + 1) s2)
set_option maxRecDepth 20000 in
theorem B_MD_asItIs_2 {G : MCx} (hC : C0 G "AccusedChooseModel" b_MD_asItIs 2 1) (v1 : Int32) (s : St) : VO G (RV G b_MD_asItIs) (F_MD_asItIs_2 v1 s) 2 [(0, .ref (gad G 58)), (1, .int v1)] [] s := by
  exact VO_fix (G_MD_asItIs_2) 2 (fun q => [(0, .ref (gad G 58)), (1, .int q.1)]) (fun q => q.2) (fun K hK q => BH_MD_asItIs_2 hC K (fun w1 s => hK (w1, s)) q.1 q.2) FUEL (v1, s)
set_option maxRecDepth 20000 in
theorem B_MD_asItIs {G : MCx} (hC : C0 G "AccusedChooseModel" b_MD_asItIs 2 1) (s : St) : VO G (RV G b_MD_asItIs) (F_MD_asItIs s) 0 [(0, .ref (gad G 58))] [] s := by
  unfold F_MD_asItIs
  refine VO_const hC d_MD_asItIs_0 ?_
  refine VO_istore hC d_MD_asItIs_1 [(0, .ref (gad G 58))] rfl (by decide) ?_
  exact VO_sub [1, 0] rfl (B_MD_asItIs_2 hC (0 : Int32) s)
set_option maxRecDepth 20000 in
theorem M_MD_asItIs {l : Launch} {D : va_G} {ad : Nat → Nat} {cI cL : ClassId} (hj : Inj ad) {s : St} {o : St} (h : F_MD_asItIs s = some o) : Cn l D ad cI cL y_MD_asItIs b_MD_asItIs 2 none 1 [.ref (ad 58)] s none o := by
  refine Cn_ofV hj (plainFor_of_name (by decide)) (Nat.le_of_ble_eq_true rfl) [(0, .ref (ad 58))] rfl (fun G hC e1 e2 e3 e4 e5 hR => ?_)
  subst e1; subst e2; subst e3; subst e4; subst e5
  exact B_MD_asItIs hC s o h hR
theorem d_MD_goes_0 : PLa b_MD_goes 0 0 1 := Or.inl ⟨0, by decide +kernel, rfl, rfl⟩
theorem d_MD_goes_1 : DR b_MD_goes 1 (.invokevirtual 206) 3 4 := ⟨by decide +kernel, rfl⟩
theorem d_MD_goes_4 : PLa b_MD_goes 4 0 5 := Or.inl ⟨0, by decide +kernel, rfl, rfl⟩
theorem d_MD_goes_5 : DR b_MD_goes 5 (.invokevirtual 209) 3 8 := ⟨by decide +kernel, rfl⟩
theorem d_MD_goes_8 : DR b_MD_goes 8 (.return_) 1 9 := ⟨by decide +kernel, rfl⟩
set_option maxRecDepth 20000 in
theorem B_MD_goes {G : MCx} (hC : C0 G "AccusedChooseModel" b_MD_goes 1 5) (s : St) : VO G (RV G b_MD_goes) (F_MD_goes s) 0 [(0, .ref (gad G 58))] [] s := by
  unfold F_MD_goes
  refine VO_aload hC d_MD_goes_0 0 rfl ?_
  refine VO_callVV hC [] [] ml_MD_206 d_MD_goes_1 yv_MD_asItIs sh_MD rfl rfl (fun o h => M_MD_asItIs hC.inj h) (by decide) rfl rfl (Nat.le_of_ble_eq_true rfl) (fun s1 => ?_)
  refine VO_aload hC d_MD_goes_4 0 rfl ?_
  refine VO_callVV hC [] [] ml_MD_209 d_MD_goes_5 yv_MD_goesBy sh_MD rfl rfl (fun o h => M_MD_goesBy hC.inj h) (by decide) rfl rfl (Nat.le_of_ble_eq_true rfl) (fun s2 => ?_)
  exact VO_return d_MD_goes_8
set_option maxRecDepth 20000 in
theorem M_MD_goes {l : Launch} {D : va_G} {ad : Nat → Nat} {cI cL : ClassId} (hj : Inj ad) {s : St} {o : St} (h : F_MD_goes s = some o) : Cn l D ad cI cL y_MD_goes b_MD_goes 1 none 5 [.ref (ad 58)] s none o := by
  refine Cn_ofV hj (plainFor_of_name (by decide)) (Nat.le_of_ble_eq_true rfl) [(0, .ref (ad 58))] rfl (fun G hC e1 e2 e3 e4 e5 hR => ?_)
  subst e1; subst e2; subst e3; subst e4; subst e5
  exact B_MD_goes hC s o h hR
theorem d_MD_hasMonths_0 : PLa b_MD_hasMonths 0 0 1 := Or.inl ⟨0, by decide +kernel, rfl, rfl⟩
theorem d_MD_hasMonths_1 : PLi b_MD_hasMonths 1 1 2 := Or.inl ⟨1, by decide +kernel, rfl, rfl⟩
theorem d_MD_hasMonths_2 : PLa b_MD_hasMonths 2 0 3 := Or.inl ⟨0, by decide +kernel, rfl, rfl⟩
theorem d_MD_hasMonths_3 : DR b_MD_hasMonths 3 (.getfield 56) 3 6 := ⟨by decide +kernel, rfl⟩
theorem d_MD_hasMonths_6 : PLi b_MD_hasMonths 6 1 7 := Or.inl ⟨1, by decide +kernel, rfl, rfl⟩
theorem d_MD_hasMonths_7 : DR b_MD_hasMonths 7 (.iaload) 1 8 := ⟨by decide +kernel, rfl⟩
theorem d_MD_hasMonths_8 : DR b_MD_hasMonths 8 (.invokevirtual 194) 3 11 := ⟨by decide +kernel, rfl⟩
theorem d_MD_hasMonths_11 : DR b_MD_hasMonths 11 (.ireturn) 1 12 := ⟨by decide +kernel, rfl⟩
set_option maxRecDepth 20000 in
theorem B_MD_hasMonths {G : MCx} (hC : C0 G "AccusedChooseModel" b_MD_hasMonths 2 3) (a1 : Int32) (s : St) : VO G (RI G b_MD_hasMonths) (F_MD_hasMonths a1 s) 0 [(0, .ref (gad G 58)), (1, .int a1)] [] s := by
  unfold F_MD_hasMonths
  refine VO_aload hC d_MD_hasMonths_0 0 rfl ?_
  refine VO_iload hC d_MD_hasMonths_1 1 rfl ?_
  refine VO_aload hC d_MD_hasMonths_2 0 rfl ?_
  refine VO_getr (r := 73) hC fl_MD_56 sh_MD rfl d_MD_hasMonths_3 ?_
  refine VO_iload hC d_MD_hasMonths_6 1 rfl ?_
  refine VO_iaload hC ia_73 d_MD_hasMonths_7 (fun x1 => ?_)
  refine VO_callVI hC [.int a1, .int x1] [] ml_MD_194 d_MD_hasMonths_8 yv_MD_monthsOf sh_MD rfl rfl (fun o h => M_MD_monthsOf hC.inj h) (by decide) rfl rfl (Nat.le_of_ble_eq_true rfl) (fun o2 => ?_)
  exact VO_ireturn d_MD_hasMonths_11
set_option maxRecDepth 20000 in
theorem M_MD_hasMonths {l : Launch} {D : va_G} {ad : Nat → Nat} {cI cL : ClassId} (hj : Inj ad) {a1 : Int32} {s : St} {o : Int32 × St} (h : F_MD_hasMonths a1 s = some o) : Cn l D ad cI cL y_MD_hasMonths b_MD_hasMonths 2 (some .int) 3 [.ref (ad 58), .int a1] s (some (.int o.1)) o.2 := by
  refine Cn_ofI hj (plainFor_of_name (by decide)) (Nat.le_of_ble_eq_true rfl) [(0, .ref (ad 58)), (1, .int a1)] rfl (fun G hC e1 e2 e3 e4 e5 hR => ?_)
  subst e1; subst e2; subst e3; subst e4; subst e5
  exact B_MD_hasMonths hC a1 s o h hR
theorem d_MD_allMonths_0 : PCi b_MD_allMonths 0 0 1 := Or.inl ⟨0, by decide +kernel, by decide, rfl⟩
theorem d_MD_allMonths_1 : PSi b_MD_allMonths 1 1 2 := Or.inl ⟨1, by decide +kernel, rfl, rfl⟩
theorem d_MD_allMonths_2 : PCi b_MD_allMonths 2 0 3 := Or.inl ⟨0, by decide +kernel, by decide, rfl⟩
theorem d_MD_allMonths_3 : PSi b_MD_allMonths 3 2 4 := Or.inl ⟨2, by decide +kernel, rfl, rfl⟩
theorem d_MD_allMonths_4 : PLi b_MD_allMonths 4 2 5 := Or.inl ⟨2, by decide +kernel, rfl, rfl⟩
theorem d_MD_allMonths_5 : PLa b_MD_allMonths 5 0 6 := Or.inl ⟨0, by decide +kernel, rfl, rfl⟩
theorem d_MD_allMonths_6 : DR b_MD_allMonths 6 (.getfield 90) 3 9 := ⟨by decide +kernel, rfl⟩
theorem d_MD_allMonths_9 : DJ b_MD_allMonths 9 (.if_icmp .ge) 12 26 := ⟨17, by decide +kernel, rfl, by decide⟩
theorem d_MD_allMonths_12 : PLi b_MD_allMonths 12 1 13 := Or.inl ⟨1, by decide +kernel, rfl, rfl⟩
theorem d_MD_allMonths_13 : PLa b_MD_allMonths 13 0 14 := Or.inl ⟨0, by decide +kernel, rfl, rfl⟩
theorem d_MD_allMonths_14 : PLi b_MD_allMonths 14 2 15 := Or.inl ⟨2, by decide +kernel, rfl, rfl⟩
theorem d_MD_allMonths_15 : DR b_MD_allMonths 15 (.invokevirtual 212) 3 18 := ⟨by decide +kernel, rfl⟩
theorem d_MD_allMonths_18 : DR b_MD_allMonths 18 (.iadd) 1 19 := ⟨by decide +kernel, rfl⟩
theorem d_MD_allMonths_19 : PSi b_MD_allMonths 19 1 20 := Or.inl ⟨1, by decide +kernel, rfl, rfl⟩
theorem d_MD_allMonths_20 : DR b_MD_allMonths 20 (.iinc 2 1) 3 23 := ⟨by decide +kernel, rfl⟩
theorem d_MD_allMonths_23 : DJ b_MD_allMonths 23 .goto 26 4 := ⟨-19, by decide +kernel, rfl, by decide⟩
theorem d_MD_allMonths_26 : PLi b_MD_allMonths 26 1 27 := Or.inl ⟨1, by decide +kernel, rfl, rfl⟩
theorem d_MD_allMonths_27 : DR b_MD_allMonths 27 (.ireturn) 1 28 := ⟨by decide +kernel, rfl⟩
set_option maxRecDepth 20000 in
theorem BH_MD_allMonths_4 {G : MCx} (hC : C0 G "AccusedChooseModel" b_MD_allMonths 3 4) (K4 : Int32 × Int32 × St → Option (Int32 × St)) (hK4 : ∀ (w1 : Int32) (w2 : Int32) (s : St), VO G (RI G b_MD_allMonths) (K4 (w1, w2, s)) 4 [(0, .ref (gad G 58)), (1, .int w1), (2, .int w2)] [] s) (v1 : Int32) (v2 : Int32) (s : St) : VO G (RI G b_MD_allMonths) (H_MD_allMonths_4 K4 v1 v2 s) 4 [(0, .ref (gad G 58)), (1, .int v1), (2, .int v2)] [] s := by
  unfold H_MD_allMonths_4
  refine VO_iload hC d_MD_allMonths_4 2 rfl ?_
  refine VO_aload hC d_MD_allMonths_5 0 rfl ?_
  refine VO_geti hC fl_MD_90 sh_MD rfl d_MD_allMonths_6 ?_
  refine VO_icmp_ge hC d_MD_allMonths_9 (fun _ => ?_) (fun _ => ?_)
  · refine VO_iload hC d_MD_allMonths_26 1 rfl ?_
    exact VO_ireturn d_MD_allMonths_27
  · refine VO_iload hC d_MD_allMonths_12 1 rfl ?_
    refine VO_aload hC d_MD_allMonths_13 0 rfl ?_
    refine VO_iload hC d_MD_allMonths_14 2 rfl ?_
    refine VO_callVI hC [.int v2] [.int v1] ml_MD_212 d_MD_allMonths_15 yv_MD_hasMonths sh_MD rfl rfl (fun o h => M_MD_hasMonths hC.inj h) (by decide) rfl rfl (Nat.le_of_ble_eq_true rfl) (fun o1 => ?_)
    refine VO_iadd hC d_MD_allMonths_18 ?_
    refine VO_istoreB hC d_MD_allMonths_19 [(0, .ref (gad G 58)), (2, .int v2)] rfl (by decide) (fun x2 => ?_)
    refine VO_iinc hC d_MD_allMonths_20 2 rfl (by decide : Int32.ofInt 1 = 1) [(1, .int x2), (0, .ref (gad G 58))] rfl (by decide) ?_
    refine VO_goto hC d_MD_allMonths_23 ?_
    exact VO_sub [2, 1, 0] rfl (hK4 x2 (v2 + 1) o1.2)
set_option maxRecDepth 20000 in
theorem B_MD_allMonths_4 {G : MCx} (hC : C0 G "AccusedChooseModel" b_MD_allMonths 3 4) (v1 : Int32) (v2 : Int32) (s : St) : VO G (RI G b_MD_allMonths) (F_MD_allMonths_4 v1 v2 s) 4 [(0, .ref (gad G 58)), (1, .int v1), (2, .int v2)] [] s := by
  exact VO_fix (G_MD_allMonths_4) 4 (fun q => [(0, .ref (gad G 58)), (1, .int q.1), (2, .int q.2.1)]) (fun q => q.2.2) (fun K hK q => BH_MD_allMonths_4 hC K (fun w1 w2 s => hK (w1, w2, s)) q.1 q.2.1 q.2.2) FUEL (v1, v2, s)
set_option maxRecDepth 20000 in
theorem B_MD_allMonths {G : MCx} (hC : C0 G "AccusedChooseModel" b_MD_allMonths 3 4) (s : St) : VO G (RI G b_MD_allMonths) (F_MD_allMonths s) 0 [(0, .ref (gad G 58))] [] s := by
  unfold F_MD_allMonths
  refine VO_const hC d_MD_allMonths_0 ?_
  refine VO_istore hC d_MD_allMonths_1 [(0, .ref (gad G 58))] rfl (by decide) ?_
  refine VO_const hC d_MD_allMonths_2 ?_
  refine VO_istore hC d_MD_allMonths_3 [(1, .int (0 : Int32)), (0, .ref (gad G 58))] rfl (by decide) ?_
  exact VO_sub [2, 1, 0] rfl (B_MD_allMonths_4 hC (0 : Int32) (0 : Int32) s)
set_option maxRecDepth 20000 in
theorem M_MD_allMonths {l : Launch} {D : va_G} {ad : Nat → Nat} {cI cL : ClassId} (hj : Inj ad) {s : St} {o : Int32 × St} (h : F_MD_allMonths s = some o) : Cn l D ad cI cL y_MD_allMonths b_MD_allMonths 3 (some .int) 4 [.ref (ad 58)] s (some (.int o.1)) o.2 := by
  refine Cn_ofI hj (plainFor_of_name (by decide)) (Nat.le_of_ble_eq_true rfl) [(0, .ref (ad 58))] rfl (fun G hC e1 e2 e3 e4 e5 hR => ?_)
  subst e1; subst e2; subst e3; subst e4; subst e5
  exact B_MD_allMonths hC s o h hR
theorem d_MD_monthsNow_0 : PLa b_MD_monthsNow 0 0 1 := Or.inl ⟨0, by decide +kernel, rfl, rfl⟩
theorem d_MD_monthsNow_1 : DR b_MD_monthsNow 1 (.invokevirtual 215) 3 4 := ⟨by decide +kernel, rfl⟩
theorem d_MD_monthsNow_4 : PLa b_MD_monthsNow 4 0 5 := Or.inl ⟨0, by decide +kernel, rfl, rfl⟩
theorem d_MD_monthsNow_5 : DR b_MD_monthsNow 5 (.invokevirtual 218) 3 8 := ⟨by decide +kernel, rfl⟩
theorem d_MD_monthsNow_8 : DR b_MD_monthsNow 8 (.ireturn) 1 9 := ⟨by decide +kernel, rfl⟩
set_option maxRecDepth 20000 in
theorem B_MD_monthsNow {G : MCx} (hC : C0 G "AccusedChooseModel" b_MD_monthsNow 1 6) (s : St) : VO G (RI G b_MD_monthsNow) (F_MD_monthsNow s) 0 [(0, .ref (gad G 58))] [] s := by
  unfold F_MD_monthsNow
  refine VO_aload hC d_MD_monthsNow_0 0 rfl ?_
  refine VO_callVV hC [] [] ml_MD_215 d_MD_monthsNow_1 yv_MD_goes sh_MD rfl rfl (fun o h => M_MD_goes hC.inj h) (by decide) rfl rfl (Nat.le_of_ble_eq_true rfl) (fun s1 => ?_)
  refine VO_aload hC d_MD_monthsNow_4 0 rfl ?_
  refine VO_callVI hC [] [] ml_MD_218 d_MD_monthsNow_5 yv_MD_allMonths sh_MD rfl rfl (fun o h => M_MD_allMonths hC.inj h) (by decide) rfl rfl (Nat.le_of_ble_eq_true rfl) (fun o2 => ?_)
  exact VO_ireturn d_MD_monthsNow_8
set_option maxRecDepth 20000 in
theorem M_MD_monthsNow {l : Launch} {D : va_G} {ad : Nat → Nat} {cI cL : ClassId} (hj : Inj ad) {s : St} {o : Int32 × St} (h : F_MD_monthsNow s = some o) : Cn l D ad cI cL y_MD_monthsNow b_MD_monthsNow 1 (some .int) 6 [.ref (ad 58)] s (some (.int o.1)) o.2 := by
  refine Cn_ofI hj (plainFor_of_name (by decide)) (Nat.le_of_ble_eq_true rfl) [(0, .ref (ad 58))] rfl (fun G hC e1 e2 e3 e4 e5 hR => ?_)
  subst e1; subst e2; subst e3; subst e4; subst e5
  exact B_MD_monthsNow hC s o h hR
theorem d_MD_takes_0 : PLa b_MD_takes 0 0 1 := Or.inl ⟨0, by decide +kernel, rfl, rfl⟩
theorem d_MD_takes_1 : PLi b_MD_takes 1 1 2 := Or.inl ⟨1, by decide +kernel, rfl, rfl⟩
theorem d_MD_takes_2 : DR b_MD_takes 2 (.invokevirtual 93) 3 5 := ⟨by decide +kernel, rfl⟩
theorem d_MD_takes_5 : DJ b_MD_takes 5 (.ifCond .ne) 8 12 := ⟨7, by decide +kernel, rfl, by decide⟩
theorem d_MD_takes_8 : PCi b_MD_takes 8 (-1) 9 := Or.inl ⟨(-1), by decide +kernel, by decide, rfl⟩
theorem d_MD_takes_9 : DJ b_MD_takes 9 .goto 12 27 := ⟨18, by decide +kernel, rfl, by decide⟩
theorem d_MD_takes_12 : PLi b_MD_takes 12 2 13 := Or.inl ⟨2, by decide +kernel, rfl, rfl⟩
theorem d_MD_takes_13 : PCi b_MD_takes 13 0 14 := Or.inl ⟨0, by decide +kernel, by decide, rfl⟩
theorem d_MD_takes_14 : PCi b_MD_takes 14 1 15 := Or.inl ⟨1, by decide +kernel, by decide, rfl⟩
theorem d_MD_takes_15 : DR b_MD_takes 15 (.invokestatic 115) 3 18 := ⟨by decide +kernel, rfl⟩
theorem d_MD_takes_18 : DJ b_MD_takes 18 (.ifCond .ne) 21 26 := ⟨8, by decide +kernel, rfl, by decide⟩
theorem d_MD_takes_21 : PCi b_MD_takes 21 (-2) 23 := Or.inr (Or.inl ⟨(-2), by decide +kernel, by decide, rfl⟩)
theorem d_MD_takes_23 : DJ b_MD_takes 23 .goto 26 27 := ⟨4, by decide +kernel, rfl, by decide⟩
theorem d_MD_takes_26 : PCi b_MD_takes 26 0 27 := Or.inl ⟨0, by decide +kernel, by decide, rfl⟩
theorem d_MD_takes_27 : PSi b_MD_takes 27 3 28 := Or.inl ⟨3, by decide +kernel, rfl, rfl⟩
theorem d_MD_takes_28 : PLi b_MD_takes 28 3 29 := Or.inl ⟨3, by decide +kernel, rfl, rfl⟩
theorem d_MD_takes_29 : DJ b_MD_takes 29 (.ifCond .eq) 32 38 := ⟨9, by decide +kernel, rfl, by decide⟩
theorem d_MD_takes_32 : PLa b_MD_takes 32 0 33 := Or.inl ⟨0, by decide +kernel, rfl, rfl⟩
theorem d_MD_takes_33 : PLi b_MD_takes 33 3 34 := Or.inl ⟨3, by decide +kernel, rfl, rfl⟩
theorem d_MD_takes_34 : DR b_MD_takes 34 (.invokevirtual 104) 3 37 := ⟨by decide +kernel, rfl⟩
theorem d_MD_takes_37 : DR b_MD_takes 37 (.ireturn) 1 38 := ⟨by decide +kernel, rfl⟩
theorem d_MD_takes_38 : PLa b_MD_takes 38 0 39 := Or.inl ⟨0, by decide +kernel, rfl, rfl⟩
theorem d_MD_takes_39 : DR b_MD_takes 39 (.invokevirtual 215) 3 42 := ⟨by decide +kernel, rfl⟩
theorem d_MD_takes_42 : PLi b_MD_takes 42 2 43 := Or.inl ⟨2, by decide +kernel, rfl, rfl⟩
theorem d_MD_takes_43 : DJ b_MD_takes 43 (.ifCond .ne) 46 55 := ⟨12, by decide +kernel, rfl, by decide⟩
theorem d_MD_takes_46 : PLa b_MD_takes 46 0 47 := Or.inl ⟨0, by decide +kernel, rfl, rfl⟩
theorem d_MD_takes_47 : DR b_MD_takes 47 (.getfield 56) 3 50 := ⟨by decide +kernel, rfl⟩
theorem d_MD_takes_50 : PLi b_MD_takes 50 1 51 := Or.inl ⟨1, by decide +kernel, rfl, rfl⟩
theorem d_MD_takes_51 : DR b_MD_takes 51 (.iaload) 1 52 := ⟨by decide +kernel, rfl⟩
theorem d_MD_takes_52 : DJ b_MD_takes 52 .goto 55 60 := ⟨8, by decide +kernel, rfl, by decide⟩
theorem d_MD_takes_55 : PLa b_MD_takes 55 0 56 := Or.inl ⟨0, by decide +kernel, rfl, rfl⟩
theorem d_MD_takes_56 : PLi b_MD_takes 56 1 57 := Or.inl ⟨1, by decide +kernel, rfl, rfl⟩
theorem d_MD_takes_57 : DR b_MD_takes 57 (.invokevirtual 212) 3 60 := ⟨by decide +kernel, rfl⟩
theorem d_MD_takes_60 : DR b_MD_takes 60 (.ireturn) 1 61 := ⟨by decide +kernel, rfl⟩
set_option maxRecDepth 20000 in
theorem B_MD_takes_27 {G : MCx} (hC : C0 G "AccusedChooseModel" b_MD_takes 4 6) (v1 : Int32) (v2 : Int32) (z0 : Int32) (s : St) : VO G (RI G b_MD_takes) (F_MD_takes_27 v1 v2 z0 s) 27 [(0, .ref (gad G 58)), (1, .int v1), (2, .int v2)] [.int z0] s := by
  unfold F_MD_takes_27
  refine VO_istore hC d_MD_takes_27 [(0, .ref (gad G 58)), (1, .int v1), (2, .int v2)] rfl (by decide) ?_
  refine VO_iload hC d_MD_takes_28 0 rfl ?_
  refine VO_if_eq hC d_MD_takes_29 (fun _ => ?_) (fun _ => ?_)
  · refine VO_aload hC d_MD_takes_38 1 rfl ?_
    refine VO_callVV hC [] [] ml_MD_215 d_MD_takes_39 yv_MD_goes sh_MD rfl rfl (fun o h => M_MD_goes hC.inj h) (by decide) rfl rfl (Nat.le_of_ble_eq_true rfl) (fun s3 => ?_)
    refine VO_iload hC d_MD_takes_42 3 rfl ?_
    refine VO_if_ne hC d_MD_takes_43 (fun _ => ?_) (fun _ => ?_)
    · refine VO_aload hC d_MD_takes_46 1 rfl ?_
      refine VO_getr (r := 73) hC fl_MD_56 sh_MD rfl d_MD_takes_47 ?_
      refine VO_iload hC d_MD_takes_50 2 rfl ?_
      refine VO_iaload hC ia_73 d_MD_takes_51 (fun x5 => ?_)
      refine VO_goto hC d_MD_takes_52 ?_
      exact VO_ireturn d_MD_takes_60
    · refine VO_aload hC d_MD_takes_55 1 rfl ?_
      refine VO_iload hC d_MD_takes_56 2 rfl ?_
      refine VO_callVI hC [.int v1] [] ml_MD_212 d_MD_takes_57 yv_MD_hasMonths sh_MD rfl rfl (fun o h => M_MD_hasMonths hC.inj h) (by decide) rfl rfl (Nat.le_of_ble_eq_true rfl) (fun o4 => ?_)
      exact VO_ireturn d_MD_takes_60
  · refine VO_aload hC d_MD_takes_32 1 rfl ?_
    refine VO_iload hC d_MD_takes_33 0 rfl ?_
    refine VO_callVI hC [.int z0] [] ml_MD_104 d_MD_takes_34 yv_MD_no sh_MD rfl rfl (fun o h => M_MD_no hC.inj h) (by decide) rfl rfl (Nat.le_of_ble_eq_true rfl) (fun o6 => ?_)
    exact VO_ireturn d_MD_takes_37
set_option maxRecDepth 20000 in
theorem B_MD_takes {G : MCx} (hC : C0 G "AccusedChooseModel" b_MD_takes 4 6) (a1 : Int32) (a2 : Int32) (s : St) : VO G (RI G b_MD_takes) (F_MD_takes a1 a2 s) 0 [(0, .ref (gad G 58)), (1, .int a1), (2, .int a2)] [] s := by
  unfold F_MD_takes
  refine VO_aload hC d_MD_takes_0 0 rfl ?_
  refine VO_iload hC d_MD_takes_1 1 rfl ?_
  refine VO_callVI hC [.int a1] [] ml_MD_93 d_MD_takes_2 yv_MD_isPerson sh_MD rfl rfl (fun o h => M_MD_isPerson hC.inj h) (by decide) rfl rfl (Nat.le_of_ble_eq_true rfl) (fun o1 => ?_)
  refine VO_if_ne hC d_MD_takes_5 (fun _ => ?_) (fun _ => ?_)
  · refine VO_const hC d_MD_takes_8 ?_
    refine VO_goto hC d_MD_takes_9 ?_
    exact (B_MD_takes_27 hC a1 a2 (-1 : Int32) o1.2)
  · refine VO_iload hC d_MD_takes_12 2 rfl ?_
    refine VO_const hC d_MD_takes_13 ?_
    refine VO_const hC d_MD_takes_14 ?_
    refine VO_callSI hC [.int a2, .int (0 : Int32), .int (1 : Int32)] [] ml_MD_115 d_MD_takes_15 ys_MD_isIn (fun o h => M_MD_isIn hC.inj h) (by decide) rfl rfl (Nat.le_of_ble_eq_true rfl) (fun o2 => ?_)
    refine VO_if_ne hC d_MD_takes_18 (fun _ => ?_) (fun _ => ?_)
    · refine VO_const hC d_MD_takes_21 ?_
      refine VO_goto hC d_MD_takes_23 ?_
      exact (B_MD_takes_27 hC a1 a2 (-2 : Int32) o2.2)
    · refine VO_const hC d_MD_takes_26 ?_
      exact (B_MD_takes_27 hC a1 a2 (0 : Int32) o2.2)
set_option maxRecDepth 20000 in
theorem M_MD_takes {l : Launch} {D : va_G} {ad : Nat → Nat} {cI cL : ClassId} (hj : Inj ad) {a1 : Int32} {a2 : Int32} {s : St} {o : Int32 × St} (h : F_MD_takes a1 a2 s = some o) : Cn l D ad cI cL y_MD_takes b_MD_takes 4 (some .int) 6 [.ref (ad 58), .int a1, .int a2] s (some (.int o.1)) o.2 := by
  refine Cn_ofI hj (plainFor_of_name (by decide)) (Nat.le_of_ble_eq_true rfl) [(0, .ref (ad 58)), (1, .int a1), (2, .int a2)] rfl (fun G hC e1 e2 e3 e4 e5 hR => ?_)
  subst e1; subst e2; subst e3; subst e4; subst e5
  exact B_MD_takes hC a1 a2 s o h hR
theorem d_MD_firstWithout_0 : PCi b_MD_firstWithout 0 0 1 := Or.inl ⟨0, by decide +kernel, by decide, rfl⟩
theorem d_MD_firstWithout_1 : PSi b_MD_firstWithout 1 1 2 := Or.inl ⟨1, by decide +kernel, rfl, rfl⟩
theorem d_MD_firstWithout_2 : PLi b_MD_firstWithout 2 1 3 := Or.inl ⟨1, by decide +kernel, rfl, rfl⟩
theorem d_MD_firstWithout_3 : PLa b_MD_firstWithout 3 0 4 := Or.inl ⟨0, by decide +kernel, rfl, rfl⟩
theorem d_MD_firstWithout_4 : DR b_MD_firstWithout 4 (.getfield 90) 3 7 := ⟨by decide +kernel, rfl⟩
theorem d_MD_firstWithout_7 : DJ b_MD_firstWithout 7 (.if_icmp .ge) 10 37 := ⟨30, by decide +kernel, rfl, by decide⟩
theorem d_MD_firstWithout_10 : PLa b_MD_firstWithout 10 0 11 := Or.inl ⟨0, by decide +kernel, rfl, rfl⟩
theorem d_MD_firstWithout_11 : DR b_MD_firstWithout 11 (.getfield 56) 3 14 := ⟨by decide +kernel, rfl⟩
theorem d_MD_firstWithout_14 : PLa b_MD_firstWithout 14 0 15 := Or.inl ⟨0, by decide +kernel, rfl, rfl⟩
theorem d_MD_firstWithout_15 : DR b_MD_firstWithout 15 (.getfield 59) 3 18 := ⟨by decide +kernel, rfl⟩
theorem d_MD_firstWithout_18 : PLi b_MD_firstWithout 18 1 19 := Or.inl ⟨1, by decide +kernel, rfl, rfl⟩
theorem d_MD_firstWithout_19 : DR b_MD_firstWithout 19 (.iaload) 1 20 := ⟨by decide +kernel, rfl⟩
theorem d_MD_firstWithout_20 : DR b_MD_firstWithout 20 (.iaload) 1 21 := ⟨by decide +kernel, rfl⟩
theorem d_MD_firstWithout_21 : DJ b_MD_firstWithout 21 (.ifCond .ge) 24 31 := ⟨10, by decide +kernel, rfl, by decide⟩
theorem d_MD_firstWithout_24 : PLa b_MD_firstWithout 24 0 25 := Or.inl ⟨0, by decide +kernel, rfl, rfl⟩
theorem d_MD_firstWithout_25 : DR b_MD_firstWithout 25 (.getfield 59) 3 28 := ⟨by decide +kernel, rfl⟩
theorem d_MD_firstWithout_28 : PLi b_MD_firstWithout 28 1 29 := Or.inl ⟨1, by decide +kernel, rfl, rfl⟩
theorem d_MD_firstWithout_29 : DR b_MD_firstWithout 29 (.iaload) 1 30 := ⟨by decide +kernel, rfl⟩
theorem d_MD_firstWithout_30 : DR b_MD_firstWithout 30 (.ireturn) 1 31 := ⟨by decide +kernel, rfl⟩
theorem d_MD_firstWithout_31 : DR b_MD_firstWithout 31 (.iinc 1 1) 3 34 := ⟨by decide +kernel, rfl⟩
theorem d_MD_firstWithout_34 : DJ b_MD_firstWithout 34 .goto 37 2 := ⟨-32, by decide +kernel, rfl, by decide⟩
theorem d_MD_firstWithout_37 : PCi b_MD_firstWithout 37 (-9) 39 := Or.inr (Or.inl ⟨(-9), by decide +kernel, by decide, rfl⟩)
theorem d_MD_firstWithout_39 : DR b_MD_firstWithout 39 (.ireturn) 1 40 := ⟨by decide +kernel, rfl⟩
set_option maxRecDepth 20000 in
theorem BH_MD_firstWithout_2 {G : MCx} (hC : C0 G "AccusedChooseModel" b_MD_firstWithout 2 1) (K2 : Int32 × St → Option (Int32 × St)) (hK2 : ∀ (w1 : Int32) (s : St), VO G (RI G b_MD_firstWithout) (K2 (w1, s)) 2 [(0, .ref (gad G 58)), (1, .int w1)] [] s) (v1 : Int32) (s : St) : VO G (RI G b_MD_firstWithout) (H_MD_firstWithout_2 K2 v1 s) 2 [(0, .ref (gad G 58)), (1, .int v1)] [] s := by
  unfold H_MD_firstWithout_2
  refine VO_iload hC d_MD_firstWithout_2 1 rfl ?_
  refine VO_aload hC d_MD_firstWithout_3 0 rfl ?_
  refine VO_geti hC fl_MD_90 sh_MD rfl d_MD_firstWithout_4 ?_
  refine VO_icmp_ge hC d_MD_firstWithout_7 (fun _ => ?_) (fun _ => ?_)
  · refine VO_const hC d_MD_firstWithout_37 ?_
    exact VO_ireturn d_MD_firstWithout_39
  · refine VO_aload hC d_MD_firstWithout_10 0 rfl ?_
    refine VO_getr (r := 73) hC fl_MD_56 sh_MD rfl d_MD_firstWithout_11 ?_
    refine VO_aload hC d_MD_firstWithout_14 0 rfl ?_
    refine VO_getr (r := 74) hC fl_MD_59 sh_MD rfl d_MD_firstWithout_15 ?_
    refine VO_iload hC d_MD_firstWithout_18 1 rfl ?_
    refine VO_iaload hC ia_74 d_MD_firstWithout_19 (fun x1 => ?_)
    refine VO_iaload hC ia_73 d_MD_firstWithout_20 (fun x2 => ?_)
    refine VO_if_ge hC d_MD_firstWithout_21 (fun _ => ?_) (fun _ => ?_)
    · refine VO_iinc hC d_MD_firstWithout_31 1 rfl (by decide : Int32.ofInt 1 = 1) [(0, .ref (gad G 58))] rfl (by decide) ?_
      refine VO_goto hC d_MD_firstWithout_34 ?_
      exact VO_sub [1, 0] rfl (hK2 (v1 + 1) s)
    · refine VO_aload hC d_MD_firstWithout_24 0 rfl ?_
      refine VO_getr (r := 74) hC fl_MD_59 sh_MD rfl d_MD_firstWithout_25 ?_
      refine VO_iload hC d_MD_firstWithout_28 1 rfl ?_
      refine VO_iaload hC ia_74 d_MD_firstWithout_29 (fun x3 => ?_)
      exact VO_ireturn d_MD_firstWithout_30
set_option maxRecDepth 20000 in
theorem B_MD_firstWithout_2 {G : MCx} (hC : C0 G "AccusedChooseModel" b_MD_firstWithout 2 1) (v1 : Int32) (s : St) : VO G (RI G b_MD_firstWithout) (F_MD_firstWithout_2 v1 s) 2 [(0, .ref (gad G 58)), (1, .int v1)] [] s := by
  exact VO_fix (G_MD_firstWithout_2) 2 (fun q => [(0, .ref (gad G 58)), (1, .int q.1)]) (fun q => q.2) (fun K hK q => BH_MD_firstWithout_2 hC K (fun w1 s => hK (w1, s)) q.1 q.2) FUEL (v1, s)
set_option maxRecDepth 20000 in
theorem B_MD_firstWithout {G : MCx} (hC : C0 G "AccusedChooseModel" b_MD_firstWithout 2 1) (s : St) : VO G (RI G b_MD_firstWithout) (F_MD_firstWithout s) 0 [(0, .ref (gad G 58))] [] s := by
  unfold F_MD_firstWithout
  refine VO_const hC d_MD_firstWithout_0 ?_
  refine VO_istore hC d_MD_firstWithout_1 [(0, .ref (gad G 58))] rfl (by decide) ?_
  exact VO_sub [1, 0] rfl (B_MD_firstWithout_2 hC (0 : Int32) s)
set_option maxRecDepth 20000 in
theorem M_MD_firstWithout {l : Launch} {D : va_G} {ad : Nat → Nat} {cI cL : ClassId} (hj : Inj ad) {s : St} {o : Int32 × St} (h : F_MD_firstWithout s = some o) : Cn l D ad cI cL y_MD_firstWithout b_MD_firstWithout 2 (some .int) 1 [.ref (ad 58)] s (some (.int o.1)) o.2 := by
  refine Cn_ofI hj (plainFor_of_name (by decide)) (Nat.le_of_ble_eq_true rfl) [(0, .ref (ad 58))] rfl (fun G hC e1 e2 e3 e4 e5 hR => ?_)
  subst e1; subst e2; subst e3; subst e4; subst e5
  exact B_MD_firstWithout hC s o h hR
theorem d_MD_morning_0 : PLi b_MD_morning 0 1 1 := Or.inl ⟨1, by decide +kernel, rfl, rfl⟩
theorem d_MD_morning_1 : PCi b_MD_morning 1 0 2 := Or.inl ⟨0, by decide +kernel, by decide, rfl⟩
theorem d_MD_morning_2 : PCi b_MD_morning 2 2 3 := Or.inl ⟨2, by decide +kernel, by decide, rfl⟩
theorem d_MD_morning_3 : DR b_MD_morning 3 (.invokestatic 115) 3 6 := ⟨by decide +kernel, rfl⟩
theorem d_MD_morning_6 : DJ b_MD_morning 6 (.ifCond .ne) 9 16 := ⟨10, by decide +kernel, rfl, by decide⟩
theorem d_MD_morning_9 : PLa b_MD_morning 9 0 10 := Or.inl ⟨0, by decide +kernel, rfl, rfl⟩
theorem d_MD_morning_10 : PCi b_MD_morning 10 (-2) 12 := Or.inr (Or.inl ⟨(-2), by decide +kernel, by decide, rfl⟩)
theorem d_MD_morning_12 : DR b_MD_morning 12 (.invokevirtual 104) 3 15 := ⟨by decide +kernel, rfl⟩
theorem d_MD_morning_15 : DR b_MD_morning 15 (.ireturn) 1 16 := ⟨by decide +kernel, rfl⟩
theorem d_MD_morning_16 : PLa b_MD_morning 16 0 17 := Or.inl ⟨0, by decide +kernel, rfl, rfl⟩
theorem d_MD_morning_17 : DR b_MD_morning 17 (.invokevirtual 215) 3 20 := ⟨by decide +kernel, rfl⟩
theorem d_MD_morning_20 : PCi b_MD_morning 20 1 21 := Or.inl ⟨1, by decide +kernel, by decide, rfl⟩
theorem d_MD_morning_21 : PLa b_MD_morning 21 0 22 := Or.inl ⟨0, by decide +kernel, rfl, rfl⟩
theorem d_MD_morning_22 : DR b_MD_morning 22 (.getfield 84) 3 25 := ⟨by decide +kernel, rfl⟩
theorem d_MD_morning_25 : DR b_MD_morning 25 (.ishl) 1 26 := ⟨by decide +kernel, rfl⟩
theorem d_MD_morning_26 : PCi b_MD_morning 26 1 27 := Or.inl ⟨1, by decide +kernel, by decide, rfl⟩
theorem d_MD_morning_27 : DR b_MD_morning 27 (.isub) 1 28 := ⟨by decide +kernel, rfl⟩
theorem d_MD_morning_28 : PSi b_MD_morning 28 2 29 := Or.inl ⟨2, by decide +kernel, rfl, rfl⟩
theorem d_MD_morning_29 : PCi b_MD_morning 29 0 30 := Or.inl ⟨0, by decide +kernel, by decide, rfl⟩
theorem d_MD_morning_30 : PSi b_MD_morning 30 3 31 := Or.inl ⟨3, by decide +kernel, rfl, rfl⟩
theorem d_MD_morning_31 : PLi b_MD_morning 31 3 32 := Or.inl ⟨3, by decide +kernel, rfl, rfl⟩
theorem d_MD_morning_32 : PLa b_MD_morning 32 0 33 := Or.inl ⟨0, by decide +kernel, rfl, rfl⟩
theorem d_MD_morning_33 : DR b_MD_morning 33 (.getfield 90) 3 36 := ⟨by decide +kernel, rfl⟩
theorem d_MD_morning_36 : DJ b_MD_morning 36 (.if_icmp .ge) 39 71 := ⟨35, by decide +kernel, rfl, by decide⟩
theorem d_MD_morning_39 : PLi b_MD_morning 39 2 40 := Or.inl ⟨2, by decide +kernel, rfl, rfl⟩
theorem d_MD_morning_40 : PLa b_MD_morning 40 0 41 := Or.inl ⟨0, by decide +kernel, rfl, rfl⟩
theorem d_MD_morning_41 : DR b_MD_morning 41 (.getfield 56) 3 44 := ⟨by decide +kernel, rfl⟩
theorem d_MD_morning_44 : PLi b_MD_morning 44 3 45 := Or.inl ⟨3, by decide +kernel, rfl, rfl⟩
theorem d_MD_morning_45 : DR b_MD_morning 45 (.iaload) 1 46 := ⟨by decide +kernel, rfl⟩
theorem d_MD_morning_46 : DJ b_MD_morning 46 (.ifCond .ge) 49 53 := ⟨7, by decide +kernel, rfl, by decide⟩
theorem d_MD_morning_49 : PCi b_MD_morning 49 (-1) 50 := Or.inl ⟨(-1), by decide +kernel, by decide, rfl⟩
theorem d_MD_morning_50 : DJ b_MD_morning 50 .goto 53 63 := ⟨13, by decide +kernel, rfl, by decide⟩
theorem d_MD_morning_53 : PCi b_MD_morning 53 1 54 := Or.inl ⟨1, by decide +kernel, by decide, rfl⟩
theorem d_MD_morning_54 : PLa b_MD_morning 54 0 55 := Or.inl ⟨0, by decide +kernel, rfl, rfl⟩
theorem d_MD_morning_55 : DR b_MD_morning 55 (.getfield 56) 3 58 := ⟨by decide +kernel, rfl⟩
theorem d_MD_morning_58 : PLi b_MD_morning 58 3 59 := Or.inl ⟨3, by decide +kernel, rfl, rfl⟩
theorem d_MD_morning_59 : DR b_MD_morning 59 (.iaload) 1 60 := ⟨by decide +kernel, rfl⟩
theorem d_MD_morning_60 : DR b_MD_morning 60 (.ishl) 1 61 := ⟨by decide +kernel, rfl⟩
theorem d_MD_morning_61 : PCi b_MD_morning 61 (-1) 62 := Or.inl ⟨(-1), by decide +kernel, by decide, rfl⟩
theorem d_MD_morning_62 : DR b_MD_morning 62 (.ixor) 1 63 := ⟨by decide +kernel, rfl⟩
theorem d_MD_morning_63 : DR b_MD_morning 63 (.iand) 1 64 := ⟨by decide +kernel, rfl⟩
theorem d_MD_morning_64 : PSi b_MD_morning 64 2 65 := Or.inl ⟨2, by decide +kernel, rfl, rfl⟩
theorem d_MD_morning_65 : DR b_MD_morning 65 (.iinc 3 1) 3 68 := ⟨by decide +kernel, rfl⟩
theorem d_MD_morning_68 : DJ b_MD_morning 68 .goto 71 31 := ⟨-37, by decide +kernel, rfl, by decide⟩
theorem d_MD_morning_71 : PLi b_MD_morning 71 1 72 := Or.inl ⟨1, by decide +kernel, rfl, rfl⟩
theorem d_MD_morning_72 : DJ b_MD_morning 72 (.ifCond .ne) 75 82 := ⟨10, by decide +kernel, rfl, by decide⟩
theorem d_MD_morning_75 : PLa b_MD_morning 75 0 76 := Or.inl ⟨0, by decide +kernel, rfl, rfl⟩
theorem d_MD_morning_76 : DR b_MD_morning 76 (.invokevirtual 221) 3 79 := ⟨by decide +kernel, rfl⟩
theorem d_MD_morning_79 : DJ b_MD_morning 79 .goto 82 95 := ⟨16, by decide +kernel, rfl, by decide⟩
theorem d_MD_morning_82 : PLi b_MD_morning 82 1 83 := Or.inl ⟨1, by decide +kernel, rfl, rfl⟩
theorem d_MD_morning_83 : PCi b_MD_morning 83 1 84 := Or.inl ⟨1, by decide +kernel, by decide, rfl⟩
theorem d_MD_morning_84 : DJ b_MD_morning 84 (.if_icmp .ne) 87 94 := ⟨10, by decide +kernel, rfl, by decide⟩
theorem d_MD_morning_87 : PLa b_MD_morning 87 0 88 := Or.inl ⟨0, by decide +kernel, rfl, rfl⟩
theorem d_MD_morning_88 : DR b_MD_morning 88 (.invokevirtual 218) 3 91 := ⟨by decide +kernel, rfl⟩
theorem d_MD_morning_91 : DJ b_MD_morning 91 .goto 94 95 := ⟨4, by decide +kernel, rfl, by decide⟩
theorem d_MD_morning_94 : PLi b_MD_morning 94 2 95 := Or.inl ⟨2, by decide +kernel, rfl, rfl⟩
theorem d_MD_morning_95 : DR b_MD_morning 95 (.ireturn) 1 96 := ⟨by decide +kernel, rfl⟩
set_option maxRecDepth 20000 in
theorem B_MD_morning_63 {G : MCx} (hC : C0 G "AccusedChooseModel" b_MD_morning 4 6) {v1 : Int32} (K31 : Int32 × Int32 × St → Option (Int32 × St)) (hK31 : ∀ (w2 : Int32) (w3 : Int32) (s : St), VO G (RI G b_MD_morning) (K31 (w2, w3, s)) 31 [(0, .ref (gad G 58)), (1, .int v1), (2, .int w2), (3, .int w3)] [] s) (v3 : Int32) (z0 : Int32) (z1 : Int32) (s : St) : VO G (RI G b_MD_morning) (F_MD_morning_63 K31 v1 v3 z0 z1 s) 63 [(0, .ref (gad G 58)), (1, .int v1), (3, .int v3)] [.int z0, .int z1] s := by
  unfold F_MD_morning_63
  refine VO_iand hC d_MD_morning_63 ?_
  refine VO_istoreB hC d_MD_morning_64 [(0, .ref (gad G 58)), (1, .int v1), (3, .int v3)] rfl (by decide) (fun x8 => ?_)
  refine VO_iinc hC d_MD_morning_65 3 rfl (by decide : Int32.ofInt 1 = 1) [(2, .int x8), (0, .ref (gad G 58)), (1, .int v1)] rfl (by decide) ?_
  refine VO_goto hC d_MD_morning_68 ?_
  exact VO_sub [2, 3, 1, 0] rfl (hK31 x8 (v3 + 1) s)
set_option maxRecDepth 20000 in
theorem BH_MD_morning_31 {G : MCx} (hC : C0 G "AccusedChooseModel" b_MD_morning 4 6) {v1 : Int32} (K31 : Int32 × Int32 × St → Option (Int32 × St)) (hK31 : ∀ (w2 : Int32) (w3 : Int32) (s : St), VO G (RI G b_MD_morning) (K31 (w2, w3, s)) 31 [(0, .ref (gad G 58)), (1, .int v1), (2, .int w2), (3, .int w3)] [] s) (v2 : Int32) (v3 : Int32) (s : St) : VO G (RI G b_MD_morning) (H_MD_morning_31 v1 K31 v2 v3 s) 31 [(0, .ref (gad G 58)), (1, .int v1), (2, .int v2), (3, .int v3)] [] s := by
  unfold H_MD_morning_31
  refine VO_iload hC d_MD_morning_31 3 rfl ?_
  refine VO_aload hC d_MD_morning_32 0 rfl ?_
  refine VO_geti hC fl_MD_90 sh_MD rfl d_MD_morning_33 ?_
  refine VO_icmp_ge hC d_MD_morning_36 (fun _ => ?_) (fun _ => ?_)
  · refine VO_iload hC d_MD_morning_71 1 rfl ?_
    refine VO_if_ne hC d_MD_morning_72 (fun _ => ?_) (fun _ => ?_)
    · refine VO_aload hC d_MD_morning_75 0 rfl ?_
      refine VO_callVI hC [] [] ml_MD_221 d_MD_morning_76 yv_MD_firstWithout sh_MD rfl rfl (fun o h => M_MD_firstWithout hC.inj h) (by decide) rfl rfl (Nat.le_of_ble_eq_true rfl) (fun o5 => ?_)
      refine VO_goto hC d_MD_morning_79 ?_
      exact VO_ireturn d_MD_morning_95
    · refine VO_iload hC d_MD_morning_82 1 rfl ?_
      refine VO_const hC d_MD_morning_83 ?_
      refine VO_icmp_ne hC d_MD_morning_84 (fun _ => ?_) (fun _ => ?_)
      · refine VO_aload hC d_MD_morning_87 0 rfl ?_
        refine VO_callVI hC [] [] ml_MD_218 d_MD_morning_88 yv_MD_allMonths sh_MD rfl rfl (fun o h => M_MD_allMonths hC.inj h) (by decide) rfl rfl (Nat.le_of_ble_eq_true rfl) (fun o4 => ?_)
        refine VO_goto hC d_MD_morning_91 ?_
        exact VO_ireturn d_MD_morning_95
      · refine VO_iload hC d_MD_morning_94 2 rfl ?_
        exact VO_ireturn d_MD_morning_95
  · refine VO_iload hC d_MD_morning_39 2 rfl ?_
    refine VO_aload hC d_MD_morning_40 0 rfl ?_
    refine VO_getr (r := 73) hC fl_MD_56 sh_MD rfl d_MD_morning_41 ?_
    refine VO_iload hC d_MD_morning_44 3 rfl ?_
    refine VO_iaload hC ia_73 d_MD_morning_45 (fun x6 => ?_)
    refine VO_if_ge hC d_MD_morning_46 (fun _ => ?_) (fun _ => ?_)
    · refine VO_const hC d_MD_morning_53 ?_
      refine VO_aload hC d_MD_morning_54 0 rfl ?_
      refine VO_getr (r := 73) hC fl_MD_56 sh_MD rfl d_MD_morning_55 ?_
      refine VO_iload hC d_MD_morning_58 3 rfl ?_
      refine VO_iaload hC ia_73 d_MD_morning_59 (fun x7 => ?_)
      refine VO_ishl hC d_MD_morning_60 ?_
      refine VO_const hC d_MD_morning_61 ?_
      refine VO_ixor hC d_MD_morning_62 ?_
      exact VO_sub [0, 1, 3] rfl (B_MD_morning_63 hC K31 hK31 v3 (((1 : Int32) <<< (x7 &&& 31)) ^^^ (-1 : Int32)) v2 s)
    · refine VO_const hC d_MD_morning_49 ?_
      refine VO_goto hC d_MD_morning_50 ?_
      exact VO_sub [0, 1, 3] rfl (B_MD_morning_63 hC K31 hK31 v3 (-1 : Int32) v2 s)
set_option maxRecDepth 20000 in
theorem B_MD_morning_31 {G : MCx} (hC : C0 G "AccusedChooseModel" b_MD_morning 4 6) (v1 : Int32) (v2 : Int32) (v3 : Int32) (s : St) : VO G (RI G b_MD_morning) (F_MD_morning_31 v1 v2 v3 s) 31 [(0, .ref (gad G 58)), (1, .int v1), (2, .int v2), (3, .int v3)] [] s := by
  exact VO_fix (G_MD_morning_31 v1) 31 (fun q => [(0, .ref (gad G 58)), (1, .int v1), (2, .int q.1), (3, .int q.2.1)]) (fun q => q.2.2) (fun K hK q => BH_MD_morning_31 hC K (fun w2 w3 s => hK (w2, w3, s)) q.1 q.2.1 q.2.2) FUEL (v2, v3, s)
set_option maxRecDepth 20000 in
theorem B_MD_morning {G : MCx} (hC : C0 G "AccusedChooseModel" b_MD_morning 4 6) (a1 : Int32) (s : St) : VO G (RI G b_MD_morning) (F_MD_morning a1 s) 0 [(0, .ref (gad G 58)), (1, .int a1)] [] s := by
  unfold F_MD_morning
  refine VO_iload hC d_MD_morning_0 1 rfl ?_
  refine VO_const hC d_MD_morning_1 ?_
  refine VO_const hC d_MD_morning_2 ?_
  refine VO_callSI hC [.int a1, .int (0 : Int32), .int (2 : Int32)] [] ml_MD_115 d_MD_morning_3 ys_MD_isIn (fun o h => M_MD_isIn hC.inj h) (by decide) rfl rfl (Nat.le_of_ble_eq_true rfl) (fun o1 => ?_)
  refine VO_if_ne hC d_MD_morning_6 (fun _ => ?_) (fun _ => ?_)
  · refine VO_aload hC d_MD_morning_9 0 rfl ?_
    refine VO_const hC d_MD_morning_10 ?_
    refine VO_callVI hC [.int (-2 : Int32)] [] ml_MD_104 d_MD_morning_12 yv_MD_no sh_MD rfl rfl (fun o h => M_MD_no hC.inj h) (by decide) rfl rfl (Nat.le_of_ble_eq_true rfl) (fun o9 => ?_)
    exact VO_ireturn d_MD_morning_15
  · refine VO_aload hC d_MD_morning_16 0 rfl ?_
    refine VO_callVV hC [] [] ml_MD_215 d_MD_morning_17 yv_MD_goes sh_MD rfl rfl (fun o h => M_MD_goes hC.inj h) (by decide) rfl rfl (Nat.le_of_ble_eq_true rfl) (fun s2 => ?_)
    refine VO_const hC d_MD_morning_20 ?_
    refine VO_aload hC d_MD_morning_21 0 rfl ?_
    refine VO_geti hC fl_MD_84 sh_MD rfl d_MD_morning_22 ?_
    refine VO_ishl hC d_MD_morning_25 ?_
    refine VO_const hC d_MD_morning_26 ?_
    refine VO_isub hC d_MD_morning_27 ?_
    refine VO_istoreB hC d_MD_morning_28 [(0, .ref (gad G 58)), (1, .int a1)] rfl (by decide) (fun x3 => ?_)
    refine VO_const hC d_MD_morning_29 ?_
    refine VO_istore hC d_MD_morning_30 [(2, .int x3), (0, .ref (gad G 58)), (1, .int a1)] rfl (by decide) ?_
    exact VO_sub [2, 3, 1, 0] rfl (B_MD_morning_31 hC a1 x3 (0 : Int32) s2)
set_option maxRecDepth 20000 in
theorem M_MD_morning {l : Launch} {D : va_G} {ad : Nat → Nat} {cI cL : ClassId} (hj : Inj ad) {a1 : Int32} {s : St} {o : Int32 × St} (h : F_MD_morning a1 s = some o) : Cn l D ad cI cL y_MD_morning b_MD_morning 4 (some .int) 6 [.ref (ad 58), .int a1] s (some (.int o.1)) o.2 := by
  refine Cn_ofI hj (plainFor_of_name (by decide)) (Nat.le_of_ble_eq_true rfl) [(0, .ref (ad 58)), (1, .int a1)] rfl (fun G hC e1 e2 e3 e4 e5 hR => ?_)
  subst e1; subst e2; subst e3; subst e4; subst e5
  exact B_MD_morning hC a1 s o h hR
theorem d_MD_leastWith_0 : PLa b_MD_leastWith 0 0 1 := Or.inl ⟨0, by decide +kernel, rfl, rfl⟩
theorem d_MD_leastWith_1 : PLi b_MD_leastWith 1 1 2 := Or.inl ⟨1, by decide +kernel, rfl, rfl⟩
theorem d_MD_leastWith_2 : PLi b_MD_leastWith 2 3 3 := Or.inl ⟨3, by decide +kernel, rfl, rfl⟩
theorem d_MD_leastWith_3 : DR b_MD_leastWith 3 (.invokevirtual 194) 3 6 := ⟨by decide +kernel, rfl⟩
theorem d_MD_leastWith_6 : PLa b_MD_leastWith 6 0 7 := Or.inl ⟨0, by decide +kernel, rfl, rfl⟩
theorem d_MD_leastWith_7 : DR b_MD_leastWith 7 (.getfield 62) 3 10 := ⟨by decide +kernel, rfl⟩
theorem d_MD_leastWith_10 : PCi b_MD_leastWith 10 128 13 := Or.inr (Or.inr ⟨128, by decide +kernel, by decide, rfl⟩)
theorem d_MD_leastWith_13 : PLi b_MD_leastWith 13 1 14 := Or.inl ⟨1, by decide +kernel, rfl, rfl⟩
theorem d_MD_leastWith_14 : PCi b_MD_leastWith 14 1 15 := Or.inl ⟨1, by decide +kernel, by decide, rfl⟩
theorem d_MD_leastWith_15 : DR b_MD_leastWith 15 (.iadd) 1 16 := ⟨by decide +kernel, rfl⟩
theorem d_MD_leastWith_16 : DR b_MD_leastWith 16 (.imul) 1 17 := ⟨by decide +kernel, rfl⟩
theorem d_MD_leastWith_17 : PLi b_MD_leastWith 17 2 18 := Or.inl ⟨2, by decide +kernel, rfl, rfl⟩
theorem d_MD_leastWith_18 : PCi b_MD_leastWith 18 1 19 := Or.inl ⟨1, by decide +kernel, by decide, rfl⟩
theorem d_MD_leastWith_19 : PLi b_MD_leastWith 19 3 20 := Or.inl ⟨3, by decide +kernel, rfl, rfl⟩
theorem d_MD_leastWith_20 : DR b_MD_leastWith 20 (.ishl) 1 21 := ⟨by decide +kernel, rfl⟩
theorem d_MD_leastWith_21 : DR b_MD_leastWith 21 (.ior) 1 22 := ⟨by decide +kernel, rfl⟩
theorem d_MD_leastWith_22 : DR b_MD_leastWith 22 (.iadd) 1 23 := ⟨by decide +kernel, rfl⟩
theorem d_MD_leastWith_23 : DR b_MD_leastWith 23 (.iaload) 1 24 := ⟨by decide +kernel, rfl⟩
theorem d_MD_leastWith_24 : DR b_MD_leastWith 24 (.iadd) 1 25 := ⟨by decide +kernel, rfl⟩
theorem d_MD_leastWith_25 : DR b_MD_leastWith 25 (.ireturn) 1 26 := ⟨by decide +kernel, rfl⟩
set_option maxRecDepth 20000 in
theorem B_MD_leastWith {G : MCx} (hC : C0 G "AccusedChooseModel" b_MD_leastWith 4 3) (a1 : Int32) (a2 : Int32) (a3 : Int32) (s : St) : VO G (RI G b_MD_leastWith) (F_MD_leastWith a1 a2 a3 s) 0 [(0, .ref (gad G 58)), (1, .int a1), (2, .int a2), (3, .int a3)] [] s := by
  unfold F_MD_leastWith
  refine VO_aload hC d_MD_leastWith_0 0 rfl ?_
  refine VO_iload hC d_MD_leastWith_1 1 rfl ?_
  refine VO_iload hC d_MD_leastWith_2 3 rfl ?_
  refine VO_callVI hC [.int a1, .int a3] [] ml_MD_194 d_MD_leastWith_3 yv_MD_monthsOf sh_MD rfl rfl (fun o h => M_MD_monthsOf hC.inj h) (by decide) rfl rfl (Nat.le_of_ble_eq_true rfl) (fun o1 => ?_)
  refine VO_aload hC d_MD_leastWith_6 0 rfl ?_
  refine VO_getr (r := 75) hC fl_MD_62 sh_MD rfl d_MD_leastWith_7 ?_
  refine VO_const hC d_MD_leastWith_10 ?_
  refine VO_iload hC d_MD_leastWith_13 1 rfl ?_
  refine VO_const hC d_MD_leastWith_14 ?_
  refine VO_iadd hC d_MD_leastWith_15 ?_
  refine VO_imul hC d_MD_leastWith_16 ?_
  refine VO_iload hC d_MD_leastWith_17 2 rfl ?_
  refine VO_const hC d_MD_leastWith_18 ?_
  refine VO_iload hC d_MD_leastWith_19 3 rfl ?_
  refine VO_ishl hC d_MD_leastWith_20 ?_
  refine VO_ior hC d_MD_leastWith_21 ?_
  refine VO_iadd hC d_MD_leastWith_22 ?_
  refine VO_iaload hC ia_75 d_MD_leastWith_23 (fun x2 => ?_)
  refine VO_iadd hC d_MD_leastWith_24 ?_
  exact VO_ireturn d_MD_leastWith_25
set_option maxRecDepth 20000 in
theorem M_MD_leastWith {l : Launch} {D : va_G} {ad : Nat → Nat} {cI cL : ClassId} (hj : Inj ad) {a1 : Int32} {a2 : Int32} {a3 : Int32} {s : St} {o : Int32 × St} (h : F_MD_leastWith a1 a2 a3 s = some o) : Cn l D ad cI cL y_MD_leastWith b_MD_leastWith 4 (some .int) 3 [.ref (ad 58), .int a1, .int a2, .int a3] s (some (.int o.1)) o.2 := by
  refine Cn_ofI hj (plainFor_of_name (by decide)) (Nat.le_of_ble_eq_true rfl) [(0, .ref (ad 58)), (1, .int a1), (2, .int a2), (3, .int a3)] rfl (fun G hC e1 e2 e3 e4 e5 hR => ?_)
  subst e1; subst e2; subst e3; subst e4; subst e5
  exact B_MD_leastWith hC a1 a2 a3 s o h hR
theorem d_MD_findLeast_0 : PCi b_MD_findLeast 0 0 1 := Or.inl ⟨0, by decide +kernel, by decide, rfl⟩
theorem d_MD_findLeast_1 : PSi b_MD_findLeast 1 1 2 := Or.inl ⟨1, by decide +kernel, rfl, rfl⟩
theorem d_MD_findLeast_2 : PLi b_MD_findLeast 2 1 3 := Or.inl ⟨1, by decide +kernel, rfl, rfl⟩
theorem d_MD_findLeast_3 : PCi b_MD_findLeast 3 128 6 := Or.inr (Or.inr ⟨128, by decide +kernel, by decide, rfl⟩)
theorem d_MD_findLeast_6 : DJ b_MD_findLeast 6 (.if_icmp .ge) 9 31 := ⟨25, by decide +kernel, rfl, by decide⟩
theorem d_MD_findLeast_9 : PLa b_MD_findLeast 9 0 10 := Or.inl ⟨0, by decide +kernel, rfl, rfl⟩
theorem d_MD_findLeast_10 : DR b_MD_findLeast 10 (.getfield 62) 3 13 := ⟨by decide +kernel, rfl⟩
theorem d_MD_findLeast_13 : PCi b_MD_findLeast 13 128 16 := Or.inr (Or.inr ⟨128, by decide +kernel, by decide, rfl⟩)
theorem d_MD_findLeast_16 : PLa b_MD_findLeast 16 0 17 := Or.inl ⟨0, by decide +kernel, rfl, rfl⟩
theorem d_MD_findLeast_17 : DR b_MD_findLeast 17 (.getfield 90) 3 20 := ⟨by decide +kernel, rfl⟩
theorem d_MD_findLeast_20 : DR b_MD_findLeast 20 (.imul) 1 21 := ⟨by decide +kernel, rfl⟩
theorem d_MD_findLeast_21 : PLi b_MD_findLeast 21 1 22 := Or.inl ⟨1, by decide +kernel, rfl, rfl⟩
theorem d_MD_findLeast_22 : DR b_MD_findLeast 22 (.iadd) 1 23 := ⟨by decide +kernel, rfl⟩
theorem d_MD_findLeast_23 : PCi b_MD_findLeast 23 0 24 := Or.inl ⟨0, by decide +kernel, by decide, rfl⟩
theorem d_MD_findLeast_24 : DR b_MD_findLeast 24 (.iastore) 1 25 := ⟨by decide +kernel, rfl⟩
theorem d_MD_findLeast_25 : DR b_MD_findLeast 25 (.iinc 1 1) 3 28 := ⟨by decide +kernel, rfl⟩
theorem d_MD_findLeast_28 : DJ b_MD_findLeast 28 .goto 31 2 := ⟨-26, by decide +kernel, rfl, by decide⟩
theorem d_MD_findLeast_31 : PLa b_MD_findLeast 31 0 32 := Or.inl ⟨0, by decide +kernel, rfl, rfl⟩
theorem d_MD_findLeast_32 : DR b_MD_findLeast 32 (.getfield 90) 3 35 := ⟨by decide +kernel, rfl⟩
theorem d_MD_findLeast_35 : PCi b_MD_findLeast 35 1 36 := Or.inl ⟨1, by decide +kernel, by decide, rfl⟩
theorem d_MD_findLeast_36 : DR b_MD_findLeast 36 (.isub) 1 37 := ⟨by decide +kernel, rfl⟩
theorem d_MD_findLeast_37 : PSi b_MD_findLeast 37 1 38 := Or.inl ⟨1, by decide +kernel, rfl, rfl⟩
theorem d_MD_findLeast_38 : PLi b_MD_findLeast 38 1 39 := Or.inl ⟨1, by decide +kernel, rfl, rfl⟩
theorem d_MD_findLeast_39 : DJ b_MD_findLeast 39 (.ifCond .lt) 42 152 := ⟨113, by decide +kernel, rfl, by decide⟩
theorem d_MD_findLeast_42 : PCi b_MD_findLeast 42 0 43 := Or.inl ⟨0, by decide +kernel, by decide, rfl⟩
theorem d_MD_findLeast_43 : PSi b_MD_findLeast 43 2 44 := Or.inl ⟨2, by decide +kernel, rfl, rfl⟩
theorem d_MD_findLeast_44 : PLi b_MD_findLeast 44 2 45 := Or.inl ⟨2, by decide +kernel, rfl, rfl⟩
theorem d_MD_findLeast_45 : PCi b_MD_findLeast 45 128 48 := Or.inr (Or.inr ⟨128, by decide +kernel, by decide, rfl⟩)
theorem d_MD_findLeast_48 : DJ b_MD_findLeast 48 (.if_icmp .ge) 51 146 := ⟨98, by decide +kernel, rfl, by decide⟩
theorem d_MD_findLeast_51 : PCi b_MD_findLeast 51 60 53 := Or.inr (Or.inl ⟨60, by decide +kernel, by decide, rfl⟩)
theorem d_MD_findLeast_53 : PLa b_MD_findLeast 53 0 54 := Or.inl ⟨0, by decide +kernel, rfl, rfl⟩
theorem d_MD_findLeast_54 : DR b_MD_findLeast 54 (.getfield 62) 3 57 := ⟨by decide +kernel, rfl⟩
theorem d_MD_findLeast_57 : PCi b_MD_findLeast 57 128 60 := Or.inr (Or.inr ⟨128, by decide +kernel, by decide, rfl⟩)
theorem d_MD_findLeast_60 : PLi b_MD_findLeast 60 1 61 := Or.inl ⟨1, by decide +kernel, rfl, rfl⟩
theorem d_MD_findLeast_61 : PCi b_MD_findLeast 61 1 62 := Or.inl ⟨1, by decide +kernel, by decide, rfl⟩
theorem d_MD_findLeast_62 : DR b_MD_findLeast 62 (.iadd) 1 63 := ⟨by decide +kernel, rfl⟩
theorem d_MD_findLeast_63 : DR b_MD_findLeast 63 (.imul) 1 64 := ⟨by decide +kernel, rfl⟩
theorem d_MD_findLeast_64 : PLi b_MD_findLeast 64 2 65 := Or.inl ⟨2, by decide +kernel, rfl, rfl⟩
theorem d_MD_findLeast_65 : DR b_MD_findLeast 65 (.iadd) 1 66 := ⟨by decide +kernel, rfl⟩
theorem d_MD_findLeast_66 : DR b_MD_findLeast 66 (.iaload) 1 67 := ⟨by decide +kernel, rfl⟩
theorem d_MD_findLeast_67 : DR b_MD_findLeast 67 (.iadd) 1 68 := ⟨by decide +kernel, rfl⟩
theorem d_MD_findLeast_68 : PSi b_MD_findLeast 68 3 69 := Or.inl ⟨3, by decide +kernel, rfl, rfl⟩
theorem d_MD_findLeast_69 : PCi b_MD_findLeast 69 0 70 := Or.inl ⟨0, by decide +kernel, by decide, rfl⟩
theorem d_MD_findLeast_70 : PSi b_MD_findLeast 70 4 72 := Or.inr ⟨by decide +kernel, rfl⟩
theorem d_MD_findLeast_72 : PLi b_MD_findLeast 72 4 74 := Or.inr ⟨by decide +kernel, rfl⟩
theorem d_MD_findLeast_74 : PLa b_MD_findLeast 74 0 75 := Or.inl ⟨0, by decide +kernel, rfl, rfl⟩
theorem d_MD_findLeast_75 : DR b_MD_findLeast 75 (.getfield 84) 3 78 := ⟨by decide +kernel, rfl⟩
theorem d_MD_findLeast_78 : DJ b_MD_findLeast 78 (.if_icmp .ge) 81 127 := ⟨49, by decide +kernel, rfl, by decide⟩
theorem d_MD_findLeast_81 : PLi b_MD_findLeast 81 2 82 := Or.inl ⟨2, by decide +kernel, rfl, rfl⟩
theorem d_MD_findLeast_82 : PLi b_MD_findLeast 82 4 84 := Or.inr ⟨by decide +kernel, rfl⟩
theorem d_MD_findLeast_84 : DR b_MD_findLeast 84 (.invokestatic 184) 3 87 := ⟨by decide +kernel, rfl⟩
theorem d_MD_findLeast_87 : DJ b_MD_findLeast 87 (.ifCond .ne) 90 121 := ⟨34, by decide +kernel, rfl, by decide⟩
theorem d_MD_findLeast_90 : PLa b_MD_findLeast 90 0 91 := Or.inl ⟨0, by decide +kernel, rfl, rfl⟩
theorem d_MD_findLeast_91 : PLi b_MD_findLeast 91 1 92 := Or.inl ⟨1, by decide +kernel, rfl, rfl⟩
theorem d_MD_findLeast_92 : PLi b_MD_findLeast 92 4 94 := Or.inr ⟨by decide +kernel, rfl⟩
theorem d_MD_findLeast_94 : DR b_MD_findLeast 94 (.invokevirtual 191) 3 97 := ⟨by decide +kernel, rfl⟩
theorem d_MD_findLeast_97 : DJ b_MD_findLeast 97 (.ifCond .eq) 100 121 := ⟨24, by decide +kernel, rfl, by decide⟩
theorem d_MD_findLeast_100 : PLa b_MD_findLeast 100 0 101 := Or.inl ⟨0, by decide +kernel, rfl, rfl⟩
theorem d_MD_findLeast_101 : PLi b_MD_findLeast 101 1 102 := Or.inl ⟨1, by decide +kernel, rfl, rfl⟩
theorem d_MD_findLeast_102 : PLi b_MD_findLeast 102 2 103 := Or.inl ⟨2, by decide +kernel, rfl, rfl⟩
theorem d_MD_findLeast_103 : PLi b_MD_findLeast 103 4 105 := Or.inr ⟨by decide +kernel, rfl⟩
theorem d_MD_findLeast_105 : DR b_MD_findLeast 105 (.invokevirtual 224) 3 108 := ⟨by decide +kernel, rfl⟩
theorem d_MD_findLeast_108 : PLi b_MD_findLeast 108 3 109 := Or.inl ⟨3, by decide +kernel, rfl, rfl⟩
theorem d_MD_findLeast_109 : DJ b_MD_findLeast 109 (.if_icmp .ge) 112 121 := ⟨12, by decide +kernel, rfl, by decide⟩
theorem d_MD_findLeast_112 : PLa b_MD_findLeast 112 0 113 := Or.inl ⟨0, by decide +kernel, rfl, rfl⟩
theorem d_MD_findLeast_113 : PLi b_MD_findLeast 113 1 114 := Or.inl ⟨1, by decide +kernel, rfl, rfl⟩
theorem d_MD_findLeast_114 : PLi b_MD_findLeast 114 2 115 := Or.inl ⟨2, by decide +kernel, rfl, rfl⟩
theorem d_MD_findLeast_115 : PLi b_MD_findLeast 115 4 117 := Or.inr ⟨by decide +kernel, rfl⟩
theorem d_MD_findLeast_117 : DR b_MD_findLeast 117 (.invokevirtual 224) 3 120 := ⟨by decide +kernel, rfl⟩
theorem d_MD_findLeast_120 : PSi b_MD_findLeast 120 3 121 := Or.inl ⟨3, by decide +kernel, rfl, rfl⟩
theorem d_MD_findLeast_121 : DR b_MD_findLeast 121 (.iinc 4 1) 3 124 := ⟨by decide +kernel, rfl⟩
theorem d_MD_findLeast_124 : DJ b_MD_findLeast 124 .goto 127 72 := ⟨-52, by decide +kernel, rfl, by decide⟩
theorem d_MD_findLeast_127 : PLa b_MD_findLeast 127 0 128 := Or.inl ⟨0, by decide +kernel, rfl, rfl⟩
theorem d_MD_findLeast_128 : DR b_MD_findLeast 128 (.getfield 62) 3 131 := ⟨by decide +kernel, rfl⟩
theorem d_MD_findLeast_131 : PCi b_MD_findLeast 131 128 134 := Or.inr (Or.inr ⟨128, by decide +kernel, by decide, rfl⟩)
theorem d_MD_findLeast_134 : PLi b_MD_findLeast 134 1 135 := Or.inl ⟨1, by decide +kernel, rfl, rfl⟩
theorem d_MD_findLeast_135 : DR b_MD_findLeast 135 (.imul) 1 136 := ⟨by decide +kernel, rfl⟩
theorem d_MD_findLeast_136 : PLi b_MD_findLeast 136 2 137 := Or.inl ⟨2, by decide +kernel, rfl, rfl⟩
theorem d_MD_findLeast_137 : DR b_MD_findLeast 137 (.iadd) 1 138 := ⟨by decide +kernel, rfl⟩
theorem d_MD_findLeast_138 : PLi b_MD_findLeast 138 3 139 := Or.inl ⟨3, by decide +kernel, rfl, rfl⟩
theorem d_MD_findLeast_139 : DR b_MD_findLeast 139 (.iastore) 1 140 := ⟨by decide +kernel, rfl⟩
theorem d_MD_findLeast_140 : DR b_MD_findLeast 140 (.iinc 2 1) 3 143 := ⟨by decide +kernel, rfl⟩
theorem d_MD_findLeast_143 : DJ b_MD_findLeast 143 .goto 146 44 := ⟨-99, by decide +kernel, rfl, by decide⟩
theorem d_MD_findLeast_146 : DR b_MD_findLeast 146 (.iinc 1 (-1)) 3 149 := ⟨by decide +kernel, rfl⟩
theorem d_MD_findLeast_149 : DJ b_MD_findLeast 149 .goto 152 38 := ⟨-111, by decide +kernel, rfl, by decide⟩
theorem d_MD_findLeast_152 : DR b_MD_findLeast 152 (.return_) 1 153 := ⟨by decide +kernel, rfl⟩
set_option maxRecDepth 20000 in
theorem B_MD_findLeast_121 {G : MCx} (hC : C0 G "AccusedChooseModel" b_MD_findLeast 5 4) {v1 : Int32} {v2 : Int32} (K38 : Int32 × St → Option (St)) (hK38 : ∀ (w1 : Int32) (s : St), VO G (RV G b_MD_findLeast) (K38 (w1, s)) 38 [(0, .ref (gad G 58)), (1, .int w1)] [] s) (K44 : Int32 × St → Option (St)) (hK44 : ∀ (w2 : Int32) (s : St), VO G (RV G b_MD_findLeast) (K44 (w2, s)) 44 [(0, .ref (gad G 58)), (1, .int v1), (2, .int w2)] [] s) (K72 : Int32 × Int32 × St → Option (St)) (hK72 : ∀ (w3 : Int32) (w4 : Int32) (s : St), VO G (RV G b_MD_findLeast) (K72 (w3, w4, s)) 72 [(0, .ref (gad G 58)), (1, .int v1), (2, .int v2), (3, .int w3), (4, .int w4)] [] s) (v3 : Int32) (v4 : Int32) (s : St) : VO G (RV G b_MD_findLeast) (F_MD_findLeast_121 K38 K44 K72 v1 v2 v3 v4 s) 121 [(0, .ref (gad G 58)), (1, .int v1), (2, .int v2), (3, .int v3), (4, .int v4)] [] s := by
  unfold F_MD_findLeast_121
  refine VO_iinc hC d_MD_findLeast_121 4 rfl (by decide : Int32.ofInt 1 = 1) [(0, .ref (gad G 58)), (1, .int v1), (2, .int v2), (3, .int v3)] rfl (by decide) ?_
  refine VO_goto hC d_MD_findLeast_124 ?_
  exact VO_sub [1, 2, 3, 4, 0] rfl (hK72 v3 (v4 + 1) s)
set_option maxRecDepth 20000 in
theorem BH_MD_findLeast_72 {G : MCx} (hC : C0 G "AccusedChooseModel" b_MD_findLeast 5 4) {v1 : Int32} {v2 : Int32} (K38 : Int32 × St → Option (St)) (hK38 : ∀ (w1 : Int32) (s : St), VO G (RV G b_MD_findLeast) (K38 (w1, s)) 38 [(0, .ref (gad G 58)), (1, .int w1)] [] s) (K44 : Int32 × St → Option (St)) (hK44 : ∀ (w2 : Int32) (s : St), VO G (RV G b_MD_findLeast) (K44 (w2, s)) 44 [(0, .ref (gad G 58)), (1, .int v1), (2, .int w2)] [] s) (K72 : Int32 × Int32 × St → Option (St)) (hK72 : ∀ (w3 : Int32) (w4 : Int32) (s : St), VO G (RV G b_MD_findLeast) (K72 (w3, w4, s)) 72 [(0, .ref (gad G 58)), (1, .int v1), (2, .int v2), (3, .int w3), (4, .int w4)] [] s) (v3 : Int32) (v4 : Int32) (s : St) : VO G (RV G b_MD_findLeast) (H_MD_findLeast_72 K38 K44 v1 v2 K72 v3 v4 s) 72 [(0, .ref (gad G 58)), (1, .int v1), (2, .int v2), (3, .int v3), (4, .int v4)] [] s := by
  unfold H_MD_findLeast_72
  refine VO_iload hC d_MD_findLeast_72 4 rfl ?_
  refine VO_aload hC d_MD_findLeast_74 0 rfl ?_
  refine VO_geti hC fl_MD_84 sh_MD rfl d_MD_findLeast_75 ?_
  refine VO_icmp_ge hC d_MD_findLeast_78 (fun _ => ?_) (fun _ => ?_)
  · refine VO_aload hC d_MD_findLeast_127 0 rfl ?_
    refine VO_getr (r := 75) hC fl_MD_62 sh_MD rfl d_MD_findLeast_128 ?_
    refine VO_const hC d_MD_findLeast_131 ?_
    refine VO_iload hC d_MD_findLeast_134 1 rfl ?_
    refine VO_imul hC d_MD_findLeast_135 ?_
    refine VO_iload hC d_MD_findLeast_136 2 rfl ?_
    refine VO_iadd hC d_MD_findLeast_137 ?_
    refine VO_iload hC d_MD_findLeast_138 3 rfl ?_
    refine VO_iastore hC ia_75 d_MD_findLeast_139 (fun s4 => ?_)
    refine VO_iinc hC d_MD_findLeast_140 2 rfl (by decide : Int32.ofInt 1 = 1) [(0, .ref (gad G 58)), (1, .int v1), (3, .int v3), (4, .int v4)] rfl (by decide) ?_
    refine VO_goto hC d_MD_findLeast_143 ?_
    exact VO_sub [1, 2, 0] rfl (hK44 (v2 + 1) s4)
  · refine VO_iload hC d_MD_findLeast_81 2 rfl ?_
    refine VO_iload hC d_MD_findLeast_82 4 rfl ?_
    refine VO_callSI hC [.int v2, .int v4] [] ml_MD_184 d_MD_findLeast_84 ys_MD_has (fun o h => M_MD_has hC.inj h) (by decide) rfl rfl (Nat.le_of_ble_eq_true rfl) (fun o5 => ?_)
    refine VO_if_ne hC d_MD_findLeast_87 (fun _ => ?_) (fun _ => ?_)
    · refine VO_aload hC d_MD_findLeast_90 0 rfl ?_
      refine VO_iload hC d_MD_findLeast_91 1 rfl ?_
      refine VO_iload hC d_MD_findLeast_92 4 rfl ?_
      refine VO_callVI hC [.int v1, .int v4] [] ml_MD_191 d_MD_findLeast_94 yv_MD_may sh_MD rfl rfl (fun o h => M_MD_may hC.inj h) (by decide) rfl rfl (Nat.le_of_ble_eq_true rfl) (fun o6 => ?_)
      refine VO_if_eq hC d_MD_findLeast_97 (fun _ => ?_) (fun _ => ?_)
      · exact (B_MD_findLeast_121 hC K38 hK38 K44 hK44 K72 hK72 v3 v4 o6.2)
      · refine VO_aload hC d_MD_findLeast_100 0 rfl ?_
        refine VO_iload hC d_MD_findLeast_101 1 rfl ?_
        refine VO_iload hC d_MD_findLeast_102 2 rfl ?_
        refine VO_iload hC d_MD_findLeast_103 4 rfl ?_
        refine VO_callVI hC [.int v1, .int v2, .int v4] [] ml_MD_224 d_MD_findLeast_105 yv_MD_leastWith sh_MD rfl rfl (fun o h => M_MD_leastWith hC.inj h) (by decide) rfl rfl (Nat.le_of_ble_eq_true rfl) (fun o7 => ?_)
        refine VO_iload hC d_MD_findLeast_108 3 rfl ?_
        refine VO_icmp_ge hC d_MD_findLeast_109 (fun _ => ?_) (fun _ => ?_)
        · exact (B_MD_findLeast_121 hC K38 hK38 K44 hK44 K72 hK72 v3 v4 o7.2)
        · refine VO_aload hC d_MD_findLeast_112 0 rfl ?_
          refine VO_iload hC d_MD_findLeast_113 1 rfl ?_
          refine VO_iload hC d_MD_findLeast_114 2 rfl ?_
          refine VO_iload hC d_MD_findLeast_115 4 rfl ?_
          refine VO_callVI hC [.int v1, .int v2, .int v4] [] ml_MD_224 d_MD_findLeast_117 yv_MD_leastWith sh_MD rfl rfl (fun o h => M_MD_leastWith hC.inj h) (by decide) rfl rfl (Nat.le_of_ble_eq_true rfl) (fun o8 => ?_)
          refine VO_istore hC d_MD_findLeast_120 [(0, .ref (gad G 58)), (1, .int v1), (2, .int v2), (4, .int v4)] rfl (by decide) ?_
          exact VO_sub [1, 2, 3, 0, 4] rfl (B_MD_findLeast_121 hC K38 hK38 K44 hK44 K72 hK72 o8.1 v4 o8.2)
    · exact (B_MD_findLeast_121 hC K38 hK38 K44 hK44 K72 hK72 v3 v4 o5.2)
set_option maxRecDepth 20000 in
theorem B_MD_findLeast_72 {G : MCx} (hC : C0 G "AccusedChooseModel" b_MD_findLeast 5 4) {v1 : Int32} (K38 : Int32 × St → Option (St)) (hK38 : ∀ (w1 : Int32) (s : St), VO G (RV G b_MD_findLeast) (K38 (w1, s)) 38 [(0, .ref (gad G 58)), (1, .int w1)] [] s) (K44 : Int32 × St → Option (St)) (hK44 : ∀ (w2 : Int32) (s : St), VO G (RV G b_MD_findLeast) (K44 (w2, s)) 44 [(0, .ref (gad G 58)), (1, .int v1), (2, .int w2)] [] s) (v2 : Int32) (v3 : Int32) (v4 : Int32) (s : St) : VO G (RV G b_MD_findLeast) (F_MD_findLeast_72 K38 K44 v1 v2 v3 v4 s) 72 [(0, .ref (gad G 58)), (1, .int v1), (2, .int v2), (3, .int v3), (4, .int v4)] [] s := by
  exact VO_fix (G_MD_findLeast_72 K38 K44 v1 v2) 72 (fun q => [(0, .ref (gad G 58)), (1, .int v1), (2, .int v2), (3, .int q.1), (4, .int q.2.1)]) (fun q => q.2.2) (fun K hK q => BH_MD_findLeast_72 hC K38 hK38 K44 hK44 K (fun w3 w4 s => hK (w3, w4, s)) q.1 q.2.1 q.2.2) FUEL (v3, v4, s)
set_option maxRecDepth 20000 in
theorem BH_MD_findLeast_44 {G : MCx} (hC : C0 G "AccusedChooseModel" b_MD_findLeast 5 4) {v1 : Int32} (K38 : Int32 × St → Option (St)) (hK38 : ∀ (w1 : Int32) (s : St), VO G (RV G b_MD_findLeast) (K38 (w1, s)) 38 [(0, .ref (gad G 58)), (1, .int w1)] [] s) (K44 : Int32 × St → Option (St)) (hK44 : ∀ (w2 : Int32) (s : St), VO G (RV G b_MD_findLeast) (K44 (w2, s)) 44 [(0, .ref (gad G 58)), (1, .int v1), (2, .int w2)] [] s) (v2 : Int32) (s : St) : VO G (RV G b_MD_findLeast) (H_MD_findLeast_44 K38 v1 K44 v2 s) 44 [(0, .ref (gad G 58)), (1, .int v1), (2, .int v2)] [] s := by
  unfold H_MD_findLeast_44
  refine VO_iload hC d_MD_findLeast_44 2 rfl ?_
  refine VO_const hC d_MD_findLeast_45 ?_
  refine VO_icmp_ge hC d_MD_findLeast_48 (fun _ => ?_) (fun _ => ?_)
  · refine VO_iincN hC d_MD_findLeast_146 1 rfl (by decide : Int32.ofInt (-1) = -1) [(0, .ref (gad G 58)), (2, .int v2)] rfl (by decide) ?_
    refine VO_goto hC d_MD_findLeast_149 ?_
    exact VO_sub [1, 0] rfl (hK38 (v1 - 1) s)
  · refine VO_const hC d_MD_findLeast_51 ?_
    refine VO_aload hC d_MD_findLeast_53 0 rfl ?_
    refine VO_getr (r := 75) hC fl_MD_62 sh_MD rfl d_MD_findLeast_54 ?_
    refine VO_const hC d_MD_findLeast_57 ?_
    refine VO_iload hC d_MD_findLeast_60 1 rfl ?_
    refine VO_const hC d_MD_findLeast_61 ?_
    refine VO_iadd hC d_MD_findLeast_62 ?_
    refine VO_imul hC d_MD_findLeast_63 ?_
    refine VO_iload hC d_MD_findLeast_64 2 rfl ?_
    refine VO_iadd hC d_MD_findLeast_65 ?_
    refine VO_iaload hC ia_75 d_MD_findLeast_66 (fun x2 => ?_)
    refine VO_iadd hC d_MD_findLeast_67 ?_
    refine VO_istoreB hC d_MD_findLeast_68 [(0, .ref (gad G 58)), (1, .int v1), (2, .int v2)] rfl (by decide) (fun x3 => ?_)
    refine VO_const hC d_MD_findLeast_69 ?_
    refine VO_istore hC d_MD_findLeast_70 [(3, .int x3), (0, .ref (gad G 58)), (1, .int v1), (2, .int v2)] rfl (by decide) ?_
    exact VO_sub [2, 3, 4, 1, 0] rfl (B_MD_findLeast_72 hC K38 hK38 K44 hK44 v2 x3 (0 : Int32) s)
set_option maxRecDepth 20000 in
theorem B_MD_findLeast_44 {G : MCx} (hC : C0 G "AccusedChooseModel" b_MD_findLeast 5 4) (K38 : Int32 × St → Option (St)) (hK38 : ∀ (w1 : Int32) (s : St), VO G (RV G b_MD_findLeast) (K38 (w1, s)) 38 [(0, .ref (gad G 58)), (1, .int w1)] [] s) (v1 : Int32) (v2 : Int32) (s : St) : VO G (RV G b_MD_findLeast) (F_MD_findLeast_44 K38 v1 v2 s) 44 [(0, .ref (gad G 58)), (1, .int v1), (2, .int v2)] [] s := by
  exact VO_fix (G_MD_findLeast_44 K38 v1) 44 (fun q => [(0, .ref (gad G 58)), (1, .int v1), (2, .int q.1)]) (fun q => q.2) (fun K hK q => BH_MD_findLeast_44 hC K38 hK38 K (fun w2 s => hK (w2, s)) q.1 q.2) FUEL (v2, s)
set_option maxRecDepth 20000 in
theorem BH_MD_findLeast_38 {G : MCx} (hC : C0 G "AccusedChooseModel" b_MD_findLeast 5 4) (K38 : Int32 × St → Option (St)) (hK38 : ∀ (w1 : Int32) (s : St), VO G (RV G b_MD_findLeast) (K38 (w1, s)) 38 [(0, .ref (gad G 58)), (1, .int w1)] [] s) (v1 : Int32) (s : St) : VO G (RV G b_MD_findLeast) (H_MD_findLeast_38 K38 v1 s) 38 [(0, .ref (gad G 58)), (1, .int v1)] [] s := by
  unfold H_MD_findLeast_38
  refine VO_iload hC d_MD_findLeast_38 1 rfl ?_
  refine VO_if_lt hC d_MD_findLeast_39 (fun _ => ?_) (fun _ => ?_)
  · exact VO_return d_MD_findLeast_152
  · refine VO_const hC d_MD_findLeast_42 ?_
    refine VO_istore hC d_MD_findLeast_43 [(0, .ref (gad G 58)), (1, .int v1)] rfl (by decide) ?_
    exact VO_sub [1, 2, 0] rfl (B_MD_findLeast_44 hC K38 hK38 v1 (0 : Int32) s)
set_option maxRecDepth 20000 in
theorem B_MD_findLeast_38 {G : MCx} (hC : C0 G "AccusedChooseModel" b_MD_findLeast 5 4) (v1 : Int32) (s : St) : VO G (RV G b_MD_findLeast) (F_MD_findLeast_38 v1 s) 38 [(0, .ref (gad G 58)), (1, .int v1)] [] s := by
  exact VO_fix (G_MD_findLeast_38) 38 (fun q => [(0, .ref (gad G 58)), (1, .int q.1)]) (fun q => q.2) (fun K hK q => BH_MD_findLeast_38 hC K (fun w1 s => hK (w1, s)) q.1 q.2) FUEL (v1, s)
set_option maxRecDepth 20000 in
theorem BH_MD_findLeast_2 {G : MCx} (hC : C0 G "AccusedChooseModel" b_MD_findLeast 5 4) (K2 : Int32 × St → Option (St)) (hK2 : ∀ (w1 : Int32) (s : St), VO G (RV G b_MD_findLeast) (K2 (w1, s)) 2 [(0, .ref (gad G 58)), (1, .int w1)] [] s) (v1 : Int32) (s : St) : VO G (RV G b_MD_findLeast) (H_MD_findLeast_2 K2 v1 s) 2 [(0, .ref (gad G 58)), (1, .int v1)] [] s := by
  unfold H_MD_findLeast_2
  refine VO_iload hC d_MD_findLeast_2 1 rfl ?_
  refine VO_const hC d_MD_findLeast_3 ?_
  refine VO_icmp_ge hC d_MD_findLeast_6 (fun _ => ?_) (fun _ => ?_)
  · refine VO_aload hC d_MD_findLeast_31 0 rfl ?_
    refine VO_geti hC fl_MD_90 sh_MD rfl d_MD_findLeast_32 ?_
    refine VO_const hC d_MD_findLeast_35 ?_
    refine VO_isub hC d_MD_findLeast_36 ?_
    refine VO_istoreB hC d_MD_findLeast_37 [(0, .ref (gad G 58))] rfl (by decide) (fun x1 => ?_)
    exact VO_sub [1, 0] rfl (B_MD_findLeast_38 hC x1 s)
  · refine VO_aload hC d_MD_findLeast_9 0 rfl ?_
    refine VO_getr (r := 75) hC fl_MD_62 sh_MD rfl d_MD_findLeast_10 ?_
    refine VO_const hC d_MD_findLeast_13 ?_
    refine VO_aload hC d_MD_findLeast_16 0 rfl ?_
    refine VO_geti hC fl_MD_90 sh_MD rfl d_MD_findLeast_17 ?_
    refine VO_imul hC d_MD_findLeast_20 ?_
    refine VO_iload hC d_MD_findLeast_21 1 rfl ?_
    refine VO_iadd hC d_MD_findLeast_22 ?_
    refine VO_const hC d_MD_findLeast_23 ?_
    refine VO_iastore hC ia_75 d_MD_findLeast_24 (fun s9 => ?_)
    refine VO_iinc hC d_MD_findLeast_25 1 rfl (by decide : Int32.ofInt 1 = 1) [(0, .ref (gad G 58))] rfl (by decide) ?_
    refine VO_goto hC d_MD_findLeast_28 ?_
    exact VO_sub [1, 0] rfl (hK2 (v1 + 1) s9)
set_option maxRecDepth 20000 in
theorem B_MD_findLeast_2 {G : MCx} (hC : C0 G "AccusedChooseModel" b_MD_findLeast 5 4) (v1 : Int32) (s : St) : VO G (RV G b_MD_findLeast) (F_MD_findLeast_2 v1 s) 2 [(0, .ref (gad G 58)), (1, .int v1)] [] s := by
  exact VO_fix (G_MD_findLeast_2) 2 (fun q => [(0, .ref (gad G 58)), (1, .int q.1)]) (fun q => q.2) (fun K hK q => BH_MD_findLeast_2 hC K (fun w1 s => hK (w1, s)) q.1 q.2) FUEL (v1, s)
set_option maxRecDepth 20000 in
theorem B_MD_findLeast {G : MCx} (hC : C0 G "AccusedChooseModel" b_MD_findLeast 5 4) (s : St) : VO G (RV G b_MD_findLeast) (F_MD_findLeast s) 0 [(0, .ref (gad G 58))] [] s := by
  unfold F_MD_findLeast
  refine VO_const hC d_MD_findLeast_0 ?_
  refine VO_istore hC d_MD_findLeast_1 [(0, .ref (gad G 58))] rfl (by decide) ?_
  exact VO_sub [1, 0] rfl (B_MD_findLeast_2 hC (0 : Int32) s)
set_option maxRecDepth 20000 in
theorem M_MD_findLeast {l : Launch} {D : va_G} {ad : Nat → Nat} {cI cL : ClassId} (hj : Inj ad) {s : St} {o : St} (h : F_MD_findLeast s = some o) : Cn l D ad cI cL y_MD_findLeast b_MD_findLeast 5 none 4 [.ref (ad 58)] s none o := by
  refine Cn_ofV hj (plainFor_of_name (by decide)) (Nat.le_of_ble_eq_true rfl) [(0, .ref (ad 58))] rfl (fun G hC e1 e2 e3 e4 e5 hR => ?_)
  subst e1; subst e2; subst e3; subst e4; subst e5
  exact B_MD_findLeast hC s o h hR
theorem d_MD_least_0 : PLi b_MD_least 0 1 1 := Or.inl ⟨1, by decide +kernel, rfl, rfl⟩
theorem d_MD_least_1 : PCi b_MD_least 1 (-1) 2 := Or.inl ⟨(-1), by decide +kernel, by decide, rfl⟩
theorem d_MD_least_2 : DJ b_MD_least 2 (.if_icmp .eq) 5 19 := ⟨17, by decide +kernel, rfl, by decide⟩
theorem d_MD_least_5 : PLa b_MD_least 5 0 6 := Or.inl ⟨0, by decide +kernel, rfl, rfl⟩
theorem d_MD_least_6 : PLi b_MD_least 6 1 7 := Or.inl ⟨1, by decide +kernel, rfl, rfl⟩
theorem d_MD_least_7 : DR b_MD_least 7 (.invokevirtual 93) 3 10 := ⟨by decide +kernel, rfl⟩
theorem d_MD_least_10 : DJ b_MD_least 10 (.ifCond .ne) 13 19 := ⟨9, by decide +kernel, rfl, by decide⟩
theorem d_MD_least_13 : PLa b_MD_least 13 0 14 := Or.inl ⟨0, by decide +kernel, rfl, rfl⟩
theorem d_MD_least_14 : PCi b_MD_least 14 (-1) 15 := Or.inl ⟨(-1), by decide +kernel, by decide, rfl⟩
theorem d_MD_least_15 : DR b_MD_least 15 (.invokevirtual 104) 3 18 := ⟨by decide +kernel, rfl⟩
theorem d_MD_least_18 : DR b_MD_least 18 (.ireturn) 1 19 := ⟨by decide +kernel, rfl⟩
theorem d_MD_least_19 : PLa b_MD_least 19 0 20 := Or.inl ⟨0, by decide +kernel, rfl, rfl⟩
theorem d_MD_least_20 : DR b_MD_least 20 (.invokevirtual 227) 3 23 := ⟨by decide +kernel, rfl⟩
theorem d_MD_least_23 : PLi b_MD_least 23 1 24 := Or.inl ⟨1, by decide +kernel, rfl, rfl⟩
theorem d_MD_least_24 : DJ b_MD_least 24 (.ifCond .ge) 27 34 := ⟨10, by decide +kernel, rfl, by decide⟩
theorem d_MD_least_27 : PLa b_MD_least 27 0 28 := Or.inl ⟨0, by decide +kernel, rfl, rfl⟩
theorem d_MD_least_28 : DR b_MD_least 28 (.getfield 62) 3 31 := ⟨by decide +kernel, rfl⟩
theorem d_MD_least_31 : PCi b_MD_least 31 0 32 := Or.inl ⟨0, by decide +kernel, by decide, rfl⟩
theorem d_MD_least_32 : DR b_MD_least 32 (.iaload) 1 33 := ⟨by decide +kernel, rfl⟩
theorem d_MD_least_33 : DR b_MD_least 33 (.ireturn) 1 34 := ⟨by decide +kernel, rfl⟩
theorem d_MD_least_34 : PCi b_MD_least 34 0 35 := Or.inl ⟨0, by decide +kernel, by decide, rfl⟩
theorem d_MD_least_35 : PSi b_MD_least 35 2 36 := Or.inl ⟨2, by decide +kernel, rfl, rfl⟩
theorem d_MD_least_36 : PCi b_MD_least 36 (-9) 38 := Or.inr (Or.inl ⟨(-9), by decide +kernel, by decide, rfl⟩)
theorem d_MD_least_38 : PSi b_MD_least 38 3 39 := Or.inl ⟨3, by decide +kernel, rfl, rfl⟩
theorem d_MD_least_39 : PCi b_MD_least 39 0 40 := Or.inl ⟨0, by decide +kernel, by decide, rfl⟩
theorem d_MD_least_40 : PSi b_MD_least 40 4 42 := Or.inr ⟨by decide +kernel, rfl⟩
theorem d_MD_least_42 : PLi b_MD_least 42 4 44 := Or.inr ⟨by decide +kernel, rfl⟩
theorem d_MD_least_44 : PLi b_MD_least 44 1 45 := Or.inl ⟨1, by decide +kernel, rfl, rfl⟩
theorem d_MD_least_45 : DJ b_MD_least 45 (.if_icmp .gt) 48 138 := ⟨93, by decide +kernel, rfl, by decide⟩
theorem d_MD_least_48 : PCi b_MD_least 48 (-9) 50 := Or.inr (Or.inl ⟨(-9), by decide +kernel, by decide, rfl⟩)
theorem d_MD_least_50 : PSi b_MD_least 50 3 51 := Or.inl ⟨3, by decide +kernel, rfl, rfl⟩
theorem d_MD_least_51 : PLa b_MD_least 51 0 52 := Or.inl ⟨0, by decide +kernel, rfl, rfl⟩
theorem d_MD_least_52 : DR b_MD_least 52 (.getfield 84) 3 55 := ⟨by decide +kernel, rfl⟩
theorem d_MD_least_55 : PCi b_MD_least 55 1 56 := Or.inl ⟨1, by decide +kernel, by decide, rfl⟩
theorem d_MD_least_56 : DR b_MD_least 56 (.isub) 1 57 := ⟨by decide +kernel, rfl⟩
theorem d_MD_least_57 : PSi b_MD_least 57 5 59 := Or.inr ⟨by decide +kernel, rfl⟩
theorem d_MD_least_59 : PLi b_MD_least 59 5 61 := Or.inr ⟨by decide +kernel, rfl⟩
theorem d_MD_least_61 : DJ b_MD_least 61 (.ifCond .lt) 64 118 := ⟨57, by decide +kernel, rfl, by decide⟩
theorem d_MD_least_64 : PLi b_MD_least 64 2 65 := Or.inl ⟨2, by decide +kernel, rfl, rfl⟩
theorem d_MD_least_65 : PLi b_MD_least 65 5 67 := Or.inr ⟨by decide +kernel, rfl⟩
theorem d_MD_least_67 : DR b_MD_least 67 (.invokestatic 184) 3 70 := ⟨by decide +kernel, rfl⟩
theorem d_MD_least_70 : DJ b_MD_least 70 (.ifCond .ne) 73 112 := ⟨42, by decide +kernel, rfl, by decide⟩
theorem d_MD_least_73 : PLa b_MD_least 73 0 74 := Or.inl ⟨0, by decide +kernel, rfl, rfl⟩
theorem d_MD_least_74 : PLi b_MD_least 74 4 76 := Or.inr ⟨by decide +kernel, rfl⟩
theorem d_MD_least_76 : PLi b_MD_least 76 5 78 := Or.inr ⟨by decide +kernel, rfl⟩
theorem d_MD_least_78 : DR b_MD_least 78 (.invokevirtual 191) 3 81 := ⟨by decide +kernel, rfl⟩
theorem d_MD_least_81 : DJ b_MD_least 81 (.ifCond .eq) 84 112 := ⟨31, by decide +kernel, rfl, by decide⟩
theorem d_MD_least_84 : PLa b_MD_least 84 0 85 := Or.inl ⟨0, by decide +kernel, rfl, rfl⟩
theorem d_MD_least_85 : PLi b_MD_least 85 4 87 := Or.inr ⟨by decide +kernel, rfl⟩
theorem d_MD_least_87 : PLi b_MD_least 87 2 88 := Or.inl ⟨2, by decide +kernel, rfl, rfl⟩
theorem d_MD_least_88 : PLi b_MD_least 88 5 90 := Or.inr ⟨by decide +kernel, rfl⟩
theorem d_MD_least_90 : DR b_MD_least 90 (.invokevirtual 224) 3 93 := ⟨by decide +kernel, rfl⟩
theorem d_MD_least_93 : PLa b_MD_least 93 0 94 := Or.inl ⟨0, by decide +kernel, rfl, rfl⟩
theorem d_MD_least_94 : DR b_MD_least 94 (.getfield 62) 3 97 := ⟨by decide +kernel, rfl⟩
theorem d_MD_least_97 : PCi b_MD_least 97 128 100 := Or.inr (Or.inr ⟨128, by decide +kernel, by decide, rfl⟩)
theorem d_MD_least_100 : PLi b_MD_least 100 4 102 := Or.inr ⟨by decide +kernel, rfl⟩
theorem d_MD_least_102 : DR b_MD_least 102 (.imul) 1 103 := ⟨by decide +kernel, rfl⟩
theorem d_MD_least_103 : PLi b_MD_least 103 2 104 := Or.inl ⟨2, by decide +kernel, rfl, rfl⟩
theorem d_MD_least_104 : DR b_MD_least 104 (.iadd) 1 105 := ⟨by decide +kernel, rfl⟩
theorem d_MD_least_105 : DR b_MD_least 105 (.iaload) 1 106 := ⟨by decide +kernel, rfl⟩
theorem d_MD_least_106 : DJ b_MD_least 106 (.if_icmp .ne) 109 112 := ⟨6, by decide +kernel, rfl, by decide⟩
theorem d_MD_least_109 : PLi b_MD_least 109 5 111 := Or.inr ⟨by decide +kernel, rfl⟩
theorem d_MD_least_111 : PSi b_MD_least 111 3 112 := Or.inl ⟨3, by decide +kernel, rfl, rfl⟩
theorem d_MD_least_112 : DR b_MD_least 112 (.iinc 5 (-1)) 3 115 := ⟨by decide +kernel, rfl⟩
theorem d_MD_least_115 : DJ b_MD_least 115 .goto 118 59 := ⟨-56, by decide +kernel, rfl, by decide⟩
theorem d_MD_least_118 : PLi b_MD_least 118 2 119 := Or.inl ⟨2, by decide +kernel, rfl, rfl⟩
theorem d_MD_least_119 : PLi b_MD_least 119 3 120 := Or.inl ⟨3, by decide +kernel, rfl, rfl⟩
theorem d_MD_least_120 : DJ b_MD_least 120 (.ifCond .ge) 123 127 := ⟨7, by decide +kernel, rfl, by decide⟩
theorem d_MD_least_123 : PCi b_MD_least 123 0 124 := Or.inl ⟨0, by decide +kernel, by decide, rfl⟩
theorem d_MD_least_124 : DJ b_MD_least 124 .goto 127 130 := ⟨6, by decide +kernel, rfl, by decide⟩
theorem d_MD_least_127 : PCi b_MD_least 127 1 128 := Or.inl ⟨1, by decide +kernel, by decide, rfl⟩
theorem d_MD_least_128 : PLi b_MD_least 128 3 129 := Or.inl ⟨3, by decide +kernel, rfl, rfl⟩
theorem d_MD_least_129 : DR b_MD_least 129 (.ishl) 1 130 := ⟨by decide +kernel, rfl⟩
theorem d_MD_least_130 : DR b_MD_least 130 (.ior) 1 131 := ⟨by decide +kernel, rfl⟩
theorem d_MD_least_131 : PSi b_MD_least 131 2 132 := Or.inl ⟨2, by decide +kernel, rfl, rfl⟩
theorem d_MD_least_132 : DR b_MD_least 132 (.iinc 4 1) 3 135 := ⟨by decide +kernel, rfl⟩
theorem d_MD_least_135 : DJ b_MD_least 135 .goto 138 42 := ⟨-93, by decide +kernel, rfl, by decide⟩
theorem d_MD_least_138 : PLi b_MD_least 138 3 139 := Or.inl ⟨3, by decide +kernel, rfl, rfl⟩
theorem d_MD_least_139 : DR b_MD_least 139 (.ireturn) 1 140 := ⟨by decide +kernel, rfl⟩
set_option maxRecDepth 20000 in
theorem B_MD_least_130 {G : MCx} (hC : C0 G "AccusedChooseModel" b_MD_least 6 5) {v1 : Int32} (K42 : Int32 × Int32 × Int32 × St → Option (Int32 × St)) (hK42 : ∀ (w2 : Int32) (w3 : Int32) (w4 : Int32) (s : St), VO G (RI G b_MD_least) (K42 (w2, w3, w4, s)) 42 [(0, .ref (gad G 58)), (1, .int v1), (2, .int w2), (3, .int w3), (4, .int w4)] [] s) (v3 : Int32) (v4 : Int32) (z0 : Int32) (z1 : Int32) (s : St) : VO G (RI G b_MD_least) (F_MD_least_130 K42 v1 v3 v4 z0 z1 s) 130 [(0, .ref (gad G 58)), (1, .int v1), (3, .int v3), (4, .int v4)] [.int z0, .int z1] s := by
  unfold F_MD_least_130
  refine VO_ior hC d_MD_least_130 ?_
  refine VO_istoreB hC d_MD_least_131 [(0, .ref (gad G 58)), (1, .int v1), (3, .int v3), (4, .int v4)] rfl (by decide) (fun x3 => ?_)
  refine VO_iinc hC d_MD_least_132 4 rfl (by decide : Int32.ofInt 1 = 1) [(2, .int x3), (0, .ref (gad G 58)), (1, .int v1), (3, .int v3)] rfl (by decide) ?_
  refine VO_goto hC d_MD_least_135 ?_
  exact VO_sub [2, 3, 1, 4, 0] rfl (hK42 x3 v3 (v4 + 1) s)
set_option maxRecDepth 20000 in
theorem B_MD_least_112 {G : MCx} (hC : C0 G "AccusedChooseModel" b_MD_least 6 5) {v1 : Int32} {v2 : Int32} {v4 : Int32} (K42 : Int32 × Int32 × Int32 × St → Option (Int32 × St)) (hK42 : ∀ (w2 : Int32) (w3 : Int32) (w4 : Int32) (s : St), VO G (RI G b_MD_least) (K42 (w2, w3, w4, s)) 42 [(0, .ref (gad G 58)), (1, .int v1), (2, .int w2), (3, .int w3), (4, .int w4)] [] s) (K59 : Int32 × Int32 × St → Option (Int32 × St)) (hK59 : ∀ (w3 : Int32) (w5 : Int32) (s : St), VO G (RI G b_MD_least) (K59 (w3, w5, s)) 59 [(0, .ref (gad G 58)), (1, .int v1), (2, .int v2), (3, .int w3), (4, .int v4), (5, .int w5)] [] s) (v3 : Int32) (v5 : Int32) (s : St) : VO G (RI G b_MD_least) (F_MD_least_112 K42 K59 v1 v2 v3 v4 v5 s) 112 [(0, .ref (gad G 58)), (1, .int v1), (2, .int v2), (3, .int v3), (4, .int v4), (5, .int v5)] [] s := by
  unfold F_MD_least_112
  refine VO_iincN hC d_MD_least_112 5 rfl (by decide : Int32.ofInt (-1) = -1) [(0, .ref (gad G 58)), (1, .int v1), (2, .int v2), (3, .int v3), (4, .int v4)] rfl (by decide) ?_
  refine VO_goto hC d_MD_least_115 ?_
  exact VO_sub [1, 2, 3, 4, 5, 0] rfl (hK59 v3 (v5 - 1) s)
set_option maxRecDepth 20000 in
theorem BH_MD_least_59 {G : MCx} (hC : C0 G "AccusedChooseModel" b_MD_least 6 5) {v1 : Int32} {v2 : Int32} {v4 : Int32} (K42 : Int32 × Int32 × Int32 × St → Option (Int32 × St)) (hK42 : ∀ (w2 : Int32) (w3 : Int32) (w4 : Int32) (s : St), VO G (RI G b_MD_least) (K42 (w2, w3, w4, s)) 42 [(0, .ref (gad G 58)), (1, .int v1), (2, .int w2), (3, .int w3), (4, .int w4)] [] s) (K59 : Int32 × Int32 × St → Option (Int32 × St)) (hK59 : ∀ (w3 : Int32) (w5 : Int32) (s : St), VO G (RI G b_MD_least) (K59 (w3, w5, s)) 59 [(0, .ref (gad G 58)), (1, .int v1), (2, .int v2), (3, .int w3), (4, .int v4), (5, .int w5)] [] s) (v3 : Int32) (v5 : Int32) (s : St) : VO G (RI G b_MD_least) (H_MD_least_59 K42 v1 v2 v4 K59 v3 v5 s) 59 [(0, .ref (gad G 58)), (1, .int v1), (2, .int v2), (3, .int v3), (4, .int v4), (5, .int v5)] [] s := by
  unfold H_MD_least_59
  refine VO_iload hC d_MD_least_59 5 rfl ?_
  refine VO_if_lt hC d_MD_least_61 (fun _ => ?_) (fun _ => ?_)
  · refine VO_iload hC d_MD_least_118 2 rfl ?_
    refine VO_iload hC d_MD_least_119 3 rfl ?_
    refine VO_if_ge hC d_MD_least_120 (fun _ => ?_) (fun _ => ?_)
    · refine VO_const hC d_MD_least_127 ?_
      refine VO_iload hC d_MD_least_128 3 rfl ?_
      refine VO_ishl hC d_MD_least_129 ?_
      exact VO_sub [0, 1, 3, 4] rfl (B_MD_least_130 hC K42 hK42 v3 v4 ((1 : Int32) <<< (v3 &&& 31)) v2 s)
    · refine VO_const hC d_MD_least_123 ?_
      refine VO_goto hC d_MD_least_124 ?_
      exact VO_sub [0, 1, 3, 4] rfl (B_MD_least_130 hC K42 hK42 v3 v4 (0 : Int32) v2 s)
  · refine VO_iload hC d_MD_least_64 2 rfl ?_
    refine VO_iload hC d_MD_least_65 5 rfl ?_
    refine VO_callSI hC [.int v2, .int v5] [] ml_MD_184 d_MD_least_67 ys_MD_has (fun o h => M_MD_has hC.inj h) (by decide) rfl rfl (Nat.le_of_ble_eq_true rfl) (fun o4 => ?_)
    refine VO_if_ne hC d_MD_least_70 (fun _ => ?_) (fun _ => ?_)
    · refine VO_aload hC d_MD_least_73 0 rfl ?_
      refine VO_iload hC d_MD_least_74 4 rfl ?_
      refine VO_iload hC d_MD_least_76 5 rfl ?_
      refine VO_callVI hC [.int v4, .int v5] [] ml_MD_191 d_MD_least_78 yv_MD_may sh_MD rfl rfl (fun o h => M_MD_may hC.inj h) (by decide) rfl rfl (Nat.le_of_ble_eq_true rfl) (fun o5 => ?_)
      refine VO_if_eq hC d_MD_least_81 (fun _ => ?_) (fun _ => ?_)
      · exact (B_MD_least_112 hC K42 hK42 K59 hK59 v3 v5 o5.2)
      · refine VO_aload hC d_MD_least_84 0 rfl ?_
        refine VO_iload hC d_MD_least_85 4 rfl ?_
        refine VO_iload hC d_MD_least_87 2 rfl ?_
        refine VO_iload hC d_MD_least_88 5 rfl ?_
        refine VO_callVI hC [.int v4, .int v2, .int v5] [] ml_MD_224 d_MD_least_90 yv_MD_leastWith sh_MD rfl rfl (fun o h => M_MD_leastWith hC.inj h) (by decide) rfl rfl (Nat.le_of_ble_eq_true rfl) (fun o6 => ?_)
        refine VO_aload hC d_MD_least_93 0 rfl ?_
        refine VO_getr (r := 75) hC fl_MD_62 sh_MD rfl d_MD_least_94 ?_
        refine VO_const hC d_MD_least_97 ?_
        refine VO_iload hC d_MD_least_100 4 rfl ?_
        refine VO_imul hC d_MD_least_102 ?_
        refine VO_iload hC d_MD_least_103 2 rfl ?_
        refine VO_iadd hC d_MD_least_104 ?_
        refine VO_iaload hC ia_75 d_MD_least_105 (fun x7 => ?_)
        refine VO_icmp_ne hC d_MD_least_106 (fun _ => ?_) (fun _ => ?_)
        · refine VO_iload hC d_MD_least_109 5 rfl ?_
          refine VO_istore hC d_MD_least_111 [(0, .ref (gad G 58)), (1, .int v1), (2, .int v2), (4, .int v4), (5, .int v5)] rfl (by decide) ?_
          exact VO_sub [1, 2, 3, 0, 4, 5] rfl (B_MD_least_112 hC K42 hK42 K59 hK59 v5 v5 o6.2)
        · exact (B_MD_least_112 hC K42 hK42 K59 hK59 v3 v5 o6.2)
    · exact (B_MD_least_112 hC K42 hK42 K59 hK59 v3 v5 o4.2)
set_option maxRecDepth 20000 in
theorem B_MD_least_59 {G : MCx} (hC : C0 G "AccusedChooseModel" b_MD_least 6 5) {v1 : Int32} (K42 : Int32 × Int32 × Int32 × St → Option (Int32 × St)) (hK42 : ∀ (w2 : Int32) (w3 : Int32) (w4 : Int32) (s : St), VO G (RI G b_MD_least) (K42 (w2, w3, w4, s)) 42 [(0, .ref (gad G 58)), (1, .int v1), (2, .int w2), (3, .int w3), (4, .int w4)] [] s) (v2 : Int32) (v3 : Int32) (v4 : Int32) (v5 : Int32) (s : St) : VO G (RI G b_MD_least) (F_MD_least_59 K42 v1 v2 v3 v4 v5 s) 59 [(0, .ref (gad G 58)), (1, .int v1), (2, .int v2), (3, .int v3), (4, .int v4), (5, .int v5)] [] s := by
  exact VO_fix (G_MD_least_59 K42 v1 v2 v4) 59 (fun q => [(0, .ref (gad G 58)), (1, .int v1), (2, .int v2), (3, .int q.1), (4, .int v4), (5, .int q.2.1)]) (fun q => q.2.2) (fun K hK q => BH_MD_least_59 hC K42 hK42 K (fun w3 w5 s => hK (w3, w5, s)) q.1 q.2.1 q.2.2) FUEL (v3, v5, s)
set_option maxRecDepth 20000 in
theorem BH_MD_least_42 {G : MCx} (hC : C0 G "AccusedChooseModel" b_MD_least 6 5) {v1 : Int32} (K42 : Int32 × Int32 × Int32 × St → Option (Int32 × St)) (hK42 : ∀ (w2 : Int32) (w3 : Int32) (w4 : Int32) (s : St), VO G (RI G b_MD_least) (K42 (w2, w3, w4, s)) 42 [(0, .ref (gad G 58)), (1, .int v1), (2, .int w2), (3, .int w3), (4, .int w4)] [] s) (v2 : Int32) (v3 : Int32) (v4 : Int32) (s : St) : VO G (RI G b_MD_least) (H_MD_least_42 v1 K42 v2 v3 v4 s) 42 [(0, .ref (gad G 58)), (1, .int v1), (2, .int v2), (3, .int v3), (4, .int v4)] [] s := by
  unfold H_MD_least_42
  refine VO_iload hC d_MD_least_42 4 rfl ?_
  refine VO_iload hC d_MD_least_44 1 rfl ?_
  refine VO_icmp_gt hC d_MD_least_45 (fun _ => ?_) (fun _ => ?_)
  · refine VO_iload hC d_MD_least_138 3 rfl ?_
    exact VO_ireturn d_MD_least_139
  · refine VO_const hC d_MD_least_48 ?_
    refine VO_istore hC d_MD_least_50 [(0, .ref (gad G 58)), (1, .int v1), (2, .int v2), (4, .int v4)] rfl (by decide) ?_
    refine VO_aload hC d_MD_least_51 1 rfl ?_
    refine VO_geti hC fl_MD_84 sh_MD rfl d_MD_least_52 ?_
    refine VO_const hC d_MD_least_55 ?_
    refine VO_isub hC d_MD_least_56 ?_
    refine VO_istoreB hC d_MD_least_57 [(3, .int (-9 : Int32)), (0, .ref (gad G 58)), (1, .int v1), (2, .int v2), (4, .int v4)] rfl (by decide) (fun x2 => ?_)
    exact VO_sub [2, 3, 4, 1, 5, 0] rfl (B_MD_least_59 hC K42 hK42 v2 (-9 : Int32) v4 x2 s)
set_option maxRecDepth 20000 in
theorem B_MD_least_42 {G : MCx} (hC : C0 G "AccusedChooseModel" b_MD_least 6 5) (v1 : Int32) (v2 : Int32) (v3 : Int32) (v4 : Int32) (s : St) : VO G (RI G b_MD_least) (F_MD_least_42 v1 v2 v3 v4 s) 42 [(0, .ref (gad G 58)), (1, .int v1), (2, .int v2), (3, .int v3), (4, .int v4)] [] s := by
  exact VO_fix (G_MD_least_42 v1) 42 (fun q => [(0, .ref (gad G 58)), (1, .int v1), (2, .int q.1), (3, .int q.2.1), (4, .int q.2.2.1)]) (fun q => q.2.2.2) (fun K hK q => BH_MD_least_42 hC K (fun w2 w3 w4 s => hK (w2, w3, w4, s)) q.1 q.2.1 q.2.2.1 q.2.2.2) FUEL (v2, v3, v4, s)
set_option maxRecDepth 20000 in
theorem B_MD_least_19 {G : MCx} (hC : C0 G "AccusedChooseModel" b_MD_least 6 5) (v1 : Int32) (s : St) : VO G (RI G b_MD_least) (F_MD_least_19 v1 s) 19 [(0, .ref (gad G 58)), (1, .int v1)] [] s := by
  unfold F_MD_least_19
  refine VO_aload hC d_MD_least_19 0 rfl ?_
  refine VO_callVV hC [] [] ml_MD_227 d_MD_least_20 yv_MD_findLeast sh_MD rfl rfl (fun o h => M_MD_findLeast hC.inj h) (by decide) rfl rfl (Nat.le_of_ble_eq_true rfl) (fun s1 => ?_)
  refine VO_iload hC d_MD_least_23 1 rfl ?_
  refine VO_if_ge hC d_MD_least_24 (fun _ => ?_) (fun _ => ?_)
  · refine VO_const hC d_MD_least_34 ?_
    refine VO_istore hC d_MD_least_35 [(0, .ref (gad G 58)), (1, .int v1)] rfl (by decide) ?_
    refine VO_const hC d_MD_least_36 ?_
    refine VO_istore hC d_MD_least_38 [(2, .int (0 : Int32)), (0, .ref (gad G 58)), (1, .int v1)] rfl (by decide) ?_
    refine VO_const hC d_MD_least_39 ?_
    refine VO_istore hC d_MD_least_40 [(3, .int (-9 : Int32)), (2, .int (0 : Int32)), (0, .ref (gad G 58)), (1, .int v1)] rfl (by decide) ?_
    exact VO_sub [3, 4, 2, 1, 0] rfl (B_MD_least_42 hC v1 (0 : Int32) (-9 : Int32) (0 : Int32) s1)
  · refine VO_aload hC d_MD_least_27 0 rfl ?_
    refine VO_getr (r := 75) hC fl_MD_62 sh_MD rfl d_MD_least_28 ?_
    refine VO_const hC d_MD_least_31 ?_
    refine VO_iaload hC ia_75 d_MD_least_32 (fun x8 => ?_)
    exact VO_ireturn d_MD_least_33
set_option maxRecDepth 20000 in
theorem B_MD_least {G : MCx} (hC : C0 G "AccusedChooseModel" b_MD_least 6 5) (a1 : Int32) (s : St) : VO G (RI G b_MD_least) (F_MD_least a1 s) 0 [(0, .ref (gad G 58)), (1, .int a1)] [] s := by
  unfold F_MD_least
  refine VO_iload hC d_MD_least_0 1 rfl ?_
  refine VO_const hC d_MD_least_1 ?_
  refine VO_icmp_eq hC d_MD_least_2 (fun _ => ?_) (fun _ => ?_)
  · exact (B_MD_least_19 hC a1 s)
  · refine VO_aload hC d_MD_least_5 0 rfl ?_
    refine VO_iload hC d_MD_least_6 1 rfl ?_
    refine VO_callVI hC [.int a1] [] ml_MD_93 d_MD_least_7 yv_MD_isPerson sh_MD rfl rfl (fun o h => M_MD_isPerson hC.inj h) (by decide) rfl rfl (Nat.le_of_ble_eq_true rfl) (fun o9 => ?_)
    refine VO_if_ne hC d_MD_least_10 (fun _ => ?_) (fun _ => ?_)
    · refine VO_aload hC d_MD_least_13 0 rfl ?_
      refine VO_const hC d_MD_least_14 ?_
      refine VO_callVI hC [.int (-1 : Int32)] [] ml_MD_104 d_MD_least_15 yv_MD_no sh_MD rfl rfl (fun o h => M_MD_no hC.inj h) (by decide) rfl rfl (Nat.le_of_ble_eq_true rfl) (fun o10 => ?_)
      exact VO_ireturn d_MD_least_18
    · exact (B_MD_least_19 hC a1 o9.2)
set_option maxRecDepth 20000 in
theorem M_MD_least {l : Launch} {D : va_G} {ad : Nat → Nat} {cI cL : ClassId} (hj : Inj ad) {a1 : Int32} {s : St} {o : Int32 × St} (h : F_MD_least a1 s = some o) : Cn l D ad cI cL y_MD_least b_MD_least 6 (some .int) 5 [.ref (ad 58), .int a1] s (some (.int o.1)) o.2 := by
  refine Cn_ofI hj (plainFor_of_name (by decide)) (Nat.le_of_ble_eq_true rfl) [(0, .ref (ad 58)), (1, .int a1)] rfl (fun G hC e1 e2 e3 e4 e5 hR => ?_)
  subst e1; subst e2; subst e3; subst e4; subst e5
  exact B_MD_least hC a1 s o h hR
theorem d_MD_monthsIn_0 : PLa b_MD_monthsIn 0 0 1 := Or.inl ⟨0, by decide +kernel, rfl, rfl⟩
theorem d_MD_monthsIn_1 : DR b_MD_monthsIn 1 (.getfield 68) 3 4 := ⟨by decide +kernel, rfl⟩
theorem d_MD_monthsIn_4 : PCi b_MD_monthsIn 4 7 6 := Or.inr (Or.inl ⟨7, by decide +kernel, by decide, rfl⟩)
theorem d_MD_monthsIn_6 : PCi b_MD_monthsIn 6 128 9 := Or.inr (Or.inr ⟨128, by decide +kernel, by decide, rfl⟩)
theorem d_MD_monthsIn_9 : PLi b_MD_monthsIn 9 1 10 := Or.inl ⟨1, by decide +kernel, rfl, rfl⟩
theorem d_MD_monthsIn_10 : DR b_MD_monthsIn 10 (.imul) 1 11 := ⟨by decide +kernel, rfl⟩
theorem d_MD_monthsIn_11 : PLi b_MD_monthsIn 11 2 12 := Or.inl ⟨2, by decide +kernel, rfl, rfl⟩
theorem d_MD_monthsIn_12 : DR b_MD_monthsIn 12 (.iadd) 1 13 := ⟨by decide +kernel, rfl⟩
theorem d_MD_monthsIn_13 : DR b_MD_monthsIn 13 (.imul) 1 14 := ⟨by decide +kernel, rfl⟩
theorem d_MD_monthsIn_14 : PLi b_MD_monthsIn 14 3 15 := Or.inl ⟨3, by decide +kernel, rfl, rfl⟩
theorem d_MD_monthsIn_15 : DR b_MD_monthsIn 15 (.iadd) 1 16 := ⟨by decide +kernel, rfl⟩
theorem d_MD_monthsIn_16 : DR b_MD_monthsIn 16 (.iaload) 1 17 := ⟨by decide +kernel, rfl⟩
theorem d_MD_monthsIn_17 : DR b_MD_monthsIn 17 (.ireturn) 1 18 := ⟨by decide +kernel, rfl⟩
set_option maxRecDepth 20000 in
theorem B_MD_monthsIn {G : MCx} (hC : C0 G "AccusedChooseModel" b_MD_monthsIn 4 1) (a1 : Int32) (a2 : Int32) (a3 : Int32) (s : St) : VO G (RI G b_MD_monthsIn) (F_MD_monthsIn a1 a2 a3 s) 0 [(0, .ref (gad G 58)), (1, .int a1), (2, .int a2), (3, .int a3)] [] s := by
  unfold F_MD_monthsIn
  refine VO_aload hC d_MD_monthsIn_0 0 rfl ?_
  refine VO_getr (r := 77) hC fl_MD_68 sh_MD rfl d_MD_monthsIn_1 ?_
  refine VO_const hC d_MD_monthsIn_4 ?_
  refine VO_const hC d_MD_monthsIn_6 ?_
  refine VO_iload hC d_MD_monthsIn_9 1 rfl ?_
  refine VO_imul hC d_MD_monthsIn_10 ?_
  refine VO_iload hC d_MD_monthsIn_11 2 rfl ?_
  refine VO_iadd hC d_MD_monthsIn_12 ?_
  refine VO_imul hC d_MD_monthsIn_13 ?_
  refine VO_iload hC d_MD_monthsIn_14 3 rfl ?_
  refine VO_iadd hC d_MD_monthsIn_15 ?_
  refine VO_iaload hC ia_77 d_MD_monthsIn_16 (fun x1 => ?_)
  exact VO_ireturn d_MD_monthsIn_17
set_option maxRecDepth 20000 in
theorem M_MD_monthsIn {l : Launch} {D : va_G} {ad : Nat → Nat} {cI cL : ClassId} (hj : Inj ad) {a1 : Int32} {a2 : Int32} {a3 : Int32} {s : St} {o : Int32 × St} (h : F_MD_monthsIn a1 a2 a3 s = some o) : Cn l D ad cI cL y_MD_monthsIn b_MD_monthsIn 4 (some .int) 1 [.ref (ad 58), .int a1, .int a2, .int a3] s (some (.int o.1)) o.2 := by
  refine Cn_ofI hj (plainFor_of_name (by decide)) (Nat.le_of_ble_eq_true rfl) [(0, .ref (ad 58)), (1, .int a1), (2, .int a2), (3, .int a3)] rfl (fun G hC e1 e2 e3 e4 e5 hR => ?_)
  subst e1; subst e2; subst e3; subst e4; subst e5
  exact B_MD_monthsIn hC a1 a2 a3 s o h hR
theorem d_MD_withBrother_0 : PLa b_MD_withBrother 0 0 1 := Or.inl ⟨0, by decide +kernel, rfl, rfl⟩
theorem d_MD_withBrother_1 : DR b_MD_withBrother 1 (.getfield 34) 3 4 := ⟨by decide +kernel, rfl⟩
theorem d_MD_withBrother_4 : PLi b_MD_withBrother 4 1 5 := Or.inl ⟨1, by decide +kernel, rfl, rfl⟩
theorem d_MD_withBrother_5 : DR b_MD_withBrother 5 (.iaload) 1 6 := ⟨by decide +kernel, rfl⟩
theorem d_MD_withBrother_6 : PSi b_MD_withBrother 6 4 8 := Or.inr ⟨by decide +kernel, rfl⟩
theorem d_MD_withBrother_8 : PLi b_MD_withBrother 8 3 9 := Or.inl ⟨3, by decide +kernel, rfl, rfl⟩
theorem d_MD_withBrother_9 : DJ b_MD_withBrother 9 (.ifCond .ge) 12 16 := ⟨7, by decide +kernel, rfl, by decide⟩
theorem d_MD_withBrother_12 : PLi b_MD_withBrother 12 2 13 := Or.inl ⟨2, by decide +kernel, rfl, rfl⟩
theorem d_MD_withBrother_13 : DJ b_MD_withBrother 13 .goto 16 21 := ⟨8, by decide +kernel, rfl, by decide⟩
theorem d_MD_withBrother_16 : PLi b_MD_withBrother 16 2 17 := Or.inl ⟨2, by decide +kernel, rfl, rfl⟩
theorem d_MD_withBrother_17 : PCi b_MD_withBrother 17 1 18 := Or.inl ⟨1, by decide +kernel, by decide, rfl⟩
theorem d_MD_withBrother_18 : PLi b_MD_withBrother 18 3 19 := Or.inl ⟨3, by decide +kernel, rfl, rfl⟩
theorem d_MD_withBrother_19 : DR b_MD_withBrother 19 (.ishl) 1 20 := ⟨by decide +kernel, rfl⟩
theorem d_MD_withBrother_20 : DR b_MD_withBrother 20 (.ior) 1 21 := ⟨by decide +kernel, rfl⟩
theorem d_MD_withBrother_21 : PSi b_MD_withBrother 21 5 23 := Or.inr ⟨by decide +kernel, rfl⟩
theorem d_MD_withBrother_23 : PLa b_MD_withBrother 23 0 24 := Or.inl ⟨0, by decide +kernel, rfl, rfl⟩
theorem d_MD_withBrother_24 : DR b_MD_withBrother 24 (.getfield 28) 3 27 := ⟨by decide +kernel, rfl⟩
theorem d_MD_withBrother_27 : PLi b_MD_withBrother 27 4 29 := Or.inr ⟨by decide +kernel, rfl⟩
theorem d_MD_withBrother_29 : DR b_MD_withBrother 29 (.iaload) 1 30 := ⟨by decide +kernel, rfl⟩
theorem d_MD_withBrother_30 : PSi b_MD_withBrother 30 6 32 := Or.inr ⟨by decide +kernel, rfl⟩
theorem d_MD_withBrother_32 : PLa b_MD_withBrother 32 0 33 := Or.inl ⟨0, by decide +kernel, rfl, rfl⟩
theorem d_MD_withBrother_33 : PLi b_MD_withBrother 33 4 35 := Or.inr ⟨by decide +kernel, rfl⟩
theorem d_MD_withBrother_35 : PLi b_MD_withBrother 35 3 36 := Or.inl ⟨3, by decide +kernel, rfl, rfl⟩
theorem d_MD_withBrother_36 : DR b_MD_withBrother 36 (.invokevirtual 194) 3 39 := ⟨by decide +kernel, rfl⟩
theorem d_MD_withBrother_39 : PLi b_MD_withBrother 39 6 41 := Or.inr ⟨by decide +kernel, rfl⟩
theorem d_MD_withBrother_41 : DJ b_MD_withBrother 41 (.ifCond .lt) 44 68 := ⟨27, by decide +kernel, rfl, by decide⟩
theorem d_MD_withBrother_44 : PLa b_MD_withBrother 44 0 45 := Or.inl ⟨0, by decide +kernel, rfl, rfl⟩
theorem d_MD_withBrother_45 : PLi b_MD_withBrother 45 6 47 := Or.inr ⟨by decide +kernel, rfl⟩
theorem d_MD_withBrother_47 : DR b_MD_withBrother 47 (.invokevirtual 177) 3 50 := ⟨by decide +kernel, rfl⟩
theorem d_MD_withBrother_50 : PLi b_MD_withBrother 50 1 51 := Or.inl ⟨1, by decide +kernel, rfl, rfl⟩
theorem d_MD_withBrother_51 : DJ b_MD_withBrother 51 (.if_icmp .le) 54 68 := ⟨17, by decide +kernel, rfl, by decide⟩
theorem d_MD_withBrother_54 : PLa b_MD_withBrother 54 0 55 := Or.inl ⟨0, by decide +kernel, rfl, rfl⟩
theorem d_MD_withBrother_55 : PLi b_MD_withBrother 55 1 56 := Or.inl ⟨1, by decide +kernel, rfl, rfl⟩
theorem d_MD_withBrother_56 : PCi b_MD_withBrother 56 1 57 := Or.inl ⟨1, by decide +kernel, by decide, rfl⟩
theorem d_MD_withBrother_57 : DR b_MD_withBrother 57 (.iadd) 1 58 := ⟨by decide +kernel, rfl⟩
theorem d_MD_withBrother_58 : PLi b_MD_withBrother 58 5 60 := Or.inr ⟨by decide +kernel, rfl⟩
theorem d_MD_withBrother_60 : PLi b_MD_withBrother 60 6 62 := Or.inr ⟨by decide +kernel, rfl⟩
theorem d_MD_withBrother_62 : DR b_MD_withBrother 62 (.invokevirtual 230) 3 65 := ⟨by decide +kernel, rfl⟩
theorem d_MD_withBrother_65 : DJ b_MD_withBrother 65 .goto 68 69 := ⟨4, by decide +kernel, rfl, by decide⟩
theorem d_MD_withBrother_68 : PCi b_MD_withBrother 68 0 69 := Or.inl ⟨0, by decide +kernel, by decide, rfl⟩
theorem d_MD_withBrother_69 : DR b_MD_withBrother 69 (.iadd) 1 70 := ⟨by decide +kernel, rfl⟩
theorem d_MD_withBrother_70 : DR b_MD_withBrother 70 (.ireturn) 1 71 := ⟨by decide +kernel, rfl⟩
set_option maxRecDepth 20000 in
theorem B_MD_withBrother_69 {G : MCx} (hC : C0 G "AccusedChooseModel" b_MD_withBrother 7 3) (z0 : Int32) (z1 : Int32) (s : St) : VO G (RI G b_MD_withBrother) (F_MD_withBrother_69 z0 z1 s) 69 [] [.int z0, .int z1] s := by
  unfold F_MD_withBrother_69
  refine VO_iadd hC d_MD_withBrother_69 ?_
  exact VO_ireturn d_MD_withBrother_70
set_option maxRecDepth 20000 in
theorem B_MD_withBrother_68 {G : MCx} (hC : C0 G "AccusedChooseModel" b_MD_withBrother 7 3) (z0 : Int32) (s : St) : VO G (RI G b_MD_withBrother) (F_MD_withBrother_68 z0 s) 68 [] [.int z0] s := by
  unfold F_MD_withBrother_68
  refine VO_const hC d_MD_withBrother_68 ?_
  exact (B_MD_withBrother_69 hC (0 : Int32) z0 s)
set_option maxRecDepth 20000 in
theorem B_MD_withBrother_21 {G : MCx} (hC : C0 G "AccusedChooseModel" b_MD_withBrother 7 3) (v1 : Int32) (v3 : Int32) (v4 : Int32) (z0 : Int32) (s : St) : VO G (RI G b_MD_withBrother) (F_MD_withBrother_21 v1 v3 v4 z0 s) 21 [(0, .ref (gad G 58)), (1, .int v1), (3, .int v3), (4, .int v4)] [.int z0] s := by
  unfold F_MD_withBrother_21
  refine VO_istore hC d_MD_withBrother_21 [(0, .ref (gad G 58)), (1, .int v1), (3, .int v3), (4, .int v4)] rfl (by decide) ?_
  refine VO_aload hC d_MD_withBrother_23 1 rfl ?_
  refine VO_getr (r := 65) hC fl_MD_28 sh_MD rfl d_MD_withBrother_24 ?_
  refine VO_iload hC d_MD_withBrother_27 4 rfl ?_
  refine VO_iaload hC ia_65 d_MD_withBrother_29 (fun x2 => ?_)
  refine VO_istore hC d_MD_withBrother_30 [(5, .int z0), (0, .ref (gad G 58)), (1, .int v1), (3, .int v3), (4, .int v4)] rfl (by decide) ?_
  refine VO_aload hC d_MD_withBrother_32 2 rfl ?_
  refine VO_iload hC d_MD_withBrother_33 5 rfl ?_
  refine VO_iload hC d_MD_withBrother_35 4 rfl ?_
  refine VO_callVI hC [.int v4, .int v3] [] ml_MD_194 d_MD_withBrother_36 yv_MD_monthsOf sh_MD rfl rfl (fun o h => M_MD_monthsOf hC.inj h) (by decide) rfl rfl (Nat.le_of_ble_eq_true rfl) (fun o3 => ?_)
  refine VO_iload hC d_MD_withBrother_39 0 rfl ?_
  refine VO_if_lt hC d_MD_withBrother_41 (fun _ => ?_) (fun _ => ?_)
  · exact VO_sub [] rfl (B_MD_withBrother_68 hC o3.1 o3.2)
  · refine VO_aload hC d_MD_withBrother_44 2 rfl ?_
    refine VO_iload hC d_MD_withBrother_45 0 rfl ?_
    refine VO_callVI hC [.int x2] [.int o3.1] ml_MD_177 d_MD_withBrother_47 yv_MD_placeOf sh_MD rfl rfl (fun o h => M_MD_placeOf hC.inj h) (by decide) rfl rfl (Nat.le_of_ble_eq_true rfl) (fun o4 => ?_)
    refine VO_iload hC d_MD_withBrother_50 3 rfl ?_
    refine VO_icmp_le hC d_MD_withBrother_51 (fun _ => ?_) (fun _ => ?_)
    · exact VO_sub [] rfl (B_MD_withBrother_68 hC o3.1 o4.2)
    · refine VO_aload hC d_MD_withBrother_54 2 rfl ?_
      refine VO_iload hC d_MD_withBrother_55 3 rfl ?_
      refine VO_const hC d_MD_withBrother_56 ?_
      refine VO_iadd hC d_MD_withBrother_57 ?_
      refine VO_iload hC d_MD_withBrother_58 1 rfl ?_
      refine VO_iload hC d_MD_withBrother_60 0 rfl ?_
      refine VO_callVI hC [.int (v1 + (1 : Int32)), .int z0, .int x2] [.int o3.1] ml_MD_230 d_MD_withBrother_62 yv_MD_monthsIn sh_MD rfl rfl (fun o h => M_MD_monthsIn hC.inj h) (by decide) rfl rfl (Nat.le_of_ble_eq_true rfl) (fun o5 => ?_)
      refine VO_goto hC d_MD_withBrother_65 ?_
      exact VO_sub [] rfl (B_MD_withBrother_69 hC o5.1 o3.1 o5.2)
set_option maxRecDepth 20000 in
theorem B_MD_withBrother {G : MCx} (hC : C0 G "AccusedChooseModel" b_MD_withBrother 7 3) (a1 : Int32) (a2 : Int32) (a3 : Int32) (s : St) : VO G (RI G b_MD_withBrother) (F_MD_withBrother a1 a2 a3 s) 0 [(0, .ref (gad G 58)), (1, .int a1), (2, .int a2), (3, .int a3)] [] s := by
  unfold F_MD_withBrother
  refine VO_aload hC d_MD_withBrother_0 0 rfl ?_
  refine VO_getr (r := 67) hC fl_MD_34 sh_MD rfl d_MD_withBrother_1 ?_
  refine VO_iload hC d_MD_withBrother_4 1 rfl ?_
  refine VO_iaload hC ia_67 d_MD_withBrother_5 (fun x1 => ?_)
  refine VO_istore hC d_MD_withBrother_6 [(0, .ref (gad G 58)), (1, .int a1), (2, .int a2), (3, .int a3)] rfl (by decide) ?_
  refine VO_iload hC d_MD_withBrother_8 4 rfl ?_
  refine VO_if_ge hC d_MD_withBrother_9 (fun _ => ?_) (fun _ => ?_)
  · refine VO_iload hC d_MD_withBrother_16 3 rfl ?_
    refine VO_const hC d_MD_withBrother_17 ?_
    refine VO_iload hC d_MD_withBrother_18 4 rfl ?_
    refine VO_ishl hC d_MD_withBrother_19 ?_
    refine VO_ior hC d_MD_withBrother_20 ?_
    exact VO_sub [1, 2, 4, 0] rfl (B_MD_withBrother_21 hC a1 a3 x1 (a2 ||| ((1 : Int32) <<< (a3 &&& 31))) s)
  · refine VO_iload hC d_MD_withBrother_12 3 rfl ?_
    refine VO_goto hC d_MD_withBrother_13 ?_
    exact VO_sub [1, 2, 4, 0] rfl (B_MD_withBrother_21 hC a1 a3 x1 a2 s)
set_option maxRecDepth 20000 in
theorem M_MD_withBrother {l : Launch} {D : va_G} {ad : Nat → Nat} {cI cL : ClassId} (hj : Inj ad) {a1 : Int32} {a2 : Int32} {a3 : Int32} {s : St} {o : Int32 × St} (h : F_MD_withBrother a1 a2 a3 s = some o) : Cn l D ad cI cL y_MD_withBrother b_MD_withBrother 7 (some .int) 3 [.ref (ad 58), .int a1, .int a2, .int a3] s (some (.int o.1)) o.2 := by
  refine Cn_ofI hj (plainFor_of_name (by decide)) (Nat.le_of_ble_eq_true rfl) [(0, .ref (ad 58)), (1, .int a1), (2, .int a2), (3, .int a3)] rfl (fun G hC e1 e2 e3 e4 e5 hR => ?_)
  subst e1; subst e2; subst e3; subst e4; subst e5
  exact B_MD_withBrother hC a1 a2 a3 s o h hR
theorem d_MD_chooses_0 : PLa b_MD_chooses 0 0 1 := Or.inl ⟨0, by decide +kernel, rfl, rfl⟩
theorem d_MD_chooses_1 : DR b_MD_chooses 1 (.getfield 34) 3 4 := ⟨by decide +kernel, rfl⟩
theorem d_MD_chooses_4 : PLi b_MD_chooses 4 1 5 := Or.inl ⟨1, by decide +kernel, rfl, rfl⟩
theorem d_MD_chooses_5 : DR b_MD_chooses 5 (.iaload) 1 6 := ⟨by decide +kernel, rfl⟩
theorem d_MD_chooses_6 : PSi b_MD_chooses 6 3 7 := Or.inl ⟨3, by decide +kernel, rfl, rfl⟩
theorem d_MD_chooses_7 : PCi b_MD_chooses 7 (-9) 9 := Or.inr (Or.inl ⟨(-9), by decide +kernel, by decide, rfl⟩)
theorem d_MD_chooses_9 : PSi b_MD_chooses 9 4 11 := Or.inr ⟨by decide +kernel, rfl⟩
theorem d_MD_chooses_11 : PCi b_MD_chooses 11 0 12 := Or.inl ⟨0, by decide +kernel, by decide, rfl⟩
theorem d_MD_chooses_12 : PSi b_MD_chooses 12 5 14 := Or.inr ⟨by decide +kernel, rfl⟩
theorem d_MD_chooses_14 : PLi b_MD_chooses 14 5 16 := Or.inr ⟨by decide +kernel, rfl⟩
theorem d_MD_chooses_16 : PLa b_MD_chooses 16 0 17 := Or.inl ⟨0, by decide +kernel, rfl, rfl⟩
theorem d_MD_chooses_17 : DR b_MD_chooses 17 (.getfield 84) 3 20 := ⟨by decide +kernel, rfl⟩
theorem d_MD_chooses_20 : DJ b_MD_chooses 20 (.if_icmp .ge) 23 79 := ⟨59, by decide +kernel, rfl, by decide⟩
theorem d_MD_chooses_23 : PLi b_MD_chooses 23 2 24 := Or.inl ⟨2, by decide +kernel, rfl, rfl⟩
theorem d_MD_chooses_24 : PLi b_MD_chooses 24 5 26 := Or.inr ⟨by decide +kernel, rfl⟩
theorem d_MD_chooses_26 : DR b_MD_chooses 26 (.invokestatic 184) 3 29 := ⟨by decide +kernel, rfl⟩
theorem d_MD_chooses_29 : DJ b_MD_chooses 29 (.ifCond .ne) 32 73 := ⟨44, by decide +kernel, rfl, by decide⟩
theorem d_MD_chooses_32 : PLa b_MD_chooses 32 0 33 := Or.inl ⟨0, by decide +kernel, rfl, rfl⟩
theorem d_MD_chooses_33 : PLi b_MD_chooses 33 3 34 := Or.inl ⟨3, by decide +kernel, rfl, rfl⟩
theorem d_MD_chooses_34 : PLi b_MD_chooses 34 5 36 := Or.inr ⟨by decide +kernel, rfl⟩
theorem d_MD_chooses_36 : DR b_MD_chooses 36 (.invokevirtual 191) 3 39 := ⟨by decide +kernel, rfl⟩
theorem d_MD_chooses_39 : DJ b_MD_chooses 39 (.ifCond .ne) 42 45 := ⟨6, by decide +kernel, rfl, by decide⟩
theorem d_MD_chooses_42 : DJ b_MD_chooses 42 .goto 45 73 := ⟨31, by decide +kernel, rfl, by decide⟩
theorem d_MD_chooses_45 : PLi b_MD_chooses 45 4 47 := Or.inr ⟨by decide +kernel, rfl⟩
theorem d_MD_chooses_47 : DJ b_MD_chooses 47 (.ifCond .lt) 50 69 := ⟨22, by decide +kernel, rfl, by decide⟩
theorem d_MD_chooses_50 : PLa b_MD_chooses 50 0 51 := Or.inl ⟨0, by decide +kernel, rfl, rfl⟩
theorem d_MD_chooses_51 : PLi b_MD_chooses 51 1 52 := Or.inl ⟨1, by decide +kernel, rfl, rfl⟩
theorem d_MD_chooses_52 : PLi b_MD_chooses 52 2 53 := Or.inl ⟨2, by decide +kernel, rfl, rfl⟩
theorem d_MD_chooses_53 : PLi b_MD_chooses 53 5 55 := Or.inr ⟨by decide +kernel, rfl⟩
theorem d_MD_chooses_55 : DR b_MD_chooses 55 (.invokevirtual 233) 3 58 := ⟨by decide +kernel, rfl⟩
theorem d_MD_chooses_58 : PLa b_MD_chooses 58 0 59 := Or.inl ⟨0, by decide +kernel, rfl, rfl⟩
theorem d_MD_chooses_59 : PLi b_MD_chooses 59 1 60 := Or.inl ⟨1, by decide +kernel, rfl, rfl⟩
theorem d_MD_chooses_60 : PLi b_MD_chooses 60 2 61 := Or.inl ⟨2, by decide +kernel, rfl, rfl⟩
theorem d_MD_chooses_61 : PLi b_MD_chooses 61 4 63 := Or.inr ⟨by decide +kernel, rfl⟩
theorem d_MD_chooses_63 : DR b_MD_chooses 63 (.invokevirtual 233) 3 66 := ⟨by decide +kernel, rfl⟩
theorem d_MD_chooses_66 : DJ b_MD_chooses 66 (.if_icmp .ge) 69 73 := ⟨7, by decide +kernel, rfl, by decide⟩
theorem d_MD_chooses_69 : PLi b_MD_chooses 69 5 71 := Or.inr ⟨by decide +kernel, rfl⟩
theorem d_MD_chooses_71 : PSi b_MD_chooses 71 4 73 := Or.inr ⟨by decide +kernel, rfl⟩
theorem d_MD_chooses_73 : DR b_MD_chooses 73 (.iinc 5 1) 3 76 := ⟨by decide +kernel, rfl⟩
theorem d_MD_chooses_76 : DJ b_MD_chooses 76 .goto 79 14 := ⟨-62, by decide +kernel, rfl, by decide⟩
theorem d_MD_chooses_79 : PLa b_MD_chooses 79 0 80 := Or.inl ⟨0, by decide +kernel, rfl, rfl⟩
theorem d_MD_chooses_80 : DR b_MD_chooses 80 (.getfield 65) 3 83 := ⟨by decide +kernel, rfl⟩
theorem d_MD_chooses_83 : PCi b_MD_chooses 83 128 86 := Or.inr (Or.inr ⟨128, by decide +kernel, by decide, rfl⟩)
theorem d_MD_chooses_86 : PLi b_MD_chooses 86 1 87 := Or.inl ⟨1, by decide +kernel, rfl, rfl⟩
theorem d_MD_chooses_87 : DR b_MD_chooses 87 (.imul) 1 88 := ⟨by decide +kernel, rfl⟩
theorem d_MD_chooses_88 : PLi b_MD_chooses 88 2 89 := Or.inl ⟨2, by decide +kernel, rfl, rfl⟩
theorem d_MD_chooses_89 : DR b_MD_chooses 89 (.iadd) 1 90 := ⟨by decide +kernel, rfl⟩
theorem d_MD_chooses_90 : PLi b_MD_chooses 90 4 92 := Or.inr ⟨by decide +kernel, rfl⟩
theorem d_MD_chooses_92 : DR b_MD_chooses 92 (.iastore) 1 93 := ⟨by decide +kernel, rfl⟩
theorem d_MD_chooses_93 : PLi b_MD_chooses 93 4 95 := Or.inr ⟨by decide +kernel, rfl⟩
theorem d_MD_chooses_95 : DJ b_MD_chooses 95 (.ifCond .ge) 98 102 := ⟨7, by decide +kernel, rfl, by decide⟩
theorem d_MD_chooses_98 : PLi b_MD_chooses 98 2 99 := Or.inl ⟨2, by decide +kernel, rfl, rfl⟩
theorem d_MD_chooses_99 : DJ b_MD_chooses 99 .goto 102 108 := ⟨9, by decide +kernel, rfl, by decide⟩
theorem d_MD_chooses_102 : PLi b_MD_chooses 102 2 103 := Or.inl ⟨2, by decide +kernel, rfl, rfl⟩
theorem d_MD_chooses_103 : PCi b_MD_chooses 103 1 104 := Or.inl ⟨1, by decide +kernel, by decide, rfl⟩
theorem d_MD_chooses_104 : PLi b_MD_chooses 104 4 106 := Or.inr ⟨by decide +kernel, rfl⟩
theorem d_MD_chooses_106 : DR b_MD_chooses 106 (.ishl) 1 107 := ⟨by decide +kernel, rfl⟩
theorem d_MD_chooses_107 : DR b_MD_chooses 107 (.ior) 1 108 := ⟨by decide +kernel, rfl⟩
theorem d_MD_chooses_108 : PSi b_MD_chooses 108 5 110 := Or.inr ⟨by decide +kernel, rfl⟩
theorem d_MD_chooses_110 : PCi b_MD_chooses 110 0 111 := Or.inl ⟨0, by decide +kernel, by decide, rfl⟩
theorem d_MD_chooses_111 : PSi b_MD_chooses 111 6 113 := Or.inr ⟨by decide +kernel, rfl⟩
theorem d_MD_chooses_113 : PLi b_MD_chooses 113 6 115 := Or.inr ⟨by decide +kernel, rfl⟩
theorem d_MD_chooses_115 : PLa b_MD_chooses 115 0 116 := Or.inl ⟨0, by decide +kernel, rfl, rfl⟩
theorem d_MD_chooses_116 : DR b_MD_chooses 116 (.getfield 90) 3 119 := ⟨by decide +kernel, rfl⟩
theorem d_MD_chooses_119 : DJ b_MD_chooses 119 (.if_icmp .ge) 122 171 := ⟨52, by decide +kernel, rfl, by decide⟩
theorem d_MD_chooses_122 : PLa b_MD_chooses 122 0 123 := Or.inl ⟨0, by decide +kernel, rfl, rfl⟩
theorem d_MD_chooses_123 : DR b_MD_chooses 123 (.getfield 68) 3 126 := ⟨by decide +kernel, rfl⟩
theorem d_MD_chooses_126 : PCi b_MD_chooses 126 7 128 := Or.inr (Or.inl ⟨7, by decide +kernel, by decide, rfl⟩)
theorem d_MD_chooses_128 : PCi b_MD_chooses 128 128 131 := Or.inr (Or.inr ⟨128, by decide +kernel, by decide, rfl⟩)
theorem d_MD_chooses_131 : PLi b_MD_chooses 131 1 132 := Or.inl ⟨1, by decide +kernel, rfl, rfl⟩
theorem d_MD_chooses_132 : DR b_MD_chooses 132 (.imul) 1 133 := ⟨by decide +kernel, rfl⟩
theorem d_MD_chooses_133 : PLi b_MD_chooses 133 2 134 := Or.inl ⟨2, by decide +kernel, rfl, rfl⟩
theorem d_MD_chooses_134 : DR b_MD_chooses 134 (.iadd) 1 135 := ⟨by decide +kernel, rfl⟩
theorem d_MD_chooses_135 : DR b_MD_chooses 135 (.imul) 1 136 := ⟨by decide +kernel, rfl⟩
theorem d_MD_chooses_136 : PLi b_MD_chooses 136 6 138 := Or.inr ⟨by decide +kernel, rfl⟩
theorem d_MD_chooses_138 : DR b_MD_chooses 138 (.iadd) 1 139 := ⟨by decide +kernel, rfl⟩
theorem d_MD_chooses_139 : PLi b_MD_chooses 139 1 140 := Or.inl ⟨1, by decide +kernel, rfl, rfl⟩
theorem d_MD_chooses_140 : PCi b_MD_chooses 140 1 141 := Or.inl ⟨1, by decide +kernel, by decide, rfl⟩
theorem d_MD_chooses_141 : DR b_MD_chooses 141 (.iadd) 1 142 := ⟨by decide +kernel, rfl⟩
theorem d_MD_chooses_142 : PLa b_MD_chooses 142 0 143 := Or.inl ⟨0, by decide +kernel, rfl, rfl⟩
theorem d_MD_chooses_143 : DR b_MD_chooses 143 (.getfield 90) 3 146 := ⟨by decide +kernel, rfl⟩
theorem d_MD_chooses_146 : DJ b_MD_chooses 146 (.if_icmp .ge) 149 163 := ⟨17, by decide +kernel, rfl, by decide⟩
theorem d_MD_chooses_149 : PLa b_MD_chooses 149 0 150 := Or.inl ⟨0, by decide +kernel, rfl, rfl⟩
theorem d_MD_chooses_150 : PLi b_MD_chooses 150 1 151 := Or.inl ⟨1, by decide +kernel, rfl, rfl⟩
theorem d_MD_chooses_151 : PCi b_MD_chooses 151 1 152 := Or.inl ⟨1, by decide +kernel, by decide, rfl⟩
theorem d_MD_chooses_152 : DR b_MD_chooses 152 (.iadd) 1 153 := ⟨by decide +kernel, rfl⟩
theorem d_MD_chooses_153 : PLi b_MD_chooses 153 5 155 := Or.inr ⟨by decide +kernel, rfl⟩
theorem d_MD_chooses_155 : PLi b_MD_chooses 155 6 157 := Or.inr ⟨by decide +kernel, rfl⟩
theorem d_MD_chooses_157 : DR b_MD_chooses 157 (.invokevirtual 230) 3 160 := ⟨by decide +kernel, rfl⟩
theorem d_MD_chooses_160 : DJ b_MD_chooses 160 .goto 163 164 := ⟨4, by decide +kernel, rfl, by decide⟩
theorem d_MD_chooses_163 : PCi b_MD_chooses 163 0 164 := Or.inl ⟨0, by decide +kernel, by decide, rfl⟩
theorem d_MD_chooses_164 : DR b_MD_chooses 164 (.iastore) 1 165 := ⟨by decide +kernel, rfl⟩
theorem d_MD_chooses_165 : DR b_MD_chooses 165 (.iinc 6 1) 3 168 := ⟨by decide +kernel, rfl⟩
theorem d_MD_chooses_168 : DJ b_MD_chooses 168 .goto 171 113 := ⟨-55, by decide +kernel, rfl, by decide⟩
theorem d_MD_chooses_171 : PLa b_MD_chooses 171 0 172 := Or.inl ⟨0, by decide +kernel, rfl, rfl⟩
theorem d_MD_chooses_172 : DR b_MD_chooses 172 (.getfield 68) 3 175 := ⟨by decide +kernel, rfl⟩
theorem d_MD_chooses_175 : PCi b_MD_chooses 175 7 177 := Or.inr (Or.inl ⟨7, by decide +kernel, by decide, rfl⟩)
theorem d_MD_chooses_177 : PCi b_MD_chooses 177 128 180 := Or.inr (Or.inr ⟨128, by decide +kernel, by decide, rfl⟩)
theorem d_MD_chooses_180 : PLi b_MD_chooses 180 1 181 := Or.inl ⟨1, by decide +kernel, rfl, rfl⟩
theorem d_MD_chooses_181 : DR b_MD_chooses 181 (.imul) 1 182 := ⟨by decide +kernel, rfl⟩
theorem d_MD_chooses_182 : PLi b_MD_chooses 182 2 183 := Or.inl ⟨2, by decide +kernel, rfl, rfl⟩
theorem d_MD_chooses_183 : DR b_MD_chooses 183 (.iadd) 1 184 := ⟨by decide +kernel, rfl⟩
theorem d_MD_chooses_184 : DR b_MD_chooses 184 (.imul) 1 185 := ⟨by decide +kernel, rfl⟩
theorem d_MD_chooses_185 : PLi b_MD_chooses 185 3 186 := Or.inl ⟨3, by decide +kernel, rfl, rfl⟩
theorem d_MD_chooses_186 : DR b_MD_chooses 186 (.iadd) 1 187 := ⟨by decide +kernel, rfl⟩
theorem d_MD_chooses_187 : PLa b_MD_chooses 187 0 188 := Or.inl ⟨0, by decide +kernel, rfl, rfl⟩
theorem d_MD_chooses_188 : PLi b_MD_chooses 188 3 189 := Or.inl ⟨3, by decide +kernel, rfl, rfl⟩
theorem d_MD_chooses_189 : PLi b_MD_chooses 189 4 191 := Or.inr ⟨by decide +kernel, rfl⟩
theorem d_MD_chooses_191 : DR b_MD_chooses 191 (.invokevirtual 194) 3 194 := ⟨by decide +kernel, rfl⟩
theorem d_MD_chooses_194 : DR b_MD_chooses 194 (.iastore) 1 195 := ⟨by decide +kernel, rfl⟩
theorem d_MD_chooses_195 : DR b_MD_chooses 195 (.return_) 1 196 := ⟨by decide +kernel, rfl⟩
set_option maxRecDepth 20000 in
theorem B_MD_chooses_164 {G : MCx} (hC : C0 G "AccusedChooseModel" b_MD_chooses 7 4) {v1 : Int32} {v2 : Int32} {v3 : Int32} {v4 : Int32} {v5 : Int32} (K113 : Int32 × St → Option (St)) (hK113 : ∀ (w6 : Int32) (s : St), VO G (RV G b_MD_chooses) (K113 (w6, s)) 113 [(0, .ref (gad G 58)), (1, .int v1), (2, .int v2), (3, .int v3), (4, .int v4), (5, .int v5), (6, .int w6)] [] s) (v6 : Int32) (z0 : Int32) (z1 : Int32) (s : St) : VO G (RV G b_MD_chooses) (F_MD_chooses_164 K113 v1 v2 v3 v4 v5 v6 z0 z1 s) 164 [(0, .ref (gad G 58)), (1, .int v1), (2, .int v2), (3, .int v3), (4, .int v4), (5, .int v5), (6, .int v6)] [.int z0, .int z1, .ref (gad G 77)] s := by
  unfold F_MD_chooses_164
  refine VO_iastore hC ia_77 d_MD_chooses_164 (fun s5 => ?_)
  refine VO_iinc hC d_MD_chooses_165 6 rfl (by decide : Int32.ofInt 1 = 1) [(0, .ref (gad G 58)), (1, .int v1), (2, .int v2), (3, .int v3), (4, .int v4), (5, .int v5)] rfl (by decide) ?_
  refine VO_goto hC d_MD_chooses_168 ?_
  exact VO_sub [1, 2, 3, 4, 5, 6, 0] rfl (hK113 (v6 + 1) s5)
set_option maxRecDepth 20000 in
theorem BH_MD_chooses_113 {G : MCx} (hC : C0 G "AccusedChooseModel" b_MD_chooses 7 4) {v1 : Int32} {v2 : Int32} {v3 : Int32} {v4 : Int32} {v5 : Int32} (K113 : Int32 × St → Option (St)) (hK113 : ∀ (w6 : Int32) (s : St), VO G (RV G b_MD_chooses) (K113 (w6, s)) 113 [(0, .ref (gad G 58)), (1, .int v1), (2, .int v2), (3, .int v3), (4, .int v4), (5, .int v5), (6, .int w6)] [] s) (v6 : Int32) (s : St) : VO G (RV G b_MD_chooses) (H_MD_chooses_113 v1 v2 v3 v4 v5 K113 v6 s) 113 [(0, .ref (gad G 58)), (1, .int v1), (2, .int v2), (3, .int v3), (4, .int v4), (5, .int v5), (6, .int v6)] [] s := by
  unfold H_MD_chooses_113
  refine VO_iload hC d_MD_chooses_113 6 rfl ?_
  refine VO_aload hC d_MD_chooses_115 0 rfl ?_
  refine VO_geti hC fl_MD_90 sh_MD rfl d_MD_chooses_116 ?_
  refine VO_icmp_ge hC d_MD_chooses_119 (fun _ => ?_) (fun _ => ?_)
  · refine VO_aload hC d_MD_chooses_171 0 rfl ?_
    refine VO_getr (r := 77) hC fl_MD_68 sh_MD rfl d_MD_chooses_172 ?_
    refine VO_const hC d_MD_chooses_175 ?_
    refine VO_const hC d_MD_chooses_177 ?_
    refine VO_iload hC d_MD_chooses_180 1 rfl ?_
    refine VO_imul hC d_MD_chooses_181 ?_
    refine VO_iload hC d_MD_chooses_182 2 rfl ?_
    refine VO_iadd hC d_MD_chooses_183 ?_
    refine VO_imul hC d_MD_chooses_184 ?_
    refine VO_iload hC d_MD_chooses_185 3 rfl ?_
    refine VO_iadd hC d_MD_chooses_186 ?_
    refine VO_aload hC d_MD_chooses_187 0 rfl ?_
    refine VO_iload hC d_MD_chooses_188 3 rfl ?_
    refine VO_iload hC d_MD_chooses_189 4 rfl ?_
    refine VO_callVI hC [.int v3, .int v4] [.int (((7 : Int32) * (((128 : Int32) * v1) + v2)) + v3), .ref (gad G 77)] ml_MD_194 d_MD_chooses_191 yv_MD_monthsOf sh_MD rfl rfl (fun o h => M_MD_monthsOf hC.inj h) (by decide) rfl rfl (Nat.le_of_ble_eq_true rfl) (fun o3 => ?_)
    refine VO_iastore hC ia_77 d_MD_chooses_194 (fun s4 => ?_)
    exact VO_return d_MD_chooses_195
  · refine VO_aload hC d_MD_chooses_122 0 rfl ?_
    refine VO_getr (r := 77) hC fl_MD_68 sh_MD rfl d_MD_chooses_123 ?_
    refine VO_const hC d_MD_chooses_126 ?_
    refine VO_const hC d_MD_chooses_128 ?_
    refine VO_iload hC d_MD_chooses_131 1 rfl ?_
    refine VO_imul hC d_MD_chooses_132 ?_
    refine VO_iload hC d_MD_chooses_133 2 rfl ?_
    refine VO_iadd hC d_MD_chooses_134 ?_
    refine VO_imul hC d_MD_chooses_135 ?_
    refine VO_iload hC d_MD_chooses_136 6 rfl ?_
    refine VO_iadd hC d_MD_chooses_138 ?_
    refine VO_iload hC d_MD_chooses_139 1 rfl ?_
    refine VO_const hC d_MD_chooses_140 ?_
    refine VO_iadd hC d_MD_chooses_141 ?_
    refine VO_aload hC d_MD_chooses_142 0 rfl ?_
    refine VO_geti hC fl_MD_90 sh_MD rfl d_MD_chooses_143 ?_
    refine VO_icmp_ge hC d_MD_chooses_146 (fun _ => ?_) (fun _ => ?_)
    · refine VO_const hC d_MD_chooses_163 ?_
      exact (B_MD_chooses_164 hC K113 hK113 v6 (0 : Int32) (((7 : Int32) * (((128 : Int32) * v1) + v2)) + v6) s)
    · refine VO_aload hC d_MD_chooses_149 0 rfl ?_
      refine VO_iload hC d_MD_chooses_150 1 rfl ?_
      refine VO_const hC d_MD_chooses_151 ?_
      refine VO_iadd hC d_MD_chooses_152 ?_
      refine VO_iload hC d_MD_chooses_153 5 rfl ?_
      refine VO_iload hC d_MD_chooses_155 6 rfl ?_
      refine VO_callVI hC [.int (v1 + (1 : Int32)), .int v5, .int v6] [.int (((7 : Int32) * (((128 : Int32) * v1) + v2)) + v6), .ref (gad G 77)] ml_MD_230 d_MD_chooses_157 yv_MD_monthsIn sh_MD rfl rfl (fun o h => M_MD_monthsIn hC.inj h) (by decide) rfl rfl (Nat.le_of_ble_eq_true rfl) (fun o6 => ?_)
      refine VO_goto hC d_MD_chooses_160 ?_
      exact (B_MD_chooses_164 hC K113 hK113 v6 o6.1 (((7 : Int32) * (((128 : Int32) * v1) + v2)) + v6) o6.2)
set_option maxRecDepth 20000 in
theorem B_MD_chooses_113 {G : MCx} (hC : C0 G "AccusedChooseModel" b_MD_chooses 7 4) (v1 : Int32) (v2 : Int32) (v3 : Int32) (v4 : Int32) (v5 : Int32) (v6 : Int32) (s : St) : VO G (RV G b_MD_chooses) (F_MD_chooses_113 v1 v2 v3 v4 v5 v6 s) 113 [(0, .ref (gad G 58)), (1, .int v1), (2, .int v2), (3, .int v3), (4, .int v4), (5, .int v5), (6, .int v6)] [] s := by
  exact VO_fix (G_MD_chooses_113 v1 v2 v3 v4 v5) 113 (fun q => [(0, .ref (gad G 58)), (1, .int v1), (2, .int v2), (3, .int v3), (4, .int v4), (5, .int v5), (6, .int q.1)]) (fun q => q.2) (fun K hK q => BH_MD_chooses_113 hC K (fun w6 s => hK (w6, s)) q.1 q.2) FUEL (v6, s)
set_option maxRecDepth 20000 in
theorem B_MD_chooses_108 {G : MCx} (hC : C0 G "AccusedChooseModel" b_MD_chooses 7 4) (v1 : Int32) (v2 : Int32) (v3 : Int32) (v4 : Int32) (z0 : Int32) (s : St) : VO G (RV G b_MD_chooses) (F_MD_chooses_108 v1 v2 v3 v4 z0 s) 108 [(0, .ref (gad G 58)), (1, .int v1), (2, .int v2), (3, .int v3), (4, .int v4)] [.int z0] s := by
  unfold F_MD_chooses_108
  refine VO_istore hC d_MD_chooses_108 [(0, .ref (gad G 58)), (1, .int v1), (2, .int v2), (3, .int v3), (4, .int v4)] rfl (by decide) ?_
  refine VO_const hC d_MD_chooses_110 ?_
  refine VO_istore hC d_MD_chooses_111 [(5, .int z0), (0, .ref (gad G 58)), (1, .int v1), (2, .int v2), (3, .int v3), (4, .int v4)] rfl (by decide) ?_
  exact VO_sub [2, 3, 4, 5, 6, 1, 0] rfl (B_MD_chooses_113 hC v1 v2 v3 v4 z0 (0 : Int32) s)
set_option maxRecDepth 20000 in
theorem B_MD_chooses_73 {G : MCx} (hC : C0 G "AccusedChooseModel" b_MD_chooses 7 4) {v1 : Int32} {v2 : Int32} {v3 : Int32} (K14 : Int32 × Int32 × St → Option (St)) (hK14 : ∀ (w4 : Int32) (w5 : Int32) (s : St), VO G (RV G b_MD_chooses) (K14 (w4, w5, s)) 14 [(0, .ref (gad G 58)), (1, .int v1), (2, .int v2), (3, .int v3), (4, .int w4), (5, .int w5)] [] s) (v4 : Int32) (v5 : Int32) (s : St) : VO G (RV G b_MD_chooses) (F_MD_chooses_73 K14 v1 v2 v3 v4 v5 s) 73 [(0, .ref (gad G 58)), (1, .int v1), (2, .int v2), (3, .int v3), (4, .int v4), (5, .int v5)] [] s := by
  unfold F_MD_chooses_73
  refine VO_iinc hC d_MD_chooses_73 5 rfl (by decide : Int32.ofInt 1 = 1) [(0, .ref (gad G 58)), (1, .int v1), (2, .int v2), (3, .int v3), (4, .int v4)] rfl (by decide) ?_
  refine VO_goto hC d_MD_chooses_76 ?_
  exact VO_sub [1, 2, 3, 4, 5, 0] rfl (hK14 v4 (v5 + 1) s)
set_option maxRecDepth 20000 in
theorem B_MD_chooses_69 {G : MCx} (hC : C0 G "AccusedChooseModel" b_MD_chooses 7 4) {v1 : Int32} {v2 : Int32} {v3 : Int32} (K14 : Int32 × Int32 × St → Option (St)) (hK14 : ∀ (w4 : Int32) (w5 : Int32) (s : St), VO G (RV G b_MD_chooses) (K14 (w4, w5, s)) 14 [(0, .ref (gad G 58)), (1, .int v1), (2, .int v2), (3, .int v3), (4, .int w4), (5, .int w5)] [] s) (v5 : Int32) (s : St) : VO G (RV G b_MD_chooses) (F_MD_chooses_69 K14 v1 v2 v3 v5 s) 69 [(0, .ref (gad G 58)), (1, .int v1), (2, .int v2), (3, .int v3), (5, .int v5)] [] s := by
  unfold F_MD_chooses_69
  refine VO_iload hC d_MD_chooses_69 4 rfl ?_
  refine VO_istore hC d_MD_chooses_71 [(0, .ref (gad G 58)), (1, .int v1), (2, .int v2), (3, .int v3), (5, .int v5)] rfl (by decide) ?_
  exact VO_sub [1, 2, 3, 4, 0, 5] rfl (B_MD_chooses_73 hC K14 hK14 v5 v5 s)
set_option maxRecDepth 20000 in
theorem BH_MD_chooses_14 {G : MCx} (hC : C0 G "AccusedChooseModel" b_MD_chooses 7 4) {v1 : Int32} {v2 : Int32} {v3 : Int32} (K14 : Int32 × Int32 × St → Option (St)) (hK14 : ∀ (w4 : Int32) (w5 : Int32) (s : St), VO G (RV G b_MD_chooses) (K14 (w4, w5, s)) 14 [(0, .ref (gad G 58)), (1, .int v1), (2, .int v2), (3, .int v3), (4, .int w4), (5, .int w5)] [] s) (v4 : Int32) (v5 : Int32) (s : St) : VO G (RV G b_MD_chooses) (H_MD_chooses_14 v1 v2 v3 K14 v4 v5 s) 14 [(0, .ref (gad G 58)), (1, .int v1), (2, .int v2), (3, .int v3), (4, .int v4), (5, .int v5)] [] s := by
  unfold H_MD_chooses_14
  refine VO_iload hC d_MD_chooses_14 5 rfl ?_
  refine VO_aload hC d_MD_chooses_16 0 rfl ?_
  refine VO_geti hC fl_MD_84 sh_MD rfl d_MD_chooses_17 ?_
  refine VO_icmp_ge hC d_MD_chooses_20 (fun _ => ?_) (fun _ => ?_)
  · refine VO_aload hC d_MD_chooses_79 0 rfl ?_
    refine VO_getr (r := 76) hC fl_MD_65 sh_MD rfl d_MD_chooses_80 ?_
    refine VO_const hC d_MD_chooses_83 ?_
    refine VO_iload hC d_MD_chooses_86 1 rfl ?_
    refine VO_imul hC d_MD_chooses_87 ?_
    refine VO_iload hC d_MD_chooses_88 2 rfl ?_
    refine VO_iadd hC d_MD_chooses_89 ?_
    refine VO_iload hC d_MD_chooses_90 4 rfl ?_
    refine VO_iastore hC ia_76 d_MD_chooses_92 (fun s2 => ?_)
    refine VO_iload hC d_MD_chooses_93 4 rfl ?_
    refine VO_if_ge hC d_MD_chooses_95 (fun _ => ?_) (fun _ => ?_)
    · refine VO_iload hC d_MD_chooses_102 2 rfl ?_
      refine VO_const hC d_MD_chooses_103 ?_
      refine VO_iload hC d_MD_chooses_104 4 rfl ?_
      refine VO_ishl hC d_MD_chooses_106 ?_
      refine VO_ior hC d_MD_chooses_107 ?_
      exact VO_sub [0, 1, 2, 3, 4] rfl (B_MD_chooses_108 hC v1 v2 v3 v4 (v2 ||| ((1 : Int32) <<< (v4 &&& 31))) s2)
    · refine VO_iload hC d_MD_chooses_98 2 rfl ?_
      refine VO_goto hC d_MD_chooses_99 ?_
      exact VO_sub [0, 1, 2, 3, 4] rfl (B_MD_chooses_108 hC v1 v2 v3 v4 v2 s2)
  · refine VO_iload hC d_MD_chooses_23 2 rfl ?_
    refine VO_iload hC d_MD_chooses_24 5 rfl ?_
    refine VO_callSI hC [.int v2, .int v5] [] ml_MD_184 d_MD_chooses_26 ys_MD_has (fun o h => M_MD_has hC.inj h) (by decide) rfl rfl (Nat.le_of_ble_eq_true rfl) (fun o7 => ?_)
    refine VO_if_ne hC d_MD_chooses_29 (fun _ => ?_) (fun _ => ?_)
    · refine VO_aload hC d_MD_chooses_32 0 rfl ?_
      refine VO_iload hC d_MD_chooses_33 3 rfl ?_
      refine VO_iload hC d_MD_chooses_34 5 rfl ?_
      refine VO_callVI hC [.int v3, .int v5] [] ml_MD_191 d_MD_chooses_36 yv_MD_may sh_MD rfl rfl (fun o h => M_MD_may hC.inj h) (by decide) rfl rfl (Nat.le_of_ble_eq_true rfl) (fun o8 => ?_)
      refine VO_if_ne hC d_MD_chooses_39 (fun _ => ?_) (fun _ => ?_)
      · refine VO_goto hC d_MD_chooses_42 ?_
        exact (B_MD_chooses_73 hC K14 hK14 v4 v5 o8.2)
      · refine VO_iload hC d_MD_chooses_45 4 rfl ?_
        refine VO_if_lt hC d_MD_chooses_47 (fun _ => ?_) (fun _ => ?_)
        · exact VO_sub [0, 1, 2, 3, 5] rfl (B_MD_chooses_69 hC K14 hK14 v5 o8.2)
        · refine VO_aload hC d_MD_chooses_50 0 rfl ?_
          refine VO_iload hC d_MD_chooses_51 1 rfl ?_
          refine VO_iload hC d_MD_chooses_52 2 rfl ?_
          refine VO_iload hC d_MD_chooses_53 5 rfl ?_
          refine VO_callVI hC [.int v1, .int v2, .int v5] [] ml_MD_233 d_MD_chooses_55 yv_MD_withBrother sh_MD rfl rfl (fun o h => M_MD_withBrother hC.inj h) (by decide) rfl rfl (Nat.le_of_ble_eq_true rfl) (fun o9 => ?_)
          refine VO_aload hC d_MD_chooses_58 0 rfl ?_
          refine VO_iload hC d_MD_chooses_59 1 rfl ?_
          refine VO_iload hC d_MD_chooses_60 2 rfl ?_
          refine VO_iload hC d_MD_chooses_61 4 rfl ?_
          refine VO_callVI hC [.int v1, .int v2, .int v4] [.int o9.1] ml_MD_233 d_MD_chooses_63 yv_MD_withBrother sh_MD rfl rfl (fun o h => M_MD_withBrother hC.inj h) (by decide) rfl rfl (Nat.le_of_ble_eq_true rfl) (fun o10 => ?_)
          refine VO_icmp_ge hC d_MD_chooses_66 (fun _ => ?_) (fun _ => ?_)
          · exact (B_MD_chooses_73 hC K14 hK14 v4 v5 o10.2)
          · exact VO_sub [0, 1, 2, 3, 5] rfl (B_MD_chooses_69 hC K14 hK14 v5 o10.2)
    · exact (B_MD_chooses_73 hC K14 hK14 v4 v5 o7.2)
set_option maxRecDepth 20000 in
theorem B_MD_chooses_14 {G : MCx} (hC : C0 G "AccusedChooseModel" b_MD_chooses 7 4) (v1 : Int32) (v2 : Int32) (v3 : Int32) (v4 : Int32) (v5 : Int32) (s : St) : VO G (RV G b_MD_chooses) (F_MD_chooses_14 v1 v2 v3 v4 v5 s) 14 [(0, .ref (gad G 58)), (1, .int v1), (2, .int v2), (3, .int v3), (4, .int v4), (5, .int v5)] [] s := by
  exact VO_fix (G_MD_chooses_14 v1 v2 v3) 14 (fun q => [(0, .ref (gad G 58)), (1, .int v1), (2, .int v2), (3, .int v3), (4, .int q.1), (5, .int q.2.1)]) (fun q => q.2.2) (fun K hK q => BH_MD_chooses_14 hC K (fun w4 w5 s => hK (w4, w5, s)) q.1 q.2.1 q.2.2) FUEL (v4, v5, s)
set_option maxRecDepth 20000 in
theorem B_MD_chooses {G : MCx} (hC : C0 G "AccusedChooseModel" b_MD_chooses 7 4) (a1 : Int32) (a2 : Int32) (s : St) : VO G (RV G b_MD_chooses) (F_MD_chooses a1 a2 s) 0 [(0, .ref (gad G 58)), (1, .int a1), (2, .int a2)] [] s := by
  unfold F_MD_chooses
  refine VO_aload hC d_MD_chooses_0 0 rfl ?_
  refine VO_getr (r := 67) hC fl_MD_34 sh_MD rfl d_MD_chooses_1 ?_
  refine VO_iload hC d_MD_chooses_4 1 rfl ?_
  refine VO_iaload hC ia_67 d_MD_chooses_5 (fun x1 => ?_)
  refine VO_istore hC d_MD_chooses_6 [(0, .ref (gad G 58)), (1, .int a1), (2, .int a2)] rfl (by decide) ?_
  refine VO_const hC d_MD_chooses_7 ?_
  refine VO_istore hC d_MD_chooses_9 [(3, .int x1), (0, .ref (gad G 58)), (1, .int a1), (2, .int a2)] rfl (by decide) ?_
  refine VO_const hC d_MD_chooses_11 ?_
  refine VO_istore hC d_MD_chooses_12 [(4, .int (-9 : Int32)), (3, .int x1), (0, .ref (gad G 58)), (1, .int a1), (2, .int a2)] rfl (by decide) ?_
  exact VO_sub [3, 4, 5, 2, 1, 0] rfl (B_MD_chooses_14 hC a1 a2 x1 (-9 : Int32) (0 : Int32) s)
set_option maxRecDepth 20000 in
theorem M_MD_chooses {l : Launch} {D : va_G} {ad : Nat → Nat} {cI cL : ClassId} (hj : Inj ad) {a1 : Int32} {a2 : Int32} {s : St} {o : St} (h : F_MD_chooses a1 a2 s = some o) : Cn l D ad cI cL y_MD_chooses b_MD_chooses 7 none 4 [.ref (ad 58), .int a1, .int a2] s none o := by
  refine Cn_ofV hj (plainFor_of_name (by decide)) (Nat.le_of_ble_eq_true rfl) [(0, .ref (ad 58)), (1, .int a1), (2, .int a2)] rfl (fun G hC e1 e2 e3 e4 e5 hR => ?_)
  subst e1; subst e2; subst e3; subst e4; subst e5
  exact B_MD_chooses hC a1 a2 s o h hR
theorem d_MD_findFromLast_0 : PLa b_MD_findFromLast 0 0 1 := Or.inl ⟨0, by decide +kernel, rfl, rfl⟩
theorem d_MD_findFromLast_1 : DR b_MD_findFromLast 1 (.getfield 90) 3 4 := ⟨by decide +kernel, rfl⟩
theorem d_MD_findFromLast_4 : PCi b_MD_findFromLast 4 1 5 := Or.inl ⟨1, by decide +kernel, by decide, rfl⟩
theorem d_MD_findFromLast_5 : DR b_MD_findFromLast 5 (.isub) 1 6 := ⟨by decide +kernel, rfl⟩
theorem d_MD_findFromLast_6 : PSi b_MD_findFromLast 6 1 7 := Or.inl ⟨1, by decide +kernel, rfl, rfl⟩
theorem d_MD_findFromLast_7 : PLi b_MD_findFromLast 7 1 8 := Or.inl ⟨1, by decide +kernel, rfl, rfl⟩
theorem d_MD_findFromLast_8 : DJ b_MD_findFromLast 8 (.ifCond .lt) 11 38 := ⟨30, by decide +kernel, rfl, by decide⟩
theorem d_MD_findFromLast_11 : PCi b_MD_findFromLast 11 0 12 := Or.inl ⟨0, by decide +kernel, by decide, rfl⟩
theorem d_MD_findFromLast_12 : PSi b_MD_findFromLast 12 2 13 := Or.inl ⟨2, by decide +kernel, rfl, rfl⟩
theorem d_MD_findFromLast_13 : PLi b_MD_findFromLast 13 2 14 := Or.inl ⟨2, by decide +kernel, rfl, rfl⟩
theorem d_MD_findFromLast_14 : PCi b_MD_findFromLast 14 128 17 := Or.inr (Or.inr ⟨128, by decide +kernel, by decide, rfl⟩)
theorem d_MD_findFromLast_17 : DJ b_MD_findFromLast 17 (.if_icmp .ge) 20 32 := ⟨15, by decide +kernel, rfl, by decide⟩
theorem d_MD_findFromLast_20 : PLa b_MD_findFromLast 20 0 21 := Or.inl ⟨0, by decide +kernel, rfl, rfl⟩
theorem d_MD_findFromLast_21 : PLi b_MD_findFromLast 21 1 22 := Or.inl ⟨1, by decide +kernel, rfl, rfl⟩
theorem d_MD_findFromLast_22 : PLi b_MD_findFromLast 22 2 23 := Or.inl ⟨2, by decide +kernel, rfl, rfl⟩
theorem d_MD_findFromLast_23 : DR b_MD_findFromLast 23 (.invokevirtual 236) 3 26 := ⟨by decide +kernel, rfl⟩
theorem d_MD_findFromLast_26 : DR b_MD_findFromLast 26 (.iinc 2 1) 3 29 := ⟨by decide +kernel, rfl⟩
theorem d_MD_findFromLast_29 : DJ b_MD_findFromLast 29 .goto 32 13 := ⟨-16, by decide +kernel, rfl, by decide⟩
theorem d_MD_findFromLast_32 : DR b_MD_findFromLast 32 (.iinc 1 (-1)) 3 35 := ⟨by decide +kernel, rfl⟩
theorem d_MD_findFromLast_35 : DJ b_MD_findFromLast 35 .goto 38 7 := ⟨-28, by decide +kernel, rfl, by decide⟩
theorem d_MD_findFromLast_38 : PCi b_MD_findFromLast 38 0 39 := Or.inl ⟨0, by decide +kernel, by decide, rfl⟩
theorem d_MD_findFromLast_39 : PSi b_MD_findFromLast 39 1 40 := Or.inl ⟨1, by decide +kernel, rfl, rfl⟩
theorem d_MD_findFromLast_40 : PCi b_MD_findFromLast 40 0 41 := Or.inl ⟨0, by decide +kernel, by decide, rfl⟩
theorem d_MD_findFromLast_41 : PSi b_MD_findFromLast 41 2 42 := Or.inl ⟨2, by decide +kernel, rfl, rfl⟩
theorem d_MD_findFromLast_42 : PLi b_MD_findFromLast 42 2 43 := Or.inl ⟨2, by decide +kernel, rfl, rfl⟩
theorem d_MD_findFromLast_43 : PLa b_MD_findFromLast 43 0 44 := Or.inl ⟨0, by decide +kernel, rfl, rfl⟩
theorem d_MD_findFromLast_44 : DR b_MD_findFromLast 44 (.getfield 90) 3 47 := ⟨by decide +kernel, rfl⟩
theorem d_MD_findFromLast_47 : DJ b_MD_findFromLast 47 (.if_icmp .ge) 50 113 := ⟨66, by decide +kernel, rfl, by decide⟩
theorem d_MD_findFromLast_50 : PLa b_MD_findFromLast 50 0 51 := Or.inl ⟨0, by decide +kernel, rfl, rfl⟩
theorem d_MD_findFromLast_51 : DR b_MD_findFromLast 51 (.getfield 56) 3 54 := ⟨by decide +kernel, rfl⟩
theorem d_MD_findFromLast_54 : PLa b_MD_findFromLast 54 0 55 := Or.inl ⟨0, by decide +kernel, rfl, rfl⟩
theorem d_MD_findFromLast_55 : DR b_MD_findFromLast 55 (.getfield 34) 3 58 := ⟨by decide +kernel, rfl⟩
theorem d_MD_findFromLast_58 : PLi b_MD_findFromLast 58 2 59 := Or.inl ⟨2, by decide +kernel, rfl, rfl⟩
theorem d_MD_findFromLast_59 : DR b_MD_findFromLast 59 (.iaload) 1 60 := ⟨by decide +kernel, rfl⟩
theorem d_MD_findFromLast_60 : PLa b_MD_findFromLast 60 0 61 := Or.inl ⟨0, by decide +kernel, rfl, rfl⟩
theorem d_MD_findFromLast_61 : DR b_MD_findFromLast 61 (.getfield 65) 3 64 := ⟨by decide +kernel, rfl⟩
theorem d_MD_findFromLast_64 : PCi b_MD_findFromLast 64 128 67 := Or.inr (Or.inr ⟨128, by decide +kernel, by decide, rfl⟩)
theorem d_MD_findFromLast_67 : PLi b_MD_findFromLast 67 2 68 := Or.inl ⟨2, by decide +kernel, rfl, rfl⟩
theorem d_MD_findFromLast_68 : DR b_MD_findFromLast 68 (.imul) 1 69 := ⟨by decide +kernel, rfl⟩
theorem d_MD_findFromLast_69 : PLi b_MD_findFromLast 69 1 70 := Or.inl ⟨1, by decide +kernel, rfl, rfl⟩
theorem d_MD_findFromLast_70 : DR b_MD_findFromLast 70 (.iadd) 1 71 := ⟨by decide +kernel, rfl⟩
theorem d_MD_findFromLast_71 : DR b_MD_findFromLast 71 (.iaload) 1 72 := ⟨by decide +kernel, rfl⟩
theorem d_MD_findFromLast_72 : DR b_MD_findFromLast 72 (.iastore) 1 73 := ⟨by decide +kernel, rfl⟩
theorem d_MD_findFromLast_73 : PLi b_MD_findFromLast 73 1 74 := Or.inl ⟨1, by decide +kernel, rfl, rfl⟩
theorem d_MD_findFromLast_74 : PLa b_MD_findFromLast 74 0 75 := Or.inl ⟨0, by decide +kernel, rfl, rfl⟩
theorem d_MD_findFromLast_75 : DR b_MD_findFromLast 75 (.getfield 56) 3 78 := ⟨by decide +kernel, rfl⟩
theorem d_MD_findFromLast_78 : PLa b_MD_findFromLast 78 0 79 := Or.inl ⟨0, by decide +kernel, rfl, rfl⟩
theorem d_MD_findFromLast_79 : DR b_MD_findFromLast 79 (.getfield 34) 3 82 := ⟨by decide +kernel, rfl⟩
theorem d_MD_findFromLast_82 : PLi b_MD_findFromLast 82 2 83 := Or.inl ⟨2, by decide +kernel, rfl, rfl⟩
theorem d_MD_findFromLast_83 : DR b_MD_findFromLast 83 (.iaload) 1 84 := ⟨by decide +kernel, rfl⟩
theorem d_MD_findFromLast_84 : DR b_MD_findFromLast 84 (.iaload) 1 85 := ⟨by decide +kernel, rfl⟩
theorem d_MD_findFromLast_85 : DJ b_MD_findFromLast 85 (.ifCond .ge) 88 92 := ⟨7, by decide +kernel, rfl, by decide⟩
theorem d_MD_findFromLast_88 : PCi b_MD_findFromLast 88 0 89 := Or.inl ⟨0, by decide +kernel, by decide, rfl⟩
theorem d_MD_findFromLast_89 : DJ b_MD_findFromLast 89 .goto 92 105 := ⟨16, by decide +kernel, rfl, by decide⟩
theorem d_MD_findFromLast_92 : PCi b_MD_findFromLast 92 1 93 := Or.inl ⟨1, by decide +kernel, by decide, rfl⟩
theorem d_MD_findFromLast_93 : PLa b_MD_findFromLast 93 0 94 := Or.inl ⟨0, by decide +kernel, rfl, rfl⟩
theorem d_MD_findFromLast_94 : DR b_MD_findFromLast 94 (.getfield 56) 3 97 := ⟨by decide +kernel, rfl⟩
theorem d_MD_findFromLast_97 : PLa b_MD_findFromLast 97 0 98 := Or.inl ⟨0, by decide +kernel, rfl, rfl⟩
theorem d_MD_findFromLast_98 : DR b_MD_findFromLast 98 (.getfield 34) 3 101 := ⟨by decide +kernel, rfl⟩
theorem d_MD_findFromLast_101 : PLi b_MD_findFromLast 101 2 102 := Or.inl ⟨2, by decide +kernel, rfl, rfl⟩
theorem d_MD_findFromLast_102 : DR b_MD_findFromLast 102 (.iaload) 1 103 := ⟨by decide +kernel, rfl⟩
theorem d_MD_findFromLast_103 : DR b_MD_findFromLast 103 (.iaload) 1 104 := ⟨by decide +kernel, rfl⟩
theorem d_MD_findFromLast_104 : DR b_MD_findFromLast 104 (.ishl) 1 105 := ⟨by decide +kernel, rfl⟩
theorem d_MD_findFromLast_105 : DR b_MD_findFromLast 105 (.ior) 1 106 := ⟨by decide +kernel, rfl⟩
theorem d_MD_findFromLast_106 : PSi b_MD_findFromLast 106 1 107 := Or.inl ⟨1, by decide +kernel, rfl, rfl⟩
theorem d_MD_findFromLast_107 : DR b_MD_findFromLast 107 (.iinc 2 1) 3 110 := ⟨by decide +kernel, rfl⟩
theorem d_MD_findFromLast_110 : DJ b_MD_findFromLast 110 .goto 113 42 := ⟨-68, by decide +kernel, rfl, by decide⟩
theorem d_MD_findFromLast_113 : DR b_MD_findFromLast 113 (.return_) 1 114 := ⟨by decide +kernel, rfl⟩
set_option maxRecDepth 20000 in
theorem B_MD_findFromLast_105 {G : MCx} (hC : C0 G "AccusedChooseModel" b_MD_findFromLast 3 5) (K42 : Int32 × Int32 × St → Option (St)) (hK42 : ∀ (w1 : Int32) (w2 : Int32) (s : St), VO G (RV G b_MD_findFromLast) (K42 (w1, w2, s)) 42 [(0, .ref (gad G 58)), (1, .int w1), (2, .int w2)] [] s) (v2 : Int32) (z0 : Int32) (z1 : Int32) (s : St) : VO G (RV G b_MD_findFromLast) (F_MD_findFromLast_105 K42 v2 z0 z1 s) 105 [(0, .ref (gad G 58)), (2, .int v2)] [.int z0, .int z1] s := by
  unfold F_MD_findFromLast_105
  refine VO_ior hC d_MD_findFromLast_105 ?_
  refine VO_istoreB hC d_MD_findFromLast_106 [(0, .ref (gad G 58)), (2, .int v2)] rfl (by decide) (fun x9 => ?_)
  refine VO_iinc hC d_MD_findFromLast_107 2 rfl (by decide : Int32.ofInt 1 = 1) [(1, .int x9), (0, .ref (gad G 58))] rfl (by decide) ?_
  refine VO_goto hC d_MD_findFromLast_110 ?_
  exact VO_sub [2, 1, 0] rfl (hK42 x9 (v2 + 1) s)
set_option maxRecDepth 20000 in
theorem BH_MD_findFromLast_42 {G : MCx} (hC : C0 G "AccusedChooseModel" b_MD_findFromLast 3 5) (K42 : Int32 × Int32 × St → Option (St)) (hK42 : ∀ (w1 : Int32) (w2 : Int32) (s : St), VO G (RV G b_MD_findFromLast) (K42 (w1, w2, s)) 42 [(0, .ref (gad G 58)), (1, .int w1), (2, .int w2)] [] s) (v1 : Int32) (v2 : Int32) (s : St) : VO G (RV G b_MD_findFromLast) (H_MD_findFromLast_42 K42 v1 v2 s) 42 [(0, .ref (gad G 58)), (1, .int v1), (2, .int v2)] [] s := by
  unfold H_MD_findFromLast_42
  refine VO_iload hC d_MD_findFromLast_42 2 rfl ?_
  refine VO_aload hC d_MD_findFromLast_43 0 rfl ?_
  refine VO_geti hC fl_MD_90 sh_MD rfl d_MD_findFromLast_44 ?_
  refine VO_icmp_ge hC d_MD_findFromLast_47 (fun _ => ?_) (fun _ => ?_)
  · exact VO_return d_MD_findFromLast_113
  · refine VO_aload hC d_MD_findFromLast_50 0 rfl ?_
    refine VO_getr (r := 73) hC fl_MD_56 sh_MD rfl d_MD_findFromLast_51 ?_
    refine VO_aload hC d_MD_findFromLast_54 0 rfl ?_
    refine VO_getr (r := 67) hC fl_MD_34 sh_MD rfl d_MD_findFromLast_55 ?_
    refine VO_iload hC d_MD_findFromLast_58 2 rfl ?_
    refine VO_iaload hC ia_67 d_MD_findFromLast_59 (fun x2 => ?_)
    refine VO_aload hC d_MD_findFromLast_60 0 rfl ?_
    refine VO_getr (r := 76) hC fl_MD_65 sh_MD rfl d_MD_findFromLast_61 ?_
    refine VO_const hC d_MD_findFromLast_64 ?_
    refine VO_iload hC d_MD_findFromLast_67 2 rfl ?_
    refine VO_imul hC d_MD_findFromLast_68 ?_
    refine VO_iload hC d_MD_findFromLast_69 1 rfl ?_
    refine VO_iadd hC d_MD_findFromLast_70 ?_
    refine VO_iaload hC ia_76 d_MD_findFromLast_71 (fun x3 => ?_)
    refine VO_iastore hC ia_73 d_MD_findFromLast_72 (fun s4 => ?_)
    refine VO_iload hC d_MD_findFromLast_73 1 rfl ?_
    refine VO_aload hC d_MD_findFromLast_74 0 rfl ?_
    refine VO_getr (r := 73) hC fl_MD_56 sh_MD rfl d_MD_findFromLast_75 ?_
    refine VO_aload hC d_MD_findFromLast_78 0 rfl ?_
    refine VO_getr (r := 67) hC fl_MD_34 sh_MD rfl d_MD_findFromLast_79 ?_
    refine VO_iload hC d_MD_findFromLast_82 2 rfl ?_
    refine VO_iaload hC ia_67 d_MD_findFromLast_83 (fun x5 => ?_)
    refine VO_iaload hC ia_73 d_MD_findFromLast_84 (fun x6 => ?_)
    refine VO_if_ge hC d_MD_findFromLast_85 (fun _ => ?_) (fun _ => ?_)
    · refine VO_const hC d_MD_findFromLast_92 ?_
      refine VO_aload hC d_MD_findFromLast_93 0 rfl ?_
      refine VO_getr (r := 73) hC fl_MD_56 sh_MD rfl d_MD_findFromLast_94 ?_
      refine VO_aload hC d_MD_findFromLast_97 0 rfl ?_
      refine VO_getr (r := 67) hC fl_MD_34 sh_MD rfl d_MD_findFromLast_98 ?_
      refine VO_iload hC d_MD_findFromLast_101 2 rfl ?_
      refine VO_iaload hC ia_67 d_MD_findFromLast_102 (fun x7 => ?_)
      refine VO_iaload hC ia_73 d_MD_findFromLast_103 (fun x8 => ?_)
      refine VO_ishl hC d_MD_findFromLast_104 ?_
      exact VO_sub [0, 2] rfl (B_MD_findFromLast_105 hC K42 hK42 v2 ((1 : Int32) <<< (x8 &&& 31)) v1 s4)
    · refine VO_const hC d_MD_findFromLast_88 ?_
      refine VO_goto hC d_MD_findFromLast_89 ?_
      exact VO_sub [0, 2] rfl (B_MD_findFromLast_105 hC K42 hK42 v2 (0 : Int32) v1 s4)
set_option maxRecDepth 20000 in
theorem B_MD_findFromLast_42 {G : MCx} (hC : C0 G "AccusedChooseModel" b_MD_findFromLast 3 5) (v1 : Int32) (v2 : Int32) (s : St) : VO G (RV G b_MD_findFromLast) (F_MD_findFromLast_42 v1 v2 s) 42 [(0, .ref (gad G 58)), (1, .int v1), (2, .int v2)] [] s := by
  exact VO_fix (G_MD_findFromLast_42) 42 (fun q => [(0, .ref (gad G 58)), (1, .int q.1), (2, .int q.2.1)]) (fun q => q.2.2) (fun K hK q => BH_MD_findFromLast_42 hC K (fun w1 w2 s => hK (w1, w2, s)) q.1 q.2.1 q.2.2) FUEL (v1, v2, s)
set_option maxRecDepth 20000 in
theorem BH_MD_findFromLast_13 {G : MCx} (hC : C0 G "AccusedChooseModel" b_MD_findFromLast 3 5) {v1 : Int32} (K7 : Int32 × St → Option (St)) (hK7 : ∀ (w1 : Int32) (s : St), VO G (RV G b_MD_findFromLast) (K7 (w1, s)) 7 [(0, .ref (gad G 58)), (1, .int w1)] [] s) (K13 : Int32 × St → Option (St)) (hK13 : ∀ (w2 : Int32) (s : St), VO G (RV G b_MD_findFromLast) (K13 (w2, s)) 13 [(0, .ref (gad G 58)), (1, .int v1), (2, .int w2)] [] s) (v2 : Int32) (s : St) : VO G (RV G b_MD_findFromLast) (H_MD_findFromLast_13 K7 v1 K13 v2 s) 13 [(0, .ref (gad G 58)), (1, .int v1), (2, .int v2)] [] s := by
  unfold H_MD_findFromLast_13
  refine VO_iload hC d_MD_findFromLast_13 2 rfl ?_
  refine VO_const hC d_MD_findFromLast_14 ?_
  refine VO_icmp_ge hC d_MD_findFromLast_17 (fun _ => ?_) (fun _ => ?_)
  · refine VO_iincN hC d_MD_findFromLast_32 1 rfl (by decide : Int32.ofInt (-1) = -1) [(0, .ref (gad G 58)), (2, .int v2)] rfl (by decide) ?_
    refine VO_goto hC d_MD_findFromLast_35 ?_
    exact VO_sub [1, 0] rfl (hK7 (v1 - 1) s)
  · refine VO_aload hC d_MD_findFromLast_20 0 rfl ?_
    refine VO_iload hC d_MD_findFromLast_21 1 rfl ?_
    refine VO_iload hC d_MD_findFromLast_22 2 rfl ?_
    refine VO_callVV hC [.int v1, .int v2] [] ml_MD_236 d_MD_findFromLast_23 yv_MD_chooses sh_MD rfl rfl (fun o h => M_MD_chooses hC.inj h) (by decide) rfl rfl (Nat.le_of_ble_eq_true rfl) (fun s10 => ?_)
    refine VO_iinc hC d_MD_findFromLast_26 2 rfl (by decide : Int32.ofInt 1 = 1) [(0, .ref (gad G 58)), (1, .int v1)] rfl (by decide) ?_
    refine VO_goto hC d_MD_findFromLast_29 ?_
    exact VO_sub [1, 2, 0] rfl (hK13 (v2 + 1) s10)
set_option maxRecDepth 20000 in
theorem B_MD_findFromLast_13 {G : MCx} (hC : C0 G "AccusedChooseModel" b_MD_findFromLast 3 5) (K7 : Int32 × St → Option (St)) (hK7 : ∀ (w1 : Int32) (s : St), VO G (RV G b_MD_findFromLast) (K7 (w1, s)) 7 [(0, .ref (gad G 58)), (1, .int w1)] [] s) (v1 : Int32) (v2 : Int32) (s : St) : VO G (RV G b_MD_findFromLast) (F_MD_findFromLast_13 K7 v1 v2 s) 13 [(0, .ref (gad G 58)), (1, .int v1), (2, .int v2)] [] s := by
  exact VO_fix (G_MD_findFromLast_13 K7 v1) 13 (fun q => [(0, .ref (gad G 58)), (1, .int v1), (2, .int q.1)]) (fun q => q.2) (fun K hK q => BH_MD_findFromLast_13 hC K7 hK7 K (fun w2 s => hK (w2, s)) q.1 q.2) FUEL (v2, s)
set_option maxRecDepth 20000 in
theorem BH_MD_findFromLast_7 {G : MCx} (hC : C0 G "AccusedChooseModel" b_MD_findFromLast 3 5) (K7 : Int32 × St → Option (St)) (hK7 : ∀ (w1 : Int32) (s : St), VO G (RV G b_MD_findFromLast) (K7 (w1, s)) 7 [(0, .ref (gad G 58)), (1, .int w1)] [] s) (v1 : Int32) (s : St) : VO G (RV G b_MD_findFromLast) (H_MD_findFromLast_7 K7 v1 s) 7 [(0, .ref (gad G 58)), (1, .int v1)] [] s := by
  unfold H_MD_findFromLast_7
  refine VO_iload hC d_MD_findFromLast_7 1 rfl ?_
  refine VO_if_lt hC d_MD_findFromLast_8 (fun _ => ?_) (fun _ => ?_)
  · refine VO_const hC d_MD_findFromLast_38 ?_
    refine VO_istore hC d_MD_findFromLast_39 [(0, .ref (gad G 58))] rfl (by decide) ?_
    refine VO_const hC d_MD_findFromLast_40 ?_
    refine VO_istore hC d_MD_findFromLast_41 [(1, .int (0 : Int32)), (0, .ref (gad G 58))] rfl (by decide) ?_
    exact VO_sub [2, 1, 0] rfl (B_MD_findFromLast_42 hC (0 : Int32) (0 : Int32) s)
  · refine VO_const hC d_MD_findFromLast_11 ?_
    refine VO_istore hC d_MD_findFromLast_12 [(0, .ref (gad G 58)), (1, .int v1)] rfl (by decide) ?_
    exact VO_sub [1, 2, 0] rfl (B_MD_findFromLast_13 hC K7 hK7 v1 (0 : Int32) s)
set_option maxRecDepth 20000 in
theorem B_MD_findFromLast_7 {G : MCx} (hC : C0 G "AccusedChooseModel" b_MD_findFromLast 3 5) (v1 : Int32) (s : St) : VO G (RV G b_MD_findFromLast) (F_MD_findFromLast_7 v1 s) 7 [(0, .ref (gad G 58)), (1, .int v1)] [] s := by
  exact VO_fix (G_MD_findFromLast_7) 7 (fun q => [(0, .ref (gad G 58)), (1, .int q.1)]) (fun q => q.2) (fun K hK q => BH_MD_findFromLast_7 hC K (fun w1 s => hK (w1, s)) q.1 q.2) FUEL (v1, s)
set_option maxRecDepth 20000 in
theorem B_MD_findFromLast {G : MCx} (hC : C0 G "AccusedChooseModel" b_MD_findFromLast 3 5) (s : St) : VO G (RV G b_MD_findFromLast) (F_MD_findFromLast s) 0 [(0, .ref (gad G 58))] [] s := by
  unfold F_MD_findFromLast
  refine VO_aload hC d_MD_findFromLast_0 0 rfl ?_
  refine VO_geti hC fl_MD_90 sh_MD rfl d_MD_findFromLast_1 ?_
  refine VO_const hC d_MD_findFromLast_4 ?_
  refine VO_isub hC d_MD_findFromLast_5 ?_
  refine VO_istoreB hC d_MD_findFromLast_6 [(0, .ref (gad G 58))] rfl (by decide) (fun x1 => ?_)
  exact VO_sub [1, 0] rfl (B_MD_findFromLast_7 hC x1 s)
set_option maxRecDepth 20000 in
theorem M_MD_findFromLast {l : Launch} {D : va_G} {ad : Nat → Nat} {cI cL : ClassId} (hj : Inj ad) {s : St} {o : St} (h : F_MD_findFromLast s = some o) : Cn l D ad cI cL y_MD_findFromLast b_MD_findFromLast 3 none 5 [.ref (ad 58)] s none o := by
  refine Cn_ofV hj (plainFor_of_name (by decide)) (Nat.le_of_ble_eq_true rfl) [(0, .ref (ad 58))] rfl (fun G hC e1 e2 e3 e4 e5 hR => ?_)
  subst e1; subst e2; subst e3; subst e4; subst e5
  exact B_MD_findFromLast hC s o h hR
theorem d_MD_fromLast_0 : PLa b_MD_fromLast 0 0 1 := Or.inl ⟨0, by decide +kernel, rfl, rfl⟩
theorem d_MD_fromLast_1 : PLi b_MD_fromLast 1 1 2 := Or.inl ⟨1, by decide +kernel, rfl, rfl⟩
theorem d_MD_fromLast_2 : DR b_MD_fromLast 2 (.invokevirtual 93) 3 5 := ⟨by decide +kernel, rfl⟩
theorem d_MD_fromLast_5 : DJ b_MD_fromLast 5 (.ifCond .ne) 8 12 := ⟨7, by decide +kernel, rfl, by decide⟩
theorem d_MD_fromLast_8 : PCi b_MD_fromLast 8 (-1) 9 := Or.inl ⟨(-1), by decide +kernel, by decide, rfl⟩
theorem d_MD_fromLast_9 : DJ b_MD_fromLast 9 .goto 12 27 := ⟨18, by decide +kernel, rfl, by decide⟩
theorem d_MD_fromLast_12 : PLi b_MD_fromLast 12 2 13 := Or.inl ⟨2, by decide +kernel, rfl, rfl⟩
theorem d_MD_fromLast_13 : PCi b_MD_fromLast 13 0 14 := Or.inl ⟨0, by decide +kernel, by decide, rfl⟩
theorem d_MD_fromLast_14 : PCi b_MD_fromLast 14 1 15 := Or.inl ⟨1, by decide +kernel, by decide, rfl⟩
theorem d_MD_fromLast_15 : DR b_MD_fromLast 15 (.invokestatic 115) 3 18 := ⟨by decide +kernel, rfl⟩
theorem d_MD_fromLast_18 : DJ b_MD_fromLast 18 (.ifCond .ne) 21 26 := ⟨8, by decide +kernel, rfl, by decide⟩
theorem d_MD_fromLast_21 : PCi b_MD_fromLast 21 (-2) 23 := Or.inr (Or.inl ⟨(-2), by decide +kernel, by decide, rfl⟩)
theorem d_MD_fromLast_23 : DJ b_MD_fromLast 23 .goto 26 27 := ⟨4, by decide +kernel, rfl, by decide⟩
theorem d_MD_fromLast_26 : PCi b_MD_fromLast 26 0 27 := Or.inl ⟨0, by decide +kernel, by decide, rfl⟩
theorem d_MD_fromLast_27 : PSi b_MD_fromLast 27 3 28 := Or.inl ⟨3, by decide +kernel, rfl, rfl⟩
theorem d_MD_fromLast_28 : PLi b_MD_fromLast 28 3 29 := Or.inl ⟨3, by decide +kernel, rfl, rfl⟩
theorem d_MD_fromLast_29 : DJ b_MD_fromLast 29 (.ifCond .eq) 32 38 := ⟨9, by decide +kernel, rfl, by decide⟩
theorem d_MD_fromLast_32 : PLa b_MD_fromLast 32 0 33 := Or.inl ⟨0, by decide +kernel, rfl, rfl⟩
theorem d_MD_fromLast_33 : PLi b_MD_fromLast 33 3 34 := Or.inl ⟨3, by decide +kernel, rfl, rfl⟩
theorem d_MD_fromLast_34 : DR b_MD_fromLast 34 (.invokevirtual 104) 3 37 := ⟨by decide +kernel, rfl⟩
theorem d_MD_fromLast_37 : DR b_MD_fromLast 37 (.ireturn) 1 38 := ⟨by decide +kernel, rfl⟩
theorem d_MD_fromLast_38 : PLa b_MD_fromLast 38 0 39 := Or.inl ⟨0, by decide +kernel, rfl, rfl⟩
theorem d_MD_fromLast_39 : DR b_MD_fromLast 39 (.invokevirtual 239) 3 42 := ⟨by decide +kernel, rfl⟩
theorem d_MD_fromLast_42 : PLi b_MD_fromLast 42 2 43 := Or.inl ⟨2, by decide +kernel, rfl, rfl⟩
theorem d_MD_fromLast_43 : DJ b_MD_fromLast 43 (.ifCond .ne) 46 55 := ⟨12, by decide +kernel, rfl, by decide⟩
theorem d_MD_fromLast_46 : PLa b_MD_fromLast 46 0 47 := Or.inl ⟨0, by decide +kernel, rfl, rfl⟩
theorem d_MD_fromLast_47 : DR b_MD_fromLast 47 (.getfield 56) 3 50 := ⟨by decide +kernel, rfl⟩
theorem d_MD_fromLast_50 : PLi b_MD_fromLast 50 1 51 := Or.inl ⟨1, by decide +kernel, rfl, rfl⟩
theorem d_MD_fromLast_51 : DR b_MD_fromLast 51 (.iaload) 1 52 := ⟨by decide +kernel, rfl⟩
theorem d_MD_fromLast_52 : DJ b_MD_fromLast 52 .goto 55 60 := ⟨8, by decide +kernel, rfl, by decide⟩
theorem d_MD_fromLast_55 : PLa b_MD_fromLast 55 0 56 := Or.inl ⟨0, by decide +kernel, rfl, rfl⟩
theorem d_MD_fromLast_56 : PLi b_MD_fromLast 56 1 57 := Or.inl ⟨1, by decide +kernel, rfl, rfl⟩
theorem d_MD_fromLast_57 : DR b_MD_fromLast 57 (.invokevirtual 212) 3 60 := ⟨by decide +kernel, rfl⟩
theorem d_MD_fromLast_60 : DR b_MD_fromLast 60 (.ireturn) 1 61 := ⟨by decide +kernel, rfl⟩
set_option maxRecDepth 20000 in
theorem B_MD_fromLast_27 {G : MCx} (hC : C0 G "AccusedChooseModel" b_MD_fromLast 4 6) (v1 : Int32) (v2 : Int32) (z0 : Int32) (s : St) : VO G (RI G b_MD_fromLast) (F_MD_fromLast_27 v1 v2 z0 s) 27 [(0, .ref (gad G 58)), (1, .int v1), (2, .int v2)] [.int z0] s := by
  unfold F_MD_fromLast_27
  refine VO_istore hC d_MD_fromLast_27 [(0, .ref (gad G 58)), (1, .int v1), (2, .int v2)] rfl (by decide) ?_
  refine VO_iload hC d_MD_fromLast_28 0 rfl ?_
  refine VO_if_eq hC d_MD_fromLast_29 (fun _ => ?_) (fun _ => ?_)
  · refine VO_aload hC d_MD_fromLast_38 1 rfl ?_
    refine VO_callVV hC [] [] ml_MD_239 d_MD_fromLast_39 yv_MD_findFromLast sh_MD rfl rfl (fun o h => M_MD_findFromLast hC.inj h) (by decide) rfl rfl (Nat.le_of_ble_eq_true rfl) (fun s3 => ?_)
    refine VO_iload hC d_MD_fromLast_42 3 rfl ?_
    refine VO_if_ne hC d_MD_fromLast_43 (fun _ => ?_) (fun _ => ?_)
    · refine VO_aload hC d_MD_fromLast_46 1 rfl ?_
      refine VO_getr (r := 73) hC fl_MD_56 sh_MD rfl d_MD_fromLast_47 ?_
      refine VO_iload hC d_MD_fromLast_50 2 rfl ?_
      refine VO_iaload hC ia_73 d_MD_fromLast_51 (fun x5 => ?_)
      refine VO_goto hC d_MD_fromLast_52 ?_
      exact VO_ireturn d_MD_fromLast_60
    · refine VO_aload hC d_MD_fromLast_55 1 rfl ?_
      refine VO_iload hC d_MD_fromLast_56 2 rfl ?_
      refine VO_callVI hC [.int v1] [] ml_MD_212 d_MD_fromLast_57 yv_MD_hasMonths sh_MD rfl rfl (fun o h => M_MD_hasMonths hC.inj h) (by decide) rfl rfl (Nat.le_of_ble_eq_true rfl) (fun o4 => ?_)
      exact VO_ireturn d_MD_fromLast_60
  · refine VO_aload hC d_MD_fromLast_32 1 rfl ?_
    refine VO_iload hC d_MD_fromLast_33 0 rfl ?_
    refine VO_callVI hC [.int z0] [] ml_MD_104 d_MD_fromLast_34 yv_MD_no sh_MD rfl rfl (fun o h => M_MD_no hC.inj h) (by decide) rfl rfl (Nat.le_of_ble_eq_true rfl) (fun o6 => ?_)
    exact VO_ireturn d_MD_fromLast_37
set_option maxRecDepth 20000 in
theorem B_MD_fromLast {G : MCx} (hC : C0 G "AccusedChooseModel" b_MD_fromLast 4 6) (a1 : Int32) (a2 : Int32) (s : St) : VO G (RI G b_MD_fromLast) (F_MD_fromLast a1 a2 s) 0 [(0, .ref (gad G 58)), (1, .int a1), (2, .int a2)] [] s := by
  unfold F_MD_fromLast
  refine VO_aload hC d_MD_fromLast_0 0 rfl ?_
  refine VO_iload hC d_MD_fromLast_1 1 rfl ?_
  refine VO_callVI hC [.int a1] [] ml_MD_93 d_MD_fromLast_2 yv_MD_isPerson sh_MD rfl rfl (fun o h => M_MD_isPerson hC.inj h) (by decide) rfl rfl (Nat.le_of_ble_eq_true rfl) (fun o1 => ?_)
  refine VO_if_ne hC d_MD_fromLast_5 (fun _ => ?_) (fun _ => ?_)
  · refine VO_const hC d_MD_fromLast_8 ?_
    refine VO_goto hC d_MD_fromLast_9 ?_
    exact (B_MD_fromLast_27 hC a1 a2 (-1 : Int32) o1.2)
  · refine VO_iload hC d_MD_fromLast_12 2 rfl ?_
    refine VO_const hC d_MD_fromLast_13 ?_
    refine VO_const hC d_MD_fromLast_14 ?_
    refine VO_callSI hC [.int a2, .int (0 : Int32), .int (1 : Int32)] [] ml_MD_115 d_MD_fromLast_15 ys_MD_isIn (fun o h => M_MD_isIn hC.inj h) (by decide) rfl rfl (Nat.le_of_ble_eq_true rfl) (fun o2 => ?_)
    refine VO_if_ne hC d_MD_fromLast_18 (fun _ => ?_) (fun _ => ?_)
    · refine VO_const hC d_MD_fromLast_21 ?_
      refine VO_goto hC d_MD_fromLast_23 ?_
      exact (B_MD_fromLast_27 hC a1 a2 (-2 : Int32) o2.2)
    · refine VO_const hC d_MD_fromLast_26 ?_
      exact (B_MD_fromLast_27 hC a1 a2 (0 : Int32) o2.2)
set_option maxRecDepth 20000 in
theorem M_MD_fromLast {l : Launch} {D : va_G} {ad : Nat → Nat} {cI cL : ClassId} (hj : Inj ad) {a1 : Int32} {a2 : Int32} {s : St} {o : Int32 × St} (h : F_MD_fromLast a1 a2 s = some o) : Cn l D ad cI cL y_MD_fromLast b_MD_fromLast 4 (some .int) 6 [.ref (ad 58), .int a1, .int a2] s (some (.int o.1)) o.2 := by
  refine Cn_ofI hj (plainFor_of_name (by decide)) (Nat.le_of_ble_eq_true rfl) [(0, .ref (ad 58)), (1, .int a1), (2, .int a2)] rfl (fun G hC e1 e2 e3 e4 e5 hR => ?_)
  subst e1; subst e2; subst e3; subst e4; subst e5
  exact B_MD_fromLast hC a1 a2 s o h hR
theorem d_MD_allFromLast_0 : PLa b_MD_allFromLast 0 0 1 := Or.inl ⟨0, by decide +kernel, rfl, rfl⟩
theorem d_MD_allFromLast_1 : DR b_MD_allFromLast 1 (.invokevirtual 239) 3 4 := ⟨by decide +kernel, rfl⟩
theorem d_MD_allFromLast_4 : PLa b_MD_allFromLast 4 0 5 := Or.inl ⟨0, by decide +kernel, rfl, rfl⟩
theorem d_MD_allFromLast_5 : DR b_MD_allFromLast 5 (.invokevirtual 218) 3 8 := ⟨by decide +kernel, rfl⟩
theorem d_MD_allFromLast_8 : DR b_MD_allFromLast 8 (.ireturn) 1 9 := ⟨by decide +kernel, rfl⟩
set_option maxRecDepth 20000 in
theorem B_MD_allFromLast {G : MCx} (hC : C0 G "AccusedChooseModel" b_MD_allFromLast 1 6) (s : St) : VO G (RI G b_MD_allFromLast) (F_MD_allFromLast s) 0 [(0, .ref (gad G 58))] [] s := by
  unfold F_MD_allFromLast
  refine VO_aload hC d_MD_allFromLast_0 0 rfl ?_
  refine VO_callVV hC [] [] ml_MD_239 d_MD_allFromLast_1 yv_MD_findFromLast sh_MD rfl rfl (fun o h => M_MD_findFromLast hC.inj h) (by decide) rfl rfl (Nat.le_of_ble_eq_true rfl) (fun s1 => ?_)
  refine VO_aload hC d_MD_allFromLast_4 0 rfl ?_
  refine VO_callVI hC [] [] ml_MD_218 d_MD_allFromLast_5 yv_MD_allMonths sh_MD rfl rfl (fun o h => M_MD_allMonths hC.inj h) (by decide) rfl rfl (Nat.le_of_ble_eq_true rfl) (fun o2 => ?_)
  exact VO_ireturn d_MD_allFromLast_8
set_option maxRecDepth 20000 in
theorem M_MD_allFromLast {l : Launch} {D : va_G} {ad : Nat → Nat} {cI cL : ClassId} (hj : Inj ad) {s : St} {o : Int32 × St} (h : F_MD_allFromLast s = some o) : Cn l D ad cI cL y_MD_allFromLast b_MD_allFromLast 1 (some .int) 6 [.ref (ad 58)] s (some (.int o.1)) o.2 := by
  refine Cn_ofI hj (plainFor_of_name (by decide)) (Nat.le_of_ble_eq_true rfl) [(0, .ref (ad 58))] rfl (fun G hC e1 e2 e3 e4 e5 hR => ?_)
  subst e1; subst e2; subst e3; subst e4; subst e5
  exact B_MD_allFromLast hC s o h hR
theorem d_MD_canHaveDone_0 : PLa b_MD_canHaveDone 0 0 1 := Or.inl ⟨0, by decide +kernel, rfl, rfl⟩
theorem d_MD_canHaveDone_1 : DR b_MD_canHaveDone 1 (.getfield 25) 3 4 := ⟨by decide +kernel, rfl⟩
theorem d_MD_canHaveDone_4 : PLi b_MD_canHaveDone 4 1 5 := Or.inl ⟨1, by decide +kernel, rfl, rfl⟩
theorem d_MD_canHaveDone_5 : DR b_MD_canHaveDone 5 (.iaload) 1 6 := ⟨by decide +kernel, rfl⟩
theorem d_MD_canHaveDone_6 : PCi b_MD_canHaveDone 6 7 8 := Or.inr (Or.inl ⟨7, by decide +kernel, by decide, rfl⟩)
theorem d_MD_canHaveDone_8 : DJ b_MD_canHaveDone 8 (.if_icmp .eq) 11 34 := ⟨26, by decide +kernel, rfl, by decide⟩
theorem d_MD_canHaveDone_11 : PLa b_MD_canHaveDone 11 0 12 := Or.inl ⟨0, by decide +kernel, rfl, rfl⟩
theorem d_MD_canHaveDone_12 : DR b_MD_canHaveDone 12 (.getfield 25) 3 15 := ⟨by decide +kernel, rfl⟩
theorem d_MD_canHaveDone_15 : PLi b_MD_canHaveDone 15 1 16 := Or.inl ⟨1, by decide +kernel, rfl, rfl⟩
theorem d_MD_canHaveDone_16 : DR b_MD_canHaveDone 16 (.iaload) 1 17 := ⟨by decide +kernel, rfl⟩
theorem d_MD_canHaveDone_17 : PLa b_MD_canHaveDone 17 0 18 := Or.inl ⟨0, by decide +kernel, rfl, rfl⟩
theorem d_MD_canHaveDone_18 : DR b_MD_canHaveDone 18 (.getfield 84) 3 21 := ⟨by decide +kernel, rfl⟩
theorem d_MD_canHaveDone_21 : DJ b_MD_canHaveDone 21 (.if_icmp .ge) 24 36 := ⟨15, by decide +kernel, rfl, by decide⟩
theorem d_MD_canHaveDone_24 : PLa b_MD_canHaveDone 24 0 25 := Or.inl ⟨0, by decide +kernel, rfl, rfl⟩
theorem d_MD_canHaveDone_25 : DR b_MD_canHaveDone 25 (.getfield 25) 3 28 := ⟨by decide +kernel, rfl⟩
theorem d_MD_canHaveDone_28 : PLi b_MD_canHaveDone 28 1 29 := Or.inl ⟨1, by decide +kernel, rfl, rfl⟩
theorem d_MD_canHaveDone_29 : DR b_MD_canHaveDone 29 (.iaload) 1 30 := ⟨by decide +kernel, rfl⟩
theorem d_MD_canHaveDone_30 : PLi b_MD_canHaveDone 30 2 31 := Or.inl ⟨2, by decide +kernel, rfl, rfl⟩
theorem d_MD_canHaveDone_31 : DJ b_MD_canHaveDone 31 (.if_icmp .eq) 34 36 := ⟨5, by decide +kernel, rfl, by decide⟩
theorem d_MD_canHaveDone_34 : PCi b_MD_canHaveDone 34 0 35 := Or.inl ⟨0, by decide +kernel, by decide, rfl⟩
theorem d_MD_canHaveDone_35 : DR b_MD_canHaveDone 35 (.ireturn) 1 36 := ⟨by decide +kernel, rfl⟩
theorem d_MD_canHaveDone_36 : PLa b_MD_canHaveDone 36 0 37 := Or.inl ⟨0, by decide +kernel, rfl, rfl⟩
theorem d_MD_canHaveDone_37 : PLi b_MD_canHaveDone 37 1 38 := Or.inl ⟨1, by decide +kernel, rfl, rfl⟩
theorem d_MD_canHaveDone_38 : PLi b_MD_canHaveDone 38 2 39 := Or.inl ⟨2, by decide +kernel, rfl, rfl⟩
theorem d_MD_canHaveDone_39 : DR b_MD_canHaveDone 39 (.invokevirtual 191) 3 42 := ⟨by decide +kernel, rfl⟩
theorem d_MD_canHaveDone_42 : DR b_MD_canHaveDone 42 (.ireturn) 1 43 := ⟨by decide +kernel, rfl⟩
set_option maxRecDepth 20000 in
theorem B_MD_canHaveDone_36 {G : MCx} (hC : C0 G "AccusedChooseModel" b_MD_canHaveDone 3 3) (v1 : Int32) (v2 : Int32) (s : St) : VO G (RZ G b_MD_canHaveDone) (F_MD_canHaveDone_36 v1 v2 s) 36 [(0, .ref (gad G 58)), (1, .int v1), (2, .int v2)] [] s := by
  unfold F_MD_canHaveDone_36
  refine VO_aload hC d_MD_canHaveDone_36 0 rfl ?_
  refine VO_iload hC d_MD_canHaveDone_37 1 rfl ?_
  refine VO_iload hC d_MD_canHaveDone_38 2 rfl ?_
  refine VO_callVI hC [.int v1, .int v2] [] ml_MD_191 d_MD_canHaveDone_39 yv_MD_may sh_MD rfl rfl (fun o h => M_MD_may hC.inj h) (by decide) rfl rfl (Nat.le_of_ble_eq_true rfl) (fun o3 => ?_)
  exact VO_zreturn d_MD_canHaveDone_42
set_option maxRecDepth 20000 in
theorem B_MD_canHaveDone {G : MCx} (hC : C0 G "AccusedChooseModel" b_MD_canHaveDone 3 3) (a1 : Int32) (a2 : Int32) (s : St) : VO G (RZ G b_MD_canHaveDone) (F_MD_canHaveDone a1 a2 s) 0 [(0, .ref (gad G 58)), (1, .int a1), (2, .int a2)] [] s := by
  unfold F_MD_canHaveDone
  refine VO_aload hC d_MD_canHaveDone_0 0 rfl ?_
  refine VO_getr (r := 64) hC fl_MD_25 sh_MD rfl d_MD_canHaveDone_1 ?_
  refine VO_iload hC d_MD_canHaveDone_4 1 rfl ?_
  refine VO_iaload hC ia_64 d_MD_canHaveDone_5 (fun x1 => ?_)
  refine VO_const hC d_MD_canHaveDone_6 ?_
  refine VO_icmp_eq hC d_MD_canHaveDone_8 (fun _ => ?_) (fun _ => ?_)
  · refine VO_const hC d_MD_canHaveDone_34 ?_
    exact VO_z0 d_MD_canHaveDone_35
  · refine VO_aload hC d_MD_canHaveDone_11 0 rfl ?_
    refine VO_getr (r := 64) hC fl_MD_25 sh_MD rfl d_MD_canHaveDone_12 ?_
    refine VO_iload hC d_MD_canHaveDone_15 1 rfl ?_
    refine VO_iaload hC ia_64 d_MD_canHaveDone_16 (fun x2 => ?_)
    refine VO_aload hC d_MD_canHaveDone_17 0 rfl ?_
    refine VO_geti hC fl_MD_84 sh_MD rfl d_MD_canHaveDone_18 ?_
    refine VO_icmp_ge hC d_MD_canHaveDone_21 (fun _ => ?_) (fun _ => ?_)
    · exact (B_MD_canHaveDone_36 hC a1 a2 s)
    · refine VO_aload hC d_MD_canHaveDone_24 0 rfl ?_
      refine VO_getr (r := 64) hC fl_MD_25 sh_MD rfl d_MD_canHaveDone_25 ?_
      refine VO_iload hC d_MD_canHaveDone_28 1 rfl ?_
      refine VO_iaload hC ia_64 d_MD_canHaveDone_29 (fun x4 => ?_)
      refine VO_iload hC d_MD_canHaveDone_30 2 rfl ?_
      refine VO_icmp_eq hC d_MD_canHaveDone_31 (fun _ => ?_) (fun _ => ?_)
      · exact (B_MD_canHaveDone_36 hC a1 a2 s)
      · refine VO_const hC d_MD_canHaveDone_34 ?_
        exact VO_z0 d_MD_canHaveDone_35
set_option maxRecDepth 20000 in
theorem M_MD_canHaveDone {l : Launch} {D : va_G} {ad : Nat → Nat} {cI cL : ClassId} (hj : Inj ad) {a1 : Int32} {a2 : Int32} {s : St} {o : Int32 × St} (h : F_MD_canHaveDone a1 a2 s = some o) : Cn l D ad cI cL y_MD_canHaveDone b_MD_canHaveDone 3 (some .boolean) 3 [.ref (ad 58), .int a1, .int a2] s (some (.int o.1)) o.2 := by
  refine Cn_ofZ hj (plainFor_of_name (by decide)) (Nat.le_of_ble_eq_true rfl) [(0, .ref (ad 58)), (1, .int a1), (2, .int a2)] rfl (fun G hC e1 e2 e3 e4 e5 hR => ?_)
  subst e1; subst e2; subst e3; subst e4; subst e5
  exact B_MD_canHaveDone hC a1 a2 s o h hR
theorem d_MD_waysWith_0 : PCi b_MD_waysWith 0 0 1 := Or.inl ⟨0, by decide +kernel, by decide, rfl⟩
theorem d_MD_waysWith_1 : PSi b_MD_waysWith 1 3 2 := Or.inl ⟨3, by decide +kernel, rfl, rfl⟩
theorem d_MD_waysWith_2 : PLi b_MD_waysWith 2 3 3 := Or.inl ⟨3, by decide +kernel, rfl, rfl⟩
theorem d_MD_waysWith_3 : PCi b_MD_waysWith 3 128 6 := Or.inr (Or.inr ⟨128, by decide +kernel, by decide, rfl⟩)
theorem d_MD_waysWith_6 : DJ b_MD_waysWith 6 (.if_icmp .ge) 9 30 := ⟨24, by decide +kernel, rfl, by decide⟩
theorem d_MD_waysWith_9 : PLa b_MD_waysWith 9 0 10 := Or.inl ⟨0, by decide +kernel, rfl, rfl⟩
theorem d_MD_waysWith_10 : DR b_MD_waysWith 10 (.getfield 71) 3 13 := ⟨by decide +kernel, rfl⟩
theorem d_MD_waysWith_13 : PLi b_MD_waysWith 13 3 14 := Or.inl ⟨3, by decide +kernel, rfl, rfl⟩
theorem d_MD_waysWith_14 : PLi b_MD_waysWith 14 3 15 := Or.inl ⟨3, by decide +kernel, rfl, rfl⟩
theorem d_MD_waysWith_15 : DJ b_MD_waysWith 15 (.ifCond .ne) 18 22 := ⟨7, by decide +kernel, rfl, by decide⟩
theorem d_MD_waysWith_18 : DR b_MD_waysWith 18 (.lconst 1) 1 19 := ⟨by decide +kernel, rfl⟩
theorem d_MD_waysWith_19 : DJ b_MD_waysWith 19 .goto 22 23 := ⟨4, by decide +kernel, rfl, by decide⟩
theorem d_MD_waysWith_22 : DR b_MD_waysWith 22 (.lconst 0) 1 23 := ⟨by decide +kernel, rfl⟩
theorem d_MD_waysWith_23 : DR b_MD_waysWith 23 (.lastore) 1 24 := ⟨by decide +kernel, rfl⟩
theorem d_MD_waysWith_24 : DR b_MD_waysWith 24 (.iinc 3 1) 3 27 := ⟨by decide +kernel, rfl⟩
theorem d_MD_waysWith_27 : DJ b_MD_waysWith 27 .goto 30 2 := ⟨-25, by decide +kernel, rfl, by decide⟩
theorem d_MD_waysWith_30 : PCi b_MD_waysWith 30 0 31 := Or.inl ⟨0, by decide +kernel, by decide, rfl⟩
theorem d_MD_waysWith_31 : PSi b_MD_waysWith 31 3 32 := Or.inl ⟨3, by decide +kernel, rfl, rfl⟩
theorem d_MD_waysWith_32 : PLi b_MD_waysWith 32 3 33 := Or.inl ⟨3, by decide +kernel, rfl, rfl⟩
theorem d_MD_waysWith_33 : PLa b_MD_waysWith 33 0 34 := Or.inl ⟨0, by decide +kernel, rfl, rfl⟩
theorem d_MD_waysWith_34 : DR b_MD_waysWith 34 (.getfield 84) 3 37 := ⟨by decide +kernel, rfl⟩
theorem d_MD_waysWith_37 : DJ b_MD_waysWith 37 (.if_icmp .ge) 40 141 := ⟨104, by decide +kernel, rfl, by decide⟩
theorem d_MD_waysWith_40 : PCi b_MD_waysWith 40 127 42 := Or.inr (Or.inl ⟨127, by decide +kernel, by decide, rfl⟩)
theorem d_MD_waysWith_42 : PSi b_MD_waysWith 42 4 44 := Or.inr ⟨by decide +kernel, rfl⟩
theorem d_MD_waysWith_44 : PLi b_MD_waysWith 44 4 46 := Or.inr ⟨by decide +kernel, rfl⟩
theorem d_MD_waysWith_46 : DJ b_MD_waysWith 46 (.ifCond .lt) 49 135 := ⟨89, by decide +kernel, rfl, by decide⟩
theorem d_MD_waysWith_49 : DR b_MD_waysWith 49 (.lconst 0) 1 50 := ⟨by decide +kernel, rfl⟩
theorem d_MD_waysWith_50 : PSl b_MD_waysWith 50 5 52 := Or.inr ⟨by decide +kernel, rfl⟩
theorem d_MD_waysWith_52 : PCi b_MD_waysWith 52 0 53 := Or.inl ⟨0, by decide +kernel, by decide, rfl⟩
theorem d_MD_waysWith_53 : PSi b_MD_waysWith 53 7 55 := Or.inr ⟨by decide +kernel, rfl⟩
theorem d_MD_waysWith_55 : PLi b_MD_waysWith 55 7 57 := Or.inr ⟨by decide +kernel, rfl⟩
theorem d_MD_waysWith_57 : PLa b_MD_waysWith 57 0 58 := Or.inl ⟨0, by decide +kernel, rfl, rfl⟩
theorem d_MD_waysWith_58 : DR b_MD_waysWith 58 (.getfield 90) 3 61 := ⟨by decide +kernel, rfl⟩
theorem d_MD_waysWith_61 : DJ b_MD_waysWith 61 (.if_icmp .ge) 64 120 := ⟨59, by decide +kernel, rfl, by decide⟩
theorem d_MD_waysWith_64 : PLi b_MD_waysWith 64 4 66 := Or.inr ⟨by decide +kernel, rfl⟩
theorem d_MD_waysWith_66 : PLi b_MD_waysWith 66 7 68 := Or.inr ⟨by decide +kernel, rfl⟩
theorem d_MD_waysWith_68 : DR b_MD_waysWith 68 (.invokestatic 184) 3 71 := ⟨by decide +kernel, rfl⟩
theorem d_MD_waysWith_71 : DJ b_MD_waysWith 71 (.ifCond .eq) 74 114 := ⟨43, by decide +kernel, rfl, by decide⟩
theorem d_MD_waysWith_74 : PLa b_MD_waysWith 74 0 75 := Or.inl ⟨0, by decide +kernel, rfl, rfl⟩
theorem d_MD_waysWith_75 : PLi b_MD_waysWith 75 7 77 := Or.inr ⟨by decide +kernel, rfl⟩
theorem d_MD_waysWith_77 : PLi b_MD_waysWith 77 3 78 := Or.inl ⟨3, by decide +kernel, rfl, rfl⟩
theorem d_MD_waysWith_78 : DR b_MD_waysWith 78 (.invokevirtual 242) 3 81 := ⟨by decide +kernel, rfl⟩
theorem d_MD_waysWith_81 : DJ b_MD_waysWith 81 (.ifCond .eq) 84 114 := ⟨33, by decide +kernel, rfl, by decide⟩
theorem d_MD_waysWith_84 : PLi b_MD_waysWith 84 3 85 := Or.inl ⟨3, by decide +kernel, rfl, rfl⟩
theorem d_MD_waysWith_85 : PLi b_MD_waysWith 85 2 86 := Or.inl ⟨2, by decide +kernel, rfl, rfl⟩
theorem d_MD_waysWith_86 : DJ b_MD_waysWith 86 (.if_icmp .ne) 89 95 := ⟨9, by decide +kernel, rfl, by decide⟩
theorem d_MD_waysWith_89 : PLi b_MD_waysWith 89 7 91 := Or.inr ⟨by decide +kernel, rfl⟩
theorem d_MD_waysWith_91 : PLi b_MD_waysWith 91 1 92 := Or.inl ⟨1, by decide +kernel, rfl, rfl⟩
theorem d_MD_waysWith_92 : DJ b_MD_waysWith 92 (.if_icmp .ne) 95 114 := ⟨22, by decide +kernel, rfl, by decide⟩
theorem d_MD_waysWith_95 : PLl b_MD_waysWith 95 5 97 := Or.inr ⟨by decide +kernel, rfl⟩
theorem d_MD_waysWith_97 : PLa b_MD_waysWith 97 0 98 := Or.inl ⟨0, by decide +kernel, rfl, rfl⟩
theorem d_MD_waysWith_98 : DR b_MD_waysWith 98 (.getfield 71) 3 101 := ⟨by decide +kernel, rfl⟩
theorem d_MD_waysWith_101 : PLi b_MD_waysWith 101 4 103 := Or.inr ⟨by decide +kernel, rfl⟩
theorem d_MD_waysWith_103 : PCi b_MD_waysWith 103 1 104 := Or.inl ⟨1, by decide +kernel, by decide, rfl⟩
theorem d_MD_waysWith_104 : PLi b_MD_waysWith 104 7 106 := Or.inr ⟨by decide +kernel, rfl⟩
theorem d_MD_waysWith_106 : DR b_MD_waysWith 106 (.ishl) 1 107 := ⟨by decide +kernel, rfl⟩
theorem d_MD_waysWith_107 : PCi b_MD_waysWith 107 (-1) 108 := Or.inl ⟨(-1), by decide +kernel, by decide, rfl⟩
theorem d_MD_waysWith_108 : DR b_MD_waysWith 108 (.ixor) 1 109 := ⟨by decide +kernel, rfl⟩
theorem d_MD_waysWith_109 : DR b_MD_waysWith 109 (.iand) 1 110 := ⟨by decide +kernel, rfl⟩
theorem d_MD_waysWith_110 : DR b_MD_waysWith 110 (.laload) 1 111 := ⟨by decide +kernel, rfl⟩
theorem d_MD_waysWith_111 : DR b_MD_waysWith 111 (.ladd) 1 112 := ⟨by decide +kernel, rfl⟩
theorem d_MD_waysWith_112 : PSl b_MD_waysWith 112 5 114 := Or.inr ⟨by decide +kernel, rfl⟩
theorem d_MD_waysWith_114 : DR b_MD_waysWith 114 (.iinc 7 1) 3 117 := ⟨by decide +kernel, rfl⟩
theorem d_MD_waysWith_117 : DJ b_MD_waysWith 117 .goto 120 55 := ⟨-62, by decide +kernel, rfl, by decide⟩
theorem d_MD_waysWith_120 : PLa b_MD_waysWith 120 0 121 := Or.inl ⟨0, by decide +kernel, rfl, rfl⟩
theorem d_MD_waysWith_121 : DR b_MD_waysWith 121 (.getfield 71) 3 124 := ⟨by decide +kernel, rfl⟩
theorem d_MD_waysWith_124 : PLi b_MD_waysWith 124 4 126 := Or.inr ⟨by decide +kernel, rfl⟩
theorem d_MD_waysWith_126 : PLl b_MD_waysWith 126 5 128 := Or.inr ⟨by decide +kernel, rfl⟩
theorem d_MD_waysWith_128 : DR b_MD_waysWith 128 (.lastore) 1 129 := ⟨by decide +kernel, rfl⟩
theorem d_MD_waysWith_129 : DR b_MD_waysWith 129 (.iinc 4 (-1)) 3 132 := ⟨by decide +kernel, rfl⟩
theorem d_MD_waysWith_132 : DJ b_MD_waysWith 132 .goto 135 44 := ⟨-88, by decide +kernel, rfl, by decide⟩
theorem d_MD_waysWith_135 : DR b_MD_waysWith 135 (.iinc 3 1) 3 138 := ⟨by decide +kernel, rfl⟩
theorem d_MD_waysWith_138 : DJ b_MD_waysWith 138 .goto 141 32 := ⟨-106, by decide +kernel, rfl, by decide⟩
theorem d_MD_waysWith_141 : DR b_MD_waysWith 141 (.lconst 0) 1 142 := ⟨by decide +kernel, rfl⟩
theorem d_MD_waysWith_142 : PSl b_MD_waysWith 142 3 143 := Or.inl ⟨3, by decide +kernel, rfl, rfl⟩
theorem d_MD_waysWith_143 : PCi b_MD_waysWith 143 0 144 := Or.inl ⟨0, by decide +kernel, by decide, rfl⟩
theorem d_MD_waysWith_144 : PSi b_MD_waysWith 144 5 146 := Or.inr ⟨by decide +kernel, rfl⟩
theorem d_MD_waysWith_146 : PLi b_MD_waysWith 146 5 148 := Or.inr ⟨by decide +kernel, rfl⟩
theorem d_MD_waysWith_148 : PCi b_MD_waysWith 148 128 151 := Or.inr (Or.inr ⟨128, by decide +kernel, by decide, rfl⟩)
theorem d_MD_waysWith_151 : DJ b_MD_waysWith 151 (.if_icmp .ge) 154 170 := ⟨19, by decide +kernel, rfl, by decide⟩
theorem d_MD_waysWith_154 : PLl b_MD_waysWith 154 3 155 := Or.inl ⟨3, by decide +kernel, rfl, rfl⟩
theorem d_MD_waysWith_155 : PLa b_MD_waysWith 155 0 156 := Or.inl ⟨0, by decide +kernel, rfl, rfl⟩
theorem d_MD_waysWith_156 : DR b_MD_waysWith 156 (.getfield 71) 3 159 := ⟨by decide +kernel, rfl⟩
theorem d_MD_waysWith_159 : PLi b_MD_waysWith 159 5 161 := Or.inr ⟨by decide +kernel, rfl⟩
theorem d_MD_waysWith_161 : DR b_MD_waysWith 161 (.laload) 1 162 := ⟨by decide +kernel, rfl⟩
theorem d_MD_waysWith_162 : DR b_MD_waysWith 162 (.ladd) 1 163 := ⟨by decide +kernel, rfl⟩
theorem d_MD_waysWith_163 : PSl b_MD_waysWith 163 3 164 := Or.inl ⟨3, by decide +kernel, rfl, rfl⟩
theorem d_MD_waysWith_164 : DR b_MD_waysWith 164 (.iinc 5 1) 3 167 := ⟨by decide +kernel, rfl⟩
theorem d_MD_waysWith_167 : DJ b_MD_waysWith 167 .goto 170 146 := ⟨-21, by decide +kernel, rfl, by decide⟩
theorem d_MD_waysWith_170 : PLl b_MD_waysWith 170 3 171 := Or.inl ⟨3, by decide +kernel, rfl, rfl⟩
theorem d_MD_waysWith_171 : DR b_MD_waysWith 171 (.lreturn) 1 172 := ⟨by decide +kernel, rfl⟩
set_option maxRecDepth 20000 in
theorem BH_MD_waysWith_146 {G : MCx} (hC : C0 G "AccusedChooseModel" b_MD_waysWith 8 4) (K146 : Int64 × Int32 × St → Option (Int64 × St)) (hK146 : ∀ (w3 : Int64) (w5 : Int32) (s : St), VO G (RLo G b_MD_waysWith) (K146 (w3, w5, s)) 146 [(0, .ref (gad G 58)), (3, .long w3), (5, .int w5)] [] s) (v3 : Int64) (v5 : Int32) (s : St) : VO G (RLo G b_MD_waysWith) (H_MD_waysWith_146 K146 v3 v5 s) 146 [(0, .ref (gad G 58)), (3, .long v3), (5, .int v5)] [] s := by
  unfold H_MD_waysWith_146
  refine VO_iload hC d_MD_waysWith_146 2 rfl ?_
  refine VO_const hC d_MD_waysWith_148 ?_
  refine VO_icmp_ge hC d_MD_waysWith_151 (fun _ => ?_) (fun _ => ?_)
  · refine VO_lload hC d_MD_waysWith_170 1 rfl ?_
    exact VO_lreturn d_MD_waysWith_171
  · refine VO_lload hC d_MD_waysWith_154 1 rfl ?_
    refine VO_aload hC d_MD_waysWith_155 0 rfl ?_
    refine VO_getr (r := 78) hC fl_MD_71 sh_MD rfl d_MD_waysWith_156 ?_
    refine VO_iload hC d_MD_waysWith_159 2 rfl ?_
    refine VO_laload hC la_78 d_MD_waysWith_161 (fun x1 => ?_)
    refine VO_ladd hC d_MD_waysWith_162 ?_
    refine VO_lstoreB hC d_MD_waysWith_163 [(0, .ref (gad G 58)), (5, .int v5)] rfl (by decide) (fun x2 => ?_)
    refine VO_iinc hC d_MD_waysWith_164 2 rfl (by decide : Int32.ofInt 1 = 1) [(3, .long x2), (0, .ref (gad G 58))] rfl (by decide) ?_
    refine VO_goto hC d_MD_waysWith_167 ?_
    exact VO_sub [2, 1, 0] rfl (hK146 x2 (v5 + 1) s)
set_option maxRecDepth 20000 in
theorem B_MD_waysWith_146 {G : MCx} (hC : C0 G "AccusedChooseModel" b_MD_waysWith 8 4) (v3 : Int64) (v5 : Int32) (s : St) : VO G (RLo G b_MD_waysWith) (F_MD_waysWith_146 v3 v5 s) 146 [(0, .ref (gad G 58)), (3, .long v3), (5, .int v5)] [] s := by
  exact VO_fix (G_MD_waysWith_146) 146 (fun q => [(0, .ref (gad G 58)), (3, .long q.1), (5, .int q.2.1)]) (fun q => q.2.2) (fun K hK q => BH_MD_waysWith_146 hC K (fun w3 w5 s => hK (w3, w5, s)) q.1 q.2.1 q.2.2) FUEL (v3, v5, s)
set_option maxRecDepth 20000 in
theorem B_MD_waysWith_114 {G : MCx} (hC : C0 G "AccusedChooseModel" b_MD_waysWith 8 4) {v1 : Int32} {v2 : Int32} {v3 : Int32} {v4 : Int32} (K32 : Int32 × St → Option (Int64 × St)) (hK32 : ∀ (w3 : Int32) (s : St), VO G (RLo G b_MD_waysWith) (K32 (w3, s)) 32 [(0, .ref (gad G 58)), (1, .int v1), (2, .int v2), (3, .int w3)] [] s) (K44 : Int32 × St → Option (Int64 × St)) (hK44 : ∀ (w4 : Int32) (s : St), VO G (RLo G b_MD_waysWith) (K44 (w4, s)) 44 [(0, .ref (gad G 58)), (1, .int v1), (2, .int v2), (3, .int v3), (4, .int w4)] [] s) (K55 : Int64 × Int32 × St → Option (Int64 × St)) (hK55 : ∀ (w5 : Int64) (w7 : Int32) (s : St), VO G (RLo G b_MD_waysWith) (K55 (w5, w7, s)) 55 [(0, .ref (gad G 58)), (1, .int v1), (2, .int v2), (3, .int v3), (4, .int v4), (5, .long w5), (7, .int w7)] [] s) (v5 : Int64) (v7 : Int32) (s : St) : VO G (RLo G b_MD_waysWith) (F_MD_waysWith_114 K32 K44 K55 v1 v2 v3 v4 v5 v7 s) 114 [(0, .ref (gad G 58)), (1, .int v1), (2, .int v2), (3, .int v3), (4, .int v4), (5, .long v5), (7, .int v7)] [] s := by
  unfold F_MD_waysWith_114
  refine VO_iinc hC d_MD_waysWith_114 6 rfl (by decide : Int32.ofInt 1 = 1) [(0, .ref (gad G 58)), (1, .int v1), (2, .int v2), (3, .int v3), (4, .int v4), (5, .long v5)] rfl (by decide) ?_
  refine VO_goto hC d_MD_waysWith_117 ?_
  exact VO_sub [1, 2, 3, 4, 5, 6, 0] rfl (hK55 v5 (v7 + 1) s)
set_option maxRecDepth 20000 in
theorem B_MD_waysWith_95 {G : MCx} (hC : C0 G "AccusedChooseModel" b_MD_waysWith 8 4) {v1 : Int32} {v2 : Int32} {v3 : Int32} {v4 : Int32} (K32 : Int32 × St → Option (Int64 × St)) (hK32 : ∀ (w3 : Int32) (s : St), VO G (RLo G b_MD_waysWith) (K32 (w3, s)) 32 [(0, .ref (gad G 58)), (1, .int v1), (2, .int v2), (3, .int w3)] [] s) (K44 : Int32 × St → Option (Int64 × St)) (hK44 : ∀ (w4 : Int32) (s : St), VO G (RLo G b_MD_waysWith) (K44 (w4, s)) 44 [(0, .ref (gad G 58)), (1, .int v1), (2, .int v2), (3, .int v3), (4, .int w4)] [] s) (K55 : Int64 × Int32 × St → Option (Int64 × St)) (hK55 : ∀ (w5 : Int64) (w7 : Int32) (s : St), VO G (RLo G b_MD_waysWith) (K55 (w5, w7, s)) 55 [(0, .ref (gad G 58)), (1, .int v1), (2, .int v2), (3, .int v3), (4, .int v4), (5, .long w5), (7, .int w7)] [] s) (v5 : Int64) (v7 : Int32) (s : St) : VO G (RLo G b_MD_waysWith) (F_MD_waysWith_95 K32 K44 K55 v1 v2 v3 v4 v5 v7 s) 95 [(0, .ref (gad G 58)), (1, .int v1), (2, .int v2), (3, .int v3), (4, .int v4), (5, .long v5), (7, .int v7)] [] s := by
  unfold F_MD_waysWith_95
  refine VO_lload hC d_MD_waysWith_95 5 rfl ?_
  refine VO_aload hC d_MD_waysWith_97 0 rfl ?_
  refine VO_getr (r := 78) hC fl_MD_71 sh_MD rfl d_MD_waysWith_98 ?_
  refine VO_iload hC d_MD_waysWith_101 4 rfl ?_
  refine VO_const hC d_MD_waysWith_103 ?_
  refine VO_iload hC d_MD_waysWith_104 6 rfl ?_
  refine VO_ishl hC d_MD_waysWith_106 ?_
  refine VO_const hC d_MD_waysWith_107 ?_
  refine VO_ixor hC d_MD_waysWith_108 ?_
  refine VO_iand hC d_MD_waysWith_109 ?_
  refine VO_laload hC la_78 d_MD_waysWith_110 (fun x6 => ?_)
  refine VO_ladd hC d_MD_waysWith_111 ?_
  refine VO_lstoreB hC d_MD_waysWith_112 [(0, .ref (gad G 58)), (1, .int v1), (2, .int v2), (3, .int v3), (4, .int v4), (7, .int v7)] rfl (by decide) (fun x7 => ?_)
  exact VO_sub [1, 2, 3, 4, 5, 0, 6] rfl (B_MD_waysWith_114 hC K32 hK32 K44 hK44 K55 hK55 x7 v7 s)
set_option maxRecDepth 20000 in
theorem BH_MD_waysWith_55 {G : MCx} (hC : C0 G "AccusedChooseModel" b_MD_waysWith 8 4) {v1 : Int32} {v2 : Int32} {v3 : Int32} {v4 : Int32} (K32 : Int32 × St → Option (Int64 × St)) (hK32 : ∀ (w3 : Int32) (s : St), VO G (RLo G b_MD_waysWith) (K32 (w3, s)) 32 [(0, .ref (gad G 58)), (1, .int v1), (2, .int v2), (3, .int w3)] [] s) (K44 : Int32 × St → Option (Int64 × St)) (hK44 : ∀ (w4 : Int32) (s : St), VO G (RLo G b_MD_waysWith) (K44 (w4, s)) 44 [(0, .ref (gad G 58)), (1, .int v1), (2, .int v2), (3, .int v3), (4, .int w4)] [] s) (K55 : Int64 × Int32 × St → Option (Int64 × St)) (hK55 : ∀ (w5 : Int64) (w7 : Int32) (s : St), VO G (RLo G b_MD_waysWith) (K55 (w5, w7, s)) 55 [(0, .ref (gad G 58)), (1, .int v1), (2, .int v2), (3, .int v3), (4, .int v4), (5, .long w5), (7, .int w7)] [] s) (v5 : Int64) (v7 : Int32) (s : St) : VO G (RLo G b_MD_waysWith) (H_MD_waysWith_55 K32 K44 v1 v2 v3 v4 K55 v5 v7 s) 55 [(0, .ref (gad G 58)), (1, .int v1), (2, .int v2), (3, .int v3), (4, .int v4), (5, .long v5), (7, .int v7)] [] s := by
  unfold H_MD_waysWith_55
  refine VO_iload hC d_MD_waysWith_55 6 rfl ?_
  refine VO_aload hC d_MD_waysWith_57 0 rfl ?_
  refine VO_geti hC fl_MD_90 sh_MD rfl d_MD_waysWith_58 ?_
  refine VO_icmp_ge hC d_MD_waysWith_61 (fun _ => ?_) (fun _ => ?_)
  · refine VO_aload hC d_MD_waysWith_120 0 rfl ?_
    refine VO_getr (r := 78) hC fl_MD_71 sh_MD rfl d_MD_waysWith_121 ?_
    refine VO_iload hC d_MD_waysWith_124 4 rfl ?_
    refine VO_lload hC d_MD_waysWith_126 5 rfl ?_
    refine VO_lastore hC la_78 lu_only d_MD_waysWith_128 (fun s3 => ?_)
    refine VO_iincN hC d_MD_waysWith_129 4 rfl (by decide : Int32.ofInt (-1) = -1) [(0, .ref (gad G 58)), (1, .int v1), (2, .int v2), (3, .int v3), (5, .long v5), (7, .int v7)] rfl (by decide) ?_
    refine VO_goto hC d_MD_waysWith_132 ?_
    exact VO_sub [1, 2, 3, 4, 0] rfl (hK44 (v4 - 1) s3)
  · refine VO_iload hC d_MD_waysWith_64 4 rfl ?_
    refine VO_iload hC d_MD_waysWith_66 6 rfl ?_
    refine VO_callSI hC [.int v4, .int v7] [] ml_MD_184 d_MD_waysWith_68 ys_MD_has (fun o h => M_MD_has hC.inj h) (by decide) rfl rfl (Nat.le_of_ble_eq_true rfl) (fun o4 => ?_)
    refine VO_if_eq hC d_MD_waysWith_71 (fun _ => ?_) (fun _ => ?_)
    · exact (B_MD_waysWith_114 hC K32 hK32 K44 hK44 K55 hK55 v5 v7 o4.2)
    · refine VO_aload hC d_MD_waysWith_74 0 rfl ?_
      refine VO_iload hC d_MD_waysWith_75 6 rfl ?_
      refine VO_iload hC d_MD_waysWith_77 3 rfl ?_
      refine VO_callVI hC [.int v7, .int v3] [] ml_MD_242 d_MD_waysWith_78 yv_MD_canHaveDone sh_MD rfl rfl (fun o h => M_MD_canHaveDone hC.inj h) (by decide) rfl rfl (Nat.le_of_ble_eq_true rfl) (fun o5 => ?_)
      refine VO_if_eq hC d_MD_waysWith_81 (fun _ => ?_) (fun _ => ?_)
      · exact (B_MD_waysWith_114 hC K32 hK32 K44 hK44 K55 hK55 v5 v7 o5.2)
      · refine VO_iload hC d_MD_waysWith_84 3 rfl ?_
        refine VO_iload hC d_MD_waysWith_85 2 rfl ?_
        refine VO_icmp_ne hC d_MD_waysWith_86 (fun _ => ?_) (fun _ => ?_)
        · refine VO_iload hC d_MD_waysWith_89 6 rfl ?_
          refine VO_iload hC d_MD_waysWith_91 1 rfl ?_
          refine VO_icmp_ne hC d_MD_waysWith_92 (fun _ => ?_) (fun _ => ?_)
          · exact (B_MD_waysWith_95 hC K32 hK32 K44 hK44 K55 hK55 v5 v7 o5.2)
          · exact (B_MD_waysWith_114 hC K32 hK32 K44 hK44 K55 hK55 v5 v7 o5.2)
        · exact (B_MD_waysWith_95 hC K32 hK32 K44 hK44 K55 hK55 v5 v7 o5.2)
set_option maxRecDepth 20000 in
theorem B_MD_waysWith_55 {G : MCx} (hC : C0 G "AccusedChooseModel" b_MD_waysWith 8 4) {v1 : Int32} {v2 : Int32} {v3 : Int32} (K32 : Int32 × St → Option (Int64 × St)) (hK32 : ∀ (w3 : Int32) (s : St), VO G (RLo G b_MD_waysWith) (K32 (w3, s)) 32 [(0, .ref (gad G 58)), (1, .int v1), (2, .int v2), (3, .int w3)] [] s) (K44 : Int32 × St → Option (Int64 × St)) (hK44 : ∀ (w4 : Int32) (s : St), VO G (RLo G b_MD_waysWith) (K44 (w4, s)) 44 [(0, .ref (gad G 58)), (1, .int v1), (2, .int v2), (3, .int v3), (4, .int w4)] [] s) (v4 : Int32) (v5 : Int64) (v7 : Int32) (s : St) : VO G (RLo G b_MD_waysWith) (F_MD_waysWith_55 K32 K44 v1 v2 v3 v4 v5 v7 s) 55 [(0, .ref (gad G 58)), (1, .int v1), (2, .int v2), (3, .int v3), (4, .int v4), (5, .long v5), (7, .int v7)] [] s := by
  exact VO_fix (G_MD_waysWith_55 K32 K44 v1 v2 v3 v4) 55 (fun q => [(0, .ref (gad G 58)), (1, .int v1), (2, .int v2), (3, .int v3), (4, .int v4), (5, .long q.1), (7, .int q.2.1)]) (fun q => q.2.2) (fun K hK q => BH_MD_waysWith_55 hC K32 hK32 K44 hK44 K (fun w5 w7 s => hK (w5, w7, s)) q.1 q.2.1 q.2.2) FUEL (v5, v7, s)
set_option maxRecDepth 20000 in
theorem BH_MD_waysWith_44 {G : MCx} (hC : C0 G "AccusedChooseModel" b_MD_waysWith 8 4) {v1 : Int32} {v2 : Int32} {v3 : Int32} (K32 : Int32 × St → Option (Int64 × St)) (hK32 : ∀ (w3 : Int32) (s : St), VO G (RLo G b_MD_waysWith) (K32 (w3, s)) 32 [(0, .ref (gad G 58)), (1, .int v1), (2, .int v2), (3, .int w3)] [] s) (K44 : Int32 × St → Option (Int64 × St)) (hK44 : ∀ (w4 : Int32) (s : St), VO G (RLo G b_MD_waysWith) (K44 (w4, s)) 44 [(0, .ref (gad G 58)), (1, .int v1), (2, .int v2), (3, .int v3), (4, .int w4)] [] s) (v4 : Int32) (s : St) : VO G (RLo G b_MD_waysWith) (H_MD_waysWith_44 K32 v1 v2 v3 K44 v4 s) 44 [(0, .ref (gad G 58)), (1, .int v1), (2, .int v2), (3, .int v3), (4, .int v4)] [] s := by
  unfold H_MD_waysWith_44
  refine VO_iload hC d_MD_waysWith_44 4 rfl ?_
  refine VO_if_lt hC d_MD_waysWith_46 (fun _ => ?_) (fun _ => ?_)
  · refine VO_iinc hC d_MD_waysWith_135 3 rfl (by decide : Int32.ofInt 1 = 1) [(0, .ref (gad G 58)), (1, .int v1), (2, .int v2), (4, .int v4)] rfl (by decide) ?_
    refine VO_goto hC d_MD_waysWith_138 ?_
    exact VO_sub [1, 2, 3, 0] rfl (hK32 (v3 + 1) s)
  · refine VO_lconst hC d_MD_waysWith_49 rfl ?_
    refine VO_lstore hC d_MD_waysWith_50 [(0, .ref (gad G 58)), (1, .int v1), (2, .int v2), (3, .int v3), (4, .int v4)] rfl (by decide) ?_
    refine VO_const hC d_MD_waysWith_52 ?_
    refine VO_istore hC d_MD_waysWith_53 [(5, .long (0 : Int64)), (0, .ref (gad G 58)), (1, .int v1), (2, .int v2), (3, .int v3), (4, .int v4)] rfl (by decide) ?_
    exact VO_sub [2, 3, 4, 5, 6, 1, 0] rfl (B_MD_waysWith_55 hC K32 hK32 K44 hK44 v4 (0 : Int64) (0 : Int32) s)
set_option maxRecDepth 20000 in
theorem B_MD_waysWith_44 {G : MCx} (hC : C0 G "AccusedChooseModel" b_MD_waysWith 8 4) {v1 : Int32} {v2 : Int32} (K32 : Int32 × St → Option (Int64 × St)) (hK32 : ∀ (w3 : Int32) (s : St), VO G (RLo G b_MD_waysWith) (K32 (w3, s)) 32 [(0, .ref (gad G 58)), (1, .int v1), (2, .int v2), (3, .int w3)] [] s) (v3 : Int32) (v4 : Int32) (s : St) : VO G (RLo G b_MD_waysWith) (F_MD_waysWith_44 K32 v1 v2 v3 v4 s) 44 [(0, .ref (gad G 58)), (1, .int v1), (2, .int v2), (3, .int v3), (4, .int v4)] [] s := by
  exact VO_fix (G_MD_waysWith_44 K32 v1 v2 v3) 44 (fun q => [(0, .ref (gad G 58)), (1, .int v1), (2, .int v2), (3, .int v3), (4, .int q.1)]) (fun q => q.2) (fun K hK q => BH_MD_waysWith_44 hC K32 hK32 K (fun w4 s => hK (w4, s)) q.1 q.2) FUEL (v4, s)
set_option maxRecDepth 20000 in
theorem BH_MD_waysWith_32 {G : MCx} (hC : C0 G "AccusedChooseModel" b_MD_waysWith 8 4) {v1 : Int32} {v2 : Int32} (K32 : Int32 × St → Option (Int64 × St)) (hK32 : ∀ (w3 : Int32) (s : St), VO G (RLo G b_MD_waysWith) (K32 (w3, s)) 32 [(0, .ref (gad G 58)), (1, .int v1), (2, .int v2), (3, .int w3)] [] s) (v3 : Int32) (s : St) : VO G (RLo G b_MD_waysWith) (H_MD_waysWith_32 v1 v2 K32 v3 s) 32 [(0, .ref (gad G 58)), (1, .int v1), (2, .int v2), (3, .int v3)] [] s := by
  unfold H_MD_waysWith_32
  refine VO_iload hC d_MD_waysWith_32 3 rfl ?_
  refine VO_aload hC d_MD_waysWith_33 0 rfl ?_
  refine VO_geti hC fl_MD_84 sh_MD rfl d_MD_waysWith_34 ?_
  refine VO_icmp_ge hC d_MD_waysWith_37 (fun _ => ?_) (fun _ => ?_)
  · refine VO_lconst hC d_MD_waysWith_141 rfl ?_
    refine VO_lstore hC d_MD_waysWith_142 [(0, .ref (gad G 58)), (1, .int v1), (2, .int v2)] rfl (by decide) ?_
    refine VO_const hC d_MD_waysWith_143 ?_
    refine VO_istore hC d_MD_waysWith_144 [(3, .long (0 : Int64)), (0, .ref (gad G 58)), (1, .int v1), (2, .int v2)] rfl (by decide) ?_
    exact VO_sub [2, 1, 0] rfl (B_MD_waysWith_146 hC (0 : Int64) (0 : Int32) s)
  · refine VO_const hC d_MD_waysWith_40 ?_
    refine VO_istore hC d_MD_waysWith_42 [(0, .ref (gad G 58)), (1, .int v1), (2, .int v2), (3, .int v3)] rfl (by decide) ?_
    exact VO_sub [1, 2, 3, 4, 0] rfl (B_MD_waysWith_44 hC K32 hK32 v3 (127 : Int32) s)
set_option maxRecDepth 20000 in
theorem B_MD_waysWith_32 {G : MCx} (hC : C0 G "AccusedChooseModel" b_MD_waysWith 8 4) (v1 : Int32) (v2 : Int32) (v3 : Int32) (s : St) : VO G (RLo G b_MD_waysWith) (F_MD_waysWith_32 v1 v2 v3 s) 32 [(0, .ref (gad G 58)), (1, .int v1), (2, .int v2), (3, .int v3)] [] s := by
  exact VO_fix (G_MD_waysWith_32 v1 v2) 32 (fun q => [(0, .ref (gad G 58)), (1, .int v1), (2, .int v2), (3, .int q.1)]) (fun q => q.2) (fun K hK q => BH_MD_waysWith_32 hC K (fun w3 s => hK (w3, s)) q.1 q.2) FUEL (v3, s)
set_option maxRecDepth 20000 in
theorem B_MD_waysWith_23 {G : MCx} (hC : C0 G "AccusedChooseModel" b_MD_waysWith 8 4) {v1 : Int32} {v2 : Int32} (K2 : Int32 × St → Option (Int64 × St)) (hK2 : ∀ (w3 : Int32) (s : St), VO G (RLo G b_MD_waysWith) (K2 (w3, s)) 2 [(0, .ref (gad G 58)), (1, .int v1), (2, .int v2), (3, .int w3)] [] s) (v3 : Int32) (z0 : Int64) (z1 : Int32) (s : St) : VO G (RLo G b_MD_waysWith) (F_MD_waysWith_23 K2 v1 v2 v3 z0 z1 s) 23 [(0, .ref (gad G 58)), (1, .int v1), (2, .int v2), (3, .int v3)] [.long z0, .int z1, .ref (gad G 78)] s := by
  unfold F_MD_waysWith_23
  refine VO_lastore hC la_78 lu_only d_MD_waysWith_23 (fun s8 => ?_)
  refine VO_iinc hC d_MD_waysWith_24 3 rfl (by decide : Int32.ofInt 1 = 1) [(0, .ref (gad G 58)), (1, .int v1), (2, .int v2)] rfl (by decide) ?_
  refine VO_goto hC d_MD_waysWith_27 ?_
  exact VO_sub [1, 2, 3, 0] rfl (hK2 (v3 + 1) s8)
set_option maxRecDepth 20000 in
theorem BH_MD_waysWith_2 {G : MCx} (hC : C0 G "AccusedChooseModel" b_MD_waysWith 8 4) {v1 : Int32} {v2 : Int32} (K2 : Int32 × St → Option (Int64 × St)) (hK2 : ∀ (w3 : Int32) (s : St), VO G (RLo G b_MD_waysWith) (K2 (w3, s)) 2 [(0, .ref (gad G 58)), (1, .int v1), (2, .int v2), (3, .int w3)] [] s) (v3 : Int32) (s : St) : VO G (RLo G b_MD_waysWith) (H_MD_waysWith_2 v1 v2 K2 v3 s) 2 [(0, .ref (gad G 58)), (1, .int v1), (2, .int v2), (3, .int v3)] [] s := by
  unfold H_MD_waysWith_2
  refine VO_iload hC d_MD_waysWith_2 3 rfl ?_
  refine VO_const hC d_MD_waysWith_3 ?_
  refine VO_icmp_ge hC d_MD_waysWith_6 (fun _ => ?_) (fun _ => ?_)
  · refine VO_const hC d_MD_waysWith_30 ?_
    refine VO_istore hC d_MD_waysWith_31 [(0, .ref (gad G 58)), (1, .int v1), (2, .int v2)] rfl (by decide) ?_
    exact VO_sub [1, 2, 3, 0] rfl (B_MD_waysWith_32 hC v1 v2 (0 : Int32) s)
  · refine VO_aload hC d_MD_waysWith_9 0 rfl ?_
    refine VO_getr (r := 78) hC fl_MD_71 sh_MD rfl d_MD_waysWith_10 ?_
    refine VO_iload hC d_MD_waysWith_13 3 rfl ?_
    refine VO_iload hC d_MD_waysWith_14 3 rfl ?_
    refine VO_if_ne hC d_MD_waysWith_15 (fun _ => ?_) (fun _ => ?_)
    · refine VO_lconst hC d_MD_waysWith_18 rfl ?_
      refine VO_goto hC d_MD_waysWith_19 ?_
      exact (B_MD_waysWith_23 hC K2 hK2 v3 (1 : Int64) v3 s)
    · refine VO_lconst hC d_MD_waysWith_22 rfl ?_
      exact (B_MD_waysWith_23 hC K2 hK2 v3 (0 : Int64) v3 s)
set_option maxRecDepth 20000 in
theorem B_MD_waysWith_2 {G : MCx} (hC : C0 G "AccusedChooseModel" b_MD_waysWith 8 4) (v1 : Int32) (v2 : Int32) (v3 : Int32) (s : St) : VO G (RLo G b_MD_waysWith) (F_MD_waysWith_2 v1 v2 v3 s) 2 [(0, .ref (gad G 58)), (1, .int v1), (2, .int v2), (3, .int v3)] [] s := by
  exact VO_fix (G_MD_waysWith_2 v1 v2) 2 (fun q => [(0, .ref (gad G 58)), (1, .int v1), (2, .int v2), (3, .int q.1)]) (fun q => q.2) (fun K hK q => BH_MD_waysWith_2 hC K (fun w3 s => hK (w3, s)) q.1 q.2) FUEL (v3, s)
set_option maxRecDepth 20000 in
theorem B_MD_waysWith {G : MCx} (hC : C0 G "AccusedChooseModel" b_MD_waysWith 8 4) (a1 : Int32) (a2 : Int32) (s : St) : VO G (RLo G b_MD_waysWith) (F_MD_waysWith a1 a2 s) 0 [(0, .ref (gad G 58)), (1, .int a1), (2, .int a2)] [] s := by
  unfold F_MD_waysWith
  refine VO_const hC d_MD_waysWith_0 ?_
  refine VO_istore hC d_MD_waysWith_1 [(0, .ref (gad G 58)), (1, .int a1), (2, .int a2)] rfl (by decide) ?_
  exact VO_sub [1, 2, 3, 0] rfl (B_MD_waysWith_2 hC a1 a2 (0 : Int32) s)
set_option maxRecDepth 20000 in
theorem M_MD_waysWith {l : Launch} {D : va_G} {ad : Nat → Nat} {cI cL : ClassId} (hj : Inj ad) {a1 : Int32} {a2 : Int32} {s : St} {o : Int64 × St} (h : F_MD_waysWith a1 a2 s = some o) : Cn l D ad cI cL y_MD_waysWith b_MD_waysWith 8 (some .long) 4 [.ref (ad 58), .int a1, .int a2] s (some (.long o.1)) o.2 := by
  refine Cn_ofL hj (plainFor_of_name (by decide)) (Nat.le_of_ble_eq_true rfl) [(0, .ref (ad 58)), (1, .int a1), (2, .int a2)] rfl (fun G hC e1 e2 e3 e4 e5 hR => ?_)
  subst e1; subst e2; subst e3; subst e4; subst e5
  exact B_MD_waysWith hC a1 a2 s o h hR
theorem d_MD_whose_0 : PLi b_MD_whose 0 1 1 := Or.inl ⟨1, by decide +kernel, rfl, rfl⟩
theorem d_MD_whose_1 : PCi b_MD_whose 1 (-1) 2 := Or.inl ⟨(-1), by decide +kernel, by decide, rfl⟩
theorem d_MD_whose_2 : DJ b_MD_whose 2 (.if_icmp .ne) 5 10 := ⟨8, by decide +kernel, rfl, by decide⟩
theorem d_MD_whose_5 : PLi b_MD_whose 5 2 6 := Or.inl ⟨2, by decide +kernel, rfl, rfl⟩
theorem d_MD_whose_6 : PCi b_MD_whose 6 (-1) 7 := Or.inl ⟨(-1), by decide +kernel, by decide, rfl⟩
theorem d_MD_whose_7 : DJ b_MD_whose 7 (.if_icmp .eq) 10 32 := ⟨25, by decide +kernel, rfl, by decide⟩
theorem d_MD_whose_10 : PLa b_MD_whose 10 0 11 := Or.inl ⟨0, by decide +kernel, rfl, rfl⟩
theorem d_MD_whose_11 : PLi b_MD_whose 11 1 12 := Or.inl ⟨1, by decide +kernel, rfl, rfl⟩
theorem d_MD_whose_12 : DR b_MD_whose 12 (.invokevirtual 93) 3 15 := ⟨by decide +kernel, rfl⟩
theorem d_MD_whose_15 : DJ b_MD_whose 15 (.ifCond .eq) 18 26 := ⟨11, by decide +kernel, rfl, by decide⟩
theorem d_MD_whose_18 : PLa b_MD_whose 18 0 19 := Or.inl ⟨0, by decide +kernel, rfl, rfl⟩
theorem d_MD_whose_19 : PLi b_MD_whose 19 2 20 := Or.inl ⟨2, by decide +kernel, rfl, rfl⟩
theorem d_MD_whose_20 : DR b_MD_whose 20 (.invokevirtual 140) 3 23 := ⟨by decide +kernel, rfl⟩
theorem d_MD_whose_23 : DJ b_MD_whose 23 (.ifCond .ne) 26 32 := ⟨9, by decide +kernel, rfl, by decide⟩
theorem d_MD_whose_26 : PLa b_MD_whose 26 0 27 := Or.inl ⟨0, by decide +kernel, rfl, rfl⟩
theorem d_MD_whose_27 : PCi b_MD_whose 27 (-1) 28 := Or.inl ⟨(-1), by decide +kernel, by decide, rfl⟩
theorem d_MD_whose_28 : DR b_MD_whose 28 (.invokevirtual 245) 3 31 := ⟨by decide +kernel, rfl⟩
theorem d_MD_whose_31 : DR b_MD_whose 31 (.lreturn) 1 32 := ⟨by decide +kernel, rfl⟩
theorem d_MD_whose_32 : PLa b_MD_whose 32 0 33 := Or.inl ⟨0, by decide +kernel, rfl, rfl⟩
theorem d_MD_whose_33 : PLi b_MD_whose 33 1 34 := Or.inl ⟨1, by decide +kernel, rfl, rfl⟩
theorem d_MD_whose_34 : PLi b_MD_whose 34 2 35 := Or.inl ⟨2, by decide +kernel, rfl, rfl⟩
theorem d_MD_whose_35 : DR b_MD_whose 35 (.invokevirtual 249) 3 38 := ⟨by decide +kernel, rfl⟩
theorem d_MD_whose_38 : DR b_MD_whose 38 (.lreturn) 1 39 := ⟨by decide +kernel, rfl⟩
set_option maxRecDepth 20000 in
theorem B_MD_whose_26 {G : MCx} (hC : C0 G "AccusedChooseModel" b_MD_whose 3 5) (s : St) : VO G (RLo G b_MD_whose) (F_MD_whose_26 s) 26 [(0, .ref (gad G 58))] [] s := by
  unfold F_MD_whose_26
  refine VO_aload hC d_MD_whose_26 0 rfl ?_
  refine VO_const hC d_MD_whose_27 ?_
  refine VO_callVL hC [.int (-1 : Int32)] [] ml_MD_245 d_MD_whose_28 yv_MD_lowest sh_MD rfl rfl (fun o h => M_MD_lowest hC.inj h) (by decide) rfl rfl (Nat.le_of_ble_eq_true rfl) (fun o2 => ?_)
  exact VO_lreturn d_MD_whose_31
set_option maxRecDepth 20000 in
theorem B_MD_whose_32 {G : MCx} (hC : C0 G "AccusedChooseModel" b_MD_whose 3 5) (v1 : Int32) (v2 : Int32) (s : St) : VO G (RLo G b_MD_whose) (F_MD_whose_32 v1 v2 s) 32 [(0, .ref (gad G 58)), (1, .int v1), (2, .int v2)] [] s := by
  unfold F_MD_whose_32
  refine VO_aload hC d_MD_whose_32 0 rfl ?_
  refine VO_iload hC d_MD_whose_33 1 rfl ?_
  refine VO_iload hC d_MD_whose_34 2 rfl ?_
  refine VO_callVL hC [.int v1, .int v2] [] ml_MD_249 d_MD_whose_35 yv_MD_waysWith sh_MD rfl rfl (fun o h => M_MD_waysWith hC.inj h) (by decide) rfl rfl (Nat.le_of_ble_eq_true rfl) (fun o4 => ?_)
  exact VO_lreturn d_MD_whose_38
set_option maxRecDepth 20000 in
theorem B_MD_whose_10 {G : MCx} (hC : C0 G "AccusedChooseModel" b_MD_whose 3 5) (v1 : Int32) (v2 : Int32) (s : St) : VO G (RLo G b_MD_whose) (F_MD_whose_10 v1 v2 s) 10 [(0, .ref (gad G 58)), (1, .int v1), (2, .int v2)] [] s := by
  unfold F_MD_whose_10
  refine VO_aload hC d_MD_whose_10 0 rfl ?_
  refine VO_iload hC d_MD_whose_11 1 rfl ?_
  refine VO_callVI hC [.int v1] [] ml_MD_93 d_MD_whose_12 yv_MD_isPerson sh_MD rfl rfl (fun o h => M_MD_isPerson hC.inj h) (by decide) rfl rfl (Nat.le_of_ble_eq_true rfl) (fun o1 => ?_)
  refine VO_if_eq hC d_MD_whose_15 (fun _ => ?_) (fun _ => ?_)
  · exact VO_sub [0] rfl (B_MD_whose_26 hC o1.2)
  · refine VO_aload hC d_MD_whose_18 0 rfl ?_
    refine VO_iload hC d_MD_whose_19 2 rfl ?_
    refine VO_callVI hC [.int v2] [] ml_MD_140 d_MD_whose_20 yv_MD_isDeed sh_MD rfl rfl (fun o h => M_MD_isDeed hC.inj h) (by decide) rfl rfl (Nat.le_of_ble_eq_true rfl) (fun o3 => ?_)
    refine VO_if_ne hC d_MD_whose_23 (fun _ => ?_) (fun _ => ?_)
    · exact VO_sub [0] rfl (B_MD_whose_26 hC o3.2)
    · exact (B_MD_whose_32 hC v1 v2 o3.2)
set_option maxRecDepth 20000 in
theorem B_MD_whose {G : MCx} (hC : C0 G "AccusedChooseModel" b_MD_whose 3 5) (a1 : Int32) (a2 : Int32) (s : St) : VO G (RLo G b_MD_whose) (F_MD_whose a1 a2 s) 0 [(0, .ref (gad G 58)), (1, .int a1), (2, .int a2)] [] s := by
  unfold F_MD_whose
  refine VO_iload hC d_MD_whose_0 1 rfl ?_
  refine VO_const hC d_MD_whose_1 ?_
  refine VO_icmp_ne hC d_MD_whose_2 (fun _ => ?_) (fun _ => ?_)
  · refine VO_iload hC d_MD_whose_5 2 rfl ?_
    refine VO_const hC d_MD_whose_6 ?_
    refine VO_icmp_eq hC d_MD_whose_7 (fun _ => ?_) (fun _ => ?_)
    · exact (B_MD_whose_32 hC a1 a2 s)
    · exact (B_MD_whose_10 hC a1 a2 s)
  · exact (B_MD_whose_10 hC a1 a2 s)
set_option maxRecDepth 20000 in
theorem M_MD_whose {l : Launch} {D : va_G} {ad : Nat → Nat} {cI cL : ClassId} (hj : Inj ad) {a1 : Int32} {a2 : Int32} {s : St} {o : Int64 × St} (h : F_MD_whose a1 a2 s = some o) : Cn l D ad cI cL y_MD_whose b_MD_whose 3 (some .long) 5 [.ref (ad 58), .int a1, .int a2] s (some (.long o.1)) o.2 := by
  refine Cn_ofL hj (plainFor_of_name (by decide)) (Nat.le_of_ble_eq_true rfl) [(0, .ref (ad 58)), (1, .int a1), (2, .int a2)] rfl (fun G hC e1 e2 e3 e4 e5 hR => ?_)
  subst e1; subst e2; subst e3; subst e4; subst e5
  exact B_MD_whose hC a1 a2 s o h hR
theorem d_MD_keyBy_0 : PLa b_MD_keyBy 0 0 1 := Or.inl ⟨0, by decide +kernel, rfl, rfl⟩
theorem d_MD_keyBy_1 : DR b_MD_keyBy 1 (.getfield 34) 3 4 := ⟨by decide +kernel, rfl⟩
theorem d_MD_keyBy_4 : PLi b_MD_keyBy 4 2 5 := Or.inl ⟨2, by decide +kernel, rfl, rfl⟩
theorem d_MD_keyBy_5 : DR b_MD_keyBy 5 (.iaload) 1 6 := ⟨by decide +kernel, rfl⟩
theorem d_MD_keyBy_6 : PSi b_MD_keyBy 6 3 7 := Or.inl ⟨3, by decide +kernel, rfl, rfl⟩
theorem d_MD_keyBy_7 : PLi b_MD_keyBy 7 1 8 := Or.inl ⟨1, by decide +kernel, rfl, rfl⟩
theorem d_MD_keyBy_8 : decode b_MD_keyBy 8 = .ok (.tableswitch 96 1 4 #[32, 44, 56, 76], 32) := by decide +kernel
theorem d_MD_keyBy_40 : PCi b_MD_keyBy 40 10 42 := Or.inr (Or.inl ⟨10, by decide +kernel, by decide, rfl⟩)
theorem d_MD_keyBy_42 : PLa b_MD_keyBy 42 0 43 := Or.inl ⟨0, by decide +kernel, rfl, rfl⟩
theorem d_MD_keyBy_43 : DR b_MD_keyBy 43 (.getfield 19) 3 46 := ⟨by decide +kernel, rfl⟩
theorem d_MD_keyBy_46 : PLi b_MD_keyBy 46 3 47 := Or.inl ⟨3, by decide +kernel, rfl, rfl⟩
theorem d_MD_keyBy_47 : DR b_MD_keyBy 47 (.iaload) 1 48 := ⟨by decide +kernel, rfl⟩
theorem d_MD_keyBy_48 : DR b_MD_keyBy 48 (.imul) 1 49 := ⟨by decide +kernel, rfl⟩
theorem d_MD_keyBy_49 : PLi b_MD_keyBy 49 3 50 := Or.inl ⟨3, by decide +kernel, rfl, rfl⟩
theorem d_MD_keyBy_50 : DR b_MD_keyBy 50 (.iadd) 1 51 := ⟨by decide +kernel, rfl⟩
theorem d_MD_keyBy_51 : DR b_MD_keyBy 51 (.ireturn) 1 52 := ⟨by decide +kernel, rfl⟩
theorem d_MD_keyBy_52 : PCi b_MD_keyBy 52 (-10) 54 := Or.inr (Or.inl ⟨(-10), by decide +kernel, by decide, rfl⟩)
theorem d_MD_keyBy_54 : PLa b_MD_keyBy 54 0 55 := Or.inl ⟨0, by decide +kernel, rfl, rfl⟩
theorem d_MD_keyBy_55 : DR b_MD_keyBy 55 (.getfield 19) 3 58 := ⟨by decide +kernel, rfl⟩
theorem d_MD_keyBy_58 : PLi b_MD_keyBy 58 3 59 := Or.inl ⟨3, by decide +kernel, rfl, rfl⟩
theorem d_MD_keyBy_59 : DR b_MD_keyBy 59 (.iaload) 1 60 := ⟨by decide +kernel, rfl⟩
theorem d_MD_keyBy_60 : DR b_MD_keyBy 60 (.imul) 1 61 := ⟨by decide +kernel, rfl⟩
theorem d_MD_keyBy_61 : PLi b_MD_keyBy 61 3 62 := Or.inl ⟨3, by decide +kernel, rfl, rfl⟩
theorem d_MD_keyBy_62 : DR b_MD_keyBy 62 (.iadd) 1 63 := ⟨by decide +kernel, rfl⟩
theorem d_MD_keyBy_63 : DR b_MD_keyBy 63 (.ireturn) 1 64 := ⟨by decide +kernel, rfl⟩
theorem d_MD_keyBy_64 : PLa b_MD_keyBy 64 0 65 := Or.inl ⟨0, by decide +kernel, rfl, rfl⟩
theorem d_MD_keyBy_65 : DR b_MD_keyBy 65 (.getfield 25) 3 68 := ⟨by decide +kernel, rfl⟩
theorem d_MD_keyBy_68 : PLi b_MD_keyBy 68 3 69 := Or.inl ⟨3, by decide +kernel, rfl, rfl⟩
theorem d_MD_keyBy_69 : DR b_MD_keyBy 69 (.iaload) 1 70 := ⟨by decide +kernel, rfl⟩
theorem d_MD_keyBy_70 : PCi b_MD_keyBy 70 7 72 := Or.inr (Or.inl ⟨7, by decide +kernel, by decide, rfl⟩)
theorem d_MD_keyBy_72 : DJ b_MD_keyBy 72 (.if_icmp .ne) 75 82 := ⟨10, by decide +kernel, rfl, by decide⟩
theorem d_MD_keyBy_75 : PCi b_MD_keyBy 75 10 77 := Or.inr (Or.inl ⟨10, by decide +kernel, by decide, rfl⟩)
theorem d_MD_keyBy_77 : PLi b_MD_keyBy 77 3 78 := Or.inl ⟨3, by decide +kernel, rfl, rfl⟩
theorem d_MD_keyBy_78 : DR b_MD_keyBy 78 (.iadd) 1 79 := ⟨by decide +kernel, rfl⟩
theorem d_MD_keyBy_79 : DJ b_MD_keyBy 79 .goto 82 83 := ⟨4, by decide +kernel, rfl, by decide⟩
theorem d_MD_keyBy_82 : PLi b_MD_keyBy 82 3 83 := Or.inl ⟨3, by decide +kernel, rfl, rfl⟩
theorem d_MD_keyBy_83 : DR b_MD_keyBy 83 (.ireturn) 1 84 := ⟨by decide +kernel, rfl⟩
theorem d_MD_keyBy_84 : PLa b_MD_keyBy 84 0 85 := Or.inl ⟨0, by decide +kernel, rfl, rfl⟩
theorem d_MD_keyBy_85 : DR b_MD_keyBy 85 (.getfield 25) 3 88 := ⟨by decide +kernel, rfl⟩
theorem d_MD_keyBy_88 : PLi b_MD_keyBy 88 3 89 := Or.inl ⟨3, by decide +kernel, rfl, rfl⟩
theorem d_MD_keyBy_89 : DR b_MD_keyBy 89 (.iaload) 1 90 := ⟨by decide +kernel, rfl⟩
theorem d_MD_keyBy_90 : PCi b_MD_keyBy 90 7 92 := Or.inr (Or.inl ⟨7, by decide +kernel, by decide, rfl⟩)
theorem d_MD_keyBy_92 : DJ b_MD_keyBy 92 (.if_icmp .ne) 95 99 := ⟨7, by decide +kernel, rfl, by decide⟩
theorem d_MD_keyBy_95 : PLi b_MD_keyBy 95 3 96 := Or.inl ⟨3, by decide +kernel, rfl, rfl⟩
theorem d_MD_keyBy_96 : DJ b_MD_keyBy 96 .goto 99 103 := ⟨7, by decide +kernel, rfl, by decide⟩
theorem d_MD_keyBy_99 : PCi b_MD_keyBy 99 10 101 := Or.inr (Or.inl ⟨10, by decide +kernel, by decide, rfl⟩)
theorem d_MD_keyBy_101 : PLi b_MD_keyBy 101 3 102 := Or.inl ⟨3, by decide +kernel, rfl, rfl⟩
theorem d_MD_keyBy_102 : DR b_MD_keyBy 102 (.iadd) 1 103 := ⟨by decide +kernel, rfl⟩
theorem d_MD_keyBy_103 : DR b_MD_keyBy 103 (.ireturn) 1 104 := ⟨by decide +kernel, rfl⟩
theorem d_MD_keyBy_104 : PLi b_MD_keyBy 104 2 105 := Or.inl ⟨2, by decide +kernel, rfl, rfl⟩
theorem d_MD_keyBy_105 : DR b_MD_keyBy 105 (.ireturn) 1 106 := ⟨by decide +kernel, rfl⟩
set_option maxRecDepth 20000 in
theorem B_MD_keyBy {G : MCx} (hC : C0 G "AccusedChooseModel" b_MD_keyBy 4 1) (a1 : Int32) (a2 : Int32) (s : St) : VO G (RI G b_MD_keyBy) (F_MD_keyBy a1 a2 s) 0 [(0, .ref (gad G 58)), (1, .int a1), (2, .int a2)] [] s := by
  unfold F_MD_keyBy
  refine VO_aload hC d_MD_keyBy_0 0 rfl ?_
  refine VO_getr (r := 67) hC fl_MD_34 sh_MD rfl d_MD_keyBy_1 ?_
  refine VO_iload hC d_MD_keyBy_4 2 rfl ?_
  refine VO_iaload hC ia_67 d_MD_keyBy_5 (fun x1 => ?_)
  refine VO_istore hC d_MD_keyBy_6 [(0, .ref (gad G 58)), (1, .int a1), (2, .int a2)] rfl (by decide) ?_
  refine VO_iload hC d_MD_keyBy_7 2 rfl ?_
  refine VO_ite (fun c8_0 => ?_) (fun c8_0 => ?_)
  · refine VO_tin (tgt := 40) (off := (32 : Int)) hC d_MD_keyBy_8 (by rw [c8_0]; decide) (by rw [c8_0]; decide) (by first | (rw [c8_0]; done) | (rw [c8_0]; rfl)) (by decide) ?_
    refine VO_const hC d_MD_keyBy_40 ?_
    refine VO_aload hC d_MD_keyBy_42 1 rfl ?_
    refine VO_getr (r := 62) hC fl_MD_19 sh_MD rfl d_MD_keyBy_43 ?_
    refine VO_iload hC d_MD_keyBy_46 0 rfl ?_
    refine VO_iaload hC ia_62 d_MD_keyBy_47 (fun x2 => ?_)
    refine VO_imul hC d_MD_keyBy_48 ?_
    refine VO_iload hC d_MD_keyBy_49 0 rfl ?_
    refine VO_iadd hC d_MD_keyBy_50 ?_
    exact VO_ireturn d_MD_keyBy_51
  refine VO_ite (fun c8_1 => ?_) (fun c8_1 => ?_)
  · refine VO_tin (tgt := 52) (off := (44 : Int)) hC d_MD_keyBy_8 (by rw [c8_1]; decide) (by rw [c8_1]; decide) (by first | (rw [c8_1]; done) | (rw [c8_1]; rfl)) (by decide) ?_
    refine VO_const hC d_MD_keyBy_52 ?_
    refine VO_aload hC d_MD_keyBy_54 1 rfl ?_
    refine VO_getr (r := 62) hC fl_MD_19 sh_MD rfl d_MD_keyBy_55 ?_
    refine VO_iload hC d_MD_keyBy_58 0 rfl ?_
    refine VO_iaload hC ia_62 d_MD_keyBy_59 (fun x3 => ?_)
    refine VO_imul hC d_MD_keyBy_60 ?_
    refine VO_iload hC d_MD_keyBy_61 0 rfl ?_
    refine VO_iadd hC d_MD_keyBy_62 ?_
    exact VO_ireturn d_MD_keyBy_63
  refine VO_ite (fun c8_2 => ?_) (fun c8_2 => ?_)
  · refine VO_tin (tgt := 64) (off := (56 : Int)) hC d_MD_keyBy_8 (by rw [c8_2]; decide) (by rw [c8_2]; decide) (by first | (rw [c8_2]; done) | (rw [c8_2]; rfl)) (by decide) ?_
    refine VO_aload hC d_MD_keyBy_64 1 rfl ?_
    refine VO_getr (r := 64) hC fl_MD_25 sh_MD rfl d_MD_keyBy_65 ?_
    refine VO_iload hC d_MD_keyBy_68 0 rfl ?_
    refine VO_iaload hC ia_64 d_MD_keyBy_69 (fun x4 => ?_)
    refine VO_const hC d_MD_keyBy_70 ?_
    refine VO_icmp_ne hC d_MD_keyBy_72 (fun _ => ?_) (fun _ => ?_)
    · refine VO_const hC d_MD_keyBy_75 ?_
      refine VO_iload hC d_MD_keyBy_77 0 rfl ?_
      refine VO_iadd hC d_MD_keyBy_78 ?_
      refine VO_goto hC d_MD_keyBy_79 ?_
      exact VO_ireturn d_MD_keyBy_83
    · refine VO_iload hC d_MD_keyBy_82 0 rfl ?_
      exact VO_ireturn d_MD_keyBy_83
  refine VO_ite (fun c8_3 => ?_) (fun c8_3 => ?_)
  · refine VO_tin (tgt := 84) (off := (76 : Int)) hC d_MD_keyBy_8 (by rw [c8_3]; decide) (by rw [c8_3]; decide) (by first | (rw [c8_3]; done) | (rw [c8_3]; rfl)) (by decide) ?_
    refine VO_aload hC d_MD_keyBy_84 1 rfl ?_
    refine VO_getr (r := 64) hC fl_MD_25 sh_MD rfl d_MD_keyBy_85 ?_
    refine VO_iload hC d_MD_keyBy_88 0 rfl ?_
    refine VO_iaload hC ia_64 d_MD_keyBy_89 (fun x5 => ?_)
    refine VO_const hC d_MD_keyBy_90 ?_
    refine VO_icmp_ne hC d_MD_keyBy_92 (fun _ => ?_) (fun _ => ?_)
    · refine VO_iload hC d_MD_keyBy_95 0 rfl ?_
      refine VO_goto hC d_MD_keyBy_96 ?_
      exact VO_ireturn d_MD_keyBy_103
    · refine VO_const hC d_MD_keyBy_99 ?_
      refine VO_iload hC d_MD_keyBy_101 0 rfl ?_
      refine VO_iadd hC d_MD_keyBy_102 ?_
      exact VO_ireturn d_MD_keyBy_103
  refine VO_tout (tgt := 104) hC d_MD_keyBy_8 (by have e0 := lv_neT (a := 1) c8_0 rfl; have e1 := lv_neT (a := 2) c8_1 rfl; have e2 := lv_neT (a := 3) c8_2 rfl; have e3 := lv_neT (a := 4) c8_3 rfl; omega) (by decide) ?_
  refine VO_iload hC d_MD_keyBy_104 3 rfl ?_
  exact VO_ireturn d_MD_keyBy_105
set_option maxRecDepth 20000 in
theorem M_MD_keyBy {l : Launch} {D : va_G} {ad : Nat → Nat} {cI cL : ClassId} (hj : Inj ad) {a1 : Int32} {a2 : Int32} {s : St} {o : Int32 × St} (h : F_MD_keyBy a1 a2 s = some o) : Cn l D ad cI cL y_MD_keyBy b_MD_keyBy 4 (some .int) 1 [.ref (ad 58), .int a1, .int a2] s (some (.int o.1)) o.2 := by
  refine Cn_ofI hj (plainFor_of_name (by decide)) (Nat.le_of_ble_eq_true rfl) [(0, .ref (ad 58)), (1, .int a1), (2, .int a2)] rfl (fun G hC e1 e2 e3 e4 e5 hR => ?_)
  subst e1; subst e2; subst e3; subst e4; subst e5
  exact B_MD_keyBy hC a1 a2 s o h hR
