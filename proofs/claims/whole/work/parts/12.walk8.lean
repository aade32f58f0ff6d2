theorem d_MD_mayHave_0 : PLa b_MD_mayHave 0 0 1 := Or.inl ⟨0, by decide +kernel, rfl, rfl⟩
theorem d_MD_mayHave_1 : DR b_MD_mayHave 1 (.getfield 56) 3 4 := ⟨by decide +kernel, rfl⟩
theorem d_MD_mayHave_4 : PLi b_MD_mayHave 4 1 5 := Or.inl ⟨1, by decide +kernel, rfl, rfl⟩
theorem d_MD_mayHave_5 : DR b_MD_mayHave 5 (.iaload) 1 6 := ⟨by decide +kernel, rfl⟩
theorem d_MD_mayHave_6 : DJ b_MD_mayHave 6 (.ifCond .lt) 9 55 := ⟨49, by decide +kernel, rfl, by decide⟩
theorem d_MD_mayHave_9 : PLa b_MD_mayHave 9 0 10 := Or.inl ⟨0, by decide +kernel, rfl, rfl⟩
theorem d_MD_mayHave_10 : DR b_MD_mayHave 10 (.getfield 56) 3 13 := ⟨by decide +kernel, rfl⟩
theorem d_MD_mayHave_13 : PLi b_MD_mayHave 13 2 14 := Or.inl ⟨2, by decide +kernel, rfl, rfl⟩
theorem d_MD_mayHave_14 : DR b_MD_mayHave 14 (.iaload) 1 15 := ⟨by decide +kernel, rfl⟩
theorem d_MD_mayHave_15 : DJ b_MD_mayHave 15 (.ifCond .lt) 18 55 := ⟨40, by decide +kernel, rfl, by decide⟩
theorem d_MD_mayHave_18 : PLa b_MD_mayHave 18 0 19 := Or.inl ⟨0, by decide +kernel, rfl, rfl⟩
theorem d_MD_mayHave_19 : PLi b_MD_mayHave 19 1 20 := Or.inl ⟨1, by decide +kernel, rfl, rfl⟩
theorem d_MD_mayHave_20 : PLa b_MD_mayHave 20 0 21 := Or.inl ⟨0, by decide +kernel, rfl, rfl⟩
theorem d_MD_mayHave_21 : DR b_MD_mayHave 21 (.getfield 56) 3 24 := ⟨by decide +kernel, rfl⟩
theorem d_MD_mayHave_24 : PLi b_MD_mayHave 24 2 25 := Or.inl ⟨2, by decide +kernel, rfl, rfl⟩
theorem d_MD_mayHave_25 : DR b_MD_mayHave 25 (.iaload) 1 26 := ⟨by decide +kernel, rfl⟩
theorem d_MD_mayHave_26 : DR b_MD_mayHave 26 (.invokevirtual 191) 3 29 := ⟨by decide +kernel, rfl⟩
theorem d_MD_mayHave_29 : DJ b_MD_mayHave 29 (.ifCond .eq) 32 55 := ⟨26, by decide +kernel, rfl, by decide⟩
theorem d_MD_mayHave_32 : PLa b_MD_mayHave 32 0 33 := Or.inl ⟨0, by decide +kernel, rfl, rfl⟩
theorem d_MD_mayHave_33 : PLi b_MD_mayHave 33 1 34 := Or.inl ⟨1, by decide +kernel, rfl, rfl⟩
theorem d_MD_mayHave_34 : PLa b_MD_mayHave 34 0 35 := Or.inl ⟨0, by decide +kernel, rfl, rfl⟩
theorem d_MD_mayHave_35 : DR b_MD_mayHave 35 (.getfield 56) 3 38 := ⟨by decide +kernel, rfl⟩
theorem d_MD_mayHave_38 : PLi b_MD_mayHave 38 2 39 := Or.inl ⟨2, by decide +kernel, rfl, rfl⟩
theorem d_MD_mayHave_39 : DR b_MD_mayHave 39 (.iaload) 1 40 := ⟨by decide +kernel, rfl⟩
theorem d_MD_mayHave_40 : DR b_MD_mayHave 40 (.invokevirtual 194) 3 43 := ⟨by decide +kernel, rfl⟩
theorem d_MD_mayHave_43 : PLa b_MD_mayHave 43 0 44 := Or.inl ⟨0, by decide +kernel, rfl, rfl⟩
theorem d_MD_mayHave_44 : PLi b_MD_mayHave 44 1 45 := Or.inl ⟨1, by decide +kernel, rfl, rfl⟩
theorem d_MD_mayHave_45 : DR b_MD_mayHave 45 (.invokevirtual 212) 3 48 := ⟨by decide +kernel, rfl⟩
theorem d_MD_mayHave_48 : DJ b_MD_mayHave 48 (.if_icmp .ge) 51 55 := ⟨7, by decide +kernel, rfl, by decide⟩
theorem d_MD_mayHave_51 : PCi b_MD_mayHave 51 1 52 := Or.inl ⟨1, by decide +kernel, by decide, rfl⟩
theorem d_MD_mayHave_52 : DJ b_MD_mayHave 52 .goto 55 56 := ⟨4, by decide +kernel, rfl, by decide⟩
theorem d_MD_mayHave_55 : PCi b_MD_mayHave 55 0 56 := Or.inl ⟨0, by decide +kernel, by decide, rfl⟩
theorem d_MD_mayHave_56 : DR b_MD_mayHave 56 (.ireturn) 1 57 := ⟨by decide +kernel, rfl⟩
set_option maxRecDepth 20000 in
theorem B_MD_mayHave_55 {G : MCx} (hC : C0 G "AccusedChooseModel" b_MD_mayHave 3 4) (s : St) : VO G (RZ G b_MD_mayHave) (F_MD_mayHave_55 s) 55 [] [] s := by
  unfold F_MD_mayHave_55
  refine VO_const hC d_MD_mayHave_55 ?_
  exact VO_z0 d_MD_mayHave_56
set_option maxRecDepth 20000 in
theorem B_MD_mayHave {G : MCx} (hC : C0 G "AccusedChooseModel" b_MD_mayHave 3 4) (a1 : Int32) (a2 : Int32) (s : St) : VO G (RZ G b_MD_mayHave) (F_MD_mayHave a1 a2 s) 0 [(0, .ref (gad G 58)), (1, .int a1), (2, .int a2)] [] s := by
  unfold F_MD_mayHave
  refine VO_aload hC d_MD_mayHave_0 0 rfl ?_
  refine VO_getr (r := 73) hC fl_MD_56 sh_MD rfl d_MD_mayHave_1 ?_
  refine VO_iload hC d_MD_mayHave_4 1 rfl ?_
  refine VO_iaload hC ia_73 d_MD_mayHave_5 (fun x1 => ?_)
  refine VO_if_lt hC d_MD_mayHave_6 (fun _ => ?_) (fun _ => ?_)
  · exact VO_sub [] rfl (B_MD_mayHave_55 hC s)
  · refine VO_aload hC d_MD_mayHave_9 0 rfl ?_
    refine VO_getr (r := 73) hC fl_MD_56 sh_MD rfl d_MD_mayHave_10 ?_
    refine VO_iload hC d_MD_mayHave_13 2 rfl ?_
    refine VO_iaload hC ia_73 d_MD_mayHave_14 (fun x2 => ?_)
    refine VO_if_lt hC d_MD_mayHave_15 (fun _ => ?_) (fun _ => ?_)
    · exact VO_sub [] rfl (B_MD_mayHave_55 hC s)
    · refine VO_aload hC d_MD_mayHave_18 0 rfl ?_
      refine VO_iload hC d_MD_mayHave_19 1 rfl ?_
      refine VO_aload hC d_MD_mayHave_20 0 rfl ?_
      refine VO_getr (r := 73) hC fl_MD_56 sh_MD rfl d_MD_mayHave_21 ?_
      refine VO_iload hC d_MD_mayHave_24 2 rfl ?_
      refine VO_iaload hC ia_73 d_MD_mayHave_25 (fun x3 => ?_)
      refine VO_callVI hC [.int a1, .int x3] [] ml_MD_191 d_MD_mayHave_26 yv_MD_may sh_MD rfl rfl (fun o h => M_MD_may hC.inj h) (by decide) rfl rfl (Nat.le_of_ble_eq_true rfl) (fun o4 => ?_)
      refine VO_if_eq hC d_MD_mayHave_29 (fun _ => ?_) (fun _ => ?_)
      · exact VO_sub [] rfl (B_MD_mayHave_55 hC o4.2)
      · refine VO_aload hC d_MD_mayHave_32 0 rfl ?_
        refine VO_iload hC d_MD_mayHave_33 1 rfl ?_
        refine VO_aload hC d_MD_mayHave_34 0 rfl ?_
        refine VO_getr (r := 73) hC fl_MD_56 sh_MD rfl d_MD_mayHave_35 ?_
        refine VO_iload hC d_MD_mayHave_38 2 rfl ?_
        refine VO_iaload hC ia_73 d_MD_mayHave_39 (fun x5 => ?_)
        refine VO_callVI hC [.int a1, .int x5] [] ml_MD_194 d_MD_mayHave_40 yv_MD_monthsOf sh_MD rfl rfl (fun o h => M_MD_monthsOf hC.inj h) (by decide) rfl rfl (Nat.le_of_ble_eq_true rfl) (fun o6 => ?_)
        refine VO_aload hC d_MD_mayHave_43 0 rfl ?_
        refine VO_iload hC d_MD_mayHave_44 1 rfl ?_
        refine VO_callVI hC [.int a1] [.int o6.1] ml_MD_212 d_MD_mayHave_45 yv_MD_hasMonths sh_MD rfl rfl (fun o h => M_MD_hasMonths hC.inj h) (by decide) rfl rfl (Nat.le_of_ble_eq_true rfl) (fun o7 => ?_)
        refine VO_icmp_ge hC d_MD_mayHave_48 (fun _ => ?_) (fun _ => ?_)
        · exact VO_sub [] rfl (B_MD_mayHave_55 hC o7.2)
        · refine VO_const hC d_MD_mayHave_51 ?_
          refine VO_goto hC d_MD_mayHave_52 ?_
          exact VO_z1 d_MD_mayHave_56
set_option maxRecDepth 20000 in
theorem M_MD_mayHave {l : Launch} {D : va_G} {ad : Nat → Nat} {cI cL : ClassId} (hj : Inj ad) {a1 : Int32} {a2 : Int32} {s : St} {o : Int32 × St} (h : F_MD_mayHave a1 a2 s = some o) : Cn l D ad cI cL y_MD_mayHave b_MD_mayHave 3 (some .boolean) 4 [.ref (ad 58), .int a1, .int a2] s (some (.int o.1)) o.2 := by
  refine Cn_ofZ hj (plainFor_of_name (by decide)) (Nat.le_of_ble_eq_true rfl) [(0, .ref (ad 58)), (1, .int a1), (2, .int a2)] rfl (fun G hC e1 e2 e3 e4 e5 hR => ?_)
  subst e1; subst e2; subst e3; subst e4; subst e5
  exact B_MD_mayHave hC a1 a2 s o h hR
theorem d_MD_swaps_0 : PLi b_MD_swaps 0 1 1 := Or.inl ⟨1, by decide +kernel, rfl, rfl⟩
theorem d_MD_swaps_1 : PCi b_MD_swaps 1 0 2 := Or.inl ⟨0, by decide +kernel, by decide, rfl⟩
theorem d_MD_swaps_2 : PCi b_MD_swaps 2 1 3 := Or.inl ⟨1, by decide +kernel, by decide, rfl⟩
theorem d_MD_swaps_3 : DR b_MD_swaps 3 (.invokestatic 115) 3 6 := ⟨by decide +kernel, rfl⟩
theorem d_MD_swaps_6 : DJ b_MD_swaps 6 (.ifCond .ne) 9 16 := ⟨10, by decide +kernel, rfl, by decide⟩
theorem d_MD_swaps_9 : PLa b_MD_swaps 9 0 10 := Or.inl ⟨0, by decide +kernel, rfl, rfl⟩
theorem d_MD_swaps_10 : PCi b_MD_swaps 10 (-2) 12 := Or.inr (Or.inl ⟨(-2), by decide +kernel, by decide, rfl⟩)
theorem d_MD_swaps_12 : DR b_MD_swaps 12 (.invokevirtual 104) 3 15 := ⟨by decide +kernel, rfl⟩
theorem d_MD_swaps_15 : DR b_MD_swaps 15 (.ireturn) 1 16 := ⟨by decide +kernel, rfl⟩
theorem d_MD_swaps_16 : PLa b_MD_swaps 16 0 17 := Or.inl ⟨0, by decide +kernel, rfl, rfl⟩
theorem d_MD_swaps_17 : DR b_MD_swaps 17 (.invokevirtual 239) 3 20 := ⟨by decide +kernel, rfl⟩
theorem d_MD_swaps_20 : PCi b_MD_swaps 20 (-9) 22 := Or.inr (Or.inl ⟨(-9), by decide +kernel, by decide, rfl⟩)
theorem d_MD_swaps_22 : PSi b_MD_swaps 22 2 23 := Or.inl ⟨2, by decide +kernel, rfl, rfl⟩
theorem d_MD_swaps_23 : PLa b_MD_swaps 23 0 24 := Or.inl ⟨0, by decide +kernel, rfl, rfl⟩
theorem d_MD_swaps_24 : DR b_MD_swaps 24 (.getfield 90) 3 27 := ⟨by decide +kernel, rfl⟩
theorem d_MD_swaps_27 : PCi b_MD_swaps 27 1 28 := Or.inl ⟨1, by decide +kernel, by decide, rfl⟩
theorem d_MD_swaps_28 : DR b_MD_swaps 28 (.isub) 1 29 := ⟨by decide +kernel, rfl⟩
theorem d_MD_swaps_29 : PSi b_MD_swaps 29 3 30 := Or.inl ⟨3, by decide +kernel, rfl, rfl⟩
theorem d_MD_swaps_30 : PLi b_MD_swaps 30 3 31 := Or.inl ⟨3, by decide +kernel, rfl, rfl⟩
theorem d_MD_swaps_31 : DJ b_MD_swaps 31 (.ifCond .lt) 34 92 := ⟨61, by decide +kernel, rfl, by decide⟩
theorem d_MD_swaps_34 : PLa b_MD_swaps 34 0 35 := Or.inl ⟨0, by decide +kernel, rfl, rfl⟩
theorem d_MD_swaps_35 : DR b_MD_swaps 35 (.getfield 90) 3 38 := ⟨by decide +kernel, rfl⟩
theorem d_MD_swaps_38 : PCi b_MD_swaps 38 1 39 := Or.inl ⟨1, by decide +kernel, by decide, rfl⟩
theorem d_MD_swaps_39 : DR b_MD_swaps 39 (.isub) 1 40 := ⟨by decide +kernel, rfl⟩
theorem d_MD_swaps_40 : PSi b_MD_swaps 40 4 42 := Or.inr ⟨by decide +kernel, rfl⟩
theorem d_MD_swaps_42 : PLi b_MD_swaps 42 4 44 := Or.inr ⟨by decide +kernel, rfl⟩
theorem d_MD_swaps_44 : PLi b_MD_swaps 44 3 45 := Or.inl ⟨3, by decide +kernel, rfl, rfl⟩
theorem d_MD_swaps_45 : DJ b_MD_swaps 45 (.if_icmp .le) 48 86 := ⟨41, by decide +kernel, rfl, by decide⟩
theorem d_MD_swaps_48 : PLa b_MD_swaps 48 0 49 := Or.inl ⟨0, by decide +kernel, rfl, rfl⟩
theorem d_MD_swaps_49 : PLi b_MD_swaps 49 3 50 := Or.inl ⟨3, by decide +kernel, rfl, rfl⟩
theorem d_MD_swaps_50 : PLi b_MD_swaps 50 4 52 := Or.inr ⟨by decide +kernel, rfl⟩
theorem d_MD_swaps_52 : DR b_MD_swaps 52 (.invokevirtual 315) 3 55 := ⟨by decide +kernel, rfl⟩
theorem d_MD_swaps_55 : DJ b_MD_swaps 55 (.ifCond .eq) 58 78 := ⟨23, by decide +kernel, rfl, by decide⟩
theorem d_MD_swaps_58 : PLa b_MD_swaps 58 0 59 := Or.inl ⟨0, by decide +kernel, rfl, rfl⟩
theorem d_MD_swaps_59 : PLi b_MD_swaps 59 4 61 := Or.inr ⟨by decide +kernel, rfl⟩
theorem d_MD_swaps_61 : PLi b_MD_swaps 61 3 62 := Or.inl ⟨3, by decide +kernel, rfl, rfl⟩
theorem d_MD_swaps_62 : DR b_MD_swaps 62 (.invokevirtual 315) 3 65 := ⟨by decide +kernel, rfl⟩
theorem d_MD_swaps_65 : DJ b_MD_swaps 65 (.ifCond .eq) 68 78 := ⟨13, by decide +kernel, rfl, by decide⟩
theorem d_MD_swaps_68 : PCi b_MD_swaps 68 10 70 := Or.inr (Or.inl ⟨10, by decide +kernel, by decide, rfl⟩)
theorem d_MD_swaps_70 : PLi b_MD_swaps 70 3 71 := Or.inl ⟨3, by decide +kernel, rfl, rfl⟩
theorem d_MD_swaps_71 : DR b_MD_swaps 71 (.imul) 1 72 := ⟨by decide +kernel, rfl⟩
theorem d_MD_swaps_72 : PLi b_MD_swaps 72 4 74 := Or.inr ⟨by decide +kernel, rfl⟩
theorem d_MD_swaps_74 : DR b_MD_swaps 74 (.iadd) 1 75 := ⟨by decide +kernel, rfl⟩
theorem d_MD_swaps_75 : DJ b_MD_swaps 75 .goto 78 79 := ⟨4, by decide +kernel, rfl, by decide⟩
theorem d_MD_swaps_78 : PLi b_MD_swaps 78 2 79 := Or.inl ⟨2, by decide +kernel, rfl, rfl⟩
theorem d_MD_swaps_79 : PSi b_MD_swaps 79 2 80 := Or.inl ⟨2, by decide +kernel, rfl, rfl⟩
theorem d_MD_swaps_80 : DR b_MD_swaps 80 (.iinc 4 (-1)) 3 83 := ⟨by decide +kernel, rfl⟩
theorem d_MD_swaps_83 : DJ b_MD_swaps 83 .goto 86 42 := ⟨-41, by decide +kernel, rfl, by decide⟩
theorem d_MD_swaps_86 : DR b_MD_swaps 86 (.iinc 3 (-1)) 3 89 := ⟨by decide +kernel, rfl⟩
theorem d_MD_swaps_89 : DJ b_MD_swaps 89 .goto 92 30 := ⟨-59, by decide +kernel, rfl, by decide⟩
theorem d_MD_swaps_92 : PLi b_MD_swaps 92 1 93 := Or.inl ⟨1, by decide +kernel, rfl, rfl⟩
theorem d_MD_swaps_93 : DJ b_MD_swaps 93 (.ifCond .ne) 96 100 := ⟨7, by decide +kernel, rfl, by decide⟩
theorem d_MD_swaps_96 : PLi b_MD_swaps 96 2 97 := Or.inl ⟨2, by decide +kernel, rfl, rfl⟩
theorem d_MD_swaps_97 : DJ b_MD_swaps 97 .goto 100 109 := ⟨12, by decide +kernel, rfl, by decide⟩
theorem d_MD_swaps_100 : PLi b_MD_swaps 100 2 101 := Or.inl ⟨2, by decide +kernel, rfl, rfl⟩
theorem d_MD_swaps_101 : DJ b_MD_swaps 101 (.ifCond .ge) 104 108 := ⟨7, by decide +kernel, rfl, by decide⟩
theorem d_MD_swaps_104 : PCi b_MD_swaps 104 1 105 := Or.inl ⟨1, by decide +kernel, by decide, rfl⟩
theorem d_MD_swaps_105 : DJ b_MD_swaps 105 .goto 108 109 := ⟨4, by decide +kernel, rfl, by decide⟩
theorem d_MD_swaps_108 : PCi b_MD_swaps 108 0 109 := Or.inl ⟨0, by decide +kernel, by decide, rfl⟩
theorem d_MD_swaps_109 : DR b_MD_swaps 109 (.ireturn) 1 110 := ⟨by decide +kernel, rfl⟩
set_option maxRecDepth 20000 in
theorem B_MD_swaps_79 {G : MCx} (hC : C0 G "AccusedChooseModel" b_MD_swaps 5 6) {v1 : Int32} {v3 : Int32} (K30 : Int32 × Int32 × St → Option (Int32 × St)) (hK30 : ∀ (w2 : Int32) (w3 : Int32) (s : St), VO G (RI G b_MD_swaps) (K30 (w2, w3, s)) 30 [(0, .ref (gad G 58)), (1, .int v1), (2, .int w2), (3, .int w3)] [] s) (K42 : Int32 × Int32 × St → Option (Int32 × St)) (hK42 : ∀ (w2 : Int32) (w4 : Int32) (s : St), VO G (RI G b_MD_swaps) (K42 (w2, w4, s)) 42 [(0, .ref (gad G 58)), (1, .int v1), (2, .int w2), (3, .int v3), (4, .int w4)] [] s) (v4 : Int32) (z0 : Int32) (s : St) : VO G (RI G b_MD_swaps) (F_MD_swaps_79 K30 K42 v1 v3 v4 z0 s) 79 [(0, .ref (gad G 58)), (1, .int v1), (3, .int v3), (4, .int v4)] [.int z0] s := by
  unfold F_MD_swaps_79
  refine VO_istore hC d_MD_swaps_79 [(0, .ref (gad G 58)), (1, .int v1), (3, .int v3), (4, .int v4)] rfl (by decide) ?_
  refine VO_iincN hC d_MD_swaps_80 4 rfl (by decide : Int32.ofInt (-1) = -1) [(2, .int z0), (0, .ref (gad G 58)), (1, .int v1), (3, .int v3)] rfl (by decide) ?_
  refine VO_goto hC d_MD_swaps_83 ?_
  exact VO_sub [2, 3, 1, 4, 0] rfl (hK42 z0 (v4 - 1) s)
set_option maxRecDepth 20000 in
theorem B_MD_swaps_78 {G : MCx} (hC : C0 G "AccusedChooseModel" b_MD_swaps 5 6) {v1 : Int32} {v3 : Int32} (K30 : Int32 × Int32 × St → Option (Int32 × St)) (hK30 : ∀ (w2 : Int32) (w3 : Int32) (s : St), VO G (RI G b_MD_swaps) (K30 (w2, w3, s)) 30 [(0, .ref (gad G 58)), (1, .int v1), (2, .int w2), (3, .int w3)] [] s) (K42 : Int32 × Int32 × St → Option (Int32 × St)) (hK42 : ∀ (w2 : Int32) (w4 : Int32) (s : St), VO G (RI G b_MD_swaps) (K42 (w2, w4, s)) 42 [(0, .ref (gad G 58)), (1, .int v1), (2, .int w2), (3, .int v3), (4, .int w4)] [] s) (v2 : Int32) (v4 : Int32) (s : St) : VO G (RI G b_MD_swaps) (F_MD_swaps_78 K30 K42 v1 v2 v3 v4 s) 78 [(0, .ref (gad G 58)), (1, .int v1), (2, .int v2), (3, .int v3), (4, .int v4)] [] s := by
  unfold F_MD_swaps_78
  refine VO_iload hC d_MD_swaps_78 2 rfl ?_
  exact VO_sub [0, 1, 3, 4] rfl (B_MD_swaps_79 hC K30 hK30 K42 hK42 v4 v2 s)
set_option maxRecDepth 20000 in
theorem BH_MD_swaps_42 {G : MCx} (hC : C0 G "AccusedChooseModel" b_MD_swaps 5 6) {v1 : Int32} {v3 : Int32} (K30 : Int32 × Int32 × St → Option (Int32 × St)) (hK30 : ∀ (w2 : Int32) (w3 : Int32) (s : St), VO G (RI G b_MD_swaps) (K30 (w2, w3, s)) 30 [(0, .ref (gad G 58)), (1, .int v1), (2, .int w2), (3, .int w3)] [] s) (K42 : Int32 × Int32 × St → Option (Int32 × St)) (hK42 : ∀ (w2 : Int32) (w4 : Int32) (s : St), VO G (RI G b_MD_swaps) (K42 (w2, w4, s)) 42 [(0, .ref (gad G 58)), (1, .int v1), (2, .int w2), (3, .int v3), (4, .int w4)] [] s) (v2 : Int32) (v4 : Int32) (s : St) : VO G (RI G b_MD_swaps) (H_MD_swaps_42 K30 v1 v3 K42 v2 v4 s) 42 [(0, .ref (gad G 58)), (1, .int v1), (2, .int v2), (3, .int v3), (4, .int v4)] [] s := by
  unfold H_MD_swaps_42
  refine VO_iload hC d_MD_swaps_42 4 rfl ?_
  refine VO_iload hC d_MD_swaps_44 3 rfl ?_
  refine VO_icmp_le hC d_MD_swaps_45 (fun _ => ?_) (fun _ => ?_)
  · refine VO_iincN hC d_MD_swaps_86 3 rfl (by decide : Int32.ofInt (-1) = -1) [(0, .ref (gad G 58)), (1, .int v1), (2, .int v2), (4, .int v4)] rfl (by decide) ?_
    refine VO_goto hC d_MD_swaps_89 ?_
    exact VO_sub [1, 2, 3, 0] rfl (hK30 v2 (v3 - 1) s)
  · refine VO_aload hC d_MD_swaps_48 0 rfl ?_
    refine VO_iload hC d_MD_swaps_49 3 rfl ?_
    refine VO_iload hC d_MD_swaps_50 4 rfl ?_
    refine VO_callVI hC [.int v3, .int v4] [] ml_MD_315 d_MD_swaps_52 yv_MD_mayHave sh_MD rfl rfl (fun o h => M_MD_mayHave hC.inj h) (by decide) rfl rfl (Nat.le_of_ble_eq_true rfl) (fun o5 => ?_)
    refine VO_if_eq hC d_MD_swaps_55 (fun _ => ?_) (fun _ => ?_)
    · exact (B_MD_swaps_78 hC K30 hK30 K42 hK42 v2 v4 o5.2)
    · refine VO_aload hC d_MD_swaps_58 0 rfl ?_
      refine VO_iload hC d_MD_swaps_59 4 rfl ?_
      refine VO_iload hC d_MD_swaps_61 3 rfl ?_
      refine VO_callVI hC [.int v4, .int v3] [] ml_MD_315 d_MD_swaps_62 yv_MD_mayHave sh_MD rfl rfl (fun o h => M_MD_mayHave hC.inj h) (by decide) rfl rfl (Nat.le_of_ble_eq_true rfl) (fun o6 => ?_)
      refine VO_if_eq hC d_MD_swaps_65 (fun _ => ?_) (fun _ => ?_)
      · exact (B_MD_swaps_78 hC K30 hK30 K42 hK42 v2 v4 o6.2)
      · refine VO_const hC d_MD_swaps_68 ?_
        refine VO_iload hC d_MD_swaps_70 3 rfl ?_
        refine VO_imul hC d_MD_swaps_71 ?_
        refine VO_iload hC d_MD_swaps_72 4 rfl ?_
        refine VO_iadd hC d_MD_swaps_74 ?_
        refine VO_goto hC d_MD_swaps_75 ?_
        exact VO_sub [0, 1, 3, 4] rfl (B_MD_swaps_79 hC K30 hK30 K42 hK42 v4 (((10 : Int32) * v3) + v4) o6.2)
set_option maxRecDepth 20000 in
theorem B_MD_swaps_42 {G : MCx} (hC : C0 G "AccusedChooseModel" b_MD_swaps 5 6) {v1 : Int32} (K30 : Int32 × Int32 × St → Option (Int32 × St)) (hK30 : ∀ (w2 : Int32) (w3 : Int32) (s : St), VO G (RI G b_MD_swaps) (K30 (w2, w3, s)) 30 [(0, .ref (gad G 58)), (1, .int v1), (2, .int w2), (3, .int w3)] [] s) (v2 : Int32) (v3 : Int32) (v4 : Int32) (s : St) : VO G (RI G b_MD_swaps) (F_MD_swaps_42 K30 v1 v2 v3 v4 s) 42 [(0, .ref (gad G 58)), (1, .int v1), (2, .int v2), (3, .int v3), (4, .int v4)] [] s := by
  exact VO_fix (G_MD_swaps_42 K30 v1 v3) 42 (fun q => [(0, .ref (gad G 58)), (1, .int v1), (2, .int q.1), (3, .int v3), (4, .int q.2.1)]) (fun q => q.2.2) (fun K hK q => BH_MD_swaps_42 hC K30 hK30 K (fun w2 w4 s => hK (w2, w4, s)) q.1 q.2.1 q.2.2) FUEL (v2, v4, s)
set_option maxRecDepth 20000 in
theorem BH_MD_swaps_30 {G : MCx} (hC : C0 G "AccusedChooseModel" b_MD_swaps 5 6) {v1 : Int32} (K30 : Int32 × Int32 × St → Option (Int32 × St)) (hK30 : ∀ (w2 : Int32) (w3 : Int32) (s : St), VO G (RI G b_MD_swaps) (K30 (w2, w3, s)) 30 [(0, .ref (gad G 58)), (1, .int v1), (2, .int w2), (3, .int w3)] [] s) (v2 : Int32) (v3 : Int32) (s : St) : VO G (RI G b_MD_swaps) (H_MD_swaps_30 v1 K30 v2 v3 s) 30 [(0, .ref (gad G 58)), (1, .int v1), (2, .int v2), (3, .int v3)] [] s := by
  unfold H_MD_swaps_30
  refine VO_iload hC d_MD_swaps_30 3 rfl ?_
  refine VO_if_lt hC d_MD_swaps_31 (fun _ => ?_) (fun _ => ?_)
  · refine VO_iload hC d_MD_swaps_92 1 rfl ?_
    refine VO_if_ne hC d_MD_swaps_93 (fun _ => ?_) (fun _ => ?_)
    · refine VO_iload hC d_MD_swaps_96 2 rfl ?_
      refine VO_goto hC d_MD_swaps_97 ?_
      exact VO_ireturn d_MD_swaps_109
    · refine VO_iload hC d_MD_swaps_100 2 rfl ?_
      refine VO_if_ge hC d_MD_swaps_101 (fun _ => ?_) (fun _ => ?_)
      · refine VO_const hC d_MD_swaps_108 ?_
        exact VO_ireturn d_MD_swaps_109
      · refine VO_const hC d_MD_swaps_104 ?_
        refine VO_goto hC d_MD_swaps_105 ?_
        exact VO_ireturn d_MD_swaps_109
  · refine VO_aload hC d_MD_swaps_34 0 rfl ?_
    refine VO_geti hC fl_MD_90 sh_MD rfl d_MD_swaps_35 ?_
    refine VO_const hC d_MD_swaps_38 ?_
    refine VO_isub hC d_MD_swaps_39 ?_
    refine VO_istoreB hC d_MD_swaps_40 [(0, .ref (gad G 58)), (1, .int v1), (2, .int v2), (3, .int v3)] rfl (by decide) (fun x4 => ?_)
    exact VO_sub [1, 2, 3, 4, 0] rfl (B_MD_swaps_42 hC K30 hK30 v2 v3 x4 s)
set_option maxRecDepth 20000 in
theorem B_MD_swaps_30 {G : MCx} (hC : C0 G "AccusedChooseModel" b_MD_swaps 5 6) (v1 : Int32) (v2 : Int32) (v3 : Int32) (s : St) : VO G (RI G b_MD_swaps) (F_MD_swaps_30 v1 v2 v3 s) 30 [(0, .ref (gad G 58)), (1, .int v1), (2, .int v2), (3, .int v3)] [] s := by
  exact VO_fix (G_MD_swaps_30 v1) 30 (fun q => [(0, .ref (gad G 58)), (1, .int v1), (2, .int q.1), (3, .int q.2.1)]) (fun q => q.2.2) (fun K hK q => BH_MD_swaps_30 hC K (fun w2 w3 s => hK (w2, w3, s)) q.1 q.2.1 q.2.2) FUEL (v2, v3, s)
set_option maxRecDepth 20000 in
theorem B_MD_swaps {G : MCx} (hC : C0 G "AccusedChooseModel" b_MD_swaps 5 6) (a1 : Int32) (s : St) : VO G (RI G b_MD_swaps) (F_MD_swaps a1 s) 0 [(0, .ref (gad G 58)), (1, .int a1)] [] s := by
  unfold F_MD_swaps
  refine VO_iload hC d_MD_swaps_0 1 rfl ?_
  refine VO_const hC d_MD_swaps_1 ?_
  refine VO_const hC d_MD_swaps_2 ?_
  refine VO_callSI hC [.int a1, .int (0 : Int32), .int (1 : Int32)] [] ml_MD_115 d_MD_swaps_3 ys_MD_isIn (fun o h => M_MD_isIn hC.inj h) (by decide) rfl rfl (Nat.le_of_ble_eq_true rfl) (fun o1 => ?_)
  refine VO_if_ne hC d_MD_swaps_6 (fun _ => ?_) (fun _ => ?_)
  · refine VO_aload hC d_MD_swaps_9 0 rfl ?_
    refine VO_const hC d_MD_swaps_10 ?_
    refine VO_callVI hC [.int (-2 : Int32)] [] ml_MD_104 d_MD_swaps_12 yv_MD_no sh_MD rfl rfl (fun o h => M_MD_no hC.inj h) (by decide) rfl rfl (Nat.le_of_ble_eq_true rfl) (fun o7 => ?_)
    exact VO_ireturn d_MD_swaps_15
  · refine VO_aload hC d_MD_swaps_16 0 rfl ?_
    refine VO_callVV hC [] [] ml_MD_239 d_MD_swaps_17 yv_MD_findFromLast sh_MD rfl rfl (fun o h => M_MD_findFromLast hC.inj h) (by decide) rfl rfl (Nat.le_of_ble_eq_true rfl) (fun s2 => ?_)
    refine VO_const hC d_MD_swaps_20 ?_
    refine VO_istore hC d_MD_swaps_22 [(0, .ref (gad G 58)), (1, .int a1)] rfl (by decide) ?_
    refine VO_aload hC d_MD_swaps_23 1 rfl ?_
    refine VO_geti hC fl_MD_90 sh_MD rfl d_MD_swaps_24 ?_
    refine VO_const hC d_MD_swaps_27 ?_
    refine VO_isub hC d_MD_swaps_28 ?_
    refine VO_istoreB hC d_MD_swaps_29 [(2, .int (-9 : Int32)), (0, .ref (gad G 58)), (1, .int a1)] rfl (by decide) (fun x3 => ?_)
    exact VO_sub [2, 3, 1, 0] rfl (B_MD_swaps_30 hC a1 (-9 : Int32) x3 s2)
set_option maxRecDepth 20000 in
theorem M_MD_swaps {l : Launch} {D : va_G} {ad : Nat → Nat} {cI cL : ClassId} (hj : Inj ad) {a1 : Int32} {s : St} {o : Int32 × St} (h : F_MD_swaps a1 s = some o) : Cn l D ad cI cL y_MD_swaps b_MD_swaps 5 (some .int) 6 [.ref (ad 58), .int a1] s (some (.int o.1)) o.2 := by
  refine Cn_ofI hj (plainFor_of_name (by decide)) (Nat.le_of_ble_eq_true rfl) [(0, .ref (ad 58)), (1, .int a1)] rfl (fun G hC e1 e2 e3 e4 e5 hR => ?_)
  subst e1; subst e2; subst e3; subst e4; subst e5
  exact B_MD_swaps hC a1 s o h hR
theorem d_MD_heavier_0 : PLa b_MD_heavier 0 0 1 := Or.inl ⟨0, by decide +kernel, rfl, rfl⟩
theorem d_MD_heavier_1 : PLi b_MD_heavier 1 1 2 := Or.inl ⟨1, by decide +kernel, rfl, rfl⟩
theorem d_MD_heavier_2 : DR b_MD_heavier 2 (.invokevirtual 93) 3 5 := ⟨by decide +kernel, rfl⟩
theorem d_MD_heavier_5 : DJ b_MD_heavier 5 (.ifCond .eq) 8 16 := ⟨11, by decide +kernel, rfl, by decide⟩
theorem d_MD_heavier_8 : PLa b_MD_heavier 8 0 9 := Or.inl ⟨0, by decide +kernel, rfl, rfl⟩
theorem d_MD_heavier_9 : PLi b_MD_heavier 9 2 10 := Or.inl ⟨2, by decide +kernel, rfl, rfl⟩
theorem d_MD_heavier_10 : DR b_MD_heavier 10 (.invokevirtual 140) 3 13 := ⟨by decide +kernel, rfl⟩
theorem d_MD_heavier_13 : DJ b_MD_heavier 13 (.ifCond .ne) 16 22 := ⟨9, by decide +kernel, rfl, by decide⟩
theorem d_MD_heavier_16 : PLa b_MD_heavier 16 0 17 := Or.inl ⟨0, by decide +kernel, rfl, rfl⟩
theorem d_MD_heavier_17 : PCi b_MD_heavier 17 (-1) 18 := Or.inl ⟨(-1), by decide +kernel, by decide, rfl⟩
theorem d_MD_heavier_18 : DR b_MD_heavier 18 (.invokevirtual 104) 3 21 := ⟨by decide +kernel, rfl⟩
theorem d_MD_heavier_21 : DR b_MD_heavier 21 (.ireturn) 1 22 := ⟨by decide +kernel, rfl⟩
theorem d_MD_heavier_22 : PLa b_MD_heavier 22 0 23 := Or.inl ⟨0, by decide +kernel, rfl, rfl⟩
theorem d_MD_heavier_23 : DR b_MD_heavier 23 (.getfield 16) 3 26 := ⟨by decide +kernel, rfl⟩
theorem d_MD_heavier_26 : PLi b_MD_heavier 26 2 27 := Or.inl ⟨2, by decide +kernel, rfl, rfl⟩
theorem d_MD_heavier_27 : DR b_MD_heavier 27 (.iaload) 1 28 := ⟨by decide +kernel, rfl⟩
theorem d_MD_heavier_28 : PSi b_MD_heavier 28 3 29 := Or.inl ⟨3, by decide +kernel, rfl, rfl⟩
theorem d_MD_heavier_29 : PCi b_MD_heavier 29 (-9) 31 := Or.inr (Or.inl ⟨(-9), by decide +kernel, by decide, rfl⟩)
theorem d_MD_heavier_31 : PSi b_MD_heavier 31 4 33 := Or.inr ⟨by decide +kernel, rfl⟩
theorem d_MD_heavier_33 : PCi b_MD_heavier 33 0 34 := Or.inl ⟨0, by decide +kernel, by decide, rfl⟩
theorem d_MD_heavier_34 : PSi b_MD_heavier 34 5 36 := Or.inr ⟨by decide +kernel, rfl⟩
theorem d_MD_heavier_36 : PLi b_MD_heavier 36 5 38 := Or.inr ⟨by decide +kernel, rfl⟩
theorem d_MD_heavier_38 : PCi b_MD_heavier 38 10 40 := Or.inr (Or.inl ⟨10, by decide +kernel, by decide, rfl⟩)
theorem d_MD_heavier_40 : DJ b_MD_heavier 40 (.if_icmp .ge) 43 80 := ⟨40, by decide +kernel, rfl, by decide⟩
theorem d_MD_heavier_43 : PLa b_MD_heavier 43 0 44 := Or.inl ⟨0, by decide +kernel, rfl, rfl⟩
theorem d_MD_heavier_44 : DR b_MD_heavier 44 (.getfield 16) 3 47 := ⟨by decide +kernel, rfl⟩
theorem d_MD_heavier_47 : PLi b_MD_heavier 47 2 48 := Or.inl ⟨2, by decide +kernel, rfl, rfl⟩
theorem d_MD_heavier_48 : PLi b_MD_heavier 48 5 50 := Or.inr ⟨by decide +kernel, rfl⟩
theorem d_MD_heavier_50 : DR b_MD_heavier 50 (.iastore) 1 51 := ⟨by decide +kernel, rfl⟩
theorem d_MD_heavier_51 : PLa b_MD_heavier 51 0 52 := Or.inl ⟨0, by decide +kernel, rfl, rfl⟩
theorem d_MD_heavier_52 : DR b_MD_heavier 52 (.invokevirtual 215) 3 55 := ⟨by decide +kernel, rfl⟩
theorem d_MD_heavier_55 : PLa b_MD_heavier 55 0 56 := Or.inl ⟨0, by decide +kernel, rfl, rfl⟩
theorem d_MD_heavier_56 : DR b_MD_heavier 56 (.getfield 56) 3 59 := ⟨by decide +kernel, rfl⟩
theorem d_MD_heavier_59 : PLi b_MD_heavier 59 1 60 := Or.inl ⟨1, by decide +kernel, rfl, rfl⟩
theorem d_MD_heavier_60 : DR b_MD_heavier 60 (.iaload) 1 61 := ⟨by decide +kernel, rfl⟩
theorem d_MD_heavier_61 : PLi b_MD_heavier 61 2 62 := Or.inl ⟨2, by decide +kernel, rfl, rfl⟩
theorem d_MD_heavier_62 : DJ b_MD_heavier 62 (.if_icmp .ne) 65 70 := ⟨8, by decide +kernel, rfl, by decide⟩
theorem d_MD_heavier_65 : PLi b_MD_heavier 65 5 67 := Or.inr ⟨by decide +kernel, rfl⟩
theorem d_MD_heavier_67 : DJ b_MD_heavier 67 .goto 70 72 := ⟨5, by decide +kernel, rfl, by decide⟩
theorem d_MD_heavier_70 : PLi b_MD_heavier 70 4 72 := Or.inr ⟨by decide +kernel, rfl⟩
theorem d_MD_heavier_72 : PSi b_MD_heavier 72 4 74 := Or.inr ⟨by decide +kernel, rfl⟩
theorem d_MD_heavier_74 : DR b_MD_heavier 74 (.iinc 5 1) 3 77 := ⟨by decide +kernel, rfl⟩
theorem d_MD_heavier_77 : DJ b_MD_heavier 77 .goto 80 36 := ⟨-41, by decide +kernel, rfl, by decide⟩
theorem d_MD_heavier_80 : PLa b_MD_heavier 80 0 81 := Or.inl ⟨0, by decide +kernel, rfl, rfl⟩
theorem d_MD_heavier_81 : DR b_MD_heavier 81 (.getfield 16) 3 84 := ⟨by decide +kernel, rfl⟩
theorem d_MD_heavier_84 : PLi b_MD_heavier 84 2 85 := Or.inl ⟨2, by decide +kernel, rfl, rfl⟩
theorem d_MD_heavier_85 : PLi b_MD_heavier 85 3 86 := Or.inl ⟨3, by decide +kernel, rfl, rfl⟩
theorem d_MD_heavier_86 : DR b_MD_heavier 86 (.iastore) 1 87 := ⟨by decide +kernel, rfl⟩
theorem d_MD_heavier_87 : PLi b_MD_heavier 87 4 89 := Or.inr ⟨by decide +kernel, rfl⟩
theorem d_MD_heavier_89 : DR b_MD_heavier 89 (.ireturn) 1 90 := ⟨by decide +kernel, rfl⟩
set_option maxRecDepth 20000 in
theorem B_MD_heavier_16 {G : MCx} (hC : C0 G "AccusedChooseModel" b_MD_heavier 6 6) (s : St) : VO G (RI G b_MD_heavier) (F_MD_heavier_16 s) 16 [(0, .ref (gad G 58))] [] s := by
  unfold F_MD_heavier_16
  refine VO_aload hC d_MD_heavier_16 0 rfl ?_
  refine VO_const hC d_MD_heavier_17 ?_
  refine VO_callVI hC [.int (-1 : Int32)] [] ml_MD_104 d_MD_heavier_18 yv_MD_no sh_MD rfl rfl (fun o h => M_MD_no hC.inj h) (by decide) rfl rfl (Nat.le_of_ble_eq_true rfl) (fun o2 => ?_)
  exact VO_ireturn d_MD_heavier_21
set_option maxRecDepth 20000 in
theorem B_MD_heavier_72 {G : MCx} (hC : C0 G "AccusedChooseModel" b_MD_heavier 6 6) {v1 : Int32} {v2 : Int32} {v3 : Int32} (K36 : Int32 × Int32 × St → Option (Int32 × St)) (hK36 : ∀ (w4 : Int32) (w5 : Int32) (s : St), VO G (RI G b_MD_heavier) (K36 (w4, w5, s)) 36 [(0, .ref (gad G 58)), (1, .int v1), (2, .int v2), (3, .int v3), (4, .int w4), (5, .int w5)] [] s) (v5 : Int32) (z0 : Int32) (s : St) : VO G (RI G b_MD_heavier) (F_MD_heavier_72 K36 v1 v2 v3 v5 z0 s) 72 [(0, .ref (gad G 58)), (1, .int v1), (2, .int v2), (3, .int v3), (5, .int v5)] [.int z0] s := by
  unfold F_MD_heavier_72
  refine VO_istore hC d_MD_heavier_72 [(0, .ref (gad G 58)), (1, .int v1), (2, .int v2), (3, .int v3), (5, .int v5)] rfl (by decide) ?_
  refine VO_iinc hC d_MD_heavier_74 5 rfl (by decide : Int32.ofInt 1 = 1) [(4, .int z0), (0, .ref (gad G 58)), (1, .int v1), (2, .int v2), (3, .int v3)] rfl (by decide) ?_
  refine VO_goto hC d_MD_heavier_77 ?_
  exact VO_sub [2, 3, 4, 5, 1, 0] rfl (hK36 z0 (v5 + 1) s)
set_option maxRecDepth 20000 in
theorem BH_MD_heavier_36 {G : MCx} (hC : C0 G "AccusedChooseModel" b_MD_heavier 6 6) {v1 : Int32} {v2 : Int32} {v3 : Int32} (K36 : Int32 × Int32 × St → Option (Int32 × St)) (hK36 : ∀ (w4 : Int32) (w5 : Int32) (s : St), VO G (RI G b_MD_heavier) (K36 (w4, w5, s)) 36 [(0, .ref (gad G 58)), (1, .int v1), (2, .int v2), (3, .int v3), (4, .int w4), (5, .int w5)] [] s) (v4 : Int32) (v5 : Int32) (s : St) : VO G (RI G b_MD_heavier) (H_MD_heavier_36 v1 v2 v3 K36 v4 v5 s) 36 [(0, .ref (gad G 58)), (1, .int v1), (2, .int v2), (3, .int v3), (4, .int v4), (5, .int v5)] [] s := by
  unfold H_MD_heavier_36
  refine VO_iload hC d_MD_heavier_36 5 rfl ?_
  refine VO_const hC d_MD_heavier_38 ?_
  refine VO_icmp_ge hC d_MD_heavier_40 (fun _ => ?_) (fun _ => ?_)
  · refine VO_aload hC d_MD_heavier_80 0 rfl ?_
    refine VO_getr (r := 61) hC fl_MD_16 sh_MD rfl d_MD_heavier_81 ?_
    refine VO_iload hC d_MD_heavier_84 2 rfl ?_
    refine VO_iload hC d_MD_heavier_85 3 rfl ?_
    refine VO_iastore hC ia_61 d_MD_heavier_86 (fun s5 => ?_)
    refine VO_iload hC d_MD_heavier_87 4 rfl ?_
    exact VO_ireturn d_MD_heavier_89
  · refine VO_aload hC d_MD_heavier_43 0 rfl ?_
    refine VO_getr (r := 61) hC fl_MD_16 sh_MD rfl d_MD_heavier_44 ?_
    refine VO_iload hC d_MD_heavier_47 2 rfl ?_
    refine VO_iload hC d_MD_heavier_48 5 rfl ?_
    refine VO_iastore hC ia_61 d_MD_heavier_50 (fun s6 => ?_)
    refine VO_aload hC d_MD_heavier_51 0 rfl ?_
    refine VO_callVV hC [] [] ml_MD_215 d_MD_heavier_52 yv_MD_goes sh_MD rfl rfl (fun o h => M_MD_goes hC.inj h) (by decide) rfl rfl (Nat.le_of_ble_eq_true rfl) (fun s7 => ?_)
    refine VO_aload hC d_MD_heavier_55 0 rfl ?_
    refine VO_getr (r := 73) hC fl_MD_56 sh_MD rfl d_MD_heavier_56 ?_
    refine VO_iload hC d_MD_heavier_59 1 rfl ?_
    refine VO_iaload hC ia_73 d_MD_heavier_60 (fun x8 => ?_)
    refine VO_iload hC d_MD_heavier_61 2 rfl ?_
    refine VO_icmp_ne hC d_MD_heavier_62 (fun _ => ?_) (fun _ => ?_)
    · refine VO_iload hC d_MD_heavier_65 5 rfl ?_
      refine VO_goto hC d_MD_heavier_67 ?_
      exact VO_sub [0, 1, 2, 3, 5] rfl (B_MD_heavier_72 hC K36 hK36 v5 v5 s7)
    · refine VO_iload hC d_MD_heavier_70 4 rfl ?_
      exact VO_sub [0, 1, 2, 3, 5] rfl (B_MD_heavier_72 hC K36 hK36 v5 v4 s7)
set_option maxRecDepth 20000 in
theorem B_MD_heavier_36 {G : MCx} (hC : C0 G "AccusedChooseModel" b_MD_heavier 6 6) (v1 : Int32) (v2 : Int32) (v3 : Int32) (v4 : Int32) (v5 : Int32) (s : St) : VO G (RI G b_MD_heavier) (F_MD_heavier_36 v1 v2 v3 v4 v5 s) 36 [(0, .ref (gad G 58)), (1, .int v1), (2, .int v2), (3, .int v3), (4, .int v4), (5, .int v5)] [] s := by
  exact VO_fix (G_MD_heavier_36 v1 v2 v3) 36 (fun q => [(0, .ref (gad G 58)), (1, .int v1), (2, .int v2), (3, .int v3), (4, .int q.1), (5, .int q.2.1)]) (fun q => q.2.2) (fun K hK q => BH_MD_heavier_36 hC K (fun w4 w5 s => hK (w4, w5, s)) q.1 q.2.1 q.2.2) FUEL (v4, v5, s)
set_option maxRecDepth 20000 in
theorem B_MD_heavier {G : MCx} (hC : C0 G "AccusedChooseModel" b_MD_heavier 6 6) (a1 : Int32) (a2 : Int32) (s : St) : VO G (RI G b_MD_heavier) (F_MD_heavier a1 a2 s) 0 [(0, .ref (gad G 58)), (1, .int a1), (2, .int a2)] [] s := by
  unfold F_MD_heavier
  refine VO_aload hC d_MD_heavier_0 0 rfl ?_
  refine VO_iload hC d_MD_heavier_1 1 rfl ?_
  refine VO_callVI hC [.int a1] [] ml_MD_93 d_MD_heavier_2 yv_MD_isPerson sh_MD rfl rfl (fun o h => M_MD_isPerson hC.inj h) (by decide) rfl rfl (Nat.le_of_ble_eq_true rfl) (fun o1 => ?_)
  refine VO_if_eq hC d_MD_heavier_5 (fun _ => ?_) (fun _ => ?_)
  · exact VO_sub [0] rfl (B_MD_heavier_16 hC o1.2)
  · refine VO_aload hC d_MD_heavier_8 0 rfl ?_
    refine VO_iload hC d_MD_heavier_9 2 rfl ?_
    refine VO_callVI hC [.int a2] [] ml_MD_140 d_MD_heavier_10 yv_MD_isDeed sh_MD rfl rfl (fun o h => M_MD_isDeed hC.inj h) (by decide) rfl rfl (Nat.le_of_ble_eq_true rfl) (fun o3 => ?_)
    refine VO_if_ne hC d_MD_heavier_13 (fun _ => ?_) (fun _ => ?_)
    · exact VO_sub [0] rfl (B_MD_heavier_16 hC o3.2)
    · refine VO_aload hC d_MD_heavier_22 0 rfl ?_
      refine VO_getr (r := 61) hC fl_MD_16 sh_MD rfl d_MD_heavier_23 ?_
      refine VO_iload hC d_MD_heavier_26 2 rfl ?_
      refine VO_iaload hC ia_61 d_MD_heavier_27 (fun x4 => ?_)
      refine VO_istore hC d_MD_heavier_28 [(0, .ref (gad G 58)), (1, .int a1), (2, .int a2)] rfl (by decide) ?_
      refine VO_const hC d_MD_heavier_29 ?_
      refine VO_istore hC d_MD_heavier_31 [(3, .int x4), (0, .ref (gad G 58)), (1, .int a1), (2, .int a2)] rfl (by decide) ?_
      refine VO_const hC d_MD_heavier_33 ?_
      refine VO_istore hC d_MD_heavier_34 [(4, .int (-9 : Int32)), (3, .int x4), (0, .ref (gad G 58)), (1, .int a1), (2, .int a2)] rfl (by decide) ?_
      exact VO_sub [3, 4, 5, 2, 1, 0] rfl (B_MD_heavier_36 hC a1 a2 x4 (-9 : Int32) (0 : Int32) o3.2)
set_option maxRecDepth 20000 in
theorem M_MD_heavier {l : Launch} {D : va_G} {ad : Nat → Nat} {cI cL : ClassId} (hj : Inj ad) {a1 : Int32} {a2 : Int32} {s : St} {o : Int32 × St} (h : F_MD_heavier a1 a2 s = some o) : Cn l D ad cI cL y_MD_heavier b_MD_heavier 6 (some .int) 6 [.ref (ad 58), .int a1, .int a2] s (some (.int o.1)) o.2 := by
  refine Cn_ofI hj (plainFor_of_name (by decide)) (Nat.le_of_ble_eq_true rfl) [(0, .ref (ad 58)), (1, .int a1), (2, .int a2)] rfl (fun G hC e1 e2 e3 e4 e5 hR => ?_)
  subst e1; subst e2; subst e3; subst e4; subst e5
  exact B_MD_heavier hC a1 a2 s o h hR
theorem d_MD_monthsHaving_0 : PLa b_MD_monthsHaving 0 0 1 := Or.inl ⟨0, by decide +kernel, rfl, rfl⟩
theorem d_MD_monthsHaving_1 : DR b_MD_monthsHaving 1 (.getfield 25) 3 4 := ⟨by decide +kernel, rfl⟩
theorem d_MD_monthsHaving_4 : PLi b_MD_monthsHaving 4 1 5 := Or.inl ⟨1, by decide +kernel, rfl, rfl⟩
theorem d_MD_monthsHaving_5 : DR b_MD_monthsHaving 5 (.iaload) 1 6 := ⟨by decide +kernel, rfl⟩
theorem d_MD_monthsHaving_6 : PSi b_MD_monthsHaving 6 3 7 := Or.inl ⟨3, by decide +kernel, rfl, rfl⟩
theorem d_MD_monthsHaving_7 : PLa b_MD_monthsHaving 7 0 8 := Or.inl ⟨0, by decide +kernel, rfl, rfl⟩
theorem d_MD_monthsHaving_8 : DR b_MD_monthsHaving 8 (.getfield 25) 3 11 := ⟨by decide +kernel, rfl⟩
theorem d_MD_monthsHaving_11 : PLi b_MD_monthsHaving 11 1 12 := Or.inl ⟨1, by decide +kernel, rfl, rfl⟩
theorem d_MD_monthsHaving_12 : PLi b_MD_monthsHaving 12 2 13 := Or.inl ⟨2, by decide +kernel, rfl, rfl⟩
theorem d_MD_monthsHaving_13 : DR b_MD_monthsHaving 13 (.iastore) 1 14 := ⟨by decide +kernel, rfl⟩
theorem d_MD_monthsHaving_14 : PLa b_MD_monthsHaving 14 0 15 := Or.inl ⟨0, by decide +kernel, rfl, rfl⟩
theorem d_MD_monthsHaving_15 : DR b_MD_monthsHaving 15 (.invokevirtual 215) 3 18 := ⟨by decide +kernel, rfl⟩
theorem d_MD_monthsHaving_18 : PLa b_MD_monthsHaving 18 0 19 := Or.inl ⟨0, by decide +kernel, rfl, rfl⟩
theorem d_MD_monthsHaving_19 : PLi b_MD_monthsHaving 19 1 20 := Or.inl ⟨1, by decide +kernel, rfl, rfl⟩
theorem d_MD_monthsHaving_20 : DR b_MD_monthsHaving 20 (.invokevirtual 212) 3 23 := ⟨by decide +kernel, rfl⟩
theorem d_MD_monthsHaving_23 : PSi b_MD_monthsHaving 23 4 25 := Or.inr ⟨by decide +kernel, rfl⟩
theorem d_MD_monthsHaving_25 : PLa b_MD_monthsHaving 25 0 26 := Or.inl ⟨0, by decide +kernel, rfl, rfl⟩
theorem d_MD_monthsHaving_26 : DR b_MD_monthsHaving 26 (.getfield 25) 3 29 := ⟨by decide +kernel, rfl⟩
theorem d_MD_monthsHaving_29 : PLi b_MD_monthsHaving 29 1 30 := Or.inl ⟨1, by decide +kernel, rfl, rfl⟩
theorem d_MD_monthsHaving_30 : PLi b_MD_monthsHaving 30 3 31 := Or.inl ⟨3, by decide +kernel, rfl, rfl⟩
theorem d_MD_monthsHaving_31 : DR b_MD_monthsHaving 31 (.iastore) 1 32 := ⟨by decide +kernel, rfl⟩
theorem d_MD_monthsHaving_32 : PLi b_MD_monthsHaving 32 4 34 := Or.inr ⟨by decide +kernel, rfl⟩
theorem d_MD_monthsHaving_34 : DR b_MD_monthsHaving 34 (.ireturn) 1 35 := ⟨by decide +kernel, rfl⟩
set_option maxRecDepth 20000 in
theorem B_MD_monthsHaving {G : MCx} (hC : C0 G "AccusedChooseModel" b_MD_monthsHaving 5 6) (a1 : Int32) (a2 : Int32) (s : St) : VO G (RI G b_MD_monthsHaving) (F_MD_monthsHaving a1 a2 s) 0 [(0, .ref (gad G 58)), (1, .int a1), (2, .int a2)] [] s := by
  unfold F_MD_monthsHaving
  refine VO_aload hC d_MD_monthsHaving_0 0 rfl ?_
  refine VO_getr (r := 64) hC fl_MD_25 sh_MD rfl d_MD_monthsHaving_1 ?_
  refine VO_iload hC d_MD_monthsHaving_4 1 rfl ?_
  refine VO_iaload hC ia_64 d_MD_monthsHaving_5 (fun x1 => ?_)
  refine VO_istore hC d_MD_monthsHaving_6 [(0, .ref (gad G 58)), (1, .int a1), (2, .int a2)] rfl (by decide) ?_
  refine VO_aload hC d_MD_monthsHaving_7 1 rfl ?_
  refine VO_getr (r := 64) hC fl_MD_25 sh_MD rfl d_MD_monthsHaving_8 ?_
  refine VO_iload hC d_MD_monthsHaving_11 2 rfl ?_
  refine VO_iload hC d_MD_monthsHaving_12 3 rfl ?_
  refine VO_iastore hC ia_64 d_MD_monthsHaving_13 (fun s2 => ?_)
  refine VO_aload hC d_MD_monthsHaving_14 1 rfl ?_
  refine VO_callVV hC [] [] ml_MD_215 d_MD_monthsHaving_15 yv_MD_goes sh_MD rfl rfl (fun o h => M_MD_goes hC.inj h) (by decide) rfl rfl (Nat.le_of_ble_eq_true rfl) (fun s3 => ?_)
  refine VO_aload hC d_MD_monthsHaving_18 1 rfl ?_
  refine VO_iload hC d_MD_monthsHaving_19 2 rfl ?_
  refine VO_callVI hC [.int a1] [] ml_MD_212 d_MD_monthsHaving_20 yv_MD_hasMonths sh_MD rfl rfl (fun o h => M_MD_hasMonths hC.inj h) (by decide) rfl rfl (Nat.le_of_ble_eq_true rfl) (fun o4 => ?_)
  refine VO_istore hC d_MD_monthsHaving_23 [(3, .int x1), (0, .ref (gad G 58)), (1, .int a1), (2, .int a2)] rfl (by decide) ?_
  refine VO_aload hC d_MD_monthsHaving_25 2 rfl ?_
  refine VO_getr (r := 64) hC fl_MD_25 sh_MD rfl d_MD_monthsHaving_26 ?_
  refine VO_iload hC d_MD_monthsHaving_29 3 rfl ?_
  refine VO_iload hC d_MD_monthsHaving_30 1 rfl ?_
  refine VO_iastore hC ia_64 d_MD_monthsHaving_31 (fun s5 => ?_)
  refine VO_iload hC d_MD_monthsHaving_32 0 rfl ?_
  exact VO_ireturn d_MD_monthsHaving_34
set_option maxRecDepth 20000 in
theorem M_MD_monthsHaving {l : Launch} {D : va_G} {ad : Nat → Nat} {cI cL : ClassId} (hj : Inj ad) {a1 : Int32} {a2 : Int32} {s : St} {o : Int32 × St} (h : F_MD_monthsHaving a1 a2 s = some o) : Cn l D ad cI cL y_MD_monthsHaving b_MD_monthsHaving 5 (some .int) 6 [.ref (ad 58), .int a1, .int a2] s (some (.int o.1)) o.2 := by
  refine Cn_ofI hj (plainFor_of_name (by decide)) (Nat.le_of_ble_eq_true rfl) [(0, .ref (ad 58)), (1, .int a1), (2, .int a2)] rfl (fun G hC e1 e2 e3 e4 e5 hR => ?_)
  subst e1; subst e2; subst e3; subst e4; subst e5
  exact B_MD_monthsHaving hC a1 a2 s o h hR
theorem d_MD_bestDid_0 : PLa b_MD_bestDid 0 0 1 := Or.inl ⟨0, by decide +kernel, rfl, rfl⟩
theorem d_MD_bestDid_1 : PLi b_MD_bestDid 1 1 2 := Or.inl ⟨1, by decide +kernel, rfl, rfl⟩
theorem d_MD_bestDid_2 : DR b_MD_bestDid 2 (.invokevirtual 93) 3 5 := ⟨by decide +kernel, rfl⟩
theorem d_MD_bestDid_5 : DJ b_MD_bestDid 5 (.ifCond .ne) 8 14 := ⟨9, by decide +kernel, rfl, by decide⟩
theorem d_MD_bestDid_8 : PLa b_MD_bestDid 8 0 9 := Or.inl ⟨0, by decide +kernel, rfl, rfl⟩
theorem d_MD_bestDid_9 : PCi b_MD_bestDid 9 (-1) 10 := Or.inl ⟨(-1), by decide +kernel, by decide, rfl⟩
theorem d_MD_bestDid_10 : DR b_MD_bestDid 10 (.invokevirtual 104) 3 13 := ⟨by decide +kernel, rfl⟩
theorem d_MD_bestDid_13 : DR b_MD_bestDid 13 (.ireturn) 1 14 := ⟨by decide +kernel, rfl⟩
theorem d_MD_bestDid_14 : PCi b_MD_bestDid 14 7 16 := Or.inr (Or.inl ⟨7, by decide +kernel, by decide, rfl⟩)
theorem d_MD_bestDid_16 : PSi b_MD_bestDid 16 2 17 := Or.inl ⟨2, by decide +kernel, rfl, rfl⟩
theorem d_MD_bestDid_17 : PLa b_MD_bestDid 17 0 18 := Or.inl ⟨0, by decide +kernel, rfl, rfl⟩
theorem d_MD_bestDid_18 : DR b_MD_bestDid 18 (.getfield 84) 3 21 := ⟨by decide +kernel, rfl⟩
theorem d_MD_bestDid_21 : PCi b_MD_bestDid 21 1 22 := Or.inl ⟨1, by decide +kernel, by decide, rfl⟩
theorem d_MD_bestDid_22 : DR b_MD_bestDid 22 (.isub) 1 23 := ⟨by decide +kernel, rfl⟩
theorem d_MD_bestDid_23 : PSi b_MD_bestDid 23 3 24 := Or.inl ⟨3, by decide +kernel, rfl, rfl⟩
theorem d_MD_bestDid_24 : PLi b_MD_bestDid 24 3 25 := Or.inl ⟨3, by decide +kernel, rfl, rfl⟩
theorem d_MD_bestDid_25 : DJ b_MD_bestDid 25 (.ifCond .lt) 28 60 := ⟨35, by decide +kernel, rfl, by decide⟩
theorem d_MD_bestDid_28 : PLa b_MD_bestDid 28 0 29 := Or.inl ⟨0, by decide +kernel, rfl, rfl⟩
theorem d_MD_bestDid_29 : PLi b_MD_bestDid 29 1 30 := Or.inl ⟨1, by decide +kernel, rfl, rfl⟩
theorem d_MD_bestDid_30 : PLi b_MD_bestDid 30 3 31 := Or.inl ⟨3, by decide +kernel, rfl, rfl⟩
theorem d_MD_bestDid_31 : DR b_MD_bestDid 31 (.invokevirtual 191) 3 34 := ⟨by decide +kernel, rfl⟩
theorem d_MD_bestDid_34 : DJ b_MD_bestDid 34 (.ifCond .eq) 37 54 := ⟨20, by decide +kernel, rfl, by decide⟩
theorem d_MD_bestDid_37 : PLa b_MD_bestDid 37 0 38 := Or.inl ⟨0, by decide +kernel, rfl, rfl⟩
theorem d_MD_bestDid_38 : PLi b_MD_bestDid 38 1 39 := Or.inl ⟨1, by decide +kernel, rfl, rfl⟩
theorem d_MD_bestDid_39 : PLi b_MD_bestDid 39 3 40 := Or.inl ⟨3, by decide +kernel, rfl, rfl⟩
theorem d_MD_bestDid_40 : DR b_MD_bestDid 40 (.invokevirtual 318) 3 43 := ⟨by decide +kernel, rfl⟩
theorem d_MD_bestDid_43 : PLa b_MD_bestDid 43 0 44 := Or.inl ⟨0, by decide +kernel, rfl, rfl⟩
theorem d_MD_bestDid_44 : PLi b_MD_bestDid 44 1 45 := Or.inl ⟨1, by decide +kernel, rfl, rfl⟩
theorem d_MD_bestDid_45 : PLi b_MD_bestDid 45 2 46 := Or.inl ⟨2, by decide +kernel, rfl, rfl⟩
theorem d_MD_bestDid_46 : DR b_MD_bestDid 46 (.invokevirtual 318) 3 49 := ⟨by decide +kernel, rfl⟩
theorem d_MD_bestDid_49 : DJ b_MD_bestDid 49 (.if_icmp .gt) 52 54 := ⟨5, by decide +kernel, rfl, by decide⟩
theorem d_MD_bestDid_52 : PLi b_MD_bestDid 52 3 53 := Or.inl ⟨3, by decide +kernel, rfl, rfl⟩
theorem d_MD_bestDid_53 : PSi b_MD_bestDid 53 2 54 := Or.inl ⟨2, by decide +kernel, rfl, rfl⟩
theorem d_MD_bestDid_54 : DR b_MD_bestDid 54 (.iinc 3 (-1)) 3 57 := ⟨by decide +kernel, rfl⟩
theorem d_MD_bestDid_57 : DJ b_MD_bestDid 57 .goto 60 24 := ⟨-33, by decide +kernel, rfl, by decide⟩
theorem d_MD_bestDid_60 : PLi b_MD_bestDid 60 2 61 := Or.inl ⟨2, by decide +kernel, rfl, rfl⟩
theorem d_MD_bestDid_61 : DR b_MD_bestDid 61 (.ireturn) 1 62 := ⟨by decide +kernel, rfl⟩
set_option maxRecDepth 20000 in
theorem B_MD_bestDid_54 {G : MCx} (hC : C0 G "AccusedChooseModel" b_MD_bestDid 4 7) {v1 : Int32} (K24 : Int32 × Int32 × St → Option (Int32 × St)) (hK24 : ∀ (w2 : Int32) (w3 : Int32) (s : St), VO G (RI G b_MD_bestDid) (K24 (w2, w3, s)) 24 [(0, .ref (gad G 58)), (1, .int v1), (2, .int w2), (3, .int w3)] [] s) (v2 : Int32) (v3 : Int32) (s : St) : VO G (RI G b_MD_bestDid) (F_MD_bestDid_54 K24 v1 v2 v3 s) 54 [(0, .ref (gad G 58)), (1, .int v1), (2, .int v2), (3, .int v3)] [] s := by
  unfold F_MD_bestDid_54
  refine VO_iincN hC d_MD_bestDid_54 3 rfl (by decide : Int32.ofInt (-1) = -1) [(0, .ref (gad G 58)), (1, .int v1), (2, .int v2)] rfl (by decide) ?_
  refine VO_goto hC d_MD_bestDid_57 ?_
  exact VO_sub [1, 2, 3, 0] rfl (hK24 v2 (v3 - 1) s)
set_option maxRecDepth 20000 in
theorem BH_MD_bestDid_24 {G : MCx} (hC : C0 G "AccusedChooseModel" b_MD_bestDid 4 7) {v1 : Int32} (K24 : Int32 × Int32 × St → Option (Int32 × St)) (hK24 : ∀ (w2 : Int32) (w3 : Int32) (s : St), VO G (RI G b_MD_bestDid) (K24 (w2, w3, s)) 24 [(0, .ref (gad G 58)), (1, .int v1), (2, .int w2), (3, .int w3)] [] s) (v2 : Int32) (v3 : Int32) (s : St) : VO G (RI G b_MD_bestDid) (H_MD_bestDid_24 v1 K24 v2 v3 s) 24 [(0, .ref (gad G 58)), (1, .int v1), (2, .int v2), (3, .int v3)] [] s := by
  unfold H_MD_bestDid_24
  refine VO_iload hC d_MD_bestDid_24 3 rfl ?_
  refine VO_if_lt hC d_MD_bestDid_25 (fun _ => ?_) (fun _ => ?_)
  · refine VO_iload hC d_MD_bestDid_60 2 rfl ?_
    exact VO_ireturn d_MD_bestDid_61
  · refine VO_aload hC d_MD_bestDid_28 0 rfl ?_
    refine VO_iload hC d_MD_bestDid_29 1 rfl ?_
    refine VO_iload hC d_MD_bestDid_30 3 rfl ?_
    refine VO_callVI hC [.int v1, .int v3] [] ml_MD_191 d_MD_bestDid_31 yv_MD_may sh_MD rfl rfl (fun o h => M_MD_may hC.inj h) (by decide) rfl rfl (Nat.le_of_ble_eq_true rfl) (fun o3 => ?_)
    refine VO_if_eq hC d_MD_bestDid_34 (fun _ => ?_) (fun _ => ?_)
    · exact (B_MD_bestDid_54 hC K24 hK24 v2 v3 o3.2)
    · refine VO_aload hC d_MD_bestDid_37 0 rfl ?_
      refine VO_iload hC d_MD_bestDid_38 1 rfl ?_
      refine VO_iload hC d_MD_bestDid_39 3 rfl ?_
      refine VO_callVI hC [.int v1, .int v3] [] ml_MD_318 d_MD_bestDid_40 yv_MD_monthsHaving sh_MD rfl rfl (fun o h => M_MD_monthsHaving hC.inj h) (by decide) rfl rfl (Nat.le_of_ble_eq_true rfl) (fun o4 => ?_)
      refine VO_aload hC d_MD_bestDid_43 0 rfl ?_
      refine VO_iload hC d_MD_bestDid_44 1 rfl ?_
      refine VO_iload hC d_MD_bestDid_45 2 rfl ?_
      refine VO_callVI hC [.int v1, .int v2] [.int o4.1] ml_MD_318 d_MD_bestDid_46 yv_MD_monthsHaving sh_MD rfl rfl (fun o h => M_MD_monthsHaving hC.inj h) (by decide) rfl rfl (Nat.le_of_ble_eq_true rfl) (fun o5 => ?_)
      refine VO_icmp_gt hC d_MD_bestDid_49 (fun _ => ?_) (fun _ => ?_)
      · exact (B_MD_bestDid_54 hC K24 hK24 v2 v3 o5.2)
      · refine VO_iload hC d_MD_bestDid_52 3 rfl ?_
        refine VO_istore hC d_MD_bestDid_53 [(0, .ref (gad G 58)), (1, .int v1), (3, .int v3)] rfl (by decide) ?_
        exact VO_sub [1, 2, 0, 3] rfl (B_MD_bestDid_54 hC K24 hK24 v3 v3 o5.2)
set_option maxRecDepth 20000 in
theorem B_MD_bestDid_24 {G : MCx} (hC : C0 G "AccusedChooseModel" b_MD_bestDid 4 7) (v1 : Int32) (v2 : Int32) (v3 : Int32) (s : St) : VO G (RI G b_MD_bestDid) (F_MD_bestDid_24 v1 v2 v3 s) 24 [(0, .ref (gad G 58)), (1, .int v1), (2, .int v2), (3, .int v3)] [] s := by
  exact VO_fix (G_MD_bestDid_24 v1) 24 (fun q => [(0, .ref (gad G 58)), (1, .int v1), (2, .int q.1), (3, .int q.2.1)]) (fun q => q.2.2) (fun K hK q => BH_MD_bestDid_24 hC K (fun w2 w3 s => hK (w2, w3, s)) q.1 q.2.1 q.2.2) FUEL (v2, v3, s)
set_option maxRecDepth 20000 in
theorem B_MD_bestDid {G : MCx} (hC : C0 G "AccusedChooseModel" b_MD_bestDid 4 7) (a1 : Int32) (s : St) : VO G (RI G b_MD_bestDid) (F_MD_bestDid a1 s) 0 [(0, .ref (gad G 58)), (1, .int a1)] [] s := by
  unfold F_MD_bestDid
  refine VO_aload hC d_MD_bestDid_0 0 rfl ?_
  refine VO_iload hC d_MD_bestDid_1 1 rfl ?_
  refine VO_callVI hC [.int a1] [] ml_MD_93 d_MD_bestDid_2 yv_MD_isPerson sh_MD rfl rfl (fun o h => M_MD_isPerson hC.inj h) (by decide) rfl rfl (Nat.le_of_ble_eq_true rfl) (fun o1 => ?_)
  refine VO_if_ne hC d_MD_bestDid_5 (fun _ => ?_) (fun _ => ?_)
  · refine VO_aload hC d_MD_bestDid_8 0 rfl ?_
    refine VO_const hC d_MD_bestDid_9 ?_
    refine VO_callVI hC [.int (-1 : Int32)] [] ml_MD_104 d_MD_bestDid_10 yv_MD_no sh_MD rfl rfl (fun o h => M_MD_no hC.inj h) (by decide) rfl rfl (Nat.le_of_ble_eq_true rfl) (fun o6 => ?_)
    exact VO_ireturn d_MD_bestDid_13
  · refine VO_const hC d_MD_bestDid_14 ?_
    refine VO_istore hC d_MD_bestDid_16 [(0, .ref (gad G 58)), (1, .int a1)] rfl (by decide) ?_
    refine VO_aload hC d_MD_bestDid_17 1 rfl ?_
    refine VO_geti hC fl_MD_84 sh_MD rfl d_MD_bestDid_18 ?_
    refine VO_const hC d_MD_bestDid_21 ?_
    refine VO_isub hC d_MD_bestDid_22 ?_
    refine VO_istoreB hC d_MD_bestDid_23 [(2, .int (7 : Int32)), (0, .ref (gad G 58)), (1, .int a1)] rfl (by decide) (fun x2 => ?_)
    exact VO_sub [2, 3, 1, 0] rfl (B_MD_bestDid_24 hC a1 (7 : Int32) x2 o1.2)
set_option maxRecDepth 20000 in
theorem M_MD_bestDid {l : Launch} {D : va_G} {ad : Nat → Nat} {cI cL : ClassId} (hj : Inj ad) {a1 : Int32} {s : St} {o : Int32 × St} (h : F_MD_bestDid a1 s = some o) : Cn l D ad cI cL y_MD_bestDid b_MD_bestDid 4 (some .int) 7 [.ref (ad 58), .int a1] s (some (.int o.1)) o.2 := by
  refine Cn_ofI hj (plainFor_of_name (by decide)) (Nat.le_of_ble_eq_true rfl) [(0, .ref (ad 58)), (1, .int a1)] rfl (fun G hC e1 e2 e3 e4 e5 hR => ?_)
  subst e1; subst e2; subst e3; subst e4; subst e5
  exact B_MD_bestDid hC a1 s o h hR
theorem d_MD_takenBits_0 : PCi b_MD_takenBits 0 0 1 := Or.inl ⟨0, by decide +kernel, by decide, rfl⟩
theorem d_MD_takenBits_1 : PSi b_MD_takenBits 1 1 2 := Or.inl ⟨1, by decide +kernel, rfl, rfl⟩
theorem d_MD_takenBits_2 : PCi b_MD_takenBits 2 0 3 := Or.inl ⟨0, by decide +kernel, by decide, rfl⟩
theorem d_MD_takenBits_3 : PSi b_MD_takenBits 3 2 4 := Or.inl ⟨2, by decide +kernel, rfl, rfl⟩
theorem d_MD_takenBits_4 : PLi b_MD_takenBits 4 2 5 := Or.inl ⟨2, by decide +kernel, rfl, rfl⟩
theorem d_MD_takenBits_5 : PLa b_MD_takenBits 5 0 6 := Or.inl ⟨0, by decide +kernel, rfl, rfl⟩
theorem d_MD_takenBits_6 : DR b_MD_takenBits 6 (.getfield 90) 3 9 := ⟨by decide +kernel, rfl⟩
theorem d_MD_takenBits_9 : DJ b_MD_takenBits 9 (.if_icmp .ge) 12 42 := ⟨33, by decide +kernel, rfl, by decide⟩
theorem d_MD_takenBits_12 : PLi b_MD_takenBits 12 1 13 := Or.inl ⟨1, by decide +kernel, rfl, rfl⟩
theorem d_MD_takenBits_13 : PLa b_MD_takenBits 13 0 14 := Or.inl ⟨0, by decide +kernel, rfl, rfl⟩
theorem d_MD_takenBits_14 : DR b_MD_takenBits 14 (.getfield 56) 3 17 := ⟨by decide +kernel, rfl⟩
theorem d_MD_takenBits_17 : PLi b_MD_takenBits 17 2 18 := Or.inl ⟨2, by decide +kernel, rfl, rfl⟩
theorem d_MD_takenBits_18 : DR b_MD_takenBits 18 (.iaload) 1 19 := ⟨by decide +kernel, rfl⟩
theorem d_MD_takenBits_19 : DJ b_MD_takenBits 19 (.ifCond .ge) 22 26 := ⟨7, by decide +kernel, rfl, by decide⟩
theorem d_MD_takenBits_22 : PCi b_MD_takenBits 22 0 23 := Or.inl ⟨0, by decide +kernel, by decide, rfl⟩
theorem d_MD_takenBits_23 : DJ b_MD_takenBits 23 .goto 26 34 := ⟨11, by decide +kernel, rfl, by decide⟩
theorem d_MD_takenBits_26 : PCi b_MD_takenBits 26 1 27 := Or.inl ⟨1, by decide +kernel, by decide, rfl⟩
theorem d_MD_takenBits_27 : PLa b_MD_takenBits 27 0 28 := Or.inl ⟨0, by decide +kernel, rfl, rfl⟩
theorem d_MD_takenBits_28 : DR b_MD_takenBits 28 (.getfield 56) 3 31 := ⟨by decide +kernel, rfl⟩
theorem d_MD_takenBits_31 : PLi b_MD_takenBits 31 2 32 := Or.inl ⟨2, by decide +kernel, rfl, rfl⟩
theorem d_MD_takenBits_32 : DR b_MD_takenBits 32 (.iaload) 1 33 := ⟨by decide +kernel, rfl⟩
theorem d_MD_takenBits_33 : DR b_MD_takenBits 33 (.ishl) 1 34 := ⟨by decide +kernel, rfl⟩
theorem d_MD_takenBits_34 : DR b_MD_takenBits 34 (.ior) 1 35 := ⟨by decide +kernel, rfl⟩
theorem d_MD_takenBits_35 : PSi b_MD_takenBits 35 1 36 := Or.inl ⟨1, by decide +kernel, rfl, rfl⟩
theorem d_MD_takenBits_36 : DR b_MD_takenBits 36 (.iinc 2 1) 3 39 := ⟨by decide +kernel, rfl⟩
theorem d_MD_takenBits_39 : DJ b_MD_takenBits 39 .goto 42 4 := ⟨-35, by decide +kernel, rfl, by decide⟩
theorem d_MD_takenBits_42 : PLi b_MD_takenBits 42 1 43 := Or.inl ⟨1, by decide +kernel, rfl, rfl⟩
theorem d_MD_takenBits_43 : DR b_MD_takenBits 43 (.ireturn) 1 44 := ⟨by decide +kernel, rfl⟩
set_option maxRecDepth 20000 in
theorem B_MD_takenBits_34 {G : MCx} (hC : C0 G "AccusedChooseModel" b_MD_takenBits 3 1) (K4 : Int32 × Int32 × St → Option (Int32 × St)) (hK4 : ∀ (w1 : Int32) (w2 : Int32) (s : St), VO G (RI G b_MD_takenBits) (K4 (w1, w2, s)) 4 [(0, .ref (gad G 58)), (1, .int w1), (2, .int w2)] [] s) (v2 : Int32) (z0 : Int32) (z1 : Int32) (s : St) : VO G (RI G b_MD_takenBits) (F_MD_takenBits_34 K4 v2 z0 z1 s) 34 [(0, .ref (gad G 58)), (2, .int v2)] [.int z0, .int z1] s := by
  unfold F_MD_takenBits_34
  refine VO_ior hC d_MD_takenBits_34 ?_
  refine VO_istoreB hC d_MD_takenBits_35 [(0, .ref (gad G 58)), (2, .int v2)] rfl (by decide) (fun x3 => ?_)
  refine VO_iinc hC d_MD_takenBits_36 2 rfl (by decide : Int32.ofInt 1 = 1) [(1, .int x3), (0, .ref (gad G 58))] rfl (by decide) ?_
  refine VO_goto hC d_MD_takenBits_39 ?_
  exact VO_sub [2, 1, 0] rfl (hK4 x3 (v2 + 1) s)
set_option maxRecDepth 20000 in
theorem BH_MD_takenBits_4 {G : MCx} (hC : C0 G "AccusedChooseModel" b_MD_takenBits 3 1) (K4 : Int32 × Int32 × St → Option (Int32 × St)) (hK4 : ∀ (w1 : Int32) (w2 : Int32) (s : St), VO G (RI G b_MD_takenBits) (K4 (w1, w2, s)) 4 [(0, .ref (gad G 58)), (1, .int w1), (2, .int w2)] [] s) (v1 : Int32) (v2 : Int32) (s : St) : VO G (RI G b_MD_takenBits) (H_MD_takenBits_4 K4 v1 v2 s) 4 [(0, .ref (gad G 58)), (1, .int v1), (2, .int v2)] [] s := by
  unfold H_MD_takenBits_4
  refine VO_iload hC d_MD_takenBits_4 2 rfl ?_
  refine VO_aload hC d_MD_takenBits_5 0 rfl ?_
  refine VO_geti hC fl_MD_90 sh_MD rfl d_MD_takenBits_6 ?_
  refine VO_icmp_ge hC d_MD_takenBits_9 (fun _ => ?_) (fun _ => ?_)
  · refine VO_iload hC d_MD_takenBits_42 1 rfl ?_
    exact VO_ireturn d_MD_takenBits_43
  · refine VO_iload hC d_MD_takenBits_12 1 rfl ?_
    refine VO_aload hC d_MD_takenBits_13 0 rfl ?_
    refine VO_getr (r := 73) hC fl_MD_56 sh_MD rfl d_MD_takenBits_14 ?_
    refine VO_iload hC d_MD_takenBits_17 2 rfl ?_
    refine VO_iaload hC ia_73 d_MD_takenBits_18 (fun x1 => ?_)
    refine VO_if_ge hC d_MD_takenBits_19 (fun _ => ?_) (fun _ => ?_)
    · refine VO_const hC d_MD_takenBits_26 ?_
      refine VO_aload hC d_MD_takenBits_27 0 rfl ?_
      refine VO_getr (r := 73) hC fl_MD_56 sh_MD rfl d_MD_takenBits_28 ?_
      refine VO_iload hC d_MD_takenBits_31 2 rfl ?_
      refine VO_iaload hC ia_73 d_MD_takenBits_32 (fun x2 => ?_)
      refine VO_ishl hC d_MD_takenBits_33 ?_
      exact VO_sub [0, 2] rfl (B_MD_takenBits_34 hC K4 hK4 v2 ((1 : Int32) <<< (x2 &&& 31)) v1 s)
    · refine VO_const hC d_MD_takenBits_22 ?_
      refine VO_goto hC d_MD_takenBits_23 ?_
      exact VO_sub [0, 2] rfl (B_MD_takenBits_34 hC K4 hK4 v2 (0 : Int32) v1 s)
set_option maxRecDepth 20000 in
theorem B_MD_takenBits_4 {G : MCx} (hC : C0 G "AccusedChooseModel" b_MD_takenBits 3 1) (v1 : Int32) (v2 : Int32) (s : St) : VO G (RI G b_MD_takenBits) (F_MD_takenBits_4 v1 v2 s) 4 [(0, .ref (gad G 58)), (1, .int v1), (2, .int v2)] [] s := by
  exact VO_fix (G_MD_takenBits_4) 4 (fun q => [(0, .ref (gad G 58)), (1, .int q.1), (2, .int q.2.1)]) (fun q => q.2.2) (fun K hK q => BH_MD_takenBits_4 hC K (fun w1 w2 s => hK (w1, w2, s)) q.1 q.2.1 q.2.2) FUEL (v1, v2, s)
set_option maxRecDepth 20000 in
theorem B_MD_takenBits {G : MCx} (hC : C0 G "AccusedChooseModel" b_MD_takenBits 3 1) (s : St) : VO G (RI G b_MD_takenBits) (F_MD_takenBits s) 0 [(0, .ref (gad G 58))] [] s := by
  unfold F_MD_takenBits
  refine VO_const hC d_MD_takenBits_0 ?_
  refine VO_istore hC d_MD_takenBits_1 [(0, .ref (gad G 58))] rfl (by decide) ?_
  refine VO_const hC d_MD_takenBits_2 ?_
  refine VO_istore hC d_MD_takenBits_3 [(1, .int (0 : Int32)), (0, .ref (gad G 58))] rfl (by decide) ?_
  exact VO_sub [2, 1, 0] rfl (B_MD_takenBits_4 hC (0 : Int32) (0 : Int32) s)
set_option maxRecDepth 20000 in
theorem M_MD_takenBits {l : Launch} {D : va_G} {ad : Nat → Nat} {cI cL : ClassId} (hj : Inj ad) {s : St} {o : Int32 × St} (h : F_MD_takenBits s = some o) : Cn l D ad cI cL y_MD_takenBits b_MD_takenBits 3 (some .int) 1 [.ref (ad 58)] s (some (.int o.1)) o.2 := by
  refine Cn_ofI hj (plainFor_of_name (by decide)) (Nat.le_of_ble_eq_true rfl) [(0, .ref (ad 58))] rfl (fun G hC e1 e2 e3 e4 e5 hR => ?_)
  subst e1; subst e2; subst e3; subst e4; subst e5
  exact B_MD_takenBits hC s o h hR
theorem d_MD_takenMonths_0 : PCi b_MD_takenMonths 0 0 1 := Or.inl ⟨0, by decide +kernel, by decide, rfl⟩
theorem d_MD_takenMonths_1 : PSi b_MD_takenMonths 1 1 2 := Or.inl ⟨1, by decide +kernel, rfl, rfl⟩
theorem d_MD_takenMonths_2 : PCi b_MD_takenMonths 2 0 3 := Or.inl ⟨0, by decide +kernel, by decide, rfl⟩
theorem d_MD_takenMonths_3 : PSi b_MD_takenMonths 3 2 4 := Or.inl ⟨2, by decide +kernel, rfl, rfl⟩
theorem d_MD_takenMonths_4 : PLi b_MD_takenMonths 4 2 5 := Or.inl ⟨2, by decide +kernel, rfl, rfl⟩
theorem d_MD_takenMonths_5 : PLa b_MD_takenMonths 5 0 6 := Or.inl ⟨0, by decide +kernel, rfl, rfl⟩
theorem d_MD_takenMonths_6 : DR b_MD_takenMonths 6 (.getfield 90) 3 9 := ⟨by decide +kernel, rfl⟩
theorem d_MD_takenMonths_9 : DJ b_MD_takenMonths 9 (.if_icmp .ge) 12 39 := ⟨30, by decide +kernel, rfl, by decide⟩
theorem d_MD_takenMonths_12 : PLi b_MD_takenMonths 12 1 13 := Or.inl ⟨1, by decide +kernel, rfl, rfl⟩
theorem d_MD_takenMonths_13 : PLa b_MD_takenMonths 13 0 14 := Or.inl ⟨0, by decide +kernel, rfl, rfl⟩
theorem d_MD_takenMonths_14 : DR b_MD_takenMonths 14 (.getfield 56) 3 17 := ⟨by decide +kernel, rfl⟩
theorem d_MD_takenMonths_17 : PLi b_MD_takenMonths 17 2 18 := Or.inl ⟨2, by decide +kernel, rfl, rfl⟩
theorem d_MD_takenMonths_18 : DR b_MD_takenMonths 18 (.iaload) 1 19 := ⟨by decide +kernel, rfl⟩
theorem d_MD_takenMonths_19 : DJ b_MD_takenMonths 19 (.ifCond .ge) 22 26 := ⟨7, by decide +kernel, rfl, by decide⟩
theorem d_MD_takenMonths_22 : PCi b_MD_takenMonths 22 0 23 := Or.inl ⟨0, by decide +kernel, by decide, rfl⟩
theorem d_MD_takenMonths_23 : DJ b_MD_takenMonths 23 .goto 26 31 := ⟨8, by decide +kernel, rfl, by decide⟩
theorem d_MD_takenMonths_26 : PLa b_MD_takenMonths 26 0 27 := Or.inl ⟨0, by decide +kernel, rfl, rfl⟩
theorem d_MD_takenMonths_27 : PLi b_MD_takenMonths 27 2 28 := Or.inl ⟨2, by decide +kernel, rfl, rfl⟩
theorem d_MD_takenMonths_28 : DR b_MD_takenMonths 28 (.invokevirtual 212) 3 31 := ⟨by decide +kernel, rfl⟩
theorem d_MD_takenMonths_31 : DR b_MD_takenMonths 31 (.iadd) 1 32 := ⟨by decide +kernel, rfl⟩
theorem d_MD_takenMonths_32 : PSi b_MD_takenMonths 32 1 33 := Or.inl ⟨1, by decide +kernel, rfl, rfl⟩
theorem d_MD_takenMonths_33 : DR b_MD_takenMonths 33 (.iinc 2 1) 3 36 := ⟨by decide +kernel, rfl⟩
theorem d_MD_takenMonths_36 : DJ b_MD_takenMonths 36 .goto 39 4 := ⟨-32, by decide +kernel, rfl, by decide⟩
theorem d_MD_takenMonths_39 : PLi b_MD_takenMonths 39 1 40 := Or.inl ⟨1, by decide +kernel, rfl, rfl⟩
theorem d_MD_takenMonths_40 : DR b_MD_takenMonths 40 (.ireturn) 1 41 := ⟨by decide +kernel, rfl⟩
set_option maxRecDepth 20000 in
theorem B_MD_takenMonths_31 {G : MCx} (hC : C0 G "AccusedChooseModel" b_MD_takenMonths 3 4) (K4 : Int32 × Int32 × St → Option (Int32 × St)) (hK4 : ∀ (w1 : Int32) (w2 : Int32) (s : St), VO G (RI G b_MD_takenMonths) (K4 (w1, w2, s)) 4 [(0, .ref (gad G 58)), (1, .int w1), (2, .int w2)] [] s) (v2 : Int32) (z0 : Int32) (z1 : Int32) (s : St) : VO G (RI G b_MD_takenMonths) (F_MD_takenMonths_31 K4 v2 z0 z1 s) 31 [(0, .ref (gad G 58)), (2, .int v2)] [.int z0, .int z1] s := by
  unfold F_MD_takenMonths_31
  refine VO_iadd hC d_MD_takenMonths_31 ?_
  refine VO_istoreB hC d_MD_takenMonths_32 [(0, .ref (gad G 58)), (2, .int v2)] rfl (by decide) (fun x3 => ?_)
  refine VO_iinc hC d_MD_takenMonths_33 2 rfl (by decide : Int32.ofInt 1 = 1) [(1, .int x3), (0, .ref (gad G 58))] rfl (by decide) ?_
  refine VO_goto hC d_MD_takenMonths_36 ?_
  exact VO_sub [2, 1, 0] rfl (hK4 x3 (v2 + 1) s)
set_option maxRecDepth 20000 in
theorem BH_MD_takenMonths_4 {G : MCx} (hC : C0 G "AccusedChooseModel" b_MD_takenMonths 3 4) (K4 : Int32 × Int32 × St → Option (Int32 × St)) (hK4 : ∀ (w1 : Int32) (w2 : Int32) (s : St), VO G (RI G b_MD_takenMonths) (K4 (w1, w2, s)) 4 [(0, .ref (gad G 58)), (1, .int w1), (2, .int w2)] [] s) (v1 : Int32) (v2 : Int32) (s : St) : VO G (RI G b_MD_takenMonths) (H_MD_takenMonths_4 K4 v1 v2 s) 4 [(0, .ref (gad G 58)), (1, .int v1), (2, .int v2)] [] s := by
  unfold H_MD_takenMonths_4
  refine VO_iload hC d_MD_takenMonths_4 2 rfl ?_
  refine VO_aload hC d_MD_takenMonths_5 0 rfl ?_
  refine VO_geti hC fl_MD_90 sh_MD rfl d_MD_takenMonths_6 ?_
  refine VO_icmp_ge hC d_MD_takenMonths_9 (fun _ => ?_) (fun _ => ?_)
  · refine VO_iload hC d_MD_takenMonths_39 1 rfl ?_
    exact VO_ireturn d_MD_takenMonths_40
  · refine VO_iload hC d_MD_takenMonths_12 1 rfl ?_
    refine VO_aload hC d_MD_takenMonths_13 0 rfl ?_
    refine VO_getr (r := 73) hC fl_MD_56 sh_MD rfl d_MD_takenMonths_14 ?_
    refine VO_iload hC d_MD_takenMonths_17 2 rfl ?_
    refine VO_iaload hC ia_73 d_MD_takenMonths_18 (fun x1 => ?_)
    refine VO_if_ge hC d_MD_takenMonths_19 (fun _ => ?_) (fun _ => ?_)
    · refine VO_aload hC d_MD_takenMonths_26 0 rfl ?_
      refine VO_iload hC d_MD_takenMonths_27 2 rfl ?_
      refine VO_callVI hC [.int v2] [.int v1] ml_MD_212 d_MD_takenMonths_28 yv_MD_hasMonths sh_MD rfl rfl (fun o h => M_MD_hasMonths hC.inj h) (by decide) rfl rfl (Nat.le_of_ble_eq_true rfl) (fun o2 => ?_)
      exact VO_sub [0, 2] rfl (B_MD_takenMonths_31 hC K4 hK4 v2 o2.1 v1 o2.2)
    · refine VO_const hC d_MD_takenMonths_22 ?_
      refine VO_goto hC d_MD_takenMonths_23 ?_
      exact VO_sub [0, 2] rfl (B_MD_takenMonths_31 hC K4 hK4 v2 (0 : Int32) v1 s)
set_option maxRecDepth 20000 in
theorem B_MD_takenMonths_4 {G : MCx} (hC : C0 G "AccusedChooseModel" b_MD_takenMonths 3 4) (v1 : Int32) (v2 : Int32) (s : St) : VO G (RI G b_MD_takenMonths) (F_MD_takenMonths_4 v1 v2 s) 4 [(0, .ref (gad G 58)), (1, .int v1), (2, .int v2)] [] s := by
  exact VO_fix (G_MD_takenMonths_4) 4 (fun q => [(0, .ref (gad G 58)), (1, .int q.1), (2, .int q.2.1)]) (fun q => q.2.2) (fun K hK q => BH_MD_takenMonths_4 hC K (fun w1 w2 s => hK (w1, w2, s)) q.1 q.2.1 q.2.2) FUEL (v1, v2, s)
set_option maxRecDepth 20000 in
theorem B_MD_takenMonths {G : MCx} (hC : C0 G "AccusedChooseModel" b_MD_takenMonths 3 4) (s : St) : VO G (RI G b_MD_takenMonths) (F_MD_takenMonths s) 0 [(0, .ref (gad G 58))] [] s := by
  unfold F_MD_takenMonths
  refine VO_const hC d_MD_takenMonths_0 ?_
  refine VO_istore hC d_MD_takenMonths_1 [(0, .ref (gad G 58))] rfl (by decide) ?_
  refine VO_const hC d_MD_takenMonths_2 ?_
  refine VO_istore hC d_MD_takenMonths_3 [(1, .int (0 : Int32)), (0, .ref (gad G 58))] rfl (by decide) ?_
  exact VO_sub [2, 1, 0] rfl (B_MD_takenMonths_4 hC (0 : Int32) (0 : Int32) s)
set_option maxRecDepth 20000 in
theorem M_MD_takenMonths {l : Launch} {D : va_G} {ad : Nat → Nat} {cI cL : ClassId} (hj : Inj ad) {s : St} {o : Int32 × St} (h : F_MD_takenMonths s = some o) : Cn l D ad cI cL y_MD_takenMonths b_MD_takenMonths 3 (some .int) 4 [.ref (ad 58)] s (some (.int o.1)) o.2 := by
  refine Cn_ofI hj (plainFor_of_name (by decide)) (Nat.le_of_ble_eq_true rfl) [(0, .ref (ad 58))] rfl (fun G hC e1 e2 e3 e4 e5 hR => ?_)
  subst e1; subst e2; subst e3; subst e4; subst e5
  exact B_MD_takenMonths hC s o h hR
theorem d_MD_rest_0 : PLi b_MD_rest 0 1 1 := Or.inl ⟨1, by decide +kernel, rfl, rfl⟩
theorem d_MD_rest_1 : PCi b_MD_rest 1 0 2 := Or.inl ⟨0, by decide +kernel, by decide, rfl⟩
theorem d_MD_rest_2 : PCi b_MD_rest 2 2 3 := Or.inl ⟨2, by decide +kernel, by decide, rfl⟩
theorem d_MD_rest_3 : DR b_MD_rest 3 (.invokestatic 115) 3 6 := ⟨by decide +kernel, rfl⟩
theorem d_MD_rest_6 : DJ b_MD_rest 6 (.ifCond .ne) 9 16 := ⟨10, by decide +kernel, rfl, by decide⟩
theorem d_MD_rest_9 : PLa b_MD_rest 9 0 10 := Or.inl ⟨0, by decide +kernel, rfl, rfl⟩
theorem d_MD_rest_10 : PCi b_MD_rest 10 (-2) 12 := Or.inr (Or.inl ⟨(-2), by decide +kernel, by decide, rfl⟩)
theorem d_MD_rest_12 : DR b_MD_rest 12 (.invokevirtual 104) 3 15 := ⟨by decide +kernel, rfl⟩
theorem d_MD_rest_15 : DR b_MD_rest 15 (.ireturn) 1 16 := ⟨by decide +kernel, rfl⟩
theorem d_MD_rest_16 : PCi b_MD_rest 16 0 17 := Or.inl ⟨0, by decide +kernel, by decide, rfl⟩
theorem d_MD_rest_17 : PSi b_MD_rest 17 2 18 := Or.inl ⟨2, by decide +kernel, rfl, rfl⟩
theorem d_MD_rest_18 : PCi b_MD_rest 18 0 19 := Or.inl ⟨0, by decide +kernel, by decide, rfl⟩
theorem d_MD_rest_19 : PSi b_MD_rest 19 3 20 := Or.inl ⟨3, by decide +kernel, rfl, rfl⟩
theorem d_MD_rest_20 : PLa b_MD_rest 20 0 21 := Or.inl ⟨0, by decide +kernel, rfl, rfl⟩
theorem d_MD_rest_21 : DR b_MD_rest 21 (.invokevirtual 215) 3 24 := ⟨by decide +kernel, rfl⟩
theorem d_MD_rest_24 : PLa b_MD_rest 24 0 25 := Or.inl ⟨0, by decide +kernel, rfl, rfl⟩
theorem d_MD_rest_25 : DR b_MD_rest 25 (.invokevirtual 321) 3 28 := ⟨by decide +kernel, rfl⟩
theorem d_MD_rest_28 : DJ b_MD_rest 28 (.ifCond .eq) 31 61 := ⟨33, by decide +kernel, rfl, by decide⟩
theorem d_MD_rest_31 : DR b_MD_rest 31 (.iinc 2 1) 3 34 := ⟨by decide +kernel, rfl⟩
theorem d_MD_rest_34 : PLi b_MD_rest 34 3 35 := Or.inl ⟨3, by decide +kernel, rfl, rfl⟩
theorem d_MD_rest_35 : PLa b_MD_rest 35 0 36 := Or.inl ⟨0, by decide +kernel, rfl, rfl⟩
theorem d_MD_rest_36 : DR b_MD_rest 36 (.invokevirtual 324) 3 39 := ⟨by decide +kernel, rfl⟩
theorem d_MD_rest_39 : DR b_MD_rest 39 (.iadd) 1 40 := ⟨by decide +kernel, rfl⟩
theorem d_MD_rest_40 : PSi b_MD_rest 40 3 41 := Or.inl ⟨3, by decide +kernel, rfl, rfl⟩
theorem d_MD_rest_41 : PLa b_MD_rest 41 0 42 := Or.inl ⟨0, by decide +kernel, rfl, rfl⟩
theorem d_MD_rest_42 : DR b_MD_rest 42 (.dup) 1 43 := ⟨by decide +kernel, rfl⟩
theorem d_MD_rest_43 : DR b_MD_rest 43 (.getfield 200) 3 46 := ⟨by decide +kernel, rfl⟩
theorem d_MD_rest_46 : PLa b_MD_rest 46 0 47 := Or.inl ⟨0, by decide +kernel, rfl, rfl⟩
theorem d_MD_rest_47 : DR b_MD_rest 47 (.invokevirtual 321) 3 50 := ⟨by decide +kernel, rfl⟩
theorem d_MD_rest_50 : DR b_MD_rest 50 (.ior) 1 51 := ⟨by decide +kernel, rfl⟩
theorem d_MD_rest_51 : DR b_MD_rest 51 (.putfield 200) 3 54 := ⟨by decide +kernel, rfl⟩
theorem d_MD_rest_54 : PLa b_MD_rest 54 0 55 := Or.inl ⟨0, by decide +kernel, rfl, rfl⟩
theorem d_MD_rest_55 : DR b_MD_rest 55 (.invokevirtual 215) 3 58 := ⟨by decide +kernel, rfl⟩
theorem d_MD_rest_58 : DJ b_MD_rest 58 .goto 61 24 := ⟨-34, by decide +kernel, rfl, by decide⟩
theorem d_MD_rest_61 : PCi b_MD_rest 61 1 62 := Or.inl ⟨1, by decide +kernel, by decide, rfl⟩
theorem d_MD_rest_62 : PLa b_MD_rest 62 0 63 := Or.inl ⟨0, by decide +kernel, rfl, rfl⟩
theorem d_MD_rest_63 : DR b_MD_rest 63 (.getfield 84) 3 66 := ⟨by decide +kernel, rfl⟩
theorem d_MD_rest_66 : DR b_MD_rest 66 (.ishl) 1 67 := ⟨by decide +kernel, rfl⟩
theorem d_MD_rest_67 : PCi b_MD_rest 67 1 68 := Or.inl ⟨1, by decide +kernel, by decide, rfl⟩
theorem d_MD_rest_68 : DR b_MD_rest 68 (.isub) 1 69 := ⟨by decide +kernel, rfl⟩
theorem d_MD_rest_69 : PLa b_MD_rest 69 0 70 := Or.inl ⟨0, by decide +kernel, rfl, rfl⟩
theorem d_MD_rest_70 : DR b_MD_rest 70 (.getfield 200) 3 73 := ⟨by decide +kernel, rfl⟩
theorem d_MD_rest_73 : PCi b_MD_rest 73 (-1) 74 := Or.inl ⟨(-1), by decide +kernel, by decide, rfl⟩
theorem d_MD_rest_74 : DR b_MD_rest 74 (.ixor) 1 75 := ⟨by decide +kernel, rfl⟩
theorem d_MD_rest_75 : DR b_MD_rest 75 (.iand) 1 76 := ⟨by decide +kernel, rfl⟩
theorem d_MD_rest_76 : PSi b_MD_rest 76 4 78 := Or.inr ⟨by decide +kernel, rfl⟩
theorem d_MD_rest_78 : PLa b_MD_rest 78 0 79 := Or.inl ⟨0, by decide +kernel, rfl, rfl⟩
theorem d_MD_rest_79 : PCi b_MD_rest 79 0 80 := Or.inl ⟨0, by decide +kernel, by decide, rfl⟩
theorem d_MD_rest_80 : DR b_MD_rest 80 (.putfield 200) 3 83 := ⟨by decide +kernel, rfl⟩
theorem d_MD_rest_83 : PLi b_MD_rest 83 1 84 := Or.inl ⟨1, by decide +kernel, rfl, rfl⟩
theorem d_MD_rest_84 : DJ b_MD_rest 84 (.ifCond .ne) 87 91 := ⟨7, by decide +kernel, rfl, by decide⟩
theorem d_MD_rest_87 : PLi b_MD_rest 87 2 88 := Or.inl ⟨2, by decide +kernel, rfl, rfl⟩
theorem d_MD_rest_88 : DJ b_MD_rest 88 .goto 91 102 := ⟨14, by decide +kernel, rfl, by decide⟩
theorem d_MD_rest_91 : PLi b_MD_rest 91 1 92 := Or.inl ⟨1, by decide +kernel, rfl, rfl⟩
theorem d_MD_rest_92 : PCi b_MD_rest 92 1 93 := Or.inl ⟨1, by decide +kernel, by decide, rfl⟩
theorem d_MD_rest_93 : DJ b_MD_rest 93 (.if_icmp .ne) 96 100 := ⟨7, by decide +kernel, rfl, by decide⟩
theorem d_MD_rest_96 : PLi b_MD_rest 96 3 97 := Or.inl ⟨3, by decide +kernel, rfl, rfl⟩
theorem d_MD_rest_97 : DJ b_MD_rest 97 .goto 100 102 := ⟨5, by decide +kernel, rfl, by decide⟩
theorem d_MD_rest_100 : PLi b_MD_rest 100 4 102 := Or.inr ⟨by decide +kernel, rfl⟩
theorem d_MD_rest_102 : DR b_MD_rest 102 (.ireturn) 1 103 := ⟨by decide +kernel, rfl⟩
set_option maxRecDepth 20000 in
theorem BH_MD_rest_24 {G : MCx} (hC : C0 G "AccusedChooseModel" b_MD_rest 5 6) {v1 : Int32} (K24 : Int32 × Int32 × St → Option (Int32 × St)) (hK24 : ∀ (w2 : Int32) (w3 : Int32) (s : St), VO G (RI G b_MD_rest) (K24 (w2, w3, s)) 24 [(0, .ref (gad G 58)), (1, .int v1), (2, .int w2), (3, .int w3)] [] s) (v2 : Int32) (v3 : Int32) (s : St) : VO G (RI G b_MD_rest) (H_MD_rest_24 v1 K24 v2 v3 s) 24 [(0, .ref (gad G 58)), (1, .int v1), (2, .int v2), (3, .int v3)] [] s := by
  unfold H_MD_rest_24
  refine VO_aload hC d_MD_rest_24 0 rfl ?_
  refine VO_callVI hC [] [] ml_MD_321 d_MD_rest_25 yv_MD_takenBits sh_MD rfl rfl (fun o h => M_MD_takenBits hC.inj h) (by decide) rfl rfl (Nat.le_of_ble_eq_true rfl) (fun o3 => ?_)
  refine VO_if_eq hC d_MD_rest_28 (fun _ => ?_) (fun _ => ?_)
  · refine VO_const hC d_MD_rest_61 ?_
    refine VO_aload hC d_MD_rest_62 0 rfl ?_
    refine VO_geti hC fl_MD_84 sh_MD rfl d_MD_rest_63 ?_
    refine VO_ishl hC d_MD_rest_66 ?_
    refine VO_const hC d_MD_rest_67 ?_
    refine VO_isub hC d_MD_rest_68 ?_
    refine VO_aload hC d_MD_rest_69 0 rfl ?_
    refine VO_geti hC fl_MD_200 sh_MD rfl d_MD_rest_70 ?_
    refine VO_const hC d_MD_rest_73 ?_
    refine VO_ixor hC d_MD_rest_74 ?_
    refine VO_iand hC d_MD_rest_75 ?_
    refine VO_istoreB hC d_MD_rest_76 [(0, .ref (gad G 58)), (1, .int v1), (2, .int v2), (3, .int v3)] rfl (by decide) (fun x4 => ?_)
    refine VO_aload hC d_MD_rest_78 1 rfl ?_
    refine VO_const hC d_MD_rest_79 ?_
    refine VO_puti hC fw_MD_200 sh_MD rfl d_MD_rest_80 (fun s5 => ?_)
    refine VO_iload hC d_MD_rest_83 2 rfl ?_
    refine VO_if_ne hC d_MD_rest_84 (fun _ => ?_) (fun _ => ?_)
    · refine VO_iload hC d_MD_rest_87 3 rfl ?_
      refine VO_goto hC d_MD_rest_88 ?_
      exact VO_ireturn d_MD_rest_102
    · refine VO_iload hC d_MD_rest_91 2 rfl ?_
      refine VO_const hC d_MD_rest_92 ?_
      refine VO_icmp_ne hC d_MD_rest_93 (fun _ => ?_) (fun _ => ?_)
      · refine VO_iload hC d_MD_rest_96 4 rfl ?_
        refine VO_goto hC d_MD_rest_97 ?_
        exact VO_ireturn d_MD_rest_102
      · refine VO_iload hC d_MD_rest_100 0 rfl ?_
        exact VO_ireturn d_MD_rest_102
  · refine VO_iinc hC d_MD_rest_31 2 rfl (by decide : Int32.ofInt 1 = 1) [(0, .ref (gad G 58)), (1, .int v1), (3, .int v3)] rfl (by decide) ?_
    refine VO_iload hC d_MD_rest_34 3 rfl ?_
    refine VO_aload hC d_MD_rest_35 1 rfl ?_
    refine VO_callVI hC [] [.int v3] ml_MD_324 d_MD_rest_36 yv_MD_takenMonths sh_MD rfl rfl (fun o h => M_MD_takenMonths hC.inj h) (by decide) rfl rfl (Nat.le_of_ble_eq_true rfl) (fun o6 => ?_)
    refine VO_iadd hC d_MD_rest_39 ?_
    refine VO_istoreB hC d_MD_rest_40 [(2, .int (v2 + 1)), (0, .ref (gad G 58)), (1, .int v1)] rfl (by decide) (fun x7 => ?_)
    refine VO_aload hC d_MD_rest_41 2 rfl ?_
    refine VO_dup hC d_MD_rest_42 rfl ?_
    refine VO_geti hC fl_MD_200 sh_MD rfl d_MD_rest_43 ?_
    refine VO_aload hC d_MD_rest_46 2 rfl ?_
    refine VO_callVI hC [] [.int (rd o6.2 58 26), .ref (gad G 58)] ml_MD_321 d_MD_rest_47 yv_MD_takenBits sh_MD rfl rfl (fun o h => M_MD_takenBits hC.inj h) (by decide) rfl rfl (Nat.le_of_ble_eq_true rfl) (fun o8 => ?_)
    refine VO_ior hC d_MD_rest_50 ?_
    refine VO_puti hC fw_MD_200 sh_MD rfl d_MD_rest_51 (fun s9 => ?_)
    refine VO_aload hC d_MD_rest_54 2 rfl ?_
    refine VO_callVV hC [] [] ml_MD_215 d_MD_rest_55 yv_MD_goes sh_MD rfl rfl (fun o h => M_MD_goes hC.inj h) (by decide) rfl rfl (Nat.le_of_ble_eq_true rfl) (fun s10 => ?_)
    refine VO_goto hC d_MD_rest_58 ?_
    exact VO_sub [2, 3, 1, 0] rfl (hK24 (v2 + 1) x7 s10)
set_option maxRecDepth 20000 in
theorem B_MD_rest_24 {G : MCx} (hC : C0 G "AccusedChooseModel" b_MD_rest 5 6) (v1 : Int32) (v2 : Int32) (v3 : Int32) (s : St) : VO G (RI G b_MD_rest) (F_MD_rest_24 v1 v2 v3 s) 24 [(0, .ref (gad G 58)), (1, .int v1), (2, .int v2), (3, .int v3)] [] s := by
  exact VO_fix (G_MD_rest_24 v1) 24 (fun q => [(0, .ref (gad G 58)), (1, .int v1), (2, .int q.1), (3, .int q.2.1)]) (fun q => q.2.2) (fun K hK q => BH_MD_rest_24 hC K (fun w2 w3 s => hK (w2, w3, s)) q.1 q.2.1 q.2.2) FUEL (v2, v3, s)
set_option maxRecDepth 20000 in
theorem B_MD_rest {G : MCx} (hC : C0 G "AccusedChooseModel" b_MD_rest 5 6) (a1 : Int32) (s : St) : VO G (RI G b_MD_rest) (F_MD_rest a1 s) 0 [(0, .ref (gad G 58)), (1, .int a1)] [] s := by
  unfold F_MD_rest
  refine VO_iload hC d_MD_rest_0 1 rfl ?_
  refine VO_const hC d_MD_rest_1 ?_
  refine VO_const hC d_MD_rest_2 ?_
  refine VO_callSI hC [.int a1, .int (0 : Int32), .int (2 : Int32)] [] ml_MD_115 d_MD_rest_3 ys_MD_isIn (fun o h => M_MD_isIn hC.inj h) (by decide) rfl rfl (Nat.le_of_ble_eq_true rfl) (fun o1 => ?_)
  refine VO_if_ne hC d_MD_rest_6 (fun _ => ?_) (fun _ => ?_)
  · refine VO_aload hC d_MD_rest_9 0 rfl ?_
    refine VO_const hC d_MD_rest_10 ?_
    refine VO_callVI hC [.int (-2 : Int32)] [] ml_MD_104 d_MD_rest_12 yv_MD_no sh_MD rfl rfl (fun o h => M_MD_no hC.inj h) (by decide) rfl rfl (Nat.le_of_ble_eq_true rfl) (fun o11 => ?_)
    exact VO_ireturn d_MD_rest_15
  · refine VO_const hC d_MD_rest_16 ?_
    refine VO_istore hC d_MD_rest_17 [(0, .ref (gad G 58)), (1, .int a1)] rfl (by decide) ?_
    refine VO_const hC d_MD_rest_18 ?_
    refine VO_istore hC d_MD_rest_19 [(2, .int (0 : Int32)), (0, .ref (gad G 58)), (1, .int a1)] rfl (by decide) ?_
    refine VO_aload hC d_MD_rest_20 2 rfl ?_
    refine VO_callVV hC [] [] ml_MD_215 d_MD_rest_21 yv_MD_goes sh_MD rfl rfl (fun o h => M_MD_goes hC.inj h) (by decide) rfl rfl (Nat.le_of_ble_eq_true rfl) (fun s2 => ?_)
    exact VO_sub [2, 3, 1, 0] rfl (B_MD_rest_24 hC a1 (0 : Int32) (0 : Int32) s2)
set_option maxRecDepth 20000 in
theorem M_MD_rest {l : Launch} {D : va_G} {ad : Nat → Nat} {cI cL : ClassId} (hj : Inj ad) {a1 : Int32} {s : St} {o : Int32 × St} (h : F_MD_rest a1 s = some o) : Cn l D ad cI cL y_MD_rest b_MD_rest 5 (some .int) 6 [.ref (ad 58), .int a1] s (some (.int o.1)) o.2 := by
  refine Cn_ofI hj (plainFor_of_name (by decide)) (Nat.le_of_ble_eq_true rfl) [(0, .ref (ad 58)), (1, .int a1)] rfl (fun G hC e1 e2 e3 e4 e5 hR => ?_)
  subst e1; subst e2; subst e3; subst e4; subst e5
  exact B_MD_rest hC a1 s o h hR
theorem d_MD_lastWord_0 : PLa b_MD_lastWord 0 0 1 := Or.inl ⟨0, by decide +kernel, rfl, rfl⟩
theorem d_MD_lastWord_1 : PLi b_MD_lastWord 1 1 2 := Or.inl ⟨1, by decide +kernel, rfl, rfl⟩
theorem d_MD_lastWord_2 : DR b_MD_lastWord 2 (.invokevirtual 93) 3 5 := ⟨by decide +kernel, rfl⟩
theorem d_MD_lastWord_5 : DJ b_MD_lastWord 5 (.ifCond .ne) 8 14 := ⟨9, by decide +kernel, rfl, by decide⟩
theorem d_MD_lastWord_8 : PLa b_MD_lastWord 8 0 9 := Or.inl ⟨0, by decide +kernel, rfl, rfl⟩
theorem d_MD_lastWord_9 : PCi b_MD_lastWord 9 (-1) 10 := Or.inl ⟨(-1), by decide +kernel, by decide, rfl⟩
theorem d_MD_lastWord_10 : DR b_MD_lastWord 10 (.invokevirtual 104) 3 13 := ⟨by decide +kernel, rfl⟩
theorem d_MD_lastWord_13 : DR b_MD_lastWord 13 (.ireturn) 1 14 := ⟨by decide +kernel, rfl⟩
theorem d_MD_lastWord_14 : PLa b_MD_lastWord 14 0 15 := Or.inl ⟨0, by decide +kernel, rfl, rfl⟩
theorem d_MD_lastWord_15 : PLi b_MD_lastWord 15 1 16 := Or.inl ⟨1, by decide +kernel, rfl, rfl⟩
theorem d_MD_lastWord_16 : PLa b_MD_lastWord 16 0 17 := Or.inl ⟨0, by decide +kernel, rfl, rfl⟩
theorem d_MD_lastWord_17 : DR b_MD_lastWord 17 (.getfield 90) 3 20 := ⟨by decide +kernel, rfl⟩
theorem d_MD_lastWord_20 : PCi b_MD_lastWord 20 1 21 := Or.inl ⟨1, by decide +kernel, by decide, rfl⟩
theorem d_MD_lastWord_21 : DR b_MD_lastWord 21 (.isub) 1 22 := ⟨by decide +kernel, rfl⟩
theorem d_MD_lastWord_22 : DR b_MD_lastWord 22 (.invokevirtual 268) 3 25 := ⟨by decide +kernel, rfl⟩
theorem d_MD_lastWord_25 : PSi b_MD_lastWord 25 2 26 := Or.inl ⟨2, by decide +kernel, rfl, rfl⟩
theorem d_MD_lastWord_26 : PCi b_MD_lastWord 26 0 27 := Or.inl ⟨0, by decide +kernel, by decide, rfl⟩
theorem d_MD_lastWord_27 : PSi b_MD_lastWord 27 3 28 := Or.inl ⟨3, by decide +kernel, rfl, rfl⟩
theorem d_MD_lastWord_28 : PLi b_MD_lastWord 28 3 29 := Or.inl ⟨3, by decide +kernel, rfl, rfl⟩
theorem d_MD_lastWord_29 : PLa b_MD_lastWord 29 0 30 := Or.inl ⟨0, by decide +kernel, rfl, rfl⟩
theorem d_MD_lastWord_30 : DR b_MD_lastWord 30 (.getfield 90) 3 33 := ⟨by decide +kernel, rfl⟩
theorem d_MD_lastWord_33 : PCi b_MD_lastWord 33 1 34 := Or.inl ⟨1, by decide +kernel, by decide, rfl⟩
theorem d_MD_lastWord_34 : DR b_MD_lastWord 34 (.isub) 1 35 := ⟨by decide +kernel, rfl⟩
theorem d_MD_lastWord_35 : PCi b_MD_lastWord 35 2 36 := Or.inl ⟨2, by decide +kernel, by decide, rfl⟩
theorem d_MD_lastWord_36 : DR b_MD_lastWord 36 (.idiv) 1 37 := ⟨by decide +kernel, rfl⟩
theorem d_MD_lastWord_37 : DJ b_MD_lastWord 37 (.if_icmp .ge) 40 88 := ⟨51, by decide +kernel, rfl, by decide⟩
theorem d_MD_lastWord_40 : PLa b_MD_lastWord 40 0 41 := Or.inl ⟨0, by decide +kernel, rfl, rfl⟩
theorem d_MD_lastWord_41 : DR b_MD_lastWord 41 (.getfield 59) 3 44 := ⟨by decide +kernel, rfl⟩
theorem d_MD_lastWord_44 : PLi b_MD_lastWord 44 3 45 := Or.inl ⟨3, by decide +kernel, rfl, rfl⟩
theorem d_MD_lastWord_45 : DR b_MD_lastWord 45 (.iaload) 1 46 := ⟨by decide +kernel, rfl⟩
theorem d_MD_lastWord_46 : PSi b_MD_lastWord 46 4 48 := Or.inr ⟨by decide +kernel, rfl⟩
theorem d_MD_lastWord_48 : PLa b_MD_lastWord 48 0 49 := Or.inl ⟨0, by decide +kernel, rfl, rfl⟩
theorem d_MD_lastWord_49 : DR b_MD_lastWord 49 (.getfield 59) 3 52 := ⟨by decide +kernel, rfl⟩
theorem d_MD_lastWord_52 : PLi b_MD_lastWord 52 3 53 := Or.inl ⟨3, by decide +kernel, rfl, rfl⟩
theorem d_MD_lastWord_53 : PLa b_MD_lastWord 53 0 54 := Or.inl ⟨0, by decide +kernel, rfl, rfl⟩
theorem d_MD_lastWord_54 : DR b_MD_lastWord 54 (.getfield 59) 3 57 := ⟨by decide +kernel, rfl⟩
theorem d_MD_lastWord_57 : PLa b_MD_lastWord 57 0 58 := Or.inl ⟨0, by decide +kernel, rfl, rfl⟩
theorem d_MD_lastWord_58 : DR b_MD_lastWord 58 (.getfield 90) 3 61 := ⟨by decide +kernel, rfl⟩
theorem d_MD_lastWord_61 : PCi b_MD_lastWord 61 2 62 := Or.inl ⟨2, by decide +kernel, by decide, rfl⟩
theorem d_MD_lastWord_62 : DR b_MD_lastWord 62 (.isub) 1 63 := ⟨by decide +kernel, rfl⟩
theorem d_MD_lastWord_63 : PLi b_MD_lastWord 63 3 64 := Or.inl ⟨3, by decide +kernel, rfl, rfl⟩
theorem d_MD_lastWord_64 : DR b_MD_lastWord 64 (.isub) 1 65 := ⟨by decide +kernel, rfl⟩
theorem d_MD_lastWord_65 : DR b_MD_lastWord 65 (.iaload) 1 66 := ⟨by decide +kernel, rfl⟩
theorem d_MD_lastWord_66 : DR b_MD_lastWord 66 (.iastore) 1 67 := ⟨by decide +kernel, rfl⟩
theorem d_MD_lastWord_67 : PLa b_MD_lastWord 67 0 68 := Or.inl ⟨0, by decide +kernel, rfl, rfl⟩
theorem d_MD_lastWord_68 : DR b_MD_lastWord 68 (.getfield 59) 3 71 := ⟨by decide +kernel, rfl⟩
theorem d_MD_lastWord_71 : PLa b_MD_lastWord 71 0 72 := Or.inl ⟨0, by decide +kernel, rfl, rfl⟩
theorem d_MD_lastWord_72 : DR b_MD_lastWord 72 (.getfield 90) 3 75 := ⟨by decide +kernel, rfl⟩
theorem d_MD_lastWord_75 : PCi b_MD_lastWord 75 2 76 := Or.inl ⟨2, by decide +kernel, by decide, rfl⟩
theorem d_MD_lastWord_76 : DR b_MD_lastWord 76 (.isub) 1 77 := ⟨by decide +kernel, rfl⟩
theorem d_MD_lastWord_77 : PLi b_MD_lastWord 77 3 78 := Or.inl ⟨3, by decide +kernel, rfl, rfl⟩
theorem d_MD_lastWord_78 : DR b_MD_lastWord 78 (.isub) 1 79 := ⟨by decide +kernel, rfl⟩
theorem d_MD_lastWord_79 : PLi b_MD_lastWord 79 4 81 := Or.inr ⟨by decide +kernel, rfl⟩
theorem d_MD_lastWord_81 : DR b_MD_lastWord 81 (.iastore) 1 82 := ⟨by decide +kernel, rfl⟩
theorem d_MD_lastWord_82 : DR b_MD_lastWord 82 (.iinc 3 1) 3 85 := ⟨by decide +kernel, rfl⟩
theorem d_MD_lastWord_85 : DJ b_MD_lastWord 85 .goto 88 28 := ⟨-57, by decide +kernel, rfl, by decide⟩
theorem d_MD_lastWord_88 : PLa b_MD_lastWord 88 0 89 := Or.inl ⟨0, by decide +kernel, rfl, rfl⟩
theorem d_MD_lastWord_89 : DR b_MD_lastWord 89 (.invokevirtual 209) 3 92 := ⟨by decide +kernel, rfl⟩
theorem d_MD_lastWord_92 : PLa b_MD_lastWord 92 0 93 := Or.inl ⟨0, by decide +kernel, rfl, rfl⟩
theorem d_MD_lastWord_93 : PLi b_MD_lastWord 93 1 94 := Or.inl ⟨1, by decide +kernel, rfl, rfl⟩
theorem d_MD_lastWord_94 : DR b_MD_lastWord 94 (.invokevirtual 212) 3 97 := ⟨by decide +kernel, rfl⟩
theorem d_MD_lastWord_97 : PLi b_MD_lastWord 97 2 98 := Or.inl ⟨2, by decide +kernel, rfl, rfl⟩
theorem d_MD_lastWord_98 : DJ b_MD_lastWord 98 (.if_icmp .ge) 101 109 := ⟨11, by decide +kernel, rfl, by decide⟩
theorem d_MD_lastWord_101 : PLa b_MD_lastWord 101 0 102 := Or.inl ⟨0, by decide +kernel, rfl, rfl⟩
theorem d_MD_lastWord_102 : PLi b_MD_lastWord 102 1 103 := Or.inl ⟨1, by decide +kernel, rfl, rfl⟩
theorem d_MD_lastWord_103 : DR b_MD_lastWord 103 (.invokevirtual 212) 3 106 := ⟨by decide +kernel, rfl⟩
theorem d_MD_lastWord_106 : DJ b_MD_lastWord 106 .goto 109 110 := ⟨4, by decide +kernel, rfl, by decide⟩
theorem d_MD_lastWord_109 : PLi b_MD_lastWord 109 2 110 := Or.inl ⟨2, by decide +kernel, rfl, rfl⟩
theorem d_MD_lastWord_110 : DR b_MD_lastWord 110 (.ireturn) 1 111 := ⟨by decide +kernel, rfl⟩
set_option maxRecDepth 20000 in
theorem BH_MD_lastWord_28 {G : MCx} (hC : C0 G "AccusedChooseModel" b_MD_lastWord 5 6) {v1 : Int32} {v2 : Int32} (K28 : Int32 × St → Option (Int32 × St)) (hK28 : ∀ (w3 : Int32) (s : St), VO G (RI G b_MD_lastWord) (K28 (w3, s)) 28 [(0, .ref (gad G 58)), (1, .int v1), (2, .int v2), (3, .int w3)] [] s) (v3 : Int32) (s : St) : VO G (RI G b_MD_lastWord) (H_MD_lastWord_28 v1 v2 K28 v3 s) 28 [(0, .ref (gad G 58)), (1, .int v1), (2, .int v2), (3, .int v3)] [] s := by
  unfold H_MD_lastWord_28
  refine VO_iload hC d_MD_lastWord_28 3 rfl ?_
  refine VO_aload hC d_MD_lastWord_29 0 rfl ?_
  refine VO_geti hC fl_MD_90 sh_MD rfl d_MD_lastWord_30 ?_
  refine VO_const hC d_MD_lastWord_33 ?_
  refine VO_isub hC d_MD_lastWord_34 ?_
  refine VO_const hC d_MD_lastWord_35 ?_
  refine VO_idivC hC d_MD_lastWord_36 (by decide) ?_
  refine VO_icmp_ge hC d_MD_lastWord_37 (fun _ => ?_) (fun _ => ?_)
  · refine VO_aload hC d_MD_lastWord_88 0 rfl ?_
    refine VO_callVV hC [] [] ml_MD_209 d_MD_lastWord_89 yv_MD_goesBy sh_MD rfl rfl (fun o h => M_MD_goesBy hC.inj h) (by decide) rfl rfl (Nat.le_of_ble_eq_true rfl) (fun s3 => ?_)
    refine VO_aload hC d_MD_lastWord_92 0 rfl ?_
    refine VO_iload hC d_MD_lastWord_93 1 rfl ?_
    refine VO_callVI hC [.int v1] [] ml_MD_212 d_MD_lastWord_94 yv_MD_hasMonths sh_MD rfl rfl (fun o h => M_MD_hasMonths hC.inj h) (by decide) rfl rfl (Nat.le_of_ble_eq_true rfl) (fun o4 => ?_)
    refine VO_iload hC d_MD_lastWord_97 2 rfl ?_
    refine VO_icmp_ge hC d_MD_lastWord_98 (fun _ => ?_) (fun _ => ?_)
    · refine VO_iload hC d_MD_lastWord_109 2 rfl ?_
      exact VO_ireturn d_MD_lastWord_110
    · refine VO_aload hC d_MD_lastWord_101 0 rfl ?_
      refine VO_iload hC d_MD_lastWord_102 1 rfl ?_
      refine VO_callVI hC [.int v1] [] ml_MD_212 d_MD_lastWord_103 yv_MD_hasMonths sh_MD rfl rfl (fun o h => M_MD_hasMonths hC.inj h) (by decide) rfl rfl (Nat.le_of_ble_eq_true rfl) (fun o5 => ?_)
      refine VO_goto hC d_MD_lastWord_106 ?_
      exact VO_ireturn d_MD_lastWord_110
  · refine VO_aload hC d_MD_lastWord_40 0 rfl ?_
    refine VO_getr (r := 74) hC fl_MD_59 sh_MD rfl d_MD_lastWord_41 ?_
    refine VO_iload hC d_MD_lastWord_44 3 rfl ?_
    refine VO_iaload hC ia_74 d_MD_lastWord_45 (fun x6 => ?_)
    refine VO_istore hC d_MD_lastWord_46 [(0, .ref (gad G 58)), (1, .int v1), (2, .int v2), (3, .int v3)] rfl (by decide) ?_
    refine VO_aload hC d_MD_lastWord_48 1 rfl ?_
    refine VO_getr (r := 74) hC fl_MD_59 sh_MD rfl d_MD_lastWord_49 ?_
    refine VO_iload hC d_MD_lastWord_52 4 rfl ?_
    refine VO_aload hC d_MD_lastWord_53 1 rfl ?_
    refine VO_getr (r := 74) hC fl_MD_59 sh_MD rfl d_MD_lastWord_54 ?_
    refine VO_aload hC d_MD_lastWord_57 1 rfl ?_
    refine VO_geti hC fl_MD_90 sh_MD rfl d_MD_lastWord_58 ?_
    refine VO_const hC d_MD_lastWord_61 ?_
    refine VO_isub hC d_MD_lastWord_62 ?_
    refine VO_iload hC d_MD_lastWord_63 4 rfl ?_
    refine VO_isub hC d_MD_lastWord_64 ?_
    refine VO_iaload hC ia_74 d_MD_lastWord_65 (fun x7 => ?_)
    refine VO_iastore hC ia_74 d_MD_lastWord_66 (fun s8 => ?_)
    refine VO_aload hC d_MD_lastWord_67 1 rfl ?_
    refine VO_getr (r := 74) hC fl_MD_59 sh_MD rfl d_MD_lastWord_68 ?_
    refine VO_aload hC d_MD_lastWord_71 1 rfl ?_
    refine VO_geti hC fl_MD_90 sh_MD rfl d_MD_lastWord_72 ?_
    refine VO_const hC d_MD_lastWord_75 ?_
    refine VO_isub hC d_MD_lastWord_76 ?_
    refine VO_iload hC d_MD_lastWord_77 4 rfl ?_
    refine VO_isub hC d_MD_lastWord_78 ?_
    refine VO_iload hC d_MD_lastWord_79 0 rfl ?_
    refine VO_iastore hC ia_74 d_MD_lastWord_81 (fun s9 => ?_)
    refine VO_iinc hC d_MD_lastWord_82 4 rfl (by decide : Int32.ofInt 1 = 1) [(4, .int x6), (0, .ref (gad G 58)), (1, .int v1), (2, .int v2)] rfl (by decide) ?_
    refine VO_goto hC d_MD_lastWord_85 ?_
    exact VO_sub [2, 3, 4, 0] rfl (hK28 (v3 + 1) s9)
set_option maxRecDepth 20000 in
theorem B_MD_lastWord_28 {G : MCx} (hC : C0 G "AccusedChooseModel" b_MD_lastWord 5 6) (v1 : Int32) (v2 : Int32) (v3 : Int32) (s : St) : VO G (RI G b_MD_lastWord) (F_MD_lastWord_28 v1 v2 v3 s) 28 [(0, .ref (gad G 58)), (1, .int v1), (2, .int v2), (3, .int v3)] [] s := by
  exact VO_fix (G_MD_lastWord_28 v1 v2) 28 (fun q => [(0, .ref (gad G 58)), (1, .int v1), (2, .int v2), (3, .int q.1)]) (fun q => q.2) (fun K hK q => BH_MD_lastWord_28 hC K (fun w3 s => hK (w3, s)) q.1 q.2) FUEL (v3, s)
set_option maxRecDepth 20000 in
theorem B_MD_lastWord {G : MCx} (hC : C0 G "AccusedChooseModel" b_MD_lastWord 5 6) (a1 : Int32) (s : St) : VO G (RI G b_MD_lastWord) (F_MD_lastWord a1 s) 0 [(0, .ref (gad G 58)), (1, .int a1)] [] s := by
  unfold F_MD_lastWord
  refine VO_aload hC d_MD_lastWord_0 0 rfl ?_
  refine VO_iload hC d_MD_lastWord_1 1 rfl ?_
  refine VO_callVI hC [.int a1] [] ml_MD_93 d_MD_lastWord_2 yv_MD_isPerson sh_MD rfl rfl (fun o h => M_MD_isPerson hC.inj h) (by decide) rfl rfl (Nat.le_of_ble_eq_true rfl) (fun o1 => ?_)
  refine VO_if_ne hC d_MD_lastWord_5 (fun _ => ?_) (fun _ => ?_)
  · refine VO_aload hC d_MD_lastWord_8 0 rfl ?_
    refine VO_const hC d_MD_lastWord_9 ?_
    refine VO_callVI hC [.int (-1 : Int32)] [] ml_MD_104 d_MD_lastWord_10 yv_MD_no sh_MD rfl rfl (fun o h => M_MD_no hC.inj h) (by decide) rfl rfl (Nat.le_of_ble_eq_true rfl) (fun o10 => ?_)
    exact VO_ireturn d_MD_lastWord_13
  · refine VO_aload hC d_MD_lastWord_14 0 rfl ?_
    refine VO_iload hC d_MD_lastWord_15 1 rfl ?_
    refine VO_aload hC d_MD_lastWord_16 0 rfl ?_
    refine VO_geti hC fl_MD_90 sh_MD rfl d_MD_lastWord_17 ?_
    refine VO_const hC d_MD_lastWord_20 ?_
    refine VO_isub hC d_MD_lastWord_21 ?_
    refine VO_callVI hC [.int a1, .int ((rd o1.2 58 10) - (1 : Int32))] [] ml_MD_268 d_MD_lastWord_22 yv_MD_monthsAt sh_MD rfl rfl (fun o h => M_MD_monthsAt hC.inj h) (by decide) rfl rfl (Nat.le_of_ble_eq_true rfl) (fun o2 => ?_)
    refine VO_istore hC d_MD_lastWord_25 [(0, .ref (gad G 58)), (1, .int a1)] rfl (by decide) ?_
    refine VO_const hC d_MD_lastWord_26 ?_
    refine VO_istore hC d_MD_lastWord_27 [(2, .int o2.1), (0, .ref (gad G 58)), (1, .int a1)] rfl (by decide) ?_
    exact VO_sub [2, 3, 1, 0] rfl (B_MD_lastWord_28 hC a1 o2.1 (0 : Int32) o2.2)
set_option maxRecDepth 20000 in
theorem M_MD_lastWord {l : Launch} {D : va_G} {ad : Nat → Nat} {cI cL : ClassId} (hj : Inj ad) {a1 : Int32} {s : St} {o : Int32 × St} (h : F_MD_lastWord a1 s = some o) : Cn l D ad cI cL y_MD_lastWord b_MD_lastWord 5 (some .int) 6 [.ref (ad 58), .int a1] s (some (.int o.1)) o.2 := by
  refine Cn_ofI hj (plainFor_of_name (by decide)) (Nat.le_of_ble_eq_true rfl) [(0, .ref (ad 58)), (1, .int a1)] rfl (fun G hC e1 e2 e3 e4 e5 hR => ?_)
  subst e1; subst e2; subst e3; subst e4; subst e5
  exact B_MD_lastWord hC a1 s o h hR
theorem d_MD_sumChanged_0 : PLa b_MD_sumChanged 0 0 1 := Or.inl ⟨0, by decide +kernel, rfl, rfl⟩
theorem d_MD_sumChanged_1 : DR b_MD_sumChanged 1 (.invokevirtual 206) 3 4 := ⟨by decide +kernel, rfl⟩
theorem d_MD_sumChanged_4 : PLa b_MD_sumChanged 4 0 5 := Or.inl ⟨0, by decide +kernel, rfl, rfl⟩
theorem d_MD_sumChanged_5 : DR b_MD_sumChanged 5 (.getfield 59) 3 8 := ⟨by decide +kernel, rfl⟩
theorem d_MD_sumChanged_8 : PLa b_MD_sumChanged 8 0 9 := Or.inl ⟨0, by decide +kernel, rfl, rfl⟩
theorem d_MD_sumChanged_9 : PLi b_MD_sumChanged 9 1 10 := Or.inl ⟨1, by decide +kernel, rfl, rfl⟩
theorem d_MD_sumChanged_10 : DR b_MD_sumChanged 10 (.invokevirtual 177) 3 13 := ⟨by decide +kernel, rfl⟩
theorem d_MD_sumChanged_13 : PLi b_MD_sumChanged 13 2 14 := Or.inl ⟨2, by decide +kernel, rfl, rfl⟩
theorem d_MD_sumChanged_14 : DR b_MD_sumChanged 14 (.iastore) 1 15 := ⟨by decide +kernel, rfl⟩
theorem d_MD_sumChanged_15 : PLa b_MD_sumChanged 15 0 16 := Or.inl ⟨0, by decide +kernel, rfl, rfl⟩
theorem d_MD_sumChanged_16 : DR b_MD_sumChanged 16 (.getfield 59) 3 19 := ⟨by decide +kernel, rfl⟩
theorem d_MD_sumChanged_19 : PLa b_MD_sumChanged 19 0 20 := Or.inl ⟨0, by decide +kernel, rfl, rfl⟩
theorem d_MD_sumChanged_20 : PLi b_MD_sumChanged 20 2 21 := Or.inl ⟨2, by decide +kernel, rfl, rfl⟩
theorem d_MD_sumChanged_21 : DR b_MD_sumChanged 21 (.invokevirtual 177) 3 24 := ⟨by decide +kernel, rfl⟩
theorem d_MD_sumChanged_24 : PLi b_MD_sumChanged 24 1 25 := Or.inl ⟨1, by decide +kernel, rfl, rfl⟩
theorem d_MD_sumChanged_25 : DR b_MD_sumChanged 25 (.iastore) 1 26 := ⟨by decide +kernel, rfl⟩
theorem d_MD_sumChanged_26 : PLa b_MD_sumChanged 26 0 27 := Or.inl ⟨0, by decide +kernel, rfl, rfl⟩
theorem d_MD_sumChanged_27 : DR b_MD_sumChanged 27 (.invokevirtual 209) 3 30 := ⟨by decide +kernel, rfl⟩
theorem d_MD_sumChanged_30 : PLa b_MD_sumChanged 30 0 31 := Or.inl ⟨0, by decide +kernel, rfl, rfl⟩
theorem d_MD_sumChanged_31 : PLi b_MD_sumChanged 31 1 32 := Or.inl ⟨1, by decide +kernel, rfl, rfl⟩
theorem d_MD_sumChanged_32 : DR b_MD_sumChanged 32 (.invokevirtual 212) 3 35 := ⟨by decide +kernel, rfl⟩
theorem d_MD_sumChanged_35 : PLa b_MD_sumChanged 35 0 36 := Or.inl ⟨0, by decide +kernel, rfl, rfl⟩
theorem d_MD_sumChanged_36 : PLi b_MD_sumChanged 36 2 37 := Or.inl ⟨2, by decide +kernel, rfl, rfl⟩
theorem d_MD_sumChanged_37 : DR b_MD_sumChanged 37 (.invokevirtual 212) 3 40 := ⟨by decide +kernel, rfl⟩
theorem d_MD_sumChanged_40 : DR b_MD_sumChanged 40 (.iadd) 1 41 := ⟨by decide +kernel, rfl⟩
theorem d_MD_sumChanged_41 : DR b_MD_sumChanged 41 (.ireturn) 1 42 := ⟨by decide +kernel, rfl⟩
set_option maxRecDepth 20000 in
theorem B_MD_sumChanged {G : MCx} (hC : C0 G "AccusedChooseModel" b_MD_sumChanged 3 5) (a1 : Int32) (a2 : Int32) (s : St) : VO G (RI G b_MD_sumChanged) (F_MD_sumChanged a1 a2 s) 0 [(0, .ref (gad G 58)), (1, .int a1), (2, .int a2)] [] s := by
  unfold F_MD_sumChanged
  refine VO_aload hC d_MD_sumChanged_0 0 rfl ?_
  refine VO_callVV hC [] [] ml_MD_206 d_MD_sumChanged_1 yv_MD_asItIs sh_MD rfl rfl (fun o h => M_MD_asItIs hC.inj h) (by decide) rfl rfl (Nat.le_of_ble_eq_true rfl) (fun s1 => ?_)
  refine VO_aload hC d_MD_sumChanged_4 0 rfl ?_
  refine VO_getr (r := 74) hC fl_MD_59 sh_MD rfl d_MD_sumChanged_5 ?_
  refine VO_aload hC d_MD_sumChanged_8 0 rfl ?_
  refine VO_iload hC d_MD_sumChanged_9 1 rfl ?_
  refine VO_callVI hC [.int a1] [.ref (gad G 74)] ml_MD_177 d_MD_sumChanged_10 yv_MD_placeOf sh_MD rfl rfl (fun o h => M_MD_placeOf hC.inj h) (by decide) rfl rfl (Nat.le_of_ble_eq_true rfl) (fun o2 => ?_)
  refine VO_iload hC d_MD_sumChanged_13 2 rfl ?_
  refine VO_iastore hC ia_74 d_MD_sumChanged_14 (fun s3 => ?_)
  refine VO_aload hC d_MD_sumChanged_15 0 rfl ?_
  refine VO_getr (r := 74) hC fl_MD_59 sh_MD rfl d_MD_sumChanged_16 ?_
  refine VO_aload hC d_MD_sumChanged_19 0 rfl ?_
  refine VO_iload hC d_MD_sumChanged_20 2 rfl ?_
  refine VO_callVI hC [.int a2] [.ref (gad G 74)] ml_MD_177 d_MD_sumChanged_21 yv_MD_placeOf sh_MD rfl rfl (fun o h => M_MD_placeOf hC.inj h) (by decide) rfl rfl (Nat.le_of_ble_eq_true rfl) (fun o4 => ?_)
  refine VO_iload hC d_MD_sumChanged_24 1 rfl ?_
  refine VO_iastore hC ia_74 d_MD_sumChanged_25 (fun s5 => ?_)
  refine VO_aload hC d_MD_sumChanged_26 0 rfl ?_
  refine VO_callVV hC [] [] ml_MD_209 d_MD_sumChanged_27 yv_MD_goesBy sh_MD rfl rfl (fun o h => M_MD_goesBy hC.inj h) (by decide) rfl rfl (Nat.le_of_ble_eq_true rfl) (fun s6 => ?_)
  refine VO_aload hC d_MD_sumChanged_30 0 rfl ?_
  refine VO_iload hC d_MD_sumChanged_31 1 rfl ?_
  refine VO_callVI hC [.int a1] [] ml_MD_212 d_MD_sumChanged_32 yv_MD_hasMonths sh_MD rfl rfl (fun o h => M_MD_hasMonths hC.inj h) (by decide) rfl rfl (Nat.le_of_ble_eq_true rfl) (fun o7 => ?_)
  refine VO_aload hC d_MD_sumChanged_35 0 rfl ?_
  refine VO_iload hC d_MD_sumChanged_36 2 rfl ?_
  refine VO_callVI hC [.int a2] [.int o7.1] ml_MD_212 d_MD_sumChanged_37 yv_MD_hasMonths sh_MD rfl rfl (fun o h => M_MD_hasMonths hC.inj h) (by decide) rfl rfl (Nat.le_of_ble_eq_true rfl) (fun o8 => ?_)
  refine VO_iadd hC d_MD_sumChanged_40 ?_
  exact VO_ireturn d_MD_sumChanged_41
set_option maxRecDepth 20000 in
theorem M_MD_sumChanged {l : Launch} {D : va_G} {ad : Nat → Nat} {cI cL : ClassId} (hj : Inj ad) {a1 : Int32} {a2 : Int32} {s : St} {o : Int32 × St} (h : F_MD_sumChanged a1 a2 s = some o) : Cn l D ad cI cL y_MD_sumChanged b_MD_sumChanged 3 (some .int) 5 [.ref (ad 58), .int a1, .int a2] s (some (.int o.1)) o.2 := by
  refine Cn_ofI hj (plainFor_of_name (by decide)) (Nat.le_of_ble_eq_true rfl) [(0, .ref (ad 58)), (1, .int a1), (2, .int a2)] rfl (fun G hC e1 e2 e3 e4 e5 hR => ?_)
  subst e1; subst e2; subst e3; subst e4; subst e5
  exact B_MD_sumChanged hC a1 a2 s o h hR
theorem d_MD_bribe_0 : PLi b_MD_bribe 0 1 1 := Or.inl ⟨1, by decide +kernel, rfl, rfl⟩
theorem d_MD_bribe_1 : PCi b_MD_bribe 1 0 2 := Or.inl ⟨0, by decide +kernel, by decide, rfl⟩
theorem d_MD_bribe_2 : PCi b_MD_bribe 2 1 3 := Or.inl ⟨1, by decide +kernel, by decide, rfl⟩
theorem d_MD_bribe_3 : DR b_MD_bribe 3 (.invokestatic 115) 3 6 := ⟨by decide +kernel, rfl⟩
theorem d_MD_bribe_6 : DJ b_MD_bribe 6 (.ifCond .ne) 9 16 := ⟨10, by decide +kernel, rfl, by decide⟩
theorem d_MD_bribe_9 : PLa b_MD_bribe 9 0 10 := Or.inl ⟨0, by decide +kernel, rfl, rfl⟩
theorem d_MD_bribe_10 : PCi b_MD_bribe 10 (-2) 12 := Or.inr (Or.inl ⟨(-2), by decide +kernel, by decide, rfl⟩)
theorem d_MD_bribe_12 : DR b_MD_bribe 12 (.invokevirtual 104) 3 15 := ⟨by decide +kernel, rfl⟩
theorem d_MD_bribe_15 : DR b_MD_bribe 15 (.ireturn) 1 16 := ⟨by decide +kernel, rfl⟩
theorem d_MD_bribe_16 : PCi b_MD_bribe 16 (-9) 18 := Or.inr (Or.inl ⟨(-9), by decide +kernel, by decide, rfl⟩)
theorem d_MD_bribe_18 : PSi b_MD_bribe 18 2 19 := Or.inl ⟨2, by decide +kernel, rfl, rfl⟩
theorem d_MD_bribe_19 : DR b_MD_bribe 19 (.ldc 87) 2 21 := ⟨by decide +kernel, rfl⟩
theorem d_MD_bribe_21 : PSi b_MD_bribe 21 3 22 := Or.inl ⟨3, by decide +kernel, rfl, rfl⟩
theorem d_MD_bribe_22 : PCi b_MD_bribe 22 0 23 := Or.inl ⟨0, by decide +kernel, by decide, rfl⟩
theorem d_MD_bribe_23 : PSi b_MD_bribe 23 4 25 := Or.inr ⟨by decide +kernel, rfl⟩
theorem d_MD_bribe_25 : PCi b_MD_bribe 25 0 26 := Or.inl ⟨0, by decide +kernel, by decide, rfl⟩
theorem d_MD_bribe_26 : PSi b_MD_bribe 26 5 28 := Or.inr ⟨by decide +kernel, rfl⟩
theorem d_MD_bribe_28 : PLi b_MD_bribe 28 5 30 := Or.inr ⟨by decide +kernel, rfl⟩
theorem d_MD_bribe_30 : PLa b_MD_bribe 30 0 31 := Or.inl ⟨0, by decide +kernel, rfl, rfl⟩
theorem d_MD_bribe_31 : DR b_MD_bribe 31 (.getfield 90) 3 34 := ⟨by decide +kernel, rfl⟩
theorem d_MD_bribe_34 : DJ b_MD_bribe 34 (.if_icmp .ge) 37 128 := ⟨94, by decide +kernel, rfl, by decide⟩
theorem d_MD_bribe_37 : PLi b_MD_bribe 37 5 39 := Or.inr ⟨by decide +kernel, rfl⟩
theorem d_MD_bribe_39 : PCi b_MD_bribe 39 1 40 := Or.inl ⟨1, by decide +kernel, by decide, rfl⟩
theorem d_MD_bribe_40 : DR b_MD_bribe 40 (.iadd) 1 41 := ⟨by decide +kernel, rfl⟩
theorem d_MD_bribe_41 : PSi b_MD_bribe 41 6 43 := Or.inr ⟨by decide +kernel, rfl⟩
theorem d_MD_bribe_43 : PLi b_MD_bribe 43 6 45 := Or.inr ⟨by decide +kernel, rfl⟩
theorem d_MD_bribe_45 : PLa b_MD_bribe 45 0 46 := Or.inl ⟨0, by decide +kernel, rfl, rfl⟩
theorem d_MD_bribe_46 : DR b_MD_bribe 46 (.getfield 90) 3 49 := ⟨by decide +kernel, rfl⟩
theorem d_MD_bribe_49 : DJ b_MD_bribe 49 (.if_icmp .ge) 52 122 := ⟨73, by decide +kernel, rfl, by decide⟩
theorem d_MD_bribe_52 : PLa b_MD_bribe 52 0 53 := Or.inl ⟨0, by decide +kernel, rfl, rfl⟩
theorem d_MD_bribe_53 : DR b_MD_bribe 53 (.invokevirtual 215) 3 56 := ⟨by decide +kernel, rfl⟩
theorem d_MD_bribe_56 : PLa b_MD_bribe 56 0 57 := Or.inl ⟨0, by decide +kernel, rfl, rfl⟩
theorem d_MD_bribe_57 : PLi b_MD_bribe 57 5 59 := Or.inr ⟨by decide +kernel, rfl⟩
theorem d_MD_bribe_59 : DR b_MD_bribe 59 (.invokevirtual 212) 3 62 := ⟨by decide +kernel, rfl⟩
theorem d_MD_bribe_62 : PLa b_MD_bribe 62 0 63 := Or.inl ⟨0, by decide +kernel, rfl, rfl⟩
theorem d_MD_bribe_63 : PLi b_MD_bribe 63 6 65 := Or.inr ⟨by decide +kernel, rfl⟩
theorem d_MD_bribe_65 : DR b_MD_bribe 65 (.invokevirtual 212) 3 68 := ⟨by decide +kernel, rfl⟩
theorem d_MD_bribe_68 : DR b_MD_bribe 68 (.iadd) 1 69 := ⟨by decide +kernel, rfl⟩
theorem d_MD_bribe_69 : PSi b_MD_bribe 69 7 71 := Or.inr ⟨by decide +kernel, rfl⟩
theorem d_MD_bribe_71 : PLa b_MD_bribe 71 0 72 := Or.inl ⟨0, by decide +kernel, rfl, rfl⟩
theorem d_MD_bribe_72 : PLi b_MD_bribe 72 5 74 := Or.inr ⟨by decide +kernel, rfl⟩
theorem d_MD_bribe_74 : PLi b_MD_bribe 74 6 76 := Or.inr ⟨by decide +kernel, rfl⟩
theorem d_MD_bribe_76 : DR b_MD_bribe 76 (.invokevirtual 327) 3 79 := ⟨by decide +kernel, rfl⟩
theorem d_MD_bribe_79 : PSi b_MD_bribe 79 8 81 := Or.inr ⟨by decide +kernel, rfl⟩
theorem d_MD_bribe_81 : PLi b_MD_bribe 81 8 83 := Or.inr ⟨by decide +kernel, rfl⟩
theorem d_MD_bribe_83 : PLi b_MD_bribe 83 7 85 := Or.inr ⟨by decide +kernel, rfl⟩
theorem d_MD_bribe_85 : DJ b_MD_bribe 85 (.if_icmp .ge) 88 116 := ⟨31, by decide +kernel, rfl, by decide⟩
theorem d_MD_bribe_88 : PLi b_MD_bribe 88 8 90 := Or.inr ⟨by decide +kernel, rfl⟩
theorem d_MD_bribe_90 : PLi b_MD_bribe 90 3 91 := Or.inl ⟨3, by decide +kernel, rfl, rfl⟩
theorem d_MD_bribe_91 : DJ b_MD_bribe 91 (.if_icmp .lt) 94 97 := ⟨6, by decide +kernel, rfl, by decide⟩
theorem d_MD_bribe_94 : DJ b_MD_bribe 94 .goto 97 116 := ⟨22, by decide +kernel, rfl, by decide⟩
theorem d_MD_bribe_97 : PCi b_MD_bribe 97 10 99 := Or.inr (Or.inl ⟨10, by decide +kernel, by decide, rfl⟩)
theorem d_MD_bribe_99 : PLi b_MD_bribe 99 5 101 := Or.inr ⟨by decide +kernel, rfl⟩
theorem d_MD_bribe_101 : DR b_MD_bribe 101 (.imul) 1 102 := ⟨by decide +kernel, rfl⟩
theorem d_MD_bribe_102 : PLi b_MD_bribe 102 6 104 := Or.inr ⟨by decide +kernel, rfl⟩
theorem d_MD_bribe_104 : DR b_MD_bribe 104 (.iadd) 1 105 := ⟨by decide +kernel, rfl⟩
theorem d_MD_bribe_105 : PSi b_MD_bribe 105 2 106 := Or.inl ⟨2, by decide +kernel, rfl, rfl⟩
theorem d_MD_bribe_106 : PLi b_MD_bribe 106 8 108 := Or.inr ⟨by decide +kernel, rfl⟩
theorem d_MD_bribe_108 : PSi b_MD_bribe 108 3 109 := Or.inl ⟨3, by decide +kernel, rfl, rfl⟩
theorem d_MD_bribe_109 : PLi b_MD_bribe 109 7 111 := Or.inr ⟨by decide +kernel, rfl⟩
theorem d_MD_bribe_111 : PLi b_MD_bribe 111 8 113 := Or.inr ⟨by decide +kernel, rfl⟩
theorem d_MD_bribe_113 : DR b_MD_bribe 113 (.isub) 1 114 := ⟨by decide +kernel, rfl⟩
theorem d_MD_bribe_114 : PSi b_MD_bribe 114 4 116 := Or.inr ⟨by decide +kernel, rfl⟩
theorem d_MD_bribe_116 : DR b_MD_bribe 116 (.iinc 6 1) 3 119 := ⟨by decide +kernel, rfl⟩
theorem d_MD_bribe_119 : DJ b_MD_bribe 119 .goto 122 43 := ⟨-76, by decide +kernel, rfl, by decide⟩
theorem d_MD_bribe_122 : DR b_MD_bribe 122 (.iinc 5 1) 3 125 := ⟨by decide +kernel, rfl⟩
theorem d_MD_bribe_125 : DJ b_MD_bribe 125 .goto 128 28 := ⟨-97, by decide +kernel, rfl, by decide⟩
theorem d_MD_bribe_128 : PLi b_MD_bribe 128 1 129 := Or.inl ⟨1, by decide +kernel, rfl, rfl⟩
theorem d_MD_bribe_129 : DJ b_MD_bribe 129 (.ifCond .eq) 132 136 := ⟨7, by decide +kernel, rfl, by decide⟩
theorem d_MD_bribe_132 : PLi b_MD_bribe 132 2 133 := Or.inl ⟨2, by decide +kernel, rfl, rfl⟩
theorem d_MD_bribe_133 : DJ b_MD_bribe 133 (.ifCond .ge) 136 140 := ⟨7, by decide +kernel, rfl, by decide⟩
theorem d_MD_bribe_136 : PLi b_MD_bribe 136 2 137 := Or.inl ⟨2, by decide +kernel, rfl, rfl⟩
theorem d_MD_bribe_137 : DJ b_MD_bribe 137 .goto 140 142 := ⟨5, by decide +kernel, rfl, by decide⟩
theorem d_MD_bribe_140 : PLi b_MD_bribe 140 4 142 := Or.inr ⟨by decide +kernel, rfl⟩
theorem d_MD_bribe_142 : DR b_MD_bribe 142 (.ireturn) 1 143 := ⟨by decide +kernel, rfl⟩
set_option maxRecDepth 20000 in
theorem B_MD_bribe_136 {G : MCx} (hC : C0 G "AccusedChooseModel" b_MD_bribe 9 6) (v2 : Int32) (s : St) : VO G (RI G b_MD_bribe) (F_MD_bribe_136 v2 s) 136 [(2, .int v2)] [] s := by
  unfold F_MD_bribe_136
  refine VO_iload hC d_MD_bribe_136 0 rfl ?_
  refine VO_goto hC d_MD_bribe_137 ?_
  exact VO_ireturn d_MD_bribe_142
set_option maxRecDepth 20000 in
theorem B_MD_bribe_116 {G : MCx} (hC : C0 G "AccusedChooseModel" b_MD_bribe 9 6) {v1 : Int32} {v5 : Int32} (K28 : Int32 × Int32 × Int32 × Int32 × St → Option (Int32 × St)) (hK28 : ∀ (w2 : Int32) (w3 : Int32) (w4 : Int32) (w5 : Int32) (s : St), VO G (RI G b_MD_bribe) (K28 (w2, w3, w4, w5, s)) 28 [(0, .ref (gad G 58)), (1, .int v1), (2, .int w2), (3, .int w3), (4, .int w4), (5, .int w5)] [] s) (K43 : Int32 × Int32 × Int32 × Int32 × St → Option (Int32 × St)) (hK43 : ∀ (w2 : Int32) (w3 : Int32) (w4 : Int32) (w6 : Int32) (s : St), VO G (RI G b_MD_bribe) (K43 (w2, w3, w4, w6, s)) 43 [(0, .ref (gad G 58)), (1, .int v1), (2, .int w2), (3, .int w3), (4, .int w4), (5, .int v5), (6, .int w6)] [] s) (v2 : Int32) (v3 : Int32) (v4 : Int32) (v6 : Int32) (s : St) : VO G (RI G b_MD_bribe) (F_MD_bribe_116 K28 K43 v1 v2 v3 v4 v5 v6 s) 116 [(0, .ref (gad G 58)), (1, .int v1), (2, .int v2), (3, .int v3), (4, .int v4), (5, .int v5), (6, .int v6)] [] s := by
  unfold F_MD_bribe_116
  refine VO_iinc hC d_MD_bribe_116 6 rfl (by decide : Int32.ofInt 1 = 1) [(0, .ref (gad G 58)), (1, .int v1), (2, .int v2), (3, .int v3), (4, .int v4), (5, .int v5)] rfl (by decide) ?_
  refine VO_goto hC d_MD_bribe_119 ?_
  exact VO_sub [1, 2, 3, 4, 5, 6, 0] rfl (hK43 v2 v3 v4 (v6 + 1) s)
set_option maxRecDepth 20000 in
theorem BH_MD_bribe_43 {G : MCx} (hC : C0 G "AccusedChooseModel" b_MD_bribe 9 6) {v1 : Int32} {v5 : Int32} (K28 : Int32 × Int32 × Int32 × Int32 × St → Option (Int32 × St)) (hK28 : ∀ (w2 : Int32) (w3 : Int32) (w4 : Int32) (w5 : Int32) (s : St), VO G (RI G b_MD_bribe) (K28 (w2, w3, w4, w5, s)) 28 [(0, .ref (gad G 58)), (1, .int v1), (2, .int w2), (3, .int w3), (4, .int w4), (5, .int w5)] [] s) (K43 : Int32 × Int32 × Int32 × Int32 × St → Option (Int32 × St)) (hK43 : ∀ (w2 : Int32) (w3 : Int32) (w4 : Int32) (w6 : Int32) (s : St), VO G (RI G b_MD_bribe) (K43 (w2, w3, w4, w6, s)) 43 [(0, .ref (gad G 58)), (1, .int v1), (2, .int w2), (3, .int w3), (4, .int w4), (5, .int v5), (6, .int w6)] [] s) (v2 : Int32) (v3 : Int32) (v4 : Int32) (v6 : Int32) (s : St) : VO G (RI G b_MD_bribe) (H_MD_bribe_43 K28 v1 v5 K43 v2 v3 v4 v6 s) 43 [(0, .ref (gad G 58)), (1, .int v1), (2, .int v2), (3, .int v3), (4, .int v4), (5, .int v5), (6, .int v6)] [] s := by
  unfold H_MD_bribe_43
  refine VO_iload hC d_MD_bribe_43 6 rfl ?_
  refine VO_aload hC d_MD_bribe_45 0 rfl ?_
  refine VO_geti hC fl_MD_90 sh_MD rfl d_MD_bribe_46 ?_
  refine VO_icmp_ge hC d_MD_bribe_49 (fun _ => ?_) (fun _ => ?_)
  · refine VO_iinc hC d_MD_bribe_122 5 rfl (by decide : Int32.ofInt 1 = 1) [(0, .ref (gad G 58)), (1, .int v1), (2, .int v2), (3, .int v3), (4, .int v4), (6, .int v6)] rfl (by decide) ?_
    refine VO_goto hC d_MD_bribe_125 ?_
    exact VO_sub [1, 2, 3, 4, 5, 0] rfl (hK28 v2 v3 v4 (v5 + 1) s)
  · refine VO_aload hC d_MD_bribe_52 0 rfl ?_
    refine VO_callVV hC [] [] ml_MD_215 d_MD_bribe_53 yv_MD_goes sh_MD rfl rfl (fun o h => M_MD_goes hC.inj h) (by decide) rfl rfl (Nat.le_of_ble_eq_true rfl) (fun s3 => ?_)
    refine VO_aload hC d_MD_bribe_56 0 rfl ?_
    refine VO_iload hC d_MD_bribe_57 5 rfl ?_
    refine VO_callVI hC [.int v5] [] ml_MD_212 d_MD_bribe_59 yv_MD_hasMonths sh_MD rfl rfl (fun o h => M_MD_hasMonths hC.inj h) (by decide) rfl rfl (Nat.le_of_ble_eq_true rfl) (fun o4 => ?_)
    refine VO_aload hC d_MD_bribe_62 0 rfl ?_
    refine VO_iload hC d_MD_bribe_63 6 rfl ?_
    refine VO_callVI hC [.int v6] [.int o4.1] ml_MD_212 d_MD_bribe_65 yv_MD_hasMonths sh_MD rfl rfl (fun o h => M_MD_hasMonths hC.inj h) (by decide) rfl rfl (Nat.le_of_ble_eq_true rfl) (fun o5 => ?_)
    refine VO_iadd hC d_MD_bribe_68 ?_
    refine VO_istoreB hC d_MD_bribe_69 [(0, .ref (gad G 58)), (1, .int v1), (2, .int v2), (3, .int v3), (4, .int v4), (5, .int v5), (6, .int v6)] rfl (by decide) (fun x6 => ?_)
    refine VO_aload hC d_MD_bribe_71 1 rfl ?_
    refine VO_iload hC d_MD_bribe_72 6 rfl ?_
    refine VO_iload hC d_MD_bribe_74 7 rfl ?_
    refine VO_callVI hC [.int v5, .int v6] [] ml_MD_327 d_MD_bribe_76 yv_MD_sumChanged sh_MD rfl rfl (fun o h => M_MD_sumChanged hC.inj h) (by decide) rfl rfl (Nat.le_of_ble_eq_true rfl) (fun o7 => ?_)
    refine VO_istore hC d_MD_bribe_79 [(7, .int x6), (0, .ref (gad G 58)), (1, .int v1), (2, .int v2), (3, .int v3), (4, .int v4), (5, .int v5), (6, .int v6)] rfl (by decide) ?_
    refine VO_iload hC d_MD_bribe_81 0 rfl ?_
    refine VO_iload hC d_MD_bribe_83 1 rfl ?_
    refine VO_icmp_ge hC d_MD_bribe_85 (fun _ => ?_) (fun _ => ?_)
    · exact VO_sub [2, 3, 4, 5, 6, 7, 8] rfl (B_MD_bribe_116 hC K28 hK28 K43 hK43 v2 v3 v4 v6 o7.2)
    · refine VO_iload hC d_MD_bribe_88 0 rfl ?_
      refine VO_iload hC d_MD_bribe_90 5 rfl ?_
      refine VO_icmp_lt hC d_MD_bribe_91 (fun _ => ?_) (fun _ => ?_)
      · refine VO_const hC d_MD_bribe_97 ?_
        refine VO_iload hC d_MD_bribe_99 7 rfl ?_
        refine VO_imul hC d_MD_bribe_101 ?_
        refine VO_iload hC d_MD_bribe_102 8 rfl ?_
        refine VO_iadd hC d_MD_bribe_104 ?_
        refine VO_istoreB hC d_MD_bribe_105 [(8, .int o7.1), (7, .int x6), (0, .ref (gad G 58)), (1, .int v1), (3, .int v3), (4, .int v4), (5, .int v5), (6, .int v6)] rfl (by decide) (fun x8 => ?_)
        refine VO_iload hC d_MD_bribe_106 1 rfl ?_
        refine VO_istore hC d_MD_bribe_108 [(2, .int x8), (8, .int o7.1), (7, .int x6), (0, .ref (gad G 58)), (1, .int v1), (4, .int v4), (5, .int v5), (6, .int v6)] rfl (by decide) ?_
        refine VO_iload hC d_MD_bribe_109 3 rfl ?_
        refine VO_iload hC d_MD_bribe_111 2 rfl ?_
        refine VO_isub hC d_MD_bribe_113 ?_
        refine VO_istoreB hC d_MD_bribe_114 [(3, .int o7.1), (2, .int x8), (8, .int o7.1), (7, .int x6), (0, .ref (gad G 58)), (1, .int v1), (5, .int v5), (6, .int v6)] rfl (by decide) (fun x9 => ?_)
        exact VO_sub [5, 6, 2, 1, 0, 7, 8] rfl (B_MD_bribe_116 hC K28 hK28 K43 hK43 x8 o7.1 x9 v6 o7.2)
      · refine VO_goto hC d_MD_bribe_94 ?_
        exact VO_sub [2, 3, 4, 5, 6, 7, 8] rfl (B_MD_bribe_116 hC K28 hK28 K43 hK43 v2 v3 v4 v6 o7.2)
set_option maxRecDepth 20000 in
theorem B_MD_bribe_43 {G : MCx} (hC : C0 G "AccusedChooseModel" b_MD_bribe 9 6) {v1 : Int32} (K28 : Int32 × Int32 × Int32 × Int32 × St → Option (Int32 × St)) (hK28 : ∀ (w2 : Int32) (w3 : Int32) (w4 : Int32) (w5 : Int32) (s : St), VO G (RI G b_MD_bribe) (K28 (w2, w3, w4, w5, s)) 28 [(0, .ref (gad G 58)), (1, .int v1), (2, .int w2), (3, .int w3), (4, .int w4), (5, .int w5)] [] s) (v2 : Int32) (v3 : Int32) (v4 : Int32) (v5 : Int32) (v6 : Int32) (s : St) : VO G (RI G b_MD_bribe) (F_MD_bribe_43 K28 v1 v2 v3 v4 v5 v6 s) 43 [(0, .ref (gad G 58)), (1, .int v1), (2, .int v2), (3, .int v3), (4, .int v4), (5, .int v5), (6, .int v6)] [] s := by
  exact VO_fix (G_MD_bribe_43 K28 v1 v5) 43 (fun q => [(0, .ref (gad G 58)), (1, .int v1), (2, .int q.1), (3, .int q.2.1), (4, .int q.2.2.1), (5, .int v5), (6, .int q.2.2.2.1)]) (fun q => q.2.2.2.2) (fun K hK q => BH_MD_bribe_43 hC K28 hK28 K (fun w2 w3 w4 w6 s => hK (w2, w3, w4, w6, s)) q.1 q.2.1 q.2.2.1 q.2.2.2.1 q.2.2.2.2) FUEL (v2, v3, v4, v6, s)
set_option maxRecDepth 20000 in
theorem BH_MD_bribe_28 {G : MCx} (hC : C0 G "AccusedChooseModel" b_MD_bribe 9 6) {v1 : Int32} (K28 : Int32 × Int32 × Int32 × Int32 × St → Option (Int32 × St)) (hK28 : ∀ (w2 : Int32) (w3 : Int32) (w4 : Int32) (w5 : Int32) (s : St), VO G (RI G b_MD_bribe) (K28 (w2, w3, w4, w5, s)) 28 [(0, .ref (gad G 58)), (1, .int v1), (2, .int w2), (3, .int w3), (4, .int w4), (5, .int w5)] [] s) (v2 : Int32) (v3 : Int32) (v4 : Int32) (v5 : Int32) (s : St) : VO G (RI G b_MD_bribe) (H_MD_bribe_28 v1 K28 v2 v3 v4 v5 s) 28 [(0, .ref (gad G 58)), (1, .int v1), (2, .int v2), (3, .int v3), (4, .int v4), (5, .int v5)] [] s := by
  unfold H_MD_bribe_28
  refine VO_iload hC d_MD_bribe_28 5 rfl ?_
  refine VO_aload hC d_MD_bribe_30 0 rfl ?_
  refine VO_geti hC fl_MD_90 sh_MD rfl d_MD_bribe_31 ?_
  refine VO_icmp_ge hC d_MD_bribe_34 (fun _ => ?_) (fun _ => ?_)
  · refine VO_iload hC d_MD_bribe_128 1 rfl ?_
    refine VO_if_eq hC d_MD_bribe_129 (fun _ => ?_) (fun _ => ?_)
    · exact VO_sub [2] rfl (B_MD_bribe_136 hC v2 s)
    · refine VO_iload hC d_MD_bribe_132 2 rfl ?_
      refine VO_if_ge hC d_MD_bribe_133 (fun _ => ?_) (fun _ => ?_)
      · refine VO_iload hC d_MD_bribe_140 4 rfl ?_
        exact VO_ireturn d_MD_bribe_142
      · exact VO_sub [2] rfl (B_MD_bribe_136 hC v2 s)
  · refine VO_iload hC d_MD_bribe_37 5 rfl ?_
    refine VO_const hC d_MD_bribe_39 ?_
    refine VO_iadd hC d_MD_bribe_40 ?_
    refine VO_istoreB hC d_MD_bribe_41 [(0, .ref (gad G 58)), (1, .int v1), (2, .int v2), (3, .int v3), (4, .int v4), (5, .int v5)] rfl (by decide) (fun x2 => ?_)
    exact VO_sub [1, 2, 3, 4, 5, 6, 0] rfl (B_MD_bribe_43 hC K28 hK28 v2 v3 v4 v5 x2 s)
set_option maxRecDepth 20000 in
theorem B_MD_bribe_28 {G : MCx} (hC : C0 G "AccusedChooseModel" b_MD_bribe 9 6) (v1 : Int32) (v2 : Int32) (v3 : Int32) (v4 : Int32) (v5 : Int32) (s : St) : VO G (RI G b_MD_bribe) (F_MD_bribe_28 v1 v2 v3 v4 v5 s) 28 [(0, .ref (gad G 58)), (1, .int v1), (2, .int v2), (3, .int v3), (4, .int v4), (5, .int v5)] [] s := by
  exact VO_fix (G_MD_bribe_28 v1) 28 (fun q => [(0, .ref (gad G 58)), (1, .int v1), (2, .int q.1), (3, .int q.2.1), (4, .int q.2.2.1), (5, .int q.2.2.2.1)]) (fun q => q.2.2.2.2) (fun K hK q => BH_MD_bribe_28 hC K (fun w2 w3 w4 w5 s => hK (w2, w3, w4, w5, s)) q.1 q.2.1 q.2.2.1 q.2.2.2.1 q.2.2.2.2) FUEL (v2, v3, v4, v5, s)
set_option maxRecDepth 20000 in
theorem B_MD_bribe {G : MCx} (hC : C0 G "AccusedChooseModel" b_MD_bribe 9 6) (a1 : Int32) (s : St) : VO G (RI G b_MD_bribe) (F_MD_bribe a1 s) 0 [(0, .ref (gad G 58)), (1, .int a1)] [] s := by
  unfold F_MD_bribe
  refine VO_iload hC d_MD_bribe_0 1 rfl ?_
  refine VO_const hC d_MD_bribe_1 ?_
  refine VO_const hC d_MD_bribe_2 ?_
  refine VO_callSI hC [.int a1, .int (0 : Int32), .int (1 : Int32)] [] ml_MD_115 d_MD_bribe_3 ys_MD_isIn (fun o h => M_MD_isIn hC.inj h) (by decide) rfl rfl (Nat.le_of_ble_eq_true rfl) (fun o1 => ?_)
  refine VO_if_ne hC d_MD_bribe_6 (fun _ => ?_) (fun _ => ?_)
  · refine VO_aload hC d_MD_bribe_9 0 rfl ?_
    refine VO_const hC d_MD_bribe_10 ?_
    refine VO_callVI hC [.int (-2 : Int32)] [] ml_MD_104 d_MD_bribe_12 yv_MD_no sh_MD rfl rfl (fun o h => M_MD_no hC.inj h) (by decide) rfl rfl (Nat.le_of_ble_eq_true rfl) (fun o10 => ?_)
    exact VO_ireturn d_MD_bribe_15
  · refine VO_const hC d_MD_bribe_16 ?_
    refine VO_istore hC d_MD_bribe_18 [(0, .ref (gad G 58)), (1, .int a1)] rfl (by decide) ?_
    refine VO_ldc hC k_MD_87 d_MD_bribe_19 ?_
    refine VO_istore hC d_MD_bribe_21 [(2, .int (-9 : Int32)), (0, .ref (gad G 58)), (1, .int a1)] rfl (by decide) ?_
    refine VO_const hC d_MD_bribe_22 ?_
    refine VO_istore hC d_MD_bribe_23 [(3, .int (1000000000 : Int32)), (2, .int (-9 : Int32)), (0, .ref (gad G 58)), (1, .int a1)] rfl (by decide) ?_
    refine VO_const hC d_MD_bribe_25 ?_
    refine VO_istore hC d_MD_bribe_26 [(4, .int (0 : Int32)), (3, .int (1000000000 : Int32)), (2, .int (-9 : Int32)), (0, .ref (gad G 58)), (1, .int a1)] rfl (by decide) ?_
    exact VO_sub [4, 5, 3, 2, 1, 0] rfl (B_MD_bribe_28 hC a1 (-9 : Int32) (1000000000 : Int32) (0 : Int32) (0 : Int32) o1.2)
set_option maxRecDepth 20000 in
theorem M_MD_bribe {l : Launch} {D : va_G} {ad : Nat → Nat} {cI cL : ClassId} (hj : Inj ad) {a1 : Int32} {s : St} {o : Int32 × St} (h : F_MD_bribe a1 s = some o) : Cn l D ad cI cL y_MD_bribe b_MD_bribe 9 (some .int) 6 [.ref (ad 58), .int a1] s (some (.int o.1)) o.2 := by
  refine Cn_ofI hj (plainFor_of_name (by decide)) (Nat.le_of_ble_eq_true rfl) [(0, .ref (ad 58)), (1, .int a1)] rfl (fun G hC e1 e2 e3 e4 e5 hR => ?_)
  subst e1; subst e2; subst e3; subst e4; subst e5
  exact B_MD_bribe hC a1 s o h hR
theorem d_MD_latest_0 : PLa b_MD_latest 0 0 1 := Or.inl ⟨0, by decide +kernel, rfl, rfl⟩
theorem d_MD_latest_1 : PLi b_MD_latest 1 1 2 := Or.inl ⟨1, by decide +kernel, rfl, rfl⟩
theorem d_MD_latest_2 : DR b_MD_latest 2 (.invokevirtual 93) 3 5 := ⟨by decide +kernel, rfl⟩
theorem d_MD_latest_5 : DJ b_MD_latest 5 (.ifCond .ne) 8 12 := ⟨7, by decide +kernel, rfl, by decide⟩
theorem d_MD_latest_8 : PCi b_MD_latest 8 (-1) 9 := Or.inl ⟨(-1), by decide +kernel, by decide, rfl⟩
theorem d_MD_latest_9 : DJ b_MD_latest 9 .goto 12 27 := ⟨18, by decide +kernel, rfl, by decide⟩
theorem d_MD_latest_12 : PLi b_MD_latest 12 2 13 := Or.inl ⟨2, by decide +kernel, rfl, rfl⟩
theorem d_MD_latest_13 : PCi b_MD_latest 13 0 14 := Or.inl ⟨0, by decide +kernel, by decide, rfl⟩
theorem d_MD_latest_14 : PCi b_MD_latest 14 1 15 := Or.inl ⟨1, by decide +kernel, by decide, rfl⟩
theorem d_MD_latest_15 : DR b_MD_latest 15 (.invokestatic 115) 3 18 := ⟨by decide +kernel, rfl⟩
theorem d_MD_latest_18 : DJ b_MD_latest 18 (.ifCond .ne) 21 26 := ⟨8, by decide +kernel, rfl, by decide⟩
theorem d_MD_latest_21 : PCi b_MD_latest 21 (-2) 23 := Or.inr (Or.inl ⟨(-2), by decide +kernel, by decide, rfl⟩)
theorem d_MD_latest_23 : DJ b_MD_latest 23 .goto 26 27 := ⟨4, by decide +kernel, rfl, by decide⟩
theorem d_MD_latest_26 : PCi b_MD_latest 26 0 27 := Or.inl ⟨0, by decide +kernel, by decide, rfl⟩
theorem d_MD_latest_27 : PSi b_MD_latest 27 3 28 := Or.inl ⟨3, by decide +kernel, rfl, rfl⟩
theorem d_MD_latest_28 : PLi b_MD_latest 28 3 29 := Or.inl ⟨3, by decide +kernel, rfl, rfl⟩
theorem d_MD_latest_29 : DJ b_MD_latest 29 (.ifCond .eq) 32 38 := ⟨9, by decide +kernel, rfl, by decide⟩
theorem d_MD_latest_32 : PLa b_MD_latest 32 0 33 := Or.inl ⟨0, by decide +kernel, rfl, rfl⟩
theorem d_MD_latest_33 : PLi b_MD_latest 33 3 34 := Or.inl ⟨3, by decide +kernel, rfl, rfl⟩
theorem d_MD_latest_34 : DR b_MD_latest 34 (.invokevirtual 104) 3 37 := ⟨by decide +kernel, rfl⟩
theorem d_MD_latest_37 : DR b_MD_latest 37 (.ireturn) 1 38 := ⟨by decide +kernel, rfl⟩
theorem d_MD_latest_38 : PLa b_MD_latest 38 0 39 := Or.inl ⟨0, by decide +kernel, rfl, rfl⟩
theorem d_MD_latest_39 : PLi b_MD_latest 39 1 40 := Or.inl ⟨1, by decide +kernel, rfl, rfl⟩
theorem d_MD_latest_40 : PCi b_MD_latest 40 0 41 := Or.inl ⟨0, by decide +kernel, by decide, rfl⟩
theorem d_MD_latest_41 : DR b_MD_latest 41 (.invokevirtual 268) 3 44 := ⟨by decide +kernel, rfl⟩
theorem d_MD_latest_44 : PSi b_MD_latest 44 4 46 := Or.inr ⟨by decide +kernel, rfl⟩
theorem d_MD_latest_46 : PCi b_MD_latest 46 0 47 := Or.inl ⟨0, by decide +kernel, by decide, rfl⟩
theorem d_MD_latest_47 : PSi b_MD_latest 47 5 49 := Or.inr ⟨by decide +kernel, rfl⟩
theorem d_MD_latest_49 : PLi b_MD_latest 49 4 51 := Or.inr ⟨by decide +kernel, rfl⟩
theorem d_MD_latest_51 : PSi b_MD_latest 51 6 53 := Or.inr ⟨by decide +kernel, rfl⟩
theorem d_MD_latest_53 : PCi b_MD_latest 53 1 54 := Or.inl ⟨1, by decide +kernel, by decide, rfl⟩
theorem d_MD_latest_54 : PSi b_MD_latest 54 7 56 := Or.inr ⟨by decide +kernel, rfl⟩
theorem d_MD_latest_56 : PLi b_MD_latest 56 7 58 := Or.inr ⟨by decide +kernel, rfl⟩
theorem d_MD_latest_58 : PLa b_MD_latest 58 0 59 := Or.inl ⟨0, by decide +kernel, rfl, rfl⟩
theorem d_MD_latest_59 : DR b_MD_latest 59 (.getfield 90) 3 62 := ⟨by decide +kernel, rfl⟩
theorem d_MD_latest_62 : DJ b_MD_latest 62 (.if_icmp .ge) 65 112 := ⟨50, by decide +kernel, rfl, by decide⟩
theorem d_MD_latest_65 : PLa b_MD_latest 65 0 66 := Or.inl ⟨0, by decide +kernel, rfl, rfl⟩
theorem d_MD_latest_66 : PLi b_MD_latest 66 1 67 := Or.inl ⟨1, by decide +kernel, rfl, rfl⟩
theorem d_MD_latest_67 : PLi b_MD_latest 67 7 69 := Or.inr ⟨by decide +kernel, rfl⟩
theorem d_MD_latest_69 : DR b_MD_latest 69 (.invokevirtual 268) 3 72 := ⟨by decide +kernel, rfl⟩
theorem d_MD_latest_72 : PSi b_MD_latest 72 8 74 := Or.inr ⟨by decide +kernel, rfl⟩
theorem d_MD_latest_74 : PLi b_MD_latest 74 8 76 := Or.inr ⟨by decide +kernel, rfl⟩
theorem d_MD_latest_76 : PLi b_MD_latest 76 4 78 := Or.inr ⟨by decide +kernel, rfl⟩
theorem d_MD_latest_78 : DJ b_MD_latest 78 (.if_icmp .gt) 81 86 := ⟨8, by decide +kernel, rfl, by decide⟩
theorem d_MD_latest_81 : PLi b_MD_latest 81 7 83 := Or.inr ⟨by decide +kernel, rfl⟩
theorem d_MD_latest_83 : DJ b_MD_latest 83 .goto 86 88 := ⟨5, by decide +kernel, rfl, by decide⟩
theorem d_MD_latest_86 : PLi b_MD_latest 86 5 88 := Or.inr ⟨by decide +kernel, rfl⟩
theorem d_MD_latest_88 : PSi b_MD_latest 88 5 90 := Or.inr ⟨by decide +kernel, rfl⟩
theorem d_MD_latest_90 : PLi b_MD_latest 90 8 92 := Or.inr ⟨by decide +kernel, rfl⟩
theorem d_MD_latest_92 : PLi b_MD_latest 92 6 94 := Or.inr ⟨by decide +kernel, rfl⟩
theorem d_MD_latest_94 : DJ b_MD_latest 94 (.if_icmp .le) 97 102 := ⟨8, by decide +kernel, rfl, by decide⟩
theorem d_MD_latest_97 : PLi b_MD_latest 97 8 99 := Or.inr ⟨by decide +kernel, rfl⟩
theorem d_MD_latest_99 : DJ b_MD_latest 99 .goto 102 104 := ⟨5, by decide +kernel, rfl, by decide⟩
theorem d_MD_latest_102 : PLi b_MD_latest 102 6 104 := Or.inr ⟨by decide +kernel, rfl⟩
theorem d_MD_latest_104 : PSi b_MD_latest 104 6 106 := Or.inr ⟨by decide +kernel, rfl⟩
theorem d_MD_latest_106 : DR b_MD_latest 106 (.iinc 7 1) 3 109 := ⟨by decide +kernel, rfl⟩
theorem d_MD_latest_109 : DJ b_MD_latest 109 .goto 112 56 := ⟨-53, by decide +kernel, rfl, by decide⟩
theorem d_MD_latest_112 : PLi b_MD_latest 112 2 113 := Or.inl ⟨2, by decide +kernel, rfl, rfl⟩
theorem d_MD_latest_113 : DJ b_MD_latest 113 (.ifCond .ne) 116 121 := ⟨8, by decide +kernel, rfl, by decide⟩
theorem d_MD_latest_116 : PLi b_MD_latest 116 5 118 := Or.inr ⟨by decide +kernel, rfl⟩
theorem d_MD_latest_118 : DJ b_MD_latest 118 .goto 121 123 := ⟨5, by decide +kernel, rfl, by decide⟩
theorem d_MD_latest_121 : PLi b_MD_latest 121 6 123 := Or.inr ⟨by decide +kernel, rfl⟩
theorem d_MD_latest_123 : DR b_MD_latest 123 (.ireturn) 1 124 := ⟨by decide +kernel, rfl⟩
set_option maxRecDepth 20000 in
theorem B_MD_latest_104 {G : MCx} (hC : C0 G "AccusedChooseModel" b_MD_latest 9 6) {v1 : Int32} {v2 : Int32} {v4 : Int32} (K56 : Int32 × Int32 × Int32 × St → Option (Int32 × St)) (hK56 : ∀ (w5 : Int32) (w6 : Int32) (w7 : Int32) (s : St), VO G (RI G b_MD_latest) (K56 (w5, w6, w7, s)) 56 [(0, .ref (gad G 58)), (1, .int v1), (2, .int v2), (4, .int v4), (5, .int w5), (6, .int w6), (7, .int w7)] [] s) (v5 : Int32) (v7 : Int32) (z0 : Int32) (s : St) : VO G (RI G b_MD_latest) (F_MD_latest_104 K56 v1 v2 v4 v5 v7 z0 s) 104 [(0, .ref (gad G 58)), (1, .int v1), (2, .int v2), (4, .int v4), (5, .int v5), (7, .int v7)] [.int z0] s := by
  unfold F_MD_latest_104
  refine VO_istore hC d_MD_latest_104 [(0, .ref (gad G 58)), (1, .int v1), (2, .int v2), (4, .int v4), (5, .int v5), (7, .int v7)] rfl (by decide) ?_
  refine VO_iinc hC d_MD_latest_106 6 rfl (by decide : Int32.ofInt 1 = 1) [(6, .int z0), (0, .ref (gad G 58)), (1, .int v1), (2, .int v2), (4, .int v4), (5, .int v5)] rfl (by decide) ?_
  refine VO_goto hC d_MD_latest_109 ?_
  exact VO_sub [2, 3, 4, 5, 6, 1, 0] rfl (hK56 v5 z0 (v7 + 1) s)
set_option maxRecDepth 20000 in
theorem B_MD_latest_88 {G : MCx} (hC : C0 G "AccusedChooseModel" b_MD_latest 9 6) {v1 : Int32} {v2 : Int32} {v4 : Int32} (K56 : Int32 × Int32 × Int32 × St → Option (Int32 × St)) (hK56 : ∀ (w5 : Int32) (w6 : Int32) (w7 : Int32) (s : St), VO G (RI G b_MD_latest) (K56 (w5, w6, w7, s)) 56 [(0, .ref (gad G 58)), (1, .int v1), (2, .int v2), (4, .int v4), (5, .int w5), (6, .int w6), (7, .int w7)] [] s) (v6 : Int32) (v7 : Int32) (v8 : Int32) (z0 : Int32) (s : St) : VO G (RI G b_MD_latest) (F_MD_latest_88 K56 v1 v2 v4 v6 v7 v8 z0 s) 88 [(0, .ref (gad G 58)), (1, .int v1), (2, .int v2), (4, .int v4), (6, .int v6), (7, .int v7), (8, .int v8)] [.int z0] s := by
  unfold F_MD_latest_88
  refine VO_istore hC d_MD_latest_88 [(0, .ref (gad G 58)), (1, .int v1), (2, .int v2), (4, .int v4), (6, .int v6), (7, .int v7), (8, .int v8)] rfl (by decide) ?_
  refine VO_iload hC d_MD_latest_90 7 rfl ?_
  refine VO_iload hC d_MD_latest_92 5 rfl ?_
  refine VO_icmp_le hC d_MD_latest_94 (fun _ => ?_) (fun _ => ?_)
  · refine VO_iload hC d_MD_latest_102 5 rfl ?_
    exact VO_sub [1, 2, 3, 4, 0, 6] rfl (B_MD_latest_104 hC K56 hK56 z0 v7 v6 s)
  · refine VO_iload hC d_MD_latest_97 7 rfl ?_
    refine VO_goto hC d_MD_latest_99 ?_
    exact VO_sub [1, 2, 3, 4, 0, 6] rfl (B_MD_latest_104 hC K56 hK56 z0 v7 v8 s)
set_option maxRecDepth 20000 in
theorem BH_MD_latest_56 {G : MCx} (hC : C0 G "AccusedChooseModel" b_MD_latest 9 6) {v1 : Int32} {v2 : Int32} {v4 : Int32} (K56 : Int32 × Int32 × Int32 × St → Option (Int32 × St)) (hK56 : ∀ (w5 : Int32) (w6 : Int32) (w7 : Int32) (s : St), VO G (RI G b_MD_latest) (K56 (w5, w6, w7, s)) 56 [(0, .ref (gad G 58)), (1, .int v1), (2, .int v2), (4, .int v4), (5, .int w5), (6, .int w6), (7, .int w7)] [] s) (v5 : Int32) (v6 : Int32) (v7 : Int32) (s : St) : VO G (RI G b_MD_latest) (H_MD_latest_56 v1 v2 v4 K56 v5 v6 v7 s) 56 [(0, .ref (gad G 58)), (1, .int v1), (2, .int v2), (4, .int v4), (5, .int v5), (6, .int v6), (7, .int v7)] [] s := by
  unfold H_MD_latest_56
  refine VO_iload hC d_MD_latest_56 6 rfl ?_
  refine VO_aload hC d_MD_latest_58 0 rfl ?_
  refine VO_geti hC fl_MD_90 sh_MD rfl d_MD_latest_59 ?_
  refine VO_icmp_ge hC d_MD_latest_62 (fun _ => ?_) (fun _ => ?_)
  · refine VO_iload hC d_MD_latest_112 2 rfl ?_
    refine VO_if_ne hC d_MD_latest_113 (fun _ => ?_) (fun _ => ?_)
    · refine VO_iload hC d_MD_latest_116 4 rfl ?_
      refine VO_goto hC d_MD_latest_118 ?_
      exact VO_ireturn d_MD_latest_123
    · refine VO_iload hC d_MD_latest_121 5 rfl ?_
      exact VO_ireturn d_MD_latest_123
  · refine VO_aload hC d_MD_latest_65 0 rfl ?_
    refine VO_iload hC d_MD_latest_66 1 rfl ?_
    refine VO_iload hC d_MD_latest_67 6 rfl ?_
    refine VO_callVI hC [.int v1, .int v7] [] ml_MD_268 d_MD_latest_69 yv_MD_monthsAt sh_MD rfl rfl (fun o h => M_MD_monthsAt hC.inj h) (by decide) rfl rfl (Nat.le_of_ble_eq_true rfl) (fun o4 => ?_)
    refine VO_istore hC d_MD_latest_72 [(0, .ref (gad G 58)), (1, .int v1), (2, .int v2), (4, .int v4), (5, .int v5), (6, .int v6), (7, .int v7)] rfl (by decide) ?_
    refine VO_iload hC d_MD_latest_74 0 rfl ?_
    refine VO_iload hC d_MD_latest_76 4 rfl ?_
    refine VO_icmp_gt hC d_MD_latest_78 (fun _ => ?_) (fun _ => ?_)
    · refine VO_iload hC d_MD_latest_86 5 rfl ?_
      exact VO_sub [1, 2, 3, 4, 6, 7, 0] rfl (B_MD_latest_88 hC K56 hK56 v6 v7 o4.1 v5 o4.2)
    · refine VO_iload hC d_MD_latest_81 7 rfl ?_
      refine VO_goto hC d_MD_latest_83 ?_
      exact VO_sub [1, 2, 3, 4, 6, 7, 0] rfl (B_MD_latest_88 hC K56 hK56 v6 v7 o4.1 v7 o4.2)
set_option maxRecDepth 20000 in
theorem B_MD_latest_56 {G : MCx} (hC : C0 G "AccusedChooseModel" b_MD_latest 9 6) (v1 : Int32) (v2 : Int32) (v4 : Int32) (v5 : Int32) (v6 : Int32) (v7 : Int32) (s : St) : VO G (RI G b_MD_latest) (F_MD_latest_56 v1 v2 v4 v5 v6 v7 s) 56 [(0, .ref (gad G 58)), (1, .int v1), (2, .int v2), (4, .int v4), (5, .int v5), (6, .int v6), (7, .int v7)] [] s := by
  exact VO_fix (G_MD_latest_56 v1 v2 v4) 56 (fun q => [(0, .ref (gad G 58)), (1, .int v1), (2, .int v2), (4, .int v4), (5, .int q.1), (6, .int q.2.1), (7, .int q.2.2.1)]) (fun q => q.2.2.2) (fun K hK q => BH_MD_latest_56 hC K (fun w5 w6 w7 s => hK (w5, w6, w7, s)) q.1 q.2.1 q.2.2.1 q.2.2.2) FUEL (v5, v6, v7, s)
set_option maxRecDepth 20000 in
theorem B_MD_latest_27 {G : MCx} (hC : C0 G "AccusedChooseModel" b_MD_latest 9 6) (v1 : Int32) (v2 : Int32) (z0 : Int32) (s : St) : VO G (RI G b_MD_latest) (F_MD_latest_27 v1 v2 z0 s) 27 [(0, .ref (gad G 58)), (1, .int v1), (2, .int v2)] [.int z0] s := by
  unfold F_MD_latest_27
  refine VO_istore hC d_MD_latest_27 [(0, .ref (gad G 58)), (1, .int v1), (2, .int v2)] rfl (by decide) ?_
  refine VO_iload hC d_MD_latest_28 0 rfl ?_
  refine VO_if_eq hC d_MD_latest_29 (fun _ => ?_) (fun _ => ?_)
  · refine VO_aload hC d_MD_latest_38 1 rfl ?_
    refine VO_iload hC d_MD_latest_39 2 rfl ?_
    refine VO_const hC d_MD_latest_40 ?_
    refine VO_callVI hC [.int v1, .int (0 : Int32)] [] ml_MD_268 d_MD_latest_41 yv_MD_monthsAt sh_MD rfl rfl (fun o h => M_MD_monthsAt hC.inj h) (by decide) rfl rfl (Nat.le_of_ble_eq_true rfl) (fun o3 => ?_)
    refine VO_istore hC d_MD_latest_44 [(3, .int z0), (0, .ref (gad G 58)), (1, .int v1), (2, .int v2)] rfl (by decide) ?_
    refine VO_const hC d_MD_latest_46 ?_
    refine VO_istore hC d_MD_latest_47 [(4, .int o3.1), (3, .int z0), (0, .ref (gad G 58)), (1, .int v1), (2, .int v2)] rfl (by decide) ?_
    refine VO_iload hC d_MD_latest_49 1 rfl ?_
    refine VO_istore hC d_MD_latest_51 [(5, .int (0 : Int32)), (4, .int o3.1), (3, .int z0), (0, .ref (gad G 58)), (1, .int v1), (2, .int v2)] rfl (by decide) ?_
    refine VO_const hC d_MD_latest_53 ?_
    refine VO_istore hC d_MD_latest_54 [(6, .int o3.1), (5, .int (0 : Int32)), (4, .int o3.1), (3, .int z0), (0, .ref (gad G 58)), (1, .int v1), (2, .int v2)] rfl (by decide) ?_
    exact VO_sub [5, 6, 7, 3, 2, 1, 0] rfl (B_MD_latest_56 hC v1 v2 o3.1 (0 : Int32) o3.1 (1 : Int32) o3.2)
  · refine VO_aload hC d_MD_latest_32 1 rfl ?_
    refine VO_iload hC d_MD_latest_33 0 rfl ?_
    refine VO_callVI hC [.int z0] [] ml_MD_104 d_MD_latest_34 yv_MD_no sh_MD rfl rfl (fun o h => M_MD_no hC.inj h) (by decide) rfl rfl (Nat.le_of_ble_eq_true rfl) (fun o5 => ?_)
    exact VO_ireturn d_MD_latest_37
set_option maxRecDepth 20000 in
theorem B_MD_latest {G : MCx} (hC : C0 G "AccusedChooseModel" b_MD_latest 9 6) (a1 : Int32) (a2 : Int32) (s : St) : VO G (RI G b_MD_latest) (F_MD_latest a1 a2 s) 0 [(0, .ref (gad G 58)), (1, .int a1), (2, .int a2)] [] s := by
  unfold F_MD_latest
  refine VO_aload hC d_MD_latest_0 0 rfl ?_
  refine VO_iload hC d_MD_latest_1 1 rfl ?_
  refine VO_callVI hC [.int a1] [] ml_MD_93 d_MD_latest_2 yv_MD_isPerson sh_MD rfl rfl (fun o h => M_MD_isPerson hC.inj h) (by decide) rfl rfl (Nat.le_of_ble_eq_true rfl) (fun o1 => ?_)
  refine VO_if_ne hC d_MD_latest_5 (fun _ => ?_) (fun _ => ?_)
  · refine VO_const hC d_MD_latest_8 ?_
    refine VO_goto hC d_MD_latest_9 ?_
    exact (B_MD_latest_27 hC a1 a2 (-1 : Int32) o1.2)
  · refine VO_iload hC d_MD_latest_12 2 rfl ?_
    refine VO_const hC d_MD_latest_13 ?_
    refine VO_const hC d_MD_latest_14 ?_
    refine VO_callSI hC [.int a2, .int (0 : Int32), .int (1 : Int32)] [] ml_MD_115 d_MD_latest_15 ys_MD_isIn (fun o h => M_MD_isIn hC.inj h) (by decide) rfl rfl (Nat.le_of_ble_eq_true rfl) (fun o2 => ?_)
    refine VO_if_ne hC d_MD_latest_18 (fun _ => ?_) (fun _ => ?_)
    · refine VO_const hC d_MD_latest_21 ?_
      refine VO_goto hC d_MD_latest_23 ?_
      exact (B_MD_latest_27 hC a1 a2 (-2 : Int32) o2.2)
    · refine VO_const hC d_MD_latest_26 ?_
      exact (B_MD_latest_27 hC a1 a2 (0 : Int32) o2.2)
set_option maxRecDepth 20000 in
theorem M_MD_latest {l : Launch} {D : va_G} {ad : Nat → Nat} {cI cL : ClassId} (hj : Inj ad) {a1 : Int32} {a2 : Int32} {s : St} {o : Int32 × St} (h : F_MD_latest a1 a2 s = some o) : Cn l D ad cI cL y_MD_latest b_MD_latest 9 (some .int) 6 [.ref (ad 58), .int a1, .int a2] s (some (.int o.1)) o.2 := by
  refine Cn_ofI hj (plainFor_of_name (by decide)) (Nat.le_of_ble_eq_true rfl) [(0, .ref (ad 58)), (1, .int a1), (2, .int a2)] rfl (fun G hC e1 e2 e3 e4 e5 hR => ?_)
  subst e1; subst e2; subst e3; subst e4; subst e5
  exact B_MD_latest hC a1 a2 s o h hR
theorem d_MD_truth_0 : PLi b_MD_truth 0 1 1 := Or.inl ⟨1, by decide +kernel, rfl, rfl⟩
theorem d_MD_truth_1 : PCi b_MD_truth 1 0 2 := Or.inl ⟨0, by decide +kernel, by decide, rfl⟩
theorem d_MD_truth_2 : PCi b_MD_truth 2 1 3 := Or.inl ⟨1, by decide +kernel, by decide, rfl⟩
theorem d_MD_truth_3 : DR b_MD_truth 3 (.invokestatic 115) 3 6 := ⟨by decide +kernel, rfl⟩
theorem d_MD_truth_6 : DJ b_MD_truth 6 (.ifCond .ne) 9 16 := ⟨10, by decide +kernel, rfl, by decide⟩
theorem d_MD_truth_9 : PLa b_MD_truth 9 0 10 := Or.inl ⟨0, by decide +kernel, rfl, rfl⟩
theorem d_MD_truth_10 : PCi b_MD_truth 10 (-2) 12 := Or.inr (Or.inl ⟨(-2), by decide +kernel, by decide, rfl⟩)
theorem d_MD_truth_12 : DR b_MD_truth 12 (.invokevirtual 104) 3 15 := ⟨by decide +kernel, rfl⟩
theorem d_MD_truth_15 : DR b_MD_truth 15 (.ireturn) 1 16 := ⟨by decide +kernel, rfl⟩
theorem d_MD_truth_16 : PCi b_MD_truth 16 0 17 := Or.inl ⟨0, by decide +kernel, by decide, rfl⟩
theorem d_MD_truth_17 : PSi b_MD_truth 17 2 18 := Or.inl ⟨2, by decide +kernel, rfl, rfl⟩
theorem d_MD_truth_18 : PCi b_MD_truth 18 0 19 := Or.inl ⟨0, by decide +kernel, by decide, rfl⟩
theorem d_MD_truth_19 : PSi b_MD_truth 19 3 20 := Or.inl ⟨3, by decide +kernel, rfl, rfl⟩
theorem d_MD_truth_20 : PCi b_MD_truth 20 0 21 := Or.inl ⟨0, by decide +kernel, by decide, rfl⟩
theorem d_MD_truth_21 : PSi b_MD_truth 21 4 23 := Or.inr ⟨by decide +kernel, rfl⟩
theorem d_MD_truth_23 : PLi b_MD_truth 23 4 25 := Or.inr ⟨by decide +kernel, rfl⟩
theorem d_MD_truth_25 : PLa b_MD_truth 25 0 26 := Or.inl ⟨0, by decide +kernel, rfl, rfl⟩
theorem d_MD_truth_26 : DR b_MD_truth 26 (.getfield 90) 3 29 := ⟨by decide +kernel, rfl⟩
theorem d_MD_truth_29 : DJ b_MD_truth 29 (.if_icmp .ge) 32 188 := ⟨159, by decide +kernel, rfl, by decide⟩
theorem d_MD_truth_32 : PLa b_MD_truth 32 0 33 := Or.inl ⟨0, by decide +kernel, rfl, rfl⟩
theorem d_MD_truth_33 : DR b_MD_truth 33 (.getfield 34) 3 36 := ⟨by decide +kernel, rfl⟩
theorem d_MD_truth_36 : PLi b_MD_truth 36 4 38 := Or.inr ⟨by decide +kernel, rfl⟩
theorem d_MD_truth_38 : DR b_MD_truth 38 (.iaload) 1 39 := ⟨by decide +kernel, rfl⟩
theorem d_MD_truth_39 : PSi b_MD_truth 39 5 41 := Or.inr ⟨by decide +kernel, rfl⟩
theorem d_MD_truth_41 : PLa b_MD_truth 41 0 42 := Or.inl ⟨0, by decide +kernel, rfl, rfl⟩
theorem d_MD_truth_42 : DR b_MD_truth 42 (.getfield 25) 3 45 := ⟨by decide +kernel, rfl⟩
theorem d_MD_truth_45 : PLi b_MD_truth 45 5 47 := Or.inr ⟨by decide +kernel, rfl⟩
theorem d_MD_truth_47 : DR b_MD_truth 47 (.iaload) 1 48 := ⟨by decide +kernel, rfl⟩
theorem d_MD_truth_48 : PLa b_MD_truth 48 0 49 := Or.inl ⟨0, by decide +kernel, rfl, rfl⟩
theorem d_MD_truth_49 : DR b_MD_truth 49 (.getfield 84) 3 52 := ⟨by decide +kernel, rfl⟩
theorem d_MD_truth_52 : DJ b_MD_truth 52 (.if_icmp .ge) 55 89 := ⟨37, by decide +kernel, rfl, by decide⟩
theorem d_MD_truth_55 : PLi b_MD_truth 55 2 56 := Or.inl ⟨2, by decide +kernel, rfl, rfl⟩
theorem d_MD_truth_56 : PLa b_MD_truth 56 0 57 := Or.inl ⟨0, by decide +kernel, rfl, rfl⟩
theorem d_MD_truth_57 : DR b_MD_truth 57 (.getfield 25) 3 60 := ⟨by decide +kernel, rfl⟩
theorem d_MD_truth_60 : PLi b_MD_truth 60 5 62 := Or.inr ⟨by decide +kernel, rfl⟩
theorem d_MD_truth_62 : DR b_MD_truth 62 (.iaload) 1 63 := ⟨by decide +kernel, rfl⟩
theorem d_MD_truth_63 : DR b_MD_truth 63 (.invokestatic 184) 3 66 := ⟨by decide +kernel, rfl⟩
theorem d_MD_truth_66 : DJ b_MD_truth 66 (.ifCond .ne) 69 89 := ⟨23, by decide +kernel, rfl, by decide⟩
theorem d_MD_truth_69 : PLa b_MD_truth 69 0 70 := Or.inl ⟨0, by decide +kernel, rfl, rfl⟩
theorem d_MD_truth_70 : PLi b_MD_truth 70 5 72 := Or.inr ⟨by decide +kernel, rfl⟩
theorem d_MD_truth_72 : PLa b_MD_truth 72 0 73 := Or.inl ⟨0, by decide +kernel, rfl, rfl⟩
theorem d_MD_truth_73 : DR b_MD_truth 73 (.getfield 25) 3 76 := ⟨by decide +kernel, rfl⟩
theorem d_MD_truth_76 : PLi b_MD_truth 76 5 78 := Or.inr ⟨by decide +kernel, rfl⟩
theorem d_MD_truth_78 : DR b_MD_truth 78 (.iaload) 1 79 := ⟨by decide +kernel, rfl⟩
theorem d_MD_truth_79 : DR b_MD_truth 79 (.invokevirtual 191) 3 82 := ⟨by decide +kernel, rfl⟩
theorem d_MD_truth_82 : DJ b_MD_truth 82 (.ifCond .eq) 85 89 := ⟨7, by decide +kernel, rfl, by decide⟩
theorem d_MD_truth_85 : PCi b_MD_truth 85 1 86 := Or.inl ⟨1, by decide +kernel, by decide, rfl⟩
theorem d_MD_truth_86 : DJ b_MD_truth 86 .goto 89 90 := ⟨4, by decide +kernel, rfl, by decide⟩
theorem d_MD_truth_89 : PCi b_MD_truth 89 0 90 := Or.inl ⟨0, by decide +kernel, by decide, rfl⟩
theorem d_MD_truth_90 : PSi b_MD_truth 90 6 92 := Or.inr ⟨by decide +kernel, rfl⟩
theorem d_MD_truth_92 : PLa b_MD_truth 92 0 93 := Or.inl ⟨0, by decide +kernel, rfl, rfl⟩
theorem d_MD_truth_93 : DR b_MD_truth 93 (.getfield 56) 3 96 := ⟨by decide +kernel, rfl⟩
theorem d_MD_truth_96 : PLi b_MD_truth 96 5 98 := Or.inr ⟨by decide +kernel, rfl⟩
theorem d_MD_truth_98 : PLi b_MD_truth 98 6 100 := Or.inr ⟨by decide +kernel, rfl⟩
theorem d_MD_truth_100 : DJ b_MD_truth 100 (.ifCond .eq) 103 113 := ⟨13, by decide +kernel, rfl, by decide⟩
theorem d_MD_truth_103 : PLa b_MD_truth 103 0 104 := Or.inl ⟨0, by decide +kernel, rfl, rfl⟩
theorem d_MD_truth_104 : DR b_MD_truth 104 (.getfield 25) 3 107 := ⟨by decide +kernel, rfl⟩
theorem d_MD_truth_107 : PLi b_MD_truth 107 5 109 := Or.inr ⟨by decide +kernel, rfl⟩
theorem d_MD_truth_109 : DR b_MD_truth 109 (.iaload) 1 110 := ⟨by decide +kernel, rfl⟩
theorem d_MD_truth_110 : DJ b_MD_truth 110 .goto 113 120 := ⟨10, by decide +kernel, rfl, by decide⟩
theorem d_MD_truth_113 : PLa b_MD_truth 113 0 114 := Or.inl ⟨0, by decide +kernel, rfl, rfl⟩
theorem d_MD_truth_114 : PLi b_MD_truth 114 5 116 := Or.inr ⟨by decide +kernel, rfl⟩
theorem d_MD_truth_116 : PLi b_MD_truth 116 2 117 := Or.inl ⟨2, by decide +kernel, rfl, rfl⟩
theorem d_MD_truth_117 : DR b_MD_truth 117 (.invokevirtual 203) 3 120 := ⟨by decide +kernel, rfl⟩
theorem d_MD_truth_120 : DR b_MD_truth 120 (.iastore) 1 121 := ⟨by decide +kernel, rfl⟩
theorem d_MD_truth_121 : PLi b_MD_truth 121 2 122 := Or.inl ⟨2, by decide +kernel, rfl, rfl⟩
theorem d_MD_truth_122 : PLa b_MD_truth 122 0 123 := Or.inl ⟨0, by decide +kernel, rfl, rfl⟩
theorem d_MD_truth_123 : DR b_MD_truth 123 (.getfield 56) 3 126 := ⟨by decide +kernel, rfl⟩
theorem d_MD_truth_126 : PLi b_MD_truth 126 5 128 := Or.inr ⟨by decide +kernel, rfl⟩
theorem d_MD_truth_128 : DR b_MD_truth 128 (.iaload) 1 129 := ⟨by decide +kernel, rfl⟩
theorem d_MD_truth_129 : DJ b_MD_truth 129 (.ifCond .ge) 132 136 := ⟨7, by decide +kernel, rfl, by decide⟩
theorem d_MD_truth_132 : PCi b_MD_truth 132 0 133 := Or.inl ⟨0, by decide +kernel, by decide, rfl⟩
theorem d_MD_truth_133 : DJ b_MD_truth 133 .goto 136 145 := ⟨12, by decide +kernel, rfl, by decide⟩
theorem d_MD_truth_136 : PCi b_MD_truth 136 1 137 := Or.inl ⟨1, by decide +kernel, by decide, rfl⟩
theorem d_MD_truth_137 : PLa b_MD_truth 137 0 138 := Or.inl ⟨0, by decide +kernel, rfl, rfl⟩
theorem d_MD_truth_138 : DR b_MD_truth 138 (.getfield 56) 3 141 := ⟨by decide +kernel, rfl⟩
theorem d_MD_truth_141 : PLi b_MD_truth 141 5 143 := Or.inr ⟨by decide +kernel, rfl⟩
theorem d_MD_truth_143 : DR b_MD_truth 143 (.iaload) 1 144 := ⟨by decide +kernel, rfl⟩
theorem d_MD_truth_144 : DR b_MD_truth 144 (.ishl) 1 145 := ⟨by decide +kernel, rfl⟩
theorem d_MD_truth_145 : DR b_MD_truth 145 (.ior) 1 146 := ⟨by decide +kernel, rfl⟩
theorem d_MD_truth_146 : PSi b_MD_truth 146 2 147 := Or.inl ⟨2, by decide +kernel, rfl, rfl⟩
theorem d_MD_truth_147 : PLi b_MD_truth 147 3 148 := Or.inl ⟨3, by decide +kernel, rfl, rfl⟩
theorem d_MD_truth_148 : PLa b_MD_truth 148 0 149 := Or.inl ⟨0, by decide +kernel, rfl, rfl⟩
theorem d_MD_truth_149 : DR b_MD_truth 149 (.getfield 56) 3 152 := ⟨by decide +kernel, rfl⟩
theorem d_MD_truth_152 : PLi b_MD_truth 152 5 154 := Or.inr ⟨by decide +kernel, rfl⟩
theorem d_MD_truth_154 : DR b_MD_truth 154 (.iaload) 1 155 := ⟨by decide +kernel, rfl⟩
theorem d_MD_truth_155 : DJ b_MD_truth 155 (.ifCond .lt) 158 179 := ⟨24, by decide +kernel, rfl, by decide⟩
theorem d_MD_truth_158 : PLa b_MD_truth 158 0 159 := Or.inl ⟨0, by decide +kernel, rfl, rfl⟩
theorem d_MD_truth_159 : DR b_MD_truth 159 (.getfield 56) 3 162 := ⟨by decide +kernel, rfl⟩
theorem d_MD_truth_162 : PLi b_MD_truth 162 5 164 := Or.inr ⟨by decide +kernel, rfl⟩
theorem d_MD_truth_164 : DR b_MD_truth 164 (.iaload) 1 165 := ⟨by decide +kernel, rfl⟩
theorem d_MD_truth_165 : PLa b_MD_truth 165 0 166 := Or.inl ⟨0, by decide +kernel, rfl, rfl⟩
theorem d_MD_truth_166 : DR b_MD_truth 166 (.getfield 25) 3 169 := ⟨by decide +kernel, rfl⟩
theorem d_MD_truth_169 : PLi b_MD_truth 169 5 171 := Or.inr ⟨by decide +kernel, rfl⟩
theorem d_MD_truth_171 : DR b_MD_truth 171 (.iaload) 1 172 := ⟨by decide +kernel, rfl⟩
theorem d_MD_truth_172 : DJ b_MD_truth 172 (.if_icmp .ne) 175 179 := ⟨7, by decide +kernel, rfl, by decide⟩
theorem d_MD_truth_175 : PCi b_MD_truth 175 1 176 := Or.inl ⟨1, by decide +kernel, by decide, rfl⟩
theorem d_MD_truth_176 : DJ b_MD_truth 176 .goto 179 180 := ⟨4, by decide +kernel, rfl, by decide⟩
theorem d_MD_truth_179 : PCi b_MD_truth 179 0 180 := Or.inl ⟨0, by decide +kernel, by decide, rfl⟩
theorem d_MD_truth_180 : DR b_MD_truth 180 (.iadd) 1 181 := ⟨by decide +kernel, rfl⟩
theorem d_MD_truth_181 : PSi b_MD_truth 181 3 182 := Or.inl ⟨3, by decide +kernel, rfl, rfl⟩
theorem d_MD_truth_182 : DR b_MD_truth 182 (.iinc 4 1) 3 185 := ⟨by decide +kernel, rfl⟩
theorem d_MD_truth_185 : DJ b_MD_truth 185 .goto 188 23 := ⟨-162, by decide +kernel, rfl, by decide⟩
theorem d_MD_truth_188 : PLi b_MD_truth 188 1 189 := Or.inl ⟨1, by decide +kernel, rfl, rfl⟩
theorem d_MD_truth_189 : DJ b_MD_truth 189 (.ifCond .ne) 192 199 := ⟨10, by decide +kernel, rfl, by decide⟩
theorem d_MD_truth_192 : PLa b_MD_truth 192 0 193 := Or.inl ⟨0, by decide +kernel, rfl, rfl⟩
theorem d_MD_truth_193 : DR b_MD_truth 193 (.invokevirtual 218) 3 196 := ⟨by decide +kernel, rfl⟩
theorem d_MD_truth_196 : DJ b_MD_truth 196 .goto 199 200 := ⟨4, by decide +kernel, rfl, by decide⟩
theorem d_MD_truth_199 : PLi b_MD_truth 199 3 200 := Or.inl ⟨3, by decide +kernel, rfl, rfl⟩
theorem d_MD_truth_200 : DR b_MD_truth 200 (.ireturn) 1 201 := ⟨by decide +kernel, rfl⟩
set_option maxRecDepth 20000 in
theorem B_MD_truth_180 {G : MCx} (hC : C0 G "AccusedChooseModel" b_MD_truth 7 5) {v1 : Int32} (K23 : Int32 × Int32 × Int32 × St → Option (Int32 × St)) (hK23 : ∀ (w2 : Int32) (w3 : Int32) (w4 : Int32) (s : St), VO G (RI G b_MD_truth) (K23 (w2, w3, w4, s)) 23 [(0, .ref (gad G 58)), (1, .int v1), (2, .int w2), (3, .int w3), (4, .int w4)] [] s) (v2 : Int32) (v4 : Int32) (z0 : Int32) (z1 : Int32) (s : St) : VO G (RI G b_MD_truth) (F_MD_truth_180 K23 v1 v2 v4 z0 z1 s) 180 [(0, .ref (gad G 58)), (1, .int v1), (2, .int v2), (4, .int v4)] [.int z0, .int z1] s := by
  unfold F_MD_truth_180
  refine VO_iadd hC d_MD_truth_180 ?_
  refine VO_istoreB hC d_MD_truth_181 [(0, .ref (gad G 58)), (1, .int v1), (2, .int v2), (4, .int v4)] rfl (by decide) (fun x11 => ?_)
  refine VO_iinc hC d_MD_truth_182 4 rfl (by decide : Int32.ofInt 1 = 1) [(3, .int x11), (0, .ref (gad G 58)), (1, .int v1), (2, .int v2)] rfl (by decide) ?_
  refine VO_goto hC d_MD_truth_185 ?_
  exact VO_sub [2, 3, 4, 1, 0] rfl (hK23 v2 x11 (v4 + 1) s)
set_option maxRecDepth 20000 in
theorem B_MD_truth_179 {G : MCx} (hC : C0 G "AccusedChooseModel" b_MD_truth 7 5) {v1 : Int32} (K23 : Int32 × Int32 × Int32 × St → Option (Int32 × St)) (hK23 : ∀ (w2 : Int32) (w3 : Int32) (w4 : Int32) (s : St), VO G (RI G b_MD_truth) (K23 (w2, w3, w4, s)) 23 [(0, .ref (gad G 58)), (1, .int v1), (2, .int w2), (3, .int w3), (4, .int w4)] [] s) (v2 : Int32) (v4 : Int32) (z0 : Int32) (s : St) : VO G (RI G b_MD_truth) (F_MD_truth_179 K23 v1 v2 v4 z0 s) 179 [(0, .ref (gad G 58)), (1, .int v1), (2, .int v2), (4, .int v4)] [.int z0] s := by
  unfold F_MD_truth_179
  refine VO_const hC d_MD_truth_179 ?_
  exact (B_MD_truth_180 hC K23 hK23 v2 v4 (0 : Int32) z0 s)
set_option maxRecDepth 20000 in
theorem B_MD_truth_145 {G : MCx} (hC : C0 G "AccusedChooseModel" b_MD_truth 7 5) {v1 : Int32} (K23 : Int32 × Int32 × Int32 × St → Option (Int32 × St)) (hK23 : ∀ (w2 : Int32) (w3 : Int32) (w4 : Int32) (s : St), VO G (RI G b_MD_truth) (K23 (w2, w3, w4, s)) 23 [(0, .ref (gad G 58)), (1, .int v1), (2, .int w2), (3, .int w3), (4, .int w4)] [] s) (v3 : Int32) (v4 : Int32) (v5 : Int32) (z0 : Int32) (z1 : Int32) (s : St) : VO G (RI G b_MD_truth) (F_MD_truth_145 K23 v1 v3 v4 v5 z0 z1 s) 145 [(0, .ref (gad G 58)), (1, .int v1), (3, .int v3), (4, .int v4), (5, .int v5)] [.int z0, .int z1] s := by
  unfold F_MD_truth_145
  refine VO_ior hC d_MD_truth_145 ?_
  refine VO_istoreB hC d_MD_truth_146 [(0, .ref (gad G 58)), (1, .int v1), (3, .int v3), (4, .int v4), (5, .int v5)] rfl (by decide) (fun x9 => ?_)
  refine VO_iload hC d_MD_truth_147 3 rfl ?_
  refine VO_aload hC d_MD_truth_148 1 rfl ?_
  refine VO_getr (r := 73) hC fl_MD_56 sh_MD rfl d_MD_truth_149 ?_
  refine VO_iload hC d_MD_truth_152 5 rfl ?_
  refine VO_iaload hC ia_73 d_MD_truth_154 (fun x10 => ?_)
  refine VO_if_lt hC d_MD_truth_155 (fun _ => ?_) (fun _ => ?_)
  · exact VO_sub [1, 2, 0, 4] rfl (B_MD_truth_179 hC K23 hK23 x9 v4 v3 s)
  · refine VO_aload hC d_MD_truth_158 1 rfl ?_
    refine VO_getr (r := 73) hC fl_MD_56 sh_MD rfl d_MD_truth_159 ?_
    refine VO_iload hC d_MD_truth_162 5 rfl ?_
    refine VO_iaload hC ia_73 d_MD_truth_164 (fun x12 => ?_)
    refine VO_aload hC d_MD_truth_165 1 rfl ?_
    refine VO_getr (r := 64) hC fl_MD_25 sh_MD rfl d_MD_truth_166 ?_
    refine VO_iload hC d_MD_truth_169 5 rfl ?_
    refine VO_iaload hC ia_64 d_MD_truth_171 (fun x13 => ?_)
    refine VO_icmp_ne hC d_MD_truth_172 (fun _ => ?_) (fun _ => ?_)
    · refine VO_const hC d_MD_truth_175 ?_
      refine VO_goto hC d_MD_truth_176 ?_
      exact VO_sub [1, 2, 0, 4] rfl (B_MD_truth_180 hC K23 hK23 x9 v4 (1 : Int32) v3 s)
    · exact VO_sub [1, 2, 0, 4] rfl (B_MD_truth_179 hC K23 hK23 x9 v4 v3 s)
set_option maxRecDepth 20000 in
theorem B_MD_truth_120 {G : MCx} (hC : C0 G "AccusedChooseModel" b_MD_truth 7 5) {v1 : Int32} (K23 : Int32 × Int32 × Int32 × St → Option (Int32 × St)) (hK23 : ∀ (w2 : Int32) (w3 : Int32) (w4 : Int32) (s : St), VO G (RI G b_MD_truth) (K23 (w2, w3, w4, s)) 23 [(0, .ref (gad G 58)), (1, .int v1), (2, .int w2), (3, .int w3), (4, .int w4)] [] s) (v2 : Int32) (v3 : Int32) (v4 : Int32) (v5 : Int32) (z0 : Int32) (z1 : Int32) (s : St) : VO G (RI G b_MD_truth) (F_MD_truth_120 K23 v1 v2 v3 v4 v5 z0 z1 s) 120 [(0, .ref (gad G 58)), (1, .int v1), (2, .int v2), (3, .int v3), (4, .int v4), (5, .int v5)] [.int z0, .int z1, .ref (gad G 73)] s := by
  unfold F_MD_truth_120
  refine VO_iastore hC ia_73 d_MD_truth_120 (fun s6 => ?_)
  refine VO_iload hC d_MD_truth_121 2 rfl ?_
  refine VO_aload hC d_MD_truth_122 0 rfl ?_
  refine VO_getr (r := 73) hC fl_MD_56 sh_MD rfl d_MD_truth_123 ?_
  refine VO_iload hC d_MD_truth_126 5 rfl ?_
  refine VO_iaload hC ia_73 d_MD_truth_128 (fun x7 => ?_)
  refine VO_if_ge hC d_MD_truth_129 (fun _ => ?_) (fun _ => ?_)
  · refine VO_const hC d_MD_truth_136 ?_
    refine VO_aload hC d_MD_truth_137 0 rfl ?_
    refine VO_getr (r := 73) hC fl_MD_56 sh_MD rfl d_MD_truth_138 ?_
    refine VO_iload hC d_MD_truth_141 5 rfl ?_
    refine VO_iaload hC ia_73 d_MD_truth_143 (fun x8 => ?_)
    refine VO_ishl hC d_MD_truth_144 ?_
    exact VO_sub [0, 1, 3, 4, 5] rfl (B_MD_truth_145 hC K23 hK23 v3 v4 v5 ((1 : Int32) <<< (x8 &&& 31)) v2 s6)
  · refine VO_const hC d_MD_truth_132 ?_
    refine VO_goto hC d_MD_truth_133 ?_
    exact VO_sub [0, 1, 3, 4, 5] rfl (B_MD_truth_145 hC K23 hK23 v3 v4 v5 (0 : Int32) v2 s6)
set_option maxRecDepth 20000 in
theorem B_MD_truth_90 {G : MCx} (hC : C0 G "AccusedChooseModel" b_MD_truth 7 5) {v1 : Int32} (K23 : Int32 × Int32 × Int32 × St → Option (Int32 × St)) (hK23 : ∀ (w2 : Int32) (w3 : Int32) (w4 : Int32) (s : St), VO G (RI G b_MD_truth) (K23 (w2, w3, w4, s)) 23 [(0, .ref (gad G 58)), (1, .int v1), (2, .int w2), (3, .int w3), (4, .int w4)] [] s) (v2 : Int32) (v3 : Int32) (v4 : Int32) (v5 : Int32) (z0 : Int32) (s : St) : VO G (RI G b_MD_truth) (F_MD_truth_90 K23 v1 v2 v3 v4 v5 z0 s) 90 [(0, .ref (gad G 58)), (1, .int v1), (2, .int v2), (3, .int v3), (4, .int v4), (5, .int v5)] [.int z0] s := by
  unfold F_MD_truth_90
  refine VO_istore hC d_MD_truth_90 [(0, .ref (gad G 58)), (1, .int v1), (2, .int v2), (3, .int v3), (4, .int v4), (5, .int v5)] rfl (by decide) ?_
  refine VO_aload hC d_MD_truth_92 1 rfl ?_
  refine VO_getr (r := 73) hC fl_MD_56 sh_MD rfl d_MD_truth_93 ?_
  refine VO_iload hC d_MD_truth_96 6 rfl ?_
  refine VO_iload hC d_MD_truth_98 0 rfl ?_
  refine VO_if_eq hC d_MD_truth_100 (fun _ => ?_) (fun _ => ?_)
  · refine VO_aload hC d_MD_truth_113 1 rfl ?_
    refine VO_iload hC d_MD_truth_114 6 rfl ?_
    refine VO_iload hC d_MD_truth_116 3 rfl ?_
    refine VO_callVI hC [.int v5, .int v2] [.int v5, .ref (gad G 73)] ml_MD_203 d_MD_truth_117 yv_MD_best sh_MD rfl rfl (fun o h => M_MD_best hC.inj h) (by decide) rfl rfl (Nat.le_of_ble_eq_true rfl) (fun o5 => ?_)
    exact VO_sub [1, 2, 3, 4, 5, 6] rfl (B_MD_truth_120 hC K23 hK23 v2 v3 v4 v5 o5.1 v5 o5.2)
  · refine VO_aload hC d_MD_truth_103 1 rfl ?_
    refine VO_getr (r := 64) hC fl_MD_25 sh_MD rfl d_MD_truth_104 ?_
    refine VO_iload hC d_MD_truth_107 6 rfl ?_
    refine VO_iaload hC ia_64 d_MD_truth_109 (fun x14 => ?_)
    refine VO_goto hC d_MD_truth_110 ?_
    exact VO_sub [1, 2, 3, 4, 5, 6] rfl (B_MD_truth_120 hC K23 hK23 v2 v3 v4 v5 x14 v5 s)
set_option maxRecDepth 20000 in
theorem B_MD_truth_89 {G : MCx} (hC : C0 G "AccusedChooseModel" b_MD_truth 7 5) {v1 : Int32} (K23 : Int32 × Int32 × Int32 × St → Option (Int32 × St)) (hK23 : ∀ (w2 : Int32) (w3 : Int32) (w4 : Int32) (s : St), VO G (RI G b_MD_truth) (K23 (w2, w3, w4, s)) 23 [(0, .ref (gad G 58)), (1, .int v1), (2, .int w2), (3, .int w3), (4, .int w4)] [] s) (v2 : Int32) (v3 : Int32) (v4 : Int32) (v5 : Int32) (s : St) : VO G (RI G b_MD_truth) (F_MD_truth_89 K23 v1 v2 v3 v4 v5 s) 89 [(0, .ref (gad G 58)), (1, .int v1), (2, .int v2), (3, .int v3), (4, .int v4), (5, .int v5)] [] s := by
  unfold F_MD_truth_89
  refine VO_const hC d_MD_truth_89 ?_
  exact (B_MD_truth_90 hC K23 hK23 v2 v3 v4 v5 (0 : Int32) s)
set_option maxRecDepth 20000 in
theorem BH_MD_truth_23 {G : MCx} (hC : C0 G "AccusedChooseModel" b_MD_truth 7 5) {v1 : Int32} (K23 : Int32 × Int32 × Int32 × St → Option (Int32 × St)) (hK23 : ∀ (w2 : Int32) (w3 : Int32) (w4 : Int32) (s : St), VO G (RI G b_MD_truth) (K23 (w2, w3, w4, s)) 23 [(0, .ref (gad G 58)), (1, .int v1), (2, .int w2), (3, .int w3), (4, .int w4)] [] s) (v2 : Int32) (v3 : Int32) (v4 : Int32) (s : St) : VO G (RI G b_MD_truth) (H_MD_truth_23 v1 K23 v2 v3 v4 s) 23 [(0, .ref (gad G 58)), (1, .int v1), (2, .int v2), (3, .int v3), (4, .int v4)] [] s := by
  unfold H_MD_truth_23
  refine VO_iload hC d_MD_truth_23 4 rfl ?_
  refine VO_aload hC d_MD_truth_25 0 rfl ?_
  refine VO_geti hC fl_MD_90 sh_MD rfl d_MD_truth_26 ?_
  refine VO_icmp_ge hC d_MD_truth_29 (fun _ => ?_) (fun _ => ?_)
  · refine VO_iload hC d_MD_truth_188 1 rfl ?_
    refine VO_if_ne hC d_MD_truth_189 (fun _ => ?_) (fun _ => ?_)
    · refine VO_aload hC d_MD_truth_192 0 rfl ?_
      refine VO_callVI hC [] [] ml_MD_218 d_MD_truth_193 yv_MD_allMonths sh_MD rfl rfl (fun o h => M_MD_allMonths hC.inj h) (by decide) rfl rfl (Nat.le_of_ble_eq_true rfl) (fun o2 => ?_)
      refine VO_goto hC d_MD_truth_196 ?_
      exact VO_ireturn d_MD_truth_200
    · refine VO_iload hC d_MD_truth_199 3 rfl ?_
      exact VO_ireturn d_MD_truth_200
  · refine VO_aload hC d_MD_truth_32 0 rfl ?_
    refine VO_getr (r := 67) hC fl_MD_34 sh_MD rfl d_MD_truth_33 ?_
    refine VO_iload hC d_MD_truth_36 4 rfl ?_
    refine VO_iaload hC ia_67 d_MD_truth_38 (fun x3 => ?_)
    refine VO_istore hC d_MD_truth_39 [(0, .ref (gad G 58)), (1, .int v1), (2, .int v2), (3, .int v3), (4, .int v4)] rfl (by decide) ?_
    refine VO_aload hC d_MD_truth_41 1 rfl ?_
    refine VO_getr (r := 64) hC fl_MD_25 sh_MD rfl d_MD_truth_42 ?_
    refine VO_iload hC d_MD_truth_45 0 rfl ?_
    refine VO_iaload hC ia_64 d_MD_truth_47 (fun x4 => ?_)
    refine VO_aload hC d_MD_truth_48 1 rfl ?_
    refine VO_geti hC fl_MD_84 sh_MD rfl d_MD_truth_49 ?_
    refine VO_icmp_ge hC d_MD_truth_52 (fun _ => ?_) (fun _ => ?_)
    · exact VO_sub [1, 2, 3, 4, 5, 0] rfl (B_MD_truth_89 hC K23 hK23 v2 v3 v4 x3 s)
    · refine VO_iload hC d_MD_truth_55 3 rfl ?_
      refine VO_aload hC d_MD_truth_56 1 rfl ?_
      refine VO_getr (r := 64) hC fl_MD_25 sh_MD rfl d_MD_truth_57 ?_
      refine VO_iload hC d_MD_truth_60 0 rfl ?_
      refine VO_iaload hC ia_64 d_MD_truth_62 (fun x15 => ?_)
      refine VO_callSI hC [.int v2, .int x15] [] ml_MD_184 d_MD_truth_63 ys_MD_has (fun o h => M_MD_has hC.inj h) (by decide) rfl rfl (Nat.le_of_ble_eq_true rfl) (fun o16 => ?_)
      refine VO_if_ne hC d_MD_truth_66 (fun _ => ?_) (fun _ => ?_)
      · refine VO_aload hC d_MD_truth_69 1 rfl ?_
        refine VO_iload hC d_MD_truth_70 0 rfl ?_
        refine VO_aload hC d_MD_truth_72 1 rfl ?_
        refine VO_getr (r := 64) hC fl_MD_25 sh_MD rfl d_MD_truth_73 ?_
        refine VO_iload hC d_MD_truth_76 0 rfl ?_
        refine VO_iaload hC ia_64 d_MD_truth_78 (fun x17 => ?_)
        refine VO_callVI hC [.int x3, .int x17] [] ml_MD_191 d_MD_truth_79 yv_MD_may sh_MD rfl rfl (fun o h => M_MD_may hC.inj h) (by decide) rfl rfl (Nat.le_of_ble_eq_true rfl) (fun o18 => ?_)
        refine VO_if_eq hC d_MD_truth_82 (fun _ => ?_) (fun _ => ?_)
        · exact VO_sub [1, 2, 3, 4, 5, 0] rfl (B_MD_truth_89 hC K23 hK23 v2 v3 v4 x3 o18.2)
        · refine VO_const hC d_MD_truth_85 ?_
          refine VO_goto hC d_MD_truth_86 ?_
          exact VO_sub [1, 2, 3, 4, 5, 0] rfl (B_MD_truth_90 hC K23 hK23 v2 v3 v4 x3 (1 : Int32) o18.2)
      · exact VO_sub [1, 2, 3, 4, 5, 0] rfl (B_MD_truth_89 hC K23 hK23 v2 v3 v4 x3 o16.2)
set_option maxRecDepth 20000 in
theorem B_MD_truth_23 {G : MCx} (hC : C0 G "AccusedChooseModel" b_MD_truth 7 5) (v1 : Int32) (v2 : Int32) (v3 : Int32) (v4 : Int32) (s : St) : VO G (RI G b_MD_truth) (F_MD_truth_23 v1 v2 v3 v4 s) 23 [(0, .ref (gad G 58)), (1, .int v1), (2, .int v2), (3, .int v3), (4, .int v4)] [] s := by
  exact VO_fix (G_MD_truth_23 v1) 23 (fun q => [(0, .ref (gad G 58)), (1, .int v1), (2, .int q.1), (3, .int q.2.1), (4, .int q.2.2.1)]) (fun q => q.2.2.2) (fun K hK q => BH_MD_truth_23 hC K (fun w2 w3 w4 s => hK (w2, w3, w4, s)) q.1 q.2.1 q.2.2.1 q.2.2.2) FUEL (v2, v3, v4, s)
set_option maxRecDepth 20000 in
theorem B_MD_truth {G : MCx} (hC : C0 G "AccusedChooseModel" b_MD_truth 7 5) (a1 : Int32) (s : St) : VO G (RI G b_MD_truth) (F_MD_truth a1 s) 0 [(0, .ref (gad G 58)), (1, .int a1)] [] s := by
  unfold F_MD_truth
  refine VO_iload hC d_MD_truth_0 1 rfl ?_
  refine VO_const hC d_MD_truth_1 ?_
  refine VO_const hC d_MD_truth_2 ?_
  refine VO_callSI hC [.int a1, .int (0 : Int32), .int (1 : Int32)] [] ml_MD_115 d_MD_truth_3 ys_MD_isIn (fun o h => M_MD_isIn hC.inj h) (by decide) rfl rfl (Nat.le_of_ble_eq_true rfl) (fun o1 => ?_)
  refine VO_if_ne hC d_MD_truth_6 (fun _ => ?_) (fun _ => ?_)
  · refine VO_aload hC d_MD_truth_9 0 rfl ?_
    refine VO_const hC d_MD_truth_10 ?_
    refine VO_callVI hC [.int (-2 : Int32)] [] ml_MD_104 d_MD_truth_12 yv_MD_no sh_MD rfl rfl (fun o h => M_MD_no hC.inj h) (by decide) rfl rfl (Nat.le_of_ble_eq_true rfl) (fun o19 => ?_)
    exact VO_ireturn d_MD_truth_15
  · refine VO_const hC d_MD_truth_16 ?_
    refine VO_istore hC d_MD_truth_17 [(0, .ref (gad G 58)), (1, .int a1)] rfl (by decide) ?_
    refine VO_const hC d_MD_truth_18 ?_
    refine VO_istore hC d_MD_truth_19 [(2, .int (0 : Int32)), (0, .ref (gad G 58)), (1, .int a1)] rfl (by decide) ?_
    refine VO_const hC d_MD_truth_20 ?_
    refine VO_istore hC d_MD_truth_21 [(3, .int (0 : Int32)), (2, .int (0 : Int32)), (0, .ref (gad G 58)), (1, .int a1)] rfl (by decide) ?_
    exact VO_sub [3, 4, 2, 1, 0] rfl (B_MD_truth_23 hC a1 (0 : Int32) (0 : Int32) (0 : Int32) o1.2)
set_option maxRecDepth 20000 in
theorem M_MD_truth {l : Launch} {D : va_G} {ad : Nat → Nat} {cI cL : ClassId} (hj : Inj ad) {a1 : Int32} {s : St} {o : Int32 × St} (h : F_MD_truth a1 s = some o) : Cn l D ad cI cL y_MD_truth b_MD_truth 7 (some .int) 5 [.ref (ad 58), .int a1] s (some (.int o.1)) o.2 := by
  refine Cn_ofI hj (plainFor_of_name (by decide)) (Nat.le_of_ble_eq_true rfl) [(0, .ref (ad 58)), (1, .int a1)] rfl (fun G hC e1 e2 e3 e4 e5 hR => ?_)
  subst e1; subst e2; subst e3; subst e4; subst e5
  exact B_MD_truth hC a1 s o h hR
theorem d_MD_parole_0 : PLa b_MD_parole 0 0 1 := Or.inl ⟨0, by decide +kernel, rfl, rfl⟩
theorem d_MD_parole_1 : DR b_MD_parole 1 (.invokevirtual 299) 3 4 := ⟨by decide +kernel, rfl⟩
theorem d_MD_parole_4 : PSi b_MD_parole 4 1 5 := Or.inl ⟨1, by decide +kernel, rfl, rfl⟩
theorem d_MD_parole_5 : PCi b_MD_parole 5 (-9) 7 := Or.inr (Or.inl ⟨(-9), by decide +kernel, by decide, rfl⟩)
theorem d_MD_parole_7 : PSi b_MD_parole 7 2 8 := Or.inl ⟨2, by decide +kernel, rfl, rfl⟩
theorem d_MD_parole_8 : PCi b_MD_parole 8 0 9 := Or.inl ⟨0, by decide +kernel, by decide, rfl⟩
theorem d_MD_parole_9 : PSi b_MD_parole 9 3 10 := Or.inl ⟨3, by decide +kernel, rfl, rfl⟩
theorem d_MD_parole_10 : PLi b_MD_parole 10 3 11 := Or.inl ⟨3, by decide +kernel, rfl, rfl⟩
theorem d_MD_parole_11 : PLa b_MD_parole 11 0 12 := Or.inl ⟨0, by decide +kernel, rfl, rfl⟩
theorem d_MD_parole_12 : DR b_MD_parole 12 (.getfield 90) 3 15 := ⟨by decide +kernel, rfl⟩
theorem d_MD_parole_15 : DJ b_MD_parole 15 (.if_icmp .ge) 18 67 := ⟨52, by decide +kernel, rfl, by decide⟩
theorem d_MD_parole_18 : PLa b_MD_parole 18 0 19 := Or.inl ⟨0, by decide +kernel, rfl, rfl⟩
theorem d_MD_parole_19 : DR b_MD_parole 19 (.getfield 19) 3 22 := ⟨by decide +kernel, rfl⟩
theorem d_MD_parole_22 : PLi b_MD_parole 22 3 23 := Or.inl ⟨3, by decide +kernel, rfl, rfl⟩
theorem d_MD_parole_23 : DR b_MD_parole 23 (.iaload) 1 24 := ⟨by decide +kernel, rfl⟩
theorem d_MD_parole_24 : PSi b_MD_parole 24 4 26 := Or.inr ⟨by decide +kernel, rfl⟩
theorem d_MD_parole_26 : PLa b_MD_parole 26 0 27 := Or.inl ⟨0, by decide +kernel, rfl, rfl⟩
theorem d_MD_parole_27 : DR b_MD_parole 27 (.getfield 19) 3 30 := ⟨by decide +kernel, rfl⟩
theorem d_MD_parole_30 : PLi b_MD_parole 30 3 31 := Or.inl ⟨3, by decide +kernel, rfl, rfl⟩
theorem d_MD_parole_31 : PCi b_MD_parole 31 0 32 := Or.inl ⟨0, by decide +kernel, by decide, rfl⟩
theorem d_MD_parole_32 : DR b_MD_parole 32 (.iastore) 1 33 := ⟨by decide +kernel, rfl⟩
theorem d_MD_parole_33 : PLa b_MD_parole 33 0 34 := Or.inl ⟨0, by decide +kernel, rfl, rfl⟩
theorem d_MD_parole_34 : DR b_MD_parole 34 (.invokevirtual 299) 3 37 := ⟨by decide +kernel, rfl⟩
theorem d_MD_parole_37 : PSi b_MD_parole 37 5 39 := Or.inr ⟨by decide +kernel, rfl⟩
theorem d_MD_parole_39 : PLa b_MD_parole 39 0 40 := Or.inl ⟨0, by decide +kernel, rfl, rfl⟩
theorem d_MD_parole_40 : DR b_MD_parole 40 (.getfield 19) 3 43 := ⟨by decide +kernel, rfl⟩
theorem d_MD_parole_43 : PLi b_MD_parole 43 3 44 := Or.inl ⟨3, by decide +kernel, rfl, rfl⟩
theorem d_MD_parole_44 : PLi b_MD_parole 44 4 46 := Or.inr ⟨by decide +kernel, rfl⟩
theorem d_MD_parole_46 : DR b_MD_parole 46 (.iastore) 1 47 := ⟨by decide +kernel, rfl⟩
theorem d_MD_parole_47 : PLi b_MD_parole 47 5 49 := Or.inr ⟨by decide +kernel, rfl⟩
theorem d_MD_parole_49 : PLi b_MD_parole 49 1 50 := Or.inl ⟨1, by decide +kernel, rfl, rfl⟩
theorem d_MD_parole_50 : DJ b_MD_parole 50 (.if_icmp .lt) 53 56 := ⟨6, by decide +kernel, rfl, by decide⟩
theorem d_MD_parole_53 : DJ b_MD_parole 53 .goto 56 61 := ⟨8, by decide +kernel, rfl, by decide⟩
theorem d_MD_parole_56 : PLi b_MD_parole 56 3 57 := Or.inl ⟨3, by decide +kernel, rfl, rfl⟩
theorem d_MD_parole_57 : PSi b_MD_parole 57 2 58 := Or.inl ⟨2, by decide +kernel, rfl, rfl⟩
theorem d_MD_parole_58 : PLi b_MD_parole 58 5 60 := Or.inr ⟨by decide +kernel, rfl⟩
theorem d_MD_parole_60 : PSi b_MD_parole 60 1 61 := Or.inl ⟨1, by decide +kernel, rfl, rfl⟩
theorem d_MD_parole_61 : DR b_MD_parole 61 (.iinc 3 1) 3 64 := ⟨by decide +kernel, rfl⟩
theorem d_MD_parole_64 : DJ b_MD_parole 64 .goto 67 10 := ⟨-54, by decide +kernel, rfl, by decide⟩
theorem d_MD_parole_67 : PLi b_MD_parole 67 2 68 := Or.inl ⟨2, by decide +kernel, rfl, rfl⟩
theorem d_MD_parole_68 : DR b_MD_parole 68 (.ireturn) 1 69 := ⟨by decide +kernel, rfl⟩
set_option maxRecDepth 20000 in
theorem B_MD_parole_61 {G : MCx} (hC : C0 G "AccusedChooseModel" b_MD_parole 6 7) (K10 : Int32 × Int32 × Int32 × St → Option (Int32 × St)) (hK10 : ∀ (w1 : Int32) (w2 : Int32) (w3 : Int32) (s : St), VO G (RI G b_MD_parole) (K10 (w1, w2, w3, s)) 10 [(0, .ref (gad G 58)), (1, .int w1), (2, .int w2), (3, .int w3)] [] s) (v1 : Int32) (v2 : Int32) (v3 : Int32) (s : St) : VO G (RI G b_MD_parole) (F_MD_parole_61 K10 v1 v2 v3 s) 61 [(0, .ref (gad G 58)), (1, .int v1), (2, .int v2), (3, .int v3)] [] s := by
  unfold F_MD_parole_61
  refine VO_iinc hC d_MD_parole_61 3 rfl (by decide : Int32.ofInt 1 = 1) [(0, .ref (gad G 58)), (1, .int v1), (2, .int v2)] rfl (by decide) ?_
  refine VO_goto hC d_MD_parole_64 ?_
  exact VO_sub [1, 2, 3, 0] rfl (hK10 v1 v2 (v3 + 1) s)
set_option maxRecDepth 20000 in
theorem BH_MD_parole_10 {G : MCx} (hC : C0 G "AccusedChooseModel" b_MD_parole 6 7) (K10 : Int32 × Int32 × Int32 × St → Option (Int32 × St)) (hK10 : ∀ (w1 : Int32) (w2 : Int32) (w3 : Int32) (s : St), VO G (RI G b_MD_parole) (K10 (w1, w2, w3, s)) 10 [(0, .ref (gad G 58)), (1, .int w1), (2, .int w2), (3, .int w3)] [] s) (v1 : Int32) (v2 : Int32) (v3 : Int32) (s : St) : VO G (RI G b_MD_parole) (H_MD_parole_10 K10 v1 v2 v3 s) 10 [(0, .ref (gad G 58)), (1, .int v1), (2, .int v2), (3, .int v3)] [] s := by
  unfold H_MD_parole_10
  refine VO_iload hC d_MD_parole_10 3 rfl ?_
  refine VO_aload hC d_MD_parole_11 0 rfl ?_
  refine VO_geti hC fl_MD_90 sh_MD rfl d_MD_parole_12 ?_
  refine VO_icmp_ge hC d_MD_parole_15 (fun _ => ?_) (fun _ => ?_)
  · refine VO_iload hC d_MD_parole_67 2 rfl ?_
    exact VO_ireturn d_MD_parole_68
  · refine VO_aload hC d_MD_parole_18 0 rfl ?_
    refine VO_getr (r := 62) hC fl_MD_19 sh_MD rfl d_MD_parole_19 ?_
    refine VO_iload hC d_MD_parole_22 3 rfl ?_
    refine VO_iaload hC ia_62 d_MD_parole_23 (fun x2 => ?_)
    refine VO_istore hC d_MD_parole_24 [(0, .ref (gad G 58)), (1, .int v1), (2, .int v2), (3, .int v3)] rfl (by decide) ?_
    refine VO_aload hC d_MD_parole_26 1 rfl ?_
    refine VO_getr (r := 62) hC fl_MD_19 sh_MD rfl d_MD_parole_27 ?_
    refine VO_iload hC d_MD_parole_30 4 rfl ?_
    refine VO_const hC d_MD_parole_31 ?_
    refine VO_iastore hC ia_62 d_MD_parole_32 (fun s3 => ?_)
    refine VO_aload hC d_MD_parole_33 1 rfl ?_
    refine VO_callVI hC [] [] ml_MD_299 d_MD_parole_34 yv_MD_monthsNow sh_MD rfl rfl (fun o h => M_MD_monthsNow hC.inj h) (by decide) rfl rfl (Nat.le_of_ble_eq_true rfl) (fun o4 => ?_)
    refine VO_istore hC d_MD_parole_37 [(4, .int x2), (0, .ref (gad G 58)), (1, .int v1), (2, .int v2), (3, .int v3)] rfl (by decide) ?_
    refine VO_aload hC d_MD_parole_39 2 rfl ?_
    refine VO_getr (r := 62) hC fl_MD_19 sh_MD rfl d_MD_parole_40 ?_
    refine VO_iload hC d_MD_parole_43 5 rfl ?_
    refine VO_iload hC d_MD_parole_44 1 rfl ?_
    refine VO_iastore hC ia_62 d_MD_parole_46 (fun s5 => ?_)
    refine VO_iload hC d_MD_parole_47 0 rfl ?_
    refine VO_iload hC d_MD_parole_49 3 rfl ?_
    refine VO_icmp_lt hC d_MD_parole_50 (fun _ => ?_) (fun _ => ?_)
    · refine VO_iload hC d_MD_parole_56 5 rfl ?_
      refine VO_istore hC d_MD_parole_57 [(5, .int o4.1), (4, .int x2), (0, .ref (gad G 58)), (1, .int v1), (3, .int v3)] rfl (by decide) ?_
      refine VO_iload hC d_MD_parole_58 1 rfl ?_
      refine VO_istore hC d_MD_parole_60 [(2, .int v3), (5, .int o4.1), (4, .int x2), (0, .ref (gad G 58)), (3, .int v3)] rfl (by decide) ?_
      exact VO_sub [4, 0, 1, 5] rfl (B_MD_parole_61 hC K10 hK10 o4.1 v3 v3 s5)
    · refine VO_goto hC d_MD_parole_53 ?_
      exact VO_sub [2, 3, 4, 5] rfl (B_MD_parole_61 hC K10 hK10 v1 v2 v3 s5)
set_option maxRecDepth 20000 in
theorem B_MD_parole_10 {G : MCx} (hC : C0 G "AccusedChooseModel" b_MD_parole 6 7) (v1 : Int32) (v2 : Int32) (v3 : Int32) (s : St) : VO G (RI G b_MD_parole) (F_MD_parole_10 v1 v2 v3 s) 10 [(0, .ref (gad G 58)), (1, .int v1), (2, .int v2), (3, .int v3)] [] s := by
  exact VO_fix (G_MD_parole_10) 10 (fun q => [(0, .ref (gad G 58)), (1, .int q.1), (2, .int q.2.1), (3, .int q.2.2.1)]) (fun q => q.2.2.2) (fun K hK q => BH_MD_parole_10 hC K (fun w1 w2 w3 s => hK (w1, w2, w3, s)) q.1 q.2.1 q.2.2.1 q.2.2.2) FUEL (v1, v2, v3, s)
set_option maxRecDepth 20000 in
theorem B_MD_parole {G : MCx} (hC : C0 G "AccusedChooseModel" b_MD_parole 6 7) (s : St) : VO G (RI G b_MD_parole) (F_MD_parole s) 0 [(0, .ref (gad G 58))] [] s := by
  unfold F_MD_parole
  refine VO_aload hC d_MD_parole_0 0 rfl ?_
  refine VO_callVI hC [] [] ml_MD_299 d_MD_parole_1 yv_MD_monthsNow sh_MD rfl rfl (fun o h => M_MD_monthsNow hC.inj h) (by decide) rfl rfl (Nat.le_of_ble_eq_true rfl) (fun o1 => ?_)
  refine VO_istore hC d_MD_parole_4 [(0, .ref (gad G 58))] rfl (by decide) ?_
  refine VO_const hC d_MD_parole_5 ?_
  refine VO_istore hC d_MD_parole_7 [(1, .int o1.1), (0, .ref (gad G 58))] rfl (by decide) ?_
  refine VO_const hC d_MD_parole_8 ?_
  refine VO_istore hC d_MD_parole_9 [(2, .int (-9 : Int32)), (1, .int o1.1), (0, .ref (gad G 58))] rfl (by decide) ?_
  exact VO_sub [3, 2, 1, 0] rfl (B_MD_parole_10 hC o1.1 (-9 : Int32) (0 : Int32) o1.2)
set_option maxRecDepth 20000 in
theorem M_MD_parole {l : Launch} {D : va_G} {ad : Nat → Nat} {cI cL : ClassId} (hj : Inj ad) {s : St} {o : Int32 × St} (h : F_MD_parole s = some o) : Cn l D ad cI cL y_MD_parole b_MD_parole 6 (some .int) 7 [.ref (ad 58)] s (some (.int o.1)) o.2 := by
  refine Cn_ofI hj (plainFor_of_name (by decide)) (Nat.le_of_ble_eq_true rfl) [(0, .ref (ad 58))] rfl (fun G hC e1 e2 e3 e4 e5 hR => ?_)
  subst e1; subst e2; subst e3; subst e4; subst e5
  exact B_MD_parole hC s o h hR
theorem d_MD_newBrothers_0 : PLa b_MD_newBrothers 0 0 1 := Or.inl ⟨0, by decide +kernel, rfl, rfl⟩
theorem d_MD_newBrothers_1 : DR b_MD_newBrothers 1 (.invokevirtual 239) 3 4 := ⟨by decide +kernel, rfl⟩
theorem d_MD_newBrothers_4 : PLa b_MD_newBrothers 4 0 5 := Or.inl ⟨0, by decide +kernel, rfl, rfl⟩
theorem d_MD_newBrothers_5 : DR b_MD_newBrothers 5 (.invokevirtual 218) 3 8 := ⟨by decide +kernel, rfl⟩
theorem d_MD_newBrothers_8 : PSi b_MD_newBrothers 8 1 9 := Or.inl ⟨1, by decide +kernel, rfl, rfl⟩
theorem d_MD_newBrothers_9 : PCi b_MD_newBrothers 9 (-9) 11 := Or.inr (Or.inl ⟨(-9), by decide +kernel, by decide, rfl⟩)
theorem d_MD_newBrothers_11 : PSi b_MD_newBrothers 11 2 12 := Or.inl ⟨2, by decide +kernel, rfl, rfl⟩
theorem d_MD_newBrothers_12 : PCi b_MD_newBrothers 12 0 13 := Or.inl ⟨0, by decide +kernel, by decide, rfl⟩
theorem d_MD_newBrothers_13 : PSi b_MD_newBrothers 13 3 14 := Or.inl ⟨3, by decide +kernel, rfl, rfl⟩
theorem d_MD_newBrothers_14 : PLi b_MD_newBrothers 14 3 15 := Or.inl ⟨3, by decide +kernel, rfl, rfl⟩
theorem d_MD_newBrothers_15 : PLa b_MD_newBrothers 15 0 16 := Or.inl ⟨0, by decide +kernel, rfl, rfl⟩
theorem d_MD_newBrothers_16 : DR b_MD_newBrothers 16 (.getfield 90) 3 19 := ⟨by decide +kernel, rfl⟩
theorem d_MD_newBrothers_19 : DJ b_MD_newBrothers 19 (.if_icmp .ge) 22 97 := ⟨78, by decide +kernel, rfl, by decide⟩
theorem d_MD_newBrothers_22 : PLi b_MD_newBrothers 22 3 23 := Or.inl ⟨3, by decide +kernel, rfl, rfl⟩
theorem d_MD_newBrothers_23 : PCi b_MD_newBrothers 23 1 24 := Or.inl ⟨1, by decide +kernel, by decide, rfl⟩
theorem d_MD_newBrothers_24 : DR b_MD_newBrothers 24 (.iadd) 1 25 := ⟨by decide +kernel, rfl⟩
theorem d_MD_newBrothers_25 : PSi b_MD_newBrothers 25 4 27 := Or.inr ⟨by decide +kernel, rfl⟩
theorem d_MD_newBrothers_27 : PLi b_MD_newBrothers 27 4 29 := Or.inr ⟨by decide +kernel, rfl⟩
theorem d_MD_newBrothers_29 : PLa b_MD_newBrothers 29 0 30 := Or.inl ⟨0, by decide +kernel, rfl, rfl⟩
theorem d_MD_newBrothers_30 : DR b_MD_newBrothers 30 (.getfield 90) 3 33 := ⟨by decide +kernel, rfl⟩
theorem d_MD_newBrothers_33 : DJ b_MD_newBrothers 33 (.if_icmp .ge) 36 91 := ⟨58, by decide +kernel, rfl, by decide⟩
theorem d_MD_newBrothers_36 : PLa b_MD_newBrothers 36 0 37 := Or.inl ⟨0, by decide +kernel, rfl, rfl⟩
theorem d_MD_newBrothers_37 : PCi b_MD_newBrothers 37 1 38 := Or.inl ⟨1, by decide +kernel, by decide, rfl⟩
theorem d_MD_newBrothers_38 : PCi b_MD_newBrothers 38 1 39 := Or.inl ⟨1, by decide +kernel, by decide, rfl⟩
theorem d_MD_newBrothers_39 : DR b_MD_newBrothers 39 (.invokevirtual 150) 3 42 := ⟨by decide +kernel, rfl⟩
theorem d_MD_newBrothers_42 : PLa b_MD_newBrothers 42 0 43 := Or.inl ⟨0, by decide +kernel, rfl, rfl⟩
theorem d_MD_newBrothers_43 : PLi b_MD_newBrothers 43 3 44 := Or.inl ⟨3, by decide +kernel, rfl, rfl⟩
theorem d_MD_newBrothers_44 : PLi b_MD_newBrothers 44 4 46 := Or.inr ⟨by decide +kernel, rfl⟩
theorem d_MD_newBrothers_46 : DR b_MD_newBrothers 46 (.invokevirtual 137) 3 49 := ⟨by decide +kernel, rfl⟩
theorem d_MD_newBrothers_49 : PLa b_MD_newBrothers 49 0 50 := Or.inl ⟨0, by decide +kernel, rfl, rfl⟩
theorem d_MD_newBrothers_50 : DR b_MD_newBrothers 50 (.invokevirtual 239) 3 53 := ⟨by decide +kernel, rfl⟩
theorem d_MD_newBrothers_53 : PLa b_MD_newBrothers 53 0 54 := Or.inl ⟨0, by decide +kernel, rfl, rfl⟩
theorem d_MD_newBrothers_54 : DR b_MD_newBrothers 54 (.invokevirtual 218) 3 57 := ⟨by decide +kernel, rfl⟩
theorem d_MD_newBrothers_57 : PSi b_MD_newBrothers 57 5 59 := Or.inr ⟨by decide +kernel, rfl⟩
theorem d_MD_newBrothers_59 : PLa b_MD_newBrothers 59 0 60 := Or.inl ⟨0, by decide +kernel, rfl, rfl⟩
theorem d_MD_newBrothers_60 : PCi b_MD_newBrothers 60 1 61 := Or.inl ⟨1, by decide +kernel, by decide, rfl⟩
theorem d_MD_newBrothers_61 : PCi b_MD_newBrothers 61 0 62 := Or.inl ⟨0, by decide +kernel, by decide, rfl⟩
theorem d_MD_newBrothers_62 : DR b_MD_newBrothers 62 (.invokevirtual 150) 3 65 := ⟨by decide +kernel, rfl⟩
theorem d_MD_newBrothers_65 : PLi b_MD_newBrothers 65 5 67 := Or.inr ⟨by decide +kernel, rfl⟩
theorem d_MD_newBrothers_67 : PLi b_MD_newBrothers 67 1 68 := Or.inl ⟨1, by decide +kernel, rfl, rfl⟩
theorem d_MD_newBrothers_68 : DJ b_MD_newBrothers 68 (.if_icmp .lt) 71 74 := ⟨6, by decide +kernel, rfl, by decide⟩
theorem d_MD_newBrothers_71 : DJ b_MD_newBrothers 71 .goto 74 85 := ⟨14, by decide +kernel, rfl, by decide⟩
theorem d_MD_newBrothers_74 : PCi b_MD_newBrothers 74 10 76 := Or.inr (Or.inl ⟨10, by decide +kernel, by decide, rfl⟩)
theorem d_MD_newBrothers_76 : PLi b_MD_newBrothers 76 3 77 := Or.inl ⟨3, by decide +kernel, rfl, rfl⟩
theorem d_MD_newBrothers_77 : DR b_MD_newBrothers 77 (.imul) 1 78 := ⟨by decide +kernel, rfl⟩
theorem d_MD_newBrothers_78 : PLi b_MD_newBrothers 78 4 80 := Or.inr ⟨by decide +kernel, rfl⟩
theorem d_MD_newBrothers_80 : DR b_MD_newBrothers 80 (.iadd) 1 81 := ⟨by decide +kernel, rfl⟩
theorem d_MD_newBrothers_81 : PSi b_MD_newBrothers 81 2 82 := Or.inl ⟨2, by decide +kernel, rfl, rfl⟩
theorem d_MD_newBrothers_82 : PLi b_MD_newBrothers 82 5 84 := Or.inr ⟨by decide +kernel, rfl⟩
theorem d_MD_newBrothers_84 : PSi b_MD_newBrothers 84 1 85 := Or.inl ⟨1, by decide +kernel, rfl, rfl⟩
theorem d_MD_newBrothers_85 : DR b_MD_newBrothers 85 (.iinc 4 1) 3 88 := ⟨by decide +kernel, rfl⟩
theorem d_MD_newBrothers_88 : DJ b_MD_newBrothers 88 .goto 91 27 := ⟨-61, by decide +kernel, rfl, by decide⟩
theorem d_MD_newBrothers_91 : DR b_MD_newBrothers 91 (.iinc 3 1) 3 94 := ⟨by decide +kernel, rfl⟩
theorem d_MD_newBrothers_94 : DJ b_MD_newBrothers 94 .goto 97 14 := ⟨-80, by decide +kernel, rfl, by decide⟩
theorem d_MD_newBrothers_97 : PLi b_MD_newBrothers 97 2 98 := Or.inl ⟨2, by decide +kernel, rfl, rfl⟩
theorem d_MD_newBrothers_98 : DR b_MD_newBrothers 98 (.ireturn) 1 99 := ⟨by decide +kernel, rfl⟩
set_option maxRecDepth 20000 in
theorem B_MD_newBrothers_85 {G : MCx} (hC : C0 G "AccusedChooseModel" b_MD_newBrothers 6 6) {v3 : Int32} (K14 : Int32 × Int32 × Int32 × St → Option (Int32 × St)) (hK14 : ∀ (w1 : Int32) (w2 : Int32) (w3 : Int32) (s : St), VO G (RI G b_MD_newBrothers) (K14 (w1, w2, w3, s)) 14 [(0, .ref (gad G 58)), (1, .int w1), (2, .int w2), (3, .int w3)] [] s) (K27 : Int32 × Int32 × Int32 × St → Option (Int32 × St)) (hK27 : ∀ (w1 : Int32) (w2 : Int32) (w4 : Int32) (s : St), VO G (RI G b_MD_newBrothers) (K27 (w1, w2, w4, s)) 27 [(0, .ref (gad G 58)), (1, .int w1), (2, .int w2), (3, .int v3), (4, .int w4)] [] s) (v1 : Int32) (v2 : Int32) (v4 : Int32) (s : St) : VO G (RI G b_MD_newBrothers) (F_MD_newBrothers_85 K14 K27 v1 v2 v3 v4 s) 85 [(0, .ref (gad G 58)), (1, .int v1), (2, .int v2), (3, .int v3), (4, .int v4)] [] s := by
  unfold F_MD_newBrothers_85
  refine VO_iinc hC d_MD_newBrothers_85 4 rfl (by decide : Int32.ofInt 1 = 1) [(0, .ref (gad G 58)), (1, .int v1), (2, .int v2), (3, .int v3)] rfl (by decide) ?_
  refine VO_goto hC d_MD_newBrothers_88 ?_
  exact VO_sub [1, 2, 3, 4, 0] rfl (hK27 v1 v2 (v4 + 1) s)
set_option maxRecDepth 20000 in
theorem BH_MD_newBrothers_27 {G : MCx} (hC : C0 G "AccusedChooseModel" b_MD_newBrothers 6 6) {v3 : Int32} (K14 : Int32 × Int32 × Int32 × St → Option (Int32 × St)) (hK14 : ∀ (w1 : Int32) (w2 : Int32) (w3 : Int32) (s : St), VO G (RI G b_MD_newBrothers) (K14 (w1, w2, w3, s)) 14 [(0, .ref (gad G 58)), (1, .int w1), (2, .int w2), (3, .int w3)] [] s) (K27 : Int32 × Int32 × Int32 × St → Option (Int32 × St)) (hK27 : ∀ (w1 : Int32) (w2 : Int32) (w4 : Int32) (s : St), VO G (RI G b_MD_newBrothers) (K27 (w1, w2, w4, s)) 27 [(0, .ref (gad G 58)), (1, .int w1), (2, .int w2), (3, .int v3), (4, .int w4)] [] s) (v1 : Int32) (v2 : Int32) (v4 : Int32) (s : St) : VO G (RI G b_MD_newBrothers) (H_MD_newBrothers_27 K14 v3 K27 v1 v2 v4 s) 27 [(0, .ref (gad G 58)), (1, .int v1), (2, .int v2), (3, .int v3), (4, .int v4)] [] s := by
  unfold H_MD_newBrothers_27
  refine VO_iload hC d_MD_newBrothers_27 4 rfl ?_
  refine VO_aload hC d_MD_newBrothers_29 0 rfl ?_
  refine VO_geti hC fl_MD_90 sh_MD rfl d_MD_newBrothers_30 ?_
  refine VO_icmp_ge hC d_MD_newBrothers_33 (fun _ => ?_) (fun _ => ?_)
  · refine VO_iinc hC d_MD_newBrothers_91 3 rfl (by decide : Int32.ofInt 1 = 1) [(0, .ref (gad G 58)), (1, .int v1), (2, .int v2), (4, .int v4)] rfl (by decide) ?_
    refine VO_goto hC d_MD_newBrothers_94 ?_
    exact VO_sub [1, 2, 3, 0] rfl (hK14 v1 v2 (v3 + 1) s)
  · refine VO_aload hC d_MD_newBrothers_36 0 rfl ?_
    refine VO_const hC d_MD_newBrothers_37 ?_
    refine VO_const hC d_MD_newBrothers_38 ?_
    refine VO_callVV hC [.int (1 : Int32), .int (1 : Int32)] [] ml_MD_150 d_MD_newBrothers_39 yv_MD_passesAll sh_MD rfl rfl (fun o h => M_MD_passesAll hC.inj h) (by decide) rfl rfl (Nat.le_of_ble_eq_true rfl) (fun s4 => ?_)
    refine VO_aload hC d_MD_newBrothers_42 0 rfl ?_
    refine VO_iload hC d_MD_newBrothers_43 3 rfl ?_
    refine VO_iload hC d_MD_newBrothers_44 4 rfl ?_
    refine VO_callVV hC [.int v3, .int v4] [] ml_MD_137 d_MD_newBrothers_46 yv_MD_areBrothers sh_MD rfl rfl (fun o h => M_MD_areBrothers hC.inj h) (by decide) rfl rfl (Nat.le_of_ble_eq_true rfl) (fun s5 => ?_)
    refine VO_aload hC d_MD_newBrothers_49 0 rfl ?_
    refine VO_callVV hC [] [] ml_MD_239 d_MD_newBrothers_50 yv_MD_findFromLast sh_MD rfl rfl (fun o h => M_MD_findFromLast hC.inj h) (by decide) rfl rfl (Nat.le_of_ble_eq_true rfl) (fun s6 => ?_)
    refine VO_aload hC d_MD_newBrothers_53 0 rfl ?_
    refine VO_callVI hC [] [] ml_MD_218 d_MD_newBrothers_54 yv_MD_allMonths sh_MD rfl rfl (fun o h => M_MD_allMonths hC.inj h) (by decide) rfl rfl (Nat.le_of_ble_eq_true rfl) (fun o7 => ?_)
    refine VO_istore hC d_MD_newBrothers_57 [(0, .ref (gad G 58)), (1, .int v1), (2, .int v2), (3, .int v3), (4, .int v4)] rfl (by decide) ?_
    refine VO_aload hC d_MD_newBrothers_59 1 rfl ?_
    refine VO_const hC d_MD_newBrothers_60 ?_
    refine VO_const hC d_MD_newBrothers_61 ?_
    refine VO_callVV hC [.int (1 : Int32), .int (0 : Int32)] [] ml_MD_150 d_MD_newBrothers_62 yv_MD_passesAll sh_MD rfl rfl (fun o h => M_MD_passesAll hC.inj h) (by decide) rfl rfl (Nat.le_of_ble_eq_true rfl) (fun s8 => ?_)
    refine VO_iload hC d_MD_newBrothers_65 0 rfl ?_
    refine VO_iload hC d_MD_newBrothers_67 2 rfl ?_
    refine VO_icmp_lt hC d_MD_newBrothers_68 (fun _ => ?_) (fun _ => ?_)
    · refine VO_const hC d_MD_newBrothers_74 ?_
      refine VO_iload hC d_MD_newBrothers_76 4 rfl ?_
      refine VO_imul hC d_MD_newBrothers_77 ?_
      refine VO_iload hC d_MD_newBrothers_78 5 rfl ?_
      refine VO_iadd hC d_MD_newBrothers_80 ?_
      refine VO_istoreB hC d_MD_newBrothers_81 [(5, .int o7.1), (0, .ref (gad G 58)), (1, .int v1), (3, .int v3), (4, .int v4)] rfl (by decide) (fun x9 => ?_)
      refine VO_iload hC d_MD_newBrothers_82 1 rfl ?_
      refine VO_istore hC d_MD_newBrothers_84 [(2, .int x9), (5, .int o7.1), (0, .ref (gad G 58)), (3, .int v3), (4, .int v4)] rfl (by decide) ?_
      exact VO_sub [3, 0, 1, 4, 5] rfl (B_MD_newBrothers_85 hC K14 hK14 K27 hK27 o7.1 x9 v4 s8)
    · refine VO_goto hC d_MD_newBrothers_71 ?_
      exact VO_sub [1, 2, 3, 4, 5] rfl (B_MD_newBrothers_85 hC K14 hK14 K27 hK27 v1 v2 v4 s8)
set_option maxRecDepth 20000 in
theorem B_MD_newBrothers_27 {G : MCx} (hC : C0 G "AccusedChooseModel" b_MD_newBrothers 6 6) (K14 : Int32 × Int32 × Int32 × St → Option (Int32 × St)) (hK14 : ∀ (w1 : Int32) (w2 : Int32) (w3 : Int32) (s : St), VO G (RI G b_MD_newBrothers) (K14 (w1, w2, w3, s)) 14 [(0, .ref (gad G 58)), (1, .int w1), (2, .int w2), (3, .int w3)] [] s) (v1 : Int32) (v2 : Int32) (v3 : Int32) (v4 : Int32) (s : St) : VO G (RI G b_MD_newBrothers) (F_MD_newBrothers_27 K14 v1 v2 v3 v4 s) 27 [(0, .ref (gad G 58)), (1, .int v1), (2, .int v2), (3, .int v3), (4, .int v4)] [] s := by
  exact VO_fix (G_MD_newBrothers_27 K14 v3) 27 (fun q => [(0, .ref (gad G 58)), (1, .int q.1), (2, .int q.2.1), (3, .int v3), (4, .int q.2.2.1)]) (fun q => q.2.2.2) (fun K hK q => BH_MD_newBrothers_27 hC K14 hK14 K (fun w1 w2 w4 s => hK (w1, w2, w4, s)) q.1 q.2.1 q.2.2.1 q.2.2.2) FUEL (v1, v2, v4, s)
set_option maxRecDepth 20000 in
theorem BH_MD_newBrothers_14 {G : MCx} (hC : C0 G "AccusedChooseModel" b_MD_newBrothers 6 6) (K14 : Int32 × Int32 × Int32 × St → Option (Int32 × St)) (hK14 : ∀ (w1 : Int32) (w2 : Int32) (w3 : Int32) (s : St), VO G (RI G b_MD_newBrothers) (K14 (w1, w2, w3, s)) 14 [(0, .ref (gad G 58)), (1, .int w1), (2, .int w2), (3, .int w3)] [] s) (v1 : Int32) (v2 : Int32) (v3 : Int32) (s : St) : VO G (RI G b_MD_newBrothers) (H_MD_newBrothers_14 K14 v1 v2 v3 s) 14 [(0, .ref (gad G 58)), (1, .int v1), (2, .int v2), (3, .int v3)] [] s := by
  unfold H_MD_newBrothers_14
  refine VO_iload hC d_MD_newBrothers_14 3 rfl ?_
  refine VO_aload hC d_MD_newBrothers_15 0 rfl ?_
  refine VO_geti hC fl_MD_90 sh_MD rfl d_MD_newBrothers_16 ?_
  refine VO_icmp_ge hC d_MD_newBrothers_19 (fun _ => ?_) (fun _ => ?_)
  · refine VO_iload hC d_MD_newBrothers_97 2 rfl ?_
    exact VO_ireturn d_MD_newBrothers_98
  · refine VO_iload hC d_MD_newBrothers_22 3 rfl ?_
    refine VO_const hC d_MD_newBrothers_23 ?_
    refine VO_iadd hC d_MD_newBrothers_24 ?_
    refine VO_istoreB hC d_MD_newBrothers_25 [(0, .ref (gad G 58)), (1, .int v1), (2, .int v2), (3, .int v3)] rfl (by decide) (fun x3 => ?_)
    exact VO_sub [1, 2, 3, 4, 0] rfl (B_MD_newBrothers_27 hC K14 hK14 v1 v2 v3 x3 s)
set_option maxRecDepth 20000 in
theorem B_MD_newBrothers_14 {G : MCx} (hC : C0 G "AccusedChooseModel" b_MD_newBrothers 6 6) (v1 : Int32) (v2 : Int32) (v3 : Int32) (s : St) : VO G (RI G b_MD_newBrothers) (F_MD_newBrothers_14 v1 v2 v3 s) 14 [(0, .ref (gad G 58)), (1, .int v1), (2, .int v2), (3, .int v3)] [] s := by
  exact VO_fix (G_MD_newBrothers_14) 14 (fun q => [(0, .ref (gad G 58)), (1, .int q.1), (2, .int q.2.1), (3, .int q.2.2.1)]) (fun q => q.2.2.2) (fun K hK q => BH_MD_newBrothers_14 hC K (fun w1 w2 w3 s => hK (w1, w2, w3, s)) q.1 q.2.1 q.2.2.1 q.2.2.2) FUEL (v1, v2, v3, s)
set_option maxRecDepth 20000 in
theorem B_MD_newBrothers {G : MCx} (hC : C0 G "AccusedChooseModel" b_MD_newBrothers 6 6) (s : St) : VO G (RI G b_MD_newBrothers) (F_MD_newBrothers s) 0 [(0, .ref (gad G 58))] [] s := by
  unfold F_MD_newBrothers
  refine VO_aload hC d_MD_newBrothers_0 0 rfl ?_
  refine VO_callVV hC [] [] ml_MD_239 d_MD_newBrothers_1 yv_MD_findFromLast sh_MD rfl rfl (fun o h => M_MD_findFromLast hC.inj h) (by decide) rfl rfl (Nat.le_of_ble_eq_true rfl) (fun s1 => ?_)
  refine VO_aload hC d_MD_newBrothers_4 0 rfl ?_
  refine VO_callVI hC [] [] ml_MD_218 d_MD_newBrothers_5 yv_MD_allMonths sh_MD rfl rfl (fun o h => M_MD_allMonths hC.inj h) (by decide) rfl rfl (Nat.le_of_ble_eq_true rfl) (fun o2 => ?_)
  refine VO_istore hC d_MD_newBrothers_8 [(0, .ref (gad G 58))] rfl (by decide) ?_
  refine VO_const hC d_MD_newBrothers_9 ?_
  refine VO_istore hC d_MD_newBrothers_11 [(1, .int o2.1), (0, .ref (gad G 58))] rfl (by decide) ?_
  refine VO_const hC d_MD_newBrothers_12 ?_
  refine VO_istore hC d_MD_newBrothers_13 [(2, .int (-9 : Int32)), (1, .int o2.1), (0, .ref (gad G 58))] rfl (by decide) ?_
  exact VO_sub [3, 2, 1, 0] rfl (B_MD_newBrothers_14 hC o2.1 (-9 : Int32) (0 : Int32) o2.2)
set_option maxRecDepth 20000 in
theorem M_MD_newBrothers {l : Launch} {D : va_G} {ad : Nat → Nat} {cI cL : ClassId} (hj : Inj ad) {s : St} {o : Int32 × St} (h : F_MD_newBrothers s = some o) : Cn l D ad cI cL y_MD_newBrothers b_MD_newBrothers 6 (some .int) 6 [.ref (ad 58)] s (some (.int o.1)) o.2 := by
  refine Cn_ofI hj (plainFor_of_name (by decide)) (Nat.le_of_ble_eq_true rfl) [(0, .ref (ad 58))] rfl (fun G hC e1 e2 e3 e4 e5 hR => ?_)
  subst e1; subst e2; subst e3; subst e4; subst e5
  exact B_MD_newBrothers hC s o h hR
theorem d_MD_madeLight_0 : PLa b_MD_madeLight 0 0 1 := Or.inl ⟨0, by decide +kernel, rfl, rfl⟩
theorem d_MD_madeLight_1 : DR b_MD_madeLight 1 (.invokevirtual 299) 3 4 := ⟨by decide +kernel, rfl⟩
theorem d_MD_madeLight_4 : PSi b_MD_madeLight 4 1 5 := Or.inl ⟨1, by decide +kernel, rfl, rfl⟩
theorem d_MD_madeLight_5 : PCi b_MD_madeLight 5 (-9) 7 := Or.inr (Or.inl ⟨(-9), by decide +kernel, by decide, rfl⟩)
theorem d_MD_madeLight_7 : PSi b_MD_madeLight 7 2 8 := Or.inl ⟨2, by decide +kernel, rfl, rfl⟩
theorem d_MD_madeLight_8 : PCi b_MD_madeLight 8 0 9 := Or.inl ⟨0, by decide +kernel, by decide, rfl⟩
theorem d_MD_madeLight_9 : PSi b_MD_madeLight 9 3 10 := Or.inl ⟨3, by decide +kernel, rfl, rfl⟩
theorem d_MD_madeLight_10 : PLi b_MD_madeLight 10 3 11 := Or.inl ⟨3, by decide +kernel, rfl, rfl⟩
theorem d_MD_madeLight_11 : PLa b_MD_madeLight 11 0 12 := Or.inl ⟨0, by decide +kernel, rfl, rfl⟩
theorem d_MD_madeLight_12 : DR b_MD_madeLight 12 (.getfield 84) 3 15 := ⟨by decide +kernel, rfl⟩
theorem d_MD_madeLight_15 : DJ b_MD_madeLight 15 (.if_icmp .ge) 18 67 := ⟨52, by decide +kernel, rfl, by decide⟩
theorem d_MD_madeLight_18 : PLa b_MD_madeLight 18 0 19 := Or.inl ⟨0, by decide +kernel, rfl, rfl⟩
theorem d_MD_madeLight_19 : DR b_MD_madeLight 19 (.getfield 13) 3 22 := ⟨by decide +kernel, rfl⟩
theorem d_MD_madeLight_22 : PLi b_MD_madeLight 22 3 23 := Or.inl ⟨3, by decide +kernel, rfl, rfl⟩
theorem d_MD_madeLight_23 : DR b_MD_madeLight 23 (.iaload) 1 24 := ⟨by decide +kernel, rfl⟩
theorem d_MD_madeLight_24 : PSi b_MD_madeLight 24 4 26 := Or.inr ⟨by decide +kernel, rfl⟩
theorem d_MD_madeLight_26 : PLa b_MD_madeLight 26 0 27 := Or.inl ⟨0, by decide +kernel, rfl, rfl⟩
theorem d_MD_madeLight_27 : DR b_MD_madeLight 27 (.getfield 13) 3 30 := ⟨by decide +kernel, rfl⟩
theorem d_MD_madeLight_30 : PLi b_MD_madeLight 30 3 31 := Or.inl ⟨3, by decide +kernel, rfl, rfl⟩
theorem d_MD_madeLight_31 : PCi b_MD_madeLight 31 2 32 := Or.inl ⟨2, by decide +kernel, by decide, rfl⟩
theorem d_MD_madeLight_32 : DR b_MD_madeLight 32 (.iastore) 1 33 := ⟨by decide +kernel, rfl⟩
theorem d_MD_madeLight_33 : PLa b_MD_madeLight 33 0 34 := Or.inl ⟨0, by decide +kernel, rfl, rfl⟩
theorem d_MD_madeLight_34 : DR b_MD_madeLight 34 (.invokevirtual 299) 3 37 := ⟨by decide +kernel, rfl⟩
theorem d_MD_madeLight_37 : PSi b_MD_madeLight 37 5 39 := Or.inr ⟨by decide +kernel, rfl⟩
theorem d_MD_madeLight_39 : PLa b_MD_madeLight 39 0 40 := Or.inl ⟨0, by decide +kernel, rfl, rfl⟩
theorem d_MD_madeLight_40 : DR b_MD_madeLight 40 (.getfield 13) 3 43 := ⟨by decide +kernel, rfl⟩
theorem d_MD_madeLight_43 : PLi b_MD_madeLight 43 3 44 := Or.inl ⟨3, by decide +kernel, rfl, rfl⟩
theorem d_MD_madeLight_44 : PLi b_MD_madeLight 44 4 46 := Or.inr ⟨by decide +kernel, rfl⟩
theorem d_MD_madeLight_46 : DR b_MD_madeLight 46 (.iastore) 1 47 := ⟨by decide +kernel, rfl⟩
theorem d_MD_madeLight_47 : PLi b_MD_madeLight 47 5 49 := Or.inr ⟨by decide +kernel, rfl⟩
theorem d_MD_madeLight_49 : PLi b_MD_madeLight 49 1 50 := Or.inl ⟨1, by decide +kernel, rfl, rfl⟩
theorem d_MD_madeLight_50 : DJ b_MD_madeLight 50 (.if_icmp .lt) 53 56 := ⟨6, by decide +kernel, rfl, by decide⟩
theorem d_MD_madeLight_53 : DJ b_MD_madeLight 53 .goto 56 61 := ⟨8, by decide +kernel, rfl, by decide⟩
theorem d_MD_madeLight_56 : PLi b_MD_madeLight 56 3 57 := Or.inl ⟨3, by decide +kernel, rfl, rfl⟩
theorem d_MD_madeLight_57 : PSi b_MD_madeLight 57 2 58 := Or.inl ⟨2, by decide +kernel, rfl, rfl⟩
theorem d_MD_madeLight_58 : PLi b_MD_madeLight 58 5 60 := Or.inr ⟨by decide +kernel, rfl⟩
theorem d_MD_madeLight_60 : PSi b_MD_madeLight 60 1 61 := Or.inl ⟨1, by decide +kernel, rfl, rfl⟩
theorem d_MD_madeLight_61 : DR b_MD_madeLight 61 (.iinc 3 1) 3 64 := ⟨by decide +kernel, rfl⟩
theorem d_MD_madeLight_64 : DJ b_MD_madeLight 64 .goto 67 10 := ⟨-54, by decide +kernel, rfl, by decide⟩
theorem d_MD_madeLight_67 : PLi b_MD_madeLight 67 2 68 := Or.inl ⟨2, by decide +kernel, rfl, rfl⟩
theorem d_MD_madeLight_68 : DR b_MD_madeLight 68 (.ireturn) 1 69 := ⟨by decide +kernel, rfl⟩
set_option maxRecDepth 20000 in
theorem B_MD_madeLight_61 {G : MCx} (hC : C0 G "AccusedChooseModel" b_MD_madeLight 6 7) (K10 : Int32 × Int32 × Int32 × St → Option (Int32 × St)) (hK10 : ∀ (w1 : Int32) (w2 : Int32) (w3 : Int32) (s : St), VO G (RI G b_MD_madeLight) (K10 (w1, w2, w3, s)) 10 [(0, .ref (gad G 58)), (1, .int w1), (2, .int w2), (3, .int w3)] [] s) (v1 : Int32) (v2 : Int32) (v3 : Int32) (s : St) : VO G (RI G b_MD_madeLight) (F_MD_madeLight_61 K10 v1 v2 v3 s) 61 [(0, .ref (gad G 58)), (1, .int v1), (2, .int v2), (3, .int v3)] [] s := by
  unfold F_MD_madeLight_61
  refine VO_iinc hC d_MD_madeLight_61 3 rfl (by decide : Int32.ofInt 1 = 1) [(0, .ref (gad G 58)), (1, .int v1), (2, .int v2)] rfl (by decide) ?_
  refine VO_goto hC d_MD_madeLight_64 ?_
  exact VO_sub [1, 2, 3, 0] rfl (hK10 v1 v2 (v3 + 1) s)
set_option maxRecDepth 20000 in
theorem BH_MD_madeLight_10 {G : MCx} (hC : C0 G "AccusedChooseModel" b_MD_madeLight 6 7) (K10 : Int32 × Int32 × Int32 × St → Option (Int32 × St)) (hK10 : ∀ (w1 : Int32) (w2 : Int32) (w3 : Int32) (s : St), VO G (RI G b_MD_madeLight) (K10 (w1, w2, w3, s)) 10 [(0, .ref (gad G 58)), (1, .int w1), (2, .int w2), (3, .int w3)] [] s) (v1 : Int32) (v2 : Int32) (v3 : Int32) (s : St) : VO G (RI G b_MD_madeLight) (H_MD_madeLight_10 K10 v1 v2 v3 s) 10 [(0, .ref (gad G 58)), (1, .int v1), (2, .int v2), (3, .int v3)] [] s := by
  unfold H_MD_madeLight_10
  refine VO_iload hC d_MD_madeLight_10 3 rfl ?_
  refine VO_aload hC d_MD_madeLight_11 0 rfl ?_
  refine VO_geti hC fl_MD_84 sh_MD rfl d_MD_madeLight_12 ?_
  refine VO_icmp_ge hC d_MD_madeLight_15 (fun _ => ?_) (fun _ => ?_)
  · refine VO_iload hC d_MD_madeLight_67 2 rfl ?_
    exact VO_ireturn d_MD_madeLight_68
  · refine VO_aload hC d_MD_madeLight_18 0 rfl ?_
    refine VO_getr (r := 60) hC fl_MD_13 sh_MD rfl d_MD_madeLight_19 ?_
    refine VO_iload hC d_MD_madeLight_22 3 rfl ?_
    refine VO_iaload hC ia_60 d_MD_madeLight_23 (fun x2 => ?_)
    refine VO_istore hC d_MD_madeLight_24 [(0, .ref (gad G 58)), (1, .int v1), (2, .int v2), (3, .int v3)] rfl (by decide) ?_
    refine VO_aload hC d_MD_madeLight_26 1 rfl ?_
    refine VO_getr (r := 60) hC fl_MD_13 sh_MD rfl d_MD_madeLight_27 ?_
    refine VO_iload hC d_MD_madeLight_30 4 rfl ?_
    refine VO_const hC d_MD_madeLight_31 ?_
    refine VO_iastore hC ia_60 d_MD_madeLight_32 (fun s3 => ?_)
    refine VO_aload hC d_MD_madeLight_33 1 rfl ?_
    refine VO_callVI hC [] [] ml_MD_299 d_MD_madeLight_34 yv_MD_monthsNow sh_MD rfl rfl (fun o h => M_MD_monthsNow hC.inj h) (by decide) rfl rfl (Nat.le_of_ble_eq_true rfl) (fun o4 => ?_)
    refine VO_istore hC d_MD_madeLight_37 [(4, .int x2), (0, .ref (gad G 58)), (1, .int v1), (2, .int v2), (3, .int v3)] rfl (by decide) ?_
    refine VO_aload hC d_MD_madeLight_39 2 rfl ?_
    refine VO_getr (r := 60) hC fl_MD_13 sh_MD rfl d_MD_madeLight_40 ?_
    refine VO_iload hC d_MD_madeLight_43 5 rfl ?_
    refine VO_iload hC d_MD_madeLight_44 1 rfl ?_
    refine VO_iastore hC ia_60 d_MD_madeLight_46 (fun s5 => ?_)
    refine VO_iload hC d_MD_madeLight_47 0 rfl ?_
    refine VO_iload hC d_MD_madeLight_49 3 rfl ?_
    refine VO_icmp_lt hC d_MD_madeLight_50 (fun _ => ?_) (fun _ => ?_)
    · refine VO_iload hC d_MD_madeLight_56 5 rfl ?_
      refine VO_istore hC d_MD_madeLight_57 [(5, .int o4.1), (4, .int x2), (0, .ref (gad G 58)), (1, .int v1), (3, .int v3)] rfl (by decide) ?_
      refine VO_iload hC d_MD_madeLight_58 1 rfl ?_
      refine VO_istore hC d_MD_madeLight_60 [(2, .int v3), (5, .int o4.1), (4, .int x2), (0, .ref (gad G 58)), (3, .int v3)] rfl (by decide) ?_
      exact VO_sub [4, 0, 1, 5] rfl (B_MD_madeLight_61 hC K10 hK10 o4.1 v3 v3 s5)
    · refine VO_goto hC d_MD_madeLight_53 ?_
      exact VO_sub [2, 3, 4, 5] rfl (B_MD_madeLight_61 hC K10 hK10 v1 v2 v3 s5)
set_option maxRecDepth 20000 in
theorem B_MD_madeLight_10 {G : MCx} (hC : C0 G "AccusedChooseModel" b_MD_madeLight 6 7) (v1 : Int32) (v2 : Int32) (v3 : Int32) (s : St) : VO G (RI G b_MD_madeLight) (F_MD_madeLight_10 v1 v2 v3 s) 10 [(0, .ref (gad G 58)), (1, .int v1), (2, .int v2), (3, .int v3)] [] s := by
  exact VO_fix (G_MD_madeLight_10) 10 (fun q => [(0, .ref (gad G 58)), (1, .int q.1), (2, .int q.2.1), (3, .int q.2.2.1)]) (fun q => q.2.2.2) (fun K hK q => BH_MD_madeLight_10 hC K (fun w1 w2 w3 s => hK (w1, w2, w3, s)) q.1 q.2.1 q.2.2.1 q.2.2.2) FUEL (v1, v2, v3, s)
set_option maxRecDepth 20000 in
theorem B_MD_madeLight {G : MCx} (hC : C0 G "AccusedChooseModel" b_MD_madeLight 6 7) (s : St) : VO G (RI G b_MD_madeLight) (F_MD_madeLight s) 0 [(0, .ref (gad G 58))] [] s := by
  unfold F_MD_madeLight
  refine VO_aload hC d_MD_madeLight_0 0 rfl ?_
  refine VO_callVI hC [] [] ml_MD_299 d_MD_madeLight_1 yv_MD_monthsNow sh_MD rfl rfl (fun o h => M_MD_monthsNow hC.inj h) (by decide) rfl rfl (Nat.le_of_ble_eq_true rfl) (fun o1 => ?_)
  refine VO_istore hC d_MD_madeLight_4 [(0, .ref (gad G 58))] rfl (by decide) ?_
  refine VO_const hC d_MD_madeLight_5 ?_
  refine VO_istore hC d_MD_madeLight_7 [(1, .int o1.1), (0, .ref (gad G 58))] rfl (by decide) ?_
  refine VO_const hC d_MD_madeLight_8 ?_
  refine VO_istore hC d_MD_madeLight_9 [(2, .int (-9 : Int32)), (1, .int o1.1), (0, .ref (gad G 58))] rfl (by decide) ?_
  exact VO_sub [3, 2, 1, 0] rfl (B_MD_madeLight_10 hC o1.1 (-9 : Int32) (0 : Int32) o1.2)
set_option maxRecDepth 20000 in
theorem M_MD_madeLight {l : Launch} {D : va_G} {ad : Nat → Nat} {cI cL : ClassId} (hj : Inj ad) {s : St} {o : Int32 × St} (h : F_MD_madeLight s = some o) : Cn l D ad cI cL y_MD_madeLight b_MD_madeLight 6 (some .int) 7 [.ref (ad 58)] s (some (.int o.1)) o.2 := by
  refine Cn_ofI hj (plainFor_of_name (by decide)) (Nat.le_of_ble_eq_true rfl) [(0, .ref (ad 58))] rfl (fun G hC e1 e2 e3 e4 e5 hR => ?_)
  subst e1; subst e2; subst e3; subst e4; subst e5
  exact B_MD_madeLight hC s o h hR
theorem d_MD_always_0 : PLa b_MD_always 0 0 1 := Or.inl ⟨0, by decide +kernel, rfl, rfl⟩
theorem d_MD_always_1 : DR b_MD_always 1 (.invokevirtual 215) 3 4 := ⟨by decide +kernel, rfl⟩
theorem d_MD_always_4 : PLa b_MD_always 4 0 5 := Or.inl ⟨0, by decide +kernel, rfl, rfl⟩
theorem d_MD_always_5 : DR b_MD_always 5 (.invokevirtual 321) 3 8 := ⟨by decide +kernel, rfl⟩
theorem d_MD_always_8 : PSi b_MD_always 8 1 9 := Or.inl ⟨1, by decide +kernel, rfl, rfl⟩
theorem d_MD_always_9 : PCi b_MD_always 9 0 10 := Or.inl ⟨0, by decide +kernel, by decide, rfl⟩
theorem d_MD_always_10 : PSi b_MD_always 10 2 11 := Or.inl ⟨2, by decide +kernel, rfl, rfl⟩
theorem d_MD_always_11 : PLi b_MD_always 11 2 12 := Or.inl ⟨2, by decide +kernel, rfl, rfl⟩
theorem d_MD_always_12 : PLa b_MD_always 12 0 13 := Or.inl ⟨0, by decide +kernel, rfl, rfl⟩
theorem d_MD_always_13 : DR b_MD_always 13 (.getfield 90) 3 16 := ⟨by decide +kernel, rfl⟩
theorem d_MD_always_16 : DJ b_MD_always 16 (.if_icmp .ge) 19 44 := ⟨28, by decide +kernel, rfl, by decide⟩
theorem d_MD_always_19 : PLa b_MD_always 19 0 20 := Or.inl ⟨0, by decide +kernel, rfl, rfl⟩
theorem d_MD_always_20 : DR b_MD_always 20 (.getfield 59) 3 23 := ⟨by decide +kernel, rfl⟩
theorem d_MD_always_23 : PLi b_MD_always 23 2 24 := Or.inl ⟨2, by decide +kernel, rfl, rfl⟩
theorem d_MD_always_24 : PLa b_MD_always 24 0 25 := Or.inl ⟨0, by decide +kernel, rfl, rfl⟩
theorem d_MD_always_25 : DR b_MD_always 25 (.getfield 34) 3 28 := ⟨by decide +kernel, rfl⟩
theorem d_MD_always_28 : PLa b_MD_always 28 0 29 := Or.inl ⟨0, by decide +kernel, rfl, rfl⟩
theorem d_MD_always_29 : DR b_MD_always 29 (.getfield 90) 3 32 := ⟨by decide +kernel, rfl⟩
theorem d_MD_always_32 : PCi b_MD_always 32 1 33 := Or.inl ⟨1, by decide +kernel, by decide, rfl⟩
theorem d_MD_always_33 : DR b_MD_always 33 (.isub) 1 34 := ⟨by decide +kernel, rfl⟩
theorem d_MD_always_34 : PLi b_MD_always 34 2 35 := Or.inl ⟨2, by decide +kernel, rfl, rfl⟩
theorem d_MD_always_35 : DR b_MD_always 35 (.isub) 1 36 := ⟨by decide +kernel, rfl⟩
theorem d_MD_always_36 : DR b_MD_always 36 (.iaload) 1 37 := ⟨by decide +kernel, rfl⟩
theorem d_MD_always_37 : DR b_MD_always 37 (.iastore) 1 38 := ⟨by decide +kernel, rfl⟩
theorem d_MD_always_38 : DR b_MD_always 38 (.iinc 2 1) 3 41 := ⟨by decide +kernel, rfl⟩
theorem d_MD_always_41 : DJ b_MD_always 41 .goto 44 11 := ⟨-30, by decide +kernel, rfl, by decide⟩
theorem d_MD_always_44 : PLa b_MD_always 44 0 45 := Or.inl ⟨0, by decide +kernel, rfl, rfl⟩
theorem d_MD_always_45 : DR b_MD_always 45 (.invokevirtual 209) 3 48 := ⟨by decide +kernel, rfl⟩
theorem d_MD_always_48 : PLi b_MD_always 48 1 49 := Or.inl ⟨1, by decide +kernel, rfl, rfl⟩
theorem d_MD_always_49 : PLa b_MD_always 49 0 50 := Or.inl ⟨0, by decide +kernel, rfl, rfl⟩
theorem d_MD_always_50 : DR b_MD_always 50 (.invokevirtual 321) 3 53 := ⟨by decide +kernel, rfl⟩
theorem d_MD_always_53 : DR b_MD_always 53 (.iand) 1 54 := ⟨by decide +kernel, rfl⟩
theorem d_MD_always_54 : PSi b_MD_always 54 1 55 := Or.inl ⟨1, by decide +kernel, rfl, rfl⟩
theorem d_MD_always_55 : PCi b_MD_always 55 0 56 := Or.inl ⟨0, by decide +kernel, by decide, rfl⟩
theorem d_MD_always_56 : PSi b_MD_always 56 2 57 := Or.inl ⟨2, by decide +kernel, rfl, rfl⟩
theorem d_MD_always_57 : PLi b_MD_always 57 2 58 := Or.inl ⟨2, by decide +kernel, rfl, rfl⟩
theorem d_MD_always_58 : PLa b_MD_always 58 0 59 := Or.inl ⟨0, by decide +kernel, rfl, rfl⟩
theorem d_MD_always_59 : DR b_MD_always 59 (.getfield 90) 3 62 := ⟨by decide +kernel, rfl⟩
theorem d_MD_always_62 : DJ b_MD_always 62 (.if_icmp .ge) 65 90 := ⟨28, by decide +kernel, rfl, by decide⟩
theorem d_MD_always_65 : PLa b_MD_always 65 0 66 := Or.inl ⟨0, by decide +kernel, rfl, rfl⟩
theorem d_MD_always_66 : DR b_MD_always 66 (.getfield 59) 3 69 := ⟨by decide +kernel, rfl⟩
theorem d_MD_always_69 : PLi b_MD_always 69 2 70 := Or.inl ⟨2, by decide +kernel, rfl, rfl⟩
theorem d_MD_always_70 : PLa b_MD_always 70 0 71 := Or.inl ⟨0, by decide +kernel, rfl, rfl⟩
theorem d_MD_always_71 : DR b_MD_always 71 (.getfield 34) 3 74 := ⟨by decide +kernel, rfl⟩
theorem d_MD_always_74 : PLi b_MD_always 74 2 75 := Or.inl ⟨2, by decide +kernel, rfl, rfl⟩
theorem d_MD_always_75 : PCi b_MD_always 75 1 76 := Or.inl ⟨1, by decide +kernel, by decide, rfl⟩
theorem d_MD_always_76 : DR b_MD_always 76 (.iadd) 1 77 := ⟨by decide +kernel, rfl⟩
theorem d_MD_always_77 : PLa b_MD_always 77 0 78 := Or.inl ⟨0, by decide +kernel, rfl, rfl⟩
theorem d_MD_always_78 : DR b_MD_always 78 (.getfield 90) 3 81 := ⟨by decide +kernel, rfl⟩
theorem d_MD_always_81 : DR b_MD_always 81 (.irem) 1 82 := ⟨by decide +kernel, rfl⟩
theorem d_MD_always_82 : DR b_MD_always 82 (.iaload) 1 83 := ⟨by decide +kernel, rfl⟩
theorem d_MD_always_83 : DR b_MD_always 83 (.iastore) 1 84 := ⟨by decide +kernel, rfl⟩
theorem d_MD_always_84 : DR b_MD_always 84 (.iinc 2 1) 3 87 := ⟨by decide +kernel, rfl⟩
theorem d_MD_always_87 : DJ b_MD_always 87 .goto 90 57 := ⟨-30, by decide +kernel, rfl, by decide⟩
theorem d_MD_always_90 : PLa b_MD_always 90 0 91 := Or.inl ⟨0, by decide +kernel, rfl, rfl⟩
theorem d_MD_always_91 : DR b_MD_always 91 (.invokevirtual 209) 3 94 := ⟨by decide +kernel, rfl⟩
theorem d_MD_always_94 : PLi b_MD_always 94 1 95 := Or.inl ⟨1, by decide +kernel, rfl, rfl⟩
theorem d_MD_always_95 : PLa b_MD_always 95 0 96 := Or.inl ⟨0, by decide +kernel, rfl, rfl⟩
theorem d_MD_always_96 : DR b_MD_always 96 (.invokevirtual 321) 3 99 := ⟨by decide +kernel, rfl⟩
theorem d_MD_always_99 : DR b_MD_always 99 (.iand) 1 100 := ⟨by decide +kernel, rfl⟩
theorem d_MD_always_100 : DR b_MD_always 100 (.ireturn) 1 101 := ⟨by decide +kernel, rfl⟩
set_option maxRecDepth 20000 in
theorem BH_MD_always_57 {G : MCx} (hC : C0 G "AccusedChooseModel" b_MD_always 3 6) {v1 : Int32} (K57 : Int32 × St → Option (Int32 × St)) (hK57 : ∀ (w2 : Int32) (s : St), VO G (RI G b_MD_always) (K57 (w2, s)) 57 [(0, .ref (gad G 58)), (1, .int v1), (2, .int w2)] [] s) (v2 : Int32) (s : St) : VO G (RI G b_MD_always) (H_MD_always_57 v1 K57 v2 s) 57 [(0, .ref (gad G 58)), (1, .int v1), (2, .int v2)] [] s := by
  unfold H_MD_always_57
  refine VO_iload hC d_MD_always_57 2 rfl ?_
  refine VO_aload hC d_MD_always_58 0 rfl ?_
  refine VO_geti hC fl_MD_90 sh_MD rfl d_MD_always_59 ?_
  refine VO_icmp_ge hC d_MD_always_62 (fun _ => ?_) (fun _ => ?_)
  · refine VO_aload hC d_MD_always_90 0 rfl ?_
    refine VO_callVV hC [] [] ml_MD_209 d_MD_always_91 yv_MD_goesBy sh_MD rfl rfl (fun o h => M_MD_goesBy hC.inj h) (by decide) rfl rfl (Nat.le_of_ble_eq_true rfl) (fun s6 => ?_)
    refine VO_iload hC d_MD_always_94 1 rfl ?_
    refine VO_aload hC d_MD_always_95 0 rfl ?_
    refine VO_callVI hC [] [.int v1] ml_MD_321 d_MD_always_96 yv_MD_takenBits sh_MD rfl rfl (fun o h => M_MD_takenBits hC.inj h) (by decide) rfl rfl (Nat.le_of_ble_eq_true rfl) (fun o7 => ?_)
    refine VO_iand hC d_MD_always_99 ?_
    exact VO_ireturn d_MD_always_100
  · refine VO_aload hC d_MD_always_65 0 rfl ?_
    refine VO_getr (r := 74) hC fl_MD_59 sh_MD rfl d_MD_always_66 ?_
    refine VO_iload hC d_MD_always_69 2 rfl ?_
    refine VO_aload hC d_MD_always_70 0 rfl ?_
    refine VO_getr (r := 67) hC fl_MD_34 sh_MD rfl d_MD_always_71 ?_
    refine VO_iload hC d_MD_always_74 2 rfl ?_
    refine VO_const hC d_MD_always_75 ?_
    refine VO_iadd hC d_MD_always_76 ?_
    refine VO_aload hC d_MD_always_77 0 rfl ?_
    refine VO_geti hC fl_MD_90 sh_MD rfl d_MD_always_78 ?_
    refine VO_irem hC d_MD_always_81 ?_
    refine VO_iaload hC ia_67 d_MD_always_82 (fun x8 => ?_)
    refine VO_iastore hC ia_74 d_MD_always_83 (fun s9 => ?_)
    refine VO_iinc hC d_MD_always_84 2 rfl (by decide : Int32.ofInt 1 = 1) [(0, .ref (gad G 58)), (1, .int v1)] rfl (by decide) ?_
    refine VO_goto hC d_MD_always_87 ?_
    exact VO_sub [1, 2, 0] rfl (hK57 (v2 + 1) s9)
set_option maxRecDepth 20000 in
theorem B_MD_always_57 {G : MCx} (hC : C0 G "AccusedChooseModel" b_MD_always 3 6) (v1 : Int32) (v2 : Int32) (s : St) : VO G (RI G b_MD_always) (F_MD_always_57 v1 v2 s) 57 [(0, .ref (gad G 58)), (1, .int v1), (2, .int v2)] [] s := by
  exact VO_fix (G_MD_always_57 v1) 57 (fun q => [(0, .ref (gad G 58)), (1, .int v1), (2, .int q.1)]) (fun q => q.2) (fun K hK q => BH_MD_always_57 hC K (fun w2 s => hK (w2, s)) q.1 q.2) FUEL (v2, s)
set_option maxRecDepth 20000 in
theorem BH_MD_always_11 {G : MCx} (hC : C0 G "AccusedChooseModel" b_MD_always 3 6) {v1 : Int32} (K11 : Int32 × St → Option (Int32 × St)) (hK11 : ∀ (w2 : Int32) (s : St), VO G (RI G b_MD_always) (K11 (w2, s)) 11 [(0, .ref (gad G 58)), (1, .int v1), (2, .int w2)] [] s) (v2 : Int32) (s : St) : VO G (RI G b_MD_always) (H_MD_always_11 v1 K11 v2 s) 11 [(0, .ref (gad G 58)), (1, .int v1), (2, .int v2)] [] s := by
  unfold H_MD_always_11
  refine VO_iload hC d_MD_always_11 2 rfl ?_
  refine VO_aload hC d_MD_always_12 0 rfl ?_
  refine VO_geti hC fl_MD_90 sh_MD rfl d_MD_always_13 ?_
  refine VO_icmp_ge hC d_MD_always_16 (fun _ => ?_) (fun _ => ?_)
  · refine VO_aload hC d_MD_always_44 0 rfl ?_
    refine VO_callVV hC [] [] ml_MD_209 d_MD_always_45 yv_MD_goesBy sh_MD rfl rfl (fun o h => M_MD_goesBy hC.inj h) (by decide) rfl rfl (Nat.le_of_ble_eq_true rfl) (fun s3 => ?_)
    refine VO_iload hC d_MD_always_48 1 rfl ?_
    refine VO_aload hC d_MD_always_49 0 rfl ?_
    refine VO_callVI hC [] [.int v1] ml_MD_321 d_MD_always_50 yv_MD_takenBits sh_MD rfl rfl (fun o h => M_MD_takenBits hC.inj h) (by decide) rfl rfl (Nat.le_of_ble_eq_true rfl) (fun o4 => ?_)
    refine VO_iand hC d_MD_always_53 ?_
    refine VO_istoreB hC d_MD_always_54 [(0, .ref (gad G 58)), (2, .int v2)] rfl (by decide) (fun x5 => ?_)
    refine VO_const hC d_MD_always_55 ?_
    refine VO_istore hC d_MD_always_56 [(1, .int x5), (0, .ref (gad G 58))] rfl (by decide) ?_
    exact VO_sub [2, 1, 0] rfl (B_MD_always_57 hC x5 (0 : Int32) o4.2)
  · refine VO_aload hC d_MD_always_19 0 rfl ?_
    refine VO_getr (r := 74) hC fl_MD_59 sh_MD rfl d_MD_always_20 ?_
    refine VO_iload hC d_MD_always_23 2 rfl ?_
    refine VO_aload hC d_MD_always_24 0 rfl ?_
    refine VO_getr (r := 67) hC fl_MD_34 sh_MD rfl d_MD_always_25 ?_
    refine VO_aload hC d_MD_always_28 0 rfl ?_
    refine VO_geti hC fl_MD_90 sh_MD rfl d_MD_always_29 ?_
    refine VO_const hC d_MD_always_32 ?_
    refine VO_isub hC d_MD_always_33 ?_
    refine VO_iload hC d_MD_always_34 2 rfl ?_
    refine VO_isub hC d_MD_always_35 ?_
    refine VO_iaload hC ia_67 d_MD_always_36 (fun x10 => ?_)
    refine VO_iastore hC ia_74 d_MD_always_37 (fun s11 => ?_)
    refine VO_iinc hC d_MD_always_38 2 rfl (by decide : Int32.ofInt 1 = 1) [(0, .ref (gad G 58)), (1, .int v1)] rfl (by decide) ?_
    refine VO_goto hC d_MD_always_41 ?_
    exact VO_sub [1, 2, 0] rfl (hK11 (v2 + 1) s11)
set_option maxRecDepth 20000 in
theorem B_MD_always_11 {G : MCx} (hC : C0 G "AccusedChooseModel" b_MD_always 3 6) (v1 : Int32) (v2 : Int32) (s : St) : VO G (RI G b_MD_always) (F_MD_always_11 v1 v2 s) 11 [(0, .ref (gad G 58)), (1, .int v1), (2, .int v2)] [] s := by
  exact VO_fix (G_MD_always_11 v1) 11 (fun q => [(0, .ref (gad G 58)), (1, .int v1), (2, .int q.1)]) (fun q => q.2) (fun K hK q => BH_MD_always_11 hC K (fun w2 s => hK (w2, s)) q.1 q.2) FUEL (v2, s)
set_option maxRecDepth 20000 in
theorem B_MD_always {G : MCx} (hC : C0 G "AccusedChooseModel" b_MD_always 3 6) (s : St) : VO G (RI G b_MD_always) (F_MD_always s) 0 [(0, .ref (gad G 58))] [] s := by
  unfold F_MD_always
  refine VO_aload hC d_MD_always_0 0 rfl ?_
  refine VO_callVV hC [] [] ml_MD_215 d_MD_always_1 yv_MD_goes sh_MD rfl rfl (fun o h => M_MD_goes hC.inj h) (by decide) rfl rfl (Nat.le_of_ble_eq_true rfl) (fun s1 => ?_)
  refine VO_aload hC d_MD_always_4 0 rfl ?_
  refine VO_callVI hC [] [] ml_MD_321 d_MD_always_5 yv_MD_takenBits sh_MD rfl rfl (fun o h => M_MD_takenBits hC.inj h) (by decide) rfl rfl (Nat.le_of_ble_eq_true rfl) (fun o2 => ?_)
  refine VO_istore hC d_MD_always_8 [(0, .ref (gad G 58))] rfl (by decide) ?_
  refine VO_const hC d_MD_always_9 ?_
  refine VO_istore hC d_MD_always_10 [(1, .int o2.1), (0, .ref (gad G 58))] rfl (by decide) ?_
  exact VO_sub [2, 1, 0] rfl (B_MD_always_11 hC o2.1 (0 : Int32) o2.2)
set_option maxRecDepth 20000 in
theorem M_MD_always {l : Launch} {D : va_G} {ad : Nat → Nat} {cI cL : ClassId} (hj : Inj ad) {s : St} {o : Int32 × St} (h : F_MD_always s = some o) : Cn l D ad cI cL y_MD_always b_MD_always 3 (some .int) 6 [.ref (ad 58)] s (some (.int o.1)) o.2 := by
  refine Cn_ofI hj (plainFor_of_name (by decide)) (Nat.le_of_ble_eq_true rfl) [(0, .ref (ad 58))] rfl (fun G hC e1 e2 e3 e4 e5 hR => ?_)
  subst e1; subst e2; subst e3; subst e4; subst e5
  exact B_MD_always hC s o h hR
theorem d_MD_row_0 : PLi b_MD_row 0 1 1 := Or.inl ⟨1, by decide +kernel, rfl, rfl⟩
theorem d_MD_row_1 : PCi b_MD_row 1 0 2 := Or.inl ⟨0, by decide +kernel, by decide, rfl⟩
theorem d_MD_row_2 : PCi b_MD_row 2 9 4 := Or.inr (Or.inl ⟨9, by decide +kernel, by decide, rfl⟩)
theorem d_MD_row_4 : DR b_MD_row 4 (.invokestatic 97) 3 7 := ⟨by decide +kernel, rfl⟩
theorem d_MD_row_7 : PSi b_MD_row 7 2 8 := Or.inl ⟨2, by decide +kernel, rfl, rfl⟩
theorem d_MD_row_8 : PLi b_MD_row 8 2 9 := Or.inl ⟨2, by decide +kernel, rfl, rfl⟩
theorem d_MD_row_9 : DJ b_MD_row 9 (.ifCond .ne) 12 24 := ⟨15, by decide +kernel, rfl, by decide⟩
theorem d_MD_row_12 : PLa b_MD_row 12 0 13 := Or.inl ⟨0, by decide +kernel, rfl, rfl⟩
theorem d_MD_row_13 : DR b_MD_row 13 (.getfield 330) 3 16 := ⟨by decide +kernel, rfl⟩
theorem d_MD_row_16 : PCi b_MD_row 16 12 18 := Or.inr (Or.inl ⟨12, by decide +kernel, by decide, rfl⟩)
theorem d_MD_row_18 : DJ b_MD_row 18 (.if_icmp .ne) 21 24 := ⟨6, by decide +kernel, rfl, by decide⟩
theorem d_MD_row_21 : PCi b_MD_row 21 (-6) 23 := Or.inr (Or.inl ⟨(-6), by decide +kernel, by decide, rfl⟩)
theorem d_MD_row_23 : PSi b_MD_row 23 2 24 := Or.inl ⟨2, by decide +kernel, rfl, rfl⟩
theorem d_MD_row_24 : PLi b_MD_row 24 2 25 := Or.inl ⟨2, by decide +kernel, rfl, rfl⟩
theorem d_MD_row_25 : DJ b_MD_row 25 (.ifCond .eq) 28 34 := ⟨9, by decide +kernel, rfl, by decide⟩
theorem d_MD_row_28 : PLa b_MD_row 28 0 29 := Or.inl ⟨0, by decide +kernel, rfl, rfl⟩
theorem d_MD_row_29 : PLi b_MD_row 29 2 30 := Or.inl ⟨2, by decide +kernel, rfl, rfl⟩
theorem d_MD_row_30 : DR b_MD_row 30 (.invokevirtual 104) 3 33 := ⟨by decide +kernel, rfl⟩
theorem d_MD_row_33 : DR b_MD_row 33 (.ireturn) 1 34 := ⟨by decide +kernel, rfl⟩
theorem d_MD_row_34 : PLa b_MD_row 34 0 35 := Or.inl ⟨0, by decide +kernel, rfl, rfl⟩
theorem d_MD_row_35 : DR b_MD_row 35 (.getfield 81) 3 38 := ⟨by decide +kernel, rfl⟩
theorem d_MD_row_38 : PLa b_MD_row 38 0 39 := Or.inl ⟨0, by decide +kernel, rfl, rfl⟩
theorem d_MD_row_39 : DR b_MD_row 39 (.getfield 330) 3 42 := ⟨by decide +kernel, rfl⟩
theorem d_MD_row_42 : PLi b_MD_row 42 1 43 := Or.inl ⟨1, by decide +kernel, rfl, rfl⟩
theorem d_MD_row_43 : DR b_MD_row 43 (.iastore) 1 44 := ⟨by decide +kernel, rfl⟩
theorem d_MD_row_44 : PLa b_MD_row 44 0 45 := Or.inl ⟨0, by decide +kernel, rfl, rfl⟩
theorem d_MD_row_45 : DR b_MD_row 45 (.dup) 1 46 := ⟨by decide +kernel, rfl⟩
theorem d_MD_row_46 : DR b_MD_row 46 (.getfield 330) 3 49 := ⟨by decide +kernel, rfl⟩
theorem d_MD_row_49 : PCi b_MD_row 49 1 50 := Or.inl ⟨1, by decide +kernel, by decide, rfl⟩
theorem d_MD_row_50 : DR b_MD_row 50 (.iadd) 1 51 := ⟨by decide +kernel, rfl⟩
theorem d_MD_row_51 : DR b_MD_row 51 (.putfield 330) 3 54 := ⟨by decide +kernel, rfl⟩
theorem d_MD_row_54 : PLa b_MD_row 54 0 55 := Or.inl ⟨0, by decide +kernel, rfl, rfl⟩
theorem d_MD_row_55 : DR b_MD_row 55 (.getfield 330) 3 58 := ⟨by decide +kernel, rfl⟩
theorem d_MD_row_58 : DR b_MD_row 58 (.ireturn) 1 59 := ⟨by decide +kernel, rfl⟩
set_option maxRecDepth 20000 in
theorem B_MD_row_24 {G : MCx} (hC : C0 G "AccusedChooseModel" b_MD_row 3 2) (v1 : Int32) (v2 : Int32) (s : St) : VO G (RI G b_MD_row) (F_MD_row_24 v1 v2 s) 24 [(0, .ref (gad G 58)), (1, .int v1), (2, .int v2)] [] s := by
  unfold F_MD_row_24
  refine VO_iload hC d_MD_row_24 2 rfl ?_
  refine VO_if_eq hC d_MD_row_25 (fun _ => ?_) (fun _ => ?_)
  · refine VO_aload hC d_MD_row_34 0 rfl ?_
    refine VO_getr (r := 81) hC fl_MD_81 sh_MD rfl d_MD_row_35 ?_
    refine VO_aload hC d_MD_row_38 0 rfl ?_
    refine VO_geti hC fl_MD_330 sh_MD rfl d_MD_row_39 ?_
    refine VO_iload hC d_MD_row_42 1 rfl ?_
    refine VO_iastore hC ia_81 d_MD_row_43 (fun s2 => ?_)
    refine VO_aload hC d_MD_row_44 0 rfl ?_
    refine VO_dup hC d_MD_row_45 rfl ?_
    refine VO_geti hC fl_MD_330 sh_MD rfl d_MD_row_46 ?_
    refine VO_const hC d_MD_row_49 ?_
    refine VO_iadd hC d_MD_row_50 ?_
    refine VO_puti hC fw_MD_330 sh_MD rfl d_MD_row_51 (fun s3 => ?_)
    refine VO_aload hC d_MD_row_54 0 rfl ?_
    refine VO_geti hC fl_MD_330 sh_MD rfl d_MD_row_55 ?_
    exact VO_ireturn d_MD_row_58
  · refine VO_aload hC d_MD_row_28 0 rfl ?_
    refine VO_iload hC d_MD_row_29 2 rfl ?_
    refine VO_callVI hC [.int v2] [] ml_MD_104 d_MD_row_30 yv_MD_no sh_MD rfl rfl (fun o h => M_MD_no hC.inj h) (by decide) rfl rfl (Nat.le_of_ble_eq_true rfl) (fun o4 => ?_)
    exact VO_ireturn d_MD_row_33
set_option maxRecDepth 20000 in
theorem B_MD_row {G : MCx} (hC : C0 G "AccusedChooseModel" b_MD_row 3 2) (a1 : Int32) (s : St) : VO G (RI G b_MD_row) (F_MD_row a1 s) 0 [(0, .ref (gad G 58)), (1, .int a1)] [] s := by
  unfold F_MD_row
  refine VO_iload hC d_MD_row_0 1 rfl ?_
  refine VO_const hC d_MD_row_1 ?_
  refine VO_const hC d_MD_row_2 ?_
  refine VO_callSI hC [.int a1, .int (0 : Int32), .int (9 : Int32)] [] ml_MD_97 d_MD_row_4 ys_MD_bound (fun o h => M_MD_bound hC.inj h) (by decide) rfl rfl (Nat.le_of_ble_eq_true rfl) (fun o1 => ?_)
  refine VO_istore hC d_MD_row_7 [(0, .ref (gad G 58)), (1, .int a1)] rfl (by decide) ?_
  refine VO_iload hC d_MD_row_8 0 rfl ?_
  refine VO_if_ne hC d_MD_row_9 (fun _ => ?_) (fun _ => ?_)
  · refine VO_aload hC d_MD_row_12 1 rfl ?_
    refine VO_geti hC fl_MD_330 sh_MD rfl d_MD_row_13 ?_
    refine VO_const hC d_MD_row_16 ?_
    refine VO_icmp_ne hC d_MD_row_18 (fun _ => ?_) (fun _ => ?_)
    · refine VO_const hC d_MD_row_21 ?_
      refine VO_istore hC d_MD_row_23 [(0, .ref (gad G 58)), (1, .int a1)] rfl (by decide) ?_
      exact VO_sub [1, 2, 0] rfl (B_MD_row_24 hC a1 (-6 : Int32) o1.2)
    · exact VO_sub [1, 2, 0] rfl (B_MD_row_24 hC a1 o1.1 o1.2)
  · exact VO_sub [1, 2, 0] rfl (B_MD_row_24 hC a1 o1.1 o1.2)
set_option maxRecDepth 20000 in
theorem M_MD_row {l : Launch} {D : va_G} {ad : Nat → Nat} {cI cL : ClassId} (hj : Inj ad) {a1 : Int32} {s : St} {o : Int32 × St} (h : F_MD_row a1 s = some o) : Cn l D ad cI cL y_MD_row b_MD_row 3 (some .int) 2 [.ref (ad 58), .int a1] s (some (.int o.1)) o.2 := by
  refine Cn_ofI hj (plainFor_of_name (by decide)) (Nat.le_of_ble_eq_true rfl) [(0, .ref (ad 58)), (1, .int a1)] rfl (fun G hC e1 e2 e3 e4 e5 hR => ?_)
  subst e1; subst e2; subst e3; subst e4; subst e5
  exact B_MD_row hC a1 s o h hR
theorem d_MD_firstOther_0 : PCi b_MD_firstOther 0 0 1 := Or.inl ⟨0, by decide +kernel, by decide, rfl⟩
theorem d_MD_firstOther_1 : PSi b_MD_firstOther 1 1 2 := Or.inl ⟨1, by decide +kernel, rfl, rfl⟩
theorem d_MD_firstOther_2 : PLi b_MD_firstOther 2 1 3 := Or.inl ⟨1, by decide +kernel, rfl, rfl⟩
theorem d_MD_firstOther_3 : PLa b_MD_firstOther 3 0 4 := Or.inl ⟨0, by decide +kernel, rfl, rfl⟩
theorem d_MD_firstOther_4 : DR b_MD_firstOther 4 (.getfield 330) 3 7 := ⟨by decide +kernel, rfl⟩
theorem d_MD_firstOther_7 : DJ b_MD_firstOther 7 (.if_icmp .ge) 10 55 := ⟨48, by decide +kernel, rfl, by decide⟩
theorem d_MD_firstOther_10 : PLi b_MD_firstOther 10 1 11 := Or.inl ⟨1, by decide +kernel, rfl, rfl⟩
theorem d_MD_firstOther_11 : PLa b_MD_firstOther 11 0 12 := Or.inl ⟨0, by decide +kernel, rfl, rfl⟩
theorem d_MD_firstOther_12 : DR b_MD_firstOther 12 (.getfield 90) 3 15 := ⟨by decide +kernel, rfl⟩
theorem d_MD_firstOther_15 : DJ b_MD_firstOther 15 (.if_icmp .ge) 18 47 := ⟨32, by decide +kernel, rfl, by decide⟩
theorem d_MD_firstOther_18 : PLa b_MD_firstOther 18 0 19 := Or.inl ⟨0, by decide +kernel, rfl, rfl⟩
theorem d_MD_firstOther_19 : DR b_MD_firstOther 19 (.getfield 56) 3 22 := ⟨by decide +kernel, rfl⟩
theorem d_MD_firstOther_22 : PLi b_MD_firstOther 22 1 23 := Or.inl ⟨1, by decide +kernel, rfl, rfl⟩
theorem d_MD_firstOther_23 : DR b_MD_firstOther 23 (.iaload) 1 24 := ⟨by decide +kernel, rfl⟩
theorem d_MD_firstOther_24 : DJ b_MD_firstOther 24 (.ifCond .ge) 27 32 := ⟨8, by decide +kernel, rfl, by decide⟩
theorem d_MD_firstOther_27 : PCi b_MD_firstOther 27 9 29 := Or.inr (Or.inl ⟨9, by decide +kernel, by decide, rfl⟩)
theorem d_MD_firstOther_29 : DJ b_MD_firstOther 29 .goto 32 38 := ⟨9, by decide +kernel, rfl, by decide⟩
theorem d_MD_firstOther_32 : PLa b_MD_firstOther 32 0 33 := Or.inl ⟨0, by decide +kernel, rfl, rfl⟩
theorem d_MD_firstOther_33 : DR b_MD_firstOther 33 (.getfield 56) 3 36 := ⟨by decide +kernel, rfl⟩
theorem d_MD_firstOther_36 : PLi b_MD_firstOther 36 1 37 := Or.inl ⟨1, by decide +kernel, rfl, rfl⟩
theorem d_MD_firstOther_37 : DR b_MD_firstOther 37 (.iaload) 1 38 := ⟨by decide +kernel, rfl⟩
theorem d_MD_firstOther_38 : PLa b_MD_firstOther 38 0 39 := Or.inl ⟨0, by decide +kernel, rfl, rfl⟩
theorem d_MD_firstOther_39 : DR b_MD_firstOther 39 (.getfield 81) 3 42 := ⟨by decide +kernel, rfl⟩
theorem d_MD_firstOther_42 : PLi b_MD_firstOther 42 1 43 := Or.inl ⟨1, by decide +kernel, rfl, rfl⟩
theorem d_MD_firstOther_43 : DR b_MD_firstOther 43 (.iaload) 1 44 := ⟨by decide +kernel, rfl⟩
theorem d_MD_firstOther_44 : DJ b_MD_firstOther 44 (.if_icmp .eq) 47 49 := ⟨5, by decide +kernel, rfl, by decide⟩
theorem d_MD_firstOther_47 : PLi b_MD_firstOther 47 1 48 := Or.inl ⟨1, by decide +kernel, rfl, rfl⟩
theorem d_MD_firstOther_48 : DR b_MD_firstOther 48 (.ireturn) 1 49 := ⟨by decide +kernel, rfl⟩
theorem d_MD_firstOther_49 : DR b_MD_firstOther 49 (.iinc 1 1) 3 52 := ⟨by decide +kernel, rfl⟩
theorem d_MD_firstOther_52 : DJ b_MD_firstOther 52 .goto 55 2 := ⟨-50, by decide +kernel, rfl, by decide⟩
theorem d_MD_firstOther_55 : PCi b_MD_firstOther 55 (-9) 57 := Or.inr (Or.inl ⟨(-9), by decide +kernel, by decide, rfl⟩)
theorem d_MD_firstOther_57 : DR b_MD_firstOther 57 (.ireturn) 1 58 := ⟨by decide +kernel, rfl⟩
set_option maxRecDepth 20000 in
theorem B_MD_firstOther_38 {G : MCx} (hC : C0 G "AccusedChooseModel" b_MD_firstOther 2 1) (K2 : Int32 × St → Option (Int32 × St)) (hK2 : ∀ (w1 : Int32) (s : St), VO G (RI G b_MD_firstOther) (K2 (w1, s)) 2 [(0, .ref (gad G 58)), (1, .int w1)] [] s) (v1 : Int32) (z0 : Int32) (s : St) : VO G (RI G b_MD_firstOther) (F_MD_firstOther_38 K2 v1 z0 s) 38 [(0, .ref (gad G 58)), (1, .int v1)] [.int z0] s := by
  unfold F_MD_firstOther_38
  refine VO_aload hC d_MD_firstOther_38 0 rfl ?_
  refine VO_getr (r := 81) hC fl_MD_81 sh_MD rfl d_MD_firstOther_39 ?_
  refine VO_iload hC d_MD_firstOther_42 1 rfl ?_
  refine VO_iaload hC ia_81 d_MD_firstOther_43 (fun x3 => ?_)
  refine VO_icmp_eq hC d_MD_firstOther_44 (fun _ => ?_) (fun _ => ?_)
  · refine VO_iinc hC d_MD_firstOther_49 1 rfl (by decide : Int32.ofInt 1 = 1) [(0, .ref (gad G 58))] rfl (by decide) ?_
    refine VO_goto hC d_MD_firstOther_52 ?_
    exact VO_sub [1, 0] rfl (hK2 (v1 + 1) s)
  · refine VO_iload hC d_MD_firstOther_47 1 rfl ?_
    exact VO_ireturn d_MD_firstOther_48
set_option maxRecDepth 20000 in
theorem BH_MD_firstOther_2 {G : MCx} (hC : C0 G "AccusedChooseModel" b_MD_firstOther 2 1) (K2 : Int32 × St → Option (Int32 × St)) (hK2 : ∀ (w1 : Int32) (s : St), VO G (RI G b_MD_firstOther) (K2 (w1, s)) 2 [(0, .ref (gad G 58)), (1, .int w1)] [] s) (v1 : Int32) (s : St) : VO G (RI G b_MD_firstOther) (H_MD_firstOther_2 K2 v1 s) 2 [(0, .ref (gad G 58)), (1, .int v1)] [] s := by
  unfold H_MD_firstOther_2
  refine VO_iload hC d_MD_firstOther_2 1 rfl ?_
  refine VO_aload hC d_MD_firstOther_3 0 rfl ?_
  refine VO_geti hC fl_MD_330 sh_MD rfl d_MD_firstOther_4 ?_
  refine VO_icmp_ge hC d_MD_firstOther_7 (fun _ => ?_) (fun _ => ?_)
  · refine VO_const hC d_MD_firstOther_55 ?_
    exact VO_ireturn d_MD_firstOther_57
  · refine VO_iload hC d_MD_firstOther_10 1 rfl ?_
    refine VO_aload hC d_MD_firstOther_11 0 rfl ?_
    refine VO_geti hC fl_MD_90 sh_MD rfl d_MD_firstOther_12 ?_
    refine VO_icmp_ge hC d_MD_firstOther_15 (fun _ => ?_) (fun _ => ?_)
    · refine VO_iload hC d_MD_firstOther_47 1 rfl ?_
      exact VO_ireturn d_MD_firstOther_48
    · refine VO_aload hC d_MD_firstOther_18 0 rfl ?_
      refine VO_getr (r := 73) hC fl_MD_56 sh_MD rfl d_MD_firstOther_19 ?_
      refine VO_iload hC d_MD_firstOther_22 1 rfl ?_
      refine VO_iaload hC ia_73 d_MD_firstOther_23 (fun x1 => ?_)
      refine VO_if_ge hC d_MD_firstOther_24 (fun _ => ?_) (fun _ => ?_)
      · refine VO_aload hC d_MD_firstOther_32 0 rfl ?_
        refine VO_getr (r := 73) hC fl_MD_56 sh_MD rfl d_MD_firstOther_33 ?_
        refine VO_iload hC d_MD_firstOther_36 1 rfl ?_
        refine VO_iaload hC ia_73 d_MD_firstOther_37 (fun x2 => ?_)
        exact (B_MD_firstOther_38 hC K2 hK2 v1 x2 s)
      · refine VO_const hC d_MD_firstOther_27 ?_
        refine VO_goto hC d_MD_firstOther_29 ?_
        exact (B_MD_firstOther_38 hC K2 hK2 v1 (9 : Int32) s)
set_option maxRecDepth 20000 in
theorem B_MD_firstOther_2 {G : MCx} (hC : C0 G "AccusedChooseModel" b_MD_firstOther 2 1) (v1 : Int32) (s : St) : VO G (RI G b_MD_firstOther) (F_MD_firstOther_2 v1 s) 2 [(0, .ref (gad G 58)), (1, .int v1)] [] s := by
  exact VO_fix (G_MD_firstOther_2) 2 (fun q => [(0, .ref (gad G 58)), (1, .int q.1)]) (fun q => q.2) (fun K hK q => BH_MD_firstOther_2 hC K (fun w1 s => hK (w1, s)) q.1 q.2) FUEL (v1, s)
set_option maxRecDepth 20000 in
theorem B_MD_firstOther {G : MCx} (hC : C0 G "AccusedChooseModel" b_MD_firstOther 2 1) (s : St) : VO G (RI G b_MD_firstOther) (F_MD_firstOther s) 0 [(0, .ref (gad G 58))] [] s := by
  unfold F_MD_firstOther
  refine VO_const hC d_MD_firstOther_0 ?_
  refine VO_istore hC d_MD_firstOther_1 [(0, .ref (gad G 58))] rfl (by decide) ?_
  exact VO_sub [1, 0] rfl (B_MD_firstOther_2 hC (0 : Int32) s)
set_option maxRecDepth 20000 in
theorem M_MD_firstOther {l : Launch} {D : va_G} {ad : Nat → Nat} {cI cL : ClassId} (hj : Inj ad) {s : St} {o : Int32 × St} (h : F_MD_firstOther s = some o) : Cn l D ad cI cL y_MD_firstOther b_MD_firstOther 2 (some .int) 1 [.ref (ad 58)] s (some (.int o.1)) o.2 := by
  refine Cn_ofI hj (plainFor_of_name (by decide)) (Nat.le_of_ble_eq_true rfl) [(0, .ref (ad 58))] rfl (fun G hC e1 e2 e3 e4 e5 hR => ?_)
  subst e1; subst e2; subst e3; subst e4; subst e5
  exact B_MD_firstOther hC s o h hR
theorem d_MD_judge_0 : PLa b_MD_judge 0 0 1 := Or.inl ⟨0, by decide +kernel, rfl, rfl⟩
theorem d_MD_judge_1 : DR b_MD_judge 1 (.invokevirtual 215) 3 4 := ⟨by decide +kernel, rfl⟩
theorem d_MD_judge_4 : PLa b_MD_judge 4 0 5 := Or.inl ⟨0, by decide +kernel, rfl, rfl⟩
theorem d_MD_judge_5 : DR b_MD_judge 5 (.invokevirtual 333) 3 8 := ⟨by decide +kernel, rfl⟩
theorem d_MD_judge_8 : PSi b_MD_judge 8 1 9 := Or.inl ⟨1, by decide +kernel, rfl, rfl⟩
theorem d_MD_judge_9 : PLa b_MD_judge 9 0 10 := Or.inl ⟨0, by decide +kernel, rfl, rfl⟩
theorem d_MD_judge_10 : PCi b_MD_judge 10 0 11 := Or.inl ⟨0, by decide +kernel, by decide, rfl⟩
theorem d_MD_judge_11 : DR b_MD_judge 11 (.putfield 330) 3 14 := ⟨by decide +kernel, rfl⟩
theorem d_MD_judge_14 : PLi b_MD_judge 14 1 15 := Or.inl ⟨1, by decide +kernel, rfl, rfl⟩
theorem d_MD_judge_15 : DR b_MD_judge 15 (.ireturn) 1 16 := ⟨by decide +kernel, rfl⟩
set_option maxRecDepth 20000 in
theorem B_MD_judge {G : MCx} (hC : C0 G "AccusedChooseModel" b_MD_judge 2 6) (s : St) : VO G (RI G b_MD_judge) (F_MD_judge s) 0 [(0, .ref (gad G 58))] [] s := by
  unfold F_MD_judge
  refine VO_aload hC d_MD_judge_0 0 rfl ?_
  refine VO_callVV hC [] [] ml_MD_215 d_MD_judge_1 yv_MD_goes sh_MD rfl rfl (fun o h => M_MD_goes hC.inj h) (by decide) rfl rfl (Nat.le_of_ble_eq_true rfl) (fun s1 => ?_)
  refine VO_aload hC d_MD_judge_4 0 rfl ?_
  refine VO_callVI hC [] [] ml_MD_333 d_MD_judge_5 yv_MD_firstOther sh_MD rfl rfl (fun o h => M_MD_firstOther hC.inj h) (by decide) rfl rfl (Nat.le_of_ble_eq_true rfl) (fun o2 => ?_)
  refine VO_istore hC d_MD_judge_8 [(0, .ref (gad G 58))] rfl (by decide) ?_
  refine VO_aload hC d_MD_judge_9 1 rfl ?_
  refine VO_const hC d_MD_judge_10 ?_
  refine VO_puti hC fw_MD_330 sh_MD rfl d_MD_judge_11 (fun s3 => ?_)
  refine VO_iload hC d_MD_judge_14 0 rfl ?_
  exact VO_ireturn d_MD_judge_15
set_option maxRecDepth 20000 in
theorem M_MD_judge {l : Launch} {D : va_G} {ad : Nat → Nat} {cI cL : ClassId} (hj : Inj ad) {s : St} {o : Int32 × St} (h : F_MD_judge s = some o) : Cn l D ad cI cL y_MD_judge b_MD_judge 2 (some .int) 6 [.ref (ad 58)] s (some (.int o.1)) o.2 := by
  refine Cn_ofI hj (plainFor_of_name (by decide)) (Nat.le_of_ble_eq_true rfl) [(0, .ref (ad 58))] rfl (fun G hC e1 e2 e3 e4 e5 hR => ?_)
  subst e1; subst e2; subst e3; subst e4; subst e5
  exact B_MD_judge hC s o h hR
theorem d_MD_fits_0 : PLa b_MD_fits 0 0 1 := Or.inl ⟨0, by decide +kernel, rfl, rfl⟩
theorem d_MD_fits_1 : PLi b_MD_fits 1 1 2 := Or.inl ⟨1, by decide +kernel, rfl, rfl⟩
theorem d_MD_fits_2 : DR b_MD_fits 2 (.invokevirtual 289) 3 5 := ⟨by decide +kernel, rfl⟩
theorem d_MD_fits_5 : PSi b_MD_fits 5 2 6 := Or.inl ⟨2, by decide +kernel, rfl, rfl⟩
theorem d_MD_fits_6 : PLi b_MD_fits 6 2 7 := Or.inl ⟨2, by decide +kernel, rfl, rfl⟩
theorem d_MD_fits_7 : DJ b_MD_fits 7 (.ifCond .eq) 10 16 := ⟨9, by decide +kernel, rfl, by decide⟩
theorem d_MD_fits_10 : PLa b_MD_fits 10 0 11 := Or.inl ⟨0, by decide +kernel, rfl, rfl⟩
theorem d_MD_fits_11 : PLi b_MD_fits 11 2 12 := Or.inl ⟨2, by decide +kernel, rfl, rfl⟩
theorem d_MD_fits_12 : DR b_MD_fits 12 (.invokevirtual 104) 3 15 := ⟨by decide +kernel, rfl⟩
theorem d_MD_fits_15 : DR b_MD_fits 15 (.ireturn) 1 16 := ⟨by decide +kernel, rfl⟩
theorem d_MD_fits_16 : PCi b_MD_fits 16 0 17 := Or.inl ⟨0, by decide +kernel, by decide, rfl⟩
theorem d_MD_fits_17 : PSi b_MD_fits 17 3 18 := Or.inl ⟨3, by decide +kernel, rfl, rfl⟩
theorem d_MD_fits_18 : PCi b_MD_fits 18 0 19 := Or.inl ⟨0, by decide +kernel, by decide, rfl⟩
theorem d_MD_fits_19 : PSi b_MD_fits 19 4 21 := Or.inr ⟨by decide +kernel, rfl⟩
theorem d_MD_fits_21 : PLi b_MD_fits 21 4 23 := Or.inr ⟨by decide +kernel, rfl⟩
theorem d_MD_fits_23 : PLa b_MD_fits 23 0 24 := Or.inl ⟨0, by decide +kernel, rfl, rfl⟩
theorem d_MD_fits_24 : DR b_MD_fits 24 (.invokevirtual 277) 3 27 := ⟨by decide +kernel, rfl⟩
theorem d_MD_fits_27 : DJ b_MD_fits 27 (.if_icmp .ge) 30 74 := ⟨47, by decide +kernel, rfl, by decide⟩
theorem d_MD_fits_30 : PLa b_MD_fits 30 0 31 := Or.inl ⟨0, by decide +kernel, rfl, rfl⟩
theorem d_MD_fits_31 : PLi b_MD_fits 31 4 33 := Or.inr ⟨by decide +kernel, rfl⟩
theorem d_MD_fits_33 : DR b_MD_fits 33 (.invokevirtual 280) 3 36 := ⟨by decide +kernel, rfl⟩
theorem d_MD_fits_36 : DJ b_MD_fits 36 (.ifCond .ne) 39 42 := ⟨6, by decide +kernel, rfl, by decide⟩
theorem d_MD_fits_39 : DJ b_MD_fits 39 .goto 42 68 := ⟨29, by decide +kernel, rfl, by decide⟩
theorem d_MD_fits_42 : PLa b_MD_fits 42 0 43 := Or.inl ⟨0, by decide +kernel, rfl, rfl⟩
theorem d_MD_fits_43 : DR b_MD_fits 43 (.invokevirtual 209) 3 46 := ⟨by decide +kernel, rfl⟩
theorem d_MD_fits_46 : PLa b_MD_fits 46 0 47 := Or.inl ⟨0, by decide +kernel, rfl, rfl⟩
theorem d_MD_fits_47 : DR b_MD_fits 47 (.invokevirtual 333) 3 50 := ⟨by decide +kernel, rfl⟩
theorem d_MD_fits_50 : DJ b_MD_fits 50 (.ifCond .lt) 53 56 := ⟨6, by decide +kernel, rfl, by decide⟩
theorem d_MD_fits_53 : DJ b_MD_fits 53 .goto 56 68 := ⟨15, by decide +kernel, rfl, by decide⟩
theorem d_MD_fits_56 : PLi b_MD_fits 56 3 57 := Or.inl ⟨3, by decide +kernel, rfl, rfl⟩
theorem d_MD_fits_57 : DJ b_MD_fits 57 (.ifCond .ne) 60 65 := ⟨8, by decide +kernel, rfl, by decide⟩
theorem d_MD_fits_60 : PLa b_MD_fits 60 0 61 := Or.inl ⟨0, by decide +kernel, rfl, rfl⟩
theorem d_MD_fits_61 : PCi b_MD_fits 61 0 62 := Or.inl ⟨0, by decide +kernel, by decide, rfl⟩
theorem d_MD_fits_62 : DR b_MD_fits 62 (.invokevirtual 286) 3 65 := ⟨by decide +kernel, rfl⟩
theorem d_MD_fits_65 : DR b_MD_fits 65 (.iinc 3 1) 3 68 := ⟨by decide +kernel, rfl⟩
theorem d_MD_fits_68 : DR b_MD_fits 68 (.iinc 4 1) 3 71 := ⟨by decide +kernel, rfl⟩
theorem d_MD_fits_71 : DJ b_MD_fits 71 .goto 74 21 := ⟨-50, by decide +kernel, rfl, by decide⟩
theorem d_MD_fits_74 : PLi b_MD_fits 74 1 75 := Or.inl ⟨1, by decide +kernel, rfl, rfl⟩
theorem d_MD_fits_75 : DJ b_MD_fits 75 (.ifCond .ge) 78 82 := ⟨7, by decide +kernel, rfl, by decide⟩
theorem d_MD_fits_78 : PLi b_MD_fits 78 3 79 := Or.inl ⟨3, by decide +kernel, rfl, rfl⟩
theorem d_MD_fits_79 : DJ b_MD_fits 79 .goto 82 96 := ⟨17, by decide +kernel, rfl, by decide⟩
theorem d_MD_fits_82 : PLi b_MD_fits 82 3 83 := Or.inl ⟨3, by decide +kernel, rfl, rfl⟩
theorem d_MD_fits_83 : DJ b_MD_fits 83 (.ifCond .ne) 86 91 := ⟨8, by decide +kernel, rfl, by decide⟩
theorem d_MD_fits_86 : PCi b_MD_fits 86 (-9) 88 := Or.inr (Or.inl ⟨(-9), by decide +kernel, by decide, rfl⟩)
theorem d_MD_fits_88 : DJ b_MD_fits 88 .goto 91 96 := ⟨8, by decide +kernel, rfl, by decide⟩
theorem d_MD_fits_91 : PLa b_MD_fits 91 0 92 := Or.inl ⟨0, by decide +kernel, rfl, rfl⟩
theorem d_MD_fits_92 : PLi b_MD_fits 92 1 93 := Or.inl ⟨1, by decide +kernel, rfl, rfl⟩
theorem d_MD_fits_93 : DR b_MD_fits 93 (.invokevirtual 296) 3 96 := ⟨by decide +kernel, rfl⟩
theorem d_MD_fits_96 : DR b_MD_fits 96 (.ireturn) 1 97 := ⟨by decide +kernel, rfl⟩
set_option maxRecDepth 20000 in
theorem B_MD_fits_68 {G : MCx} (hC : C0 G "AccusedChooseModel" b_MD_fits 5 5) {v1 : Int32} (K21 : Int32 × Int32 × St → Option (Int32 × St)) (hK21 : ∀ (w3 : Int32) (w4 : Int32) (s : St), VO G (RI G b_MD_fits) (K21 (w3, w4, s)) 21 [(0, .ref (gad G 58)), (1, .int v1), (3, .int w3), (4, .int w4)] [] s) (v3 : Int32) (v4 : Int32) (s : St) : VO G (RI G b_MD_fits) (F_MD_fits_68 K21 v1 v3 v4 s) 68 [(0, .ref (gad G 58)), (1, .int v1), (3, .int v3), (4, .int v4)] [] s := by
  unfold F_MD_fits_68
  refine VO_iinc hC d_MD_fits_68 3 rfl (by decide : Int32.ofInt 1 = 1) [(0, .ref (gad G 58)), (1, .int v1), (3, .int v3)] rfl (by decide) ?_
  refine VO_goto hC d_MD_fits_71 ?_
  exact VO_sub [1, 2, 3, 0] rfl (hK21 v3 (v4 + 1) s)
set_option maxRecDepth 20000 in
theorem B_MD_fits_65 {G : MCx} (hC : C0 G "AccusedChooseModel" b_MD_fits 5 5) {v1 : Int32} (K21 : Int32 × Int32 × St → Option (Int32 × St)) (hK21 : ∀ (w3 : Int32) (w4 : Int32) (s : St), VO G (RI G b_MD_fits) (K21 (w3, w4, s)) 21 [(0, .ref (gad G 58)), (1, .int v1), (3, .int w3), (4, .int w4)] [] s) (v3 : Int32) (v4 : Int32) (s : St) : VO G (RI G b_MD_fits) (F_MD_fits_65 K21 v1 v3 v4 s) 65 [(0, .ref (gad G 58)), (1, .int v1), (3, .int v3), (4, .int v4)] [] s := by
  unfold F_MD_fits_65
  refine VO_iinc hC d_MD_fits_65 2 rfl (by decide : Int32.ofInt 1 = 1) [(0, .ref (gad G 58)), (1, .int v1), (4, .int v4)] rfl (by decide) ?_
  exact VO_sub [1, 2, 0, 3] rfl (B_MD_fits_68 hC K21 hK21 (v3 + 1) v4 s)
set_option maxRecDepth 20000 in
theorem BH_MD_fits_21 {G : MCx} (hC : C0 G "AccusedChooseModel" b_MD_fits 5 5) {v1 : Int32} (K21 : Int32 × Int32 × St → Option (Int32 × St)) (hK21 : ∀ (w3 : Int32) (w4 : Int32) (s : St), VO G (RI G b_MD_fits) (K21 (w3, w4, s)) 21 [(0, .ref (gad G 58)), (1, .int v1), (3, .int w3), (4, .int w4)] [] s) (v3 : Int32) (v4 : Int32) (s : St) : VO G (RI G b_MD_fits) (H_MD_fits_21 v1 K21 v3 v4 s) 21 [(0, .ref (gad G 58)), (1, .int v1), (3, .int v3), (4, .int v4)] [] s := by
  unfold H_MD_fits_21
  refine VO_iload hC d_MD_fits_21 3 rfl ?_
  refine VO_aload hC d_MD_fits_23 0 rfl ?_
  refine VO_callVI hC [] [.int v4] ml_MD_277 d_MD_fits_24 yv_MD_numbers sh_MD rfl rfl (fun o h => M_MD_numbers hC.inj h) (by decide) rfl rfl (Nat.le_of_ble_eq_true rfl) (fun o2 => ?_)
  refine VO_icmp_ge hC d_MD_fits_27 (fun _ => ?_) (fun _ => ?_)
  · refine VO_iload hC d_MD_fits_74 1 rfl ?_
    refine VO_if_ge hC d_MD_fits_75 (fun _ => ?_) (fun _ => ?_)
    · refine VO_iload hC d_MD_fits_82 2 rfl ?_
      refine VO_if_ne hC d_MD_fits_83 (fun _ => ?_) (fun _ => ?_)
      · refine VO_const hC d_MD_fits_86 ?_
        refine VO_goto hC d_MD_fits_88 ?_
        exact VO_ireturn d_MD_fits_96
      · refine VO_aload hC d_MD_fits_91 0 rfl ?_
        refine VO_iload hC d_MD_fits_92 1 rfl ?_
        refine VO_callVI hC [.int v1] [] ml_MD_296 d_MD_fits_93 yv_MD_foundOr sh_MD rfl rfl (fun o h => M_MD_foundOr hC.inj h) (by decide) rfl rfl (Nat.le_of_ble_eq_true rfl) (fun o3 => ?_)
        exact VO_ireturn d_MD_fits_96
    · refine VO_iload hC d_MD_fits_78 2 rfl ?_
      refine VO_goto hC d_MD_fits_79 ?_
      exact VO_ireturn d_MD_fits_96
  · refine VO_aload hC d_MD_fits_30 0 rfl ?_
    refine VO_iload hC d_MD_fits_31 3 rfl ?_
    refine VO_callVI hC [.int v4] [] ml_MD_280 d_MD_fits_33 yv_MD_laysOrder sh_MD rfl rfl (fun o h => M_MD_laysOrder hC.inj h) (by decide) rfl rfl (Nat.le_of_ble_eq_true rfl) (fun o4 => ?_)
    refine VO_if_ne hC d_MD_fits_36 (fun _ => ?_) (fun _ => ?_)
    · refine VO_goto hC d_MD_fits_39 ?_
      exact (B_MD_fits_68 hC K21 hK21 v3 v4 o4.2)
    · refine VO_aload hC d_MD_fits_42 0 rfl ?_
      refine VO_callVV hC [] [] ml_MD_209 d_MD_fits_43 yv_MD_goesBy sh_MD rfl rfl (fun o h => M_MD_goesBy hC.inj h) (by decide) rfl rfl (Nat.le_of_ble_eq_true rfl) (fun s5 => ?_)
      refine VO_aload hC d_MD_fits_46 0 rfl ?_
      refine VO_callVI hC [] [] ml_MD_333 d_MD_fits_47 yv_MD_firstOther sh_MD rfl rfl (fun o h => M_MD_firstOther hC.inj h) (by decide) rfl rfl (Nat.le_of_ble_eq_true rfl) (fun o6 => ?_)
      refine VO_if_lt hC d_MD_fits_50 (fun _ => ?_) (fun _ => ?_)
      · refine VO_iload hC d_MD_fits_56 2 rfl ?_
        refine VO_if_ne hC d_MD_fits_57 (fun _ => ?_) (fun _ => ?_)
        · refine VO_aload hC d_MD_fits_60 0 rfl ?_
          refine VO_const hC d_MD_fits_61 ?_
          refine VO_callVV hC [.int (0 : Int32)] [] ml_MD_286 d_MD_fits_62 yv_MD_keepsFound sh_MD rfl rfl (fun o h => M_MD_keepsFound hC.inj h) (by decide) rfl rfl (Nat.le_of_ble_eq_true rfl) (fun s7 => ?_)
          exact (B_MD_fits_65 hC K21 hK21 v3 v4 s7)
        · exact (B_MD_fits_65 hC K21 hK21 v3 v4 o6.2)
      · refine VO_goto hC d_MD_fits_53 ?_
        exact (B_MD_fits_68 hC K21 hK21 v3 v4 o6.2)
set_option maxRecDepth 20000 in
theorem B_MD_fits_21 {G : MCx} (hC : C0 G "AccusedChooseModel" b_MD_fits 5 5) (v1 : Int32) (v3 : Int32) (v4 : Int32) (s : St) : VO G (RI G b_MD_fits) (F_MD_fits_21 v1 v3 v4 s) 21 [(0, .ref (gad G 58)), (1, .int v1), (3, .int v3), (4, .int v4)] [] s := by
  exact VO_fix (G_MD_fits_21 v1) 21 (fun q => [(0, .ref (gad G 58)), (1, .int v1), (3, .int q.1), (4, .int q.2.1)]) (fun q => q.2.2) (fun K hK q => BH_MD_fits_21 hC K (fun w3 w4 s => hK (w3, w4, s)) q.1 q.2.1 q.2.2) FUEL (v3, v4, s)
set_option maxRecDepth 20000 in
theorem B_MD_fits {G : MCx} (hC : C0 G "AccusedChooseModel" b_MD_fits 5 5) (a1 : Int32) (s : St) : VO G (RI G b_MD_fits) (F_MD_fits a1 s) 0 [(0, .ref (gad G 58)), (1, .int a1)] [] s := by
  unfold F_MD_fits
  refine VO_aload hC d_MD_fits_0 0 rfl ?_
  refine VO_iload hC d_MD_fits_1 1 rfl ?_
  refine VO_callVI hC [.int a1] [] ml_MD_289 d_MD_fits_2 yv_MD_notFew sh_MD rfl rfl (fun o h => M_MD_notFew hC.inj h) (by decide) rfl rfl (Nat.le_of_ble_eq_true rfl) (fun o1 => ?_)
  refine VO_istore hC d_MD_fits_5 [(0, .ref (gad G 58)), (1, .int a1)] rfl (by decide) ?_
  refine VO_iload hC d_MD_fits_6 0 rfl ?_
  refine VO_if_eq hC d_MD_fits_7 (fun _ => ?_) (fun _ => ?_)
  · refine VO_const hC d_MD_fits_16 ?_
    refine VO_istore hC d_MD_fits_17 [(2, .int o1.1), (0, .ref (gad G 58)), (1, .int a1)] rfl (by decide) ?_
    refine VO_const hC d_MD_fits_18 ?_
    refine VO_istore hC d_MD_fits_19 [(3, .int (0 : Int32)), (2, .int o1.1), (0, .ref (gad G 58)), (1, .int a1)] rfl (by decide) ?_
    exact VO_sub [3, 4, 1, 0] rfl (B_MD_fits_21 hC a1 (0 : Int32) (0 : Int32) o1.2)
  · refine VO_aload hC d_MD_fits_10 1 rfl ?_
    refine VO_iload hC d_MD_fits_11 0 rfl ?_
    refine VO_callVI hC [.int o1.1] [] ml_MD_104 d_MD_fits_12 yv_MD_no sh_MD rfl rfl (fun o h => M_MD_no hC.inj h) (by decide) rfl rfl (Nat.le_of_ble_eq_true rfl) (fun o8 => ?_)
    exact VO_ireturn d_MD_fits_15
set_option maxRecDepth 20000 in
theorem M_MD_fits {l : Launch} {D : va_G} {ad : Nat → Nat} {cI cL : ClassId} (hj : Inj ad) {a1 : Int32} {s : St} {o : Int32 × St} (h : F_MD_fits a1 s = some o) : Cn l D ad cI cL y_MD_fits b_MD_fits 5 (some .int) 5 [.ref (ad 58), .int a1] s (some (.int o.1)) o.2 := by
  refine Cn_ofI hj (plainFor_of_name (by decide)) (Nat.le_of_ble_eq_true rfl) [(0, .ref (ad 58)), (1, .int a1)] rfl (fun G hC e1 e2 e3 e4 e5 hR => ?_)
  subst e1; subst e2; subst e3; subst e4; subst e5
  exact B_MD_fits hC a1 s o h hR
theorem d_MD_clear_0 : PLa b_MD_clear 0 0 1 := Or.inl ⟨0, by decide +kernel, rfl, rfl⟩
theorem d_MD_clear_1 : DR b_MD_clear 1 (.getfield 330) 3 4 := ⟨by decide +kernel, rfl⟩
theorem d_MD_clear_4 : PSi b_MD_clear 4 1 5 := Or.inl ⟨1, by decide +kernel, rfl, rfl⟩
theorem d_MD_clear_5 : PLa b_MD_clear 5 0 6 := Or.inl ⟨0, by decide +kernel, rfl, rfl⟩
theorem d_MD_clear_6 : PCi b_MD_clear 6 0 7 := Or.inl ⟨0, by decide +kernel, by decide, rfl⟩
theorem d_MD_clear_7 : DR b_MD_clear 7 (.putfield 330) 3 10 := ⟨by decide +kernel, rfl⟩
theorem d_MD_clear_10 : PLi b_MD_clear 10 1 11 := Or.inl ⟨1, by decide +kernel, rfl, rfl⟩
theorem d_MD_clear_11 : DR b_MD_clear 11 (.ireturn) 1 12 := ⟨by decide +kernel, rfl⟩
set_option maxRecDepth 20000 in
theorem B_MD_clear {G : MCx} (hC : C0 G "AccusedChooseModel" b_MD_clear 2 1) (s : St) : VO G (RI G b_MD_clear) (F_MD_clear s) 0 [(0, .ref (gad G 58))] [] s := by
  unfold F_MD_clear
  refine VO_aload hC d_MD_clear_0 0 rfl ?_
  refine VO_geti hC fl_MD_330 sh_MD rfl d_MD_clear_1 ?_
  refine VO_istoreB hC d_MD_clear_4 [(0, .ref (gad G 58))] rfl (by decide) (fun x1 => ?_)
  refine VO_aload hC d_MD_clear_5 1 rfl ?_
  refine VO_const hC d_MD_clear_6 ?_
  refine VO_puti hC fw_MD_330 sh_MD rfl d_MD_clear_7 (fun s2 => ?_)
  refine VO_iload hC d_MD_clear_10 0 rfl ?_
  exact VO_ireturn d_MD_clear_11
set_option maxRecDepth 20000 in
theorem M_MD_clear {l : Launch} {D : va_G} {ad : Nat → Nat} {cI cL : ClassId} (hj : Inj ad) {s : St} {o : Int32 × St} (h : F_MD_clear s = some o) : Cn l D ad cI cL y_MD_clear b_MD_clear 2 (some .int) 1 [.ref (ad 58)] s (some (.int o.1)) o.2 := by
  refine Cn_ofI hj (plainFor_of_name (by decide)) (Nat.le_of_ble_eq_true rfl) [(0, .ref (ad 58))] rfl (fun G hC e1 e2 e3 e4 e5 hR => ?_)
  subst e1; subst e2; subst e3; subst e4; subst e5
  exact B_MD_clear hC s o h hR
theorem d_MD_lots_0 : PLi b_MD_lots 0 1 1 := Or.inl ⟨1, by decide +kernel, rfl, rfl⟩
theorem d_MD_lots_1 : PCi b_MD_lots 1 1 2 := Or.inl ⟨1, by decide +kernel, by decide, rfl⟩
theorem d_MD_lots_2 : PCi b_MD_lots 2 20 4 := Or.inr (Or.inl ⟨20, by decide +kernel, by decide, rfl⟩)
theorem d_MD_lots_4 : DR b_MD_lots 4 (.invokestatic 97) 3 7 := ⟨by decide +kernel, rfl⟩
theorem d_MD_lots_7 : PSi b_MD_lots 7 4 9 := Or.inr ⟨by decide +kernel, rfl⟩
theorem d_MD_lots_9 : PLi b_MD_lots 9 4 11 := Or.inr ⟨by decide +kernel, rfl⟩
theorem d_MD_lots_11 : DJ b_MD_lots 11 (.ifCond .ne) 14 27 := ⟨16, by decide +kernel, rfl, by decide⟩
theorem d_MD_lots_14 : PLi b_MD_lots 14 3 15 := Or.inl ⟨3, by decide +kernel, rfl, rfl⟩
theorem d_MD_lots_15 : PCi b_MD_lots 15 0 16 := Or.inl ⟨0, by decide +kernel, by decide, rfl⟩
theorem d_MD_lots_16 : PCi b_MD_lots 16 1 17 := Or.inl ⟨1, by decide +kernel, by decide, rfl⟩
theorem d_MD_lots_17 : DR b_MD_lots 17 (.invokestatic 115) 3 20 := ⟨by decide +kernel, rfl⟩
theorem d_MD_lots_20 : DJ b_MD_lots 20 (.ifCond .ne) 23 27 := ⟨7, by decide +kernel, rfl, by decide⟩
theorem d_MD_lots_23 : PCi b_MD_lots 23 (-2) 25 := Or.inr (Or.inl ⟨(-2), by decide +kernel, by decide, rfl⟩)
theorem d_MD_lots_25 : PSi b_MD_lots 25 4 27 := Or.inr ⟨by decide +kernel, rfl⟩
theorem d_MD_lots_27 : PLi b_MD_lots 27 4 29 := Or.inr ⟨by decide +kernel, rfl⟩
theorem d_MD_lots_29 : DJ b_MD_lots 29 (.ifCond .eq) 32 39 := ⟨10, by decide +kernel, rfl, by decide⟩
theorem d_MD_lots_32 : PLa b_MD_lots 32 0 33 := Or.inl ⟨0, by decide +kernel, rfl, rfl⟩
theorem d_MD_lots_33 : PLi b_MD_lots 33 4 35 := Or.inr ⟨by decide +kernel, rfl⟩
theorem d_MD_lots_35 : DR b_MD_lots 35 (.invokevirtual 104) 3 38 := ⟨by decide +kernel, rfl⟩
theorem d_MD_lots_38 : DR b_MD_lots 38 (.ireturn) 1 39 := ⟨by decide +kernel, rfl⟩
theorem d_MD_lots_39 : PLa b_MD_lots 39 0 40 := Or.inl ⟨0, by decide +kernel, rfl, rfl⟩
theorem d_MD_lots_40 : PCi b_MD_lots 40 1 41 := Or.inl ⟨1, by decide +kernel, by decide, rfl⟩
theorem d_MD_lots_41 : PCi b_MD_lots 41 1 42 := Or.inl ⟨1, by decide +kernel, by decide, rfl⟩
theorem d_MD_lots_42 : DR b_MD_lots 42 (.invokevirtual 150) 3 45 := ⟨by decide +kernel, rfl⟩
theorem d_MD_lots_45 : PLi b_MD_lots 45 2 46 := Or.inl ⟨2, by decide +kernel, rfl, rfl⟩
theorem d_MD_lots_46 : PSi b_MD_lots 46 5 48 := Or.inr ⟨by decide +kernel, rfl⟩
theorem d_MD_lots_48 : PCi b_MD_lots 48 0 49 := Or.inl ⟨0, by decide +kernel, by decide, rfl⟩
theorem d_MD_lots_49 : PSi b_MD_lots 49 6 51 := Or.inr ⟨by decide +kernel, rfl⟩
theorem d_MD_lots_51 : PCi b_MD_lots 51 0 52 := Or.inl ⟨0, by decide +kernel, by decide, rfl⟩
theorem d_MD_lots_52 : PSi b_MD_lots 52 7 54 := Or.inr ⟨by decide +kernel, rfl⟩
theorem d_MD_lots_54 : PCi b_MD_lots 54 0 55 := Or.inl ⟨0, by decide +kernel, by decide, rfl⟩
theorem d_MD_lots_55 : PSi b_MD_lots 55 8 57 := Or.inr ⟨by decide +kernel, rfl⟩
theorem d_MD_lots_57 : PLi b_MD_lots 57 8 59 := Or.inr ⟨by decide +kernel, rfl⟩
theorem d_MD_lots_59 : PLi b_MD_lots 59 1 60 := Or.inl ⟨1, by decide +kernel, rfl, rfl⟩
theorem d_MD_lots_60 : DJ b_MD_lots 60 (.if_icmp .ge) 63 146 := ⟨86, by decide +kernel, rfl, by decide⟩
theorem d_MD_lots_63 : PCi b_MD_lots 63 0 64 := Or.inl ⟨0, by decide +kernel, by decide, rfl⟩
theorem d_MD_lots_64 : PSi b_MD_lots 64 9 66 := Or.inr ⟨by decide +kernel, rfl⟩
theorem d_MD_lots_66 : PLi b_MD_lots 66 9 68 := Or.inr ⟨by decide +kernel, rfl⟩
theorem d_MD_lots_68 : PLa b_MD_lots 68 0 69 := Or.inl ⟨0, by decide +kernel, rfl, rfl⟩
theorem d_MD_lots_69 : DR b_MD_lots 69 (.getfield 90) 3 72 := ⟨by decide +kernel, rfl⟩
theorem d_MD_lots_72 : DJ b_MD_lots 72 (.if_icmp .ge) 75 114 := ⟨42, by decide +kernel, rfl, by decide⟩
theorem d_MD_lots_75 : PLi b_MD_lots 75 5 77 := Or.inr ⟨by decide +kernel, rfl⟩
theorem d_MD_lots_77 : DR b_MD_lots 77 (.ldc_w 336) 3 80 := ⟨by decide +kernel, rfl⟩
theorem d_MD_lots_80 : DR b_MD_lots 80 (.imul) 1 81 := ⟨by decide +kernel, rfl⟩
theorem d_MD_lots_81 : PCi b_MD_lots 81 12345 84 := Or.inr (Or.inr ⟨12345, by decide +kernel, by decide, rfl⟩)
theorem d_MD_lots_84 : DR b_MD_lots 84 (.iadd) 1 85 := ⟨by decide +kernel, rfl⟩
theorem d_MD_lots_85 : PSi b_MD_lots 85 5 87 := Or.inr ⟨by decide +kernel, rfl⟩
theorem d_MD_lots_87 : PLa b_MD_lots 87 0 88 := Or.inl ⟨0, by decide +kernel, rfl, rfl⟩
theorem d_MD_lots_88 : DR b_MD_lots 88 (.getfield 22) 3 91 := ⟨by decide +kernel, rfl⟩
theorem d_MD_lots_91 : PLi b_MD_lots 91 9 93 := Or.inr ⟨by decide +kernel, rfl⟩
theorem d_MD_lots_93 : PLi b_MD_lots 93 5 95 := Or.inr ⟨by decide +kernel, rfl⟩
theorem d_MD_lots_95 : DR b_MD_lots 95 (.ldc_w 337) 3 98 := ⟨by decide +kernel, rfl⟩
theorem d_MD_lots_98 : DR b_MD_lots 98 (.iand) 1 99 := ⟨by decide +kernel, rfl⟩
theorem d_MD_lots_99 : DR b_MD_lots 99 (.ldc_w 338) 3 102 := ⟨by decide +kernel, rfl⟩
theorem d_MD_lots_102 : DR b_MD_lots 102 (.idiv) 1 103 := ⟨by decide +kernel, rfl⟩
theorem d_MD_lots_103 : PCi b_MD_lots 103 128 106 := Or.inr (Or.inr ⟨128, by decide +kernel, by decide, rfl⟩)
theorem d_MD_lots_106 : DR b_MD_lots 106 (.irem) 1 107 := ⟨by decide +kernel, rfl⟩
theorem d_MD_lots_107 : DR b_MD_lots 107 (.iastore) 1 108 := ⟨by decide +kernel, rfl⟩
theorem d_MD_lots_108 : DR b_MD_lots 108 (.iinc 9 1) 3 111 := ⟨by decide +kernel, rfl⟩
theorem d_MD_lots_111 : DJ b_MD_lots 111 .goto 114 66 := ⟨-45, by decide +kernel, rfl, by decide⟩
theorem d_MD_lots_114 : PLi b_MD_lots 114 6 116 := Or.inr ⟨by decide +kernel, rfl⟩
theorem d_MD_lots_116 : PLa b_MD_lots 116 0 117 := Or.inl ⟨0, by decide +kernel, rfl, rfl⟩
theorem d_MD_lots_117 : DR b_MD_lots 117 (.invokevirtual 299) 3 120 := ⟨by decide +kernel, rfl⟩
theorem d_MD_lots_120 : DR b_MD_lots 120 (.iadd) 1 121 := ⟨by decide +kernel, rfl⟩
theorem d_MD_lots_121 : PSi b_MD_lots 121 6 123 := Or.inr ⟨by decide +kernel, rfl⟩
theorem d_MD_lots_123 : PLi b_MD_lots 123 7 125 := Or.inr ⟨by decide +kernel, rfl⟩
theorem d_MD_lots_125 : PLa b_MD_lots 125 0 126 := Or.inl ⟨0, by decide +kernel, rfl, rfl⟩
theorem d_MD_lots_126 : DR b_MD_lots 126 (.invokevirtual 221) 3 129 := ⟨by decide +kernel, rfl⟩
theorem d_MD_lots_129 : DJ b_MD_lots 129 (.ifCond .ge) 132 136 := ⟨7, by decide +kernel, rfl, by decide⟩
theorem d_MD_lots_132 : PCi b_MD_lots 132 1 133 := Or.inl ⟨1, by decide +kernel, by decide, rfl⟩
theorem d_MD_lots_133 : DJ b_MD_lots 133 .goto 136 137 := ⟨4, by decide +kernel, rfl, by decide⟩
theorem d_MD_lots_136 : PCi b_MD_lots 136 0 137 := Or.inl ⟨0, by decide +kernel, by decide, rfl⟩
theorem d_MD_lots_137 : DR b_MD_lots 137 (.iadd) 1 138 := ⟨by decide +kernel, rfl⟩
theorem d_MD_lots_138 : PSi b_MD_lots 138 7 140 := Or.inr ⟨by decide +kernel, rfl⟩
theorem d_MD_lots_140 : DR b_MD_lots 140 (.iinc 8 1) 3 143 := ⟨by decide +kernel, rfl⟩
theorem d_MD_lots_143 : DJ b_MD_lots 143 .goto 146 57 := ⟨-86, by decide +kernel, rfl, by decide⟩
theorem d_MD_lots_146 : PLa b_MD_lots 146 0 147 := Or.inl ⟨0, by decide +kernel, rfl, rfl⟩
theorem d_MD_lots_147 : PCi b_MD_lots 147 1 148 := Or.inl ⟨1, by decide +kernel, by decide, rfl⟩
theorem d_MD_lots_148 : PCi b_MD_lots 148 0 149 := Or.inl ⟨0, by decide +kernel, by decide, rfl⟩
theorem d_MD_lots_149 : DR b_MD_lots 149 (.invokevirtual 150) 3 152 := ⟨by decide +kernel, rfl⟩
theorem d_MD_lots_152 : PLi b_MD_lots 152 3 153 := Or.inl ⟨3, by decide +kernel, rfl, rfl⟩
theorem d_MD_lots_153 : DJ b_MD_lots 153 (.ifCond .ne) 156 161 := ⟨8, by decide +kernel, rfl, by decide⟩
theorem d_MD_lots_156 : PLi b_MD_lots 156 6 158 := Or.inr ⟨by decide +kernel, rfl⟩
theorem d_MD_lots_158 : DJ b_MD_lots 158 .goto 161 163 := ⟨5, by decide +kernel, rfl, by decide⟩
theorem d_MD_lots_161 : PLi b_MD_lots 161 7 163 := Or.inr ⟨by decide +kernel, rfl⟩
theorem d_MD_lots_163 : DR b_MD_lots 163 (.ireturn) 1 164 := ⟨by decide +kernel, rfl⟩
set_option maxRecDepth 20000 in
theorem B_MD_lots_137 {G : MCx} (hC : C0 G "AccusedChooseModel" b_MD_lots 10 7) {v1 : Int32} {v3 : Int32} (K57 : Int32 × Int32 × Int32 × Int32 × St → Option (Int32 × St)) (hK57 : ∀ (w5 : Int32) (w6 : Int32) (w7 : Int32) (w8 : Int32) (s : St), VO G (RI G b_MD_lots) (K57 (w5, w6, w7, w8, s)) 57 [(0, .ref (gad G 58)), (1, .int v1), (3, .int v3), (5, .int w5), (6, .int w6), (7, .int w7), (8, .int w8)] [] s) (v5 : Int32) (v6 : Int32) (v8 : Int32) (z0 : Int32) (z1 : Int32) (s : St) : VO G (RI G b_MD_lots) (F_MD_lots_137 K57 v1 v3 v5 v6 v8 z0 z1 s) 137 [(0, .ref (gad G 58)), (1, .int v1), (3, .int v3), (5, .int v5), (6, .int v6), (8, .int v8)] [.int z0, .int z1] s := by
  unfold F_MD_lots_137
  refine VO_iadd hC d_MD_lots_137 ?_
  refine VO_istoreB hC d_MD_lots_138 [(0, .ref (gad G 58)), (1, .int v1), (3, .int v3), (5, .int v5), (6, .int v6), (8, .int v8)] rfl (by decide) (fun x7 => ?_)
  refine VO_iinc hC d_MD_lots_140 6 rfl (by decide : Int32.ofInt 1 = 1) [(7, .int x7), (0, .ref (gad G 58)), (1, .int v1), (3, .int v3), (5, .int v5), (6, .int v6)] rfl (by decide) ?_
  refine VO_goto hC d_MD_lots_143 ?_
  exact VO_sub [2, 3, 4, 5, 6, 1, 0] rfl (hK57 v5 v6 x7 (v8 + 1) s)
set_option maxRecDepth 20000 in
theorem BH_MD_lots_66 {G : MCx} (hC : C0 G "AccusedChooseModel" b_MD_lots 10 7) {v1 : Int32} {v3 : Int32} {v6 : Int32} {v7 : Int32} {v8 : Int32} (K57 : Int32 × Int32 × Int32 × Int32 × St → Option (Int32 × St)) (hK57 : ∀ (w5 : Int32) (w6 : Int32) (w7 : Int32) (w8 : Int32) (s : St), VO G (RI G b_MD_lots) (K57 (w5, w6, w7, w8, s)) 57 [(0, .ref (gad G 58)), (1, .int v1), (3, .int v3), (5, .int w5), (6, .int w6), (7, .int w7), (8, .int w8)] [] s) (K66 : Int32 × Int32 × St → Option (Int32 × St)) (hK66 : ∀ (w5 : Int32) (w9 : Int32) (s : St), VO G (RI G b_MD_lots) (K66 (w5, w9, s)) 66 [(0, .ref (gad G 58)), (1, .int v1), (3, .int v3), (5, .int w5), (6, .int v6), (7, .int v7), (8, .int v8), (9, .int w9)] [] s) (v5 : Int32) (v9 : Int32) (s : St) : VO G (RI G b_MD_lots) (H_MD_lots_66 K57 v1 v3 v6 v7 v8 K66 v5 v9 s) 66 [(0, .ref (gad G 58)), (1, .int v1), (3, .int v3), (5, .int v5), (6, .int v6), (7, .int v7), (8, .int v8), (9, .int v9)] [] s := by
  unfold H_MD_lots_66
  refine VO_iload hC d_MD_lots_66 7 rfl ?_
  refine VO_aload hC d_MD_lots_68 0 rfl ?_
  refine VO_geti hC fl_MD_90 sh_MD rfl d_MD_lots_69 ?_
  refine VO_icmp_ge hC d_MD_lots_72 (fun _ => ?_) (fun _ => ?_)
  · refine VO_iload hC d_MD_lots_114 4 rfl ?_
    refine VO_aload hC d_MD_lots_116 0 rfl ?_
    refine VO_callVI hC [] [.int v6] ml_MD_299 d_MD_lots_117 yv_MD_monthsNow sh_MD rfl rfl (fun o h => M_MD_monthsNow hC.inj h) (by decide) rfl rfl (Nat.le_of_ble_eq_true rfl) (fun o4 => ?_)
    refine VO_iadd hC d_MD_lots_120 ?_
    refine VO_istoreB hC d_MD_lots_121 [(0, .ref (gad G 58)), (1, .int v1), (3, .int v3), (5, .int v5), (7, .int v7), (8, .int v8), (9, .int v9)] rfl (by decide) (fun x5 => ?_)
    refine VO_iload hC d_MD_lots_123 5 rfl ?_
    refine VO_aload hC d_MD_lots_125 1 rfl ?_
    refine VO_callVI hC [] [.int v7] ml_MD_221 d_MD_lots_126 yv_MD_firstWithout sh_MD rfl rfl (fun o h => M_MD_firstWithout hC.inj h) (by decide) rfl rfl (Nat.le_of_ble_eq_true rfl) (fun o6 => ?_)
    refine VO_if_ge hC d_MD_lots_129 (fun _ => ?_) (fun _ => ?_)
    · refine VO_const hC d_MD_lots_136 ?_
      exact VO_sub [1, 2, 3, 4, 0, 6] rfl (B_MD_lots_137 hC K57 hK57 v5 x5 v8 (0 : Int32) v7 o6.2)
    · refine VO_const hC d_MD_lots_132 ?_
      refine VO_goto hC d_MD_lots_133 ?_
      exact VO_sub [1, 2, 3, 4, 0, 6] rfl (B_MD_lots_137 hC K57 hK57 v5 x5 v8 (1 : Int32) v7 o6.2)
  · refine VO_iload hC d_MD_lots_75 3 rfl ?_
    refine VO_ldcw hC k_MD_336 d_MD_lots_77 ?_
    refine VO_imul hC d_MD_lots_80 ?_
    refine VO_const hC d_MD_lots_81 ?_
    refine VO_iadd hC d_MD_lots_84 ?_
    refine VO_istoreB hC d_MD_lots_85 [(0, .ref (gad G 58)), (1, .int v1), (3, .int v3), (6, .int v6), (7, .int v7), (8, .int v8), (9, .int v9)] rfl (by decide) (fun x8 => ?_)
    refine VO_aload hC d_MD_lots_87 1 rfl ?_
    refine VO_getr (r := 63) hC fl_MD_22 sh_MD rfl d_MD_lots_88 ?_
    refine VO_iload hC d_MD_lots_91 7 rfl ?_
    refine VO_iload hC d_MD_lots_93 0 rfl ?_
    refine VO_ldcw hC k_MD_337 d_MD_lots_95 ?_
    refine VO_iand hC d_MD_lots_98 ?_
    refine VO_ldcw hC k_MD_338 d_MD_lots_99 ?_
    refine VO_idivC hC d_MD_lots_102 (by decide) ?_
    refine VO_const hC d_MD_lots_103 ?_
    refine VO_iremC hC d_MD_lots_106 (by decide) ?_
    refine VO_iastore hC ia_63 d_MD_lots_107 (fun s9 => ?_)
    refine VO_iinc hC d_MD_lots_108 7 rfl (by decide : Int32.ofInt 1 = 1) [(5, .int x8), (0, .ref (gad G 58)), (1, .int v1), (3, .int v3), (6, .int v6), (7, .int v7), (8, .int v8)] rfl (by decide) ?_
    refine VO_goto hC d_MD_lots_111 ?_
    exact VO_sub [2, 3, 4, 1, 5, 6, 7, 0] rfl (hK66 x8 (v9 + 1) s9)
set_option maxRecDepth 20000 in
theorem B_MD_lots_66 {G : MCx} (hC : C0 G "AccusedChooseModel" b_MD_lots 10 7) {v1 : Int32} {v3 : Int32} (K57 : Int32 × Int32 × Int32 × Int32 × St → Option (Int32 × St)) (hK57 : ∀ (w5 : Int32) (w6 : Int32) (w7 : Int32) (w8 : Int32) (s : St), VO G (RI G b_MD_lots) (K57 (w5, w6, w7, w8, s)) 57 [(0, .ref (gad G 58)), (1, .int v1), (3, .int v3), (5, .int w5), (6, .int w6), (7, .int w7), (8, .int w8)] [] s) (v5 : Int32) (v6 : Int32) (v7 : Int32) (v8 : Int32) (v9 : Int32) (s : St) : VO G (RI G b_MD_lots) (F_MD_lots_66 K57 v1 v3 v5 v6 v7 v8 v9 s) 66 [(0, .ref (gad G 58)), (1, .int v1), (3, .int v3), (5, .int v5), (6, .int v6), (7, .int v7), (8, .int v8), (9, .int v9)] [] s := by
  exact VO_fix (G_MD_lots_66 K57 v1 v3 v6 v7 v8) 66 (fun q => [(0, .ref (gad G 58)), (1, .int v1), (3, .int v3), (5, .int q.1), (6, .int v6), (7, .int v7), (8, .int v8), (9, .int q.2.1)]) (fun q => q.2.2) (fun K hK q => BH_MD_lots_66 hC K57 hK57 K (fun w5 w9 s => hK (w5, w9, s)) q.1 q.2.1 q.2.2) FUEL (v5, v9, s)
set_option maxRecDepth 20000 in
theorem BH_MD_lots_57 {G : MCx} (hC : C0 G "AccusedChooseModel" b_MD_lots 10 7) {v1 : Int32} {v3 : Int32} (K57 : Int32 × Int32 × Int32 × Int32 × St → Option (Int32 × St)) (hK57 : ∀ (w5 : Int32) (w6 : Int32) (w7 : Int32) (w8 : Int32) (s : St), VO G (RI G b_MD_lots) (K57 (w5, w6, w7, w8, s)) 57 [(0, .ref (gad G 58)), (1, .int v1), (3, .int v3), (5, .int w5), (6, .int w6), (7, .int w7), (8, .int w8)] [] s) (v5 : Int32) (v6 : Int32) (v7 : Int32) (v8 : Int32) (s : St) : VO G (RI G b_MD_lots) (H_MD_lots_57 v1 v3 K57 v5 v6 v7 v8 s) 57 [(0, .ref (gad G 58)), (1, .int v1), (3, .int v3), (5, .int v5), (6, .int v6), (7, .int v7), (8, .int v8)] [] s := by
  unfold H_MD_lots_57
  refine VO_iload hC d_MD_lots_57 6 rfl ?_
  refine VO_iload hC d_MD_lots_59 1 rfl ?_
  refine VO_icmp_ge hC d_MD_lots_60 (fun _ => ?_) (fun _ => ?_)
  · refine VO_aload hC d_MD_lots_146 0 rfl ?_
    refine VO_const hC d_MD_lots_147 ?_
    refine VO_const hC d_MD_lots_148 ?_
    refine VO_callVV hC [.int (1 : Int32), .int (0 : Int32)] [] ml_MD_150 d_MD_lots_149 yv_MD_passesAll sh_MD rfl rfl (fun o h => M_MD_passesAll hC.inj h) (by decide) rfl rfl (Nat.le_of_ble_eq_true rfl) (fun s3 => ?_)
    refine VO_iload hC d_MD_lots_152 2 rfl ?_
    refine VO_if_ne hC d_MD_lots_153 (fun _ => ?_) (fun _ => ?_)
    · refine VO_iload hC d_MD_lots_156 4 rfl ?_
      refine VO_goto hC d_MD_lots_158 ?_
      exact VO_ireturn d_MD_lots_163
    · refine VO_iload hC d_MD_lots_161 5 rfl ?_
      exact VO_ireturn d_MD_lots_163
  · refine VO_const hC d_MD_lots_63 ?_
    refine VO_istore hC d_MD_lots_64 [(0, .ref (gad G 58)), (1, .int v1), (3, .int v3), (5, .int v5), (6, .int v6), (7, .int v7), (8, .int v8)] rfl (by decide) ?_
    exact VO_sub [1, 2, 3, 4, 5, 6, 7, 0] rfl (B_MD_lots_66 hC K57 hK57 v5 v6 v7 v8 (0 : Int32) s)
set_option maxRecDepth 20000 in
theorem B_MD_lots_57 {G : MCx} (hC : C0 G "AccusedChooseModel" b_MD_lots 10 7) (v1 : Int32) (v3 : Int32) (v5 : Int32) (v6 : Int32) (v7 : Int32) (v8 : Int32) (s : St) : VO G (RI G b_MD_lots) (F_MD_lots_57 v1 v3 v5 v6 v7 v8 s) 57 [(0, .ref (gad G 58)), (1, .int v1), (3, .int v3), (5, .int v5), (6, .int v6), (7, .int v7), (8, .int v8)] [] s := by
  exact VO_fix (G_MD_lots_57 v1 v3) 57 (fun q => [(0, .ref (gad G 58)), (1, .int v1), (3, .int v3), (5, .int q.1), (6, .int q.2.1), (7, .int q.2.2.1), (8, .int q.2.2.2.1)]) (fun q => q.2.2.2.2) (fun K hK q => BH_MD_lots_57 hC K (fun w5 w6 w7 w8 s => hK (w5, w6, w7, w8, s)) q.1 q.2.1 q.2.2.1 q.2.2.2.1 q.2.2.2.2) FUEL (v5, v6, v7, v8, s)
set_option maxRecDepth 20000 in
theorem B_MD_lots_27 {G : MCx} (hC : C0 G "AccusedChooseModel" b_MD_lots 10 7) (v1 : Int32) (v2 : Int32) (v3 : Int32) (v4 : Int32) (s : St) : VO G (RI G b_MD_lots) (F_MD_lots_27 v1 v2 v3 v4 s) 27 [(0, .ref (gad G 58)), (1, .int v1), (2, .int v2), (3, .int v3), (4, .int v4)] [] s := by
  unfold F_MD_lots_27
  refine VO_iload hC d_MD_lots_27 4 rfl ?_
  refine VO_if_eq hC d_MD_lots_29 (fun _ => ?_) (fun _ => ?_)
  · refine VO_aload hC d_MD_lots_39 0 rfl ?_
    refine VO_const hC d_MD_lots_40 ?_
    refine VO_const hC d_MD_lots_41 ?_
    refine VO_callVV hC [.int (1 : Int32), .int (1 : Int32)] [] ml_MD_150 d_MD_lots_42 yv_MD_passesAll sh_MD rfl rfl (fun o h => M_MD_passesAll hC.inj h) (by decide) rfl rfl (Nat.le_of_ble_eq_true rfl) (fun s2 => ?_)
    refine VO_iload hC d_MD_lots_45 2 rfl ?_
    refine VO_istore hC d_MD_lots_46 [(0, .ref (gad G 58)), (1, .int v1), (2, .int v2), (3, .int v3), (4, .int v4)] rfl (by decide) ?_
    refine VO_const hC d_MD_lots_48 ?_
    refine VO_istore hC d_MD_lots_49 [(5, .int v2), (0, .ref (gad G 58)), (1, .int v1), (2, .int v2), (3, .int v3), (4, .int v4)] rfl (by decide) ?_
    refine VO_const hC d_MD_lots_51 ?_
    refine VO_istore hC d_MD_lots_52 [(6, .int (0 : Int32)), (5, .int v2), (0, .ref (gad G 58)), (1, .int v1), (2, .int v2), (3, .int v3), (4, .int v4)] rfl (by decide) ?_
    refine VO_const hC d_MD_lots_54 ?_
    refine VO_istore hC d_MD_lots_55 [(7, .int (0 : Int32)), (6, .int (0 : Int32)), (5, .int v2), (0, .ref (gad G 58)), (1, .int v1), (2, .int v2), (3, .int v3), (4, .int v4)] rfl (by decide) ?_
    exact VO_sub [4, 5, 7, 3, 2, 1, 0] rfl (B_MD_lots_57 hC v1 v3 v2 (0 : Int32) (0 : Int32) (0 : Int32) s2)
  · refine VO_aload hC d_MD_lots_32 0 rfl ?_
    refine VO_iload hC d_MD_lots_33 4 rfl ?_
    refine VO_callVI hC [.int v4] [] ml_MD_104 d_MD_lots_35 yv_MD_no sh_MD rfl rfl (fun o h => M_MD_no hC.inj h) (by decide) rfl rfl (Nat.le_of_ble_eq_true rfl) (fun o10 => ?_)
    exact VO_ireturn d_MD_lots_38
set_option maxRecDepth 20000 in
theorem B_MD_lots {G : MCx} (hC : C0 G "AccusedChooseModel" b_MD_lots 10 7) (a1 : Int32) (a2 : Int32) (a3 : Int32) (s : St) : VO G (RI G b_MD_lots) (F_MD_lots a1 a2 a3 s) 0 [(0, .ref (gad G 58)), (1, .int a1), (2, .int a2), (3, .int a3)] [] s := by
  unfold F_MD_lots
  refine VO_iload hC d_MD_lots_0 1 rfl ?_
  refine VO_const hC d_MD_lots_1 ?_
  refine VO_const hC d_MD_lots_2 ?_
  refine VO_callSI hC [.int a1, .int (1 : Int32), .int (20 : Int32)] [] ml_MD_97 d_MD_lots_4 ys_MD_bound (fun o h => M_MD_bound hC.inj h) (by decide) rfl rfl (Nat.le_of_ble_eq_true rfl) (fun o1 => ?_)
  refine VO_istore hC d_MD_lots_7 [(0, .ref (gad G 58)), (1, .int a1), (2, .int a2), (3, .int a3)] rfl (by decide) ?_
  refine VO_iload hC d_MD_lots_9 0 rfl ?_
  refine VO_if_ne hC d_MD_lots_11 (fun _ => ?_) (fun _ => ?_)
  · refine VO_iload hC d_MD_lots_14 4 rfl ?_
    refine VO_const hC d_MD_lots_15 ?_
    refine VO_const hC d_MD_lots_16 ?_
    refine VO_callSI hC [.int a3, .int (0 : Int32), .int (1 : Int32)] [] ml_MD_115 d_MD_lots_17 ys_MD_isIn (fun o h => M_MD_isIn hC.inj h) (by decide) rfl rfl (Nat.le_of_ble_eq_true rfl) (fun o11 => ?_)
    refine VO_if_ne hC d_MD_lots_20 (fun _ => ?_) (fun _ => ?_)
    · refine VO_const hC d_MD_lots_23 ?_
      refine VO_istore hC d_MD_lots_25 [(0, .ref (gad G 58)), (1, .int a1), (2, .int a2), (3, .int a3)] rfl (by decide) ?_
      exact VO_sub [1, 2, 3, 4, 0] rfl (B_MD_lots_27 hC a1 a2 a3 (-2 : Int32) o11.2)
    · exact VO_sub [1, 2, 3, 4, 0] rfl (B_MD_lots_27 hC a1 a2 a3 o1.1 o11.2)
  · exact VO_sub [1, 2, 3, 4, 0] rfl (B_MD_lots_27 hC a1 a2 a3 o1.1 o1.2)
set_option maxRecDepth 20000 in
theorem M_MD_lots {l : Launch} {D : va_G} {ad : Nat → Nat} {cI cL : ClassId} (hj : Inj ad) {a1 : Int32} {a2 : Int32} {a3 : Int32} {s : St} {o : Int32 × St} (h : F_MD_lots a1 a2 a3 s = some o) : Cn l D ad cI cL y_MD_lots b_MD_lots 10 (some .int) 7 [.ref (ad 58), .int a1, .int a2, .int a3] s (some (.int o.1)) o.2 := by
  refine Cn_ofI hj (plainFor_of_name (by decide)) (Nat.le_of_ble_eq_true rfl) [(0, .ref (ad 58)), (1, .int a1), (2, .int a2), (3, .int a3)] rfl (fun G hC e1 e2 e3 e4 e5 hR => ?_)
  subst e1; subst e2; subst e3; subst e4; subst e5
  exact B_MD_lots hC a1 a2 a3 s o h hR
theorem d_MD_alibisOf_0 : PCi b_MD_alibisOf 0 0 1 := Or.inl ⟨0, by decide +kernel, by decide, rfl⟩
theorem d_MD_alibisOf_1 : PSi b_MD_alibisOf 1 2 2 := Or.inl ⟨2, by decide +kernel, rfl, rfl⟩
theorem d_MD_alibisOf_2 : PCi b_MD_alibisOf 2 0 3 := Or.inl ⟨0, by decide +kernel, by decide, rfl⟩
theorem d_MD_alibisOf_3 : PSi b_MD_alibisOf 3 3 4 := Or.inl ⟨3, by decide +kernel, rfl, rfl⟩
theorem d_MD_alibisOf_4 : PLi b_MD_alibisOf 4 3 5 := Or.inl ⟨3, by decide +kernel, rfl, rfl⟩
theorem d_MD_alibisOf_5 : PCi b_MD_alibisOf 5 7 7 := Or.inr (Or.inl ⟨7, by decide +kernel, by decide, rfl⟩)
theorem d_MD_alibisOf_7 : DJ b_MD_alibisOf 7 (.if_icmp .ge) 10 29 := ⟨22, by decide +kernel, rfl, by decide⟩
theorem d_MD_alibisOf_10 : PLi b_MD_alibisOf 10 2 11 := Or.inl ⟨2, by decide +kernel, rfl, rfl⟩
theorem d_MD_alibisOf_11 : PLa b_MD_alibisOf 11 0 12 := Or.inl ⟨0, by decide +kernel, rfl, rfl⟩
theorem d_MD_alibisOf_12 : DR b_MD_alibisOf 12 (.getfield 31) 3 15 := ⟨by decide +kernel, rfl⟩
theorem d_MD_alibisOf_15 : PLi b_MD_alibisOf 15 1 16 := Or.inl ⟨1, by decide +kernel, rfl, rfl⟩
theorem d_MD_alibisOf_16 : DR b_MD_alibisOf 16 (.iaload) 1 17 := ⟨by decide +kernel, rfl⟩
theorem d_MD_alibisOf_17 : PLi b_MD_alibisOf 17 3 18 := Or.inl ⟨3, by decide +kernel, rfl, rfl⟩
theorem d_MD_alibisOf_18 : DR b_MD_alibisOf 18 (.ishr) 1 19 := ⟨by decide +kernel, rfl⟩
theorem d_MD_alibisOf_19 : PCi b_MD_alibisOf 19 1 20 := Or.inl ⟨1, by decide +kernel, by decide, rfl⟩
theorem d_MD_alibisOf_20 : DR b_MD_alibisOf 20 (.iand) 1 21 := ⟨by decide +kernel, rfl⟩
theorem d_MD_alibisOf_21 : DR b_MD_alibisOf 21 (.iadd) 1 22 := ⟨by decide +kernel, rfl⟩
theorem d_MD_alibisOf_22 : PSi b_MD_alibisOf 22 2 23 := Or.inl ⟨2, by decide +kernel, rfl, rfl⟩
theorem d_MD_alibisOf_23 : DR b_MD_alibisOf 23 (.iinc 3 1) 3 26 := ⟨by decide +kernel, rfl⟩
theorem d_MD_alibisOf_26 : DJ b_MD_alibisOf 26 .goto 29 4 := ⟨-22, by decide +kernel, rfl, by decide⟩
theorem d_MD_alibisOf_29 : PLi b_MD_alibisOf 29 2 30 := Or.inl ⟨2, by decide +kernel, rfl, rfl⟩
theorem d_MD_alibisOf_30 : DR b_MD_alibisOf 30 (.ireturn) 1 31 := ⟨by decide +kernel, rfl⟩
set_option maxRecDepth 20000 in
theorem BH_MD_alibisOf_4 {G : MCx} (hC : C0 G "AccusedChooseModel" b_MD_alibisOf 4 1) {v1 : Int32} (K4 : Int32 × Int32 × St → Option (Int32 × St)) (hK4 : ∀ (w2 : Int32) (w3 : Int32) (s : St), VO G (RI G b_MD_alibisOf) (K4 (w2, w3, s)) 4 [(0, .ref (gad G 58)), (1, .int v1), (2, .int w2), (3, .int w3)] [] s) (v2 : Int32) (v3 : Int32) (s : St) : VO G (RI G b_MD_alibisOf) (H_MD_alibisOf_4 v1 K4 v2 v3 s) 4 [(0, .ref (gad G 58)), (1, .int v1), (2, .int v2), (3, .int v3)] [] s := by
  unfold H_MD_alibisOf_4
  refine VO_iload hC d_MD_alibisOf_4 3 rfl ?_
  refine VO_const hC d_MD_alibisOf_5 ?_
  refine VO_icmp_ge hC d_MD_alibisOf_7 (fun _ => ?_) (fun _ => ?_)
  · refine VO_iload hC d_MD_alibisOf_29 2 rfl ?_
    exact VO_ireturn d_MD_alibisOf_30
  · refine VO_iload hC d_MD_alibisOf_10 2 rfl ?_
    refine VO_aload hC d_MD_alibisOf_11 0 rfl ?_
    refine VO_getr (r := 66) hC fl_MD_31 sh_MD rfl d_MD_alibisOf_12 ?_
    refine VO_iload hC d_MD_alibisOf_15 1 rfl ?_
    refine VO_iaload hC ia_66 d_MD_alibisOf_16 (fun x1 => ?_)
    refine VO_iload hC d_MD_alibisOf_17 3 rfl ?_
    refine VO_ishr hC d_MD_alibisOf_18 ?_
    refine VO_const hC d_MD_alibisOf_19 ?_
    refine VO_iand hC d_MD_alibisOf_20 ?_
    refine VO_iadd hC d_MD_alibisOf_21 ?_
    refine VO_istoreB hC d_MD_alibisOf_22 [(0, .ref (gad G 58)), (1, .int v1), (3, .int v3)] rfl (by decide) (fun x2 => ?_)
    refine VO_iinc hC d_MD_alibisOf_23 3 rfl (by decide : Int32.ofInt 1 = 1) [(2, .int x2), (0, .ref (gad G 58)), (1, .int v1)] rfl (by decide) ?_
    refine VO_goto hC d_MD_alibisOf_26 ?_
    exact VO_sub [2, 3, 1, 0] rfl (hK4 x2 (v3 + 1) s)
set_option maxRecDepth 20000 in
theorem B_MD_alibisOf_4 {G : MCx} (hC : C0 G "AccusedChooseModel" b_MD_alibisOf 4 1) (v1 : Int32) (v2 : Int32) (v3 : Int32) (s : St) : VO G (RI G b_MD_alibisOf) (F_MD_alibisOf_4 v1 v2 v3 s) 4 [(0, .ref (gad G 58)), (1, .int v1), (2, .int v2), (3, .int v3)] [] s := by
  exact VO_fix (G_MD_alibisOf_4 v1) 4 (fun q => [(0, .ref (gad G 58)), (1, .int v1), (2, .int q.1), (3, .int q.2.1)]) (fun q => q.2.2) (fun K hK q => BH_MD_alibisOf_4 hC K (fun w2 w3 s => hK (w2, w3, s)) q.1 q.2.1 q.2.2) FUEL (v2, v3, s)
set_option maxRecDepth 20000 in
theorem B_MD_alibisOf {G : MCx} (hC : C0 G "AccusedChooseModel" b_MD_alibisOf 4 1) (a1 : Int32) (s : St) : VO G (RI G b_MD_alibisOf) (F_MD_alibisOf a1 s) 0 [(0, .ref (gad G 58)), (1, .int a1)] [] s := by
  unfold F_MD_alibisOf
  refine VO_const hC d_MD_alibisOf_0 ?_
  refine VO_istore hC d_MD_alibisOf_1 [(0, .ref (gad G 58)), (1, .int a1)] rfl (by decide) ?_
  refine VO_const hC d_MD_alibisOf_2 ?_
  refine VO_istore hC d_MD_alibisOf_3 [(2, .int (0 : Int32)), (0, .ref (gad G 58)), (1, .int a1)] rfl (by decide) ?_
  exact VO_sub [2, 3, 1, 0] rfl (B_MD_alibisOf_4 hC a1 (0 : Int32) (0 : Int32) s)
set_option maxRecDepth 20000 in
theorem M_MD_alibisOf {l : Launch} {D : va_G} {ad : Nat → Nat} {cI cL : ClassId} (hj : Inj ad) {a1 : Int32} {s : St} {o : Int32 × St} (h : F_MD_alibisOf a1 s = some o) : Cn l D ad cI cL y_MD_alibisOf b_MD_alibisOf 4 (some .int) 1 [.ref (ad 58), .int a1] s (some (.int o.1)) o.2 := by
  refine Cn_ofI hj (plainFor_of_name (by decide)) (Nat.le_of_ble_eq_true rfl) [(0, .ref (ad 58)), (1, .int a1)] rfl (fun G hC e1 e2 e3 e4 e5 hR => ?_)
  subst e1; subst e2; subst e3; subst e4; subst e5
  exact B_MD_alibisOf hC a1 s o h hR
theorem d_MD_count_0 : PLi b_MD_count 0 1 1 := Or.inl ⟨1, by decide +kernel, rfl, rfl⟩
theorem d_MD_count_1 : PCi b_MD_count 1 11 3 := Or.inr (Or.inl ⟨11, by decide +kernel, by decide, rfl⟩)
theorem d_MD_count_3 : PCi b_MD_count 3 16 5 := Or.inr (Or.inl ⟨16, by decide +kernel, by decide, rfl⟩)
theorem d_MD_count_5 : DR b_MD_count 5 (.invokestatic 115) 3 8 := ⟨by decide +kernel, rfl⟩
theorem d_MD_count_8 : DJ b_MD_count 8 (.ifCond .eq) 11 21 := ⟨13, by decide +kernel, rfl, by decide⟩
theorem d_MD_count_11 : PLa b_MD_count 11 0 12 := Or.inl ⟨0, by decide +kernel, rfl, rfl⟩
theorem d_MD_count_12 : DR b_MD_count 12 (.getfield 7) 3 15 := ⟨by decide +kernel, rfl⟩
theorem d_MD_count_15 : PLi b_MD_count 15 1 16 := Or.inl ⟨1, by decide +kernel, rfl, rfl⟩
theorem d_MD_count_16 : PCi b_MD_count 16 10 18 := Or.inr (Or.inl ⟨10, by decide +kernel, by decide, rfl⟩)
theorem d_MD_count_18 : DR b_MD_count 18 (.isub) 1 19 := ⟨by decide +kernel, rfl⟩
theorem d_MD_count_19 : DR b_MD_count 19 (.iaload) 1 20 := ⟨by decide +kernel, rfl⟩
theorem d_MD_count_20 : DR b_MD_count 20 (.ireturn) 1 21 := ⟨by decide +kernel, rfl⟩
theorem d_MD_count_21 : PCi b_MD_count 21 0 22 := Or.inl ⟨0, by decide +kernel, by decide, rfl⟩
theorem d_MD_count_22 : PSi b_MD_count 22 2 23 := Or.inl ⟨2, by decide +kernel, rfl, rfl⟩
theorem d_MD_count_23 : PLi b_MD_count 23 1 24 := Or.inl ⟨1, by decide +kernel, rfl, rfl⟩
theorem d_MD_count_24 : decode b_MD_count 24 = .ok (.tableswitch 122 0 6 #[44, 49, 54, 81, 107, 112, 117], 44) := by decide +kernel
theorem d_MD_count_68 : PLa b_MD_count 68 0 69 := Or.inl ⟨0, by decide +kernel, rfl, rfl⟩
theorem d_MD_count_69 : DR b_MD_count 69 (.getfield 90) 3 72 := ⟨by decide +kernel, rfl⟩
theorem d_MD_count_72 : DR b_MD_count 72 (.ireturn) 1 73 := ⟨by decide +kernel, rfl⟩
theorem d_MD_count_73 : PLa b_MD_count 73 0 74 := Or.inl ⟨0, by decide +kernel, rfl, rfl⟩
theorem d_MD_count_74 : DR b_MD_count 74 (.getfield 84) 3 77 := ⟨by decide +kernel, rfl⟩
theorem d_MD_count_77 : DR b_MD_count 77 (.ireturn) 1 78 := ⟨by decide +kernel, rfl⟩
theorem d_MD_count_78 : PCi b_MD_count 78 0 79 := Or.inl ⟨0, by decide +kernel, by decide, rfl⟩
theorem d_MD_count_79 : PSi b_MD_count 79 3 80 := Or.inl ⟨3, by decide +kernel, rfl, rfl⟩
theorem d_MD_count_80 : PLi b_MD_count 80 3 81 := Or.inl ⟨3, by decide +kernel, rfl, rfl⟩
theorem d_MD_count_81 : PLa b_MD_count 81 0 82 := Or.inl ⟨0, by decide +kernel, rfl, rfl⟩
theorem d_MD_count_82 : DR b_MD_count 82 (.getfield 90) 3 85 := ⟨by decide +kernel, rfl⟩
theorem d_MD_count_85 : DJ b_MD_count 85 (.if_icmp .ge) 88 103 := ⟨18, by decide +kernel, rfl, by decide⟩
theorem d_MD_count_88 : PLi b_MD_count 88 2 89 := Or.inl ⟨2, by decide +kernel, rfl, rfl⟩
theorem d_MD_count_89 : PLa b_MD_count 89 0 90 := Or.inl ⟨0, by decide +kernel, rfl, rfl⟩
theorem d_MD_count_90 : DR b_MD_count 90 (.getfield 19) 3 93 := ⟨by decide +kernel, rfl⟩
theorem d_MD_count_93 : PLi b_MD_count 93 3 94 := Or.inl ⟨3, by decide +kernel, rfl, rfl⟩
theorem d_MD_count_94 : DR b_MD_count 94 (.iaload) 1 95 := ⟨by decide +kernel, rfl⟩
theorem d_MD_count_95 : DR b_MD_count 95 (.iadd) 1 96 := ⟨by decide +kernel, rfl⟩
theorem d_MD_count_96 : PSi b_MD_count 96 2 97 := Or.inl ⟨2, by decide +kernel, rfl, rfl⟩
theorem d_MD_count_97 : DR b_MD_count 97 (.iinc 3 1) 3 100 := ⟨by decide +kernel, rfl⟩
theorem d_MD_count_100 : DJ b_MD_count 100 .goto 103 80 := ⟨-20, by decide +kernel, rfl, by decide⟩
theorem d_MD_count_103 : PLi b_MD_count 103 2 104 := Or.inl ⟨2, by decide +kernel, rfl, rfl⟩
theorem d_MD_count_104 : DR b_MD_count 104 (.ireturn) 1 105 := ⟨by decide +kernel, rfl⟩
theorem d_MD_count_105 : PCi b_MD_count 105 0 106 := Or.inl ⟨0, by decide +kernel, by decide, rfl⟩
theorem d_MD_count_106 : PSi b_MD_count 106 3 107 := Or.inl ⟨3, by decide +kernel, rfl, rfl⟩
theorem d_MD_count_107 : PLi b_MD_count 107 3 108 := Or.inl ⟨3, by decide +kernel, rfl, rfl⟩
theorem d_MD_count_108 : PLa b_MD_count 108 0 109 := Or.inl ⟨0, by decide +kernel, rfl, rfl⟩
theorem d_MD_count_109 : DR b_MD_count 109 (.getfield 90) 3 112 := ⟨by decide +kernel, rfl⟩
theorem d_MD_count_112 : DJ b_MD_count 112 (.if_icmp .ge) 115 129 := ⟨17, by decide +kernel, rfl, by decide⟩
theorem d_MD_count_115 : PLi b_MD_count 115 2 116 := Or.inl ⟨2, by decide +kernel, rfl, rfl⟩
theorem d_MD_count_116 : PLa b_MD_count 116 0 117 := Or.inl ⟨0, by decide +kernel, rfl, rfl⟩
theorem d_MD_count_117 : PLi b_MD_count 117 3 118 := Or.inl ⟨3, by decide +kernel, rfl, rfl⟩
theorem d_MD_count_118 : DR b_MD_count 118 (.invokevirtual 339) 3 121 := ⟨by decide +kernel, rfl⟩
theorem d_MD_count_121 : DR b_MD_count 121 (.iadd) 1 122 := ⟨by decide +kernel, rfl⟩
theorem d_MD_count_122 : PSi b_MD_count 122 2 123 := Or.inl ⟨2, by decide +kernel, rfl, rfl⟩
theorem d_MD_count_123 : DR b_MD_count 123 (.iinc 3 1) 3 126 := ⟨by decide +kernel, rfl⟩
theorem d_MD_count_126 : DJ b_MD_count 126 .goto 129 107 := ⟨-19, by decide +kernel, rfl, by decide⟩
theorem d_MD_count_129 : PLi b_MD_count 129 2 130 := Or.inl ⟨2, by decide +kernel, rfl, rfl⟩
theorem d_MD_count_130 : DR b_MD_count 130 (.ireturn) 1 131 := ⟨by decide +kernel, rfl⟩
theorem d_MD_count_131 : PLa b_MD_count 131 0 132 := Or.inl ⟨0, by decide +kernel, rfl, rfl⟩
theorem d_MD_count_132 : DR b_MD_count 132 (.getfield 101) 3 135 := ⟨by decide +kernel, rfl⟩
theorem d_MD_count_135 : DR b_MD_count 135 (.ireturn) 1 136 := ⟨by decide +kernel, rfl⟩
theorem d_MD_count_136 : PLa b_MD_count 136 0 137 := Or.inl ⟨0, by decide +kernel, rfl, rfl⟩
theorem d_MD_count_137 : DR b_MD_count 137 (.getfield 330) 3 140 := ⟨by decide +kernel, rfl⟩
theorem d_MD_count_140 : DR b_MD_count 140 (.ireturn) 1 141 := ⟨by decide +kernel, rfl⟩
theorem d_MD_count_141 : PLa b_MD_count 141 0 142 := Or.inl ⟨0, by decide +kernel, rfl, rfl⟩
theorem d_MD_count_142 : DR b_MD_count 142 (.getfield 157) 3 145 := ⟨by decide +kernel, rfl⟩
theorem d_MD_count_145 : DR b_MD_count 145 (.ireturn) 1 146 := ⟨by decide +kernel, rfl⟩
theorem d_MD_count_146 : PCi b_MD_count 146 (-9) 148 := Or.inr (Or.inl ⟨(-9), by decide +kernel, by decide, rfl⟩)
theorem d_MD_count_148 : DR b_MD_count 148 (.ireturn) 1 149 := ⟨by decide +kernel, rfl⟩
set_option maxRecDepth 20000 in
theorem BH_MD_count_80 {G : MCx} (hC : C0 G "AccusedChooseModel" b_MD_count 4 2) (K80 : Int32 × Int32 × St → Option (Int32 × St)) (hK80 : ∀ (w2 : Int32) (w3 : Int32) (s : St), VO G (RI G b_MD_count) (K80 (w2, w3, s)) 80 [(0, .ref (gad G 58)), (2, .int w2), (3, .int w3)] [] s) (v2 : Int32) (v3 : Int32) (s : St) : VO G (RI G b_MD_count) (H_MD_count_80 K80 v2 v3 s) 80 [(0, .ref (gad G 58)), (2, .int v2), (3, .int v3)] [] s := by
  unfold H_MD_count_80
  refine VO_iload hC d_MD_count_80 2 rfl ?_
  refine VO_aload hC d_MD_count_81 0 rfl ?_
  refine VO_geti hC fl_MD_90 sh_MD rfl d_MD_count_82 ?_
  refine VO_icmp_ge hC d_MD_count_85 (fun _ => ?_) (fun _ => ?_)
  · refine VO_iload hC d_MD_count_103 1 rfl ?_
    exact VO_ireturn d_MD_count_104
  · refine VO_iload hC d_MD_count_88 1 rfl ?_
    refine VO_aload hC d_MD_count_89 0 rfl ?_
    refine VO_getr (r := 62) hC fl_MD_19 sh_MD rfl d_MD_count_90 ?_
    refine VO_iload hC d_MD_count_93 2 rfl ?_
    refine VO_iaload hC ia_62 d_MD_count_94 (fun x2 => ?_)
    refine VO_iadd hC d_MD_count_95 ?_
    refine VO_istoreB hC d_MD_count_96 [(0, .ref (gad G 58)), (3, .int v3)] rfl (by decide) (fun x3 => ?_)
    refine VO_iinc hC d_MD_count_97 2 rfl (by decide : Int32.ofInt 1 = 1) [(2, .int x3), (0, .ref (gad G 58))] rfl (by decide) ?_
    refine VO_goto hC d_MD_count_100 ?_
    exact VO_sub [2, 1, 0] rfl (hK80 x3 (v3 + 1) s)
set_option maxRecDepth 20000 in
theorem B_MD_count_80 {G : MCx} (hC : C0 G "AccusedChooseModel" b_MD_count 4 2) (v2 : Int32) (v3 : Int32) (s : St) : VO G (RI G b_MD_count) (F_MD_count_80 v2 v3 s) 80 [(0, .ref (gad G 58)), (2, .int v2), (3, .int v3)] [] s := by
  exact VO_fix (G_MD_count_80) 80 (fun q => [(0, .ref (gad G 58)), (2, .int q.1), (3, .int q.2.1)]) (fun q => q.2.2) (fun K hK q => BH_MD_count_80 hC K (fun w2 w3 s => hK (w2, w3, s)) q.1 q.2.1 q.2.2) FUEL (v2, v3, s)
set_option maxRecDepth 20000 in
theorem BH_MD_count_107 {G : MCx} (hC : C0 G "AccusedChooseModel" b_MD_count 4 2) (K107 : Int32 × Int32 × St → Option (Int32 × St)) (hK107 : ∀ (w2 : Int32) (w3 : Int32) (s : St), VO G (RI G b_MD_count) (K107 (w2, w3, s)) 107 [(0, .ref (gad G 58)), (2, .int w2), (3, .int w3)] [] s) (v2 : Int32) (v3 : Int32) (s : St) : VO G (RI G b_MD_count) (H_MD_count_107 K107 v2 v3 s) 107 [(0, .ref (gad G 58)), (2, .int v2), (3, .int v3)] [] s := by
  unfold H_MD_count_107
  refine VO_iload hC d_MD_count_107 2 rfl ?_
  refine VO_aload hC d_MD_count_108 0 rfl ?_
  refine VO_geti hC fl_MD_90 sh_MD rfl d_MD_count_109 ?_
  refine VO_icmp_ge hC d_MD_count_112 (fun _ => ?_) (fun _ => ?_)
  · refine VO_iload hC d_MD_count_129 1 rfl ?_
    exact VO_ireturn d_MD_count_130
  · refine VO_iload hC d_MD_count_115 1 rfl ?_
    refine VO_aload hC d_MD_count_116 0 rfl ?_
    refine VO_iload hC d_MD_count_117 2 rfl ?_
    refine VO_callVI hC [.int v3] [.int v2] ml_MD_339 d_MD_count_118 yv_MD_alibisOf sh_MD rfl rfl (fun o h => M_MD_alibisOf hC.inj h) (by decide) rfl rfl (Nat.le_of_ble_eq_true rfl) (fun o4 => ?_)
    refine VO_iadd hC d_MD_count_121 ?_
    refine VO_istoreB hC d_MD_count_122 [(0, .ref (gad G 58)), (3, .int v3)] rfl (by decide) (fun x5 => ?_)
    refine VO_iinc hC d_MD_count_123 2 rfl (by decide : Int32.ofInt 1 = 1) [(2, .int x5), (0, .ref (gad G 58))] rfl (by decide) ?_
    refine VO_goto hC d_MD_count_126 ?_
    exact VO_sub [2, 1, 0] rfl (hK107 x5 (v3 + 1) o4.2)
set_option maxRecDepth 20000 in
theorem B_MD_count_107 {G : MCx} (hC : C0 G "AccusedChooseModel" b_MD_count 4 2) (v2 : Int32) (v3 : Int32) (s : St) : VO G (RI G b_MD_count) (F_MD_count_107 v2 v3 s) 107 [(0, .ref (gad G 58)), (2, .int v2), (3, .int v3)] [] s := by
  exact VO_fix (G_MD_count_107) 107 (fun q => [(0, .ref (gad G 58)), (2, .int q.1), (3, .int q.2.1)]) (fun q => q.2.2) (fun K hK q => BH_MD_count_107 hC K (fun w2 w3 s => hK (w2, w3, s)) q.1 q.2.1 q.2.2) FUEL (v2, v3, s)
set_option maxRecDepth 20000 in
theorem B_MD_count {G : MCx} (hC : C0 G "AccusedChooseModel" b_MD_count 4 2) (a1 : Int32) (s : St) : VO G (RI G b_MD_count) (F_MD_count a1 s) 0 [(0, .ref (gad G 58)), (1, .int a1)] [] s := by
  unfold F_MD_count
  refine VO_iload hC d_MD_count_0 1 rfl ?_
  refine VO_const hC d_MD_count_1 ?_
  refine VO_const hC d_MD_count_3 ?_
  refine VO_callSI hC [.int a1, .int (11 : Int32), .int (16 : Int32)] [] ml_MD_115 d_MD_count_5 ys_MD_isIn (fun o h => M_MD_isIn hC.inj h) (by decide) rfl rfl (Nat.le_of_ble_eq_true rfl) (fun o1 => ?_)
  refine VO_if_eq hC d_MD_count_8 (fun _ => ?_) (fun _ => ?_)
  · refine VO_const hC d_MD_count_21 ?_
    refine VO_istore hC d_MD_count_22 [(0, .ref (gad G 58)), (1, .int a1)] rfl (by decide) ?_
    refine VO_iload hC d_MD_count_23 2 rfl ?_
    refine VO_ite (fun c24_0 => ?_) (fun c24_0 => ?_)
    · refine VO_tin (tgt := 68) (off := (44 : Int)) hC d_MD_count_24 (by rw [c24_0]; decide) (by rw [c24_0]; decide) (by first | (rw [c24_0]; done) | (rw [c24_0]; rfl)) (by decide) ?_
      refine VO_aload hC d_MD_count_68 1 rfl ?_
      refine VO_geti hC fl_MD_90 sh_MD rfl d_MD_count_69 ?_
      exact VO_ireturn d_MD_count_72
    refine VO_ite (fun c24_1 => ?_) (fun c24_1 => ?_)
    · refine VO_tin (tgt := 73) (off := (49 : Int)) hC d_MD_count_24 (by rw [c24_1]; decide) (by rw [c24_1]; decide) (by first | (rw [c24_1]; done) | (rw [c24_1]; rfl)) (by decide) ?_
      refine VO_aload hC d_MD_count_73 1 rfl ?_
      refine VO_geti hC fl_MD_84 sh_MD rfl d_MD_count_74 ?_
      exact VO_ireturn d_MD_count_77
    refine VO_ite (fun c24_2 => ?_) (fun c24_2 => ?_)
    · refine VO_tin (tgt := 78) (off := (54 : Int)) hC d_MD_count_24 (by rw [c24_2]; decide) (by rw [c24_2]; decide) (by first | (rw [c24_2]; done) | (rw [c24_2]; rfl)) (by decide) ?_
      refine VO_const hC d_MD_count_78 ?_
      refine VO_istore hC d_MD_count_79 [(2, .int (0 : Int32)), (0, .ref (gad G 58)), (1, .int a1)] rfl (by decide) ?_
      exact VO_sub [2, 1, 0] rfl (B_MD_count_80 hC (0 : Int32) (0 : Int32) o1.2)
    refine VO_ite (fun c24_3 => ?_) (fun c24_3 => ?_)
    · refine VO_tin (tgt := 105) (off := (81 : Int)) hC d_MD_count_24 (by rw [c24_3]; decide) (by rw [c24_3]; decide) (by first | (rw [c24_3]; done) | (rw [c24_3]; rfl)) (by decide) ?_
      refine VO_const hC d_MD_count_105 ?_
      refine VO_istore hC d_MD_count_106 [(2, .int (0 : Int32)), (0, .ref (gad G 58)), (1, .int a1)] rfl (by decide) ?_
      exact VO_sub [2, 1, 0] rfl (B_MD_count_107 hC (0 : Int32) (0 : Int32) o1.2)
    refine VO_ite (fun c24_4 => ?_) (fun c24_4 => ?_)
    · refine VO_tin (tgt := 131) (off := (107 : Int)) hC d_MD_count_24 (by rw [c24_4]; decide) (by rw [c24_4]; decide) (by first | (rw [c24_4]; done) | (rw [c24_4]; rfl)) (by decide) ?_
      refine VO_aload hC d_MD_count_131 1 rfl ?_
      refine VO_geti hC fl_MD_101 sh_MD rfl d_MD_count_132 ?_
      exact VO_ireturn d_MD_count_135
    refine VO_ite (fun c24_5 => ?_) (fun c24_5 => ?_)
    · refine VO_tin (tgt := 136) (off := (112 : Int)) hC d_MD_count_24 (by rw [c24_5]; decide) (by rw [c24_5]; decide) (by first | (rw [c24_5]; done) | (rw [c24_5]; rfl)) (by decide) ?_
      refine VO_aload hC d_MD_count_136 1 rfl ?_
      refine VO_geti hC fl_MD_330 sh_MD rfl d_MD_count_137 ?_
      exact VO_ireturn d_MD_count_140
    refine VO_ite (fun c24_6 => ?_) (fun c24_6 => ?_)
    · refine VO_tin (tgt := 141) (off := (117 : Int)) hC d_MD_count_24 (by rw [c24_6]; decide) (by rw [c24_6]; decide) (by first | (rw [c24_6]; done) | (rw [c24_6]; rfl)) (by decide) ?_
      refine VO_aload hC d_MD_count_141 1 rfl ?_
      refine VO_geti hC fl_MD_157 sh_MD rfl d_MD_count_142 ?_
      exact VO_ireturn d_MD_count_145
    refine VO_tout (tgt := 146) hC d_MD_count_24 (by have e0 := lv_neT (a := 0) c24_0 rfl; have e1 := lv_neT (a := 1) c24_1 rfl; have e2 := lv_neT (a := 2) c24_2 rfl; have e3 := lv_neT (a := 3) c24_3 rfl; have e4 := lv_neT (a := 4) c24_4 rfl; have e5 := lv_neT (a := 5) c24_5 rfl; have e6 := lv_neT (a := 6) c24_6 rfl; omega) (by decide) ?_
    refine VO_const hC d_MD_count_146 ?_
    exact VO_ireturn d_MD_count_148
  · refine VO_aload hC d_MD_count_11 0 rfl ?_
    refine VO_getr (r := 59) hC fl_MD_7 sh_MD rfl d_MD_count_12 ?_
    refine VO_iload hC d_MD_count_15 1 rfl ?_
    refine VO_const hC d_MD_count_16 ?_
    refine VO_isub hC d_MD_count_18 ?_
    refine VO_iaload hC ia_59 d_MD_count_19 (fun x6 => ?_)
    exact VO_ireturn d_MD_count_20
set_option maxRecDepth 20000 in
theorem M_MD_count {l : Launch} {D : va_G} {ad : Nat → Nat} {cI cL : ClassId} (hj : Inj ad) {a1 : Int32} {s : St} {o : Int32 × St} (h : F_MD_count a1 s = some o) : Cn l D ad cI cL y_MD_count b_MD_count 4 (some .int) 2 [.ref (ad 58), .int a1] s (some (.int o.1)) o.2 := by
  refine Cn_ofI hj (plainFor_of_name (by decide)) (Nat.le_of_ble_eq_true rfl) [(0, .ref (ad 58)), (1, .int a1)] rfl (fun G hC e1 e2 e3 e4 e5 hR => ?_)
  subst e1; subst e2; subst e3; subst e4; subst e5
  exact B_MD_count hC a1 s o h hR
