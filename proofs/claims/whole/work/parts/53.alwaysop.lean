theorem moveNone {σ : St} {x : Int32} (h1 : rd σ 1 1 = nI 0) : F_AC_moveInLine x (-1) σ = some σ := by
  have hpl : F_AC_placeIn 54 (nI 0) x σ = some (-9, σ) := placeInC_no al_54 (by decide) (by decide) (fun j hj => absurd hj (Nat.not_lt_zero _))
  have hput : F_AC_moveInLine_77 x (-1) σ = some σ := by
    unfold F_AC_moveInLine_77 F_AC_put
    rw [if_pos (by decide), Option.bind_some]
  unfold F_AC_moveInLine F_AC_moveInLine_26 F_AC_moveInLine_31
  rw [h1, hpl, Option.bind_some]
  simp only
  rw [if_neg (by decide)]
  refine fix_up (f := G_AC_moveInLine_31 x (-1) 1) (n := 0) (fun k => (-9, nI 0, σ)) (by rw [fuel_val]; omega) (fun K k hk => absurd hk (Nat.not_lt_zero _)) (fun K => ?_)
  show H_AC_moveInLine_31 x (-1) 1 K (-9) (nI 0) σ = _
  unfold H_AC_moveInLine_31
  rw [if_neg (by decide), if_pos n9_neg, hput]
/-- all but the first, then he -/
theorem lastFirstC {σ : St} {A : Nt} (hN : NowI σ A) : ∃ s7 s, F_AC_lineUp 9 σ = some s7 ∧ F_AC_at 9 0 s7 = some (rd s7 9 0, s7) ∧ rd s7 1 1 = nI (nP A) ∧ F_AC_moveInLine (rd s7 9 0) (nI (nP A) - 1) s7 = some s ∧ Fr [54] σ s ∧ ∀ k, k < nP A → rd s 54 k = nI (roO (nP A) (nOd A) k) := by
  have hP := hN.1.P
  have ho := hN.1.od
  have hod : ∀ k, k < nP A → rd σ 9 k = nI (nOd A k) := fun k hk => (hN.2.2.1.2.2.2 k hk).2.2.2.2.2
  obtain ⟨s1, a1, a2, a3⟩ := lineUpC (c := 9) al_9 (by decide) hP hod
  have e1 : rd s1 1 1 = nI (nP A) := (a2.at (by decide) 1).trans hN.2.2.1.2.1
  have hat : F_AC_at 9 0 s1 = some (rd s1 9 0, s1) := atC (k := 0) al_9 (by decide)
  by_cases h0 : nP A = 0
  · refine ⟨s1, s1, a1, hat, e1, ?_, a2, fun k hk => absurd hk (by omega)⟩
    rw [h0, show nI 0 - 1 = (-1 : Int32) from rfl]
    exact moveNone (by rw [e1, h0])
  · obtain ⟨s2, b1, b2, b3⟩ := moveC hP e1 ho a3 (p := nOd A 0) (ho.1 0 (by omega)) (j := nP A - 1) (by omega)
    refine ⟨s1, s2, a1, hat, e1, ?_, a2.two b2, fun k hk => ?_⟩
    · rw [a2.at (by decide) 0, hod 0 (by omega), nI_dec (by omega)]; exact b1
    · rw [b3 k hk, ho.plc_od (by omega), ro_eq (by omega) k hk]
theorem OdOK.ro {P : Nat} {od : Nat → Nat} (h : OdOK P od) : OdOK P (roO P od) := by
  by_cases h0 : P = 0
  · exact ⟨fun k hk => absurd hk (by omega), fun j k hj _ _ => absurd hj (by omega)⟩
  · have hm : OdOK P (mvO od 0 (P - 1)) := h.mv (by omega) (by omega)
    exact ⟨fun k hk => by rw [← ro_eq (by omega) k hk]; exact hm.1 k hk, fun j k hj hk e => hm.2 j k hj hk (by rw [ro_eq (by omega) j hj, ro_eq (by omega) k hk]; exact e)⟩
theorem op_always : Ask F_AC_always F_MD_always := by
  intro σ h
  obtain ⟨A, hall⟩ := id h
  have hN := hall.1
  have hO := hN.1
  have hP := hO.P
  have hD := hO.D
  have ho := hO.od
  -- the class
  obtain ⟨s1, a1, a2, hN1, a3, a4⟩ := todayC hN
  obtain ⟨s2, b1, b2, b3⟩ := turnRoundC hN1
  have hN2 : NowI s2 A := hN1.q (Qf.of b2 (by decide))
  have p2 := a3.fr b2 (by decide) (by decide)
  obtain ⟨s3, c1, c2, c3⟩ := holdLineC hN2.2.2.1 hO p2 ho.rv b3
  have hN3 : NowI s3 A := hN2.q (Qf.of c2 (by decide))
  have p3 := p2.fr c2 (by decide) (by decide)
  obtain ⟨s7, s4, d1, d2, d3, d4, d5, d6⟩ := lastFirstC hN3
  have hN4 : NowI s4 A := hN3.q (Qf.of d5 (by decide))
  have p4 := p3.fr d5 (by decide) (by decide)
  obtain ⟨s5, e1, e2, e3⟩ := holdLineC hN4.2.2.1 hO p4 ho.ro d6
  have hN5 : NowI s5 A := hN4.q (Qf.of e2 (by decide))
  have hq5 : Qf (nD A) σ s5 := ((((Qf.of a2 (by decide)).tr (Qf.of b2 (by decide))).tr (Qf.of c2 (by decide))).tr (Qf.of d5 (by decide))).tr (Qf.of e2 (by decide))
  -- the model
  obtain ⟨t1, f1, f2, hM1, f3, f4⟩ := todayM hN5
  have g1 := tkB hM1 ho f4
  obtain ⟨t2, l1, l2, l3⟩ := lineByM (x := nI (mT (prA 7 A) (nOd A) 0 (nP A))) hM1
  have hM2 : NowI t2 A := hM1.q (Qf.of l2 (by decide))
  obtain ⟨t3, m1, m2, hM3, m3⟩ := goByN hM2 ho.rv l3
  have g2 := tkB hM3 ho.rv m3
  obtain ⟨t4, o1, o2, o3⟩ := lineByM2 (x := nI (mT (prA 7 A) (nOd A) 0 (nP A) &&& mT (prA 7 A) (rvO (nP A) (nOd A)) 0 (nP A))) hM3
  have hM4 : NowI t4 A := hM3.q (Qf.of o2 (by decide))
  obtain ⟨t5, r1, r2, hM5, r3⟩ := goByN hM4 ho.ro o3
  have g3 := tkB hM5 ho.ro r3
  have hq : Qf (nD A) σ t5 := ((((hq5.tr (Qf.of f2 (by decide))).tr (Qf.of l2 (by decide))).tr (Qf.of m2 (by decide))).tr (Qf.of o2 (by decide))).tr (Qf.of r2 (by decide))
  have hb1 : nI (2 ^ nD A - 1) &&& (nI (fr (nD A) (mT (prA 7 A) (nOd A) 0 (nP A))) ^^^ (-1)) = nI (mT (prA 7 A) (nOd A) 0 (nP A)) := by
    rw [nfr hD (fun i hi => by rw [Nat.testBit_two_pow_sub_one] at hi; exact of_decide_eq_true hi)]
    congr 1
    apply Nat.eq_of_testBit_eq
    intro i
    rw [Nat.testBit_and, Nat.testBit_two_pow_sub_one]
    cases c : (mT (prA 7 A) (nOd A) 0 (nP A)).testBit i with
    | false => simp
    | true => have := mT_in c; simp [this]
  refine ⟨nI (mT (prA 7 A) (nOd A) 0 (nP A) &&& mT (prA 7 A) (rvO (nP A) (nOd A)) 0 (nP A) &&& mT (prA 7 A) (roO (nP A) (nOd A)) 0 (nP A)), s5, t5, ?_, ?_, INV.q hall hq⟩
  · unfold F_AC_always
    rw [allDeedsC hN.2.2.1 hO, Option.bind_some]
    simp only
    rw [a1, Option.bind_some, show rd s1 40 3 = nI (fr (nD A) (mT (prA 7 A) (nOd A) 0 (nP A))) from a4.2.1, hb1, Option.bind_some, b1, Option.bind_some, c1, Option.bind_some, show rd s3 43 3 = nI (fr (nD A) (mT (prA 7 A) (rvO (nP A) (nOd A)) 0 (nP A))) from c3.2.1, nfr hD (fun i hi => mT_in hi), Option.bind_some, d1, Option.bind_some, d2, Option.bind_some]
    simp only
    rw [d3, d4, Option.bind_some, e1, Option.bind_some, show rd s5 43 3 = nI (fr (nD A) (mT (prA 7 A) (roO (nP A) (nOd A)) 0 (nP A))) from e3.2.1, nfr hD (fun i hi => by rw [Nat.testBit_and, Bool.and_eq_true] at hi; exact mT_in hi.1)]
  · unfold F_MD_always
    rw [f1, Option.bind_some, g1, Option.bind_some]
    simp only
    rw [l1, m1, Option.bind_some, g2, Option.bind_some]
    simp only
    rw [Option.bind_some, fa_and, o1, r1, Option.bind_some, g3, Option.bind_some, fa_and]
