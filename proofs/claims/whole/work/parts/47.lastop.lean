-- the last word
theorem op_lastWord (a : Int32) : Ask (F_AC_lastWord a) (F_MD_lastWord a) := by
  intro σ h
  obtain ⟨A, hall⟩ := id h
  have hN := hall.1
  obtain ⟨hO, hD, hA, hM, hg⟩ := id hN
  have hP := hO.P
  rcases perC hA hO a with ⟨p, hp, rfl⟩ | ho
  · have hod := hO.od
    have pf := hod.plc_lt hp
    obtain ⟨s1, a1, a2, hN1, a3⟩ := fillN hN
    obtain ⟨s2, b1, b2, hN2, b3⟩ := mAtC hN1 a3 hp (j := nP A - 1) (by omega)
    obtain ⟨s3, c1, c2, c3⟩ := turnRoundC hN2
    have hN3 : NowI s3 A := hN2.q (Qf.of c2 (by decide))
    have hrv := hod.rv
    obtain ⟨s4, d1, d2, d3⟩ := moveC hP hN3.2.2.1.2.1 hrv c3 hp (j := nP A - 1) (by omega)
    have hN4 : NowI s4 A := hN3.q (Qf.of d2 (by decide))
    have hpl : plc (rvO (nP A) (nOd A)) p (nP A) = nP A - 1 - plc (nOd A) p (nP A) := by
      refine hrv.2 _ _ (hrv.plc_lt hp) (by omega) ((hrv.od_plc hp).trans ?_)
      show p = nOd A (nP A - 1 - (nP A - 1 - plc (nOd A) p (nP A)))
      rw [show nP A - 1 - (nP A - 1 - plc (nOd A) p (nP A)) = plc (nOd A) p (nP A) by omega, hod.od_plc hp]
    rw [hpl] at d3
    have hO4 : OdOK (nP A) (mvO (rvO (nP A) (nOd A)) (nP A - 1 - plc (nOd A) p (nP A)) (nP A - 1)) := hrv.mv (by omega) (by omega)
    obtain ⟨s5, e1, e2, e3⟩ := holdLineC hN4.2.2.1 hO (b3.fr (c2.two d2) (by decide) (by decide)) hO4 d3
    have hq5 : Qf (nD A) σ s5 := ((((Qf.of a2 (by decide)).tr (Qf.of b2 (by decide))).tr (Qf.of c2 (by decide))).tr (Qf.of d2 (by decide))).tr (Qf.of e2 (by decide))
    have hN5 : NowI s5 A := hN4.q (Qf.of e2 (by decide))
    obtain ⟨s6, f1, f2, f3⟩ := monthsAtM hN5.2.2.2.1 hO hN5.2.2.2.2 hp (j := nP A - 1) (by omega)
    have hN6 : NowI s6 A := hN5.q (Qf.of f2 (by decide))
    have hcong := lastOrd (od := nOd A) pf
    have hO6 : OdOK (nP A) (rwO (nP A) (mvO (nOd A) (plc (nOd A) p (nP A)) (nP A - 1)) ((nP A - 1) / 2)) :=
      ⟨fun k hk => by rw [← hcong k hk]; exact hO4.1 k hk, fun j k hj hk e => hO4.2 j k hj hk (by rw [hcong j hj, hcong k hk]; exact e)⟩
    have hx : mAt A p (nP A - 1) ≤ 78 := mAt_le hO hp
    obtain ⟨s7, g1, g2⟩ := lastM hN6 (fun k hk => (f3 k hk).2) hp hO6 (x := mAt A p (nP A - 1)) (by omega)
    have hmo : moO (prA 7 A) (mvO (rvO (nP A) (nOd A)) (nP A - 1 - plc (nOd A) p (nP A)) (nP A - 1)) 0 p = moO (prA 7 A) (rwO (nP A) (mvO (nOd A) (plc (nOd A) p (nP A)) (nP A - 1)) ((nP A - 1) / 2)) 0 p := moO_cong (Z := prA 7 A) hO4 hp hcong
    have hle : moO (prA 7 A) (mvO (rvO (nP A) (nOd A)) (nP A - 1 - plc (nOd A) p (nP A)) (nP A - 1)) 0 p ≤ 78 := moO_le (prA_ok hO 7) hp
    refine ⟨nI (min (mAt A p (nP A - 1)) (moO (prA 7 A) (mvO (rvO (nP A) (nOd A)) (nP A - 1 - plc (nOd A) p (nP A)) (nP A - 1)) 0 p)), s5, s7, ?_, ?_, INV.q hall ((hq5.tr (Qf.of f2 (by decide))).tr (Qf.of g2 (by decide)))⟩
    · unfold F_AC_lastWord
      rw [hasPersonC_in hA hO hp, Option.bind_some, if1, a1, Option.bind_some, show rd s1 1 1 = nI (nP A) from hN1.2.2.1.2.1, nI_dec (by omega), b1, Option.bind_some]
      simp only
      rw [c1, Option.bind_some, show rd s3 1 1 = nI (nP A) from hN3.2.2.1.2.1, nI_dec (by omega), d1, Option.bind_some, e1, Option.bind_some, atC al_45 (by omega), Option.bind_some]
      simp only
      rw [(e3.2.2.2.2 p hp).2, minC (by omega) (by omega), Option.bind_some]
    · unfold F_MD_lastWord
      rw [isPersonM_in hN5.2.2.2.1 hO hp, Option.bind_some, if1, show rd s5 58 10 = nI (nP A) from hN5.2.2.2.1.1.2.1, nI_dec (by omega), f1, Option.bind_some, hmo]
      exact g1
  · refine Ask.no h (k := 1) (x := -1) (by decide) (by decide) ?_ (fun τ hτ => ?_)
    · unfold F_AC_lastWord
      rw [hasPersonC_out hA hO ho, Option.bind_some, if0, bid]
    · unfold F_MD_lastWord
      rw [isPersonM_out (hN.r57 hτ).2.2.2.1 ho, Option.bind_some, if0, bid]
