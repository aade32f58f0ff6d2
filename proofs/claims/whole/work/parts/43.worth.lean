-- placeWorth, latest
/-- months of one at a place of the line -/
def mAt (A : Nt) (p j : Nat) : Nat := moO (prA 7 A) (mvO (nOd A) (plc (nOd A) p (nP A)) j) 0 p
theorem mAt_le {A : Nt} (hO : OkN A) {p j : Nat} (hp : p < nP A) : mAt A p j ≤ 78 := moO_le (prA_ok hO 7) hp
theorem fillN {σ : St} {A : Nt} (hN : NowI σ A) : ∃ s1, F_PR_fill 36 1 σ = some s1 ∧ Fr [36, 37] σ s1 ∧ NowI s1 A ∧ PrC s1 36 (prA 7 A) := by
  obtain ⟨s1, a1, a2, a3⟩ := fillC isPR_36 isNI_1 hN.2.2.1 hN.1
  exact ⟨s1, a1, a2, hN.q (Qf.of a2 (by decide)), a3⟩
theorem mAtC {σ : St} {A : Nt} (hN : NowI σ A) (hPr : PrC σ 36 (prA 7 A)) {p j : Nat} (hp : p < nP A) (hj : j < nP A) : ∃ s, F_AC_monthsAt (nI p) (nI p) (nI j) σ = some (nI (mAt A p j), s) ∧ Fr [43, 44, 45, 54] σ s ∧ NowI s A ∧ PrC s 36 (prA 7 A) := by
  obtain ⟨s, a1, a2, a3⟩ := monthsAtC hN.2.2.1 hN.1 hPr hp hp hj
  exact ⟨s, a1, a2, hN.q (Qf.of a2 (by decide)), hPr.fr a2 (by decide) (by decide)⟩
theorem mAtM {σ : St} {A : Nt} (hN : NowI σ A) {p j : Nat} (hp : p < nP A) (hj : j < nP A) : ∃ s, F_MD_monthsAt (nI p) (nI j) σ = some (nI (mAt A p j), s) ∧ Fr [73, 74] σ s ∧ NowI s A := by
  obtain ⟨s, a1, a2, a3⟩ := monthsAtM hN.2.2.2.1 hN.1 hN.2.2.2.2 hp hj
  exact ⟨s, a1, a2, hN.q (Qf.of a2 (by decide))⟩
theorem op_placeWorth (a : Int32) : Ask (F_AC_placeWorth a) (F_MD_placeWorth a) := by
  intro σ h
  obtain ⟨A, hall⟩ := id h
  have hN := hall.1
  obtain ⟨hO, hD, hA, hM, hg⟩ := id hN
  have hP := hO.P
  rcases perC hA hO a with ⟨p, hp, rfl⟩ | ho
  · obtain ⟨s1, a1, a2, hN1, a3⟩ := fillN hN
    obtain ⟨s2, b1, b2, hN2, b3⟩ := mAtC hN1 a3 hp (j := nP A - 1) (by omega)
    obtain ⟨s3, c1, c2, hN3, c3⟩ := mAtC hN2 b3 hp (j := 0) (by omega)
    obtain ⟨s4, d1, d2, hN4⟩ := mAtM hN3 hp (j := nP A - 1) (by omega)
    obtain ⟨s5, e1, e2, hN5⟩ := mAtM hN4 hp (j := 0) (by omega)
    refine ⟨nI (mAt A p (nP A - 1)) - nI (mAt A p 0), s3, s5, ?_, ?_, INV.q hall (((((Qf.of a2 (by decide)).tr (Qf.of b2 (by decide))).tr (Qf.of c2 (by decide))).tr (Qf.of d2 (by decide))).tr (Qf.of e2 (by decide)))⟩
    · unfold F_AC_placeWorth
      rw [hasPersonC_in hA hO hp, Option.bind_some, if1, a1, Option.bind_some, show rd s1 1 1 = nI (nP A) from hN1.2.2.1.2.1, nI_dec (by omega), b1, Option.bind_some, show F_AC_monthsAt (nI p) (nI p) 0 s2 = _ from c1, Option.bind_some]
    · unfold F_MD_placeWorth
      rw [isPersonM_in hN3.2.2.2.1 hO hp, Option.bind_some, if1, show rd s3 58 10 = nI (nP A) from hN3.2.2.2.1.1.2.1, nI_dec (by omega), d1, Option.bind_some, show F_MD_monthsAt (nI p) 0 s4 = _ from e1, Option.bind_some]
  · refine Ask.noBig h (k := 1) (x := -1) (by decide) (by decide) ?_ (fun τ hτ => ?_)
    · unfold F_AC_placeWorth
      rw [hasPersonC_out hA hO ho, Option.bind_some, if0, bid]
    · unfold F_MD_placeWorth
      rw [isPersonM_out (hN.r57 hτ).2.2.2.1 ho, Option.bind_some, if0, bid]
def laN (m : Nat → Nat) : Nat → Nat
  | 0 => 0
  | n + 1 => if m (n + 1) ≤ m 0 then n + 1 else laN m n
def woN (m : Nat → Nat) : Nat → Nat
  | 0 => m 0
  | n + 1 => max (woN m n) (m (n + 1))
theorem laN_le (m : Nat → Nat) : ∀ n, laN m n ≤ n
  | 0 => Nat.le_refl _
  | n + 1 => by
    have := laN_le m n
    unfold laN
    split <;> omega
theorem woN_le {m : Nat → Nat} (h : ∀ j, m j ≤ 78) : ∀ n, woN m n ≤ 78
  | 0 => h 0
  | n + 1 => Nat.max_le.mpr ⟨woN_le h n, h _⟩
theorem op_latest (a b : Int32) : Ask (F_AC_latest a b) (F_MD_latest a b) := by
  intro σ h
  obtain ⟨A, hall⟩ := id h
  have hN := hall.1
  obtain ⟨hO, hD, hA, hM, hg⟩ := id hN
  have hP := hO.P
  rcases perC hA hO a with ⟨p, hp, rfl⟩ | ho
  · rcases isIn_01 (σ := σ) (b := b) with ⟨hb, _⟩ | ⟨hb, _⟩
    · have hm : ∀ j, mAt A p j ≤ 78 := fun j => mAt_le hO hp
      obtain ⟨s1, a1, a2, hN1, a3⟩ := fillN hN
      obtain ⟨s2, b1, b2, hN2, b3⟩ := mAtC hN1 a3 hp (j := 0) (by omega)
      have hq2 : Qf (nD A) σ s2 := (Qf.of a2 (by decide)).tr (Qf.of b2 (by decide))
      obtain ⟨⟨w4, w5, w6, s3⟩, ⟨e4, e5, e6, hN3, e7, e8⟩, hr⟩ := fix_rel (f := G_AC_latest_61 (nI p) b (nI (mAt A p 0))) (n := nP A - 1) (s0 := (nI 0, nI (mAt A p 0), nI 1, s2)) (fun n x => x.1 = nI (laN (mAt A p) n) ∧ x.2.1 = nI (woN (mAt A p) n) ∧ x.2.2.1 = nI (n + 1) ∧ NowI x.2.2.2 A ∧ PrC x.2.2.2 36 (prA 7 A) ∧ Qf (nD A) σ x.2.2.2) (by rw [fuel_val]; omega) ⟨rfl, rfl, rfl, hN2, b3, hq2⟩ (by
        rintro n ⟨w4, w5, w6, s⟩ hn ⟨e4, e5, e6, hNs, e7, e8⟩
        simp only at e4 e5 e6 hNs e7 e8
        subst e4; subst e5; subst e6
        obtain ⟨t, c1, c2, hNt, c3⟩ := mAtC hNs e7 hp (j := n + 1) (by omega)
        have hla := laN_le (mAt A p) n
        have hwo := woN_le hm n
        have h1 := hm 0
        have h2 := hm (n + 1)
        refine ⟨(nI (laN (mAt A p) (n + 1)), nI (woN (mAt A p) (n + 1)), nI (n + 1 + 1), t), ⟨rfl, rfl, rfl, hNt, c3, e8.tr (Qf.of c2 (by decide))⟩, fun K => ?_⟩
        show H_AC_latest_61 (nI p) b (nI (mAt A p 0)) K (nI (laN (mAt A p) n)) (nI (woN (mAt A p) n)) (nI (n + 1)) s = _
        unfold H_AC_latest_61 F_AC_latest_93
        rw [show rd s 1 1 = nI (nP A) from hNs.2.2.1.2.1, if_neg (nI_ge (by omega) (by omega)), c1, Option.bind_some]
        simp only
        rw [maxC (by omega) (by omega), Option.bind_some, Option.bind_some, nI_1]
        by_cases c : mAt A p (n + 1) ≤ mAt A p 0
        · rw [if_neg (nI_nlt c (by omega))]
          have : laN (mAt A p) (n + 1) = n + 1 := if_pos c
          rw [this]; rfl
        · rw [if_pos (nI_lt (by omega) (by omega))]
          have : laN (mAt A p) (n + 1) = laN (mAt A p) n := if_neg c
          rw [this]; rfl)
      simp only at e4 e5 e6 hN3 e7 e8
      obtain ⟨s4, d1, d2, hN4⟩ := mAtM hN3 hp (j := 0) (by omega)
      obtain ⟨⟨u4, u5, u6, s5⟩, ⟨f4, f5, f6, hN5, f8⟩, hr5⟩ := fix_rel (f := G_MD_latest_56 (nI p) b (nI (mAt A p 0))) (n := nP A - 1) (s0 := (nI 0, nI (mAt A p 0), nI 1, s4)) (fun n x => x.1 = nI (laN (mAt A p) n) ∧ x.2.1 = nI (woN (mAt A p) n) ∧ x.2.2.1 = nI (n + 1) ∧ NowI x.2.2.2 A ∧ Qf (nD A) σ x.2.2.2) (by rw [fuel_val]; omega) ⟨rfl, rfl, rfl, hN4, e8.tr (Qf.of d2 (by decide))⟩ (by
        rintro n ⟨w4, w5, w6, s⟩ hn ⟨e4, e5, e6, hNs, e8⟩
        simp only at e4 e5 e6 hNs e8
        subst e4; subst e5; subst e6
        obtain ⟨t, c1, c2, hNt⟩ := mAtM hNs hp (j := n + 1) (by omega)
        have hla := laN_le (mAt A p) n
        have hwo := woN_le hm n
        have h1 := hm 0
        have h2 := hm (n + 1)
        refine ⟨(nI (laN (mAt A p) (n + 1)), nI (woN (mAt A p) (n + 1)), nI (n + 1 + 1), t), ⟨rfl, rfl, rfl, hNt, e8.tr (Qf.of c2 (by decide))⟩, fun K => ?_⟩
        show H_MD_latest_56 (nI p) b (nI (mAt A p 0)) K (nI (laN (mAt A p) n)) (nI (woN (mAt A p) n)) (nI (n + 1)) s = _
        unfold H_MD_latest_56 F_MD_latest_88 F_MD_latest_104
        rw [show rd s 58 10 = nI (nP A) from hNs.2.2.2.1.1.2.1, if_neg (nI_ge (by omega) (by omega)), c1, Option.bind_some]
        simp only
        rw [nI_1]
        have hwm : (if nI (mAt A p (n + 1)) ≤ nI (woN (mAt A p) n) then nI (woN (mAt A p) n) else nI (mAt A p (n + 1))) = nI (woN (mAt A p) (n + 1)) := by
          have : woN (mAt A p) (n + 1) = max (woN (mAt A p) n) (mAt A p (n + 1)) := rfl
          by_cases c : mAt A p (n + 1) ≤ woN (mAt A p) n
          · rw [if_pos (nI_le c (by omega)), this, Nat.max_eq_left c]
          · rw [if_neg (nI_ge (by omega) (by omega)), this, Nat.max_eq_right (by omega)]
        have hif : ∀ z : Int32, (if nI (mAt A p (n + 1)) ≤ nI (woN (mAt A p) n) then K (z, nI (woN (mAt A p) n), nI (n + 1 + 1), t) else K (z, nI (mAt A p (n + 1)), nI (n + 1 + 1), t)) = K (z, nI (woN (mAt A p) (n + 1)), nI (n + 1 + 1), t) := fun z => by
          rw [← hwm]
          split <;> rfl
        rw [hif, hif]
        by_cases c : mAt A p (n + 1) ≤ mAt A p 0
        · rw [if_neg (nI_nlt c (by omega))]
          have : laN (mAt A p) (n + 1) = n + 1 := if_pos c
          rw [this]
        · rw [if_pos (nI_lt (by omega) (by omega))]
          have : laN (mAt A p) (n + 1) = laN (mAt A p) n := if_neg c
          rw [this])
      simp only at f4 f5 f6 hN5 f8
      have hin : F_MD_isIn b 0 1 s3 = some (1, s3) := by
        rcases isIn_01 (σ := s3) (b := b) with ⟨_, e⟩ | ⟨hb2, _⟩
        · exact e
        · exfalso; rcases hb with rfl | rfl <;> revert hb2 <;> decide
      refine ⟨if b = 0 then nI (laN (mAt A p) (nP A - 1)) else nI (woN (mAt A p) (nP A - 1)), s3, s5, ?_, ?_, INV.q hall f8⟩
      · unfold F_AC_latest
        rw [hasPersonC_in hA hO hp, Option.bind_some, if1, in_01 hb, a1, Option.bind_some, show F_AC_monthsAt (nI p) (nI p) 0 s1 = _ from b1, Option.bind_some]
        show fixF (G_AC_latest_61 (nI p) b (nI (mAt A p 0))) FUEL (nI 0, nI (mAt A p 0), nI 1, s2) = _
        refine hr _ (fun K => ?_)
        show H_AC_latest_61 (nI p) b (nI (mAt A p 0)) K w4 w5 w6 s3 = _
        unfold H_AC_latest_61
        rw [e4, e5, e6, show rd s3 1 1 = nI (nP A) from hN3.2.2.1.2.1, if_pos (by rw [Nat.sub_add_cancel (by omega)]; exact Int32.le_refl _)]
        split <;> rfl
      · unfold F_MD_latest F_MD_latest_27
        rw [isPersonM_in hN3.2.2.2.1 hO hp, Option.bind_some, if1, hin, Option.bind_some, if1, if_pos rfl, show F_MD_monthsAt (nI p) 0 s3 = _ from d1, Option.bind_some]
        show fixF (G_MD_latest_56 (nI p) b (nI (mAt A p 0))) FUEL (nI 0, nI (mAt A p 0), nI 1, s4) = _
        refine hr5 _ (fun K => ?_)
        show H_MD_latest_56 (nI p) b (nI (mAt A p 0)) K u4 u5 u6 s5 = _
        unfold H_MD_latest_56
        rw [f4, f5, f6, show rd s5 58 10 = nI (nP A) from hN5.2.2.2.1.1.2.1, if_pos (by rw [Nat.sub_add_cancel (by omega)]; exact Int32.le_refl _)]
        split <;> rfl
    · refine Ask.no h (k := 2) (x := -2) (by decide) (by decide) ?_ (fun τ hτ => ?_)
      · unfold F_AC_latest F_AC_latest_26
        rw [hasPersonC_in hA hO hp, Option.bind_some, if1, out_01 hb, bid]
      · unfold F_MD_latest F_MD_latest_27
        rw [isPersonM_in (hN.r57 hτ).2.2.2.1 hO hp, Option.bind_some, if1, show (1 : Int32) = nI 1 from rfl, isIn_out (m := 1) (by decide) hb, Option.bind_some]
        simp only [if_true]
        rw [if_neg (by decide), bid]
  · refine Ask.no h (k := 1) (x := -1) (by decide) (by decide) ?_ (fun τ hτ => ?_)
    · unfold F_AC_latest
      rw [hasPersonC_out hA hO ho, Option.bind_some, if0, bid]
    · unfold F_MD_latest F_MD_latest_27
      rw [isPersonM_out (hN.r57 hτ).2.2.2.1 ho, Option.bind_some, if0, if_neg (by decide), bid]
