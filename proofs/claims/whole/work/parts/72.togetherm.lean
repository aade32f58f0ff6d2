-- together: the model
theorem tgI_end {A : Nt} {U n S d : Nat} (h : mk1 (prA 7 A) (nOd A (nP A - (n + 1))) S = some d) : (match tgB A U n S (nD A) with | none => tgC A U n S d | some b => min (tgC A U n S b) (tgC A U n S d)) = match tgB A U n S (nD A) with | none => 60 + tgN A U n S | some b => tgC A U n S b := by
  have h1 := bestN_in h
  have hm : tgM A n S d = true := h1.2
  have hd : d < nD A := h1.1
  obtain ⟨i1, i2⟩ := bestN_spec (m := tgM A n S) (c := tgC A U n S) (k := nD A)
  cases e : tgB A U n S (nD A) with
  | none =>
    have := i2 e d hd
    rw [hm] at this
    cases this
  | some b =>
    have := (i1 b e).1 d hd hm
    show min _ _ = _
    exact Nat.min_eq_left this
theorem fewestM {σ : St} {A : Nt} {U : Nat} (hM : MdN σ A 7) (hO : OkN A) (hD : nD A ≤ 7) (hU : U < 128) : ∃ s, F_MD_fewestOf (nI U) σ = some (nI (tgN A U (nP A) 0), s) ∧ Fr [75] σ s := by
  have hP := hO.P
  have hz := prA_ok hO 7
  have inner : ∀ n s, n < nP A → Fr [75] σ s → (∀ m, m ≤ n → LvM A (tgN A U) m s) → ∃ s', Fr [75] σ s' ∧ (∀ m, m ≤ n + 1 → LvM A (tgN A U) m s') ∧ ∀ K, F_MD_fewestOf_52 K (nI U) (nI (nP A - (n + 1))) (nI (nOd A (nP A - (n + 1)))) 0 s = K (nI (nP A - (n + 1)) - 1, s') := by
    intro n s hn hs htab
    have hp := hO.od.1 (nP A - (n + 1)) (by omega)
    obtain ⟨⟨w, s'⟩, ⟨hw, hf, h1, h2⟩, hr⟩ := fix_relK (f := fun K : Int32 × St → Option (Int32 × St) => G_MD_fewestOf_52 K (nI U) (nI (nP A - (n + 1))) (nI (nOd A (nP A - (n + 1))))) (n := 128) (s0 := (nI 0, s)) (fun S q => q.1 = nI S ∧ Fr [75] σ q.2 ∧ (∀ m, m ≤ n → LvM A (tgN A U) m q.2) ∧ ∀ S', S' < S → rd q.2 75 (128 * (nP A - (n + 1)) + S') = nI (tgN A U (n + 1) S')) (by rw [fuel_val]; omega) ⟨rfl, hs, htab, fun S' h => absurd h (Nat.not_lt_zero _)⟩ (by
      rintro S ⟨w, s⟩ hS ⟨hw, hf, h1, h2⟩
      simp only at hw hf h1 h2
      subst hw
      have hMs : MdN s A 7 := hM.fr hf (by decide)
      have hL := h1 n (Nat.le_refl _)
      obtain ⟨o, hoe⟩ : ∃ o, o = mk1 (prA 7 A) (nOd A (nP A - (n + 1))) S := ⟨_, rfl⟩
      have hin : ∀ d, o = some d → d < nD A := fun d e => (mk1_in (hoe ▸ e)).1
      have hTT : addT S o < 128 := addT_lt hS (fun d e => by have := hin d e; omega)
      have hLo := tgN_le hO U n (addT S o) (by omega)
      have e9 : rd s 58 9 = nI (nD A) := hMs.1.1
      have hset : ∀ K K2, F_MD_fewestOf_216 K K2 (nI U) (nI (nP A - (n + 1))) (nI (nOd A (nP A - (n + 1)))) (nI S) (nI (tgN A U (n + 1) S)) s = K2 (nI (S + 1), wr s 75 (128 * (nP A - (n + 1)) + S) (nI (tgN A U (n + 1) S))) := fun K K2 => by
        unfold F_MD_fewestOf_216
        rw [idx76, stk al_75 (by omega), Option.bind_some, nI_1]
      -- what comes behind the best
      have h97 : ∀ K K2, F_MD_fewestOf_97 K K2 (nI U) (nI (nP A - (n + 1))) (nI (nOd A (nP A - (n + 1)))) (nI S) (bI o) (nI (addT S o)) (nI (128 * (nP A - n))) s = K2 (nI (S + 1), wr s 75 (128 * (nP A - (n + 1)) + S) (nI (tgN A U (n + 1) S))) := fun K K2 => by
        unfold F_MD_fewestOf_97 F_MD_fewestOf_118
        rw [nI_add, ldk al_75 (by omega), Option.bind_some, hL _ hTT, hasM (by omega) (by omega), Option.bind_some]
        simp only [zI_eq0]
        cases hu : U.testBit (nOd A (nP A - (n + 1))) with
        | false =>
          simp only [if_true]
          rw [Option.bind_some, Int32.add_zero]
          have ev : tgN A U n (addT S o) = tgN A U (n + 1) S := by rw [tgN_out hu, hoe]
          rw [ev]
          unfold F_MD_fewestOf_124
          refine fix_up (f := G_MD_fewestOf_124 K K2 (nI U) (nI (nP A - (n + 1))) (nI (nOd A (nP A - (n + 1)))) (nI S)) (n := 0) (fun _ => (nI (tgN A U (n + 1) S), 0, s)) (by rw [fuel_val]; omega) (fun K3 i hi => absurd hi (Nat.not_lt_zero _)) (fun K3 => ?_)
          show H_MD_fewestOf_124 K K2 (nI U) (nI (nP A - (n + 1))) (nI (nOd A (nP A - (n + 1)))) (nI S) K3 (nI (tgN A U (n + 1) S)) 0 s = _
          unfold H_MD_fewestOf_124
          rw [hasM (by omega) (by omega), Option.bind_some, hu]
          simp only [zI_f, if_true]
          rw [ite_self, hset]
        | true =>
          simp only [Bool.true_eq_false, if_false]
          rw [monthsOfM_b hMs hO hp hin, Option.bind_some]
          simp only
          rw [Option.bind_some, nI_add]
          unfold F_MD_fewestOf_124
          have hmo := moZ_in hO hp hin
          refine fix_up (f := G_MD_fewestOf_124 K K2 (nI U) (nI (nP A - (n + 1))) (nI (nOd A (nP A - (n + 1)))) (nI S)) (n := nD A) (fun q => (nI (match tgB A U n S q with | none => tgN A U n (addT S o) + moZ (prA 7 A) (nOd A (nP A - (n + 1))) o | some b => min (tgC A U n S b) (tgN A U n (addT S o) + moZ (prA 7 A) (nOd A (nP A - (n + 1))) o)), nI q, s)) (by rw [fuel_val]; omega) (fun K3 q hq => ?_) (fun K3 => ?_)
          · show H_MD_fewestOf_124 K K2 (nI U) (nI (nP A - (n + 1))) (nI (nOd A (nP A - (n + 1)))) (nI S) K3 _ (nI q) s = _
            have hcq := tgC_le (U := U) (T := S) hO hn hq
            have elM : tgM A n S q = (!(S.testBit q) && mayA A (nOd A (nP A - (n + 1))) q) := rfl
            have h2t : S ||| 2 ^ q < 128 := addT_lt (o := some q) hS (fun x h => by cases h; omega)
            unfold H_MD_fewestOf_124 F_MD_fewestOf_208 F_MD_fewestOf_210
            rw [e9, if_neg (nI_ge hq (by omega)), hasM (by omega) (by omega), Option.bind_some, hu]
            simp only [zI_t, one0, if_false]
            rw [hasM (by omega) (by omega), Option.bind_some]
            simp only [zI_eq0]
            rw [mayM hMs hO hp hq, Option.bind_some]
            simp only [zI_eq0]
            rw [monthsOfM hMs hO hp hq, Option.bind_some]
            simp only
            rw [shl1 (by omega), fa_or, nI_1, nI_1, idx76, ldk al_75 (by omega), Option.bind_some, show nP A - (n + 1) + 1 = nP A - n by omega, hL _ h2t, nI_add, Option.bind_some, tgB_s, elM]
            have e1 : costT 7 A (nOd A (nP A - (n + 1))) q + tgN A U n (S ||| 2 ^ q) = tgC A U n S q := rfl
            rw [e1]
            cases hbt : S.testBit q with
            | true => simp
            | false =>
              simp only [if_true, Bool.not_false, Bool.true_and]
              cases hm : mayA A (nOd A (nP A - (n + 1))) q with
              | false => simp
              | true =>
                simp only [Bool.true_eq_false, if_false, if_true]
                cases e2 : tgB A U n S q with
                | none =>
                  simp only
                  by_cases g : tgN A U n (addT S o) + moZ (prA 7 A) (nOd A (nP A - (n + 1))) o ≤ tgC A U n S q
                  · rw [if_pos (nI_le g (by omega)), Nat.min_eq_right g]
                  · rw [if_neg (nI_ge (by omega) (by omega)), Nat.min_eq_left (by omega)]
                | some b =>
                  have hb : tgC A U n S b ≤ 78 + 78 * n := tgC_le hO hn (by have := (bestN_in e2).1; omega)
                  simp only
                  by_cases g : min (tgC A U n S b) (tgN A U n (addT S o) + moZ (prA 7 A) (nOd A (nP A - (n + 1))) o) ≤ tgC A U n S q
                  · rw [if_pos (nI_le g (by omega))]
                    by_cases g2 : tgC A U n S q < tgC A U n S b
                    · simp only [g2, if_true]
                      rw [show min (tgC A U n S b) (tgN A U n (addT S o) + moZ (prA 7 A) (nOd A (nP A - (n + 1))) o) = min (tgC A U n S q) (tgN A U n (addT S o) + moZ (prA 7 A) (nOd A (nP A - (n + 1))) o) by omega]
                    · simp only [g2, if_false]
                  · rw [if_neg (nI_ge (by omega) (by omega))]
                    have g2 : tgC A U n S q < tgC A U n S b := by omega
                    simp only [g2, if_true]
                    rw [show min (tgC A U n S q) (tgN A U n (addT S o) + moZ (prA 7 A) (nOd A (nP A - (n + 1))) o) = tgC A U n S q by omega]
          · show H_MD_fewestOf_124 K K2 (nI U) (nI (nP A - (n + 1))) (nI (nOd A (nP A - (n + 1)))) (nI S) K3 _ (nI (nD A)) s = _
            have hv : (match tgB A U n S (nD A) with | none => tgN A U n (addT S o) + moZ (prA 7 A) (nOd A (nP A - (n + 1))) o | some b => min (tgC A U n S b) (tgN A U n (addT S o) + moZ (prA 7 A) (nOd A (nP A - (n + 1))) o)) = tgN A U (n + 1) S := by
              rw [tgN_in hu]
              cases eo : o with
              | some d =>
                have hmk : mk1 (prA 7 A) (nOd A (nP A - (n + 1))) S = some d := hoe.symm.trans eo
                have : tgN A U n (addT S (some d)) + moZ (prA 7 A) (nOd A (nP A - (n + 1))) (some d) = tgC A U n S d := Nat.add_comm _ _
                rw [this]
                exact tgI_end hmk
              | none =>
                have hmk : mk1 (prA 7 A) (nOd A (nP A - (n + 1))) S = none := hoe.symm.trans eo
                have hnone := (bestN_spec (m := tgM A n S) (c := zC (prA 7 A) (nOd A (nP A - (n + 1)))) (k := nD A)).2 hmk
                cases e2 : tgB A U n S (nD A) with
                | none =>
                  show tgN A U n (addT S none) + 60 = 60 + tgN A U n S
                  rw [addT_none, Nat.add_comm]
                | some b =>
                  have hb := bestN_in e2
                  rw [hnone b hb.1] at hb
                  cases hb.2
            unfold H_MD_fewestOf_124
            rw [e9, if_pos (Int32.le_refl _), hv, hset]
      refine ⟨(nI (S + 1), wr s 75 (128 * (nP A - (n + 1)) + S) (nI (tgN A U (n + 1) S))), ⟨rfl, hf.two (Fr.wr (by simp)), fun m hm S' hS' => ?_, fun S' hS' => ?_⟩, fun K K' => ?_⟩
      · rw [rd_wr_slot _ _ _ _ (by omega)]; exact h1 m hm S' hS'
      · by_cases e : S' = S
        · subst e; exact rd_wr_same _ _ _ _
        · rw [rd_wr_slot _ _ _ _ (by omega)]; exact h2 S' (by omega)
      · show H_MD_fewestOf_52 K (nI U) (nI (nP A - (n + 1))) (nI (nOd A (nP A - (n + 1)))) K' (nI S) s = _
        unfold H_MD_fewestOf_52
        rw [if_neg (show ¬ (128 : Int32) ≤ nI S from nI_ge (b := 128) hS (by decide)), bestM hMs hO hp (by omega), Option.bind_some]
        simp only
        rw [nI_1, show nP A - (n + 1) + 1 = nP A - n by omega, show (128 : Int32) * nI (nP A - n) = nI (128 * (nP A - n)) from pk_mul 128 _, ← hoe]
        cases eo : o with
        | none =>
          rw [if_neg (by decide : ¬ (0 : Int32) ≤ bI none)]
          have := h97 K K'
          rw [eo, addT_none] at this
          exact this
        | some d =>
          have hd := hin d eo
          rw [if_pos (show 0 ≤ bI (some d) from nI_pos' (by omega)), shl_b rfl (by omega), fa_or]
          have := h97 K K'
          rw [eo] at this
          exact this)
    simp only at hw hf h1 h2
    refine ⟨s', hf, fun m hm => ?_, fun K => hr K _ (fun K' => ?_)⟩
    · by_cases e : m = n + 1
      · subst e; exact fun S hS => h2 S hS
      · exact h1 m (by omega)
    · show H_MD_fewestOf_52 K (nI U) (nI (nP A - (n + 1))) (nI (nOd A (nP A - (n + 1)))) K' w s' = _
      unfold H_MD_fewestOf_52
      rw [hw, if_pos (show (128 : Int32) ≤ nI 128 from Int32.le_refl _)]
  obtain ⟨⟨w0, s0⟩, ⟨hw0, h10, hf0⟩, hr0⟩ := fix_rel (f := G_MD_fewestOf_2 (nI U)) (n := 128) (s0 := (nI 0, σ)) (fun S q => q.1 = nI S ∧ (∀ S', S' < S → rd q.2 75 (128 * nP A + S') = nI 0) ∧ Fr [75] σ q.2) (by rw [fuel_val]; omega) ⟨rfl, fun S' h => absurd h (Nat.not_lt_zero _), Fr.rf⟩ (by
    rintro S ⟨w, t⟩ hS ⟨hw, h1, hf⟩
    simp only at hw h1 hf
    subst hw
    refine ⟨(nI (S + 1), wr t 75 (128 * nP A + S) 0), ⟨rfl, fun S' hS' => ?_, hf.two (Fr.wr (by simp))⟩, fun K => ?_⟩
    · by_cases e : S' = S
      · subst e; exact rd_wr_same _ _ _ _
      · rw [rd_wr_slot _ _ _ _ (by omega)]; exact h1 S' (by omega)
    · show H_MD_fewestOf_2 (nI U) K (nI S) t = _
      unfold H_MD_fewestOf_2
      rw [if_neg (show ¬ (128 : Int32) ≤ nI S from nI_ge (b := 128) hS (by decide)), show rd t 58 10 = nI (nP A) from (hf.at (by decide) 10).trans hM.1.2.1, idx76, stk al_75 (by omega), Option.bind_some, nI_1])
  simp only at hw0 h10 hf0
  obtain ⟨⟨w, s1⟩, ⟨hw, hf, htab⟩, hr⟩ := fix_rel (f := G_MD_fewestOf_38 (nI U)) (n := nP A) (s0 := (nI (nP A) - 1, s0)) (fun n q => q.1 = nI (nP A - n) - 1 ∧ Fr [75] σ q.2 ∧ ∀ m, m ≤ n → LvM A (tgN A U) m q.2) (by rw [fuel_val]; omega) ⟨rfl, hf0, fun m hm S hS => by
      have e : m = 0 := by omega
      subst e
      exact h10 S hS⟩ (by
    rintro n ⟨w, s⟩ hn ⟨hw, hf, htab⟩
    simp only at hw hf htab
    rw [nI_dec (by omega), Nat.sub_sub] at hw
    subst hw
    obtain ⟨s', b1, b2, b3⟩ := inner n s hn hf htab
    refine ⟨(nI (nP A - (n + 1)) - 1, s'), ⟨rfl, b1, b2⟩, fun K => ?_⟩
    show H_MD_fewestOf_38 (nI U) K (nI (nP A - (n + 1))) s = _
    unfold H_MD_fewestOf_38
    rw [if_neg (nI_pos (by omega)), ldk al_67 (by omega), Option.bind_some, hf.at (by decide) _, show rd σ 67 (nP A - (n + 1)) = nI (nOd A (nP A - (n + 1))) from (hM.1.2.2.2 _ (by omega)).2.2.2.2.2, b3])
  simp only at hw hf htab
  rw [Nat.sub_self] at hw
  refine ⟨s1, ?_, hf⟩
  unfold F_MD_fewestOf F_MD_fewestOf_2
  refine hr0 _ (fun K => ?_)
  show H_MD_fewestOf_2 (nI U) K w0 s0 = _
  unfold H_MD_fewestOf_2 F_MD_fewestOf_38
  rw [hw0, if_pos (show (128 : Int32) ≤ nI 128 from Int32.le_refl _), show rd s0 58 10 = nI (nP A) from (hf0.at (by decide) 10).trans hM.1.2.1, Option.bind_some]
  refine hr _ (fun K' => ?_)
  show H_MD_fewestOf_38 (nI U) K' w s1 = _
  unfold H_MD_fewestOf_38
  have h75 := htab (nP A) (Nat.le_refl _) 0 (by decide)
  rw [Nat.sub_self] at h75
  rw [hw, if_pos (by decide), show ldA s1 75 0 = _ from ldk (k := 0) al_75 (by decide), Option.bind_some]
  exact congrArg (fun x => some (x, s1)) h75
def stN (A : Nt) (U p : Nat) : Nat := if U.testBit p = true then moO (prA 7 A) (nOd A) 0 p else 0
theorem todaysC {σ : St} {A : Nt} {U : Nat} (hN : NowI σ A) : ∃ s, F_AC_todaysMonthsOf (nI U) σ = some (nI (sumN (stN A U) (nP A)), s) ∧ Qf (nD A) σ s := by
  have hP := hN.1.P
  obtain ⟨s1, a1, a2, hN1, a3, a4⟩ := todayC hN
  refine ⟨s1, ?_, Qf.of a2 (by decide)⟩
  unfold F_AC_todaysMonthsOf F_AC_todaysMonthsOf_8
  rw [a1, Option.bind_some]
  refine fix_up (f := G_AC_todaysMonthsOf_8 (nI U)) (n := nP A) (fun k => (nI (sumN (stN A U) k), nI k, s1)) (by rw [fuel_val]; omega) (fun K k hk => ?_) (fun K => ?_)
  · show H_AC_todaysMonthsOf_8 (nI U) K (nI (sumN (stN A U) k)) (nI k) s1 = _
    have es : sumN (stN A U) (k + 1) = sumN (stN A U) k + stN A U k := rfl
    unfold H_AC_todaysMonthsOf_8 F_AC_todaysMonthsOf_41
    rw [show rd s1 1 1 = nI (nP A) from hN1.2.2.1.2.1, if_neg (nI_ge hk (by omega)), hasC (by omega), Option.bind_some, es, nI_1]
    simp only [zI_eq0]
    unfold stN
    cases U.testBit k with
    | false => simp
    | true =>
      simp only [Bool.true_eq_false, if_false, if_true]
      rw [atC al_42 (by omega), Option.bind_some]
      simp only
      rw [(a4.2.2.2.2 k hk).2, Option.bind_some, nI_add]
  · show H_AC_todaysMonthsOf_8 (nI U) K _ (nI (nP A)) s1 = _
    unfold H_AC_todaysMonthsOf_8
    rw [show rd s1 1 1 = nI (nP A) from hN1.2.2.1.2.1, if_pos (Int32.le_refl _)]
theorem setMonthsM {σ : St} {A : Nt} {U : Nat} (hN : NowI σ A) (hU : U < 128) (htk : ∀ p, p < nP A → rd σ 73 p = bI (tkO (prA 7 A) (nOd A) 0 p)) : F_MD_setMonths (nI U) σ = some (nI (sumN (stN A U) (nP A)), σ) := by
  have hP := hN.1.P
  unfold F_MD_setMonths F_MD_setMonths_4
  refine fix_up (f := G_MD_setMonths_4 (nI U)) (n := nP A) (fun k => (nI (sumN (stN A U) k), nI k, σ)) (by rw [fuel_val]; omega) (fun K k hk => ?_) (fun K => ?_)
  · show H_MD_setMonths_4 (nI U) K (nI (sumN (stN A U) k)) (nI k) σ = _
    have es : sumN (stN A U) (k + 1) = sumN (stN A U) k + stN A U k := rfl
    unfold H_MD_setMonths_4 F_MD_setMonths_30
    rw [show rd σ 58 10 = nI (nP A) from hN.2.2.2.1.1.2.1, if_neg (nI_ge hk (by omega)), hasM (by omega) (by omega), Option.bind_some, es, nI_1]
    simp only [zI_eq0]
    rw [hasM7 hN hk (htk k hk)]
    unfold stN
    cases U.testBit k with
    | false => simp
    | true =>
      simp only [Bool.true_eq_false, if_false, if_true, Option.bind_some]
      rw [nI_add]
  · show H_MD_setMonths_4 (nI U) K _ (nI (nP A)) σ = _
    unfold H_MD_setMonths_4
    rw [show rd σ 58 10 = nI (nP A) from hN.2.2.2.1.1.2.1, if_pos (Int32.le_refl _)]
theorem op_together (a b : Int32) : Ask (F_AC_together a b) (F_MD_together a b) := by
  intro σ h
  obtain ⟨A, hall⟩ := id h
  have hN := hall.1
  obtain ⟨hO, hD, hA, hM, hg⟩ := id hN
  have hP := hO.P
  have hp2 : 2 ^ nP A ≤ 128 := pow_le128 hP
  by_cases h0' : ¬ 0 ≤ a
  · refine Ask.no h (k := 4) (x := -4) (by decide) (by decide) ?_ (fun τ hτ => ?_)
    · unfold F_AC_together
      rw [if_neg h0', bid]
    · unfold F_MD_together F_MD_together_38
      rw [if_neg h0', if_neg (by decide), bid]
  have h0 : 0 ≤ a := Decidable.not_not.mp h0'
  obtain ⟨U, hU, rfl⟩ := nI_of (x := a) (fun q => by
    rw [fa_lt] at q
    rw [fa_le] at h0
    omega)
  have hdiv : ∀ τ : St, MdN τ A 7 → ((nI U) >>> ((rd τ 58 10) &&& 31) = 0 ↔ U < 2 ^ nP A) := fun τ hτ => by
    rw [show rd τ 58 10 = nI (nP A) from hτ.1.2.1, shr_nI hU (by omega)]
    have hlt : U / 2 ^ nP A < 2 ^ 31 := Nat.lt_of_le_of_lt (Nat.div_le_self _ _) hU
    constructor
    · intro c
      have := nI_inj (b := 0) hlt (by decide) c
      rcases (Nat.div_eq_zero_iff).mp this with q | q
      · have := Nat.two_pow_pos (nP A); omega
      · exact q
    · intro c
      rw [Nat.div_eq_of_lt c]; rfl
  by_cases hU2 : U < 2 ^ nP A
  · rcases isIn_01 (σ := σ) (b := b) with ⟨hb, _⟩ | ⟨hb, _⟩
    · obtain ⟨s1, a1, a2, hN1, a3⟩ := fillN hN
      obtain ⟨s2, b1, b2, b3⟩ := fillTogC hN1.2.2.1 a3 hO hD.1 (show U < 128 by omega)
      have hN2 : NowI s2 A := hN1.q (Qf.of b2 (by decide))
      obtain ⟨s3, c1, c2⟩ := todaysC (U := U) hN2
      have hq2 : Qf (nD A) σ s2 := (Qf.of a2 (by decide)).tr (Qf.of b2 (by decide))
      have h50 := b3 (nP A) (Nat.le_refl _) 0 (Nat.two_pow_pos _) (by rw [show popN 0 = 0 by decide]; exact Nat.zero_le _)
      rw [Nat.sub_self] at h50
      have hget : F_TA_get 0 0 s2 = some (nI (tgN A U (nP A) 0), s2) := by
        rw [show F_TA_get 0 0 s2 = _ from getTC (k := 0) (S := 0) (by decide) (by decide)]
        exact congrArg (fun x => some (x, s2)) h50
      have hfin : ∀ s, NowI s A → Qf (nD A) σ s → ∃ s4 s5, F_MD_fewestOf (nI U) s = some (nI (tgN A U (nP A) 0), s4) ∧ F_MD_goes s4 = some s5 ∧ F_MD_setMonths (nI U) s5 = some (nI (sumN (stN A U) (nP A)), s5) ∧ Qf (nD A) σ s5 := fun s hs hq => by
        obtain ⟨s4, d1, d2⟩ := fewestM hs.2.2.2.1 hO hD.1 (show U < 128 by omega)
        have hN4 : NowI s4 A := hs.q (Qf.of d2 (by decide))
        obtain ⟨s5, e1, e2, hN5, e3, e4⟩ := todayM hN4
        exact ⟨s4, s5, d1, e1, setMonthsM hN5 (by omega) e4, (hq.tr (Qf.of d2 (by decide))).tr (Qf.of e2 (by decide))⟩
      have hin : ∀ s : St, F_MD_isIn b 0 1 s = some (1, s) := fun s => by
        rcases isIn_01 (σ := s) (b := b) with ⟨_, e⟩ | ⟨hb2, _⟩
        · exact e
        · exfalso; rcases hb with rfl | rfl <;> revert hb2 <;> decide
      have hcl : F_AC_together (nI U) b σ = (if b = 0 then (some (nI (tgN A U (nP A) 0), s2)) else some (nI (sumN (stN A U) (nP A)) - nI (tgN A U (nP A) 0), s3)) := by
        unfold F_AC_together
        rw [if_pos h0, show rd σ 1 1 = nI (nP A) from hA.2.1, bitC (by omega), Option.bind_some]
        simp only
        rw [if_pos (nI_lt hU2 (by omega)), in_01 hb, a1, Option.bind_some, b1, Option.bind_some, hget, Option.bind_some]
        simp only
        rw [c1, Option.bind_some]
      have hmd : ∀ s s4 s5, MdN s A 7 → F_MD_fewestOf (nI U) s = some (nI (tgN A U (nP A) 0), s4) → F_MD_goes s4 = some s5 → F_MD_setMonths (nI U) s5 = some (nI (sumN (stN A U) (nP A)), s5) → F_MD_together (nI U) b s = (if b = 0 then (some (nI (tgN A U (nP A) 0), s5)) else some (nI (sumN (stN A U) (nP A)) - nI (tgN A U (nP A) 0), s5)) := fun s s4 s5 hs q1 q2 q3 => by
        unfold F_MD_together F_MD_together_38
        rw [if_pos h0, if_pos ((hdiv s hs).mpr hU2), hin, Option.bind_some]
        simp only [one0, if_false, if_true]
        rw [q1, Option.bind_some]
        simp only
        rw [q2, Option.bind_some, q3, Option.bind_some]
      by_cases hb0 : b = 0
      · obtain ⟨s4, s5, d1, d2, d3, d4⟩ := hfin s2 hN2 hq2
        exact ⟨nI (tgN A U (nP A) 0), s2, s5, hcl.trans (if_pos hb0), (hmd s2 s4 s5 hN2.2.2.2.1 d1 d2 d3).trans (if_pos hb0), INV.q hall d4⟩
      · have hN3 := hN2.q c2
        obtain ⟨s4, s5, d1, d2, d3, d4⟩ := hfin s3 hN3 (hq2.tr c2)
        exact ⟨_, s3, s5, hcl.trans (if_neg hb0), (hmd s3 s4 s5 hN3.2.2.2.1 d1 d2 d3).trans (if_neg hb0), INV.q hall d4⟩
    · refine Ask.no h (k := 2) (x := -2) (by decide) (by decide) ?_ (fun τ hτ => ?_)
      · unfold F_AC_together F_AC_together_41
        rw [if_pos h0, show rd σ 1 1 = nI (nP A) from hA.2.1, bitC (by omega), Option.bind_some]
        simp only
        rw [if_pos (nI_lt hU2 (by omega)), out_01 hb, bid]
      · unfold F_MD_together F_MD_together_38
        rw [if_pos h0, if_pos ((hdiv τ (hN.r57 hτ).2.2.2.1).mpr hU2), show (1 : Int32) = nI 1 from rfl, isIn_out (m := 1) (by decide) hb, Option.bind_some]
        simp only [if_true]
        rw [if_neg (by decide), bid]
  · refine Ask.no h (k := 6) (x := -6) (by decide) (by decide) ?_ (fun τ hτ => ?_)
    · unfold F_AC_together
      rw [if_pos h0, show rd σ 1 1 = nI (nP A) from hA.2.1, bitC (by omega), Option.bind_some]
      simp only
      rw [if_neg (nI_nlt (by omega) (by omega)), bid]
    · unfold F_MD_together F_MD_together_38
      rw [if_pos h0, if_neg (fun c => hU2 ((hdiv τ (hN.r57 hτ).2.2.2.1).mp c)), if_neg (by decide), bid]
