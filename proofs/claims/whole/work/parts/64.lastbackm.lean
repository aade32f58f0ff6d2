-- from the last back: the class's hold, the model's table
def lbT (A : Nt) : Nat → Nat
  | 0 => 0
  | k + 1 => addT (lbT A k) (lbC A (nP A - (k + 1)) (lbT A k))
def lbP (A : Nt) (k : Nat) : Option Nat := lbC A (nP A - (k + 1)) (lbT A k)
def lbK (A : Nt) (p : Nat) : Option Nat := lbP A (plc (nOd A) p (nP A))
def lbAll (A : Nt) : Nat := sumN (fun p => moZ (prA 7 A) p (lbK A p)) (nP A)
theorem lbT_s (A : Nt) (k : Nat) : lbT A (k + 1) = addT (lbT A k) (lbP A k) := rfl
theorem lbP_in {A : Nt} {k d : Nat} (hk : k < nP A) (h : lbP A k = some d) : d < nD A ∧ mayA A (nOd A k) d = true := by
  have := lbC_in h
  rw [show nP A - (nP A - (k + 1) + 1) = k by omega] at this
  exact ⟨this.1, this.2.2⟩
theorem lbK_in {A : Nt} {p d : Nat} (h : lbK A p = some d) : d < nD A := (lbC_in h).1
theorem lbT_lt {A : Nt} (hD : nD A ≤ 7) : ∀ k, lbT A k < 128
  | 0 => (by decide : 0 < 128)
  | k + 1 => by
    have ih := lbT_lt hD k
    show addT _ _ < 2 ^ 7
    unfold addT
    refine Nat.or_lt_two_pow ih ?_
    cases e : lbC A (nP A - (k + 1)) (lbT A k) with
    | none => exact Nat.two_pow_pos _
    | some d => exact Nat.pow_lt_pow_right (by decide) (by have := (lbC_in e).1; omega)
theorem lbSum {A : Nt} (hO : OkN A) : sumN (fun k => moZ (prA 7 A) (nOd A k) (lbP A k)) (nP A) = lbAll A := by
  unfold lbAll
  rw [← sumN_perm hO.od (fun p => moZ (prA 7 A) p (lbK A p))]
  refine sumN_cong (fun k hk => ?_)
  show _ = moZ (prA 7 A) (nOd A k) (lbP A (plc (nOd A) (nOd A k) (nP A)))
  rw [hO.od.plc_od hk]
theorem holdLB {σ : St} {nn : Nat} {A : Nt} (hn : isNI nn) (hA : AbsC σ nn A) (hO : OkN A) (hPr : PrC σ 36 (prA 7 A)) : ∃ s, F_LB_hold 36 nn σ = some s ∧ Fr [46, 47, 48] σ s ∧ rd s 46 2 = nI (lbAll A) ∧ ∀ p, p < nP A → rd s 47 p = bI (lbK A p) ∧ rd s 48 p = nI (moZ (prA 7 A) p (lbK A p)) := by
  have hP := hO.P
  have hD := hO.D
  have ho := hO.od
  have hz := prA_ok hO 7
  have off : ∀ k, k < 9 → nn + k ∉ [46, 47, 48] := fun k hk => by
    rcases hn with rfl | rfl | rfl <;> simp <;> omega
  obtain ⟨⟨w, v, s⟩, ⟨e1, e2, hf, h4, h6⟩, hr⟩ := fix_rel (f := G_LB_hold_13 36 nn) (n := nP A) (s0 := (nI (2 ^ nD A - 1), nI 0, wr σ 46 2 0)) (fun k q => q.1 = nI (fr (nD A) (lbT A k)) ∧ q.2.1 = nI k ∧ Fr [46, 47, 48] σ q.2.2 ∧ rd q.2.2 46 2 = nI (sumN (fun k => moZ (prA 7 A) (nOd A k) (lbP A k)) k) ∧ ∀ j, j < k → rd q.2.2 47 (nOd A j) = bI (lbP A j) ∧ rd q.2.2 48 (nOd A j) = nI (moZ (prA 7 A) (nOd A j) (lbP A j))) (by rw [fuel_val]; omega) ⟨by show _ = nI (fr (nD A) 0); rw [fr_0], rfl, Fr.wr (by simp), rd_wr_same _ _ _ _, fun j hj => absurd hj (Nat.not_lt_zero _)⟩ (by
    rintro k ⟨w, v, s⟩ hk ⟨e1, e2, hf, h4, h6⟩
    simp only at e1 e2 hf h4 h6
    subst e1; subst e2
    have hAs := hA.fr hf off
    have hPs := hPr.fr hf (by decide) (by decide)
    have hp := ho.1 k hk
    have hin : ∀ d, lbP A k = some d → d < nD A ∧ mayA A (nOd A k) d = true := fun d e => lbP_in hk e
    have hch := choiceC hn hAs hO hPs (nP A - (k + 1)) 8 (by omega) (by omega) (lbT A k)
    rw [show nP A - (nP A - (k + 1) + 1) = k by omega, show lbC A (nP A - (k + 1)) (lbT A k) = lbP A k from rfl] at hch
    let s2 := wr s 47 (nOd A k) (bI (lbP A k))
    let s3 := wr s2 48 (nOd A k) (nI (moZ (prA 7 A) (nOd A k) (lbP A k)))
    let s4 := wr s3 46 2 (nI (sumN (fun k => moZ (prA 7 A) (nOd A k) (lbP A k)) (k + 1)))
    have g3 : rd s3 46 2 = nI (sumN (fun k => moZ (prA 7 A) (nOd A k) (lbP A k)) k) := by
      show rd (wr (wr s 47 _ _) 48 _ _) 46 2 = _
      rw [rd_wr_cell _ _ _ _ (by decide), rd_wr_cell _ _ _ _ (by decide), h4]
    refine ⟨(nI (fr (nD A) (lbT A (k + 1))), nI (k + 1), s4), ⟨rfl, rfl, ((hf.two (Fr.wr (by simp))).two (Fr.wr (by simp))).two (Fr.wr (by simp)), rd_wr_same _ _ _ _, fun j hj => ?_⟩, fun K => ?_⟩
    · show rd (wr (wr (wr s 47 _ _) 48 _ _) 46 _ _) 47 _ = _ ∧ rd (wr (wr (wr s 47 _ _) 48 _ _) 46 _ _) 48 _ = _
      rw [rd_wr_cell _ _ _ _ (by decide), rd_wr_cell _ _ _ _ (by decide), rd_wr_cell _ _ _ _ (show 48 ≠ 46 by decide)]
      by_cases e : j = k
      · subst e
        rw [rd_wr_same, rd_wr_same]; exact ⟨rfl, rfl⟩
      · have hne : nOd A j ≠ nOd A k := fun c => e (ho.2 j k (by omega) hk c)
        rw [rd_wr_slot _ _ _ _ hne, rd_wr_slot _ _ _ _ hne, rd_wr_cell _ _ _ _ (show 48 ≠ 47 by decide)]
        exact h6 j (by omega)
    · show H_LB_hold_13 36 nn K (nI (fr (nD A) (lbT A k))) (nI k) s = _
      unfold H_LB_hold_13
      rw [show rd s nn 1 = nI (nP A) from hAs.2.1, if_neg (nI_ge hk (by omega)), atC (al_NI8 hn) (by omega), Option.bind_some]
      simp only
      rw [show rd s (nn + 8) k = nI (nOd A k) from (hAs.2.2.2 k hk).2.2.2.2.2, hch, Option.bind_some]
      simp only
      rw [ofC_b isPR_36 hPs hz hp hin, Option.bind_some]
      simp only
      rw [putC al_47 (by omega), Option.bind_some, putC al_48 (by omega), Option.bind_some, bitC_b (fun d e => by have := (hin d e).1; omega), Option.bind_some]
      simp only
      rw [Option.bind_some, Option.bind_some, fr_take _ _ hD _ (fun d e => (hin d e).1), nI_1]
      show K (nI (fr (nD A) (addT (lbT A k) (lbP A k))), nI (k + 1), wr s3 46 2 (rd s3 46 2 + nI (moZ (prA 7 A) (nOd A k) (lbP A k)))) = _
      rw [g3, nI_add]
      rfl)
  simp only at e1 e2 hf h4 h6
  refine ⟨s, ?_, hf, by rw [h4, lbSum hO], fun p hp => ?_⟩
  · unfold F_LB_hold F_LB_hold_13
    rw [allDeedsC hA hO, Option.bind_some]
    simp only [Option.bind_some]
    refine hr _ (fun K => ?_)
    show H_LB_hold_13 36 nn K w v s = _
    unfold H_LB_hold_13
    rw [e2, show rd s nn 1 = nI (nP A) from (hA.fr hf off).2.1, if_pos (Int32.le_refl _)]
  · have := h6 _ (ho.plc_lt hp)
    rw [ho.od_plc hp] at this
    exact this
-- the model's table
theorem idx76 (k S : Nat) : (128 : Int32) * nI k + nI S = nI (128 * k + S) := by
  rw [show (128 : Int32) = nI 128 from rfl, pk_mul, nI_add]
theorem idx77 (i q : Nat) : (7 : Int32) * nI i + nI q = nI (7 * i + q) := by
  rw [show (7 : Int32) = nI 7 from rfl, pk_mul, nI_add]
theorem monthsInM {s : St} {k S q : Nat} (hk : k < 8) (hS : S < 128) (hq : q < 7) (h : 7 * (128 * k + S) + q < 7168) : F_MD_monthsIn (nI k) (nI S) (nI q) s = some (rd s 77 (7 * (128 * k + S) + q), s) := by
  unfold F_MD_monthsIn
  rw [idx76, idx77, ldk al_77 h, Option.bind_some]
/-- the rows of the table for the place behind -/
def RowB (A : Nt) (n : Nat) (s : St) : Prop := 0 < n → ∀ S, S < 128 → ∀ q, q < nP A → rd s 77 (7 * (128 * (nP A - n) + S) + q) = nI (lbM A n S q)
theorem addT_lt {T : Nat} {o : Option Nat} (hT : T < 128) (ho : ∀ d, o = some d → d < 7) : addT T o < 128 := by
  show _ < 2 ^ 7
  unfold addT
  refine Nat.or_lt_two_pow hT ?_
  cases o with
  | none => exact Nat.two_pow_pos _
  | some d => exact Nat.pow_lt_pow_right (by decide) (ho d rfl)
theorem withBrotherM {s : St} {A : Nt} (hM : MdN s A 7) (hO : OkN A) (hD : nD A ≤ 7) {n T d : Nat} (hn : n < nP A) (hT : T < 128) (hd : d < nD A) (ht : RowB A n s) : F_MD_withBrother (nI (nP A - (n + 1))) (nI T) (nI d) s = some (nI (lbW A n (lbM A n) T d), s) := by
  have hP := hO.P
  have ho := hO.od
  have hp := ho.1 (nP A - (n + 1)) (by omega)
  have l67 : ldA s 67 (nI (nP A - (n + 1))) = some (nI (nOd A (nP A - (n + 1)))) := by rw [ldk al_67 (by omega), show rd s 67 (nP A - (n + 1)) = nI (nOd A (nP A - (n + 1))) from (hM.1.2.2.2 _ (by omega)).2.2.2.2.2]
  have l65 : ldA s 65 (nI (nOd A (nP A - (n + 1)))) = some (bI (nB A (nOd A (nP A - (n + 1))))) := by rw [ldk al_65 (by omega), show rd s 65 (nOd A (nP A - (n + 1))) = bI (nB A (nOd A (nP A - (n + 1)))) from (hM.1.2.2.2 _ hp).2.2.2.1]
  have eT : nI T ||| nI (2 ^ d) = nI (addT T (some d)) := fa_or _ _
  have hT2 : addT T (some d) < 128 := addT_lt hT (fun x h => by cases h; omega)
  unfold F_MD_withBrother F_MD_withBrother_21 F_MD_withBrother_68 F_MD_withBrother_69
  rw [l67, Option.bind_some, if_pos (nI_pos' (by omega)), l65, shl1 (by omega), eT, Option.bind_some, monthsOfM hM hO hp hd, Option.bind_some]
  simp only
  unfold lbW
  cases e : nB A (nOd A (nP A - (n + 1))) with
  | none => rw [if_pos (show bI none < 0 from n9_neg), Int32.add_zero]; rfl
  | some b =>
    have hb := (nB_in hO hp e).1
    have pb := ho.plc_lt hb
    rw [if_neg (show ¬ bI (some b) < 0 from nI_pos (by omega)), show F_MD_placeOf (bI (some b)) s = _ from placeOfM hP ho (fun k hk => (hM.1.2.2.2 k hk).2.2.2.2.2) hb, Option.bind_some]
    simp only
    by_cases hk : nP A - (n + 1) < plc (nOd A) b (nP A)
    · have h1 := ht (by omega) _ hT2 b hb
      rw [if_neg (nI_ge hk (by omega)), nI_1, show nP A - (n + 1) + 1 = nP A - n by omega, show F_MD_monthsIn (nI (nP A - n)) (nI (addT T (some d))) (bI (some b)) s = _ from monthsInM (by omega) hT2 (by omega) (by omega), Option.bind_some, h1]
      simp only
      rw [nI_add, if_pos hk]
    · rw [if_pos (nI_le (by omega) (by omega)), if_neg hk, Int32.add_zero]; rfl
/-- the rows of one set at one place -/
def RowS (A : Nt) (n S : Nat) (s : St) : Prop := rd s 76 (128 * (nP A - (n + 1)) + S) = bI (lbC A n S) ∧ ∀ q, q < nP A → rd s 77 (7 * (128 * (nP A - (n + 1)) + S) + q) = nI (lbM A (n + 1) S q)
theorem choosesM {s : St} {A : Nt} (hM : MdN s A 7) (hO : OkN A) (hD : nD A ≤ 7) {n T : Nat} (hn : n < nP A) (hT : T < 128) (ht : RowB A n s) : ∃ s', F_MD_chooses (nI (nP A - (n + 1))) (nI T) s = some s' ∧ RowS A n T s' ∧ ∀ b j, ¬ (b = 76 ∧ j = 128 * (nP A - (n + 1)) + T ∨ b = 77 ∧ 7 * (128 * (nP A - (n + 1)) + T) ≤ j ∧ j < 7 * (128 * (nP A - (n + 1)) + T) + 7) → rd s' b j = rd s b j := by
  have hP := hO.P
  have ho := hO.od
  obtain ⟨k, hk⟩ : ∃ k, k = nP A - (n + 1) := ⟨_, rfl⟩
  have hp := ho.1 k (by omega)
  have l67 : ldA s 67 (nI k) = some (nI (nOd A k)) := by rw [ldk al_67 (by omega), show rd s 67 k = nI (nOd A k) from (hM.1.2.2.2 _ (by omega)).2.2.2.2.2]
  have hw : ∀ d, d < nD A → lbW A n (lbM A n) T d ≤ 156 := fun d hd => lbW_le hO hn hd
  have e9 : rd s 58 9 = nI (nD A) := hM.1.1
  have e10 : rd s 58 10 = nI (nP A) := hM.1.2.1
  rw [← hk]
  -- the second half: months of all
  obtain ⟨o, hoe⟩ : ∃ o, o = lbC A n T := ⟨_, rfl⟩
  have hin : ∀ d, o = some d → d < nD A := fun d e => (lbC_in (hoe ▸ e)).1
  have hT2 : addT T o < 128 := addT_lt hT (fun d e => by have := hin d e; omega)
  let s2 := wr s 76 (128 * k + T) (bI o)
  have hM2 : MdN s2 A 7 := hM.un (fun b j q => rd_wr_cell _ _ _ _ (by omega))
  have e10' : rd s2 58 10 = nI (nP A) := hM2.1.2.1
  obtain ⟨⟨w, s3⟩, ⟨hw3, hf3, h77⟩, hr⟩ := fix_rel (f := G_MD_chooses_113 (nI k) (nI T) (nI (nOd A k)) (bI o) (nI (addT T o))) (n := nP A) (s0 := (nI 0, s2)) (fun q x => x.1 = nI q ∧ (∀ b j, ¬ (b = 77 ∧ 7 * (128 * k + T) ≤ j ∧ j < 7 * (128 * k + T) + 7) → rd x.2 b j = rd s2 b j) ∧ ∀ r, r < q → rd x.2 77 (7 * (128 * k + T) + r) = nI (lbM A n (addT T o) r)) (by rw [fuel_val]; omega) ⟨rfl, fun _ _ _ => rfl, fun r hr => absurd hr (Nat.not_lt_zero _)⟩ (by
    rintro q ⟨w, x⟩ hq ⟨hw, hf, h77⟩
    simp only at hw hf h77
    subst hw
    have ex10 : rd x 58 10 = nI (nP A) := (hf 58 10 (by omega)).trans e10'
    refine ⟨(nI (q + 1), wr x 77 (7 * (128 * k + T) + q) (nI (lbM A n (addT T o) q))), ⟨rfl, fun b j hb => ?_, fun r hr => ?_⟩, fun K => ?_⟩
    · rw [rd_wr, if_neg (by omega)]; exact hf b j hb
    · by_cases e : r = q
      · subst e; exact rd_wr_same _ _ _ _
      · rw [rd_wr_slot _ _ _ _ (by omega)]; exact h77 r (by omega)
    · show H_MD_chooses_113 (nI k) (nI T) (nI (nOd A k)) (bI o) (nI (addT T o)) K (nI q) x = _
      unfold H_MD_chooses_113 F_MD_chooses_164
      rw [ex10, if_neg (nI_ge hq (by omega)), idx76, idx77, nI_1]
      by_cases h0 : n = 0
      · rw [if_pos (nI_le (by omega) (by omega)), stk al_77 (by omega), Option.bind_some, nI_1]
        subst h0
        rfl
      · rw [if_neg (nI_ge (by omega) (by omega)), show k + 1 = nP A - n by omega, monthsInM (by omega) hT2 (by omega) (by omega), Option.bind_some]
        simp only
        have h1 := ht (by omega) _ hT2 q hq
        rw [stk al_77 (by omega), Option.bind_some, nI_1, hf 77 _ (by omega), show rd s2 77 (7 * (128 * (nP A - n) + addT T o) + q) = rd s 77 _ from rd_wr_cell _ _ _ _ (by decide), h1])
  simp only at hw3 hf3 h77
  have hM3 : MdN s3 A 7 := hM2.un (fun b j q => hf3 b j (by omega))
  have hmo : F_MD_monthsOf (nI (nOd A k)) (bI o) s3 = some (nI (moZ (prA 7 A) (nOd A k) o), s3) := monthsOfM_b hM3 hO hp hin
  have h108 : F_MD_chooses_113 (nI k) (nI T) (nI (nOd A k)) (bI o) (nI (addT T o)) 0 s2 = some (wr s3 77 (7 * (128 * k + T) + nOd A k) (nI (moZ (prA 7 A) (nOd A k) o))) := by
    unfold F_MD_chooses_113
    refine hr _ (fun K => ?_)
    show H_MD_chooses_113 (nI k) (nI T) (nI (nOd A k)) (bI o) (nI (addT T o)) K w s3 = _
    unfold H_MD_chooses_113
    rw [hw3, show rd s3 58 10 = nI (nP A) from hM3.1.2.1, if_pos (Int32.le_refl _), hmo, Option.bind_some]
    simp only
    rw [idx76, idx77, stk al_77 (by omega), Option.bind_some]
  refine ⟨wr s3 77 (7 * (128 * k + T) + nOd A k) (nI (moZ (prA 7 A) (nOd A k) o)), ?_, ⟨?_, fun q hq => ?_⟩, fun b j hb => ?_⟩
  · -- the first half: the best deed
    unfold F_MD_chooses F_MD_chooses_14
    rw [l67, Option.bind_some]
    refine fix_up (f := G_MD_chooses_14 (nI k) (nI T) (nI (nOd A k))) (n := nD A) (fun d => (bI (bestN (fun d => !(T.testBit d) && mayA A (nOd A (nP A - (n + 1))) d) (lbW A n (lbM A n) T) d), nI d, s)) (by rw [fuel_val]; omega) (fun K d hd => ?_) (fun K => ?_)
    · show H_MD_chooses_14 (nI k) (nI T) (nI (nOd A k)) K _ (nI d) s = _
      unfold H_MD_chooses_14 F_MD_chooses_69 F_MD_chooses_73
      rw [e9, if_neg (nI_ge hd (by omega)), hasM (by omega) (by omega), Option.bind_some]
      simp only [zI_eq0]
      rw [mayM hM hO hp hd, Option.bind_some]
      simp only [zI_eq0]
      rw [nI_1, bestN, ← hk]
      cases htb : T.testBit d with
      | true => simp
      | false =>
        simp only [Bool.not_false, Bool.true_and, if_true]
        cases hm : mayA A (nOd A k) d with
        | false => simp
        | true =>
          simp only [Bool.true_eq_false, if_false, if_true]
          have hwb := withBrotherM hM hO hD hn hT hd ht
          rw [← hk] at hwb
          cases e2 : bestN (fun d => !(T.testBit d) && mayA A (nOd A k) d) (lbW A n (lbM A n) T) d with
          | none => rw [if_pos (show bI none < 0 from n9_neg)]; rfl
          | some c =>
            have hc := (bestN_in e2).1
            have hwc := withBrotherM hM hO hD hn hT (show c < nD A by omega) ht
            rw [← hk] at hwc
            have h1 := hw d hd
            have h2 := hw c (by omega)
            rw [if_neg (show ¬ bI (some c) < 0 from nI_pos (by omega)), hwb, Option.bind_some]
            simp only
            rw [show F_MD_withBrother (nI k) (nI T) (bI (some c)) s = _ from hwc, Option.bind_some]
            simp only
            by_cases g : lbW A n (lbM A n) T d < lbW A n (lbM A n) T c
            · rw [if_neg (nI_ge g (by omega))]
              simp only [g, if_true]
              rfl
            · rw [if_pos (nI_le (by omega) (by omega))]
              simp only [g, if_false]
    · show H_MD_chooses_14 (nI k) (nI T) (nI (nOd A k)) K (bI (lbC A n T)) (nI (nD A)) s = _
      unfold H_MD_chooses_14 F_MD_chooses_108
      rw [e9, if_pos (Int32.le_refl _), idx76, stk al_76 (by omega), Option.bind_some, ← hoe]
      cases e : o with
      | none =>
        rw [e, addT_none] at h108
        rw [if_neg (by decide : ¬ (0 : Int32) ≤ bI none)]
        have hs2 : s2 = wr s 76 (128 * k + T) (bI none) := by rw [← e]
        rw [← hs2]
        exact h108
      | some d =>
        have hd := hin d e
        rw [e] at h108
        rw [if_pos (show 0 ≤ bI (some d) from nI_pos' (by omega)), shl_b rfl (by omega), fa_or]
        have hs2 : s2 = wr s 76 (128 * k + T) (bI (some d)) := by rw [← e]
        rw [← hs2]
        exact h108
  · rw [rd_wr_cell _ _ _ _ (by decide), hf3 76 _ (by omega), ← hk]
    show rd (wr s 76 _ _) 76 _ = _
    rw [rd_wr_same, hoe]
  · rw [← hk, lbM_s, ← hk, ← hoe]
    by_cases e : nOd A k = q
    · subst e
      rw [rd_wr_same, if_pos rfl]
    · rw [rd_wr_slot _ _ _ _ (by omega), if_neg e]
      exact h77 q hq
  · rw [rd_wr, if_neg (by omega), hf3 b j (by omega)]
    show rd (wr s 76 _ _) b j = _
    rw [rd_wr, if_neg (by omega)]
