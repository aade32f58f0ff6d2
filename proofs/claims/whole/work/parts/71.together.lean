-- together
def tgF (A : Nt) (n : Nat) (L : Nat → Nat) (T d : Nat) : Nat := costT 7 A (nOd A (nP A - (n + 1))) d + L (addT T (some d))
def tgM (A : Nt) (n T d : Nat) : Bool := !(T.testBit d) && mayA A (nOd A (nP A - (n + 1))) d
def tgV (A : Nt) (n : Nat) (L : Nat → Nat) (T : Nat) (o : Option Nat) : Nat := match o with | none => 60 + L T | some d => tgF A n L T d
/-- the fewest months of a set, from the place nP - n on -/
def tgN (A : Nt) (U : Nat) : Nat → Nat → Nat
  | 0 => fun _ => 0
  | n + 1 => fun T => if U.testBit (nOd A (nP A - (n + 1))) = true then tgV A n (tgN A U n) T (bestN (tgM A n T) (tgF A n (tgN A U n) T) (nD A)) else tgN A U n (addT T (mk1 (prA 7 A) (nOd A (nP A - (n + 1))) T))
def tgC (A : Nt) (U n T d : Nat) : Nat := tgF A n (tgN A U n) T d
def tgB (A : Nt) (U n T k : Nat) : Option Nat := bestN (tgM A n T) (tgC A U n T) k
theorem tgN_in {A : Nt} {U n T : Nat} (h : U.testBit (nOd A (nP A - (n + 1))) = true) : tgN A U (n + 1) T = match tgB A U n T (nD A) with | none => 60 + tgN A U n T | some d => tgC A U n T d := by
  show (if _ then _ else _) = _
  rw [if_pos h]
  rfl
theorem tgN_out {A : Nt} {U n T : Nat} (h : U.testBit (nOd A (nP A - (n + 1))) = false) : tgN A U (n + 1) T = tgN A U n (addT T (mk1 (prA 7 A) (nOd A (nP A - (n + 1))) T)) := by
  show (if _ then _ else _) = _
  rw [if_neg (by rw [h]; decide)]
theorem tgN_le {A : Nt} (hO : OkN A) (U : Nat) : ∀ n T, n ≤ nP A → tgN A U n T ≤ 78 * n
  | 0, _, _ => Nat.le_refl _
  | n + 1, T, hn => by
    have ih := fun T => tgN_le hO U n T (by omega)
    cases h : U.testBit (nOd A (nP A - (n + 1))) with
    | false =>
      rw [tgN_out h]
      have := ih (addT T (mk1 (prA 7 A) (nOd A (nP A - (n + 1))) T))
      omega
    | true =>
      rw [tgN_in h]
      cases e : tgB A U n T (nD A) with
      | none =>
        have := ih T
        show 60 + _ ≤ _
        omega
      | some d =>
        have hd := (bestN_in e).1
        have h1 := costT_le hO 7 (hO.od.1 (nP A - (n + 1)) (by omega)) hd
        have h2 := ih (addT T (some d))
        show costT 7 A _ d + tgN A U n _ ≤ _
        omega
theorem tgC_le {A : Nt} (hO : OkN A) {U n T d : Nat} (hn : n < nP A) (hd : d < nD A) : tgC A U n T d ≤ 78 + 78 * n := by
  have h1 := costT_le hO 7 (hO.od.1 (nP A - (n + 1)) (by omega)) hd
  have h2 := tgN_le hO U n (addT T (some d)) (by omega)
  show costT 7 A _ d + tgN A U n _ ≤ _
  omega
theorem tgB_s {A : Nt} {U n T k : Nat} : tgB A U n T (k + 1) = if tgM A n T k = true then (match tgB A U n T k with | none => some k | some b => if tgC A U n T k < tgC A U n T b then some k else some b) else tgB A U n T k := rfl
theorem chosenC {s : St} {A : Nt} {U : Nat} (hPr : PrC s 36 (prA 7 A)) (hO : OkN A) (hD : nD A ≤ 7) {n T : Nat} (hn : n < nP A) (hT : T < 2 ^ nD A) (hpop : popN T ≤ nP A - (n + 1)) (hL : LvC A (tgN A U) n s) (hU : U.testBit (nOd A (nP A - (n + 1))) = true) : F_TA_chosen 36 (nI (nP A - (n + 1))) (nI (nOd A (nP A - (n + 1)))) (nI T) s = some (nI (tgN A U (n + 1) T), s) := by
  have hP := hO.P
  have h3 := pow_le128 hD
  have hp := hO.od.1 (nP A - (n + 1)) (by omega)
  have hb : ∀ k c, k ≤ nD A → tgB A U n T k = some c → tgC A U n T c ≤ 78 + 78 * n := fun k c hk e => tgC_le hO hn (by have := (bestN_in e).1; omega)
  unfold F_TA_chosen F_TA_chosen_7
  refine fix_up (n := nD A) (fun d => (nI (match tgB A U n T d with | none => 1000000 | some b => tgC A U n T b), nI d, s)) (by rw [fuel_val]; omega) (fun K d hd => ?_) (fun K => ?_)
  · show H_TA_chosen_7 36 (nI (nP A - (n + 1))) (nI (nOd A (nP A - (n + 1)))) (nI T) K _ (nI d) s = _
    have hbd := hb d
    have hcd := tgC_le (U := U) (T := T) hO hn hd
    have elM : tgM A n T d = (!(T.testBit d) && mayA A (nOd A (nP A - (n + 1))) d) := rfl
    unfold H_TA_chosen_7 F_TA_chosen_54
    rw [show rd s 36 1 = nI (nD A) from hPr.2.1, if_neg (nI_ge hd (by omega)), hasC (by omega), Option.bind_some]
    simp only [zI_eq0]
    rw [allowsC hPr hO hp hd, Option.bind_some]
    simp only [zI_eq0]
    rw [tgB_s, nI_1, elM]
    cases hbt : T.testBit d with
    | true => simp
    | false =>
      simp only [if_true, Bool.not_false, Bool.true_and]
      cases hm : mayA A (nOd A (nP A - (n + 1))) d with
      | false => simp
      | true =>
        have hpo := pop_or T (by omega) d (by omega)
        have h2 := or_lt2 hT hd
        simp only [Bool.true_eq_false, if_false, if_true]
        rw [withTC hPr hO hD (by omega) hp hd hm hT, Option.bind_some, show nP A - (n + 1) + 1 = nP A - n by omega, hL _ h2 (by omega), nI_add]
        simp only
        have e1 : costT 7 A (nOd A (nP A - (n + 1))) d + tgN A U n (T ||| 2 ^ d) = tgC A U n T d := rfl
        rw [e1]
        cases e2 : tgB A U n T d with
        | none =>
          simp only
          rw [minC (by omega) (by omega), Option.bind_some, Nat.min_eq_right (by omega)]
        | some b =>
          have hbb := hbd b (by omega) e2
          simp only
          rw [minC (by omega) (by omega), Option.bind_some]
          by_cases g : tgC A U n T d < tgC A U n T b
          · simp only [g, if_true]
            rw [Nat.min_eq_right (by omega)]
          · simp only [g, if_false]
            rw [Nat.min_eq_left (by omega)]
  · show H_TA_chosen_7 36 (nI (nP A - (n + 1))) (nI (nOd A (nP A - (n + 1)))) (nI T) K _ (nI (nD A)) s = _
    unfold H_TA_chosen_7
    rw [show rd s 36 1 = nI (nD A) from hPr.2.1, if_pos (Int32.le_refl _), tgN_in hU]
    cases e : tgB A U n T (nD A) with
    | none =>
      simp only
      rw [if_pos (show (1000000 : Int32) ≤ nI 1000000 from Int32.le_refl _), nI_1, show nP A - (n + 1) + 1 = nP A - n by omega, getTC (by omega) (by omega), Option.bind_some]
      simp only
      rw [hL T hT (by omega), show (60 : Int32) = nI 60 from rfl, nI_add]
    | some b =>
      have := hb _ b (Nat.le_refl _) e
      simp only
      rw [if_neg (show ¬ (1000000 : Int32) ≤ nI (tgC A U n T b) from nI_ge (b := 1000000) (by omega) (by decide))]
theorem passedC {s : St} {A : Nt} {U : Nat} (hPr : PrC s 36 (prA 7 A)) (hO : OkN A) (hD : nD A ≤ 7) {n T : Nat} (hn : n < nP A) (hT : T < 2 ^ nD A) (hpop : popN T ≤ nP A - (n + 1)) (hL : LvC A (tgN A U) n s) (hU : U.testBit (nOd A (nP A - (n + 1))) = false) : F_TA_passed 36 (nI (nP A - (n + 1))) (nI (nOd A (nP A - (n + 1)))) (nI T) s = some (nI (tgN A U (n + 1) T), s) := by
  have hP := hO.P
  have h3 := pow_le128 hD
  have hp := hO.od.1 (nP A - (n + 1)) (by omega)
  have hz := prA_ok hO 7
  have hx : nI T ^^^ (-1 : Int32) = nI (T ^^^ (2 ^ 32 - 1)) := by rw [m1_nI, xor_nI]
  have hl := lightestC (L := T ^^^ (2 ^ 32 - 1)) (T := T) isPR_36 hPr hz hp (fun d hd => by
    have hd' : d < nD A := hd
    rw [Nat.testBit_xor, Nat.testBit_two_pow_sub_one, decide_eq_true (show d < 32 by omega)]
    cases T.testBit d <;> rfl)
  have hin : ∀ d, mk1 (prA 7 A) (nOd A (nP A - (n + 1))) T = some d → d < nD A := fun d e => (mk1_in e).1
  unfold F_TA_passed
  rw [hx, hl, Option.bind_some]
  simp only
  rw [bitC_b (fun d e => by have := hin d e; omega), Option.bind_some]
  simp only
  rw [nI_1, fa_or, show nP A - (n + 1) + 1 = nP A - n by omega, tgN_out hU, bid]
  have hTT : addT T (mk1 (prA 7 A) (nOd A (nP A - (n + 1))) T) < 2 ^ nD A ∧ popN (addT T (mk1 (prA 7 A) (nOd A (nP A - (n + 1))) T)) ≤ popN T + 1 := by
    unfold addT
    cases e : mk1 (prA 7 A) (nOd A (nP A - (n + 1))) T with
    | none =>
      show T ||| 0 < _ ∧ popN (T ||| 0) ≤ _
      rw [Nat.or_zero]
      exact ⟨hT, by omega⟩
    | some d =>
      have hd := hin d e
      exact ⟨or_lt2 hT hd, pop_or T (by omega) d (by omega)⟩
  show F_TA_get (nI (nP A - n)) (nI (addT T (mk1 (prA 7 A) (nOd A (nP A - (n + 1))) T))) s = _
  rw [getTC (by omega) (by omega), hL _ hTT.1 (by omega)]
theorem fillTogC {σ : St} {A : Nt} {U : Nat} (hA : AbsC σ 1 A) (hPr : PrC σ 36 (prA 7 A)) (hO : OkN A) (hD : nD A ≤ 7) (hU : U < 128) : ∃ s, F_TA_fillTogether 36 9 (nI U) σ = some s ∧ Fr [50] σ s ∧ ∀ m, m ≤ nP A → LvC A (tgN A U) m s := by
  have hP := hO.P
  have h128 := pow_le128 hD
  obtain ⟨s0, a1, a2, a3⟩ := closeTC (s := σ) (k := nP A) hP
  have inner : ∀ n s, n < nP A → Fr [50] σ s → (∀ m, m ≤ n → LvC A (tgN A U) m s) → ∃ s', Fr [50] σ s' ∧ (∀ m, m ≤ n + 1 → LvC A (tgN A U) m s') ∧ ∀ K, F_TA_fillTogether_40 36 9 K (nI U) (nI (nP A - (n + 1))) (nI (nOd A (nP A - (n + 1)))) (zI (U.testBit (nOd A (nP A - (n + 1))))) 0 s = K (nI (nP A - (n + 1)) - 1, s') := by
    intro n s hn hs htab
    obtain ⟨⟨w, s'⟩, ⟨hw, hf, h1, h2⟩, hr⟩ := fix_relK (f := fun K : Int32 × St → Option St => G_TA_fillTogether_40 36 9 K (nI U) (nI (nP A - (n + 1))) (nI (nOd A (nP A - (n + 1)))) (zI (U.testBit (nOd A (nP A - (n + 1)))))) (n := 2 ^ nD A) (s0 := (nI 0, s)) (fun S q => q.1 = nI S ∧ Fr [50] σ q.2 ∧ (∀ m, m ≤ n → LvC A (tgN A U) m q.2) ∧ ∀ S', S' < S → popN S' ≤ nP A - (n + 1) → rd q.2 50 ((nP A - (n + 1)) * 128 + S') = nI (tgN A U (n + 1) S')) (by rw [fuel_val]; omega) ⟨rfl, hs, htab, fun S' h => absurd h (Nat.not_lt_zero _)⟩ (by
      rintro S ⟨w, s⟩ hS ⟨hw, hf, h1, h2⟩
      simp only at hw hf h1 h2
      subst hw
      have hPs := hPr.fr hf (by decide) (by decide)
      have hcan := canBeTC (s := s) (show S < 128 by omega) (show nP A - (n + 1) < 100 by omega)
      by_cases hpop : popN S ≤ nP A - (n + 1)
      · refine ⟨(nI (S + 1), wr s 50 ((nP A - (n + 1)) * 128 + S) (nI (tgN A U (n + 1) S))), ⟨rfl, hf.two (Fr.wr (by simp)), fun m hm => (h1 m hm).un (fun S' hS' => rd_wr_slot _ _ _ _ (by omega)) hD, fun S' hS' hp' => ?_⟩, fun K K' => ?_⟩
        · by_cases e : S' = S
          · subst e; exact rd_wr_same _ _ _ _
          · rw [rd_wr_slot _ _ _ _ (by omega)]; exact h2 S' (by omega) hp'
        · show H_TA_fillTogether_40 36 9 K (nI U) (nI (nP A - (n + 1))) (nI (nOd A (nP A - (n + 1)))) (zI (U.testBit (nOd A (nP A - (n + 1))))) K' (nI S) s = _
          unfold H_TA_fillTogether_40 F_TA_fillTogether_97 F_TA_fillTogether_100
          rw [show rd s 36 1 = nI (nD A) from hPs.2.1, bitC (by omega), Option.bind_some]
          simp only
          rw [if_neg (nI_ge hS (by omega)), hcan, Option.bind_some, decide_eq_true hpop]
          simp only [zI_t, one0, if_false]
          cases hu : U.testBit (nOd A (nP A - (n + 1))) with
          | false =>
            rw [if_pos (show zI false = 0 from rfl), passedC hPs hO hD hn hS hpop (h1 n (Nat.le_refl _)) hu, Option.bind_some]
            simp only
            rw [setTC (by omega) (by omega), Option.bind_some, nI_1]
          | true =>
            rw [if_neg (show ¬ zI true = 0 by decide), chosenC hPs hO hD hn hS hpop (h1 n (Nat.le_refl _)) hu, Option.bind_some]
            simp only
            rw [setTC (by omega) (by omega), Option.bind_some, nI_1]
      · refine ⟨(nI (S + 1), s), ⟨rfl, hf, h1, fun S' hS' hp' => ?_⟩, fun K K' => ?_⟩
        · by_cases e : S' = S
          · subst e; exact absurd hp' hpop
          · exact h2 S' (by omega) hp'
        · show H_TA_fillTogether_40 36 9 K (nI U) (nI (nP A - (n + 1))) (nI (nOd A (nP A - (n + 1)))) (zI (U.testBit (nOd A (nP A - (n + 1))))) K' (nI S) s = _
          unfold H_TA_fillTogether_40 F_TA_fillTogether_100
          rw [show rd s 36 1 = nI (nD A) from hPs.2.1, bitC (by omega), Option.bind_some]
          simp only
          rw [if_neg (nI_ge hS (by omega)), hcan, Option.bind_some, decide_eq_false hpop]
          simp only [zI_f, if_true]
          rw [nI_1])
    simp only at hw hf h1 h2
    refine ⟨s', hf, fun m hm => ?_, fun K => hr K _ (fun K' => ?_)⟩
    · by_cases e : m = n + 1
      · subst e; exact fun S hS hp => h2 S hS hp
      · exact h1 m (by omega)
    · show H_TA_fillTogether_40 36 9 K (nI U) (nI (nP A - (n + 1))) (nI (nOd A (nP A - (n + 1)))) (zI (U.testBit (nOd A (nP A - (n + 1))))) K' w s' = _
      unfold H_TA_fillTogether_40
      rw [show rd s' 36 1 = nI (nD A) from (hPr.fr hf (by decide) (by decide)).2.1, bitC (by omega), Option.bind_some]
      simp only
      rw [hw, if_pos (Int32.le_refl _)]
  obtain ⟨⟨w, s1⟩, ⟨hw, hf, htab⟩, hr⟩ := fix_rel (f := G_TA_fillTogether_16 36 9 (nI U)) (n := nP A) (s0 := (nI (nP A) - 1, s0)) (fun n q => q.1 = nI (nP A - n) - 1 ∧ Fr [50] σ q.2 ∧ ∀ m, m ≤ n → LvC A (tgN A U) m q.2) (by rw [fuel_val]; omega) ⟨rfl, a3, fun m hm S hS _ => by
      have e : m = 0 := by omega
      subst e
      exact a2 S (by omega)⟩ (by
    rintro n ⟨w, s⟩ hn ⟨hw, hf, htab⟩
    simp only at hw hf htab
    rw [nI_dec (by omega), Nat.sub_sub] at hw
    subst hw
    have hp := hO.od.1 (nP A - (n + 1)) (by omega)
    obtain ⟨s', b1, b2, b3⟩ := inner n s hn hf htab
    refine ⟨(nI (nP A - (n + 1)) - 1, s'), ⟨rfl, b1, b2⟩, fun K => ?_⟩
    show H_TA_fillTogether_16 36 9 (nI U) K (nI (nP A - (n + 1))) s = _
    unfold H_TA_fillTogether_16
    rw [if_neg (nI_pos (by omega)), atC al_9 (by omega), Option.bind_some]
    simp only
    rw [hf.at (by decide) _, show rd σ 9 (nP A - (n + 1)) = nI (nOd A (nP A - (n + 1))) from (hA.2.2.2 _ (by omega)).2.2.2.2.2, hasC (by omega), Option.bind_some, b3])
  simp only at hw hf htab
  rw [Nat.sub_self] at hw
  refine ⟨s1, ?_, hf, htab⟩
  unfold F_TA_fillTogether F_TA_fillTogether_16
  rw [show rd σ 36 0 = nI (nP A) from hPr.1, a1, Option.bind_some, Option.bind_some, show rd s0 36 0 = nI (nP A) from (a3.at (by decide) 0).trans hPr.1]
  refine hr _ (fun K => ?_)
  show H_TA_fillTogether_16 36 9 (nI U) K w s1 = _
  unfold H_TA_fillTogether_16
  rw [hw, if_pos (by decide)]
