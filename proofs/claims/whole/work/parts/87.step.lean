-- all calls together
theorem lg_same (r : Int64) : lg_cmp r r = 0 := by
  unfold lg_cmp
  simp
theorem ask_one {f g : St → Option (Int32 × St)} (h : Ask f g) {s : St} (hs : INV s) (L : Nat) (xs : Nat → Int32) (i : Nat) : ∃ s', INV s' ∧ ∀ K : Int32 × St → Option (Int32 × St), ((f s).bind fun o => (g o.2).bind fun o' => if o.1 = o'.1 then (F_LW_1460 L xs K (nI i) o'.2) else (some (0, o'.2))) = K (nI (i + 4), s') := by
  obtain ⟨r, s1, s2, h1, h2, h3⟩ := h s hs
  refine ⟨s2, h3, fun K => ?_⟩
  rw [h1, Option.bind_some]
  simp only
  rw [h2, Option.bind_some]
  simp only
  rw [if_pos trivial]
  unfold F_LW_1460
  rw [show nI i + (4 : Int32) = nI (i + 4) from nI_sum i 4]
theorem ask_oneL {f g : St → Option (Int64 × St)} (h : AskL f g) {s : St} (hs : INV s) (L : Nat) (xs : Nat → Int32) (i : Nat) : ∃ s', INV s' ∧ ∀ K : Int32 × St → Option (Int32 × St), ((f s).bind fun o => (g o.2).bind fun o' => if (lg_cmp o.1 o'.1) = 0 then (F_LW_1460 L xs K (nI i) o'.2) else (some (0, o'.2))) = K (nI (i + 4), s') := by
  obtain ⟨r, s1, s2, h1, h2, h3⟩ := h s hs
  refine ⟨s2, h3, fun K => ?_⟩
  rw [h1, Option.bind_some]
  simp only
  rw [h2, Option.bind_some]
  simp only
  rw [if_pos (lg_same r)]
  unfold F_LW_1460
  rw [show nI i + (4 : Int32) = nI (i + 4) from nI_sum i 4]
theorem ldS_in {xs : Nat → Int32} {L j : Nat} (h : j < L) (hL : L ≤ 2048) : ldS xs L (nI j) = some (xs j) := by
  unfold ldS
  have e : inB (nI j) L = true := by
    unfold inB
    rw [nI_toInt (by omega)]
    simp
    omega
  rw [if_pos e, nI_clamp (by omega)]
theorem main_step {L : Nat} {xs : Nat → Int32} (hL : L ≤ 2048) {i : Nat} (hi : i + 4 ≤ L) {s : St} (hs : INV s) : ∃ s', INV s' ∧ ∀ K, H_LW_18 L xs K (nI i) s = K (nI (i + 4), s') := by
  have hlt : ¬ (nI L - (4 : Int32)) < nI i := by
    rw [show (4 : Int32) = nI 4 from rfl, pk_sub (by omega)]
    exact nI_nlt (by omega) (by omega)
  have h0 := ldS_in (xs := xs) (L := L) (j := i) (by omega) hL
  have h1 : ldS xs L (nI i + 1) = some (xs (i + 1)) := by rw [show nI i + (1 : Int32) = nI (i + 1) from nI_sum i 1]; exact ldS_in (by omega) hL
  have h2 : ldS xs L (nI i + 2) = some (xs (i + 2)) := by rw [show nI i + (2 : Int32) = nI (i + 2) from nI_sum i 2]; exact ldS_in (by omega) hL
  have h3 : ldS xs L (nI i + 3) = some (xs (i + 3)) := by rw [show nI i + (3 : Int32) = nI (i + 3) from nI_sum i 3]; exact ldS_in (by omega) hL
  unfold H_LW_18
  simp only [if_neg hlt, h0, h1, h2, h3, Option.bind_some]
  generalize xs i &&& 63 = x
  by_cases c0 : x = 0
  · simp only [if_pos c0]
    exact ask_one (op_feed (xs (i + 1))) hs L xs i
  simp only [if_neg c0]
  by_cases c1 : x = 1
  · simp only [if_pos c1]
    exact ask_one (op_night) hs L xs i
  simp only [if_neg c1]
  by_cases c2 : x = 2
  · simp only [if_pos c2]
    exact ask_one (op_deed (xs (i + 1)) (xs (i + 2))) hs L xs i
  simp only [if_neg c2]
  by_cases c3 : x = 3
  · simp only [if_pos c3]
    exact ask_one (op_person (xs (i + 1)) (xs (i + 2))) hs L xs i
  simp only [if_neg c3]
  by_cases c4 : x = 4
  · simp only [if_pos c4]
    exact ask_one (op_months (xs (i + 1)) (xs (i + 2))) hs L xs i
  simp only [if_neg c4]
  by_cases c5 : x = 5
  · simp only [if_pos c5]
    exact ask_one (op_addDeed (xs (i + 1)) (xs (i + 2))) hs L xs i
  simp only [if_neg c5]
  by_cases c6 : x = 6
  · simp only [if_pos c6]
    exact ask_one (op_addPerson (xs (i + 1)) (xs (i + 2)) (xs (i + 3))) hs L xs i
  simp only [if_neg c6]
  by_cases c7 : x = 7
  · simp only [if_pos c7]
    exact ask_one (op_change (xs (i + 1)) (xs (i + 2))) hs L xs i
  simp only [if_neg c7]
  by_cases c8 : x = 8
  · simp only [if_pos c8]
    exact ask_one (op_alibi (xs (i + 1)) (xs (i + 2))) hs L xs i
  simp only [if_neg c8]
  by_cases c9 : x = 9
  · simp only [if_pos c9]
    exact ask_one (op_brothers (xs (i + 1)) (xs (i + 2))) hs L xs i
  simp only [if_neg c9]
  by_cases c10 : x = 10
  · simp only [if_pos c10]
    exact ask_one (op_back) hs L xs i
  simp only [if_neg c10]
  by_cases c11 : x = 11
  · simp only [if_pos c11]
    exact ask_one (op_takes (xs (i + 1)) (xs (i + 2))) hs L xs i
  simp only [if_neg c11]
  by_cases c12 : x = 12
  · simp only [if_pos c12]
    exact ask_one (op_morning (xs (i + 1))) hs L xs i
  simp only [if_neg c12]
  by_cases c13 : x = 13
  · simp only [if_pos c13]
    exact ask_one (op_least (xs (i + 1))) hs L xs i
  simp only [if_neg c13]
  by_cases c14 : x = 14
  · simp only [if_pos c14]
    exact ask_one (op_fromLast (xs (i + 1)) (xs (i + 2))) hs L xs i
  simp only [if_neg c14]
  by_cases c15 : x = 15
  · simp only [if_pos c15]
    exact ask_one (op_allFromLast) hs L xs i
  simp only [if_neg c15]
  by_cases c16 : x = 16
  · simp only [if_pos c16]
    exact ask_oneL (op_whose (xs (i + 1)) (xs (i + 2))) hs L xs i
  simp only [if_neg c16]
  by_cases c17 : x = 17
  · simp only [if_pos c17]
    exact ask_one (op_rule (xs (i + 1)) (xs (i + 2))) hs L xs i
  simp only [if_neg c17]
  by_cases c18 : x = 18
  · simp only [if_pos c18]
    exact ask_one (op_bestRule) hs L xs i
  simp only [if_neg c18]
  by_cases c19 : x = 19
  · simp only [if_pos c19]
    exact ask_one (op_placeWorth (xs (i + 1))) hs L xs i
  simp only [if_neg c19]
  by_cases c20 : x = 20
  · simp only [if_pos c20]
    exact ask_one (op_changes) hs L xs i
  simp only [if_neg c20]
  by_cases c21 : x = 21
  · simp only [if_pos c21]
    exact ask_one (op_bestOrder (xs (i + 1))) hs L xs i
  simp only [if_neg c21]
  by_cases c22 : x = 22
  · simp only [if_pos c22]
    exact ask_one (op_putIn (xs (i + 1)) (xs (i + 2))) hs L xs i
  simp only [if_neg c22]
  by_cases c23 : x = 23
  · simp only [if_pos c23]
    exact ask_one (op_together (xs (i + 1)) (xs (i + 2))) hs L xs i
  simp only [if_neg c23]
  by_cases c24 : x = 24
  · simp only [if_pos c24]
    exact ask_one (op_alibiWorth (xs (i + 1)) (xs (i + 2))) hs L xs i
  simp only [if_neg c24]
  by_cases c25 : x = 25
  · simp only [if_pos c25]
    exact ask_one (op_givenAway) hs L xs i
  simp only [if_neg c25]
  by_cases c26 : x = 26
  · simp only [if_pos c26]
    exact ask_oneL (op_caught (xs (i + 1)) (xs (i + 2)) (xs (i + 3))) hs L xs i
  simp only [if_neg c26]
  by_cases c27 : x = 27
  · simp only [if_pos c27]
    exact ask_one (op_spared) hs L xs i
  simp only [if_neg c27]
  by_cases c28 : x = 28
  · simp only [if_pos c28]
    exact ask_one (op_keeper) hs L xs i
  simp only [if_neg c28]
  by_cases c29 : x = 29
  · simp only [if_pos c29]
    exact ask_one (op_swaps (xs (i + 1))) hs L xs i
  simp only [if_neg c29]
  by_cases c30 : x = 30
  · simp only [if_pos c30]
    exact ask_one (op_heavier (xs (i + 1)) (xs (i + 2))) hs L xs i
  simp only [if_neg c30]
  by_cases c31 : x = 31
  · simp only [if_pos c31]
    exact ask_one (op_bestDid (xs (i + 1))) hs L xs i
  simp only [if_neg c31]
  by_cases c32 : x = 32
  · simp only [if_pos c32]
    exact ask_one (op_rest (xs (i + 1))) hs L xs i
  simp only [if_neg c32]
  by_cases c33 : x = 33
  · simp only [if_pos c33]
    exact ask_one (op_even (xs (i + 1))) hs L xs i
  simp only [if_neg c33]
  by_cases c34 : x = 34
  · simp only [if_pos c34]
    exact ask_one (op_lastWord (xs (i + 1))) hs L xs i
  simp only [if_neg c34]
  by_cases c35 : x = 35
  · simp only [if_pos c35]
    exact ask_one (op_bribe (xs (i + 1))) hs L xs i
  simp only [if_neg c35]
  by_cases c36 : x = 36
  · simp only [if_pos c36]
    exact ask_one (op_latest (xs (i + 1)) (xs (i + 2))) hs L xs i
  simp only [if_neg c36]
  by_cases c37 : x = 37
  · simp only [if_pos c37]
    exact ask_one (op_truth (xs (i + 1))) hs L xs i
  simp only [if_neg c37]
  by_cases c38 : x = 38
  · simp only [if_pos c38]
    exact ask_one (op_parole) hs L xs i
  simp only [if_neg c38]
  by_cases c39 : x = 39
  · simp only [if_pos c39]
    exact ask_one (op_newBrothers) hs L xs i
  simp only [if_neg c39]
  by_cases c40 : x = 40
  · simp only [if_pos c40]
    exact ask_one (op_madeLight) hs L xs i
  simp only [if_neg c40]
  by_cases c41 : x = 41
  · simp only [if_pos c41]
    exact ask_one (op_always) hs L xs i
  simp only [if_neg c41]
  by_cases c42 : x = 42
  · simp only [if_pos c42]
    exact ask_one (op_row (xs (i + 1))) hs L xs i
  simp only [if_neg c42]
  by_cases c43 : x = 43
  · simp only [if_pos c43]
    exact ask_one (op_judge) hs L xs i
  simp only [if_neg c43]
  by_cases c44 : x = 44
  · simp only [if_pos c44]
    exact ask_one (op_fits (xs (i + 1))) hs L xs i
  simp only [if_neg c44]
  by_cases c45 : x = 45
  · simp only [if_pos c45]
    exact ask_one (op_clear) hs L xs i
  simp only [if_neg c45]
  by_cases c46 : x = 46
  · simp only [if_pos c46]
    exact ask_one (op_lots (xs (i + 1)) (xs (i + 2)) (xs (i + 3))) hs L xs i
  simp only [if_neg c46]
  by_cases c47 : x = 47
  · simp only [if_pos c47]
    exact ask_one (op_image) hs L xs i
  simp only [if_neg c47]
  by_cases c48 : x = 48
  · simp only [if_pos c48]
    exact ask_one (op_restore) hs L xs i
  simp only [if_neg c48]
  by_cases c49 : x = 49
  · simp only [if_pos c49]
    exact ask_one (op_count (xs (i + 1))) hs L xs i
  simp only [if_neg c49]
  refine ⟨s, hs, fun K => ?_⟩
  unfold F_LW_1460
  rw [show nI i + (4 : Int32) = nI (i + 4) from nI_sum i 4]
