-- adding, feeding, the row, counting
theorem lt_nI {n : Nat} {a : Int32} (hn : n + 1 < 2 ^ 31) (h : nI (n + 1) ≤ a) : nI n < a := by
  rw [fa_le, nI_toInt hn] at h
  rw [fa_lt, nI_toInt (by omega)]
  omega
theorem nlt_nI {n : Nat} {a : Int32} (h : nI n ≤ a) : ¬ a < nI n := Int32.not_lt.mpr h
theorem nneg {n : Nat} {a : Int32} (hn : n < 2 ^ 31) (h : nI n ≤ a) : ¬ a < 0 := by
  rw [fa_le, nI_toInt hn] at h
  rw [fa_lt]
  have : (0 : Int32).toInt = 0 := by decide
  omega
theorem pos_nI {n : Nat} {a : Int32} (hn : n < 2 ^ 31) (h : nI n ≤ a) : 0 ≤ a := by
  rw [fa_le, nI_toInt hn] at h
  rw [fa_le]
  have : (0 : Int32).toInt = 0 := by decide
  omega
theorem npos {a : Int32} (h : a < 0) : ¬ 0 ≤ a := Int32.not_le.mpr h
section BND
variable {σ : St}
theorem isIn_in {k m : Nat} (hk : k ≤ m) (hm : m < 2 ^ 31) : F_MD_isIn (nI k) 0 (nI m) σ = some (1, σ) := by
  unfold F_MD_isIn
  rw [if_neg (nI_pos (by omega)), if_neg (nI_nlt hk hm)]
theorem isIn_out {a : Int32} {m : Nat} (hm : m + 1 < 2 ^ 31) (h : a < 0 ∨ nI (m + 1) ≤ a) : F_MD_isIn a 0 (nI m) σ = some (0, σ) := by
  unfold F_MD_isIn F_MD_isIn_14
  by_cases q : a < 0
  · rw [if_pos q]
  · rcases h with h | h
    · exact absurd h q
    · rw [if_neg q, if_pos (lt_nI hm h)]
theorem bound_in {k m : Nat} (hk : k ≤ m) (hm : m < 2 ^ 31) : F_MD_bound (nI k) 0 (nI m) σ = some (0, σ) := by
  unfold F_MD_bound
  rw [if_pos (nI_pos' (by omega)), if_pos (nI_le hk hm)]
theorem bound_lo {a : Int32} {m : Nat} (h : a < 0) : F_MD_bound a 0 (nI m) σ = some (-4, σ) := by
  unfold F_MD_bound
  rw [if_neg (npos h)]
theorem bound_hi {a : Int32} {m : Nat} (hm : m + 1 < 2 ^ 31) (h : nI (m + 1) ≤ a) : F_MD_bound a 0 (nI m) σ = some (-6, σ) := by
  unfold F_MD_bound
  rw [if_pos (pos_nI hm h), if_neg (Int32.not_le.mpr (lt_nI hm h))]
end BND
theorem INV_new {σ τ : St} {A B : Nt} (hM : MdN σ A 7) (hg : rd σ 58 26 = nI 0) (hL : LetI σ) (hR : RowI σ) (hF : RefI σ) (hI : ImgI σ) (he : ∀ b j, ¬ (1 ≤ b ∧ b ≤ 9 ∨ b = 28 ∨ b = 58 ∧ (j = 9 ∨ j = 10 ∨ j = 22) ∨ 60 ≤ b ∧ b ≤ 67) → rd τ b j = rd σ b j) (h1 : rd τ 28 0 = 0) (h2 : rd τ 58 22 = 0) (hO : OkN B) (hD : nD B ≤ 7 ∧ AlK B) (hC : AbsC τ 1 B) (hB : AbsM τ B) : INV τ :=
  ⟨B, ⟨hO, hD, hC, ⟨hB, (he 58 23 (by omega)).trans hM.2.1, by decide⟩, (he 58 26 (by omega)).trans hg⟩, ⟨0, fun _ => B, by decide, h1, h2, rfl, fun i hi => absurd hi (Nat.not_lt_zero _)⟩, hL.un (fun b j q => he b j (by omega)), hR.un (fun b j q => he b j (by omega)), hF.un (fun b j q => he b j (by omega)), hI.un (fun b j q => he b j (by omega))⟩
theorem AlK_adN {A : Nt} (h : AlK A) {k f : Nat} : AlK (adN A k f) := fun p hp => by
  have := h p hp
  show nAl A p < 2 ^ (nD A + 1)
  rw [Nat.pow_succ]; omega
theorem AlK_adP {A : Nt} (h : AlK A) {r c d : Nat} : AlK (adP A r c d) := fun p hp => by
  show fput (nAl A) (nP A) 0 p < 2 ^ nD A
  unfold fput
  split
  · exact Nat.two_pow_pos _
  · rename_i q
    have hp2 : p < nP A + 1 := hp
    exact h p (by omega)
theorem op_addDeed (a b : Int32) : Ask (F_AC_addDeed a b) (F_MD_addDeed a b) := by
  intro σ h
  obtain ⟨A, hN, hCh, hL, hR, hF, hI⟩ := id h
  obtain ⟨hO, hD, hA, hM, hg⟩ := id hN
  have c9 : rd σ 1 0 = nI (nD A) := hA.1
  have m9 : rd σ 58 9 = nI (nD A) := hM.1.1
  have hkind : (a < 0 ∨ nI (5 + 1) ≤ a) → ∃ r σ1 σ2, F_AC_addDeed a b σ = some (r, σ1) ∧ F_MD_addDeed a b σ1 = some (r, σ2) ∧ INV σ2 := fun ha => by
    refine Ask.no h (k := 2) (x := -2) (by decide) (by decide) ?_ (fun τ hτ => ?_)
    · unfold F_AC_addDeed F_AC_addDeed_10
      rw [bid]
      by_cases q : a < 0
      · rw [if_pos q]
      · rw [if_neg q, if_neg (show ¬ a < (6 : Int32) from nlt_nI (ha.resolve_left q))]
    · unfold F_MD_addDeed F_MD_addDeed_21 F_MD_addDeed_38
      rw [show (5 : Int32) = nI 5 from rfl, isIn_out (by decide) ha, Option.bind_some, if0, if_neg (by decide), if_neg (by decide), bid]
  rcases pk_ix a (n := 6) (by decide) with ha | ha | ⟨k, hk, rfl⟩
  · exact hkind (Or.inl ha)
  · exact hkind (Or.inr ha)
  have k0 : ¬ nI k < 0 := nI_pos (by omega)
  have k6 : nI k < (6 : Int32) := nI_lt hk (by decide)
  rcases pk_ix b (n := 10) (by decide) with hb | hb | ⟨f, hf, rfl⟩
  · refine Ask.no h (k := 4) (x := -4) (by decide) (by decide) ?_ (fun τ hτ => ?_)
    · unfold F_AC_addDeed
      rw [if_neg k0, if_pos k6, if_neg (npos hb), bid]
    · unfold F_MD_addDeed F_MD_addDeed_21 F_MD_addDeed_38
      rw [show (5 : Int32) = nI 5 from rfl, isIn_in (by omega) (by decide), Option.bind_some, if1, show (9 : Int32) = nI 9 from rfl, bound_lo hb, Option.bind_some]
      simp only
      rw [if_neg (by decide), if_neg (by decide), bid]
  · refine Ask.no h (k := 6) (x := -6) (by decide) (by decide) ?_ (fun τ hτ => ?_)
    · unfold F_AC_addDeed F_AC_addDeed_46
      rw [if_neg k0, if_pos k6, if_pos (pos_nI (by decide) hb), if_pos (show (9 : Int32) < b from lt_nI (by decide) hb), bid]
    · unfold F_MD_addDeed F_MD_addDeed_21 F_MD_addDeed_38
      rw [show (5 : Int32) = nI 5 from rfl, isIn_in (by omega) (by decide), Option.bind_some, if1, show (9 : Int32) = nI 9 from rfl, bound_hi (by decide) hb, Option.bind_some]
      simp only
      rw [if_neg (by decide), if_neg (by decide), bid]
  have f0 : 0 ≤ nI f := nI_pos' (by omega)
  have f9 : ¬ (9 : Int32) < nI f := nI_nlt (a := 9) (by omega) (by decide)
  by_cases h7 : nD A = 7
  · refine Ask.no h (k := 6) (x := -6) (by decide) (by decide) ?_ (fun τ hτ => ?_)
    · unfold F_AC_addDeed F_AC_addDeed_46
      rw [if_neg k0, if_pos k6, if_pos f0, if_neg f9, c9, h7, if_neg (by decide), bid]
    · unfold F_MD_addDeed F_MD_addDeed_21 F_MD_addDeed_38
      rw [show (5 : Int32) = nI 5 from rfl, isIn_in (by omega) (by decide), Option.bind_some, if1, show (9 : Int32) = nI 9 from rfl, bound_in (by omega) (by decide), Option.bind_some]
      simp only [if_true]
      rw [hτ 58 9 (by decide), m9, h7, if_pos (show nI 7 = (7 : Int32) from rfl), if_neg (by decide), bid]
  · have hlt : nD A < 7 := by omega
    have hA1 : AbsC (wr σ 28 0 0) 1 A := hA.un (fun b j _ _ => rd_wr_cell _ _ _ _ (by omega))
    obtain ⟨s2, a1, a2, hA2⟩ := putDeedC isNI_1 hA1 (by omega) k f
    have e02 : ∀ b j, ¬ (b = 28 ∨ 1 ≤ b ∧ b ≤ 3) → rd s2 b j = rd σ b j := fun b j q => by
      rw [a2.at (by simp; omega) j, rd_wr_cell _ _ _ _ (by omega)]
    let s3 := wr s2 58 22 0
    have e23 : ∀ b j, ¬ (b = 58 ∧ j = 22) → rd s3 b j = rd s2 b j := fun b j q => by
      show rd (wr s2 58 22 0) b j = _
      rw [rd_wr, if_neg q]
    have hM3 : AbsM s3 A := hM.1.un (fun b j q => by rw [e23 b j (by omega), e02 b j (by omega)])
    obtain ⟨s4, b1, b2, hM4, b3⟩ := addsDeedM (σ := s3) hM3 (by omega) k f
    refine ⟨nI (nD A), s2, s4, ?_, ?_, INV_new (B := adN A k f) hM hg hL hR hF hI (fun b j q => ?_) ?_ ?_ (hO.adN (by omega) hk hf) ⟨hlt, AlK_adN hD.2⟩ ?_ hM4⟩
    · unfold F_AC_addDeed F_PA_forget
      rw [if_neg k0, if_pos k6, if_pos f0, if_neg f9, c9, if_pos (show nI (nD A) < (7 : Int32) from nI_lt hlt (by decide)), Option.bind_some, Option.bind_some, a1, Option.bind_some]
    · unfold F_MD_addDeed F_MD_addDeed_21 F_MD_addDeed_38
      rw [show (5 : Int32) = nI 5 from rfl, isIn_in (by omega) (by decide), Option.bind_some, if1, show (9 : Int32) = nI 9 from rfl, bound_in (by omega) (by decide), Option.bind_some]
      simp only [if_true]
      rw [e02 58 9 (by omega), m9, if_neg (show ¬ nI (nD A) = (7 : Int32) from fun q => h7 (nI_inj (b := 7) (by omega) (by decide) q)), Option.bind_some]
      rw [show F_MD_addsDeed (nI k) (nI f) (wr s2 58 22 0) = some s4 from b1, Option.bind_some, b2, nI_dec (by omega), Nat.add_sub_cancel]
    · rw [b3 b j (by omega), e23 b j (by omega), e02 b j (by omega)]
    · rw [b3 28 0 (by omega), e23 28 0 (by omega), a2.at (by decide), rd_wr_same]
    · rw [b3 58 22 (by omega)]; exact rd_wr_same _ _ _ _
    · exact hA2.un (fun b j q1 q2 => by rw [b3 b j (by omega), e23 b j (by omega)])
theorem op_addPerson (a b c : Int32) : Ask (F_AC_addPerson a b c) (F_MD_addPerson a b c) := by
  intro σ h
  obtain ⟨A, hN, hCh, hL, hR, hF, hI⟩ := id h
  obtain ⟨hO, hD, hA, hM, hg⟩ := id hN
  have hP := hO.P
  have c9 : rd σ 1 1 = nI (nP A) := hA.2.1
  have m9 : rd σ 58 10 = nI (nP A) := hM.1.2.1
  by_cases hneg : a < 0 ∨ b < 0 ∨ c < 0
  · refine Ask.no h (k := 4) (x := -4) (by decide) (by decide) ?_ (fun τ hτ => ?_)
    · unfold F_AC_addPerson F_AC_addPerson_12
      rw [bid]
      by_cases q1 : a < 0
      · rw [if_pos q1]
      · by_cases q2 : b < 0
        · rw [if_neg q1, if_pos q2]
        · rw [if_neg q1, if_neg q2, if_neg (npos ((hneg.resolve_left q1).resolve_left q2))]
    · unfold F_MD_addPerson F_MD_addPerson_12 F_MD_addPerson_51
      rw [if_neg (show ¬ (-4 : Int32) = 0 by decide), bid]
      by_cases q1 : a < 0
      · rw [if_pos q1]
      · by_cases q2 : b < 0
        · rw [if_neg q1, if_pos q2]
        · rw [if_neg q1, if_neg q2, if_neg (npos ((hneg.resolve_left q1).resolve_left q2))]
  have q1 : ¬ a < 0 := fun w => hneg (Or.inl w)
  have q2 : ¬ b < 0 := fun w => hneg (Or.inr (Or.inl w))
  have q3 : 0 ≤ c := Int32.not_lt.mp (fun w => hneg (Or.inr (Or.inr w)))
  by_cases hbig : (9 : Int32) < a ∨ (128 : Int32) ≤ b ∨ (7 : Int32) < c ∨ nP A = 7
  · refine Ask.no h (k := 6) (x := -6) (by decide) (by decide) ?_ (fun τ hτ => ?_)
    · unfold F_AC_addPerson F_AC_addPerson_50
      rw [bid, if_neg q1, if_neg q2, if_pos q3]
      by_cases w1 : (9 : Int32) < a
      · rw [if_pos w1]
      · rw [if_neg w1]
        by_cases w2 : (128 : Int32) ≤ b
        · rw [if_pos w2]
        · rw [if_neg w2]
          by_cases w3 : (7 : Int32) < c
          · rw [if_pos w3]
          · rw [if_neg w3, c9, ((hbig.resolve_left w1).resolve_left w2).resolve_left w3, if_neg (by decide)]
    · unfold F_MD_addPerson F_MD_addPerson_45 F_MD_addPerson_51
      rw [if_neg (show ¬ (-6 : Int32) = 0 by decide), bid, if_neg q1, if_neg q2, if_pos q3]
      by_cases w1 : (9 : Int32) < a
      · rw [if_pos w1]
      · rw [if_neg w1]
        by_cases w2 : (128 : Int32) ≤ b
        · rw [if_pos w2]
        · rw [if_neg w2]
          by_cases w3 : (7 : Int32) < c
          · rw [if_pos w3]
          · rw [if_neg w3, hτ 58 10 (by decide), m9, ((hbig.resolve_left w1).resolve_left w2).resolve_left w3, if_pos (show nI 7 = (7 : Int32) from rfl)]
  have w1 : ¬ (9 : Int32) < a := fun w => hbig (Or.inl w)
  have w2 : ¬ (128 : Int32) ≤ b := fun w => hbig (Or.inr (Or.inl w))
  have w3 : ¬ (7 : Int32) < c := fun w => hbig (Or.inr (Or.inr (Or.inl w)))
  have w4 : ¬ nP A = 7 := fun w => hbig (Or.inr (Or.inr (Or.inr w)))
  obtain ⟨r, hr, rfl⟩ : ∃ r, r < 10 ∧ a = nI r := by
    rcases pk_ix a (n := 10) (by decide) with ha | ha | ha
    · exact absurd ha q1
    · exact absurd (lt_nI (n := 9) (by decide) ha) w1
    · exact ha
  obtain ⟨co, hco, rfl⟩ : ∃ r, r < 128 ∧ b = nI r := by
    rcases pk_ix b (n := 128) (by decide) with ha | ha | ha
    · exact absurd ha q2
    · exact absurd ha w2
    · exact ha
  obtain ⟨d, hd, rfl⟩ : ∃ r, r < 8 ∧ c = nI r := by
    rcases pk_ix c (n := 8) (by decide) with ha | ha | ha
    · exact absurd ha (fun q => hneg (Or.inr (Or.inr q)))
    · exact absurd (lt_nI (n := 7) (by decide) ha) w3
    · exact ha
  have hlt : nP A < 7 := by omega
  have hA1 : AbsC (wr σ 28 0 0) 1 A := hA.un (fun b j _ _ => rd_wr_cell _ _ _ _ (by omega))
  obtain ⟨s2, a1, a2, hA2⟩ := putPersonC isNI_1 hA1 hlt r co d
  have e02 : ∀ b j, ¬ (b = 28 ∨ 1 ≤ b ∧ b ≤ 9) → rd s2 b j = rd σ b j := fun b j q => by
    rw [a2.at (by simp; omega) j, rd_wr_cell _ _ _ _ (by omega)]
  let s3 := wr s2 58 22 0
  have e23 : ∀ b j, ¬ (b = 58 ∧ j = 22) → rd s3 b j = rd s2 b j := fun b j q => by
    show rd (wr s2 58 22 0) b j = _
    rw [rd_wr, if_neg q]
  have hM3 : AbsM s3 A := hM.1.un (fun b j q => by rw [e23 b j (by omega), e02 b j (by omega)])
  obtain ⟨s4, b1, b2, hM4, b3⟩ := addsPersonM (σ := s3) hM3 hlt r co d
  refine ⟨nI (nP A), s2, s4, ?_, ?_, INV_new (B := adP A r co d) hM hg hL hR hF hI (fun b j q => ?_) ?_ ?_ (hO.adP hlt hr hco hd) ⟨hD.1, AlK_adP hD.2⟩ ?_ hM4⟩
  · unfold F_AC_addPerson F_PA_forget
    rw [if_neg q1, if_neg q2, if_pos q3, if_neg w1, if_neg w2, if_neg w3, c9, if_pos (show nI (nP A) < (7 : Int32) from nI_lt hlt (by decide)), Option.bind_some, Option.bind_some, a1, Option.bind_some]
  · unfold F_MD_addPerson F_MD_addPerson_51
    rw [if_neg q1, if_neg q2, if_pos q3, if_neg w1, if_neg w2, if_neg w3, e02 58 10 (by omega), m9, if_neg (show ¬ nI (nP A) = (7 : Int32) from fun q => w4 (nI_inj (b := 7) (by omega) (by decide) q)), if_pos rfl, Option.bind_some]
    rw [show F_MD_addsPerson (nI r) (nI co) (nI d) (wr s2 58 22 0) = some s4 from b1, Option.bind_some, b2, nI_dec (by omega), Nat.add_sub_cancel]
  · rw [b3 b j (by omega), e23 b j (by omega), e02 b j (by omega)]
  · rw [b3 28 0 (by omega), e23 28 0 (by omega), a2.at (by decide), rd_wr_same]
  · rw [b3 58 22 (by omega)]; exact rd_wr_same _ _ _ _
  · exact hA2.un (fun b j q1 q2 => by rw [b3 b j (by omega), e23 b j (by omega)])
