-- taken back; the image
theorem nI_dec {c : Nat} (h : 1 ≤ c) : nI c - 1 = nI (c - 1) := pk_sub (a := c) (b := 1) h
theorem chN_chN (A : Nt) (a b : Nat) : chN (chN A a b) a b = A := by
  have h := sw_sw (nOd A) a b
  have e : chN (chN A a b) a b = (A.1, nK A, nF A, nR A, nC A, nDi A, nB A, nAl A, sw (sw (nOd A) a b) a b) := rfl
  rw [e, h]
  rfl
theorem alN_alN (A : Nt) (p d : Nat) : alN (alN A p d) p d = A := by
  have h : (fun q => if q = p then (if q = p then nAl A q ^^^ 2 ^ d else nAl A q) ^^^ 2 ^ d else (if q = p then nAl A q ^^^ 2 ^ d else nAl A q)) = nAl A := by
    funext q
    by_cases w : q = p
    · rw [if_pos w, if_pos w, Nat.xor_assoc, Nat.xor_self, Nat.xor_zero]
    · rw [if_neg w, if_neg w]
  have e : alN (alN A p d) p d = (A.1, nK A, nF A, nR A, nC A, nDi A, nB A, (fun q => if q = p then (if q = p then nAl A q ^^^ 2 ^ d else nAl A q) ^^^ 2 ^ d else (if q = p then nAl A q ^^^ 2 ^ d else nAl A q)), nOd A) := rfl
  rw [e, h]
  rfl
theorem takeBackC {σ : St} {A A' : Nt} {c : Nat} (hc : c < 8) (h : rd σ 28 0 = nI (c + 1)) (hA : AbsC σ 1 A) (hO : OkN A) (hO' : OkN A') (hD : nD A' ≤ 7) (hE : En σ c A A') : ∃ σ' l, F_PA_takeBack 1 σ = some σ' ∧ Fr [28, l] σ σ' ∧ 1 ≤ l ∧ l ≤ 9 ∧ rd σ' 28 0 = nI c ∧ AbsC σ' 1 A' := by
  have hP := hO.P
  have hP' := hO'.P
  let s1 := wr σ 28 0 (nI c)
  have r0 : rd s1 28 0 = nI c := rd_wr_same _ _ _ _
  have e1 : ∀ b j, b ≠ 28 → rd s1 b j = rd σ b j := fun b j q => rd_wr_cell _ _ _ _ q
  have hA1 : AbsC s1 1 A := hA.un (fun b j q1 q2 => e1 b j (by omega))
  have hs1 : wr σ 28 0 (rd σ 28 0 - 1) = s1 := by rw [h, nI_dec (by omega)]; rfl
  rcases hE with ⟨a, b, ha, hb, hab, w1, w2, w3, rfl⟩ | ⟨p, d, hp, hd, w1, w2, w3, rfl⟩ | ⟨a, b, ha, hb, hab, w1, w2, w3, w4, w5, rfl⟩
  · obtain ⟨s2, b1, b2, b3⟩ := swapC (σ := s1) (o := 9) (len := 7) al_9 (by decide) hP hO.od (fun k hk => (hA1.2.2.2 k hk).2.2.2.2.2) (show a < nP (chN A' a b) from ha) hb hab
    have hA2 : AbsC s2 1 (chN (chN A' a b) a b) := hA1.ch (n := 1) b2 b3
    rw [chN_chN] at hA2
    refine ⟨s2, 9, ?_, (Fr.wr (by simp)).two (b2.sub (by simp)), by decide, by decide, (b2.at (by decide) 0).trans r0, hA2⟩
    unfold F_PA_takeBack
    rw [if_pos (by rw [h]; exact nI_lt (a := 0) (by omega) (by omega)), hs1, Option.bind_some, r0, atC al_30 hc, Option.bind_some]
    simp only
    rw [r0, atC al_31 hc, Option.bind_some]
    simp only
    rw [r0, atC al_29 hc, Option.bind_some]
    simp only
    rw [Option.bind_some, e1 29 c (by decide), e1 30 c (by decide), e1 31 c (by decide), w1, w2, w3, if_pos rfl, show rd s1 1 1 = nI (nP A') from hA1.2.1, show F_AC_swapPlaces (1 + 8) (nI (nP A')) (nI a) (nI b) s1 = some s2 from b1, Option.bind_some]
  · obtain ⟨s2, b1, b2, hA2⟩ := turnC (σ := s1) isNI_1 hA1 hO (show p < nP (alN A' p d) from hp) (d := d) (by omega)
    rw [alN_alN] at hA2
    refine ⟨s2, 8, ?_, (Fr.wr (by simp)).two (b2.sub (by simp)), by decide, by decide, (b2.at (by decide) 0).trans r0, hA2⟩
    unfold F_PA_takeBack
    rw [if_pos (by rw [h]; exact nI_lt (a := 0) (by omega) (by omega)), hs1, Option.bind_some, r0, atC al_30 hc, Option.bind_some]
    simp only
    rw [r0, atC al_31 hc, Option.bind_some]
    simp only
    rw [r0, atC al_29 hc, Option.bind_some]
    simp only
    rw [Option.bind_some, e1 29 c (by decide), e1 30 c (by decide), e1 31 c (by decide), w1, w2, w3, if_neg (by decide), if_pos rfl, b1, Option.bind_some]
  · obtain ⟨s2, b1, b2, hA2⟩ := unpairC (σ := s1) isNI_1 hA1 hO' ha hb hab
    refine ⟨s2, 7, ?_, (Fr.wr (by simp)).two (b2.sub (by simp)), by decide, by decide, (b2.at (by decide) 0).trans r0, hA2⟩
    unfold F_PA_takeBack
    rw [if_pos (by rw [h]; exact nI_lt (a := 0) (by omega) (by omega)), hs1, Option.bind_some, r0, atC al_30 hc, Option.bind_some]
    simp only
    rw [r0, atC al_31 hc, Option.bind_some]
    simp only
    rw [r0, atC al_29 hc, Option.bind_some]
    simp only
    rw [Option.bind_some, e1 29 c (by decide), e1 30 c (by decide), e1 31 c (by decide), w1, w2, w3, if_neg (by decide), if_neg (by decide), r0, atC al_32 hc, Option.bind_some]
    simp only
    rw [r0, atC al_33 hc, Option.bind_some]
    simp only
    rw [e1 32 c (by decide), e1 33 c (by decide), w4, w5, b1, Option.bind_some]
theorem op_back : Ask F_AC_back F_MD_back := by
  intro σ h
  obtain ⟨A, hN, ⟨c, N, hc, hc1, hc2, hNc, hall⟩, hL, hR, hF, hI⟩ := id h
  obtain ⟨hO, hD, hA, hM, hg⟩ := id hN
  cases c with
  | zero =>
    refine Ask.no h (k := 3) (x := -3) (by decide) (by decide) ?_ (fun τ hτ => ?_)
    · unfold F_AC_back
      rw [hc1, if_neg (by decide), bid]
    · unfold F_MD_back
      rw [hτ 58 22 (by decide), hc2, if_pos (show nI 0 = (0 : Int32) from rfl), bid]
  | succ c =>
    obtain ⟨hO', hD', hS, hE⟩ := hall c (by omega)
    rw [hNc] at hE
    obtain ⟨s1, l, a1, a2, l1, l2, a3, hA1⟩ := takeBackC (by omega) hc1 hA hO hO' hD'.1 hE
    have e01 : ∀ b j, b ≠ 28 → b ≠ l → rd s1 b j = rd σ b j := fun b j q1 q2 => a2.at (by simp; exact ⟨q1, q2⟩) j
    have r22 : rd s1 58 22 = nI (c + 1) := (e01 58 22 (by decide) (by omega)).trans hc2
    have hS2 : Sl (wr s1 58 22 (nI c)) (2 + c) (N c) := hS.un hO' (fun j _ _ => by rw [rd_wr_cell _ _ _ _ (by decide)]; exact e01 72 j (by decide) (by omega))
    obtain ⟨s2, b1, hM2, b3⟩ := putA (w := 2 + c) (by omega) hS2 hO'
    have e02 : ∀ b j, ¬ (b = 28 ∨ b = l ∨ b = 58 ∧ j = 22 ∨ 60 ≤ b ∧ b ≤ 67 ∨ b = 58 ∧ (j = 9 ∨ j = 10 ∨ j = 20 ∨ j = 21)) → rd s2 b j = rd σ b j := fun b j w => by
      rw [b3 b j (by omega), rd_wr, if_neg (by omega), e01 b j (by omega) (by omega)]
    have r2 : rd s2 58 22 = nI c := by rw [b3 58 22 (by omega), rd_wr_same]
    have e12 : ∀ b j, b < 58 → rd s2 b j = rd s1 b j := fun b j w => by rw [b3 b j (by omega), rd_wr_cell _ _ _ _ (by omega)]
    refine ⟨nI c, s1, s2, ?_, ?_, N c, ⟨hO', hD', hA1.un (fun b j q1 q2 => e12 b j (by omega)), ⟨hM2, (e02 58 23 (by omega)).trans hM.2.1, by decide⟩, (e02 58 26 (by omega)).trans hg⟩, ⟨c, N, by omega, (e12 28 0 (by decide)).trans a3, r2, rfl, fun i hi => ?_⟩, hL.un (fun b j q => e02 b j (by omega)), hR.un (fun b j q => e02 b j (by omega)), hF.un (fun b j q => e02 b j (by omega)), hI.un (fun b j q => e02 b j (by omega))⟩
    · unfold F_AC_back
      rw [hc1, if_pos (show (0 : Int32) < nI (c + 1) from nI_lt (a := 0) (by omega) (by omega)), a1, Option.bind_some, a3]
    · unfold F_MD_back
      rw [r22, if_neg (show ¬ nI (c + 1) = (0 : Int32) from fun q => by have := nI_inj (b := 0) (by omega) (by decide) q; omega), nI_dec (by omega), Option.bind_some]
      rw [show c + 1 - 1 = c from rfl, rd_wr_same, show (2 : Int32) + nI c = nI (2 + c) from nI_add 2 c, b1, Option.bind_some, r2]
    · obtain ⟨q1, q2, q3, q4⟩ := hall i (by omega)
      exact ⟨q1, q2, q3.un q1 (fun j _ _ => e02 72 j (by omega)), q4.un (fun b w1 w2 => e02 b i (by omega))⟩
theorem op_image : Ask F_AC_image F_MD_image := by
  intro σ h
  obtain ⟨A, hN, hCh, hL, hR, hF, hI⟩ := id h
  obtain ⟨hO, hD, hA, hM, hg⟩ := id hN
  obtain ⟨s1, a1, a2, hA1⟩ := copyC (n := 10) (m := 1) isNI_10 isNI_1 (by decide) hA hO
  have e01 : ∀ b j, ¬ (10 ≤ b ∧ b ≤ 18) → rd s1 b j = rd σ b j := fun b j q => a2.at (by simp; omega) j
  let s2 := wr s1 0 17 1
  let s3 := wr s2 58 19 1
  have e03 : ∀ b j, ¬ (10 ≤ b ∧ b ≤ 18 ∨ b = 0 ∧ j = 17 ∨ b = 58 ∧ j = 19) → rd s3 b j = rd σ b j := fun b j q => by
    show rd (wr (wr s1 0 17 1) 58 19 1) b j = _
    rw [rd_wr, if_neg (by omega), rd_wr, if_neg (by omega), e01 b j (by omega)]
  obtain ⟨s4, b1, b2, b3⟩ := keepAll (σ := s3) (w := 0) (by decide)
  have e04 : ∀ b j, ¬ (10 ≤ b ∧ b ≤ 18 ∨ b = 0 ∧ j = 17 ∨ b = 58 ∧ (j = 19 ∨ j = 20 ∨ j = 21) ∨ b = 72 ∧ j < 80) → rd s4 b j = rd σ b j := fun b j q => by
    rw [b3 b j (by omega), e03 b j (by omega)]
  have hM3 : AbsM s3 A := hM.1.un (fun b j q => e03 b j (by omega))
  refine ⟨nI (nP A), s2, s4, ?_, ?_, A, hN.un (fun b j q => e04 b j (by omega)), hCh.un (fun b j q => e04 b j (by omega)), hL.un (fun b j q => e04 b j (by omega)), hR.un (fun b j q => e04 b j (by omega)), hF.un (fun b j q => e04 b j (by omega)), Or.inr ⟨?_, ?_, A, hO, hD, ?_, b2.sl hM3 hO⟩⟩
  · unfold F_AC_image
    rw [a1, Option.bind_some, show wrZ s1 0 17 1 = some s2 from rfl, Option.bind_some]
    have : rd s2 1 1 = nI (nP A) := by
      show rd (wr s1 0 17 1) 1 1 = _
      rw [rd_wr_cell _ _ _ _ (by decide), e01 1 1 (by decide)]; exact hA.2.1
    rw [this]
  · unfold F_MD_image
    rw [show wrZ s2 58 19 1 = some s3 from rfl, Option.bind_some]
    have b1' : F_MD_passesAll 0 1 s3 = some s4 := b1
    rw [b1', Option.bind_some]
    have : rd s4 58 10 = nI (nP A) := by rw [e04 58 10 (by omega)]; exact hM.1.2.1
    rw [this]
  · rw [b3 0 17 (by omega)]
    show rd (wr (wr s1 0 17 1) 58 19 1) 0 17 = 1
    rw [rd_wr_cell _ _ _ _ (by decide), rd_wr_same]
  · rw [b3 58 19 (by omega)]
    exact rd_wr_same _ _ _ _
  · refine hA1.un (fun b j q1 q2 => ?_)
    rw [b3 b j (by omega)]
    show rd (wr (wr s1 0 17 1) 58 19 1) b j = _
    rw [rd_wr_cell _ _ _ _ (by omega), rd_wr_cell _ _ _ _ (by omega)]
theorem op_restore : Ask F_AC_restore F_MD_restore := by
  intro σ h
  obtain ⟨A, hN, hCh, hL, hR, hF, hI⟩ := id h
  obtain ⟨hO, hD, hA, hM, hg⟩ := id hN
  rcases id hI with ⟨i1, i2⟩ | ⟨i1, i2, B, hB, hDB, hCB, hSB⟩
  · refine Ask.no h (k := 3) (x := -3) (by decide) (by decide) ?_ (fun τ hτ => ?_)
    · unfold F_AC_restore
      rw [i1, if_pos rfl, bid]
    · unfold F_MD_restore
      rw [hτ 58 19 (by decide), i2, if_pos rfl, bid]
  · obtain ⟨s1, a1, a2, hA1⟩ := copyC (n := 1) (m := 10) isNI_1 isNI_10 (by decide) hCB hB
    let s2 := wr s1 28 0 0
    have e02 : ∀ b j, ¬ (1 ≤ b ∧ b ≤ 9 ∨ b = 28) → rd s2 b j = rd σ b j := fun b j q => by
      show rd (wr s1 28 0 0) b j = _
      rw [rd_wr_cell _ _ _ _ (by omega)]; exact a2.at (by simp; omega) j
    obtain ⟨s3, b1, hM3, b3⟩ := putA (σ := s2) (w := 0) (by decide) (hSB.un hB (fun j _ _ => e02 72 j (by omega))) hB
    let s4 := wr s3 58 22 0
    have e04 : ∀ b j, ¬ (1 ≤ b ∧ b ≤ 9 ∨ b = 28 ∨ 60 ≤ b ∧ b ≤ 67 ∨ b = 58 ∧ (j = 9 ∨ j = 10 ∨ j = 20 ∨ j = 21 ∨ j = 22)) → rd s4 b j = rd σ b j := fun b j q => by
      show rd (wr s3 58 22 0) b j = _
      rw [rd_wr, if_neg (by omega), b3 b j (by omega), e02 b j (by omega)]
    have e24 : ∀ b j, b < 58 → rd s4 b j = rd s2 b j := fun b j q => by
      show rd (wr s3 58 22 0) b j = _
      rw [rd_wr_cell _ _ _ _ (by omega), b3 b j (by omega)]
    have hAs : AbsC s2 1 B := hA1.un (fun b j q1 q2 => rd_wr_cell _ _ _ _ (by omega))
    have hM4 : AbsM s4 B := hM3.un (fun b j q => by
      show rd (wr s3 58 22 0) b j = _
      rw [rd_wr, if_neg (by omega)])
    refine ⟨nI (nP B), s2, s4, ?_, ?_, B, ⟨hB, hDB, hAs.un (fun b j q1 q2 => e24 b j (by omega)), ⟨hM4, (e04 58 23 (by omega)).trans hM.2.1, by decide⟩, (e04 58 26 (by omega)).trans hg⟩, ⟨0, fun _ => B, by decide, (e24 28 0 (by decide)).trans (rd_wr_same _ _ _ _), rd_wr_same _ _ _ _, rfl, fun i hi => absurd hi (Nat.not_lt_zero _)⟩, hL.un (fun b j q => e04 b j (by omega)), hR.un (fun b j q => e04 b j (by omega)), hF.un (fun b j q => e04 b j (by omega)), hI.un (fun b j q => e04 b j (by omega))⟩
    · unfold F_AC_restore F_PA_forget
      rw [i1, if_neg (by decide), a1, Option.bind_some, Option.bind_some, Option.bind_some, show rd (wr s1 28 0 0) 1 1 = nI (nP B) from hAs.2.1]
    · unfold F_MD_restore
      have b1' : F_MD_passesAll 0 0 s2 = some s3 := b1
      rw [e02 58 19 (by omega), i2, if_neg (by decide), b1', Option.bind_some, Option.bind_some, show rd (wr s3 58 22 0) 58 10 = nI (nP B) from hM4.2.1]
