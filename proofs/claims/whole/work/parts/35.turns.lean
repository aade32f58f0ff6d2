-- what changes a night, and its taking back
theorem twoC {σ : St} {n : Nat} {A : Nt} (hA : AbsC σ n A) (hO : OkN A) (a b : Int32) : (∃ p q, p < nP A ∧ q < nP A ∧ p ≠ q ∧ a = nI p ∧ b = nI q ∧ F_NI_hasTwo n a b σ = some (1, σ)) ∨ F_NI_hasTwo n a b σ = some (0, σ) ∧ ∀ τ t, MdN τ A t → F_MD_areTwo a b τ = some (0, τ) := by
  have hP := hO.P
  rcases perC hA hO a with ⟨p, hp, rfl⟩ | ho
  · rcases perC hA hO b with ⟨q, hq, rfl⟩ | ho
    · by_cases e : p = q
      · refine Or.inr ⟨?_, fun τ t hM => ?_⟩
        · unfold F_NI_hasTwo F_NI_hasTwo_25
          rw [hasPersonC_in hA hO hp, Option.bind_some, if1, hasPersonC_in hA hO hq, Option.bind_some, if1, if_pos (by rw [e])]
        · unfold F_MD_areTwo F_MD_areTwo_25
          rw [isPersonM_in hM hO hp, Option.bind_some, if1, isPersonM_in hM hO hq, Option.bind_some, if1, if_pos (by rw [e])]
      · refine Or.inl ⟨p, q, hp, hq, e, rfl, rfl, ?_⟩
        unfold F_NI_hasTwo
        rw [hasPersonC_in hA hO hp, Option.bind_some, if1, hasPersonC_in hA hO hq, Option.bind_some, if1, if_neg (fun w => e (nI_inj (by omega) (by omega) w))]
    · refine Or.inr ⟨?_, fun τ t hM => ?_⟩
      · unfold F_NI_hasTwo F_NI_hasTwo_25
        rw [hasPersonC_in hA hO hp, Option.bind_some, if1, hasPersonC_out hA hO ho, Option.bind_some, if0]
      · unfold F_MD_areTwo F_MD_areTwo_25
        rw [isPersonM_in hM hO hp, Option.bind_some, if1, isPersonM_out hM ho, Option.bind_some, if0]
  · refine Or.inr ⟨?_, fun τ t hM => ?_⟩
    · unfold F_NI_hasTwo F_NI_hasTwo_25
      rw [hasPersonC_out hA hO ho, Option.bind_some, if0]
    · unfold F_MD_areTwo F_MD_areTwo_25
      rw [isPersonM_out hM ho, Option.bind_some, if0]
theorem areTwoM {σ : St} {A : Nt} {t : Nat} (hM : MdN σ A t) (hO : OkN A) {p q : Nat} (hp : p < nP A) (hq : q < nP A) (e : p ≠ q) : F_MD_areTwo (nI p) (nI q) σ = some (1, σ) := by
  have hP := hO.P
  unfold F_MD_areTwo
  rw [isPersonM_in hM hO hp, Option.bind_some, if1, isPersonM_in hM hO hq, Option.bind_some, if1, if_neg (fun w => e (nI_inj (by omega) (by omega) w))]
/-- INV again behind a step that the past keeps -/
theorem INV_step {σ s1 s2 s3 s4 : St} {A B : Nt} {c : Nat} {N : Nat → Nt} {v1 v2 v3 v4 v5 : Int32} {cc mc : Nat} (hc : c ≤ 8) (hN : N c = A) (hall : ∀ i, i < c → OkN (N i) ∧ (nD (N i) ≤ 7 ∧ AlK (N i)) ∧ Sl σ (2 + i) (N i) ∧ En σ i (N (i + 1)) (N i)) (hO : OkN A) (hD : nD A ≤ 7 ∧ AlK A) (hM : MdN σ A 7) (hg : rd σ 58 26 = nI 0) (hL : LetI σ) (hR : RowI σ) (hF : RefI σ) (hI : ImgI σ) (hcc : 1 ≤ cc ∧ cc ≤ 9) (hmc : 60 ≤ mc ∧ mc ≤ 67)
    (p1 : Fr [28, 29, 30, 31, 32, 33] σ s1) (p2 : rd s1 28 0 = nI (min c 7 + 1)) (p3 : rd s1 29 (min c 7) = v1 ∧ rd s1 30 (min c 7) = v2 ∧ rd s1 31 (min c 7) = v3 ∧ rd s1 32 (min c 7) = v4 ∧ rd s1 33 (min c 7) = v5) (p4 : ∀ b, 29 ≤ b → b ≤ 33 → ∀ i, i < min c 7 → rd s1 b i = rd σ b (i + (c - min c 7)))
    (c1 : Fr [cc] s1 s2)
    (k1 : rd s3 58 22 = nI (min c 7 + 1)) (k2 : SlF s3 (2 + min c 7) s2) (k3 : ∀ i o, i < min c 7 → o < 80 → rd s3 72 (80 * (2 + i) + o) = rd s2 72 (80 * (2 + (i + (c - min c 7))) + o)) (k4 : ∀ b j, ¬ (b = 72 ∧ 160 ≤ j ∨ b = 58 ∧ (j = 20 ∨ j = 21 ∨ j = 22)) → rd s3 b j = rd s2 b j)
    (m1 : Fr [mc] s3 s4) (hOB : OkN B) (hDB : nD B ≤ 7 ∧ AlK B) (hCB : AbsC s2 1 B) (hMB : AbsM s4 B)
    (hEn : rd s4 29 (min c 7) = v1 → rd s4 30 (min c 7) = v2 → rd s4 31 (min c 7) = v3 → rd s4 32 (min c 7) = v4 → rd s4 33 (min c 7) = v5 → En s4 (min c 7) B A) : INV s4 := by
  have e12 : ∀ b j, b ≠ cc → rd s2 b j = rd s1 b j := fun b j h => c1.at (by simpa using h) j
  have e34 : ∀ b j, b ≠ mc → rd s4 b j = rd s3 b j := fun b j h => m1.at (by simpa using h) j
  have e01 : ∀ b j, ¬ (28 ≤ b ∧ b ≤ 33) → rd s1 b j = rd σ b j := fun b j h => p1.at (by simp; omega) j
  have e04 : ∀ b j, ¬ (28 ≤ b ∧ b ≤ 33 ∨ b = cc ∨ b = mc ∨ b = 72 ∧ 160 ≤ j ∨ b = 58 ∧ (j = 20 ∨ j = 21 ∨ j = 22)) → rd s4 b j = rd σ b j := fun b j h => by
    rw [e34 b j (by omega), k4 b j (by omega), e12 b j (by omega), e01 b j (by omega)]
  have hMs2 : AbsM s2 A := hM.1.un (fun b j q => by rw [e12 b j (by omega), e01 b j (by omega)])
  refine ⟨B, ⟨hOB, hDB, hCB.un (fun b j q1 q2 => ?_), ⟨hMB, (e04 58 23 (by omega)).trans hM.2.1, by decide⟩, (e04 58 26 (by omega)).trans hg⟩, ?_, hL.un (fun b j q => e04 b j (by omega)), hR.un (fun b j q => e04 b j (by omega)), hF.un (fun b j q => e04 b j (by omega)), hI.un (fun b j q => e04 b j (by omega))⟩
  · rw [e34 b j (by omega), k4 b j (by omega)]
  · have h58 : ∀ b j, 28 ≤ b → b ≤ 33 → rd s4 b j = rd s1 b j := fun b j q1 q2 => by
      rw [e34 b j (by omega), k4 b j (by omega), e12 b j (by omega)]
    refine ChI_push hc hN hall hO hD ?_ ?_ (fun b q1 q2 i hi => ?_) (fun i o hi ho => ?_) ?_ ?_
    · rw [h58 28 0 (by decide) (by decide), p2]
    · rw [e34 58 22 (by omega), k1]
    · rw [h58 b i (by omega) (by omega)]; exact p4 b q1 q2 i hi
    · rw [e34 72 _ (by omega), k3 i o hi ho, e12 72 _ (by omega), e01 72 _ (by omega)]
    · refine (k2.sl hMs2 hO).un hO (fun j _ _ => e34 72 j (by omega))
    · obtain ⟨w1, w2, w3, w4, w5⟩ := p3
      exact hEn ((h58 29 _ (by decide) (by decide)).trans w1) ((h58 30 _ (by decide) (by decide)).trans w2) ((h58 31 _ (by decide) (by decide)).trans w3) ((h58 32 _ (by decide) (by decide)).trans w4) ((h58 33 _ (by decide) (by decide)).trans w5)
theorem AlK_al {A : Nt} (h : AlK A) {p d : Nat} (hd : d < nD A) : AlK (alN A p d) := fun q hq => by
  show (if q = p then nAl A q ^^^ 2 ^ d else nAl A q) < 2 ^ nD A
  split
  · exact Nat.xor_lt_two_pow (h q hq) (Nat.pow_lt_pow_right (by decide) hd)
  · exact h q hq
theorem op_change (a b : Int32) : Ask (F_AC_change a b) (F_MD_change a b) := by
  intro σ h
  obtain ⟨A, hN, ⟨c, N, hc, hc1, hc2, hNc, hall⟩, hL, hR, hF, hI⟩ := id h
  obtain ⟨hO, hD, hA, hM, hg⟩ := id hN
  have hP := hO.P
  rcases twoC hA hO a b with ⟨p, q, hp, hq, hpq, rfl, rfl, hC⟩ | ⟨hC, hCM⟩
  · obtain ⟨s1, a1, a2, a3, a4, a5⟩ := paAdd hc hc1 0 (nI p) (nI q) (-9) (-9)
    have hA1 : AbsC s1 1 A := hA.un (fun b j q1 q2 => a2.at (by simp; omega) j)
    obtain ⟨s2, b1, b2, b3⟩ := swapC (σ := s1) (o := 9) (len := 7) al_9 (by decide) hP hO.od (fun k hk => (hA1.2.2.2 k hk).2.2.2.2.2) hp hq hpq
    have hA2 : AbsC s2 1 (chN A p q) := hA1.ch (n := 1) b2 b3
    have e02 : ∀ b j, ¬ (28 ≤ b ∧ b ≤ 33 ∨ b = 9) → rd s2 b j = rd σ b j := fun b j w => (b2.at (by simp; omega) j).trans (a2.at (by simp; omega) j)
    have hM2 : MdN s2 A 7 := hM.un (fun b j w => e02 b j (by omega))
    obtain ⟨s3, d1, d2, d3, d4, d5⟩ := keepsBackM (σ := s2) hc ((e02 58 22 (by omega)).trans hc2)
    have hM3 : AbsM s3 A := hM2.1.un (fun b j w => d5 b j (by omega))
    obtain ⟨s4, f1, f2, f3⟩ := exchangesM (σ := s3) hP hO.od (fun k hk => (hM3.2.2.2 k hk).2.2.2.2.2) hp hq hpq
    have hM4 : AbsM s4 (chN A p q) := hM3.row (A' := chN A p q) (c := 67) (by decide) f2 rfl rfl rfl rfl rfl rfl (fun _ => rfl) (fun _ => rfl) (fun w => absurd rfl w) (fun k hk => f3 k hk)
    have hOB := hO.ch hp hq
    refine ⟨nI (plc (nOd (chN A p q)) p (nP A)), s2, s4, ?_, ?_, ?_⟩
    · unfold F_AC_change
      rw [hC, Option.bind_some, if1, a1, Option.bind_some, show rd s1 1 1 = nI (nP A) from hA1.2.1, b1, Option.bind_some, bid]
      exact placeOfC isNI_1 hA2 hOB hp
    · unfold F_MD_change
      rw [areTwoM hM2 hO hp hq hpq, Option.bind_some, if1, d1, Option.bind_some, f1, Option.bind_some, bid]
      exact placeOfM (P := nP A) hP hOB.od (fun k hk => (hM4.2.2.2 k hk).2.2.2.2.2) hp
    · exact INV_step (cc := 9) (mc := 67) hc hNc hall hO hD hM hg hL hR hF hI (by decide) (by decide) a2 a3 a4 a5 b2 d2 d3 d4 d5 f2 hOB hD hA2 hM4 (fun w1 w2 w3 _ _ => Or.inl ⟨p, q, hp, hq, hpq, w1, w2, w3, rfl⟩)
  · refine Ask.no h (k := 1) (x := -1) (by decide) (by decide) ?_ (fun τ hτ => ?_)
    · unfold F_AC_change
      rw [hC, Option.bind_some, if0, bid]
    · unfold F_MD_change
      rw [hCM τ 7 (hN.r57 hτ).2.2.2.1, Option.bind_some, if0, bid]
theorem op_brothers (a b : Int32) : Ask (F_AC_brothers a b) (F_MD_brothers a b) := by
  intro σ h
  obtain ⟨A, hN, ⟨c, N, hc, hc1, hc2, hNc, hall⟩, hL, hR, hF, hI⟩ := id h
  obtain ⟨hO, hD, hA, hM, hg⟩ := id hN
  have hP := hO.P
  rcases twoC hA hO a b with ⟨p, q, hp, hq, hpq, rfl, rfl, hC⟩ | ⟨hC, hCM⟩
  · have r1 : rd σ 7 p = bI (nB A p) := (hA.2.2.2 p hp).2.2.2.1
    have r2 : rd σ 7 q = bI (nB A q) := (hA.2.2.2 q hq).2.2.2.1
    obtain ⟨s1, a1, a2, a3, a4, a5⟩ := paAdd hc hc1 2 (nI p) (nI q) (bI (nB A p)) (bI (nB A q))
    have hA1 : AbsC s1 1 A := hA.un (fun b j q1 q2 => a2.at (by simp; omega) j)
    obtain ⟨s2, b1, b2, hA2⟩ := pairC (σ := s1) isNI_1 hA1 hO hp hq hpq
    have e02 : ∀ b j, ¬ (28 ≤ b ∧ b ≤ 33 ∨ b = 7) → rd s2 b j = rd σ b j := fun b j w => (b2.at (by simp; omega) j).trans (a2.at (by simp; omega) j)
    have hM2 : MdN s2 A 7 := hM.un (fun b j w => e02 b j (by omega))
    obtain ⟨s3, d1, d2, d3, d4, d5⟩ := keepsBackM (σ := s2) hc ((e02 58 22 (by omega)).trans hc2)
    have hM3 : AbsM s3 A := hM2.1.un (fun b j w => d5 b j (by omega))
    obtain ⟨s4, f1, f2, hM4⟩ := brothersM (σ := s3) hM3 hO hp hq hpq
    have hOB := hO.pr hp hq hpq
    refine ⟨bI (nB A p), s2, s4, ?_, ?_, ?_⟩
    · unfold F_AC_brothers
      rw [hC, Option.bind_some, if1, atC al_7 (by omega), Option.bind_some]
      simp only
      rw [atC al_7 (by omega), Option.bind_some]
      simp only
      rw [r1, r2, a1, Option.bind_some, b1, Option.bind_some]
    · unfold F_MD_brothers
      rw [areTwoM hM2 hO hp hq hpq, Option.bind_some, if1, d1, Option.bind_some, ldk al_65 (by omega), Option.bind_some, f1, Option.bind_some]
      exact congrArg (fun x => some (x, s4)) (hM3.2.2.2 p hp).2.2.2.1
    · exact INV_step (cc := 7) (mc := 65) hc hNc hall hO hD hM hg hL hR hF hI (by decide) (by decide) a2 a3 a4 a5 b2 d2 d3 d4 d5 f2 hOB hD hA2 hM4 (fun w1 w2 w3 w4 w5 => Or.inr (Or.inr ⟨p, q, hp, hq, hpq, w1, w2, w3, w4, w5, rfl⟩))
  · refine Ask.no h (k := 1) (x := -1) (by decide) (by decide) ?_ (fun τ hτ => ?_)
    · unfold F_AC_brothers
      rw [hC, Option.bind_some, if0, bid]
    · unfold F_MD_brothers
      rw [hCM τ 7 (hN.r57 hτ).2.2.2.1, Option.bind_some, if0, bid]
theorem op_alibi (a b : Int32) : Ask (F_AC_alibi a b) (F_MD_alibi a b) := by
  intro σ h
  obtain ⟨A, hN, ⟨c, N, hc, hc1, hc2, hNc, hall⟩, hL, hR, hF, hI⟩ := id h
  obtain ⟨hO, hD, hA, hM, hg⟩ := id hN
  have hP := hO.P
  rcases perC hA hO a with ⟨p, hp, rfl⟩ | ho
  · rcases deeC hA hO b with ⟨d, hd, rfl⟩ | ho
    · have hd7 : d < 7 := by omega
      obtain ⟨s1, a1, a2, a3, a4, a5⟩ := paAdd hc hc1 1 (nI p) (nI d) (-9) (-9)
      have hA1 : AbsC s1 1 A := hA.un (fun b j q1 q2 => a2.at (by simp; omega) j)
      obtain ⟨s2, b1, b2, hA2⟩ := turnC (σ := s1) isNI_1 hA1 hO hp (d := d) (by omega)
      have e02 : ∀ b j, ¬ (28 ≤ b ∧ b ≤ 33 ∨ b = 8) → rd s2 b j = rd σ b j := fun b j w => (b2.at (by simp; omega) j).trans (a2.at (by simp; omega) j)
      have hM2 : MdN s2 A 7 := hM.un (fun b j w => e02 b j (by omega))
      obtain ⟨s3, d1, d2, d3, d4, d5⟩ := keepsBackM (σ := s2) hc ((e02 58 22 (by omega)).trans hc2)
      have hM3 : AbsM s3 A := hM2.1.un (fun b j w => d5 b j (by omega))
      have r3 : rd s3 66 p = nI (nAl A p) := (hM3.2.2.2 p hp).2.2.2.2.1
      let x := nAl A p ^^^ 2 ^ d
      have hx : x < 2 ^ 31 := by
        have := (hO.2.2.2.1 p hp).2.2.2.1
        have h7 : x < 2 ^ 7 := Nat.xor_lt_two_pow (n := 7) this (Nat.pow_lt_pow_right (by decide) hd7)
        exact Nat.lt_trans h7 (by decide)
      have f2 : Fr [66] s3 (wr s3 66 p (nI x)) := Fr.wr (by simp)
      have hal : ∀ k, nAl (alN A p d) k = if k = p then nAl A k ^^^ 2 ^ d else nAl A k := fun _ => rfl
      have hM4 : AbsM (wr s3 66 p (nI x)) (alN A p d) := hM3.row (A' := alN A p d) (c := 66) (by decide) f2 rfl rfl rfl rfl rfl rfl (fun _ => rfl) (fun w => absurd rfl w) (fun _ => rfl) (fun k hk => by
        rw [if_neg (by decide), if_pos rfl, hal, rd_wr]
        by_cases w : k = p
        · rw [if_pos ⟨rfl, w⟩, if_pos w, w]
        · rw [if_neg (fun q => w q.2), if_neg w]
          exact (hM3.2.2.2 k hk).2.2.2.2.1)
      have hOB : OkN (alN A p d) := hO.al hd7
      refine ⟨nI (x.testBit d).toNat, s2, wr s3 66 p (nI x), ?_, ?_, ?_⟩
      · have r2 : rd s2 8 p = nI x := (hA2.2.2.2 p hp).2.2.2.2.1.trans (by rw [hal, if_pos rfl])
        unfold F_AC_alibi
        rw [hasPersonC_in hA hO hp, Option.bind_some, if1, hasDeedC_in hA hO hd, Option.bind_some, if1, a1, Option.bind_some, b1, Option.bind_some, atC al_8 (by omega), Option.bind_some]
        simp only
        rw [r2, hasC (by omega), Option.bind_some]
        cases x.testBit d <;> rfl
      · unfold F_MD_alibi
        rw [isPersonM_in hM2 hO hp, Option.bind_some, if1, isDeedM_in hM2 hO hd, Option.bind_some, if1, d1, Option.bind_some, ldk al_66 (by omega), Option.bind_some, r3, shl1 (by omega), xor_nI, stk al_66 (by omega), Option.bind_some, ldk al_66 (by omega), Option.bind_some]
        rw [show rd (wr s3 66 p (nI (nAl A p ^^^ 2 ^ d))) 66 p = nI x from rd_wr_same _ _ _ _, shr_nI hx (by omega), and1_nI, tb_div]
      · exact INV_step (cc := 8) (mc := 66) hc hNc hall hO hD hM hg hL hR hF hI (by decide) (by decide) a2 a3 a4 a5 b2 d2 d3 d4 d5 f2 hOB ⟨hD.1, AlK_al hD.2 hd⟩ hA2 hM4 (fun w1 w2 w3 _ _ => Or.inr (Or.inl ⟨p, d, hp, hd, w1, w2, w3, rfl⟩))
    · refine Ask.no h (k := 1) (x := -1) (by decide) (by decide) ?_ (fun τ hτ => ?_)
      · unfold F_AC_alibi F_AC_alibi_22
        rw [hasPersonC_in hA hO hp, Option.bind_some, if1, hasDeedC_out hA hO ho, Option.bind_some, if0, bid]
      · unfold F_MD_alibi F_MD_alibi_16
        rw [isPersonM_in (hN.r57 hτ).2.2.2.1 hO hp, Option.bind_some, if1, isDeedM_out (hN.r57 hτ).2.2.2.1 ho, Option.bind_some, if0, bid]
  · refine Ask.no h (k := 1) (x := -1) (by decide) (by decide) ?_ (fun τ hτ => ?_)
    · unfold F_AC_alibi F_AC_alibi_22
      rw [hasPersonC_out hA hO ho, Option.bind_some, if0, bid]
    · unfold F_MD_alibi F_MD_alibi_16
      rw [isPersonM_out (hN.r57 hτ).2.2.2.1 ho, Option.bind_some, if0, bid]
