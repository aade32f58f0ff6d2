section CMORN
variable {σ : St} {A : Nt}
theorem holdTodayC (hA : AbsC σ 1 A) (hO : OkN A) : ∃ σ', F_AC_holdToday σ = some σ' ∧ Fr [36, 37, 40, 41, 42] σ σ' ∧ PrC σ' 36 (prA 7 A) ∧ MoD σ' 40 (prA 7 A) (nOd A) 0 := by
  have hP := hO.P
  have hz := prA_ok hO 7
  obtain ⟨s1, a1, a2, a3⟩ := fillC isPR_36 isNI_1 hA hO
  have hA1 : AbsC s1 1 A := hA.fr a2 (fun k hk => NI_PR_off isNI_1 isPR_36 hk)
  obtain ⟨s2, b1, b2, b3⟩ := holdC (σ := s1) (mo := 40) (n := 36) (oc := 9) (Z := prA 7 A) (od := nOd A) (T0 := 0) isMO_40 isPR_36 al_9 (by decide) a3 hz hO.od hP (fun k hk => (hA1.2.2.2 k hk).2.2.2.2.2) (fr_0 _).symm (by decide) (by decide) (by decide)
  refine ⟨s2, ?_, (a2.sub (m := [36, 37, 40, 41, 42]) (by decide)).two (b2.sub (by decide)), a3.fr b2 (by decide) (by decide), b3.D hO.od⟩
  have b1' : F_MO_hold 40 36 9 (nI (2 ^ nD A - 1)) s1 = some s2 := b1
  unfold F_AC_holdToday
  simp only [a1, Option.bind_some, allDeedsC hA1 hO, b1']
theorem holdLineC (hA : AbsC σ 1 A) (hO : OkN A) (hPr : PrC σ 36 (prA 7 A)) {od : Nat → Nat} (ho : OdOK (nP A) od) (hl : ∀ k, k < nP A → rd σ 54 k = nI (od k)) : ∃ σ', F_AC_holdLine σ = some σ' ∧ Fr [43, 44, 45] σ σ' ∧ MoD σ' 43 (prA 7 A) od 0 := by
  have hP := hO.P
  obtain ⟨s2, b1, b2, b3⟩ := holdC (σ := σ) (mo := 43) (n := 36) (oc := 54) (Z := prA 7 A) (od := od) (T0 := 0) isMO_43 isPR_36 al_54 (by decide) hPr (prA_ok hO 7) ho hP hl (fr_0 _).symm (by decide) (by decide) (by decide)
  refine ⟨s2, ?_, b2, b3.D ho⟩
  have b1' : F_MO_hold 43 36 54 (nI (2 ^ nD A - 1)) σ = some s2 := b1
  unfold F_AC_holdLine
  simp only [Option.bind_some, allDeedsC hA hO, b1']
theorem triedC (hA : AbsC σ 19 A) (hO : OkN A) : ∃ σ', F_AC_tried σ = some (nI (allO (prA 7 A) (nOd A) 0), σ') ∧ Fr [38, 39, 43, 44, 45] σ σ' ∧ MoD σ' 43 (prA 7 A) (nOd A) 0 := by
  have hP := hO.P
  obtain ⟨s1, a1, a2, a3⟩ := fillC isPR_38 isNI_19 hA hO
  have hA1 : AbsC s1 19 A := hA.fr a2 (fun k hk => NI_PR_off isNI_19 isPR_38 hk)
  obtain ⟨s2, b1, b2, b3⟩ := holdC (σ := s1) (mo := 43) (n := 38) (oc := 27) (Z := prA 7 A) (od := nOd A) (T0 := 0) isMO_43 isPR_38 al_27 (by decide) a3 (prA_ok hO 7) hO.od hP (fun k hk => (hA1.2.2.2 k hk).2.2.2.2.2) (fr_0 _).symm (by decide) (by decide) (by decide)
  refine ⟨s2, ?_, (a2.sub (m := [38, 39, 43, 44, 45]) (by decide)).two (b2.sub (by decide)), b3.D hO.od⟩
  have b1' : F_MO_hold 43 38 27 (nI (2 ^ nD A - 1)) s1 = some s2 := b1
  unfold F_AC_tried
  have b3' : MoD s2 43 (prA 7 A) (nOd A) 0 := b3.D hO.od
  simp only [a1, Option.bind_some, allDeedsC hA1 hO, b1', b3'.2.2.1]
end CMORN
-- a night copied
theorem rd_cp8 {σ : St} {f t n b j : Nat} : rd (cpR σ f t n) b j = if b = t ∧ j < n then rd σ f j else rd σ b j := rfl
theorem copyC {σ : St} {n m : Nat} {A : Nt} (hn : isNI n) (hm : isNI m) (hne : n ≠ m) (hA : AbsC σ m A) (hO : OkN A) : ∃ σ', F_NI_copy n m σ = some σ' ∧ Fr [n, n + 1, n + 2, n + 3, n + 4, n + 5, n + 6, n + 7, n + 8] σ σ' ∧ AbsC σ' n A := by
  have hD := hO.D
  have hP := hO.P
  have hcp : ∀ (l : List Nat) (s : St) (f t k : Nat), t ∈ l → Fr l s (cpR s f t k) := fun l s f t k ht => ⟨rfl, fun b hb j => by
    rw [rd_cpR, if_neg (by rintro ⟨rfl, _⟩; exact hb ht)]⟩
  let s1 := wr σ n 0 (rd σ m 0)
  let s2 := wr s1 n 1 (rd s1 m 1)
  let c1 := cpR s2 (m + 1) (n + 1) 14
  let c2 := cpR c1 (m + 2) (n + 2) 14
  let c3 := cpR c2 (m + 3) (n + 3) 7
  let c4 := cpR c3 (m + 4) (n + 4) 7
  let c5 := cpR c4 (m + 5) (n + 5) 7
  let c6 := cpR c5 (m + 6) (n + 6) 7
  let c7 := cpR c6 (m + 7) (n + 7) 7
  let c8 := cpR c7 (m + 8) (n + 8) 7
  have far : ∀ i j : Nat, i < 9 → j < 9 → m + i ≠ n + j := by
    intro i j hi hj
    rcases hn with rfl | rfl | rfl <;> rcases hm with rfl | rfl | rfl <;> omega
  have hrun : F_NI_copy n m σ = some c8 := by
    unfold F_NI_copy
    simp only [Option.bind_some]
    rw [copyRowC (al_NI1 hm) (al_NI1 hn) (by decide) (far 1 1 (by decide) (by decide)), Option.bind_some, copyRowC (al_NI2 hm) (al_NI2 hn) (by decide) (far 2 2 (by decide) (by decide)), Option.bind_some, copyRowC (al_NI3 hm) (al_NI3 hn) (by decide) (far 3 3 (by decide) (by decide)), Option.bind_some, copyRowC (al_NI4 hm) (al_NI4 hn) (by decide) (far 4 4 (by decide) (by decide)), Option.bind_some, copyRowC (al_NI5 hm) (al_NI5 hn) (by decide) (far 5 5 (by decide) (by decide)), Option.bind_some, copyRowC (al_NI6 hm) (al_NI6 hn) (by decide) (far 6 6 (by decide) (by decide)), Option.bind_some, copyRowC (al_NI7 hm) (al_NI7 hn) (by decide) (far 7 7 (by decide) (by decide)), Option.bind_some, copyRowC (al_NI8 hm) (al_NI8 hn) (by decide) (far 8 8 (by decide) (by decide)), Option.bind_some]
  have hF : Fr [n, n + 1, n + 2, n + 3, n + 4, n + 5, n + 6, n + 7, n + 8] σ c8 :=
    (((((((((Fr.wr (by simp)).two (Fr.wr (by simp))).two (hcp _ _ _ _ _ (by simp))).two (hcp _ _ _ _ _ (by simp))).two (hcp _ _ _ _ _ (by simp))).two (hcp _ _ _ _ _ (by simp))).two (hcp _ _ _ _ _ (by simp))).two (hcp _ _ _ _ _ (by simp))).two (hcp _ _ _ _ _ (by simp))).two (hcp _ _ _ _ _ (by simp))
  have hrow : ∀ j, (j < 2 → rd c8 n j = rd σ m j) ∧ (j < 14 → rd c8 (n + 1) j = rd σ (m + 1) j ∧ rd c8 (n + 2) j = rd σ (m + 2) j) ∧ (j < 7 → rd c8 (n + 3) j = rd σ (m + 3) j ∧ rd c8 (n + 4) j = rd σ (m + 4) j ∧ rd c8 (n + 5) j = rd σ (m + 5) j ∧ rd c8 (n + 6) j = rd σ (m + 6) j ∧ rd c8 (n + 7) j = rd σ (m + 7) j ∧ rd c8 (n + 8) j = rd σ (m + 8) j) := by
    intro j
    show (j < 2 → rd (cpR (cpR (cpR (cpR (cpR (cpR (cpR (cpR (wr (wr σ n 0 (rd σ m 0)) n 1 (rd (wr σ n 0 (rd σ m 0)) m 1)) (m + 1) (n + 1) 14) (m + 2) (n + 2) 14) (m + 3) (n + 3) 7) (m + 4) (n + 4) 7) (m + 5) (n + 5) 7) (m + 6) (n + 6) 7) (m + 7) (n + 7) 7) (m + 8) (n + 8) 7) n j = _) ∧ _
    refine ⟨fun hj => ?_, fun hj => ?_, fun hj => ?_⟩
    · simp only [rd_cpR, rd_wr]
      rcases (show j = 0 ∨ j = 1 by omega) with rfl | rfl <;> rcases hn with rfl | rfl | rfl <;> rcases hm with rfl | rfl | rfl <;> first | (exact absurd rfl hne) | simp
    · show rd (cpR (cpR (cpR (cpR (cpR (cpR (cpR (cpR (wr (wr σ n 0 (rd σ m 0)) n 1 (rd (wr σ n 0 (rd σ m 0)) m 1)) (m + 1) (n + 1) 14) (m + 2) (n + 2) 14) (m + 3) (n + 3) 7) (m + 4) (n + 4) 7) (m + 5) (n + 5) 7) (m + 6) (n + 6) 7) (m + 7) (n + 7) 7) (m + 8) (n + 8) 7) (n + 1) j = _ ∧ rd (cpR (cpR (cpR (cpR (cpR (cpR (cpR (cpR (wr (wr σ n 0 (rd σ m 0)) n 1 (rd (wr σ n 0 (rd σ m 0)) m 1)) (m + 1) (n + 1) 14) (m + 2) (n + 2) 14) (m + 3) (n + 3) 7) (m + 4) (n + 4) 7) (m + 5) (n + 5) 7) (m + 6) (n + 6) 7) (m + 7) (n + 7) 7) (m + 8) (n + 8) 7) (n + 2) j = _
      simp only [rd_cpR, rd_wr]
      rcases hn with rfl | rfl | rfl <;> rcases hm with rfl | rfl | rfl <;> first | (exact absurd rfl hne) | simp [hj]
    · show rd (cpR (cpR (cpR (cpR (cpR (cpR c2 (m + 3) (n + 3) 7) (m + 4) (n + 4) 7) (m + 5) (n + 5) 7) (m + 6) (n + 6) 7) (m + 7) (n + 7) 7) (m + 8) (n + 8) 7) (n + 3) j = _ ∧ rd (cpR (cpR (cpR (cpR (cpR (cpR c2 (m + 3) (n + 3) 7) (m + 4) (n + 4) 7) (m + 5) (n + 5) 7) (m + 6) (n + 6) 7) (m + 7) (n + 7) 7) (m + 8) (n + 8) 7) (n + 4) j = _ ∧ rd (cpR (cpR (cpR (cpR (cpR (cpR c2 (m + 3) (n + 3) 7) (m + 4) (n + 4) 7) (m + 5) (n + 5) 7) (m + 6) (n + 6) 7) (m + 7) (n + 7) 7) (m + 8) (n + 8) 7) (n + 5) j = _ ∧ rd (cpR (cpR (cpR (cpR (cpR (cpR c2 (m + 3) (n + 3) 7) (m + 4) (n + 4) 7) (m + 5) (n + 5) 7) (m + 6) (n + 6) 7) (m + 7) (n + 7) 7) (m + 8) (n + 8) 7) (n + 6) j = _ ∧ rd (cpR (cpR (cpR (cpR (cpR (cpR c2 (m + 3) (n + 3) 7) (m + 4) (n + 4) 7) (m + 5) (n + 5) 7) (m + 6) (n + 6) 7) (m + 7) (n + 7) 7) (m + 8) (n + 8) 7) (n + 7) j = _ ∧ rd (cpR (cpR (cpR (cpR (cpR (cpR c2 (m + 3) (n + 3) 7) (m + 4) (n + 4) 7) (m + 5) (n + 5) 7) (m + 6) (n + 6) 7) (m + 7) (n + 7) 7) (m + 8) (n + 8) 7) (n + 8) j = _
      have hc2 : ∀ i, 3 ≤ i → i < 9 → rd c2 (m + i) j = rd σ (m + i) j := fun i h1 h2 => by
        have f2 : Fr [n, n + 1, n + 2] σ c2 := (((Fr.wr (by simp)).two (Fr.wr (by simp))).two (hcp _ _ _ _ _ (by simp))).two (hcp _ _ _ _ _ (by simp))
        refine f2.at ?_ j
        have a0 := far i 0 h2 (by decide)
        have a1 := far i 1 h2 (by decide)
        have a2 := far i 2 h2 (by decide)
        simp only [List.mem_cons, List.not_mem_nil, or_false, not_or]
        exact ⟨by omega, a1, a2⟩
      rw [← hc2 3 (by decide) (by decide), ← hc2 4 (by decide) (by decide), ← hc2 5 (by decide) (by decide), ← hc2 6 (by decide) (by decide), ← hc2 7 (by decide) (by decide), ← hc2 8 (by decide) (by decide)]
      generalize c2 = c
      simp only [rd_cpR]
      rcases hn with rfl | rfl | rfl <;> rcases hm with rfl | rfl | rfl <;> first | (exact absurd rfl hne) | simp [hj]
  refine ⟨c8, hrun, hF, (hrow 0).1 (by decide) |>.trans hA.1, (hrow 1).1 (by decide) |>.trans hA.2.1, fun d hd => ?_, fun p hp => ?_⟩
  · obtain ⟨q1, q2⟩ := (hrow d).2.1 (by omega)
    exact ⟨q1.trans (hA.2.2.1 d hd).1, q2.trans (hA.2.2.1 d hd).2⟩
  · obtain ⟨q3, q4, q5, q6, q7, q8⟩ := (hrow p).2.2 (by omega)
    obtain ⟨w3, w4, w5, w6, w7, w8⟩ := hA.2.2.2 p hp
    exact ⟨q3.trans w3, q4.trans w4, q5.trans w5, q6.trans w6, q7.trans w7, q8.trans w8⟩
