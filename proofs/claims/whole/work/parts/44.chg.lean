-- two who change
theorem holdChangedC {σ : St} {A : Nt} (hN : NowI σ A) (hPr : PrC σ 36 (prA 7 A)) {a b : Nat} (ha : a < nP A) (hb : b < nP A) (hab : a ≠ b) :
    ∃ s, F_AC_holdChanged (nI a) (nI b) σ = some s ∧ Fr [43, 44, 45, 54] σ s ∧ NowI s A ∧ PrC s 36 (prA 7 A) ∧ MoD s 43 (prA 7 A) (sw (nOd A) a b) 0 := by
  have hO := hN.1
  have hP := hO.P
  have ho := hO.od
  obtain ⟨s1, a1, a2, a3⟩ := lineUpC (c := 9) al_9 (by decide) hP (fun k hk => (hN.2.2.1.2.2.2 k hk).2.2.2.2.2)
  have hN1 : NowI s1 A := hN.q (Qf.of a2 (by decide))
  obtain ⟨s2, b1, b2, b3⟩ := swapC (σ := s1) (o := 54) (len := 7) al_54 (by decide) hP ho a3 ha hb hab
  have hN2 : NowI s2 A := hN1.q (Qf.of b2 (by decide))
  have hf2 : Fr [54] σ s2 := a2.two b2
  obtain ⟨s3, c1, c2, c3⟩ := holdLineC hN2.2.2.1 hO (hPr.fr hf2 (by decide) (by decide)) (ho.swp ha hb) b3
  refine ⟨s3, ?_, (hf2.sub (by simp)).two (c2.sub (by simp)), hN2.q (Qf.of c2 (by decide)), hPr.fr ((hf2.sub (m := [43, 44, 45, 54]) (by simp)).two (c2.sub (by simp))) (by decide) (by decide), c3⟩
  unfold F_AC_holdChanged
  rw [a1, Option.bind_some, show rd s1 1 1 = nI (nP A) from hN1.2.2.1.2.1, b1, Option.bind_some, c1, Option.bind_some]
theorem chgM {σ : St} {A : Nt} (hN : NowI σ A) {a b : Nat} (ha : a < nP A) (hb : b < nP A) (hab : a ≠ b) :
    ∃ s1 s4, F_MD_asItIs σ = some s1 ∧ F_MD_placeOf (nI a) s1 = some (nI (plc (nOd A) a (nP A)), s1) ∧ F_MD_placeOf (nI b) (wr s1 74 (plc (nOd A) a (nP A)) (nI b)) = some (nI (plc (nOd A) b (nP A)), wr s1 74 (plc (nOd A) a (nP A)) (nI b)) ∧
      F_MD_goesBy (wr (wr s1 74 (plc (nOd A) a (nP A)) (nI b)) 74 (plc (nOd A) b (nP A)) (nI a)) = some s4 ∧ Fr [73, 74] σ s4 ∧ NowI s4 A ∧ ∀ q, q < nP A → rd s4 73 q = bI (tkO (prA 7 A) (sw (nOd A) a b) 0 q) := by
  have hO := hN.1
  have hP := hO.P
  have ho := hO.od
  have pa := ho.plc_lt ha
  have pb := ho.plc_lt hb
  have oa := ho.od_plc ha
  have ob := ho.od_plc hb
  obtain ⟨s1, a1, a2, a3⟩ := asItIsM hN.2.2.2.1 hO
  have hN1 : NowI s1 A := hN.q (Qf.of a2 (by decide))
  let s2 := wr s1 74 (plc (nOd A) a (nP A)) (nI b)
  let s3 := wr s2 74 (plc (nOd A) b (nP A)) (nI a)
  have f2 : Fr [74] s1 s2 := Fr.wr (by simp)
  have f3 : Fr [74] s1 s3 := f2.two (Fr.wr (by simp))
  have hN2 : NowI s2 A := hN1.q (Qf.of f2 (by decide))
  have hN3 : NowI s3 A := hN1.q (Qf.of f3 (by decide))
  have hby : ∀ k, k < nP A → rd s3 74 k = nI (sw (nOd A) a b k) := fun k hk => by
    show rd (wr (wr s1 74 (plc (nOd A) a (nP A)) (nI b)) 74 (plc (nOd A) b (nP A)) (nI a)) 74 k = _
    rw [rd_wr, rd_wr]
    unfold sw swV
    by_cases e1 : nOd A k = a
    · have : k = plc (nOd A) a (nP A) := ho.2 k _ hk pa (e1.trans oa.symm)
      have hne : ¬ k = plc (nOd A) b (nP A) := fun q => hab (by rw [← e1, q, ob])
      rw [if_neg (fun q => hne q.2), if_pos ⟨rfl, this⟩, if_pos e1]
    · have : ¬ k = plc (nOd A) a (nP A) := fun q => e1 (by rw [q, oa])
      rw [if_neg e1]
      by_cases e2 : nOd A k = b
      · rw [if_pos ⟨rfl, ho.2 k _ hk pb (e2.trans ob.symm)⟩, if_pos e2]
      · rw [if_neg (fun q => e2 (by rw [q.2, ob])), if_neg (fun q => this q.2), if_neg e2, a3 k hk]
  obtain ⟨s4, b1, b2, b3⟩ := goesByM hN3.2.2.2.1 hO (ho.swp ha hb) hby hN3.2.2.2.2 (by decide)
  refine ⟨s1, s4, a1, placeOfM hP ho (fun k hk => (hN1.2.2.2.1.1.2.2.2 k hk).2.2.2.2.2) ha, placeOfM hP ho (fun k hk => (hN2.2.2.2.1.1.2.2.2 k hk).2.2.2.2.2) hb, b1, ((a2.sub (by simp)).two (f3.sub (by simp))).two (b2.sub (by simp)), hN3.q (Qf.of b2 (by decide)), b3⟩
/-- months of one when two have changed -/
def mCh (A : Nt) (a b q : Nat) : Nat := moO (prA 7 A) (sw (nOd A) a b) 0 q
theorem hasM7 {σ : St} {A : Nt} (hN : NowI σ A) {od : Nat → Nat} {q : Nat} (hq : q < nP A) (h : rd σ 73 q = bI (tkO (prA 7 A) od 0 q)) : F_MD_hasMonths (nI q) σ = some (nI (moO (prA 7 A) od 0 q), σ) :=
  hasMonthsM hN.2.2.2.1 hN.1 hq h (fun d e => tkO_in e)
theorem sumChangedM {σ : St} {A : Nt} (hN : NowI σ A) {a b : Nat} (ha : a < nP A) (hb : b < nP A) (hab : a ≠ b) : ∃ s, F_MD_sumChanged (nI a) (nI b) σ = some (nI (mCh A a b a + mCh A a b b), s) ∧ Fr [73, 74] σ s ∧ NowI s A := by
  have hP := hN.1.P
  have ho := hN.1.od
  have pa := ho.plc_lt ha
  have pb := ho.plc_lt hb
  obtain ⟨s1, s4, a1, a2, a3, a4, a5, a6, a7⟩ := chgM hN ha hb hab
  refine ⟨s4, ?_, a5, a6⟩
  unfold F_MD_sumChanged
  rw [a1, Option.bind_some, a2, Option.bind_some]
  simp only
  rw [stk al_74 (by omega), Option.bind_some, a3, Option.bind_some]
  simp only
  rw [stk al_74 (by omega), Option.bind_some, a4, Option.bind_some, hasM7 a6 ha (a7 a ha), Option.bind_some]
  simp only
  rw [hasM7 a6 hb (a7 b hb), Option.bind_some, nI_add]
  rfl
