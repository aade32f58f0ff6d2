-- bribe
def brLt (st : Option (Nat × Int32 × Int32)) (x : Nat) : Bool := match st with | none => true | some q => decide (x < q.1)
def brT (st : Option (Nat × Int32 × Int32)) (now then_ : Nat) (l : Int32) : Option (Nat × Int32 × Int32) :=
  if then_ < now ∧ brLt st then_ = true then some (then_, l, nI (now - then_)) else st
def brW (D : Nat) (st : Option (Nat × Int32 × Int32)) : Int32 := match st with | none => nI D | some q => nI q.1
def brB (st : Option (Nat × Int32 × Int32)) : Int32 := match st with | none => -9 | some q => q.2.1
def brL (d : Int32) (st : Option (Nat × Int32 × Int32)) : Int32 := match st with | none => d | some q => q.2.2
def bvN (A : Nt) (a b : Nat) : Nat := moO (prA 7 A) (nOd A) 0 a + moO (prA 7 A) (nOd A) 0 b
def brC (A : Nt) (a b : Nat) : Nat := mCh A a b a + mCh A a b b
def brR (A : Nt) (st : Option (Nat × Int32 × Int32)) (a : Nat) : Nat → Option (Nat × Int32 × Int32)
  | 0 => st
  | k + 1 => brT (brR A st a k) (bvN A a (a + 1 + k)) (brC A a (a + 1 + k)) (nI (10 * a + (a + 1 + k)))
def brP (A : Nt) : Nat → Option (Nat × Int32 × Int32)
  | 0 => none
  | a + 1 => brR A (brP A a) a (nP A - (a + 1))
def brK (st : Option (Nat × Int32 × Int32)) : Prop := ∀ q, st = some q → q.1 ≤ 156 ∧ 0 ≤ q.2.1
theorem brT_ok {st : Option (Nat × Int32 × Int32)} {now then_ : Nat} {l : Int32} (h : brK st) (h1 : then_ ≤ 156) (h2 : 0 ≤ l) : brK (brT st now then_ l) := by
  intro q hq
  by_cases c : then_ < now ∧ brLt st then_ = true
  · have e : brT st now then_ l = some (then_, l, nI (now - then_)) := if_pos c
    rw [e] at hq
    cases hq; exact ⟨h1, h2⟩
  · have e : brT st now then_ l = st := if_neg c
    rw [e] at hq
    exact h q hq
theorem brC_le {A : Nt} (hO : OkN A) {a b : Nat} (ha : a < nP A) (hb : b < nP A) : brC A a b ≤ 156 ∧ bvN A a b ≤ 156 := by
  have hz := prA_ok hO 7
  have ta := moO_le hz (od := nOd A) (T0 := 0) ha
  have tb := moO_le hz (od := nOd A) (T0 := 0) hb
  have oa : mCh A a b a ≤ 78 := moO_le hz ha
  have ob : mCh A a b b ≤ 78 := moO_le hz hb
  unfold brC bvN
  omega
theorem brR_ok {A : Nt} (hO : OkN A) {st : Option (Nat × Int32 × Int32)} (h : brK st) {a : Nat} (ha : a < nP A) : ∀ k, k ≤ nP A - (a + 1) → brK (brR A st a k)
  | 0, _ => h
  | k + 1, hk => by
    have hP := hO.P
    refine brT_ok (brR_ok hO h ha k (by omega)) (brC_le hO ha (by omega)).1 (nI_pos' (by omega))
theorem brP_ok {A : Nt} (hO : OkN A) : ∀ a, a ≤ nP A → brK (brP A a)
  | 0, _ => fun q h => by cases h
  | a + 1, ha => brR_ok hO (brP_ok hO a (by omega)) (by omega) _ (Nat.le_refl _)
theorem brT_eq {D : Nat} {st : Option (Nat × Int32 × Int32)} {now then_ : Nat} {l : Int32} (h : brK st) (h1 : then_ ≤ 156) (h2 : now ≤ 156) (hD : 156 < D) (hD2 : D < 2 ^ 31) {d : Int32} {α : Type} (k : Int32 → Int32 → Int32 → α) :
    (if nI now ≤ nI then_ then k (brW D st) (brB st) (brL d st) else if nI then_ < brW D st then k (nI then_) l (nI now - nI then_) else k (brW D st) (brB st) (brL d st)) = k (brW D (brT st now then_ l)) (brB (brT st now then_ l)) (brL d (brT st now then_ l)) := by
  unfold brT
  by_cases g : then_ < now
  · rw [if_neg (nI_ge g (by omega)), pk_sub (by omega)]
    cases st with
    | none =>
      rw [if_pos (show nI then_ < brW D none from nI_lt (by omega) hD2), if_pos ⟨g, rfl⟩]
      rfl
    | some q =>
      have hq := (h q rfl).1
      by_cases g2 : then_ < q.1
      · rw [if_pos (show nI then_ < brW D (some q) from nI_lt g2 (by omega)), if_pos ⟨g, decide_eq_true g2⟩]
        rfl
      · rw [if_neg (show ¬ nI then_ < brW D (some q) from nI_nlt (by omega) (by omega)), if_neg (fun c => g2 (of_decide_eq_true c.2))]
  · rw [if_pos (nI_le (by omega) (by omega)), if_neg (fun c => g c.1)]
theorem bribeC {σ : St} {A : Nt} (hN : NowI σ A) (hPr : PrC σ 36 (prA 7 A)) (hMo : MoD σ 40 (prA 7 A) (nOd A) 0) (v : Int32) : ∃ s, F_AC_bribe_33 v 1000000 (-9) (-9) 0 σ = some (if v = 0 then brB (brP A (nP A)) else brL (-9) (brP A (nP A)), s) ∧ Fr [43, 44, 45, 54] σ s := by
  have hO := hN.1
  have hP := hO.P
  have inner : ∀ a s st, a < nP A → brK st → CI σ A s → ∃ s', CI σ A s' ∧ ∀ K, F_AC_bribe_51 K v (brW 1000000 st) (brB st) (brL (-9) st) (nI a) (nI (a + 1)) s = K (brW 1000000 (brR A st a (nP A - (a + 1))), brB (brR A st a (nP A - (a + 1))), brL (-9) (brR A st a (nP A - (a + 1))), nI (a + 1), s') := by
    intro a s st ha hst hs
    obtain ⟨⟨w2, w3, w4, w6, s'⟩, ⟨e2, e3, e4, e6, hC⟩, hr⟩ := fix_relK (f := fun K : Int32 × Int32 × Int32 × Int32 × St → Option (Int32 × St) => G_AC_bribe_51 K v (nI a)) (n := nP A - (a + 1)) (s0 := (brW 1000000 st, brB st, brL (-9) st, nI (a + 1), s)) (fun k q => q.1 = brW 1000000 (brR A st a k) ∧ q.2.1 = brB (brR A st a k) ∧ q.2.2.1 = brL (-9) (brR A st a k) ∧ q.2.2.2.1 = nI (a + 1 + k) ∧ CI σ A q.2.2.2.2) (by rw [fuel_val]; omega) ⟨rfl, rfl, rfl, rfl, hs⟩ (by
      rintro k ⟨w2, w3, w4, w6, s⟩ hk ⟨e2, e3, e4, e6, ⟨hf, hNs, hPs, hMs⟩⟩
      simp only at e2 e3 e4 e6 hf hNs hPs hMs
      subst e2; subst e3; subst e4; subst e6
      obtain ⟨b, hbe⟩ : ∃ b, b = a + 1 + k := ⟨_, rfl⟩
      have hb : b < nP A := by omega
      have hab : a < b := by omega
      have eR : brR A st a (k + 1) = brT (brR A st a k) (bvN A a b) (brC A a b) (nI (10 * a + b)) := by rw [hbe]; rfl
      have hK := brR_ok hO hst ha k (by omega)
      obtain ⟨t, c1, c2, hNt, c3, c4⟩ := holdChangedC hNs hPs ha hb (by omega)
      have hMt := hMs.fr c2 (by decide) (by decide) (by decide)
      have hle := brC_le hO ha hb
      refine ⟨(brW 1000000 (brR A st a (k + 1)), brB (brR A st a (k + 1)), brL (-9) (brR A st a (k + 1)), nI (a + 1 + (k + 1)), t), ⟨rfl, rfl, rfl, rfl, hf.two c2, hNt, c3, hMt⟩, fun K K' => ?_⟩
      rw [← hbe, show a + 1 + (k + 1) = b + 1 by omega]
      show H_AC_bribe_51 K v (nI a) K' (brW 1000000 (brR A st a k)) (brB (brR A st a k)) (brL (-9) (brR A st a k)) (nI b) s = _
      unfold H_AC_bribe_51 F_AC_bribe_157
      rw [show rd s 1 1 = nI (nP A) from hNs.2.2.1.2.1, if_neg (nI_ge hb (by omega)), c1, Option.bind_some, atC al_42 (by omega), Option.bind_some]
      simp only
      rw [atC al_42 (by omega), Option.bind_some]
      simp only
      rw [Option.bind_some, atC al_45 (by omega), Option.bind_some]
      simp only
      rw [atC al_45 (by omega), Option.bind_some]
      simp only
      rw [Option.bind_some, (hMt.2.2.2.2 a ha).2, (hMt.2.2.2.2 b hb).2, (c4.2.2.2.2 a ha).2, (c4.2.2.2.2 b hb).2, nI_add, nI_add, ten_nI, Option.bind_some, Option.bind_some, nI_1, eR]
      have e1 : moO (prA 7 A) (nOd A) 0 a + moO (prA 7 A) (nOd A) 0 b = bvN A a b := rfl
      have e2 : moO (prA 7 A) (sw (nOd A) a b) 0 a + moO (prA 7 A) (sw (nOd A) a b) 0 b = brC A a b := rfl
      rw [e1, e2]
      have := brT_eq (D := 1000000) (d := -9) (l := nI (10 * a + b)) hK hle.1 hle.2 (by decide) (by decide) (fun x y z => K' (x, y, z, nI (b + 1), t))
      rw [← this]
      have hsw : ∀ (x y : Int32) {α : Type} (p q : α), (if x ≤ y then p else q) = if y < x then q else p := fun x y α p q => by
        by_cases g : x ≤ y
        · rw [if_pos g, if_neg (Int32.not_lt.mpr g)]
        · rw [if_neg g, if_pos (Int32.not_le.mp g)]
      rw [hsw (brW 1000000 (brR A st a k)) (nI (brC A a b))])
    simp only at e2 e3 e4 e6
    rw [show a + 1 + (nP A - (a + 1)) = nP A by omega] at e6
    refine ⟨s', hC, fun K => hr K _ (fun K' => ?_)⟩
    show H_AC_bribe_51 K v (nI a) K' w2 w3 w4 w6 s' = _
    unfold H_AC_bribe_51
    rw [e6, show rd s' 1 1 = nI (nP A) from hC.2.1.2.2.1.2.1, if_pos (Int32.le_refl _), e2, e3, e4, nI_1]
  obtain ⟨⟨w2, w3, w4, w5, s⟩, ⟨e2, e3, e4, e5, hC⟩, hr⟩ := fix_rel (f := G_AC_bribe_33 v) (n := nP A) (s0 := (nI 1000000, -9, -9, nI 0, σ)) (fun a q => q.1 = brW 1000000 (brP A a) ∧ q.2.1 = brB (brP A a) ∧ q.2.2.1 = brL (-9) (brP A a) ∧ q.2.2.2.1 = nI a ∧ CI σ A q.2.2.2.2) (by rw [fuel_val]; omega) ⟨rfl, rfl, rfl, rfl, Fr.rf, hN, hPr, hMo⟩ (by
    rintro a ⟨w2, w3, w4, w5, s⟩ ha ⟨e2, e3, e4, e5, hC⟩
    simp only at e2 e3 e4 e5 hC
    subst e2; subst e3; subst e4; subst e5
    obtain ⟨s', h1, h2⟩ := inner a s (brP A a) ha (brP_ok hO a (by omega)) hC
    refine ⟨(brW 1000000 (brP A (a + 1)), brB (brP A (a + 1)), brL (-9) (brP A (a + 1)), nI (a + 1), s'), ⟨rfl, rfl, rfl, rfl, h1⟩, fun K => ?_⟩
    show H_AC_bribe_33 v K (brW 1000000 (brP A a)) (brB (brP A a)) (brL (-9) (brP A a)) (nI a) s = _
    unfold H_AC_bribe_33
    rw [show rd s 1 1 = nI (nP A) from hC.2.1.2.2.1.2.1, if_neg (nI_ge ha (by omega)), Option.bind_some, nI_1, h2]
    rfl)
  simp only at e2 e3 e4 e5
  refine ⟨s, ?_, hC.1⟩
  unfold F_AC_bribe_33
  refine hr _ (fun K => ?_)
  show H_AC_bribe_33 v K w2 w3 w4 w5 s = _
  unfold H_AC_bribe_33
  rw [e5, show rd s 1 1 = nI (nP A) from hC.2.1.2.2.1.2.1, if_pos (Int32.le_refl _), e3, e4]
  split <;> rfl
theorem bribeM {σ : St} {A : Nt} (hN : NowI σ A) (v : Int32) : ∃ s, F_MD_bribe_28 v (-9) 1000000000 0 0 σ = some (if v = 0 then brB (brP A (nP A)) else brL (-9) (brP A (nP A)), s) ∧ Fr [73, 74] σ s := by
  have hO := hN.1
  have hP := hO.P
  have inner : ∀ a s st, a < nP A → brK st → Fr [73, 74] σ s → ∃ s', Fr [73, 74] σ s' ∧ ∀ K, F_MD_bribe_43 K v (brB st) (brW 1000000000 st) (brL 0 st) (nI a) (nI (a + 1)) s = K (brB (brR A st a (nP A - (a + 1))), brW 1000000000 (brR A st a (nP A - (a + 1))), brL 0 (brR A st a (nP A - (a + 1))), nI (a + 1), s') := by
    intro a s st ha hst hs
    obtain ⟨⟨w2, w3, w4, w6, s'⟩, ⟨e2, e3, e4, e6, hC⟩, hr⟩ := fix_relK (f := fun K : Int32 × Int32 × Int32 × Int32 × St → Option (Int32 × St) => G_MD_bribe_43 K v (nI a)) (n := nP A - (a + 1)) (s0 := (brB st, brW 1000000000 st, brL 0 st, nI (a + 1), s)) (fun k q => q.1 = brB (brR A st a k) ∧ q.2.1 = brW 1000000000 (brR A st a k) ∧ q.2.2.1 = brL 0 (brR A st a k) ∧ q.2.2.2.1 = nI (a + 1 + k) ∧ Fr [73, 74] σ q.2.2.2.2) (by rw [fuel_val]; omega) ⟨rfl, rfl, rfl, rfl, hs⟩ (by
      rintro k ⟨w2, w3, w4, w6, s⟩ hk ⟨e2, e3, e4, e6, hf⟩
      simp only at e2 e3 e4 e6 hf
      subst e2; subst e3; subst e4; subst e6
      have hNs : NowI s A := hN.q (Qf.of hf (by decide))
      obtain ⟨b, hbe⟩ : ∃ b, b = a + 1 + k := ⟨_, rfl⟩
      have hb : b < nP A := by omega
      have hab : a < b := by omega
      have eR : brR A st a (k + 1) = brT (brR A st a k) (bvN A a b) (brC A a b) (nI (10 * a + b)) := by rw [hbe]; rfl
      have hK := brR_ok hO hst ha k (by omega)
      obtain ⟨t1, c1, c2, hN1, c3, c4⟩ := todayM hNs
      obtain ⟨t, d1, d2, hNt⟩ := sumChangedM hN1 ha hb (by omega)
      have hle := brC_le hO ha hb
      refine ⟨(brB (brR A st a (k + 1)), brW 1000000000 (brR A st a (k + 1)), brL 0 (brR A st a (k + 1)), nI (a + 1 + (k + 1)), t), ⟨rfl, rfl, rfl, rfl, (hf.two c2).two d2⟩, fun K K' => ?_⟩
      rw [← hbe, show a + 1 + (k + 1) = b + 1 by omega]
      show H_MD_bribe_43 K v (nI a) K' (brB (brR A st a k)) (brW 1000000000 (brR A st a k)) (brL 0 (brR A st a k)) (nI b) s = _
      unfold H_MD_bribe_43 F_MD_bribe_116
      rw [show rd s 58 10 = nI (nP A) from hNs.2.2.2.1.1.2.1, if_neg (nI_ge hb (by omega)), c1, Option.bind_some, hasM7 hN1 ha (c4 a ha), Option.bind_some]
      simp only
      rw [hasM7 hN1 hb (c4 b hb), Option.bind_some]
      simp only
      rw [Option.bind_some, d1, Option.bind_some]
      simp only
      rw [nI_add, ten_nI, Option.bind_some, Option.bind_some, nI_1, eR]
      have e1 : moO (prA 7 A) (nOd A) 0 a + moO (prA 7 A) (nOd A) 0 b = bvN A a b := rfl
      have e2 : mCh A a b a + mCh A a b b = brC A a b := rfl
      rw [e1, e2]
      exact brT_eq (D := 1000000000) (d := 0) (l := nI (10 * a + b)) hK hle.1 hle.2 (by decide) (by decide) (fun x y z => K' (y, x, z, nI (b + 1), t)))
    simp only at e2 e3 e4 e6 hC
    rw [show a + 1 + (nP A - (a + 1)) = nP A by omega] at e6
    refine ⟨s', hC, fun K => hr K _ (fun K' => ?_)⟩
    show H_MD_bribe_43 K v (nI a) K' w2 w3 w4 w6 s' = _
    unfold H_MD_bribe_43
    rw [e6, show rd s' 58 10 = nI (nP A) from (hN.q (Qf.of hC (by decide))).2.2.2.1.1.2.1, if_pos (Int32.le_refl _), e2, e3, e4, nI_1]
  obtain ⟨⟨w2, w3, w4, w5, s⟩, ⟨e2, e3, e4, e5, hC⟩, hr⟩ := fix_rel (f := G_MD_bribe_28 v) (n := nP A) (s0 := (-9, nI 1000000000, 0, nI 0, σ)) (fun a q => q.1 = brB (brP A a) ∧ q.2.1 = brW 1000000000 (brP A a) ∧ q.2.2.1 = brL 0 (brP A a) ∧ q.2.2.2.1 = nI a ∧ Fr [73, 74] σ q.2.2.2.2) (by rw [fuel_val]; omega) ⟨rfl, rfl, rfl, rfl, Fr.rf⟩ (by
    rintro a ⟨w2, w3, w4, w5, s⟩ ha ⟨e2, e3, e4, e5, hC⟩
    simp only at e2 e3 e4 e5 hC
    subst e2; subst e3; subst e4; subst e5
    obtain ⟨s', h1, h2⟩ := inner a s (brP A a) ha (brP_ok hO a (by omega)) hC
    refine ⟨(brB (brP A (a + 1)), brW 1000000000 (brP A (a + 1)), brL 0 (brP A (a + 1)), nI (a + 1), s'), ⟨rfl, rfl, rfl, rfl, h1⟩, fun K => ?_⟩
    show H_MD_bribe_28 v K (brB (brP A a)) (brW 1000000000 (brP A a)) (brL 0 (brP A a)) (nI a) s = _
    unfold H_MD_bribe_28
    rw [show rd s 58 10 = nI (nP A) from (hN.q (Qf.of hC (by decide))).2.2.2.1.1.2.1, if_neg (nI_ge ha (by omega)), Option.bind_some, nI_1, h2]
    rfl)
  simp only at e2 e3 e4 e5 hC
  refine ⟨s, ?_, hC⟩
  unfold F_MD_bribe_28
  refine hr _ (fun K => ?_)
  show H_MD_bribe_28 v K w2 w3 w4 w5 s = _
  unfold H_MD_bribe_28 F_MD_bribe_136
  rw [e5, show rd s 58 10 = nI (nP A) from (hN.q (Qf.of hC (by decide))).2.2.2.1.1.2.1, if_pos (Int32.le_refl _), e2, e4]
  have hK := brP_ok hO (nP A) (Nat.le_refl _)
  cases e : brP A (nP A) with
  | none =>
    rw [if_neg (show ¬ (0 : Int32) ≤ brB none from by decide)]
    split <;> rfl
  | some q =>
    rw [if_pos (show (0 : Int32) ≤ brB (some q) from (hK q e).2)]
    split <;> rfl
theorem op_bribe (a : Int32) : Ask (F_AC_bribe a) (F_MD_bribe a) := by
  intro σ h
  obtain ⟨A, hall⟩ := id h
  have hN := hall.1
  rcases isIn_01 (σ := σ) (b := a) with ⟨hb, _⟩ | ⟨hb, _⟩
  · obtain ⟨s1, a1, a2, hN1, a3, a4⟩ := todayC hN
    obtain ⟨s2, b1, b2⟩ := bribeC hN1 a3 a4 a
    obtain ⟨s3, c1, c2⟩ := bribeM (hN1.q (Qf.of b2 (by decide))) a
    refine ⟨_, s2, s3, (?_ : F_AC_bribe a σ = some (if a = 0 then brB (brP A (nP A)) else brL (-9) (brP A (nP A)), s2)), ?_, INV.q hall (((Qf.of a2 (by decide)).tr (Qf.of b2 (by decide))).tr (Qf.of c2 (by decide)))⟩
    · unfold F_AC_bribe
      rw [in_01 hb, a1, Option.bind_some]
      exact b1
    · have hin : F_MD_isIn a 0 1 s2 = some (1, s2) := by
        rcases isIn_01 (σ := s2) (b := a) with ⟨_, e⟩ | ⟨hb2, _⟩
        · exact e
        · exfalso; rcases hb with rfl | rfl <;> revert hb2 <;> decide
      unfold F_MD_bribe
      rw [hin, Option.bind_some, if1]
      exact c1
  · refine Ask.no h (k := 2) (x := -2) (by decide) (by decide) ?_ (fun τ hτ => ?_)
    · unfold F_AC_bribe F_AC_bribe_9
      rw [out_01 hb, bid]
    · unfold F_MD_bribe
      rw [show (1 : Int32) = nI 1 from rfl, isIn_out (m := 1) (by decide) hb, Option.bind_some, if0, bid]
