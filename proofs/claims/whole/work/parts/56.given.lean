-- alibiWorth, givenAway
def alV (A : Nt) (p d : Nat) : Nat := allO (prA 7 (alN A p d)) (nOd A) 0
theorem alV_le {A : Nt} (hO : OkN A) {p d : Nat} (hd : d < 7) : alV A p d ≤ 546 := allO_le (Z := prA 7 (alN A p d)) (prA_ok (hO.al hd) 7)
theorem turnedM {σ : St} {A : Nt} (hN : NowI σ A) {p d : Nat} (hp : p < nP A) (hd : d < nD A) : ∃ s, F_MD_monthsTurned (nI p) (nI d) σ = some (nI (alV A p d), s) ∧ Fr [73, 74] σ s := by
  have hO := hN.1
  have hP := hO.P
  have hD := hN.2.1.1
  obtain ⟨t, b1, b2, b3, b4, b5, b6⟩ := whatM hN (AbsR_al (p := p) (d := d)) (hO.al (by omega)) (by decide) (by decide)
  have r7 : rd σ 66 p = nI (nAl A p) := (hN.2.2.2.1.1.2.2.2 p hp).2.2.2.2.1
  have ht : rd t 66 p = nI (nAl A p ^^^ 2 ^ d) := (b5 66 p (by decide) (by decide)).trans (rd_wr_same _ _ _ _)
  have hback : nI (nAl A p ^^^ 2 ^ d) ^^^ nI (2 ^ d) = nI (nAl A p) := by
    rw [xor_nI, Nat.xor_assoc, Nat.xor_self, Nat.xor_zero]
  refine ⟨wr t 66 p (rd σ 66 p), ?_, b6⟩
  unfold F_MD_monthsTurned
  rw [ldk al_66 (by omega), Option.bind_some, shl1 (by omega), r7, xor_nI, stk al_66 (by omega), Option.bind_some, show F_MD_monthsNow (wr σ 66 p (nI (nAl A p ^^^ 2 ^ d))) = _ from b2, Option.bind_some]
  simp only
  rw [ldk al_66 (by omega), Option.bind_some, ht, hback, stk al_66 (by omega), Option.bind_some]
  rfl
theorem turnTrialC {σ : St} {A : Nt} {D : Nat} (hA : AbsC σ 19 A) (hO : OkN A) {p d : Nat} (hp : p < nP A) (hd : d < 7) : ∃ s, F_NI_turnAlibi 19 (nI p) (nI d) σ = some s ∧ Qf D σ s ∧ AbsC s 19 (alN A p d) := by
  obtain ⟨s, a1, a2, a3⟩ := turnC isNI_19 hA hO hp (d := d) (by omega)
  exact ⟨s, a1, Qf.of a2 (by decide), a3⟩
theorem triedN {σ : St} {A : Nt} {D : Nat} (hA : AbsC σ 19 A) (hO : OkN A) : ∃ s, F_AC_tried σ = some (nI (allO (prA 7 A) (nOd A) 0), s) ∧ Qf D σ s ∧ AbsC s 19 A ∧ MoD s 43 (prA 7 A) (nOd A) 0 ∧ ∀ b, 40 ≤ b → b ≤ 42 → ∀ j, rd s b j = rd σ b j := by
  obtain ⟨s, a1, a2, a3⟩ := triedC hA hO
  exact ⟨s, a1, Qf.of a2 (by decide), hA.fr a2 (fun k hk => by simp; omega), a3, fun b h1 h2 j => a2.at (by simp; omega) j⟩
theorem op_alibiWorth (a b : Int32) : Ask (F_AC_alibiWorth a b) (F_MD_alibiWorth a b) := by
  intro σ h
  obtain ⟨A, hall⟩ := id h
  have hN := hall.1
  obtain ⟨hO, hD, hA, hM, hg⟩ := id hN
  have hP := hO.P
  rcases perC hA hO a with ⟨p, hp, rfl⟩ | ho
  · rcases deeC hA hO b with ⟨d, hd, rfl⟩ | ho
    · obtain ⟨s1, a1, hN1, a3, a4⟩ := trialC hN
      obtain ⟨s2, b1, b2, b3⟩ := turnTrialC (D := nD A) a4 hO hp (d := d) (by omega)
      have hN2 := hN1.q b2
      obtain ⟨s3, c1, c2, hN3, c3, c4⟩ := todayC hN2
      obtain ⟨s4, d1, d2, d3, d4, d5⟩ := triedN (D := nD A) (b3.fr c2 (fun k hk => by simp; omega)) (hO.al (by omega))
      have hN4 := hN3.q d2
      have e4 : rd s4 40 4 = nI (allO (prA 7 A) (nOd A) 0) := (d5 40 (by decide) (by decide) 4).trans c4.2.2.1
      obtain ⟨s5, e1, e2, hN5, e3, _⟩ := nowN hN4
      obtain ⟨s6, f1, f2⟩ := turnedM hN5 hp hd
      refine ⟨nI (alV A p d) - nI (allO (prA 7 A) (nOd A) 0), s4, s6, ?_, ?_, INV.q hall (((((a3.tr b2).tr (Qf.of c2 (by decide))).tr d2).tr (Qf.of e2 (by decide))).tr (Qf.of f2 (by decide)))⟩
      · unfold F_AC_alibiWorth
        rw [hasPersonC_in hA hO hp, Option.bind_some, if1, hasDeedC_in hA hO hd, Option.bind_some, if1, a1, Option.bind_some, b1, Option.bind_some, c1, Option.bind_some, d1, Option.bind_some]
        simp only
        rw [e4]
        rfl
      · unfold F_MD_alibiWorth
        rw [isPersonM_in hN4.2.2.2.1 hO hp, Option.bind_some, if1, isDeedM_in hN4.2.2.2.1 hO hd, Option.bind_some, if1, e1, Option.bind_some]
        simp only
        rw [f1, Option.bind_some]
    · refine Ask.noBig h (k := 1) (x := -1) (by decide) (by decide) ?_ (fun τ hτ => ?_)
      · unfold F_AC_alibiWorth F_AC_alibiWorth_22
        rw [hasPersonC_in hA hO hp, Option.bind_some, if1, hasDeedC_out hA hO ho, Option.bind_some, if0, bid]
      · unfold F_MD_alibiWorth F_MD_alibiWorth_16
        rw [isPersonM_in (hN.r57 hτ).2.2.2.1 hO hp, Option.bind_some, if1, isDeedM_out (hN.r57 hτ).2.2.2.1 ho, Option.bind_some, if0, bid]
  · refine Ask.noBig h (k := 1) (x := -1) (by decide) (by decide) ?_ (fun τ hτ => ?_)
    · unfold F_AC_alibiWorth F_AC_alibiWorth_22
      rw [hasPersonC_out hA hO ho, Option.bind_some, if0, bid]
    · unfold F_MD_alibiWorth F_MD_alibiWorth_16
      rw [isPersonM_out (hN.r57 hτ).2.2.2.1 ho, Option.bind_some, if0, bid]
-- the least over pairs
def mnT (st : Nat × Int32) (v : Option Nat) (l : Int32) : Nat × Int32 := match v with | none => st | some x => if x < st.1 then (x, l) else st
def mnR (v : Nat → Option Nat) (l : Nat → Int32) (st : Nat × Int32) : Nat → Nat × Int32
  | 0 => st
  | k + 1 => mnT (mnR v l st k) (v k) (l k)
def mnP (v : Nat → Nat → Option Nat) (l : Nat → Nat → Int32) (n : Nat → Nat) (s0 : Nat × Int32) : Nat → Nat × Int32
  | 0 => s0
  | a + 1 => mnR (v a) (l a) (mnP v l n s0 a) (n a)
theorem mnT_le {st : Nat × Int32} {v : Option Nat} {l : Int32} {b : Nat} (h : st.1 ≤ b) : (mnT st v l).1 ≤ b := by
  unfold mnT
  cases v with
  | none => exact h
  | some x =>
    show (if x < st.1 then (x, l) else st).1 ≤ b
    split
    · show x ≤ b; omega
    · exact h
theorem mnR_le {v : Nat → Option Nat} {l : Nat → Int32} {st : Nat × Int32} {b : Nat} (h : st.1 ≤ b) : ∀ k, (mnR v l st k).1 ≤ b
  | 0 => h
  | k + 1 => mnT_le (mnR_le h k)
theorem mnP_le {v : Nat → Nat → Option Nat} {l : Nat → Nat → Int32} {n : Nat → Nat} {s0 : Nat × Int32} {b : Nat} (h : s0.1 ≤ b) : ∀ k, (mnP v l n s0 k).1 ≤ b
  | 0 => h
  | k + 1 => mnR_le (mnP_le h k) _
def gvV (A : Nt) (p d : Nat) : Option Nat := if (nAl A p).testBit d = true then some (alV A p d) else none
def gvS (A : Nt) (x0 : Nat) : Nat → Nat × Int32 := mnP (gvV A) (fun p d => nI (10 * p + d)) (fun _ => nD A) (x0, -9)
def gvR (A : Nt) (st : Nat × Int32) (p : Nat) : Nat → Nat × Int32 := mnR (gvV A p) (fun d => nI (10 * p + d)) st
theorem givenC {σ : St} {A : Nt} (hN : NowI σ A) {x0 : Nat} (hx : x0 ≤ 546) : ∃ s, F_AC_givenAway_17 (nI x0) (-9) 0 σ = some ((gvS A x0 (nP A)).2, s) ∧ Qf (nD A) σ s := by
  have hO := hN.1
  have hP := hO.P
  have hD := hN.2.1.1
  have inner : ∀ p s (st : Nat × Int32), st.1 ≤ 546 → p < nP A → Qf (nD A) σ s → ∃ s', Qf (nD A) σ s' ∧ ∀ K, F_AC_givenAway_31 K (nI st.1) st.2 (nI p) 0 s = K (nI (gvR A st p (nD A)).1, (gvR A st p (nD A)).2, nI (p + 1), s') := by
    intro p s st hst hp hs
    obtain ⟨⟨w1, w2, w4, s'⟩, ⟨e1, e2, e4, hf⟩, hr⟩ := fix_relK (f := fun K : Int32 × Int32 × Int32 × St → Option (Int32 × St) => G_AC_givenAway_31 K (nI p)) (n := nD A) (s0 := (nI st.1, st.2, nI 0, s)) (fun d x => x.1 = nI (gvR A st p d).1 ∧ x.2.1 = (gvR A st p d).2 ∧ x.2.2.1 = nI d ∧ Qf (nD A) σ x.2.2.2) (by rw [fuel_val]; omega) ⟨rfl, rfl, rfl, hs⟩ (by
      rintro d ⟨w1, w2, w4, s⟩ hd ⟨e1, e2, e4, hf⟩
      simp only at e1 e2 e4 hf
      subst e1; subst e2; subst e4
      have hNs := hN.q hf
      have hle : (gvR A st p d).1 ≤ 546 := mnR_le hst d
      have r8 : rd s 8 p = nI (nAl A p) := (hNs.2.2.1.2.2.2 p hp).2.2.2.2.1
      have eR : gvR A st p (d + 1) = mnT (gvR A st p d) (gvV A p d) (nI (10 * p + d)) := rfl
      cases hb : (nAl A p).testBit d with
      | false =>
        have ev : gvV A p d = none := if_neg (by rw [hb]; decide)
        refine ⟨(nI (gvR A st p (d + 1)).1, (gvR A st p (d + 1)).2, nI (d + 1), s), ⟨rfl, rfl, rfl, hf⟩, fun K K' => ?_⟩
        show H_AC_givenAway_31 K (nI p) K' (nI (gvR A st p d).1) (gvR A st p d).2 (nI d) s = _
        unfold H_AC_givenAway_31 F_AC_givenAway_107
        rw [show rd s 1 0 = nI (nD A) from hNs.2.2.1.1, if_neg (nI_ge hd (by omega)), atC al_8 (by omega), Option.bind_some]
        simp only
        rw [r8, hasC (by omega), Option.bind_some, hb]
        simp only [zI_f, if_true]
        rw [eR, ev, nI_1]
        rfl
      | true =>
        have ev : gvV A p d = some (alV A p d) := if_pos hb
        obtain ⟨t1, a1, hN1, a3, a4⟩ := trialC hNs
        obtain ⟨t2, b1, b2, b3⟩ := turnTrialC (D := nD A) a4 hO hp (d := d) (by omega)
        obtain ⟨t, d1, d2, d3, d4, d5⟩ := triedN (D := nD A) b3 (hO.al (by omega))
        have hv : allO (prA 7 (alN A p d)) (nOd (alN A p d)) 0 = alV A p d := rfl
        rw [hv] at d1
        have e34 : rd t 43 4 = nI (alV A p d) := d4.2.2.1
        have hal : alV A p d ≤ 546 := alV_le hO (by omega)
        refine ⟨(nI (gvR A st p (d + 1)).1, (gvR A st p (d + 1)).2, nI (d + 1), t), ⟨rfl, rfl, rfl, ((hf.tr a3).tr b2).tr d2⟩, fun K K' => ?_⟩
        show H_AC_givenAway_31 K (nI p) K' (nI (gvR A st p d).1) (gvR A st p d).2 (nI d) s = _
        unfold H_AC_givenAway_31 F_AC_givenAway_107
        rw [show rd s 1 0 = nI (nD A) from hNs.2.2.1.1, if_neg (nI_ge hd (by omega)), atC al_8 (by omega), Option.bind_some]
        simp only
        rw [r8, hasC (by omega), Option.bind_some, hb]
        simp only [zI_t, one0, if_false]
        rw [a1, Option.bind_some, b1, Option.bind_some, d1, Option.bind_some]
        simp only
        rw [e34, ten_nI, nI_1, eR, ev]
        unfold mnT
        by_cases g : alV A p d < (gvR A st p d).1
        · rw [if_neg (nI_ge g (by omega))]
          simp only [g, if_true]
          rfl
        · rw [if_pos (nI_le (by omega) (by omega))]
          simp only [g, if_false])
    simp only at e1 e2 e4 hf
    refine ⟨s', hf, fun K => hr K _ (fun K' => ?_)⟩
    show H_AC_givenAway_31 K (nI p) K' w1 w2 w4 s' = _
    unfold H_AC_givenAway_31
    rw [e4, show rd s' 1 0 = nI (nD A) from (hN.q hf).2.2.1.1, if_pos (Int32.le_refl _), e1, e2, nI_1]
  obtain ⟨⟨w1, w2, w3, s⟩, ⟨e1, e2, e3, hf⟩, hr⟩ := fix_rel (f := G_AC_givenAway_17) (n := nP A) (s0 := (nI x0, -9, nI 0, σ)) (fun n x => x.1 = nI (gvS A x0 n).1 ∧ x.2.1 = (gvS A x0 n).2 ∧ x.2.2.1 = nI n ∧ Qf (nD A) σ x.2.2.2) (by rw [fuel_val]; omega) ⟨rfl, rfl, rfl, Qf.rf⟩ (by
    rintro n ⟨w1, w2, w3, s⟩ hn ⟨e1, e2, e3, hf⟩
    simp only at e1 e2 e3 hf
    subst e1; subst e2; subst e3
    obtain ⟨s', h1, h2⟩ := inner n s (gvS A x0 n) (mnP_le hx n) hn hf
    refine ⟨(nI (gvS A x0 (n + 1)).1, (gvS A x0 (n + 1)).2, nI (n + 1), s'), ⟨rfl, rfl, rfl, h1⟩, fun K => ?_⟩
    show H_AC_givenAway_17 K (nI (gvS A x0 n).1) (gvS A x0 n).2 (nI n) s = _
    unfold H_AC_givenAway_17
    rw [show rd s 1 1 = nI (nP A) from (hN.q hf).2.2.1.2.1, if_neg (nI_ge hn (by omega)), h2]
    rfl)
  simp only at e1 e2 e3 hf
  refine ⟨s, ?_, hf⟩
  unfold F_AC_givenAway_17
  refine hr _ (fun K => ?_)
  show H_AC_givenAway_17 K w1 w2 w3 s = _
  unfold H_AC_givenAway_17
  rw [e3, show rd s 1 1 = nI (nP A) from (hN.q hf).2.2.1.2.1, if_pos (Int32.le_refl _), e2]
theorem givenM {σ : St} {A : Nt} (hN : NowI σ A) {x0 : Nat} (hx : x0 ≤ 546) : ∃ s, F_MD_givenAway_10 (nI x0) (-9) 0 σ = some ((gvS A x0 (nP A)).2, s) ∧ Fr [73, 74] σ s := by
  have hO := hN.1
  have hP := hO.P
  have hD := hN.2.1.1
  have inner : ∀ p s (st : Nat × Int32), st.1 ≤ 546 → p < nP A → Fr [73, 74] σ s → ∃ s', Fr [73, 74] σ s' ∧ ∀ K, F_MD_givenAway_21 K (nI st.1) st.2 (nI p) 0 s = K (nI (gvR A st p (nD A)).1, (gvR A st p (nD A)).2, nI (p + 1), s') := by
    intro p s st hst hp hs
    obtain ⟨⟨w1, w2, w4, s'⟩, ⟨e1, e2, e4, hf⟩, hr⟩ := fix_relK (f := fun K : Int32 × Int32 × Int32 × St → Option (Int32 × St) => G_MD_givenAway_21 K (nI p)) (n := nD A) (s0 := (nI st.1, st.2, nI 0, s)) (fun d x => x.1 = nI (gvR A st p d).1 ∧ x.2.1 = (gvR A st p d).2 ∧ x.2.2.1 = nI d ∧ Fr [73, 74] σ x.2.2.2) (by rw [fuel_val]; omega) ⟨rfl, rfl, rfl, hs⟩ (by
      rintro d ⟨w1, w2, w4, s⟩ hd ⟨e1, e2, e4, hf⟩
      simp only at e1 e2 e4 hf
      subst e1; subst e2; subst e4
      have hNs : NowI s A := hN.q (Qf.of hf (by decide))
      have hle : (gvR A st p d).1 ≤ 546 := mnR_le hst d
      have r8 : rd s 66 p = nI (nAl A p) := (hNs.2.2.2.1.1.2.2.2 p hp).2.2.2.2.1
      have hbd := (hO.2.2.2.1 p hp).2.2.2.1
      have eR : gvR A st p (d + 1) = mnT (gvR A st p d) (gvV A p d) (nI (10 * p + d)) := rfl
      cases hb : (nAl A p).testBit d with
      | false =>
        have ev : gvV A p d = none := if_neg (by rw [hb]; decide)
        refine ⟨(nI (gvR A st p (d + 1)).1, (gvR A st p (d + 1)).2, nI (d + 1), s), ⟨rfl, rfl, rfl, hf⟩, fun K K' => ?_⟩
        show H_MD_givenAway_21 K (nI p) K' (nI (gvR A st p d).1) (gvR A st p d).2 (nI d) s = _
        unfold H_MD_givenAway_21 F_MD_givenAway_55 F_MD_givenAway_77
        rw [show rd s 58 9 = nI (nD A) from hNs.2.2.2.1.1.1, if_neg (nI_ge hd (by omega)), ldk al_66 (by omega), Option.bind_some, r8, hasM (by omega) (by omega), Option.bind_some, hb]
        simp only [zI_f, if_true]
        rw [if_neg (nI_nlt (Nat.le_refl _) (by omega)), eR, ev, nI_1]
        rfl
      | true =>
        have ev : gvV A p d = some (alV A p d) := if_pos hb
        obtain ⟨t, b1, b2⟩ := turnedM hNs hp hd
        have hal : alV A p d ≤ 546 := alV_le hO (by omega)
        refine ⟨(nI (gvR A st p (d + 1)).1, (gvR A st p (d + 1)).2, nI (d + 1), t), ⟨rfl, rfl, rfl, hf.two b2⟩, fun K K' => ?_⟩
        show H_MD_givenAway_21 K (nI p) K' (nI (gvR A st p d).1) (gvR A st p d).2 (nI d) s = _
        unfold H_MD_givenAway_21 F_MD_givenAway_55 F_MD_givenAway_77
        rw [show rd s 58 9 = nI (nD A) from hNs.2.2.2.1.1.1, if_neg (nI_ge hd (by omega)), ldk al_66 (by omega), Option.bind_some, r8, hasM (by omega) (by omega), Option.bind_some, hb]
        simp only [zI_t, one0, if_false]
        rw [b1, Option.bind_some]
        simp only
        rw [ten_nI, nI_1, eR, ev]
        unfold mnT
        by_cases g : alV A p d < (gvR A st p d).1
        · rw [if_pos (nI_lt g (by omega))]
          simp only [g, if_true]
          rfl
        · rw [if_neg (nI_nlt (by omega) (by omega))]
          simp only [g, if_false])
    simp only at e1 e2 e4 hf
    refine ⟨s', hf, fun K => hr K _ (fun K' => ?_)⟩
    show H_MD_givenAway_21 K (nI p) K' w1 w2 w4 s' = _
    unfold H_MD_givenAway_21
    rw [e4, show rd s' 58 9 = nI (nD A) from (hN.q (Qf.of hf (by decide))).2.2.2.1.1.1, if_pos (Int32.le_refl _), e1, e2, nI_1]
  obtain ⟨⟨w1, w2, w3, s⟩, ⟨e1, e2, e3, hf⟩, hr⟩ := fix_rel (f := G_MD_givenAway_10) (n := nP A) (s0 := (nI x0, -9, nI 0, σ)) (fun n x => x.1 = nI (gvS A x0 n).1 ∧ x.2.1 = (gvS A x0 n).2 ∧ x.2.2.1 = nI n ∧ Fr [73, 74] σ x.2.2.2) (by rw [fuel_val]; omega) ⟨rfl, rfl, rfl, Fr.rf⟩ (by
    rintro n ⟨w1, w2, w3, s⟩ hn ⟨e1, e2, e3, hf⟩
    simp only at e1 e2 e3 hf
    subst e1; subst e2; subst e3
    obtain ⟨s', h1, h2⟩ := inner n s (gvS A x0 n) (mnP_le hx n) hn hf
    refine ⟨(nI (gvS A x0 (n + 1)).1, (gvS A x0 (n + 1)).2, nI (n + 1), s'), ⟨rfl, rfl, rfl, h1⟩, fun K => ?_⟩
    show H_MD_givenAway_10 K (nI (gvS A x0 n).1) (gvS A x0 n).2 (nI n) s = _
    unfold H_MD_givenAway_10
    rw [show rd s 58 10 = nI (nP A) from (hN.q (Qf.of hf (by decide))).2.2.2.1.1.2.1, if_neg (nI_ge hn (by omega)), h2]
    rfl)
  simp only at e1 e2 e3 hf
  refine ⟨s, ?_, hf⟩
  unfold F_MD_givenAway_10
  refine hr _ (fun K => ?_)
  show H_MD_givenAway_10 K w1 w2 w3 s = _
  unfold H_MD_givenAway_10
  rw [e3, show rd s 58 10 = nI (nP A) from (hN.q (Qf.of hf (by decide))).2.2.2.1.1.2.1, if_pos (Int32.le_refl _), e2]
theorem op_givenAway : Ask F_AC_givenAway F_MD_givenAway := by
  intro σ h
  obtain ⟨A, hall⟩ := id h
  have hle : allO (prA 7 A) (nOd A) 0 ≤ 546 := allO_le (prA_ok hall.1.1 7)
  obtain ⟨s1, a1, a2, hN1, a3, a4⟩ := todayC hall.1
  obtain ⟨s2, b1, b2⟩ := givenC hN1 hle
  obtain ⟨s3, c1, c2, hN3, c3, c4⟩ := nowN (hN1.q b2)
  obtain ⟨s4, d1, d2⟩ := givenM hN3 hle
  refine ⟨_, s2, s4, (?_ : F_AC_givenAway σ = some ((gvS A (allO (prA 7 A) (nOd A) 0) (nP A)).2, s2)), ?_, INV.q hall ((((Qf.of a2 (by decide)).tr b2).tr (Qf.of c2 (by decide))).tr (Qf.of d2 (by decide)))⟩
  · unfold F_AC_givenAway
    rw [a1, Option.bind_some, Option.bind_some, show rd s1 40 4 = nI (allO (prA 7 A) (nOd A) 0) from a4.2.2.1]
    exact b1
  · unfold F_MD_givenAway
    rw [c1, Option.bind_some]
    exact d1
