-- newBrothers
theorem stA_hi {σ σ' : St} {a : Nat} {j x : Int32} (h : stA σ a j x = some σ') {k : Nat} (hk : alen a ≤ k) : rd σ' a k = rd σ a k := by
  unfold stA at h
  split at h
  · rename_i hin
    cases h
    have hlt : j.toNatClampNeg < alen a := by
      have := (inB_in hin)
      simp only [vp_in, not_or] at this
      omega
    rw [rd_wr_slot _ _ _ _ (by omega)]
  · cases h
theorem parts22_hi {σ σ' : St} {p : Int32} (h : F_MD_parts_22 p σ = some σ') {k : Nat} (hk : alen 65 ≤ k) : rd σ' 65 k = rd σ 65 k := by
  unfold F_MD_parts_22 at h
  obtain ⟨s1, h1, h2⟩ := Option.bind_eq_some_iff.mp h
  cases h2
  exact stA_hi h1 hk
theorem parts_hi {σ σ' : St} {p : Int32} (h : F_MD_parts p σ = some σ') {k : Nat} (hk : alen 65 ≤ k) : rd σ' 65 k = rd σ 65 k := by
  unfold F_MD_parts at h
  obtain ⟨x1, h1, h2⟩ := Option.bind_eq_some_iff.mp h
  split at h2
  · exact parts22_hi h2 hk
  · obtain ⟨x3, h3, h4⟩ := Option.bind_eq_some_iff.mp h2
    obtain ⟨s4, h5, h6⟩ := Option.bind_eq_some_iff.mp h4
    exact (parts22_hi h6 hk).trans (stA_hi h5 hk)
theorem brothers_hi {σ σ' : St} {p q : Int32} (h : F_MD_areBrothers p q σ = some σ') {k : Nat} (hk : alen 65 ≤ k) : rd σ' 65 k = rd σ 65 k := by
  unfold F_MD_areBrothers at h
  obtain ⟨s1, h1, h2⟩ := Option.bind_eq_some_iff.mp h
  obtain ⟨s2, h3, h4⟩ := Option.bind_eq_some_iff.mp h2
  obtain ⟨s3, h5, h6⟩ := Option.bind_eq_some_iff.mp h4
  obtain ⟨s4, h7, h8⟩ := Option.bind_eq_some_iff.mp h6
  cases h8
  exact (((stA_hi h7 hk).trans (stA_hi h5 hk)).trans (parts_hi h3 hk)).trans (parts_hi h1 hk)
def nbX (A : Nt) (a b : Nat) : Nat := lbAll (prN A a b)
theorem nbX_le {A : Nt} (hO : OkN A) {a b : Nat} (ha : a < nP A) (hb : b < nP A) (hab : a ≠ b) : nbX A a b ≤ 546 := lbAll_le (hO.pr ha hb hab)
theorem nbM {s : St} {A : Nt} (hN : NowI s A) {a b : Nat} (ha : a < nP A) (hb : b < nP A) (hab : a ≠ b) : ∃ s4 s5 s6 s8, F_MD_passesAll 1 1 s = some s4 ∧ F_MD_areBrothers (nI a) (nI b) s4 = some s5 ∧ F_MD_findFromLast s5 = some s6 ∧ F_MD_allMonths s6 = some (nI (nbX A a b), s6) ∧ F_MD_passesAll 1 0 s6 = some s8 ∧ Qf (nD A) s s8 := by
  have hO := hN.1
  have hP := hO.P
  obtain ⟨s4, c1, c2, c3⟩ := keepAll (σ := s) (w := 1) (by decide)
  have hN4 : NowI s4 A := hN.un (fun b j q => c3 b j (by omega))
  obtain ⟨s5, d1, d2, d3⟩ := brothersM hN4.2.2.2.1.1 hO ha hb hab
  have hOB := hO.pr ha hb hab
  have hM5 : MdN s5 (prN A a b) 7 := ⟨d3, (d2.at (by decide) 23).trans hN4.2.2.2.1.2.1, by decide⟩
  obtain ⟨s6, e1, e2, e3⟩ := findFromLastM hM5 hOB hN.2.1.1
  have hM6 : MdN s6 (prN A a b) 7 := hM5.un (fun b j q => e2 b j (by omega) (by omega) (by omega))
  have h7 : F_MD_allMonths s6 = some (nI (nbX A a b), s6) := allMonthsM hM6 hOB e3 (fun p d _ e => lbK_in e)
  have e72 : ∀ j, rd s6 72 j = rd s4 72 j := fun j => (e2 72 j (by decide) (by decide) (by decide)).trans (d2.at (by decide) j)
  obtain ⟨s8, f1, f2, f3, f4, f5⟩ := putF (w := 1) (by decide) (c2.mv e72) (fun b hb j hj => by
    have hb' : 60 ≤ b ∧ b ≤ 67 := by
      simp only [nrows, List.mem_cons, List.not_mem_nil, or_false] at hb; omega
    rw [e2 b j (by omega) (by omega) (by omega)]
    by_cases h65 : b = 65
    · subst h65
      rw [brothers_hi d1 hj, c3 65 j (by omega)]
    · rw [d2.at (by simpa using h65) j, c3 b j (by omega)])
  refine ⟨s4, s5, s6, s8, c1, d1, e1, h7, f1, fun b j q => ?_⟩
  unfold Qd at q
  by_cases hb2 : 60 ≤ b ∧ b ≤ 67
  · exact f2 b hb2.1 hb2.2 j
  · by_cases h9 : b = 58 ∧ j = 9
    · rw [h9.1, h9.2]; exact f3
    · by_cases h10 : b = 58 ∧ j = 10
      · rw [h10.1, h10.2]; exact f4
      · rw [f5 b j (by omega), e2 b j (by omega) (by omega) (by omega), d2.at (by simp; omega) j, c3 b j (by omega)]
def nbR (A : Nt) (st : Nat × Int32) (a : Nat) : Nat → Nat × Int32 := mnR (fun k => some (nbX A a (a + 1 + k))) (fun k => nI (10 * a + (a + 1 + k))) st
def nbS (A : Nt) (x0 : Nat) : Nat → Nat × Int32 := mnP (fun a k => some (nbX A a (a + 1 + k))) (fun a k => nI (10 * a + (a + 1 + k))) (fun a => nP A - (a + 1)) (x0, -9)
theorem nbCls {σ : St} {A : Nt} (hN : NowI σ A) (hPr : PrC σ 36 (prA 7 A)) {x0 : Nat} (hx : x0 ≤ 546) : ∃ s, F_AC_newBrothers_39 (nI x0) (-9) 0 σ = some ((nbS A x0 (nP A)).2, s) ∧ Qf (nD A) σ s := by
  have hO := hN.1
  have hP := hO.P
  have inner : ∀ a s (st : Nat × Int32), st.1 ≤ 546 → a < nP A → Qf (nD A) σ s → PrC s 36 (prA 7 A) → ∃ s', Qf (nD A) σ s' ∧ PrC s' 36 (prA 7 A) ∧ ∀ K, F_AC_newBrothers_55 K (nI st.1) st.2 (nI a) (nI (a + 1)) s = K (nI (nbR A st a (nP A - (a + 1))).1, (nbR A st a (nP A - (a + 1))).2, nI (a + 1), s') := by
    intro a s st hst ha hs hps
    obtain ⟨⟨w1, w2, w4, s'⟩, ⟨e1, e2, e4, hf, hpf⟩, hr⟩ := fix_relK (f := fun K : Int32 × Int32 × Int32 × St → Option (Int32 × St) => G_AC_newBrothers_55 K (nI a)) (n := nP A - (a + 1)) (s0 := (nI st.1, st.2, nI (a + 1), s)) (fun k x => x.1 = nI (nbR A st a k).1 ∧ x.2.1 = (nbR A st a k).2 ∧ x.2.2.1 = nI (a + 1 + k) ∧ Qf (nD A) σ x.2.2.2 ∧ PrC x.2.2.2 36 (prA 7 A)) (by rw [fuel_val]; omega) ⟨rfl, rfl, rfl, hs, hps⟩ (by
      rintro k ⟨w1, w2, w4, s⟩ hk ⟨e1, e2, e4, hf, hps⟩
      simp only at e1 e2 e4 hf hps
      subst e1; subst e2; subst e4
      obtain ⟨b, hbe⟩ : ∃ b, b = a + 1 + k := ⟨_, rfl⟩
      have hb : b < nP A := by omega
      have hab : a ≠ b := by omega
      have hNs := hN.q hf
      have hle : (nbR A st a k).1 ≤ 546 := mnR_le hst k
      have eR : nbR A st a (k + 1) = mnT (nbR A st a k) (some (nbX A a b)) (nI (10 * a + b)) := by rw [hbe]; rfl
      obtain ⟨t1, a1, a2, a3⟩ := copyC isNI_19 isNI_1 (by decide) hNs.2.2.1 hO
      have p1 := hps.fr a2 (by decide) (by decide)
      obtain ⟨t2, b1, b2, b3⟩ := pairC isNI_19 a3 hO ha hb hab
      have p2 := p1.fr b2 (by decide) (by decide)
      obtain ⟨t, d1, d2, d3, d4⟩ := holdLB isNI_19 b3 (hO.pr ha hb hab) p2
      have p3 := p2.fr d2 (by decide) (by decide)
      have hv : rd t 46 2 = nI (nbX A a b) := d3
      have hxle := nbX_le hO ha hb hab
      refine ⟨(nI (nbR A st a (k + 1)).1, (nbR A st a (k + 1)).2, nI (a + 1 + (k + 1)), t), ⟨rfl, rfl, rfl, ((hf.tr (Qf.of a2 (by decide))).tr (Qf.of b2 (by decide))).tr (Qf.of d2 (by decide)), p3⟩, fun K K' => ?_⟩
      rw [← hbe, show a + 1 + (k + 1) = b + 1 by omega]
      show H_AC_newBrothers_55 K (nI a) K' (nI (nbR A st a k).1) (nbR A st a k).2 (nI b) s = _
      unfold H_AC_newBrothers_55 F_AC_newBrothers_130
      rw [show rd s 1 1 = nI (nP A) from hNs.2.2.1.2.1, if_neg (nI_ge hb (by omega)), a1, Option.bind_some, b1, Option.bind_some, d1, Option.bind_some, hv, ten_nI, nI_1, eR]
      unfold mnT
      by_cases g : nbX A a b < (nbR A st a k).1
      · rw [if_neg (nI_ge g (by omega))]
        simp only [g, if_true]
        rfl
      · rw [if_pos (nI_le (by omega) (by omega))]
        simp only [g, if_false])
    simp only at e1 e2 e4 hf hpf
    rw [show a + 1 + (nP A - (a + 1)) = nP A by omega] at e4
    refine ⟨s', hf, hpf, fun K => hr K _ (fun K' => ?_)⟩
    show H_AC_newBrothers_55 K (nI a) K' w1 w2 w4 s' = _
    unfold H_AC_newBrothers_55
    rw [e4, show rd s' 1 1 = nI (nP A) from (hN.q hf).2.2.1.2.1, if_pos (Int32.le_refl _), e1, e2, nI_1]
  obtain ⟨⟨w1, w2, w3, s⟩, ⟨e1, e2, e3, hf, _⟩, hr⟩ := fix_rel (f := G_AC_newBrothers_39) (n := nP A) (s0 := (nI x0, -9, nI 0, σ)) (fun n x => x.1 = nI (nbS A x0 n).1 ∧ x.2.1 = (nbS A x0 n).2 ∧ x.2.2.1 = nI n ∧ Qf (nD A) σ x.2.2.2 ∧ PrC x.2.2.2 36 (prA 7 A)) (by rw [fuel_val]; omega) ⟨rfl, rfl, rfl, Qf.rf, hPr⟩ (by
    rintro n ⟨w1, w2, w3, s⟩ hn ⟨e1, e2, e3, hf, hps⟩
    simp only at e1 e2 e3 hf hps
    subst e1; subst e2; subst e3
    obtain ⟨s', h1, h2, h3⟩ := inner n s (nbS A x0 n) (mnP_le hx n) hn hf hps
    refine ⟨(nI (nbS A x0 (n + 1)).1, (nbS A x0 (n + 1)).2, nI (n + 1), s'), ⟨rfl, rfl, rfl, h1, h2⟩, fun K => ?_⟩
    show H_AC_newBrothers_39 K (nI (nbS A x0 n).1) (nbS A x0 n).2 (nI n) s = _
    unfold H_AC_newBrothers_39
    rw [show rd s 1 1 = nI (nP A) from (hN.q hf).2.2.1.2.1, if_neg (nI_ge hn (by omega)), Option.bind_some, nI_1, h3]
    rfl)
  simp only at e1 e2 e3 hf
  refine ⟨s, ?_, hf⟩
  unfold F_AC_newBrothers_39
  refine hr _ (fun K => ?_)
  show H_AC_newBrothers_39 K w1 w2 w3 s = _
  unfold H_AC_newBrothers_39
  rw [e3, show rd s 1 1 = nI (nP A) from (hN.q hf).2.2.1.2.1, if_pos (Int32.le_refl _), e2]
theorem nbMod {σ : St} {A : Nt} (hN : NowI σ A) {x0 : Nat} (hx : x0 ≤ 546) : ∃ s, F_MD_newBrothers_14 (nI x0) (-9) 0 σ = some ((nbS A x0 (nP A)).2, s) ∧ Qf (nD A) σ s := by
  have hO := hN.1
  have hP := hO.P
  have inner : ∀ a s (st : Nat × Int32), st.1 ≤ 546 → a < nP A → Qf (nD A) σ s → ∃ s', Qf (nD A) σ s' ∧ ∀ K, F_MD_newBrothers_27 K (nI st.1) st.2 (nI a) (nI (a + 1)) s = K (nI (nbR A st a (nP A - (a + 1))).1, (nbR A st a (nP A - (a + 1))).2, nI (a + 1), s') := by
    intro a s st hst ha hs
    obtain ⟨⟨w1, w2, w4, s'⟩, ⟨e1, e2, e4, hf⟩, hr⟩ := fix_relK (f := fun K : Int32 × Int32 × Int32 × St → Option (Int32 × St) => G_MD_newBrothers_27 K (nI a)) (n := nP A - (a + 1)) (s0 := (nI st.1, st.2, nI (a + 1), s)) (fun k x => x.1 = nI (nbR A st a k).1 ∧ x.2.1 = (nbR A st a k).2 ∧ x.2.2.1 = nI (a + 1 + k) ∧ Qf (nD A) σ x.2.2.2) (by rw [fuel_val]; omega) ⟨rfl, rfl, rfl, hs⟩ (by
      rintro k ⟨w1, w2, w4, s⟩ hk ⟨e1, e2, e4, hf⟩
      simp only at e1 e2 e4 hf
      subst e1; subst e2; subst e4
      obtain ⟨b, hbe⟩ : ∃ b, b = a + 1 + k := ⟨_, rfl⟩
      have hb : b < nP A := by omega
      have hab : a ≠ b := by omega
      have hNs := hN.q hf
      have hle : (nbR A st a k).1 ≤ 546 := mnR_le hst k
      have eR : nbR A st a (k + 1) = mnT (nbR A st a k) (some (nbX A a b)) (nI (10 * a + b)) := by rw [hbe]; rfl
      obtain ⟨s4, s5, s6, t, d1, d2, d3, d4, d5, d6⟩ := nbM hNs ha hb hab
      have hxle := nbX_le hO ha hb hab
      refine ⟨(nI (nbR A st a (k + 1)).1, (nbR A st a (k + 1)).2, nI (a + 1 + (k + 1)), t), ⟨rfl, rfl, rfl, hf.tr d6⟩, fun K K' => ?_⟩
      rw [← hbe, show a + 1 + (k + 1) = b + 1 by omega]
      show H_MD_newBrothers_27 K (nI a) K' (nI (nbR A st a k).1) (nbR A st a k).2 (nI b) s = _
      unfold H_MD_newBrothers_27 F_MD_newBrothers_85
      rw [show rd s 58 10 = nI (nP A) from hNs.2.2.2.1.1.2.1, if_neg (nI_ge hb (by omega)), d1, Option.bind_some, d2, Option.bind_some, d3, Option.bind_some, d4, Option.bind_some]
      simp only
      rw [d5, Option.bind_some, ten_nI, nI_1, eR]
      unfold mnT
      by_cases g : nbX A a b < (nbR A st a k).1
      · rw [if_pos (nI_lt g (by omega))]
        simp only [g, if_true]
        rfl
      · rw [if_neg (nI_nlt (by omega) (by omega))]
        simp only [g, if_false])
    simp only at e1 e2 e4 hf
    rw [show a + 1 + (nP A - (a + 1)) = nP A by omega] at e4
    refine ⟨s', hf, fun K => hr K _ (fun K' => ?_)⟩
    show H_MD_newBrothers_27 K (nI a) K' w1 w2 w4 s' = _
    unfold H_MD_newBrothers_27
    rw [e4, show rd s' 58 10 = nI (nP A) from (hN.q hf).2.2.2.1.1.2.1, if_pos (Int32.le_refl _), e1, e2, nI_1]
  obtain ⟨⟨w1, w2, w3, s⟩, ⟨e1, e2, e3, hf⟩, hr⟩ := fix_rel (f := G_MD_newBrothers_14) (n := nP A) (s0 := (nI x0, -9, nI 0, σ)) (fun n x => x.1 = nI (nbS A x0 n).1 ∧ x.2.1 = (nbS A x0 n).2 ∧ x.2.2.1 = nI n ∧ Qf (nD A) σ x.2.2.2) (by rw [fuel_val]; omega) ⟨rfl, rfl, rfl, Qf.rf⟩ (by
    rintro n ⟨w1, w2, w3, s⟩ hn ⟨e1, e2, e3, hf⟩
    simp only at e1 e2 e3 hf
    subst e1; subst e2; subst e3
    obtain ⟨s', h1, h2⟩ := inner n s (nbS A x0 n) (mnP_le hx n) hn hf
    refine ⟨(nI (nbS A x0 (n + 1)).1, (nbS A x0 (n + 1)).2, nI (n + 1), s'), ⟨rfl, rfl, rfl, h1⟩, fun K => ?_⟩
    show H_MD_newBrothers_14 K (nI (nbS A x0 n).1) (nbS A x0 n).2 (nI n) s = _
    unfold H_MD_newBrothers_14
    rw [show rd s 58 10 = nI (nP A) from (hN.q hf).2.2.2.1.1.2.1, if_neg (nI_ge hn (by omega)), Option.bind_some, nI_1, h2]
    rfl)
  simp only at e1 e2 e3 hf
  refine ⟨s, ?_, hf⟩
  unfold F_MD_newBrothers_14
  refine hr _ (fun K => ?_)
  show H_MD_newBrothers_14 K w1 w2 w3 s = _
  unfold H_MD_newBrothers_14
  rw [e3, show rd s 58 10 = nI (nP A) from (hN.q hf).2.2.2.1.1.2.1, if_pos (Int32.le_refl _), e2]
theorem op_newBrothers : Ask F_AC_newBrothers F_MD_newBrothers := by
  intro σ h
  obtain ⟨A, hall⟩ := id h
  have hle := lbAll_le hall.1.1
  obtain ⟨s1, a1, a2, hN1, a3⟩ := fillN hall.1
  obtain ⟨s2, b1, b2, hN2, b3, b4, b5⟩ := lbCla hN1 a3
  obtain ⟨s3, c1, c2⟩ := nbCls hN2 b3 hle
  obtain ⟨s4, d1, d2, hN4, d3, d4⟩ := lbMod (hN2.q c2)
  obtain ⟨s5, e1, e2⟩ := nbMod hN4 hle
  refine ⟨_, s3, s5, (?_ : F_AC_newBrothers σ = some ((nbS A (lbAll A) (nP A)).2, s3)), ?_, INV.q hall (((((Qf.of a2 (by decide)).tr (Qf.of b2 (by decide))).tr c2).tr d2).tr e2)⟩
  · unfold F_AC_newBrothers
    rw [a1, Option.bind_some, b1, Option.bind_some, Option.bind_some, b4]
    exact c1
  · unfold F_MD_newBrothers
    rw [d1, Option.bind_some, d4, Option.bind_some]
    exact e1
