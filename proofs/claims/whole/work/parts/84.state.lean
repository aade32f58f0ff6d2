-- night: state by state
def GdN (A : Nt) : Prop := OkN A ∧ nD A ≤ 7 ∧ AlK A
def tlN (t : Nat → Nat) (A : Nt) (p : Nat) : Option Nt :=
  if t p = 97 then (if vlN t (p + 1) 1 < nP A ∧ vlN t (p + 2) 1 < nD A then some (alN A (vlN t (p + 1) 1) (vlN t (p + 2) 1)) else none)
  else if t p = 98 then (if ((vlN t (p + 1) 1) < nP A ∧ (vlN t (p + 2) 1) < nP A ∧ (vlN t (p + 1) 1) ≠ (vlN t (p + 2) 1)) then some (prN A (vlN t (p + 1) 1) (vlN t (p + 2) 1)) else none)
  else if t p = 100 then (if vlN t (p + 1) 1 ≤ 5 ∧ nD A < 7 then some (adN A (vlN t (p + 1) 1) (vlN t (p + 2) 1)) else none)
  else if t p = 112 then (if vlN t (p + 2) 3 < 128 ∧ vlN t (p + 5) 1 ≤ 7 ∧ nP A < 7 then some (adP A (vlN t (p + 1) 1) (vlN t (p + 2) 3) (vlN t (p + 5) 1)) else none)
  else (if ((vlN t (p + 1) 1) < nP A ∧ (vlN t (p + 2) 1) < nP A ∧ (vlN t (p + 1) 1) ≠ (vlN t (p + 2) 1)) then some (chN A (vlN t (p + 1) 1) (vlN t (p + 2) 1)) else none)
theorem vl1 (t : Nat → Nat) (q : Nat) : vlN t q 1 = t q - 48 := by
  show 10 * 0 + (t (q + 0) - 48) = _
  rw [Nat.add_zero]; omega
theorem vl_lt {t : Nat → Nat} {c q : Nat} (h : dgB t c q = true) : vlN t q 1 < 10 := by
  have := dgB_in h
  rw [vl1]; omega
theorem vl3 (t : Nat → Nat) (p : Nat) : 100 * vlN t (p + 2) 1 + 10 * vlN t (p + 3) 1 + vlN t (p + 4) 1 = vlN t (p + 2) 3 := by
  show 100 * (10 * 0 + (t (p + 2) - 48)) + 10 * (10 * 0 + (t (p + 3) - 48)) + (10 * 0 + (t (p + 4) - 48)) = 10 * (10 * (10 * 0 + (t (p + 2) - 48)) + (t (p + 3) - 48)) + (t (p + 4) - 48)
  omega
/-- the digits of a statement that is well written -/
def DgS (t : Nat → Nat) (c p : Nat) : Prop := p < c ∧ dgB t c (p + 1) = true ∧ dgB t c (p + 2) = true ∧ (t p = 112 → dgB t c (p + 3) = true ∧ dgB t c (p + 4) = true ∧ dgB t c (p + 5) = true)
theorem DgS.p {t : Nat → Nat} {c p : Nat} (h : DgS t c p) : p < c := h.1
theorem DgS.a {t : Nat → Nat} {c p : Nat} (h : DgS t c p) : dgB t c (p + 1) = true := h.2.1
theorem DgS.b {t : Nat → Nat} {c p : Nat} (h : DgS t c p) : dgB t c (p + 2) = true := h.2.2.1
theorem DgS.e {t : Nat → Nat} {c p : Nat} (h : DgS t c p) : t p = 112 → dgB t c (p + 3) = true ∧ dgB t c (p + 4) = true ∧ dgB t c (p + 5) = true := h.2.2.2
theorem DgS.of {t : Nat → Nat} {c p : Nat} (h : fltN t c p = none) : DgS t c p := by
  obtain ⟨h1, h2, h3, h4, h5⟩ := fltN_none h
  have hd := dgt_2 h2
  refine ⟨h1, h3 0 (by omega), h3 1 (by omega), fun q => ?_⟩
  have hD : dgt (t p) = 5 := by rw [q]; rfl
  exact ⟨h3 2 (by omega), h3 3 (by omega), h3 4 (by omega)⟩
theorem DgS.v2 {t : Nat → Nat} {c p : Nat} (h : DgS t c p) (h1 : t p = 112) : vlN t (p + 2) 3 < 1000 := by
  have h2 := vl_lt h.b
  have h3 := vl_lt (h.e h1).1
  have h4 := vl_lt (h.e h1).2.1
  rw [← vl3]; omega
theorem tlN_ok {t : Nat → Nat} {c p : Nat} {A B : Nt} (hG : GdN A) (hd : DgS t c p) (h : tlN t A p = some B) : GdN B := by
  obtain ⟨hO, hD, hK⟩ := hG
  have h1 := vl_lt hd.a
  have h2 := vl_lt hd.b
  unfold tlN at h
  by_cases c1 : t p = 97
  · rw [if_pos c1] at h
    split at h
    · rename_i q
      cases h
      exact ⟨hO.al (by omega), hD, AlK_al hK q.2⟩
    · cases h
  rw [if_neg c1] at h
  by_cases c2 : t p = 98
  · rw [if_pos c2] at h
    split at h
    · rename_i q
      cases h
      exact ⟨hO.pr q.1 q.2.1 q.2.2, hD, hK⟩
    · cases h
  rw [if_neg c2] at h
  by_cases c3 : t p = 100
  · rw [if_pos c3] at h
    split at h
    · rename_i q
      cases h
      exact ⟨hO.adN (by omega) (by omega) h2, q.2, AlK_adN hK⟩
    · cases h
  rw [if_neg c3] at h
  by_cases c4 : t p = 112
  · rw [if_pos c4] at h
    split at h
    · rename_i q
      cases h
      exact ⟨hO.adP q.2.2 h1 q.1 (by omega), hD, AlK_adP hK⟩
    · cases h
  rw [if_neg c4] at h
  split at h
  · rename_i q
    cases h
    exact ⟨hO.ch q.1 q.2.1, hD, hK⟩
  · cases h
theorem twoIn {s : St} {n : Nat} {A : Nt} (hA : AbsC s n A) (hO : OkN A) {a b : Nat} (h : (a < nP A ∧ b < nP A ∧ a ≠ b)) : F_NI_hasTwo n (nI a) (nI b) s = some (1, s) := by
  have hP := hO.P
  obtain ⟨h1, h2, h3⟩ := h
  unfold F_NI_hasTwo
  rw [hasPersonC_in hA hO h1, Option.bind_some, if1, hasPersonC_in hA hO h2, Option.bind_some, if1, if_neg (fun w => h3 (nI_inj (by omega) (by omega) w))]
theorem twoOut {s : St} {n : Nat} {A : Nt} (hA : AbsC s n A) (hO : OkN A) {a b : Nat} (ha : a < 10) (hb : b < 10) (h : ¬ (a < nP A ∧ b < nP A ∧ a ≠ b)) : F_NI_hasTwo n (nI a) (nI b) s = some (0, s) := by
  have hP := hO.P
  rcases twoC hA hO (nI a) (nI b) with ⟨p, q, hp, hq, hpq, e1, e2, _⟩ | ⟨h1, _⟩
  · have e1' := nI_inj (by omega) (by omega) e1
    have e2' := nI_inj (by omega) (by omega) e2
    subst e1'; subst e2'
    exact absurd ⟨hp, hq, hpq⟩ h
  · exact h1
theorem twoOutM {s : St} {A : Nt} (hM : MdN s A 7) (hO : OkN A) {a b : Nat} (ha : a < 10) (hb : b < 10) (h : ¬ (a < nP A ∧ b < nP A ∧ a ≠ b)) : F_MD_areTwo (nI a) (nI b) s = some (0, s) := by
  have hP := hO.P
  unfold F_MD_areTwo F_MD_areTwo_25
  by_cases h1 : a < nP A
  · rw [isPersonM_in hM hO h1, Option.bind_some, if1]
    by_cases h2 : b < nP A
    · rw [isPersonM_in hM hO h2, Option.bind_some, if1]
      by_cases h3 : a = b
      · rw [if_pos (by rw [h3])]
      · exact absurd ⟨h1, h2, h3⟩ h
    · rw [isPersonM_out hM (Or.inr (nI_le (by omega) (by omega))), Option.bind_some, if0]
  · rw [isPersonM_out hM (Or.inr (nI_le (by omega) (by omega))), Option.bind_some, if0]
theorem digitC {s : St} {t : Nat → Nat} {c q : Nat} (hx : TxC s t c) (hc : c ≤ 96) (h : dgB t c q = true) : F_LT_digit (nI q) s = some (nI (vlN t q 1), s) := by
  obtain ⟨h1, h2, h3⟩ := dgB_in h
  unfold F_LT_digit
  rw [atC al_35 (by omega), Option.bind_some]
  simp only
  rw [hx.2 q h1, show (48 : Int32) = nI 48 from rfl, pk_sub h2, vl1]
theorem stateC {s : St} {A : Nt} {t : Nat → Nat} {c p : Nat} (hA : AbsC s 19 A) (hG : GdN A) (hx : TxC s t c) (hc : c ≤ 96) (ht : ∀ j, j < c → t j < 256) (hd : DgS t c p) : (tlN t A p = none ∧ F_LT_state 19 (nI p) s = some (0, s)) ∨ ∃ B s', tlN t A p = some B ∧ F_LT_state 19 (nI p) s = some (1, s') ∧ Fr [19, 20, 21, 22, 23, 24, 25, 26, 27] s s' ∧ AbsC s' 19 B := by
  obtain ⟨hO, hD, hK⟩ := hG
  have hP := hO.P
  have htp := ht p hd.p
  obtain ⟨a, hae⟩ : ∃ a, a = vlN t (p + 1) 1 := ⟨_, rfl⟩
  obtain ⟨b, hbe⟩ : ∃ b, b = vlN t (p + 2) 1 := ⟨_, rfl⟩
  have ha := vl_lt hd.a
  have hb := vl_lt hd.b
  have da := digitC hx hc hd.a
  have db := digitC hx hc hd.b
  rw [← hae] at ha da
  rw [← hbe] at hb db
  unfold tlN F_LT_state
  rw [← hae, ← hbe, show nI p + (1 : Int32) = nI (p + 1) from nI_sum p 1, show nI p + (2 : Int32) = nI (p + 2) from nI_sum p 2, da, Option.bind_some]
  simp only
  rw [db, Option.bind_some]
  simp only
  rw [atC al_35 (by have := hd.p; omega), hx.2 p hd.p, Option.bind_some, Option.bind_some]
  by_cases c1 : t p = 97
  · rw [if_pos c1, if_pos (show nI (t p) = 97 by rw [c1]; rfl)]
    by_cases g1 : a < nP A
    · rw [hasPersonC_in hA hO g1, Option.bind_some, if1]
      by_cases g2 : b < nD A
      · right
        obtain ⟨s', b1, b2, b3⟩ := turnC isNI_19 hA hO g1 (d := b) (by omega)
        refine ⟨_, s', if_pos ⟨g1, g2⟩, ?_, b2.sub (by simp), b3⟩
        rw [hasDeedC_in hA hO g2, Option.bind_some, if1, b1, Option.bind_some]
      · left
        refine ⟨if_neg (fun q => g2 q.2), ?_⟩
        rw [hasDeedC_out hA hO (Or.inr (nI_le (by omega) (by omega))), Option.bind_some, if0]
    · left
      refine ⟨if_neg (fun q => g1 q.1), ?_⟩
      rw [hasPersonC_out hA hO (Or.inr (nI_le (by omega) (by omega))), Option.bind_some, if0]
  rw [if_neg c1, if_neg (show ¬ nI (t p) = 97 from lit_ne (k := 97) (by omega) (by decide) c1)]
  by_cases c2 : t p = 98
  · rw [if_pos c2, if_pos (show nI (t p) = 98 by rw [c2]; rfl)]
    by_cases g : (a < nP A ∧ b < nP A ∧ a ≠ b)
    · right
      obtain ⟨s', b1, b2, b3⟩ := pairC isNI_19 hA hO g.1 g.2.1 g.2.2
      refine ⟨_, s', if_pos g, ?_, b2.sub (by simp), b3⟩
      rw [twoIn hA hO g, Option.bind_some, if1, b1, Option.bind_some]
    · left
      refine ⟨if_neg g, ?_⟩
      rw [twoOut hA hO ha hb g, Option.bind_some, if0]
  rw [if_neg c2, if_neg (show ¬ nI (t p) = 98 from lit_ne (k := 98) (by omega) (by decide) c2)]
  by_cases c3 : t p = 100
  · rw [if_pos c3, if_pos (show nI (t p) = 100 by rw [c3]; rfl)]
    unfold F_LT_stateDeed
    rw [show rd s 19 0 = nI (nD A) from hA.1]
    by_cases g1 : a ≤ 5
    · rw [if_neg (show ¬ (6 : Int32) ≤ nI a from nI_ge (b := 6) (by omega) (by decide))]
      by_cases g2 : nD A < 7
      · right
        obtain ⟨s', b1, b2, b3⟩ := putDeedC isNI_19 hA (by omega) a b
        refine ⟨_, s', if_pos ⟨g1, g2⟩, ?_, b2.sub (by simp), b3⟩
        rw [if_pos (show nI (nD A) < (7 : Int32) from nI_lt (b := 7) g2 (by decide)), b1, Option.bind_some, Option.bind_some]
        rfl
      · left
        refine ⟨if_neg (fun q => g2 q.2), ?_⟩
        rw [if_neg (show ¬ nI (nD A) < (7 : Int32) from nI_nlt (b := 7) (by omega) (by omega)), Option.bind_some]
        rfl
    · left
      refine ⟨if_neg (fun q => g1 q.1), ?_⟩
      rw [if_pos (show (6 : Int32) ≤ nI a from nI_le (a := 6) (by omega) (by omega)), Option.bind_some]
      rfl
  rw [if_neg c3, if_neg (show ¬ nI (t p) = 100 from lit_ne (k := 100) (by omega) (by decide) c3)]
  by_cases c4 : t p = 112
  · rw [if_pos c4, if_pos (show nI (t p) = 112 by rw [c4]; rfl)]
    obtain ⟨e3, e4, e5⟩ := hd.e c4
    have h5 := vl_lt e5
    have hv := hd.v2 c4
    have hx4 : (100 : Int32) * nI b + 10 * nI (vlN t (p + 3) 1) + nI (vlN t (p + 4) 1) = nI (vlN t (p + 2) 3) := by
      rw [show (100 : Int32) = nI 100 from rfl, show (10 : Int32) = nI 10 from rfl, pk_mul, pk_mul, nI_sum, nI_sum, hbe, vl3]
    unfold F_LT_statePerson
    rw [show nI p + (2 : Int32) = nI (p + 2) from nI_sum p 2, db, Option.bind_some]
    simp only
    rw [show nI p + (3 : Int32) = nI (p + 3) from nI_sum p 3, digitC hx hc e3, Option.bind_some]
    simp only
    rw [show nI p + (4 : Int32) = nI (p + 4) from nI_sum p 4, digitC hx hc e4, Option.bind_some]
    simp only
    rw [hx4, Option.bind_some, show nI p + (5 : Int32) = nI (p + 5) from nI_sum p 5, digitC hx hc e5, Option.bind_some]
    simp only
    rw [show rd s 19 1 = nI (nP A) from hA.2.1]
    by_cases g1 : vlN t (p + 2) 3 < 128
    · rw [if_neg (show ¬ (128 : Int32) ≤ nI (vlN t (p + 2) 3) from nI_ge (b := 128) g1 (by decide))]
      by_cases g2 : vlN t (p + 5) 1 ≤ 7
      · rw [if_neg (show ¬ (7 : Int32) < nI (vlN t (p + 5) 1) from nI_nlt (a := 7) g2 (by decide))]
        by_cases g3 : nP A < 7
        · right
          obtain ⟨s', b1, b2, b3⟩ := putPersonC isNI_19 hA g3 a (vlN t (p + 2) 3) (vlN t (p + 5) 1)
          refine ⟨_, s', if_pos ⟨g1, g2, g3⟩, ?_, b2.sub (by simp), b3⟩
          rw [if_pos (show nI (nP A) < (7 : Int32) from nI_lt (b := 7) g3 (by decide)), show nI p + (1 : Int32) = nI (p + 1) from nI_sum p 1, da, Option.bind_some]
          simp only
          rw [b1, Option.bind_some, Option.bind_some]
          rfl
        · left
          refine ⟨if_neg (fun q => g3 q.2.2), ?_⟩
          rw [if_neg (show ¬ nI (nP A) < (7 : Int32) from nI_nlt (b := 7) (by omega) (by omega)), Option.bind_some]
          rfl
      · left
        refine ⟨if_neg (fun q => g2 q.2.1), ?_⟩
        rw [if_pos (show (7 : Int32) < nI (vlN t (p + 5) 1) from nI_lt (a := 7) (by omega) (by omega)), Option.bind_some]
        rfl
    · left
      refine ⟨if_neg (fun q => g1 q.1), ?_⟩
      rw [if_pos (show (128 : Int32) ≤ nI (vlN t (p + 2) 3) from nI_le (a := 128) (by omega) (by omega)), Option.bind_some]
      rfl
  rw [if_neg c4, if_neg (show ¬ nI (t p) = 112 from lit_ne (k := 112) (by omega) (by decide) c4)]
  by_cases g : (a < nP A ∧ b < nP A ∧ a ≠ b)
  · right
    obtain ⟨s', b1, b2, b3⟩ := swapC (σ := s) (o := 27) (len := 7) al_27 (by decide) hP hO.od (fun k hk => (hA.2.2.2 k hk).2.2.2.2.2) g.1 g.2.1 g.2.2
    refine ⟨_, s', if_pos g, ?_, b2.sub (by simp), hA.ch (n := 19) b2 b3⟩
    rw [twoIn hA hO g, Option.bind_some, if1, show rd s 19 1 = nI (nP A) from hA.2.1, show F_AC_swapPlaces (19 + 8) (nI (nP A)) (nI a) (nI b) s = some s' from b1, Option.bind_some]
  · left
    refine ⟨if_neg g, ?_⟩
    rw [twoOut hA hO ha hb g, Option.bind_some, if0]
theorem exch_hi {s s' : St} {A : Nt} (hM : MdN s A 7) (hO : OkN A) {a b : Nat} (ha : a < nP A) (hb : b < nP A) (h : F_MD_exchanges (nI a) (nI b) s = some s') {k : Nat} (hk : alen 67 ≤ k) : rd s' 67 k = rd s 67 k := by
  have hP := hO.P
  unfold F_MD_exchanges at h
  rw [placeOfM (P := nP A) hP hO.od (fun k hk => (hM.1.2.2.2 k hk).2.2.2.2.2) ha, Option.bind_some] at h
  simp only at h
  rw [placeOfM (P := nP A) hP hO.od (fun k hk => (hM.1.2.2.2 k hk).2.2.2.2.2) hb, Option.bind_some] at h
  obtain ⟨s1, h1, h2⟩ := Option.bind_eq_some_iff.mp h
  obtain ⟨s2, h3, h4⟩ := Option.bind_eq_some_iff.mp h2
  cases h4
  exact (stA_hi h3 hk).trans (stA_hi h1 hk)
theorem comesM {s : St} {A : Nt} {t : Nat → Nat} {c p n : Nat} (hM : MdN s A 7) (hG : GdN A) (hR : StR s t p n) (hn : n < 48) (ht : ∀ j, j < c → t j < 256) (hd : DgS t c p) : (tlN t A p = none ∧ F_MD_comes (nI n) s = some (0, s)) ∨ ∃ B s', tlN t A p = some B ∧ F_MD_comes (nI n) s = some (1, s') ∧ AbsM s' B ∧ (∀ b j, ¬ (60 ≤ b ∧ b ≤ 67 ∨ b = 58 ∧ (j = 9 ∨ j = 10)) → rd s' b j = rd s b j) ∧ ∀ b, b ∈ nrows → ∀ j, alen b ≤ j → rd s' b j = rd s b j := by
  obtain ⟨hO, hD, hK⟩ := hG
  have hP := hO.P
  have htp := ht p hd.p
  obtain ⟨r69, r70, r0, r1, r2⟩ := hR
  obtain ⟨a, hae⟩ : ∃ a, a = vlN t (p + 1) 1 := ⟨_, rfl⟩
  obtain ⟨b, hbe⟩ : ∃ b, b = vlN t (p + 2) 1 := ⟨_, rfl⟩
  have ha := vl_lt hd.a
  have hb := vl_lt hd.b
  rw [← hae] at ha r0
  rw [← hbe] at hb
  have hN : ∀ b, b ∈ nrows → 60 ≤ b ∧ b ≤ 67 := fun b hb => by
    simp only [nrows, List.mem_cons, List.not_mem_nil, or_false] at hb; omega
  unfold tlN F_MD_comes
  rw [← hae, ← hbe, show (3 : Int32) = nI 3 from rfl, pk_mul, show nI (3 * n) + (1 : Int32) = nI (3 * n + 1) from nI_sum _ 1, ldk al_71 (by omega), Option.bind_some, ldk al_71 (by omega), Option.bind_some, ldk al_69 hn, Option.bind_some, r69, r0]
  by_cases c1 : t p = 97
  · rw [if_neg (show ¬ t p = 112 by omega), ← hbe] at r1
    rw [r1, if_pos c1, if_pos (show nI (t p) = 97 by rw [c1]; rfl)]
    by_cases g1 : a < nP A
    · rw [isPersonM_in hM hO g1, Option.bind_some, if1]
      by_cases g2 : b < nD A
      · right
        have r3 : rd s 66 a = nI (nAl A a) := (hM.1.2.2.2 a g1).2.2.2.2.1
        have f2 : Fr [66] s (wr s 66 a (nI (nAl A a ^^^ 2 ^ b))) := Fr.wr (by simp)
        have hal : ∀ k, nAl (alN A a b) k = if k = a then nAl A k ^^^ 2 ^ b else nAl A k := fun _ => rfl
        refine ⟨_, wr s 66 a (nI (nAl A a ^^^ 2 ^ b)), if_pos ⟨g1, g2⟩, ?_, hM.1.row (A' := alN A a b) (c := 66) (by decide) f2 rfl rfl rfl rfl rfl rfl (fun _ => rfl) (fun w => absurd rfl w) (fun _ => rfl) (fun k hk => ?_), fun b' j w => by rw [rd_wr, if_neg (by omega)], fun b' hb' j hj => ?_⟩
        · rw [isDeedM_in hM hO g2, Option.bind_some, if1, ldk al_66 (by omega), Option.bind_some, r3, shl1 (by omega), xor_nI, stk al_66 (by omega), Option.bind_some]
        · rw [if_neg (by decide), if_pos rfl, hal, rd_wr]
          by_cases w : k = a
          · rw [if_pos ⟨rfl, w⟩, if_pos w, w]
          · rw [if_neg (fun q => w q.2), if_neg w]
            exact (hM.1.2.2.2 k hk).2.2.2.2.1
        · rw [rd_wr, if_neg]
          intro q
          rw [q.1, al_66] at hj
          omega
      · left
        refine ⟨if_neg (fun q => g2 q.2), ?_⟩
        rw [isDeedM_out hM (Or.inr (nI_le (by omega) (by omega))), Option.bind_some, if0]
    · left
      refine ⟨if_neg (fun q => g1 q.1), ?_⟩
      rw [isPersonM_out hM (Or.inr (nI_le (by omega) (by omega))), Option.bind_some, if0]
  rw [if_neg c1, if_neg (show ¬ nI (t p) = 97 from lit_ne (k := 97) (by omega) (by decide) c1)]
  by_cases c2 : t p = 98
  · rw [if_neg (show ¬ t p = 112 by omega), ← hbe] at r1
    rw [r1, if_pos c2, if_pos (show nI (t p) = 98 by rw [c2]; rfl)]
    by_cases g : (a < nP A ∧ b < nP A ∧ a ≠ b)
    · right
      obtain ⟨s', b1, b2, b3⟩ := brothersM hM.1 hO g.1 g.2.1 g.2.2
      refine ⟨_, s', if_pos g, ?_, b3, fun b' j w => b2.at (by simp; omega) j, fun b' hb' j hj => ?_⟩
      · rw [areTwoM hM hO g.1 g.2.1 g.2.2, Option.bind_some, if1, b1, Option.bind_some]
      · by_cases h65 : b' = 65
        · subst h65; exact brothers_hi b1 hj
        · exact b2.at (by simpa using h65) j
    · left
      refine ⟨if_neg g, ?_⟩
      rw [twoOutM hM hO ha hb g, Option.bind_some, if0]
  rw [if_neg c2, if_neg (show ¬ nI (t p) = 98 from lit_ne (k := 98) (by omega) (by decide) c2)]
  by_cases c3 : t p = 100
  · rw [if_neg (show ¬ t p = 112 by omega), ← hbe] at r1
    rw [r1, if_pos c3, if_pos (show nI (t p) = 100 by rw [c3]; rfl), show rd s 58 9 = nI (nD A) from hM.1.1]
    by_cases g1 : a ≤ 5
    · rw [if_neg (show ¬ (5 : Int32) < nI a from nI_nlt (a := 5) g1 (by decide))]
      by_cases g2 : nD A < 7
      · right
        obtain ⟨s', b1, b2, b3, b4⟩ := addsDeedM hM.1 (by omega) a b
        refine ⟨_, s', if_pos ⟨g1, g2⟩, ?_, b3, fun b' j w => b4 b' j (by omega), fun b' hb' j hj => b4 b' j ?_⟩
        · rw [if_neg (show ¬ nI (nD A) = (7 : Int32) from lit_ne (k := 7) (by omega) (by decide) (by omega)), b1, Option.bind_some]
        · have := hN b' hb'
          intro q
          rcases q with q | q
          · omega
          · rcases (show b' = 60 ∨ b' = 61 by omega) with e | e
            · rw [e, al_60] at hj; omega
            · rw [e, al_61] at hj; omega
      · left
        refine ⟨if_neg (fun q => g2 q.2), ?_⟩
        rw [if_pos (show nI (nD A) = (7 : Int32) by rw [show nD A = 7 by omega]; rfl)]
    · left
      refine ⟨if_neg (fun q => g1 q.1), ?_⟩
      rw [if_pos (show (5 : Int32) < nI a from nI_lt (a := 5) (by omega) (by omega))]
  rw [if_neg c3, if_neg (show ¬ nI (t p) = 100 from lit_ne (k := 100) (by omega) (by decide) c3)]
  by_cases c4 : t p = 112
  · rw [if_pos c4] at r1
    obtain ⟨e3, e4, e5⟩ := hd.e c4
    have h5 := vl_lt e5
    have hv := hd.v2 c4
    rw [r1, if_pos c4, if_pos (show nI (t p) = 112 by rw [c4]; rfl), show nI (3 * n) + (2 : Int32) = nI (3 * n + 2) from nI_sum _ 2, ldk al_71 (by omega), Option.bind_some, r2 c4, show rd s 58 10 = nI (nP A) from hM.1.2.1]
    by_cases g1 : vlN t (p + 2) 3 < 128
    · rw [if_neg (show ¬ (128 : Int32) ≤ nI (vlN t (p + 2) 3) from nI_ge (b := 128) g1 (by decide))]
      by_cases g2 : vlN t (p + 5) 1 ≤ 7
      · rw [if_neg (show ¬ (7 : Int32) < nI (vlN t (p + 5) 1) from nI_nlt (a := 7) g2 (by decide))]
        by_cases g3 : nP A < 7
        · right
          obtain ⟨s', b1, b2, b3, b4⟩ := addsPersonM hM.1 g3 a (vlN t (p + 2) 3) (vlN t (p + 5) 1)
          refine ⟨_, s', if_pos ⟨g1, g2, g3⟩, ?_, b3, fun b' j w => b4 b' j (by omega), fun b' hb' j hj => b4 b' j ?_⟩
          · rw [if_neg (show ¬ nI (nP A) = (7 : Int32) from lit_ne (k := 7) (by omega) (by decide) (by omega)), Option.bind_some, b1, Option.bind_some]
          · have := hN b' hb'
            intro q
            rcases q with q | q
            · omega
            · rcases (show b' = 62 ∨ b' = 63 ∨ b' = 64 ∨ b' = 65 ∨ b' = 66 ∨ b' = 67 by omega) with e | e | e | e | e | e
              · rw [e, al_62] at hj; omega
              · rw [e, al_63] at hj; omega
              · rw [e, al_64] at hj; omega
              · rw [e, al_65] at hj; omega
              · rw [e, al_66] at hj; omega
              · rw [e, al_67] at hj; omega
        · left
          refine ⟨if_neg (fun q => g3 q.2.2), ?_⟩
          rw [if_pos (show nI (nP A) = (7 : Int32) by rw [show nP A = 7 by omega]; rfl)]
      · left
        refine ⟨if_neg (fun q => g2 q.2.1), ?_⟩
        rw [if_pos (show (7 : Int32) < nI (vlN t (p + 5) 1) from nI_lt (a := 7) (by omega) (by omega))]
    · left
      refine ⟨if_neg (fun q => g1 q.1), ?_⟩
      rw [if_pos (show (128 : Int32) ≤ nI (vlN t (p + 2) 3) from nI_le (a := 128) (by omega) (by omega))]
  rw [if_neg c4, if_neg (show ¬ nI (t p) = 112 from lit_ne (k := 112) (by omega) (by decide) c4)]
  rw [if_neg c4, ← hbe] at r1
  rw [r1]
  by_cases g : (a < nP A ∧ b < nP A ∧ a ≠ b)
  · right
    obtain ⟨s', b1, b2, b3⟩ := exchangesM (σ := s) hP hO.od (fun k hk => (hM.1.2.2.2 k hk).2.2.2.2.2) g.1 g.2.1 g.2.2
    refine ⟨_, s', if_pos g, ?_, hM.1.row (A' := chN A a b) (c := 67) (by decide) b2 rfl rfl rfl rfl rfl rfl (fun _ => rfl) (fun _ => rfl) (fun w => absurd rfl w) (fun k hk => b3 k hk), fun b' j w => b2.at (by simp; omega) j, fun b' hb' j hj => ?_⟩
    · rw [areTwoM hM hO g.1 g.2.1 g.2.2, Option.bind_some, if1, b1, Option.bind_some]
    · by_cases h67 : b' = 67
      · subst h67; exact exch_hi hM hO g.1 g.2.1 b1 hj
      · exact b2.at (by simpa using h67) j
  · left
    refine ⟨if_neg g, ?_⟩
    rw [twoOutM hM hO ha hb g, Option.bind_some, if0]
