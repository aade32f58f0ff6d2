-- putIn
def setDi (A : Nt) (g : Nat → Nat) : Nt := (A.1, nK A, nF A, nR A, nC A, g, nB A, nAl A, nOd A)
def flG (A : Nt) (p : Nat) : Nat := if nDi A p < nD A then nDi A p else 7
def pnN (A : Nt) (f : Nat) : Nat → Nt
  | 0 => A
  | n + 1 => adN (pnN A f n) 5 f
theorem pnN_set (A : Nt) (g : Nat → Nat) (f : Nat) : ∀ n, pnN (setDi A g) f n = setDi (pnN A f n) g
  | 0 => rfl
  | n + 1 => by
    show adN (pnN (setDi A g) f n) 5 f = _
    rw [pnN_set A g f n]
    rfl
theorem pn_D (A : Nt) (f : Nat) : ∀ n, nD (pnN A f n) = nD A + n
  | 0 => rfl
  | n + 1 => by
    show nD (pnN A f n) + 1 = _
    rw [pn_D A f n]; rfl
theorem pn_P (A : Nt) (f : Nat) : ∀ n, nP (pnN A f n) = nP A
  | 0 => rfl
  | n + 1 => pn_P A f n
theorem pn_Od (A : Nt) (f : Nat) : ∀ n, nOd (pnN A f n) = nOd A
  | 0 => rfl
  | n + 1 => pn_Od A f n
theorem pn_Di (A : Nt) (f : Nat) : ∀ n, nDi (pnN A f n) = nDi A
  | 0 => rfl
  | n + 1 => pn_Di A f n
theorem pn_Al (A : Nt) (f : Nat) : ∀ n, nAl (pnN A f n) = nAl A
  | 0 => rfl
  | n + 1 => pn_Al A f n
theorem pn_K (A : Nt) (f : Nat) : ∀ n i, i < n → nK (pnN A f n) (nD A + i) = 5
  | 0, i, h => absurd h (Nat.not_lt_zero _)
  | n + 1, i, h => by
    show fput (nK (pnN A f n)) (nD (pnN A f n)) 5 (nD A + i) = 5
    rw [pn_D]
    by_cases e : i = n
    · subst e; exact fput_eq _ _ _
    · rw [fput_ne _ (by omega)]; exact pn_K A f n i (by omega)
theorem OkN.pn {A : Nt} (h : OkN A) (hD : nD A ≤ 7) {f : Nat} (hf : f < 10) : ∀ {n}, n ≤ 7 → OkN (pnN A f n)
  | 0, _ => h
  | n + 1, hn => (OkN.pn h hD hf (n := n) (by omega)).adN (by rw [pn_D]; omega) (by decide) hf
theorem OkN.di {A : Nt} (h : OkN A) {g : Nat → Nat} (hg : ∀ p, p < nP A → g p < 8) : OkN (setDi A g) := ⟨h.1, h.2.1, h.2.2.1, fun q hq => ⟨(h.2.2.2.1 q hq).1, (h.2.2.2.1 q hq).2.1, hg q hq, (h.2.2.2.1 q hq).2.2.2⟩, h.2.2.2.2⟩
theorem flG_lt {A : Nt} (h : OkN A) {p : Nat} (hp : p < nP A) : flG A p < 8 := by
  have := (h.2.2.2.1 p hp).2.2.1
  unfold flG
  split <;> omega
def pnZ (A : Nt) (f n : Nat) : Pz := prA (nD A) (pnN A f n)
theorem pn_prA {A : Nt} (hD : nD A ≤ 7) (f n : Nat) : prA 7 (setDi (pnN A f n) (flG A)) = pnZ A f n := by
  have : costT 7 (setDi (pnN A f n) (flG A)) = costT (nD A) (pnN A f n) := by
    funext p d
    unfold costT
    have e1 : nDi (setDi (pnN A f n) (flG A)) p = flG A p := rfl
    have e2 : nDi (pnN A f n) p = nDi A p := by rw [pn_Di]
    have e3 : (flG A p = d ∧ d < 7) ↔ (nDi A p = d ∧ d < nD A) := by
      unfold flG
      split
      · exact ⟨fun h => ⟨h.1, by omega⟩, fun h => ⟨h.1, by omega⟩⟩
      · exact ⟨fun h => by omega, fun h => by omega⟩
    rw [e1, e2]
    have e4 : nK (setDi (pnN A f n) (flG A)) d = nK (pnN A f n) d := rfl
    have e5 : nF (setDi (pnN A f n) (flG A)) d = nF (pnN A f n) d := rfl
    have e6 : nR (setDi (pnN A f n) (flG A)) p = nR (pnN A f n) p := rfl
    rw [e4, e5, e6]
    by_cases g : nDi A p = d ∧ d < nD A
    · rw [if_pos (e3.mpr g), if_pos g]
    · rw [if_neg (fun c => g (e3.mp c)), if_neg g]
  unfold prA pnZ prA
  rw [this]
  rfl
def pnW (A : Nt) (f n : Nat) : Option Nat := mWo (pnZ A f n) (nOd A) 0 (nP A)
def pnA (A : Nt) (f n : Nat) : Nat := allO (pnZ A f n) (nOd A) 0
theorem mWo_none {Z : Pz} {od : Nat → Nat} {T0 : Nat} : ∀ {k : Nat}, (∀ j, j < k → mC Z od T0 j ≠ none) → mWo Z od T0 k = none
  | 0, _ => rfl
  | k + 1, h => by
    show wo1 (mWo Z od T0 k) (mC Z od T0 k) (od k) = none
    rw [mWo_none (k := k) (fun j hj => h j (by omega))]
    cases e : mC Z od T0 k with
    | none => exact absurd e (h k (by omega))
    | some d => rfl
/-- fewer than seven have taken: one of seven is left -/
theorem pigeon {k D : Nat} {c : Nat → Option Nat} (hk : k < 7) : ∃ i, i < 7 ∧ ∀ j, j < k → c j ≠ some (D + i) := by
  refine Classical.byContradiction fun hx => ?_
  have h1 : ∀ i, i < 7 → ∃ j, j < k ∧ c j = some (D + i) := fun i hi => by
    refine Classical.byContradiction fun hy => hx ⟨i, hi, fun j hj e => hy ⟨j, hj, e⟩⟩
  let g : Nat → Nat := fun i => if h : i < 7 then Classical.choose (h1 i h) else 0
  have hg : ∀ i (h : i < 7), g i < k ∧ c (g i) = some (D + i) := fun i h => by
    have e : g i = Classical.choose (h1 i h) := dif_pos h
    rw [e]; exact Classical.choose_spec (h1 i h)
  obtain ⟨i, hi, e⟩ := fb_onto (n := 7) (f := g) (fun i hi => by have := (hg i hi).1; omega) (fun i j hij hj e => by
    have a := (hg i (by omega)).2
    have b := (hg j hj).2
    rw [e, b] at a
    have := Option.some.inj a
    omega) (y := 6) (by decide)
  have := (hg i hi).1
  omega
theorem pnW_7 {A : Nt} (hO : OkN A) (hA : AlK A) (f : Nat) : pnW A f 7 = none := by
  have hP := hO.P
  refine mWo_none (fun j hj e => ?_)
  have h0 := (bestN_spec (m := fun d => !((mT (pnZ A f 7) (nOd A) 0 j).testBit d) && zM (pnZ A f 7) (nOd A j) d) (c := zC (pnZ A f 7) (nOd A j)) (k := zD (pnZ A f 7))).2 e
  obtain ⟨i, hi, hfree⟩ := pigeon (k := j) (D := nD A) (c := mC (pnZ A f 7) (nOd A) 0) (by omega)
  have hz : zD (pnZ A f 7) = nD A + 7 := pn_D A f 7
  have h1 := h0 (nD A + i) (by omega)
  have hp := hO.od.1 j hj
  have hm : zM (pnZ A f 7) (nOd A j) (nD A + i) = true := by
    show mayA (pnN A f 7) (nOd A j) (nD A + i) = true
    unfold mayA
    rw [pn_Al, pn_K A f 7 i hi, Nat.testBit_lt_two_pow (Nat.lt_of_lt_of_le (hA _ hp) (Nat.pow_le_pow_right (by decide) (Nat.le_add_right _ _)))]
    rfl
  have ht : (mT (pnZ A f 7) (nOd A) 0 j).testBit (nD A + i) = false := by
    rw [mT_bit, Nat.zero_testBit, Bool.false_or, decide_eq_false_iff_not]
    rintro ⟨l, hl, el⟩
    exact hfree l hl el
  rw [hm, ht] at h1
  cases h1
theorem putInC {σ s0 : St} {A : Nt} (hN : NowI σ A) {f : Nat} {b : Int32} (hf : f < 10) (h0 : Qf (nD A) σ s0) (hA0 : AbsC s0 19 (pnN (setDi A (flG A)) f 0)) (hM0 : MoD s0 43 (pnZ A f 0) (nOd A) 0) : ∃ s n, F_AC_putIn_66 (nI f) b (nI (pnA A f 0)) 0 s0 = some (if b = 0 then nI n else nI (pnA A f n), s) ∧ Qf (nD A) σ s ∧ n ≤ 7 ∧ pnW A f n = none ∧ ∀ j, j < n → pnW A f j ≠ none := by
  have hO := hN.1
  have hP := hO.P
  have hD := hN.2.1.1
  have hW7 := pnW_7 hO hN.2.1.2 f
  have hex : ∀ n s v3, v3 = nI (pnA A f n) → F_AC_putIn_106 b v3 (nI n) s = some (if b = 0 then nI n else nI (pnA A f n), s) := fun n s v3 e => by
    unfold F_AC_putIn_106
    rw [e]
    split <;> rfl
  have := fix_inv (f := G_AC_putIn_66 (nI f) b) (n := 7) (s0 := (nI (pnA A f 0), nI 0, s0)) (fun n q => q.1 = nI (pnA A f n) ∧ q.2.1 = nI n ∧ Qf (nD A) σ q.2.2 ∧ AbsC q.2.2 19 (pnN (setDi A (flG A)) f n) ∧ rd q.2.2 43 5 = bI (pnW A f n) ∧ ∀ j, j < n → pnW A f j ≠ none) (fun r => ∃ s n, r = some (if b = 0 then nI n else nI (pnA A f n), s) ∧ Qf (nD A) σ s ∧ n ≤ 7 ∧ pnW A f n = none ∧ ∀ j, j < n → pnW A f j ≠ none) (by rw [fuel_val]; omega) ⟨rfl, rfl, h0, hA0, hM0.2.2.2.1, fun j hj => absurd hj (Nat.not_lt_zero _)⟩ (by
    rintro n ⟨w1, w2, s⟩ hn ⟨e1, e2, hq, hA, hw, hno⟩
    simp only at e1 e2 hq hA hw
    subst e1; subst e2
    cases e : pnW A f n with
    | none =>
      right
      refine ⟨_, ⟨s, n, rfl, hq, by omega, e, hno⟩, fun K => ?_⟩
      show H_AC_putIn_66 (nI f) b K (nI (pnA A f n)) (nI n) s = _
      unfold H_AC_putIn_66
      rw [hw, e, if_pos (show bI none = (-9 : Int32) from rfl), hex n s _ rfl]
    | some q =>
      left
      have hq7 : q < 7 := by
        have := mWo_in (Z := pnZ A f n) (od := nOd A) (T0 := 0) (by show OdOK (nP (pnN A f n)) _; rw [pn_P]; exact hO.od) (k := nP A) (by show nP A ≤ nP (pnN A f n); rw [pn_P]; exact Nat.le_refl _) q e
        have h2 : zP (pnZ A f n) = nP A := pn_P A f n
        omega
      obtain ⟨t1, a1, a2, a3⟩ := putDeedC (n := 19) isNI_19 hA (by rw [pnN_set]; show nD (pnN A f n) < 14; rw [pn_D]; omega) 5 f
      have hOB : OkN (pnN (setDi A (flG A)) f (n + 1)) := (hO.di (fun p hp => flG_lt hO hp)).pn hD hf (by omega)
      obtain ⟨t, b1, b2, b3, b4, b5⟩ := triedN (D := nD A) (show AbsC t1 19 (pnN (setDi A (flG A)) f (n + 1)) from a3) hOB
      have hZ : prA 7 (pnN (setDi A (flG A)) f (n + 1)) = pnZ A f (n + 1) := by rw [pnN_set]; exact pn_prA hD f (n + 1)
      have hod : nOd (pnN (setDi A (flG A)) f (n + 1)) = nOd A := by rw [pn_Od]; rfl
      rw [hZ, hod] at b1 b4
      have hW : mWo (pnZ A f (n + 1)) (nOd A) 0 (zP (pnZ A f (n + 1))) = pnW A f (n + 1) := by
        rw [show zP (pnZ A f (n + 1)) = nP A from pn_P A f (n + 1)]; rfl
      refine ⟨(nI (pnA A f (n + 1)), nI (n + 1), t), ⟨rfl, rfl, (hq.tr (Qf.of a2 (by decide))).tr b2, b3, b4.2.2.2.1.trans (by rw [hW]), fun j hj => ?_⟩, fun K => ?_⟩
      · by_cases ej : j = n
        · subst ej; rw [e]; exact fun c => by cases c
        · exact hno j (by omega)
      · show H_AC_putIn_66 (nI f) b K (nI (pnA A f n)) (nI n) s = _
        unfold H_AC_putIn_66
        rw [hw, e, if_neg (show ¬ bI (some q) = (-9 : Int32) from n9_ne (by omega)), if_neg (show ¬ (7 : Int32) ≤ nI n from nI_ge (b := 7) hn (by decide)), show F_NI_putDeed 19 5 (nI f) s = _ from a1, Option.bind_some]
        simp only
        rw [b1, Option.bind_some, nI_1]
        rfl) (by
    rintro ⟨w1, w2, s⟩ ⟨e1, e2, hq, hA, hw, hno⟩
    simp only at e1 e2 hq hA hw
    refine ⟨_, ⟨s, 7, rfl, hq, Nat.le_refl _, hW7, hno⟩, fun K => ?_⟩
    show H_AC_putIn_66 (nI f) b K w1 w2 s = _
    unfold H_AC_putIn_66
    rw [hw, hW7, if_pos (show bI none = (-9 : Int32) from rfl), e2, hex 7 s _ e1])
  obtain ⟨s, n, h⟩ := this
  exact ⟨s, n, h⟩
/-- the model's cells while deeds are put in -/
def PiM (σ : St) (A : Nt) (f n : Nat) (s : St) : Prop :=
  MdN s (pnN A f n) (nD A) ∧ rd s 58 26 = nI 0 ∧ (∀ k, k < nP A → rd s 74 k = nI (nOd A k)) ∧ (∀ p, p < nP A → rd s 73 p = bI (tkO (pnZ A f n) (nOd A) 0 p)) ∧ ∀ b j, ¬ (b = 58 ∧ (j = 9 ∨ j = 23) ∨ 60 ≤ b ∧ b ≤ 61 ∧ nD A ≤ j ∨ b = 73 ∨ b = 74) → rd s b j = rd σ b j
theorem piW {σ s : St} {A : Nt} {f n : Nat} (hO : OkN A) (hOn : OkN (pnN A f n)) (h : PiM σ A f n s) : F_MD_firstWithout s = some (bI (pnW A f n), s) := by
  have hP : nP (pnN A f n) = nP A := pn_P A f n
  have := firstWithoutM (od := nOd A) (T0 := 0) h.1 hOn (by rw [hP]; exact hO.od) (by rw [hP]; exact h.2.2.1) (by rw [hP]; exact h.2.2.2.1)
  rw [hP] at this
  exact this
theorem putInM {σ : St} {A : Nt} (hN : NowI σ A) {f : Nat} {b : Int32} (hf : f < 10) : ∃ s n, F_MD_putIn_24 (nI f) b 0 σ = some (if b = 0 then nI n else nI (pnA A f n), s) ∧ Qf (nD A) σ s ∧ n ≤ 7 ∧ pnW A f n = none ∧ ∀ j, j < n → pnW A f j ≠ none := by
  obtain ⟨hO, hDD, hA, hM, hg⟩ := id hN
  have hP := hO.P
  have hD := hDD.1
  have hW7 := pnW_7 hO hDD.2 f
  have e9 : rd σ 58 9 = nI (nD A) := hM.1.1
  have hM0 : MdN (wr σ 58 23 (nI (nD A))) A (nD A) := ⟨hM.1.un (fun b j q => by rw [rd_wr, if_neg (by omega)]), rd_wr_same _ _ _ _, by omega⟩
  obtain ⟨s1, a1, a2, a3, a4⟩ := monthsNowM (T0 := 0) hM0 hO (by rw [rd_wr, if_neg (by decide)]; exact hg) (by decide)
  have h0 : PiM σ A f 0 s1 := ⟨hM0.fr a2 (by decide), (a2.at (by decide) 26).trans (by rw [rd_wr, if_neg (by decide)]; exact hg), a3, a4, fun b j q => by rw [a2.at (by simp; omega) j, rd_wr, if_neg (by omega)]⟩
  have hend : ∀ n s v6, n ≤ 7 → PiM σ A f n s → pnW A f n = none → v6 = nI (pnA A f n) → ∃ s', F_MD_putIn_87 b (nI (nD A)) (nI n) v6 s = some (if b = 0 then nI n else nI (pnA A f n), s') ∧ Qf (nD A) σ s' := fun n s v6 hn hs hw e6 => by
    refine ⟨wr (wr s 58 9 (nI (nD A))) 58 23 7, ?_, fun b j q => ?_⟩
    · unfold F_MD_putIn_87 F_MD_putIn_99
      rw [piW hO (hO.pn hD hf hn) hs, Option.bind_some, hw, if_neg (by decide : ¬ (0 : Int32) ≤ bI none), Option.bind_some, Option.bind_some, if_neg (by decide), e6]
      split <;> rfl
    · unfold Qd at q
      rw [rd_wr, rd_wr]
      by_cases c : b = 58 ∧ j = 23
      · rw [if_pos c, c.1, c.2]; exact hM.2.1.symm
      · rw [if_neg c]
        by_cases c2 : b = 58 ∧ j = 9
        · rw [if_pos c2, c2.1, c2.2]; exact e9.symm
        · rw [if_neg c2]; exact hs.2.2.2.2 b j (by omega)
  have := fix_inv (f := G_MD_putIn_55 (nI f) b (nI (nD A))) (n := 7) (s0 := (nI 0, nI (pnA A f 0), s1)) (fun n q => q.1 = nI n ∧ q.2.1 = nI (pnA A f n) ∧ PiM σ A f n q.2.2 ∧ ∀ j, j < n → pnW A f j ≠ none) (fun r => ∃ s n, r = some (if b = 0 then nI n else nI (pnA A f n), s) ∧ Qf (nD A) σ s ∧ n ≤ 7 ∧ pnW A f n = none ∧ ∀ j, j < n → pnW A f j ≠ none) (by rw [fuel_val]; omega) ⟨rfl, rfl, h0, fun j hj => absurd hj (Nat.not_lt_zero _)⟩ (by
    rintro n ⟨w1, w2, s⟩ hn ⟨e1, e2, hs, hno⟩
    simp only at e1 e2 hs
    subst e1; subst e2
    have hOn := hO.pn hD hf (show n ≤ 7 by omega)
    have hw := piW hO hOn hs
    cases e : pnW A f n with
    | none =>
      right
      obtain ⟨s', h1, h2⟩ := hend n s _ (by omega) hs e rfl
      refine ⟨_, ⟨s', n, rfl, h2, by omega, e, hno⟩, fun K => ?_⟩
      show H_MD_putIn_55 (nI f) b (nI (nD A)) K (nI n) (nI (pnA A f n)) s = _
      unfold H_MD_putIn_55
      rw [if_neg (show ¬ (7 : Int32) ≤ nI n from nI_ge (b := 7) hn (by decide)), hw, Option.bind_some, e, if_pos (show bI none < 0 from n9_neg), h1]
    | some q =>
      left
      have hq7 : q < 7 := by
        have := mWo_in (Z := pnZ A f n) (od := nOd A) (T0 := 0) (by show OdOK (nP (pnN A f n)) _; rw [pn_P]; exact hO.od) (k := nP A) (by show nP A ≤ nP (pnN A f n); rw [pn_P]; exact Nat.le_refl _) q e
        have h2 : zP (pnZ A f n) = nP A := pn_P A f n
        omega
      have hDn : nD (pnN A f n) = nD A + n := pn_D A f n
      obtain ⟨t1, b1, b2, b3, b4⟩ := addsDeedM (σ := s) hs.1.1 (by omega) 5 f
      rw [hDn] at b4
      have hM1 : MdN t1 (pnN A f (n + 1)) (nD A) := ⟨b3, (b4 58 23 (by omega)).trans hs.1.2.1, by omega⟩
      have hOn1 : OkN (pnN A f (n + 1)) := hO.pn hD hf (by omega)
      obtain ⟨t, c1, c2, c3, c4⟩ := monthsNowM (T0 := 0) hM1 hOn1 ((b4 58 26 (by omega)).trans hs.2.1) (by decide)
      rw [pn_P, pn_Od] at c3 c4
      rw [pn_Od] at c1
      refine ⟨(nI (n + 1), nI (pnA A f (n + 1)), t), ⟨rfl, rfl, ⟨hM1.fr c2 (by decide), (c2.at (by decide) 26).trans ((b4 58 26 (by omega)).trans hs.2.1), c3, c4, fun b j q => ?_⟩, fun j hj => ?_⟩, fun K => ?_⟩
      · rw [c2.at (by simp; omega) j, b4 b j (by omega)]; exact hs.2.2.2.2 b j q
      · by_cases ej : j = n
        · subst ej; rw [e]; exact fun c => by cases c
        · exact hno j (by omega)
      · show H_MD_putIn_55 (nI f) b (nI (nD A)) K (nI n) (nI (pnA A f n)) s = _
        unfold H_MD_putIn_55
        rw [if_neg (show ¬ (7 : Int32) ≤ nI n from nI_ge (b := 7) hn (by decide)), hw, Option.bind_some, e, if_neg (show ¬ bI (some q) < 0 from nI_pos (by omega)), show F_MD_addsDeed 5 (nI f) s = _ from b1, Option.bind_some, c1, Option.bind_some, nI_1]
        rfl) (by
    rintro ⟨w1, w2, s⟩ ⟨e1, e2, hs, hno⟩
    simp only at e1 e2 hs
    obtain ⟨s', h1, h2⟩ := hend 7 s w2 (Nat.le_refl _) hs hW7 e2
    refine ⟨_, ⟨s', 7, rfl, h2, Nat.le_refl _, hW7, hno⟩, fun K => ?_⟩
    show H_MD_putIn_55 (nI f) b (nI (nD A)) K w1 w2 s = _
    unfold H_MD_putIn_55
    rw [e1, if_pos (show (7 : Int32) ≤ nI 7 from Int32.le_refl _), h1])
  obtain ⟨s, n, h1, h2⟩ := this
  refine ⟨s, n, ?_, h2⟩
  unfold F_MD_putIn_24
  rw [if_pos rfl, Option.bind_some, e9, Option.bind_some, a1, Option.bind_some]
  exact h1
theorem forgetC {σ : St} {A : Nt} (hA : AbsC σ 19 A) (hO : OkN A) : ∃ s, F_NI_forgetLaterDids 19 σ = some s ∧ Fr [24] σ s ∧ AbsC s 19 (setDi A (flG A)) := by
  have hP := hO.P
  have hD := hO.D
  obtain ⟨⟨w, s⟩, ⟨hw, hf, h1, h2⟩, hr⟩ := fix_rel (f := G_NI_forgetLaterDids_2 19) (n := nP A) (s0 := (nI 0, σ)) (fun k q => q.1 = nI k ∧ Fr [24] σ q.2 ∧ (∀ p, p < k → rd q.2 24 p = nI (flG A p)) ∧ ∀ p, k ≤ p → rd q.2 24 p = rd σ 24 p) (by rw [fuel_val]; omega) ⟨rfl, Fr.rf, fun p hp => absurd hp (Nat.not_lt_zero _), fun _ _ => rfl⟩ (by
    rintro k ⟨w, s⟩ hk ⟨hw, hf, h1, h2⟩
    simp only at hw hf h1 h2
    subst hw
    have r5 : rd s 24 k = nI (nDi A k) := (h2 k (Nat.le_refl _)).trans (hA.2.2.2 k hk).2.2.1
    have hdi := (hO.2.2.2.1 k hk).2.2.1
    have e1 : rd s 19 1 = nI (nP A) := (hf.at (by decide) 1).trans hA.2.1
    have e0 : rd s 19 0 = nI (nD A) := (hf.at (by decide) 0).trans hA.1
    by_cases g : nDi A k < nD A
    · have ef : flG A k = nDi A k := if_pos g
      refine ⟨(nI (k + 1), s), ⟨rfl, hf, fun p hp => ?_, fun p hp => h2 p (by omega)⟩, fun K => ?_⟩
      · by_cases e : p = k
        · subst e; rw [ef]; exact r5
        · exact h1 p (by omega)
      · show H_NI_forgetLaterDids_2 19 K (nI k) s = _
        unfold H_NI_forgetLaterDids_2 F_NI_forgetLaterDids_35
        rw [e1, if_neg (nI_ge hk (by omega)), show F_AC_at (19 + 5) (nI k) s = some (rd s 24 k, s) from atC al_24 (by omega), Option.bind_some]
        simp only
        unfold F_NI_hasDeed
        rw [r5, e0, if_neg (nI_pos (by omega)), if_neg (nI_ge g (by omega)), Option.bind_some]
        simp only [one0, if_false]
        rw [nI_1]
    · have ef : flG A k = 7 := if_neg g
      refine ⟨(nI (k + 1), wr s 24 k 7), ⟨rfl, hf.two (Fr.wr (by simp)), fun p hp => ?_, fun p hp => ?_⟩, fun K => ?_⟩
      · by_cases e : p = k
        · subst e; rw [ef, rd_wr_same]; rfl
        · rw [rd_wr_slot _ _ _ _ e]; exact h1 p (by omega)
      · rw [rd_wr_slot _ _ _ _ (by omega)]; exact h2 p (by omega)
      · show H_NI_forgetLaterDids_2 19 K (nI k) s = _
        unfold H_NI_forgetLaterDids_2 F_NI_forgetLaterDids_35
        rw [e1, if_neg (nI_ge hk (by omega)), show F_AC_at (19 + 5) (nI k) s = some (rd s 24 k, s) from atC al_24 (by omega), Option.bind_some]
        simp only
        unfold F_NI_hasDeed F_NI_hasDeed_16
        rw [r5, e0, if_neg (nI_pos (by omega)), if_pos (nI_le (by omega) (by omega)), Option.bind_some]
        simp only [if_true]
        rw [show F_AC_put (19 + 5) (nI k) 7 s = some (wr s 24 k 7) from putC al_24 (by omega), Option.bind_some, nI_1])
  simp only at hw hf h1
  refine ⟨s, ?_, hf, ?_⟩
  · unfold F_NI_forgetLaterDids F_NI_forgetLaterDids_2
    refine hr _ (fun K => ?_)
    show H_NI_forgetLaterDids_2 19 K w s = _
    unfold H_NI_forgetLaterDids_2
    rw [hw, hf.at (by decide) 1, show rd σ 19 1 = nI (nP A) from hA.2.1, if_pos (Int32.le_refl _)]
  · have e : ∀ k j, k ≠ 5 → rd s (19 + k) j = rd σ (19 + k) j := fun k j hk => hf.at (by simp; omega) j
    refine ⟨(e 0 0 (by decide)).trans hA.1, (e 0 1 (by decide)).trans hA.2.1, fun d hd => ⟨(e 1 d (by decide)).trans (hA.2.2.1 d hd).1, (e 2 d (by decide)).trans (hA.2.2.1 d hd).2⟩, fun p hp => ?_⟩
    obtain ⟨q3, q4, q5, q6, q7, q8⟩ := hA.2.2.2 p hp
    exact ⟨(e 3 p (by decide)).trans q3, (e 4 p (by decide)).trans q4, h1 p hp, (e 6 p (by decide)).trans q6, (e 7 p (by decide)).trans q7, (e 8 p (by decide)).trans q8⟩
theorem op_putIn (a b : Int32) : Ask (F_AC_putIn a b) (F_MD_putIn a b) := by
  intro σ h
  obtain ⟨A, hall⟩ := id h
  have hN := hall.1
  obtain ⟨hO, hD, hA, hM, hg⟩ := id hN
  rcases pk_ix a (n := 10) (by decide) with ha | ha | ⟨f, hf, rfl⟩
  · refine Ask.no h (k := 4) (x := -4) (by decide) (by decide) ?_ (fun τ hτ => ?_)
    · unfold F_AC_putIn
      rw [if_neg (npos ha), bid]
    · unfold F_MD_putIn F_MD_putIn_24
      rw [show (9 : Int32) = nI 9 from rfl, bound_lo ha, Option.bind_some]
      simp only
      rw [if_neg (by decide), if_neg (by decide), bid]
  · refine Ask.no h (k := 6) (x := -6) (by decide) (by decide) ?_ (fun τ hτ => ?_)
    · unfold F_AC_putIn
      rw [if_pos (pos_nI (by decide) ha), if_neg (show ¬ a ≤ (9 : Int32) from Int32.not_le.mpr (lt_nI (n := 9) (by decide) ha)), bid]
    · unfold F_MD_putIn F_MD_putIn_24
      rw [show (9 : Int32) = nI 9 from rfl, bound_hi (by decide) ha, Option.bind_some]
      simp only
      rw [if_neg (by decide), if_neg (by decide), bid]
  have f0 : 0 ≤ nI f := nI_pos' (by omega)
  have f9 : nI f ≤ (9 : Int32) := nI_le (b := 9) (by omega) (by decide)
  rcases isIn_01 (σ := σ) (b := b) with ⟨hb, _⟩ | ⟨hb, _⟩
  · obtain ⟨s1, a1, hN1, a3, a4⟩ := trialC hN
    obtain ⟨s2, b1, b2, b3⟩ := forgetC a4 hO
    have hOF : OkN (setDi A (flG A)) := hO.di (fun p hp => flG_lt hO hp)
    obtain ⟨s3, c1, c2, c3, c4, c5⟩ := triedN (D := nD A) b3 hOF
    have hZ : prA 7 (setDi A (flG A)) = pnZ A f 0 := pn_prA hD.1 f 0
    rw [hZ] at c1 c4
    have hq3 : Qf (nD A) σ s3 := (a3.tr (Qf.of b2 (by decide))).tr c2
    obtain ⟨s4, n, d1, d2, d3, d4, d5⟩ := putInC (b := b) hN hf hq3 c3 c4
    have hN4 := hN.q d2
    obtain ⟨s5, m, e1, e2, e3, e4, e5⟩ := putInM (b := b) hN4 hf
    have hnm : m = n := by
      rcases Nat.lt_trichotomy m n with q | q | q
      · exact absurd e4 (d5 m q)
      · exact q
      · exact absurd d4 (e5 n q)
    subst hnm
    refine ⟨_, s4, s5, (?_ : F_AC_putIn (nI f) b σ = some (if b = 0 then nI m else nI (pnA A f m), s4)), ?_, INV.q hall (d2.tr e2)⟩
    · unfold F_AC_putIn
      rw [if_pos f0, if_pos f9, in_01 hb, a1, Option.bind_some, b1, Option.bind_some, c1, Option.bind_some]
      exact d1
    · have hin : F_MD_isIn b 0 1 s4 = some (1, s4) := by
        rcases isIn_01 (σ := s4) (b := b) with ⟨_, e⟩ | ⟨hb2, _⟩
        · exact e
        · exfalso; rcases hb with rfl | rfl <;> revert hb2 <;> decide
      unfold F_MD_putIn
      rw [show (9 : Int32) = nI 9 from rfl, bound_in (by omega) (by decide), Option.bind_some]
      simp only [if_true]
      rw [hin, Option.bind_some]
      simp only [one0, if_false]
      exact e1
  · refine Ask.no h (k := 2) (x := -2) (by decide) (by decide) ?_ (fun τ hτ => ?_)
    · unfold F_AC_putIn F_AC_putIn_33
      rw [if_pos f0, if_pos f9, out_01 hb, bid]
    · unfold F_MD_putIn F_MD_putIn_24
      rw [show (9 : Int32) = nI 9 from rfl, bound_in (by omega) (by decide), Option.bind_some]
      simp only [if_true]
      rw [show (1 : Int32) = nI 1 from rfl, isIn_out (m := 1) (by decide) hb, Option.bind_some]
      simp only [if_true]
      rw [if_neg (by decide), bid]
