-- rest
theorem takenBitsMd {σ : St} {A : Nt} {t : Nat} (h : MdN σ A t) (hO : OkN A) {tk : Nat → Option Nat} (htk : ∀ p, p < nP A → rd σ 73 p = bI (tk p)) (hin : ∀ p d, p < nP A → tk p = some d → d < 14) : F_MD_takenBits σ = some (nI (tB 0 tk (nP A)), σ) := by
  have hP := hO.P
  have e10 : rd σ 58 10 = nI (nP A) := h.1.2.1
  unfold F_MD_takenBits F_MD_takenBits_4
  refine fix_up (n := nP A) (fun k => (nI (tB 0 tk k), nI k, σ)) (by rw [fuel_val]; omega) (fun K k hk => ?_) (fun K => ?_)
  · show H_MD_takenBits_4 K (nI (tB 0 tk k)) (nI k) σ = _
    unfold H_MD_takenBits_4 F_MD_takenBits_34
    rw [e10, if_neg (nI_ge hk (by omega)), ldk al_73 (by omega), Option.bind_some, htk k hk]
    have eT : tB 0 tk (k + 1) = addT (tB 0 tk k) (tk k) := rfl
    cases e : tk k with
    | none => rw [if_neg (by decide : ¬ (0 : Int32) ≤ bI none), Option.bind_some, eT, e, addT_none, Int32.or_zero, nI_1]
    | some d =>
      have hd := hin k d hk e
      rw [if_pos (show 0 ≤ bI (some d) from nI_pos' (by omega)), Option.bind_some, shl_b rfl (by omega), Option.bind_some, fa_or, eT, e, nI_1]
      rfl
  · show H_MD_takenBits_4 K _ (nI (nP A)) σ = _
    unfold H_MD_takenBits_4
    rw [e10, if_pos (Int32.le_refl _)]
def tmN (A : Nt) (tk : Nat → Option Nat) (p : Nat) : Nat := match tk p with | none => 0 | some d => costT 7 A p d
theorem tmN_le {A : Nt} (hO : OkN A) {tk : Nat → Option Nat} (hin : ∀ p d, p < nP A → tk p = some d → d < nD A) {p : Nat} (hp : p < nP A) : tmN A tk p ≤ 78 := by
  unfold tmN
  cases e : tk p with
  | none => exact Nat.zero_le _
  | some d => exact costT_le hO 7 hp (hin p d hp e)
theorem takenMonthsM {σ : St} {A : Nt} (h : MdN σ A 7) (hO : OkN A) {tk : Nat → Option Nat} (htk : ∀ p, p < nP A → rd σ 73 p = bI (tk p)) (hin : ∀ p d, p < nP A → tk p = some d → d < nD A) : F_MD_takenMonths σ = some (nI (sumN (tmN A tk) (nP A)), σ) := by
  have hP := hO.P
  have hD := hO.D
  have e10 : rd σ 58 10 = nI (nP A) := h.1.2.1
  unfold F_MD_takenMonths F_MD_takenMonths_4
  refine fix_up (n := nP A) (fun k => (nI (sumN (tmN A tk) k), nI k, σ)) (by rw [fuel_val]; omega) (fun K k hk => ?_) (fun K => ?_)
  · show H_MD_takenMonths_4 K (nI (sumN (tmN A tk) k)) (nI k) σ = _
    unfold H_MD_takenMonths_4 F_MD_takenMonths_31
    have es : sumN (tmN A tk) (k + 1) = sumN (tmN A tk) k + tmN A tk k := rfl
    rw [e10, if_neg (nI_ge hk (by omega)), ldk al_73 (by omega), Option.bind_some, htk k hk, hasMonthsM h hO hk (htk k hk) (fun d e => hin k d hk e), Option.bind_some, es, nI_1]
    unfold tmN
    cases e : tk k with
    | none => rw [if_neg (by decide : ¬ (0 : Int32) ≤ bI none), Option.bind_some, Int32.add_zero]; rfl
    | some d =>
      have hd := hin k d hk e
      rw [if_pos (show 0 ≤ bI (some d) from nI_pos' (by omega))]
      simp only
      rw [Option.bind_some, nI_add]
      rfl
  · show H_MD_takenMonths_4 K _ (nI (nP A)) σ = _
    unfold H_MD_takenMonths_4
    rw [e10, if_pos (Int32.le_refl _)]
theorem monthsTakenC {σ : St} {A : Nt} (hO : OkN A) {tk : Nat → Option Nat} (h2 : rd σ 43 2 = nI (nP A)) (htk : ∀ p, p < nP A → rd σ 44 p = bI (tk p) ∧ rd σ 45 p = nI (moZ (prA 7 A) p (tk p))) (hin : ∀ p d, p < nP A → tk p = some d → d < nD A) : F_MO_monthsTaken 43 σ = some (nI (sumN (tmN A tk) (nP A)), σ) := by
  have hP := hO.P
  have hD := hO.D
  unfold F_MO_monthsTaken F_MO_monthsTaken_4
  refine fix_up (n := nP A) (fun k => (nI (sumN (tmN A tk) k), nI k, σ)) (by rw [fuel_val]; omega) (fun K k hk => ?_) (fun K => ?_)
  · show H_MO_monthsTaken_4 43 K (nI (sumN (tmN A tk) k)) (nI k) σ = _
    unfold H_MO_monthsTaken_4 F_MO_monthsTaken_36
    have es : sumN (tmN A tk) (k + 1) = sumN (tmN A tk) k + tmN A tk k := rfl
    rw [h2, if_neg (nI_ge hk (by omega)), show F_AC_at (43 + 1) (nI k) σ = some (rd σ 44 k, σ) from atC al_44 (by omega), Option.bind_some]
    simp only
    rw [(htk k hk).1, show F_AC_at (43 + 2) (nI k) σ = some (rd σ 45 k, σ) from atC al_45 (by omega), Option.bind_some, es, nI_1]
    simp only
    rw [(htk k hk).2]
    unfold tmN
    cases e : tk k with
    | none => rw [if_pos (show bI none = (-9 : Int32) from rfl)]; rfl
    | some d =>
      have hd := hin k d hk e
      rw [if_neg (show ¬ bI (some d) = (-9 : Int32) from n9_ne (by omega)), Option.bind_some, nI_add]
      rfl
  · show H_MO_monthsTaken_4 43 K _ (nI (nP A)) σ = _
    unfold H_MO_monthsTaken_4
    rw [h2, if_pos (Int32.le_refl _)]
def rsT (A : Nt) : Nat → Nat
  | 0 => 0
  | i + 1 => mT (prA 7 A) (nOd A) (rsT A i) (nP A)
def rsK (A : Nt) (i : Nat) : Nat → Option Nat := tkO (prA 7 A) (nOd A) (rsT A i)
def rsM (A : Nt) (i : Nat) : Nat := sumN (tmN A (rsK A i)) (nP A)
theorem rsT_s (A : Nt) (i : Nat) : rsT A (i + 1) = mT (prA 7 A) (nOd A) (rsT A i) (nP A) := rfl
theorem rsT_lt {A : Nt} (hO : OkN A) : ∀ i, rsT A i < 2 ^ 14
  | 0 => Nat.two_pow_pos _
  | i + 1 => mT_lt (prA_ok hO 7) (rsT_lt hO i) _
theorem mC_free {Z : Pz} {od : Nat → Nat} {T0 j d : Nat} (h : mC Z od T0 j = some d) : d < zD Z ∧ T0.testBit d = false := by
  have h1 := mk1_in h
  refine ⟨h1.1, ?_⟩
  have h2 := h1.2.1
  rw [mT_bit, Bool.or_eq_false_iff] at h2
  exact h2.1
theorem rsT_new {A : Nt} {i : Nat} (h : rsT A (i + 1) ≠ rsT A i) : ∃ d, d < nD A ∧ (rsT A i).testBit d = false ∧ (rsT A (i + 1)).testBit d = true := by
  refine Classical.byContradiction fun hx => h (Nat.eq_of_testBit_eq (fun d => ?_))
  rw [rsT_s, mT_bit]
  by_cases q : ∃ j, j < nP A ∧ mC (prA 7 A) (nOd A) (rsT A i) j = some d
  · obtain ⟨j, hj, e⟩ := q
    obtain ⟨h1, h2⟩ := mC_free e
    refine absurd ⟨d, h1, h2, ?_⟩ hx
    rw [rsT_s, mT_bit, decide_eq_true (⟨j, hj, e⟩ : ∃ j, j < nP A ∧ mC (prA 7 A) (nOd A) (rsT A i) j = some d), Bool.or_true]
  · rw [decide_eq_false q, Bool.or_false]
theorem rsT_mono {A : Nt} {i d : Nat} (h : (rsT A i).testBit d = true) : (rsT A (i + 1)).testBit d = true := by
  rw [rsT_s, mT_bit, h, Bool.true_or]
theorem sumN_mono {f g : Nat → Nat} : ∀ {n : Nat}, (∀ k, k < n → f k ≤ g k) → sumN f n ≤ sumN g n
  | 0, _ => Nat.le_refl _
  | n + 1, h => by
    have := sumN_mono (n := n) (fun k hk => h k (by omega))
    have := h n (by omega)
    rw [sumN, sumN]; omega
theorem sumN_strict {f g : Nat → Nat} {i : Nat} : ∀ {n : Nat}, i < n → (∀ k, k < n → f k ≤ g k) → f i < g i → sumN f n < sumN g n
  | 0, h, _, _ => absurd h (Nat.not_lt_zero _)
  | n + 1, hi, h, hlt => by
    rw [sumN, sumN]
    have h1 := h n (by omega)
    by_cases e : i = n
    · subst e
      have := sumN_mono (n := i) (fun k hk => h k (by omega))
      omega
    · have := sumN_strict (n := n) (by omega) (fun k hk => h k (by omega)) hlt
      omega
def rsC (A : Nt) (i : Nat) : Nat := sumN (fun d => ((rsT A i).testBit d).toNat) (nD A)
theorem rsC_le (A : Nt) (i : Nat) : rsC A i ≤ nD A := by
  have := sumN_le (n := nD A) (f := fun d => ((rsT A i).testBit d).toNat) (b := 1) (fun k _ => Bool.toNat_le _)
  rw [Nat.mul_one] at this
  exact this
theorem rsC_up {A : Nt} {i : Nat} (h : rsT A (i + 1) ≠ rsT A i) : rsC A i < rsC A (i + 1) := by
  obtain ⟨d, h1, h2, h3⟩ := rsT_new h
  refine sumN_strict h1 (fun k _ => ?_) ?_
  · cases e : (rsT A i).testBit k with
    | false => exact Nat.zero_le _
    | true => rw [rsT_mono e]; exact Nat.le_refl _
  · show ((rsT A i).testBit d).toNat < ((rsT A (i + 1)).testBit d).toNat
    rw [h2, h3]; decide
theorem rs_end {A : Nt} (hD : nD A ≤ 7) : ∃ N, N < 8 ∧ rsT A (N + 1) = rsT A N ∧ ∀ j, j < N → rsT A (j + 1) ≠ rsT A j := by
  have h0 : ∃ i, i < 8 ∧ rsT A (i + 1) = rsT A i := by
    refine Classical.byContradiction fun hx => ?_
    have h1 : ∀ i, i < 8 → rsT A (i + 1) ≠ rsT A i := fun i hi e => hx ⟨i, hi, e⟩
    have h2 : ∀ i, i ≤ 8 → i ≤ rsC A i := by
      intro i
      induction i with
      | zero => intro _; exact Nat.zero_le _
      | succ i ih =>
        intro hi
        have := rsC_up (h1 i (by omega))
        have := ih (by omega)
        omega
    have := h2 8 (by omega)
    have := rsC_le A 8
    omega
  obtain ⟨N, h1, h2, h3⟩ := fb_first (p := fun i => rsT A (i + 1) = rsT A i) h0
  exact ⟨N, h1, h2, h3⟩
def rsR (A : Nt) (a : Int32) (N : Nat) : Int32 := if a = 0 then nI N else if a = 1 then nI (sumN (rsM A) N) else nI (fr (nD A) (rsT A N))
theorem restC {σ : St} {A : Nt} (hN : NowI σ A) (hPr : PrC σ 36 (prA 7 A)) {N : Nat} (hN8 : N < 8) (hend : rsT A (N + 1) = rsT A N) (hgo : ∀ j, j < N → rsT A (j + 1) ≠ rsT A j) (a : Int32) : ∃ s, F_AC_rest_43 a 0 0 (nI (2 ^ nD A - 1)) 0 σ = some (rsR A a N, s) ∧ Fr [43, 44, 45] σ s := by
  have hO := hN.1
  have hP := hO.P
  have hD := hO.D
  have hz := prA_ok hO 7
  have ho := hO.od
  have hold : ∀ i s, Fr [43, 44, 45] σ s → ∃ t, F_MO_hold 43 36 9 (nI (fr (nD A) (rsT A i))) s = some t ∧ Fr [43, 44, 45] σ t ∧ rd t 43 2 = nI (nP A) ∧ rd t 43 3 = nI (fr (nD A) (rsT A (i + 1))) ∧ F_MO_monthsTaken 43 t = some (nI (rsM A i), t) := fun i s hf => by
    have hNs : NowI s A := hN.q (Qf.of hf (by decide))
    obtain ⟨t, b1, b2, b3⟩ := holdC (σ := s) (mo := 43) (n := 36) (oc := 9) (Z := prA 7 A) (od := nOd A) (T0 := rsT A i) isMO_43 isPR_36 al_9 (by decide) (hPr.fr hf (by decide) (by decide)) hz ho hP (fun k hk => (hNs.2.2.1.2.2.2 k hk).2.2.2.2.2) rfl (by decide) (by decide) (by decide)
    have b3' : MoD t 43 (prA 7 A) (nOd A) (rsT A i) := b3.D ho
    exact ⟨t, b1, hf.two b2, b3'.1, b3'.2.1, monthsTakenC hO b3'.1 b3'.2.2.2.2 (fun p d _ e => tkO_in e)⟩
  obtain ⟨⟨w2, w3, w4, w5, s⟩, ⟨e2, e3, e4, e5, hf⟩, hr⟩ := fix_rel (f := G_AC_rest_43 a) (n := N) (s0 := (nI 0, nI 0, nI (2 ^ nD A - 1), nI 0, σ)) (fun i q => q.1 = nI i ∧ q.2.1 = nI (sumN (rsM A) i) ∧ q.2.2.1 = nI (fr (nD A) (rsT A i)) ∧ q.2.2.2.1 = nI i ∧ Fr [43, 44, 45] σ q.2.2.2.2) (by rw [fuel_val]; omega) ⟨rfl, rfl, by show _ = nI (fr (nD A) 0); rw [fr_0], rfl, Fr.rf⟩ (by
    rintro i ⟨w2, w3, w4, w5, s⟩ hi ⟨e2, e3, e4, e5, hf⟩
    simp only at e2 e3 e4 e5 hf
    subst e2; subst e3; subst e4; subst e5
    obtain ⟨t, a1, a2, a3, a4, a5⟩ := hold i s hf
    have hne : ¬ nI (fr (nD A) (rsT A (i + 1))) = nI (fr (nD A) (rsT A i)) := fun c => by
      have f1 := fr_lt (nD A) (rsT A (i + 1)) hD
      have f2 := fr_lt (nD A) (rsT A i) hD
      have c2 := nI_inj (by omega) (by omega) c
      obtain ⟨d, h1, h2, h3⟩ := rsT_new (hgo i hi)
      have := congrArg (fun x : Nat => x.testBit d) c2
      simp only [fr_bit, h2, h3, decide_eq_true h1] at this
      cases this
    refine ⟨(nI (i + 1), nI (sumN (rsM A) (i + 1)), nI (fr (nD A) (rsT A (i + 1))), nI (i + 1), t), ⟨rfl, rfl, rfl, rfl, a2⟩, fun K => ?_⟩
    show H_AC_rest_43 a K (nI i) (nI (sumN (rsM A) i)) (nI (fr (nD A) (rsT A i))) (nI i) s = _
    unfold H_AC_rest_43
    rw [if_neg (show ¬ (7 : Int32) < nI i from nI_nlt (a := 7) (by omega) (by omega)), a1, Option.bind_some, a4, if_neg hne, a5, Option.bind_some]
    simp only
    rw [Option.bind_some, a4, Option.bind_some, nI_1, nI_add]
    rfl)
  simp only at e2 e3 e4 e5 hf
  obtain ⟨t, a1, a2, a3, a4, a5⟩ := hold N s hf
  refine ⟨t, ?_, a2⟩
  unfold F_AC_rest_43
  refine hr _ (fun K => ?_)
  show H_AC_rest_43 a K w2 w3 w4 w5 s = _
  unfold H_AC_rest_43 F_AC_rest_113
  rw [e2, e3, e4, e5, if_neg (show ¬ (7 : Int32) < nI N from nI_nlt (a := 7) (by omega) (by omega)), a1, Option.bind_some, a4, hend, if_pos rfl]
  unfold rsR
  split
  · rfl
  · split <;> rfl
theorem all_fr {D G : Nat} (hD : D ≤ 14) : nI (2 ^ D - 1) &&& (nI G ^^^ (-1)) = nI (fr D G) := by
  rw [m1_nI, xor_nI, fa_and]
  congr 1
  apply Nat.eq_of_testBit_eq
  intro i
  rw [Nat.testBit_and, fr_bit, Nat.testBit_xor, Nat.testBit_two_pow_sub_one, Nat.testBit_two_pow_sub_one]
  by_cases hi : i < D
  · have h32 : decide (i < 32) = true := by simp; omega
    rw [h32]
    cases G.testBit i <;> simp
  · have : decide (i < D) = false := by simp; omega
    rw [this]; simp
theorem restM {σ : St} {A : Nt} (hN : NowI σ A) {N : Nat} (hN8 : N < 8) (hend : rsT A (N + 1) = rsT A N) (hgo : ∀ j, j < N → rsT A (j + 1) ≠ rsT A j) (a : Int32) : ∃ s1 s, F_MD_goes σ = some s1 ∧ F_MD_rest_24 a 0 0 s1 = some (rsR A a N, s) ∧ Qf (nD A) σ s := by
  have hO := hN.1
  have hP := hO.P
  have hD := hO.D
  have hz := prA_ok hO 7
  have ho := hO.od
  obtain ⟨s1, a1, a2, a3, a4⟩ := goesM hN.2.2.2.1 hO hN.2.2.2.2 (by decide)
  have hin : ∀ i p d, p < nP A → rsK A i p = some d → d < nD A := fun i p d _ e => tkO_in e
  have hbits : ∀ i s, MdN s A 7 → (∀ p, p < nP A → rd s 73 p = bI (rsK A i p)) → F_MD_takenBits s = some (nI (tB 0 (rsK A i) (nP A)), s) := fun i s hM htk => takenBitsMd hM hO htk (fun p d hp e => by have := hin i p d hp e; omega)
  have hor : ∀ i, rsT A i ||| tB 0 (rsK A i) (nP A) = rsT A (i + 1) := fun i => by
    rw [rsT_s, show mT (prA 7 A) (nOd A) (rsT A i) (nP A) = tB (rsT A i) (rsK A i) (nP A) from (tB_mT (Z := prA 7 A) ho (rsT A i)).symm]
    apply Nat.eq_of_testBit_eq
    intro d
    rw [Nat.testBit_or, tB_bit, tB_bit, Nat.zero_testBit, Bool.false_or]
  have hz0 : ∀ i, tB 0 (rsK A i) (nP A) = 0 ↔ rsT A (i + 1) = rsT A i := fun i => by
    constructor
    · intro h
      rw [← hor i, h, Nat.or_zero]
    · intro h
      refine Nat.eq_of_testBit_eq (fun d => ?_)
      rw [tB_bit, Nat.zero_testBit, Bool.false_or, decide_eq_false_iff_not]
      rintro ⟨p, hp, e⟩
      have h1 := (mC_free (Z := prA 7 A) (od := nOd A) (T0 := rsT A i) (j := plc (nOd A) p (nP A)) e).2
      have h2 : (rsT A (i + 1)).testBit d = true := by
        rw [rsT_s, mT_bit, decide_eq_true (⟨plc (nOd A) p (nP A), ho.plc_lt hp, e⟩ : ∃ j, j < nP A ∧ mC (prA 7 A) (nOd A) (rsT A i) j = some d), Bool.or_true]
      rw [h, h1] at h2
      cases h2
  have hlt : ∀ i, tB 0 (rsK A i) (nP A) < 2 ^ 31 := fun i => by
    have h1 : tB 0 (rsK A i) (nP A) ≤ rsT A (i + 1) := by rw [← hor i]; exact Nat.right_le_or
    have := rsT_lt hO (i + 1)
    omega
  obtain ⟨⟨w2, w3, s⟩, ⟨e2, e3, hM, hg, h73, hf⟩, hr⟩ := fix_rel (f := G_MD_rest_24 a) (n := N) (s0 := (nI 0, nI 0, s1)) (fun i q => q.1 = nI i ∧ q.2.1 = nI (sumN (rsM A) i) ∧ MdN q.2.2 A 7 ∧ rd q.2.2 58 26 = nI (rsT A i) ∧ (∀ p, p < nP A → rd q.2.2 73 p = bI (rsK A i p)) ∧ ∀ b j, ¬ (b = 73 ∨ b = 74 ∨ b = 58 ∧ j = 26) → rd q.2.2 b j = rd σ b j) (by rw [fuel_val]; omega) ⟨rfl, rfl, hN.2.2.2.1.fr a2 (by decide), (a2.at (by decide) 26).trans hN.2.2.2.2, a4, fun b j q => a2.at (by simp; omega) j⟩ (by
    rintro i ⟨w2, w3, s⟩ hi ⟨e2, e3, hM, hg, h73, hf⟩
    simp only at e2 e3 hM hg h73 hf
    subst e2; subst e3
    have hb := hbits i s hM h73
    have hm : F_MD_takenMonths s = some (nI (rsM A i), s) := takenMonthsM hM hO h73 (hin i)
    have hne : ¬ nI (tB 0 (rsK A i) (nP A)) = 0 := fun c => hgo i hi ((hz0 i).mp (nI_inj (b := 0) (hlt i) (by decide) c))
    let s9 := wr s 58 26 (nI (rsT A (i + 1)))
    have hM9 : MdN s9 A 7 := hM.un (fun b j q => by
      show rd (wr s 58 26 _) b j = _
      rw [rd_wr, if_neg (by omega)])
    obtain ⟨t, c1, c2, c3, c4⟩ := goesM hM9 hO (T0 := rsT A (i + 1)) (rd_wr_same _ _ _ _) (rsT_lt hO (i + 1))
    refine ⟨(nI (i + 1), nI (sumN (rsM A) (i + 1)), t), ⟨rfl, rfl, hM9.fr c2 (by decide), (c2.at (by decide) 26).trans (rd_wr_same _ _ _ _), c4, fun b j q => ?_⟩, fun K => ?_⟩
    · rw [c2.at (by simp; omega) j]
      show rd (wr s 58 26 _) b j = _
      rw [rd_wr, if_neg (by omega)]
      exact hf b j q
    · show H_MD_rest_24 a K (nI i) (nI (sumN (rsM A) i)) s = _
      unfold H_MD_rest_24
      rw [hb, Option.bind_some]
      simp only
      rw [if_neg hne, hm, Option.bind_some]
      simp only
      rw [Option.bind_some, hb, Option.bind_some]
      simp only
      rw [Option.bind_some, hg, fa_or, hor, nI_1, nI_add, show F_MD_goes (wr s 58 26 (nI (rsT A (i + 1)))) = some t from c1, Option.bind_some]
      rfl)
  simp only at e2 e3 hM hg h73 hf
  refine ⟨s1, wr s 58 26 0, a1, ?_, fun b j q => ?_⟩
  · unfold F_MD_rest_24
    refine hr _ (fun K => ?_)
    show H_MD_rest_24 a K w2 w3 s = _
    have hp : 0 < 2 ^ nD A := Nat.two_pow_pos _
    unfold H_MD_rest_24
    rw [hbits N s hM h73, Option.bind_some]
    simp only
    rw [if_pos (show nI (tB 0 (rsK A N) (nP A)) = 0 by rw [(hz0 N).mpr hend]; rfl), Option.bind_some, Option.bind_some, hg, show rd s 58 9 = nI (nD A) from hM.1.1, shl1 (by omega), nI_dec (by omega), all_fr hD, e2, e3]
    unfold rsR
    split
    · rfl
    · split <;> rfl
  · unfold Qd at q
    rw [rd_wr]
    by_cases c : b = 58 ∧ j = 26
    · rw [if_pos c, c.1, c.2]; exact hN.2.2.2.2.symm
    · rw [if_neg c]; exact hf b j (by omega)
theorem op_rest (a : Int32) : Ask (F_AC_rest a) (F_MD_rest a) := by
  intro σ h
  obtain ⟨A, hall⟩ := id h
  have hN := hall.1
  have hO := hN.1
  obtain ⟨N, n1, n2, n3⟩ := rs_end hN.2.1.1
  rcases pk_ix a (n := 3) (by decide) with w | w | ⟨k, hk, rfl⟩
  · refine Ask.no h (k := 2) (x := -2) (by decide) (by decide) ?_ (fun τ hτ => ?_)
    · unfold F_AC_rest F_AC_rest_9
      rw [if_pos w, bid]
    · unfold F_MD_rest
      rw [show (2 : Int32) = nI 2 from rfl, isIn_out (m := 2) (by decide) (Or.inl w), Option.bind_some, if0, bid]
  · refine Ask.no h (k := 2) (x := -2) (by decide) (by decide) ?_ (fun τ hτ => ?_)
    · unfold F_AC_rest F_AC_rest_9
      rw [if_neg (nneg (by decide) w), if_neg (show ¬ a ≤ (2 : Int32) from Int32.not_le.mpr (lt_nI (n := 2) (by decide) w)), bid]
    · unfold F_MD_rest
      rw [show (2 : Int32) = nI 2 from rfl, isIn_out (m := 2) (by decide) (Or.inr w), Option.bind_some, if0, bid]
  · obtain ⟨s1, a1, a2, hN1, a3⟩ := fillN hN
    obtain ⟨s2, b1, b2⟩ := restC hN1 a3 n1 n2 n3 (nI k)
    have hN2 : NowI s2 A := hN1.q (Qf.of b2 (by decide))
    obtain ⟨s3, s4, c1, c2, c3⟩ := restM hN2 n1 n2 n3 (nI k)
    refine ⟨_, s2, s4, (?_ : F_AC_rest (nI k) σ = some (rsR A (nI k) N, s2)), ?_, INV.q hall (((Qf.of a2 (by decide)).tr (Qf.of b2 (by decide))).tr c3)⟩
    · unfold F_AC_rest
      rw [if_neg (nI_pos (by omega)), if_pos (show nI k ≤ (2 : Int32) from nI_le (b := 2) (by omega) (by decide)), allDeedsC hN.2.2.1 hO, Option.bind_some]
      simp only
      rw [a1, Option.bind_some]
      exact b1
    · unfold F_MD_rest
      rw [show (2 : Int32) = nI 2 from rfl, isIn_in (show k ≤ 2 by omega) (by decide), Option.bind_some, if1, c1, Option.bind_some]
      exact c2
