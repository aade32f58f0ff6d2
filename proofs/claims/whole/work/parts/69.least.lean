-- least
def mnF (m : Nat → Bool) (c : Nat → Nat) (v0 : Nat) : Nat → Nat
  | 0 => v0
  | d + 1 => if m d = true then min (mnF m c v0 d) (c d) else mnF m c v0 d
theorem mnF_le (m : Nat → Bool) (c : Nat → Nat) (v0 : Nat) : ∀ k, mnF m c v0 k ≤ v0
  | 0 => Nat.le_refl _
  | k + 1 => by
    have := mnF_le m c v0 k
    unfold mnF
    split
    · exact Nat.le_trans (Nat.min_le_left _ _) this
    · exact this
def lwF (A : Nt) (n : Nat) (L : Nat → Nat) (T d : Nat) : Nat := costT 7 A (nP A - (n + 1)) d + L (addT T (some d))
def leM (A : Nt) (n T d : Nat) : Bool := !(T.testBit d) && mayA A (nP A - (n + 1)) d
/-- the fewest of the last n people -/
def leN (A : Nt) : Nat → Nat → Nat
  | 0 => fun _ => 0
  | n + 1 => fun T => mnF (leM A n T) (lwF A n (leN A n) T) (60 + leN A n T) (nD A)
def lwC (A : Nt) (n T d : Nat) : Nat := lwF A n (leN A n) T d
theorem leN_s (A : Nt) (n T : Nat) : leN A (n + 1) T = mnF (leM A n T) (lwC A n T) (60 + leN A n T) (nD A) := rfl
theorem leN_le (A : Nt) : ∀ n T, leN A n T ≤ 60 * n
  | 0, _ => Nat.le_refl _
  | n + 1, T => by
    have h1 := mnF_le (leM A n T) (lwC A n T) (60 + leN A n T) (nD A)
    have h2 := leN_le A n T
    rw [leN_s]; omega
theorem lwC_le {A : Nt} (hO : OkN A) {n T d : Nat} (hn : n < nP A) (hd : d < nD A) : lwC A n T d ≤ 78 + 60 * n := by
  have h1 := costT_le hO 7 (show nP A - (n + 1) < nP A by omega) hd
  have h2 := leN_le A n (addT T (some d))
  show costT 7 A _ d + leN A n _ ≤ _
  omega
theorem pop_or : ∀ S, S < 128 → ∀ d, d < 7 → popN (S ||| 2 ^ d) ≤ popN S + 1 := by decide +kernel
theorem or_lt2 {S d D : Nat} (hS : S < 2 ^ D) (hd : d < D) : S ||| 2 ^ d < 2 ^ D := Nat.or_lt_two_pow hS (Nat.pow_lt_pow_right (by decide) hd)
theorem pow_le128 {D : Nat} (h : D ≤ 7) : 2 ^ D ≤ 128 := Nat.le_trans (Nat.pow_le_pow_right (by decide) h) (by decide)
-- the class's table
theorem idx50 (k S : Nat) : nI k * (128 : Int32) + nI S = nI (k * 128 + S) := by
  rw [show (128 : Int32) = nI 128 from rfl, pk_mul, nI_add]
theorem getTC {s : St} {k S : Nat} (hk : k ≤ 7) (hS : S < 128) : F_TA_get (nI k) (nI S) s = some (rd s 50 (k * 128 + S), s) := by
  unfold F_TA_get
  rw [bid, idx50, atC al_50 (by omega)]
theorem setTC {s : St} {k S : Nat} {x : Int32} (hk : k ≤ 7) (hS : S < 128) : F_TA_set (nI k) (nI S) x s = some (wr s 50 (k * 128 + S) x) := by
  unfold F_TA_set
  rw [idx50, putC al_50 (by omega), Option.bind_some]
theorem closeTC {s : St} {k : Nat} (hk : k ≤ 7) : ∃ s', F_TA_closeAt (nI k) s = some s' ∧ (∀ S, S < 128 → rd s' 50 (k * 128 + S) = nI 0) ∧ Fr [50] s s' := by
  obtain ⟨⟨w, t⟩, ⟨hw, h1, hf⟩, hr⟩ := fix_rel (f := G_TA_closeAt_2 (nI k)) (n := 128) (s0 := (nI 0, s)) (fun S q => q.1 = nI S ∧ (∀ S', S' < S → rd q.2 50 (k * 128 + S') = nI 0) ∧ Fr [50] s q.2) (by rw [fuel_val]; omega) ⟨rfl, fun S' h => absurd h (Nat.not_lt_zero _), Fr.rf⟩ (by
    rintro S ⟨w, t⟩ hS ⟨hw, h1, hf⟩
    simp only at hw h1 hf
    subst hw
    refine ⟨(nI (S + 1), wr t 50 (k * 128 + S) 0), ⟨rfl, fun S' hS' => ?_, hf.two (Fr.wr (by simp))⟩, fun K => ?_⟩
    · by_cases e : S' = S
      · subst e; exact rd_wr_same _ _ _ _
      · rw [rd_wr_slot _ _ _ _ (by omega)]; exact h1 S' (by omega)
    · show H_TA_closeAt_2 (nI k) K (nI S) t = _
      unfold H_TA_closeAt_2
      rw [if_neg (show ¬ (128 : Int32) ≤ nI S from nI_ge (b := 128) hS (by decide)), setTC hk hS, Option.bind_some, nI_1])
  simp only at hw h1 hf
  refine ⟨t, ?_, h1, hf⟩
  unfold F_TA_closeAt F_TA_closeAt_2
  refine hr _ (fun K => ?_)
  show H_TA_closeAt_2 (nI k) K w t = _
  unfold H_TA_closeAt_2
  rw [hw, if_pos (show (128 : Int32) ≤ nI 128 from Int32.le_refl _)]
theorem withTC {s : St} {A : Nt} (hPr : PrC s 36 (prA 7 A)) (hO : OkN A) (hD : nD A ≤ 7) {k p d T : Nat} (hk : k < 7) (hp : p < nP A) (hd : d < nD A) (hm : mayA A p d = true) (hT : T < 2 ^ nD A) : F_TA_monthsWith 36 (nI k) (nI p) (nI d) (nI T) s = some (nI (costT 7 A p d) + rd s 50 ((k + 1) * 128 + (T ||| 2 ^ d)), s) := by
  have hz := prA_ok hO 7
  have h2 := or_lt2 hT hd
  have h3 := pow_le128 hD
  unfold F_TA_monthsWith
  rw [ofC isPR_36 hPr hz hp hd, Option.bind_some]
  simp only
  rw [bitC (by omega), Option.bind_some]
  simp only
  rw [nI_1, fa_or, getTC (by omega) (by omega), Option.bind_some]
  show some (nI (if mayA A p d = true then costT 7 A p d else 1000000) + _, s) = _
  rw [if_pos hm]
theorem canBeTC {s : St} {S k : Nat} (hS : S < 128) (hk : k < 100) : F_TA_canBe (nI S) (nI k) s = some (zI (decide (popN S ≤ k)), s) := by
  have := popN_le S hS
  unfold F_TA_canBe
  rw [bitCountC hS, Option.bind_some]
  simp only
  by_cases h : popN S ≤ k
  · rw [if_neg (nI_nlt h (by omega)), decide_eq_true h]; rfl
  · rw [if_pos (nI_lt (by omega) (by omega)), decide_eq_false h]; rfl
/-- a level of the class's table -/
def LvC (A : Nt) (L : Nat → Nat → Nat) (m : Nat) (s : St) : Prop := ∀ S, S < 2 ^ nD A → popN S ≤ nP A - m → rd s 50 ((nP A - m) * 128 + S) = nI (L m S)
theorem leastFromC {s : St} {A : Nt} (hPr : PrC s 36 (prA 7 A)) (hO : OkN A) (hD : nD A ≤ 7) {n T : Nat} (hn : n < nP A) (hT : T < 2 ^ nD A) (hpop : popN T ≤ nP A - (n + 1)) (hL : LvC A (leN A) n s) : F_TA_leastFrom 36 (nI (nP A - (n + 1))) (nI T) s = some (nI (leN A (n + 1) T), s) := by
  have hP := hO.P
  have h3 := pow_le128 hD
  have hle := leN_le A n T
  have hmn := mnF_le (leM A n T) (lwC A n T) (60 + leN A n T)
  unfold F_TA_leastFrom F_TA_leastFrom_16
  rw [nI_1, show nP A - (n + 1) + 1 = nP A - n by omega, getTC (by omega) (by omega), Option.bind_some]
  simp only
  rw [hL T hT (by omega), Option.bind_some, show (60 : Int32) = nI 60 from rfl, nI_add]
  refine fix_up (n := nD A) (fun d => (nI (mnF (leM A n T) (lwC A n T) (60 + leN A n T) d), nI d, s)) (by rw [fuel_val]; omega) (fun K d hd => ?_) (fun K => ?_)
  · show H_TA_leastFrom_16 36 (nI (nP A - (n + 1))) (nI T) K _ (nI d) s = _
    have hlw := lwC_le hO (T := T) hn hd
    have hmd := hmn d
    have es : mnF (leM A n T) (lwC A n T) (60 + leN A n T) (d + 1) = if leM A n T d = true then min (mnF (leM A n T) (lwC A n T) (60 + leN A n T) d) (lwC A n T d) else mnF (leM A n T) (lwC A n T) (60 + leN A n T) d := rfl
    unfold H_TA_leastFrom_16 F_TA_leastFrom_61
    rw [show rd s 36 1 = nI (nD A) from hPr.2.1, if_neg (nI_ge hd (by omega)), hasC (by omega), Option.bind_some]
    simp only [zI_eq0]
    rw [allowsC hPr hO (show nP A - (n + 1) < nP A by omega) hd, Option.bind_some]
    simp only [zI_eq0]
    have elM : leM A n T d = (!(T.testBit d) && mayA A (nP A - (n + 1)) d) := rfl
    rw [es, nI_1, elM]
    cases hb : T.testBit d with
    | true => simp
    | false =>
      simp only [if_true, Bool.not_false, Bool.true_and]
      cases hm : mayA A (nP A - (n + 1)) d with
      | false => simp
      | true =>
        have hpo := pop_or T (by omega) d (by omega)
        have h2 := or_lt2 hT hd
        simp only [Bool.true_eq_false, if_false, if_true]
        rw [withTC hPr hO hD (by omega) (by omega) hd hm hT, Option.bind_some, show nP A - (n + 1) + 1 = nP A - n by omega, hL _ h2 (by omega), nI_add]
        simp only
        have e1 : costT 7 A (nP A - (n + 1)) d + leN A n (T ||| 2 ^ d) = lwC A n T d := rfl
        rw [e1, minC (by omega) (by omega), Option.bind_some]
  · show H_TA_leastFrom_16 36 (nI (nP A - (n + 1))) (nI T) K _ (nI (nD A)) s = _
    unfold H_TA_leastFrom_16
    rw [show rd s 36 1 = nI (nD A) from hPr.2.1, if_pos (Int32.le_refl _)]
    rfl
theorem LvC.un {A : Nt} {L : Nat → Nat → Nat} {m : Nat} {s s' : St} (h : LvC A L m s) (he : ∀ S, S < 128 → rd s' 50 ((nP A - m) * 128 + S) = rd s 50 ((nP A - m) * 128 + S)) (hD : nD A ≤ 7) : LvC A L m s' := fun S hS hp => (he S (by have := pow_le128 hD; omega)).trans (h S hS hp)
theorem fillLeastC {σ : St} {A : Nt} (hPr : PrC σ 36 (prA 7 A)) (hO : OkN A) (hD : nD A ≤ 7) : ∃ s, F_TA_fillLeast 36 σ = some s ∧ Fr [50] σ s ∧ ∀ m, m ≤ nP A → LvC A (leN A) m s := by
  have hP := hO.P
  have h128 := pow_le128 hD
  obtain ⟨s0, a1, a2, a3⟩ := closeTC (s := σ) (k := nP A) hP
  have inner : ∀ n s, n < nP A → Fr [50] σ s → (∀ m, m ≤ n → LvC A (leN A) m s) → ∃ s', Fr [50] σ s' ∧ (∀ m, m ≤ n + 1 → LvC A (leN A) m s') ∧ ∀ K, F_TA_fillLeast_21 36 K (nI (nP A - (n + 1))) 0 s = K (nI (nP A - (n + 1)) - 1, s') := by
    intro n s hn hs htab
    obtain ⟨⟨w, s'⟩, ⟨hw, hf, h1, h2⟩, hr⟩ := fix_relK (f := fun K : Int32 × St → Option St => G_TA_fillLeast_21 36 K (nI (nP A - (n + 1)))) (n := 2 ^ nD A) (s0 := (nI 0, s)) (fun S q => q.1 = nI S ∧ Fr [50] σ q.2 ∧ (∀ m, m ≤ n → LvC A (leN A) m q.2) ∧ ∀ S', S' < S → popN S' ≤ nP A - (n + 1) → rd q.2 50 ((nP A - (n + 1)) * 128 + S') = nI (leN A (n + 1) S')) (by rw [fuel_val]; omega) ⟨rfl, hs, htab, fun S' h => absurd h (Nat.not_lt_zero _)⟩ (by
      rintro S ⟨w, s⟩ hS ⟨hw, hf, h1, h2⟩
      simp only at hw hf h1 h2
      subst hw
      have hPs := hPr.fr hf (by decide) (by decide)
      have hcan := canBeTC (s := s) (show S < 128 by omega) (show nP A - (n + 1) < 100 by omega)
      by_cases hpop : popN S ≤ nP A - (n + 1)
      · have hlf := leastFromC hPs hO hD hn hS hpop (h1 n (Nat.le_refl _))
        refine ⟨(nI (S + 1), wr s 50 ((nP A - (n + 1)) * 128 + S) (nI (leN A (n + 1) S))), ⟨rfl, hf.two (Fr.wr (by simp)), fun m hm => (h1 m hm).un (fun S' hS' => rd_wr_slot _ _ _ _ (by omega)) hD, fun S' hS' hp' => ?_⟩, fun K K' => ?_⟩
        · by_cases e : S' = S
          · subst e; exact rd_wr_same _ _ _ _
          · rw [rd_wr_slot _ _ _ _ (by omega)]; exact h2 S' (by omega) hp'
        · show H_TA_fillLeast_21 36 K (nI (nP A - (n + 1))) K' (nI S) s = _
          unfold H_TA_fillLeast_21 F_TA_fillLeast_53
          rw [show rd s 36 1 = nI (nD A) from hPs.2.1, bitC (by omega), Option.bind_some]
          simp only
          rw [if_neg (nI_ge hS (by omega)), hcan, Option.bind_some, decide_eq_true hpop]
          simp only [zI_t, one0, if_false]
          rw [hlf, Option.bind_some]
          simp only
          rw [setTC (by omega) (by omega), Option.bind_some, nI_1]
      · refine ⟨(nI (S + 1), s), ⟨rfl, hf, h1, fun S' hS' hp' => ?_⟩, fun K K' => ?_⟩
        · by_cases e : S' = S
          · subst e; exact absurd hp' hpop
          · exact h2 S' (by omega) hp'
        · show H_TA_fillLeast_21 36 K (nI (nP A - (n + 1))) K' (nI S) s = _
          unfold H_TA_fillLeast_21 F_TA_fillLeast_53
          rw [show rd s 36 1 = nI (nD A) from hPs.2.1, bitC (by omega), Option.bind_some]
          simp only
          rw [if_neg (nI_ge hS (by omega)), hcan, Option.bind_some, decide_eq_false hpop]
          simp only [zI_f, if_true]
          rw [nI_1])
    simp only at hw hf h1 h2
    refine ⟨s', hf, fun m hm => ?_, fun K => hr K _ (fun K' => ?_)⟩
    · by_cases e : m = n + 1
      · subst e; exact fun S hS hp => h2 S hS hp
      · exact h1 m (by omega)
    · show H_TA_fillLeast_21 36 K (nI (nP A - (n + 1))) K' w s' = _
      unfold H_TA_fillLeast_21
      rw [show rd s' 36 1 = nI (nD A) from (hPr.fr hf (by decide) (by decide)).2.1, bitC (by omega), Option.bind_some]
      simp only
      rw [hw, if_pos (Int32.le_refl _)]
  obtain ⟨⟨w, s1⟩, ⟨hw, hf, htab⟩, hr⟩ := fix_rel (f := G_TA_fillLeast_15 36) (n := nP A) (s0 := (nI (nP A) - 1, s0)) (fun n q => q.1 = nI (nP A - n) - 1 ∧ Fr [50] σ q.2 ∧ ∀ m, m ≤ n → LvC A (leN A) m q.2) (by rw [fuel_val]; omega) ⟨rfl, a3, fun m hm S hS _ => by
      have e : m = 0 := by omega
      subst e
      exact a2 S (by omega)⟩ (by
    rintro n ⟨w, s⟩ hn ⟨hw, hf, htab⟩
    simp only at hw hf htab
    rw [nI_dec (by omega), Nat.sub_sub] at hw
    subst hw
    obtain ⟨s', b1, b2, b3⟩ := inner n s hn hf htab
    refine ⟨(nI (nP A - (n + 1)) - 1, s'), ⟨rfl, b1, b2⟩, fun K => ?_⟩
    show H_TA_fillLeast_15 36 K (nI (nP A - (n + 1))) s = _
    unfold H_TA_fillLeast_15
    rw [if_neg (nI_pos (by omega)), b3])
  simp only at hw hf htab
  rw [Nat.sub_self] at hw
  refine ⟨s1, ?_, hf, htab⟩
  unfold F_TA_fillLeast F_TA_fillLeast_15
  rw [show rd σ 36 0 = nI (nP A) from hPr.1, a1, Option.bind_some, Option.bind_some, show rd s0 36 0 = nI (nP A) from (a3.at (by decide) 0).trans hPr.1]
  refine hr _ (fun K => ?_)
  show H_TA_fillLeast_15 36 K w s1 = _
  unfold H_TA_fillLeast_15
  rw [hw, if_pos (by decide)]
