-- least: what one takes; the model's table
def fsN (c : Nat → Bool) : Nat → Option Nat
  | 0 => none
  | k + 1 => match fsN c k with | some q => some q | none => if c k = true then some k else none
theorem fsN_none {c : Nat → Bool} : ∀ {k : Nat}, (∀ j, j < k → c j = false) → fsN c k = none
  | 0, _ => rfl
  | k + 1, h => by
    unfold fsN
    rw [fsN_none (k := k) (fun j hj => h j (by omega))]
    exact if_neg (by rw [h k (by omega)]; decide)
theorem fsN_go {c : Nat → Bool} {k : Nat} (h : fsN c k = none) (hc : c k = false) : fsN c (k + 1) = none := by
  unfold fsN
  rw [h]
  exact if_neg (by rw [hc]; decide)
theorem fsN_hit {c : Nat → Bool} {k : Nat} (h : fsN c k = none) (hc : c k = true) : ∀ {m : Nat}, k < m → fsN c m = some k := by
  intro m hm
  induction m with
  | zero => omega
  | succ m ih =>
    by_cases e : k = m
    · subst e
      unfold fsN
      rw [h]
      exact if_pos hc
    · unfold fsN
      rw [ih (by omega)]
theorem fsN_in {c : Nat → Bool} : ∀ {k d : Nat}, fsN c k = some d → d < k ∧ c d = true
  | 0, d, h => by cases h
  | k + 1, d, h => by
    unfold fsN at h
    cases e : fsN c k with
    | some q =>
      rw [e] at h
      cases h
      have := fsN_in e
      exact ⟨by omega, this.2⟩
    | none =>
      rw [e] at h
      simp only at h
      split at h
      · rename_i hc
        cases h
        exact ⟨Nat.lt_succ_self _, hc⟩
      · cases h
def dnS (c : Nat → Bool) (P : Nat) : Nat → Option Nat
  | 0 => none
  | k + 1 => if c (P - 1 - k) = true then some (P - 1 - k) else dnS c P k
theorem dnS_spec {c : Nat → Bool} {P : Nat} : ∀ k, k ≤ P → (∃ j, P - k ≤ j ∧ j < P ∧ c j = true ∧ (∀ i, P - k ≤ i → i < j → c i = false) ∧ dnS c P k = some j) ∨ ((∀ j, P - k ≤ j → j < P → c j = false) ∧ dnS c P k = none)
  | 0, _ => Or.inr ⟨fun j h1 h2 => by omega, rfl⟩
  | k + 1, hk => by
    have e : dnS c P (k + 1) = if c (P - 1 - k) = true then some (P - 1 - k) else dnS c P k := rfl
    rw [e]
    cases hc : c (P - 1 - k) with
    | true => exact Or.inl ⟨P - 1 - k, by omega, by omega, hc, fun i h1 h2 => by omega, if_pos rfl⟩
    | false =>
      rw [if_neg (by decide)]
      rcases dnS_spec (c := c) (P := P) k (by omega) with ⟨j, h1, h2, h3, h4, h5⟩ | ⟨h1, h2⟩
      · refine Or.inl ⟨j, by omega, h2, h3, fun i q1 q2 => ?_, h5⟩
        by_cases ei : i = P - 1 - k
        · rw [ei]; exact hc
        · exact h4 i (by omega) q2
      · refine Or.inr ⟨fun i q1 q2 => ?_, h2⟩
        by_cases ei : i = P - 1 - k
        · rw [ei]; exact hc
        · exact h1 i (by omega) q2
theorem dnS_fs {c : Nat → Bool} {P : Nat} : dnS c P P = fsN c P := by
  rcases dnS_spec (c := c) (P := P) P (Nat.le_refl _) with ⟨j, h1, h2, h3, h4, h5⟩ | ⟨h1, h2⟩
  · rw [h5, fsN_hit (fsN_none (fun i hi => h4 i (by omega) hi)) h3 h2]
  · rw [h2, fsN_none (fun j hj => h1 j (by omega) hj)]
/-- what the person nP - (n + 1) takes, T being taken -/
def ldB (A : Nt) (n T d : Nat) : Bool := leM A n T d && decide (lwC A n T d = leN A (n + 1) T)
def ldO (A : Nt) (n T : Nat) : Option Nat := fsN (ldB A n T) (nD A)
def ldT (A : Nt) : Nat → Nat
  | 0 => 0
  | p + 1 => addT (ldT A p) (ldO A (nP A - (p + 1)) (ldT A p))
def ldP (A : Nt) (p : Nat) : Option Nat := ldO A (nP A - (p + 1)) (ldT A p)
theorem ldT_s (A : Nt) (p : Nat) : ldT A (p + 1) = addT (ldT A p) (ldP A p) := rfl
theorem ldO_in {A : Nt} {n T d : Nat} (h : ldO A n T = some d) : d < nD A := (fsN_in h).1
theorem ldT_ok {A : Nt} (hD : nD A ≤ 7) : ∀ p, ldT A p < 2 ^ nD A ∧ popN (ldT A p) ≤ p
  | 0 => ⟨Nat.two_pow_pos _, Nat.le_of_eq (show popN 0 = 0 by decide)⟩
  | p + 1 => by
    obtain ⟨h1, h2⟩ := ldT_ok hD p
    have h3 := pow_le128 hD
    rw [ldT_s]
    unfold addT
    cases e : ldP A p with
    | none =>
      show ldT A p ||| 0 < _ ∧ popN (ldT A p ||| 0) ≤ _
      rw [Nat.or_zero]
      exact ⟨h1, by omega⟩
    | some d =>
      have hd : d < nD A := ldO_in e
      have := pop_or (ldT A p) (by omega) d (by omega)
      exact ⟨or_lt2 h1 hd, Nat.le_trans this (by omega)⟩
theorem leastStepC {s : St} {A : Nt} (hPr : PrC s 36 (prA 7 A)) (hO : OkN A) (hD : nD A ≤ 7) {n T : Nat} (hn : n < nP A) (hT : T < 2 ^ nD A) (hpop : popN T ≤ nP A - (n + 1)) (hL : LvC A (leN A) n s) (hL1 : LvC A (leN A) (n + 1) s) : F_TA_leastStep 36 (nI (nP A - (n + 1))) (nI T) s = some (bI (ldO A n T), s) := by
  have hP := hO.P
  have h3 := pow_le128 hD
  have hle1 := leN_le A (n + 1) T
  unfold F_TA_leastStep F_TA_leastStep_11
  rw [getTC (by omega) (by omega), Option.bind_some]
  simp only
  rw [hL1 T hT hpop]
  refine fix_inv (f := G_TA_leastStep_11 36 (nI (nP A - (n + 1))) (nI T) (nI (leN A (n + 1) T))) (n := nD A) (s0 := (nI 0, s)) (fun d q => q = (nI d, s) ∧ fsN (ldB A n T) d = none) (fun r => r = some (bI (ldO A n T), s)) (by rw [fuel_val]; omega) ⟨rfl, rfl⟩ ?_ ?_
  · rintro d q hd ⟨rfl, hnone⟩
    have hlw := lwC_le hO (T := T) hn hd
    have hrun : ∀ K : Int32 × St → Option (Int32 × St), H_TA_leastStep_11 36 (nI (nP A - (n + 1))) (nI T) (nI (leN A (n + 1) T)) K (nI d) s = if ldB A n T d = true then some (nI d, s) else K (nI (d + 1), s) := fun K => by
      unfold H_TA_leastStep_11 F_TA_leastStep_57
      rw [show rd s 36 1 = nI (nD A) from hPr.2.1, if_neg (nI_ge hd (by omega)), hasC (by omega), Option.bind_some]
      simp only [zI_eq0]
      rw [allowsC hPr hO (show nP A - (n + 1) < nP A by omega) hd, Option.bind_some]
      simp only [zI_eq0]
      rw [nI_1]
      have elM : ldB A n T d = ((!(T.testBit d) && mayA A (nP A - (n + 1)) d) && decide (lwC A n T d = leN A (n + 1) T)) := rfl
      rw [elM]
      cases hb : T.testBit d with
      | true => simp
      | false =>
        simp only [if_true, Bool.not_false, Bool.true_and]
        cases hm : mayA A (nP A - (n + 1)) d with
        | false => simp
        | true =>
          have hpo := pop_or T (by omega) d (by omega)
          have h2 := or_lt2 hT hd
          simp only [Bool.true_eq_false, if_false, Bool.true_and]
          rw [withTC hPr hO hD (by omega) (by omega) hd hm hT, Option.bind_some, show nP A - (n + 1) + 1 = nP A - n by omega, hL _ h2 (by omega), nI_add]
          simp only
          have e1 : costT 7 A (nP A - (n + 1)) d + leN A n (T ||| 2 ^ d) = lwC A n T d := rfl
          rw [e1]
          by_cases g : lwC A n T d = leN A (n + 1) T
          · rw [if_pos (by rw [g]), if_pos (decide_eq_true g)]
          · rw [if_neg (fun c => g (nI_inj (by omega) (by omega) c)), if_neg (by simpa using g)]
    cases hc : ldB A n T d with
    | true => exact Or.inr ⟨some (nI d, s), by unfold ldO; rw [fsN_hit hnone hc hd]; rfl, fun K => (hrun K).trans (if_pos hc)⟩
    | false => exact Or.inl ⟨(nI (d + 1), s), ⟨rfl, fsN_go hnone hc⟩, fun K => (hrun K).trans (if_neg (by rw [hc]; decide))⟩
  · rintro q ⟨rfl, hnone⟩
    refine ⟨some (-9, s), by unfold ldO; rw [hnone]; rfl, fun K => ?_⟩
    show H_TA_leastStep_11 36 (nI (nP A - (n + 1))) (nI T) (nI (leN A (n + 1) T)) K (nI (nD A)) s = _
    unfold H_TA_leastStep_11
    rw [show rd s 36 1 = nI (nD A) from hPr.2.1, if_pos (Int32.le_refl _)]
def ldLast (A : Nt) : Nat → Option Nat
  | 0 => none
  | p + 1 => ldP A p
theorem leastDeedC {s : St} {A : Nt} (hPr : PrC s 36 (prA 7 A)) (hO : OkN A) (hD : nD A ≤ 7) (htab : ∀ m, m ≤ nP A → LvC A (leN A) m s) {p : Nat} (hp : p < nP A) : F_TA_leastDeed 36 (nI p) s = some (bI (ldP A p), s) := by
  have hP := hO.P
  unfold F_TA_leastDeed F_TA_leastDeed_9
  refine fix_up (f := G_TA_leastDeed_9 36 (nI p)) (n := p + 1) (fun i => (nI (ldT A i), bI (ldLast A i), nI i, s)) (by rw [fuel_val]; omega) (fun K i hi => ?_) (fun K => ?_)
  · show H_TA_leastDeed_9 36 (nI p) K (nI (ldT A i)) (bI (ldLast A i)) (nI i) s = _
    obtain ⟨h1, h2⟩ := ldT_ok hD i
    have hst := leastStepC hPr hO hD (n := nP A - (i + 1)) (by omega) h1 (by omega) (htab _ (by omega)) (htab _ (by omega))
    rw [show nP A - (nP A - (i + 1) + 1) = i by omega] at hst
    have e : ldO A (nP A - (i + 1)) (ldT A i) = ldP A i := rfl
    rw [e] at hst
    unfold H_TA_leastDeed_9
    rw [if_neg (nI_nlt (by omega) (by omega)), hst, Option.bind_some]
    simp only
    rw [bitC_b (fun d q => by have : d < nD A := ldO_in q; omega), Option.bind_some]
    simp only
    rw [Option.bind_some, fa_or, nI_1]
    rfl
  · show H_TA_leastDeed_9 36 (nI p) K (nI (ldT A (p + 1))) (bI (ldP A p)) (nI (p + 1)) s = _
    unfold H_TA_leastDeed_9
    rw [if_pos (nI_lt (by omega) (by omega))]
-- the model
def LvM (A : Nt) (L : Nat → Nat → Nat) (m : Nat) (s : St) : Prop := ∀ S, S < 128 → rd s 75 (128 * (nP A - m) + S) = nI (L m S)
theorem leastWithM {s : St} {A : Nt} (hM : MdN s A 7) (hO : OkN A) (hD : nD A ≤ 7) {n T d : Nat} (hn : n < nP A) (hT : T < 128) (hd : d < nD A) (hL : LvM A (leN A) n s) : F_MD_leastWith (nI (nP A - (n + 1))) (nI T) (nI d) s = some (nI (lwC A n T d), s) := by
  have hP := hO.P
  have h2 : T ||| 2 ^ d < 128 := addT_lt (o := some d) hT (fun x h => by cases h; omega)
  unfold F_MD_leastWith
  rw [monthsOfM hM hO (by omega) hd, Option.bind_some]
  simp only
  rw [shl1 (by omega), fa_or, nI_1, idx76, ldk al_75 (by omega), Option.bind_some, show nP A - (n + 1) + 1 = nP A - n by omega, hL _ h2, nI_add]
  rfl
theorem findLeastM {σ : St} {A : Nt} (hM : MdN σ A 7) (hO : OkN A) (hD : nD A ≤ 7) : ∃ s, F_MD_findLeast σ = some s ∧ Fr [75] σ s ∧ ∀ m, m ≤ nP A → LvM A (leN A) m s := by
  have hP := hO.P
  have inner : ∀ n s, n < nP A → Fr [75] σ s → (∀ m, m ≤ n → LvM A (leN A) m s) → ∃ s', Fr [75] σ s' ∧ (∀ m, m ≤ n + 1 → LvM A (leN A) m s') ∧ ∀ K, F_MD_findLeast_44 K (nI (nP A - (n + 1))) 0 s = K (nI (nP A - (n + 1)) - 1, s') := by
    intro n s hn hs htab
    obtain ⟨⟨w, s'⟩, ⟨hw, hf, h1, h2⟩, hr⟩ := fix_relK (f := fun K : Int32 × St → Option St => G_MD_findLeast_44 K (nI (nP A - (n + 1)))) (n := 128) (s0 := (nI 0, s)) (fun S q => q.1 = nI S ∧ Fr [75] σ q.2 ∧ (∀ m, m ≤ n → LvM A (leN A) m q.2) ∧ ∀ S', S' < S → rd q.2 75 (128 * (nP A - (n + 1)) + S') = nI (leN A (n + 1) S')) (by rw [fuel_val]; omega) ⟨rfl, hs, htab, fun S' h => absurd h (Nat.not_lt_zero _)⟩ (by
      rintro S ⟨w, s⟩ hS ⟨hw, hf, h1, h2⟩
      simp only at hw hf h1 h2
      subst hw
      have hMs : MdN s A 7 := hM.fr hf (by decide)
      have hle := leN_le A n S
      have hmn := mnF_le (leM A n S) (lwC A n S) (60 + leN A n S)
      refine ⟨(nI (S + 1), wr s 75 (128 * (nP A - (n + 1)) + S) (nI (leN A (n + 1) S))), ⟨rfl, hf.two (Fr.wr (by simp)), fun m hm S' hS' => ?_, fun S' hS' => ?_⟩, fun K K' => ?_⟩
      · rw [rd_wr_slot _ _ _ _ (by omega)]; exact h1 m hm S' hS'
      · by_cases e : S' = S
        · subst e; exact rd_wr_same _ _ _ _
        · rw [rd_wr_slot _ _ _ _ (by omega)]; exact h2 S' (by omega)
      · show H_MD_findLeast_44 K (nI (nP A - (n + 1))) K' (nI S) s = _
        unfold H_MD_findLeast_44 F_MD_findLeast_72
        rw [if_neg (show ¬ (128 : Int32) ≤ nI S from nI_ge (b := 128) hS (by decide)), nI_1, idx76, ldk al_75 (by omega), Option.bind_some, Option.bind_some, show nP A - (n + 1) + 1 = nP A - n by omega, h1 n (Nat.le_refl _) S hS, show (60 : Int32) = nI 60 from rfl, nI_add]
        refine fix_up (f := G_MD_findLeast_72 K K' (nI (nP A - (n + 1))) (nI S)) (n := nD A) (fun d => (nI (mnF (leM A n S) (lwC A n S) (60 + leN A n S) d), nI d, s)) (by rw [fuel_val]; omega) (fun K2 d hd => ?_) (fun K2 => ?_)
        · show H_MD_findLeast_72 K K' (nI (nP A - (n + 1))) (nI S) K2 _ (nI d) s = _
          have hlw := lwC_le hO (T := S) hn hd
          have hmd := hmn d
          have es : mnF (leM A n S) (lwC A n S) (60 + leN A n S) (d + 1) = if leM A n S d = true then min (mnF (leM A n S) (lwC A n S) (60 + leN A n S) d) (lwC A n S d) else mnF (leM A n S) (lwC A n S) (60 + leN A n S) d := rfl
          have elM : leM A n S d = (!(S.testBit d) && mayA A (nP A - (n + 1)) d) := rfl
          have hlw2 := leastWithM hMs hO hD hn hS hd (h1 n (Nat.le_refl _))
          unfold H_MD_findLeast_72 F_MD_findLeast_121
          rw [show rd s 58 9 = nI (nD A) from hMs.1.1, if_neg (nI_ge hd (by omega)), hasM (by omega) (by omega), Option.bind_some]
          simp only [zI_eq0]
          rw [mayM hMs hO (by omega) hd, Option.bind_some]
          simp only [zI_eq0]
          rw [es, nI_1, elM, hlw2]
          cases hb : S.testBit d with
          | true => simp
          | false =>
            simp only [if_true, Bool.not_false, Bool.true_and]
            cases hm : mayA A (nP A - (n + 1)) d with
            | false => simp
            | true =>
              simp only [Bool.true_eq_false, if_false, if_true, Option.bind_some]
              by_cases g : mnF (leM A n S) (lwC A n S) (60 + leN A n S) d ≤ lwC A n S d
              · rw [if_pos (nI_le g (by omega)), Nat.min_eq_left g]
              · rw [if_neg (nI_ge (by omega) (by omega)), hlw2]
                simp only [Option.bind_some]
                rw [Nat.min_eq_right (by omega)]
        · show H_MD_findLeast_72 K K' (nI (nP A - (n + 1))) (nI S) K2 (nI (leN A (n + 1) S)) (nI (nD A)) s = _
          unfold H_MD_findLeast_72
          rw [show rd s 58 9 = nI (nD A) from hMs.1.1, if_pos (Int32.le_refl _), idx76, stk al_75 (by omega), Option.bind_some, nI_1])
    simp only at hw hf h1 h2
    refine ⟨s', hf, fun m hm => ?_, fun K => hr K _ (fun K' => ?_)⟩
    · by_cases e : m = n + 1
      · subst e; exact fun S hS => h2 S hS
      · exact h1 m (by omega)
    · show H_MD_findLeast_44 K (nI (nP A - (n + 1))) K' w s' = _
      unfold H_MD_findLeast_44
      rw [hw, if_pos (show (128 : Int32) ≤ nI 128 from Int32.le_refl _)]
  -- the end's level
  obtain ⟨⟨w0, s0⟩, ⟨hw0, h10, hf0⟩, hr0⟩ := fix_rel (f := G_MD_findLeast_2) (n := 128) (s0 := (nI 0, σ)) (fun S q => q.1 = nI S ∧ (∀ S', S' < S → rd q.2 75 (128 * nP A + S') = nI 0) ∧ Fr [75] σ q.2) (by rw [fuel_val]; omega) ⟨rfl, fun S' h => absurd h (Nat.not_lt_zero _), Fr.rf⟩ (by
    rintro S ⟨w, t⟩ hS ⟨hw, h1, hf⟩
    simp only at hw h1 hf
    subst hw
    refine ⟨(nI (S + 1), wr t 75 (128 * nP A + S) 0), ⟨rfl, fun S' hS' => ?_, hf.two (Fr.wr (by simp))⟩, fun K => ?_⟩
    · by_cases e : S' = S
      · subst e; exact rd_wr_same _ _ _ _
      · rw [rd_wr_slot _ _ _ _ (by omega)]; exact h1 S' (by omega)
    · show H_MD_findLeast_2 K (nI S) t = _
      unfold H_MD_findLeast_2
      rw [if_neg (show ¬ (128 : Int32) ≤ nI S from nI_ge (b := 128) hS (by decide)), show rd t 58 10 = nI (nP A) from (hf.at (by decide) 10).trans hM.1.2.1, idx76, stk al_75 (by omega), Option.bind_some, nI_1])
  simp only at hw0 h10 hf0
  obtain ⟨⟨w, s1⟩, ⟨hw, hf, htab⟩, hr⟩ := fix_rel (f := G_MD_findLeast_38) (n := nP A) (s0 := (nI (nP A) - 1, s0)) (fun n q => q.1 = nI (nP A - n) - 1 ∧ Fr [75] σ q.2 ∧ ∀ m, m ≤ n → LvM A (leN A) m q.2) (by rw [fuel_val]; omega) ⟨rfl, hf0, fun m hm S hS => by
      have e : m = 0 := by omega
      subst e
      exact h10 S hS⟩ (by
    rintro n ⟨w, s⟩ hn ⟨hw, hf, htab⟩
    simp only at hw hf htab
    rw [nI_dec (by omega), Nat.sub_sub] at hw
    subst hw
    obtain ⟨s', b1, b2, b3⟩ := inner n s hn hf htab
    refine ⟨(nI (nP A - (n + 1)) - 1, s'), ⟨rfl, b1, b2⟩, fun K => ?_⟩
    show H_MD_findLeast_38 K (nI (nP A - (n + 1))) s = _
    unfold H_MD_findLeast_38
    rw [if_neg (nI_pos (by omega)), b3])
  simp only at hw hf htab
  rw [Nat.sub_self] at hw
  refine ⟨s1, ?_, hf, htab⟩
  unfold F_MD_findLeast F_MD_findLeast_2
  refine hr0 _ (fun K => ?_)
  show H_MD_findLeast_2 K w0 s0 = _
  unfold H_MD_findLeast_2 F_MD_findLeast_38
  rw [hw0, if_pos (show (128 : Int32) ≤ nI 128 from Int32.le_refl _), show rd s0 58 10 = nI (nP A) from (hf0.at (by decide) 10).trans hM.1.2.1, Option.bind_some]
  refine hr _ (fun K' => ?_)
  show H_MD_findLeast_38 K' w s1 = _
  unfold H_MD_findLeast_38
  rw [hw, if_pos (by decide)]
theorem leastDeedM {s : St} {A : Nt} (hM : MdN s A 7) (hO : OkN A) (hD : nD A ≤ 7) (htab : ∀ m, m ≤ nP A → LvM A (leN A) m s) {p : Nat} (hp : p < nP A) : F_MD_least_42 (nI p) 0 (-9) 0 s = some (bI (ldP A p), s) := by
  have hP := hO.P
  have h3 := pow_le128 hD
  unfold F_MD_least_42
  refine fix_up (f := G_MD_least_42 (nI p)) (n := p + 1) (fun i => (nI (ldT A i), bI (ldLast A i), nI i, s)) (by rw [fuel_val]; omega) (fun K i hi => ?_) (fun K => ?_)
  · show H_MD_least_42 (nI p) K (nI (ldT A i)) (bI (ldLast A i)) (nI i) s = _
    obtain ⟨h1, h2⟩ := ldT_ok hD i
    obtain ⟨n, hn⟩ : ∃ n, n = nP A - (i + 1) := ⟨_, rfl⟩
    have hi2 : nP A - (n + 1) = i := by omega
    have e : ldO A n (ldT A i) = ldP A i := by rw [hn]; rfl
    unfold H_MD_least_42
    rw [if_neg (nI_nlt (by omega) (by omega)), Option.bind_some, show rd s 58 9 = nI (nD A) from hM.1.1]
    unfold F_MD_least_59
    refine fix_up (f := G_MD_least_59 K (nI p) (nI (ldT A i)) (nI i)) (n := nD A) (fun k => (bI (dnS (ldB A n (ldT A i)) (nD A) k), nI (nD A - k) - 1, s)) (by rw [fuel_val]; omega) (fun K2 k hk => ?_) (fun K2 => ?_)
    · show H_MD_least_59 K (nI p) (nI (ldT A i)) (nI i) K2 (bI (dnS (ldB A n (ldT A i)) (nD A) k)) (nI (nD A - k) - 1) s = _
      obtain ⟨d, hd⟩ : ∃ d, d = nD A - 1 - k := ⟨_, rfl⟩
      have es : dnS (ldB A n (ldT A i)) (nD A) (k + 1) = if ldB A n (ldT A i) d = true then some d else dnS (ldB A n (ldT A i)) (nD A) k := by rw [hd]; rfl
      have hdD : d < nD A := by omega
      have hlw := leastWithM hM hO hD (n := n) (T := ldT A i) (by omega) (by omega) hdD (htab n (by omega))
      rw [hi2] at hlw
      have hb1 := lwC_le hO (T := ldT A i) (show n < nP A by omega) hdD
      have hb2 := leN_le A (n + 1) (ldT A i)
      have h75 : rd s 75 (128 * i + ldT A i) = nI (leN A (n + 1) (ldT A i)) := by
        have := htab (n + 1) (by omega) (ldT A i) (by omega)
        rw [hi2] at this
        exact this
      have elM : ldB A n (ldT A i) d = ((!((ldT A i).testBit d) && mayA A i d) && decide (lwC A n (ldT A i) d = leN A (n + 1) (ldT A i))) := by
        unfold ldB leM
        rw [hi2]
      unfold H_MD_least_59 F_MD_least_112
      rw [nI_dec (by omega), show nD A - k - 1 = d by omega, if_neg (nI_pos (by omega)), hasM (by omega) (by omega), Option.bind_some]
      simp only [zI_eq0]
      rw [mayM hM hO (by omega) hdD, Option.bind_some]
      simp only [zI_eq0]
      rw [es, elM, hlw, show nD A - (k + 1) = d by omega]
      cases hb : (ldT A i).testBit d with
      | true => simp
      | false =>
        simp only [if_true, Bool.not_false, Bool.true_and]
        cases hm : mayA A i d with
        | false => simp
        | true =>
          simp only [Bool.true_eq_false, if_false, Option.bind_some, Bool.true_and]
          rw [idx76, ldk al_75 (by omega), Option.bind_some, h75]
          by_cases g : lwC A n (ldT A i) d = leN A (n + 1) (ldT A i)
          · rw [if_pos (by rw [g]), if_pos (decide_eq_true g)]
            rfl
          · rw [if_neg (fun c => g (nI_inj (by omega) (by omega) c)), if_neg (by simpa using g)]
    · show H_MD_least_59 K (nI p) (nI (ldT A i)) (nI i) K2 (bI (dnS (ldB A n (ldT A i)) (nD A) (nD A))) (nI (nD A - nD A) - 1) s = _
      have es : dnS (ldB A n (ldT A i)) (nD A) (nD A) = ldP A i := by rw [dnS_fs]; exact e
      unfold H_MD_least_59 F_MD_least_130
      rw [Nat.sub_self, if_pos (by decide), es]
      have eT : ldT A (i + 1) = addT (ldT A i) (ldP A i) := rfl
      have eL : ldLast A (i + 1) = ldP A i := rfl
      simp only [Option.bind_some]
      rw [nI_1, eT, eL]
      cases e3 : ldP A i with
      | none => rw [if_neg (by decide : ¬ (0 : Int32) ≤ bI none), Int32.or_zero, addT_none]
      | some d =>
        have hd : d < nD A := ldO_in e3
        rw [if_pos (show 0 ≤ bI (some d) from nI_pos' (by omega)), shl_b rfl (by omega), fa_or]
        rfl
  · show H_MD_least_42 (nI p) K (nI (ldT A (p + 1))) (bI (ldP A p)) (nI (p + 1)) s = _
    unfold H_MD_least_42
    rw [if_pos (nI_lt (by omega) (by omega))]
theorem op_least (a : Int32) : Ask (F_AC_least a) (F_MD_least a) := by
  intro σ h
  obtain ⟨A, hall⟩ := id h
  have hN := hall.1
  obtain ⟨hO, hD, hA, hM, hg⟩ := id hN
  have hP := hO.P
  have both : ∃ s1 s2 s3, F_PR_fill 36 1 σ = some s1 ∧ F_TA_fillLeast 36 s1 = some s2 ∧ F_MD_findLeast s2 = some s3 ∧ NowI s2 A ∧ NowI s3 A ∧ PrC s2 36 (prA 7 A) ∧ Qf (nD A) σ s3 ∧ (∀ m, m ≤ nP A → LvC A (leN A) m s2) ∧ ∀ m, m ≤ nP A → LvM A (leN A) m s3 := by
    obtain ⟨s1, a1, a2, hN1, a3⟩ := fillN hN
    obtain ⟨s2, b1, b2, b3⟩ := fillLeastC a3 hO hD.1
    have hN2 : NowI s2 A := hN1.q (Qf.of b2 (by decide))
    obtain ⟨s3, c1, c2, c3⟩ := findLeastM hN2.2.2.2.1 hO hD.1
    exact ⟨s1, s2, s3, a1, b1, c1, hN2, hN2.q (Qf.of c2 (by decide)), a3.fr b2 (by decide) (by decide), ((Qf.of a2 (by decide)).tr (Qf.of b2 (by decide))).tr (Qf.of c2 (by decide)), b3, c3⟩
  obtain ⟨s1, s2, s3, a1, b1, c1, hN2, hN3, hPr, hq, t2, t3⟩ := both
  by_cases h1 : a = -1
  · subst h1
    refine ⟨nI (leN A (nP A) 0), s2, s3, ?_, ?_, INV.q hall hq⟩
    · unfold F_AC_least F_AC_least_22
      rw [if_pos rfl, a1, Option.bind_some, b1, Option.bind_some, if_pos rfl, bid, show F_TA_get 0 0 s2 = _ from getTC (k := 0) (S := 0) (by decide) (by decide)]
      have := t2 (nP A) (Nat.le_refl _) 0 (Nat.two_pow_pos _) (by rw [show popN 0 = 0 by decide]; exact Nat.zero_le _)
      rw [Nat.sub_self] at this
      exact congrArg (fun x => some (x, s2)) this
    · unfold F_MD_least F_MD_least_19
      rw [if_pos rfl, c1, Option.bind_some, if_neg (by decide), show ldA s3 75 0 = _ from ldk (k := 0) al_75 (by decide), Option.bind_some]
      have := t3 (nP A) (Nat.le_refl _) 0 (by decide)
      rw [Nat.sub_self] at this
      exact congrArg (fun x => some (x, s3)) this
  · rcases perC hA hO a with ⟨p, hp, rfl⟩ | ho
    · refine ⟨bI (ldP A p), s2, s3, ?_, ?_, INV.q hall hq⟩
      · unfold F_AC_least F_AC_least_22
        rw [if_neg h1, hasPersonC_in hA hO hp, Option.bind_some, if1, a1, Option.bind_some, b1, Option.bind_some, if_neg h1, bid, leastDeedC hPr hO hD.1 t2 hp]
      · unfold F_MD_least F_MD_least_19
        rw [if_neg h1, isPersonM_in hN2.2.2.2.1 hO hp, Option.bind_some, if1, c1, Option.bind_some, if_pos (nI_pos' (by omega)), leastDeedM hN3.2.2.2.1 hO hD.1 t3 hp]
    · refine Ask.no h (k := 1) (x := -1) (by decide) (by decide) ?_ (fun τ hτ => ?_)
      · unfold F_AC_least
        rw [if_neg h1, hasPersonC_out hA hO ho, Option.bind_some, if0, bid]
      · unfold F_MD_least
        rw [if_neg h1, isPersonM_out (hN.r57 hτ).2.2.2.1 ho, Option.bind_some, if0, bid]
