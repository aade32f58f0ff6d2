-- always
theorem takenBitsM {σ : St} {A : Nt} (hN : NowI σ A) {tk : Nat → Option Nat} (htk : ∀ p, p < nP A → rd σ 73 p = bI (tk p)) (hin : ∀ p d, p < nP A → tk p = some d → d < 14) : F_MD_takenBits σ = some (nI (tB 0 tk (nP A)), σ) := by
  have hP := hN.1.P
  have e10 : rd σ 58 10 = nI (nP A) := hN.2.2.2.1.1.2.1
  unfold F_MD_takenBits F_MD_takenBits_4
  refine fix_up (n := nP A) (fun k => (nI (tB 0 tk k), nI k, σ)) (by rw [fuel_val]; omega) (fun K k hk => ?_) (fun K => ?_)
  · show H_MD_takenBits_4 K (nI (tB 0 tk k)) (nI k) σ = _
    unfold H_MD_takenBits_4 F_MD_takenBits_34
    rw [e10, if_neg (nI_ge hk (by omega)), ldk al_73 (by omega), Option.bind_some, htk k hk]
    have eT : tB 0 tk (k + 1) = addT (tB 0 tk k) (tk k) := rfl
    cases e : tk k with
    | none => rw [if_neg (by decide : ¬ (0 : Int32) ≤ bI none), Option.bind_some, eT, e, addT_none, Int32.or_zero, nI_1]
    | some d =>
      have hd := hin k d hk e
      rw [if_pos (show 0 ≤ bI (some d) from nI_pos' (by omega)), Option.bind_some, shl_b rfl (by omega), Option.bind_some, fa_or, eT, e, nI_1]
      rfl
  · show H_MD_takenBits_4 K _ (nI (nP A)) σ = _
    unfold H_MD_takenBits_4
    rw [e10, if_pos (Int32.le_refl _)]
theorem tkB {σ : St} {A : Nt} (hN : NowI σ A) {od : Nat → Nat} (ho : OdOK (nP A) od) (htk : ∀ p, p < nP A → rd σ 73 p = bI (tkO (prA 7 A) od 0 p)) : F_MD_takenBits σ = some (nI (mT (prA 7 A) od 0 (nP A)), σ) := by
  have hD := hN.1.D
  rw [takenBitsM hN htk (fun p d _ e => by have : d < nD A := tkO_in e; omega)]
  exact congrArg (fun x => some (nI x, σ)) (tB_mT (Z := prA 7 A) ho 0)
theorem mT_in {A : Nt} {od : Nat → Nat} {k i : Nat} (h : (mT (prA 7 A) od 0 k).testBit i = true) : i < nD A := by
  rw [mT_bit] at h
  simp only [Nat.zero_testBit, Bool.false_or, decide_eq_true_eq] at h
  obtain ⟨j, _, e⟩ := h
  exact (mk1_in e).1
theorem nfr {D T n : Nat} (hD : D ≤ 14) (hn : ∀ i, n.testBit i = true → i < D) : nI n &&& (nI (fr D T) ^^^ (-1)) = nI (n &&& T) := by
  rw [m1_nI, xor_nI, fa_and]
  congr 1
  apply Nat.eq_of_testBit_eq
  intro i
  rw [Nat.testBit_and, Nat.testBit_and, Nat.testBit_xor, fr_bit, Nat.testBit_two_pow_sub_one]
  cases c : n.testBit i with
  | false => rfl
  | true =>
    have hi := hn i c
    have h1 : decide (i < D) = true := by simpa using hi
    have h2 : decide (i < 32) = true := by simp; omega
    rw [h1, h2]
    cases T.testBit i <;> rfl
theorem goByN {σ : St} {A : Nt} (hN : NowI σ A) {od : Nat → Nat} (ho : OdOK (nP A) od) (hby : ∀ k, k < nP A → rd σ 74 k = nI (od k)) : ∃ s, F_MD_goesBy σ = some s ∧ Fr [73] σ s ∧ NowI s A ∧ ∀ p, p < nP A → rd s 73 p = bI (tkO (prA 7 A) od 0 p) := by
  obtain ⟨s, a1, a2, a3⟩ := goesByM hN.2.2.2.1 hN.1 ho hby hN.2.2.2.2 (by decide)
  exact ⟨s, a1, a2, hN.q (Qf.of a2 (by decide)), a3⟩
def roO (P : Nat) (od : Nat → Nat) : Nat → Nat := fun k => od ((k + 1) % P)
theorem ro_eq {P : Nat} {od : Nat → Nat} (hP : 0 < P) : ∀ k, k < P → mvO od 0 (P - 1) k = roO P od k := by
  intro k hk
  have key : ∀ x y : Nat, x = y → od x = od y := fun x y e => by rw [e]
  unfold mvO roO
  apply key
  unfold mvI
  by_cases c : k = P - 1
  · rw [if_pos c, c, Nat.sub_add_cancel (by omega), Nat.mod_self]
  · rw [if_neg c, if_pos (by omega), Nat.mod_eq_of_lt (by omega)]
theorem lineByM {σ : St} {A : Nt} {x : Int32} (hN : NowI σ A) : ∃ s, F_MD_always_11 x 0 σ = (F_MD_goesBy s).bind (fun s3 => (F_MD_takenBits s3).bind fun o4 => (some (x &&& o4.1)).bind fun x5 => F_MD_always_57 x5 0 o4.2) ∧ Fr [74] σ s ∧ ∀ k, k < nP A → rd s 74 k = nI (rvO (nP A) (nOd A) k) := by
  have hP := hN.1.P
  obtain ⟨⟨w, s⟩, ⟨hw, hf, hall⟩, hr⟩ := fix_rel (f := G_MD_always_11 x) (n := nP A) (s0 := (nI 0, σ)) (fun k q => q.1 = nI k ∧ Fr [74] σ q.2 ∧ ∀ j, j < k → rd q.2 74 j = nI (rvO (nP A) (nOd A) j)) (by rw [fuel_val]; omega) ⟨rfl, Fr.rf, fun j hj => absurd hj (Nat.not_lt_zero _)⟩ (by
    rintro k ⟨w, s⟩ hk ⟨hw, hf, hall⟩
    simp only at hw hf hall
    subst hw
    have hNs : NowI s A := hN.q (Qf.of hf (by decide))
    refine ⟨(nI (k + 1), wr s 74 k (nI (rvO (nP A) (nOd A) k))), ⟨rfl, hf.two (Fr.wr (by simp)), fun j hj => ?_⟩, fun K => ?_⟩
    · by_cases q : j = k
      · subst q; exact rd_wr_same _ _ _ _
      · rw [rd_wr_slot _ _ _ _ q]; exact hall j (by omega)
    · show H_MD_always_11 x K (nI k) s = _
      unfold H_MD_always_11
      rw [show rd s 58 10 = nI (nP A) from hNs.2.2.2.1.1.2.1, if_neg (nI_ge hk (by omega)), nI_dec (by omega), pk_sub (show k ≤ nP A - 1 by omega), ldk al_67 (by omega), Option.bind_some, show rd s 67 (nP A - 1 - k) = nI (nOd A (nP A - 1 - k)) from (hNs.2.2.2.1.1.2.2.2 _ (by omega)).2.2.2.2.2, stk al_74 (by omega), Option.bind_some, nI_1]
      rfl)
  simp only at hw hf hall
  refine ⟨s, ?_, hf, hall⟩
  unfold F_MD_always_11
  refine hr _ (fun K => ?_)
  show H_MD_always_11 x K w s = _
  unfold H_MD_always_11
  rw [hw, show rd s 58 10 = nI (nP A) from (hN.q (Qf.of hf (by decide))).2.2.2.1.1.2.1, if_pos (Int32.le_refl _)]
theorem lineByM2 {σ : St} {A : Nt} {x : Int32} (hN : NowI σ A) : ∃ s, F_MD_always_57 x 0 σ = (F_MD_goesBy s).bind (fun s6 => (F_MD_takenBits s6).bind fun o7 => some ((x &&& o7.1), o7.2)) ∧ Fr [74] σ s ∧ ∀ k, k < nP A → rd s 74 k = nI (roO (nP A) (nOd A) k) := by
  have hP := hN.1.P
  obtain ⟨⟨w, s⟩, ⟨hw, hf, hall⟩, hr⟩ := fix_rel (f := G_MD_always_57 x) (n := nP A) (s0 := (nI 0, σ)) (fun k q => q.1 = nI k ∧ Fr [74] σ q.2 ∧ ∀ j, j < k → rd q.2 74 j = nI (roO (nP A) (nOd A) j)) (by rw [fuel_val]; omega) ⟨rfl, Fr.rf, fun j hj => absurd hj (Nat.not_lt_zero _)⟩ (by
    rintro k ⟨w, s⟩ hk ⟨hw, hf, hall⟩
    simp only at hw hf hall
    subst hw
    have hNs : NowI s A := hN.q (Qf.of hf (by decide))
    have hmod : (k + 1) % nP A < nP A := Nat.mod_lt _ (by omega)
    refine ⟨(nI (k + 1), wr s 74 k (nI (roO (nP A) (nOd A) k))), ⟨rfl, hf.two (Fr.wr (by simp)), fun j hj => ?_⟩, fun K => ?_⟩
    · by_cases q : j = k
      · subst q; exact rd_wr_same _ _ _ _
      · rw [rd_wr_slot _ _ _ _ q]; exact hall j (by omega)
    · show H_MD_always_57 x K (nI k) s = _
      unfold H_MD_always_57
      rw [show rd s 58 10 = nI (nP A) from hNs.2.2.2.1.1.2.1, if_neg (nI_ge hk (by omega)), if_neg (show ¬ nI (nP A) = (0 : Int32) from fun q => by have := nI_inj (b := 0) (by omega) (by decide) q; omega), nI_1, pk_rem (by omega) (by omega) (by omega), ldk al_67 (by omega), Option.bind_some, show rd s 67 ((k + 1) % nP A) = nI (nOd A ((k + 1) % nP A)) from (hNs.2.2.2.1.1.2.2.2 _ hmod).2.2.2.2.2, stk al_74 (by omega), Option.bind_some]
      rfl)
  simp only at hw hf hall
  refine ⟨s, ?_, hf, hall⟩
  unfold F_MD_always_57
  refine hr _ (fun K => ?_)
  show H_MD_always_57 x K w s = _
  unfold H_MD_always_57
  rw [hw, show rd s 58 10 = nI (nP A) from (hN.q (Qf.of hf (by decide))).2.2.2.1.1.2.1, if_pos (Int32.le_refl _)]
