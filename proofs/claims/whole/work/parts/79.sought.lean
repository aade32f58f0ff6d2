-- orders sought: the pieces
theorem seN_lt {P k : Nat} : ∀ {i : Nat}, (0 < P ∨ i = 0) → seN P k i < 2 ^ P
  | 0, _ => Nat.two_pow_pos _
  | i + 1, h => by
    have hP : 0 < P := by omega
    show seN P k i ||| 2 ^ (k / P ^ i % P) < 2 ^ P
    exact or_lt2 (seN_lt (Or.inl hP)) (Nat.mod_lt _ hP)
theorem laysM {s : St} {A : Nt} (hM : MdN s A 7) (hP5 : nP A ≤ 5) {k : Nat} (hk : k < 2 ^ 31) : ∃ s', F_MD_laysOrder (nI k) s = some (zI (vaB (nP A) k), s') ∧ Fr [74] s s' ∧ ∀ j, j < nP A → rd s' 74 j = nI (dgN (nP A) k j) := by
  obtain ⟨P, hPe⟩ : ∃ P, P = nP A := ⟨_, rfl⟩
  rw [← hPe] at hP5 ⊢
  have e10 : rd s 58 10 = nI P := by rw [hPe]; exact hM.1.2.1
  obtain ⟨⟨w2, w3, w4, t⟩, ⟨h2, h3, h4, hf, hrow⟩, hr⟩ := fix_rel (f := G_MD_laysOrder_12) (n := P) (s0 := (nI k, nI 0, nI P - 1, s)) (fun i q => q.1 = nI (k / P ^ i) ∧ q.2.1 = nI (seN P k i) ∧ q.2.2.1 = nI (P - i) - 1 ∧ Fr [74] s q.2.2.2 ∧ ∀ j, P - i ≤ j → j < P → rd q.2.2.2 74 j = nI (dgN P k j)) (by rw [fuel_val]; omega) ⟨by rw [Nat.pow_zero, Nat.div_one], rfl, rfl, Fr.rf, fun j h1 h2 => by omega⟩ (by
    rintro i ⟨w2, w3, w4, t⟩ hi ⟨h2, h3, h4, hf, hrow⟩
    simp only at h2 h3 h4 hf hrow
    subst h2; subst h3
    obtain ⟨j, hj⟩ : ∃ j, j = P - 1 - i := ⟨_, rfl⟩
    rw [nI_dec (by omega), show P - i - 1 = j by omega] at h4
    subst h4
    have hlt : k / P ^ i < 2 ^ 31 := Nat.lt_of_le_of_lt (Nat.div_le_self _ _) hk
    have ed : k / P ^ i % P = dgN P k j := by unfold dgN; rw [show P - 1 - j = i by omega]
    have hmod : k / P ^ i % P < P := Nat.mod_lt _ (by omega)
    have hz : ∀ τ : St, Fr [74] s τ → ¬ rd τ 58 10 = 0 := fun τ hτ c => by
      rw [hτ.at (by decide), e10] at c
      have := nI_inj (b := 0) (by omega) (by decide) c
      omega
    have ft : Fr [74] s (wr t 74 j (nI (k / P ^ i % P))) := hf.two (Fr.wr (by simp))
    refine ⟨(nI (k / P ^ (i + 1)), nI (seN P k (i + 1)), nI (P - (i + 1)) - 1, wr t 74 j (nI (k / P ^ i % P))), ⟨rfl, rfl, rfl, ft, fun j' q1 q2 => ?_⟩, fun K => ?_⟩
    · by_cases e : j' = j
      · subst e; rw [rd_wr_same, ed]
      · rw [rd_wr_slot _ _ _ _ e]; exact hrow j' (by omega) q2
    · show H_MD_laysOrder_12 K (nI (k / P ^ i)) (nI (seN P k i)) (nI j) t = _
      unfold H_MD_laysOrder_12
      rw [if_neg (nI_pos (by omega)), if_neg (hz t hf), hf.at (by decide), e10, pk_rem hlt (by omega) (by omega), stk al_74 (by omega), Option.bind_some, if_neg (hz _ ft), ft.at (by decide), e10, Option.bind_some, pk_div hlt (by omega) (by omega), ldk al_74 (by omega), Option.bind_some, rd_wr_same, shl1 (by omega), fa_or, Option.bind_some, Nat.div_div_eq_div_mul, ← Nat.pow_succ, show P - (i + 1) = j by omega]
      rfl)
  simp only at h2 h3 h4 hf hrow
  rw [Nat.sub_self] at h4
  refine ⟨t, ?_, hf, fun j hj => hrow j (by omega) hj⟩
  have h1 : F_MD_laysOrder (nI k) s = F_MD_laysOrder_12 (nI k) 0 (nI P - 1) s := by
    unfold F_MD_laysOrder
    rw [e10, Option.bind_some]
  rw [h1]
  unfold F_MD_laysOrder_12
  refine hr _ (fun K => ?_)
  show H_MD_laysOrder_12 K w2 w3 w4 t = _
  have hs := seN_lt (P := P) (k := k) (i := P) (by omega)
  have h32 : 2 ^ P ≤ 128 := pow_le128 (by omega)
  have hp0 : 0 < 2 ^ P := Nat.two_pow_pos _
  unfold H_MD_laysOrder_12 vaB
  rw [h4, if_pos (by decide), h3, hf.at (by decide), e10, shl1 (by omega), nI_dec (by omega)]
  by_cases c : seN P k P = 2 ^ P - 1
  · rw [if_pos (by rw [c]), beq_iff_eq.mpr c]; rfl
  · rw [if_neg (fun q => c (nI_inj (by omega) (by omega) q)), beq_eq_false_iff_ne.mpr c]; rfl
theorem numbersM {s : St} {A : Nt} (hM : MdN s A 7) (hP5 : nP A ≤ 5) : F_MD_numbers s = some (nI (nP A ^ nP A), s) := by
  unfold F_MD_numbers F_MD_numbers_4
  refine fix_up (n := nP A) (fun i => (nI (nP A ^ i), nI i, s)) (by rw [fuel_val]; omega) (fun K i hi => ?_) (fun K => ?_)
  · show H_MD_numbers_4 K (nI (nP A ^ i)) (nI i) s = _
    unfold H_MD_numbers_4
    rw [show rd s 58 10 = nI (nP A) from hM.1.2.1, if_neg (nI_ge hi (by omega)), Option.bind_some, pk_mul, nI_1, Nat.pow_succ]
  · show H_MD_numbers_4 K (nI (nP A ^ nP A)) (nI (nP A)) s = _
    unfold H_MD_numbers_4
    rw [show rd s 58 10 = nI (nP A) from hM.1.2.1, if_pos (Int32.le_refl _)]
def mxN (m : Nat → Nat) : Nat → Nat
  | 0 => 0
  | n + 1 => max (mxN m n) (m n)
theorem mxN_le {m : Nat → Nat} {b : Nat} : ∀ {n : Nat}, (∀ k, k < n → m k ≤ b) → mxN m n ≤ b
  | 0, _ => Nat.zero_le _
  | n + 1, h => Nat.max_le.mpr ⟨mxN_le (fun k hk => h k (by omega)), h n (by omega)⟩
theorem mostC {s : St} {A : Nt} {od : Nat → Nat} (hO : OkN A) (hMo : MoD s 43 (prA 7 A) od 0) : F_MO_most 43 s = some (nI (mxN (moO (prA 7 A) od 0) (nP A)), s) := by
  have hP := hO.P
  have hle : ∀ k, k < nP A → moO (prA 7 A) od 0 k ≤ 78 := fun k hk => moO_le (prA_ok hO 7) hk
  unfold F_MO_most F_MO_most_4
  refine fix_up (n := nP A) (fun k => (nI (mxN (moO (prA 7 A) od 0) k), nI k, s)) (by rw [fuel_val]; omega) (fun K k hk => ?_) (fun K => ?_)
  · show H_MO_most_4 43 K (nI (mxN (moO (prA 7 A) od 0) k)) (nI k) s = _
    have h1 := hle k hk
    have h2 := mxN_le (m := moO (prA 7 A) od 0) (b := 78) (n := k) (fun j hj => hle j (by omega))
    unfold H_MO_most_4
    rw [show rd s 43 2 = nI (nP A) from hMo.1, if_neg (nI_ge hk (by omega)), show F_AC_at (43 + 2) (nI k) s = some (rd s 45 k, s) from atC al_45 (by omega), Option.bind_some]
    simp only
    rw [show rd s 45 k = _ from (hMo.2.2.2.2 k hk).2, maxC (by omega) (by omega), Option.bind_some, nI_1]
    rfl
  · show H_MO_most_4 43 K _ (nI (nP A)) s = _
    unfold H_MO_most_4
    rw [show rd s 43 2 = nI (nP A) from hMo.1, if_pos (Int32.le_refl _)]
theorem greatestM {s : St} {A : Nt} {od : Nat → Nat} (hN : NowI s A) (htk : ∀ p, p < nP A → rd s 73 p = bI (tkO (prA 7 A) od 0 p)) : F_MD_greatest s = some (nI (mxN (moO (prA 7 A) od 0) (nP A)), s) := by
  have hO := hN.1
  have hP := hO.P
  have hle : ∀ k, k < nP A → moO (prA 7 A) od 0 k ≤ 78 := fun k hk => moO_le (prA_ok hO 7) hk
  unfold F_MD_greatest F_MD_greatest_4
  refine fix_up (n := nP A) (fun k => (nI (mxN (moO (prA 7 A) od 0) k), nI k, s)) (by rw [fuel_val]; omega) (fun K k hk => ?_) (fun K => ?_)
  · show H_MD_greatest_4 K (nI (mxN (moO (prA 7 A) od 0) k)) (nI k) s = _
    have h1 := hle k hk
    have h2 := mxN_le (m := moO (prA 7 A) od 0) (b := 78) (n := k) (fun j hj => hle j (by omega))
    have e : mxN (moO (prA 7 A) od 0) (k + 1) = max (mxN (moO (prA 7 A) od 0) k) (moO (prA 7 A) od 0 k) := rfl
    unfold H_MD_greatest_4 F_MD_greatest_30
    rw [show rd s 58 10 = nI (nP A) from hN.2.2.2.1.1.2.1, if_neg (nI_ge hk (by omega)), hasM7 hN hk (htk k hk), Option.bind_some, e, nI_1]
    simp only
    by_cases c : moO (prA 7 A) od 0 k ≤ mxN (moO (prA 7 A) od 0) k
    · rw [if_pos (nI_le c (by omega)), Nat.max_eq_left c]
    · rw [if_neg (nI_ge (by omega) (by omega)), hasM7 hN hk (htk k hk), Option.bind_some, Nat.max_eq_right (by omega)]
  · show H_MD_greatest_4 K _ (nI (nP A)) s = _
    unfold H_MD_greatest_4
    rw [show rd s 58 10 = nI (nP A) from hN.2.2.2.1.1.2.1, if_pos (Int32.le_refl _)]
theorem keepsM {s : St} {A : Nt} (hM : MdN s A 7) (hP : nP A ≤ 7) (v : Int32) : ∃ s', F_MD_keepsFound v s = some s' ∧ rd s' 58 33 = v ∧ (∀ j, j < nP A → rd s' 80 j = rd s 74 j) ∧ ∀ b j, ¬ (b = 80 ∨ b = 58 ∧ j = 33) → rd s' b j = rd s b j := by
  obtain ⟨⟨w, t⟩, ⟨hw, hf, h1⟩, hr⟩ := fix_rel (f := G_MD_keepsFound_2 v) (n := nP A) (s0 := (nI 0, s)) (fun k q => q.1 = nI k ∧ Fr [80] s q.2 ∧ ∀ j, j < k → rd q.2 80 j = rd s 74 j) (by rw [fuel_val]; omega) ⟨rfl, Fr.rf, fun j hj => absurd hj (Nat.not_lt_zero _)⟩ (by
    rintro k ⟨w, t⟩ hk ⟨hw, hf, h1⟩
    simp only at hw hf h1
    subst hw
    refine ⟨(nI (k + 1), wr t 80 k (rd s 74 k)), ⟨rfl, hf.two (Fr.wr (by simp)), fun j hj => ?_⟩, fun K => ?_⟩
    · by_cases e : j = k
      · subst e; exact rd_wr_same _ _ _ _
      · rw [rd_wr_slot _ _ _ _ e]; exact h1 j (by omega)
    · show H_MD_keepsFound_2 v K (nI k) t = _
      unfold H_MD_keepsFound_2
      rw [hf.at (by decide) 10, show rd s 58 10 = nI (nP A) from hM.1.2.1, if_neg (nI_ge hk (by omega)), ldk al_74 (by omega), Option.bind_some, hf.at (by decide) k, stk al_80 (by omega), Option.bind_some, nI_1])
  simp only at hw hf h1
  refine ⟨wr t 58 33 v, ?_, rd_wr_same _ _ _ _, fun j hj => by rw [rd_wr_cell _ _ _ _ (by decide)]; exact h1 j hj, fun b j q => by rw [rd_wr, if_neg (fun c => q (Or.inr c))]; exact hf.at (by simp; omega) j⟩
  unfold F_MD_keepsFound F_MD_keepsFound_2
  refine hr _ (fun K => ?_)
  show H_MD_keepsFound_2 v K w t = _
  unfold H_MD_keepsFound_2
  rw [hw, hf.at (by decide) 10, show rd s 58 10 = nI (nP A) from hM.1.2.1, if_pos (Int32.le_refl _), Option.bind_some]
/-- what is answered of an order kept -/
def rsF (v : Int32) (P val : Nat) (g : Nat → Nat) : Int32 := if v = -1 then nI val else if v.toNatClampNeg < P then nI (g v.toNatClampNeg) else -9
theorem rsF_1 (P val : Nat) (g : Nat → Nat) : rsF (-1) P val g = nI val := if_pos rfl
theorem rsF_n {P val : Nat} {g : Nat → Nat} {i : Nat} (hi : i < 2 ^ 31) : rsF (nI i) P val g = if i < P then nI (g i) else -9 := by
  unfold rsF
  rw [if_neg (n1_ne hi), nI_clamp hi]
theorem keptAtC {s : St} {P i : Nat} {g : Nat → Nat} (hi : i < 2 ^ 31) (hP : P ≤ 7) (h51 : rd s 51 1 = nI P) (h53 : ∀ j, j < P → rd s 53 j = nI (g j)) : F_OR_keptAt (nI i) s = some (if i < P then nI (g i) else -9, s) := by
  unfold F_OR_keptAt F_OR_keptAt_23
  rw [if_neg (nI_pos hi), h51, bid]
  by_cases c : i < P
  · rw [if_neg (nI_ge c (by omega)), if_pos c, atC al_53 (by omega), h53 i c]
  · rw [if_pos (nI_le (by omega) hi), if_neg c]
theorem foundOrM {s : St} {A : Nt} {i : Nat} {g : Nat → Nat} (hM : MdN s A 7) (hP : nP A ≤ 7) (hi : i < 2 ^ 31) (h80 : ∀ j, j < nP A → rd s 80 j = nI (g j)) : F_MD_foundOr (nI i) s = some (if i < nP A then nI (g i) else -9, s) := by
  unfold F_MD_foundOr
  rw [if_pos (nI_pos' hi), show rd s 58 10 = nI (nP A) from hM.1.2.1]
  by_cases c : i < nP A
  · rw [if_neg (nI_ge c (by omega)), if_pos c, ldk al_80 (by omega), Option.bind_some, h80 i c]
  · rw [if_pos (nI_le (by omega) hi), if_neg c]
/-- the class's morning by an order tried -/
theorem holdOrdC {s : St} {A : Nt} (hN : NowI s A) (hPr : PrC s 36 (prA 7 A)) {od : Nat → Nat} (ho : OdOK (nP A) od) (hrow : ∀ j, j < nP A → rd s 52 j = nI (od j)) : ∃ t, F_MO_hold 43 36 52 (nI (2 ^ nD A - 1)) s = some t ∧ Fr [43, 44, 45] s t ∧ NowI t A ∧ PrC t 36 (prA 7 A) ∧ MoD t 43 (prA 7 A) od 0 := by
  obtain ⟨t, b1, b2, b3⟩ := holdC (σ := s) (mo := 43) (n := 36) (oc := 52) (Z := prA 7 A) (od := od) (T0 := 0) isMO_43 isPR_36 al_52 (by decide) hPr (prA_ok hN.1 7) ho hN.1.P hrow rfl (by decide) (by decide) (by decide)
  rw [show fr (zD (prA 7 A)) 0 = 2 ^ nD A - 1 from fr_0 _] at b1
  exact ⟨t, b1, b2, hN.q (Qf.of b2 (by decide)), hPr.fr b2 (by decide) (by decide), b3.D ho⟩
/-- the n-th of all orders -/
def lnN (P n : Nat) : Nat := ((orL P (P ^ P))[n]?).getD 0
def orM (P : Nat) : Nat := (orL P (P ^ P)).length
theorem orL_facts {P : Nat} (hP : P ≤ 5) : 0 < orM P ∧ orM P ≤ 120 ∧ (∀ j, j < P → dgN P (lnN P 0) j = j) ∧ (∀ n, n < orM P → OdOK P (dgN P (lnN P n))) ∧ (∀ n, n + 1 < orM P → ∃ g, stN' P (dgN P (lnN P n)) = some g ∧ ∀ j, j < P → g j = dgN P (lnN P (n + 1)) j) ∧ ∀ n, n + 1 = orM P → stN' P (dgN P (lnN P n)) = none := by
  obtain ⟨h1, h2, h3⟩ := or_all P hP
  have hat : ∀ n, n < orM P → (orL P (P ^ P))[n]? = some (lnN P n) := fun n hn => by
    unfold lnN
    rw [List.getElem?_eq_getElem hn]
    rfl
  have hpos : 0 < orM P := by
    unfold orM
    cases e : orL P (P ^ P) with
    | nil => rw [e] at h2; cases h2
    | cons a t => exact Nat.succ_pos _
  refine ⟨hpos, h3, ?_, fun n hn => ?_, fun n hn => ?_, fun n hn => ?_⟩
  · have h0 := hat 0 hpos
    cases e : orL P (P ^ P) with
    | nil => rw [e] at h2; cases h2
    | cons a t =>
      rw [e] at h2 h0
      have ea : a = lnN P 0 := by simpa using h0
      rw [← ea]
      exact eqB_in h2
  · exact okB_od (chB_in h1 n _ (hat n hn)).1
  · have h4 := (chB_in h1 n _ (hat n (by omega))).2
    rw [hat (n + 1) hn] at h4
    have h5 : srB P (lnN P n) (lnN P (n + 1)) = true := h4
    unfold srB at h5
    cases e : stN' P (dgN P (lnN P n)) with
    | none => rw [e] at h5; cases h5
    | some g => rw [e] at h5; exact ⟨g, rfl, eqB_in h5⟩
  · have h4 := (chB_in h1 n _ (hat n (by omega))).2
    rw [show (orL P (P ^ P))[n + 1]? = none from List.getElem?_eq_none (by unfold orM at hn; omega)] at h4
    have h5 : snB P (lnN P n) = true := h4
    unfold snB at h5
    cases e : stN' P (dgN P (lnN P n)) with
    | none => rfl
    | some g => rw [e] at h5; cases h5
/-- how many orders have a number below -/
def vcN (P k : Nat) : Nat := (orL P k).length
theorem vcN_s (P k : Nat) : vcN P (k + 1) = if vaB P k = true then vcN P k + 1 else vcN P k := by
  unfold vcN
  rw [orL_s]
  split
  · rw [List.length_append]; rfl
  · rfl
theorem vcN_at {P k : Nat} (h : vaB P k = true) (hk : k < P ^ P) : lnN P (vcN P k) = k ∧ vcN P k < orM P := by
  have := orL_at h hk
  refine ⟨?_, (List.getElem?_eq_some_iff.mp this).1⟩
  unfold lnN vcN
  rw [this]; rfl
theorem pow_le3125 : ∀ P, P ≤ 5 → P ^ P ≤ 3125 := by decide
