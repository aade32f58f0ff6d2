-- a loop that stands in another and may end the call
theorem fix_exitK {S O T : Type} {f : T → (S → Option O) → S → Option O} (I : Nat → S → Prop) (Q : Option O → Prop) {n : Nat} {s0 : S} (hF : n < FUEL) (h0 : I 0 s0) (hstep : ∀ (k : Nat) (s : S), k < n → I k s → (∃ s', I (k + 1) s' ∧ ∀ t K, f t K s = K s') ∨ (∃ r, Q r ∧ ∀ t K, f t K s = r)) : (∃ s, I n s ∧ ∀ t r, (∀ K, f t K s = r) → fixF (f t) FUEL s0 = r) ∨ (∃ r, Q r ∧ ∀ t, fixF (f t) FUEL s0 = r) := by
  have key : ∀ (m fuel k : Nat) (s : S), k + m = n → m < fuel → I k s → (∃ s', I n s' ∧ ∀ t r, (∀ K, f t K s' = r) → fixF (f t) fuel s = r) ∨ (∃ r, Q r ∧ ∀ t, fixF (f t) fuel s = r) := by
    intro m
    induction m with
    | zero =>
      intro fuel k s hk hf hi
      obtain ⟨q, rfl⟩ : ∃ q, fuel = q + 1 := ⟨fuel - 1, by omega⟩
      have : k = n := by omega
      subst this
      exact Or.inl ⟨s, hi, fun t r hr => hr _⟩
    | succ m ih =>
      intro fuel k s hk hf hi
      obtain ⟨q, rfl⟩ : ∃ q, fuel = q + 1 := ⟨fuel - 1, by omega⟩
      rcases hstep k s (by omega) hi with ⟨s1, h1, h2⟩ | ⟨r, h1, h2⟩
      · rcases ih q (k + 1) s1 (by omega) (by omega) h1 with ⟨s', h3, h4⟩ | ⟨r, h3, h4⟩
        · exact Or.inl ⟨s', h3, fun t r hr => by show f t (fixF (f t) q) s = r; rw [h2]; exact h4 t r hr⟩
        · exact Or.inr ⟨r, h3, fun t => by show f t (fixF (f t) q) s = r; rw [h2]; exact h4 t⟩
      · exact Or.inr ⟨r, h1, fun t => by show f t (fixF (f t) q) s = r; rw [h2]⟩
  exact key n FUEL 0 s0 (by omega) hF h0
/-- the first pair that will do -/
def rowF (c : Nat → Nat → Bool) (a : Nat) : Nat → Option Nat
  | 0 => none
  | n + 1 => match rowF c a n with | some q => some q | none => if a < n ∧ c a n = true then some (10 * a + n) else none
def prF (c : Nat → Nat → Bool) (P : Nat) : Nat → Option Nat
  | 0 => none
  | a + 1 => match prF c P a with | some q => some q | none => rowF c a P
theorem rowF_lo {c : Nat → Nat → Bool} {a : Nat} : ∀ {n : Nat}, n ≤ a + 1 → rowF c a n = none
  | 0, _ => rfl
  | n + 1, h => by
    unfold rowF
    rw [rowF_lo (n := n) (by omega)]
    exact if_neg (fun q => by omega)
theorem rowF_go {c : Nat → Nat → Bool} {a n : Nat} (h : rowF c a n = none) (hc : c a n = false) : rowF c a (n + 1) = none := by
  unfold rowF
  rw [h]
  exact if_neg (fun q => by rw [hc] at q; cases q.2)
theorem rowF_hit {c : Nat → Nat → Bool} {a n : Nat} (h : rowF c a n = none) (ha : a < n) (hc : c a n = true) : ∀ {P : Nat}, n < P → rowF c a P = some (10 * a + n) := by
  intro P hP
  induction P with
  | zero => omega
  | succ P ih =>
    by_cases e : n = P
    · subst e
      unfold rowF
      rw [h]
      exact if_pos ⟨ha, hc⟩
    · unfold rowF
      rw [ih (by omega)]
theorem prF_go {c : Nat → Nat → Bool} {P a : Nat} (h : prF c P a = none) (hr : rowF c a P = none) : prF c P (a + 1) = none := by
  unfold prF
  rw [h]; exact hr
theorem prF_hit {c : Nat → Nat → Bool} {P a x : Nat} (h : prF c P a = none) (hr : rowF c a P = some x) : ∀ {m : Nat}, a < m → prF c P m = some x := by
  intro m hm
  induction m with
  | zero => omega
  | succ m ih =>
    by_cases e : a = m
    · subst e
      unfold prF
      rw [h]; exact hr
    · unfold prF
      rw [ih (by omega)]
theorem ten_nI (a b : Nat) : (10 : Int32) * nI a + nI b = nI (10 * a + b) := by
  rw [show (10 : Int32) = nI 10 from rfl, pk_mul, nI_add]
theorem sub_neg_iff {a b : Nat} (ha : a < 2 ^ 30) (hb : b < 2 ^ 30) : nI a - nI b < 0 ↔ a < b := by
  rw [fa_lt, pk_sub_toInt ha hb]
  have : (0 : Int32).toInt = 0 := by decide
  omega
def chC (A : Nt) (a b : Nat) : Bool := decide (mCh A a b a ≤ moO (prA 7 A) (nOd A) 0 a ∧ mCh A a b b ≤ moO (prA 7 A) (nOd A) 0 b ∧ mCh A a b a + mCh A a b b < moO (prA 7 A) (nOd A) 0 a + moO (prA 7 A) (nOd A) 0 b)
def CI (σ : St) (A : Nt) (s : St) : Prop := Fr [43, 44, 45, 54] σ s ∧ NowI s A ∧ PrC s 36 (prA 7 A) ∧ MoD s 40 (prA 7 A) (nOd A) 0
theorem changesC {σ : St} {A : Nt} (hN : NowI σ A) (hPr : PrC σ 36 (prA 7 A)) (hMo : MoD σ 40 (prA 7 A) (nOd A) 0) : ∃ s, F_AC_changes_6 0 σ = some (bI (prF (chC A) (nP A) (nP A)), s) ∧ Fr [43, 44, 45, 54] σ s := by
  have hO := hN.1
  have hP := hO.P
  have hz := prA_ok hO 7
  -- one row
  have inner : ∀ a s, a < nP A → CI σ A s → (∃ s', CI σ A s' ∧ rowF (chC A) a (nP A) = none ∧ ∀ K6, F_AC_changes_21 K6 (nI a) (nI (a + 1)) s = K6 (nI (a + 1), s')) ∨ (∃ x s', CI σ A s' ∧ rowF (chC A) a (nP A) = some x ∧ ∀ K6, F_AC_changes_21 K6 (nI a) (nI (a + 1)) s = some (nI x, s')) := by
    intro a s ha hs
    have := fix_exitK (f := fun K6 : Int32 × St → Option (Int32 × St) => G_AC_changes_21 K6 (nI a)) (n := nP A - (a + 1)) (s0 := (nI (a + 1), s)) (fun k q => q.1 = nI (a + 1 + k) ∧ CI σ A q.2 ∧ rowF (chC A) a (a + 1 + k) = none) (fun r => ∃ x s', CI σ A s' ∧ rowF (chC A) a (nP A) = some x ∧ r = some (nI x, s')) (by rw [fuel_val]; omega) ⟨rfl, hs, rowF_lo (by omega)⟩ (by
      rintro k ⟨w, s⟩ hk ⟨hw, ⟨hf, hNs, hPs, hMs⟩, hn⟩
      simp only at hw hf hNs hPs hMs
      subst hw
      obtain ⟨b, hbe⟩ : ∃ b, b = a + 1 + k := ⟨_, rfl⟩
      have hb : b < nP A := by omega
      have hab : a < b := by omega
      have hb1 : a + 1 + (k + 1) = b + 1 := by omega
      rw [hb1]
      rw [← hbe] at hn ⊢
      · obtain ⟨t, c1, c2, hNt, c3, c4⟩ := holdChangedC hNs hPs ha hb (by omega)
        have hMt := hMs.fr c2 (by decide) (by decide) (by decide)
        have ta := moO_le hz (od := nOd A) (T0 := 0) ha
        have tb := moO_le hz (od := nOd A) (T0 := 0) hb
        have oa : mCh A a b a ≤ 78 := moO_le hz ha
        have ob : mCh A a b b ≤ 78 := moO_le hz hb
        have hCt : CI σ A t := ⟨hf.two c2, hNt, c3, hMt⟩
        have hrun : ∀ K6 K21 : Int32 × St → Option (Int32 × St), H_AC_changes_21 K6 (nI a) K21 (nI b) s = if chC A a b = true then some (nI (10 * a + b), t) else K21 (nI (b + 1), t) := fun K6 K21 => by
          unfold H_AC_changes_21 F_AC_changes_110
          rw [show rd s 1 1 = nI (nP A) from hNs.2.2.1.2.1, if_neg (nI_ge hb (by omega)), c1, Option.bind_some, atC al_42 (by omega), Option.bind_some]
          simp only
          rw [atC al_45 (by omega), Option.bind_some, Option.bind_some]
          simp only
          rw [atC al_42 (by omega), Option.bind_some]
          simp only
          rw [atC al_45 (by omega), Option.bind_some, Option.bind_some, (hMt.2.2.2.2 a ha).2, (hMt.2.2.2.2 b hb).2, (c4.2.2.2.2 a ha).2, (c4.2.2.2.2 b hb).2]
          have ea : moO (prA 7 A) (sw (nOd A) a b) 0 a = mCh A a b a := rfl
          have eb : moO (prA 7 A) (sw (nOd A) a b) 0 b = mCh A a b b := rfl
          rw [ea, eb, ten_nI, nI_1]
          unfold chC
          by_cases g1 : mCh A a b a ≤ moO (prA 7 A) (nOd A) 0 a
          · rw [if_neg (fun q => by rw [sub_neg_iff (by omega) (by omega)] at q; omega)]
            by_cases g2 : mCh A a b b ≤ moO (prA 7 A) (nOd A) 0 b
            · rw [if_neg (fun q => by rw [sub_neg_iff (by omega) (by omega)] at q; omega), pk_sub g1, pk_sub g2, nI_add]
              by_cases g3 : mCh A a b a + mCh A a b b < moO (prA 7 A) (nOd A) 0 a + moO (prA 7 A) (nOd A) 0 b
              · rw [if_neg (show ¬ nI _ ≤ (0 : Int32) from nI_ge (a := 0) (by omega) (by omega)), if_pos (decide_eq_true ⟨g1, g2, g3⟩)]
              · rw [if_pos (show nI _ ≤ (0 : Int32) from nI_le (b := 0) (by omega) (by omega)), if_neg (by simp; intros; omega)]
            · rw [if_pos ((sub_neg_iff (by omega) (by omega)).mpr (by omega)), if_neg (by simp; intros; omega)]
          · rw [if_pos ((sub_neg_iff (by omega) (by omega)).mpr (by omega)), if_neg (by simp; intros; omega)]
        cases hc : chC A a b with
        | true =>
          right
          refine ⟨some (nI (10 * a + b), t), ⟨10 * a + b, t, hCt, rowF_hit hn hab hc hb, rfl⟩, fun K6 K => ?_⟩
          exact (hrun K6 K).trans (if_pos hc)
        | false =>
          left
          exact ⟨(nI (b + 1), t), ⟨rfl, hCt, rowF_go hn hc⟩, fun K6 K => (hrun K6 K).trans (if_neg (by rw [hc]; decide))⟩)
    rcases this with ⟨⟨w, s'⟩, ⟨hw, hC, hn⟩, hr⟩ | ⟨r, ⟨x, s', hC, hx, rfl⟩, hr⟩
    · left
      simp only at hw hC
      rw [show a + 1 + (nP A - (a + 1)) = nP A by omega] at hn hw
      refine ⟨s', hC, hn, fun K6 => hr K6 _ (fun K => ?_)⟩
      show H_AC_changes_21 K6 (nI a) K w s' = _
      unfold H_AC_changes_21
      rw [hw, show rd s' 1 1 = nI (nP A) from hC.2.1.2.2.1.2.1, if_pos (Int32.le_refl _), nI_1]
    · exact Or.inr ⟨x, s', hC, hx, fun K6 => hr K6⟩
  have := fix_inv (f := G_AC_changes_6) (n := nP A) (s0 := (nI 0, σ)) (fun a q => q.1 = nI a ∧ CI σ A q.2 ∧ prF (chC A) (nP A) a = none) (fun r => ∃ s, r = some (bI (prF (chC A) (nP A) (nP A)), s) ∧ Fr [43, 44, 45, 54] σ s) (by rw [fuel_val]; omega) ⟨rfl, ⟨Fr.rf, hN, hPr, hMo⟩, rfl⟩ (by
    rintro a ⟨w, s⟩ ha ⟨hw, hC, hn⟩
    simp only at hw hC
    subst hw
    have hstart : ∀ K, H_AC_changes_6 K (nI a) s = F_AC_changes_21 K (nI a) (nI (a + 1)) s := fun K => by
      unfold H_AC_changes_6
      rw [show rd s 1 1 = nI (nP A) from hC.2.1.2.2.1.2.1, if_neg (nI_ge ha (by omega)), Option.bind_some, nI_1]
    rcases inner a s ha hC with ⟨s', hC', hr, hrun⟩ | ⟨x, s', hC', hr, hrun⟩
    · exact Or.inl ⟨(nI (a + 1), s'), ⟨rfl, hC', prF_go hn hr⟩, fun K => (hstart K).trans (hrun K)⟩
    · exact Or.inr ⟨some (nI x, s'), ⟨s', by rw [prF_hit hn hr ha]; rfl, hC'.1⟩, fun K => (hstart K).trans (hrun K)⟩) (by
    rintro ⟨w, s⟩ ⟨hw, hC, hn⟩
    simp only at hw hC
    refine ⟨some (-9, s), ⟨s, by rw [hn]; rfl, hC.1⟩, fun K => ?_⟩
    show H_AC_changes_6 K w s = _
    unfold H_AC_changes_6
    rw [hw, show rd s 1 1 = nI (nP A) from hC.2.1.2.2.1.2.1, if_pos (Int32.le_refl _)])
  obtain ⟨s, h1, h2⟩ := this
  exact ⟨s, h1, h2⟩
theorem areBetterM {σ : St} {A : Nt} (hN : NowI σ A) {a b : Nat} (ha : a < nP A) (hb : b < nP A) (hab : a ≠ b) : ∃ s, F_MD_areBetter (nI a) (nI b) σ = some (zI (chC A a b), s) ∧ Fr [73, 74] σ s ∧ NowI s A := by
  have hO := hN.1
  have hP := hO.P
  have hz := prA_ok hO 7
  have ho := hO.od
  have pa := ho.plc_lt ha
  have pb := ho.plc_lt hb
  obtain ⟨s0, b1, b2, hN0, b3, b4⟩ := todayM hN
  obtain ⟨s1, s4, a1, a2, a3, a4, a5, a6, a7⟩ := chgM hN0 ha hb hab
  have ta := moO_le hz (od := nOd A) (T0 := 0) ha
  have tb := moO_le hz (od := nOd A) (T0 := 0) hb
  have oa : mCh A a b a ≤ 78 := moO_le hz ha
  have ob : mCh A a b b ≤ 78 := moO_le hz hb
  refine ⟨s4, ?_, b2.two a5, a6⟩
  have ha4 : F_MD_hasMonths (nI a) s4 = some (nI (mCh A a b a), s4) := hasM7 a6 ha (a7 a ha)
  have hb4 : F_MD_hasMonths (nI b) s4 = some (nI (mCh A a b b), s4) := hasM7 a6 hb (a7 b hb)
  unfold F_MD_areBetter F_MD_areBetter_88
  rw [b1, Option.bind_some, hasM7 hN0 ha (b4 a ha), Option.bind_some]
  simp only
  rw [hasM7 hN0 hb (b4 b hb), Option.bind_some]
  simp only
  rw [a1, Option.bind_some, a2, Option.bind_some]
  simp only
  rw [stk al_74 (by omega), Option.bind_some, a3, Option.bind_some]
  simp only
  rw [stk al_74 (by omega), Option.bind_some, a4, Option.bind_some, ha4, Option.bind_some]
  simp only
  rw [hb4, Option.bind_some]
  simp only
  rw [ha4, Option.bind_some]
  simp only
  rw [hb4, Option.bind_some]
  simp only
  rw [nI_add, nI_add]
  unfold chC
  by_cases g1 : mCh A a b a ≤ moO (prA 7 A) (nOd A) 0 a
  · rw [if_neg (nI_nlt g1 (by omega))]
    by_cases g2 : mCh A a b b ≤ moO (prA 7 A) (nOd A) 0 b
    · rw [if_neg (nI_nlt g2 (by omega))]
      by_cases g3 : mCh A a b a + mCh A a b b < moO (prA 7 A) (nOd A) 0 a + moO (prA 7 A) (nOd A) 0 b
      · rw [if_neg (nI_ge g3 (by omega)), decide_eq_true (⟨g1, g2, g3⟩ : _ ∧ _ ∧ _)]; rfl
      · rw [if_pos (nI_le (by omega) (by omega)), decide_eq_false (fun q => g3 q.2.2)]; rfl
    · rw [if_pos (nI_lt (by omega) (by omega)), decide_eq_false (fun q => g2 q.2.1)]; rfl
  · rw [if_pos (nI_lt (by omega) (by omega)), decide_eq_false (fun q => g1 q.1)]; rfl
theorem changesM {σ : St} {A : Nt} (hN : NowI σ A) : ∃ s, F_MD_changes σ = some (bI (prF (chC A) (nP A) (nP A)), s) ∧ Fr [73, 74] σ s := by
  have hO := hN.1
  have hP := hO.P
  have inner : ∀ a s, a < nP A → Fr [73, 74] σ s → (∃ s', Fr [73, 74] σ s' ∧ rowF (chC A) a (nP A) = none ∧ ∀ K6, F_MD_changes_14 K6 (nI a) (nI (a + 1)) s = K6 (nI (a + 1), s')) ∨ (∃ x s', Fr [73, 74] σ s' ∧ rowF (chC A) a (nP A) = some x ∧ ∀ K6, F_MD_changes_14 K6 (nI a) (nI (a + 1)) s = some (nI x, s')) := by
    intro a s ha hs
    have := fix_exitK (f := fun K6 : Int32 × St → Option (Int32 × St) => G_MD_changes_14 K6 (nI a)) (n := nP A - (a + 1)) (s0 := (nI (a + 1), s)) (fun k q => q.1 = nI (a + 1 + k) ∧ Fr [73, 74] σ q.2 ∧ rowF (chC A) a (a + 1 + k) = none) (fun r => ∃ x s', Fr [73, 74] σ s' ∧ rowF (chC A) a (nP A) = some x ∧ r = some (nI x, s')) (by rw [fuel_val]; omega) ⟨rfl, hs, rowF_lo (by omega)⟩ (by
      rintro k ⟨w, s⟩ hk ⟨hw, hf, hn⟩
      simp only at hw hf
      subst hw
      obtain ⟨b, hbe⟩ : ∃ b, b = a + 1 + k := ⟨_, rfl⟩
      have hb : b < nP A := by omega
      have hab : a < b := by omega
      have hb1 : a + 1 + (k + 1) = b + 1 := by omega
      rw [hb1]
      rw [← hbe] at hn ⊢
      have hNs : NowI s A := hN.q (Qf.of hf (by decide))
      obtain ⟨t, c1, c2, hNt⟩ := areBetterM hNs ha hb (by omega)
      have hrun : ∀ K6 K21 : Int32 × St → Option (Int32 × St), H_MD_changes_14 K6 (nI a) K21 (nI b) s = if chC A a b = true then some (nI (10 * a + b), t) else K21 (nI (b + 1), t) := fun K6 K21 => by
        unfold H_MD_changes_14
        rw [show rd s 58 10 = nI (nP A) from hNs.2.2.2.1.1.2.1, if_neg (nI_ge hb (by omega)), c1, Option.bind_some]
        simp only [zI_eq0]
        rw [ten_nI, nI_1]
        cases chC A a b <;> rfl
      cases hc : chC A a b with
      | true => exact Or.inr ⟨some (nI (10 * a + b), t), ⟨10 * a + b, t, hf.two c2, rowF_hit hn hab hc hb, rfl⟩, fun K6 K => (hrun K6 K).trans (if_pos hc)⟩
      | false => exact Or.inl ⟨(nI (b + 1), t), ⟨rfl, hf.two c2, rowF_go hn hc⟩, fun K6 K => (hrun K6 K).trans (if_neg (by rw [hc]; decide))⟩)
    rcases this with ⟨⟨w, s'⟩, ⟨hw, hC, hn⟩, hr⟩ | ⟨r, ⟨x, s', hC, hx, rfl⟩, hr⟩
    · left
      simp only at hw hC
      rw [show a + 1 + (nP A - (a + 1)) = nP A by omega] at hn hw
      refine ⟨s', hC, hn, fun K6 => hr K6 _ (fun K => ?_)⟩
      show H_MD_changes_14 K6 (nI a) K w s' = _
      unfold H_MD_changes_14
      rw [hw, show rd s' 58 10 = nI (nP A) from (hN.q (Qf.of hC (by decide))).2.2.2.1.1.2.1, if_pos (Int32.le_refl _), nI_1]
    · exact Or.inr ⟨x, s', hC, hx, fun K6 => hr K6⟩
  have := fix_inv (f := G_MD_changes_2) (n := nP A) (s0 := (nI 0, σ)) (fun a q => q.1 = nI a ∧ Fr [73, 74] σ q.2 ∧ prF (chC A) (nP A) a = none) (fun r => ∃ s, r = some (bI (prF (chC A) (nP A) (nP A)), s) ∧ Fr [73, 74] σ s) (by rw [fuel_val]; omega) ⟨rfl, Fr.rf, rfl⟩ (by
    rintro a ⟨w, s⟩ ha ⟨hw, hC, hn⟩
    simp only at hw hC
    subst hw
    have hstart : ∀ K, H_MD_changes_2 K (nI a) s = F_MD_changes_14 K (nI a) (nI (a + 1)) s := fun K => by
      unfold H_MD_changes_2
      rw [show rd s 58 10 = nI (nP A) from (hN.q (Qf.of hC (by decide))).2.2.2.1.1.2.1, if_neg (nI_ge ha (by omega)), Option.bind_some, nI_1]
    rcases inner a s ha hC with ⟨s', hC', hr, hrun⟩ | ⟨x, s', hC', hr, hrun⟩
    · exact Or.inl ⟨(nI (a + 1), s'), ⟨rfl, hC', prF_go hn hr⟩, fun K => (hstart K).trans (hrun K)⟩
    · exact Or.inr ⟨some (nI x, s'), ⟨s', by rw [prF_hit hn hr ha]; rfl, hC'⟩, fun K => (hstart K).trans (hrun K)⟩) (by
    rintro ⟨w, s⟩ ⟨hw, hC, hn⟩
    simp only at hw hC
    refine ⟨some (-9, s), ⟨s, by rw [hn]; rfl, hC⟩, fun K => ?_⟩
    show H_MD_changes_2 K w s = _
    unfold H_MD_changes_2
    rw [hw, show rd s 58 10 = nI (nP A) from (hN.q (Qf.of hC (by decide))).2.2.2.1.1.2.1, if_pos (Int32.le_refl _)])
  obtain ⟨s, h1, h2⟩ := this
  exact ⟨s, h1, h2⟩
theorem op_changes : Ask F_AC_changes F_MD_changes := by
  intro σ h
  obtain ⟨A, hall⟩ := id h
  obtain ⟨s1, a1, a2, hN1, a3, a4⟩ := todayC hall.1
  obtain ⟨s2, b1, b2⟩ := changesC hN1 a3 a4
  obtain ⟨s3, c1, c2⟩ := changesM (hN1.q (Qf.of b2 (by decide)))
  refine ⟨_, s2, s3, (?_ : F_AC_changes σ = some (bI (prF (chC A) (nP A) (nP A)), s2)), c1, INV.q hall (((Qf.of a2 (by decide)).tr (Qf.of b2 (by decide))).tr (Qf.of c2 (by decide)))⟩
  unfold F_AC_changes
  rw [a1, Option.bind_some]
  exact b1
