-- swaps
theorem rowF_none {c : Nat → Nat → Bool} {a : Nat} : ∀ {n : Nat}, (∀ j, a < j → j < n → c a j = false) → rowF c a n = none
  | 0, _ => rfl
  | n + 1, h => by
    have ih := rowF_none (c := c) (a := a) (n := n) (fun j h1 h2 => h j h1 (by omega))
    unfold rowF
    rw [ih]
    exact if_neg (fun q => by rw [h n q.1 (by omega)] at q; cases q.2)
theorem rowF_first {c : Nat → Nat → Bool} {a j P : Nat} (h1 : a < j) (h2 : j < P) (h3 : c a j = true) (h4 : ∀ i, a < i → i < j → c a i = false) : rowF c a P = some (10 * a + j) :=
  rowF_hit (rowF_none h4) h1 h3 h2
theorem prF_none {c : Nat → Nat → Bool} {P : Nat} : ∀ {m : Nat}, (∀ a, a < m → rowF c a P = none) → prF c P m = none
  | 0, _ => rfl
  | m + 1, h => prF_go (prF_none (fun a ha => h a (by omega))) (h m (by omega))
theorem rowF_lt {c : Nat → Nat → Bool} {a x : Nat} : ∀ {n : Nat}, rowF c a n = some x → x < 10 * a + n
  | 0, h => by cases h
  | n + 1, h => by
    unfold rowF at h
    cases e : rowF c a n with
    | some y =>
      rw [e] at h
      cases h
      have := rowF_lt e
      omega
    | none =>
      rw [e] at h
      simp only at h
      split at h
      · cases h; omega
      · cases h
theorem prF_lt {c : Nat → Nat → Bool} {P x : Nat} : ∀ {m : Nat}, prF c P m = some x → x < 10 * m + P
  | 0, h => by cases h
  | m + 1, h => by
    unfold prF at h
    cases e : prF c P m with
    | some y =>
      rw [e] at h
      cases h
      have := prF_lt e
      omega
    | none =>
      rw [e] at h
      have := rowF_lt h
      omega
/-- from above: what stands at a place wins over what stood behind it -/
def dnR (c : Nat → Nat → Bool) (a P : Nat) (v : Option Nat) : Nat → Option Nat
  | 0 => v
  | k + 1 => if c a (P - 1 - k) = true then some (10 * a + (P - 1 - k)) else dnR c a P v k
theorem dnR_spec {c : Nat → Nat → Bool} {a P : Nat} {v : Option Nat} : ∀ k, k < P → (∃ j, P - k ≤ j ∧ j < P ∧ c a j = true ∧ (∀ i, P - k ≤ i → i < j → c a i = false) ∧ dnR c a P v k = some (10 * a + j)) ∨ ((∀ j, P - k ≤ j → j < P → c a j = false) ∧ dnR c a P v k = v)
  | 0, _ => Or.inr ⟨fun j h1 h2 => by omega, rfl⟩
  | k + 1, hk => by
    have e : dnR c a P v (k + 1) = if c a (P - 1 - k) = true then some (10 * a + (P - 1 - k)) else dnR c a P v k := rfl
    rw [e]
    cases hc : c a (P - 1 - k) with
    | true => exact Or.inl ⟨P - 1 - k, by omega, by omega, hc, fun i h1 h2 => by omega, if_pos rfl⟩
    | false =>
      rw [if_neg (by decide)]
      rcases dnR_spec (c := c) (a := a) (P := P) (v := v) k (by omega) with ⟨j, h1, h2, h3, h4, h5⟩ | ⟨h1, h2⟩
      · refine Or.inl ⟨j, by omega, h2, h3, fun i q1 q2 => ?_, h5⟩
        by_cases ei : i = P - 1 - k
        · rw [ei]; exact hc
        · exact h4 i (by omega) q2
      · refine Or.inr ⟨fun i q1 q2 => ?_, h2⟩
        by_cases ei : i = P - 1 - k
        · rw [ei]; exact hc
        · exact h1 i (by omega) q2
theorem dnR_row {c : Nat → Nat → Bool} {a P : Nat} (ha : a < P) (v : Option Nat) : dnR c a P v (P - 1 - a) = match rowF c a P with | some x => some x | none => v := by
  rcases dnR_spec (c := c) (a := a) (P := P) (v := v) (P - 1 - a) (by omega) with ⟨j, h1, h2, h3, h4, h5⟩ | ⟨h1, h2⟩
  · rw [h5, rowF_first (show a < j by omega) h2 h3 (fun i q1 q2 => h4 i (by omega) q2)]
  · rw [h2, rowF_none (fun j q1 q2 => h1 j (by omega) q2)]
def dnO (c : Nat → Nat → Bool) (P : Nat) : Nat → Option Nat
  | 0 => none
  | k + 1 => match rowF c (P - 1 - k) P with | some x => some x | none => dnO c P k
theorem dnO_spec {c : Nat → Nat → Bool} {P : Nat} : ∀ k, k ≤ P → (∃ a x, P - k ≤ a ∧ a < P ∧ rowF c a P = some x ∧ (∀ i, P - k ≤ i → i < a → rowF c i P = none) ∧ dnO c P k = some x) ∨ ((∀ a, P - k ≤ a → a < P → rowF c a P = none) ∧ dnO c P k = none)
  | 0, _ => Or.inr ⟨fun j h1 h2 => by omega, rfl⟩
  | k + 1, hk => by
    cases hc : rowF c (P - 1 - k) P with
    | some x =>
      refine Or.inl ⟨P - 1 - k, x, by omega, by omega, hc, fun i h1 h2 => by omega, ?_⟩
      unfold dnO
      rw [hc]
    | none =>
      have e : dnO c P (k + 1) = dnO c P k := by
        show (match rowF c (P - 1 - k) P with | some x => some x | none => dnO c P k) = _
        rw [hc]
      rw [e]
      rcases dnO_spec (c := c) (P := P) k (by omega) with ⟨a, x, h1, h2, h3, h4, h5⟩ | ⟨h1, h2⟩
      · refine Or.inl ⟨a, x, by omega, h2, h3, fun i q1 q2 => ?_, h5⟩
        by_cases ei : i = P - 1 - k
        · rw [ei]; exact hc
        · exact h4 i (by omega) q2
      · refine Or.inr ⟨fun i q1 q2 => ?_, h2⟩
        by_cases ei : i = P - 1 - k
        · rw [ei]; exact hc
        · exact h1 i (by omega) q2
theorem dnO_prF {c : Nat → Nat → Bool} {P : Nat} : dnO c P P = prF c P P := by
  rcases dnO_spec (c := c) (P := P) P (Nat.le_refl _) with ⟨a, x, h1, h2, h3, h4, h5⟩ | ⟨h1, h2⟩
  · rw [h5, prF_hit (prF_none (fun i hi => h4 i (by omega) hi)) h3 h2]
  · rw [h2, prF_none (fun a ha => h1 a (by omega) ha)]
/-- the one would take the other's -/
def mhB (A : Nt) (p q : Nat) : Bool := match lbK A p with
  | none => false
  | some x => match lbK A q with
    | none => false
    | some y => mayA A p y && decide (costT 7 A p y < costT 7 A p x)
def swC (A : Nt) (a b : Nat) : Bool := mhB A a b && mhB A b a
theorem mayC_none {σ : St} {n : Nat} {A : Nt} (hA : AbsC σ n A) (hO : OkN A) {p : Nat} (hp : p < nP A) : F_NI_may n (nI p) (-9) σ = some (0, σ) := by
  unfold F_NI_may
  rw [hasPersonC_in hA hO hp, Option.bind_some]
  simp only [one0, if_false]
  rw [hasDeedC_out hA hO (Or.inl n9_neg), Option.bind_some]
  rfl
theorem swStep {s : St} {A : Nt} (hN : NowI s A) (hL : ∀ p, p < nP A → rd s 47 p = bI (lbK A p)) {a b : Nat} (ha : a < nP A) (hb : b < nP A) (K2 K : Int32 × St → Option (Int32 × St)) : H_AC_firstSwap_17 K2 (nI a) K (nI b) s = if swC A a b = true then some (nI (10 * a + b), s) else K (nI (b + 1), s) := by
  have hO := hN.1
  have hP := hO.P
  have hA := hN.2.2.1
  unfold H_AC_firstSwap_17 F_AC_firstSwap_129
  rw [show rd s 1 1 = nI (nP A) from hA.2.1, if_neg (nI_ge hb (by omega)), atC al_47 (by omega), Option.bind_some]
  simp only
  rw [atC al_47 (by omega), Option.bind_some]
  simp only
  rw [hL a ha, hL b hb, nI_1, ten_nI]
  unfold swC mhB
  cases eb : lbK A b with
  | none =>
    rw [show F_NI_may 1 (nI a) (bI none) s = _ from mayC_none hA hO ha, Option.bind_some]
    simp only [if_true]
    cases ea : lbK A a <;> rfl
  | some y =>
    have hy := lbK_in eb
    rw [show F_NI_may 1 (nI a) (bI (some y)) s = _ from mayC isNI_1 hA hO ha hy, Option.bind_some]
    cases ea : lbK A a with
    | none =>
      rw [show F_NI_may 1 (nI b) (bI none) s = _ from mayC_none hA hO hb, Option.bind_some]
      simp only [if_true]
      rw [ite_self]
      rfl
    | some x =>
      have hx := lbK_in ea
      have c1 := costT_le hO 7 ha hy
      have c2 := costT_le hO 7 ha hx
      have c3 := costT_le hO 7 hb hx
      have c4 := costT_le hO 7 hb hy
      rw [show F_NI_may 1 (nI b) (bI (some x)) s = _ from mayC isNI_1 hA hO hb hx, Option.bind_some, show F_NI_monthsFor 1 (nI a) (bI (some y)) s = _ from monthsForC isNI_1 hA hO ha hy, Option.bind_some]
      simp only
      rw [show F_NI_monthsFor 1 (nI a) (bI (some x)) s = _ from monthsForC isNI_1 hA hO ha hx, Option.bind_some, show F_NI_monthsFor 1 (nI b) (bI (some x)) s = _ from monthsForC isNI_1 hA hO hb hx, Option.bind_some]
      simp only
      rw [show F_NI_monthsFor 1 (nI b) (bI (some y)) s = _ from monthsForC isNI_1 hA hO hb hy, Option.bind_some]
      simp only [zI_eq0]
      by_cases h1 : mayA A a y = true
      · by_cases h2 : mayA A b x = true
        · rw [if_neg (by rw [h1]; decide), if_neg (by rw [h2]; decide)]
          by_cases g1 : costT 7 A a y < costT 7 A a x
          · rw [if_neg (nI_ge g1 (by omega))]
            by_cases g2 : costT 7 A b x < costT 7 A b y
            · rw [if_neg (nI_ge g2 (by omega)), if_pos (by simp [h1, h2, g1, g2])]
            · rw [if_pos (nI_le (by omega) (by omega)), if_neg (by simp [g2])]
          · rw [if_pos (nI_le (by omega) (by omega)), if_neg (by simp [g1])]
        · have h2' : mayA A b x = false := by simpa using h2
          rw [if_neg (by rw [h1]; decide), if_pos h2', if_neg (by simp [h2'])]
      · have h1' : mayA A a y = false := by simpa using h1
        rw [if_pos h1', if_neg (by simp [h1'])]
theorem firstSwapC {σ : St} {A : Nt} (hN : NowI σ A) (hL : ∀ p, p < nP A → rd σ 47 p = bI (lbK A p)) : F_AC_firstSwap σ = some (bI (prF (swC A) (nP A) (nP A)), σ) := by
  have hO := hN.1
  have hP := hO.P
  have e1 : rd σ 1 1 = nI (nP A) := hN.2.2.1.2.1
  have inner : ∀ a, a < nP A → (rowF (swC A) a (nP A) = none ∧ ∀ K2, F_AC_firstSwap_17 K2 (nI a) (nI (a + 1)) σ = K2 (nI (a + 1), σ)) ∨ (∃ x, rowF (swC A) a (nP A) = some x ∧ ∀ K2, F_AC_firstSwap_17 K2 (nI a) (nI (a + 1)) σ = some (nI x, σ)) := by
    intro a ha
    have := fix_exitK (f := fun K2 : Int32 × St → Option (Int32 × St) => G_AC_firstSwap_17 K2 (nI a)) (n := nP A - (a + 1)) (s0 := (nI (a + 1), σ)) (fun k q => q = (nI (a + 1 + k), σ) ∧ rowF (swC A) a (a + 1 + k) = none) (fun r => ∃ x, rowF (swC A) a (nP A) = some x ∧ r = some (nI x, σ)) (by rw [fuel_val]; omega) ⟨rfl, rowF_lo (by omega)⟩ (by
      rintro k s hk ⟨rfl, hn⟩
      obtain ⟨b, hbe⟩ : ∃ b, b = a + 1 + k := ⟨_, rfl⟩
      have hb : b < nP A := by omega
      rw [show a + 1 + (k + 1) = b + 1 by omega]
      rw [← hbe] at hn ⊢
      have hrun := swStep hN hL ha hb
      cases hc : swC A a b with
      | true => exact Or.inr ⟨some (nI (10 * a + b), σ), ⟨10 * a + b, rowF_hit hn (by omega) hc hb, rfl⟩, fun K2 K => (hrun K2 K).trans (if_pos hc)⟩
      | false => exact Or.inl ⟨(nI (b + 1), σ), ⟨rfl, rowF_go hn hc⟩, fun K2 K => (hrun K2 K).trans (if_neg (by rw [hc]; decide))⟩)
    rcases this with ⟨s', ⟨rfl, hn⟩, hr⟩ | ⟨r, ⟨x, hx, rfl⟩, hr⟩
    · left
      rw [show a + 1 + (nP A - (a + 1)) = nP A by omega] at hn
      refine ⟨hn, fun K2 => hr K2 _ (fun K => ?_)⟩
      show H_AC_firstSwap_17 K2 (nI a) K (nI (a + 1 + (nP A - (a + 1)))) σ = _
      unfold H_AC_firstSwap_17
      rw [show a + 1 + (nP A - (a + 1)) = nP A by omega, e1, if_pos (Int32.le_refl _), nI_1]
    · exact Or.inr ⟨x, hx, fun K2 => hr K2⟩
  unfold F_AC_firstSwap F_AC_firstSwap_2
  refine fix_inv (f := G_AC_firstSwap_2) (n := nP A) (s0 := (nI 0, σ)) (fun a q => q = (nI a, σ) ∧ prF (swC A) (nP A) a = none) (fun r => r = some (bI (prF (swC A) (nP A) (nP A)), σ)) (by rw [fuel_val]; omega) ⟨rfl, rfl⟩ ?_ ?_
  · rintro a s ha ⟨rfl, hn⟩
    have hstart : ∀ K, H_AC_firstSwap_2 K (nI a) σ = F_AC_firstSwap_17 K (nI a) (nI (a + 1)) σ := fun K => by
      unfold H_AC_firstSwap_2
      rw [e1, if_neg (nI_ge ha (by omega)), Option.bind_some, nI_1]
    rcases inner a ha with ⟨hr, hrun⟩ | ⟨x, hr, hrun⟩
    · exact Or.inl ⟨(nI (a + 1), σ), ⟨rfl, prF_go hn hr⟩, fun K => (hstart K).trans (hrun K)⟩
    · exact Or.inr ⟨some (nI x, σ), by rw [prF_hit hn hr ha]; rfl, fun K => (hstart K).trans (hrun K)⟩
  · rintro s ⟨rfl, hn⟩
    refine ⟨some (-9, σ), by rw [hn]; rfl, fun K => ?_⟩
    show H_AC_firstSwap_2 K (nI (nP A)) σ = _
    unfold H_AC_firstSwap_2
    rw [e1, if_pos (Int32.le_refl _)]
theorem mayHaveM {σ : St} {A : Nt} (hN : NowI σ A) (hL : ∀ p, p < nP A → rd σ 73 p = bI (lbK A p)) {p q : Nat} (hp : p < nP A) (hq : q < nP A) : F_MD_mayHave (nI p) (nI q) σ = some (zI (mhB A p q), σ) := by
  have hO := hN.1
  have hP := hO.P
  have hM := hN.2.2.2.1
  have lp : ldA σ 73 (nI p) = some (bI (lbK A p)) := by rw [ldk al_73 (by omega), hL p hp]
  have lq : ldA σ 73 (nI q) = some (bI (lbK A q)) := by rw [ldk al_73 (by omega), hL q hq]
  unfold F_MD_mayHave F_MD_mayHave_55
  rw [lp, lq]
  simp only [Option.bind_some]
  unfold mhB
  cases ea : lbK A p with
  | none => rw [if_pos (show bI none < 0 from n9_neg)]; rfl
  | some x =>
    have hx := lbK_in ea
    have hD := hO.D
    rw [if_neg (show ¬ bI (some x) < 0 from nI_pos (by omega))]
    cases eb : lbK A q with
    | none => rw [if_pos (show bI none < 0 from n9_neg)]; rfl
    | some y =>
      have hy := lbK_in eb
      have c1 := costT_le hO 7 hp hy
      have c2 := costT_le hO 7 hp hx
      rw [if_neg (show ¬ bI (some y) < 0 from nI_pos (by omega)), show F_MD_may (nI p) (bI (some y)) σ = _ from mayM hM hO hp hy, Option.bind_some]
      simp only [zI_eq0]
      rw [lq, Option.bind_some, eb, show F_MD_monthsOf (nI p) (bI (some y)) σ = _ from monthsOfM hM hO hp hy, Option.bind_some]
      simp only
      rw [hasMonthsM hM hO hp (hL p hp) (fun d e => lbK_in e), Option.bind_some, ea]
      have hm : moZ (prA 7 A) p (some x) = costT 7 A p x := rfl
      simp only
      rw [hm]
      cases mayA A p y with
      | false => rfl
      | true =>
        simp only [Bool.true_eq_false, if_false, Bool.true_and]
        by_cases g1 : costT 7 A p y < costT 7 A p x
        · rw [if_neg (nI_ge g1 (by omega)), decide_eq_true g1]; rfl
        · rw [if_pos (nI_le (by omega) (by omega)), decide_eq_false g1]; rfl
theorem swapsM {σ : St} {A : Nt} (hN : NowI σ A) (hL : ∀ p, p < nP A → rd σ 73 p = bI (lbK A p)) (v : Int32) : F_MD_swaps_30 v (-9) (nI (nP A) - 1) σ = some (if v = 0 then bI (prF (swC A) (nP A) (nP A)) else if bI (prF (swC A) (nP A) (nP A)) = (-9 : Int32) then 1 else 0, σ) := by
  have hO := hN.1
  have hP := hO.P
  have e10 : rd σ 58 10 = nI (nP A) := hN.2.2.2.1.1.2.1
  have inner : ∀ a v2, a < nP A → ∀ K, F_MD_swaps_42 K v (bI v2) (nI a) (nI (nP A) - 1) σ = K (bI (match rowF (swC A) a (nP A) with | some x => some x | none => v2), nI a - 1, σ) := by
    intro a v2 ha K
    rw [← dnR_row ha v2]
    unfold F_MD_swaps_42
    refine fix_up (f := G_MD_swaps_42 K v (nI a)) (n := nP A - 1 - a) (fun k => (bI (dnR (swC A) a (nP A) v2 k), nI (nP A - k) - 1, σ)) (by rw [fuel_val]; omega) (fun K' k hk => ?_) (fun K' => ?_)
    · show H_MD_swaps_42 K v (nI a) K' (bI (dnR (swC A) a (nP A) v2 k)) (nI (nP A - k) - 1) σ = _
      have e : dnR (swC A) a (nP A) v2 (k + 1) = if swC A a (nP A - 1 - k) = true then some (10 * a + (nP A - 1 - k)) else dnR (swC A) a (nP A) v2 k := rfl
      obtain ⟨b, hbe⟩ : ∃ b, b = nP A - 1 - k := ⟨_, rfl⟩
      rw [← hbe] at e
      unfold H_MD_swaps_42 F_MD_swaps_78 F_MD_swaps_79
      rw [nI_dec (by omega), show nP A - k - 1 = b by omega, if_neg (nI_ge (by omega) (by omega)), mayHaveM hN hL ha (by omega), Option.bind_some]
      simp only [zI_eq0]
      rw [mayHaveM hN hL (by omega) ha, Option.bind_some]
      simp only [zI_eq0]
      rw [ten_nI, e, show nP A - (k + 1) = b by omega]
      unfold swC
      cases mhB A a b <;> cases mhB A b a <;> rfl
    · show H_MD_swaps_42 K v (nI a) K' (bI (dnR (swC A) a (nP A) v2 (nP A - 1 - a))) (nI (nP A - (nP A - 1 - a)) - 1) σ = _
      unfold H_MD_swaps_42
      rw [nI_dec (by omega), show nP A - (nP A - 1 - a) - 1 = a by omega, if_pos (Int32.le_refl _)]
  unfold F_MD_swaps_30
  refine fix_up (f := G_MD_swaps_30 v) (n := nP A) (fun k => (bI (dnO (swC A) (nP A) k), nI (nP A - k) - 1, σ)) (by rw [fuel_val]; omega) (fun K k hk => ?_) (fun K => ?_)
  · show H_MD_swaps_30 v K (bI (dnO (swC A) (nP A) k)) (nI (nP A - k) - 1) σ = _
    have e : dnO (swC A) (nP A) (k + 1) = match rowF (swC A) (nP A - 1 - k) (nP A) with | some x => some x | none => dnO (swC A) (nP A) k := rfl
    unfold H_MD_swaps_30
    rw [nI_dec (by omega), show nP A - k - 1 = nP A - 1 - k by omega, if_neg (nI_pos (by omega)), Option.bind_some, e10, inner _ _ (by omega), e, show nP A - (k + 1) = nP A - 1 - k by omega]
  · show H_MD_swaps_30 v K (bI (dnO (swC A) (nP A) (nP A))) (nI (nP A - nP A) - 1) σ = _
    unfold H_MD_swaps_30
    rw [Nat.sub_self, if_pos (by decide), dnO_prF]
    by_cases hv : v = 0
    · rw [if_pos hv, if_pos hv]
    · rw [if_neg hv, if_neg hv]
      cases e : prF (swC A) (nP A) (nP A) with
      | none => rw [if_neg (by decide : ¬ (0 : Int32) ≤ bI none), if_pos (show bI none = (-9 : Int32) from rfl)]
      | some x =>
        have hx : x < 1000 := by
          have := prF_lt e
          omega
        rw [if_pos (show (0 : Int32) ≤ bI (some x) from nI_pos' (by omega)), if_neg (show ¬ bI (some x) = (-9 : Int32) from n9_ne (by omega))]
theorem op_swaps (a : Int32) : Ask (F_AC_swaps a) (F_MD_swaps a) := by
  intro σ h
  obtain ⟨A, hall⟩ := id h
  have hN := hall.1
  have hP := hN.1.P
  rcases isIn_01 (σ := σ) (b := a) with ⟨hb, _⟩ | ⟨hb, _⟩
  · obtain ⟨s1, a1, a2, hN1, a3⟩ := fillN hN
    obtain ⟨s2, b1, b2, hN2, b3, b4, b5⟩ := lbCla hN1 a3
    obtain ⟨s3, c1, c2, hN3, c3, c4⟩ := lbMod hN2
    have hin : F_MD_isIn a 0 1 s2 = some (1, s2) := by
      rcases isIn_01 (σ := s2) (b := a) with ⟨_, e⟩ | ⟨hb2, _⟩
      · exact e
      · exfalso; rcases hb with rfl | rfl <;> revert hb2 <;> decide
    have hq := ((Qf.of (D := nD A) a2 (by decide)).tr (Qf.of b2 (by decide))).tr c2
    refine ⟨_, s2, s3, (?_ : F_AC_swaps a σ = some (if a = 0 then bI (prF (swC A) (nP A) (nP A)) else if bI (prF (swC A) (nP A) (nP A)) = (-9 : Int32) then 1 else 0, s2)), ?_, INV.q hall hq⟩
    · unfold F_AC_swaps
      rw [in_01 hb, a1, Option.bind_some, b1, Option.bind_some, firstSwapC hN2 (fun p hp => (b5 p hp).1), Option.bind_some]
      simp only
      split
      · rfl
      · split <;> rfl
    · unfold F_MD_swaps
      rw [hin, Option.bind_some, if1, c1, Option.bind_some, Option.bind_some, show rd s3 58 10 = nI (nP A) from hN3.2.2.2.1.1.2.1]
      exact swapsM hN3 c3 a
  · refine Ask.no h (k := 2) (x := -2) (by decide) (by decide) ?_ (fun τ hτ => ?_)
    · unfold F_AC_swaps F_AC_swaps_9
      rw [out_01 hb, bid]
    · unfold F_MD_swaps
      rw [show (1 : Int32) = nI 1 from rfl, isIn_out (m := 1) (by decide) hb, Option.bind_some, if0, bid]
