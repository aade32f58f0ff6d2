-- the smaller calls
theorem bid {α β : Type} (x : Option (α × β)) : (x.bind fun o => some (o.1, o.2)) = x := by cases x <;> rfl
theorem if1 {σ : St} {α : Type} {x y : α} : (if ((1 : Int32), σ).1 = 0 then x else y) = y := if_neg (show ¬ (1 : Int32) = 0 by decide)
theorem if0 {σ : St} {α : Type} {x y : α} : (if ((0 : Int32), σ).1 = 0 then x else y) = x := if_pos rfl
section IN
variable {σ : St} {A : Nt} {t : Nat}
theorem isPersonM_in (h : MdN σ A t) (hO : OkN A) {p : Nat} (hp : p < nP A) : F_MD_isPerson (nI p) σ = some (1, σ) := by
  have hP := hO.P
  unfold F_MD_isPerson
  rw [show rd σ 58 10 = nI (nP A) from h.1.2.1, if_neg (nI_pos (by omega)), if_neg (nI_ge hp (by omega))]
theorem isPersonM_out (h : MdN σ A t) {a : Int32} (ha : a < 0 ∨ nI (nP A) ≤ a) : F_MD_isPerson a σ = some (0, σ) := by
  unfold F_MD_isPerson F_MD_isPerson_16
  rw [show rd σ 58 10 = nI (nP A) from h.1.2.1]
  rcases ha with q | q
  · rw [if_pos q]
  · rw [if_pos q]
    split <;> rfl
theorem isDeedM_in (h : MdN σ A t) (hO : OkN A) {d : Nat} (hd : d < nD A) : F_MD_isDeed (nI d) σ = some (1, σ) := by
  have hD := hO.D
  unfold F_MD_isDeed
  rw [show rd σ 58 9 = nI (nD A) from h.1.1, if_neg (nI_pos (by omega)), if_neg (nI_ge hd (by omega))]
theorem isDeedM_out (h : MdN σ A t) {a : Int32} (ha : a < 0 ∨ nI (nD A) ≤ a) : F_MD_isDeed a σ = some (0, σ) := by
  unfold F_MD_isDeed F_MD_isDeed_16
  rw [show rd σ 58 9 = nI (nD A) from h.1.1]
  rcases ha with q | q
  · rw [if_pos q]
  · rw [if_pos q]
    split <;> rfl
/-- one of the people, or not -/
theorem perC {n : Nat} (hA : AbsC σ n A) (hO : OkN A) (a : Int32) : (∃ p, p < nP A ∧ a = nI p) ∨ (a < 0 ∨ nI (nP A) ≤ a) := by
  have hP := hO.P
  rcases pk_ix a (n := nP A) (by omega) with h | h | h
  · exact Or.inr (Or.inl h)
  · exact Or.inr (Or.inr h)
  · exact Or.inl h
theorem deeC {n : Nat} (hA : AbsC σ n A) (hO : OkN A) (a : Int32) : (∃ p, p < nD A ∧ a = nI p) ∨ (a < 0 ∨ nI (nD A) ≤ a) := by
  have hD := hO.D
  rcases pk_ix a (n := nD A) (by omega) with h | h | h
  · exact Or.inr (Or.inl h)
  · exact Or.inr (Or.inr h)
  · exact Or.inl h
end IN
/-- the model's half behind the class's refusal -/
theorem NowI.r57 {σ τ : St} {A : Nt} (h : NowI σ A) (he : ∀ b j, b ≠ 57 → rd τ b j = rd σ b j) : NowI τ A := h.un (fun b j q => he b j (by omega))
theorem op_deed (a b : Int32) : Ask (F_AC_deed a b) (F_MD_deed a b) := by
  intro σ h
  obtain ⟨A, hN, hrest⟩ := id h
  have hO := hN.1
  have hA := hN.2.2.1
  have hM := hN.2.2.2.1
  have hD := hO.D
  rcases deeC hA hO a with ⟨d, hd, rfl⟩ | ho
  · have e1 : rd σ 2 d = nI (nK A d) := (hA.2.2.1 d hd).1
    have e2 : rd σ 3 d = nI (nF A d) := (hA.2.2.1 d hd).2
    have m1 : rd σ 60 d = nI (nK A d) := (hM.1.2.2.1 d hd).1
    have m2 : rd σ 61 d = nI (nF A d) := (hM.1.2.2.1 d hd).2
    by_cases b0 : b = 0
    · refine ⟨nI (nK A d), σ, σ, ?_, ?_, h⟩
      · unfold F_AC_deed
        rw [hasDeedC_in hA hO hd, Option.bind_some, if1, if_pos b0, bid, atC al_2 (by omega), e1]
      · unfold F_MD_deed
        rw [isDeedM_in hM hO hd, Option.bind_some, if1, if_pos b0, ldk al_60 (by omega), Option.bind_some, m1]
    · by_cases b1 : b = 1
      · refine ⟨nI (nF A d), σ, σ, ?_, ?_, h⟩
        · unfold F_AC_deed
          rw [hasDeedC_in hA hO hd, Option.bind_some, if1, if_neg b0, if_pos b1, bid, atC al_3 (by omega), e2]
        · unfold F_MD_deed
          rw [isDeedM_in hM hO hd, Option.bind_some, if1, if_neg b0, if_pos b1, ldk al_61 (by omega), Option.bind_some, m2]
      · refine Ask.no h (k := 2) (x := -2) (by decide) (by decide) ?_ (fun τ hτ => ?_)
        · unfold F_AC_deed
          rw [hasDeedC_in hA hO hd, Option.bind_some, if1, if_neg b0, if_neg b1, bid]
        · unfold F_MD_deed
          rw [isDeedM_in (hN.r57 hτ).2.2.2.1 hO hd, Option.bind_some, if1, if_neg b0, if_neg b1, bid]
  · refine Ask.no h (k := 1) (x := -1) (by decide) (by decide) ?_ (fun τ hτ => ?_)
    · unfold F_AC_deed
      rw [hasDeedC_out hA hO ho, Option.bind_some, if0, bid]
    · unfold F_MD_deed
      rw [isDeedM_out (hN.r57 hτ).2.2.2.1 ho, Option.bind_some, if0, bid]
theorem op_months (a b : Int32) : Ask (F_AC_months a b) (F_MD_months a b) := by
  intro σ h
  obtain ⟨A, hN, hrest⟩ := id h
  have hO := hN.1
  have hA := hN.2.2.1
  have hM := hN.2.2.2.1
  rcases perC hA hO a with ⟨p, hp, rfl⟩ | ho
  · rcases deeC hA hO b with ⟨d, hd, rfl⟩ | ho
    · refine ⟨nI (costT 7 A p d), σ, σ, ?_, ?_, h⟩
      · unfold F_AC_months
        rw [hasPersonC_in hA hO hp, Option.bind_some, if1, hasDeedC_in hA hO hd, Option.bind_some, if1, bid, monthsForC isNI_1 hA hO hp hd]
      · unfold F_MD_months
        rw [isPersonM_in hM hO hp, Option.bind_some, if1, isDeedM_in hM hO hd, Option.bind_some, if1, bid, monthsOfM hM hO hp hd]
    · refine Ask.no h (k := 1) (x := -1) (by decide) (by decide) ?_ (fun τ hτ => ?_)
      · unfold F_AC_months F_AC_months_22
        rw [hasPersonC_in hA hO hp, Option.bind_some, if1, hasDeedC_out hA hO ho, Option.bind_some, if0, bid]
      · have hM' := (hN.r57 hτ).2.2.2.1
        unfold F_MD_months F_MD_months_25
        rw [isPersonM_in hM' hO hp, Option.bind_some, if1, isDeedM_out hM' ho, Option.bind_some, if0, bid]
  · refine Ask.no h (k := 1) (x := -1) (by decide) (by decide) ?_ (fun τ hτ => ?_)
    · unfold F_AC_months F_AC_months_22
      rw [hasPersonC_out hA hO ho, Option.bind_some, if0, bid]
    · have hM' := (hN.r57 hτ).2.2.2.1
      unfold F_MD_months F_MD_months_25
      rw [isPersonM_out hM' ho, Option.bind_some, if0, bid]
-- which deeds one may own to, as bits
def mayB (A : Nt) (p : Nat) : Nat → Nat
  | 0 => 0
  | k + 1 => if mayA A p k = true then mayB A p k ||| 2 ^ k else mayB A p k
theorem mayBitsC {σ : St} {n : Nat} {A : Nt} (hn : isNI n) (hA : AbsC σ n A) (hO : OkN A) {p : Nat} (hp : p < nP A) : F_NI_mayBits n (nI p) σ = some (nI (mayB A p (nD A)), σ) := by
  have hD := hO.D
  unfold F_NI_mayBits F_NI_mayBits_4
  refine fix_up (n := nD A) (fun k => (nI (mayB A p k), nI k, σ)) (by rw [fuel_val]; omega) (fun K k hk => ?_) (fun K => ?_)
  · show H_NI_mayBits_4 n (nI p) K (nI (mayB A p k)) (nI k) σ = _
    unfold H_NI_mayBits_4 F_NI_mayBits_28
    rw [show rd σ n 0 = nI (nD A) from hA.1, if_neg (nI_ge hk (by omega)), mayC hn hA hO hp hk, Option.bind_some]
    simp only [zI_eq0]
    rw [show mayB A p (k + 1) = if mayA A p k = true then mayB A p k ||| 2 ^ k else mayB A p k from rfl]
    cases e : mayA A p k with
    | false => simp [nI_1]
    | true =>
      simp only [if_true, Bool.true_eq_false, if_false]
      rw [bitC (by omega), Option.bind_some]
      simp only
      rw [Option.bind_some, fa_or, nI_1]
  · show H_NI_mayBits_4 n (nI p) K _ (nI (nD A)) σ = _
    unfold H_NI_mayBits_4
    rw [show rd σ n 0 = nI (nD A) from hA.1, if_pos (Int32.le_refl _)]
theorem mayBitsM {σ : St} {A : Nt} {t : Nat} (h : MdN σ A t) (hO : OkN A) {p : Nat} (hp : p < nP A) : F_MD_person_104 (nI p) 0 0 σ = some (nI (mayB A p (nD A)), σ) := by
  have hD := hO.D
  unfold F_MD_person_104
  refine fix_up (n := nD A) (fun k => (nI (mayB A p k), nI k, σ)) (by rw [fuel_val]; omega) (fun K k hk => ?_) (fun K => ?_)
  · show H_MD_person_104 (nI p) K (nI (mayB A p k)) (nI k) σ = _
    unfold H_MD_person_104 F_MD_person_132
    rw [show rd σ 58 9 = nI (nD A) from h.1.1, if_neg (nI_ge hk (by omega)), mayM h hO hp hk, Option.bind_some]
    simp only [zI_eq0]
    rw [show mayB A p (k + 1) = if mayA A p k = true then mayB A p k ||| 2 ^ k else mayB A p k from rfl]
    cases e : mayA A p k with
    | false => simp [nI_1]
    | true =>
      simp only [if_true, Bool.true_eq_false, if_false]
      rw [shl1 (by omega), Option.bind_some, fa_or, nI_1]
  · show H_MD_person_104 (nI p) K _ (nI (nD A)) σ = _
    unfold H_MD_person_104
    rw [show rd σ 58 9 = nI (nD A) from h.1.1, if_pos (Int32.le_refl _)]
theorem op_person (a b : Int32) : Ask (F_AC_person a b) (F_MD_person a b) := by
  intro σ h
  obtain ⟨A, hN, hrest⟩ := id h
  have hO := hN.1
  have hA := hN.2.2.1
  have hM := hN.2.2.2.1
  have hP := hO.P
  rcases perC hA hO a with ⟨p, hp, rfl⟩ | ho
  · obtain ⟨c3, c4, c5, c6, c7, c8⟩ := hA.2.2.2 p hp
    obtain ⟨m3, m4, m5, m6, m7, m8⟩ := hM.1.2.2.2 p hp
    have hp7 : p < 7 := by omega
    by_cases b0 : b = 0
    · refine ⟨nI (nR A p), σ, σ, ?_, ?_, h⟩
      · unfold F_AC_person
        rw [hasPersonC_in hA hO hp, Option.bind_some, if1, if_pos b0, bid, atC al_4 hp7]; exact congrArg (fun x => some (x, σ)) c3
      · unfold F_MD_person
        rw [isPersonM_in hM hO hp, Option.bind_some, if1, if_pos b0, ldk al_62 hp7, Option.bind_some]; exact congrArg (fun x => some (x, σ)) m3
    by_cases b1 : b = 1
    · refine ⟨nI (nC A p), σ, σ, ?_, ?_, h⟩
      · unfold F_AC_person
        rw [hasPersonC_in hA hO hp, Option.bind_some, if1, if_neg b0, if_pos b1, bid, atC al_5 hp7]; exact congrArg (fun x => some (x, σ)) c4
      · unfold F_MD_person
        rw [isPersonM_in hM hO hp, Option.bind_some, if1, if_neg b0, if_pos b1, ldk al_63 hp7, Option.bind_some]; exact congrArg (fun x => some (x, σ)) m4
    by_cases b2 : b = 2
    · refine ⟨nI (nDi A p), σ, σ, ?_, ?_, h⟩
      · unfold F_AC_person
        rw [hasPersonC_in hA hO hp, Option.bind_some, if1, if_neg b0, if_neg b1, if_pos b2, bid, atC al_6 hp7]; exact congrArg (fun x => some (x, σ)) c5
      · unfold F_MD_person
        rw [isPersonM_in hM hO hp, Option.bind_some, if1, if_neg b0, if_neg b1, if_pos b2, ldk al_64 hp7, Option.bind_some]; exact congrArg (fun x => some (x, σ)) m5
    by_cases b3 : b = 3
    · refine ⟨bI (nB A p), σ, σ, ?_, ?_, h⟩
      · unfold F_AC_person
        rw [hasPersonC_in hA hO hp, Option.bind_some, if1, if_neg b0, if_neg b1, if_neg b2, if_pos b3, bid, atC al_7 hp7]; exact congrArg (fun x => some (x, σ)) c6
      · unfold F_MD_person
        rw [isPersonM_in hM hO hp, Option.bind_some, if1, if_neg b0, if_neg b1, if_neg b2, if_pos b3, ldk al_65 hp7, Option.bind_some]; exact congrArg (fun x => some (x, σ)) m6
    by_cases b4 : b = 4
    · refine ⟨nI (plc (nOd A) p (nP A)), σ, σ, ?_, ?_, h⟩
      · unfold F_AC_person
        rw [hasPersonC_in hA hO hp, Option.bind_some, if1, if_neg b0, if_neg b1, if_neg b2, if_neg b3, if_pos b4, bid, placeOfC isNI_1 hA hO hp]
      · unfold F_MD_person
        rw [isPersonM_in hM hO hp, Option.bind_some, if1, if_neg b0, if_neg b1, if_neg b2, if_neg b3, if_pos b4, bid, placeOfM hP hO.od (fun k hk => (hM.1.2.2.2 k hk).2.2.2.2.2) hp]
    by_cases b5 : b = 5
    · refine ⟨nI (nAl A p), σ, σ, ?_, ?_, h⟩
      · unfold F_AC_person
        rw [hasPersonC_in hA hO hp, Option.bind_some, if1, if_neg b0, if_neg b1, if_neg b2, if_neg b3, if_neg b4, if_pos b5, bid, atC al_8 hp7]; exact congrArg (fun x => some (x, σ)) c7
      · unfold F_MD_person
        rw [isPersonM_in hM hO hp, Option.bind_some, if1, if_neg b0, if_neg b1, if_neg b2, if_neg b3, if_neg b4, if_pos b5, ldk al_66 hp7, Option.bind_some]; exact congrArg (fun x => some (x, σ)) m7
    by_cases b6 : b = 6
    · refine ⟨nI (mayB A p (nD A)), σ, σ, ?_, ?_, h⟩
      · unfold F_AC_person
        rw [hasPersonC_in hA hO hp, Option.bind_some, if1, if_neg b0, if_neg b1, if_neg b2, if_neg b3, if_neg b4, if_neg b5, if_pos b6, bid, mayBitsC isNI_1 hA hO hp]
      · unfold F_MD_person
        rw [isPersonM_in hM hO hp, Option.bind_some, if1, if_neg b0, if_neg b1, if_neg b2, if_neg b3, if_neg b4, if_neg b5, if_pos b6, mayBitsM hM hO hp]
    refine Ask.no h (k := 2) (x := -2) (by decide) (by decide) ?_ (fun τ hτ => ?_)
    · unfold F_AC_person
      rw [hasPersonC_in hA hO hp, Option.bind_some, if1, if_neg b0, if_neg b1, if_neg b2, if_neg b3, if_neg b4, if_neg b5, if_neg b6, bid]
    · unfold F_MD_person
      rw [isPersonM_in (hN.r57 hτ).2.2.2.1 hO hp, Option.bind_some, if1, if_neg b0, if_neg b1, if_neg b2, if_neg b3, if_neg b4, if_neg b5, if_neg b6, bid]
  · refine Ask.no h (k := 1) (x := -1) (by decide) (by decide) ?_ (fun τ hτ => ?_)
    · unfold F_AC_person
      rw [hasPersonC_out hA hO ho, Option.bind_some, if0, bid]
    · unfold F_MD_person
      rw [isPersonM_out (hN.r57 hτ).2.2.2.1 ho, Option.bind_some, if0, bid]
