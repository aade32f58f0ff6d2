-- takes, morning, judge
/-- what all have taken, as bits -/
def tB (T0 : Nat) (tk : Nat → Option Nat) : Nat → Nat
  | 0 => T0
  | k + 1 => addT (tB T0 tk k) (tk k)
theorem tB_bit (T0 : Nat) (tk : Nat → Option Nat) (d : Nat) : ∀ k, (tB T0 tk k).testBit d = (T0.testBit d || decide (∃ p, p < k ∧ tk p = some d))
  | 0 => by
    have : ¬ ∃ p, p < 0 ∧ tk p = some d := fun ⟨p, h, _⟩ => absurd h (Nat.not_lt_zero _)
    simp [tB]
  | k + 1 => by
    show (addT (tB T0 tk k) (tk k)).testBit d = _
    rw [addT_bit, tB_bit T0 tk d k, Bool.or_assoc]
    congr 1
    by_cases h : tk k = some d
    · have : ∃ p, p < k + 1 ∧ tk p = some d := ⟨k, by omega, h⟩
      simp [h, this]
    · have e : (∃ p, p < k + 1 ∧ tk p = some d) ↔ ∃ p, p < k ∧ tk p = some d := ⟨fun ⟨p, h1, h2⟩ => ⟨p, by
        have : p ≠ k := fun q => h (q ▸ h2)
        omega, h2⟩, fun ⟨p, h1, h2⟩ => ⟨p, by omega, h2⟩⟩
      simp [h, e]
theorem mT_bit (Z : Pz) (od : Nat → Nat) (T0 d : Nat) : ∀ k, (mT Z od T0 k).testBit d = (T0.testBit d || decide (∃ j, j < k ∧ mC Z od T0 j = some d))
  | 0 => by
    have : ¬ ∃ p, p < 0 ∧ mC Z od T0 p = some d := fun ⟨p, h, _⟩ => absurd h (Nat.not_lt_zero _)
    simp [mT]
  | k + 1 => by
    show (addT (mT Z od T0 k) (mC Z od T0 k)).testBit d = _
    rw [addT_bit, mT_bit Z od T0 d k, Bool.or_assoc]
    congr 1
    by_cases h : mC Z od T0 k = some d
    · have : ∃ p, p < k + 1 ∧ mC Z od T0 p = some d := ⟨k, by omega, h⟩
      simp [h, this]
    · have e : (∃ p, p < k + 1 ∧ mC Z od T0 p = some d) ↔ ∃ p, p < k ∧ mC Z od T0 p = some d := ⟨fun ⟨p, h1, h2⟩ => ⟨p, by
        have : p ≠ k := fun q => h (q ▸ h2)
        omega, h2⟩, fun ⟨p, h1, h2⟩ => ⟨p, by omega, h2⟩⟩
      simp [h, e]
/-- the order they come in doesn't matter for what is taken in all -/
theorem tB_mT {Z : Pz} {od : Nat → Nat} (ho : OdOK (zP Z) od) (T0 : Nat) : tB T0 (tkO Z od T0) (zP Z) = mT Z od T0 (zP Z) := by
  apply Nat.eq_of_testBit_eq
  intro d
  rw [tB_bit, mT_bit]
  congr 1
  rw [decide_eq_decide]
  constructor
  · rintro ⟨p, hp, h⟩
    exact ⟨plc od p (zP Z), ho.plc_lt hp, h⟩
  · rintro ⟨j, hj, h⟩
    refine ⟨od j, ho.1 j hj, ?_⟩
    unfold tkO
    rw [ho.plc_od hj]; exact h
theorem NowI.q {σ τ : St} {A : Nt} (h : NowI σ A) (hq : Qf (nD A) σ τ) : NowI τ A := h.un (fun b j q => hq b j (by unfold Qd; omega))
theorem RowI.q {σ τ : St} {D : Nat} (h : RowI σ) (hq : Qf D σ τ) : RowI τ := h.un (fun b j q => hq b j (by unfold Qd; omega))
theorem Qf.rf {D : Nat} {σ : St} : Qf D σ σ := fun _ _ _ => rfl
/-- today's morning, on both sides -/
theorem todayC {σ : St} {A : Nt} (hN : NowI σ A) : ∃ s1, F_AC_holdToday σ = some s1 ∧ Fr [36, 37, 40, 41, 42] σ s1 ∧ NowI s1 A ∧ PrC s1 36 (prA 7 A) ∧ MoD s1 40 (prA 7 A) (nOd A) 0 := by
  obtain ⟨s1, a1, a2, a3, a4⟩ := holdTodayC hN.2.2.1 hN.1
  exact ⟨s1, a1, a2, hN.q (Qf.of a2 (by decide)), a3, a4⟩
theorem todayM {σ : St} {A : Nt} (hN : NowI σ A) : ∃ s2, F_MD_goes σ = some s2 ∧ Fr [73, 74] σ s2 ∧ NowI s2 A ∧ (∀ k, k < nP A → rd s2 74 k = nI (nOd A k)) ∧ ∀ p, p < nP A → rd s2 73 p = bI (tkO (prA 7 A) (nOd A) 0 p) := by
  obtain ⟨s2, b1, b2, b3, b4⟩ := goesM hN.2.2.2.1 hN.1 hN.2.2.2.2 (by decide)
  exact ⟨s2, b1, b2, hN.q (Qf.of b2 (by decide)), b3, b4⟩
theorem isIn_01 {σ : St} {b : Int32} : (b = 0 ∨ b = 1) ∧ F_MD_isIn b 0 1 σ = some (1, σ) ∨ (b < 0 ∨ nI 2 ≤ b) ∧ F_MD_isIn b 0 1 σ = some (0, σ) := by
  rcases pk_ix b (n := 2) (by decide) with h | h | ⟨k, hk, rfl⟩
  · exact Or.inr ⟨Or.inl h, isIn_out (m := 1) (by decide) (Or.inl h)⟩
  · exact Or.inr ⟨Or.inr h, isIn_out (m := 1) (by decide) (Or.inr h)⟩
  · refine Or.inl ⟨?_, isIn_in (m := 1) (by omega) (by decide)⟩
    rcases (show k = 0 ∨ k = 1 by omega) with rfl | rfl
    · exact Or.inl rfl
    · exact Or.inr rfl
theorem out_01 {α : Type} {b : Int32} {x y : α} (h : b < 0 ∨ nI 2 ≤ b) : (if b < 0 then x else if b ≤ (1 : Int32) then y else x) = x := by
  by_cases q : b < 0
  · rw [if_pos q]
  · rw [if_neg q, if_neg (show ¬ b ≤ (1 : Int32) from Int32.not_le.mpr (lt_nI (n := 1) (by decide) (h.resolve_left q)))]
theorem in_01 {α : Type} {b : Int32} {x y : α} (h : b = 0 ∨ b = 1) : (if b < 0 then x else if b ≤ (1 : Int32) then y else x) = y := by
  rcases h with rfl | rfl
  · rw [if_neg (by decide), if_pos (by decide)]
  · rw [if_neg (by decide), if_pos (by decide)]
theorem op_takes (a b : Int32) : Ask (F_AC_takes a b) (F_MD_takes a b) := by
  intro σ h
  obtain ⟨A, hall⟩ := id h
  have hN := hall.1
  obtain ⟨hO, hD, hA, hM, hg⟩ := id hN
  have hP := hO.P
  rcases perC hA hO a with ⟨p, hp, rfl⟩ | ho
  · rcases isIn_01 (σ := σ) (b := b) with ⟨hb, _⟩ | ⟨hb, _⟩
    · obtain ⟨s1, a1, a2, hN1, a3, a4⟩ := todayC hN
      obtain ⟨s2, b1, b2, hN2, b3, b4⟩ := todayM hN1
      have hin : F_MD_isIn b 0 1 s1 = some (1, s1) := by
        rcases isIn_01 (σ := s1) (b := b) with ⟨_, e⟩ | ⟨hb2, _⟩
        · exact e
        · exfalso; rcases hb with rfl | rfl <;> revert hb2 <;> decide
      have hq : Qf (nD A) σ s2 := (Qf.of a2 (by decide)).tr (Qf.of b2 (by decide))
      have hM1 := hN1.2.2.2.1
      obtain ⟨t1, t2⟩ := a4.2.2.2.2 p hp
      by_cases b0 : b = 0
      · refine ⟨bI (tkO (prA 7 A) (nOd A) 0 p), s1, s2, ?_, ?_, INV.q hall hq⟩
        · unfold F_AC_takes
          rw [hasPersonC_in hA hO hp, Option.bind_some, if1, in_01 hb, a1, Option.bind_some, if_pos b0, bid, atC al_41 (by omega), t1]
        · unfold F_MD_takes F_MD_takes_27
          rw [isPersonM_in hM1 hO hp, Option.bind_some, if1, hin, Option.bind_some, if1, if_pos rfl, b1, Option.bind_some, if_pos b0, ldk al_73 (by omega), Option.bind_some, b4 p hp]
      · refine ⟨nI (moO (prA 7 A) (nOd A) 0 p), s1, s2, ?_, ?_, INV.q hall hq⟩
        · unfold F_AC_takes
          rw [hasPersonC_in hA hO hp, Option.bind_some, if1, in_01 hb, a1, Option.bind_some, if_neg b0, bid, atC al_42 (by omega), t2]
        · unfold F_MD_takes F_MD_takes_27
          rw [isPersonM_in hM1 hO hp, Option.bind_some, if1, hin, Option.bind_some, if1, if_pos rfl, b1, Option.bind_some, if_neg b0, bid, hasMonthsM hN2.2.2.2.1 hO hp (b4 p hp) (fun d e => tkO_in e)]
          rfl
    · refine Ask.no h (k := 2) (x := -2) (by decide) (by decide) ?_ (fun τ hτ => ?_)
      · unfold F_AC_takes F_AC_takes_26
        rw [hasPersonC_in hA hO hp, Option.bind_some, if1, out_01 hb, bid]
      · unfold F_MD_takes F_MD_takes_27
        rw [isPersonM_in (hN.r57 hτ).2.2.2.1 hO hp, Option.bind_some, if1, show (1 : Int32) = nI 1 from rfl, isIn_out (m := 1) (by decide) hb, Option.bind_some]
        simp only [if_true]
        rw [if_neg (by decide), bid]
  · refine Ask.no h (k := 1) (x := -1) (by decide) (by decide) ?_ (fun τ hτ => ?_)
    · unfold F_AC_takes
      rw [hasPersonC_out hA hO ho, Option.bind_some, if0, bid]
    · unfold F_MD_takes F_MD_takes_27
      rw [isPersonM_out (hN.r57 hτ).2.2.2.1 ho, Option.bind_some, if0, if_neg (by decide), bid]
theorem leftM {σ : St} {A : Nt} {t : Nat} (h : MdN σ A t) (hO : OkN A) {tk : Nat → Option Nat} (htk : ∀ p, p < nP A → rd σ 73 p = bI (tk p)) (hin : ∀ p d, p < nP A → tk p = some d → d < nD A) {a : Int32} (h0 : a ≠ 0) (h1 : a ≠ 1) : F_MD_morning_31 a (nI (2 ^ nD A - 1)) 0 σ = some (nI (fr (nD A) (tB 0 tk (nP A))), σ) := by
  have hP := hO.P
  have hD := hO.D
  have e10 : rd σ 58 10 = nI (nP A) := h.1.2.1
  unfold F_MD_morning_31
  rw [← fr_0]
  refine fix_up (n := nP A) (fun k => (nI (fr (nD A) (tB 0 tk k)), nI k, σ)) (by rw [fuel_val]; omega) (fun K k hk => ?_) (fun K => ?_)
  · show H_MD_morning_31 a K (nI (fr (nD A) (tB 0 tk k))) (nI k) σ = _
    unfold H_MD_morning_31 F_MD_morning_63
    rw [e10, if_neg (nI_ge hk (by omega)), ldk al_73 (by omega), Option.bind_some, htk k hk]
    have eT : tB 0 tk (k + 1) = addT (tB 0 tk k) (tk k) := rfl
    cases e : tk k with
    | none =>
      rw [if_neg (by decide : ¬ (0 : Int32) ≤ bI none), Option.bind_some, eT, e, addT_none, Int32.and_neg_one, nI_1]
    | some d =>
      have hd := hin k d hk e
      rw [if_pos (show 0 ≤ bI (some d) from nI_pos' (by omega)), Option.bind_some, shl_b rfl (by omega), Option.bind_some, fr_take _ _ hD _ (fun x w => by cases w; exact hd), eT, e, nI_1]
  · show H_MD_morning_31 a K _ (nI (nP A)) σ = _
    unfold H_MD_morning_31
    rw [e10, if_pos (Int32.le_refl _), if_neg h0, if_neg h1]
theorem op_morning (a : Int32) : Ask (F_AC_morning a) (F_MD_morning a) := by
  intro σ h
  obtain ⟨A, hall⟩ := id h
  have hN := hall.1
  obtain ⟨s1, a1, a2, hN1, a3, a4⟩ := todayC hN
  obtain ⟨hO, hD, hA, hM, hg⟩ := id hN1
  have hD14 := hO.D
  obtain ⟨s2, b1, b2, hN2, b3, b4⟩ := todayM hN1
  have hq1 : Qf (nD A) σ s1 := Qf.of a2 (by decide)
  have hq : Qf (nD A) σ s2 := hq1.tr (Qf.of b2 (by decide))
  have hM2 := hN2.2.2.2.1
  have e9 : (1 : Int32) <<< ((rd s2 58 9) &&& 31) - 1 = nI (2 ^ nD A - 1) := by
    have hp : 0 < 2 ^ nD A := Nat.two_pow_pos _
    rw [show rd s2 58 9 = nI (nD A) from hM2.1.1, shl1 (by omega), nI_dec (by omega)]
  have hgo : ∀ b, F_MD_isIn b 0 2 s1 = some (1, s1) → F_MD_morning b s1 = F_MD_morning_31 b (nI (2 ^ nD A - 1)) 0 s2 := fun b hb => by
    unfold F_MD_morning
    rw [hb, Option.bind_some, if1, b1, Option.bind_some, Option.bind_some, e9]
  have hfin : ∀ (b : Int32) (r : Int32), b = 0 ∧ r = bI (mWo (prA 7 A) (nOd A) 0 (nP A)) ∨ b = 1 ∧ r = nI (allO (prA 7 A) (nOd A) 0) → F_MD_morning_31 b (nI (2 ^ nD A - 1)) 0 s2 = some (r, s2) := fun b r hr => by
    have hP := hO.P
    unfold F_MD_morning_31
    obtain ⟨⟨w, v, s⟩, ⟨hv, hs⟩, hr2⟩ := fix_rel (f := G_MD_morning_31 b) (n := nP A) (s0 := (nI (2 ^ nD A - 1), 0, s2)) (fun k q => q.2.1 = nI k ∧ q.2.2 = s2) (by rw [fuel_val]; omega) ⟨rfl, rfl⟩ (by
      rintro k ⟨w, v, s⟩ hk ⟨hv, hs⟩
      simp only at hv hs
      subst hv; subst hs
      have e10 : rd s 58 10 = nI (nP A) := hM2.1.2.1
      cases e : tkO (prA 7 A) (nOd A) 0 k with
      | none =>
        refine ⟨(w &&& (-1), nI (k + 1), s), ⟨rfl, rfl⟩, fun K => ?_⟩
        show H_MD_morning_31 b K w (nI k) s = _
        unfold H_MD_morning_31 F_MD_morning_63
        rw [e10, if_neg (nI_ge hk (by omega)), ldk al_73 (by omega), Option.bind_some, b4 k hk, e, if_neg (by decide : ¬ (0 : Int32) ≤ bI none), Option.bind_some, nI_1]
      | some d =>
        have hd : d < nD A := tkO_in e
        refine ⟨(w &&& ((1 : Int32) <<< (nI d &&& 31) ^^^ (-1)), nI (k + 1), s), ⟨rfl, rfl⟩, fun K => ?_⟩
        show H_MD_morning_31 b K w (nI k) s = _
        unfold H_MD_morning_31 F_MD_morning_63
        rw [e10, if_neg (nI_ge hk (by omega)), ldk al_73 (by omega), Option.bind_some, b4 k hk, e, if_pos (show 0 ≤ bI (some d) from nI_pos' (by omega)), Option.bind_some, Option.bind_some, nI_1]
        rfl)
    refine hr2 _ (fun K => ?_)
    show H_MD_morning_31 b K w v s = _
    simp only at hv hs
    unfold H_MD_morning_31
    rw [hv, hs, show rd s2 58 10 = nI (nP A) from hM2.1.2.1, if_pos (Int32.le_refl _)]
    rcases hr with ⟨rfl, rfl⟩ | ⟨rfl, rfl⟩
    · rw [if_pos rfl, bid, firstWithoutM hM2 hO hO.od b3 b4]
    · rw [if_neg (by decide), if_pos rfl, bid, allMonthsM' hM2 hO b4]
  by_cases h0 : a = 0
  · subst h0
    refine ⟨bI (mWo (prA 7 A) (nOd A) 0 (nP A)), s1, s2, ?_, ?_, INV.q hall hq⟩
    · unfold F_AC_morning
      rw [a1, Option.bind_some, if_pos rfl, a4.2.2.2.1]
      rfl
    · rw [hgo 0 (isIn_in (k := 0) (m := 2) (by decide) (by decide)), hfin 0 _ (Or.inl ⟨rfl, rfl⟩)]
  by_cases h1 : a = 1
  · subst h1
    refine ⟨nI (allO (prA 7 A) (nOd A) 0), s1, s2, ?_, ?_, INV.q hall hq⟩
    · unfold F_AC_morning
      rw [a1, Option.bind_some, if_neg (by decide), if_pos rfl, a4.2.2.1]
    · rw [hgo 1 (isIn_in (k := 1) (m := 2) (by decide) (by decide)), hfin 1 _ (Or.inr ⟨rfl, rfl⟩)]
  by_cases h2 : a = 2
  · subst h2
    refine ⟨nI (fr (nD A) (tB 0 (tkO (prA 7 A) (nOd A) 0) (nP A))), s1, s2, ?_, ?_, INV.q hall hq⟩
    · unfold F_AC_morning
      rw [a1, Option.bind_some, if_neg (by decide), if_neg (by decide), if_pos rfl, a4.2.1]
      rw [show tB 0 (tkO (prA 7 A) (nOd A) 0) (nP A) = mT (prA 7 A) (nOd A) 0 (nP A) from tB_mT (Z := prA 7 A) hO.od 0]
      rfl
    · rw [hgo 2 (isIn_in (k := 2) (m := 2) (by decide) (by decide)), leftM hM2 hO b4 (fun p d _ e => tkO_in e) (by decide) (by decide)]
  · have ho : a < 0 ∨ nI 3 ≤ a := by
      rcases pk_ix a (n := 3) (by decide) with w | w | ⟨k, hk, rfl⟩
      · exact Or.inl w
      · exact Or.inr w
      · exfalso
        rcases (show k = 0 ∨ k = 1 ∨ k = 2 by omega) with rfl | rfl | rfl
        · exact h0 rfl
        · exact h1 rfl
        · exact h2 rfl
    obtain ⟨r, t1, t2, e1, e2, e3⟩ := Ask.no (f := F_AC_refuse (-2)) (g := F_MD_morning a) (INV.q hall hq1) (k := 2) (x := -2) (by decide) (by decide) rfl (fun τ hτ => by
      unfold F_MD_morning
      rw [show (2 : Int32) = nI 2 from rfl, isIn_out (m := 2) (by decide) ho, Option.bind_some, if0, bid])
    refine ⟨r, t1, t2, ?_, e2, e3⟩
    rw [← e1]
    unfold F_AC_morning
    rw [a1, Option.bind_some, if_neg h0, if_neg h1, if_neg h2, bid]
-- the row told
def asT (o : Option Nat) : Int32 := match o with | some d => nI d | none => 9
def fNo (tk : Nat → Option Nat) (w : Nat → Int32) (P : Nat) : Nat → Option Nat
  | 0 => none
  | k + 1 => match fNo tk w P k with | some q => some q | none => if P ≤ k ∨ asT (tk k) ≠ w k then some k else none
theorem fNo_hit {tk : Nat → Option Nat} {w : Nat → Int32} {P k : Nat} (h : fNo tk w P k = none) (hh : P ≤ k ∨ asT (tk k) ≠ w k) : ∀ {c : Nat}, k < c → fNo tk w P c = some k := by
  intro c hc
  induction c with
  | zero => omega
  | succ c ih =>
    by_cases e : k = c
    · subst e
      unfold fNo
      rw [h]
      exact if_pos hh
    · unfold fNo
      rw [ih (by omega)]
theorem fNo_go {tk : Nat → Option Nat} {w : Nat → Int32} {P k : Nat} (h : fNo tk w P k = none) (hh : ¬ (P ≤ k ∨ asT (tk k) ≠ w k)) : fNo tk w P (k + 1) = none := by
  unfold fNo
  rw [h]
  exact if_neg hh
theorem firstNotSoC {σ : St} {mo P c : Nat} {tk : Nat → Option Nat} {w : Nat → Int32} (hmo : isMO mo) (hP : P ≤ 7) (hc : c ≤ 12) (h1 : rd σ 1 1 = nI P) (h16 : rd σ 0 16 = nI c) (htk : ∀ p, p < P → rd σ (mo + 1) p = bI (tk p)) (hin : ∀ p d, p < P → tk p = some d → d < 14) (hw : ∀ j, j < c → rd σ 56 j = w j) : F_AC_firstNotSo mo σ = some (bI (fNo tk w P c), σ) := by
  unfold F_AC_firstNotSo F_AC_firstNotSo_2
  refine fix_inv (f := G_AC_firstNotSo_2 mo) (n := c) (s0 := (0, σ)) (fun k q => q = (nI k, σ) ∧ fNo tk w P k = none) (fun x => x = some (bI (fNo tk w P c), σ)) (by rw [fuel_val]; omega) ⟨rfl, rfl⟩ ?_ ?_
  · rintro k s hk ⟨rfl, hn⟩
    by_cases hPk : P ≤ k
    · right
      refine ⟨some (nI k, σ), by rw [fNo_hit hn (Or.inl hPk) hk]; rfl, fun K => ?_⟩
      show H_AC_firstNotSo_2 mo K (nI k) σ = _
      unfold H_AC_firstNotSo_2 F_AC_firstNotSo_31
      rw [h16, if_neg (nI_ge hk (by omega))]
      have hat : F_AC_at (mo + 1) (nI k) σ = some (if k < 7 then rd σ (mo + 1) k else -9, σ) := by
        by_cases h7 : k < 7
        · rw [if_pos h7, atC (al_MO1 hmo) h7]
        · rw [if_neg h7]
          unfold F_AC_at
          rw [if_neg (nI_pos (by omega)), al_MO1 hmo, if_pos (nI_le (by omega) (by omega))]
          rfl
      rw [hat, Option.bind_some]
      simp only
      rw [h1, if_pos (nI_le hPk (by omega)), if_pos (nI_le hPk (by omega))]
      exact ite_self _
    · have e := htk k (by omega)
      have hne : rd σ (mo + 1) k = -9 ↔ tk k = none := by
        rw [e]
        cases q : tk k with
        | none => exact ⟨fun _ => rfl, fun _ => rfl⟩
        | some d => exact ⟨fun w => absurd w (n9_ne (by have := hin k d (by omega) q; omega)), fun w => by cases w⟩
      have hstep : ∀ K : Int32 × St → Option (Int32 × St), H_AC_firstNotSo_2 mo K (nI k) σ = if asT (tk k) = w k then K (nI (k + 1), σ) else some (nI k, σ) := fun K => by
        unfold H_AC_firstNotSo_2 F_AC_firstNotSo_31
        rw [h16, if_neg (nI_ge hk (by omega)), atC (al_MO1 hmo) (by omega), Option.bind_some]
        simp only
        rw [h1, if_neg (nI_ge (by omega) (by omega)), if_neg (nI_ge (by omega) (by omega)), atC al_56 (by omega), Option.bind_some, Option.bind_some, hw k hk]
        cases q : tk k with
        | none =>
          rw [q] at e
          rw [e, if_pos (show bI none = (-9 : Int32) from rfl), nI_1]
          rfl
        | some d =>
          rw [q] at e
          rw [e, if_neg (show ¬ bI (some d) = (-9 : Int32) from n9_ne (by have := hin k d (by omega) q; omega)), nI_1]
          rfl
      by_cases hh : asT (tk k) = w k
      · left
        refine ⟨(nI (k + 1), σ), ⟨rfl, fNo_go hn (fun q => q.elim (fun q => hPk q) (fun q => q hh))⟩, fun K => ?_⟩
        exact (hstep K).trans (if_pos hh)
      · right
        refine ⟨some (nI k, σ), by rw [fNo_hit hn (Or.inr hh) hk]; rfl, fun K => ?_⟩
        exact (hstep K).trans (if_neg hh)
  · rintro s ⟨rfl, hn⟩
    refine ⟨some (-9, σ), by rw [hn]; rfl, fun K => ?_⟩
    show H_AC_firstNotSo_2 mo K (nI c) σ = _
    unfold H_AC_firstNotSo_2
    rw [h16, if_pos (Int32.le_refl _)]
theorem firstOtherM {σ : St} {P c : Nat} {tk : Nat → Option Nat} {w : Nat → Int32} (hP : P ≤ 7) (hc : c ≤ 12) (h1 : rd σ 58 10 = nI P) (h16 : rd σ 58 35 = nI c) (htk : ∀ p, p < P → rd σ 73 p = bI (tk p)) (hin : ∀ p d, p < P → tk p = some d → d < 14) (hw : ∀ j, j < c → rd σ 81 j = w j) : F_MD_firstOther σ = some (bI (fNo tk w P c), σ) := by
  unfold F_MD_firstOther F_MD_firstOther_2
  refine fix_inv (f := G_MD_firstOther_2) (n := c) (s0 := (0, σ)) (fun k q => q = (nI k, σ) ∧ fNo tk w P k = none) (fun x => x = some (bI (fNo tk w P c), σ)) (by rw [fuel_val]; omega) ⟨rfl, rfl⟩ ?_ ?_
  · rintro k s hk ⟨rfl, hn⟩
    by_cases hPk : P ≤ k
    · right
      refine ⟨some (nI k, σ), by rw [fNo_hit hn (Or.inl hPk) hk]; rfl, fun K => ?_⟩
      show H_MD_firstOther_2 K (nI k) σ = _
      unfold H_MD_firstOther_2
      rw [h16, if_neg (nI_ge hk (by omega)), h1, if_pos (nI_le hPk (by omega))]
    · have e := htk k (by omega)
      have hstep : ∀ K : Int32 × St → Option (Int32 × St), H_MD_firstOther_2 K (nI k) σ = if asT (tk k) = w k then K (nI (k + 1), σ) else some (nI k, σ) := fun K => by
        unfold H_MD_firstOther_2 F_MD_firstOther_38
        rw [h16, if_neg (nI_ge hk (by omega)), h1, if_neg (nI_ge (by omega) (by omega)), ldk al_73 (by omega), Option.bind_some, e]
        cases q : tk k with
        | none =>
          rw [if_neg (by decide : ¬ (0 : Int32) ≤ bI none), ldk al_81 (by omega), Option.bind_some, hw k hk, nI_1]
          rfl
        | some d =>
          rw [if_pos (show 0 ≤ bI (some d) from nI_pos' (by have := hin k d (by omega) q; omega)), Option.bind_some, ldk al_81 (by omega), Option.bind_some, hw k hk, nI_1]
          rfl
      by_cases hh : asT (tk k) = w k
      · left
        refine ⟨(nI (k + 1), σ), ⟨rfl, fNo_go hn (fun q => q.elim (fun q => hPk q) (fun q => q hh))⟩, fun K => ?_⟩
        exact (hstep K).trans (if_pos hh)
      · right
        refine ⟨some (nI k, σ), by rw [fNo_hit hn (Or.inr hh) hk]; rfl, fun K => ?_⟩
        exact (hstep K).trans (if_neg hh)
  · rintro s ⟨rfl, hn⟩
    refine ⟨some (-9, σ), by rw [hn]; rfl, fun K => ?_⟩
    show H_MD_firstOther_2 K (nI c) σ = _
    unfold H_MD_firstOther_2
    rw [h16, if_pos (Int32.le_refl _)]
theorem op_judge : Ask F_AC_judge F_MD_judge := by
  intro σ h
  obtain ⟨A, hall⟩ := id h
  have hN := hall.1
  obtain ⟨s1, a1, a2, hN1, a3, a4⟩ := todayC hN
  obtain ⟨c, hc, l1, l2, l3⟩ := id hall.2.2.2.1
  have hO := hN.1
  have hP := hO.P
  have hD := hO.D
  have hin : ∀ p d, p < nP A → tkO (prA 7 A) (nOd A) 0 p = some d → d < 14 := fun p d _ e => by
    have : d < nD A := tkO_in e
    omega
  have f1 := firstNotSoC (σ := s1) (mo := 40) (P := nP A) (c := c) (tk := tkO (prA 7 A) (nOd A) 0) (w := fun j => rd σ 56 j) isMO_40 hP hc hN1.2.2.1.2.1 ((a2.at (by decide) 16).trans l1) (fun p hp => (a4.2.2.2.2 p hp).1) hin (fun j _ => a2.at (by decide) j)
  let s2 := wr s1 0 16 0
  have e12 : ∀ b j, ¬ (b = 0 ∧ j = 16) → rd s2 b j = rd s1 b j := fun b j q => by
    show rd (wr s1 0 16 0) b j = _
    rw [rd_wr, if_neg q]
  have hN2 : NowI s2 A := hN1.un (fun b j q => e12 b j (by omega))
  obtain ⟨s3, b1, b2, hN3, b3, b4⟩ := todayM hN2
  have e13 : ∀ b j, ¬ (b = 0 ∧ j = 16 ∨ b = 73 ∨ b = 74) → rd s3 b j = rd s1 b j := fun b j q => by
    rw [b2.at (by simp; omega) j, e12 b j (by omega)]
  have e03 : ∀ b j, ¬ (b = 0 ∧ j = 16 ∨ b = 73 ∨ b = 74 ∨ 36 ≤ b ∧ b ≤ 55) → rd s3 b j = rd σ b j := fun b j q => by
    rw [e13 b j (by omega)]; exact a2.at (by simp; omega) j
  have f2 := firstOtherM (σ := s3) (P := nP A) (c := c) (tk := tkO (prA 7 A) (nOd A) 0) (w := fun j => rd σ 56 j) hP hc hN3.2.2.2.1.1.2.1 ((e03 58 35 (by omega)).trans l2) b4 hin (fun j hj => by
    obtain ⟨v, _, q2, q3⟩ := l3 j hj
    rw [e03 81 j (by omega), q3]; exact q2.symm)
  refine ⟨bI (fNo (tkO (prA 7 A) (nOd A) 0) (fun j => rd σ 56 j) (nP A) c), s2, wr s3 58 35 0, ?_, ?_, INV_clear hall (fun b j q => ?_) ?_ (rd_wr_same _ _ _ _)⟩
  · unfold F_AC_judge
    rw [a1, Option.bind_some, f1, Option.bind_some]
    rfl
  · unfold F_MD_judge
    rw [b1, Option.bind_some, f2, Option.bind_some]
    rfl
  · rw [rd_wr, if_neg (by omega), e03 b j (by unfold Qd at q; omega)]
  · rw [rd_wr_cell _ _ _ _ (by decide), b2.at (by decide)]
    exact rd_wr_same _ _ _ _
