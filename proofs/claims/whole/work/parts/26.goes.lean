section GOES
variable {σ : St} {A : Nt} {t : Nat}
theorem addT_none (T : Nat) : addT T none = T := Nat.or_zero T
/-- 'takes < 0 ? 0 : 1 << takes' -/
theorem shl_b {o : Option Nat} {d : Nat} (h : o = some d) (hd : d < 31) : (1 : Int32) <<< (bI o &&& 31) = nI (bitO o) := by
  subst h
  exact shl1 hd
theorem bI_nonneg {o : Option Nat} (h : ∀ d, o = some d → d < 2 ^ 31) : 0 ≤ bI o ↔ o ≠ none := by
  cases o with
  | none => exact ⟨fun q => absurd q (by decide), fun q => absurd rfl q⟩
  | some d => exact ⟨fun _ q => (by cases q), fun _ => nI_pos' (h d rfl)⟩
theorem goesByM (h : MdN σ A t) (hO : OkN A) {od : Nat → Nat} {T0 : Nat} (ho : OdOK (nP A) od) (hby : ∀ k, k < nP A → rd σ 74 k = nI (od k)) (hg : rd σ 58 26 = nI T0) (hT : T0 < 2 ^ 14) :
    ∃ σ', F_MD_goesBy σ = some σ' ∧ Fr [73] σ σ' ∧ ∀ p, p < nP A → rd σ' 73 p = bI (tkO (prA t A) od T0 p) := by
  have hP := hO.P
  have hz := prA_ok hO t
  obtain ⟨⟨w, v, s⟩, ⟨hw, hv, hf, hall⟩, hr⟩ := fix_rel (f := G_MD_goesBy_7) (n := nP A) (s0 := (nI T0, nI 0, σ)) (fun k q => q.1 = nI (mT (prA t A) od T0 k) ∧ q.2.1 = nI k ∧ Fr [73] σ q.2.2 ∧ ∀ j, j < k → rd q.2.2 73 (od j) = bI (mC (prA t A) od T0 j)) (by rw [fuel_val]; omega) ⟨rfl, rfl, Fr.rf, fun j hj => absurd hj (Nat.not_lt_zero _)⟩ (by
    rintro k ⟨w, v, s⟩ hk ⟨hw, hv, hf, hall⟩
    simp only at hw hv hf hall
    subst hw; subst hv
    have hs : MdN s A t := h.fr hf (by decide)
    have hp := ho.1 k hk
    have hb : rd s 74 k = nI (od k) := by rw [hf.at (by decide)]; exact hby k hk
    have hmt := mT_lt hz (od := od) hT k
    have hin : ∀ d, mC (prA t A) od T0 k = some d → d < nD A := fun d e => (mk1_in e).1
    have hD := hO.D
    refine ⟨(nI (mT (prA t A) od T0 (k + 1)), nI (k + 1), wr s 73 (od k) (bI (mC (prA t A) od T0 k))), ⟨rfl, rfl, hf.two (Fr.wr (by simp)), fun j hj => ?_⟩, fun K => ?_⟩
    · by_cases q : j = k
      · subst q; exact rd_wr_same _ _ _ _
      · rw [rd_wr_slot _ _ _ _ (fun e => q (ho.2 j k (by omega) hk e))]
        exact hall j (by omega)
    · show H_MD_goesBy_7 K (nI (mT (prA t A) od T0 k)) (nI k) s = _
      unfold H_MD_goesBy_7 F_MD_goesBy_51
      have e10 : rd s 58 10 = nI (nP A) := hs.1.2.1
      have hl : ldA s 74 (nI k) = some (nI (od k)) := by rw [ldA_in (by rw [al_74]; omega) (by rw [al_74]; decide), hb]
      rw [e10, if_neg (nI_ge hk (by omega)), hl, Option.bind_some, bestM hs hO hp (Nat.lt_trans hmt (by decide)), Option.bind_some]
      simp only
      rw [hl, Option.bind_some, stA_in (by rw [al_73]; omega) (by rw [al_73]; decide), Option.bind_some]
      have em : mk1 (prA t A) (od k) (mT (prA t A) od T0 k) = mC (prA t A) od T0 k := rfl
      rw [em]
      have eT : mT (prA t A) od T0 (k + 1) = addT (mT (prA t A) od T0 k) (mC (prA t A) od T0 k) := rfl
      cases e : mC (prA t A) od T0 k with
      | none =>
        rw [if_neg (by decide : ¬ (0 : Int32) ≤ bI none), Option.bind_some, Int32.or_zero, eT, e, addT_none, nI_1]
      | some d =>
        have hd := hin d e
        rw [if_pos (show 0 ≤ bI (some d) from nI_pos' (by omega)), shl_b rfl (by omega), Option.bind_some, fa_or, eT, e, nI_1]
        rfl)
  refine ⟨s, ?_, hf, fun p hp => ?_⟩
  · unfold F_MD_goesBy F_MD_goesBy_7
    rw [Option.bind_some, hg]
    refine hr _ (fun K => ?_)
    show H_MD_goesBy_7 K w v s = _
    unfold H_MD_goesBy_7
    have e10 : rd s 58 10 = nI (nP A) := (h.fr hf (by decide)).1.2.1
    simp only at hv
    rw [hv, e10, if_pos (Int32.le_refl _)]
  · have := hall _ (ho.plc_lt hp)
    rw [ho.od_plc hp] at this
    exact this
theorem asItIsM (h : MdN σ A t) (hO : OkN A) : ∃ σ', F_MD_asItIs σ = some σ' ∧ Fr [74] σ σ' ∧ ∀ k, k < nP A → rd σ' 74 k = nI (nOd A k) := by
  have hP := hO.P
  obtain ⟨⟨w, s⟩, ⟨hw, hf, hall⟩, hr⟩ := fix_rel (f := G_MD_asItIs_2) (n := nP A) (s0 := (nI 0, σ)) (fun k q => q.1 = nI k ∧ Fr [74] σ q.2 ∧ ∀ j, j < k → rd q.2 74 j = nI (nOd A j)) (by rw [fuel_val]; omega) ⟨rfl, Fr.rf, fun j hj => absurd hj (Nat.not_lt_zero _)⟩ (by
    rintro k ⟨w, s⟩ hk ⟨hw, hf, hall⟩
    simp only at hw hf hall
    subst hw
    have hs : MdN s A t := h.fr hf (by decide)
    have hb : rd s 67 k = nI (nOd A k) := (hs.1.2.2.2 k hk).2.2.2.2.2
    refine ⟨(nI (k + 1), wr s 74 k (nI (nOd A k))), ⟨rfl, hf.two (Fr.wr (by simp)), fun j hj => ?_⟩, fun K => ?_⟩
    · by_cases q : j = k
      · subst q; exact rd_wr_same _ _ _ _
      · rw [rd_wr_slot _ _ _ _ q]; exact hall j (by omega)
    · show H_MD_asItIs_2 K (nI k) s = _
      unfold H_MD_asItIs_2
      have e10 : rd s 58 10 = nI (nP A) := hs.1.2.1
      rw [e10, if_neg (nI_ge hk (by omega)), ldA_in (by rw [al_67]; omega) (by rw [al_67]; decide), Option.bind_some, hb, stA_in (by rw [al_74]; omega) (by rw [al_74]; decide), Option.bind_some, nI_1])
  refine ⟨s, ?_, hf, hall⟩
  unfold F_MD_asItIs F_MD_asItIs_2
  refine hr _ (fun K => ?_)
  show H_MD_asItIs_2 K w s = _
  unfold H_MD_asItIs_2
  have e10 : rd s 58 10 = nI (nP A) := (h.fr hf (by decide)).1.2.1
  simp only at hw
  rw [hw, e10, if_pos (Int32.le_refl _)]
theorem goesM (h : MdN σ A t) (hO : OkN A) {T0 : Nat} (hg : rd σ 58 26 = nI T0) (hT : T0 < 2 ^ 14) :
    ∃ σ', F_MD_goes σ = some σ' ∧ Fr [73, 74] σ σ' ∧ (∀ k, k < nP A → rd σ' 74 k = nI (nOd A k)) ∧ ∀ p, p < nP A → rd σ' 73 p = bI (tkO (prA t A) (nOd A) T0 p) := by
  obtain ⟨s1, a1, a2, a3⟩ := asItIsM h hO
  obtain ⟨s2, b1, b2, b3⟩ := goesByM (h.fr a2 (by decide)) hO hO.od a3 ((a2.at (by decide) 26).trans hg) hT
  refine ⟨s2, ?_, (a2.sub (m := [73, 74]) (by decide)).two (b2.sub (by decide)), fun k hk => by rw [b2.at (by decide)]; exact a3 k hk, b3⟩
  unfold F_MD_goes
  rw [a1, Option.bind_some, b1]
  rfl
theorem hasMonthsM (h : MdN σ A t) (hO : OkN A) {p : Nat} {o : Option Nat} (hp : p < nP A) (hr : rd σ 73 p = bI o) (ho : ∀ d, o = some d → d < nD A) : F_MD_hasMonths (nI p) σ = some (nI (moZ (prA t A) p o), σ) := by
  have hP := hO.P
  unfold F_MD_hasMonths
  rw [ldA_in (by rw [al_73]; omega) (by rw [al_73]; decide), Option.bind_some, hr, monthsOfM_b h hO hp ho]
  rfl
theorem allMonthsM (h : MdN σ A t) (hO : OkN A) {tk : Nat → Option Nat} (htk : ∀ p, p < nP A → rd σ 73 p = bI (tk p)) (hin : ∀ p d, p < nP A → tk p = some d → d < nD A) : F_MD_allMonths σ = some (nI (sumN (fun p => moZ (prA t A) p (tk p)) (nP A)), σ) := by
  have hP := hO.P
  have e10 : rd σ 58 10 = nI (nP A) := h.1.2.1
  unfold F_MD_allMonths F_MD_allMonths_4
  refine fix_up (n := nP A) (fun k => (nI (sumN (fun p => moZ (prA t A) p (tk p)) k), nI k, σ)) (by rw [fuel_val]; omega) (fun K k hk => ?_) (fun K => ?_)
  · show H_MD_allMonths_4 K _ (nI k) σ = _
    unfold H_MD_allMonths_4
    rw [e10, if_neg (nI_ge hk (by omega)), hasMonthsM h hO hk (htk k hk) (fun d e => hin k d hk e), Option.bind_some]
    simp only
    rw [Option.bind_some, nI_add, nI_1]
    rfl
  · show H_MD_allMonths_4 K _ (nI (nP A)) σ = _
    unfold H_MD_allMonths_4
    rw [e10, if_pos (Int32.le_refl _)]
theorem allMonthsM' (h : MdN σ A t) (hO : OkN A) {od : Nat → Nat} {T0 : Nat} (htk : ∀ p, p < nP A → rd σ 73 p = bI (tkO (prA t A) od T0 p)) : F_MD_allMonths σ = some (nI (allO (prA t A) od T0), σ) :=
  allMonthsM h hO htk (fun p d _ e => tkO_in e)
theorem monthsNowM (h : MdN σ A t) (hO : OkN A) {T0 : Nat} (hg : rd σ 58 26 = nI T0) (hT : T0 < 2 ^ 14) :
    ∃ σ', F_MD_monthsNow σ = some (nI (allO (prA t A) (nOd A) T0), σ') ∧ Fr [73, 74] σ σ' ∧ (∀ k, k < nP A → rd σ' 74 k = nI (nOd A k)) ∧ ∀ p, p < nP A → rd σ' 73 p = bI (tkO (prA t A) (nOd A) T0 p) := by
  obtain ⟨s1, a1, a2, a3, a4⟩ := goesM h hO hg hT
  refine ⟨s1, ?_, a2, a3, a4⟩
  unfold F_MD_monthsNow
  rw [a1, Option.bind_some, allMonthsM' (h.fr a2 (by decide)) hO a4]
  rfl
theorem firstWithoutM (h : MdN σ A t) (hO : OkN A) {od : Nat → Nat} {T0 : Nat} (ho : OdOK (nP A) od) (hby : ∀ k, k < nP A → rd σ 74 k = nI (od k)) (htk : ∀ p, p < nP A → rd σ 73 p = bI (tkO (prA t A) od T0 p)) : F_MD_firstWithout σ = some (bI (mWo (prA t A) od T0 (nP A)), σ) := by
  have hP := hO.P
  have hD := hO.D
  have e10 : rd σ 58 10 = nI (nP A) := h.1.2.1
  unfold F_MD_firstWithout F_MD_firstWithout_2
  have hpl : ∀ k, k < nP A → rd σ 73 (od k) = bI (mC (prA t A) od T0 k) := fun k hk => by
    have := htk _ (ho.1 k hk)
    unfold tkO at this
    rw [show plc od (od k) (zP (prA t A)) = k from ho.plc_od hk] at this
    exact this
  have hbd : ∀ k d, mC (prA t A) od T0 k = some d → d < nD A := fun k d e => (mk1_in e).1
  refine fix_inv (f := G_MD_firstWithout_2) (n := nP A) (s0 := (nI 0, σ)) (fun k q => q = (nI k, σ) ∧ mWo (prA t A) od T0 k = none) (fun x => x = some (bI (mWo (prA t A) od T0 (nP A)), σ)) (by rw [fuel_val]; omega) ⟨rfl, rfl⟩ ?_ ?_
  · rintro k s hk ⟨rfl, hn⟩
    have hl : ldA σ 74 (nI k) = some (nI (od k)) := by rw [ldA_in (by rw [al_74]; omega) (by rw [al_74]; decide), hby k hk]
    have hl2 : ldA σ 73 (nI (od k)) = some (bI (mC (prA t A) od T0 k)) := by rw [ldA_in (by rw [al_73]; have := ho.1 k hk; omega) (by rw [al_73]; decide), hpl k hk]
    cases e : mC (prA t A) od T0 k with
    | some d =>
      left
      refine ⟨(nI (k + 1), σ), ⟨rfl, ?_⟩, fun K => ?_⟩
      · show wo1 _ _ _ = none
        rw [hn, e]; rfl
      · show H_MD_firstWithout_2 K (nI k) σ = _
        unfold H_MD_firstWithout_2
        rw [e10, if_neg (nI_ge hk (by omega)), hl, Option.bind_some, hl2, Option.bind_some, e, if_pos (show 0 ≤ bI (some d) from nI_pos' (by have := hbd k d e; omega)), nI_1]
    | none =>
      right
      refine ⟨some (nI (od k), σ), ?_, fun K => ?_⟩
      · have e1 : mWo (prA t A) od T0 (k + 1) = some (od k) := by
          show wo1 _ _ _ = _
          rw [hn, e]; rfl
        have e2 : ∀ j, k + 1 ≤ j → mWo (prA t A) od T0 j = some (od k) := by
          intro j hj
          induction j with
          | zero => omega
          | succ j ih =>
            by_cases q : j = k
            · subst q; exact e1
            · show wo1 _ _ _ = _
              rw [ih (by omega)]; rfl
        rw [e2 _ hk]; rfl
      · show H_MD_firstWithout_2 K (nI k) σ = _
        unfold H_MD_firstWithout_2
        rw [e10, if_neg (nI_ge hk (by omega)), hl, Option.bind_some, hl2, Option.bind_some, e, if_neg (by decide : ¬ (0 : Int32) ≤ bI none), Option.bind_some]
  · rintro s ⟨rfl, hn⟩
    refine ⟨some (-9, σ), by rw [hn]; rfl, fun K => ?_⟩
    show H_MD_firstWithout_2 K (nI (nP A)) σ = _
    unfold H_MD_firstWithout_2
    rw [e10, if_pos (Int32.le_refl _)]
end GOES
