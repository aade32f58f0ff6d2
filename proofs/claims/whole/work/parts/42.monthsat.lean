-- months at a place
def wI (f j r : Nat) : Nat := if (if r < f then r else r - 1) < j then (if r < f then r else r - 1) else (if r < f then r else r - 1) + 1
theorem wI_mv {f j k : Nat} (h : k ≠ j) : wI f j (mvI f j k) = k := by
  unfold wI mvI
  (repeat' split) <;> omega
theorem mvI_ne {f j k : Nat} (h : k ≠ j) : mvI f j k ≠ f := by
  unfold mvI
  (repeat' split) <;> omega
theorem wI_inj {f j r s : Nat} (h1 : r ≠ f) (h2 : s ≠ f) (h : wI f j r = wI f j s) : r = s := by
  unfold wI at h
  by_cases a : r < f <;> by_cases b : s < f <;> simp only [a, b, if_true, if_false] at h <;> (repeat' split at h) <;> omega
theorem wI_lt {P f j r : Nat} (hf : f < P) (hj : j < P) (hr : r < P) (h : r ≠ f) : wI f j r < P := by
  unfold wI
  (repeat' split) <;> omega
theorem monthsAtM {σ : St} {A : Nt} {t : Nat} (h : MdN σ A t) (hO : OkN A) (hg : rd σ 58 26 = nI 0) {p j : Nat} (hp : p < nP A) (hj : j < nP A) :
    ∃ σ', F_MD_monthsAt (nI p) (nI j) σ = some (nI (moO (prA t A) (mvO (nOd A) (plc (nOd A) p (nP A)) j) 0 p), σ') ∧ Fr [73, 74] σ σ' ∧ ∀ q, q < nP A → rd σ' 73 q = bI (tkO (prA t A) (mvO (nOd A) (plc (nOd A) p (nP A)) j) 0 q) ∧ rd σ' 74 q = nI (mvO (nOd A) (plc (nOd A) p (nP A)) j q) := by
  have hP := hO.P
  have ho := hO.od
  have pf := ho.plc_lt hp
  have of := ho.od_plc hp
  generalize hfe : plc (nOd A) p (nP A) = f at pf of ⊢
  have hod : ∀ k, k < nP A → rd σ 67 k = nI (nOd A k) := fun k hk => (h.1.2.2.2 k hk).2.2.2.2.2
  obtain ⟨⟨w, v, s⟩, ⟨hw, hv, hf, hall⟩, hr⟩ := fix_rel (f := G_MD_monthsAt_5 (nI p) (nI j)) (n := nP A) (s0 := (nI 0, nI 0, σ)) (fun q x => x.1 = nI (if q ≤ f then q else q - 1) ∧ x.2.1 = nI q ∧ Fr [74] σ x.2.2 ∧ ∀ r, r < q → r ≠ f → rd x.2.2 74 (wI f j r) = nI (nOd A r)) (by rw [fuel_val]; omega) ⟨by rw [if_pos (Nat.zero_le _)], rfl, Fr.rf, fun j hj => absurd hj (Nat.not_lt_zero _)⟩ (by
    rintro q ⟨w, v, s⟩ hq ⟨hw, hv, hf, hall⟩
    simp only at hw hv hf hall
    subst hw; subst hv
    have e10 : rd s 58 10 = nI (nP A) := (hf.at (by decide) 10).trans h.1.2.1
    have e67 : ldA s 67 (nI q) = some (nI (nOd A q)) := by rw [ldk al_67 (by omega), hf.at (by decide), hod q hq]
    by_cases e : q = f
    · subst e
      refine ⟨(nI q, nI (q + 1), s), ⟨?_, rfl, hf, fun r hr hne => hall r (by omega) hne⟩, fun K => ?_⟩
      · rw [if_neg (by omega), Nat.add_sub_cancel]
      · show H_MD_monthsAt_5 (nI p) (nI j) K (nI (if q ≤ q then q else q - 1)) (nI q) s = _
        unfold H_MD_monthsAt_5 F_MD_monthsAt_55
        rw [e10, if_neg (nI_ge hq (by omega)), e67, Option.bind_some, of, if_pos rfl, if_pos (Nat.le_refl _), nI_1]
    · have hne : ¬ nI (nOd A q) = nI p := fun c => by
        have h1 := ho.1 q hq
        have := nI_inj (by omega) (by omega) c
        exact e (ho.2 q f hq pf (this.trans of.symm))
      have hkk : (if q ≤ f then q else q - 1) = if q < f then q else q - 1 := by
        (repeat' split) <;> omega
      have hlt := wI_lt pf hj hq e
      have hk2 : (if q + 1 ≤ f then q + 1 else q + 1 - 1) = (if q < f then q else q - 1) + 1 := by
        (repeat' split) <;> omega
      refine ⟨(nI ((if q < f then q else q - 1) + 1), nI (q + 1), wr s 74 (wI f j q) (nI (nOd A q))), ⟨by rw [hk2], rfl, hf.two (Fr.wr (by simp)), fun r hr hne2 => ?_⟩, fun K => ?_⟩
      · by_cases c : r = q
        · subst c; exact rd_wr_same _ _ _ _
        · rw [rd_wr_slot _ _ _ _ (fun c2 => c (wI_inj hne2 e c2))]
          exact hall r (by omega) hne2
      · show H_MD_monthsAt_5 (nI p) (nI j) K (nI (if q ≤ f then q else q - 1)) (nI q) s = _
        unfold H_MD_monthsAt_5 F_MD_monthsAt_44 F_MD_monthsAt_55
        have hk3 : (if q < f then q else q - 1) < 7 := by split <;> omega
        rw [hkk, e10, if_neg (nI_ge hq (by omega)), e67, Option.bind_some, if_neg hne, Option.bind_some, Option.bind_some]
        by_cases c : (if q < f then q else q - 1) < j
        · have hwI : wI f j q = if q < f then q else q - 1 := by unfold wI; rw [if_pos c]
          rw [if_neg (nI_ge c (by omega)), stk al_74 (by omega), Option.bind_some, nI_1, nI_1, hwI]
        · have hwI : wI f j q = (if q < f then q else q - 1) + 1 := by unfold wI; rw [if_neg c]
          rw [if_pos (nI_le (by omega) (by omega)), nI_1, stk al_74 (by omega), Option.bind_some, nI_1, hwI])
  simp only at hw hv hf hall
  let s1 := wr s 74 j (nI p)
  have hf1 : Fr [74] σ s1 := hf.two (Fr.wr (by simp))
  have hby : ∀ k, k < nP A → rd s1 74 k = nI (mvO (nOd A) f j k) := fun k hk => by
    by_cases e : k = j
    · subst e
      show rd (wr s 74 k (nI p)) 74 k = _
      rw [rd_wr_same]
      unfold mvO mvI
      rw [if_pos rfl, of]
    · show rd (wr s 74 j (nI p)) 74 k = _
      rw [rd_wr_slot _ _ _ _ e]
      have := hall (mvI f j k) (mvI_lt pf hj hk) (mvI_ne e)
      rw [wI_mv e] at this
      exact this
  have hM1 : MdN s1 A t := h.fr hf1 (by decide)
  obtain ⟨s2, b1, b2, b3⟩ := goesByM hM1 hO (ho.mv pf hj) hby ((hf1.at (by decide) 26).trans hg) (by decide)
  refine ⟨s2, ?_, (hf1.sub (by simp)).two (b2.sub (by simp)), fun q hq => ⟨b3 q hq, by rw [b2.at (by decide)]; exact hby q hq⟩⟩
  unfold F_MD_monthsAt
  show fixF (G_MD_monthsAt_5 (nI p) (nI j)) FUEL (nI 0, nI 0, σ) = _
  refine hr _ (fun K => ?_)
  show H_MD_monthsAt_5 (nI p) (nI j) K w v s = _
  unfold H_MD_monthsAt_5
  have e10 : rd s 58 10 = nI (nP A) := (hf.at (by decide) 10).trans h.1.2.1
  rw [hv, e10, if_pos (Int32.le_refl _), stk al_74 (by omega), Option.bind_some, show F_MD_goesBy (wr s 74 j (nI p)) = some s2 from b1, Option.bind_some, bid]
  exact hasMonthsM (hM1.fr b2 (by decide)) hO hp (b3 p hp) (fun d e => tkO_in e)
theorem monthsAtC {σ : St} {A : Nt} (hA : AbsC σ 1 A) (hO : OkN A) (hPr : PrC σ 36 (prA 7 A)) {q p j : Nat} (hq : q < nP A) (hp : p < nP A) (hj : j < nP A) :
    ∃ σ', F_AC_monthsAt (nI q) (nI p) (nI j) σ = some (nI (moO (prA 7 A) (mvO (nOd A) (plc (nOd A) p (nP A)) j) 0 q), σ') ∧ Fr [43, 44, 45, 54] σ σ' ∧ MoD σ' 43 (prA 7 A) (mvO (nOd A) (plc (nOd A) p (nP A)) j) 0 := by
  have hP := hO.P
  have ho := hO.od
  have pf := ho.plc_lt hp
  obtain ⟨s1, a1, a2, a3⟩ := lineUpC (c := 9) al_9 (by decide) hP (fun k hk => (hA.2.2.2 k hk).2.2.2.2.2)
  have hA1 : AbsC s1 1 A := hA.un (fun b j q1 q2 => a2.at (by simp; omega) j)
  obtain ⟨s2, b1, b2, b3⟩ := moveC hP hA1.2.1 ho a3 hp hj
  have hA2 : AbsC s2 1 A := hA1.un (fun b j q1 q2 => b2.at (by simp; omega) j)
  have hf2 : Fr [54] σ s2 := a2.two b2
  obtain ⟨s3, c1, c2, c3⟩ := holdLineC hA2 hO (hPr.fr hf2 (by decide) (by decide)) (ho.mv pf hj) b3
  refine ⟨s3, ?_, (hf2.sub (by simp)).two (c2.sub (by simp)), c3⟩
  unfold F_AC_monthsAt
  rw [a1, Option.bind_some, b1, Option.bind_some, c1, Option.bind_some, bid, atC al_45 (by omega), (c3.2.2.2.2 q hq).2]
