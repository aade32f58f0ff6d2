-- from the last back: the model's choosing; fromLast, allFromLast
theorem RowS.un {A : Nt} {n S : Nat} {s s' : St} (h : RowS A n S s) (h76 : rd s' 76 (128 * (nP A - (n + 1)) + S) = rd s 76 (128 * (nP A - (n + 1)) + S)) (h77 : ∀ q, q < nP A → rd s' 77 (7 * (128 * (nP A - (n + 1)) + S) + q) = rd s 77 (7 * (128 * (nP A - (n + 1)) + S) + q)) : RowS A n S s' :=
  ⟨h76.trans h.1, fun q hq => (h77 q hq).trans (h.2 q hq)⟩
theorem findFromLastM {σ : St} {A : Nt} (hM : MdN σ A 7) (hO : OkN A) (hD : nD A ≤ 7) : ∃ s, F_MD_findFromLast σ = some s ∧ (∀ b j, b ≠ 73 → b ≠ 76 → b ≠ 77 → rd s b j = rd σ b j) ∧ ∀ p, p < nP A → rd s 73 p = bI (lbK A p) := by
  have hP := hO.P
  have ho := hO.od
  -- one place
  have inner : ∀ n s, n < nP A → (∀ b j, b ≠ 76 → b ≠ 77 → rd s b j = rd σ b j) → (∀ m, m < n → ∀ S, S < 128 → RowS A m S s) → ∃ s', (∀ b j, b ≠ 76 → b ≠ 77 → rd s' b j = rd σ b j) ∧ (∀ m, m < n + 1 → ∀ S, S < 128 → RowS A m S s') ∧ ∀ K, F_MD_findFromLast_13 K (nI (nP A - (n + 1))) 0 s = K (nI (nP A - (n + 1)) - 1, s') := by
    intro n s hn hs htab
    obtain ⟨⟨w, s'⟩, ⟨hw, hf, h1, h2⟩, hr⟩ := fix_relK (f := fun K : Int32 × St → Option St => G_MD_findFromLast_13 K (nI (nP A - (n + 1)))) (n := 128) (s0 := (nI 0, s)) (fun S q => q.1 = nI S ∧ (∀ b j, b ≠ 76 → b ≠ 77 → rd q.2 b j = rd σ b j) ∧ (∀ m, m < n → ∀ S, S < 128 → RowS A m S q.2) ∧ ∀ S', S' < S → RowS A n S' q.2) (by rw [fuel_val]; omega) ⟨rfl, hs, htab, fun S' h => absurd h (Nat.not_lt_zero _)⟩ (by
      rintro S ⟨w, s⟩ hS ⟨hw, hf, h1, h2⟩
      simp only at hw hf h1 h2
      subst hw
      have hMs : MdN s A 7 := hM.un (fun b j q => hf b j (by omega) (by omega))
      have hB : RowB A n s := fun h0 S' hS' q hq => by
        obtain ⟨m, rfl⟩ : ∃ m, n = m + 1 := ⟨n - 1, by omega⟩
        exact (h1 m (by omega) S' hS').2 q hq
      obtain ⟨t, c1, c2, c3⟩ := choosesM hMs hO hD hn hS hB
      refine ⟨(nI (S + 1), t), ⟨rfl, fun b j h1 h2 => (c3 b j (by omega)).trans (hf b j h1 h2), fun m hm S' hS' => (h1 m hm S' hS').un (c3 76 _ (by omega)) (fun q hq => c3 77 _ (by omega)), fun S' hS' => ?_⟩, fun K K' => ?_⟩
      · by_cases e : S' = S
        · subst e; exact c2
        · exact (h2 S' (by omega)).un (c3 76 _ (by omega)) (fun q hq => c3 77 _ (by omega))
      · show H_MD_findFromLast_13 K (nI (nP A - (n + 1))) K' (nI S) s = _
        unfold H_MD_findFromLast_13
        rw [if_neg (show ¬ (128 : Int32) ≤ nI S from nI_ge (b := 128) hS (by decide)), c1, Option.bind_some, nI_1])
    simp only at hw hf h1 h2
    refine ⟨s', hf, fun m hm S hS => ?_, fun K => hr K _ (fun K' => ?_)⟩
    · by_cases e : m = n
      · subst e; exact h2 S hS
      · exact h1 m (by omega) S hS
    · show H_MD_findFromLast_13 K (nI (nP A - (n + 1))) K' w s' = _
      unfold H_MD_findFromLast_13
      rw [hw, if_pos (show (128 : Int32) ≤ nI 128 from Int32.le_refl _)]
  obtain ⟨⟨w, s1⟩, ⟨hw, hf, htab⟩, hr⟩ := fix_rel (f := G_MD_findFromLast_7) (n := nP A) (s0 := (nI (nP A) - 1, σ)) (fun n q => q.1 = nI (nP A - n) - 1 ∧ (∀ b j, b ≠ 76 → b ≠ 77 → rd q.2 b j = rd σ b j) ∧ ∀ m, m < n → ∀ S, S < 128 → RowS A m S q.2) (by rw [fuel_val]; omega) ⟨rfl, fun _ _ _ _ => rfl, fun m hm => absurd hm (Nat.not_lt_zero _)⟩ (by
    rintro n ⟨w, s⟩ hn ⟨hw, hf, htab⟩
    simp only at hw hf htab
    rw [nI_dec (by omega), Nat.sub_sub] at hw
    subst hw
    obtain ⟨s', a1, a2, a3⟩ := inner n s hn hf htab
    refine ⟨(nI (nP A - (n + 1)) - 1, s'), ⟨rfl, a1, a2⟩, fun K => ?_⟩
    show H_MD_findFromLast_7 K (nI (nP A - (n + 1))) s = _
    unfold H_MD_findFromLast_7
    rw [if_neg (nI_pos (by omega)), a3])
  simp only at hw hf htab
  rw [Nat.sub_self] at hw
  -- who takes what
  have hM1 : MdN s1 A 7 := hM.un (fun b j q => hf b j (by omega) (by omega))
  obtain ⟨⟨v, k, s2⟩, ⟨e1, e2, hf2, h6⟩, hr2⟩ := fix_rel (f := G_MD_findFromLast_42) (n := nP A) (s0 := (nI 0, nI 0, s1)) (fun k q => q.1 = nI (lbT A k) ∧ q.2.1 = nI k ∧ Fr [73] s1 q.2.2 ∧ ∀ j, j < k → rd q.2.2 73 (nOd A j) = bI (lbP A j)) (by rw [fuel_val]; omega) ⟨rfl, rfl, Fr.rf, fun j hj => absurd hj (Nat.not_lt_zero _)⟩ (by
    rintro k ⟨v, w, s⟩ hk ⟨e1, e2, hf2, h6⟩
    simp only at e1 e2 hf2 h6
    subst e1; subst e2
    have hMs : MdN s A 7 := hM1.fr hf2 (by decide)
    have hT := lbT_lt hD k
    have hp := ho.1 k hk
    have hin : ∀ d, lbP A k = some d → d < nD A := fun d e => (lbP_in hk e).1
    have l67 : ∀ τ, MdN τ A 7 → ldA τ 67 (nI k) = some (nI (nOd A k)) := fun τ hτ => by rw [ldk al_67 (by omega), show rd τ 67 k = nI (nOd A k) from (hτ.1.2.2.2 k hk).2.2.2.2.2]
    have h76 : rd s 76 (128 * k + lbT A k) = bI (lbP A k) := by
      rw [hf2.at (by decide)]
      have := (htab (nP A - (k + 1)) (by omega) _ hT).1
      rw [show nP A - (nP A - (k + 1) + 1) = k by omega] at this
      exact this
    let t := wr s 73 (nOd A k) (bI (lbP A k))
    have hMt : MdN t A 7 := hMs.fr (Fr.wr (l := [73]) (by simp)) (by decide)
    have l73 : ldA t 73 (nI (nOd A k)) = some (bI (lbP A k)) := by
      rw [ldk al_73 (by omega)]
      exact congrArg some (rd_wr_same _ _ _ _)
    refine ⟨(nI (lbT A (k + 1)), nI (k + 1), t), ⟨rfl, rfl, hf2.two (Fr.wr (by simp)), fun j hj => ?_⟩, fun K => ?_⟩
    · by_cases e : j = k
      · subst e; exact rd_wr_same _ _ _ _
      · show rd (wr s 73 _ _) 73 _ = _
        rw [rd_wr_slot _ _ _ _ (fun c => e (ho.2 j k (by omega) hk c))]
        exact h6 j (by omega)
    · show H_MD_findFromLast_42 K (nI (lbT A k)) (nI k) s = _
      unfold H_MD_findFromLast_42 F_MD_findFromLast_105
      rw [show rd s 58 10 = nI (nP A) from hMs.1.2.1, if_neg (nI_ge hk (by omega)), l67 s hMs, Option.bind_some, idx76, ldk al_76 (by omega), Option.bind_some, h76, stk al_73 (by omega), Option.bind_some, show ldA (wr s 73 (nOd A k) (bI (lbP A k))) 67 (nI k) = _ from l67 t hMt]
      simp only [Option.bind_some]
      rw [show ldA (wr s 73 (nOd A k) (bI (lbP A k))) 73 (nI (nOd A k)) = _ from l73]
      simp only [Option.bind_some]
      show _ = K (nI (lbT A (k + 1)), nI (k + 1), wr s 73 (nOd A k) (bI (lbP A k)))
      rw [nI_1, lbT_s]
      cases e : lbP A k with
      | none => rw [if_neg (by decide : ¬ (0 : Int32) ≤ bI none), Int32.or_zero, addT_none]
      | some d =>
        have := hin d e
        rw [if_pos (show 0 ≤ bI (some d) from nI_pos' (by omega)), shl_b rfl (by omega), fa_or]
        rfl)
  simp only at e1 e2 hf2 h6
  refine ⟨s2, ?_, fun b j h1 h2 h3 => (hf2.at (by simpa using h1) j).trans (hf b j h2 h3), fun p hp => ?_⟩
  · unfold F_MD_findFromLast F_MD_findFromLast_7
    rw [Option.bind_some, show rd σ 58 10 = nI (nP A) from hM.1.2.1]
    refine hr _ (fun K => ?_)
    show H_MD_findFromLast_7 K w s1 = _
    unfold H_MD_findFromLast_7 F_MD_findFromLast_42
    rw [hw, if_pos (by decide)]
    refine hr2 _ (fun K' => ?_)
    show H_MD_findFromLast_42 K' v k s2 = _
    unfold H_MD_findFromLast_42
    rw [e2, show rd s2 58 10 = nI (nP A) from (hM1.fr hf2 (by decide)).1.2.1, if_pos (Int32.le_refl _)]
  · have := h6 _ (ho.plc_lt hp)
    rw [ho.od_plc hp] at this
    exact this
theorem lbAll_le {A : Nt} (hO : OkN A) : lbAll A ≤ 546 := by
  have h1 := sumN_le (n := nP A) (f := fun p => moZ (prA 7 A) p (lbK A p)) (b := 78) (fun k hk => moZ_in hO hk (fun d e => lbK_in e))
  have h2 := hO.P
  have : nP A * 78 ≤ 7 * 78 := Nat.mul_le_mul_right _ h2
  unfold lbAll
  omega
theorem lbCla {σ : St} {A : Nt} (hN : NowI σ A) (hPr : PrC σ 36 (prA 7 A)) : ∃ s, F_LB_hold 36 1 σ = some s ∧ Fr [46, 47, 48] σ s ∧ NowI s A ∧ PrC s 36 (prA 7 A) ∧ rd s 46 2 = nI (lbAll A) ∧ ∀ p, p < nP A → rd s 47 p = bI (lbK A p) ∧ rd s 48 p = nI (moZ (prA 7 A) p (lbK A p)) := by
  obtain ⟨s, a1, a2, a3, a4⟩ := holdLB isNI_1 hN.2.2.1 hN.1 hPr
  exact ⟨s, a1, a2, hN.q (Qf.of a2 (by decide)), hPr.fr a2 (by decide) (by decide), a3, a4⟩
theorem lbMod {σ : St} {A : Nt} (hN : NowI σ A) : ∃ s, F_MD_findFromLast σ = some s ∧ Qf (nD A) σ s ∧ NowI s A ∧ (∀ p, p < nP A → rd s 73 p = bI (lbK A p)) ∧ F_MD_allMonths s = some (nI (lbAll A), s) := by
  obtain ⟨s, a1, a2, a3⟩ := findFromLastM hN.2.2.2.1 hN.1 hN.2.1.1
  have hq : Qf (nD A) σ s := fun b j q => by
    unfold Qd at q
    exact a2 b j (by omega) (by omega) (by omega)
  have hNs := hN.q hq
  exact ⟨s, a1, hq, hNs, a3, allMonthsM hNs.2.2.2.1 hN.1 a3 (fun p d _ e => lbK_in e)⟩
theorem op_allFromLast : Ask F_AC_allFromLast F_MD_allFromLast := by
  intro σ h
  obtain ⟨A, hall⟩ := id h
  obtain ⟨s1, a1, a2, hN1, a3⟩ := fillN hall.1
  obtain ⟨s2, b1, b2, hN2, b3, b4, b5⟩ := lbCla hN1 a3
  obtain ⟨s3, c1, c2, hN3, c3, c4⟩ := lbMod hN2
  refine ⟨nI (lbAll A), s2, s3, ?_, ?_, INV.q hall (((Qf.of a2 (by decide)).tr (Qf.of b2 (by decide))).tr c2)⟩
  · unfold F_AC_allFromLast
    rw [a1, Option.bind_some, b1, Option.bind_some, b4]
  · unfold F_MD_allFromLast
    rw [c1, Option.bind_some, bid, c4]
theorem op_fromLast (a b : Int32) : Ask (F_AC_fromLast a b) (F_MD_fromLast a b) := by
  intro σ h
  obtain ⟨A, hall⟩ := id h
  have hN := hall.1
  obtain ⟨hO, hD, hA, hM, hg⟩ := id hN
  have hP := hO.P
  rcases perC hA hO a with ⟨p, hp, rfl⟩ | ho
  · rcases isIn_01 (σ := σ) (b := b) with ⟨hb, _⟩ | ⟨hb, _⟩
    · obtain ⟨s1, a1, a2, hN1, a3⟩ := fillN hN
      obtain ⟨s2, b1, b2, hN2, b3, b4, b5⟩ := lbCla hN1 a3
      obtain ⟨s3, c1, c2, hN3, c3, c4⟩ := lbMod hN2
      have hin : F_MD_isIn b 0 1 s2 = some (1, s2) := by
        rcases isIn_01 (σ := s2) (b := b) with ⟨_, e⟩ | ⟨hb2, _⟩
        · exact e
        · exfalso; rcases hb with rfl | rfl <;> revert hb2 <;> decide
      have hq := ((Qf.of (D := nD A) a2 (by decide)).tr (Qf.of b2 (by decide))).tr c2
      refine ⟨if b = 0 then bI (lbK A p) else nI (moZ (prA 7 A) p (lbK A p)), s2, s3, ?_, ?_, INV.q hall hq⟩
      · unfold F_AC_fromLast
        rw [hasPersonC_in hA hO hp, Option.bind_some, if1, in_01 hb, a1, Option.bind_some, b1, Option.bind_some, bid, bid, atC al_47 (by omega), atC al_48 (by omega), (b5 p hp).1, (b5 p hp).2]
        split <;> rfl
      · unfold F_MD_fromLast F_MD_fromLast_27
        rw [isPersonM_in hN2.2.2.2.1 hO hp, Option.bind_some, if1, hin, Option.bind_some, if1, if_pos rfl, c1, Option.bind_some, bid, ldk al_73 (by omega), Option.bind_some, c3 p hp, hasMonthsM hN3.2.2.2.1 hO hp (c3 p hp) (fun d e => lbK_in e)]
        split <;> rfl
    · refine Ask.no h (k := 2) (x := -2) (by decide) (by decide) ?_ (fun τ hτ => ?_)
      · unfold F_AC_fromLast F_AC_fromLast_26
        rw [hasPersonC_in hA hO hp, Option.bind_some, if1, out_01 hb, bid]
      · unfold F_MD_fromLast F_MD_fromLast_27
        rw [isPersonM_in (hN.r57 hτ).2.2.2.1 hO hp, Option.bind_some, if1, show (1 : Int32) = nI 1 from rfl, isIn_out (m := 1) (by decide) hb, Option.bind_some]
        simp only [if_true]
        rw [if_neg (by decide), bid]
  · refine Ask.no h (k := 1) (x := -1) (by decide) (by decide) ?_ (fun τ hτ => ?_)
    · unfold F_AC_fromLast
      rw [hasPersonC_out hA hO ho, Option.bind_some, if0, bid]
    · unfold F_MD_fromLast F_MD_fromLast_27
      rw [isPersonM_out (hN.r57 hτ).2.2.2.1 ho, Option.bind_some, if0, if_neg (by decide), bid]
