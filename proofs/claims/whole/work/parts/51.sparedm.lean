-- spared: the model's half
theorem sparedM {σ : St} {A : Nt} (hN : NowI σ A) : ∃ s, F_MD_spared σ = some (nI (spB A (nD A)), s) ∧ (∀ b j, ¬ (b = 73 ∨ b = 74) → rd s b j = rd σ b j) := by
  have hO := hN.1
  have hP := hO.P
  have hD := hO.D
  have hz := prA_ok hO 7
  obtain ⟨s1, a1, a2, a3, a4⟩ := monthsNowM hN.2.2.2.1 hO hN.2.2.2.2 (by decide)
  have hfr : ∀ b j, ¬ (b = 73 ∨ b = 74 ∨ b = 58 ∧ j = 26) → rd s1 b j = rd σ b j := fun b j q => a2.at (by simp; omega) j
  obtain ⟨⟨w1, w2, s⟩, ⟨e1, e2, hf⟩, hr⟩ := fix_rel (f := G_MD_spared_9 (nI (allO (prA 7 A) (nOd A) 0))) (n := nD A) (s0 := (nI 0, nI 0, s1)) (fun n x => x.1 = nI (spB A n) ∧ x.2.1 = nI n ∧ ∀ b j, ¬ (b = 73 ∨ b = 74 ∨ b = 58 ∧ j = 26) → rd x.2.2 b j = rd σ b j) (by rw [fuel_val]; omega) ⟨rfl, rfl, hfr⟩ (by
    rintro n ⟨w1, w2, s⟩ hn ⟨e1, e2, hf⟩
    simp only at e1 e2 hf
    subst e1; subst e2
    have hM : MdN s A 7 := hN.2.2.2.1.un (fun b j q => hf b j (by omega))
    have hM1 : MdN (wr s 58 26 (nI (2 ^ n))) A 7 := hM.un (fun b j q => by rw [rd_wr, if_neg (by omega)])
    have h14 : 2 ^ n < 2 ^ 14 := Nat.pow_lt_pow_right (by decide) (by omega)
    obtain ⟨t, b1, b2, b3, b4⟩ := monthsNowM hM1 hO (rd_wr_same _ _ _ _) h14
    have hz1 := allO_le hz (od := nOd A) (T0 := 2 ^ n)
    have hz2 := allO_le hz (od := nOd A) (T0 := 0)
    refine ⟨(nI (spB A (n + 1)), nI (n + 1), t), ⟨rfl, rfl, fun b j q => ?_⟩, fun K => ?_⟩
    · rw [show rd t b j = rd (wr s 58 26 (nI (2 ^ n))) b j from b2.at (by simp; omega) j, rd_wr, if_neg (by omega)]
      exact hf b j q
    show H_MD_spared_9 (nI (allO (prA 7 A) (nOd A) 0)) K (nI (spB A n)) (nI n) s = _
    unfold H_MD_spared_9 F_MD_spared_40
    rw [show rd s 58 9 = nI (nD A) from hM.1.1, if_neg (nI_ge hn (by omega)), shl1 (by omega), Option.bind_some, b1, Option.bind_some]
    simp only
    have ek : spB A (n + 1) = if allO (prA 7 A) (nOd A) (2 ^ n) = allO (prA 7 A) (nOd A) 0 then spB A n ||| 2 ^ n else spB A n := rfl
    by_cases g : allO (prA 7 A) (nOd A) (2 ^ n) = allO (prA 7 A) (nOd A) 0
    · rw [if_pos (by rw [g]), Option.bind_some, fa_or, ek, if_pos g, nI_1]
    · rw [if_neg (fun q => g (nI_inj (by omega) (by omega) q)), Option.bind_some, ek, if_neg g, nI_1, Int32.or_zero])
  simp only at e1 e2 hf
  have hM : MdN s A 7 := hN.2.2.2.1.un (fun b j q => hf b j (by omega))
  refine ⟨wr s 58 26 0, ?_, fun b j q => ?_⟩
  · unfold F_MD_spared
    rw [a1, Option.bind_some]
    show fixF (G_MD_spared_9 (nI (allO (prA 7 A) (nOd A) 0))) FUEL (nI 0, nI 0, s1) = _
    refine hr _ (fun K => ?_)
    show H_MD_spared_9 _ K w1 w2 s = _
    unfold H_MD_spared_9
    rw [e2, show rd s 58 9 = nI (nD A) from hM.1.1, if_pos (Int32.le_refl _), e1, Option.bind_some]
  · rw [rd_wr]
    by_cases c : b = 58 ∧ j = 26
    · rw [if_pos c, c.1, c.2]; exact hN.2.2.2.2.symm
    · rw [if_neg c]; exact hf b j (by omega)
theorem op_spared : Ask F_AC_spared F_MD_spared := by
  intro σ h
  obtain ⟨A, hall⟩ := id h
  obtain ⟨s1, a1, a2, hN1, a3, a4⟩ := todayC hall.1
  obtain ⟨s2, b1, b2⟩ := sparedC hN1 a3 a4
  obtain ⟨s3, c1, c2⟩ := sparedM (hN1.q (Qf.of b2 (by decide)))
  refine ⟨_, s2, s3, (?_ : F_AC_spared σ = some (nI (spB A (nD A)), s2)), c1, INV.q hall (((Qf.of a2 (by decide)).tr (Qf.of b2 (by decide))).tr (fun b j q => c2 b j (fun w => q (by unfold Qd; omega))))⟩
  unfold F_AC_spared
  rw [a1, Option.bind_some]
  exact b1
