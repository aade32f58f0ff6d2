-- spared: the class's half
def spB (A : Nt) : Nat → Nat
  | 0 => 0
  | n + 1 => if allO (prA 7 A) (nOd A) (2 ^ n) = allO (prA 7 A) (nOd A) 0 then spB A n ||| 2 ^ n else spB A n
theorem sparedC {σ : St} {A : Nt} (hN : NowI σ A) (hPr : PrC σ 36 (prA 7 A)) (hMo : MoD σ 40 (prA 7 A) (nOd A) 0) : ∃ s, F_AC_spared_8 0 0 σ = some (nI (spB A (nD A)), s) ∧ Fr [43, 44, 45] σ s := by
  have hO := hN.1
  have hP := hO.P
  have hD := hO.D
  have hz := prA_ok hO 7
  obtain ⟨⟨w1, w2, s⟩, ⟨e1, e2, hf⟩, hr⟩ := fix_rel (f := G_AC_spared_8) (n := nD A) (s0 := (nI 0, nI 0, σ)) (fun n x => x.1 = nI (spB A n) ∧ x.2.1 = nI n ∧ Fr [43, 44, 45] σ x.2.2) (by rw [fuel_val]; omega) ⟨rfl, rfl, Fr.rf⟩ (by
    rintro n ⟨w1, w2, s⟩ hn ⟨e1, e2, hf⟩
    simp only at e1 e2 hf
    subst e1; subst e2
    have hNs : NowI s A := hN.q (Qf.of hf (by decide))
    have hA := hNs.2.2.1
    have hx : nI (2 ^ nD A - 1) &&& (nI (2 ^ n) ^^^ (-1)) = nI (fr (nD A) (2 ^ n)) := by
      have := fr_take (nD A) 0 hD (some n) (fun d w => by cases w; exact hn)
      rw [fr_0] at this
      rw [show addT 0 (some n) = 2 ^ n from Nat.zero_or _] at this
      exact this
    obtain ⟨t, b1, b2, b3⟩ := holdC (σ := s) (mo := 43) (n := 36) (oc := 9) (Z := prA 7 A) (od := nOd A) (T0 := 2 ^ n) isMO_43 isPR_36 al_9 (by decide) (hPr.fr hf (by decide) (by decide)) hz hO.od hP (fun k hk => (hA.2.2.2 k hk).2.2.2.2.2) rfl (by decide) (by decide) (by decide)
    have b3' : MoD t 43 (prA 7 A) (nOd A) (2 ^ n) := b3.D hO.od
    have hMt := hMo.fr (hf.two b2) (by decide) (by decide) (by decide)
    have hz1 := allO_le hz (od := nOd A) (T0 := 2 ^ n)
    have hz2 := allO_le hz (od := nOd A) (T0 := 0)
    refine ⟨(nI (spB A (n + 1)), nI (n + 1), t), ⟨rfl, rfl, hf.two b2⟩, fun K => ?_⟩
    show H_AC_spared_8 K (nI (spB A n)) (nI n) s = _
    unfold H_AC_spared_8 F_AC_spared_75
    rw [show rd s 1 0 = nI (nD A) from hA.1, if_neg (nI_ge hn (by omega)), allDeedsC hA hO, Option.bind_some]
    simp only
    rw [bitC (by omega), Option.bind_some]
    simp only
    rw [hx, show F_MO_hold 43 36 9 (nI (fr (nD A) (2 ^ n))) s = some t from b1, Option.bind_some, b3'.2.2.1, hMt.2.2.1]
    have ek : spB A (n + 1) = if allO (prA 7 A) (nOd A) (2 ^ n) = allO (prA 7 A) (nOd A) 0 then spB A n ||| 2 ^ n else spB A n := rfl
    by_cases g : allO (prA 7 A) (nOd A) (2 ^ n) = allO (prA 7 A) (nOd A) 0
    · rw [if_pos (by rw [g]), bitC (by omega), Option.bind_some]
      simp only
      rw [Option.bind_some, fa_or, ek, if_pos g, nI_1]
    · rw [if_neg (fun q => g (nI_inj (by omega) (by omega) q)), ek, if_neg g, nI_1])
  simp only at e1 e2 hf
  refine ⟨s, ?_, hf⟩
  unfold F_AC_spared_8
  refine hr _ (fun K => ?_)
  show H_AC_spared_8 K w1 w2 s = _
  unfold H_AC_spared_8
  rw [e2, show rd s 1 0 = nI (nD A) from (hN.q (Qf.of hf (by decide))).2.2.1.1, if_pos (Int32.le_refl _), e1]
