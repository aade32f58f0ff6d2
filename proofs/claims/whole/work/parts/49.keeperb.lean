theorem keeperC {σ : St} {A : Nt} (hN : NowI σ A) (hPr : PrC σ 36 (prA 7 A)) (hMo : MoD σ 40 (prA 7 A) (nOd A) 0) : ∃ s, F_AC_keeper_12 (nI 1000000) (-9) 0 σ = some (kBest (kS A (nP A)), s) ∧ Fr [43, 44, 45, 54] σ s := by
  have hO := hN.1
  have hP := hO.P
  obtain ⟨⟨w1, w2, w3, s⟩, ⟨e1, e2, e3, hf⟩, hr⟩ := fix_rel (f := G_AC_keeper_12) (n := nP A) (s0 := (nI 1000000, -9, nI 0, σ)) (fun n x => x.1 = kFew 1000000 (kS A n) ∧ x.2.1 = kBest (kS A n) ∧ x.2.2.1 = nI n ∧ Fr [43, 44, 45, 54] σ x.2.2.2) (by rw [fuel_val]; omega) ⟨rfl, rfl, rfl, Fr.rf⟩ (by
    rintro n ⟨w1, w2, w3, s⟩ hn ⟨e1, e2, e3, hf⟩
    simp only at e1 e2 e3 hf
    subst e1; subst e2; subst e3
    have hNs : NowI s A := hN.q (Qf.of hf (by decide))
    have hA := hNs.2.2.1
    have r7 : rd s 7 n = bI (nB A n) := (hA.2.2.2 n hn).2.2.2.1
    cases e : nB A n with
    | none =>
      have ek : kS A (n + 1) = kS A n := by
        show kNext A n (kS A n) = _
        unfold kNext; rw [e]
      refine ⟨(kFew 1000000 (kS A n), kBest (kS A n), nI (n + 1), s), ⟨by rw [ek], by rw [ek], rfl, hf⟩, fun K => ?_⟩
      show H_AC_keeper_12 K (kFew 1000000 (kS A n)) (kBest (kS A n)) (nI n) s = _
      unfold H_AC_keeper_12 F_AC_keeper_94
      rw [show rd s 1 1 = nI (nP A) from hA.2.1, if_neg (nI_ge hn (by omega)), atC al_7 (by omega), Option.bind_some]
      simp only
      rw [r7, e, show F_NI_hasPerson 1 (bI none) s = some (0, s) from hasPersonC_out hA hO (Or.inl n9_neg), Option.bind_some, if0, nI_1]
    | some q =>
      have hq := (nB_in hO hn e).1
      obtain ⟨t, c1, c2, c3⟩ := monthsAtC hA hO (hPr.fr hf (by decide) (by decide)) hq hn (j := nP A - 1) (by omega)
      have hle : mK A n q ≤ 78 := moO_le (prA_ok hO 7) hq
      have hle2 : moO (prA 7 A) (nOd A) 0 q ≤ 78 := moO_le (prA_ok hO 7) hq
      have hMt := hMo.fr (hf.two c2) (by decide) (by decide) (by decide)
      have r42 : rd t 42 q = nI (moO (prA 7 A) (nOd A) 0 q) := (hMt.2.2.2.2 q hq).2
      have hk := kLess_iff (A := A) hO (n := n) (D := 1000000) (x := mK A n q) (by omega) hle (by decide) (by decide)
      have ek : kS A (n + 1) = if mK A n q < moO (prA 7 A) (nOd A) 0 q ∧ kLess (kS A n) (mK A n q) = true then some (n, mK A n q) else kS A n := by
        show kNext A n (kS A n) = _
        unfold kNext; rw [e]
      refine ⟨(kFew 1000000 (kS A (n + 1)), kBest (kS A (n + 1)), nI (n + 1), t), ⟨rfl, rfl, rfl, hf.two c2⟩, fun K => ?_⟩
      show H_AC_keeper_12 K (kFew 1000000 (kS A n)) (kBest (kS A n)) (nI n) s = _
      unfold H_AC_keeper_12 F_AC_keeper_94
      rw [show rd s 1 1 = nI (nP A) from hA.2.1, if_neg (nI_ge hn (by omega)), atC al_7 (by omega), Option.bind_some]
      simp only
      rw [r7, e, show F_NI_hasPerson 1 (bI (some q)) s = some (1, s) from hasPersonC_in hA hO hq, Option.bind_some, if1]
      rw [show rd s 1 1 = nI (nP A) from hA.2.1, nI_dec (by omega), show F_AC_monthsAt (bI (some q)) (nI n) (nI (nP A - 1)) s = some (nI (mK A n q), t) from c1, Option.bind_some]
      simp only
      rw [show F_AC_at 42 (bI (some q)) t = some (rd t 42 q, t) from atC al_42 (by omega), Option.bind_some, r42]
      by_cases g1 : mK A n q < moO (prA 7 A) (nOd A) 0 q
      · rw [if_neg (nI_ge g1 (by omega))]
        by_cases g2 : kLess (kS A n) (mK A n q) = true
        · rw [if_neg (Int32.not_le.mpr (hk.mpr g2)), ek, if_pos ⟨g1, g2⟩, nI_1]
          rfl
        · rw [if_pos (Int32.not_lt.mp (fun c => g2 (hk.mp c))), ek, if_neg (fun c => g2 c.2), nI_1]
      · rw [if_pos (nI_le (by omega) (by omega)), ek, if_neg (fun c => g1 c.1), nI_1])
  simp only at e1 e2 e3 hf
  refine ⟨s, ?_, hf⟩
  unfold F_AC_keeper_12
  refine hr _ (fun K => ?_)
  show H_AC_keeper_12 K w1 w2 w3 s = _
  unfold H_AC_keeper_12
  rw [e3, show rd s 1 1 = nI (nP A) from (hN.q (Qf.of hf (by decide))).2.2.1.2.1, if_pos (Int32.le_refl _), e2]
theorem keeperM {σ : St} {A : Nt} (hN : NowI σ A) : ∃ s, F_MD_keeper_8 (-9) (nI 1000000000) 0 σ = some (kBest (kS A (nP A)), s) ∧ Fr [73, 74] σ s := by
  have hO := hN.1
  have hP := hO.P
  obtain ⟨⟨w1, w2, w3, s⟩, ⟨e1, e2, e3, hf⟩, hr⟩ := fix_rel (f := G_MD_keeper_8) (n := nP A) (s0 := (-9, nI 1000000000, nI 0, σ)) (fun n x => x.1 = kBest (kS A n) ∧ x.2.1 = kFew 1000000000 (kS A n) ∧ x.2.2.1 = nI n ∧ Fr [73, 74] σ x.2.2.2) (by rw [fuel_val]; omega) ⟨rfl, rfl, rfl, Fr.rf⟩ (by
    rintro n ⟨w1, w2, w3, s⟩ hn ⟨e1, e2, e3, hf⟩
    simp only at e1 e2 e3 hf
    subst e1; subst e2; subst e3
    have hNs : NowI s A := hN.q (Qf.of hf (by decide))
    have hM := hNs.2.2.2.1
    have r7 : rd s 65 n = bI (nB A n) := (hM.1.2.2.2 n hn).2.2.2.1
    cases e : nB A n with
    | none =>
      have ek : kS A (n + 1) = kS A n := by
        show kNext A n (kS A n) = _
        unfold kNext; rw [e]
      refine ⟨(kBest (kS A n), kFew 1000000000 (kS A n), nI (n + 1), s), ⟨by rw [ek], by rw [ek], rfl, hf⟩, fun K => ?_⟩
      show H_MD_keeper_8 K (kBest (kS A n)) (kFew 1000000000 (kS A n)) (nI n) s = _
      unfold H_MD_keeper_8 F_MD_keeper_89
      rw [show rd s 58 10 = nI (nP A) from hM.1.2.1, if_neg (nI_ge hn (by omega)), ldk al_65 (by omega), Option.bind_some, r7, e, if_neg (by decide : ¬ (0 : Int32) ≤ bI none), nI_1]
    | some q =>
      have hq := (nB_in hO hn e).1
      obtain ⟨t1, b1, b2, hNt1, b3, b4⟩ := todayM hNs
      obtain ⟨t, c1, c2, c3⟩ := monthsAtM hNt1.2.2.2.1 hO hNt1.2.2.2.2 hn (j := nP A - 1) (by omega)
      have hNt : NowI t A := hNt1.q (Qf.of c2 (by decide))
      have hle : mK A n q ≤ 78 := moO_le (prA_ok hO 7) hq
      have hle2 : moO (prA 7 A) (nOd A) 0 q ≤ 78 := moO_le (prA_ok hO 7) hq
      have hk := kLess_iff (A := A) hO (n := n) (D := 1000000000) (x := mK A n q) (by omega) hle (by decide) (by decide)
      have ek : kS A (n + 1) = if mK A n q < moO (prA 7 A) (nOd A) 0 q ∧ kLess (kS A n) (mK A n q) = true then some (n, mK A n q) else kS A n := by
        show kNext A n (kS A n) = _
        unfold kNext; rw [e]
      have l1 : ∀ τ, NowI τ A → ldA τ 65 (nI n) = some (nI q) := fun τ hτ => by
        rw [ldk al_65 (by omega), show rd τ 65 n = bI (nB A n) from (hτ.2.2.2.1.1.2.2.2 n hn).2.2.2.1, e]
        rfl
      refine ⟨(kBest (kS A (n + 1)), kFew 1000000000 (kS A (n + 1)), nI (n + 1), t), ⟨rfl, rfl, rfl, (hf.two b2).two c2⟩, fun K => ?_⟩
      show H_MD_keeper_8 K (kBest (kS A n)) (kFew 1000000000 (kS A n)) (nI n) s = _
      unfold H_MD_keeper_8 F_MD_keeper_89
      rw [show rd s 58 10 = nI (nP A) from hM.1.2.1, if_neg (nI_ge hn (by omega)), l1 s hNs, Option.bind_some, if_pos (nI_pos' (by omega)), b1, Option.bind_some, l1 t1 hNt1, Option.bind_some, hasM7 hNt1 hq (b4 q hq), Option.bind_some]
      simp only
      rw [show rd t1 58 10 = nI (nP A) from hNt1.2.2.2.1.1.2.1, nI_dec (by omega), c1, Option.bind_some]
      simp only
      rw [l1 t hNt, Option.bind_some, show F_MD_hasMonths (nI q) t = some (nI (mK A n q), t) from hasM7 hNt hq (c3 q hq).1, Option.bind_some]
      simp only
      by_cases g1 : mK A n q < moO (prA 7 A) (nOd A) 0 q
      · rw [if_neg (nI_ge g1 (by omega))]
        by_cases g2 : kLess (kS A n) (mK A n q) = true
        · rw [if_pos (hk.mpr g2), ek, if_pos ⟨g1, g2⟩, nI_1]
          rfl
        · rw [if_neg (fun c => g2 (hk.mp c)), ek, if_neg (fun c => g2 c.2), nI_1]
      · rw [if_pos (nI_le (by omega) (by omega)), ek, if_neg (fun c => g1 c.1), nI_1])
  simp only at e1 e2 e3 hf
  refine ⟨s, ?_, hf⟩
  unfold F_MD_keeper_8
  refine hr _ (fun K => ?_)
  show H_MD_keeper_8 K w1 w2 w3 s = _
  unfold H_MD_keeper_8
  rw [e3, show rd s 58 10 = nI (nP A) from (hN.q (Qf.of hf (by decide))).2.2.2.1.1.2.1, if_pos (Int32.le_refl _), e1]
theorem op_keeper : Ask F_AC_keeper F_MD_keeper := by
  intro σ h
  obtain ⟨A, hall⟩ := id h
  obtain ⟨s1, a1, a2, hN1, a3, a4⟩ := todayC hall.1
  obtain ⟨s2, b1, b2⟩ := keeperC hN1 a3 a4
  obtain ⟨s3, c1, c2⟩ := keeperM (hN1.q (Qf.of b2 (by decide)))
  refine ⟨_, s2, s3, (?_ : F_AC_keeper σ = some (kBest (kS A (nP A)), s2)), c1, INV.q hall (((Qf.of a2 (by decide)).tr (Qf.of b2 (by decide))).tr (Qf.of c2 (by decide)))⟩
  unfold F_AC_keeper
  rw [a1, Option.bind_some]
  exact b1
