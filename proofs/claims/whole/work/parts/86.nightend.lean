-- night: the end
def CoF (s s' : St) : Prop := (∀ b j, ¬ (60 ≤ b ∧ b ≤ 67 ∨ b = 58 ∧ (j = 9 ∨ j = 10)) → rd s' b j = rd s b j) ∧ ∀ b, b ∈ nrows → ∀ j, alen b ≤ j → rd s' b j = rd s b j
theorem comeAll {s : St} {A : Nt} {t : Nat → Nat} {c N n : Nat} (hM : MdN s A 7) (hG : GdN A) (ht : ∀ j, j < c → t j < 256) (hok : OkTo t c N) (hc : c ≤ 96) (h17 : rd s 58 17 = nI N) (hR : ∀ m, m < N → StR s t (posN t m) m) (hn : n ≤ N) {B0 : Nt} (hB0 : ntN t A n = some B0) : ∃ s', (∀ r, (∀ K, H_MD_night_86 K (nI n) s' = r) → F_MD_night_86 0 s = r) ∧ GdN B0 ∧ AbsM s' B0 ∧ CoF s s' := by
  have hpN := hok.pos
  obtain ⟨⟨v2, s'⟩, ⟨e1, ⟨hf1, hf2⟩, B, hB, hGB, hAB⟩, hr⟩ := fix_rel (f := G_MD_night_86) (n := n) (s0 := (nI 0, s)) (fun k q => q.1 = nI k ∧ CoF s q.2 ∧ ∃ B, ntN t A k = some B ∧ GdN B ∧ AbsM q.2 B) (by rw [fuel_val]; omega) ⟨rfl, ⟨fun b j _ => rfl, fun b _ j _ => rfl⟩, A, rfl, hG, hM.1⟩ (by
    rintro k ⟨v2, s1⟩ hk ⟨e1, ⟨hf1, hf2⟩, B, hB, hGB, hAB⟩
    simp only at e1 hf1 hf2 hAB
    subst e1
    have hds := DgS.of (hok k (by omega))
    have hM1 : MdN s1 B 7 := ⟨hAB, (hf1 58 23 (by omega)).trans hM.2.1, by decide⟩
    obtain ⟨k1, k2, k3, k4, k5⟩ := hR k (by omega)
    have hR1 : StR s1 t (posN t k) k := ⟨(hf1 69 _ (by omega)).trans k1, (hf1 70 _ (by omega)).trans k2, (hf1 71 _ (by omega)).trans k3, (hf1 71 _ (by omega)).trans k4, fun q => (hf1 71 _ (by omega)).trans (k5 q)⟩
    obtain ⟨B1, hB1⟩ := ntN_lt hB0 (show k + 1 ≤ n by omega)
    have hB2 := hB1
    rw [ntN_s, hB, Option.bind_some] at hB2
    rcases comesM hM1 hGB hR1 (by omega) ht hds with ⟨h1, _⟩ | ⟨B', s2, h1, h2, h3, h4, h5⟩
    · rw [h1] at hB2; cases hB2
    · rw [h1] at hB2
      cases hB2
      refine ⟨(nI (k + 1), s2), ⟨rfl, ⟨fun b j w => (h4 b j w).trans (hf1 b j w), fun b hb j hj => (h5 b hb j hj).trans (hf2 b hb j hj)⟩, _, hB1, tlN_ok hGB hds h1, h3⟩, fun K => ?_⟩
      show H_MD_night_86 K (nI k) s1 = _
      unfold H_MD_night_86
      rw [(hf1 58 17 (by omega)).trans h17, if_neg (nI_ge (by omega) (by omega)), h2, Option.bind_some, if1, nI_1])
  simp only at e1 hf1 hf2 hAB
  rw [hB0] at hB
  cases hB
  refine ⟨s', fun r h => ?_, hGB, hAB, hf1, hf2⟩
  unfold F_MD_night_86
  refine hr r (fun K => ?_)
  show H_MD_night_86 K v2 s' = r
  rw [e1]
  exact h K
theorem INV_let0 {σ τ : St} {A : Nt} (h : NowI σ A ∧ ChI σ A ∧ LetI σ ∧ RowI σ ∧ RefI σ ∧ ImgI σ) (he : ∀ b j, ¬ (Qd (nD A) b j ∨ b = 34 ∧ j = 0 ∨ b = 58 ∧ j = 15) → rd τ b j = rd σ b j) (h34 : rd τ 34 0 = 0) (h15 : rd τ 58 15 = 0) : INV τ :=
  ⟨A, h.1.un (fun b j q => he b j (by unfold Qd; omega)), h.2.1.un (fun b j q => he b j (by unfold Qd; omega)), ⟨0, by decide, h34, h15, fun j hj => absurd hj (Nat.not_lt_zero _)⟩, h.2.2.2.1.un (fun b j q => he b j (by unfold Qd; omega)), h.2.2.2.2.1.un (fun b j q => he b j (by unfold Qd; omega)), h.2.2.2.2.2.un (fun b j q => he b j (by unfold Qd; omega))⟩
theorem neg_le1 : ∀ p, p < 97 → (-1000 : Int32) - nI p ≤ 0 ∧ (-2000 : Int32) - nI p ≤ 0 := by decide +kernel
theorem op_night : Ask F_AC_night F_MD_night := by
  intro σ h
  obtain ⟨A, hall⟩ := id h
  obtain ⟨hN, hCh, ⟨c, hc, l1, l2, l3⟩, hRw, hRf, hIm⟩ := id hall
  have hG : GdN A := ⟨hN.1, hN.2.1.1, hN.2.1.2⟩
  obtain ⟨t, hte⟩ : ∃ t : Nat → Nat, t = fun j => (rd σ 35 j).toNatClampNeg := ⟨_, rfl⟩
  have htv : ∀ j, j < c → t j < 256 ∧ rd σ 35 j = nI (t j) ∧ rd σ 68 j = nI (t j) := fun j hj => by
    obtain ⟨v, v1, v2, v3⟩ := l3 j hj
    have : t j = v := by
      rw [hte]
      show (rd σ 35 j).toNatClampNeg = v
      rw [v2, nI_clamp (by omega)]
    rw [this]
    exact ⟨v1, v2, v3⟩
  have ht : ∀ j, j < c → t j < 256 := fun j hj => (htv j hj).1
  obtain ⟨s1, a1, hN1, q1, hT⟩ := trialC hN
  have hx1 : TxC s1 t c := ⟨(q1 34 0 (by unfold Qd; omega)).trans l1, fun j hj => (q1 35 j (by unfold Qd; omega)).trans (htv j hj).2.1⟩
  have hxm : ∀ τ, rd τ 58 15 = rd σ 58 15 → (∀ j, rd τ 68 j = rd σ 68 j) → TxM τ t c := fun τ e1 e2 => ⟨e1.trans l2, fun j hj => (e2 j).trans (htv j hj).2.2⟩
  -- the model's start
  have hstart : ∀ τ, rd τ 58 15 = rd σ 58 15 → (∀ j, rd τ 68 j = rd σ 68 j) → ∃ u, F_MD_night τ = F_MD_night_12 1 u ∧ TxM u t c ∧ rd u 58 16 = nI 0 ∧ rd u 58 17 = nI 0 ∧ ∀ b j, ¬ (b = 58 ∧ (j = 16 ∨ j = 17)) → rd u b j = rd τ b j := fun τ e1 e2 => by
    have cel : ∀ b j, ¬ (b = 58 ∧ (j = 16 ∨ j = 17)) → rd (wr (wr τ 58 16 0) 58 17 0) b j = rd τ b j := fun b j w => by
      rw [rd_wr, if_neg (by omega), rd_wr, if_neg (by omega)]
    refine ⟨wr (wr τ 58 16 0) 58 17 0, ?_, hxm _ ((cel 58 15 (by omega)).trans e1) (fun j => (cel 68 j (by omega)).trans (e2 j)), ?_, rd_wr_same _ _ _ _, cel⟩
    · unfold F_MD_night
      rw [Option.bind_some, Option.bind_some]
    · rw [rd_wr_slot _ _ _ _ (by decide)]; exact rd_wr_same _ _ _ _
  obtain ⟨N, w, b1, hok, hw⟩ := placeC hc ht hx1
  have hpN := hok.pos
  rcases hw with ⟨hN2, hN0, rfl⟩ | ⟨f, hfl, hN0, hfc, rfl⟩
  · obtain ⟨w, s2, d1, d2, hw⟩ := tellC hT hG hx1 hc ht hok hN2
    have htell : F_LT_tell 19 s1 = some (w, s2) := by
      unfold F_LT_tell
      rw [b1, Option.bind_some, if_pos (show (-9 : Int32) < 0 by decide)]
      exact d1
    let s3 := wr s2 34 0 0
    have e3 : ∀ b j, ¬ (Qd (nD A) b j ∨ b = 34 ∧ j = 0) → rd s3 b j = rd σ b j := fun b j q => by
      show rd (wr s2 34 0 0) b j = _
      rw [rd_wr, if_neg (by omega), d2.at (by unfold Qd at q; simp; omega) j, q1 b j (fun z => q (Or.inl z))]
    rcases hw with ⟨B, hB, hGB, hAB, rfl⟩ | ⟨M, B, hMN, hB, hGB, hfail, rfl⟩
    · -- all is stated
      have hAB3 : AbsC s3 19 B := hAB.un (fun b j r1 r2 => rd_wr_cell _ _ _ _ (by omega))
      obtain ⟨s4, g1, g2, g3⟩ := copyC isNI_1 isNI_19 (by decide) hAB3 hGB.1
      let s5 := wr s4 28 0 0
      have e5 : ∀ b j, ¬ (Qd (nD A) b j ∨ b = 34 ∧ j = 0 ∨ 1 ≤ b ∧ b ≤ 9 ∨ b = 28 ∧ j = 0) → rd s5 b j = rd σ b j := fun b j q => by
        have q' := q
        unfold Qd at q'
        show rd (wr s4 28 0 0) b j = _
        rw [rd_wr, if_neg (by omega), g2.at (by simp; omega) j, e3 b j (by unfold Qd; omega)]
      obtain ⟨u, u1, u2, u3, u4, u5⟩ := hstart s5 (e5 58 15 (by unfold Qd; omega)) (fun j => e5 68 j (by unfold Qd; omega))
      obtain ⟨v, v1, v2, v3, v4⟩ := goodT u2 hc ht hok hN2 hN0 u3 u4
      let v' := wr v 58 15 0
      have ev : ∀ b j, ¬ (69 ≤ b ∧ b ≤ 71 ∨ b = 58 ∧ (j = 15 ∨ j = 16 ∨ j = 17)) → rd v' b j = rd s5 b j := fun b j q => by
        show rd (wr v 58 15 0) b j = _
        rw [rd_wr, if_neg (by omega), v4 b j (by omega), u5 b j (by omega)]
      obtain ⟨x, x1, x2, x3⟩ := keepAll (σ := v') (w := 1) (by decide)
      have ex : ∀ b j, ¬ (Qd (nD A) b j ∨ b = 34 ∧ j = 0 ∨ 1 ≤ b ∧ b ≤ 9 ∨ b = 28 ∧ j = 0 ∨ b = 58 ∧ j = 15) → rd x b j = rd σ b j := fun b j q => by
        have q' := q
        unfold Qd at q'
        rw [x3 b j (by omega), ev b j (by omega), e5 b j (by unfold Qd; omega)]
      have hMx : MdN x A 7 := hN.2.2.2.1.un (fun b j q => ex b j (by unfold Qd; omega))
      have hRx : ∀ m, m < N → StR x t (posN t m) m := fun m hm => by
        obtain ⟨k1, k2, k3, k4, k5⟩ := v3 m hm
        have cel : ∀ b j, 69 ≤ b → b ≤ 71 → rd x b j = rd v b j := fun b j r1 r2 => by
          rw [x3 b j (by omega)]
          exact rd_wr_cell _ _ _ _ (by omega)
        exact ⟨(cel 69 _ (by decide) (by decide)).trans k1, (cel 70 _ (by decide) (by decide)).trans k2, (cel 71 _ (by decide) (by decide)).trans k3, (cel 71 _ (by decide) (by decide)).trans k4, fun q => (cel 71 _ (by decide) (by decide)).trans (k5 q)⟩
      have h17x : rd x 58 17 = nI N := by
        rw [x3 58 17 (by omega)]
        show rd (wr v 58 15 0) 58 17 = _
        rw [rd_wr_slot _ _ _ _ (by decide)]; exact v2
      obtain ⟨y, y1, _, y3, y4, y5⟩ := comeAll hMx hG ht hok hc h17x hRx (Nat.le_refl N) hB
      let z := wr y 58 22 0
      have ez : ∀ b j, ¬ (Qd (nD A) b j ∨ b = 34 ∧ j = 0 ∨ 1 ≤ b ∧ b ≤ 9 ∨ b = 28 ∧ j = 0 ∨ b = 58 ∧ (j = 9 ∨ j = 10 ∨ j = 15 ∨ j = 22) ∨ 60 ≤ b ∧ b ≤ 67) → rd z b j = rd σ b j := fun b j q => by
        have q' := q
        unfold Qd at q'
        show rd (wr y 58 22 0) b j = _
        rw [rd_wr, if_neg (by omega), y4 b j (by omega), ex b j (by unfold Qd; omega)]
      have ez5 : ∀ b j, ¬ (b = 58 ∨ 60 ≤ b ∧ b ≤ 72) → rd z b j = rd s5 b j := fun b j q => by
        show rd (wr y 58 22 0) b j = _
        rw [rd_wr, if_neg (by omega), y4 b j (by omega), x3 b j (by omega), ev b j (by omega)]
      have hCz : AbsC z 1 B := g3.un (fun b j r1 r2 => by
        rw [ez5 b j (by omega)]
        exact rd_wr_cell _ _ _ _ (by omega))
      have hMz : MdN z B 7 := ⟨y3.un (fun b j q => by
        show rd (wr y 58 22 0) b j = _
        rw [rd_wr, if_neg (by omega)]), (ez 58 23 (by unfold Qd; omega)).trans hN.2.2.2.1.2.1, by decide⟩
      refine ⟨nI N, s5, z, ?_, ?_, ⟨B, ⟨hGB.1, hGB.2, hCz, hMz, (ez 58 26 (by unfold Qd; omega)).trans hN.2.2.2.2⟩, ⟨0, fun _ => B, by decide, ?_, rd_wr_same _ _ _ _, rfl, fun i hi => absurd hi (Nat.not_lt_zero _)⟩, ⟨0, by decide, ?_, ?_, fun j hj => absurd hj (Nat.not_lt_zero _)⟩, hRw.un (fun b j q => ez b j (by unfold Qd; omega)), hRf.un (fun b j q => ez b j (by unfold Qd; omega)), hIm.un (fun b j q => ez b j (by unfold Qd; omega))⟩⟩
      · unfold F_AC_night F_LT_drop F_PA_forget
        rw [a1, Option.bind_some, htell, Option.bind_some, Option.bind_some, Option.bind_some]
        simp only
        rw [if_neg (show ¬ nI N ≤ 0 from nI_ge (a := 0) (by omega) (by omega))]
        rw [show F_NI_copy 1 19 (wr s2 34 0 0) = some s4 from g1, Option.bind_some, Option.bind_some, Option.bind_some]
      · rw [u1, v1]
        unfold F_MD_night_60
        rw [Option.bind_some, if_neg (show ¬ (1 : Int32) = 0 by decide)]
        rw [show F_MD_passesAll 1 1 (wr v 58 15 0) = some x from x1, Option.bind_some]
        refine y1 _ (fun K => ?_)
        unfold H_MD_night_86
        rw [(y4 58 17 (by omega)).trans h17x, if_pos (Int32.le_refl _), Option.bind_some, rd_wr_slot _ _ _ _ (by decide), (y4 58 17 (by omega)).trans h17x]
      · rw [ez5 28 0 (by omega)]; exact rd_wr_same _ _ _ _
      · rw [ez5 34 0 (by omega)]
        show rd (wr s4 28 0 0) 34 0 = _
        rw [rd_wr_cell _ _ _ _ (by decide), g2.at (by decide)]
        exact rd_wr_same _ _ _ _
      · show rd (wr y 58 22 0) 58 15 = _
        rw [rd_wr_slot _ _ _ _ (by decide), y4 58 15 (by omega), x3 58 15 (by omega)]
        exact rd_wr_same _ _ _ _
    · -- a statement fails
      have hpM := (show OkTo t c M from fun m hm => hok m (by omega)).pos
      obtain ⟨u, u1, u2, u3, u4, u5⟩ := hstart s3 (e3 58 15 (by unfold Qd; omega)) (fun j => e3 68 j (by unfold Qd; omega))
      obtain ⟨v, v1, v2, v3, v4⟩ := goodT u2 hc ht hok hN2 hN0 u3 u4
      let v' := wr v 58 15 0
      have ev : ∀ b j, ¬ (69 ≤ b ∧ b ≤ 71 ∨ b = 58 ∧ (j = 15 ∨ j = 16 ∨ j = 17)) → rd v' b j = rd s3 b j := fun b j q => by
        show rd (wr v 58 15 0) b j = _
        rw [rd_wr, if_neg (by omega), v4 b j (by omega), u5 b j (by omega)]
      obtain ⟨x, x1, x2, x3⟩ := keepAll (σ := v') (w := 1) (by decide)
      have ex : ∀ b j, ¬ (Qd (nD A) b j ∨ b = 34 ∧ j = 0 ∨ b = 58 ∧ j = 15) → rd x b j = rd σ b j := fun b j q => by
        have q' := q
        unfold Qd at q'
        rw [x3 b j (by omega), ev b j (by omega), e3 b j (by unfold Qd; omega)]
      have hMx : MdN x A 7 := hN.2.2.2.1.un (fun b j q => ex b j (by unfold Qd; omega))
      have hRx : ∀ m, m < N → StR x t (posN t m) m := fun m hm => by
        obtain ⟨k1, k2, k3, k4, k5⟩ := v3 m hm
        have cel : ∀ b j, 69 ≤ b → b ≤ 71 → rd x b j = rd v b j := fun b j r1 r2 => by
          rw [x3 b j (by omega)]
          exact rd_wr_cell _ _ _ _ (by omega)
        exact ⟨(cel 69 _ (by decide) (by decide)).trans k1, (cel 70 _ (by decide) (by decide)).trans k2, (cel 71 _ (by decide) (by decide)).trans k3, (cel 71 _ (by decide) (by decide)).trans k4, fun q => (cel 71 _ (by decide) (by decide)).trans (k5 q)⟩
      have h17x : rd x 58 17 = nI N := by
        rw [x3 58 17 (by omega)]
        show rd (wr v 58 15 0) 58 17 = _
        rw [rd_wr_slot _ _ _ _ (by decide)]; exact v2
      obtain ⟨y, y1, hGB2, y3, y4, y5⟩ := comeAll hMx hG ht hok hc h17x hRx (show M ≤ N by omega) hB
      have hMy : MdN y B 7 := ⟨y3, (y4 58 23 (by omega)).trans hMx.2.1, by decide⟩
      have hRy : StR y t (posN t M) M := by
        obtain ⟨k1, k2, k3, k4, k5⟩ := hRx M hMN
        exact ⟨(y4 69 _ (by omega)).trans k1, (y4 70 _ (by omega)).trans k2, (y4 71 _ (by omega)).trans k3, (y4 71 _ (by omega)).trans k4, fun q => (y4 71 _ (by omega)).trans (k5 q)⟩
      have hcom : F_MD_comes (nI M) y = some (0, y) := by
        rcases comesM hMy hGB hRy (by omega) ht (DgS.of (hok M hMN)) with ⟨_, h2⟩ | ⟨B', s', h1, _⟩
        · exact h2
        · rw [hfail] at h1; cases h1
      obtain ⟨z, z1, z2, z3, z4, z5⟩ := putF (w := 1) (σ := y) (ρ := v') (by decide) (x2.mv (fun j => y4 72 j (by omega))) (fun b hb j hj => by
        have hb' : 60 ≤ b ∧ b ≤ 67 := by
          simp only [nrows, List.mem_cons, List.not_mem_nil, or_false] at hb; omega
        rw [y5 b hb j hj, x3 b j (by omega)])
      have ez : ∀ b j, ¬ (Qd (nD A) b j ∨ b = 34 ∧ j = 0 ∨ b = 58 ∧ j = 15) → rd z b j = rd σ b j := fun b j q => by
        have q' := q
        unfold Qd at q'
        by_cases hb2 : 60 ≤ b ∧ b ≤ 67
        · rw [z2 b hb2.1 hb2.2 j, ev b j (by omega), e3 b j (by unfold Qd; omega)]
        · by_cases h9 : b = 58 ∧ j = 9
          · rw [h9.1, h9.2, z3, ev 58 9 (by omega), e3 58 9 (by unfold Qd; omega)]
          · by_cases h10 : b = 58 ∧ j = 10
            · rw [h10.1, h10.2, z4, ev 58 10 (by omega), e3 58 10 (by unfold Qd; omega)]
            · rw [z5 b j (by omega), y4 b j (by omega), ex b j q]
      refine ⟨-2000 - nI (posN t M), s3, z, ?_, ?_, INV_let0 hall ez ?_ ?_⟩
      · unfold F_AC_night F_LT_drop
        rw [a1, Option.bind_some, htell, Option.bind_some, Option.bind_some, Option.bind_some]
        exact if_pos (neg_le1 (posN t M) (by omega)).2
      · rw [u1, v1]
        unfold F_MD_night_60
        rw [Option.bind_some, if_neg (show ¬ (1 : Int32) = 0 by decide)]
        rw [show F_MD_passesAll 1 1 (wr v 58 15 0) = some x from x1, Option.bind_some]
        refine y1 _ (fun K => ?_)
        unfold H_MD_night_86
        rw [(y4 58 17 (by omega)).trans h17x, if_neg (nI_ge hMN (by omega)), hcom, Option.bind_some, if0]
        simp only
        rw [show F_MD_passesAll 1 0 y = some z from z1, Option.bind_some, ldk al_70 (by omega), Option.bind_some, z5 70 M (by omega), hRy.2.1]
      · rw [z5 34 0 (by omega), y4 34 0 (by omega), x3 34 0 (by omega), ev 34 0 (by omega)]
        exact rd_wr_same _ _ _ _
      · rw [z5 58 15 (by omega), y4 58 15 (by omega), x3 58 15 (by omega)]
        exact rd_wr_same _ _ _ _
  · -- a letter is wrong
    have htell : F_LT_tell 19 s1 = some (-1000 - nI f, s1) := by
      unfold F_LT_tell
      rw [b1, Option.bind_some, if_neg (show ¬ nI f < 0 from nI_pos (by omega))]
    let s3 := wr s1 34 0 0
    have e3 : ∀ b j, ¬ (Qd (nD A) b j ∨ b = 34 ∧ j = 0) → rd s3 b j = rd σ b j := fun b j q => by
      show rd (wr s1 34 0 0) b j = _
      rw [rd_wr, if_neg (by omega), q1 b j (fun z => q (Or.inl z))]
    obtain ⟨u, u1, u2, u3, u4, u5⟩ := hstart s3 (e3 58 15 (by unfold Qd; omega)) (fun j => e3 68 j (by unfold Qd; omega))
    obtain ⟨v, v1, v2, v4⟩ := badT u2 hc ht hok hfl hN0 u3 u4
    refine ⟨-1000 - nI f, s3, wr v 58 15 0, ?_, ?_, INV_let0 hall (fun b j q => ?_) ?_ (rd_wr_same _ _ _ _)⟩
    · unfold F_AC_night F_LT_drop
      rw [a1, Option.bind_some, htell, Option.bind_some, Option.bind_some, Option.bind_some]
      exact if_pos (neg_le1 f (by omega)).1
    · rw [u1, v1]
      unfold F_MD_night_60
      rw [Option.bind_some, if_pos rfl, rd_wr_slot _ _ _ _ (by decide), v2]
    · have q' := q
      unfold Qd at q'
      rw [rd_wr, if_neg (by omega), v4 b j (by omega), u5 b j (by omega), e3 b j (by unfold Qd; omega)]
    · rw [rd_wr_cell _ _ _ _ (by decide), v4 34 0 (by omega), u5 34 0 (by omega)]
      exact rd_wr_same _ _ _ _
