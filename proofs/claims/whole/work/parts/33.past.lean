-- the past
theorem shiftC {σ : St} {t : Nat} (hal : alen t = 8) : ∃ σ', F_PA_shift t σ = some σ' ∧ Fr [t] σ σ' ∧ ∀ j, j < 7 → rd σ' t j = rd σ t (j + 1) := by
  obtain ⟨⟨w, q⟩, ⟨hw, h1, h2, h3⟩, hr⟩ := fix_rel (f := G_PA_shift_2 t) (n := 7) (s0 := (nI 1, σ)) (fun k q => q.1 = nI (k + 1) ∧ Fr [t] σ q.2 ∧ (∀ j, j < k → rd q.2 t j = rd σ t (j + 1)) ∧ ∀ j, k ≤ j → rd q.2 t j = rd σ t j) (by rw [fuel_val]; omega) ⟨rfl, Fr.rf, fun j hj => absurd hj (Nat.not_lt_zero _), fun j _ => rfl⟩ (by
    rintro k ⟨w, q⟩ hk ⟨hw, h1, h2, h3⟩
    simp only at hw h1 h2 h3
    subst hw
    refine ⟨(nI (k + 1 + 1), wr q t k (rd σ t (k + 1))), ⟨rfl, h1.two (Fr.wr (by simp)), fun j hj => ?_, fun j hj => ?_⟩, fun K => ?_⟩
    · rw [rd_wr]
      by_cases e : j = k
      · subst e; rw [if_pos ⟨rfl, rfl⟩]
      · rw [if_neg (fun q => e q.2)]; exact h2 j (by omega)
    · rw [rd_wr_slot _ _ _ _ (by omega)]; exact h3 j (by omega)
    · show H_PA_shift_2 t K (nI (k + 1)) q = _
      unfold H_PA_shift_2
      rw [hal, if_neg (nI_ge (by omega) (by decide)), ldk hal (by omega), Option.bind_some, show nI (k + 1) - 1 = nI k from (pk_sub (a := k + 1) (b := 1) (by omega)).trans (by rw [Nat.add_sub_cancel]), stk hal (by omega), Option.bind_some, h3 (k + 1) (by omega), nI_1])
  refine ⟨q, ?_, h1, h2⟩
  show fixF (G_PA_shift_2 t) FUEL (nI 1, σ) = _
  refine hr _ (fun K => ?_)
  show H_PA_shift_2 t K w q = _
  unfold H_PA_shift_2
  simp only at hw
  rw [hw, hal, if_pos (Int32.le_refl _)]
theorem dropC {σ : St} (hc : rd σ 28 0 = nI 8) : ∃ σ', F_PA_dropOldest σ = some σ' ∧ Fr [28, 29, 30, 31, 32, 33] σ σ' ∧ rd σ' 28 0 = nI 7 ∧ ∀ b, 29 ≤ b → b ≤ 33 → ∀ i, i < 7 → rd σ' b i = rd σ b (i + 1) := by
  obtain ⟨s1, a1, a2, a3⟩ := shiftC (σ := σ) al_29
  obtain ⟨s2, b1, b2, b3⟩ := shiftC (σ := s1) al_30
  obtain ⟨s3, c1, c2, c3⟩ := shiftC (σ := s2) al_31
  obtain ⟨s4, d1, d2, d3⟩ := shiftC (σ := s3) al_32
  obtain ⟨s5, e1, e2, e3⟩ := shiftC (σ := s4) al_33
  have h28 : rd s5 28 0 = nI 8 := by rw [e2.at (by decide), d2.at (by decide), c2.at (by decide), b2.at (by decide), a2.at (by decide), hc]
  have hsub : ∀ {x y : St} {n : Nat}, n ∈ [28, 29, 30, 31, 32, 33] → Fr [n] x y → Fr [28, 29, 30, 31, 32, 33] x y := fun hn h => h.sub (fun b hb => by rw [List.mem_singleton] at hb; rw [hb]; exact hn)
  refine ⟨wr s5 28 0 (nI 7), ?_, (((((hsub (by decide) a2).two (hsub (by decide) b2)).two (hsub (by decide) c2)).two (hsub (by decide) d2)).two (hsub (by decide) e2)).two (Fr.wr (by decide)), rd_wr_same _ _ _ _, fun b l1 l2 i hi => ?_⟩
  · unfold F_PA_dropOldest
    rw [a1, Option.bind_some, b1, Option.bind_some, c1, Option.bind_some, d1, Option.bind_some, e1, Option.bind_some, Option.bind_some, h28]
    rfl
  · rw [rd_wr_cell _ _ _ _ (by omega)]
    rcases (show b = 29 ∨ b = 30 ∨ b = 31 ∨ b = 32 ∨ b = 33 by omega) with rfl | rfl | rfl | rfl | rfl
    · rw [e2.at (by decide), d2.at (by decide), c2.at (by decide), b2.at (by decide), a3 i hi]
    · rw [e2.at (by decide), d2.at (by decide), c2.at (by decide), b3 i hi, a2.at (by decide)]
    · rw [e2.at (by decide), d2.at (by decide), c3 i hi, b2.at (by decide), a2.at (by decide)]
    · rw [e2.at (by decide), d3 i hi, c2.at (by decide), b2.at (by decide), a2.at (by decide)]
    · rw [e3 i hi, d2.at (by decide), c2.at (by decide), b2.at (by decide), a2.at (by decide)]
theorem add13C {σ : St} {c : Nat} (hc : c < 8) (h : rd σ 28 0 = nI c) (v1 v2 v3 v4 v5 : Int32) : ∃ σ', F_PA_add_13 v1 v2 v3 v4 v5 σ = some σ' ∧ Fr [28, 29, 30, 31, 32, 33] σ σ' ∧ rd σ' 28 0 = nI (c + 1) ∧ (rd σ' 29 c = v1 ∧ rd σ' 30 c = v2 ∧ rd σ' 31 c = v3 ∧ rd σ' 32 c = v4 ∧ rd σ' 33 c = v5) ∧ ∀ b, 29 ≤ b → b ≤ 33 → ∀ i, i < c → rd σ' b i = rd σ b i := by
  refine ⟨wr (wr (wr (wr (wr (wr σ 29 c v1) 30 c v2) 31 c v3) 32 c v4) 33 c v5) 28 0 (nI (c + 1)), ?_, (((((Fr.wr (by decide)).two (Fr.wr (by decide))).two (Fr.wr (by decide))).two (Fr.wr (by decide))).two (Fr.wr (by decide))).two (Fr.wr (by decide)), rd_wr_same _ _ _ _, ?_, fun b l1 l2 i hi => ?_⟩
  · unfold F_PA_add_13
    rw [h, putC al_29 hc, Option.bind_some, rd_wr_cell _ _ _ _ (by decide), h, putC al_30 hc, Option.bind_some, rd_wr_cell _ _ _ _ (by decide), rd_wr_cell _ _ _ _ (by decide), h, putC al_31 hc, Option.bind_some, rd_wr_cell _ _ _ _ (by decide), rd_wr_cell _ _ _ _ (by decide), rd_wr_cell _ _ _ _ (by decide), h, putC al_32 hc, Option.bind_some, rd_wr_cell _ _ _ _ (by decide), rd_wr_cell _ _ _ _ (by decide), rd_wr_cell _ _ _ _ (by decide), rd_wr_cell _ _ _ _ (by decide), h, putC al_33 hc, Option.bind_some, rd_wr_cell _ _ _ _ (by decide), rd_wr_cell _ _ _ _ (by decide), rd_wr_cell _ _ _ _ (by decide), rd_wr_cell _ _ _ _ (by decide), rd_wr_cell _ _ _ _ (by decide), h, Option.bind_some, nI_1]
  · refine ⟨?_, ?_, ?_, ?_, ?_⟩ <;> simp [rd_wr]
  · simp only [rd_wr]
    rw [if_neg (by omega), if_neg (by omega), if_neg (by omega), if_neg (by omega), if_neg (by omega), if_neg (by omega)]
theorem paAdd {σ : St} {c : Nat} (hc : c ≤ 8) (h : rd σ 28 0 = nI c) (v1 v2 v3 v4 v5 : Int32) : ∃ σ', F_PA_add v1 v2 v3 v4 v5 σ = some σ' ∧ Fr [28, 29, 30, 31, 32, 33] σ σ' ∧ rd σ' 28 0 = nI (min c 7 + 1) ∧ (rd σ' 29 (min c 7) = v1 ∧ rd σ' 30 (min c 7) = v2 ∧ rd σ' 31 (min c 7) = v3 ∧ rd σ' 32 (min c 7) = v4 ∧ rd σ' 33 (min c 7) = v5) ∧ ∀ b, 29 ≤ b → b ≤ 33 → ∀ i, i < min c 7 → rd σ' b i = rd σ b (i + (c - min c 7)) := by
  by_cases h8 : c < 8
  · rw [show min c 7 = c by omega, Nat.sub_self]
    obtain ⟨s, a1, a2, a3, a4, a5⟩ := add13C h8 h v1 v2 v3 v4 v5
    refine ⟨s, ?_, a2, a3, a4, a5⟩
    unfold F_PA_add
    rw [h, if_pos (show nI c < (8 : Int32) from nI_lt h8 (by decide)), a1]
  · have e : c = 8 := by omega
    subst e
    obtain ⟨s0, b1, b2, b3, b4⟩ := dropC h
    obtain ⟨s, a1, a2, a3, a4, a5⟩ := add13C (c := 7) (by decide) b3 v1 v2 v3 v4 v5
    refine ⟨s, ?_, b2.two a2, a3, a4, fun b l1 l2 i hi => ?_⟩
    · unfold F_PA_add
      rw [h, if_neg (by decide), b1, Option.bind_some, a1]
    · have hi' : i < 7 := hi
      rw [a5 b l1 l2 i hi', b4 b l1 l2 i hi']
      rfl
theorem keeps51M {σ : St} {c : Nat} (hc : c ≤ 7) (h : rd σ 58 22 = nI c) : ∃ σ', F_MD_keepsBack_51 σ = some σ' ∧ rd σ' 58 22 = nI (c + 1) ∧ SlF σ' (2 + c) σ ∧ ∀ b j, ¬ (b = 72 ∧ 80 * (2 + c) ≤ j ∧ j < 80 * (2 + c) + 80 ∨ b = 58 ∧ (j = 20 ∨ j = 21 ∨ j = 22)) → rd σ' b j = rd σ b j := by
  obtain ⟨s, a1, a2, a3⟩ := keepAll (σ := σ) (w := 2 + c) (by omega)
  have h22 : rd s 58 22 = nI c := by rw [a3 58 22 (by omega), h]
  refine ⟨wr s 58 22 (nI (c + 1)), ?_, rd_wr_same _ _ _ _, ⟨fun l1 t l2 e j hj => ?_, ?_, ?_⟩, fun b j hn => ?_⟩
  · unfold F_MD_keepsBack_51
    rw [h, show (2 : Int32) + nI c = nI (2 + c) from nI_add 2 c, a1, Option.bind_some, Option.bind_some, h22, nI_1]
  · rw [rd_wr_cell _ _ _ _ (by decide)]; exact a2.1 l1 t l2 e j hj
  · rw [rd_wr_cell _ _ _ _ (by decide)]; exact a2.2.1
  · rw [rd_wr_cell _ _ _ _ (by decide)]; exact a2.2.2
  · rw [rd_wr, if_neg (by omega), a3 b j (by omega)]
theorem keepsBackM {σ : St} {c : Nat} (hc : c ≤ 8) (h : rd σ 58 22 = nI c) : ∃ σ', F_MD_keepsBack σ = some σ' ∧ rd σ' 58 22 = nI (min c 7 + 1) ∧ SlF σ' (2 + min c 7) σ ∧ (∀ i o, i < min c 7 → o < 80 → rd σ' 72 (80 * (2 + i) + o) = rd σ 72 (80 * (2 + (i + (c - min c 7))) + o)) ∧ ∀ b j, ¬ (b = 72 ∧ 160 ≤ j ∨ b = 58 ∧ (j = 20 ∨ j = 21 ∨ j = 22)) → rd σ' b j = rd σ b j := by
  by_cases h8 : c < 8
  · rw [show min c 7 = c by omega, Nat.sub_self]
    obtain ⟨s, a1, a2, a3, a4⟩ := keeps51M (c := c) (by omega) h
    refine ⟨s, ?_, a2, a3, fun i o hi ho => a4 72 _ (by omega), fun b j hn => a4 b j (by omega)⟩
    unfold F_MD_keepsBack
    rw [h, if_neg (show ¬ nI c = (8 : Int32) from fun e => by have := nI_inj (b := 8) (by omega) (by decide) e; omega), a1]
  · have e : c = 8 := by omega
    subst e
    obtain ⟨⟨w, q⟩, ⟨hw, g1, g2⟩, hr⟩ := fix_rel (f := G_MD_keepsBack_13) (n := 560) (s0 := (nI 160, σ)) (fun k q => q.1 = nI (160 + k) ∧ (∀ j, 160 ≤ j → j < 160 + k → rd q.2 72 j = rd σ 72 (j + 80)) ∧ ∀ b j, ¬ (b = 72 ∧ 160 ≤ j ∧ j < 160 + k) → rd q.2 b j = rd σ b j) (by rw [fuel_val]; omega) ⟨rfl, fun j h1 h2 => by omega, fun _ _ _ => rfl⟩ (by
      rintro k ⟨w, q⟩ hk ⟨hw, g1, g2⟩
      simp only at hw g1 g2
      subst hw
      refine ⟨(nI (160 + (k + 1)), wr q 72 (160 + k) (rd σ 72 (160 + k + 80))), ⟨rfl, fun j l1 l2 => ?_, fun b j hn => ?_⟩, fun K => ?_⟩
      · rw [rd_wr]
        by_cases e : j = 160 + k
        · rw [if_pos ⟨rfl, e⟩, e]
        · rw [if_neg (fun q => e q.2)]; exact g1 j l1 (by omega)
      · rw [rd_wr, if_neg (by omega)]; exact g2 b j (by omega)
      · show H_MD_keepsBack_13 K (nI (160 + k)) q = _
        unfold H_MD_keepsBack_13
        rw [if_neg (show ¬ (720 : Int32) ≤ nI (160 + k) from nI_ge (b := 720) (by omega) (by decide)), show nI (160 + k) + (80 : Int32) = nI (160 + k + 80) from nI_add _ 80, ldk al_72 (by omega), Option.bind_some, stk al_72 (by omega), Option.bind_some, g2 72 _ (by omega), nI_1]
        rfl)
    have h22 : rd q 58 22 = nI 8 := by rw [g2 58 22 (by omega), h]
    obtain ⟨s, a1, a2, a3, a4⟩ := keeps51M (σ := wr q 58 22 (nI 7)) (c := 7) (by decide) (rd_wr_same _ _ _ _)
    have hq : ∀ b j, ¬ (b = 72 ∧ 160 ≤ j ∨ b = 58 ∧ j = 22) → rd (wr q 58 22 (nI 7)) b j = rd σ b j := fun b j hn => by
      rw [rd_wr, if_neg (by omega), g2 b j (by omega)]
    refine ⟨s, ?_, a2, ⟨fun l1 t l2 e j hj => ?_, ?_, ?_⟩, fun i o hi ho => ?_, fun b j hn => ?_⟩
    · unfold F_MD_keepsBack
      rw [h, if_pos (show nI 8 = (8 : Int32) from rfl)]
      show fixF G_MD_keepsBack_13 FUEL (nI 160, σ) = _
      refine hr _ (fun K => ?_)
      show H_MD_keepsBack_13 K w q = _
      unfold H_MD_keepsBack_13
      simp only at hw
      rw [hw, if_pos (by decide), Option.bind_some, h22]
      exact a1
    · have ht : t ∈ nrows := by rw [e]; simp
      have ht8 : t ≠ 58 := fun q => absurd (q ▸ ht) (by decide)
      have ht2 : t ≠ 72 := fun q => absurd (q ▸ ht) (by decide)
      refine (a3.1 l1 t l2 e j hj).trans (hq t j (by omega))
    · exact a3.2.1.trans (hq 58 9 (by omega))
    · exact a3.2.2.trans (hq 58 10 (by omega))
    · have hi' : i < 7 := hi
      rw [a4 72 _ (by omega), rd_wr_cell _ _ _ _ (by decide)]
      refine (g1 _ (by omega) (by omega)).trans ?_
      rw [show 80 * (2 + i) + o + 80 = 80 * (2 + (i + (8 - min 8 7))) + o by omega]
    · rw [a4 b j (by omega), hq b j (by omega)]
theorem ChI_push {σ τ : St} {A B : Nt} {c : Nat} {N : Nat → Nt} (hc : c ≤ 8) (hN : N c = A) (hall : ∀ i, i < c → OkN (N i) ∧ (nD (N i) ≤ 7 ∧ AlK (N i)) ∧ Sl σ (2 + i) (N i) ∧ En σ i (N (i + 1)) (N i)) (hO : OkN A) (hD : nD A ≤ 7 ∧ AlK A) (q1 : rd τ 28 0 = nI (min c 7 + 1)) (q2 : rd τ 58 22 = nI (min c 7 + 1)) (q3 : ∀ b, 29 ≤ b → b ≤ 33 → ∀ i, i < min c 7 → rd τ b i = rd σ b (i + (c - min c 7))) (q4 : ∀ i o, i < min c 7 → o < 80 → rd τ 72 (80 * (2 + i) + o) = rd σ 72 (80 * (2 + (i + (c - min c 7))) + o)) (q5 : Sl τ (2 + min c 7) A) (q6 : En τ (min c 7) B A) : ChI τ B := by
  have hs : min c 7 + (c - min c 7) = c := by omega
  refine ⟨min c 7 + 1, fun i => if i < min c 7 + 1 then N (i + (c - min c 7)) else B, by omega, q1, q2, if_neg (by omega), fun i hi => ?_⟩
  by_cases e : i = min c 7
  · have e1 : (if i < min c 7 + 1 then N (i + (c - min c 7)) else B) = A := by rw [if_pos hi, e, hs, hN]
    have e2 : (if i + 1 < min c 7 + 1 then N (i + 1 + (c - min c 7)) else B) = B := if_neg (by omega)
    simp only [e1, e2]
    rw [e]
    exact ⟨hO, hD, q5, q6⟩
  · have e1 : (if i < min c 7 + 1 then N (i + (c - min c 7)) else B) = N (i + (c - min c 7)) := if_pos hi
    have e2 : (if i + 1 < min c 7 + 1 then N (i + 1 + (c - min c 7)) else B) = N (i + (c - min c 7) + 1) := by rw [if_pos (by omega)]; congr 1; omega
    simp only [e1, e2]
    obtain ⟨h1, h2, h3, h4⟩ := hall (i + (c - min c 7)) (by omega)
    refine ⟨h1, h2, ?_, ?_⟩
    · obtain ⟨a, b, d⟩ := offN_lt h1
      have key : ∀ o, o < 80 → rd τ 72 (80 * (2 + i) + o) = rd σ 72 (80 * (2 + (i + (c - min c 7))) + o) := fun o ho => q4 i o (by omega) ho
      exact AbsR_cong h3 (fun j hj => key _ (a j hj)) (fun k j l1 l2 hj => key _ (b k j l1 l2 hj)) (fun k j l1 l2 hj => key _ (d k j l1 l2 hj))
    · unfold En at h4 ⊢
      rw [q3 29 (by decide) (by decide) i (by omega), q3 30 (by decide) (by decide) i (by omega), q3 31 (by decide) (by decide) i (by omega), q3 32 (by decide) (by decide) i (by omega), q3 33 (by decide) (by decide) i (by omega)]
      exact h4
