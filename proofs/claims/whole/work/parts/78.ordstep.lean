-- the class goes on to the next order
theorem exchC {s : St} {P i j : Nat} {f : Nat → Nat} (hP : P ≤ 7) (hi : i < P) (hj : j < P) (hrow : ∀ k, k < P → rd s 52 k = nI (f k)) : ∃ s', F_OR_exchange (nI i) (nI j) s = some s' ∧ Fr [52] s s' ∧ ∀ k, k < P → rd s' 52 k = nI (exF f i j k) := by
  refine ⟨wr (wr s 52 i (nI (f j))) 52 j (nI (f i)), ?_, (Fr.wr (by simp)).two (Fr.wr (by simp)), fun k hk => ?_⟩
  · unfold F_OR_exchange
    rw [atC al_52 (by omega), Option.bind_some]
    simp only
    rw [atC al_52 (by omega), Option.bind_some]
    simp only
    rw [hrow i hi, hrow j hj, putC al_52 (by omega), Option.bind_some, putC al_52 (by omega), Option.bind_some]
  · unfold exF
    rw [rd_wr, rd_wr]
    by_cases c1 : k = j
    · rw [if_pos ⟨rfl, c1⟩]
      by_cases c2 : k = i
      · rw [if_pos c2, ← c2, ← c1]
      · rw [if_neg c2, if_pos c1]
    · rw [if_neg (fun c => c1 c.2)]
      by_cases c2 : k = i
      · rw [if_pos ⟨rfl, c2⟩, if_pos c2]
      · rw [if_neg (fun c => c2 c.2), if_neg c2, if_neg c1]; exact hrow k hk
theorem revC {s : St} {P : Nat} (hP : P ≤ 7) {n i j : Nat} {f : Nat → Nat} (hi : i ≤ P) (hj : j < P) (hn : j - i ≤ n) (hn2 : n ≤ 7) (hrow : ∀ k, k < P → rd s 52 k = nI (f k)) : ∃ s', F_OR_step_99 (nI i) (nI j) s = some (1, s') ∧ Fr [52] s s' ∧ ∀ k, k < P → rd s' 52 k = nI (rvL n f i j k) := by
  have := fix_inv (f := G_OR_step_99) (n := n) (s0 := (nI i, nI j, s)) (fun m q => ∃ g i' j', q.1 = nI i' ∧ q.2.1 = nI j' ∧ i' ≤ P ∧ j' < P ∧ j' - i' ≤ n - m ∧ Fr [52] s q.2.2 ∧ (∀ k, k < P → rd q.2.2 52 k = nI (g k)) ∧ rvL (n - m) g i' j' = rvL n f i j) (fun r => ∃ s', r = some (1, s') ∧ Fr [52] s s' ∧ ∀ k, k < P → rd s' 52 k = nI (rvL n f i j k)) (by rw [fuel_val]; omega) ⟨f, i, j, rfl, rfl, hi, hj, hn, Fr.rf, hrow, rfl⟩ (by
    rintro m ⟨w, v, t⟩ hm ⟨g, i', j', e1, e2, hi', hj', hd, hf, hr, hrv⟩
    simp only at e1 e2 hf hr
    subst e1; subst e2
    obtain ⟨u, hu⟩ : ∃ u, n - m = u + 1 := ⟨n - m - 1, by omega⟩
    have hu2 : n - (m + 1) = u := by omega
    rw [hu] at hrv hd
    have e : rvL (u + 1) g i' j' = if i' < j' then rvL u (exF g i' j') (i' + 1) (j' - 1) else g := rfl
    rw [e] at hrv
    by_cases c : i' < j'
    · left
      obtain ⟨t', a1, a2, a3⟩ := exchC hP (show i' < P by omega) hj' hr
      rw [if_pos c] at hrv
      refine ⟨(nI (i' + 1), nI (j' - 1), t'), ⟨exF g i' j', i' + 1, j' - 1, rfl, rfl, by omega, by omega, by omega, hf.two a2, a3, by rw [hu2]; exact hrv⟩, fun K => ?_⟩
      show H_OR_step_99 K (nI i') (nI j') t = _
      unfold H_OR_step_99
      rw [if_neg (nI_ge c (by omega)), a1, Option.bind_some, nI_1, nI_dec (by omega)]
    · right
      rw [if_neg c] at hrv
      refine ⟨_, ⟨t, rfl, hf, fun k hk => by rw [hr k hk, hrv]⟩, fun K => ?_⟩
      show H_OR_step_99 K (nI i') (nI j') t = _
      unfold H_OR_step_99
      rw [if_pos (nI_le (by omega) (by omega))]) (by
    rintro ⟨w, v, t⟩ ⟨g, i', j', e1, e2, hi', hj', hd, hf, hr, hrv⟩
    simp only at e1 e2 hf hr
    subst e1; subst e2
    rw [Nat.sub_self] at hrv hd
    have e : rvL 0 g i' j' = g := rfl
    rw [e] at hrv
    refine ⟨_, ⟨t, rfl, hf, fun k hk => by rw [hr k hk, hrv]⟩, fun K => ?_⟩
    show H_OR_step_99 K (nI i') (nI j') t = _
    unfold H_OR_step_99
    rw [if_pos (nI_le (by omega) (by omega))])
  obtain ⟨s', h1, h2, h3⟩ := this
  exact ⟨s', h1, h2, h3⟩
theorem lwN_le (f : Nat → Nat) : ∀ n, lwN f n ≤ n
  | 0 => Nat.le_refl _
  | n + 1 => by
    have := lwN_le f n
    unfold lwN
    split <;> omega
theorem hgN_le (f : Nat → Nat) (low : Nat) : ∀ n, hgN f low n ≤ n
  | 0 => Nat.le_refl _
  | n + 1 => by
    have := hgN_le f low n
    unfold hgN
    split
    · exact Nat.le_refl _
    · split <;> omega
theorem stepC {s : St} {P : Nat} {f : Nat → Nat} (hP : P ≤ 5) (h51 : rd s 51 0 = nI P) (hrow : ∀ k, k < P → rd s 52 k = nI (f k)) (hf : ∀ k, k < P → f k < P) : (stN' P f = none ∧ F_OR_step s = some (0, s)) ∨ ∃ g s', stN' P f = some g ∧ F_OR_step s = some (1, s') ∧ Fr [52] s s' ∧ ∀ k, k < P → rd s' 52 k = nI (g k) := by
  by_cases h0 : P = 0
  · subst h0
    left
    refine ⟨rfl, ?_⟩
    unfold F_OR_step F_OR_step_7
    rw [h51, Option.bind_some]
    refine fix_up (f := G_OR_step_7) (n := 0) (fun _ => (-2, s)) (by rw [fuel_val]; omega) (fun K k hk => absurd hk (Nat.not_lt_zero _)) (fun K => ?_)
    show H_OR_step_7 K (-2) s = _
    unfold H_OR_step_7 F_OR_step_38
    rw [if_pos (by decide), if_neg (by decide)]
  have hat : ∀ k, k < P → F_AC_at 52 (nI k) s = some (nI (f k), s) := fun k hk => by rw [atC al_52 (by omega), hrow k hk]
  have e2 : nI P - 2 = nI (P - 1) - 1 := by
    rw [← nI_dec (show 1 ≤ P by omega), Int32.sub_eq_add_neg, Int32.sub_eq_add_neg, Int32.sub_eq_add_neg, Int32.add_assoc]
    rfl
  -- the first loop
  have h7 : F_OR_step s = F_OR_step_38 (nI (lwN f (P - 1)) - 1) s := by
    unfold F_OR_step F_OR_step_7
    rw [h51, Option.bind_some, e2]
    refine fix_inv (f := G_OR_step_7) (n := P - 1) (s0 := (nI (P - 1) - 1, s)) (fun i q => q = (nI (P - 1 - i) - 1, s) ∧ lwN f (P - 1) = lwN f (P - 1 - i)) (fun r => r = F_OR_step_38 (nI (lwN f (P - 1)) - 1) s) (by rw [fuel_val]; omega) ⟨rfl, rfl⟩ ?_ ?_
    · rintro i q hi ⟨rfl, hl⟩
      obtain ⟨m, hm⟩ : ∃ m, P - 1 - i = m + 1 := ⟨P - 1 - i - 1, by omega⟩
      have hm2 : P - 1 - (i + 1) = m := by omega
      have el : lwN f (m + 1) = if f m < f (m + 1) then m + 1 else lwN f m := rfl
      rw [hm, el] at hl
      have b1 := hf m (by omega)
      have b2 := hf (m + 1) (by omega)
      have hrun : ∀ K : Int32 × St → Option (Int32 × St), H_OR_step_7 K (nI (m + 1) - 1) s = if f m < f (m + 1) then F_OR_step_38 (nI (m + 1) - 1) s else K (nI m - 1, s) := fun K => by
        unfold H_OR_step_7
        rw [nI_dec (by omega), Nat.add_sub_cancel, if_neg (nI_pos (by omega)), hat m (by omega), Option.bind_some]
        simp only
        rw [nI_1, hat (m + 1) (by omega), Option.bind_some]
        simp only
        by_cases c : f m < f (m + 1)
        · rw [if_pos (nI_lt c (by omega)), if_pos c]
        · rw [if_neg (nI_nlt (by omega) (by omega)), if_neg c]
      by_cases c : f m < f (m + 1)
      · right
        rw [if_pos c] at hl
        refine ⟨_, rfl, fun K => ?_⟩
        show H_OR_step_7 K (nI (P - 1 - i) - 1) s = _
        rw [hm, hrun, if_pos c, hl]
      · left
        rw [if_neg c] at hl
        refine ⟨(nI m - 1, s), ⟨by rw [hm2], by rw [hm2]; exact hl⟩, fun K => ?_⟩
        show H_OR_step_7 K (nI (P - 1 - i) - 1) s = _
        rw [hm, hrun, if_neg c]
    · rintro q ⟨rfl, hl⟩
      rw [Nat.sub_self] at hl
      have el : lwN f 0 = 0 := rfl
      rw [el] at hl
      refine ⟨_, rfl, fun K => ?_⟩
      show H_OR_step_7 K (nI (P - 1 - (P - 1)) - 1) s = _
      unfold H_OR_step_7
      rw [Nat.sub_self, hl, if_pos (by decide)]
  have hlw := lwN_le f (P - 1)
  by_cases hz : lwN f (P - 1) = 0
  · left
    refine ⟨by unfold stN'; rw [if_pos hz], ?_⟩
    rw [h7, hz]
    unfold F_OR_step_38
    rw [if_neg (by decide)]
  · right
    obtain ⟨low, hlow⟩ : ∃ low, lwN f (P - 1) = low + 1 := ⟨lwN f (P - 1) - 1, by omega⟩
    have hhg := hgN_le f low (P - 1)
    -- the second loop
    have h51' : F_OR_step_51 (nI low) (nI (P - 1)) s = F_OR_step_81 (nI low) (nI (hgN f low (P - 1))) s := by
      unfold F_OR_step_51
      refine fix_inv (f := G_OR_step_51 (nI low)) (n := P - 1) (s0 := (nI (P - 1), s)) (fun i q => q = (nI (P - 1 - i), s) ∧ hgN f low (P - 1) = hgN f low (P - 1 - i)) (fun r => r = F_OR_step_81 (nI low) (nI (hgN f low (P - 1))) s) (by rw [fuel_val]; omega) ⟨rfl, rfl⟩ ?_ ?_
      · rintro i q hi ⟨rfl, hl⟩
        obtain ⟨m, hm⟩ : ∃ m, P - 1 - i = m + 1 := ⟨P - 1 - i - 1, by omega⟩
        have hm2 : P - 1 - (i + 1) = m := by omega
        have el : hgN f low (m + 1) = if m + 1 ≤ low then m + 1 else if f low < f (m + 1) then m + 1 else hgN f low m := rfl
        rw [hm, el] at hl
        have b1 := hf low (by omega)
        have b2 := hf (m + 1) (by omega)
        by_cases c0 : m + 1 ≤ low
        · right
          rw [if_pos c0] at hl
          refine ⟨_, rfl, fun K => ?_⟩
          show H_OR_step_51 (nI low) K (nI (P - 1 - i)) s = _
          unfold H_OR_step_51
          rw [hm, if_pos (nI_le c0 (by omega)), hl]
        · rw [if_neg c0] at hl
          have hrun : ∀ K : Int32 × St → Option (Int32 × St), H_OR_step_51 (nI low) K (nI (m + 1)) s = if f low < f (m + 1) then F_OR_step_81 (nI low) (nI (m + 1)) s else K (nI m, s) := fun K => by
            unfold H_OR_step_51
            rw [if_neg (nI_ge (by omega) (by omega)), hat (m + 1) (by omega), Option.bind_some]
            simp only
            rw [hat low (by omega), Option.bind_some, nI_dec (by omega), Nat.add_sub_cancel]
            simp only
            by_cases c : f low < f (m + 1)
            · rw [if_pos (nI_lt c (by omega)), if_pos c]
            · rw [if_neg (nI_nlt (by omega) (by omega)), if_neg c]
          by_cases c : f low < f (m + 1)
          · right
            rw [if_pos c] at hl
            refine ⟨_, rfl, fun K => ?_⟩
            show H_OR_step_51 (nI low) K (nI (P - 1 - i)) s = _
            rw [hm, hrun, if_pos c, hl]
          · left
            rw [if_neg c] at hl
            refine ⟨(nI m, s), ⟨by rw [hm2], by rw [hm2]; exact hl⟩, fun K => ?_⟩
            show H_OR_step_51 (nI low) K (nI (P - 1 - i)) s = _
            rw [hm, hrun, if_neg c]
      · rintro q ⟨rfl, hl⟩
        rw [Nat.sub_self] at hl
        have el : hgN f low 0 = 0 := rfl
        rw [el] at hl
        refine ⟨_, rfl, fun K => ?_⟩
        show H_OR_step_51 (nI low) K (nI (P - 1 - (P - 1))) s = _
        unfold H_OR_step_51
        rw [Nat.sub_self, if_pos (nI_le (Nat.zero_le _) (by omega)), hl]
    obtain ⟨s1, a1, a2, a3⟩ := exchC (show P ≤ 7 by omega) (show low < P by omega) (show hgN f low (P - 1) < P by omega) hrow
    obtain ⟨s2, b1, b2, b3⟩ := revC (n := P) (i := low + 1) (j := P - 1) (show P ≤ 7 by omega) (by omega) (by omega) (by omega) (by omega) a3
    refine ⟨rvL P (exF f low (hgN f low (P - 1))) (low + 1) (P - 1), s2, ?_, ?_, a2.two b2, b3⟩
    · unfold stN'
      rw [if_neg hz, hlow, Nat.add_sub_cancel]
    · rw [h7, hlow, nI_dec (by omega), Nat.add_sub_cancel]
      unfold F_OR_step_38
      rw [if_pos (nI_pos' (by omega)), h51, nI_dec (by omega), Option.bind_some, h51']
      unfold F_OR_step_81
      rw [a1, Option.bind_some, Option.bind_some, nI_1, show rd s1 51 0 = nI P from (a2.at (by decide) 0).trans h51, nI_dec (by omega), Option.bind_some, b1]
theorem beginC {s : St} {P : Nat} (hP : P ≤ 7) : ∃ s', F_OR_begin (nI P) s = some s' ∧ Fr [51, 52] s s' ∧ rd s' 51 0 = nI P ∧ rd s' 51 1 = 0 ∧ ∀ k, k < 7 → rd s' 52 k = nI k := by
  let s1 := wr (wr s 51 0 (nI P)) 51 1 0
  obtain ⟨⟨w, t⟩, ⟨hw, hf, h1⟩, hr⟩ := fix_rel (f := G_OR_begin_12) (n := 7) (s0 := (nI 0, s1)) (fun k q => q.1 = nI k ∧ Fr [52] s1 q.2 ∧ ∀ j, j < k → rd q.2 52 j = nI j) (by rw [fuel_val]; omega) ⟨rfl, Fr.rf, fun j hj => absurd hj (Nat.not_lt_zero _)⟩ (by
    rintro k ⟨w, t⟩ hk ⟨hw, hf, h1⟩
    simp only at hw hf h1
    subst hw
    refine ⟨(nI (k + 1), wr t 52 k (nI k)), ⟨rfl, hf.two (Fr.wr (by simp)), fun j hj => ?_⟩, fun K => ?_⟩
    · by_cases e : j = k
      · subst e; exact rd_wr_same _ _ _ _
      · rw [rd_wr_slot _ _ _ _ e]; exact h1 j (by omega)
    · show H_OR_begin_12 K (nI k) t = _
      unfold H_OR_begin_12
      rw [al_52, if_neg (nI_ge hk (by decide)), stk al_52 hk, Option.bind_some, nI_1])
  simp only at hw hf h1
  have g : Fr [51] s s1 := (Fr.wr (by simp)).two (Fr.wr (by simp))
  refine ⟨t, ?_, (g.sub (by simp)).two (hf.sub (by simp)), ?_, ?_, h1⟩
  · unfold F_OR_begin F_OR_begin_12
    rw [Option.bind_some, Option.bind_some]
    refine hr _ (fun K => ?_)
    show H_OR_begin_12 K w t = _
    unfold H_OR_begin_12
    rw [hw, al_52, if_pos (Int32.le_refl _)]
  · rw [hf.at (by decide)]
    show rd (wr (wr s 51 0 _) 51 1 _) 51 0 = _
    rw [rd_wr_slot _ _ _ _ (by decide), rd_wr_same]
  · rw [hf.at (by decide)]
    exact rd_wr_same _ _ _ _
theorem keepC {s : St} {P : Nat} (h51 : rd s 51 0 = nI P) : ∃ s', F_OR_keep s = some s' ∧ Fr [51, 53] s s' ∧ rd s' 51 0 = nI P ∧ rd s' 51 1 = nI P ∧ ∀ k, k < 7 → rd s' 53 k = rd s 52 k := by
  have h1 := copyRowC (σ := s) al_52 al_53 (by decide) (by decide)
  have hf : Fr [53] s (cpR s 52 53 7) := ⟨rfl, fun b hb j => by rw [rd_cpR, if_neg (fun c => hb (by rw [c.1]; simp))]⟩
  have e0 : rd (cpR s 52 53 7) 51 0 = nI P := (hf.at (by decide) 0).trans h51
  refine ⟨wr (cpR s 52 53 7) 51 1 (nI P), ?_, (hf.sub (by simp)).two (Fr.wr (by simp)), ?_, rd_wr_same _ _ _ _, fun k hk => ?_⟩
  · unfold F_OR_keep
    rw [h1, Option.bind_some, Option.bind_some, e0]
  · rw [rd_wr_slot _ _ _ _ (by decide)]; exact e0
  · rw [rd_wr_cell _ _ _ _ (by decide), rd_cpR, if_pos ⟨rfl, hk⟩]
