-- rule, bestRule
theorem fix_exitT {S O T : Type} {f : T → (S → Option O) → S → Option O} (I : Nat → S → Prop) (Q : (T → Option O) → Prop) {n : Nat} {s0 : S} (hF : n < FUEL) (h0 : I 0 s0) (hstep : ∀ (k : Nat) (s : S), k < n → I k s → (∃ s', I (k + 1) s' ∧ ∀ t K, f t K s = K s') ∨ (∃ r, Q r ∧ ∀ t K, f t K s = r t)) (hend : ∀ s, I n s → ∃ r, Q r ∧ ∀ t K, f t K s = r t) : ∃ r, Q r ∧ ∀ t, fixF (f t) FUEL s0 = r t := by
  have key : ∀ (m fuel k : Nat) (s : S), k + m = n → m < fuel → I k s → ∃ r, Q r ∧ ∀ t, fixF (f t) fuel s = r t := by
    intro m
    induction m with
    | zero =>
      intro fuel k s hk hf hi
      obtain ⟨q, rfl⟩ : ∃ q, fuel = q + 1 := ⟨fuel - 1, by omega⟩
      have : k = n := by omega
      subst this
      obtain ⟨r, h1, h2⟩ := hend s hi
      exact ⟨r, h1, fun t => h2 t _⟩
    | succ m ih =>
      intro fuel k s hk hf hi
      obtain ⟨q, rfl⟩ : ∃ q, fuel = q + 1 := ⟨fuel - 1, by omega⟩
      rcases hstep k s (by omega) hi with ⟨s1, h1, h2⟩ | ⟨r, h1, h2⟩
      · obtain ⟨r, h3, h4⟩ := ih q (k + 1) s1 (by omega) (by omega) h1
        exact ⟨r, h3, fun t => by show f t (fixF (f t) q) s = r t; rw [h2]; exact h4 t⟩
      · exact ⟨r, h1, fun t => h2 t _⟩
  exact key n FUEL 0 s0 (by omega) hF h0
def kvI (A : Nt) (r p : Nat) : Int32 := nI (gyN A r p) - nI (ofN r)
theorem kvI_le {A : Nt} (hO : OkN A) {r p q : Nat} (hp : p < nP A) (hq : q < nP A) : kvI A r p ≤ kvI A r q ↔ gyN A r p ≤ gyN A r q := by
  have h1 := gyN_le hO (r := r) hp
  have h2 := gyN_le hO (r := r) hq
  have h3 : ofN r < 100 := by unfold ofN; split <;> omega
  unfold kvI
  rw [fa_le, pk_sub_toInt (by omega) (by omega), pk_sub_toInt (by omega) (by omega)]
  omega
theorem kb1 : ∀ R, R < 10 → ∀ p, p < 7 → (10 : Int32) * nI R + nI p = nI (10 * (R + 9) + p) - nI 90 := by decide +kernel
theorem kb2 : ∀ R, R < 10 → ∀ p, p < 7 → (-10 : Int32) * nI R + nI p = nI (10 * (9 - R) + p) - nI 90 := by decide +kernel
theorem kb3 : ∀ p, p < 7 → (10 : Int32) + nI p = nI (10 * 10 + p) - nI 90 ∧ nI p = nI (10 * 9 + p) - nI 90 := by decide +kernel
theorem keyByM {s : St} {A : Nt} (hM : MdN s A 7) (hO : OkN A) {r k : Nat} (hr : r < 5) (hk : k < nP A) : F_MD_keyBy (nI r) (nI k) s = some (kvI A r (nOd A k), s) := by
  have hP := hO.P
  have hp := hO.od.1 k hk
  have hR := (hO.2.2.2.1 _ hp).1
  have hdi := (hO.2.2.2.1 _ hp).2.2.1
  have l67 : ldA s 67 (nI k) = some (nI (nOd A k)) := by rw [ldk al_67 (by omega), show rd s 67 k = nI (nOd A k) from (hM.1.2.2.2 k hk).2.2.2.2.2]
  have l62 : ldA s 62 (nI (nOd A k)) = some (nI (nR A (nOd A k))) := by rw [ldk al_62 (by omega), show rd s 62 (nOd A k) = nI (nR A (nOd A k)) from (hM.1.2.2.2 _ hp).1]
  have l64 : ldA s 64 (nI (nOd A k)) = some (nI (nDi A (nOd A k))) := by rw [ldk al_64 (by omega), show rd s 64 (nOd A k) = nI (nDi A (nOd A k)) from (hM.1.2.2.2 _ hp).2.2.1]
  have e7 : nI (nDi A (nOd A k)) = (7 : Int32) ↔ nDi A (nOd A k) = 7 := ⟨fun c => nI_inj (b := 7) (by omega) (by decide) c, fun c => by rw [c]; rfl⟩
  have h3 := kb3 (nOd A k) (by omega)
  unfold F_MD_keyBy
  rw [l67, Option.bind_some, l62, l64]
  simp only [Option.bind_some]
  unfold kvI
  rcases (show r = 0 ∨ r = 1 ∨ r = 2 ∨ r = 3 ∨ r = 4 by omega) with rfl | rfl | rfl | rfl | rfl
  · have eg : gyN A 0 (nOd A k) = k := by
      unfold gyN
      rw [if_pos rfl, hO.od.plc_od hk]
    rw [eg, show nI (ofN 0) = (0 : Int32) from rfl, Int32.sub_zero]
    rfl
  · rw [if_pos (show nI 1 = (1 : Int32) from rfl), kb1 _ hR _ (by omega)]
    rfl
  · rw [if_neg (show ¬ nI 2 = (1 : Int32) by decide), if_pos (show nI 2 = (2 : Int32) from rfl), kb2 _ hR _ (by omega)]
    rfl
  · rw [if_neg (show ¬ nI 3 = (1 : Int32) by decide), if_neg (show ¬ nI 3 = (2 : Int32) by decide), if_pos (show nI 3 = (3 : Int32) from rfl)]
    have eg : gyN A 3 (nOd A k) = 10 * (if nDi A (nOd A k) = 7 then 10 else 9) + nOd A k := rfl
    rw [eg]
    by_cases g : nDi A (nOd A k) = 7
    · rw [if_pos (e7.mpr g), if_pos g, h3.1]; rfl
    · rw [if_neg (fun c => g (e7.mp c)), if_neg g]
      exact congrArg (fun x => some (x, s)) h3.2
  · rw [if_neg (show ¬ nI 4 = (1 : Int32) by decide), if_neg (show ¬ nI 4 = (2 : Int32) by decide), if_neg (show ¬ nI 4 = (3 : Int32) by decide), if_pos (show nI 4 = (4 : Int32) from rfl)]
    have eg : gyN A 4 (nOd A k) = 10 * (if nDi A (nOd A k) = 7 then 9 else 10) + nOd A k := rfl
    rw [eg]
    by_cases g : nDi A (nOd A k) = 7
    · rw [if_pos (e7.mpr g), if_pos g]
      exact congrArg (fun x => some (x, s)) h3.2
    · rw [if_neg (fun c => g (e7.mp c)), if_neg g, h3.1]; rfl
/-- the first k of the order, sorted -/
def Srt (A : Nt) (r k : Nat) (f : Nat → Nat) (s : St) : Prop := (∀ i, i < k → rd s 74 i = nI (f i) ∧ rd s 79 i = kvI A r (f i)) ∧ (∀ i j, i < j → j < k → gyN A r (f i) < gyN A r (f j)) ∧ ∀ i, i < k → ∃ j, j < k ∧ f i = nOd A j
def insF (f : Nat → Nat) (q x : Nat) : Nat → Nat := fun i => if i < q then f i else if i = q then x else f (i - 1)
theorem sortsByM {σ : St} {A : Nt} (hN : NowI σ A) {r : Nat} (hr : r < 5) : ∃ s f, F_MD_sortsBy (nI r) σ = some s ∧ Fr [74, 79] σ s ∧ SOr A r f ∧ ∀ i, i < nP A → rd s 74 i = nI (f i) := by
  have hO := hN.1
  have hP := hO.P
  have ho := hO.od
  have one : ∀ k s f, k < nP A → Fr [74, 79] σ s → Srt A r k f s → ∃ R : (Int32 × St → Option St) → Option St, (∃ s' f', Fr [74, 79] σ s' ∧ Srt A r (k + 1) f' s' ∧ ∀ K, R K = K (nI (k + 1), s')) ∧ ∀ K, F_MD_sortsBy_20 K (nI r) (nI k) (kvI A r (nOd A k)) (nI k) s = R K := by
    intro k s f hk hs hf
    have hx := ho.1 k hk
    have hfl : ∀ i, i < k → f i < nP A := fun i hi => by
      obtain ⟨j, hj, e⟩ := hf.2.2 i hi
      rw [e]; exact ho.1 j (by omega)
    have hfx : ∀ i, i < k → gyN A r (f i) ≠ gyN A r (nOd A k) := fun i hi c => by
      obtain ⟨j, hj, e⟩ := hf.2.2 i hi
      have h1 := gyN_inj hO (hfl i hi) hx c
      rw [e] at h1
      have := ho.2 j k (by omega) hk h1
      omega
    -- the end at a place
    have fin : ∀ q t, q ≤ k → Fr [74, 79] σ t → (∀ i, i < q → rd t 74 i = nI (f i) ∧ rd t 79 i = kvI A r (f i)) → (∀ i, q < i → i ≤ k → rd t 74 i = nI (f (i - 1)) ∧ rd t 79 i = kvI A r (f (i - 1)) ∧ gyN A r (nOd A k) < gyN A r (f (i - 1))) → (0 < q → gyN A r (f (q - 1)) < gyN A r (nOd A k)) → ∃ s' f', Fr [74, 79] σ s' ∧ Srt A r (k + 1) f' s' ∧ ∀ K : Int32 × St → Option St, F_MD_sortsBy_76 K (nI r) (nI k) (kvI A r (nOd A k)) (nI q) t = K (nI (k + 1), s') := by
      intro q t hq ht h1 h2 h3
      refine ⟨wr (wr t 79 q (kvI A r (nOd A k))) 74 q (nI (nOd A k)), insF f q (nOd A k), (ht.two (Fr.wr (by simp))).two (Fr.wr (by simp)), ⟨fun i hi => ?_, fun i j hij hj => ?_, fun i hi => ?_⟩, fun K => ?_⟩
      · unfold insF
        by_cases c1 : i < q
        · rw [if_pos c1, rd_wr_slot _ _ _ _ (by omega), rd_wr_cell _ _ _ _ (by decide), rd_wr_cell _ _ _ _ (show 79 ≠ 74 by decide), rd_wr_slot _ _ _ _ (by omega)]
          exact h1 i c1
        · rw [if_neg c1]
          by_cases c2 : i = q
          · subst c2
            rw [if_pos rfl, rd_wr_same, rd_wr_cell _ _ _ _ (show 79 ≠ 74 by decide), rd_wr_same]
            exact ⟨rfl, rfl⟩
          · rw [if_neg c2, rd_wr_slot _ _ _ _ c2, rd_wr_cell _ _ _ _ (by decide), rd_wr_cell _ _ _ _ (show 79 ≠ 74 by decide), rd_wr_slot _ _ _ _ c2]
            have := h2 i (by omega) (by omega)
            exact ⟨this.1, this.2.1⟩
      · unfold insF
        by_cases a1 : i < q
        · rw [if_pos a1]
          by_cases b1 : j < q
          · rw [if_pos b1]; exact hf.2.1 i j hij (by omega)
          · rw [if_neg b1]
            by_cases b2 : j = q
            · rw [if_pos b2]
              have h4 := h3 (by omega)
              by_cases e : i = q - 1
              · rw [e]; exact h4
              · have := hf.2.1 i (q - 1) (by omega) (by omega)
                omega
            · rw [if_neg b2]; exact hf.2.1 i (j - 1) (by omega) (by omega)
        · rw [if_neg a1, if_neg (show ¬ j < q by omega), if_neg (show ¬ j = q by omega)]
          by_cases a2 : i = q
          · rw [if_pos a2]; exact (h2 j (by omega) (by omega)).2.2
          · rw [if_neg a2]; exact hf.2.1 (i - 1) (j - 1) (by omega) (by omega)
      · unfold insF
        by_cases c1 : i < q
        · rw [if_pos c1]
          obtain ⟨j, hj, e⟩ := hf.2.2 i (by omega)
          exact ⟨j, by omega, e⟩
        · rw [if_neg c1]
          by_cases c2 : i = q
          · rw [if_pos c2]; exact ⟨k, by omega, rfl⟩
          · rw [if_neg c2]
            obtain ⟨j, hj, e⟩ := hf.2.2 (i - 1) (by omega)
            exact ⟨j, by omega, e⟩
      · unfold F_MD_sortsBy_76
        have e67 : rd (wr t 79 q (kvI A r (nOd A k))) 67 k = nI (nOd A k) := by
          rw [rd_wr_cell _ _ _ _ (by decide), ht.at (by decide)]
          exact (hN.2.2.2.1.1.2.2.2 k hk).2.2.2.2.2
        rw [stk al_79 (by omega), Option.bind_some, ldk al_67 (by omega), Option.bind_some, e67, stk al_74 (by omega), Option.bind_some, nI_1]
    exact fix_exitT (f := fun K : Int32 × St → Option St => G_MD_sortsBy_20 K (nI r) (nI k) (kvI A r (nOd A k))) (n := k) (s0 := (nI k, s)) (fun i q => q.1 = nI (k - i) ∧ Fr [74, 79] σ q.2 ∧ (∀ l, l < k - i → rd q.2 74 l = nI (f l) ∧ rd q.2 79 l = kvI A r (f l)) ∧ ∀ l, k - i < l → l ≤ k → rd q.2 74 l = nI (f (l - 1)) ∧ rd q.2 79 l = kvI A r (f (l - 1)) ∧ gyN A r (nOd A k) < gyN A r (f (l - 1))) (fun R => ∃ s' f', Fr [74, 79] σ s' ∧ Srt A r (k + 1) f' s' ∧ ∀ K, R K = K (nI (k + 1), s')) (by rw [fuel_val]; omega) ⟨rfl, hs, hf.1, fun l h1 h2 => by omega⟩ (by
      rintro i ⟨w, t⟩ hi ⟨hw, ht, h1, h2⟩
      simp only at hw ht h1 h2
      subst hw
      obtain ⟨q, hq⟩ : ∃ q, q = k - (i + 1) := ⟨_, rfl⟩
      rw [show k - i = q + 1 by omega] at h1 h2 ⊢
      rw [← hq]
      have l79 : ldA t 79 (nI q) = some (kvI A r (f q)) := by rw [ldk al_79 (by omega), (h1 q (by omega)).2]
      have l74 : ldA (wr t 79 (q + 1) (kvI A r (f q))) 74 (nI q) = some (nI (f q)) := by rw [ldk al_74 (by omega), rd_wr_cell _ _ _ _ (by decide), (h1 q (by omega)).1]
      have hle := kvI_le hO (r := r) (hfl q (by omega)) hx
      by_cases g : gyN A r (f q) ≤ gyN A r (nOd A k)
      · right
        obtain ⟨s', f', b1, b2, b3⟩ := fin (q + 1) t (by omega) ht h1 h2 (fun _ => by
          have := hfx q (by omega)
          rw [Nat.add_sub_cancel]; omega)
        refine ⟨fun K => K (nI (k + 1), s'), ⟨s', f', b1, b2, fun K => rfl⟩, fun K K' => ?_⟩
        show H_MD_sortsBy_20 K (nI r) (nI k) (kvI A r (nOd A k)) K' (nI (q + 1)) t = _
        unfold H_MD_sortsBy_20
        rw [if_neg (show ¬ nI (q + 1) ≤ (0 : Int32) from nI_ge (a := 0) (by omega) (by omega)), nI_dec (by omega), Nat.add_sub_cancel, l79, Option.bind_some, if_pos (hle.mpr g), b3]
      · left
        refine ⟨(nI q, wr (wr t 79 (q + 1) (kvI A r (f q))) 74 (q + 1) (nI (f q))), ⟨rfl, (ht.two (Fr.wr (by simp))).two (Fr.wr (by simp)), fun l hl => ?_, fun l c1 c2 => ?_⟩, fun K K' => ?_⟩
        · rw [rd_wr_slot _ _ _ _ (by omega), rd_wr_cell _ _ _ _ (by decide), rd_wr_cell _ _ _ _ (show 79 ≠ 74 by decide), rd_wr_slot _ _ _ _ (by omega)]
          exact h1 l (by omega)
        · by_cases e : l = q + 1
          · subst e
            rw [rd_wr_same, rd_wr_cell _ _ _ _ (show 79 ≠ 74 by decide), rd_wr_same, Nat.add_sub_cancel]
            exact ⟨rfl, rfl, by omega⟩
          · rw [rd_wr_slot _ _ _ _ e, rd_wr_cell _ _ _ _ (by decide), rd_wr_cell _ _ _ _ (show 79 ≠ 74 by decide), rd_wr_slot _ _ _ _ e]
            exact h2 l (by omega) c2
        · show H_MD_sortsBy_20 K (nI r) (nI k) (kvI A r (nOd A k)) K' (nI (q + 1)) t = _
          unfold H_MD_sortsBy_20
          rw [if_neg (show ¬ nI (q + 1) ≤ (0 : Int32) from nI_ge (a := 0) (by omega) (by omega)), nI_dec (by omega), Nat.add_sub_cancel, l79, Option.bind_some, if_neg (fun c => g (hle.mp c)), Option.bind_some, stk al_79 (by omega), Option.bind_some, l74, Option.bind_some, stk al_74 (by omega), Option.bind_some]) (by
      rintro ⟨w, t⟩ ⟨hw, ht, h1, h2⟩
      simp only at hw ht h1 h2
      rw [Nat.sub_self] at hw h1 h2
      subst hw
      obtain ⟨s', f', b1, b2, b3⟩ := fin 0 t (by omega) ht h1 h2 (fun h => absurd h (Nat.lt_irrefl 0))
      refine ⟨fun K => K (nI (k + 1), s'), ⟨s', f', b1, b2, fun K => rfl⟩, fun K K' => ?_⟩
      show H_MD_sortsBy_20 K (nI r) (nI k) (kvI A r (nOd A k)) K' (nI 0) t = _
      unfold H_MD_sortsBy_20
      rw [if_pos (show nI 0 ≤ (0 : Int32) from Int32.le_refl _), b3])
  obtain ⟨⟨w, s⟩, ⟨hw, hs, f, hf⟩, hr2⟩ := fix_rel (f := G_MD_sortsBy_2 (nI r)) (n := nP A) (s0 := (nI 0, σ)) (fun k q => q.1 = nI k ∧ Fr [74, 79] σ q.2 ∧ ∃ f, Srt A r k f q.2) (by rw [fuel_val]; omega) ⟨rfl, Fr.rf, id, fun i hi => absurd hi (Nat.not_lt_zero _), fun i j _ hj => absurd hj (Nat.not_lt_zero _), fun i hi => absurd hi (Nat.not_lt_zero _)⟩ (by
    rintro k ⟨w, s⟩ hk ⟨hw, hs, f, hf⟩
    simp only at hw hs hf
    subst hw
    have hMs : MdN s A 7 := hN.2.2.2.1.fr hs (by decide)
    obtain ⟨R, ⟨s', f', b1, b2, b3⟩, hR⟩ := one k s f hk hs hf
    refine ⟨(nI (k + 1), s'), ⟨rfl, b1, f', b2⟩, fun K => ?_⟩
    show H_MD_sortsBy_2 (nI r) K (nI k) s = _
    unfold H_MD_sortsBy_2
    rw [show rd s 58 10 = nI (nP A) from hMs.1.2.1, if_neg (nI_ge hk (by omega)), keyByM hMs hO hr hk, Option.bind_some]
    simp only
    rw [hR, b3])
  simp only at hw hs hf
  refine ⟨s, f, ?_, hs, ⟨⟨fun i hi => ?_, fun i j hi hj e => ?_⟩, hf.2.1⟩, fun i hi => (hf.1 i hi).1⟩
  · unfold F_MD_sortsBy F_MD_sortsBy_2
    refine hr2 _ (fun K => ?_)
    show H_MD_sortsBy_2 (nI r) K w s = _
    unfold H_MD_sortsBy_2
    rw [hw, show rd s 58 10 = nI (nP A) from (hN.2.2.2.1.fr hs (by decide)).1.2.1, if_pos (Int32.le_refl _)]
  · obtain ⟨j, hj, e⟩ := hf.2.2 i hi
    rw [e]; exact ho.1 j hj
  · rcases Nat.lt_trichotomy i j with q | q | q
    · have := hf.2.1 i j q hj
      rw [e] at this; omega
    · exact q
    · have := hf.2.1 j i q hi
      rw [e] at this; omega
theorem allO_cong {Z : Pz} {od od' : Nat → Nat} {T0 : Nat} (ho : OdOK (zP Z) od) (h : ∀ j, j < zP Z → od j = od' j) : allO Z od T0 = allO Z od' T0 := sumN_cong (fun p hp => moO_cong ho hp h)
theorem monthsByM {σ : St} {A : Nt} (hN : NowI σ A) {r : Nat} (hr : r < 5) {F : Nat → Nat} (hF : SOr A r F) : ∃ s, F_MD_monthsBy (nI r) σ = some (nI (allO (prA 7 A) F 0), s) ∧ Qf (nD A) σ s ∧ NowI s A ∧ ∀ p, p < nP A → rd s 73 p = bI (tkO (prA 7 A) F 0 p) := by
  obtain ⟨s1, f, a1, a2, a3, a4⟩ := sortsByM hN hr
  have hN1 : NowI s1 A := hN.q (Qf.of a2 (by decide))
  obtain ⟨s2, b1, b2, hN2, b3⟩ := goByN hN1 hF.1 (fun k hk => by rw [a4 k hk, a3.uniq hF hk])
  refine ⟨s2, ?_, (Qf.of a2 (by decide)).tr (Qf.of b2 (by decide)), hN2, b3⟩
  unfold F_MD_monthsBy
  rw [a1, Option.bind_some, b1, Option.bind_some, bid, allMonthsM' hN2.2.2.2.1 hN.1 b3]
theorem soEx {σ : St} {A : Nt} (hN : NowI σ A) : ∃ F : Nat → Nat → Nat, ∀ r, r < 5 → SOr A r (F r) := by
  have h : ∀ r, ∃ f, r < 5 → SOr A r f := fun r => by
    by_cases c : r < 5
    · obtain ⟨_, f, _, _, h, _⟩ := sortsByM hN c
      exact ⟨f, fun _ => h⟩
    · exact ⟨id, fun q => absurd q c⟩
  exact ⟨fun r => Classical.choose (h r), fun r => Classical.choose_spec (h r)⟩
-- who fares worse
def ufB (A : Nt) (F : Nat → Nat) (p q : Nat) : Bool := decide (nDi A p = 7 ∧ nDi A q ≠ 7 ∧ moO (prA 7 A) F 0 q < moO (prA 7 A) F 0 p)
def rwU (c : Nat → Nat → Bool) (a P : Nat) : Option Nat := match fsN (c a) P with | some b => some (10 * a + b) | none => none
def prU (c : Nat → Nat → Bool) (P : Nat) : Nat → Option Nat
  | 0 => none
  | a + 1 => match prU c P a with | some x => some x | none => rwU c a P
theorem prU_go {c : Nat → Nat → Bool} {P a : Nat} (h : prU c P a = none) (hr : rwU c a P = none) : prU c P (a + 1) = none := by
  unfold prU
  rw [h]; exact hr
theorem prU_hit {c : Nat → Nat → Bool} {P a x : Nat} (h : prU c P a = none) (hr : rwU c a P = some x) : ∀ {m : Nat}, a < m → prU c P m = some x := by
  intro m hm
  induction m with
  | zero => omega
  | succ m ih =>
    by_cases e : a = m
    · subst e
      unfold prU
      rw [h]; exact hr
    · unfold prU
      rw [ih (by omega)]
theorem ufEq {A : Nt} (hO : OkN A) {F : Nat → Nat} {a b : Nat} (ha : a < nP A) (hb : b < nP A) {α : Type} (x y : α) : (if nI (nDi A a) = (7 : Int32) then (if nI (nDi A b) = (7 : Int32) then y else if nI (moO (prA 7 A) F 0 a) ≤ nI (moO (prA 7 A) F 0 b) then y else x) else y) = if ufB A F a b = true then x else y := by
  have d1 := (hO.2.2.2.1 a ha).2.2.1
  have d2 := (hO.2.2.2.1 b hb).2.2.1
  have m1 : moO (prA 7 A) F 0 a ≤ 78 := moO_le (prA_ok hO 7) ha
  have m2 : moO (prA 7 A) F 0 b ≤ 78 := moO_le (prA_ok hO 7) hb
  have e7 : ∀ n, n < 8 → (nI n = (7 : Int32) ↔ n = 7) := fun n hn => ⟨fun c => nI_inj (b := 7) (by omega) (by decide) c, fun c => by rw [c]; rfl⟩
  unfold ufB
  by_cases c1 : nDi A a = 7
  · rw [if_pos ((e7 _ d1).mpr c1)]
    by_cases c2 : nDi A b = 7
    · rw [if_pos ((e7 _ d2).mpr c2), if_neg (by simp [c2])]
    · rw [if_neg (fun c => c2 ((e7 _ d2).mp c))]
      by_cases c3 : moO (prA 7 A) F 0 b < moO (prA 7 A) F 0 a
      · rw [if_neg (nI_ge c3 (by omega)), if_pos (decide_eq_true ⟨c1, c2, c3⟩)]
      · rw [if_pos (nI_le (by omega) (by omega)), if_neg (by simp [c3])]
  · rw [if_neg (fun c => c1 ((e7 _ d1).mp c)), if_neg (by simp [c1])]
theorem unfairC {σ : St} {A : Nt} {F : Nat → Nat} (hN : NowI σ A) (hMo : MoD σ 43 (prA 7 A) F 0) : F_AC_unfairTwo 43 σ = some (bI (prU (ufB A F) (nP A) (nP A)), σ) := by
  have hO := hN.1
  have hP := hO.P
  have e1 : rd σ 1 1 = nI (nP A) := hN.2.2.1.2.1
  have l6 : ∀ p, p < nP A → rd σ 6 p = nI (nDi A p) := fun p hp => (hN.2.2.1.2.2.2 p hp).2.2.1
  have inner : ∀ a, a < nP A → (rwU (ufB A F) a (nP A) = none ∧ ∀ K2, F_AC_unfairTwo_15 43 K2 (nI a) 0 σ = K2 (nI (a + 1), σ)) ∨ (∃ x, rwU (ufB A F) a (nP A) = some x ∧ ∀ K2, F_AC_unfairTwo_15 43 K2 (nI a) 0 σ = some (nI x, σ)) := by
    intro a ha
    have := fix_exitK (f := fun K2 : Int32 × St → Option (Int32 × St) => G_AC_unfairTwo_15 43 K2 (nI a)) (n := nP A) (s0 := (nI 0, σ)) (fun b q => q = (nI b, σ) ∧ fsN (ufB A F a) b = none) (fun r => ∃ x, rwU (ufB A F) a (nP A) = some x ∧ r = some (nI x, σ)) (by rw [fuel_val]; omega) ⟨rfl, rfl⟩ (by
      rintro b s hb ⟨rfl, hn⟩
      have hrun : ∀ K2 K : Int32 × St → Option (Int32 × St), H_AC_unfairTwo_15 43 K2 (nI a) K (nI b) σ = if ufB A F a b = true then some (nI (10 * a + b), σ) else K (nI (b + 1), σ) := fun K2 K => by
        rw [← ufEq hO ha hb]
        unfold H_AC_unfairTwo_15 F_AC_unfairTwo_62 F_AC_unfairTwo_63 F_AC_unfairTwo_96
        rw [e1, if_neg (nI_ge hb (by omega)), atC al_6 (by omega), Option.bind_some]
        simp only
        rw [atC al_6 (by omega), Option.bind_some]
        simp only
        rw [show F_AC_at (43 + 2) (nI a) σ = some (rd σ 45 a, σ) from atC al_45 (by omega), Option.bind_some]
        simp only
        rw [show F_AC_at (43 + 2) (nI b) σ = some (rd σ 45 b, σ) from atC al_45 (by omega), Option.bind_some]
        simp only
        rw [l6 a ha, l6 b hb, show rd σ 45 a = _ from (hMo.2.2.2.2 a ha).2, show rd σ 45 b = _ from (hMo.2.2.2.2 b hb).2, ten_nI, nI_1]
        simp only [if_true, one0, if_false]
      cases hc : ufB A F a b with
      | true => exact Or.inr ⟨some (nI (10 * a + b), σ), ⟨10 * a + b, by unfold rwU; rw [fsN_hit hn hc hb], rfl⟩, fun K2 K => (hrun K2 K).trans (if_pos hc)⟩
      | false => exact Or.inl ⟨(nI (b + 1), σ), ⟨rfl, fsN_go hn hc⟩, fun K2 K => (hrun K2 K).trans (if_neg (by rw [hc]; decide))⟩)
    rcases this with ⟨s', ⟨rfl, hn⟩, hr⟩ | ⟨r, ⟨x, hx, rfl⟩, hr⟩
    · left
      refine ⟨by unfold rwU; rw [hn], fun K2 => hr K2 _ (fun K => ?_)⟩
      show H_AC_unfairTwo_15 43 K2 (nI a) K (nI (nP A)) σ = _
      unfold H_AC_unfairTwo_15
      rw [e1, if_pos (Int32.le_refl _), nI_1]
    · exact Or.inr ⟨x, hx, fun K2 => hr K2⟩
  unfold F_AC_unfairTwo F_AC_unfairTwo_2
  refine fix_inv (f := G_AC_unfairTwo_2 43) (n := nP A) (s0 := (nI 0, σ)) (fun a q => q = (nI a, σ) ∧ prU (ufB A F) (nP A) a = none) (fun r => r = some (bI (prU (ufB A F) (nP A) (nP A)), σ)) (by rw [fuel_val]; omega) ⟨rfl, rfl⟩ ?_ ?_
  · rintro a s ha ⟨rfl, hn⟩
    have hstart : ∀ K, H_AC_unfairTwo_2 43 K (nI a) σ = F_AC_unfairTwo_15 43 K (nI a) 0 σ := fun K => by
      unfold H_AC_unfairTwo_2
      rw [e1, if_neg (nI_ge ha (by omega))]
    rcases inner a ha with ⟨hr, hrun⟩ | ⟨x, hr, hrun⟩
    · exact Or.inl ⟨(nI (a + 1), σ), ⟨rfl, prU_go hn hr⟩, fun K => (hstart K).trans (hrun K)⟩
    · exact Or.inr ⟨some (nI x, σ), by rw [prU_hit hn hr ha]; rfl, fun K => (hstart K).trans (hrun K)⟩
  · rintro s ⟨rfl, hn⟩
    refine ⟨some (-9, σ), by rw [hn]; rfl, fun K => ?_⟩
    show H_AC_unfairTwo_2 43 K (nI (nP A)) σ = _
    unfold H_AC_unfairTwo_2
    rw [e1, if_pos (Int32.le_refl _)]
theorem unfairM {σ : St} {A : Nt} {F : Nat → Nat} (hN : NowI σ A) (htk : ∀ p, p < nP A → rd σ 73 p = bI (tkO (prA 7 A) F 0 p)) : F_MD_unfair σ = some (bI (prU (ufB A F) (nP A) (nP A)), σ) := by
  have hO := hN.1
  have hP := hO.P
  have e1 : rd σ 58 10 = nI (nP A) := hN.2.2.2.1.1.2.1
  have l64 : ∀ p, p < nP A → ldA σ 64 (nI p) = some (nI (nDi A p)) := fun p hp => by rw [ldk al_64 (by omega), show rd σ 64 p = nI (nDi A p) from (hN.2.2.2.1.1.2.2.2 p hp).2.2.1]
  have inner : ∀ a, a < nP A → (rwU (ufB A F) a (nP A) = none ∧ ∀ K2, F_MD_unfair_12 K2 (nI a) 0 σ = K2 (nI (a + 1), σ)) ∨ (∃ x, rwU (ufB A F) a (nP A) = some x ∧ ∀ K2, F_MD_unfair_12 K2 (nI a) 0 σ = some (nI x, σ)) := by
    intro a ha
    have := fix_exitK (f := fun K2 : Int32 × St → Option (Int32 × St) => G_MD_unfair_12 K2 (nI a)) (n := nP A) (s0 := (nI 0, σ)) (fun b q => q = (nI b, σ) ∧ fsN (ufB A F a) b = none) (fun r => ∃ x, rwU (ufB A F) a (nP A) = some x ∧ r = some (nI x, σ)) (by rw [fuel_val]; omega) ⟨rfl, rfl⟩ (by
      rintro b s hb ⟨rfl, hn⟩
      have hrun : ∀ K2 K : Int32 × St → Option (Int32 × St), H_MD_unfair_12 K2 (nI a) K (nI b) σ = if ufB A F a b = true then some (nI (10 * a + b), σ) else K (nI (b + 1), σ) := fun K2 K => by
        rw [← ufEq hO ha hb]
        unfold H_MD_unfair_12 F_MD_unfair_62
        rw [e1, if_neg (nI_ge hb (by omega)), l64 a ha, l64 b hb, hasM7 hN ha (htk a ha)]
        simp only [Option.bind_some]
        rw [hasM7 hN hb (htk b hb), Option.bind_some, ten_nI, nI_1]
      cases hc : ufB A F a b with
      | true => exact Or.inr ⟨some (nI (10 * a + b), σ), ⟨10 * a + b, by unfold rwU; rw [fsN_hit hn hc hb], rfl⟩, fun K2 K => (hrun K2 K).trans (if_pos hc)⟩
      | false => exact Or.inl ⟨(nI (b + 1), σ), ⟨rfl, fsN_go hn hc⟩, fun K2 K => (hrun K2 K).trans (if_neg (by rw [hc]; decide))⟩)
    rcases this with ⟨s', ⟨rfl, hn⟩, hr⟩ | ⟨r, ⟨x, hx, rfl⟩, hr⟩
    · left
      refine ⟨by unfold rwU; rw [hn], fun K2 => hr K2 _ (fun K => ?_)⟩
      show H_MD_unfair_12 K2 (nI a) K (nI (nP A)) σ = _
      unfold H_MD_unfair_12
      rw [e1, if_pos (Int32.le_refl _), nI_1]
    · exact Or.inr ⟨x, hx, fun K2 => hr K2⟩
  unfold F_MD_unfair F_MD_unfair_2
  refine fix_inv (f := G_MD_unfair_2) (n := nP A) (s0 := (nI 0, σ)) (fun a q => q = (nI a, σ) ∧ prU (ufB A F) (nP A) a = none) (fun r => r = some (bI (prU (ufB A F) (nP A) (nP A)), σ)) (by rw [fuel_val]; omega) ⟨rfl, rfl⟩ ?_ ?_
  · rintro a s ha ⟨rfl, hn⟩
    have hstart : ∀ K, H_MD_unfair_2 K (nI a) σ = F_MD_unfair_12 K (nI a) 0 σ := fun K => by
      unfold H_MD_unfair_2
      rw [e1, if_neg (nI_ge ha (by omega))]
    rcases inner a ha with ⟨hr, hrun⟩ | ⟨x, hr, hrun⟩
    · exact Or.inl ⟨(nI (a + 1), σ), ⟨rfl, prU_go hn hr⟩, fun K => (hstart K).trans (hrun K)⟩
    · exact Or.inr ⟨some (nI x, σ), by rw [prU_hit hn hr ha]; rfl, fun K => (hstart K).trans (hrun K)⟩
  · rintro s ⟨rfl, hn⟩
    refine ⟨some (-9, σ), by rw [hn]; rfl, fun K => ?_⟩
    show H_MD_unfair_2 K (nI (nP A)) σ = _
    unfold H_MD_unfair_2
    rw [e1, if_pos (Int32.le_refl _)]
theorem op_rule (a b : Int32) : Ask (F_AC_rule a b) (F_MD_rule a b) := by
  intro σ h
  obtain ⟨A, hall⟩ := id h
  have hN := hall.1
  have i4 : (4 : Int32) = nI 4 := rfl
  have hno : (a < 0 ∨ nI 5 ≤ a) → ∃ r σ1 σ2, F_AC_rule a b σ = some (r, σ1) ∧ F_MD_rule a b σ1 = some (r, σ2) ∧ INV σ2 := fun ha => by
    refine Ask.no h (k := 2) (x := -2) (by decide) (by decide) ?_ (fun τ hτ => ?_)
    · unfold F_AC_rule F_AC_rule_18
      rw [bid]
      by_cases c : a < 0
      · rw [if_pos c]
      · rw [if_neg c, if_pos (show (4 : Int32) < a from lt_nI (n := 4) (by decide) (ha.resolve_left c))]
    · unfold F_MD_rule F_MD_rule_18
      rw [i4, isIn_out (m := 4) (by decide) ha, Option.bind_some, if0, bid]
  rcases pk_ix a (n := 5) (by decide) with ha | ha | ⟨r, hr, rfl⟩
  · exact hno (Or.inl ha)
  · exact hno (Or.inr ha)
  have h0 : ¬ nI r < 0 := nI_pos (by omega)
  have h4 : ¬ (4 : Int32) < nI r := nI_nlt (a := 4) (by omega) (by omega)
  have hin4 : ∀ s : St, F_MD_isIn (nI r) 0 4 s = some (1, s) := fun s => isIn_in (m := 4) (by omega) (by decide)
  rcases isIn_01 (σ := σ) (b := b) with ⟨hb, _⟩ | ⟨hb, _⟩
  · obtain ⟨F, hF⟩ := soEx hN
    obtain ⟨s1, a1, a2, hN1, a3⟩ := fillN hN
    obtain ⟨s2, b1, b2, hN2, b3, b4⟩ := holdRuleC hN1 a3 hr (hF r hr)
    obtain ⟨s3, c1, c2, hN3, c3⟩ := monthsByM hN2 hr (hF r hr)
    have hin : F_MD_isIn b 0 1 s2 = some (1, s2) := by
      rcases isIn_01 (σ := s2) (b := b) with ⟨_, e⟩ | ⟨hb2, _⟩
      · exact e
      · exfalso; rcases hb with rfl | rfl <;> revert hb2 <;> decide
    refine ⟨if b = 0 then nI (allO (prA 7 A) (F r) 0) else bI (prU (ufB A (F r)) (nP A) (nP A)), s2, s3, ?_, ?_, INV.q hall (((Qf.of a2 (by decide)).tr (Qf.of b2 (by decide))).tr c2)⟩
    · unfold F_AC_rule
      rw [if_neg h0, if_neg h4, in_01 hb, a1, Option.bind_some, b1, Option.bind_some, bid, unfairC hN2 b4, show rd s2 43 4 = nI (allO (prA 7 A) (F r) 0) from b4.2.2.1]
      split <;> rfl
    · unfold F_MD_rule
      rw [hin4, Option.bind_some, if1, hin, Option.bind_some, if1, c1, Option.bind_some, bid]
      simp only
      rw [unfairM hN3 c3]
      split <;> rfl
  · refine Ask.no h (k := 2) (x := -2) (by decide) (by decide) ?_ (fun τ hτ => ?_)
    · unfold F_AC_rule F_AC_rule_18
      rw [if_neg h0, if_neg h4, out_01 hb, bid]
    · unfold F_MD_rule F_MD_rule_18
      rw [hin4, Option.bind_some, if1, show (1 : Int32) = nI 1 from rfl, isIn_out (m := 1) (by decide) hb, Option.bind_some, if0, bid]
def brO (o : Option Nat) : Nat := match o with | none => 0 | some b => b
def brV (w : Nat → Nat) (o : Option Nat) : Nat := match o with | none => 1000000 | some b => w b
theorem brule_s {w : Nat → Nat} {n b : Nat} (h : bestN (fun _ => true) w n = some b) : bestN (fun _ => true) w (n + 1) = if w n < w b then some n else some b := by
  show (if true = true then (match bestN (fun _ => true) w n with | none => some n | some b => if w n < w b then some n else some b) else bestN (fun _ => true) w n) = _
  rw [if_pos rfl, h]
theorem op_bestRule : Ask F_AC_bestRule F_MD_bestRule := by
  intro σ h
  obtain ⟨A, hall⟩ := id h
  have hN := hall.1
  obtain ⟨F, hF⟩ := soEx hN
  have hw : ∀ r, allO (prA 7 A) (F r) 0 ≤ 546 := fun r => allO_le (prA_ok hN.1 7)
  obtain ⟨w, hwe⟩ : ∃ w : Nat → Nat, ∀ r, w r = allO (prA 7 A) (F r) 0 := ⟨_, fun _ => rfl⟩
  obtain ⟨s1, a1, a2, hN1, a3⟩ := fillN hN
  obtain ⟨⟨w1, w2, w3, s2⟩, ⟨e1, e2, e3, hN2, _, hq2⟩, hr2⟩ := fix_rel (f := G_AC_bestRule_18) (n := 5) (s0 := (0, 1000000, nI 0, s1)) (fun n q => q.1 = nI (brO (bestN (fun _ => true) w n)) ∧ q.2.1 = nI (brV w (bestN (fun _ => true) w n)) ∧ q.2.2.1 = nI n ∧ NowI q.2.2.2 A ∧ PrC q.2.2.2 36 (prA 7 A) ∧ Qf (nD A) σ q.2.2.2) (by rw [fuel_val]; omega) ⟨rfl, rfl, rfl, hN1, a3, Qf.of a2 (by decide)⟩ (by
    rintro n ⟨w1, w2, w3, s⟩ hn ⟨e1, e2, e3, hNs, hps, hqs⟩
    simp only at e1 e2 e3 hNs hps hqs
    subst e1; subst e2; subst e3
    obtain ⟨t, b1, b2, hNt, b3, b4⟩ := holdRuleC hNs hps hn (hF n hn)
    have b34 : rd t 43 4 = nI (w n) := by rw [hwe]; exact b4.2.2.1
    have hwn := hw n
    rw [← hwe] at hwn
    refine ⟨(nI (brO (bestN (fun _ => true) w (n + 1))), nI (brV w (bestN (fun _ => true) w (n + 1))), nI (n + 1), t), ⟨rfl, rfl, rfl, hNt, b3, hqs.tr (Qf.of b2 (by decide))⟩, fun K => ?_⟩
    show H_AC_bestRule_18 K (nI (brO (bestN (fun _ => true) w n))) (nI (brV w (bestN (fun _ => true) w n))) (nI n) s = _
    unfold H_AC_bestRule_18 F_AC_bestRule_49
    rw [if_neg (show ¬ (4 : Int32) < nI n from nI_nlt (a := 4) (by omega) (by omega)), b1, Option.bind_some, b34, nI_1]
    cases e : bestN (fun _ => true) w n with
    | none =>
      have e0 : bestN (fun _ => true) w (n + 1) = some n := by
        show (if true = true then (match bestN (fun _ => true) w n with | none => some n | some b => if w n < w b then some n else some b) else bestN (fun _ => true) w n) = _
        rw [if_pos rfl, e]
      rw [e0, if_neg (show ¬ nI (brV w none) ≤ nI (w n) from nI_ge (b := 1000000) (by omega) (by decide))]
      rfl
    | some b =>
      have hwb := hw b
      rw [← hwe] at hwb
      rw [brule_s e]
      show (if nI (w b) ≤ nI (w n) then _ else _) = _
      by_cases g : w n < w b
      · rw [if_neg (show ¬ nI (w b) ≤ nI (w n) from nI_ge g (by omega)), if_pos g]
        rfl
      · rw [if_pos (show nI (w b) ≤ nI (w n) from nI_le (by omega) (by omega)), if_neg g])
  simp only at e1 e2 e3 hN2 hq2
  obtain ⟨⟨u1, u2, s3⟩, ⟨f1, f2, hN3, hq3⟩, hr3⟩ := fix_rel (f := G_MD_bestRule_4) (n := 4) (s0 := (0, nI 1, s2)) (fun n q => (∃ b, bestN (fun _ => true) w (n + 1) = some b ∧ q.1 = nI b) ∧ q.2.1 = nI (n + 1) ∧ NowI q.2.2 A ∧ Qf (nD A) σ q.2.2) (by rw [fuel_val]; omega) ⟨⟨0, rfl, rfl⟩, rfl, hN2, hq2⟩ (by
    rintro n ⟨u1, u2, s⟩ hn ⟨⟨b, hb, e1⟩, e2, hNs, hqs⟩
    simp only at e1 e2 hNs hqs
    subst e1; subst e2
    have hb5 := (bestN_in hb).1
    obtain ⟨t1, c1, c2, hNt1, _⟩ := monthsByM hNs (show n + 1 < 5 by omega) (hF (n + 1) (by omega))
    obtain ⟨t2, d1, d2, hNt2, _⟩ := monthsByM hNt1 (show b < 5 by omega) (hF b (by omega))
    have h1 := hw (n + 1)
    have h2 := hw b
    rw [← hwe] at h1 h2 c1 d1
    refine ⟨(if w (n + 1) < w b then nI (n + 1) else nI b, nI (n + 1 + 1), t2), ⟨⟨if w (n + 1) < w b then n + 1 else b, ?_, ?_⟩, rfl, hNt2, (hqs.tr c2).tr d2⟩, fun K => ?_⟩
    · rw [brule_s hb]
      split <;> rfl
    · show (if w (n + 1) < w b then nI (n + 1) else nI b) = nI (if w (n + 1) < w b then n + 1 else b)
      split <;> rfl
    · show H_MD_bestRule_4 K (nI b) (nI (n + 1)) s = _
      unfold H_MD_bestRule_4 F_MD_bestRule_27
      rw [if_neg (show ¬ (5 : Int32) ≤ nI (n + 1) from nI_ge (b := 5) (by omega) (by decide)), c1, Option.bind_some]
      simp only
      rw [d1, Option.bind_some, nI_1]
      simp only
      by_cases g : w (n + 1) < w b
      · rw [if_neg (nI_ge g (by omega)), if_pos g]
      · rw [if_pos (nI_le (by omega) (by omega)), if_neg g])
  simp only at f1 f2 hN3 hq3
  obtain ⟨b, hb, f1⟩ := f1
  refine ⟨nI b, s2, s3, ?_, ?_, INV.q hall hq3⟩
  · unfold F_AC_bestRule F_AC_bestRule_18
    rw [a1, Option.bind_some]
    refine hr2 _ (fun K => ?_)
    show H_AC_bestRule_18 K w1 w2 w3 s2 = _
    unfold H_AC_bestRule_18
    rw [e3, if_pos (show (4 : Int32) < nI 5 by decide), e1, hb]
    rfl
  · unfold F_MD_bestRule F_MD_bestRule_4
    refine hr3 _ (fun K => ?_)
    show H_MD_bestRule_4 K u1 u2 s3 = _
    unfold H_MD_bestRule_4
    rw [f2, if_pos (show (5 : Int32) ≤ nI (4 + 1) from Int32.le_refl _), f1]
