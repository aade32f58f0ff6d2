-- orders by a rule
def kyN (A : Nt) (r p : Nat) : Nat := if r = 1 then nR A p + 9 else if r = 2 then 9 - nR A p else if r = 3 then (if nDi A p = 7 then 10 else 9) else if nDi A p = 7 then 9 else 10
def gyN (A : Nt) (r p : Nat) : Nat := if r = 0 then plc (nOd A) p (nP A) else 10 * kyN A r p + p
def ofN (r : Nat) : Nat := if r = 0 then 0 else 90
theorem kyN_le {A : Nt} (hO : OkN A) {r p : Nat} (hp : p < nP A) : kyN A r p ≤ 18 := by
  have := (hO.2.2.2.1 p hp).1
  unfold kyN
  (repeat' split) <;> omega
theorem gyN_le {A : Nt} (hO : OkN A) {r p : Nat} (hp : p < nP A) : gyN A r p ≤ 200 := by
  have h1 := kyN_le hO (r := r) hp
  have h2 := hO.P
  have h3 := hO.od.plc_lt hp
  unfold gyN
  split <;> omega
theorem gyN_inj {A : Nt} (hO : OkN A) {r p q : Nat} (hp : p < nP A) (hq : q < nP A) (h : gyN A r p = gyN A r q) : p = q := by
  have h2 := hO.P
  unfold gyN at h
  by_cases e : r = 0
  · rw [if_pos e, if_pos e] at h
    rw [← hO.od.od_plc hp, ← hO.od.od_plc hq, h]
  · rw [if_neg e, if_neg e] at h
    omega
/-- the order by a rule -/
def SOr (A : Nt) (r : Nat) (f : Nat → Nat) : Prop := OdOK (nP A) f ∧ ∀ i j, i < j → j < nP A → gyN A r (f i) < gyN A r (f j)
def cnG (A : Nt) (r N : Nat) : Nat := sumN (fun q => if gyN A r q < N then 1 else 0) (nP A)
theorem sumN_cnt {i : Nat} : ∀ {n : Nat}, i ≤ n → sumN (fun j => if j < i then 1 else 0) n = i
  | 0, h => by rw [show i = 0 by omega]; rfl
  | n + 1, h => by
    rw [sumN]
    by_cases e : i = n + 1
    · subst e
      have : sumN (fun j => if j < n + 1 then 1 else 0) n = n := by
        rw [sumN_cong (g := fun j => if j < n then 1 else 0) (fun k hk => by rw [if_pos (by omega), if_pos hk])]
        exact sumN_cnt (Nat.le_refl n)
      rw [this, if_pos (by omega)]
    · rw [sumN_cnt (n := n) (by omega), if_neg (by omega), Nat.add_zero]
theorem SOr.rank {A : Nt} {r : Nat} {f : Nat → Nat} (h : SOr A r f) {i : Nat} (hi : i < nP A) : cnG A r (gyN A r (f i)) = i := by
  unfold cnG
  rw [← sumN_perm h.1 (fun q => if gyN A r q < gyN A r (f i) then 1 else 0)]
  rw [sumN_cong (g := fun j => if j < i then 1 else 0) (fun j hj => ?_)]
  · exact sumN_cnt (by omega)
  · rcases Nat.lt_trichotomy j i with q | q | q
    · have := h.2 j i q hi
      rw [if_pos this, if_pos q]
    · subst q
      rw [if_neg (by omega), if_neg (by omega)]
    · have := h.2 i j q hj
      rw [if_neg (by omega), if_neg (by omega)]
theorem SOr.uniq {A : Nt} {r : Nat} {f g : Nat → Nat} (h : SOr A r f) (k : SOr A r g) {i : Nat} (hi : i < nP A) : f i = g i := by
  obtain ⟨j, hj, e⟩ := k.1.onto (h.1.1 i hi)
  have h1 := h.rank hi
  have h2 := k.rank hj
  rw [e] at h2
  have : j = i := h2.symm.trans h1
  rw [← this, e, this]
theorem SOr0 {A : Nt} (hO : OkN A) : SOr A 0 (nOd A) := ⟨hO.od, fun i j hij hj => by
  unfold gyN
  rw [if_pos rfl, if_pos rfl, hO.od.plc_od (by omega), hO.od.plc_od hj]
  exact hij⟩
-- the class
theorem sub9 {a b : Nat} (ha : a < 2 ^ 30) (hb : b < 2 ^ 30) : nI a - 9 = nI b - 9 ↔ a = b := by
  constructor
  · intro h
    have h1 := congrArg Int32.toInt h
    rw [show (9 : Int32) = nI 9 from rfl, pk_sub_toInt ha (by decide), pk_sub_toInt hb (by decide)] at h1
    omega
  · rintro rfl; rfl
theorem key1 : ∀ R, R < 10 → nI R = nI (R + 9) - 9 := by decide +kernel
theorem key2 : ∀ R, R < 10 → -nI R = nI (9 - R) - 9 := by decide +kernel
theorem ruleKeyC {σ : St} {A : Nt} (hA : AbsC σ 1 A) (hO : OkN A) {r p : Nat} (h1 : 1 ≤ r) (h4 : r ≤ 4) (hp : p < nP A) : F_AC_ruleKey (nI r) (nI p) σ = some (nI (kyN A r p) - 9, σ) := by
  have hP := hO.P
  have hR := (hO.2.2.2.1 p hp).1
  have hdi := (hO.2.2.2.1 p hp).2.2.1
  unfold F_AC_ruleKey
  rw [atC al_4 (by omega), Option.bind_some]
  simp only
  rw [atC al_6 (by omega), Option.bind_some]
  simp only
  rw [show rd σ 4 p = nI (nR A p) from (hA.2.2.2 p hp).1, show rd σ 6 p = nI (nDi A p) from (hA.2.2.2 p hp).2.2.1]
  have e7 : nI (nDi A p) = (7 : Int32) ↔ nDi A p = 7 := ⟨fun c => nI_inj (b := 7) (by omega) (by decide) c, fun c => by rw [c]; rfl⟩
  rcases (show r = 1 ∨ r = 2 ∨ r = 3 ∨ r = 4 by omega) with rfl | rfl | rfl | rfl
  · have ek : kyN A 1 p = nR A p + 9 := rfl
    rw [ek, ← key1 _ hR]
    unfold F_AC_ruleKey_33
    rw [if_pos (show nI 1 = (1 : Int32) from rfl), if_pos (show nI 1 = (1 : Int32) from rfl)]
    exact ite_self _
  · have ek : kyN A 2 p = 9 - nR A p := rfl
    rw [ek, ← key2 _ hR]
    unfold F_AC_ruleKey_33
    rw [if_neg (show ¬ nI 2 = (1 : Int32) by decide), if_pos (show nI 2 = (2 : Int32) from rfl), if_neg (show ¬ nI 2 = (1 : Int32) by decide), if_pos (show nI 2 = (2 : Int32) from rfl)]
    exact ite_self _
  · have ek : kyN A 3 p = if nDi A p = 7 then 10 else 9 := rfl
    rw [ek]
    unfold F_AC_ruleKey_33
    by_cases g : nDi A p = 7
    · rw [if_pos (e7.mpr g), if_pos g]; rfl
    · rw [if_neg (fun c => g (e7.mp c)), if_neg g]; rfl
  · have ek : kyN A 4 p = if nDi A p = 7 then 9 else 10 := rfl
    rw [ek]
    unfold F_AC_ruleKey_33
    by_cases g : nDi A p = 7
    · rw [if_pos (e7.mpr g), if_pos g]; rfl
    · rw [if_neg (fun c => g (e7.mp c)), if_neg g]; rfl
theorem cnG_hit {A : Nt} {r J v : Nat} (hP : nP A ≤ 7) (hr : r ≠ 0) (hv : v < nP A) (hk : kyN A r v = J) : cnG A r (10 * J + (v + 1)) = cnG A r (10 * J + v) + 1 := by
  have hg : ∀ q, gyN A r q = 10 * kyN A r q + q := fun q => if_neg hr
  have : sumN (fun q => if q = v then 1 else 0) (nP A) = 1 := by
    rw [sumN_one (j := v) hv (fun k _ hk => if_neg hk), if_pos rfl]
  rw [show cnG A r (10 * J + v) + 1 = cnG A r (10 * J + v) + sumN (fun q => if q = v then 1 else 0) (nP A) by rw [this]]
  unfold cnG
  rw [← sumN_add]
  refine sumN_cong (fun q hq => ?_)
  rw [hg q]
  by_cases e : q = v
  · subst e
    rw [if_pos (by omega), if_neg (by omega), if_pos rfl]
  · by_cases g : 10 * kyN A r q + q < 10 * J + v
    · rw [if_pos (by omega), if_pos g, if_neg e]
    · rw [if_neg (by omega), if_neg g, if_neg e]
theorem cnG_miss {A : Nt} {r J v : Nat} (hP : nP A ≤ 7) (hr : r ≠ 0) (hv : v < nP A) (hk : kyN A r v ≠ J) : cnG A r (10 * J + (v + 1)) = cnG A r (10 * J + v) := by
  have hg : ∀ q, gyN A r q = 10 * kyN A r q + q := fun q => if_neg hr
  unfold cnG
  refine sumN_cong (fun q hq => ?_)
  rw [hg q]
  by_cases g : 10 * kyN A r q + q < 10 * J + v
  · rw [if_pos (by omega), if_pos g]
  · rw [if_neg (fun c => by
      have : 10 * kyN A r q + q = 10 * J + v := by omega
      have h1 : q = v := by omega
      subst h1
      exact hk (by omega)), if_neg g]
theorem cnG_next {A : Nt} {r J : Nat} (hP : nP A ≤ 7) (hr : r ≠ 0) : cnG A r (10 * (J + 1) + 0) = cnG A r (10 * J + nP A) := by
  have hg : ∀ q, gyN A r q = 10 * kyN A r q + q := fun q => if_neg hr
  unfold cnG
  refine sumN_cong (fun q hq => ?_)
  rw [hg q]
  by_cases g : kyN A r q ≤ J
  · rw [if_pos (by omega), if_pos (by omega)]
  · rw [if_neg (by omega), if_neg (by omega)]
theorem holdRuleC {σ : St} {A : Nt} (hN : NowI σ A) (hPr : PrC σ 36 (prA 7 A)) {r : Nat} (hr : r < 5) {f : Nat → Nat} (hf : SOr A r f) : ∃ s, F_AC_holdRule (nI r) σ = some s ∧ Fr [43, 44, 45, 54] σ s ∧ NowI s A ∧ PrC s 36 (prA 7 A) ∧ MoD s 43 (prA 7 A) f 0 := by
  have hO := hN.1
  have hP := hO.P
  obtain ⟨s1, a1, a2, a3⟩ := lineUpC (c := 9) al_9 (by decide) hP (fun k hk => (hN.2.2.1.2.2.2 k hk).2.2.2.2.2)
  have hN1 : NowI s1 A := hN.q (Qf.of a2 (by decide))
  have fin : ∀ s2, Fr [54] σ s2 → (∀ k, k < nP A → rd s2 54 k = nI (f k)) → ∃ s, F_AC_holdRule_77 s2 = some s ∧ Fr [43, 44, 45, 54] σ s ∧ NowI s A ∧ PrC s 36 (prA 7 A) ∧ MoD s 43 (prA 7 A) f 0 := fun s2 h2 hl => by
    have hN2 : NowI s2 A := hN.q (Qf.of h2 (by decide))
    obtain ⟨s3, c1, c2, c3⟩ := holdLineC hN2.2.2.1 hO (hPr.fr h2 (by decide) (by decide)) hf.1 hl
    have hall : Fr [43, 44, 45, 54] σ s3 := (h2.sub (by simp)).two (c2.sub (by simp))
    refine ⟨s3, ?_, hall, hN2.q (Qf.of c2 (by decide)), hPr.fr hall (by decide) (by decide), c3⟩
    unfold F_AC_holdRule_77
    rw [c1, Option.bind_some]
  by_cases h0 : r = 0
  · subst h0
    obtain ⟨s, b1, b2⟩ := fin s1 a2 (fun k hk => by rw [a3 k hk, hf.uniq (SOr0 hO) hk])
    refine ⟨s, ?_, b2⟩
    unfold F_AC_holdRule
    rw [a1, Option.bind_some, if_pos (show nI 0 = (0 : Int32) from rfl), b1]
  · -- one key
    have inner : ∀ J s, J < 19 → Fr [54] σ s → (∀ p, p < nP A → gyN A r p < 10 * J + 0 → rd s 54 (cnG A r (gyN A r p)) = nI p) → ∃ s', Fr [54] σ s' ∧ (∀ p, p < nP A → gyN A r p < 10 * J + nP A → rd s' 54 (cnG A r (gyN A r p)) = nI p) ∧ ∀ K, F_AC_holdRule_29 K (nI r) (nI (cnG A r (10 * J + 0))) (nI J - 9) 0 s = K (nI (cnG A r (10 * J + nP A)), nI (J + 1) - 9, s') := by
      intro J s hJ hs hrow
      obtain ⟨⟨w, v, s'⟩, ⟨hw, hv, hs', h1⟩, hrr⟩ := fix_relK (f := fun K : Int32 × Int32 × St → Option St => G_AC_holdRule_29 K (nI r) (nI J - 9)) (n := nP A) (s0 := (nI (cnG A r (10 * J + 0)), nI 0, s)) (fun v q => q.1 = nI (cnG A r (10 * J + v)) ∧ q.2.1 = nI v ∧ Fr [54] σ q.2.2 ∧ ∀ p, p < nP A → gyN A r p < 10 * J + v → rd q.2.2 54 (cnG A r (gyN A r p)) = nI p) (by rw [fuel_val]; omega) ⟨rfl, rfl, hs, hrow⟩ (by
        rintro v ⟨w, u, t⟩ hv ⟨hw, hu, ht, h1⟩
        simp only at hw hu ht h1
        subst hw; subst hu
        have hNt : NowI t A := hN.q (Qf.of ht (by decide))
        have e1 : rd t 1 1 = nI (nP A) := hNt.2.2.1.2.1
        have hkey := ruleKeyC hNt.2.2.1 hO (r := r) (by omega) (by omega) hv
        have hk18 := kyN_le hO (r := r) hv
        have hg : ∀ q, gyN A r q = 10 * kyN A r q + q := fun q => if_neg h0
        by_cases hk : kyN A r v = J
        · have hgv : gyN A r v = 10 * J + v := by rw [hg, hk]
          obtain ⟨i, hi, hfi⟩ := hf.1.onto hv
          have hrank := hf.rank hi
          rw [hfi] at hrank
          have hlt : cnG A r (10 * J + v) < nP A := by rw [← hgv, hrank]; exact hi
          refine ⟨(nI (cnG A r (10 * J + (v + 1))), nI (v + 1), wr t 54 (cnG A r (10 * J + v)) (nI v)), ⟨rfl, rfl, ht.two (Fr.wr (by simp)), fun p hp hpg => ?_⟩, fun K K' => ?_⟩
          · by_cases e : p = v
            · subst e
              rw [hgv, rd_wr_same]
            · have hne : gyN A r p ≠ gyN A r v := fun c => e (gyN_inj hO hp hv c)
              obtain ⟨i2, hi2, hfi2⟩ := hf.1.onto hp
              have hrank2 := hf.rank hi2
              rw [hfi2] at hrank2
              rw [rd_wr_slot _ _ _ _ (fun c => by
                rw [← hgv, hrank, hrank2] at c
                subst c
                exact e (hfi2.symm.trans hfi))]
              exact h1 p hp (by omega)
          · show H_AC_holdRule_29 K (nI r) (nI J - 9) K' (nI (cnG A r (10 * J + v))) (nI v) t = _
            unfold H_AC_holdRule_29 F_AC_holdRule_65
            rw [e1, if_neg (nI_ge hv (by omega)), hkey, Option.bind_some]
            simp only
            rw [if_pos (by rw [hk]), putC al_54 (by omega), Option.bind_some, nI_1, nI_1, cnG_hit hP h0 hv hk]
        · refine ⟨(nI (cnG A r (10 * J + (v + 1))), nI (v + 1), t), ⟨rfl, rfl, ht, fun p hp hpg => ?_⟩, fun K K' => ?_⟩
          · refine h1 p hp ?_
            by_cases e : gyN A r p = 10 * J + v
            · rw [hg] at e
              have h2 : p = v := by omega
              subst h2
              exact absurd (by omega) hk
            · omega
          · show H_AC_holdRule_29 K (nI r) (nI J - 9) K' (nI (cnG A r (10 * J + v))) (nI v) t = _
            unfold H_AC_holdRule_29 F_AC_holdRule_65
            rw [e1, if_neg (nI_ge hv (by omega)), hkey, Option.bind_some]
            simp only
            rw [if_neg (fun c => hk ((sub9 (by omega) (by omega)).mp c)), nI_1, cnG_miss hP h0 hv hk])
      simp only at hw hv hs' h1
      refine ⟨s', hs', h1, fun K => hrr K _ (fun K' => ?_)⟩
      show H_AC_holdRule_29 K (nI r) (nI J - 9) K' w v s' = _
      unfold H_AC_holdRule_29
      have e1 : rd s' 1 1 = nI (nP A) := (hs'.at (by decide) 1).trans hN.2.2.1.2.1
      have e9 : nI J - 9 + 1 = nI (J + 1) - 9 := by
        rw [← nI_1, Int32.sub_eq_add_neg, Int32.sub_eq_add_neg, Int32.add_assoc, Int32.add_comm (-9), ← Int32.add_assoc]
      rw [hv, e1, if_pos (Int32.le_refl _), hw, e9]
    obtain ⟨⟨w, v, s2⟩, ⟨hw, hv, h2, hrow⟩, hrr⟩ := fix_rel (f := G_AC_holdRule_20 (nI r)) (n := 19) (s0 := (nI 0, -9, s1)) (fun J q => q.1 = nI (cnG A r (10 * J + 0)) ∧ q.2.1 = nI J - 9 ∧ Fr [54] σ q.2.2 ∧ ∀ p, p < nP A → gyN A r p < 10 * J + 0 → rd q.2.2 54 (cnG A r (gyN A r p)) = nI p) (by rw [fuel_val]; omega) ⟨by
        show nI 0 = nI (sumN (fun q => if gyN A r q < 10 * 0 + 0 then 1 else 0) (nP A))
        rw [sumN_zero (fun k _ => if_neg (by omega))], (by decide : (-9 : Int32) = nI 0 - 9), a2, fun p hp h => by omega⟩ (by
      rintro J ⟨w, v, s⟩ hJ ⟨hw, hv, hs, hrow⟩
      simp only at hw hv hs hrow
      subst hw; subst hv
      obtain ⟨s', b1, b2, b3⟩ := inner J s hJ hs hrow
      refine ⟨(nI (cnG A r (10 * (J + 1) + 0)), nI (J + 1) - 9, s'), ⟨rfl, rfl, b1, fun p hp hg => b2 p hp ?_⟩, fun K => ?_⟩
      · have e : gyN A r p = 10 * kyN A r p + p := if_neg h0
        omega
      · show H_AC_holdRule_20 (nI r) K (nI (cnG A r (10 * J + 0))) (nI J - 9) s = _
        have h9 : ¬ (9 : Int32) < nI J - 9 := by
          rw [fa_lt, show (9 : Int32) = nI 9 from rfl, pk_sub_toInt (by omega) (by decide), nI_toInt (by decide)]
          omega
        unfold H_AC_holdRule_20
        rw [if_neg h9, b3, cnG_next hP h0])
    simp only at hw hv h2 hrow
    obtain ⟨s, b1, b2⟩ := fin s2 h2 (fun k hk => by
      have hp := hf.1.1 k hk
      have := hrow (f k) hp (by
        have e : gyN A r (f k) = 10 * kyN A r (f k) + f k := if_neg h0
        have := kyN_le hO (r := r) hp
        omega)
      rw [hf.rank hk] at this
      exact this)
    refine ⟨s, ?_, b2⟩
    unfold F_AC_holdRule F_AC_holdRule_20
    rw [a1, Option.bind_some, if_neg (show ¬ nI r = (0 : Int32) from fun c => h0 (nI_inj (b := 0) (by omega) (by decide) c))]
    refine hrr _ (fun K => ?_)
    show H_AC_holdRule_20 (nI r) K w v s2 = _
    unfold H_AC_holdRule_20
    rw [hv, if_pos (by decide), b1]
