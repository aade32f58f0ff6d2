-- caught
def gS (x y : Nat) : Nat → Nat × Nat
  | 0 => (x, y)
  | n + 1 => ((gS x y n).2, (gS x y n).1 % (gS x y n).2)
theorem gS_s (x y n : Nat) : gS x y (n + 1) = ((gS x y n).2, (gS x y n).1 % (gS x y n).2) := rfl
theorem gS_lt {x y b : Nat} (hx : x < b) (hy : y < b) : ∀ n, (gS x y n).1 < b ∧ (gS x y n).2 < b
  | 0 => ⟨hx, hy⟩
  | n + 1 => by
    have ih := gS_lt hx hy n
    rw [gS_s]
    exact ⟨ih.2, Nat.lt_of_le_of_lt (Nat.mod_le _ _) ih.1⟩
theorem gS_gcd (x y : Nat) : ∀ n, Nat.gcd (gS x y n).1 (gS x y n).2 = Nat.gcd x y
  | 0 => rfl
  | n + 1 => by
    rw [gS_s, ← gS_gcd x y n]
    show Nat.gcd (gS x y n).2 ((gS x y n).1 % (gS x y n).2) = _
    rw [Nat.gcd_comm, ← Nat.gcd_rec, Nat.gcd_comm]
theorem mod_half {a b : Nat} (hb : 0 < b) (h : b ≤ a) : 2 * (a % b) ≤ a := by
  have h1 := Nat.mod_lt a hb
  have h2 := Nat.div_add_mod a b
  have h3 : 1 ≤ a / b := (Nat.one_le_div_iff hb).mpr h
  have h4 : b * 1 ≤ b * (a / b) := Nat.mul_le_mul_left b h3
  omega
theorem gS_half (x y : Nat) : ∀ m, (∃ j, j ≤ 2 * m ∧ (gS x y j).2 = 0) ∨ (gS x y (2 * m)).2 * 2 ^ m ≤ y
  | 0 => Or.inr (by show y * 1 ≤ y; omega)
  | m + 1 => by
    rcases gS_half x y m with ⟨j, h1, h2⟩ | h
    · exact Or.inl ⟨j, by omega, h2⟩
    · by_cases z1 : (gS x y (2 * m)).2 = 0
      · exact Or.inl ⟨2 * m, by omega, z1⟩
      · by_cases z2 : (gS x y (2 * m + 1)).2 = 0
        · exact Or.inl ⟨2 * m + 1, by omega, z2⟩
        · right
          have e1 : (gS x y (2 * m + 1)).2 = (gS x y (2 * m)).1 % (gS x y (2 * m)).2 := rfl
          have e0 : (gS x y (2 * m + 1)).1 = (gS x y (2 * m)).2 := rfl
          have e2 : (gS x y (2 * (m + 1))).2 = (gS x y (2 * m + 1)).1 % (gS x y (2 * m + 1)).2 := rfl
          have hlt : (gS x y (2 * m + 1)).2 < (gS x y (2 * m)).2 := by rw [e1]; exact Nat.mod_lt _ (by omega)
          have := mod_half (a := (gS x y (2 * m)).2) (b := (gS x y (2 * m + 1)).2) (by omega) (by omega)
          rw [e2, e0]
          have h5 : (gS x y (2 * m)).2 % (gS x y (2 * m + 1)).2 * 2 ^ (m + 1) = 2 * ((gS x y (2 * m)).2 % (gS x y (2 * m + 1)).2) * 2 ^ m := by
            rw [Nat.pow_succ, Nat.mul_comm (2 ^ m) 2, ← Nat.mul_assoc, Nat.mul_comm ((gS x y (2 * m)).2 % (gS x y (2 * m + 1)).2) 2]
          rw [h5]
          exact Nat.le_trans (Nat.mul_le_mul_right _ this) h
theorem gS_end {x y : Nat} (hy : y < 2 ^ 41) : ∃ N, N < 84 ∧ (gS x y N).2 = 0 ∧ ∀ j, j < N → (gS x y j).2 ≠ 0 := by
  have h0 : ∃ i, i < 84 ∧ (gS x y i).2 = 0 := by
    rcases gS_half x y 41 with ⟨j, h1, h2⟩ | h
    · exact ⟨j, by omega, h2⟩
    · refine ⟨82, by decide, ?_⟩
      have h' : (gS x y 82).2 * 2 ^ 41 ≤ y := h
      rcases Nat.eq_zero_or_pos (gS x y 82).2 with q | q
      · exact q
      · have := Nat.mul_le_mul_right (2 ^ 41) q
        omega
  obtain ⟨N, h1, h2, h3⟩ := fb_first (p := fun i => (gS x y i).2 = 0) h0
  exact ⟨N, h1, h2, h3⟩
theorem gcdC {σ : St} {x y : Nat} (hx : x < 2 ^ 41) (hy : y < 2 ^ 41) : F_AC_commonDivisor (lN y) (lN x) σ = some (lN (Nat.gcd x y), σ) := by
  obtain ⟨N, h1, h2, h3⟩ := gS_end (x := x) hy
  have hb := gS_lt hx hy
  have hg := gS_gcd x y N
  rw [h2, Nat.gcd_zero_right] at hg
  unfold F_AC_commonDivisor F_AC_commonDivisor_9
  refine fix_up (n := N) (fun j => (lN (gS x y j).1, lN (gS x y j).2, nI j, σ)) (by rw [fuel_val]; omega) (fun K j hj => ?_) (fun K => ?_)
  · show H_AC_commonDivisor_9 K (lN (gS x y j).1) (lN (gS x y j).2) (nI j) σ = _
    have b1 := (hb j).1
    have b2 := (hb j).2
    have hne := h3 j hj
    unfold H_AC_commonDivisor_9
    rw [if_neg (show ¬ (128 : Int32) ≤ nI j from nI_ge (b := 128) (by omega) (by decide))]
    rw [if_neg (fun c => by
      have := (lg_cmp_le _ _).mp c
      rw [show (0 : Int64) = lN 0 from rfl, pk_lLE (by omega) (by decide)] at this
      omega)]
    rw [if_neg (fun c => by
      rw [show (0 : Int64) = lN 0 from rfl, pk_lEQ (by omega) (by decide)] at c
      omega), Option.bind_some, pk_lRem (by omega) (by omega) (by omega), nI_1]
    rfl
  · show H_AC_commonDivisor_9 K (lN (gS x y N).1) (lN (gS x y N).2) (nI N) σ = _
    unfold H_AC_commonDivisor_9
    rw [if_neg (show ¬ (128 : Int32) ≤ nI N from nI_ge (b := 128) (by omega) (by decide)), h2, if_pos ((lg_cmp_le _ _).mpr (by decide)), hg]
theorem gcdM {σ : St} {x y : Nat} (hx : x < 2 ^ 41) (hy : y < 2 ^ 41) : F_MD_divisor (lN x) (lN y) σ = some (lN (Nat.gcd x y), σ) := by
  obtain ⟨N, h1, h2, h3⟩ := gS_end (x := x) hy
  have hb := gS_lt hx hy
  have hg := gS_gcd x y N
  rw [h2, Nat.gcd_zero_right] at hg
  have hcmp : ∀ z : Int64, lg_cmp z 0 = 0 ↔ z = 0 := fun z => by
    unfold lg_cmp
    by_cases g : z > 0
    · rw [if_pos g]
      exact ⟨fun c => absurd c (by decide), fun c => by subst c; exact absurd g (by decide)⟩
    · rw [if_neg g]
      by_cases g2 : z = 0
      · rw [if_pos g2]; exact ⟨fun _ => g2, fun _ => rfl⟩
      · rw [if_neg g2]; exact ⟨fun c => absurd c (by decide), fun c => absurd c g2⟩
  unfold F_MD_divisor F_MD_divisor_6
  refine fix_up (n := N) (fun j => (lN (gS x y j).1, lN (gS x y j).2, σ)) (by rw [fuel_val]; omega) (fun K j hj => ?_) (fun K => ?_)
  · show H_MD_divisor_6 K (lN (gS x y j).1) (lN (gS x y j).2) σ = _
    have b1 := (hb j).1
    have b2 := (hb j).2
    have hne := h3 j hj
    have hz : ¬ lN (gS x y j).2 = 0 := fun c => by
      rw [show (0 : Int64) = lN 0 from rfl, pk_lEQ (by omega) (by decide)] at c
      omega
    unfold H_MD_divisor_6
    rw [if_neg (fun c => hz ((hcmp _).mp c)), if_neg hz, Option.bind_some, pk_lRem (by omega) (by omega) (by omega)]
    rfl
  · show H_MD_divisor_6 K (lN (gS x y N).1) (lN (gS x y N).2) σ = _
    unfold H_MD_divisor_6
    rw [h2, if_pos ((hcmp (lN 0)).mpr rfl), hg]
theorem lN_ne0 {n : Nat} (h0 : 0 < n) (h : n < 2 ^ 63) : ¬ lN n = 0 := fun c => by
  rw [show (0 : Int64) = lN 0 from rfl, pk_lEQ h (by decide)] at c
  omega
theorem powC {σ : St} {t n : Nat} (ht : t < 1000) (hn : n < 1000) : F_AC_power (nI t) (nI n) σ = some (lN (t ^ n), σ) := by
  unfold F_AC_power F_AC_power_5
  refine fix_up (n := n) (fun j => (lN (t ^ j), nI j, σ)) (by rw [fuel_val]; omega) (fun K j hj => ?_) (fun K => ?_)
  · show H_AC_power_5 (nI t) (nI n) K (lN (t ^ j)) (nI j) σ = _
    unfold H_AC_power_5
    rw [if_neg (nI_ge hj (by omega)), Option.bind_some, nI_l (by omega), lN_mul, nI_1, Nat.pow_succ]
  · show H_AC_power_5 (nI t) (nI n) K (lN (t ^ n)) (nI n) σ = _
    unfold H_AC_power_5
    rw [if_pos (Int32.le_refl _)]
def chN' (u k : Nat) : Nat → Nat
  | 0 => 1
  | i + 1 => chN' u k i * (u - k + (i + 1)) / (i + 1)
def cbN (u : Nat) : Nat → Nat
  | 0 => 1
  | i + 1 => cbN u i * (u - i) / (i + 1)
theorem ch_cb : ∀ u, u < 8 → ∀ k, k < 8 → k ≤ u → chN' u k k = cbN u k := by decide +kernel
theorem ch_le : ∀ u, u < 8 → ∀ k, k < 8 → k ≤ u → ∀ i, i < 8 → i ≤ k → chN' u k i ≤ 35 := by decide +kernel
theorem cb_le : ∀ u, u < 8 → ∀ k, k < 8 → k ≤ u → cbN u k ≤ 35 := by decide +kernel
theorem cb_div : ∀ u, u < 8 → ∀ i, i < 8 → i < u → (cbN u i * (u - i)) % (i + 1) = 0 := by decide +kernel
def cgA (u k t : Nat) : Nat := if k ≤ u then cbN u k * (t - 1) ^ (u - k) else 0
theorem pow19 {t n : Nat} (ht : t ≤ 20) (hn : n ≤ 7) : (t - 1) ^ n ≤ 893871739 := by
  have h1 : (t - 1) ^ n ≤ 19 ^ n := Nat.pow_le_pow_left (by omega) n
  have h2 : 19 ^ n ≤ 19 ^ 7 := Nat.pow_le_pow_right (by decide) hn
  have h3 : (19 : Nat) ^ 7 = 893871739 := by decide
  omega
theorem pow20 {t n : Nat} (ht : t ≤ 20) (hn : n ≤ 7) : t ^ n ≤ 1280000000 := by
  have h1 : t ^ n ≤ 20 ^ n := Nat.pow_le_pow_left ht n
  have h2 : 20 ^ n ≤ 20 ^ 7 := Nat.pow_le_pow_right (by decide) hn
  have h3 : (20 : Nat) ^ 7 = 1280000000 := by decide
  omega
theorem mul35 {a b : Nat} (ha : a ≤ 35) (hb : b ≤ 893871739) : a * b ≤ 31285510865 := Nat.le_trans (Nat.mul_le_mul ha hb) (by decide)
theorem cgA_le {u k t : Nat} (hu : u ≤ 7) (hk : k ≤ 7) (ht : t ≤ 20) : cgA u k t ≤ 31285510865 := by
  unfold cgA
  split
  · rename_i h
    exact mul35 (cb_le u (by omega) k (by omega) h) (pow19 ht (by omega))
  · omega
theorem waysC {σ : St} {u k t : Nat} (hu : u ≤ 7) (hk : k ≤ 7) (h2 : 2 ≤ t) (ht : t ≤ 20) : F_AC_waysToBeCaught (nI u) (nI k) (nI t) σ = some (lN (cgA u k t), σ) := by
  unfold F_AC_waysToBeCaught cgA
  by_cases h : k ≤ u
  · rw [if_pos (nI_le h (by omega)), if_pos h]
    unfold F_AC_waysToBeCaught_12
    refine fix_up (n := k) (fun i => (lN (chN' u k i), nI (1 + i), σ)) (by rw [fuel_val]; omega) (fun K i hi => ?_) (fun K => ?_)
    · show H_AC_waysToBeCaught_12 (nI u) (nI k) (nI t) K (lN (chN' u k i)) (nI (1 + i)) σ = _
      have hle := ch_le u (by omega) k (by omega) h i (by omega) (by omega)
      have hm : chN' u k i * (u - k + (1 + i)) ≤ 35 * 14 := Nat.mul_le_mul hle (by omega)
      unfold H_AC_waysToBeCaught_12
      rw [if_neg (nI_nlt (by omega) (by omega)), pk_sub h, nI_add, nI_l (by omega), nI_l (by omega), if_neg (fun c => by
        rw [show (0 : Int64) = lN 0 from rfl, pk_lEQ (by omega) (by decide)] at c
        omega), Option.bind_some, lN_mul, pk_lDiv (by omega) (by omega) (by omega), nI_1]
      show K (lN (chN' u k i * (u - k + (1 + i)) / (1 + i)), nI (1 + i + 1), σ) = K (lN (chN' u k i * (u - k + (i + 1)) / (i + 1)), nI (1 + (i + 1)), σ)
      rw [Nat.add_comm 1 i, show i + 1 + 1 = 1 + (i + 1) by omega]
    · show H_AC_waysToBeCaught_12 (nI u) (nI k) (nI t) K (lN (chN' u k k)) (nI (1 + k)) σ = _
      unfold H_AC_waysToBeCaught_12
      rw [if_pos (nI_lt (by omega) (by omega)), nI_dec (by omega), pk_sub h, powC (by omega) (by omega), Option.bind_some]
      simp only
      rw [lN_mul, ch_cb u (by omega) k (by omega) h]
  · rw [if_neg (nI_ge (by omega) (by omega)), if_neg h]
    rfl
/-- the model's products -/
def upP (k t : Nat) (z : Nat) : Nat → Nat
  | 0 => z
  | i + 1 => upP k t z i * (if i < k then 1 else t - 1)
theorem upP_eq (k t z : Nat) : ∀ i, upP k t z i = z * (t - 1) ^ (i - k)
  | 0 => by rw [Nat.zero_sub, Nat.pow_zero, Nat.mul_one]; rfl
  | i + 1 => by
    show upP k t z i * (if i < k then 1 else t - 1) = _
    rw [upP_eq k t z i]
    by_cases h : i < k
    · rw [if_pos h, show i - k = 0 by omega, show i + 1 - k = 0 by omega, Nat.mul_one]
    · rw [if_neg h, show i + 1 - k = (i - k) + 1 by omega, Nat.pow_succ, Nat.mul_assoc]
theorem caughtM2 {σ : St} {u k t : Nat} {v : Int32} (hu : u ≤ 7) (hk : k ≤ 7) (h2 : 2 ≤ t) (ht : t ≤ 20) : F_MD_caught_133 (nI t) (nI k) v (nI u) (if nI k ≤ nI u then 1 else 0) σ = some (if v = 0 then lN (cgA u k t / Nat.gcd (cgA u k t) (t ^ u)) else lN (t ^ u / Nat.gcd (cgA u k t) (t ^ u)), σ) := by
  have hA := cgA_le hu hk ht
  have hB := pow20 ht hu
  have hB0 : 0 < t ^ u := Nat.pow_pos (by omega)
  have hg : Nat.gcd (cgA u k t) (t ^ u) ≤ t ^ u := Nat.gcd_le_right _ hB0
  have hg0 : 0 < Nat.gcd (cgA u k t) (t ^ u) := Nat.gcd_pos_of_pos_right _ hB0
  have hfin : F_MD_caught_218 v (lN (cgA u k t)) (lN (t ^ u)) σ = some (if v = 0 then lN (cgA u k t / Nat.gcd (cgA u k t) (t ^ u)) else lN (t ^ u / Nat.gcd (cgA u k t) (t ^ u)), σ) := by
    unfold F_MD_caught_218 F_MD_caught_229
    have hne := lN_ne0 hg0 (by omega)
    by_cases hv : v = 0
    · rw [if_pos hv, if_pos hv, gcdM (by omega) (by omega), Option.bind_some, if_neg hne]
      show some (lN (cgA u k t) / lN (Nat.gcd (cgA u k t) (t ^ u)), σ) = _
      rw [pk_lDiv (by omega) hg0 (by omega)]
    · rw [if_neg hv, if_neg hv, gcdM (by omega) (by omega), Option.bind_some, if_neg hne]
      show some (lN (t ^ u) / lN (Nat.gcd (cgA u k t) (t ^ u)), σ) = _
      rw [pk_lDiv (by omega) hg0 (by omega)]
  -- the first loop
  have hz : (if nI k ≤ nI u then (1 : Int64) else 0) = lN (if k ≤ u then 1 else 0) := by
    by_cases h : k ≤ u
    · rw [if_pos (nI_le h (by omega)), if_pos h]; rfl
    · rw [if_neg (nI_ge (by omega) (by omega)), if_neg h]; rfl
  rw [hz]
  unfold F_MD_caught_133 F_MD_caught_141
  refine fix_up (f := G_MD_caught_141 (nI t) (nI k) v (nI u)) (n := u) (fun i => (lN (upP k t (if k ≤ u then 1 else 0) i), lN (t ^ i), nI i, σ)) (by rw [fuel_val]; omega) (fun K i hi => ?_) (fun K => ?_)
  · show H_MD_caught_141 (nI t) (nI k) v (nI u) K (lN (upP k t (if k ≤ u then 1 else 0) i)) (lN (t ^ i)) (nI i) σ = _
    unfold H_MD_caught_141 F_MD_caught_164
    have eu : upP k t (if k ≤ u then 1 else 0) (i + 1) = upP k t (if k ≤ u then 1 else 0) i * (if i < k then 1 else t - 1) := rfl
    rw [if_neg (nI_ge hi (by omega)), eu]
    simp only [Option.bind_some]
    rw [nI_dec (by omega), nI_l (by omega), nI_l (by omega), lN_mul, lN_mul, nI_1, Nat.pow_succ]
    by_cases h : i < k
    · rw [if_neg (nI_ge h (by omega)), if_pos h, show (1 : Int64) = lN 1 from rfl, lN_mul]
    · rw [if_pos (nI_le (by omega) (by omega)), if_neg h]
  · show H_MD_caught_141 (nI t) (nI k) v (nI u) K (lN (upP k t (if k ≤ u then 1 else 0) u)) (lN (t ^ u)) (nI u) σ = _
    unfold H_MD_caught_141
    rw [if_pos (Int32.le_refl _), upP_eq]
    unfold F_MD_caught_183
    by_cases h : k ≤ u
    · rw [if_pos h]
      have hm := pow19 (n := u - k) ht (by omega)
      refine fix_up (f := G_MD_caught_183 (nI k) v (nI u) (lN (t ^ u))) (n := k) (fun i => (lN (cbN u i * (t - 1) ^ (u - k)), nI (1 + i), σ)) (by rw [fuel_val]; omega) (fun K i hi => ?_) (fun K => ?_)
      · show H_MD_caught_183 (nI k) v (nI u) (lN (t ^ u)) K (lN (cbN u i * (t - 1) ^ (u - k))) (nI (1 + i)) σ = _
        have hle := cb_le u (by omega) i (by omega) (by omega)
        have hdv := cb_div u (by omega) i (by omega) (by omega)
        have hm1 := mul35 hle hm
        have hm2 : cbN u i * (t - 1) ^ (u - k) * (u - i) ≤ 31285510865 * 7 := Nat.mul_le_mul hm1 (by omega)
        have hq : cbN u i * (t - 1) ^ (u - k) * (u - i) / (1 + i) = cbN u (i + 1) * (t - 1) ^ (u - k) := by
          rw [show cbN u i * (t - 1) ^ (u - k) * (u - i) = (t - 1) ^ (u - k) * (cbN u i * (u - i)) by rw [Nat.mul_comm (cbN u i), Nat.mul_assoc], Nat.add_comm 1 i, Nat.mul_div_assoc _ (Nat.dvd_of_mod_eq_zero hdv), Nat.mul_comm]
          rfl
        unfold H_MD_caught_183
        rw [if_neg (nI_nlt (by omega) (by omega)), if_neg (nI_nlt h (by omega)), nI_1, pk_sub (show 1 + i ≤ u + 1 by omega), show u + 1 - (1 + i) = u - i by omega, nI_l (by omega), nI_l (by omega), if_neg (fun c => by
          rw [show (0 : Int64) = lN 0 from rfl, pk_lEQ (by omega) (by decide)] at c
          omega), Option.bind_some, lN_mul, pk_lDiv (by omega) (by omega) (by omega), hq, nI_1]
        rfl
      · show H_MD_caught_183 (nI k) v (nI u) (lN (t ^ u)) K (lN (cbN u k * (t - 1) ^ (u - k))) (nI (1 + k)) σ = _
        have ec : cbN u k * (t - 1) ^ (u - k) = cgA u k t := by unfold cgA; rw [if_pos h]
        unfold H_MD_caught_183
        rw [if_pos (nI_lt (by omega) (by omega)), ec, hfin]
    · rw [if_neg h, Nat.zero_mul]
      refine fix_up (f := G_MD_caught_183 (nI k) v (nI u) (lN (t ^ u))) (n := 0) (fun i => (lN 0, nI 1, σ)) (by rw [fuel_val]; omega) (fun K i hi => absurd hi (Nat.not_lt_zero _)) (fun K => ?_)
      show H_MD_caught_183 (nI k) v (nI u) (lN (t ^ u)) K (lN 0) (nI 1) σ = _
      have ec : 0 = cgA u k t := by unfold cgA; rw [if_neg h]
      unfold H_MD_caught_183
      rw [if_neg (nI_nlt (by omega) (by omega)), if_pos (nI_lt (by omega) (by omega)), ec, hfin]
theorem othersM {σ : St} {A : Nt} (hN : NowI σ A) {tk : Nat → Option Nat} (htk : ∀ p, p < nP A → rd σ 73 p = bI (tk p)) (hin : ∀ p d, p < nP A → tk p = some d → d < 14) {v1 v2 v3 : Int32} : F_MD_caught_70 v1 v2 v3 0 0 σ = F_MD_caught_133 v1 v2 v3 (nI (sumN (owN tk A false) (nP A))) (if v2 ≤ nI (sumN (owN tk A false) (nP A)) then 1 else 0) σ := by
  have hO := hN.1
  have hP := hO.P
  have e10 : rd σ 58 10 = nI (nP A) := hN.2.2.2.1.1.2.1
  unfold F_MD_caught_70
  refine fix_up (f := G_MD_caught_70 v1 v2 v3) (n := nP A) (fun k => (nI (sumN (owN tk A false) k), nI k, σ)) (by rw [fuel_val]; omega) (fun K k hk => ?_) (fun K => ?_)
  · show H_MD_caught_70 v1 v2 v3 K (nI (sumN (owN tk A false) k)) (nI k) σ = _
    have e5 : rd σ 64 k = nI (nDi A k) := (hN.2.2.2.1.1.2.2.2 k hk).2.2.1
    have hdi := (hO.2.2.2.1 k hk).2.2.1
    have l73 : ldA σ 73 (nI k) = some (bI (tk k)) := by rw [ldk al_73 (by omega), htk k hk]
    have l64 : ldA σ 64 (nI k) = some (nI (nDi A k)) := by rw [ldk al_64 (by omega), e5]
    unfold H_MD_caught_70 F_MD_caught_112 F_MD_caught_113
    rw [e10, if_neg (nI_ge hk (by omega))]
    simp only [Option.bind_some, l73, l64]
    have es : sumN (owN tk A false) (k + 1) = sumN (owN tk A false) k + owN tk A false k := rfl
    rw [es, nI_1, nI_1, Int32.add_zero]
    unfold owN
    cases e : tk k with
    | none => rw [if_pos (by decide)]; rfl
    | some d =>
      have hd := hin k d hk e
      rw [if_neg (show ¬ bI (some d) < 0 from nI_pos (by omega))]
      by_cases g : d = nDi A k
      · rw [if_pos (show bI (some d) = nI (nDi A k) by rw [g]; rfl)]
        simp only [decide_eq_true g, Bool.true_eq_false, if_false, Nat.add_zero]
      · rw [if_neg (show ¬ bI (some d) = nI (nDi A k) from fun c => g (nI_inj (by omega) (by omega) c))]
        simp only [decide_eq_false g, if_true]
  · show H_MD_caught_70 v1 v2 v3 K (nI (sumN (owN tk A false) (nP A))) (nI (nP A)) σ = _
    unfold H_MD_caught_70
    rw [e10, if_pos (Int32.le_refl _)]
    split <;> rfl
theorem AskL.q {σ : St} {f g : St → Option (Int64 × St)} {A : Nt} (hall : NowI σ A ∧ ChI σ A ∧ LetI σ ∧ RowI σ ∧ RefI σ ∧ ImgI σ) {r : Int64} {s1 s2 : St} (h1 : f σ = some (r, s1)) (h2 : g s1 = some (r, s2)) (hq : Qf (nD A) σ s2) : ∃ r σ1 σ2, f σ = some (r, σ1) ∧ g σ1 = some (r, σ2) ∧ INV σ2 := ⟨r, s1, s2, h1, h2, INV.q hall hq⟩
theorem op_caught (a b c : Int32) : AskL (F_AC_caught a b c) (F_MD_caught a b c) := by
  intro σ h
  obtain ⟨A, hall⟩ := id h
  have hN := hall.1
  have hO := hN.1
  have hP := hO.P
  have i0 : (0 : Int32).toInt = 0 := by decide
  have i2 : (2 : Int32).toInt = 2 := by decide
  have i20 : (20 : Int32).toInt = 20 := by decide
  have i7 : (7 : Int32).toInt = 7 := by decide
  by_cases c1 : a < 2
  · refine AskL.no h (k := 4) (x := -4) (by decide) (by decide) ?_ (fun τ hτ => ?_)
    · unfold F_AC_caught F_AC_caught_9
      rw [if_pos c1, bid]
    · unfold F_MD_caught F_MD_caught_9 F_MD_caught_46
      rw [if_pos c1, if_neg (by decide), bid]
  by_cases c2' : ¬ 0 ≤ b
  · have c2 := c2'
    refine AskL.no h (k := 4) (x := -4) (by decide) (by decide) ?_ (fun τ hτ => ?_)
    · unfold F_AC_caught F_AC_caught_9
      rw [if_neg c1, if_neg c2, bid]
    · unfold F_MD_caught F_MD_caught_9 F_MD_caught_46
      rw [if_neg c1, if_neg c2, if_neg (by decide), bid]
  have c2 : 0 ≤ b := Decidable.not_not.mp c2'
  by_cases c3 : 20 < a
  · refine AskL.no h (k := 6) (x := -6) (by decide) (by decide) ?_ (fun τ hτ => ?_)
    · unfold F_AC_caught F_AC_caught_28
      rw [if_neg c1, if_pos c2, if_pos c3, bid]
    · unfold F_MD_caught F_MD_caught_26 F_MD_caught_46
      rw [if_neg c1, if_pos c2, if_pos c3, if_neg (by decide), bid]
  by_cases c4' : ¬ b ≤ 7
  · have c4 := c4'
    refine AskL.no h (k := 6) (x := -6) (by decide) (by decide) ?_ (fun τ hτ => ?_)
    · unfold F_AC_caught F_AC_caught_28
      rw [if_neg c1, if_pos c2, if_neg c3, if_neg c4, bid]
    · unfold F_MD_caught F_MD_caught_26 F_MD_caught_46
      rw [if_neg c1, if_pos c2, if_neg c3, if_neg c4, if_neg (by decide), bid]
  have c4 : b ≤ 7 := Decidable.not_not.mp c4'
  rcases (isIn_01 (σ := σ) (b := c)).symm with ⟨hb, _⟩ | ⟨hb, _⟩
  · refine AskL.no h (k := 2) (x := -2) (by decide) (by decide) ?_ (fun τ hτ => ?_)
    · unfold F_AC_caught F_AC_caught_44
      rw [if_neg c1, if_pos c2, if_neg c3, if_pos c4, out_01 hb, bid]
    · unfold F_MD_caught F_MD_caught_46
      rw [if_neg c1, if_pos c2, if_neg c3, if_pos c4, show (1 : Int32) = nI 1 from rfl, isIn_out (m := 1) (by decide) hb, Option.bind_some]
      simp only [if_true]
      rw [if_neg (by decide), bid]
  obtain ⟨t, ht, rfl⟩ := nI_of (x := a) (fun q => by rw [fa_lt] at q c1; omega)
  obtain ⟨k, hk, rfl⟩ := nI_of (x := b) (fun q => by rw [fa_lt] at q; rw [fa_le] at c2; omega)
  have ht2 : 2 ≤ t := by
    rw [fa_lt, nI_toInt ht] at c1
    omega
  have ht20 : t ≤ 20 := by
    rw [fa_lt, nI_toInt ht] at c3
    omega
  have hk7 : k ≤ 7 := by
    rw [fa_le, nI_toInt hk] at c4
    omega
  obtain ⟨s1, a1, a2, hN1, a3, a4⟩ := todayC hN
  have hin : ∀ p d, p < nP A → tkO (prA 7 A) (nOd A) 0 p = some d → d < 14 := fun p d _ e => by
    have : d < nD A := tkO_in e
    have := hO.D
    omega
  have b1 := ownersC (P := nP A) (mo := 40) (tk := tkO (prA 7 A) (nOd A) 0) isMO_40 hO hN1.2.2.1 a4.1 (fun p hp => (a4.2.2.2.2 p hp).1) hin false
  obtain ⟨s2, d1, d2, hN2, d3, d4⟩ := todayM hN1
  have e1 := othersM hN2 d4 hin (v1 := nI t) (v2 := nI k) (v3 := c)
  have hu7 : sumN (owN (tkO (prA 7 A) (nOd A) 0) A false) (nP A) ≤ 7 := by
    have := sumN_le (n := nP A) (f := owN (tkO (prA 7 A) (nOd A) 0) A false) (b := 1) (fun k _ => owN_le _ _ _ _)
    omega
  generalize sumN (owN (tkO (prA 7 A) (nOd A) 0) A false) (nP A) = u at b1 e1 hu7
  have hA := cgA_le hu7 hk7 ht20
  have hB := pow20 ht20 hu7
  have hB0 : 0 < t ^ u := Nat.pow_pos (by omega)
  have hg : Nat.gcd (t ^ u) (cgA u k t) ≤ t ^ u := Nat.gcd_le_left _ hB0
  have hg0 : 0 < Nat.gcd (t ^ u) (cgA u k t) := Nat.gcd_pos_of_pos_left _ hB0
  refine AskL.q hall (r := if c = 0 then lN (cgA u k t / Nat.gcd (cgA u k t) (t ^ u)) else lN (t ^ u / Nat.gcd (cgA u k t) (t ^ u))) (s1 := s1) (s2 := s2) ?_ ?_ ((Qf.of a2 (by decide)).tr (Qf.of d2 (by decide)))
  · unfold F_AC_caught F_AC_caught_115
    rw [if_neg c1, if_pos c2, if_neg c3, if_pos c4, in_01 hb, a1, Option.bind_some, show F_MO_owners 40 1 0 s1 = _ from b1, Option.bind_some]
    simp only
    rw [waysC hu7 hk7 ht2 ht20, Option.bind_some]
    simp only
    rw [powC (by omega) (by omega), Option.bind_some]
    simp only
    rw [gcdC (by omega) (by omega), Option.bind_some]
    simp only
    have hg0' : 0 < Nat.gcd (cgA u k t) (t ^ u) := by rw [Nat.gcd_comm]; exact hg0
    have hg' : Nat.gcd (cgA u k t) (t ^ u) ≤ t ^ u := by rw [Nat.gcd_comm]; exact hg
    have hne := lN_ne0 hg0' (by omega)
    rw [Nat.gcd_comm (t ^ u)]
    rw [if_pos ((lg_cmp_gt _ _).mpr (by rw [show (0 : Int64) = lN 0 from rfl, pk_lLT (by decide) (by omega)]; exact hg0'))]
    by_cases hv : c = 0
    · rw [if_pos hv, if_pos hv, if_neg hne, pk_lDiv (by omega) hg0' (by omega)]
    · rw [if_neg hv, if_neg hv, if_neg hne, pk_lDiv (by omega) hg0' (by omega)]
  · have hin : F_MD_isIn c 0 1 s1 = some (1, s1) := by
      rcases isIn_01 (σ := s1) (b := c) with ⟨_, e⟩ | ⟨hb2, _⟩
      · exact e
      · exfalso; rcases hb with rfl | rfl <;> revert hb2 <;> decide
    unfold F_MD_caught F_MD_caught_46
    rw [if_neg c1, if_pos c2, if_neg c3, if_pos c4, hin, Option.bind_some]
    simp only [one0, if_false, if_true]
    rw [d1, Option.bind_some, e1, caughtM2 hu7 hk7 ht2 ht20]
