-- bestOrder, even, fits
def scN (A : Nt) (e : Bool) (od : Nat → Nat) : Nat := if e = true then mxN (moO (prA 7 A) od 0) (nP A) else allO (prA 7 A) od 0
def sqN (A : Nt) (e : Bool) (n : Nat) : Nat := scN A e (dgN (nP A) (lnN (nP A) n))
def svI (e : Bool) : Int32 := if e = true then 1 else 0
def brM (w : Nat → Nat) (o : Option Nat) : Int32 := match o with | none => 1000000000 | some b => nI (w b)
theorem scN_le {A : Nt} (hO : OkN A) (e : Bool) (od : Nat → Nat) : scN A e od ≤ 546 := by
  unfold scN
  split
  · have := mxN_le (m := moO (prA 7 A) od 0) (b := 78) (n := nP A) (fun j hj => moO_le (prA_ok hO 7) hj)
    omega
  · exact allO_le (prA_ok hO 7)
theorem bestN_t0 {w : Nat → Nat} {n : Nat} (h : bestN (fun _ => true) w n = none) : n = 0 := by
  cases n with
  | zero => rfl
  | succ n => exact absurd ((bestN_spec (m := fun _ => true) (c := w) (k := n + 1)).2 h 0 (Nat.succ_pos _)) (by decide)
theorem bestN_t1 {w : Nat → Nat} : bestN (fun _ => true) w (0 + 1) = some 0 := rfl
theorem notFewM {s : St} {A : Nt} (hM : MdN s A 7) (hP : nP A ≤ 7) (a : Int32) : F_MD_notFew a s = some (if nP A ≤ 5 then (if (-1 : Int32) ≤ a then 0 else -4) else -3, s) := by
  unfold F_MD_notFew
  rw [show rd s 58 10 = nI (nP A) from hM.1.2.1]
  by_cases c : nP A ≤ 5
  · rw [if_pos (show nI (nP A) ≤ (5 : Int32) from nI_le c (by decide)), if_pos c]
    split <;> rfl
  · rw [if_neg (show ¬ nI (nP A) ≤ (5 : Int32) from nI_ge (a := 5) (by omega) (by omega)), if_neg c]
theorem a_cases {a : Int32} (h : (-1 : Int32) ≤ a) : a = -1 ∨ ∃ i, i < 2 ^ 31 ∧ a = nI i := by
  by_cases c : 0 ≤ a
  · right
    obtain ⟨i, hi, e⟩ := nI_of (show ¬ a < 0 from fun q => Int32.lt_irrefl (Int32.lt_of_lt_of_le q c))
    exact ⟨i, hi, e⟩
  · left
    have h1 := (fa_le _ _).mp h
    have h2 : ¬ (0 : Int32).toInt ≤ a.toInt := fun q => c ((fa_le _ _).mpr q)
    have h3 : (-1 : Int32).toInt = -1 := by decide
    have h4 : (0 : Int32).toInt = 0 := by decide
    exact Int32.toInt_inj.mp (by omega)
theorem soughtC {σ : St} {A : Nt} (hN : NowI σ A) (hP5 : nP A ≤ 5) (e : Bool) {a : Int32} (ha : a = -1 ∨ ∃ i, i < 2 ^ 31 ∧ a = nI i) {b : Nat} (hb : bestN (fun _ => true) (sqN A e) (orM (nP A)) = some b) : ∃ s, ((F_PR_fill 36 1 σ).bind fun s1 => (F_OR_begin (rd s1 1 1) s1).bind fun s2 => F_AC_soughtOrder_61 a (svI e) (1000000 : Int32) (0 : Int32) s2) = some (rsF a (nP A) (sqN A e b) (dgN (nP A) (lnN (nP A) b)), s) ∧ Qf (nD A) σ s ∧ NowI s A := by
  have hO := hN.1
  obtain ⟨P, hPe⟩ : ∃ P, P = nP A := ⟨_, rfl⟩
  obtain ⟨sq, hsq⟩ : ∃ w : Nat → Nat, w = sqN A e := ⟨_, rfl⟩
  rw [← hPe] at hP5 hb ⊢
  rw [← hsq] at hb ⊢
  obtain ⟨p1, p2, p3, p4, p5, p6⟩ := orL_facts hP5
  have hsl : ∀ n, sq n ≤ 546 := fun n => by rw [hsq]; exact scN_le hO e _
  obtain ⟨s1, a1, a2, hN1, a3⟩ := fillN hN
  obtain ⟨s2, b1, b2, b3, b4, b5⟩ := beginC (s := s1) (P := P) (by omega)
  have hN2 := hN1.q (Qf.of b2 (by decide))
  have hp2 : PrC s2 36 (prA 7 A) := a3.fr b2 (by decide) (by decide)
  have hq2 : Qf (nD A) σ s2 := (Qf.of a2 (by decide)).tr (Qf.of b2 (by decide))
  have one : ∀ n s, n < orM P → NowI s A → PrC s 36 (prA 7 A) → rd s 51 0 = nI P → (∀ j, j < P → rd s 52 j = nI (dgN P (lnN P n) j)) → (∀ c, bestN (fun _ => true) sq n = some c → rd s 51 1 = nI P ∧ ∀ j, j < P → rd s 53 j = nI (dgN P (lnN P c) j)) → Qf (nD A) σ s → ∃ t, NowI t A ∧ PrC t 36 (prA 7 A) ∧ rd t 51 0 = nI P ∧ (∀ j, j < P → rd t 52 j = nI (dgN P (lnN P n) j)) ∧ (∀ c, bestN (fun _ => true) sq (n + 1) = some c → rd t 51 1 = nI P ∧ ∀ j, j < P → rd t 53 j = nI (dgN P (lnN P c) j)) ∧ Qf (nD A) σ t ∧ ∀ K, H_AC_soughtOrder_61 a (svI e) K (nI (brV sq (bestN (fun _ => true) sq n))) (nI n) s = F_AC_soughtOrder_132 K a (svI e) (nI (brV sq (bestN (fun _ => true) sq (n + 1)))) (nI n) t := by
    intro n s hn hNs hps h51 h52 hk hqs
    have ho : OdOK (nP A) (dgN P (lnN P n)) := by rw [← hPe]; exact p4 n hn
    obtain ⟨t, c1, c2, hNt, hpt, c3⟩ := holdOrdC hNs hps ho (fun j hj => h52 j (by omega))
    have hqt : Qf (nD A) σ t := hqs.tr (Qf.of c2 (by decide))
    have hsc : ∀ (R : Int32 → St → Option (Int32 × St)), (if svI e = 0 then R (rd t 43 4) t else (F_MO_most 43 t).bind fun o8 => R o8.1 o8.2) = R (nI (sq n)) t := by
      intro R
      rw [hsq]
      unfold sqN scN svI
      rw [← hPe]
      cases e with
      | false =>
        rw [if_pos (show (if false = true then (1 : Int32) else 0) = 0 from rfl), if_neg (show ¬ false = true by decide)]
        rw [show rd t 43 4 = _ from c3.2.2.1]
      | true =>
        rw [if_neg (show ¬ (if true = true then (1 : Int32) else 0) = 0 by decide), if_pos rfl, mostC hO c3, Option.bind_some]
        rw [← hPe]
    have hH : ∀ K, H_AC_soughtOrder_61 a (svI e) K (nI (brV sq (bestN (fun _ => true) sq n))) (nI n) s = F_AC_soughtOrder_114 K a (svI e) (nI (brV sq (bestN (fun _ => true) sq n))) (nI n) (nI (sq n)) t := fun K => by
      unfold H_AC_soughtOrder_61
      rw [if_neg (show ¬ (120 : Int32) ≤ nI n from nI_ge (b := 120) (by omega) (by decide)), allDeedsC hNs.2.2.1 hO, Option.bind_some]
      simp only
      rw [c1, Option.bind_some]
      exact hsc (fun z u => F_AC_soughtOrder_114 K a (svI e) (nI (brV sq (bestN (fun _ => true) sq n))) (nI n) z u)
    have hsn := hsl n
    have t51 : rd t 51 0 = nI P := by rw [c2.at (by decide)]; exact h51
    have t52 : ∀ j, j < P → rd t 52 j = nI (dgN P (lnN P n) j) := fun j hj => by rw [c2.at (by decide)]; exact h52 j hj
    obtain ⟨u, d1, d2, d3, d4, d5⟩ := keepC (s := t) t51
    have hNu := hNt.q (Qf.of d2 (by decide))
    have u52 : ∀ j, j < P → rd u 52 j = nI (dgN P (lnN P n) j) := fun j hj => by rw [d2.at (by decide)]; exact t52 j hj
    have u53 : ∀ j, j < P → rd u 53 j = nI (dgN P (lnN P n) j) := fun j hj => by rw [d5 j (by omega)]; exact t52 j hj
    have kept : bestN (fun _ => true) sq (n + 1) = some n → ¬ nI (brV sq (bestN (fun _ => true) sq n)) ≤ nI (sq n) → ∃ t, NowI t A ∧ PrC t 36 (prA 7 A) ∧ rd t 51 0 = nI P ∧ (∀ j, j < P → rd t 52 j = nI (dgN P (lnN P n) j)) ∧ (∀ c, bestN (fun _ => true) sq (n + 1) = some c → rd t 51 1 = nI P ∧ ∀ j, j < P → rd t 53 j = nI (dgN P (lnN P c) j)) ∧ Qf (nD A) σ t ∧ ∀ K, H_AC_soughtOrder_61 a (svI e) K (nI (brV sq (bestN (fun _ => true) sq n))) (nI n) s = F_AC_soughtOrder_132 K a (svI e) (nI (brV sq (bestN (fun _ => true) sq (n + 1)))) (nI n) t := fun hbn hle => by
      refine ⟨u, hNu, hpt.fr d2 (by decide) (by decide), d3, u52, fun c hc => ?_, hqt.tr (Qf.of d2 (by decide)), fun K => ?_⟩
      · rw [hbn] at hc
        cases hc
        exact ⟨d4, u53⟩
      · rw [hH K, hbn]
        unfold F_AC_soughtOrder_114
        rw [if_neg hle, d1, Option.bind_some]
        rfl
    cases hB : bestN (fun _ => true) sq n with
    | none =>
      have hn0 := bestN_t0 hB
      have := kept (by subst hn0; rfl) (by rw [hB]; exact nI_ge (b := 1000000) (by omega) (by decide))
      rw [hB] at this
      exact this
    | some q =>
      by_cases g : sq n < sq q
      · have := kept (by rw [brule_s hB, if_pos g]) (by rw [hB]; exact nI_ge g (show sq q < 2 ^ 31 by have := hsl q; omega))
        rw [hB] at this
        exact this
      · have hbn : bestN (fun _ => true) sq (n + 1) = some q := by rw [brule_s hB, if_neg g]
        refine ⟨t, hNt, hpt, t51, t52, fun c hc => ?_, hqt, fun K => ?_⟩
        · rw [hbn] at hc
          cases hc
          obtain ⟨k1, k2⟩ := hk q hB
          exact ⟨by rw [c2.at (by decide)]; exact k1, fun j hj => by rw [c2.at (by decide)]; exact k2 j hj⟩
        · have := hH K
          rw [hB] at this
          rw [this, hbn]
          unfold F_AC_soughtOrder_114
          rw [if_pos (show nI (brV sq (some q)) ≤ nI (sq n) from nI_le (by show sq q ≤ sq n; omega) (by omega))]
  have hlt : ∀ n, n < orM P → ∀ k, k < P → dgN P (lnN P n) k < P := fun n hn k hk => (p4 n hn).1 k hk
  have hfin := fix_inv (f := G_AC_soughtOrder_61 a (svI e)) (n := orM P - 1) (s0 := (1000000, 0, s2)) (fun n q => q.1 = nI (brV sq (bestN (fun _ => true) sq n)) ∧ q.2.1 = nI n ∧ NowI q.2.2 A ∧ PrC q.2.2 36 (prA 7 A) ∧ rd q.2.2 51 0 = nI P ∧ (∀ j, j < P → rd q.2.2 52 j = nI (dgN P (lnN P n) j)) ∧ (∀ c, bestN (fun _ => true) sq n = some c → rd q.2.2 51 1 = nI P ∧ ∀ j, j < P → rd q.2.2 53 j = nI (dgN P (lnN P c) j)) ∧ Qf (nD A) σ q.2.2) (fun o => ∃ s, o = some (rsF a P (sq b) (dgN P (lnN P b)), s) ∧ Qf (nD A) σ s ∧ NowI s A) (by rw [fuel_val]; omega) ⟨rfl, rfl, hN2, hp2, b3, fun j hj => by rw [b5 j (by omega), p3 j hj], fun c hc => (by cases hc), hq2⟩ (by
    rintro n ⟨v3, v4, s⟩ hn ⟨e1, e2, hNs, hps, h51, h52, hk, hqs⟩
    simp only at e1 e2 hNs hps h51 h52 hk hqs
    subst e1; subst e2
    left
    obtain ⟨t, c1, c2, c3, c4, c5, c6, c7⟩ := one n s (by omega) hNs hps h51 h52 hk hqs
    obtain ⟨g, hg1, hg2⟩ := p5 n (by omega)
    rcases stepC hP5 c3 c4 (hlt n (by omega)) with ⟨x, _⟩ | ⟨g', u, x, d1, d2, d3⟩
    · rw [hg1] at x; cases x
    · rw [hg1] at x
      cases x
      refine ⟨(nI (brV sq (bestN (fun _ => true) sq (n + 1))), nI (n + 1), u), ⟨rfl, rfl, c1.q (Qf.of d2 (by decide)), c2.fr d2 (by decide) (by decide), by rw [d2.at (by decide)]; exact c3, fun j hj => by rw [d3 j hj, hg2 j hj], fun c hc => ?_, c6.tr (Qf.of d2 (by decide))⟩, fun K => ?_⟩
      · obtain ⟨k1, k2⟩ := c5 c hc
        exact ⟨by rw [d2.at (by decide)]; exact k1, fun j hj => by rw [d2.at (by decide)]; exact k2 j hj⟩
      · show H_AC_soughtOrder_61 a (svI e) K _ (nI n) s = _
        rw [c7 K]
        unfold F_AC_soughtOrder_132
        rw [d1, Option.bind_some, if_neg (show ¬ (1 : Int32) = 0 by decide), nI_1]) (by
    rintro ⟨v3, v4, s⟩ ⟨e1, e2, hNs, hps, h51, h52, hk, hqs⟩
    simp only at e1 e2 hNs hps h51 h52 hk hqs
    subst e1; subst e2
    obtain ⟨t, c1, c2, c3, c4, c5, c6, c7⟩ := one (orM P - 1) s (by omega) hNs hps h51 h52 hk hqs
    have hnn := p6 (orM P - 1) (by omega)
    have hbb : bestN (fun _ => true) sq (orM P - 1 + 1) = some b := by rw [show orM P - 1 + 1 = orM P by omega]; exact hb
    refine ⟨_, ⟨t, rfl, c6, c1⟩, fun K => ?_⟩
    show H_AC_soughtOrder_61 a (svI e) K _ (nI (orM P - 1)) s = _
    rw [c7 K]
    obtain ⟨k1, k2⟩ := c5 b hbb
    rcases stepC hP5 c3 c4 (hlt (orM P - 1) (by omega)) with ⟨x, d1⟩ | ⟨g', u, x, _⟩
    · unfold F_AC_soughtOrder_132 F_AC_soughtOrder_151
      rw [d1, Option.bind_some, if_pos rfl, hbb]
      rcases ha with rfl | ⟨i, hi, rfl⟩
      · rw [if_pos rfl, rsF_1]
        rfl
      · rw [if_neg (n1_ne hi), keptAtC hi (by omega) k1 k2, Option.bind_some, rsF_n hi]
    · rw [hnn] at x; cases x)
  obtain ⟨s, h1, h2, h3⟩ := hfin
  refine ⟨s, ?_, h2, h3⟩
  rw [a1, Option.bind_some, show rd s1 1 1 = nI P by rw [hPe]; exact hN1.2.2.1.2.1, b1, Option.bind_some]
  exact h1
theorem findOrdM {σ : St} {A : Nt} (hN : NowI σ A) (hP5 : nP A ≤ 5) (e : Bool) {b : Nat} (hb : bestN (fun _ => true) (sqN A e) (orM (nP A)) = some b) : ∃ s, F_MD_findOrder (svI e) σ = some s ∧ Qf (nD A) σ s ∧ NowI s A ∧ rd s 58 33 = nI (sqN A e b) ∧ ∀ j, j < nP A → rd s 80 j = nI (dgN (nP A) (lnN (nP A) b) j) := by
  have hO := hN.1
  obtain ⟨P, hPe⟩ : ∃ P, P = nP A := ⟨_, rfl⟩
  obtain ⟨sq, hsq⟩ : ∃ w : Nat → Nat, w = sqN A e := ⟨_, rfl⟩
  rw [← hPe] at hP5 hb ⊢
  rw [← hsq] at hb ⊢
  obtain ⟨p1, p2, p3, p4, p5, p6⟩ := orL_facts hP5
  have hsl : ∀ n, sq n ≤ 546 := fun n => by rw [hsq]; exact scN_le hO e _
  have hpp := pow_le3125 P hP5
  have q0 : Qf (nD A) σ (wr σ 58 33 1000000000) := fun b j q => by rw [rd_wr, if_neg (fun c => q (by unfold Qd; omega))]
  obtain ⟨⟨w, s⟩, ⟨hw, hNs, hqs, h33, h80⟩, hr⟩ := fix_rel (f := G_MD_findOrder_8 (svI e)) (n := P ^ P) (s0 := (nI 0, wr σ 58 33 1000000000)) (fun k q => q.1 = nI k ∧ NowI q.2 A ∧ Qf (nD A) σ q.2 ∧ rd q.2 58 33 = brM sq (bestN (fun _ => true) sq (vcN P k)) ∧ ∀ c, bestN (fun _ => true) sq (vcN P k) = some c → ∀ j, j < P → rd q.2 80 j = nI (dgN P (lnN P c) j)) (by rw [fuel_val]; omega) ⟨rfl, hN.q q0, q0, rd_wr_same _ _ _ _, fun c hc => (by cases hc)⟩ (by
    rintro k ⟨w, s⟩ hk ⟨hw, hNs, hqs, h33, h80⟩
    simp only at hw hNs hqs h33 h80
    subst hw
    have hMs := hNs.2.2.2.1
    have hnum := numbersM hMs (by omega)
    rw [← hPe] at hnum
    obtain ⟨t, a1, a2, a3⟩ := laysM hMs (by omega) (k := k) (by omega)
    rw [← hPe] at a1 a3
    have hNt := hNs.q (Qf.of a2 (by decide))
    have hqt : Qf (nD A) σ t := hqs.tr (Qf.of a2 (by decide))
    have hst := vcN_s P k
    cases hv : vaB P k with
    | false =>
      rw [hv, if_neg (by decide)] at hst
      refine ⟨(nI (k + 1), t), ⟨rfl, hNt, hqt, ?_, fun c hc j hj => ?_⟩, fun K => ?_⟩
      · show rd t 58 33 = _
        rw [a2.at (by decide), hst]; exact h33
      · rw [hst] at hc
        show rd t 80 j = _
        rw [a2.at (by decide)]; exact h80 c hc j hj
      · show H_MD_findOrder_8 (svI e) K (nI k) s = _
        unfold H_MD_findOrder_8 F_MD_findOrder_60
        rw [hnum, Option.bind_some]
        simp only
        rw [if_neg (nI_ge hk (by omega)), a1, hv, Option.bind_some, if_pos (show zI false = 0 from rfl), nI_1]
    | true =>
      rw [hv, if_pos rfl] at hst
      obtain ⟨hl, hvm⟩ := vcN_at hv hk
      obtain ⟨m, hm⟩ : ∃ m, m = vcN P k := ⟨_, rfl⟩
      rw [← hm] at hl hvm hst h33 h80
      have ho : OdOK (nP A) (dgN P k) := by rw [← hPe, ← hl]; exact p4 m hvm
      obtain ⟨u, c1, c2, hNu, c3⟩ := goByN hNt ho (fun j hj => a3 j (by omega))
      have hqu : Qf (nD A) σ u := hqt.tr (Qf.of c2 (by decide))
      have esq : sq m = scN A e (dgN P k) := by
        rw [hsq]; unfold sqN
        rw [← hPe, hl]
      have hsc : ∀ (R : Int32 → St → Option St), (if svI e = 0 then (F_MD_allMonths u).bind fun o5 => R o5.1 o5.2 else (F_MD_greatest u).bind fun o7 => R o7.1 o7.2) = R (nI (sq m)) u := by
        intro R
        rw [esq]
        unfold scN svI
        cases e with
        | false =>
          rw [if_pos (show (if false = true then (1 : Int32) else 0) = 0 from rfl), if_neg (show ¬ false = true by decide), allMonthsM' hNu.2.2.2.1 hO c3, Option.bind_some]
        | true =>
          rw [if_neg (show ¬ (if true = true then (1 : Int32) else 0) = 0 by decide), if_pos rfl, greatestM hNu c3, Option.bind_some]
      have hH : ∀ K, H_MD_findOrder_8 (svI e) K (nI k) s = F_MD_findOrder_46 K (svI e) (nI k) (nI (sq m)) u := fun K => by
        unfold H_MD_findOrder_8
        rw [hnum, Option.bind_some]
        simp only
        rw [if_neg (nI_ge hk (by omega)), a1, hv, Option.bind_some, if_neg (show ¬ zI true = 0 by decide)]
        simp only
        rw [c1, Option.bind_some]
        exact hsc (fun z x => F_MD_findOrder_46 K (svI e) (nI k) z x)
      have u33 : rd u 58 33 = brM sq (bestN (fun _ => true) sq m) := by rw [c2.at (by decide), a2.at (by decide)]; exact h33
      have hsm := hsl m
      obtain ⟨x, d1, d2, d3, d4⟩ := keepsM hNu.2.2.2.1 (by omega) (nI (sq m))
      have qx : Qf (nD A) u x := fun b j q => d4 b j (fun c => q (by unfold Qd; omega))
      have kept : bestN (fun _ => true) sq (m + 1) = some m → ¬ rd u 58 33 ≤ nI (sq m) → ∃ s', ((fun k q => q.1 = nI k ∧ NowI q.2 A ∧ Qf (nD A) σ q.2 ∧ rd q.2 58 33 = brM sq (bestN (fun _ => true) sq (vcN P k)) ∧ ∀ c, bestN (fun _ => true) sq (vcN P k) = some c → ∀ j, j < P → rd q.2 80 j = nI (dgN P (lnN P c) j)) : Nat → Int32 × St → Prop) (k + 1) s' ∧ ∀ K, G_MD_findOrder_8 (svI e) K (nI k, s) = K s' := fun hbn hle => by
        refine ⟨(nI (k + 1), x), ⟨rfl, hNu.q qx, hqu.tr qx, ?_, fun c hc j hj => ?_⟩, fun K => ?_⟩
        · show rd x 58 33 = _
          rw [hst, hbn]; exact d2
        · rw [hst, hbn] at hc
          cases hc
          show rd x 80 j = _
          rw [d3 j (by omega), c2.at (by decide), a3 j hj, hl]
        · show H_MD_findOrder_8 (svI e) K (nI k) s = _
          rw [hH K]
          unfold F_MD_findOrder_46 F_MD_findOrder_60
          rw [if_neg hle, d1, Option.bind_some, nI_1]
      cases hB : bestN (fun _ => true) sq m with
      | none =>
        have hn0 := bestN_t0 hB
        exact kept (by rw [hn0]; rfl) (by rw [u33, hB]; exact nI_ge (b := 1000000000) (by omega) (by decide))
      | some q =>
        by_cases g : sq m < sq q
        · exact kept (by rw [brule_s hB, if_pos g]) (by rw [u33, hB]; exact nI_ge g (by have := hsl q; omega))
        · have hbn : bestN (fun _ => true) sq (m + 1) = some q := by rw [brule_s hB, if_neg g]
          refine ⟨(nI (k + 1), u), ⟨rfl, hNu, hqu, ?_, fun c hc j hj => ?_⟩, fun K => ?_⟩
          · show rd u 58 33 = _
            rw [u33, hst, hbn, hB]
          · rw [hst, hbn] at hc
            cases hc
            show rd u 80 j = _
            rw [c2.at (by decide), a2.at (by decide)]; exact h80 q hB j hj
          · show H_MD_findOrder_8 (svI e) K (nI k) s = _
            rw [hH K]
            unfold F_MD_findOrder_46 F_MD_findOrder_60
            rw [u33, hB, if_pos (show brM sq (some q) ≤ nI (sq m) from nI_le (by omega) (by omega)), nI_1])
  simp only at hw hNs hqs h33 h80
  have hvo : vcN P (P ^ P) = orM P := rfl
  rw [hvo, hb] at h33 h80
  refine ⟨s, ?_, hqs, hNs, h33, h80 b rfl⟩
  unfold F_MD_findOrder F_MD_findOrder_8
  rw [Option.bind_some]
  refine hr _ (fun K => ?_)
  show H_MD_findOrder_8 (svI e) K w s = _
  have hnum := numbersM hNs.2.2.2.1 (by omega)
  rw [← hPe] at hnum
  unfold H_MD_findOrder_8
  rw [hw, hnum, Option.bind_some]
  simp only
  rw [if_pos (Int32.le_refl _)]
theorem op_sought (e : Bool) (a : Int32) (f g : St → Option (Int32 × St)) (hf : ∀ s, f s = F_AC_soughtOrder a (svI e) s) (hg : ∀ s, g s = (F_MD_notFew a s).bind fun o1 => if o1.1 = 0 then ((F_MD_findOrder (svI e) o1.2).bind fun s2 => (F_MD_foundOr a s2).bind fun o3 => some (o3.1, o3.2)) else ((F_MD_no o1.1 o1.2).bind fun o4 => some (o4.1, o4.2))) : Ask f g := by
  intro σ h
  obtain ⟨A, hall⟩ := id h
  have hN := hall.1
  have hO := hN.1
  have hP := hO.P
  have hnf := fun τ (hτ : ∀ b j, b ≠ 57 → rd τ b j = rd σ b j) => notFewM (s := τ) (A := A) (hN.un (fun b j q => hτ b j (by omega))).2.2.2.1 hP a
  by_cases c5 : nP A ≤ 5
  · by_cases ca : (-1 : Int32) ≤ a
    · have hb : ∃ b, bestN (fun _ => true) (sqN A e) (orM (nP A)) = some b := by
        cases hB : bestN (fun _ => true) (sqN A e) (orM (nP A)) with
        | none => have := bestN_t0 hB; have := (orL_facts c5).1; omega
        | some b => exact ⟨b, rfl⟩
      obtain ⟨b, hb⟩ := hb
      have ha := a_cases ca
      obtain ⟨s1, a1, a2, hN1⟩ := soughtC hN c5 e ha hb
      obtain ⟨s2, b1, b2, hN2, b3, b4⟩ := findOrdM hN1 c5 e hb
      refine ⟨rsF a (nP A) (sqN A e b) (dgN (nP A) (lnN (nP A) b)), s1, s2, ?_, ?_, INV.q hall (a2.tr b2)⟩
      · rw [hf]
        unfold F_AC_soughtOrder
        rw [show rd σ 1 1 = nI (nP A) from hN.2.2.1.2.1, if_pos (show nI (nP A) ≤ (5 : Int32) from nI_le c5 (by decide)), if_pos ca]
        exact a1
      · rw [hg, notFewM hN1.2.2.2.1 hP a, Option.bind_some]
        simp only
        rw [if_pos c5, if_pos ca, if_pos rfl, b1, Option.bind_some]
        rcases ha with rfl | ⟨i, hi, rfl⟩
        · unfold F_MD_foundOr
          rw [if_neg (show ¬ (0 : Int32) ≤ -1 by decide), Option.bind_some, rsF_1, b3]
        · rw [foundOrM hN2.2.2.2.1 hP hi b4, Option.bind_some, rsF_n hi]
    · refine Ask.no h (k := 4) (x := -4) (by decide) rfl ?_ (fun τ hτ => ?_)
      · rw [hf]
        unfold F_AC_soughtOrder
        rw [show rd σ 1 1 = nI (nP A) from hN.2.2.1.2.1, if_pos (show nI (nP A) ≤ (5 : Int32) from nI_le c5 (by decide)), if_neg ca, bid]
      · rw [hg, hnf τ hτ, Option.bind_some]
        simp only
        rw [if_pos c5, if_neg ca, if_neg (show ¬ (-4 : Int32) = 0 by decide), bid]
  · refine Ask.no h (k := 3) (x := -3) (by decide) rfl ?_ (fun τ hτ => ?_)
    · rw [hf]
      unfold F_AC_soughtOrder
      rw [show rd σ 1 1 = nI (nP A) from hN.2.2.1.2.1, if_neg (show ¬ nI (nP A) ≤ (5 : Int32) from nI_ge (a := 5) (by omega) (by omega)), bid]
    · rw [hg, hnf τ hτ, Option.bind_some]
      simp only
      rw [if_neg c5, if_neg (show ¬ (-3 : Int32) = 0 by decide), bid]
theorem op_bestOrder (a : Int32) : Ask (F_AC_bestOrder a) (F_MD_bestOrder a) := op_sought false a _ _ (fun s => by
  unfold F_AC_bestOrder
  rw [bid]
  rfl) (fun s => rfl)
theorem op_even (a : Int32) : Ask (F_AC_even a) (F_MD_even a) := op_sought true a _ _ (fun s => by
  unfold F_AC_even
  rw [bid]
  rfl) (fun s => rfl)
