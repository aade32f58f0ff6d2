-- fits
def ctN (f : Nat → Bool) : Nat → Nat
  | 0 => 0
  | n + 1 => if f n = true then ctN f n + 1 else ctN f n
theorem ctN_le (f : Nat → Bool) : ∀ n, ctN f n ≤ n
  | 0 => Nat.le_refl _
  | n + 1 => by
    have := ctN_le f n
    show (if f n = true then ctN f n + 1 else ctN f n) ≤ n + 1
    split <;> omega
theorem ctN_0 {f : Nat → Bool} : ∀ {n : Nat}, ctN f n = 0 → fsN f n = none
  | 0, _ => rfl
  | n + 1, h => by
    have h2 : (if f n = true then ctN f n + 1 else ctN f n) = 0 := h
    by_cases c : f n = true
    · rw [if_pos c] at h2; omega
    · rw [if_neg c] at h2
      exact fsN_go (ctN_0 h2) (by simpa using c)
theorem ctN_1 {f : Nat → Bool} : ∀ {n q : Nat}, fsN f n = some q → ctN f n ≠ 0
  | 0, _, h => by cases h
  | n + 1, q, h => by
    show (if f n = true then ctN f n + 1 else ctN f n) ≠ 0
    by_cases c : f n = true
    · rw [if_pos c]; omega
    · rw [if_neg c]
      cases e : fsN f n with
      | some q' => exact ctN_1 e
      | none =>
        rw [fsN_go e (by simpa using c)] at h
        cases h
theorem ctN_2 {f : Nat → Bool} : ∀ {n : Nat}, fsN f n = none → ctN f n = 0
  | 0, _ => rfl
  | n + 1, h => by
    show (if f n = true then ctN f n + 1 else ctN f n) = 0
    cases e : fsN f n with
    | some q =>
      have h2 : (match fsN f n with | some q => some q | none => if f n = true then some n else none) = none := h
      rw [e] at h2; cases h2
    | none =>
      by_cases g : f n = true
      · rw [fsN_hit e g (Nat.lt_succ_self n)] at h; cases h
      · rw [if_neg g]; exact ctN_2 e
theorem fsN_keep {f : Nat → Bool} {n q : Nat} (h : fsN f n = some q) : fsN f (n + 1) = some q := by
  show (match fsN f n with | some q => some q | none => if f n = true then some n else none) = some q
  rw [h]
def ftN (A : Nt) (w : Nat → Int32) (c n : Nat) : Bool := decide (fNo (tkO (prA 7 A) (dgN (nP A) (lnN (nP A) n)) 0) w (nP A) c = none)
def rfF (v : Int32) (P cnt : Nat) (o : Option Nat) : Int32 := if v = -1 then nI cnt else match o with | none => -9 | some c => if v.toNatClampNeg < P then nI (dgN P (lnN P c) v.toNatClampNeg) else -9
theorem rfF_1 (P cnt : Nat) (o : Option Nat) : rfF (-1) P cnt o = nI cnt := if_pos rfl
theorem rfF_n {P cnt i : Nat} (hi : i < 2 ^ 31) : rfF (nI i) P cnt none = -9 := if_neg (n1_ne hi)
theorem rfF_s {P cnt i c : Nat} (hi : i < 2 ^ 31) : rfF (nI i) P cnt (some c) = if i < P then nI (dgN P (lnN P c) i) else -9 := by
  unfold rfF
  rw [if_neg (n1_ne hi), nI_clamp hi]
theorem bI_9 {o : Option Nat} (h : ∀ d, o = some d → d < 100) : (bI o = -9 ↔ o = none) ∧ (bI o < 0 ↔ o = none) := by
  cases o with
  | none => exact ⟨⟨fun _ => rfl, fun _ => rfl⟩, ⟨fun _ => rfl, fun _ => by decide⟩⟩
  | some d =>
    have hd := h d rfl
    have h0 : ¬ nI d < 0 := nI_pos (by omega)
    exact ⟨⟨fun c => absurd (show nI d < 0 by rw [show nI d = -9 from c]; decide) h0, fun c => by cases c⟩, ⟨fun c => absurd c h0, fun c => by cases c⟩⟩
theorem fNo_lt {tk : Nat → Option Nat} {w : Nat → Int32} {P : Nat} : ∀ {c d : Nat}, fNo tk w P c = some d → d < c
  | 0, d, h => by cases h
  | c + 1, d, h => by
    unfold fNo at h
    cases e : fNo tk w P c with
    | some q =>
      rw [e] at h
      cases h
      have := fNo_lt e
      omega
    | none =>
      rw [e] at h
      by_cases g : P ≤ c ∨ asT (tk c) ≠ w c
      · have h2 : (if P ≤ c ∨ asT (tk c) ≠ w c then some c else none) = some d := h
        rw [if_pos g] at h2
        cases h2
        omega
      · have h2 : (if P ≤ c ∨ asT (tk c) ≠ w c then some c else none) = some d := h
        rw [if_neg g] at h2
        cases h2
theorem fitsC {σ : St} {A : Nt} (hN : NowI σ A) (hP5 : nP A ≤ 5) {c : Nat} (hc : c ≤ 12) (h16 : rd σ 0 16 = nI c) {a : Int32} (ha : a = -1 ∨ ∃ i, i < 2 ^ 31 ∧ a = nI i) : ∃ s, ((F_PR_fill 36 1 σ).bind fun s1 => (F_OR_begin (rd s1 1 1) s1).bind fun s2 => F_AC_fits_59 a (0 : Int32) (0 : Int32) s2) = some (rfF a (nP A) (ctN (ftN A (fun j => rd σ 56 j) c) (orM (nP A))) (fsN (ftN A (fun j => rd σ 56 j) c) (orM (nP A))), s) ∧ Qf (nD A) σ s ∧ NowI s A := by
  have hO := hN.1
  have hD := hO.D
  obtain ⟨P, hPe⟩ : ∃ P, P = nP A := ⟨_, rfl⟩
  obtain ⟨ft, hft⟩ : ∃ w : Nat → Bool, w = ftN A (fun j => rd σ 56 j) c := ⟨_, rfl⟩
  rw [← hPe] at hP5 ⊢
  rw [← hft]
  obtain ⟨p1, p2, p3, p4, p5, p6⟩ := orL_facts hP5
  obtain ⟨s1, a1, a2, hN1, a3⟩ := fillN hN
  obtain ⟨s2, b1, b2, b3, b4, b5⟩ := beginC (s := s1) (P := P) (by omega)
  have hN2 := hN1.q (Qf.of b2 (by decide))
  have hp2 : PrC s2 36 (prA 7 A) := a3.fr b2 (by decide) (by decide)
  have hq2 : Qf (nD A) σ s2 := (Qf.of a2 (by decide)).tr (Qf.of b2 (by decide))
  have one : ∀ n s, n < orM P → NowI s A → PrC s 36 (prA 7 A) → rd s 51 0 = nI P → (∀ j, j < P → rd s 52 j = nI (dgN P (lnN P n) j)) → (fsN ft n = none → rd s 51 1 = 0) → (∀ c, fsN ft n = some c → rd s 51 1 = nI P ∧ ∀ j, j < P → rd s 53 j = nI (dgN P (lnN P c) j)) → Qf (nD A) σ s → ∃ t, NowI t A ∧ PrC t 36 (prA 7 A) ∧ rd t 51 0 = nI P ∧ (∀ j, j < P → rd t 52 j = nI (dgN P (lnN P n) j)) ∧ (fsN ft (n + 1) = none → rd t 51 1 = 0) ∧ (∀ c, fsN ft (n + 1) = some c → rd t 51 1 = nI P ∧ ∀ j, j < P → rd t 53 j = nI (dgN P (lnN P c) j)) ∧ Qf (nD A) σ t ∧ ∀ K, H_AC_fits_59 a K (nI (ctN ft n)) (nI n) s = F_AC_fits_117 K a (nI (ctN ft (n + 1))) (nI n) t := by
    intro n s hn hNs hps h51 h52 hk0 hk hqs
    have ho : OdOK (nP A) (dgN P (lnN P n)) := by rw [← hPe]; exact p4 n hn
    obtain ⟨t, c1, c2, hNt, hpt, c3⟩ := holdOrdC hNs hps ho (fun j hj => h52 j (by omega))
    have hqt : Qf (nD A) σ t := hqs.tr (Qf.of c2 (by decide))
    have hfn := firstNotSoC (σ := t) (mo := 43) (P := P) (c := c) (tk := tkO (prA 7 A) (dgN P (lnN P n)) 0) (w := fun j => rd σ 56 j) isMO_43 (by omega) hc (by rw [hPe]; exact hNt.2.2.1.2.1) ((hqt 0 16 (by unfold Qd; omega)).trans h16) (fun p hp => (c3.2.2.2.2 p (by show p < nP A; omega)).1) (fun p d _ h => by have := tkO_in h; have e : zD (prA 7 A) = nD A := rfl; omega) (fun j _ => hqt 56 j (by unfold Qd; omega))
    have h9 := (bI_9 (o := fNo (tkO (prA 7 A) (dgN P (lnN P n)) 0) (fun j => rd σ 56 j) P c) (fun d h => by have := fNo_lt h; omega)).1
    have hfe : ft n = decide (fNo (tkO (prA 7 A) (dgN P (lnN P n)) 0) (fun j => rd σ 56 j) P c = none) := by rw [hft]; unfold ftN; rw [← hPe]
    have hH : ∀ K, H_AC_fits_59 a K (nI (ctN ft n)) (nI n) s = if ft n = true then (if nI (ctN ft n) = 0 then ((F_OR_keep t).bind fun s8 => F_AC_fits_114 K a (nI (ctN ft n)) (nI n) s8) else (F_AC_fits_114 K a (nI (ctN ft n)) (nI n) t)) else (F_AC_fits_117 K a (nI (ctN ft n)) (nI n) t) := fun K => by
      unfold H_AC_fits_59
      rw [if_neg (show ¬ (120 : Int32) ≤ nI n from nI_ge (b := 120) (by omega) (by decide)), allDeedsC hNs.2.2.1 hO, Option.bind_some]
      simp only
      rw [c1, Option.bind_some, hfn, Option.bind_some, hfe]
      simp only
      by_cases g : fNo (tkO (prA 7 A) (dgN P (lnN P n)) 0) (fun j => rd σ 56 j) P c = none
      · rw [if_pos (h9.mpr g), if_pos (decide_eq_true g)]
      · rw [if_neg (fun q => g (h9.mp q)), if_neg (fun q => g (of_decide_eq_true q))]
    have hcl := ctN_le ft n
    have t51 : rd t 51 0 = nI P := by rw [c2.at (by decide)]; exact h51
    have t52 : ∀ j, j < P → rd t 52 j = nI (dgN P (lnN P n) j) := fun j hj => by rw [c2.at (by decide)]; exact h52 j hj
    have tk0 : fsN ft n = none → rd t 51 1 = 0 := fun h => by rw [c2.at (by decide)]; exact hk0 h
    have tk : ∀ c, fsN ft n = some c → rd t 51 1 = nI P ∧ ∀ j, j < P → rd t 53 j = nI (dgN P (lnN P c) j) := fun q hq => by
      obtain ⟨k1, k2⟩ := hk q hq
      exact ⟨by rw [c2.at (by decide)]; exact k1, fun j hj => by rw [c2.at (by decide)]; exact k2 j hj⟩
    cases hb : ft n with
    | false =>
      have ec : ctN ft (n + 1) = ctN ft n := if_neg (by rw [hb]; decide)
      cases hB : fsN ft n with
      | none =>
        have e1 := fsN_go hB hb
        refine ⟨t, hNt, hpt, t51, t52, fun _ => tk0 hB, fun q hq => ?_, hqt, fun K => ?_⟩
        · rw [e1] at hq; cases hq
        · rw [hH K, if_neg (by rw [hb]; decide), ec]
      | some q =>
        have e1 := fsN_keep hB
        refine ⟨t, hNt, hpt, t51, t52, fun h => ?_, fun q' hq => ?_, hqt, fun K => ?_⟩
        · rw [e1] at h; cases h
        · rw [e1] at hq; cases hq; exact tk q hB
        · rw [hH K, if_neg (by rw [hb]; decide), ec]
    | true =>
      have ec : ctN ft (n + 1) = ctN ft n + 1 := if_pos hb
      cases hB : fsN ft n with
      | none =>
        have e1 : fsN ft (n + 1) = some n := fsN_hit hB hb (Nat.lt_succ_self n)
        have e0 : ctN ft n = 0 := ctN_2 hB
        obtain ⟨u, d1, d2, d3, d4, d5⟩ := keepC (s := t) t51
        refine ⟨u, hNt.q (Qf.of d2 (by decide)), hpt.fr d2 (by decide) (by decide), d3, fun j hj => by rw [d2.at (by decide)]; exact t52 j hj, fun h => ?_, fun q hq => ?_, hqt.tr (Qf.of d2 (by decide)), fun K => ?_⟩
        · rw [e1] at h; cases h
        · rw [e1] at hq; cases hq
          exact ⟨d4, fun j hj => by rw [d5 j (by omega)]; exact t52 j hj⟩
        · rw [hH K, if_pos hb, if_pos (show nI (ctN ft n) = 0 by rw [e0]; rfl), d1, Option.bind_some]
          unfold F_AC_fits_114
          rw [nI_1, ec]
      | some q =>
        have e1 := fsN_keep hB
        have e0 := ctN_1 hB
        refine ⟨t, hNt, hpt, t51, t52, fun h => ?_, fun q' hq => ?_, hqt, fun K => ?_⟩
        · rw [e1] at h; cases h
        · rw [e1] at hq; cases hq; exact tk q hB
        · rw [hH K, if_pos hb, if_neg (show ¬ nI (ctN ft n) = 0 from fun z => e0 (nI_inj (b := 0) (by omega) (by decide) z))]
          unfold F_AC_fits_114
          rw [nI_1, ec]
  have hlt : ∀ n, n < orM P → ∀ k, k < P → dgN P (lnN P n) k < P := fun n hn k hk => (p4 n hn).1 k hk
  have hfin := fix_inv (f := G_AC_fits_59 a) (n := orM P - 1) (s0 := (0, 0, s2)) (fun n q => q.1 = nI (ctN ft n) ∧ q.2.1 = nI n ∧ NowI q.2.2 A ∧ PrC q.2.2 36 (prA 7 A) ∧ rd q.2.2 51 0 = nI P ∧ (∀ j, j < P → rd q.2.2 52 j = nI (dgN P (lnN P n) j)) ∧ (fsN ft n = none → rd q.2.2 51 1 = 0) ∧ (∀ c, fsN ft n = some c → rd q.2.2 51 1 = nI P ∧ ∀ j, j < P → rd q.2.2 53 j = nI (dgN P (lnN P c) j)) ∧ Qf (nD A) σ q.2.2) (fun o => ∃ s, o = some (rfF a P (ctN ft (orM P)) (fsN ft (orM P)), s) ∧ Qf (nD A) σ s ∧ NowI s A) (by rw [fuel_val]; omega) ⟨rfl, rfl, hN2, hp2, b3, fun j hj => by rw [b5 j (by omega), p3 j hj], fun _ => b4, fun c hc => (by cases hc), hq2⟩ (by
    rintro n ⟨v3, v4, s⟩ hn ⟨e1, e2, hNs, hps, h51, h52, hk0, hk, hqs⟩
    simp only at e1 e2 hNs hps h51 h52 hk0 hk hqs
    subst e1; subst e2
    left
    obtain ⟨t, c1, c2, c3, c4, c50, c5, c6, c7⟩ := one n s (by omega) hNs hps h51 h52 hk0 hk hqs
    obtain ⟨g, hg1, hg2⟩ := p5 n (by omega)
    rcases stepC hP5 c3 c4 (hlt n (by omega)) with ⟨x, _⟩ | ⟨g', u, x, d1, d2, d3⟩
    · rw [hg1] at x; cases x
    · rw [hg1] at x
      cases x
      refine ⟨(nI (ctN ft (n + 1)), nI (n + 1), u), ⟨rfl, rfl, c1.q (Qf.of d2 (by decide)), c2.fr d2 (by decide) (by decide), by rw [d2.at (by decide)]; exact c3, fun j hj => by rw [d3 j hj, hg2 j hj], fun h => ?_, fun c hc => ?_, c6.tr (Qf.of d2 (by decide))⟩, fun K => ?_⟩
      · show rd u 51 1 = 0
        rw [d2.at (by decide)]; exact c50 h
      · obtain ⟨k1, k2⟩ := c5 c hc
        exact ⟨by rw [d2.at (by decide)]; exact k1, fun j hj => by rw [d2.at (by decide)]; exact k2 j hj⟩
      · show H_AC_fits_59 a K _ (nI n) s = _
        rw [c7 K]
        unfold F_AC_fits_117
        rw [d1, Option.bind_some, if_neg (show ¬ (1 : Int32) = 0 by decide), nI_1]) (by
    rintro ⟨v3, v4, s⟩ ⟨e1, e2, hNs, hps, h51, h52, hk0, hk, hqs⟩
    simp only at e1 e2 hNs hps h51 h52 hk0 hk hqs
    subst e1; subst e2
    obtain ⟨t, c1, c2, c3, c4, c50, c5, c6, c7⟩ := one (orM P - 1) s (by omega) hNs hps h51 h52 hk0 hk hqs
    have hnn := p6 (orM P - 1) (by omega)
    rw [show orM P - 1 + 1 = orM P by omega] at c50 c5 c7
    refine ⟨_, ⟨t, rfl, c6, c1⟩, fun K => ?_⟩
    show H_AC_fits_59 a K _ (nI (orM P - 1)) s = _
    rw [c7 K]
    rcases stepC hP5 c3 c4 (hlt (orM P - 1) (by omega)) with ⟨x, d1⟩ | ⟨g', u, x, _⟩
    · unfold F_AC_fits_117 F_AC_fits_136
      rw [d1, Option.bind_some, if_pos rfl]
      rcases ha with rfl | ⟨i, hi, rfl⟩
      · rw [if_pos rfl, rfF_1]
      · rw [if_neg (n1_ne hi)]
        cases hB : fsN ft (orM P) with
        | none => rw [keptAtC (P := 0) (g := id) hi (by omega) (c50 hB) (fun j hj => absurd hj (Nat.not_lt_zero _)), Option.bind_some, rfF_n hi, if_neg (Nat.not_lt_zero _)]
        | some q =>
          obtain ⟨k1, k2⟩ := c5 q hB
          rw [keptAtC hi (by omega) k1 k2, Option.bind_some, rfF_s hi]
    · rw [hnn] at x; cases x)
  obtain ⟨s, h1, h2, h3⟩ := hfin
  refine ⟨s, ?_, h2, h3⟩
  rw [a1, Option.bind_some, show rd s1 1 1 = nI P by rw [hPe]; exact hN1.2.2.1.2.1, b1, Option.bind_some]
  exact h1
theorem fitsM {σ : St} {A : Nt} (hN : NowI σ A) (hP5 : nP A ≤ 5) {c : Nat} (hc : c ≤ 12) (h35 : rd σ 58 35 = nI c) {w : Nat → Int32} (h81 : ∀ j, j < c → rd σ 81 j = w j) {a : Int32} (ha : a = -1 ∨ ∃ i, i < 2 ^ 31 ∧ a = nI i) : ∃ s, F_MD_fits_21 a (0 : Int32) (0 : Int32) σ = some (rfF a (nP A) (ctN (ftN A w c) (orM (nP A))) (fsN (ftN A w c) (orM (nP A))), s) ∧ Qf (nD A) σ s ∧ NowI s A := by
  have hO := hN.1
  have hD := hO.D
  obtain ⟨P, hPe⟩ : ∃ P, P = nP A := ⟨_, rfl⟩
  obtain ⟨ft, hft⟩ : ∃ f : Nat → Bool, f = ftN A w c := ⟨_, rfl⟩
  rw [← hPe] at hP5 ⊢
  rw [← hft]
  obtain ⟨p1, p2, p3, p4, p5, p6⟩ := orL_facts hP5
  have hpp := pow_le3125 P hP5
  obtain ⟨⟨v3, v4, s⟩, ⟨e1, e2, hNs, hqs, h80⟩, hr⟩ := fix_rel (f := G_MD_fits_21 a) (n := P ^ P) (s0 := (nI 0, nI 0, σ)) (fun k q => q.1 = nI (ctN ft (vcN P k)) ∧ q.2.1 = nI k ∧ NowI q.2.2 A ∧ Qf (nD A) σ q.2.2 ∧ ∀ c, fsN ft (vcN P k) = some c → ∀ j, j < P → rd q.2.2 80 j = nI (dgN P (lnN P c) j)) (by rw [fuel_val]; omega) ⟨rfl, rfl, hN, Qf.rf, fun c hc => (by cases hc)⟩ (by
    rintro k ⟨v3, v4, s⟩ hk ⟨e1, e2, hNs, hqs, h80⟩
    simp only at e1 e2 hNs hqs h80
    subst e1; subst e2
    have hMs := hNs.2.2.2.1
    have hnum := numbersM hMs (by omega)
    rw [← hPe] at hnum
    obtain ⟨t, a1, a2, a3⟩ := laysM hMs (by omega) (k := k) (by omega)
    rw [← hPe] at a1 a3
    have hNt := hNs.q (Qf.of a2 (by decide))
    have hqt : Qf (nD A) σ t := hqs.tr (Qf.of a2 (by decide))
    have hst := vcN_s P k
    cases hv : vaB P k with
    | false =>
      rw [hv, if_neg (by decide)] at hst
      refine ⟨(nI (ctN ft (vcN P k)), nI (k + 1), t), ⟨by rw [hst], rfl, hNt, hqt, fun c hc j hj => ?_⟩, fun K => ?_⟩
      · rw [hst] at hc
        show rd t 80 j = _
        rw [a2.at (by decide)]; exact h80 c hc j hj
      · show H_MD_fits_21 a K (nI (ctN ft (vcN P k))) (nI k) s = _
        unfold H_MD_fits_21 F_MD_fits_68
        rw [hnum, Option.bind_some]
        simp only
        rw [if_neg (nI_ge hk (by omega)), a1, hv, Option.bind_some, if_pos (show zI false = 0 from rfl), nI_1]
    | true =>
      rw [hv, if_pos rfl] at hst
      obtain ⟨hl, hvm⟩ := vcN_at hv hk
      obtain ⟨m, hm⟩ : ∃ m, m = vcN P k := ⟨_, rfl⟩
      rw [← hm] at hl hvm hst h80 ⊢
      have ho : OdOK (nP A) (dgN P k) := by rw [← hPe, ← hl]; exact p4 m hvm
      obtain ⟨u, c1, c2, hNu, c3⟩ := goByN hNt ho (fun j hj => a3 j (by omega))
      have hqu : Qf (nD A) σ u := hqt.tr (Qf.of c2 (by decide))
      have hfo := firstOtherM (σ := u) (P := P) (c := c) (tk := tkO (prA 7 A) (dgN P k) 0) (w := w) (by omega) hc (by rw [hPe]; exact hNu.2.2.2.1.1.2.1) ((hqu 58 35 (by unfold Qd; omega)).trans h35) (fun p hp => c3 p (by omega)) (fun p d _ h => by have := tkO_in h; have e : zD (prA 7 A) = nD A := rfl; omega) (fun j hj => (hqu 81 j (by unfold Qd; omega)).trans (h81 j hj))
      have h9 := (bI_9 (o := fNo (tkO (prA 7 A) (dgN P k) 0) w P c) (fun d h => by have := fNo_lt h; omega)).2
      have hfe : ft m = decide (fNo (tkO (prA 7 A) (dgN P k) 0) w P c = none) := by rw [hft]; unfold ftN; rw [← hPe, hl]
      have hH : ∀ K, H_MD_fits_21 a K (nI (ctN ft m)) (nI k) s = if ft m = true then (if nI (ctN ft m) = 0 then ((F_MD_keepsFound (0 : Int32) u).bind fun s7 => F_MD_fits_65 K a (nI (ctN ft m)) (nI k) s7) else (F_MD_fits_65 K a (nI (ctN ft m)) (nI k) u)) else (F_MD_fits_68 K a (nI (ctN ft m)) (nI k) u) := fun K => by
        unfold H_MD_fits_21
        rw [hnum, Option.bind_some]
        simp only
        rw [if_neg (nI_ge hk (by omega)), a1, hv, Option.bind_some, if_neg (show ¬ zI true = 0 by decide)]
        simp only
        rw [c1, Option.bind_some, hfo, Option.bind_some, hfe]
        simp only
        by_cases g : fNo (tkO (prA 7 A) (dgN P k) 0) w P c = none
        · rw [if_pos (h9.mpr g), if_pos (decide_eq_true g)]
        · rw [if_neg (fun q => g (h9.mp q)), if_neg (fun q => g (of_decide_eq_true q))]
      have hcl := ctN_le ft m
      have u80 : ∀ c, fsN ft m = some c → ∀ j, j < P → rd u 80 j = nI (dgN P (lnN P c) j) := fun q hq j hj => by
        rw [c2.at (by decide), a2.at (by decide)]; exact h80 q hq j hj
      cases hb : ft m with
      | false =>
        have ec : ctN ft (m + 1) = ctN ft m := if_neg (by rw [hb]; decide)
        refine ⟨(nI (ctN ft m), nI (k + 1), u), ⟨by rw [hst, ec], rfl, hNu, hqu, fun q hq => ?_⟩, fun K => ?_⟩
        · rw [hst] at hq
          cases hB : fsN ft m with
          | none => rw [fsN_go hB hb] at hq; cases hq
          | some q' => rw [fsN_keep hB] at hq; cases hq; exact u80 q hB
        · show H_MD_fits_21 a K (nI (ctN ft m)) (nI k) s = _
          rw [hH K, if_neg (by rw [hb]; decide)]
          unfold F_MD_fits_68
          rw [nI_1]
      | true =>
        have ec : ctN ft (m + 1) = ctN ft m + 1 := if_pos hb
        by_cases e0 : ctN ft m = 0
        · have hB := ctN_0 e0
          have e1 : fsN ft (m + 1) = some m := fsN_hit hB hb (Nat.lt_succ_self m)
          obtain ⟨x, d1, d2, d3, d4⟩ := keepsM hNu.2.2.2.1 (by omega) 0
          have qx : Qf (nD A) u x := fun b j q => d4 b j (fun c => q (by unfold Qd; omega))
          refine ⟨(nI (ctN ft m + 1), nI (k + 1), x), ⟨by rw [hst, ec], rfl, hNu.q qx, hqu.tr qx, fun q hq j hj => ?_⟩, fun K => ?_⟩
          · rw [hst, e1] at hq
            cases hq
            show rd x 80 j = _
            rw [d3 j (by omega), c2.at (by decide), a3 j hj, hl]
          · show H_MD_fits_21 a K (nI (ctN ft m)) (nI k) s = _
            rw [hH K, if_pos hb, if_pos (show nI (ctN ft m) = 0 by rw [e0]; rfl), d1, Option.bind_some]
            unfold F_MD_fits_65 F_MD_fits_68
            rw [nI_1, nI_1]
        · refine ⟨(nI (ctN ft m + 1), nI (k + 1), u), ⟨by rw [hst, ec], rfl, hNu, hqu, fun q hq => ?_⟩, fun K => ?_⟩
          · rw [hst] at hq
            cases hB : fsN ft m with
            | none => exact absurd (ctN_2 hB) e0
            | some q' => rw [fsN_keep hB] at hq; cases hq; exact u80 q hB
          · show H_MD_fits_21 a K (nI (ctN ft m)) (nI k) s = _
            have hvl : m ≤ 120 := by omega
            rw [hH K, if_pos hb, if_neg (show ¬ nI (ctN ft m) = 0 from fun z => e0 (nI_inj (b := 0) (by omega) (by decide) z))]
            unfold F_MD_fits_65 F_MD_fits_68
            rw [nI_1, nI_1])
  simp only at e1 e2 hNs hqs h80
  have hvo : vcN P (P ^ P) = orM P := rfl
  rw [hvo] at e1 h80
  refine ⟨s, ?_, hqs, hNs⟩
  unfold F_MD_fits_21
  refine hr _ (fun K => ?_)
  show H_MD_fits_21 a K v3 v4 s = _
  have hnum := numbersM hNs.2.2.2.1 (by omega)
  rw [← hPe] at hnum
  have hcl := ctN_le ft (orM P)
  unfold H_MD_fits_21
  rw [e2, hnum, Option.bind_some]
  simp only
  rw [if_pos (Int32.le_refl _), e1]
  rcases ha with rfl | ⟨i, hi, rfl⟩
  · rw [if_neg (show ¬ (0 : Int32) ≤ -1 by decide), rfF_1]
  · rw [if_pos (nI_pos' hi)]
    cases hB : fsN ft (orM P) with
    | none =>
      have e0 : ctN ft (orM P) = 0 := ctN_2 hB
      rw [if_pos (show nI (ctN ft (orM P)) = 0 by rw [e0]; rfl), rfF_n hi]
    | some q =>
      have e0 := ctN_1 hB
      rw [if_neg (show ¬ nI (ctN ft (orM P)) = 0 from fun z => e0 (nI_inj (b := 0) (by omega) (by decide) z)), foundOrM hNs.2.2.2.1 (by omega) hi (fun j hj => h80 q hB j (by omega)), Option.bind_some, rfF_s hi, ← hPe]
theorem op_fits (a : Int32) : Ask (F_AC_fits a) (F_MD_fits a) := by
  intro σ h
  obtain ⟨A, hall⟩ := id h
  have hN := hall.1
  have hO := hN.1
  have hP := hO.P
  obtain ⟨c, hc, l1, l2, l3⟩ := hall.2.2.2.1
  have hnf := fun τ (hτ : ∀ b j, b ≠ 57 → rd τ b j = rd σ b j) => notFewM (s := τ) (A := A) (hN.un (fun b j q => hτ b j (by omega))).2.2.2.1 hP a
  by_cases c5 : nP A ≤ 5
  · by_cases ca : (-1 : Int32) ≤ a
    · have ha := a_cases ca
      obtain ⟨s1, a1, a2, hN1⟩ := fitsC hN c5 hc l1 ha
      obtain ⟨s2, b1, b2, hN2⟩ := fitsM hN1 c5 hc ((a2 58 35 (by unfold Qd; omega)).trans l2) (w := fun j => rd σ 56 j) (fun j hj => by
        obtain ⟨v, _, x1, x2⟩ := l3 j hj
        rw [a2 81 j (by unfold Qd; omega), x2, x1]) ha
      refine ⟨rfF a (nP A) (ctN (ftN A (fun j => rd σ 56 j) c) (orM (nP A))) (fsN (ftN A (fun j => rd σ 56 j) c) (orM (nP A))), s1, s2, ?_, ?_, INV.q hall (a2.tr b2)⟩
      · unfold F_AC_fits
        rw [show rd σ 1 1 = nI (nP A) from hN.2.2.1.2.1, if_pos (show nI (nP A) ≤ (5 : Int32) from nI_le c5 (by decide)), if_pos ca]
        exact a1
      · unfold F_MD_fits
        rw [notFewM hN1.2.2.2.1 hP a, Option.bind_some]
        simp only
        rw [if_pos c5, if_pos ca, if_pos rfl]
        exact b1
    · refine Ask.no h (k := 4) (x := -4) (by decide) rfl ?_ (fun τ hτ => ?_)
      · unfold F_AC_fits
        rw [show rd σ 1 1 = nI (nP A) from hN.2.2.1.2.1, if_pos (show nI (nP A) ≤ (5 : Int32) from nI_le c5 (by decide)), if_neg ca, bid]
      · unfold F_MD_fits
        rw [hnf τ hτ, Option.bind_some]
        simp only
        rw [if_pos c5, if_neg ca, if_neg (show ¬ (-4 : Int32) = 0 by decide), bid]
  · refine Ask.no h (k := 3) (x := -3) (by decide) rfl ?_ (fun τ hτ => ?_)
    · unfold F_AC_fits
      rw [show rd σ 1 1 = nI (nP A) from hN.2.2.1.2.1, if_neg (show ¬ nI (nP A) ≤ (5 : Int32) from nI_ge (a := 5) (by omega) (by omega)), bid]
    · unfold F_MD_fits
      rw [hnf τ hτ, Option.bind_some]
      simp only
      rw [if_neg c5, if_neg (show ¬ (-3 : Int32) = 0 by decide), bid]
