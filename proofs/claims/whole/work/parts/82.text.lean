-- night: the text
def dgt (v : Nat) : Nat := if v = 97 then 2 else if v = 98 then 2 else if v = 100 then 2 else if v = 112 then 5 else if v = 120 then 2 else 0
theorem dgt_le (v : Nat) : dgt v ≤ 5 := by
  unfold dgt
  repeat' split
  all_goals omega
theorem dgt_2 {v : Nat} (h : dgt v ≠ 0) : 2 ≤ dgt v := by
  unfold dgt at h ⊢
  repeat' split
  all_goals first | omega | skip
  all_goals simp_all
theorem lit_ne {v k : Nat} (hv : v < 2 ^ 31) (hk : k < 2 ^ 31) (h : v ≠ k) : ¬ nI v = nI k := fun c => h (nI_inj hv hk c)
theorem digitsOfC {v : Nat} (hv : v < 256) (s : St) : F_LT_digitsOf (nI v) s = some (nI (dgt v), s) := by
  unfold F_LT_digitsOf dgt
  by_cases h1 : v = 97
  · subst h1; rw [if_pos rfl, if_pos (show nI 97 = 97 from rfl)]; rfl
  rw [if_neg h1, if_neg (show ¬ nI v = 97 from lit_ne (k := 97) (by omega) (by decide) h1)]
  by_cases h2 : v = 98
  · subst h2; rw [if_pos rfl, if_pos (show nI 98 = 98 from rfl)]; rfl
  rw [if_neg h2, if_neg (show ¬ nI v = 98 from lit_ne (k := 98) (by omega) (by decide) h2)]
  by_cases h3 : v = 100
  · subst h3; rw [if_pos rfl, if_pos (show nI 100 = 100 from rfl)]; rfl
  rw [if_neg h3, if_neg (show ¬ nI v = 100 from lit_ne (k := 100) (by omega) (by decide) h3)]
  by_cases h4 : v = 112
  · subst h4; rw [if_pos rfl, if_pos (show nI 112 = 112 from rfl)]; rfl
  rw [if_neg h4, if_neg (show ¬ nI v = 112 from lit_ne (k := 112) (by omega) (by decide) h4)]
  by_cases h5 : v = 120
  · subst h5; rw [if_pos rfl, if_pos (show nI 120 = 120 from rfl)]; rfl
  rw [if_neg h5, if_neg (show ¬ nI v = 120 from lit_ne (k := 120) (by omega) (by decide) h5)]
  rfl
def dgB (t : Nat → Nat) (c j : Nat) : Bool := decide (j < c ∧ 48 ≤ t j ∧ t j ≤ 57)
/-- where the statement at p fails -/
def fltN (t : Nat → Nat) (c p : Nat) : Option Nat := if p < c ∧ dgt (t p) ≠ 0 then (match fsN (fun i => !dgB t c (p + 1 + i)) (dgt (t p)) with | some i => some (p + 1 + i) | none => if p + 1 + dgt (t p) < c ∧ t (p + 1 + dgt (t p)) = 59 then none else some (p + 1 + dgt (t p))) else some p
theorem fltN_0 {t : Nat → Nat} {c p : Nat} (h : ¬ (p < c ∧ dgt (t p) ≠ 0)) : fltN t c p = some p := if_neg h
theorem fltN_dig {t : Nat → Nat} {c p i : Nat} (h : p < c ∧ dgt (t p) ≠ 0) (hi : i < dgt (t p)) (h1 : ∀ l, l < i → dgB t c (p + 1 + l) = true) (h2 : dgB t c (p + 1 + i) = false) : fltN t c p = some (p + 1 + i) := by
  unfold fltN
  have e : fsN (fun i => !dgB t c (p + 1 + i)) (dgt (t p)) = some i := fsN_hit (fsN_none (fun j hj => by rw [h1 j hj]; rfl)) (by rw [h2]; rfl) hi
  rw [if_pos h, e]
theorem fltN_semi {t : Nat → Nat} {c p : Nat} (h : p < c ∧ dgt (t p) ≠ 0) (h1 : ∀ l, l < dgt (t p) → dgB t c (p + 1 + l) = true) : fltN t c p = if p + 1 + dgt (t p) < c ∧ t (p + 1 + dgt (t p)) = 59 then none else some (p + 1 + dgt (t p)) := by
  unfold fltN
  have e : fsN (fun i => !dgB t c (p + 1 + i)) (dgt (t p)) = none := fsN_none (fun j hj => by rw [h1 j hj]; rfl)
  rw [if_pos h, e]
theorem fsN_all {f : Nat → Bool} : ∀ {n : Nat}, fsN f n = none → ∀ j, j < n → f j = false
  | 0, _, j, hj => absurd hj (Nat.not_lt_zero _)
  | n + 1, h, j, hj => by
    cases e : fsN f n with
    | some q => rw [fsN_keep e] at h; cases h
    | none =>
      by_cases g : j = n
      · subst g
        cases hf : f j with
        | false => rfl
        | true => rw [fsN_hit e hf (Nat.lt_succ_self j)] at h; cases h
      · exact fsN_all e j (by omega)
theorem fltN_none {t : Nat → Nat} {c p : Nat} (h : fltN t c p = none) : p < c ∧ dgt (t p) ≠ 0 ∧ (∀ l, l < dgt (t p) → dgB t c (p + 1 + l) = true) ∧ p + 1 + dgt (t p) < c ∧ t (p + 1 + dgt (t p)) = 59 := by
  by_cases g : p < c ∧ dgt (t p) ≠ 0
  · have h1 : ∀ l, l < dgt (t p) → dgB t c (p + 1 + l) = true := fun l hl => by
      cases e : fsN (fun i => !dgB t c (p + 1 + i)) (dgt (t p)) with
      | some i =>
        unfold fltN at h
        rw [if_pos g, e] at h
        cases h
      | none =>
        have := fsN_all e l hl
        simpa using this
    have h2 := fltN_semi g h1
    rw [h] at h2
    by_cases q : p + 1 + dgt (t p) < c ∧ t (p + 1 + dgt (t p)) = 59
    · exact ⟨g.1, g.2, h1, q.1, q.2⟩
    · rw [if_neg q] at h2; cases h2
  · rw [fltN_0 g] at h; cases h
def posN (t : Nat → Nat) : Nat → Nat
  | 0 => 0
  | n + 1 => posN t n + dgt (t (posN t n)) + 2
def OkTo (t : Nat → Nat) (c n : Nat) : Prop := ∀ m, m < n → fltN t c (posN t m) = none
theorem OkTo.s {t : Nat → Nat} {c n : Nat} (h : OkTo t c n) (h2 : fltN t c (posN t n) = none) : OkTo t c (n + 1) := fun m hm => by
  by_cases e : m = n
  · rw [e]; exact h2
  · exact h m (by omega)
theorem posN_s (t : Nat → Nat) (n : Nat) : posN t (n + 1) = posN t n + dgt (t (posN t n)) + 2 := rfl
theorem OkTo.pos {t : Nat → Nat} {c : Nat} : ∀ {n : Nat}, OkTo t c n → 4 * n ≤ posN t n ∧ posN t n ≤ c
  | 0, _ => ⟨Nat.zero_le _, Nat.zero_le _⟩
  | n + 1, h => by
    have ih := OkTo.pos (n := n) (fun m hm => h m (by omega))
    obtain ⟨h1, h2, h3, h4, h5⟩ := fltN_none (h n (by omega))
    have := dgt_2 h2
    rw [posN_s]
    omega
def TxC (s : St) (t : Nat → Nat) (c : Nat) : Prop := rd s 34 0 = nI c ∧ ∀ j, j < c → rd s 35 j = nI (t j)
theorem placeC {s : St} {t : Nat → Nat} {c : Nat} (hc : c ≤ 96) (ht : ∀ j, j < c → t j < 256) (hx : TxC s t c) : ∃ n w, F_LT_placeOfWrongLetter s = some (w, s) ∧ OkTo t c n ∧ ((posN t n = c ∧ 0 < n ∧ w = -9) ∨ ∃ f, fltN t c (posN t n) = some f ∧ (posN t n < c ∨ n = 0) ∧ f ≤ c ∧ w = nI f) := by
  have hfin := fix_inv (f := G_LT_placeOfWrongLetter_4) (n := c) (s0 := (-1, nI 0, s)) (fun k q => q.2.1 = nI k ∧ q.2.2 = s ∧ ((q.1 = -1 ∧ ∃ n, OkTo t c n ∧ posN t n = k) ∨ ∃ n r, OkTo t c n ∧ posN t n < c ∧ dgt (t (posN t n)) ≠ 0 ∧ r ≤ dgt (t (posN t n)) ∧ posN t n + 1 + (dgt (t (posN t n)) - r) = k ∧ q.1 = nI r ∧ ∀ l, l < dgt (t (posN t n)) - r → dgB t c (posN t n + 1 + l) = true)) (fun o => ∃ n w, o = some (w, s) ∧ OkTo t c n ∧ ((posN t n = c ∧ 0 < n ∧ w = -9) ∨ ∃ f, fltN t c (posN t n) = some f ∧ (posN t n < c ∨ n = 0) ∧ f ≤ c ∧ w = nI f)) (by rw [fuel_val]; omega) ⟨rfl, rfl, Or.inl ⟨rfl, 0, fun m hm => absurd hm (Nat.not_lt_zero _), rfl⟩⟩ (by
    rintro k ⟨v1, v2, s'⟩ hk ⟨e2, e3, hI⟩
    simp only at e2 e3 hI
    subst e2; subst e3
    have htk := ht k hk
    have hread : ∀ K, G_LT_placeOfWrongLetter_4 K (v1, nI k, s') = if v1 = (-1 : Int32) then ((F_LT_digitsOf (nI (t k)) s').bind fun o2 => if o2.1 = 0 then (some (nI k, o2.2)) else (F_LT_placeOfWrongLetter_71 K o2.1 (nI k) o2.2)) else (if v1 ≤ 0 then (if nI (t k) = (59 : Int32) then (F_LT_placeOfWrongLetter_71 K (-1 : Int32) (nI k) s') else (some (nI k, s'))) else (if nI (t k) < (48 : Int32) then (some (nI k, s')) else (if nI (t k) ≤ (57 : Int32) then (F_LT_placeOfWrongLetter_71 K (v1 - 1) (nI k) s') else (some (nI k, s'))))) := fun K => by
      show H_LT_placeOfWrongLetter_4 K v1 (nI k) s' = _
      unfold H_LT_placeOfWrongLetter_4
      rw [hx.1, if_neg (nI_ge hk (by omega)), atC al_35 (by omega), Option.bind_some, hx.2 k hk]
    rcases hI with ⟨rfl, n, hn, hp⟩ | ⟨n, r, hn, hp, hd, hr, hpk, rfl, hdig⟩
    · by_cases g : dgt (t k) = 0
      · right
        refine ⟨some (nI k, s'), ⟨n, nI k, rfl, hn, Or.inr ⟨k, ?_, Or.inl (by omega), by omega, rfl⟩⟩, fun K => ?_⟩
        · rw [hp]; exact fltN_0 (fun q => q.2 g)
        · rw [hread K, if_pos rfl, digitsOfC htk, Option.bind_some, g]
          exact if_pos rfl
      · left
        have := dgt_le (t k)
        refine ⟨(nI (dgt (t k)), nI (k + 1), s'), ⟨rfl, rfl, Or.inr ⟨n, dgt (t k), hn, by omega, by rw [hp]; exact g, by rw [hp]; exact Nat.le_refl _, by rw [hp, Nat.sub_self], rfl, fun l hl => by rw [hp, Nat.sub_self] at hl; exact absurd hl (Nat.not_lt_zero _)⟩⟩, fun K => ?_⟩
        rw [hread K, if_pos rfl, digitsOfC htk, Option.bind_some, if_neg (show ¬ (nI (dgt (t k)) = 0) from fun q => g (nI_inj (b := 0) (by omega) (by decide) q))]
        unfold F_LT_placeOfWrongLetter_71
        rw [nI_1]
    · obtain ⟨D, hD⟩ : ∃ D, D = dgt (t (posN t n)) := ⟨_, rfl⟩
      have hDl := dgt_le (t (posN t n))
      rw [← hD] at hd hr hpk hdig hDl
      have h1 : nI r ≠ -1 := n1_ne (by omega)
      by_cases g : r = 0
      · subst g
        have hall : ∀ l, l < dgt (t (posN t n)) → dgB t c (posN t n + 1 + l) = true := fun l hl => hdig l (by omega)
        have hsem := fltN_semi ⟨hp, by rw [← hD]; exact hd⟩ hall
        rw [← hD, show posN t n + 1 + D = k by omega] at hsem
        by_cases g2 : t k = 59
        · left
          rw [if_pos ⟨hk, g2⟩] at hsem
          refine ⟨(-1, nI (k + 1), s'), ⟨rfl, rfl, Or.inl ⟨rfl, n + 1, hn.s hsem, by rw [posN_s, ← hD]; omega⟩⟩, fun K => ?_⟩
          rw [hread K, if_neg h1, if_pos (show nI 0 ≤ 0 from Int32.le_refl _), g2, if_pos (show nI 59 = 59 from rfl)]
          unfold F_LT_placeOfWrongLetter_71
          rw [nI_1]
        · right
          rw [if_neg (fun q => g2 q.2)] at hsem
          refine ⟨some (nI k, s'), ⟨n, nI k, rfl, hn, Or.inr ⟨k, hsem, Or.inl hp, by omega, rfl⟩⟩, fun K => ?_⟩
          rw [hread K, if_neg h1, if_pos (show nI 0 ≤ 0 from Int32.le_refl _), if_neg (show ¬ nI (t k) = 59 from lit_ne (k := 59) (by omega) (by decide) g2)]
      · have hr0 : ¬ nI r ≤ 0 := nI_ge (a := 0) (by omega) (by omega)
        have hbad : dgB t c k = false → ∃ f, fltN t c (posN t n) = some f ∧ (posN t n < c ∨ n = 0) ∧ f ≤ c ∧ nI k = nI f := fun hb => by
          refine ⟨k, ?_, Or.inl hp, by omega, rfl⟩
          have := fltN_dig (t := t) (c := c) (p := posN t n) (i := D - r) ⟨hp, by rw [← hD]; exact hd⟩ (by omega) hdig (by rw [hpk]; exact hb)
          rw [hpk] at this
          exact this
        by_cases g2 : t k < 48
        · right
          refine ⟨some (nI k, s'), ⟨n, nI k, rfl, hn, Or.inr (hbad (decide_eq_false (by omega)))⟩, fun K => ?_⟩
          rw [hread K, if_neg h1, if_neg hr0, if_pos (show nI (t k) < 48 from nI_lt (b := 48) g2 (by decide))]
        · by_cases g3 : t k ≤ 57
          · left
            refine ⟨(nI (r - 1), nI (k + 1), s'), ⟨rfl, rfl, Or.inr ⟨n, r - 1, hn, hp, by rw [← hD]; exact hd, by rw [← hD]; omega, by rw [← hD]; omega, rfl, fun l hl => ?_⟩⟩, fun K => ?_⟩
            · rw [← hD] at hl
              by_cases e : l = D - r
              · rw [e, hpk]; exact decide_eq_true ⟨hk, by omega, g3⟩
              · exact hdig l (by omega)
            · rw [hread K, if_neg h1, if_neg hr0, if_neg (show ¬ nI (t k) < 48 from nI_nlt (a := t k) (b := 48) (by omega) (by omega)), if_pos (show nI (t k) ≤ 57 from nI_le (b := 57) g3 (by decide))]
              unfold F_LT_placeOfWrongLetter_71
              rw [nI_1, nI_dec (by omega)]
          · right
            refine ⟨some (nI k, s'), ⟨n, nI k, rfl, hn, Or.inr (hbad (decide_eq_false (by omega)))⟩, fun K => ?_⟩
            rw [hread K, if_neg h1, if_neg hr0, if_neg (show ¬ nI (t k) < 48 from nI_nlt (a := t k) (b := 48) (by omega) (by omega)), if_neg (show ¬ nI (t k) ≤ 57 from nI_ge (a := 57) (by omega) (by omega))]) (by
    rintro ⟨v1, v2, s'⟩ ⟨e2, e3, hI⟩
    simp only at e2 e3 hI
    subst e2; subst e3
    have hread : ∀ K, G_LT_placeOfWrongLetter_4 K (v1, nI c, s') = if v1 = (-1 : Int32) then (if nI c ≤ 0 then some (nI c, s') else (some ((-9 : Int32), s'))) else some (nI c, s') := fun K => by
      show H_LT_placeOfWrongLetter_4 K v1 (nI c) s' = _
      unfold H_LT_placeOfWrongLetter_4 F_LT_placeOfWrongLetter_94
      rw [hx.1, if_pos (Int32.le_refl _)]
    rcases hI with ⟨rfl, n, hn, hp⟩ | ⟨n, r, hn, hp, hd, hr, hpk, rfl, hdig⟩
    · have hnp := hn.pos
      by_cases g : c = 0
      · subst g
        refine ⟨_, ⟨n, nI 0, rfl, hn, Or.inr ⟨0, ?_, Or.inr (by omega), Nat.le_refl _, rfl⟩⟩, fun K => ?_⟩
        · rw [hp]; exact fltN_0 (fun q => absurd q.1 (Nat.not_lt_zero _))
        · rw [hread K, if_pos rfl, if_pos (show nI 0 ≤ 0 from Int32.le_refl _)]
      · have hn0 : 0 < n := by
          rcases Nat.eq_zero_or_pos n with q | q
          · subst q; exact absurd hp (by show ¬ 0 = c; omega)
          · exact q
        refine ⟨_, ⟨n, -9, rfl, hn, Or.inl ⟨hp, hn0, rfl⟩⟩, fun K => ?_⟩
        rw [hread K, if_pos rfl, if_neg (show ¬ nI c ≤ 0 from nI_ge (a := 0) (by omega) (by omega))]
    · obtain ⟨D, hD⟩ : ∃ D, D = dgt (t (posN t n)) := ⟨_, rfl⟩
      have hDl := dgt_le (t (posN t n))
      rw [← hD] at hd hr hpk hdig hDl
      have h1 : nI r ≠ -1 := n1_ne (by omega)
      refine ⟨_, ⟨n, nI c, rfl, hn, Or.inr ⟨c, ?_, Or.inl hp, Nat.le_refl _, rfl⟩⟩, fun K => by rw [hread K, if_neg h1]⟩
      by_cases g : r = 0
      · subst g
        have hsem := fltN_semi (t := t) (c := c) (p := posN t n) ⟨hp, by rw [← hD]; exact hd⟩ (fun l hl => hdig l (by omega))
        rw [← hD, show posN t n + 1 + D = c by omega, if_neg (fun q => absurd q.1 (Nat.lt_irrefl _))] at hsem
        exact hsem
      · have := fltN_dig (t := t) (c := c) (p := posN t n) (i := D - r) ⟨hp, by rw [← hD]; exact hd⟩ (by omega) hdig (by rw [hpk]; exact decide_eq_false (by omega))
        rw [hpk] at this
        exact this)
  obtain ⟨n, w, h1, h2, h3⟩ := hfin
  exact ⟨n, w, h1, h2, h3⟩
