-- night
def ntN (t : Nat → Nat) (A : Nt) : Nat → Option Nt
  | 0 => some A
  | n + 1 => (ntN t A n).bind fun B => tlN t B (posN t n)
theorem ntN_s (t : Nat → Nat) (A : Nt) (n : Nat) : ntN t A (n + 1) = (ntN t A n).bind fun B => tlN t B (posN t n) := rfl
theorem ntN_lt {t : Nat → Nat} {A : Nt} {m : Nat} : ∀ {n : Nat} {B : Nt}, ntN t A n = some B → m ≤ n → ∃ B', ntN t A m = some B'
  | 0, B, h, hm => ⟨B, by rw [show m = 0 by omega]; exact h⟩
  | n + 1, B, h, hm => by
    by_cases e : m = n + 1
    · exact ⟨B, by rw [e]; exact h⟩
    · rw [ntN_s] at h
      obtain ⟨B', h1, _⟩ := Option.bind_eq_some_iff.mp h
      exact ntN_lt h1 (by omega)
theorem tellC {s : St} {A : Nt} {t : Nat → Nat} {c N : Nat} (hA : AbsC s 19 A) (hG : GdN A) (hx : TxC s t c) (hc : c ≤ 96) (ht : ∀ j, j < c → t j < 256) (hok : OkTo t c N) (hN : posN t N = c) : ∃ w s', F_LT_tell_20 19 0 0 s = some (w, s') ∧ Fr [19, 20, 21, 22, 23, 24, 25, 26, 27] s s' ∧ ((∃ B, ntN t A N = some B ∧ GdN B ∧ AbsC s' 19 B ∧ w = nI N) ∨ ∃ M B, M < N ∧ ntN t A M = some B ∧ GdN B ∧ tlN t B (posN t M) = none ∧ w = -2000 - nI (posN t M)) := by
  have hpN := hok.pos
  have hfin := fix_inv (f := G_LT_tell_20 19) (n := N) (s0 := (nI 0, nI 0, s)) (fun k q => q.1 = nI k ∧ q.2.1 = nI (posN t k) ∧ Fr [19, 20, 21, 22, 23, 24, 25, 26, 27] s q.2.2 ∧ ∃ B, ntN t A k = some B ∧ GdN B ∧ AbsC q.2.2 19 B) (fun o => ∃ w s', o = some (w, s') ∧ Fr [19, 20, 21, 22, 23, 24, 25, 26, 27] s s' ∧ ((∃ B, ntN t A N = some B ∧ GdN B ∧ AbsC s' 19 B ∧ w = nI N) ∨ ∃ M B, M < N ∧ ntN t A M = some B ∧ GdN B ∧ tlN t B (posN t M) = none ∧ w = -2000 - nI (posN t M))) (by rw [fuel_val]; omega) ⟨rfl, rfl, Fr.rf, A, rfl, hG, hA⟩ (by
    rintro k ⟨v3, v4, s1⟩ hk ⟨e1, e2, hf, B, hB, hGB, hAB⟩
    simp only at e1 e2 hf hAB
    subst e1; subst e2
    have hds := DgS.of (hok k hk)
    have hp := hds.p
    have htp := ht _ hp
    have hD := dgt_le (t (posN t k))
    have hx1 : TxC s1 t c := ⟨(hf.at (by decide) 0).trans hx.1, fun j hj => (hf.at (by decide) j).trans (hx.2 j hj)⟩
    rcases stateC hAB hGB hx1 hc ht hds with ⟨h1, h2⟩ | ⟨B', s2, h1, h2, h3, h4⟩
    · right
      refine ⟨_, ⟨_, s1, rfl, hf, Or.inr ⟨k, B, hk, hB, hGB, h1, rfl⟩⟩, fun K => ?_⟩
      show H_LT_tell_20 19 K (nI k) (nI (posN t k)) s1 = _
      unfold H_LT_tell_20
      rw [hx1.1, if_neg (nI_ge hp (by omega)), h2, Option.bind_some, if0]
    · left
      have hx2 : TxC s2 t c := ⟨(h3.at (by decide) 0).trans hx1.1, fun j hj => (h3.at (by decide) j).trans (hx1.2 j hj)⟩
      refine ⟨(nI (k + 1), nI (posN t (k + 1)), s2), ⟨rfl, rfl, hf.two h3, B', by rw [ntN_s, hB, Option.bind_some]; exact h1, tlN_ok hGB hds h1, h4⟩, fun K => ?_⟩
      show H_LT_tell_20 19 K (nI k) (nI (posN t k)) s1 = _
      unfold H_LT_tell_20
      rw [hx1.1, if_neg (nI_ge hp (by omega)), h2, Option.bind_some, if1, atC al_35 (by omega), Option.bind_some]
      simp only
      rw [hx2.2 _ hp, digitsOfC htp, Option.bind_some, show (2 : Int32) = nI 2 from rfl, nI_sum, nI_sum, Option.bind_some, nI_1, posN_s, Nat.add_assoc]) (by
    rintro ⟨v3, v4, s1⟩ ⟨e1, e2, hf, B, hB, hGB, hAB⟩
    simp only at e1 e2 hf hAB
    subst e1; subst e2
    refine ⟨_, ⟨_, s1, rfl, hf, Or.inl ⟨B, hB, hGB, hAB, rfl⟩⟩, fun K => ?_⟩
    show H_LT_tell_20 19 K (nI N) (nI (posN t N)) s1 = _
    unfold H_LT_tell_20
    rw [(hf.at (by decide) 0).trans hx.1, hN, if_pos (Int32.le_refl _)])
  exact hfin
def TxF (s s' : St) : Prop := ∀ b j, ¬ (69 ≤ b ∧ b ≤ 71 ∨ b = 58 ∧ (j = 16 ∨ j = 17)) → rd s' b j = rd s b j
theorem stepT {s : St} {t : Nat → Nat} {c k : Nat} (hx : TxM s t c) (hc : c ≤ 96) (ht : ∀ j, j < c → t j < 256) (h16 : rd s 58 16 = nI (posN t k)) (h17 : rd s 58 17 = nI k) (hp : posN t k ≤ 96) (hk : k < 48) : ∀ K, (posN t k < c ∨ k = 0) → H_MD_night_12 K 1 s = F_MD_night_34 K s := fun K h => by
  unfold H_MD_night_12
  rw [if_neg (show ¬ (1 : Int32) = 0 by decide), h16, hx.1, h17]
  by_cases g : posN t k < c
  · rw [if_pos (nI_lt g (by omega))]
  · rw [if_neg (nI_nlt (by omega) (by omega)), if_pos (show nI k = 0 by rw [h.resolve_left g]; rfl)]
theorem goT {s : St} {t : Nat → Nat} {c N : Nat} (hx : TxM s t c) (hc : c ≤ 96) (ht : ∀ j, j < c → t j < 256) (hok : OkTo t c N) (h16 : rd s 58 16 = nI 0) (h17 : rd s 58 17 = nI 0) : ∀ k, k ≤ N → ∃ s', (∀ fuel K, K = fixF G_MD_night_12 fuel → fixF G_MD_night_12 (fuel + k) (1, s) = K (1, s')) ∧ rd s' 58 16 = nI (posN t k) ∧ rd s' 58 17 = nI k ∧ (∀ m, m < k → StR s' t (posN t m) m) ∧ TxF s s' := by
  have hpN := hok.pos
  intro k
  induction k with
  | zero => exact fun _ => ⟨s, fun fuel K hK => by rw [hK]; rfl, h16, h17, fun m hm => absurd hm (Nat.not_lt_zero _), fun b j _ => rfl⟩
  | succ k ih =>
    intro hk
    obtain ⟨s1, i1, i2, i3, i4, i5⟩ := ih (by omega)
    have hfl := hok k (by omega)
    have hds := DgS.of hfl
    have hp := hds.p
    have hpk := (show OkTo t c k from fun m hm => hok m (by omega)).pos
    have hx1 : TxM s1 t c := hx.un (i5 58 15 (by omega)) (fun j => i5 68 j (by omega))
    have h1 := stepT hx1 hc ht i2 i3 (by omega) (by omega)
    rcases stateM hx1 hc ht i2 i3 (by omega) (by omega) with ⟨_, s2, j1, j2, j3, j4⟩ | ⟨f, s2, j1, _⟩
    · have e17 : rd s2 58 17 = nI k := (j4 58 17 (by omega)).trans i3
      refine ⟨wr s2 58 17 (nI (k + 1)), fun fuel K hK => ?_, by rw [rd_wr_slot _ _ _ _ (by decide), j2, posN_s], rd_wr_same _ _ _ _, fun m hm => ?_, fun b j w => ?_⟩
      · have := i1 (fuel + 1) (fixF G_MD_night_12 (fuel + 1)) rfl
        rw [show fuel + (k + 1) = fuel + 1 + k by omega, this]
        show H_MD_night_12 (fixF G_MD_night_12 fuel) 1 s1 = _
        rw [← hK, h1 K (Or.inl hp)]
        unfold F_MD_night_34 F_MD_night_53
        rw [j1, Option.bind_some, if_neg (show ¬ (1 : Int32) = 0 by decide)]
        simp only
        rw [e17, Option.bind_some, nI_1]
      · have cel : ∀ b j, ¬ (b = 58) → rd (wr s2 58 17 (nI (k + 1))) b j = rd s2 b j := fun b j w => rd_wr_cell _ _ _ _ w
        by_cases e : m = k
        · subst e
          exact ⟨(cel 69 _ (by decide)).trans j3.1, (cel 70 _ (by decide)).trans j3.2.1, (cel 71 _ (by decide)).trans j3.2.2.1, (cel 71 _ (by decide)).trans j3.2.2.2.1, fun q => (cel 71 _ (by decide)).trans (j3.2.2.2.2 q)⟩
        · obtain ⟨k1, k2, k3, k4, k5⟩ := i4 m (by omega)
          exact ⟨((cel 69 _ (by decide)).trans (j4 69 m (by omega))).trans k1, ((cel 70 _ (by decide)).trans (j4 70 m (by omega))).trans k2, ((cel 71 _ (by decide)).trans (j4 71 _ (by omega))).trans k3, ((cel 71 _ (by decide)).trans (j4 71 _ (by omega))).trans k4, fun q => ((cel 71 _ (by decide)).trans (j4 71 _ (by omega))).trans (k5 q)⟩
      · rw [rd_wr, if_neg (by omega), j4 b j (by omega)]
        exact i5 b j w
    · rw [hfl] at j1; cases j1
theorem goodT {s : St} {t : Nat → Nat} {c N : Nat} (hx : TxM s t c) (hc : c ≤ 96) (ht : ∀ j, j < c → t j < 256) (hok : OkTo t c N) (hN : posN t N = c) (hN0 : 0 < N) (h16 : rd s 58 16 = nI 0) (h17 : rd s 58 17 = nI 0) : ∃ s', F_MD_night_12 1 s = F_MD_night_60 1 s' ∧ rd s' 58 17 = nI N ∧ (∀ m, m < N → StR s' t (posN t m) m) ∧ TxF s s' := by
  have hpN := hok.pos
  obtain ⟨s1, i1, i2, i3, i4, i5⟩ := goT hx hc ht hok h16 h17 N (Nat.le_refl N)
  refine ⟨s1, ?_, i3, i4, i5⟩
  have hF : FUEL = (FUEL - N - 1 + 1) + N := by rw [fuel_val]; omega
  unfold F_MD_night_12
  rw [hF, i1 (FUEL - N - 1 + 1) _ rfl]
  show H_MD_night_12 _ 1 s1 = _
  unfold H_MD_night_12
  rw [if_neg (show ¬ (1 : Int32) = 0 by decide), i2, (i5 58 15 (by omega)).trans hx.1, i3, hN, if_neg (show ¬ nI c < nI c from nI_nlt (Nat.le_refl _) (by omega)), if_neg (show ¬ nI N = 0 from lit_ne (k := 0) (by omega) (by decide) (by omega))]
theorem badT {s : St} {t : Nat → Nat} {c N f : Nat} (hx : TxM s t c) (hc : c ≤ 96) (ht : ∀ j, j < c → t j < 256) (hok : OkTo t c N) (hN : fltN t c (posN t N) = some f) (hN0 : posN t N < c ∨ N = 0) (h16 : rd s 58 16 = nI 0) (h17 : rd s 58 17 = nI 0) : ∃ s', F_MD_night_12 1 s = F_MD_night_60 0 s' ∧ rd s' 58 16 = nI f ∧ TxF s s' := by
  have hpN := hok.pos
  obtain ⟨s1, i1, i2, i3, i4, i5⟩ := goT hx hc ht hok h16 h17 N (Nat.le_refl N)
  have hx1 : TxM s1 t c := hx.un (i5 58 15 (by omega)) (fun j => i5 68 j (by omega))
  have h1 := stepT hx1 hc ht i2 i3 (by omega) (by omega)
  rcases stateM hx1 hc ht i2 i3 (by omega) (by omega) with ⟨j0, _⟩ | ⟨f', s2, j0, j1, j2, j4⟩
  · rw [hN] at j0; cases j0
  · rw [hN] at j0
    cases j0
    have e17 : rd s2 58 17 = nI N := (j4 58 17 (by omega)).trans i3
    refine ⟨wr s2 58 17 (nI N), ?_, by rw [rd_wr_slot _ _ _ _ (by decide)]; exact j2, fun b j w => by rw [rd_wr, if_neg (by omega), j4 b j (by omega)]; exact i5 b j w⟩
    have hF : FUEL = (FUEL - N - 2 + 1 + 1) + N := by rw [fuel_val]; omega
    unfold F_MD_night_12
    rw [hF, i1 (FUEL - N - 2 + 1 + 1) _ rfl]
    show H_MD_night_12 (fixF G_MD_night_12 (FUEL - N - 2 + 1)) 1 s1 = _
    rw [h1 _ hN0]
    unfold F_MD_night_34 F_MD_night_53
    rw [j1, Option.bind_some, if0]
    simp only
    rw [e17, Option.bind_some, Int32.add_zero]
    show H_MD_night_12 (fixF G_MD_night_12 (FUEL - N - 2)) 0 (wr s2 58 17 (nI N)) = _
    unfold H_MD_night_12
    rw [if_pos rfl]
