-- night
def ntN (t : Nat → Nat) (A : Nt) : Nat → Option Nt
  | 0 => some A
  | n + 1 => (ntN t A n).bind fun B => tlN t B (posN t n)
theorem ntN_s (t : Nat → Nat) (A : Nt) (n : Nat) : ntN t A (n + 1) = (ntN t A n).bind fun B => tlN t B (posN t n) := rfl
theorem ntN_lt {t : Nat → Nat} {A : Nt} {m : Nat} : ∀ {n : Nat} {B : Nt}, ntN t A n = some B → m ≤ n → ∃ B', ntN t A m = some B'
  | 0, B, h, hm => ⟨B, by rw [show m = 0 by omega]; exact h⟩
  | n + 1, B, h, hm => by
    by_cases e : m = n + 1
    · exact ⟨B, by rw [e]; exact h⟩
    · rw [ntN_s] at h
      obtain ⟨B', h1, _⟩ := Option.bind_eq_some_iff.mp h
      exact ntN_lt h1 (by omega)
theorem tellC {s : St} {A : Nt} {t : Nat → Nat} {c N : Nat} (hA : AbsC s 19 A) (hG : GdN A) (hx : TxC s t c) (hc : c ≤ 96) (ht : ∀ j, j < c → t j < 256) (hok : OkTo t c N) (hN : posN t N = c) : ∃ w s', F_LT_tell_20 19 0 0 s = some (w, s') ∧ Fr [19, 20, 21, 22, 23, 24, 25, 26, 27] s s' ∧ ((∃ B, ntN t A N = some B ∧ GdN B ∧ AbsC s' 19 B ∧ w = nI N) ∨ ∃ M B, M < N ∧ ntN t A M = some B ∧ GdN B ∧ tlN t B (posN t M) = none ∧ w = -2000 - nI (posN t M)) := by
  have hpN := hok.pos
  have hfin := fix_inv (f := G_LT_tell_20 19) (n := N) (s0 := (nI 0, nI 0, s)) (fun k q => q.1 = nI k ∧ q.2.1 = nI (posN t k) ∧ Fr [19, 20, 21, 22, 23, 24, 25, 26, 27] s q.2.2 ∧ ∃ B, ntN t A k = some B ∧ GdN B ∧ AbsC q.2.2 19 B) (fun o => ∃ w s', o = some (w, s') ∧ Fr [19, 20, 21, 22, 23, 24, 25, 26, 27] s s' ∧ ((∃ B, ntN t A N = some B ∧ GdN B ∧ AbsC s' 19 B ∧ w = nI N) ∨ ∃ M B, M < N ∧ ntN t A M = some B ∧ GdN B ∧ tlN t B (posN t M) = none ∧ w = -2000 - nI (posN t M))) (by rw [fuel_val]; omega) ⟨rfl, rfl, Fr.rf, A, rfl, hG, hA⟩ (by
    rintro k ⟨v3, v4, s1⟩ hk ⟨e1, e2, hf, B, hB, hGB, hAB⟩
    simp only at e1 e2 hf hAB
    subst e1; subst e2
    have hds := DgS.of (hok k hk)
    have hp := hds.p
    have htp := ht _ hp
    have hD := dgt_le (t (posN t k))
    have hx1 : TxC s1 t c := ⟨(hf.at (by decide) 0).trans hx.1, fun j hj => (hf.at (by decide) j).trans (hx.2 j hj)⟩
    rcases stateC hAB hGB hx1 hc ht hds with ⟨h1, h2⟩ | ⟨B', s2, h1, h2, h3, h4⟩
    · right
      refine ⟨_, ⟨_, s1, rfl, hf, Or.inr ⟨k, B, hk, hB, hGB, h1, rfl⟩⟩, fun K => ?_⟩
      show H_LT_tell_20 19 K (nI k) (nI (posN t k)) s1 = _
      unfold H_LT_tell_20
      rw [hx1.1, if_neg (nI_ge hp (by omega)), h2, Option.bind_some, if0]
    · left
      have hx2 : TxC s2 t c := ⟨(h3.at (by decide) 0).trans hx1.1, fun j hj => (h3.at (by decide) j).trans (hx1.2 j hj)⟩
      refine ⟨(nI (k + 1), nI (posN t (k + 1)), s2), ⟨rfl, rfl, hf.two h3, B', by rw [ntN_s, hB, Option.bind_some]; exact h1, tlN_ok hGB hds h1, h4⟩, fun K => ?_⟩
      show H_LT_tell_20 19 K (nI k) (nI (posN t k)) s1 = _
      unfold H_LT_tell_20
      rw [hx1.1, if_neg (nI_ge hp (by omega)), h2, Option.bind_some, if1, atC al_35 (by omega), Option.bind_some]
      simp only
      rw [hx2.2 _ hp, digitsOfC htp, Option.bind_some, show (2 : Int32) = nI 2 from rfl, nI_sum, nI_sum, Option.bind_some, nI_1, posN_s, Nat.add_assoc]) (by
    rintro ⟨v3, v4, s1⟩ ⟨e1, e2, hf, B, hB, hGB, hAB⟩
    simp only at e1 e2 hf hAB
    subst e1; subst e2
    refine ⟨_, ⟨_, s1, rfl, hf, Or.inl ⟨B, hB, hGB, hAB, rfl⟩⟩, fun K => ?_⟩
    show H_LT_tell_20 19 K (nI N) (nI (posN t N)) s1 = _
    unfold H_LT_tell_20
    rw [(hf.at (by decide) 0).trans hx.1, hN, if_pos (Int32.le_refl _)])
  exact hfin
def TxF (s s' : St) : Prop := ∀ b j, ¬ (69 ≤ b ∧ b ≤ 71 ∨ b = 58 ∧ (j = 16 ∨ j = 17)) → rd s' b j = rd s b j
theorem stepT {s : St} {t : Nat → Nat} {c k : Nat} (hx : TxM s t c) (hc : c ≤ 96) (ht : ∀ j, j < c → t j < 256) (h16 : rd s 58 16 = nI (posN t k)) (h17 : rd s 58 17 = nI k) (hp : posN t k ≤ 96) (hk : k < 48) : ∀ K, (posN t k < c ∨ k = 0) → H_MD_night_12 K 1 s = F_MD_night_34 K s := fun K h => by
  unfold H_MD_night_12
  rw [if_neg (show ¬ (1 : Int32) = 0 by decide), h16, hx.1, h17]
  by_cases g : posN t k < c
  · rw [if_pos (nI_lt g (by omega))]
  · rw [if_neg (nI_nlt (by omega) (by omega)), if_pos (show nI k = 0 by rw [h.resolve_left g]; rfl)]
