-- lastWord
def rwO (P : Nat) (g : Nat → Nat) (k i : Nat) : Nat := if i < k ∨ (P < i + k + 2 ∧ i + 2 ≤ P) then g (P - 2 - i) else g i
theorem lastOrd {P f : Nat} {od : Nat → Nat} (hf : f < P) : ∀ k, k < P → mvO (rvO P od) (P - 1 - f) (P - 1) k = rwO P (mvO od f (P - 1)) ((P - 1) / 2) k := by
  intro k hk
  have key : ∀ x y : Nat, x = y → od x = od y := fun x y e => by rw [e]
  unfold mvO rvO rwO
  by_cases c : k < (P - 1) / 2 ∨ (P < k + (P - 1) / 2 + 2 ∧ k + 2 ≤ P)
  · rw [if_pos c]
    apply key
    unfold mvI
    (repeat' split) <;> omega
  · rw [if_neg c]
    apply key
    unfold mvI
    (repeat' split) <;> omega
theorem lastM {σ : St} {A : Nt} (hN : NowI σ A) {g : Nat → Nat} (hg : ∀ k, k < nP A → rd σ 74 k = nI (g k)) {p x : Nat} (hp : p < nP A) (ho : OdOK (nP A) (rwO (nP A) g ((nP A - 1) / 2))) (hx : x < 1000) : ∃ s, F_MD_lastWord_28 (nI p) (nI x) 0 σ = some (nI (min x (moO (prA 7 A) (rwO (nP A) g ((nP A - 1) / 2)) 0 p)), s) ∧ Fr [73, 74] σ s := by
  have hP := hN.1.P
  obtain ⟨⟨w, s⟩, ⟨hw, hf, hall⟩, hr⟩ := fix_rel (f := G_MD_lastWord_28 (nI p) (nI x)) (n := (nP A - 1) / 2) (s0 := (nI 0, σ)) (fun k q => q.1 = nI k ∧ Fr [74] σ q.2 ∧ ∀ j, j < nP A → rd q.2 74 j = nI (rwO (nP A) g k j)) (by rw [fuel_val]; omega) ⟨rfl, Fr.rf, fun j hj => by
      rw [hg j hj]
      unfold rwO
      rw [if_neg (by omega)]⟩ (by
    rintro k ⟨w, s⟩ hk ⟨hw, hf, hall⟩
    simp only at hw hf hall
    subst hw
    have e10 : ∀ τ : St, rd τ 58 10 = rd σ 58 10 → rd τ 58 10 = nI (nP A) := fun τ e => e.trans hN.2.2.2.1.1.2.1
    have i1 := hall k (by omega)
    have i2 := hall (nP A - 2 - k) (by omega)
    refine ⟨(nI (k + 1), wr (wr s 74 k (nI (rwO (nP A) g k (nP A - 2 - k)))) 74 (nP A - 2 - k) (nI (rwO (nP A) g k k))), ⟨rfl, (hf.two (Fr.wr (by simp))).two (Fr.wr (by simp)), fun j hj => ?_⟩, fun K => ?_⟩
    · rw [rd_wr, rd_wr]
      simp only [true_and]
      by_cases c1 : j = nP A - 2 - k
      · rw [if_pos c1]
        congr 1
        unfold rwO
        rw [if_neg (by omega), if_pos (by omega)]
        congr 1
        omega
      · rw [if_neg c1]
        by_cases c2 : j = k
        · rw [if_pos c2]
          congr 1
          unfold rwO
          rw [if_neg (by omega), if_pos (by omega)]
          congr 1
          omega
        · rw [if_neg c2, hall j hj]
          congr 1
          unfold rwO
          by_cases c3 : j < k ∨ (nP A < j + k + 2 ∧ j + 2 ≤ nP A)
          · rw [if_pos c3, if_pos (by omega)]
          · rw [if_neg c3, if_neg (by omega)]
    · show H_MD_lastWord_28 (nI p) (nI x) K (nI k) s = _
      unfold H_MD_lastWord_28
      have es := e10 s (hf.at (by decide) 10)
      have e2 : nI (nP A) - (2 : Int32) - nI k = nI (nP A - 2 - k) := by
        rw [show (2 : Int32) = nI 2 from rfl, pk_sub (by omega), pk_sub (by omega)]
      have ed : (nI (nP A) - (1 : Int32)) / (2 : Int32) = nI ((nP A - 1) / 2) := by
        rw [nI_dec (by omega), show (2 : Int32) = nI 2 from rfl, pk_div (by omega) (by decide) (by decide)]
      rw [es, ed, if_neg (nI_ge hk (by omega)), ldk al_74 (by omega), Option.bind_some, e2, ldk al_74 (by omega), Option.bind_some, stk al_74 (by omega), Option.bind_some, rd_wr_cell _ _ _ _ (show 58 ≠ 74 by decide), es, e2, stk al_74 (by omega), Option.bind_some, i1, i2, nI_1])
  simp only at hw hf hall
  have hNs : NowI s A := hN.q (Qf.of hf (by decide))
  obtain ⟨s2, b1, b2, b3⟩ := goesByM hNs.2.2.2.1 hNs.1 ho hall hNs.2.2.2.2 (by decide)
  have hN2 : NowI s2 A := hNs.q (Qf.of b2 (by decide))
  refine ⟨s2, ?_, (hf.sub (by simp)).two (b2.sub (by simp))⟩
  have hle : moO (prA 7 A) (rwO (nP A) g ((nP A - 1) / 2)) 0 p ≤ 78 := moO_le (prA_ok hN.1 7) hp
  unfold F_MD_lastWord_28
  show fixF (G_MD_lastWord_28 (nI p) (nI x)) FUEL (nI 0, σ) = _
  refine hr _ (fun K => ?_)
  show H_MD_lastWord_28 (nI p) (nI x) K w s = _
  unfold H_MD_lastWord_28
  have ed : (nI (nP A) - (1 : Int32)) / (2 : Int32) = nI ((nP A - 1) / 2) := by
    rw [nI_dec (by omega), show (2 : Int32) = nI 2 from rfl, pk_div (by omega) (by decide) (by decide)]
  rw [show rd s 58 10 = nI (nP A) from hNs.2.2.2.1.1.2.1, ed, hw, if_pos (Int32.le_refl _), b1, Option.bind_some, hasM7 hN2 hp (b3 p hp), Option.bind_some]
  simp only
  by_cases c : x ≤ moO (prA 7 A) (rwO (nP A) g ((nP A - 1) / 2)) 0 p
  · rw [if_pos (nI_le c (by omega)), Nat.min_eq_left c]
  · rw [if_neg (nI_ge (by omega) (by omega)), hasM7 hN2 hp (b3 p hp), Option.bind_some, Nat.min_eq_right (by omega)]
