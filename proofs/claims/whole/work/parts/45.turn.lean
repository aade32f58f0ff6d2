-- the line turned round
theorem mT_cong {Z : Pz} {od od' : Nat → Nat} {T0 : Nat} : ∀ {k : Nat}, (∀ j, j < k → od j = od' j) → mT Z od T0 k = mT Z od' T0 k
  | 0, _ => rfl
  | k + 1, h => by
    have ih : mT Z od T0 k = mT Z od' T0 k := mT_cong (fun j hj => h j (by omega))
    show addT (mT Z od T0 k) (mk1 Z (od k) (mT Z od T0 k)) = addT (mT Z od' T0 k) (mk1 Z (od' k) (mT Z od' T0 k))
    rw [ih, h k (by omega)]
theorem mC_cong {Z : Pz} {od od' : Nat → Nat} {T0 k : Nat} (h : ∀ j, j ≤ k → od j = od' j) : mC Z od T0 k = mC Z od' T0 k := by
  unfold mC
  rw [mT_cong (fun j hj => h j (by omega)), h k (Nat.le_refl _)]
theorem plc_cong {od od' : Nat → Nat} {p : Nat} : ∀ {n : Nat}, (∀ j, j < n → od j = od' j) → plc od p n = plc od' p n
  | 0, _ => rfl
  | n + 1, h => by
    unfold plc
    rw [h n (by omega), plc_cong (fun j hj => h j (by omega))]
theorem tkO_cong {Z : Pz} {od od' : Nat → Nat} {T0 p : Nat} (ho : OdOK (zP Z) od) (hp : p < zP Z) (h : ∀ j, j < zP Z → od j = od' j) : tkO Z od T0 p = tkO Z od' T0 p := by
  unfold tkO
  rw [← plc_cong h]
  have := ho.plc_lt hp
  exact mC_cong (fun j hj => h j (by omega))
theorem moO_cong {Z : Pz} {od od' : Nat → Nat} {T0 p : Nat} (ho : OdOK (zP Z) od) (hp : p < zP Z) (h : ∀ j, j < zP Z → od j = od' j) : moO Z od T0 p = moO Z od' T0 p := by
  unfold moO
  rw [tkO_cong ho hp h]
def rvO (P : Nat) (od : Nat → Nat) : Nat → Nat := fun k => od (P - 1 - k)
theorem OdOK.rv {P : Nat} {od : Nat → Nat} (h : OdOK P od) : OdOK P (rvO P od) :=
  ⟨fun k hk => h.1 _ (by omega), fun j k hj hk e => by have := h.2 (P - 1 - j) (P - 1 - k) (by omega) (by omega) e; omega⟩
theorem turnRoundC {σ : St} {A : Nt} (hN : NowI σ A) : ∃ s, F_AC_turnRound σ = some s ∧ Fr [54] σ s ∧ ∀ k, k < nP A → rd s 54 k = nI (rvO (nP A) (nOd A) k) := by
  have hP := hN.1.P
  have e1 : rd σ 1 1 = nI (nP A) := hN.2.2.1.2.1
  have hod : ∀ k, k < nP A → rd σ 9 k = nI (nOd A k) := fun k hk => (hN.2.2.1.2.2.2 k hk).2.2.2.2.2
  obtain ⟨⟨w, s⟩, ⟨hw, hf, hall⟩, hr⟩ := fix_rel (f := G_AC_turnRound_2) (n := nP A) (s0 := (nI 0, σ)) (fun k q => q.1 = nI k ∧ Fr [54] σ q.2 ∧ ∀ j, j < k → rd q.2 54 j = nI (rvO (nP A) (nOd A) j)) (by rw [fuel_val]; omega) ⟨rfl, Fr.rf, fun j hj => absurd hj (Nat.not_lt_zero _)⟩ (by
    rintro k ⟨w, s⟩ hk ⟨hw, hf, hall⟩
    simp only at hw hf hall
    subst hw
    refine ⟨(nI (k + 1), wr s 54 k (nI (rvO (nP A) (nOd A) k))), ⟨rfl, hf.two (Fr.wr (by simp)), fun j hj => ?_⟩, fun K => ?_⟩
    · by_cases q : j = k
      · subst q; exact rd_wr_same _ _ _ _
      · rw [rd_wr_slot _ _ _ _ q]; exact hall j (by omega)
    · show H_AC_turnRound_2 K (nI k) s = _
      unfold H_AC_turnRound_2
      rw [hf.at (by decide) 1, e1, if_neg (nI_ge hk (by omega)), nI_dec (by omega), pk_sub (show k ≤ nP A - 1 by omega), atC al_9 (by omega), Option.bind_some]
      simp only
      rw [hf.at (by decide) _, hod _ (by omega), putC al_54 (by omega), Option.bind_some, nI_1]
      rfl)
  refine ⟨s, ?_, hf, hall⟩
  unfold F_AC_turnRound F_AC_turnRound_2
  refine hr _ (fun K => ?_)
  show H_AC_turnRound_2 K w s = _
  unfold H_AC_turnRound_2
  simp only at hw
  rw [hw, hf.at (by decide) 1, e1, if_pos (Int32.le_refl _)]
