-- a line: an order to be tried
def mvI (f j k : Nat) : Nat := if k = j then f else if f ≤ k ∧ k < j then k + 1 else if j < k ∧ k ≤ f then k - 1 else k
def mvO (od : Nat → Nat) (f j : Nat) : Nat → Nat := fun k => od (mvI f j k)
theorem mvI_lt {P f j k : Nat} (hf : f < P) (hj : j < P) (hk : k < P) : mvI f j k < P := by
  unfold mvI
  split
  · exact hf
  · split
    · omega
    · split <;> omega
theorem mvI_inj {P f j k l : Nat} (hf : f < P) (hj : j < P) (hk : k < P) (hl : l < P) (h : mvI f j k = mvI f j l) : k = l := by
  unfold mvI at h
  split at h <;> split at h <;> (try split at h) <;> (try split at h) <;> (try split at h) <;> (try split at h) <;> omega
theorem mvI_0 {f k : Nat} (h : k ≠ f) : mvI f f k = k := by
  unfold mvI
  (repeat' split) <;> omega
theorem mvI_dn {f c k : Nat} (h1 : 1 ≤ c) (h2 : c ≤ f) (k1 : k ≠ c) (k2 : k ≠ c - 1) : mvI f (c - 1) k = mvI f c k := by
  unfold mvI
  (repeat' split) <;> omega
theorem mvI_dn2 {f c : Nat} (h1 : 1 ≤ c) (h2 : c ≤ f) : mvI f c (c - 1) = mvI f (c - 1) c := by
  unfold mvI
  (repeat' split) <;> omega
theorem mvI_up {f c k : Nat} (h2 : f ≤ c) (k1 : k ≠ c) (k2 : k ≠ c + 1) : mvI f (c + 1) k = mvI f c k := by
  unfold mvI
  (repeat' split) <;> omega
theorem mvI_up2 {f c : Nat} (h2 : f ≤ c) : mvI f c (c + 1) = mvI f (c + 1) c := by
  unfold mvI
  (repeat' split) <;> omega
theorem OdOK.mv {P : Nat} {od : Nat → Nat} (h : OdOK P od) {f j : Nat} (hf : f < P) (hj : j < P) : OdOK P (mvO od f j) :=
  ⟨fun k hk => h.1 _ (mvI_lt hf hj hk), fun k l hk hl e => mvI_inj hf hj hk hl (h.2 _ _ (mvI_lt hf hj hk) (mvI_lt hf hj hl) e)⟩
theorem lineUpC {σ : St} {c P : Nat} {od : Nat → Nat} (hal : alen c = 7) (hc : c ≠ 54) (hP : P ≤ 7) (hod : ∀ k, k < P → rd σ c k = nI (od k)) : ∃ σ', F_AC_lineUp c σ = some σ' ∧ Fr [54] σ σ' ∧ ∀ k, k < P → rd σ' 54 k = nI (od k) := by
  obtain ⟨⟨w, s⟩, ⟨hw, hf, hall⟩, hr⟩ := fix_rel (f := G_AC_lineUp_2 c) (n := 7) (s0 := (nI 0, σ)) (fun k q => q.1 = nI k ∧ Fr [54] σ q.2 ∧ ∀ j, j < k → rd q.2 54 j = rd σ c j) (by rw [fuel_val]; omega) ⟨rfl, Fr.rf, fun j hj => absurd hj (Nat.not_lt_zero _)⟩ (by
    rintro k ⟨w, s⟩ hk ⟨hw, hf, hall⟩
    simp only at hw hf hall
    subst hw
    refine ⟨(nI (k + 1), wr s 54 k (rd σ c k)), ⟨rfl, hf.two (Fr.wr (by simp)), fun j hj => ?_⟩, fun K => ?_⟩
    · by_cases q : j = k
      · subst q; exact rd_wr_same _ _ _ _
      · rw [rd_wr_slot _ _ _ _ q]; exact hall j (by omega)
    · show H_AC_lineUp_2 c K (nI k) s = _
      unfold H_AC_lineUp_2
      rw [al_54, if_neg (nI_ge hk (by decide)), atC hal hk, Option.bind_some]
      simp only
      rw [hf.at (by simpa using hc) k, stk al_54 hk, Option.bind_some, nI_1])
  refine ⟨s, ?_, hf, fun k hk => (hall k (by omega)).trans (hod k hk)⟩
  unfold F_AC_lineUp F_AC_lineUp_2
  refine hr _ (fun K => ?_)
  show H_AC_lineUp_2 c K w s = _
  unfold H_AC_lineUp_2
  simp only at hw
  rw [hw, al_54, if_pos (Int32.le_refl _)]
theorem moveC {σ : St} {P : Nat} {od : Nat → Nat} {p j : Nat} (hP : P ≤ 7) (h1 : rd σ 1 1 = nI P) (ho : OdOK P od) (hod : ∀ k, k < P → rd σ 54 k = nI (od k)) (hp : p < P) (hj : j < P) : ∃ σ', F_AC_moveInLine (nI p) (nI j) σ = some σ' ∧ Fr [54] σ σ' ∧ ∀ k, k < P → rd σ' 54 k = nI (mvO od (plc od p P) j k) := by
  have pf := ho.plc_lt hp
  have of := ho.od_plc hp
  generalize hfe : plc od p P = f at pf of
  have hplace : F_AC_placeIn 54 (nI P) (nI p) σ = some (nI f, σ) := placeInC al_54 hP (by decide) pf (by rw [hod f pf, of]) (fun i hi e => by
    rw [hod i (by omega)] at e
    have h2 := ho.1 i (by omega)
    have := nI_inj (by omega) (by omega) e
    have := ho.2 i f (by omega) pf (this.trans of.symm)
    omega)
  have fin : ∀ s cur, cur = j → Fr [54] σ s → (∀ k, k < P → k ≠ cur → rd s 54 k = nI (mvO od f cur k)) → ∃ σ', F_AC_moveInLine_77 (nI p) (nI j) s = some σ' ∧ Fr [54] σ σ' ∧ ∀ k, k < P → rd σ' 54 k = nI (mvO od f j k) := by
    rintro s cur rfl hf hall
    refine ⟨wr s 54 cur (nI p), ?_, hf.two (Fr.wr (by simp)), fun k hk => ?_⟩
    · unfold F_AC_moveInLine_77
      rw [putC al_54 (by omega), Option.bind_some]
    · by_cases e : k = cur
      · subst e
        rw [rd_wr_same]
        unfold mvO mvI
        rw [if_pos rfl, of]
      · rw [rd_wr_slot _ _ _ _ e]; exact hall k hk e
  by_cases hjf : j ≤ f
  · -- forwards
    obtain ⟨⟨w, v, s⟩, ⟨hw, hv, hf, hall⟩, hr⟩ := fix_rel (f := G_AC_moveInLine_31 (nI p) (nI j) (-1)) (n := f - j) (s0 := (nI f, nI 0, σ)) (fun i q => q.1 = nI (f - i) ∧ q.2.1 = nI i ∧ Fr [54] σ q.2.2 ∧ ∀ k, k < P → k ≠ f - i → rd q.2.2 54 k = nI (mvO od f (f - i) k)) (by rw [fuel_val]; omega) ⟨rfl, rfl, Fr.rf, fun k hk hne => by
      rw [hod k hk]; unfold mvO
      have e : mvI f f k = k := mvI_0 hne
      exact congrArg (fun x => nI (od x)) e.symm⟩ (by
      rintro i ⟨w, v, s⟩ hi ⟨hw, hv, hf, hall⟩
      simp only at hw hv hf hall
      subst hw; subst hv
      have hm : nI (f - i) + (-1 : Int32) = nI (f - (i + 1)) := by
        have : nI (f - i) + (-1 : Int32) = nI (f - i) - 1 := (Int32.sub_eq_add_neg _ _).symm
        rw [this, nI_dec (by omega)]; congr 1
      refine ⟨(nI (f - (i + 1)), nI (i + 1), wr s 54 (f - i) (rd s 54 (f - (i + 1)))), ⟨rfl, rfl, hf.two (Fr.wr (by simp)), fun k hk hne => ?_⟩, fun K => ?_⟩
      · by_cases e : k = f - i
        · subst e
          rw [rd_wr_same, hall _ (by omega) (by omega)]
          have e2 : mvI f (f - i) (f - i - 1) = mvI f (f - i - 1) (f - i) := mvI_dn2 (by omega) (by omega)
          rw [show f - (i + 1) = f - i - 1 by omega]
          exact congrArg (fun x => nI (od x)) e2
        · rw [rd_wr_slot _ _ _ _ e, hall k hk e]
          rw [show f - (i + 1) = f - i - 1 by omega] at hne ⊢
          have e2 : mvI f (f - i - 1) k = mvI f (f - i) k := mvI_dn (by omega) (by omega) e hne
          exact congrArg (fun x => nI (od x)) e2.symm
      · show H_AC_moveInLine_31 (nI p) (nI j) (-1) K (nI (f - i)) (nI i) s = _
        unfold H_AC_moveInLine_31
        rw [if_neg (show ¬ (7 : Int32) ≤ nI i from nI_ge (b := 7) (by omega) (by decide)), if_neg (nI_pos (by omega)), if_neg (fun e => by have := nI_inj (by omega) (by omega) e; omega), hm, atC al_54 (by omega), Option.bind_some]
        simp only
        rw [putC al_54 (by omega), Option.bind_some, Option.bind_some, nI_1])
    simp only at hw hv hf hall
    obtain ⟨σ', q1, q2, q3⟩ := fin s (f - (f - j)) (by omega) hf hall
    refine ⟨σ', ?_, q2, q3⟩
    unfold F_AC_moveInLine F_AC_moveInLine_26 F_AC_moveInLine_31
    rw [h1, hplace, Option.bind_some]
    simp only
    rw [if_pos (nI_le hjf (by omega))]
    refine hr _ (fun K => ?_)
    show H_AC_moveInLine_31 (nI p) (nI j) (-1) K w v s = _
    unfold H_AC_moveInLine_31
    rw [hw, hv, if_neg (show ¬ (7 : Int32) ≤ nI (f - j) from nI_ge (b := 7) (by omega) (by decide)), if_neg (nI_pos (by omega)), if_pos (by congr 1; omega), q1]
  · -- backwards
    obtain ⟨⟨w, v, s⟩, ⟨hw, hv, hf, hall⟩, hr⟩ := fix_rel (f := G_AC_moveInLine_31 (nI p) (nI j) 1) (n := j - f) (s0 := (nI f, nI 0, σ)) (fun i q => q.1 = nI (f + i) ∧ q.2.1 = nI i ∧ Fr [54] σ q.2.2 ∧ ∀ k, k < P → k ≠ f + i → rd q.2.2 54 k = nI (mvO od f (f + i) k)) (by rw [fuel_val]; omega) ⟨rfl, rfl, Fr.rf, fun k hk hne => by
      rw [hod k hk]; unfold mvO
      have e : mvI f f k = k := mvI_0 hne
      exact congrArg (fun x => nI (od x)) e.symm⟩ (by
      rintro i ⟨w, v, s⟩ hi ⟨hw, hv, hf, hall⟩
      simp only at hw hv hf hall
      subst hw; subst hv
      refine ⟨(nI (f + (i + 1)), nI (i + 1), wr s 54 (f + i) (rd s 54 (f + i + 1))), ⟨rfl, rfl, hf.two (Fr.wr (by simp)), fun k hk hne => ?_⟩, fun K => ?_⟩
      · by_cases e : k = f + i
        · subst e
          rw [rd_wr_same, hall _ (by omega) (by omega)]
          have e2 : mvI f (f + i) (f + i + 1) = mvI f (f + i + 1) (f + i) := mvI_up2 (by omega)
          exact congrArg (fun x => nI (od x)) e2
        · rw [rd_wr_slot _ _ _ _ e, hall k hk e]
          have e2 : mvI f (f + i + 1) k = mvI f (f + i) k := mvI_up (by omega) e hne
          exact congrArg (fun x => nI (od x)) e2.symm
      · show H_AC_moveInLine_31 (nI p) (nI j) 1 K (nI (f + i)) (nI i) s = _
        unfold H_AC_moveInLine_31
        rw [if_neg (show ¬ (7 : Int32) ≤ nI i from nI_ge (b := 7) (by omega) (by decide)), if_neg (nI_pos (by omega)), if_neg (fun e => by have := nI_inj (by omega) (by omega) e; omega), nI_1, atC al_54 (by omega), Option.bind_some]
        simp only
        rw [putC al_54 (by omega), Option.bind_some, Option.bind_some, nI_1]
        rfl)
    simp only at hw hv hf hall
    obtain ⟨σ', q1, q2, q3⟩ := fin s (f + (j - f)) (by omega) hf hall
    refine ⟨σ', ?_, q2, q3⟩
    unfold F_AC_moveInLine F_AC_moveInLine_26 F_AC_moveInLine_31
    rw [h1, hplace, Option.bind_some]
    simp only
    rw [if_neg (nI_ge (by omega) (by omega))]
    refine hr _ (fun K => ?_)
    show H_AC_moveInLine_31 (nI p) (nI j) 1 K w v s = _
    unfold H_AC_moveInLine_31
    rw [hw, hv, if_neg (show ¬ (7 : Int32) ≤ nI (j - f) from nI_ge (b := 7) (by omega) (by decide)), if_neg (nI_pos (by omega)), if_pos (by congr 1; omega), q1]
