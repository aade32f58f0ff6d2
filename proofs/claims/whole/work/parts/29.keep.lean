-- the model's store: rows passed to it and back
def tot : List Nat → Nat
  | [] => 0
  | t :: l => alen t + tot l
theorem tot_app : ∀ (l m : List Nat), tot (l ++ m) = tot l + tot m
  | [], m => by simp [tot]
  | t :: l, m => by simp [tot, tot_app l m, Nat.add_assoc]
def passesL : List Nat → St → Option St
  | [], s => some s
  | t :: l, s => (F_MD_passes t s).bind (passesL l)
theorem kp1 {s : St} {t c : Nat} (h8 : t ≠ 58) (h2 : t ≠ 72) (hk : rd s 58 20 = 1) (hc : rd s 58 21 = nI c) (hb : c + alen t ≤ 800) :
    ∃ s', F_MD_passes t s = some s' ∧ rd s' 58 21 = nI (c + alen t) ∧ (∀ j, j < alen t → rd s' 72 (c + j) = rd s t j) ∧ ∀ b j, ¬ (b = 72 ∧ c ≤ j ∧ j < c + alen t ∨ b = 58 ∧ j = 21) → rd s' b j = rd s b j := by
  obtain ⟨⟨w, q⟩, ⟨hw, h1, h3, h4⟩, hr⟩ := fix_rel (f := G_MD_passes_2 t) (n := alen t) (s0 := (nI 0, s)) (fun k q => q.1 = nI k ∧ rd q.2 58 21 = nI (c + k) ∧ (∀ j, j < k → rd q.2 72 (c + j) = rd s t j) ∧ ∀ b j, ¬ (b = 72 ∧ c ≤ j ∧ j < c + k ∨ b = 58 ∧ j = 21) → rd q.2 b j = rd s b j) (by rw [fuel_val]; omega) ⟨rfl, hc, fun j hj => absurd hj (Nat.not_lt_zero _), fun b j _ => rfl⟩ (by
    rintro k ⟨w, q⟩ hk2 ⟨hw, h1, h3, h4⟩
    simp only at hw h1 h3 h4
    subst hw
    refine ⟨(nI (k + 1), wr (wr q 72 (c + k) (rd s t k)) 58 21 (nI (c + (k + 1)))), ⟨rfl, rd_wr_same _ _ _ _, fun j hj => ?_, fun b j hn => ?_⟩, fun K => ?_⟩
    · rw [rd_wr_cell _ _ _ _ (by decide), rd_wr]
      by_cases e : j = k
      · subst e; rw [if_pos ⟨rfl, rfl⟩]
      · rw [if_neg (by omega)]; exact h3 j (by omega)
    · rw [rd_wr, if_neg (by omega), rd_wr, if_neg (by omega)]
      exact h4 b j (by omega)
    · show H_MD_passes_2 t K (nI k) q = _
      unfold H_MD_passes_2 F_MD_passes_42
      rw [if_neg (nI_ge hk2 (by omega)), h4 58 20 (by omega), hk, if_neg (by decide), ldA_in hk2 (by omega), Option.bind_some, h1, stk al_72 (by omega), Option.bind_some, Option.bind_some]
      rw [rd_wr_cell _ _ _ _ (by decide), h1, nI_1, nI_1, h4 t k (by omega)]
      rfl)
  refine ⟨q, ?_, h1, h3, h4⟩
  unfold F_MD_passes F_MD_passes_2
  refine hr _ (fun K => ?_)
  show H_MD_passes_2 t K w q = _
  unfold H_MD_passes_2
  simp only at hw
  rw [hw, if_pos (Int32.le_refl _)]
theorem pt1 {s : St} {t c : Nat} (h8 : t ≠ 58) (h2 : t ≠ 72) (hk : rd s 58 20 = 0) (hc : rd s 58 21 = nI c) (hb : c + alen t ≤ 800) :
    ∃ s', F_MD_passes t s = some s' ∧ rd s' 58 21 = nI (c + alen t) ∧ (∀ j, j < alen t → rd s' t j = rd s 72 (c + j)) ∧ ∀ b j, ¬ (b = t ∧ j < alen t ∨ b = 58 ∧ j = 21) → rd s' b j = rd s b j := by
  obtain ⟨⟨w, q⟩, ⟨hw, h1, h3, h4⟩, hr⟩ := fix_rel (f := G_MD_passes_2 t) (n := alen t) (s0 := (nI 0, s)) (fun k q => q.1 = nI k ∧ rd q.2 58 21 = nI (c + k) ∧ (∀ j, j < k → rd q.2 t j = rd s 72 (c + j)) ∧ ∀ b j, ¬ (b = t ∧ j < k ∨ b = 58 ∧ j = 21) → rd q.2 b j = rd s b j) (by rw [fuel_val]; omega) ⟨rfl, hc, fun j hj => absurd hj (Nat.not_lt_zero _), fun b j _ => rfl⟩ (by
    rintro k ⟨w, q⟩ hk2 ⟨hw, h1, h3, h4⟩
    simp only at hw h1 h3 h4
    subst hw
    refine ⟨(nI (k + 1), wr (wr q t k (rd s 72 (c + k))) 58 21 (nI (c + (k + 1)))), ⟨rfl, rd_wr_same _ _ _ _, fun j hj => ?_, fun b j hn => ?_⟩, fun K => ?_⟩
    · rw [rd_wr_cell _ _ _ _ h8, rd_wr]
      by_cases e : j = k
      · subst e; rw [if_pos ⟨rfl, rfl⟩]
      · rw [if_neg (by omega)]; exact h3 j (by omega)
    · rw [rd_wr, if_neg (by omega), rd_wr, if_neg (by omega)]
      exact h4 b j (by omega)
    · show H_MD_passes_2 t K (nI k) q = _
      unfold H_MD_passes_2 F_MD_passes_42
      rw [if_neg (nI_ge hk2 (by omega)), h4 58 20 (by omega), hk, if_pos rfl, h1, ldk al_72 (by omega), Option.bind_some, stA_in hk2 (by omega), Option.bind_some, Option.bind_some]
      rw [rd_wr_cell _ _ _ _ (Ne.symm h8), h1, nI_1, nI_1, h4 72 (c + k) (by omega)]
      rfl)
  refine ⟨q, ?_, h1, h3, h4⟩
  unfold F_MD_passes F_MD_passes_2
  refine hr _ (fun K => ?_)
  show H_MD_passes_2 t K w q = _
  unfold H_MD_passes_2
  simp only at hw
  rw [hw, if_pos (Int32.le_refl _)]
theorem keepL : ∀ (l : List Nat) (s : St) (c : Nat), 58 ∉ l → 72 ∉ l → rd s 58 20 = 1 → rd s 58 21 = nI c → c + tot l ≤ 800 →
    ∃ s', passesL l s = some s' ∧ rd s' 58 21 = nI (c + tot l) ∧ (∀ l1 t l2, l = l1 ++ t :: l2 → ∀ j, j < alen t → rd s' 72 (c + tot l1 + j) = rd s t j) ∧ ∀ b j, ¬ (b = 72 ∧ c ≤ j ∧ j < c + tot l ∨ b = 58 ∧ j = 21) → rd s' b j = rd s b j
  | [], s, c, _, _, _, hc, _ => ⟨s, rfl, hc, fun l1 t l2 e => (by cases l1 <;> cases e), fun _ _ _ => rfl⟩
  | t :: l, s, c, h8, h2, hk, hc, hb => by
    rw [List.mem_cons, not_or] at h8 h2
    have ht : tot (t :: l) = alen t + tot l := rfl
    obtain ⟨s1, a1, a2, a3, a4⟩ := kp1 (t := t) (Ne.symm h8.1) (Ne.symm h2.1) hk hc (by omega)
    obtain ⟨s2, b1, b2, b3, b4⟩ := keepL l s1 (c + alen t) h8.2 h2.2 ((a4 58 20 (by omega)).trans hk) a2 (by omega)
    refine ⟨s2, ?_, ?_, ?_, ?_⟩
    · unfold passesL; rw [a1, Option.bind_some, b1]
    · rw [b2, ht, Nat.add_assoc]
    · intro l1 u l2 e j hj
      cases l1 with
      | nil =>
        cases e
        have : tot [] = 0 := rfl
        rw [this, Nat.add_zero, b4 72 _ (by omega)]
        exact a3 j hj
      | cons v l1 =>
        cases e
        have hv : tot (t :: l1) = alen t + tot l1 := rfl
        have := b3 l1 u l2 rfl j hj
        have hu : u ≠ 72 := fun q => h2.2 (by rw [← q]; simp)
        have hu8 : u ≠ 58 := fun q => h8.2 (by rw [← q]; simp)
        rw [hv, show c + (alen t + tot l1) + j = c + alen t + tot l1 + j by omega, this, a4 u j (by omega)]
    · intro b j hn
      rw [b4 b j (by omega), a4 b j (by omega)]
theorem putL : ∀ (l : List Nat) (s : St) (c : Nat), 58 ∉ l → 72 ∉ l → l.Nodup → rd s 58 20 = 0 → rd s 58 21 = nI c → c + tot l ≤ 800 →
    ∃ s', passesL l s = some s' ∧ rd s' 58 21 = nI (c + tot l) ∧ (∀ l1 t l2, l = l1 ++ t :: l2 → ∀ j, j < alen t → rd s' t j = rd s 72 (c + tot l1 + j)) ∧ ∀ b j, ¬ (b ∈ l ∧ j < alen b ∨ b = 58 ∧ j = 21) → rd s' b j = rd s b j
  | [], s, c, _, _, _, _, hc, _ => ⟨s, rfl, hc, fun l1 t l2 e => (by cases l1 <;> cases e), fun _ _ _ => rfl⟩
  | t :: l, s, c, h8, h2, hnd, hk, hc, hb => by
    rw [List.mem_cons, not_or] at h8 h2
    have hnt := (List.nodup_cons.mp hnd).1
    have ht : tot (t :: l) = alen t + tot l := rfl
    obtain ⟨s1, a1, a2, a3, a4⟩ := pt1 (t := t) (Ne.symm h8.1) (Ne.symm h2.1) hk hc (by omega)
    have h8t := h8.1
    have h2t := h2.1
    obtain ⟨s2, b1, b2, b3, b4⟩ := putL l s1 (c + alen t) h8.2 h2.2 (List.nodup_cons.mp hnd).2 ((a4 58 20 (by omega)).trans hk) a2 (by omega)
    refine ⟨s2, ?_, ?_, ?_, ?_⟩
    · unfold passesL; rw [a1, Option.bind_some, b1]
    · rw [b2, ht, Nat.add_assoc]
    · intro l1 u l2 e j hj
      cases l1 with
      | nil =>
        cases e
        have : tot [] = 0 := rfl
        rw [this, Nat.add_zero, b4 t j (fun q => q.elim (fun q => hnt q.1) (fun q => h8t q.1.symm))]
        exact a3 j hj
      | cons v l1 =>
        cases e
        have hv : tot (t :: l1) = alen t + tot l1 := rfl
        have := b3 l1 u l2 rfl j hj
        rw [hv, show c + (alen t + tot l1) + j = c + alen t + tot l1 + j by omega, this, a4 72 _ (by omega)]
    · intro b j hn
      have hn1 : ¬ (b ∈ l ∧ j < alen b ∨ b = 58 ∧ j = 21) := fun q => hn (q.imp (fun w => ⟨List.mem_cons_of_mem _ w.1, w.2⟩) id)
      have hn2 : ¬ (b = t ∧ j < alen t ∨ b = 58 ∧ j = 21) := fun q => hn (q.imp (fun w => ⟨by rw [w.1]; exact List.mem_cons_self, by rw [w.1]; exact w.2⟩) id)
      rw [b4 b j hn1, a4 b j hn2]
def nrows : List Nat := [60, 61, 62, 63, 64, 65, 66, 67]
/-- a slice holds all rows of a memory -/
def SlF (σ : St) (w : Nat) (ρ : St) : Prop := (∀ l1 t l2, nrows = l1 ++ t :: l2 → ∀ j, j < alen t → rd σ 72 (80 * w + tot l1 + j) = rd ρ t j) ∧ rd σ 72 (80 * w + 70) = rd ρ 58 9 ∧ rd σ 72 (80 * w + 71) = rd ρ 58 10
theorem tot_nrows : tot nrows = 70 := rfl
theorem passesAll_eq (a1 : Int32) (a2 : Int32) (s s2 : St) (h : (wrZ (wr s 58 21 (80 * a1)) 58 20 a2) = some s2) : F_MD_passesAll a1 a2 s = ((passesL nrows s2).bind fun s10 => (F_MD_passOne (rd s10 58 9) s10).bind fun o11 => (some (wr o11.2 58 9 o11.1)).bind fun s12 => (F_MD_passOne (rd s12 58 10) s12).bind fun o13 => (some (wr o13.2 58 10 o13.1)).bind fun s14 => some s14) := by
  unfold F_MD_passesAll
  rw [Option.bind_some, h, Option.bind_some]
  simp only [passesL, nrows, Option.bind_assoc]
  rfl
theorem keepAll {σ : St} {w : Nat} (hw : w < 10) : ∃ σ', F_MD_passesAll (nI w) 1 σ = some σ' ∧ SlF σ' w σ ∧ ∀ b j, ¬ (b = 72 ∧ 80 * w ≤ j ∧ j < 80 * w + 80 ∨ b = 58 ∧ (j = 20 ∨ j = 21)) → rd σ' b j = rd σ b j := by
  have e80 : (80 : Int32) * nI w = nI (80 * w) := by rw [show (80 : Int32) = nI 80 from rfl, pk_mul]
  obtain ⟨s, a1, a2, a3, a4⟩ := keepL nrows (wr (wr σ 58 21 (nI (80 * w))) 58 20 1) (80 * w) (by decide) (by decide) (rd_wr_same _ _ _ _) (by rw [rd_wr_slot _ _ _ _ (by decide), rd_wr_same]) (by rw [tot_nrows]; omega)
  rw [tot_nrows] at a2 a4
  have k20 : rd s 58 20 = 1 := by rw [a4 58 20 (by omega)]; exact rd_wr_same _ _ _ _
  have hs : ∀ b j, ¬ (b = 72 ∧ 80 * w ≤ j ∧ j < 80 * w + 80 ∨ b = 58 ∧ (j = 20 ∨ j = 21)) → rd s b j = rd σ b j := fun b j hn => by
    rw [a4 b j (by omega), rd_wr, if_neg (by omega), rd_wr, if_neg (by omega)]
  have h9 : rd s 58 9 = rd σ 58 9 := hs 58 9 (by omega)
  have h10 : rd s 58 10 = rd σ 58 10 := hs 58 10 (by omega)
  let t1 := wr (wr s 72 (80 * w + 70) (rd σ 58 9)) 58 21 (nI (80 * w + 71))
  let t2 := wr t1 58 9 (rd σ 58 9)
  let t3 := wr (wr t2 72 (80 * w + 71) (rd σ 58 10)) 58 21 (nI (80 * w + 72))
  let t4 := wr t3 58 10 (rd σ 58 10)
  refine ⟨t4, ?_, ⟨?_, ?_, ?_⟩, ?_⟩
  · rw [passesAll_eq _ _ _ (wr (wr σ 58 21 (nI (80 * w))) 58 20 1) (by rw [e80]; rfl), a1, Option.bind_some]
    have p1 : F_MD_passOne (rd s 58 9) s = some (rd σ 58 9, t1) := by
      unfold F_MD_passOne F_MD_passOne_20 F_MD_passOne_38
      rw [k20, if_neg (by decide), if_neg (by decide), a2, stk al_72 (by omega), Option.bind_some, Option.bind_some, rd_wr_cell _ _ _ _ (by decide), a2, nI_1, h9]
    have k20' : rd t2 58 20 = 1 := by
      show rd (wr (wr (wr s 72 _ _) 58 21 _) 58 9 _) 58 20 = _
      rw [rd_wr_slot _ _ _ _ (by decide), rd_wr_slot _ _ _ _ (by decide), rd_wr_cell _ _ _ _ (by decide), k20]
    have k21' : rd t2 58 21 = nI (80 * w + 71) := by
      show rd (wr (wr (wr s 72 _ _) 58 21 _) 58 9 _) 58 21 = _
      rw [rd_wr_slot _ _ _ _ (by decide), rd_wr_same]
    have h10' : rd t2 58 10 = rd σ 58 10 := by
      show rd (wr (wr (wr s 72 _ _) 58 21 _) 58 9 _) 58 10 = _
      rw [rd_wr_slot _ _ _ _ (by decide), rd_wr_slot _ _ _ _ (by decide), rd_wr_cell _ _ _ _ (by decide), h10]
    have p2 : F_MD_passOne (rd t2 58 10) t2 = some (rd σ 58 10, t3) := by
      unfold F_MD_passOne F_MD_passOne_20 F_MD_passOne_38
      have k21'' : rd (wr t2 72 (80 * w + 71) (rd σ 58 10)) 58 21 = nI (80 * w + 71) := (rd_wr_cell t2 72 _ _ (by decide)).trans k21'
      rw [k20', if_neg (by decide), if_neg (by decide), k21', h10', stk al_72 (by omega), Option.bind_some, Option.bind_some, k21'', nI_1]
    rw [p1, Option.bind_some, Option.bind_some]
    show ((F_MD_passOne (rd t2 58 10) t2).bind _) = _
    rw [p2]
    rfl
  · intro l1 t l2 e j hj
    have hlen : tot l1 + alen t ≤ 70 := by
      have := congrArg tot e
      rw [tot_nrows, tot_app] at this
      have h2 : tot (t :: l2) = alen t + tot l2 := rfl
      omega
    have ht : t ∈ nrows := by rw [e]; simp
    have ht8 : t ≠ 58 := fun q => absurd (q ▸ ht) (by decide)
    have ht2 : t ≠ 72 := fun q => absurd (q ▸ ht) (by decide)
    show rd (wr (wr (wr (wr (wr (wr s 72 _ _) 58 21 _) 58 9 _) 72 _ _) 58 21 _) 58 10 _) 72 _ = _
    simp only [rd_wr]
    rw [if_neg (by omega), if_neg (by omega), if_neg (by omega), if_neg (by omega), if_neg (by omega), if_neg (by omega), a3 l1 t l2 e j hj, rd_wr_cell _ _ _ _ ht8, rd_wr_cell _ _ _ _ ht8]
  · show rd (wr (wr (wr (wr (wr (wr s 72 _ _) 58 21 _) 58 9 _) 72 _ _) 58 21 _) 58 10 _) 72 _ = _
    simp only [rd_wr]
    rw [if_neg (by omega), if_neg (by omega), if_neg (by omega), if_neg (by omega), if_neg (by omega), if_pos (by simp)]
  · show rd (wr (wr (wr (wr (wr (wr s 72 _ _) 58 21 _) 58 9 _) 72 _ _) 58 21 _) 58 10 _) 72 _ = _
    simp only [rd_wr]
    rw [if_neg (by omega), if_neg (by omega), if_pos (by simp)]
  · intro b j hn
    show rd (wr (wr (wr (wr (wr (wr s 72 _ _) 58 21 _) 58 9 _) 72 _ _) 58 21 _) 58 10 _) b j = _
    simp only [rd_wr]
    by_cases q10 : b = 58 ∧ j = 10
    · rw [if_pos q10, q10.1, q10.2]
    · rw [if_neg q10, if_neg (by omega), if_neg (by omega)]
      by_cases q9 : b = 58 ∧ j = 9
      · rw [if_pos q9, q9.1, q9.2]
      · rw [if_neg q9, if_neg (by omega), if_neg (by omega)]
        exact hs b j hn
theorem putAll {σ : St} {w : Nat} (hw : w < 10) : ∃ σ', F_MD_passesAll (nI w) 0 σ = some σ' ∧ (∀ l1 t l2, nrows = l1 ++ t :: l2 → ∀ j, j < alen t → rd σ' t j = rd σ 72 (80 * w + tot l1 + j)) ∧ rd σ' 58 9 = rd σ 72 (80 * w + 70) ∧ rd σ' 58 10 = rd σ 72 (80 * w + 71) ∧
    ∀ b j, ¬ (b ∈ nrows ∧ j < alen b ∨ b = 58 ∧ (j = 9 ∨ j = 10 ∨ j = 20 ∨ j = 21)) → rd σ' b j = rd σ b j := by
  have e80 : (80 : Int32) * nI w = nI (80 * w) := by rw [show (80 : Int32) = nI 80 from rfl, pk_mul]
  obtain ⟨s, a1, a2, a3, a4⟩ := putL nrows (wr (wr σ 58 21 (nI (80 * w))) 58 20 0) (80 * w) (by decide) (by decide) (by decide) (rd_wr_same _ _ _ _) (by rw [rd_wr_slot _ _ _ _ (by decide), rd_wr_same]) (by rw [tot_nrows]; omega)
  rw [tot_nrows] at a2
  have n8 : ¬ 58 ∈ nrows := by decide
  have n72 : ¬ 72 ∈ nrows := by decide
  have k20 : rd s 58 20 = 0 := by rw [a4 58 20 (fun q => q.elim (fun q => n8 q.1) (fun q => by omega))]; exact rd_wr_same _ _ _ _
  have h72 : ∀ j, rd s 72 j = rd σ 72 j := fun j => by
    rw [a4 72 j (fun q => q.elim (fun q => n72 q.1) (fun q => by omega)), rd_wr_cell _ _ _ _ (by decide), rd_wr_cell _ _ _ _ (by decide)]
  let t1 := wr s 58 21 (nI (80 * w + 71))
  let t2 := wr t1 58 9 (rd σ 72 (80 * w + 70))
  let t3 := wr t2 58 21 (nI (80 * w + 72))
  let t4 := wr t3 58 10 (rd σ 72 (80 * w + 71))
  refine ⟨t4, ?_, ?_, ?_, ?_, ?_⟩
  · rw [passesAll_eq _ _ _ (wr (wr σ 58 21 (nI (80 * w))) 58 20 0) (by rw [e80]; rfl), a1, Option.bind_some]
    have p1 : ∀ x, F_MD_passOne x s = some (rd σ 72 (80 * w + 70), t1) := fun x => by
      unfold F_MD_passOne F_MD_passOne_20 F_MD_passOne_38
      rw [k20, if_pos rfl, a2, ldk al_72 (by omega), Option.bind_some, if_pos rfl, Option.bind_some, nI_1, h72]
    have k20' : rd t2 58 20 = 0 := by
      show rd (wr (wr s 58 21 _) 58 9 _) 58 20 = _
      rw [rd_wr_slot _ _ _ _ (by decide), rd_wr_slot _ _ _ _ (by decide), k20]
    have k21' : rd t2 58 21 = nI (80 * w + 71) := by
      show rd (wr (wr s 58 21 _) 58 9 _) 58 21 = _
      rw [rd_wr_slot _ _ _ _ (by decide), rd_wr_same]
    have h72' : rd t2 72 (80 * w + 71) = rd σ 72 (80 * w + 71) := by
      show rd (wr (wr s 58 21 _) 58 9 _) 72 _ = _
      rw [rd_wr_cell _ _ _ _ (by decide), rd_wr_cell _ _ _ _ (by decide), h72]
    have p2 : ∀ x, F_MD_passOne x t2 = some (rd σ 72 (80 * w + 71), t3) := fun x => by
      unfold F_MD_passOne F_MD_passOne_20 F_MD_passOne_38
      rw [k20', if_pos rfl, k21', ldk al_72 (by omega), Option.bind_some, if_pos rfl, Option.bind_some, nI_1, h72']
    rw [p1, Option.bind_some, Option.bind_some]
    show ((F_MD_passOne (rd t2 58 10) t2).bind _) = _
    rw [p2]
    rfl
  · intro l1 t l2 e j hj
    have ht : t ∈ nrows := by rw [e]; simp
    have ht8 : t ≠ 58 := fun q => absurd (q ▸ ht) (by decide)
    show rd (wr (wr (wr (wr s 58 21 _) 58 9 _) 58 21 _) 58 10 _) t j = _
    rw [rd_wr_cell _ _ _ _ ht8, rd_wr_cell _ _ _ _ ht8, rd_wr_cell _ _ _ _ ht8, rd_wr_cell _ _ _ _ ht8, a3 l1 t l2 e j hj, rd_wr_cell _ _ _ _ (by decide), rd_wr_cell _ _ _ _ (by decide)]
  · show rd (wr (wr (wr (wr s 58 21 _) 58 9 _) 58 21 _) 58 10 _) 58 9 = _
    rw [rd_wr_slot _ _ _ _ (by decide), rd_wr_slot _ _ _ _ (by decide), rd_wr_same]
  · exact rd_wr_same _ _ _ _
  · intro b j hn
    show rd (wr (wr (wr (wr s 58 21 _) 58 9 _) 58 21 _) 58 10 _) b j = _
    simp only [rd_wr]
    rw [if_neg (fun q => hn (Or.inr (by omega))), if_neg (fun q => hn (Or.inr (by omega))), if_neg (fun q => hn (Or.inr (by omega))), if_neg (fun q => hn (Or.inr (by omega))), a4 b j (fun q => hn (q.imp id (by omega))), rd_wr, if_neg (fun q => hn (Or.inr (by omega))), rd_wr, if_neg (fun q => hn (Or.inr (by omega)))]
/-- a slice of rows is a slice of the night -/
theorem SlF.sl {σ ρ : St} {w : Nat} {A : Nt} (h : SlF σ w ρ) (hA : AbsM ρ A) (hO : OkN A) : Sl σ w A := by
  have hD := hO.D
  have hP := hO.P
  have r1 := fun j hj => h.1 [] 60 [61, 62, 63, 64, 65, 66, 67] rfl j hj
  have r2 := fun j hj => h.1 [60] 61 [62, 63, 64, 65, 66, 67] rfl j hj
  have r3 := fun j hj => h.1 [60, 61] 62 [63, 64, 65, 66, 67] rfl j hj
  have r4 := fun j hj => h.1 [60, 61, 62] 63 [64, 65, 66, 67] rfl j hj
  have r5 := fun j hj => h.1 [60, 61, 62, 63] 64 [65, 66, 67] rfl j hj
  have r6 := fun j hj => h.1 [60, 61, 62, 63, 64] 65 [66, 67] rfl j hj
  have r7 := fun j hj => h.1 [60, 61, 62, 63, 64, 65] 66 [67] rfl j hj
  have r8 := fun j hj => h.1 [60, 61, 62, 63, 64, 65, 66] 67 [] rfl j hj
  refine ⟨h.2.1.trans hA.1, h.2.2.trans hA.2.1, fun d hd => ⟨?_, ?_⟩, fun p hp => ?_⟩
  · refine (?_ : _ = rd ρ 60 d).trans (hA.2.2.1 d hd).1
    rw [← r1 d (by rw [al_60]; omega)]
    rfl
  · refine (?_ : _ = rd ρ 61 d).trans (hA.2.2.1 d hd).2
    rw [← r2 d (by rw [al_61]; omega)]
    show rd σ 72 (80 * w + (14 + d)) = rd σ 72 (80 * w + 14 + d)
    rw [Nat.add_assoc]
  · obtain ⟨q3, q4, q5, q6, q7, q8⟩ := hA.2.2.2 p hp
    refine ⟨(?_ : _ = rd ρ 62 p).trans q3, (?_ : _ = rd ρ 63 p).trans q4, (?_ : _ = rd ρ 64 p).trans q5, (?_ : _ = rd ρ 65 p).trans q6, (?_ : _ = rd ρ 66 p).trans q7, (?_ : _ = rd ρ 67 p).trans q8⟩
    · rw [← r3 p (by rw [al_62]; omega)]
      show rd σ 72 (80 * w + (28 + p)) = rd σ 72 (80 * w + 28 + p)
      rw [Nat.add_assoc]
    · rw [← r4 p (by rw [al_63]; omega)]
      show rd σ 72 (80 * w + (35 + p)) = rd σ 72 (80 * w + 35 + p)
      rw [Nat.add_assoc]
    · rw [← r5 p (by rw [al_64]; omega)]
      show rd σ 72 (80 * w + (42 + p)) = rd σ 72 (80 * w + 42 + p)
      rw [Nat.add_assoc]
    · rw [← r6 p (by rw [al_65]; omega)]
      show rd σ 72 (80 * w + (49 + p)) = rd σ 72 (80 * w + 49 + p)
      rw [Nat.add_assoc]
    · rw [← r7 p (by rw [al_66]; omega)]
      show rd σ 72 (80 * w + (56 + p)) = rd σ 72 (80 * w + 56 + p)
      rw [Nat.add_assoc]
    · rw [← r8 p (by rw [al_67]; omega)]
      show rd σ 72 (80 * w + (63 + p)) = rd σ 72 (80 * w + 63 + p)
      rw [Nat.add_assoc]
/-- put back: a night -/
theorem putA {σ : St} {w : Nat} {A : Nt} (hw : w < 10) (h : Sl σ w A) (hO : OkN A) : ∃ σ', F_MD_passesAll (nI w) 0 σ = some σ' ∧ AbsM σ' A ∧ ∀ b j, ¬ (60 ≤ b ∧ b ≤ 67 ∨ b = 58 ∧ (j = 9 ∨ j = 10 ∨ j = 20 ∨ j = 21)) → rd σ' b j = rd σ b j := by
  have hD := hO.D
  have hP := hO.P
  obtain ⟨σ', a1, a2, a3, a4, a5⟩ := putAll (σ := σ) hw
  have r1 := fun j hj => a2 [] 60 [61, 62, 63, 64, 65, 66, 67] rfl j hj
  have r2 := fun j hj => a2 [60] 61 [62, 63, 64, 65, 66, 67] rfl j hj
  have r3 := fun j hj => a2 [60, 61] 62 [63, 64, 65, 66, 67] rfl j hj
  have r4 := fun j hj => a2 [60, 61, 62] 63 [64, 65, 66, 67] rfl j hj
  have r5 := fun j hj => a2 [60, 61, 62, 63] 64 [65, 66, 67] rfl j hj
  have r6 := fun j hj => a2 [60, 61, 62, 63, 64] 65 [66, 67] rfl j hj
  have r7 := fun j hj => a2 [60, 61, 62, 63, 64, 65] 66 [67] rfl j hj
  have r8 := fun j hj => a2 [60, 61, 62, 63, 64, 65, 66] 67 [] rfl j hj
  refine ⟨σ', a1, ⟨a3.trans h.1, a4.trans h.2.1, fun d hd => ⟨?_, ?_⟩, fun p hp => ?_⟩, fun b j hn => a5 b j (fun q => hn (q.imp (fun q => ?_) id))⟩
  · refine Eq.trans (b := rd σ 72 (80 * w + d)) ?_ (h.2.2.1 d hd).1
    exact r1 d (by rw [al_60]; omega)
  · refine Eq.trans (b := rd σ 72 (80 * w + (14 + d))) ?_ (h.2.2.1 d hd).2
    rw [← Nat.add_assoc]; exact r2 d (by rw [al_61]; omega)
  · obtain ⟨q3, q4, q5, q6, q7, q8⟩ := h.2.2.2 p hp
    refine ⟨Eq.trans (b := rd σ 72 (80 * w + (28 + p))) ?_ q3, Eq.trans (b := rd σ 72 (80 * w + (35 + p))) ?_ q4, Eq.trans (b := rd σ 72 (80 * w + (42 + p))) ?_ q5, Eq.trans (b := rd σ 72 (80 * w + (49 + p))) ?_ q6, Eq.trans (b := rd σ 72 (80 * w + (56 + p))) ?_ q7, Eq.trans (b := rd σ 72 (80 * w + (63 + p))) ?_ q8⟩
    · rw [← Nat.add_assoc]; exact r3 p (by rw [al_62]; omega)
    · rw [← Nat.add_assoc]; exact r4 p (by rw [al_63]; omega)
    · rw [← Nat.add_assoc]; exact r5 p (by rw [al_64]; omega)
    · rw [← Nat.add_assoc]; exact r6 p (by rw [al_65]; omega)
    · rw [← Nat.add_assoc]; exact r7 p (by rw [al_66]; omega)
    · rw [← Nat.add_assoc]; exact r8 p (by rw [al_67]; omega)
  · have := q.1
    simp only [nrows, List.mem_cons, List.not_mem_nil, or_false] at this
    omega
/-- put back: all rows as they were -/
theorem putF {σ ρ : St} {w : Nat} (hw : w < 10) (h : SlF σ w ρ) (he : ∀ b, b ∈ nrows → ∀ j, alen b ≤ j → rd σ b j = rd ρ b j) : ∃ σ', F_MD_passesAll (nI w) 0 σ = some σ' ∧ (∀ b, 60 ≤ b → b ≤ 67 → ∀ j, rd σ' b j = rd ρ b j) ∧ rd σ' 58 9 = rd ρ 58 9 ∧ rd σ' 58 10 = rd ρ 58 10 ∧ ∀ b j, ¬ (60 ≤ b ∧ b ≤ 67 ∨ b = 58 ∧ (j = 9 ∨ j = 10 ∨ j = 20 ∨ j = 21)) → rd σ' b j = rd σ b j := by
  obtain ⟨σ', a1, a2, a3, a4, a5⟩ := putAll (σ := σ) hw
  refine ⟨σ', a1, fun b h1 h2 j => ?_, a3.trans h.2.1, a4.trans h.2.2, fun b j hn => a5 b j (fun q => hn (q.imp (fun q => ?_) id))⟩
  · have hb : b ∈ nrows := by simp only [nrows, List.mem_cons, List.not_mem_nil, or_false]; omega
    by_cases hj : j < alen b
    · obtain ⟨l1, l2, e⟩ := List.append_of_mem hb
      rw [a2 l1 b l2 e j hj, h.1 l1 b l2 e j hj]
    · rw [a5 b j (fun q => q.elim (fun q => hj q.2) (fun q => by omega))]
      exact he b hb j (by omega)
  · have := q.1
    simp only [nrows, List.mem_cons, List.not_mem_nil, or_false] at this
    omega
