-- feeding, the row, counting
theorem op_feed (a : Int32) : Ask (F_AC_feed a) (F_MD_feed a) := by
  intro σ h
  obtain ⟨A, hN, hCh, hL, hR, hF, hI⟩ := id h
  obtain ⟨c, hc, l1, l2, l3⟩ := id hL
  rcases pk_ix a (n := 256) (by decide) with ha | ha | ⟨v, hv, rfl⟩
  · refine Ask.no h (k := 4) (x := -4) (by decide) (by decide) ?_ (fun τ hτ => ?_)
    · unfold F_AC_feed
      rw [if_neg (npos ha), bid]
    · unfold F_MD_feed F_MD_feed_25
      rw [show (255 : Int32) = nI 255 from rfl, bound_lo ha, Option.bind_some]
      simp only
      rw [if_neg (by decide), if_neg (by decide), bid]
  · refine Ask.no h (k := 6) (x := -6) (by decide) (by decide) ?_ (fun τ hτ => ?_)
    · unfold F_AC_feed F_AC_feed_28
      rw [if_pos (pos_nI (by decide) ha), if_pos (show (255 : Int32) < a from lt_nI (by decide) ha), bid]
    · unfold F_MD_feed F_MD_feed_25
      rw [show (255 : Int32) = nI 255 from rfl, bound_hi (by decide) ha, Option.bind_some]
      simp only
      rw [if_neg (by decide), if_neg (by decide), bid]
  have v0 : 0 ≤ nI v := nI_pos' (by omega)
  have v9 : ¬ (255 : Int32) < nI v := nI_nlt (a := 255) (by omega) (by decide)
  by_cases h96 : c = 96
  · refine Ask.no h (k := 6) (x := -6) (by decide) (by decide) ?_ (fun τ hτ => ?_)
    · unfold F_AC_feed F_AC_feed_28 F_LT_isFull
      rw [if_pos v0, if_neg v9, l1, h96, if_neg (by decide), Option.bind_some, if1, bid]
    · unfold F_MD_feed F_MD_feed_25
      rw [show (255 : Int32) = nI 255 from rfl, bound_in (by omega) (by decide), Option.bind_some]
      simp only [if_true]
      rw [hτ 58 15 (by decide), l2, h96, if_pos (show nI 96 = (96 : Int32) from rfl), if_neg (by decide), bid]
  · let s2 := wr (wr σ 35 c (nI v)) 34 0 (nI (c + 1))
    let s4 := wr (wr s2 68 c (nI v)) 58 15 (nI (c + 1))
    have e02 : ∀ b j, ¬ (b = 35 ∧ j = c ∨ b = 34 ∧ j = 0) → rd s2 b j = rd σ b j := fun b j q => by
      show rd (wr (wr σ 35 c (nI v)) 34 0 (nI (c + 1))) b j = _
      rw [rd_wr, if_neg (by omega), rd_wr, if_neg (by omega)]
    have e24 : ∀ b j, ¬ (b = 68 ∧ j = c ∨ b = 58 ∧ j = 15) → rd s4 b j = rd s2 b j := fun b j q => by
      show rd (wr (wr s2 68 c (nI v)) 58 15 (nI (c + 1))) b j = _
      rw [rd_wr, if_neg (by omega), rd_wr, if_neg (by omega)]
    have e04 : ∀ b j, ¬ (b = 35 ∧ j = c ∨ b = 34 ∧ j = 0 ∨ b = 68 ∧ j = c ∨ b = 58 ∧ j = 15) → rd s4 b j = rd σ b j := fun b j q => by
      rw [e24 b j (by omega), e02 b j (by omega)]
    have r35 : rd s4 35 c = nI v := by
      rw [e24 35 c (by omega)]
      show rd (wr (wr σ 35 c (nI v)) 34 0 (nI (c + 1))) 35 c = _
      rw [rd_wr_cell _ _ _ _ (by decide), rd_wr_same]
    have r68 : rd s4 68 c = nI v := by
      show rd (wr (wr s2 68 c (nI v)) 58 15 (nI (c + 1))) 68 c = _
      rw [rd_wr_cell _ _ _ _ (by decide), rd_wr_same]
    refine ⟨nI (c + 1), s2, s4, ?_, ?_, A, hN.un (fun b j q => e04 b j (by omega)), hCh.un (fun b j q => e04 b j (by omega)), ⟨c + 1, by omega, ?_, rd_wr_same _ _ _ _, fun j hj => ?_⟩, hR.un (fun b j q => e04 b j (by omega)), hF.un (fun b j q => e04 b j (by omega)), hI.un (fun b j q => e04 b j (by omega))⟩
    · unfold F_AC_feed F_LT_isFull F_LT_add
      rw [if_pos v0, if_neg v9, l1, if_pos (show nI c < (96 : Int32) from nI_lt (b := 96) (by omega) (by decide)), Option.bind_some, if0, bid, l1, putC al_35 (by omega), Option.bind_some, rd_wr_cell _ _ _ _ (by decide), l1, nI_1, show (96 : Int32) = nI 96 from rfl, minC (by omega) (by decide), Option.bind_some, Option.bind_some, show min (c + 1) 96 = c + 1 by omega, rd_wr_same]
    · unfold F_MD_feed F_MD_feed_25
      rw [show (255 : Int32) = nI 255 from rfl, bound_in (by omega) (by decide), Option.bind_some]
      simp only [if_true]
      rw [e02 58 15 (by omega), l2, if_neg (show ¬ nI c = (96 : Int32) from fun q => h96 (nI_inj (b := 96) (by omega) (by decide) q)), stk al_68 (by omega), Option.bind_some, rd_wr_cell _ _ _ _ (show 58 ≠ 68 by decide), e02 58 15 (by omega), l2, Option.bind_some, nI_1, rd_wr_same]
    · rw [e24 34 0 (by omega)]; exact rd_wr_same _ _ _ _
    · by_cases e : j = c
      · subst e; exact ⟨v, hv, r35, r68⟩
      · obtain ⟨u, q1, q2, q3⟩ := l3 j (by omega)
        exact ⟨u, q1, (e04 35 j (by omega)).trans q2, (e04 68 j (by omega)).trans q3⟩
theorem op_row (a : Int32) : Ask (F_AC_row a) (F_MD_row a) := by
  intro σ h
  obtain ⟨A, hN, hCh, hL, hR, hF, hI⟩ := id h
  obtain ⟨c, hc, l1, l2, l3⟩ := id hR
  rcases pk_ix a (n := 10) (by decide) with ha | ha | ⟨v, hv, rfl⟩
  · refine Ask.no h (k := 4) (x := -4) (by decide) (by decide) ?_ (fun τ hτ => ?_)
    · unfold F_AC_row
      rw [if_neg (npos ha), bid]
    · unfold F_MD_row F_MD_row_24
      rw [show (9 : Int32) = nI 9 from rfl, bound_lo ha, Option.bind_some]
      simp only
      rw [if_neg (by decide), if_neg (by decide), bid]
  · refine Ask.no h (k := 6) (x := -6) (by decide) (by decide) ?_ (fun τ hτ => ?_)
    · unfold F_AC_row F_AC_row_26
      rw [if_pos (pos_nI (by decide) ha), if_pos (show (9 : Int32) < a from lt_nI (by decide) ha), bid]
    · unfold F_MD_row F_MD_row_24
      rw [show (9 : Int32) = nI 9 from rfl, bound_hi (by decide) ha, Option.bind_some]
      simp only
      rw [if_neg (by decide), if_neg (by decide), bid]
  have v0 : 0 ≤ nI v := nI_pos' (by omega)
  have v9 : ¬ (9 : Int32) < nI v := nI_nlt (a := 9) (by omega) (by decide)
  by_cases h96 : c = 12
  · refine Ask.no h (k := 6) (x := -6) (by decide) (by decide) ?_ (fun τ hτ => ?_)
    · unfold F_AC_row F_AC_row_26
      rw [if_pos v0, if_neg v9, l1, h96, if_neg (by decide), bid]
    · unfold F_MD_row F_MD_row_24
      rw [show (9 : Int32) = nI 9 from rfl, bound_in (by omega) (by decide), Option.bind_some]
      simp only [if_true]
      rw [hτ 58 35 (by decide), l2, h96, if_pos (show nI 12 = (12 : Int32) from rfl), if_neg (by decide), bid]
  · let s2 := wr (wr σ 56 c (nI v)) 0 16 (nI (c + 1))
    let s4 := wr (wr s2 81 c (nI v)) 58 35 (nI (c + 1))
    have e02 : ∀ b j, ¬ (b = 56 ∧ j = c ∨ b = 0 ∧ j = 16) → rd s2 b j = rd σ b j := fun b j q => by
      show rd (wr (wr σ 56 c (nI v)) 0 16 (nI (c + 1))) b j = _
      rw [rd_wr, if_neg (by omega), rd_wr, if_neg (by omega)]
    have e24 : ∀ b j, ¬ (b = 81 ∧ j = c ∨ b = 58 ∧ j = 35) → rd s4 b j = rd s2 b j := fun b j q => by
      show rd (wr (wr s2 81 c (nI v)) 58 35 (nI (c + 1))) b j = _
      rw [rd_wr, if_neg (by omega), rd_wr, if_neg (by omega)]
    have e04 : ∀ b j, ¬ (b = 56 ∧ j = c ∨ b = 0 ∧ j = 16 ∨ b = 81 ∧ j = c ∨ b = 58 ∧ j = 35) → rd s4 b j = rd σ b j := fun b j q => by
      rw [e24 b j (by omega), e02 b j (by omega)]
    have r35 : rd s4 56 c = nI v := by
      rw [e24 56 c (by omega)]
      show rd (wr (wr σ 56 c (nI v)) 0 16 (nI (c + 1))) 56 c = _
      rw [rd_wr_cell _ _ _ _ (by decide), rd_wr_same]
    have r68 : rd s4 81 c = nI v := by
      show rd (wr (wr s2 81 c (nI v)) 58 35 (nI (c + 1))) 81 c = _
      rw [rd_wr_cell _ _ _ _ (by decide), rd_wr_same]
    refine ⟨nI (c + 1), s2, s4, ?_, ?_, A, hN.un (fun b j q => e04 b j (by omega)), hCh.un (fun b j q => e04 b j (by omega)), hL.un (fun b j q => e04 b j (by omega)), ⟨c + 1, by omega, ?_, rd_wr_same _ _ _ _, fun j hj => ?_⟩, hF.un (fun b j q => e04 b j (by omega)), hI.un (fun b j q => e04 b j (by omega))⟩
    · unfold F_AC_row
      rw [if_pos v0, if_neg v9, l1, if_pos (show nI c < (12 : Int32) from nI_lt (b := 12) (by omega) (by decide)), putC al_56 (by omega), Option.bind_some, rd_wr_cell _ _ _ _ (by decide), l1, Option.bind_some, nI_1, rd_wr_same]
    · unfold F_MD_row F_MD_row_24
      rw [show (9 : Int32) = nI 9 from rfl, bound_in (by omega) (by decide), Option.bind_some]
      simp only [if_true]
      rw [e02 58 35 (by omega), l2, if_neg (show ¬ nI c = (12 : Int32) from fun q => h96 (nI_inj (b := 12) (by omega) (by decide) q)), stk al_81 (by omega), Option.bind_some, rd_wr_cell _ _ _ _ (show 58 ≠ 81 by decide), e02 58 35 (by omega), l2, Option.bind_some, nI_1, rd_wr_same]
    · rw [e24 0 16 (by omega)]; exact rd_wr_same _ _ _ _
    · by_cases e : j = c
      · subst e; exact ⟨v, hv, r35, r68⟩
      · obtain ⟨u, q1, q2, q3⟩ := l3 j (by omega)
        exact ⟨u, q1, (e04 56 j (by omega)).trans q2, (e04 81 j (by omega)).trans q3⟩
/-- the row cleared -/
theorem INV_clear {σ τ : St} {A : Nt} (h : NowI σ A ∧ ChI σ A ∧ LetI σ ∧ RowI σ ∧ RefI σ ∧ ImgI σ) (he : ∀ b j, ¬ (Qd (nD A) b j ∨ b = 0 ∧ j = 16 ∨ b = 58 ∧ j = 35) → rd τ b j = rd σ b j) (h1 : rd τ 0 16 = 0) (h2 : rd τ 58 35 = 0) : INV τ :=
  ⟨A, h.1.un (fun b j q => he b j (by unfold Qd; omega)), h.2.1.un (fun b j q => he b j (by unfold Qd; omega)), h.2.2.1.un (fun b j q => he b j (by unfold Qd; omega)), ⟨0, by decide, h1, h2, fun j hj => absurd hj (Nat.not_lt_zero _)⟩, h.2.2.2.2.1.un (fun b j q => he b j (by unfold Qd; omega)), h.2.2.2.2.2.un (fun b j q => he b j (by unfold Qd; omega))⟩
theorem op_clear : Ask F_AC_clear F_MD_clear := by
  intro σ h
  obtain ⟨A, hall⟩ := id h
  obtain ⟨c, hc, l1, l2, l3⟩ := hall.2.2.2.1
  refine ⟨nI c, wr σ 0 16 0, wr (wr σ 0 16 0) 58 35 0, ?_, ?_, INV_clear hall (fun b j q => ?_) ?_ (rd_wr_same _ _ _ _)⟩
  · unfold F_AC_clear
    rw [l1, Option.bind_some, Option.bind_some]
  · unfold F_MD_clear
    rw [rd_wr_cell _ _ _ _ (by decide), l2, Option.bind_some, Option.bind_some]
  · rw [rd_wr, if_neg (by omega), rd_wr, if_neg (by omega)]
  · rw [rd_wr_cell _ _ _ _ (by decide), rd_wr_same]
def bcI (a0 : Int32) : Int32 :=
  let x1 := a0 - (((a0).toUInt32 >>> (((1 : Int32)).toUInt32 &&& Int32.toUInt32 31)).toInt32 &&& (1431655765 : Int32))
  let x2 := (x1 &&& (858993459 : Int32)) + (((x1).toUInt32 >>> (((2 : Int32)).toUInt32 &&& Int32.toUInt32 31)).toInt32 &&& (858993459 : Int32))
  let x3 := (x2 + ((x2).toUInt32 >>> (((4 : Int32)).toUInt32 &&& Int32.toUInt32 31)).toInt32) &&& (252645135 : Int32)
  let x4 := x3 + ((x3).toUInt32 >>> (((8 : Int32)).toUInt32 &&& Int32.toUInt32 31)).toInt32
  let x5 := x4 + ((x4).toUInt32 >>> (((16 : Int32)).toUInt32 &&& Int32.toUInt32 31)).toInt32
  x5 &&& (63 : Int32)
def popN (x : Nat) : Nat := sumN (fun d => (x.testBit d).toNat) 7
theorem bc_num : ∀ x, x < 128 → bcI (nI x) = nI (popN x) := by decide +kernel
theorem popN_le : ∀ x, x < 128 → popN x ≤ 7 := by decide +kernel
theorem bitCountC {σ : St} {x : Nat} (hx : x < 128) : F_IG_bitCount (nI x) σ = some (nI (popN x), σ) := by
  have : F_IG_bitCount (nI x) σ = some (bcI (nI x), σ) := rfl
  rw [this, bc_num x hx]
theorem allRecC {σ : St} {n : Nat} {A : Nt} (hn : isNI n) (hA : AbsC σ n A) (hO : OkN A) : F_NI_allRecords n σ = some (nI (sumN (nR A) (nP A)), σ) := by
  have hP := hO.P
  unfold F_NI_allRecords F_NI_allRecords_4
  refine fix_up (n := nP A) (fun k => (nI (sumN (nR A) k), nI k, σ)) (by rw [fuel_val]; omega) (fun K k hk => ?_) (fun K => ?_)
  · show H_NI_allRecords_4 n K (nI (sumN (nR A) k)) (nI k) σ = _
    unfold H_NI_allRecords_4
    rw [show rd σ n 1 = nI (nP A) from hA.2.1, if_neg (nI_ge hk (by omega)), atC (al_NI3 hn) (by omega), Option.bind_some]
    simp only
    rw [show rd σ (n + 3) k = nI (nR A k) from (hA.2.2.2 k hk).1, Option.bind_some, nI_add, nI_1]
    rfl
  · show H_NI_allRecords_4 n K _ (nI (nP A)) σ = _
    unfold H_NI_allRecords_4
    rw [show rd σ n 1 = nI (nP A) from hA.2.1, if_pos (Int32.le_refl _)]
theorem allRecM {σ : St} {A : Nt} {t : Nat} (h : MdN σ A t) (hO : OkN A) : F_MD_count_80 0 0 σ = some (nI (sumN (nR A) (nP A)), σ) := by
  have hP := hO.P
  unfold F_MD_count_80
  refine fix_up (n := nP A) (fun k => (nI (sumN (nR A) k), nI k, σ)) (by rw [fuel_val]; omega) (fun K k hk => ?_) (fun K => ?_)
  · show H_MD_count_80 K (nI (sumN (nR A) k)) (nI k) σ = _
    unfold H_MD_count_80
    rw [show rd σ 58 10 = nI (nP A) from h.1.2.1, if_neg (nI_ge hk (by omega)), ldk al_62 (by omega), Option.bind_some, show rd σ 62 k = nI (nR A k) from (h.1.2.2.2 k hk).1, Option.bind_some, nI_add, nI_1]
    rfl
  · show H_MD_count_80 K _ (nI (nP A)) σ = _
    unfold H_MD_count_80
    rw [show rd σ 58 10 = nI (nP A) from h.1.2.1, if_pos (Int32.le_refl _)]
theorem allAlC {σ : St} {n : Nat} {A : Nt} (hn : isNI n) (hA : AbsC σ n A) (hO : OkN A) : F_NI_allAlibis n σ = some (nI (sumN (fun p => popN (nAl A p)) (nP A)), σ) := by
  have hP := hO.P
  unfold F_NI_allAlibis F_NI_allAlibis_4
  refine fix_up (n := nP A) (fun k => (nI (sumN (fun p => popN (nAl A p)) k), nI k, σ)) (by rw [fuel_val]; omega) (fun K k hk => ?_) (fun K => ?_)
  · show H_NI_allAlibis_4 n K (nI (sumN (fun p => popN (nAl A p)) k)) (nI k) σ = _
    unfold H_NI_allAlibis_4
    rw [show rd σ n 1 = nI (nP A) from hA.2.1, if_neg (nI_ge hk (by omega)), atC (al_NI7 hn) (by omega), Option.bind_some]
    simp only
    rw [show rd σ (n + 7) k = nI (nAl A k) from (hA.2.2.2 k hk).2.2.2.2.1, bitCountC (hO.2.2.2.1 k hk).2.2.2.1, Option.bind_some]
    simp only
    rw [Option.bind_some, nI_add, nI_1]
    rfl
  · show H_NI_allAlibis_4 n K _ (nI (nP A)) σ = _
    unfold H_NI_allAlibis_4
    rw [show rd σ n 1 = nI (nP A) from hA.2.1, if_pos (Int32.le_refl _)]
theorem alibisOfM {σ : St} {A : Nt} {t : Nat} (h : MdN σ A t) (hO : OkN A) {p : Nat} (hp : p < nP A) : F_MD_alibisOf (nI p) σ = some (nI (popN (nAl A p)), σ) := by
  have hP := hO.P
  unfold F_MD_alibisOf F_MD_alibisOf_4
  have hx : nAl A p < 2 ^ 31 := Nat.lt_trans (hO.2.2.2.1 p hp).2.2.2.1 (by decide)
  refine fix_up (n := 7) (fun k => (nI (sumN (fun d => ((nAl A p).testBit d).toNat) k), nI k, σ)) (by rw [fuel_val]; omega) (fun K k hk => ?_) (fun K => ?_)
  · show H_MD_alibisOf_4 (nI p) K (nI (sumN (fun d => ((nAl A p).testBit d).toNat) k)) (nI k) σ = _
    unfold H_MD_alibisOf_4
    rw [if_neg (show ¬ (7 : Int32) ≤ nI k from nI_ge (b := 7) hk (by decide)), ldk al_66 (by omega), Option.bind_some, show rd σ 66 p = nI (nAl A p) from (h.1.2.2.2 p hp).2.2.2.2.1, shr_nI hx (by omega), and1_nI, tb_div, Option.bind_some, nI_add, nI_1]
    rfl
  · show H_MD_alibisOf_4 (nI p) K _ (nI 7) σ = _
    unfold H_MD_alibisOf_4
    rw [if_pos (by decide)]
    rfl
theorem allAlM {σ : St} {A : Nt} {t : Nat} (h : MdN σ A t) (hO : OkN A) : F_MD_count_107 0 0 σ = some (nI (sumN (fun p => popN (nAl A p)) (nP A)), σ) := by
  have hP := hO.P
  unfold F_MD_count_107
  refine fix_up (n := nP A) (fun k => (nI (sumN (fun p => popN (nAl A p)) k), nI k, σ)) (by rw [fuel_val]; omega) (fun K k hk => ?_) (fun K => ?_)
  · show H_MD_count_107 K (nI (sumN (fun p => popN (nAl A p)) k)) (nI k) σ = _
    unfold H_MD_count_107
    rw [show rd σ 58 10 = nI (nP A) from h.1.2.1, if_neg (nI_ge hk (by omega)), alibisOfM h hO hk, Option.bind_some]
    simp only
    rw [Option.bind_some, nI_add, nI_1]
    rfl
  · show H_MD_count_107 K _ (nI (nP A)) σ = _
    unfold H_MD_count_107
    rw [show rd σ 58 10 = nI (nP A) from h.1.2.1, if_pos (Int32.le_refl _)]
theorem isIn2_in {σ : St} {k l m : Nat} (hl : l ≤ k) (hk : k ≤ m) (hm : m < 2 ^ 31) : F_MD_isIn (nI k) (nI l) (nI m) σ = some (1, σ) := by
  unfold F_MD_isIn
  rw [if_neg (nI_nlt hl (by omega)), if_neg (nI_nlt hk hm)]
theorem op_count (a : Int32) : Ask (F_AC_count a) (F_MD_count a) := by
  intro σ h
  obtain ⟨A, hN, hCh, hL, hR, hF, hI⟩ := id h
  obtain ⟨hO, hD, hA, hM, hg⟩ := id hN
  have i0 : ∀ k, k < 7 → F_MD_isIn (nI k) (11 : Int32) (16 : Int32) σ = some (0, σ) := fun k hk => by
    unfold F_MD_isIn F_MD_isIn_14
    rw [if_pos (show nI k < (11 : Int32) from nI_lt (b := 11) (by omega) (by decide))]
  by_cases a0 : a = nI 0
  · subst a0
    refine ⟨nI (nP A), σ, σ, ?_, ?_, h⟩
    · unfold F_AC_count; rw [if_pos (by decide), show rd σ 1 1 = nI (nP A) from hA.2.1]
    · unfold F_MD_count; rw [i0 0 (by decide), Option.bind_some, if0, if_pos (by decide)]; exact congrArg (fun x => some (x, σ)) hM.1.2.1
  by_cases a1 : a = nI 1
  · subst a1
    refine ⟨nI (nD A), σ, σ, ?_, ?_, h⟩
    · unfold F_AC_count; rw [if_neg (by decide), if_pos (by decide), show rd σ 1 0 = nI (nD A) from hA.1]
    · unfold F_MD_count; rw [i0 1 (by decide), Option.bind_some, if0, if_neg (by decide), if_pos (by decide)]; exact congrArg (fun x => some (x, σ)) hM.1.1
  by_cases a2 : a = nI 2
  · subst a2
    refine ⟨nI (sumN (nR A) (nP A)), σ, σ, ?_, ?_, h⟩
    · unfold F_AC_count; rw [if_neg (by decide), if_neg (by decide), if_pos (by decide), bid, allRecC isNI_1 hA hO]
    · unfold F_MD_count; rw [i0 2 (by decide), Option.bind_some, if0, if_neg (by decide), if_neg (by decide), if_pos (by decide)]; exact allRecM hM hO
  by_cases a3 : a = nI 3
  · subst a3
    refine ⟨nI (sumN (fun p => popN (nAl A p)) (nP A)), σ, σ, ?_, ?_, h⟩
    · unfold F_AC_count; rw [if_neg (by decide), if_neg (by decide), if_neg (by decide), if_pos (by decide), bid, allAlC isNI_1 hA hO]
    · unfold F_MD_count; rw [i0 3 (by decide), Option.bind_some, if0, if_neg (by decide), if_neg (by decide), if_neg (by decide), if_pos (by decide)]; exact allAlM hM hO
  by_cases a4 : a = nI 4
  · subst a4
    obtain ⟨c, hc, l1, l2, l3⟩ := hL
    refine ⟨nI c, σ, σ, ?_, ?_, h⟩
    · unfold F_AC_count; rw [if_neg (by decide), if_neg (by decide), if_neg (by decide), if_neg (by decide), if_pos (by decide), l1]
    · unfold F_MD_count; rw [i0 4 (by decide), Option.bind_some, if0, if_neg (by decide), if_neg (by decide), if_neg (by decide), if_neg (by decide), if_pos (by decide)]; exact congrArg (fun x => some (x, σ)) l2
  by_cases a5 : a = nI 5
  · subst a5
    obtain ⟨c, hc, l1, l2, l3⟩ := hR
    refine ⟨nI c, σ, σ, ?_, ?_, h⟩
    · unfold F_AC_count; rw [if_neg (by decide), if_neg (by decide), if_neg (by decide), if_neg (by decide), if_neg (by decide), if_pos (by decide), l1]
    · unfold F_MD_count; rw [i0 5 (by decide), Option.bind_some, if0, if_neg (by decide), if_neg (by decide), if_neg (by decide), if_neg (by decide), if_neg (by decide), if_pos (by decide)]; exact congrArg (fun x => some (x, σ)) l2
  by_cases a6 : a = nI 6
  · subst a6
    obtain ⟨c, N, hc, l1, l2, l3⟩ := hCh
    refine ⟨nI c, σ, σ, ?_, ?_, h⟩
    · unfold F_AC_count; rw [if_neg (by decide), if_neg (by decide), if_neg (by decide), if_neg (by decide), if_neg (by decide), if_neg (by decide), if_pos (by decide), l1]
    · unfold F_MD_count; rw [i0 6 (by decide), Option.bind_some, if0, if_neg (by decide), if_neg (by decide), if_neg (by decide), if_neg (by decide), if_neg (by decide), if_neg (by decide), if_pos (by decide)]; exact congrArg (fun x => some (x, σ)) l2
  have hC : F_AC_count a σ = if a < (11 : Int32) then (F_AC_count_123 σ) else (if (16 : Int32) < a then (F_AC_count_123 σ) else ((F_AC_at 57 (a - (10 : Int32)) σ).bind fun o3 => some (o3.1, o3.2))) := by
    unfold F_AC_count
    rw [if_neg (show ¬ a = (0 : Int32) from a0), if_neg (show ¬ a = (1 : Int32) from a1), if_neg (show ¬ a = (2 : Int32) from a2), if_neg (show ¬ a = (3 : Int32) from a3), if_neg (show ¬ a = (4 : Int32) from a4), if_neg (show ¬ a = (5 : Int32) from a5), if_neg (show ¬ a = (6 : Int32) from a6)]
  by_cases w1 : a < (11 : Int32)
  · refine ⟨-9, σ, σ, ?_, ?_, h⟩
    · rw [hC, if_pos w1]; rfl
    · unfold F_MD_count F_MD_isIn F_MD_isIn_14
      rw [if_pos w1, Option.bind_some, if0, if_neg (show ¬ a = (0 : Int32) from a0), if_neg (show ¬ a = (1 : Int32) from a1), if_neg (show ¬ a = (2 : Int32) from a2), if_neg (show ¬ a = (3 : Int32) from a3), if_neg (show ¬ a = (4 : Int32) from a4), if_neg (show ¬ a = (5 : Int32) from a5), if_neg (show ¬ a = (6 : Int32) from a6)]
  by_cases w2 : (16 : Int32) < a
  · refine ⟨-9, σ, σ, ?_, ?_, h⟩
    · rw [hC, if_neg w1, if_pos w2]; rfl
    · unfold F_MD_count F_MD_isIn F_MD_isIn_14
      rw [if_neg w1, if_pos w2, Option.bind_some, if0, if_neg (show ¬ a = (0 : Int32) from a0), if_neg (show ¬ a = (1 : Int32) from a1), if_neg (show ¬ a = (2 : Int32) from a2), if_neg (show ¬ a = (3 : Int32) from a3), if_neg (show ¬ a = (4 : Int32) from a4), if_neg (show ¬ a = (5 : Int32) from a5), if_neg (show ¬ a = (6 : Int32) from a6)]
  obtain ⟨k, hk, rfl⟩ : ∃ k, k < 17 ∧ a = nI k := by
    rcases pk_ix a (n := 17) (by decide) with ha | ha | ha
    · exact absurd (Int32.lt_trans ha (by decide)) w1
    · exact absurd (lt_nI (n := 16) (by decide) ha) w2
    · exact ha
  have hk2 : 11 ≤ k := by
    have : ¬ nI k < nI 11 := w1
    rw [nI_ltI (by omega) (by decide)] at this
    omega
  have es : nI k - (10 : Int32) = nI (k - 10) := pk_sub (b := 10) (by omega)
  refine ⟨rd σ 57 (k - 10), σ, σ, ?_, ?_, h⟩
  · rw [hC, if_neg w1, if_neg w2, es, bid, atC al_57 (by omega)]
  · unfold F_MD_count
    rw [show (11 : Int32) = nI 11 from rfl, show (16 : Int32) = nI 16 from rfl, isIn2_in hk2 (by omega) (by decide), Option.bind_some, if1, es, ldk al_59 (by omega), Option.bind_some, hF (k - 10) (by omega)]
