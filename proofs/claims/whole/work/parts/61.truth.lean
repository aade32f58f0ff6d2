-- truth
/-- a seat taken with any deed that he may own to, or none -/
theorem seatO {σ : St} {mo n : Nat} {Z : Pz} (hmo : isMO mo) (hn : isPR n) (h : PrC σ n Z) (hz : OkZ Z) {p T S : Nat} {w o : Option Nat} (hp : p < zP Z) (hin : ∀ d, o = some d → d < zD Z ∧ zM Z p d = true) (hl : rd σ mo 3 = nI (fr (zD Z) T)) (hs : rd σ mo 4 = nI S) (hw : rd σ mo 5 = bI w) (hwo : ∀ q, w = some q → q < zP Z) :
    ∃ σ', F_MO_seat mo n (nI p) (bI o) σ = some σ' ∧ Fr [mo, mo + 1, mo + 2] σ σ' ∧ rd σ' mo 2 = rd σ mo 2 ∧ rd σ' mo 3 = nI (fr (zD Z) (addT T o)) ∧ rd σ' mo 4 = nI (S + moZ Z p o) ∧
      rd σ' mo 5 = bI (wo1 w o p) ∧ rd σ' (mo + 1) p = bI o ∧ rd σ' (mo + 2) p = nI (moZ Z p o) ∧
      (∀ j, j ≠ p → rd σ' (mo + 1) j = rd σ (mo + 1) j) ∧ ∀ j, j ≠ p → rd σ' (mo + 2) j = rd σ (mo + 2) j := by
  have hP := hz.1
  have hD := hz.2.1
  have hd : ∀ d, o = some d → d < zD Z := fun d e => (hin d e).1
  -- the writes, one by one
  let s2 := wr σ (mo + 1) p (bI o)
  let s3 := wr s2 (mo + 2) p (nI (moZ Z p o))
  let s5 := wr s3 mo 3 (nI (fr (zD Z) (addT T o)))
  let s6 := wr s5 mo 4 (nI (S + moZ Z p o))
  have e3 : rd s3 mo 3 = nI (fr (zD Z) T) := by
    show rd (wr (wr σ (mo + 1) p _) (mo + 2) p _) mo 3 = _
    rw [rd_wr_cell _ _ _ _ (by omega), rd_wr_cell _ _ _ _ (by omega), hl]
  have e4 : rd s5 mo 4 = nI S := by
    show rd (wr (wr (wr σ (mo + 1) p _) (mo + 2) p _) mo 3 _) mo 4 = _
    rw [rd_wr_slot _ _ _ _ (by decide), rd_wr_cell _ _ _ _ (by omega), rd_wr_cell _ _ _ _ (by omega), hs]
  have e5 : rd s6 mo 5 = bI w := by
    show rd (wr (wr (wr (wr σ (mo + 1) p _) (mo + 2) p _) mo 3 _) mo 4 _) mo 5 = _
    rw [rd_wr_slot _ _ _ _ (by decide), rd_wr_slot _ _ _ _ (by decide), rd_wr_cell _ _ _ _ (by omega), rd_wr_cell _ _ _ _ (by omega), hw]
  have hF6 : Fr [mo, mo + 1, mo + 2] σ s6 := (((Fr.wr (by simp)).two (Fr.wr (by simp))).two (Fr.wr (by simp))).two (Fr.wr (by simp))
  have g2 : rd s6 mo 2 = rd σ mo 2 := by
    show rd (wr (wr (wr (wr σ (mo + 1) p _) (mo + 2) p _) mo 3 _) mo 4 _) mo 2 = _
    rw [rd_wr_slot _ _ _ _ (by decide), rd_wr_slot _ _ _ _ (by decide), rd_wr_cell _ _ _ _ (by omega), rd_wr_cell _ _ _ _ (by omega)]
  have g3 : rd s6 mo 3 = nI (fr (zD Z) (addT T o)) := by
    show rd (wr s5 mo 4 _) mo 3 = _
    rw [rd_wr_slot _ _ _ _ (by decide)]; exact rd_wr_same _ _ _ _
  have g4 : rd s6 mo 4 = nI (S + moZ Z p o) := rd_wr_same _ _ _ _
  have gt : ∀ j, rd s6 (mo + 1) j = if j = p then bI o else rd σ (mo + 1) j := by
    intro j
    show rd (wr (wr (wr (wr σ (mo + 1) p _) (mo + 2) p _) mo 3 _) mo 4 _) (mo + 1) j = _
    rw [rd_wr_cell _ _ _ _ (by omega), rd_wr_cell _ _ _ _ (by omega), rd_wr_cell _ _ _ _ (by omega), rd_wr]
    by_cases q : j = p
    · rw [if_pos ⟨rfl, q⟩, if_pos q]
    · rw [if_neg (fun z => q z.2), if_neg q]
  have gm : ∀ j, rd s6 (mo + 2) j = if j = p then nI (moZ Z p o) else rd σ (mo + 2) j := by
    intro j
    show rd (wr (wr (wr (wr σ (mo + 1) p _) (mo + 2) p _) mo 3 _) mo 4 _) (mo + 2) j = _
    rw [rd_wr_cell _ _ _ _ (by omega), rd_wr_cell _ _ _ _ (by omega), rd_wr, rd_wr_cell _ _ _ _ (by omega)]
    by_cases q : j = p
    · rw [if_pos ⟨rfl, q⟩, if_pos q]
    · rw [if_neg (fun z => q z.2), if_neg q]
  have hrun : F_MO_seat mo n (nI p) (bI o) σ = if bI o = (-9 : Int32) then (if bI w = (-9 : Int32) then some (wr s6 mo 5 (nI p)) else some s6) else some s6 := by
    unfold F_MO_seat
    rw [ofC_b hn h hz hp hin, Option.bind_some, putC (al_MO1 hmo) (by omega), Option.bind_some, putC (al_MO2 hmo) (by omega), Option.bind_some, bitC_b (fun d e => by have := hd d e; omega), Option.bind_some]
    show (some (wr s3 mo 3 (rd s3 mo 3 &&& (nI (bitO o) ^^^ -1)))).bind _ = _
    rw [e3, fr_take _ _ hD _ hd, Option.bind_some]
    show (some (wr s5 mo 4 (rd s5 mo 4 + nI (moZ Z p o)))).bind _ = _
    rw [e4, nI_add, Option.bind_some]
    show (if bI o = (-9 : Int32) then (if rd s6 mo 5 = (-9 : Int32) then _ else _) else _) = _
    rw [e5]
    rfl
  rw [hrun]
  cases hc : o with
  | some d =>
    rw [hc] at g3 g4 gt gm hrun
    have hd9 : ¬ bI (some d) = (-9 : Int32) := n9_ne (by have := hd d hc; omega)
    rw [if_neg hd9]
    refine ⟨s6, rfl, hF6, g2, g3, g4, ?_, by rw [gt, if_pos rfl], by rw [gm, if_pos rfl], fun j hj => by rw [gt, if_neg hj], fun j hj => by rw [gm, if_neg hj]⟩
    rw [e5]
    cases w <;> rfl
  | none =>
    rw [hc] at g3 g4 gt gm hrun
    rw [if_pos (show bI none = (-9 : Int32) from rfl)]
    cases w with
    | some q =>
      have hq9 : ¬ bI (some q) = (-9 : Int32) := n9_ne (by have := hwo q rfl; omega)
      rw [if_neg hq9]
      exact ⟨s6, rfl, hF6, g2, g3, g4, e5, by rw [gt, if_pos rfl], by rw [gm, if_pos rfl], fun j hj => by rw [gt, if_neg hj], fun j hj => by rw [gm, if_neg hj]⟩
    | none =>
      rw [if_pos (show bI none = (-9 : Int32) from rfl)]
      refine ⟨wr s6 mo 5 (nI p), rfl, hF6.two (Fr.wr (by simp)), ?_, ?_, ?_, rd_wr_same _ _ _ _, ?_, ?_, fun j hj => ?_, fun j hj => ?_⟩
      · rw [rd_wr_slot _ _ _ _ (by decide)]; exact g2
      · rw [rd_wr_slot _ _ _ _ (by decide)]; exact g3
      · rw [rd_wr_slot _ _ _ _ (by decide)]; exact g4
      · rw [rd_wr_cell _ _ _ _ (by omega), gt, if_pos rfl]
      · rw [rd_wr_cell _ _ _ _ (by omega), gm, if_pos rfl]
      · rw [rd_wr_cell _ _ _ _ (by omega), gt, if_neg hj]
      · rw [rd_wr_cell _ _ _ _ (by omega), gm, if_neg hj]
def thO (A : Nt) (p T : Nat) : Option Nat := if nDi A p < nD A ∧ T.testBit (nDi A p) = false ∧ mayA A p (nDi A p) = true then some (nDi A p) else mk1 (prA 7 A) p T
def thT (A : Nt) : Nat → Nat
  | 0 => 0
  | k + 1 => addT (thT A k) (thO A (nOd A k) (thT A k))
def thC (A : Nt) (k : Nat) : Option Nat := thO A (nOd A k) (thT A k)
def thK (A : Nt) (p : Nat) : Option Nat := thC A (plc (nOd A) p (nP A))
theorem thO_in {A : Nt} {p T d : Nat} (h : thO A p T = some d) : d < nD A ∧ mayA A p d = true := by
  unfold thO at h
  split at h
  · rename_i c
    cases h
    exact ⟨c.1, c.2.2⟩
  · exact ⟨(mk1_in h).1, (mk1_in h).2.2⟩
theorem thT_lt {A : Nt} (hO : OkN A) : ∀ k, thT A k < 2 ^ 14
  | 0 => Nat.two_pow_pos _
  | k + 1 => by
    have ih := thT_lt hO k
    have hD := hO.D
    show addT _ _ < _
    unfold addT
    refine Nat.or_lt_two_pow ih ?_
    cases e : thO A (nOd A k) (thT A k) with
    | none => exact Nat.two_pow_pos _
    | some d => exact Nat.pow_lt_pow_right (by decide) (by have := (thO_in e).1; omega)
def owN (tk : Nat → Option Nat) (A : Nt) (t : Bool) (p : Nat) : Nat := match tk p with | none => 0 | some d => if decide (d = nDi A p) = t then 1 else 0
theorem owN_le (tk : Nat → Option Nat) (A : Nt) (t : Bool) (p : Nat) : owN tk A t p ≤ 1 := by
  unfold owN
  cases tk p with
  | none => exact Nat.zero_le _
  | some d =>
    show (if decide (d = nDi A p) = t then 1 else 0) ≤ 1
    split <;> omega
theorem ownersC {σ : St} {mo P : Nat} {A : Nt} {tk : Nat → Option Nat} (hmo : isMO mo) (hO : OkN A) (hA : AbsC σ 1 A) (h2 : rd σ mo 2 = nI (nP A)) (htk : ∀ p, p < nP A → rd σ (mo + 1) p = bI (tk p)) (hin : ∀ p d, p < nP A → tk p = some d → d < 14) (t : Bool) : F_MO_owners mo 1 (zI t) σ = some (nI (sumN (owN tk A t) (nP A)), σ) := by
  have hP := hO.P
  unfold F_MO_owners F_MO_owners_5
  refine fix_up (n := nP A) (fun k => (nI (sumN (owN tk A t) k), nI k, σ)) (by rw [fuel_val]; omega) (fun K k hk => ?_) (fun K => ?_)
  · show H_MO_owners_5 mo 1 (zI t) K (nI (sumN (owN tk A t) k)) (nI k) σ = _
    unfold H_MO_owners_5 F_MO_owners_51 F_MO_owners_58
    have e5 : rd σ 6 k = nI (nDi A k) := (hA.2.2.2 k hk).2.2.1
    have hdi := (hO.2.2.2.1 k hk).2.2.1
    rw [h2, if_neg (nI_ge hk (by omega)), atC (al_MO1 hmo) (by omega), Option.bind_some]
    simp only
    rw [htk k hk]
    have es : sumN (owN tk A t) (k + 1) = sumN (owN tk A t) k + owN tk A t k := rfl
    rw [es]
    unfold owN
    cases e : tk k with
    | none => rw [if_pos (show bI none = (-9 : Int32) from rfl), nI_1]; rfl
    | some d =>
      have hd := hin k d hk e
      rw [if_neg (show ¬ bI (some d) = (-9 : Int32) from n9_ne (by omega)), show F_AC_at (1 + 5) (nI k) σ = some (rd σ 6 k, σ) from atC al_6 (by omega), Option.bind_some]
      simp only
      rw [e5, nI_1, nI_1]
      by_cases g : d = nDi A k
      · rw [if_pos (show bI (some d) = nI (nDi A k) by rw [g]; rfl), decide_eq_true g]
        cases t <;> rfl
      · rw [if_neg (show ¬ bI (some d) = nI (nDi A k) from fun c => g (nI_inj (by omega) (by omega) c)), decide_eq_false g]
        cases t <;> rfl
  · show H_MO_owners_5 mo 1 (zI t) K _ (nI (nP A)) σ = _
    unfold H_MO_owners_5
    rw [h2, if_pos (Int32.le_refl _)]
theorem holdTrueC {σ : St} {A : Nt} (hN : NowI σ A) (hPr : PrC σ 36 (prA 7 A)) : ∃ s, F_MO_holdTrue 43 36 1 σ = some s ∧ Fr [43, 44, 45] σ s ∧ rd s 43 2 = nI (nP A) ∧ rd s 43 4 = nI (sumN (fun k => moZ (prA 7 A) (nOd A k) (thC A k)) (nP A)) ∧ ∀ j, j < nP A → rd s 44 (nOd A j) = bI (thC A j) := by
  have hO := hN.1
  have hP := hO.P
  have hD := hO.D
  have hz := prA_ok hO 7
  have ho := hO.od
  have hA := hN.2.2.1
  let s1 := wr (wr (wr (wr σ 43 2 (nI (nP A))) 43 3 (nI (2 ^ nD A - 1))) 43 4 0) 43 5 (-9)
  have hF1 : Fr [43, 44, 45] σ s1 := (((Fr.wr (by simp)).two (Fr.wr (by simp))).two (Fr.wr (by simp))).two (Fr.wr (by simp))
  have q2 : rd s1 43 2 = nI (nP A) := by
    show rd (wr (wr (wr (wr σ 43 2 _) 43 3 _) 43 4 _) 43 5 _) 43 2 = _
    rw [rd_wr_slot _ _ _ _ (by decide), rd_wr_slot _ _ _ _ (by decide), rd_wr_slot _ _ _ _ (by decide), rd_wr_same]
  have q3 : rd s1 43 3 = nI (fr (nD A) (thT A 0)) := by
    show rd (wr (wr (wr (wr σ 43 2 _) 43 3 _) 43 4 _) 43 5 _) 43 3 = nI (fr (nD A) 0)
    rw [rd_wr_slot _ _ _ _ (by decide), rd_wr_slot _ _ _ _ (by decide), rd_wr_same, fr_0]
  have q4 : rd s1 43 4 = nI (sumN (fun k => moZ (prA 7 A) (nOd A k) (thC A k)) 0) := by
    show rd (wr (wr (wr (wr σ 43 2 _) 43 3 _) 43 4 _) 43 5 _) 43 4 = _
    rw [rd_wr_slot _ _ _ _ (by decide), rd_wr_same]; rfl
  obtain ⟨⟨w, s⟩, ⟨hw, hf, h2, h3, h4, _, h6⟩, hr⟩ := fix_rel (f := G_MO_holdTrue_14 43 36 1) (n := nP A) (s0 := (nI 0, s1)) (fun k q => q.1 = nI k ∧ Fr [43, 44, 45] σ q.2 ∧ rd q.2 43 2 = nI (nP A) ∧ rd q.2 43 3 = nI (fr (nD A) (thT A k)) ∧ rd q.2 43 4 = nI (sumN (fun k => moZ (prA 7 A) (nOd A k) (thC A k)) k) ∧ (∃ w, rd q.2 43 5 = bI w ∧ ∀ r, w = some r → r < nP A) ∧ ∀ j, j < k → rd q.2 44 (nOd A j) = bI (thC A j)) (by rw [fuel_val]; omega) ⟨rfl, hF1, q2, q3, q4, ⟨none, rd_wr_same _ _ _ _, fun r h => by cases h⟩, fun j hj => absurd hj (Nat.not_lt_zero _)⟩ (by
    rintro k ⟨w, s⟩ hk ⟨hw, hf, h2, h3, h4, ⟨v, h5, h5b⟩, h6⟩
    simp only at hw hf h2 h3 h4 h5 h6
    subst hw
    have hNs : NowI s A := hN.q (Qf.of hf (by decide))
    have hPs := hPr.fr hf (by decide) (by decide)
    have hAs := hNs.2.2.1
    have hp := ho.1 k hk
    have hdi := (hO.2.2.2.1 _ hp).2.2.1
    have e9 : rd s 9 k = nI (nOd A k) := (hAs.2.2.2 k hk).2.2.2.2.2
    have e6 : rd s 6 (nOd A k) = nI (nDi A (nOd A k)) := (hAs.2.2.2 _ hp).2.2.1
    obtain ⟨t, a1, a2, a3, a4, a5, a6, a7, a8, a9, a10⟩ := seatO (mo := 43) (n := 36) (T := thT A k) (o := thC A k) isMO_43 isPR_36 hPs hz hp (fun d e => thO_in e) h3 h4 h5 h5b
    refine ⟨(nI (k + 1), t), ⟨rfl, hf.two a2, a3.trans h2, a4, a5, ⟨_, a6, fun r hr => ?_⟩, fun j hj => ?_⟩, fun K => ?_⟩
    · unfold wo1 at hr
      cases v with
      | some q => cases hr; exact h5b _ rfl
      | none =>
        cases e : thC A k with
        | some d => rw [e] at hr; cases hr
        | none => rw [e] at hr; cases hr; exact hp
    · by_cases e : j = k
      · subst e; exact a7
      · rw [a9 _ (fun c => e (ho.2 j k (by omega) hk c))]
        exact h6 j (by omega)
    · show H_MO_holdTrue_14 43 36 1 K (nI k) s = _
      unfold H_MO_holdTrue_14 F_MO_holdTrue_70 F_MO_holdTrue_71 F_MO_holdTrue_97
      rw [h2, if_neg (nI_ge hk (by omega)), show F_AC_at (1 + 8) (nI k) s = some (rd s 9 k, s) from atC al_9 (by omega), Option.bind_some]
      simp only
      rw [e9, show F_AC_at (1 + 5) (nI (nOd A k)) s = some (rd s 6 (nOd A k), s) from atC al_6 (by omega), Option.bind_some]
      simp only
      rw [e6, h3, hasC (by omega), Option.bind_some, fr_bit]
      have hlight : F_PR_lightest 36 (nI (nOd A k)) (nI (fr (nD A) (thT A k))) s = some (bI (mk1 (prA 7 A) (nOd A k) (thT A k)), s) := lightestC (T := thT A k) isPR_36 hPs hz hp (fun d hd => by
        have hd' : d < nD A := hd
        rw [fr_bit]; simp [hd'])
      simp only
      rw [h3, hlight]
      simp only [Option.bind_some, if_true]
      have hc : thC A k = if nDi A (nOd A k) < nD A ∧ (thT A k).testBit (nDi A (nOd A k)) = false ∧ mayA A (nOd A k) (nDi A (nOd A k)) = true then some (nDi A (nOd A k)) else mk1 (prA 7 A) (nOd A k) (thT A k) := rfl
      rw [hc] at a1
      by_cases g1 : nDi A (nOd A k) < nD A
      · cases g2 : (thT A k).testBit (nDi A (nOd A k)) with
        | true =>
          rw [if_neg (fun c => by rw [g2] at c; cases c.2.1)] at a1
          simp only [decide_eq_true g1, Bool.not_true, Bool.and_false, zI_f, if_true]
          rw [a1, Option.bind_some, nI_1]
        | false =>
          simp only [decide_eq_true g1, Bool.not_false, Bool.and_true, zI_t, one0, if_false]
          rw [mayC isNI_1 hAs hO hp g1, Option.bind_some]
          cases g3 : mayA A (nOd A k) (nDi A (nOd A k)) with
          | true =>
            rw [if_pos ⟨g1, g2, g3⟩] at a1
            simp only [zI_t, one0, if_false]
            rw [show F_MO_seat 43 36 (nI (nOd A k)) (nI (nDi A (nOd A k))) s = some t from a1, Option.bind_some, nI_1]
          | false =>
            rw [if_neg (fun c => by rw [g3] at c; cases c.2.2)] at a1
            simp only [zI_f, if_true]
            rw [h3, hlight, Option.bind_some]
            simp only
            rw [a1, Option.bind_some, nI_1]
      · rw [if_neg (fun c => g1 c.1)] at a1
        simp only [decide_eq_false g1, Bool.false_and, zI_f, if_true]
        rw [a1, Option.bind_some, nI_1])
  simp only at hw hf h2 h3 h4 h6
  refine ⟨s, ?_, hf, h2, h4, h6⟩
  unfold F_MO_holdTrue F_MO_begin F_MO_holdTrue_14
  rw [allDeedsC hA hO, Option.bind_some]
  simp only [Option.bind_some]
  rw [show rd σ 36 0 = nI (nP A) from hPr.1]
  refine hr _ (fun K => ?_)
  show H_MO_holdTrue_14 43 36 1 K w s = _
  unfold H_MO_holdTrue_14
  rw [hw, h2, if_pos (Int32.le_refl _)]
theorem truth120M {s : St} {A : Nt} {p T c k : Nat} {o : Option Nat} {v1 : Int32} {K : Int32 × Int32 × Int32 × St → Option (Int32 × St)} (hO : OkN A) (hp : p < nP A) (hM : MdN s A 7) (hin : ∀ d, o = some d → d < nD A) : F_MD_truth_120 K v1 (nI T) (nI c) (nI k) (nI p) (bI o) (nI p) s = K (nI (addT T o), nI (c + owN (fun _ => o) A true p), nI (k + 1), wr s 73 p (bI o)) := by
  have hP := hO.P
  have hD := hO.D
  have e64 : rd (wr s 73 p (bI o)) 64 p = nI (nDi A p) := by rw [rd_wr_cell _ _ _ _ (by decide)]; exact (hM.1.2.2.2 p hp).2.2.1
  have hdi := (hO.2.2.2.1 p hp).2.2.1
  unfold F_MD_truth_120 F_MD_truth_145 F_MD_truth_179 F_MD_truth_180
  have l73 : ldA (wr s 73 p (bI o)) 73 (nI p) = some (bI o) := by rw [ldk al_73 (by omega), rd_wr_same]
  have l64 : ldA (wr s 73 p (bI o)) 64 (nI p) = some (nI (nDi A p)) := by rw [ldk al_64 (by omega), e64]
  rw [stk al_73 (by omega)]
  simp only [Option.bind_some, l73, l64]
  rw [nI_1]
  unfold owN
  cases o with
  | none =>
    rw [if_neg (by decide : ¬ (0 : Int32) ≤ bI none), if_pos (by decide), Int32.or_zero, Int32.add_zero, addT_none]
    rfl
  | some d =>
    have hd := hin d rfl
    rw [if_pos (show 0 ≤ bI (some d) from nI_pos' (by omega)), shl_b rfl (by omega), fa_or, if_neg (show ¬ bI (some d) < 0 from nI_pos (by omega))]
    by_cases g : d = nDi A p
    · rw [if_pos (show bI (some d) = nI (nDi A p) by rw [g]; rfl), nI_1]
      simp only [decide_eq_true g, if_true]
      rfl
    · rw [if_neg (show ¬ bI (some d) = nI (nDi A p) from fun c => g (nI_inj (by omega) (by omega) c)), Int32.add_zero]
      simp only [decide_eq_false g, Bool.false_eq_true, if_false]
      rfl
theorem truthM {σ : St} {A : Nt} (hN : NowI σ A) (v : Int32) : ∃ s, F_MD_truth_23 v 0 0 0 σ = some (if v = 0 then nI (sumN (fun p => moZ (prA 7 A) p (thK A p)) (nP A)) else nI (sumN (fun k => owN (thK A) A true (nOd A k)) (nP A)), s) ∧ Fr [73] σ s := by
  have hO := hN.1
  have hP := hO.P
  have hD := hO.D
  have ho := hO.od
  obtain ⟨⟨w2, w3, w4, s⟩, ⟨e2, e3, e4, hf, h6⟩, hr⟩ := fix_rel (f := G_MD_truth_23 v) (n := nP A) (s0 := (nI 0, nI 0, nI 0, σ)) (fun k q => q.1 = nI (thT A k) ∧ q.2.1 = nI (sumN (fun k => owN (thK A) A true (nOd A k)) k) ∧ q.2.2.1 = nI k ∧ Fr [73] σ q.2.2.2 ∧ ∀ j, j < k → rd q.2.2.2 73 (nOd A j) = bI (thC A j)) (by rw [fuel_val]; omega) ⟨rfl, rfl, rfl, Fr.rf, fun j hj => absurd hj (Nat.not_lt_zero _)⟩ (by
    rintro k ⟨w2, w3, w4, s⟩ hk ⟨e2, e3, e4, hf, h6⟩
    simp only at e2 e3 e4 hf h6
    subst e2; subst e3; subst e4
    have hNs : NowI s A := hN.q (Qf.of hf (by decide))
    have hM := hNs.2.2.2.1
    have hp := ho.1 k hk
    have hdi := (hO.2.2.2.1 _ hp).2.2.1
    have hT := thT_lt hO k
    have hin : ∀ d, thC A k = some d → d < nD A := fun d e => (thO_in e).1
    have hown : owN (fun _ => thC A k) A true (nOd A k) = owN (thK A) A true (nOd A k) := by
      unfold owN thK
      rw [ho.plc_od hk]
    have h120 := fun K => truth120M (K := K) (v1 := v) (T := thT A k) (c := sumN (fun k => owN (thK A) A true (nOd A k)) k) (k := k) hO hp hM hin
    rw [hown] at h120
    have l67 : ldA s 67 (nI k) = some (nI (nOd A k)) := by rw [ldk al_67 (by omega), show rd s 67 k = nI (nOd A k) from (hM.1.2.2.2 k hk).2.2.2.2.2]
    have l64 : ldA s 64 (nI (nOd A k)) = some (nI (nDi A (nOd A k))) := by rw [ldk al_64 (by omega), show rd s 64 (nOd A k) = nI (nDi A (nOd A k)) from (hM.1.2.2.2 _ hp).2.2.1]
    refine ⟨(nI (thT A (k + 1)), nI (sumN (fun k => owN (thK A) A true (nOd A k)) (k + 1)), nI (k + 1), wr s 73 (nOd A k) (bI (thC A k))), ⟨rfl, rfl, rfl, hf.two (Fr.wr (by simp)), fun j hj => ?_⟩, fun K => ?_⟩
    · by_cases e : j = k
      · subst e; exact rd_wr_same _ _ _ _
      · rw [rd_wr_slot _ _ _ _ (fun c => e (ho.2 j k (by omega) hk c))]
        exact h6 j (by omega)
    · show H_MD_truth_23 v K (nI (thT A k)) (nI (sumN (fun k => owN (thK A) A true (nOd A k)) k)) (nI k) s = _
      refine Eq.trans ?_ (h120 K)
      unfold H_MD_truth_23 F_MD_truth_89 F_MD_truth_90
      rw [show rd s 58 10 = nI (nP A) from hM.1.2.1, if_neg (nI_ge hk (by omega)), l67]
      simp only [Option.bind_some, l64]
      rw [show rd s 58 9 = nI (nD A) from hM.1.1, hasM (by omega) (by omega)]
      simp only [Option.bind_some, if_true, one0, if_false, zI_eq0, l64]
      rw [bestM hM hO hp (by omega)]
      simp only [Option.bind_some]
      have hc : thC A k = if nDi A (nOd A k) < nD A ∧ (thT A k).testBit (nDi A (nOd A k)) = false ∧ mayA A (nOd A k) (nDi A (nOd A k)) = true then some (nDi A (nOd A k)) else mk1 (prA 7 A) (nOd A k) (thT A k) := rfl
      by_cases g1 : nDi A (nOd A k) < nD A
      · rw [if_neg (nI_ge g1 (by omega)), mayM hM hO hp g1, Option.bind_some]
        simp only [zI_eq0]
        cases g2 : (thT A k).testBit (nDi A (nOd A k)) with
        | true =>
          rw [if_neg (fun c => by rw [g2] at c; cases c.2.1)] at hc
          rw [hc]; simp
        | false =>
          cases g3 : mayA A (nOd A k) (nDi A (nOd A k)) with
          | true =>
            rw [if_pos ⟨g1, g2, g3⟩] at hc
            rw [hc]; simp
            rw [l64]; rfl
          | false =>
            rw [if_neg (fun c => by rw [g3] at c; cases c.2.2)] at hc
            rw [hc]; simp
            rw [bestM hM hO hp (by omega)]; rfl
      · rw [if_pos (nI_le (by omega) (by omega)), hc, if_neg (fun c => g1 c.1)])
  simp only at e2 e3 e4 hf h6
  refine ⟨s, ?_, hf⟩
  have hM : MdN s A 7 := (hN.q (Qf.of hf (by decide))).2.2.2.1
  have htk : ∀ p, p < nP A → rd s 73 p = bI (thK A p) := fun p hp => by
    have := h6 _ (ho.plc_lt hp)
    rw [ho.od_plc hp] at this
    exact this
  unfold F_MD_truth_23
  refine hr _ (fun K => ?_)
  show H_MD_truth_23 v K w2 w3 w4 s = _
  unfold H_MD_truth_23
  rw [e4, show rd s 58 10 = nI (nP A) from hM.1.2.1, if_pos (Int32.le_refl _), e3, allMonthsM hM hO htk (fun p d _ e => (thO_in e).1), Option.bind_some]
  split <;> rfl
theorem op_truth (a : Int32) : Ask (F_AC_truth a) (F_MD_truth a) := by
  intro σ h
  obtain ⟨A, hall⟩ := id h
  have hN := hall.1
  have hO := hN.1
  have hP := hO.P
  have ho := hO.od
  rcases isIn_01 (σ := σ) (b := a) with ⟨hb, _⟩ | ⟨hb, _⟩
  · obtain ⟨s1, a1, a2, hN1, a3⟩ := fillN hN
    obtain ⟨s2, b1, b2, b3, b4, b5⟩ := holdTrueC hN1 a3
    have hN2 : NowI s2 A := hN1.q (Qf.of b2 (by decide))
    obtain ⟨s3, c1, c2⟩ := truthM hN2 a
    have htk : ∀ p, p < nP A → rd s2 44 p = bI (thK A p) := fun p hp => by
      have := b5 _ (ho.plc_lt hp)
      rw [ho.od_plc hp] at this
      exact this
    have hown := ownersC (P := nP A) (mo := 43) (tk := thK A) isMO_43 hO hN2.2.2.1 b3 htk (fun p d hp e => by have : d < nD A := (thO_in e).1; have := hO.D; omega) true
    have hs1 : sumN (fun k => moZ (prA 7 A) (nOd A k) (thC A k)) (nP A) = sumN (fun p => moZ (prA 7 A) p (thK A p)) (nP A) := by
      rw [← sumN_perm ho (fun p => moZ (prA 7 A) p (thK A p))]
      refine sumN_cong (fun k hk => ?_)
      show _ = moZ (prA 7 A) (nOd A k) (thC A (plc (nOd A) (nOd A k) (nP A)))
      rw [ho.plc_od hk]
    have hs2 : sumN (fun k => owN (thK A) A true (nOd A k)) (nP A) = sumN (owN (thK A) A true) (nP A) := sumN_perm ho (owN (thK A) A true)
    rw [hs2] at c1
    refine ⟨_, s2, s3, (?_ : F_AC_truth a σ = some (if a = 0 then nI (sumN (fun p => moZ (prA 7 A) p (thK A p)) (nP A)) else nI (sumN (owN (thK A) A true) (nP A)), s2)), ?_, INV.q hall (((Qf.of a2 (by decide)).tr (Qf.of b2 (by decide))).tr (Qf.of c2 (by decide)))⟩
    · unfold F_AC_truth
      rw [in_01 hb, a1, Option.bind_some, b1, Option.bind_some, show F_MO_owners 43 1 1 s2 = _ from hown, Option.bind_some, b4, hs1]
      split <;> rfl
    · have hin : F_MD_isIn a 0 1 s2 = some (1, s2) := by
        rcases isIn_01 (σ := s2) (b := a) with ⟨_, e⟩ | ⟨hb2, _⟩
        · exact e
        · exfalso; rcases hb with rfl | rfl <;> revert hb2 <;> decide
      unfold F_MD_truth
      rw [hin, Option.bind_some, if1]
      exact c1
  · refine Ask.no h (k := 2) (x := -2) (by decide) (by decide) ?_ (fun τ hτ => ?_)
    · unfold F_AC_truth F_AC_truth_9
      rw [out_01 hb, bid]
    · unfold F_MD_truth
      rw [show (1 : Int32) = nI 1 from rfl, isIn_out (m := 1) (by decide) hb, Option.bind_some, if0, bid]
