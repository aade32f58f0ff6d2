-- a morning of the class
/-- what a morning's object holds behind k places -/
def MoK (σ : St) (mo : Nat) (Z : Pz) (od : Nat → Nat) (T0 k : Nat) : Prop :=
  rd σ mo 2 = nI (zP Z) ∧ rd σ mo 3 = nI (fr (zD Z) (mT Z od T0 k)) ∧ rd σ mo 4 = nI (sumN (fun j => moZ Z (od j) (mC Z od T0 j)) k) ∧ rd σ mo 5 = bI (mWo Z od T0 k) ∧
  ∀ j, j < k → rd σ (mo + 1) (od j) = bI (mC Z od T0 j) ∧ rd σ (mo + 2) (od j) = nI (moZ Z (od j) (mC Z od T0 j))
theorem MoK.fr {σ τ : St} {mo : Nat} {Z : Pz} {od : Nat → Nat} {T0 k : Nat} {l : List Nat} (h : MoK σ mo Z od T0 k) (hf : Fr l σ τ) (h0 : mo ∉ l) (h1 : mo + 1 ∉ l) (h2 : mo + 2 ∉ l) : MoK τ mo Z od T0 k := by
  obtain ⟨a, b, c, d, e⟩ := h
  exact ⟨by rw [hf.at h0]; exact a, by rw [hf.at h0]; exact b, by rw [hf.at h0]; exact c, by rw [hf.at h0]; exact d, fun j hj => ⟨by rw [hf.at h1]; exact (e j hj).1, by rw [hf.at h2]; exact (e j hj).2⟩⟩
theorem seatC {σ : St} {mo n : Nat} {Z : Pz} (hmo : isMO mo) (hn : isPR n) (h : PrC σ n Z) (hz : OkZ Z) {p T S : Nat} {w : Option Nat} (hp : p < zP Z) (hl : rd σ mo 3 = nI (fr (zD Z) T)) (hs : rd σ mo 4 = nI S) (hw : rd σ mo 5 = bI w) (hwo : ∀ q, w = some q → q < zP Z) :
    ∃ σ', F_MO_seat mo n (nI p) (bI (mk1 Z p T)) σ = some σ' ∧ Fr [mo, mo + 1, mo + 2] σ σ' ∧ rd σ' mo 2 = rd σ mo 2 ∧ rd σ' mo 3 = nI (fr (zD Z) (addT T (mk1 Z p T))) ∧ rd σ' mo 4 = nI (S + moZ Z p (mk1 Z p T)) ∧
      rd σ' mo 5 = bI (wo1 w (mk1 Z p T) p) ∧ rd σ' (mo + 1) p = bI (mk1 Z p T) ∧ rd σ' (mo + 2) p = nI (moZ Z p (mk1 Z p T)) ∧
      (∀ j, j ≠ p → rd σ' (mo + 1) j = rd σ (mo + 1) j) ∧ ∀ j, j ≠ p → rd σ' (mo + 2) j = rd σ (mo + 2) j := by
  have hP := hz.1
  have hD := hz.2.1
  have hin : ∀ d, mk1 Z p T = some d → d < zD Z ∧ zM Z p d = true := fun d e => ⟨(mk1_in e).1, (mk1_in e).2.2⟩
  have hd : ∀ d, mk1 Z p T = some d → d < zD Z := fun d e => (hin d e).1
  -- the writes, one by one
  let s2 := wr σ (mo + 1) p (bI (mk1 Z p T))
  let s3 := wr s2 (mo + 2) p (nI (moZ Z p (mk1 Z p T)))
  let s5 := wr s3 mo 3 (nI (fr (zD Z) (addT T (mk1 Z p T))))
  let s6 := wr s5 mo 4 (nI (S + moZ Z p (mk1 Z p T)))
  have e3 : rd s3 mo 3 = nI (fr (zD Z) T) := by
    show rd (wr (wr σ (mo + 1) p _) (mo + 2) p _) mo 3 = _
    rw [rd_wr_cell _ _ _ _ (by omega), rd_wr_cell _ _ _ _ (by omega), hl]
  have e4 : rd s5 mo 4 = nI S := by
    show rd (wr (wr (wr σ (mo + 1) p _) (mo + 2) p _) mo 3 _) mo 4 = _
    rw [rd_wr_slot _ _ _ _ (by decide), rd_wr_cell _ _ _ _ (by omega), rd_wr_cell _ _ _ _ (by omega), hs]
  have e5 : rd s6 mo 5 = bI w := by
    show rd (wr (wr (wr (wr σ (mo + 1) p _) (mo + 2) p _) mo 3 _) mo 4 _) mo 5 = _
    rw [rd_wr_slot _ _ _ _ (by decide), rd_wr_slot _ _ _ _ (by decide), rd_wr_cell _ _ _ _ (by omega), rd_wr_cell _ _ _ _ (by omega), hw]
  have hF6 : Fr [mo, mo + 1, mo + 2] σ s6 := (((Fr.wr (by simp)).two (Fr.wr (by simp))).two (Fr.wr (by simp))).two (Fr.wr (by simp))
  have g2 : rd s6 mo 2 = rd σ mo 2 := by
    show rd (wr (wr (wr (wr σ (mo + 1) p _) (mo + 2) p _) mo 3 _) mo 4 _) mo 2 = _
    rw [rd_wr_slot _ _ _ _ (by decide), rd_wr_slot _ _ _ _ (by decide), rd_wr_cell _ _ _ _ (by omega), rd_wr_cell _ _ _ _ (by omega)]
  have g3 : rd s6 mo 3 = nI (fr (zD Z) (addT T (mk1 Z p T))) := by
    show rd (wr s5 mo 4 _) mo 3 = _
    rw [rd_wr_slot _ _ _ _ (by decide)]; exact rd_wr_same _ _ _ _
  have g4 : rd s6 mo 4 = nI (S + moZ Z p (mk1 Z p T)) := rd_wr_same _ _ _ _
  have gt : ∀ j, rd s6 (mo + 1) j = if j = p then bI (mk1 Z p T) else rd σ (mo + 1) j := by
    intro j
    show rd (wr (wr (wr (wr σ (mo + 1) p _) (mo + 2) p _) mo 3 _) mo 4 _) (mo + 1) j = _
    rw [rd_wr_cell _ _ _ _ (by omega), rd_wr_cell _ _ _ _ (by omega), rd_wr_cell _ _ _ _ (by omega), rd_wr]
    by_cases q : j = p
    · rw [if_pos ⟨rfl, q⟩, if_pos q]
    · rw [if_neg (fun z => q z.2), if_neg q]
  have gm : ∀ j, rd s6 (mo + 2) j = if j = p then nI (moZ Z p (mk1 Z p T)) else rd σ (mo + 2) j := by
    intro j
    show rd (wr (wr (wr (wr σ (mo + 1) p _) (mo + 2) p _) mo 3 _) mo 4 _) (mo + 2) j = _
    rw [rd_wr_cell _ _ _ _ (by omega), rd_wr_cell _ _ _ _ (by omega), rd_wr, rd_wr_cell _ _ _ _ (by omega)]
    by_cases q : j = p
    · rw [if_pos ⟨rfl, q⟩, if_pos q]
    · rw [if_neg (fun z => q z.2), if_neg q]
  have hrun : F_MO_seat mo n (nI p) (bI (mk1 Z p T)) σ = if bI (mk1 Z p T) = (-9 : Int32) then (if bI w = (-9 : Int32) then some (wr s6 mo 5 (nI p)) else some s6) else some s6 := by
    unfold F_MO_seat
    rw [ofC_b hn h hz hp hin, Option.bind_some, putC (al_MO1 hmo) (by omega), Option.bind_some, putC (al_MO2 hmo) (by omega), Option.bind_some, bitC_b (fun d e => by have := hd d e; omega), Option.bind_some]
    show (some (wr s3 mo 3 (rd s3 mo 3 &&& (nI (bitO (mk1 Z p T)) ^^^ -1)))).bind _ = _
    rw [e3, fr_take _ _ hD _ hd, Option.bind_some]
    show (some (wr s5 mo 4 (rd s5 mo 4 + nI (moZ Z p (mk1 Z p T))))).bind _ = _
    rw [e4, nI_add, Option.bind_some]
    show (if bI (mk1 Z p T) = (-9 : Int32) then (if rd s6 mo 5 = (-9 : Int32) then _ else _) else _) = _
    rw [e5]
    rfl
  rw [hrun]
  cases hc : mk1 Z p T with
  | some d =>
    rw [hc] at g3 g4 gt gm hrun
    have hd9 : ¬ bI (some d) = (-9 : Int32) := n9_ne (by have := hd d hc; omega)
    rw [if_neg hd9]
    refine ⟨s6, rfl, hF6, g2, g3, g4, ?_, by rw [gt, if_pos rfl], by rw [gm, if_pos rfl], fun j hj => by rw [gt, if_neg hj], fun j hj => by rw [gm, if_neg hj]⟩
    rw [e5]
    cases w <;> rfl
  | none =>
    rw [hc] at g3 g4 gt gm hrun
    rw [if_pos (show bI none = (-9 : Int32) from rfl)]
    cases w with
    | some q =>
      have hq9 : ¬ bI (some q) = (-9 : Int32) := n9_ne (by have := hwo q rfl; omega)
      rw [if_neg hq9]
      exact ⟨s6, rfl, hF6, g2, g3, g4, e5, by rw [gt, if_pos rfl], by rw [gm, if_pos rfl], fun j hj => by rw [gt, if_neg hj], fun j hj => by rw [gm, if_neg hj]⟩
    | none =>
      rw [if_pos (show bI none = (-9 : Int32) from rfl)]
      refine ⟨wr s6 mo 5 (nI p), rfl, hF6.two (Fr.wr (by simp)), ?_, ?_, ?_, rd_wr_same _ _ _ _, ?_, ?_, fun j hj => ?_, fun j hj => ?_⟩
      · rw [rd_wr_slot _ _ _ _ (by decide)]; exact g2
      · rw [rd_wr_slot _ _ _ _ (by decide)]; exact g3
      · rw [rd_wr_slot _ _ _ _ (by decide)]; exact g4
      · rw [rd_wr_cell _ _ _ _ (by omega), gt, if_pos rfl]
      · rw [rd_wr_cell _ _ _ _ (by omega), gm, if_pos rfl]
      · rw [rd_wr_cell _ _ _ _ (by omega), gt, if_neg hj]
      · rw [rd_wr_cell _ _ _ _ (by omega), gm, if_neg hj]
theorem mWo_in {Z : Pz} {od : Nat → Nat} {T0 : Nat} (ho : OdOK (zP Z) od) : ∀ {k : Nat}, k ≤ zP Z → ∀ q, mWo Z od T0 k = some q → q < zP Z
  | 0, _, q, h => by cases h
  | k + 1, hk, q, h => by
    unfold mWo wo1 at h
    cases e : mWo Z od T0 k with
    | some q' =>
      rw [e] at h
      cases h
      exact mWo_in ho (by omega) _ e
    | none =>
      rw [e] at h
      cases e2 : mC Z od T0 k with
      | some d => rw [e2] at h; cases h
      | none =>
        rw [e2] at h
        cases h
        exact ho.1 k (by omega)
theorem holdC {σ : St} {mo n oc : Nat} {Z : Pz} {od : Nat → Nat} {T0 x len : Nat} (hmo : isMO mo) (hn : isPR n) (hoc : alen oc = len) (hlen : len < 2 ^ 31) (h : PrC σ n Z) (hz : OkZ Z) (ho : OdOK (zP Z) od) (hPl : zP Z ≤ len) (hod : ∀ k, k < zP Z → rd σ oc k = nI (od k)) (hx : x = fr (zD Z) T0)
    (hn0 : n ∉ [mo, mo + 1, mo + 2]) (hn1 : n + 1 ∉ [mo, mo + 1, mo + 2]) (hoc0 : oc ∉ [mo, mo + 1, mo + 2]) :
    ∃ σ', F_MO_hold mo n oc (nI x) σ = some σ' ∧ Fr [mo, mo + 1, mo + 2] σ σ' ∧ MoK σ' mo Z od T0 (zP Z) := by
  subst hx
  have hP := hz.1
  let s1 := wr (wr (wr (wr σ mo 2 (nI (zP Z))) mo 3 (nI (fr (zD Z) T0))) mo 4 0) mo 5 (-9)
  have hF1 : Fr [mo, mo + 1, mo + 2] σ s1 := (((Fr.wr (by simp)).two (Fr.wr (by simp))).two (Fr.wr (by simp))).two (Fr.wr (by simp))
  have hI0 : MoK s1 mo Z od T0 0 := by
    refine ⟨?_, ?_, ?_, rd_wr_same _ _ _ _, fun j hj => absurd hj (Nat.not_lt_zero _)⟩
    · show rd (wr (wr (wr (wr σ mo 2 _) mo 3 _) mo 4 _) mo 5 _) mo 2 = _
      rw [rd_wr_slot _ _ _ _ (by decide), rd_wr_slot _ _ _ _ (by decide), rd_wr_slot _ _ _ _ (by decide), rd_wr_same]
    · show rd (wr (wr (wr (wr σ mo 2 _) mo 3 _) mo 4 _) mo 5 _) mo 3 = _
      rw [rd_wr_slot _ _ _ _ (by decide), rd_wr_slot _ _ _ _ (by decide), rd_wr_same]; rfl
    · show rd (wr (wr (wr (wr σ mo 2 _) mo 3 _) mo 4 _) mo 5 _) mo 4 = _
      rw [rd_wr_slot _ _ _ _ (by decide), rd_wr_same]; rfl
  obtain ⟨⟨w, s⟩, ⟨hw, hf, hm⟩, hr⟩ := fix_rel (f := G_MO_hold_12 mo n oc) (n := zP Z) (s0 := (nI 0, s1)) (fun k q => q.1 = nI k ∧ Fr [mo, mo + 1, mo + 2] σ q.2 ∧ MoK q.2 mo Z od T0 k) (by rw [fuel_val]; omega) ⟨rfl, hF1, hI0⟩ (by
    rintro k ⟨w, s⟩ hk ⟨hw, hf, hm⟩
    simp only at hw hf hm
    subst hw
    obtain ⟨m2, m3, m4, m5, mall⟩ := hm
    have hPr : PrC s n Z := h.fr hf hn0 hn1
    have hp := ho.1 k hk
    obtain ⟨s4, a1, a2, a3, a4, a5, a6, a7, a8, a9, a10⟩ := seatC (p := od k) (T := mT Z od T0 k) hmo hn hPr hz hp m3 m4 m5 (mWo_in ho (by omega))
    refine ⟨(nI (k + 1), s4), ⟨rfl, hf.two a2, a3.trans m2, a4, a5, ?_, fun j hj => ?_⟩, fun K => ?_⟩
    · rw [a6]; rfl
    · by_cases q : j = k
      · subst q; exact ⟨a7, a8⟩
      · have hne : od j ≠ od k := fun e => q (ho.2 j k (by omega) hk e)
        rw [a9 _ hne, a10 _ hne]
        exact mall j (by omega)
    · show H_MO_hold_12 mo n oc K (nI k) s = _
      unfold H_MO_hold_12
      rw [m2, if_neg (nI_ge hk (by omega)), atC hoc (by omega) hlen, Option.bind_some, hf.at hoc0, hod k hk, m3, lightestC (T := mT Z od T0 k) hn hPr hz hp (fun d hd => by rw [fr_bit]; simp [hd]), Option.bind_some, a1, Option.bind_some, nI_1])
  refine ⟨s, ?_, hf, hm⟩
  unfold F_MO_hold F_MO_begin F_MO_hold_12
  rw [h.1]
  simp only [Option.bind_some]
  refine hr _ (fun K => ?_)
  show H_MO_hold_12 mo n oc K w s = _
  unfold H_MO_hold_12
  simp only at hw hm
  rw [hw, hm.1, if_pos (Int32.le_refl _)]
