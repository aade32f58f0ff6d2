-- whose deeds they could have been
def cnB (A : Nt) (p d : Nat) : Bool := mayA A p d && (decide (nDi A p ≠ 7) && decide (nD A ≤ nDi A p ∨ nDi A p = d))
def chT (rs : Option (Nat × Nat)) (p d : Nat) : Bool := match rs with | none => true | some x => decide (d ≠ x.2 ∨ p = x.1)
def chQ (A : Nt) (rs : Option (Nat × Nat)) (p d : Nat) : Bool := cnB A p d && chT rs p d
def wyN (A : Nt) (rs : Option (Nat × Nat)) : Nat → Nat → Nat
  | 0 => fun S => if S = 0 then 1 else 0
  | d + 1 => fun S => sumN (fun p => if S.testBit p = true ∧ chQ A rs p d = true then wyN A rs d (S ^^^ 2 ^ p) else 0) (nP A)
theorem wyN_s (A : Nt) (rs : Option (Nat × Nat)) (d S : Nat) : wyN A rs (d + 1) S = sumN (fun p => if S.testBit p = true ∧ chQ A rs p d = true then wyN A rs d (S ^^^ 2 ^ p) else 0) (nP A) := rfl
theorem bt_in : ∀ S, S < 128 → ∀ p, p < 7 → S.testBit p = true → (S ^^^ 2 ^ p) < S ∧ popN (S ^^^ 2 ^ p) + 1 = popN S ∧ (S ^^^ 2 ^ p).testBit p = false ∧ (S ^^^ 2 ^ p) ||| 2 ^ p = S ∧ S &&& (2 ^ p ^^^ 4294967295) = S ^^^ 2 ^ p := by decide +kernel
theorem bt_out : ∀ S, S < 128 → ∀ p, p < 7 → S.testBit p = false → (S ||| 2 ^ p).testBit p = true ∧ ((S ||| 2 ^ p) ^^^ 2 ^ p) = S ∧ S ||| 2 ^ p < 128 := by decide +kernel
theorem pop0 : ∀ S, S < 128 → popN S = 0 → S = 0 := by decide +kernel
theorem wyN_le {A : Nt} (hP : nP A ≤ 7) (rs : Option (Nat × Nat)) : ∀ d S, wyN A rs d S ≤ 7 ^ d
  | 0, S => by
    show (if S = 0 then 1 else 0) ≤ 1
    split <;> omega
  | d + 1, S => by
    rw [wyN_s]
    have h := sumN_le (n := nP A) (f := fun p => if S.testBit p = true ∧ chQ A rs p d = true then wyN A rs d (S ^^^ 2 ^ p) else 0) (b := 7 ^ d) (fun k _ => by
      show (if _ then _ else _) ≤ _
      split
      · exact wyN_le hP rs d _
      · exact Nat.zero_le _)
    have h2 : nP A * 7 ^ d ≤ 7 * 7 ^ d := Nat.mul_le_mul_right _ hP
    rw [Nat.pow_succ]
    omega
theorem sumN_nz {f : Nat → Nat} : ∀ {n : Nat}, sumN f n ≠ 0 → ∃ k, k < n ∧ f k ≠ 0
  | 0, h => absurd rfl h
  | n + 1, h => by
    rw [sumN] at h
    by_cases e : f n = 0
    · obtain ⟨k, hk, q⟩ := sumN_nz (f := f) (n := n) (by omega)
      exact ⟨k, by omega, q⟩
    · exact ⟨n, by omega, e⟩
theorem wyN_nz {A : Nt} (hP : nP A ≤ 7) (rs : Option (Nat × Nat)) : ∀ d S, S < 128 → wyN A rs d S ≠ 0 → popN S = d ∧ S < 2 ^ nP A
  | 0, S, hS, h => by
    have e : wyN A rs 0 S = if S = 0 then 1 else 0 := rfl
    rw [e] at h
    by_cases q : S = 0
    · subst q
      exact ⟨by decide, Nat.two_pow_pos _⟩
    · rw [if_neg q] at h; exact absurd rfl h
  | d + 1, S, hS, h => by
    rw [wyN_s] at h
    obtain ⟨p, hp, q⟩ := sumN_nz h
    split at q
    · rename_i c
      obtain ⟨b1, b2, b3, b4, b5⟩ := bt_in S hS p (by omega) c.1
      obtain ⟨i1, i2⟩ := wyN_nz hP rs d _ (by omega) q
      refine ⟨by omega, ?_⟩
      rw [← b4]
      exact or_lt2 i2 hp
    · exact absurd rfl q
theorem sumN_ext {f : Nat → Nat} {m : Nat} : ∀ {n : Nat}, m ≤ n → (∀ k, m ≤ k → k < n → f k = 0) → sumN f n = sumN f m
  | 0, h, _ => by rw [show m = 0 by omega]
  | n + 1, h, h0 => by
    by_cases e : m = n + 1
    · rw [e]
    · rw [sumN, h0 n (by omega) (by omega), Nat.add_zero, sumN_ext (n := n) (by omega) (fun k h1 h2 => h0 k h1 (by omega))]
/-- told by whom, or by nobody -/
def RSr (A : Nt) (rs : Option (Nat × Nat)) (v1 v2 : Int32) : Prop := (rs = none ∧ v1 = -1 ∧ v2 = -1) ∨ ∃ pe de, rs = some (pe, de) ∧ pe < nP A ∧ de < nD A ∧ v1 = nI pe ∧ v2 = nI de
theorem n1_ne {k : Nat} (h : k < 2 ^ 31) : nI k ≠ -1 := by
  intro q
  have a := nI_toInt h
  rw [q] at a
  have b : (-1 : Int32).toInt = -1 := by decide
  omega
-- the class
theorem canDoneC {σ : St} {A : Nt} (hA : AbsC σ 1 A) (hO : OkN A) (hD : nD A ≤ 7) {p d : Nat} (hp : p < nP A) (hd : d < nD A) : F_NI_canHaveDone 1 (nI p) (nI d) σ = some (zI (cnB A p d), σ) := by
  have hP := hO.P
  have hdi := (hO.2.2.2.1 p hp).2.2.1
  unfold F_NI_canHaveDone F_NI_canHaveDone_41 F_NI_canHaveDone_37
  rw [show F_AC_at (1 + 5) (nI p) σ = some (rd σ 6 p, σ) from atC al_6 (by omega), Option.bind_some]
  simp only
  rw [show rd σ 6 p = nI (nDi A p) from (hA.2.2.2 p hp).2.2.1, mayC isNI_1 hA hO hp hd, Option.bind_some]
  simp only [zI_eq0]
  unfold cnB
  cases mayA A p d with
  | false => rfl
  | true =>
    simp only [Bool.true_eq_false, if_false, Bool.true_and]
    by_cases h7 : nDi A p = 7
    · rw [if_pos (show nI (nDi A p) = (7 : Int32) by rw [h7]; rfl), decide_eq_false (fun c => c h7)]
      rfl
    · rw [if_neg (show ¬ nI (nDi A p) = (7 : Int32) from fun c => h7 (nI_inj (b := 7) (by omega) (by decide) c)), decide_eq_true h7, Bool.true_and]
      by_cases hh : nDi A p < nD A
      · rw [hasDeedC_in hA hO hh, Option.bind_some]
        simp only [one0, if_false]
        by_cases g : nDi A p = d
        · rw [if_pos (by rw [g]), decide_eq_true (Or.inr g)]; rfl
        · rw [if_neg (fun c => g (nI_inj (by omega) (by omega) c)), decide_eq_false (fun c => by rcases c with q | q; omega; exact g q)]; rfl
      · rw [hasDeedC_out hA hO (Or.inr (nI_le (by omega) (by omega))), Option.bind_some]
        simp only [if_true]
        rw [decide_eq_true (Or.inl (by omega))]; rfl
/-- what stands in the class's row T when the sets below S are through -/
def cwT (A : Nt) (rs : Option (Nat × Nat)) (S T p : Nat) : Nat := if T.testBit p = true ∧ (T ^^^ 2 ^ p) < S ∧ popN (T ^^^ 2 ^ p) < nD A ∧ chQ A rs p (popN (T ^^^ 2 ^ p)) = true then wyN A rs (popN (T ^^^ 2 ^ p)) (T ^^^ 2 ^ p) else 0
def cwN (A : Nt) (rs : Option (Nat × Nat)) (S T : Nat) : Nat := (if T = 0 then 1 else 0) + sumN (cwT A rs S T) (nP A)
theorem cwN_self {A : Nt} (hP : nP A ≤ 7) {rs : Option (Nat × Nat)} {S : Nat} (hS : S < 128) (hp : popN S ≤ nD A) : cwN A rs S S = wyN A rs (popN S) S := by
  unfold cwN
  by_cases h0 : S = 0
  · subst h0
    rw [if_pos rfl, sumN_zero (fun k _ => by unfold cwT; rw [if_neg (fun c => by rw [Nat.zero_testBit] at c; cases c.1)]), show popN 0 = 0 by decide]
    rfl
  · rw [if_neg h0, Nat.zero_add]
    obtain ⟨d, hd⟩ : ∃ d, popN S = d + 1 := by
      rcases Nat.eq_zero_or_pos (popN S) with q | q
      · exact absurd (pop0 S hS q) h0
      · exact ⟨popN S - 1, by omega⟩
    rw [hd, wyN_s]
    refine sumN_cong (fun p hpp => ?_)
    unfold cwT
    by_cases hb : S.testBit p = true
    · obtain ⟨b1, b2, b3, b4, b5⟩ := bt_in S hS p (by omega) hb
      have e : popN (S ^^^ 2 ^ p) = d := by omega
      rw [e]
      by_cases hq : chQ A rs p d = true
      · rw [if_pos ⟨hb, b1, by omega, hq⟩, if_pos ⟨hb, hq⟩]
      · rw [if_neg (fun c => hq c.2.2.2), if_neg (fun c => hq c.2)]
    · rw [if_neg (fun c => hb c.1), if_neg (fun c => hb c.1)]
def cwA (A : Nt) (rs : Option (Nat × Nat)) (S T p : Nat) : Nat := if T.testBit p = true ∧ (T ^^^ 2 ^ p) = S ∧ chQ A rs p (popN S) = true then wyN A rs (popN S) S else 0
theorem cwN_step {A : Nt} {rs : Option (Nat × Nat)} {S T : Nat} (h : popN S < nD A) : cwN A rs (S + 1) T = cwN A rs S T + sumN (cwA A rs S T) (nP A) := by
  unfold cwN
  rw [Nat.add_assoc, ← sumN_add]
  congr 1
  refine sumN_cong (fun p _ => ?_)
  unfold cwT cwA
  by_cases hb : T.testBit p = true
  · rcases Nat.lt_trichotomy (T ^^^ 2 ^ p) S with g | g | g
    · by_cases c : popN (T ^^^ 2 ^ p) < nD A ∧ chQ A rs p (popN (T ^^^ 2 ^ p)) = true
      · rw [if_pos ⟨hb, by omega, c⟩, if_pos ⟨hb, g, c⟩, if_neg (fun q => by have := q.2.1; omega)]
        exact (Nat.add_zero _).symm
      · rw [if_neg (fun q => c q.2.2), if_neg (fun q => c q.2.2), if_neg (fun q => by have := q.2.1; omega)]
    · rw [g]
      by_cases c : chQ A rs p (popN S) = true
      · rw [if_pos ⟨hb, by omega, h, c⟩, if_neg (fun q => by have := q.2.1; omega), if_pos ⟨hb, rfl, c⟩, Nat.zero_add]
      · rw [if_neg (fun q => c q.2.2.2), if_neg (fun q => c q.2.2.2), if_neg (fun q => c q.2.2)]
    · rw [if_neg (fun q => by have := q.2.1; omega), if_neg (fun q => by have := q.2.1; omega), if_neg (fun q => by have := q.2.1; omega)]
  · rw [if_neg (fun q => hb q.1), if_neg (fun q => hb q.1), if_neg (fun q => hb q.1)]
theorem cwN_stay {A : Nt} {rs : Option (Nat × Nat)} {S T : Nat} (h : nD A ≤ popN S) : cwN A rs (S + 1) T = cwN A rs S T := by
  unfold cwN
  congr 1
  refine sumN_cong (fun p _ => ?_)
  unfold cwT
  by_cases g : (T ^^^ 2 ^ p) = S
  · rw [if_neg (fun q => by have := q.2.2.1; rw [g] at this; omega), if_neg (fun q => by have := q.2.2.1; rw [g] at this; omega)]
  · have e : (T ^^^ 2 ^ p) < S + 1 ↔ (T ^^^ 2 ^ p) < S := by omega
    by_cases c : T.testBit p = true ∧ (T ^^^ 2 ^ p) < S ∧ popN (T ^^^ 2 ^ p) < nD A ∧ chQ A rs p (popN (T ^^^ 2 ^ p)) = true
    · rw [if_pos c, if_pos ⟨c.1, e.mpr c.2.1, c.2.2⟩]
    · rw [if_neg c, if_neg (fun q => c ⟨q.1, e.mp q.2.1, q.2.2⟩)]
theorem giveOutC {s : St} {A : Nt} (hA : AbsC s 1 A) (hO : OkN A) (hD : nD A ≤ 7) {rs : Option (Nat × Nat)} {v1 v2 : Int32} (hr : RSr A rs v1 v2) {S : Nat} (hS : S < 2 ^ nP A) (hpop : popN S < nD A) (hrow : ∀ T, T < 2 ^ nP A → rd s 55 T = nI (cwN A rs S T)) :
    ∃ s', F_AC_giveOut (nI S) (nI (popN S)) (if nI (popN S) = v2 then v1 else -9) s = some s' ∧ Fr [55] s s' ∧ ∀ T, T < 2 ^ nP A → rd s' 55 T = nI (cwN A rs (S + 1) T) := by
  have hP := hO.P
  have h128 := pow_le128 hP
  obtain ⟨o, ho⟩ : ∃ o, o = (if nI (popN S) = v2 then v1 else (-9 : Int32)) := ⟨_, rfl⟩
  rw [← ho]
  -- who is asked
  have hask : ∀ p, p < nP A → ((o = -9 ∨ o = nI p) ↔ chT rs p (popN S) = true) := fun p hp => by
    rcases hr with ⟨rfl, rfl, rfl⟩ | ⟨pe, de, rfl, hpe, hde, rfl, rfl⟩
    · rw [if_neg (n1_ne (by omega))] at ho
      exact ⟨fun _ => rfl, fun _ => Or.inl ho⟩
    · show _ ↔ decide (popN S ≠ de ∨ p = pe) = true
      rw [decide_eq_true_eq]
      by_cases g : popN S = de
      · rw [if_pos (by rw [g])] at ho
        rw [ho]
        constructor
        · intro c
          rcases c with c | c
          · exact absurd c (n9_ne (by omega))
          · exact Or.inr (nI_inj (by omega) (by omega) c).symm
        · intro c
          rcases c with c | c
          · exact absurd g c
          · exact Or.inr (by rw [c])
      · rw [if_neg (fun c => g (nI_inj (by omega) (by omega) c))] at ho
        exact ⟨fun _ => Or.inl g, fun _ => Or.inl ho⟩
  have hself : ∀ k, k ≤ nP A → sumN (cwA A rs S S) k = 0 := fun k hk => sumN_zero (fun p hp => by
    unfold cwA
    rw [if_neg]
    rintro ⟨c1, c2, c3⟩
    have := (bt_in S (by omega) p (by omega) c1).1
    omega)
  have hS0 : cwN A rs S S = wyN A rs (popN S) S := cwN_self hP (by omega) (by omega)
  obtain ⟨⟨w, s'⟩, ⟨hw, hf, h1⟩, hrr⟩ := fix_rel (f := G_AC_giveOut_3 (nI S) (nI (popN S)) o) (n := nP A) (s0 := (nI 0, s)) (fun k q => q.1 = nI k ∧ Fr [55] s q.2 ∧ ∀ T, T < 2 ^ nP A → rd q.2 55 T = nI (cwN A rs S T + sumN (cwA A rs S T) k)) (by rw [fuel_val]; omega) ⟨rfl, Fr.rf, hrow⟩ (by
    rintro p ⟨w, t⟩ hp ⟨hw, hf, h1⟩
    simp only at hw hf h1
    subst hw
    have hAt : AbsC t 1 A := hA.fr hf (fun k hk => by simp; omega)
    have e1 : rd t 1 1 = nI (nP A) := hAt.2.1
    have hcan := canDoneC hAt hO hD hp hpop
    have hbit := hasC (σ := t) (x := S) (d := p) (by omega)
    have es : ∀ T, sumN (cwA A rs S T) (p + 1) = sumN (cwA A rs S T) p + cwA A rs S T p := fun _ => rfl
    have hstart : ∀ K, H_AC_giveOut_3 (nI S) (nI (popN S)) o K (nI p) t = F_AC_giveOut_32 K (nI S) (nI (popN S)) o (nI p) (if o = -9 ∨ o = nI p then 1 else 0) t := fun K => by
      unfold H_AC_giveOut_3 F_AC_giveOut_27
      rw [e1, if_neg (nI_ge hp (by omega))]
      by_cases c1 : o = -9
      · rw [if_pos c1, if_pos (Or.inl c1)]
      · rw [if_neg c1]
        by_cases c2 : o = nI p
        · rw [if_pos c2, if_pos (Or.inr c2)]
        · rw [if_neg c2, if_neg (fun q => q.elim c1 c2)]
    by_cases hgo : S.testBit p = false ∧ chQ A rs p (popN S) = true
    · have hq := hgo.2
      unfold chQ at hq
      rw [Bool.and_eq_true] at hq
      obtain ⟨b1, b2, b3⟩ := bt_out S (by omega) p (by omega) hgo.1
      have hT0 : S ||| 2 ^ p < 2 ^ nP A := or_lt2 hS hp
      refine ⟨(nI (p + 1), wr t 55 (S ||| 2 ^ p) (nI (cwN A rs S (S ||| 2 ^ p) + sumN (cwA A rs S (S ||| 2 ^ p)) (p + 1)))), ⟨rfl, hf.two (Fr.wr (by simp)), fun T hT => ?_⟩, fun K => ?_⟩
      · by_cases e : T = S ||| 2 ^ p
        · subst e; exact rd_wr_same _ _ _ _
        · rw [rd_wr_slot _ _ _ _ e, h1 T hT, es T]
          have : cwA A rs S T p = 0 := by
            unfold cwA
            rw [if_neg]
            rintro ⟨c1, c2, c3⟩
            have := (bt_in T (by omega) p (by omega) c1).2.2.2.1
            rw [c2] at this
            exact e this.symm
          rw [this, Nat.add_zero]
      · show H_AC_giveOut_3 (nI S) (nI (popN S)) o K (nI p) t = _
        have ha : cwA A rs S (S ||| 2 ^ p) p = wyN A rs (popN S) S := by
          unfold cwA
          rw [if_pos ⟨b1, b2, hgo.2⟩]
        rw [hstart K, if_pos ((hask p hp).mpr hq.2)]
        unfold F_AC_giveOut_32 F_AC_giveOut_97
        rw [if_neg (by decide), hbit, Option.bind_some, hgo.1]
        simp only [zI_f, if_true]
        rw [hcan, Option.bind_some, hq.1]
        simp only [zI_t, one0, if_false]
        rw [bitC (by omega), Option.bind_some]
        simp only
        rw [Option.bind_some, fa_or, atC al_55 (by omega), Option.bind_some]
        simp only
        rw [atC al_55 (by omega), Option.bind_some]
        simp only
        rw [h1 _ hT0, h1 _ hS, hself p (by omega), Nat.add_zero, hS0, nI_add, putC al_55 (by omega), Option.bind_some, nI_1, es, ha, Nat.add_assoc]
    · refine ⟨(nI (p + 1), t), ⟨rfl, hf, fun T hT => ?_⟩, fun K => ?_⟩
      · rw [h1 T hT, es T]
        have : cwA A rs S T p = 0 := by
          unfold cwA
          rw [if_neg]
          rintro ⟨c1, c2, c3⟩
          have := (bt_in T (by omega) p (by omega) c1).2.2.1
          rw [c2] at this
          exact hgo ⟨this, c3⟩
        rw [this, Nat.add_zero]
      · show H_AC_giveOut_3 (nI S) (nI (popN S)) o K (nI p) t = _
        rw [hstart K]
        unfold F_AC_giveOut_32 F_AC_giveOut_97
        by_cases hk : o = -9 ∨ o = nI p
        · rw [if_pos hk, if_neg (by decide), hbit, Option.bind_some]
          simp only [zI_eq0]
          cases hb : S.testBit p with
          | true => simp; rw [nI_1]
          | false =>
            have hcn : cnB A p (popN S) = false := by
              cases hc : cnB A p (popN S) with
              | false => rfl
              | true => exact absurd ⟨hb, by unfold chQ; rw [hc, (hask p hp).mp hk]; rfl⟩ hgo
            simp only [if_true]
            rw [hcan, Option.bind_some, hcn]
            simp only [zI_f, if_true]
            rw [nI_1]
        · rw [if_neg hk, if_pos rfl, nI_1])
  simp only at hw hf h1
  refine ⟨s', ?_, hf, fun T hT => by rw [h1 T hT, cwN_step hpop]⟩
  unfold F_AC_giveOut F_AC_giveOut_3
  refine hrr _ (fun K => ?_)
  show H_AC_giveOut_3 (nI S) (nI (popN S)) o K w s' = _
  unfold H_AC_giveOut_3
  rw [hw, show rd s' 1 1 = nI (nP A) from (hf.at (by decide) 1).trans hA.2.1, if_pos (Int32.le_refl _)]
def wsN (A : Nt) (rs : Option (Nat × Nat)) (S : Nat) : Nat := if popN S = nD A then wyN A rs (nD A) S else 0
theorem countWaysC {σ : St} {A : Nt} (hA : AbsC σ 1 A) (hO : OkN A) (hD : nD A ≤ 7) {rs : Option (Nat × Nat)} {v1 v2 : Int32} (hr : RSr A rs v1 v2) : ∃ s, F_AC_countWays v1 v2 σ = some (nI (sumN (wyN A rs (nD A)) 128), s) ∧ Fr [55] σ s := by
  have hP := hO.P
  have h128 := pow_le128 hP
  have hsum : sumN (wsN A rs) (2 ^ nP A) = sumN (wyN A rs (nD A)) 128 := by
    rw [sumN_ext h128 (fun k h1 h2 => ?_)]
    · refine sumN_cong (fun S hS => ?_)
      unfold wsN
      by_cases e : popN S = nD A
      · rw [if_pos e]
      · rw [if_neg e]
        rcases Nat.eq_zero_or_pos (wyN A rs (nD A) S) with q | q
        · exact q.symm
        · exact absurd (wyN_nz hP rs (nD A) S (by omega) (by omega)).1 e
    · rcases Nat.eq_zero_or_pos (wyN A rs (nD A) k) with q | q
      · exact q
      · have := (wyN_nz hP rs (nD A) k (by omega) (by omega)).2
        omega
  obtain ⟨⟨w0, s0⟩, ⟨hw0, hf0, h10⟩, hr0⟩ := fix_rel (f := G_AC_countWays_17 v1 v2 (nI (2 ^ nP A)) 0) (n := 128) (s0 := (nI 0, σ)) (fun k q => q.1 = nI k ∧ Fr [55] σ q.2 ∧ ∀ T, T < k → rd q.2 55 T = nI (if T = 0 then 1 else 0)) (by rw [fuel_val]; omega) ⟨rfl, Fr.rf, fun T hT => absurd hT (Nat.not_lt_zero _)⟩ (by
    rintro k ⟨w, t⟩ hk ⟨hw, hf, h1⟩
    simp only at hw hf h1
    subst hw
    refine ⟨(nI (k + 1), wr t 55 k (nI (if k = 0 then 1 else 0))), ⟨rfl, hf.two (Fr.wr (by simp)), fun T hT => ?_⟩, fun K => ?_⟩
    · by_cases e : T = k
      · subst e; exact rd_wr_same _ _ _ _
      · rw [rd_wr_slot _ _ _ _ e]; exact h1 T (by omega)
    · show H_AC_countWays_17 v1 v2 (nI (2 ^ nP A)) 0 K (nI k) t = _
      unfold H_AC_countWays_17 F_AC_countWays_43
      rw [al_55, if_neg (nI_ge hk (by decide))]
      by_cases e : k = 0
      · rw [if_pos (by rw [e]; rfl), stk al_55 hk, Option.bind_some, nI_1, if_pos e]
        rfl
      · rw [if_neg (show ¬ nI k = (0 : Int32) from fun c => e (nI_inj (b := 0) (by omega) (by decide) c)), stk al_55 hk, Option.bind_some, nI_1, if_neg e]
        rfl)
  simp only at hw0 hf0 h10
  have hcw0 : ∀ T, T < 2 ^ nP A → rd s0 55 T = nI (cwN A rs 0 T) := fun T hT => by
    rw [h10 T (by omega)]
    unfold cwN
    rw [sumN_zero (fun p _ => by unfold cwT; rw [if_neg (fun c => absurd c.2.1 (Nat.not_lt_zero _))]), Nat.add_zero]
  obtain ⟨⟨x, w, s⟩, ⟨hx, hw, hf, h1⟩, hrr⟩ := fix_rel (f := G_AC_countWays_53 v1 v2 (nI (2 ^ nP A))) (n := 2 ^ nP A) (s0 := (nI 0, nI 0, s0)) (fun S q => q.1 = nI (sumN (wsN A rs) S) ∧ q.2.1 = nI S ∧ Fr [55] σ q.2.2 ∧ ∀ T, T < 2 ^ nP A → rd q.2.2 55 T = nI (cwN A rs S T)) (by rw [fuel_val]; omega) ⟨rfl, rfl, hf0, hcw0⟩ (by
    rintro S ⟨x, w, t⟩ hS ⟨hx, hw, hf, h1⟩
    simp only at hx hw hf h1
    subst hx; subst hw
    have hAt : AbsC t 1 A := hA.fr hf (fun k hk => by simp; omega)
    have e0 : rd t 1 0 = nI (nD A) := hAt.1
    have hpl := popN_le S (by omega)
    have es : sumN (wsN A rs) (S + 1) = sumN (wsN A rs) S + wsN A rs S := rfl
    rcases Nat.lt_trichotomy (popN S) (nD A) with g | g | g
    · obtain ⟨t', b1, b2, b3⟩ := giveOutC hAt hO hD hr hS g h1
      refine ⟨(nI (sumN (wsN A rs) (S + 1)), nI (S + 1), t'), ⟨rfl, rfl, hf.two b2, b3⟩, fun K => ?_⟩
      show H_AC_countWays_53 v1 v2 (nI (2 ^ nP A)) K (nI (sumN (wsN A rs) S)) (nI S) t = _
      have ew : wsN A rs S = 0 := by unfold wsN; rw [if_neg (by omega)]
      unfold H_AC_countWays_53 F_AC_countWays_124 F_AC_countWays_127
      rw [if_neg (nI_ge hS (by omega)), bitCountC (by omega), Option.bind_some]
      simp only
      rw [e0, if_neg (fun c => by have := nI_inj (by omega) (by omega) c; omega), if_neg (nI_ge g (by omega)), es, ew, Nat.add_zero]
      by_cases c : nI (popN S) = v2
      · rw [if_pos c] at b1 ⊢
        rw [b1, Option.bind_some, nI_1]
      · rw [if_neg c] at b1 ⊢
        rw [b1, Option.bind_some, nI_1]
    · refine ⟨(nI (sumN (wsN A rs) (S + 1)), nI (S + 1), t), ⟨rfl, rfl, hf, fun T hT => by rw [h1 T hT, cwN_stay (by omega)]⟩, fun K => ?_⟩
      show H_AC_countWays_53 v1 v2 (nI (2 ^ nP A)) K (nI (sumN (wsN A rs) S)) (nI S) t = _
      have ew : wsN A rs S = wyN A rs (popN S) S := by unfold wsN; rw [if_pos g, g]
      unfold H_AC_countWays_53 F_AC_countWays_127
      rw [if_neg (nI_ge hS (by omega)), bitCountC (by omega), Option.bind_some]
      simp only
      rw [e0, if_pos (by rw [g]), atC al_55 (by omega), Option.bind_some]
      simp only
      rw [h1 S hS, cwN_self hP (by omega) (by omega), Option.bind_some, nI_add, nI_1, es, ew]
    · refine ⟨(nI (sumN (wsN A rs) (S + 1)), nI (S + 1), t), ⟨rfl, rfl, hf, fun T hT => by rw [h1 T hT, cwN_stay (by omega)]⟩, fun K => ?_⟩
      show H_AC_countWays_53 v1 v2 (nI (2 ^ nP A)) K (nI (sumN (wsN A rs) S)) (nI S) t = _
      have ew : wsN A rs S = 0 := by unfold wsN; rw [if_neg (by omega)]
      unfold H_AC_countWays_53 F_AC_countWays_127
      rw [if_neg (nI_ge hS (by omega)), bitCountC (by omega), Option.bind_some]
      simp only
      rw [e0, if_neg (fun c => by have := nI_inj (by omega) (by omega) c; omega), if_pos (nI_le (by omega) (by omega)), nI_1, es, ew]
      rfl)
  simp only at hx hw hf h1
  refine ⟨s, ?_, hf⟩
  unfold F_AC_countWays
  rw [show rd σ 1 1 = nI (nP A) from hA.2.1, bitC (by omega), Option.bind_some]
  simp only
  unfold F_AC_countWays_17
  refine hr0 _ (fun K => ?_)
  show H_AC_countWays_17 v1 v2 (nI (2 ^ nP A)) 0 K w0 s0 = _
  unfold H_AC_countWays_17 F_AC_countWays_53
  rw [hw0, al_55, if_pos (Int32.le_refl _)]
  refine hrr _ (fun K' => ?_)
  show H_AC_countWays_53 v1 v2 (nI (2 ^ nP A)) K' x w s = _
  unfold H_AC_countWays_53
  rw [hw, if_pos (Int32.le_refl _), hx, hsum]
