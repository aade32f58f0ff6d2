-- from the last back: as numbers, and the class
/-- what a choice costs at the place nP - (n + 1), the brother's months behind it being told by M -/
def lbW (A : Nt) (n : Nat) (M : Nat → Nat → Nat) (T d : Nat) : Nat :=
  costT 7 A (nOd A (nP A - (n + 1))) d + (match nB A (nOd A (nP A - (n + 1))) with | none => 0 | some b => if nP A - (n + 1) < plc (nOd A) b (nP A) then M (addT T (some d)) b else 0)
def lbCh (A : Nt) (n : Nat) (M : Nat → Nat → Nat) (T : Nat) : Option Nat := bestN (fun d => !(T.testBit d) && mayA A (nOd A (nP A - (n + 1))) d) (lbW A n M T) (nD A)
def lbM (A : Nt) : Nat → Nat → Nat → Nat
  | 0 => fun _ _ => 0
  | n + 1 => fun T q => if nOd A (nP A - (n + 1)) = q then moZ (prA 7 A) q (lbCh A n (lbM A n) T) else lbM A n (addT T (lbCh A n (lbM A n) T)) q
def lbC (A : Nt) (n T : Nat) : Option Nat := lbCh A n (lbM A n) T
theorem lbM_s (A : Nt) (n T q : Nat) : lbM A (n + 1) T q = if nOd A (nP A - (n + 1)) = q then moZ (prA 7 A) q (lbC A n T) else lbM A n (addT T (lbC A n T)) q := rfl
theorem lbC_in {A : Nt} {n T d : Nat} (h : lbC A n T = some d) : d < nD A ∧ T.testBit d = false ∧ mayA A (nOd A (nP A - (n + 1))) d = true := by
  have := bestN_in h
  simp only [Bool.and_eq_true, Bool.not_eq_true'] at this
  exact ⟨this.1, this.2.1, this.2.2⟩
theorem moZ_in {A : Nt} (hO : OkN A) {p : Nat} {o : Option Nat} (hp : p < nP A) (ho : ∀ d, o = some d → d < nD A) : moZ (prA 7 A) p o ≤ 78 := by
  cases o with
  | none => exact Nat.le_of_ble_eq_true rfl
  | some d => exact costT_le hO 7 hp (ho d rfl)
theorem lbM_le {A : Nt} (hO : OkN A) : ∀ n T q, q < nP A → lbM A n T q ≤ 78
  | 0, _, _, _ => Nat.zero_le _
  | n + 1, T, q, hq => by
    rw [lbM_s]
    split
    · exact moZ_in hO hq (fun d e => (lbC_in e).1)
    · exact lbM_le hO n _ q hq
theorem lbW_le {A : Nt} (hO : OkN A) {n T d : Nat} (hn : n < nP A) (hd : d < nD A) : lbW A n (lbM A n) T d ≤ 156 := by
  have hp := hO.od.1 (nP A - (n + 1)) (by omega)
  have h1 := costT_le hO 7 hp hd
  unfold lbW
  cases e : nB A (nOd A (nP A - (n + 1))) with
  | none => show _ + 0 ≤ 156; omega
  | some b =>
    have hb := (nB_in hO hp e).1
    have h2 := lbM_le hO n (addT T (some d)) b hb
    show _ + (if _ then _ else 0) ≤ 156
    split <;> omega
/-- where no brother stands behind him: the lightest -/
theorem lbC_light {A : Nt} {n T : Nat} (h : ∀ b, nB A (nOd A (nP A - (n + 1))) = some b → plc (nOd A) b (nP A) ≤ nP A - (n + 1)) : lbC A n T = mk1 (prA 7 A) (nOd A (nP A - (n + 1))) T := by
  refine bestN_cong (fun d _ => rfl) (fun d _ => ?_)
  show lbW A n (lbM A n) T d = costT 7 A (nOd A (nP A - (n + 1))) d
  unfold lbW
  cases e : nB A (nOd A (nP A - (n + 1))) with
  | none => exact Nat.add_zero _
  | some b =>
    have := h b e
    show _ + (if _ then _ else 0) = _
    rw [if_neg (by omega), Nat.add_zero]
theorem n9_nlt {k : Nat} (h : k < 2 ^ 31) : ¬ nI k < (-9 : Int32) := by
  rw [fa_lt, nI_toInt h]
  have : (-9 : Int32).toInt = -9 := by decide
  omega
section LBC
variable {σ : St} {nn : Nat} {A : Nt}
theorem allowsC (hPr : PrC σ 36 (prA 7 A)) (hO : OkN A) {p d : Nat} (hp : p < nP A) (hd : d < nD A) : F_PR_allows 36 (nI p) (nI d) σ = some (zI (mayA A p d), σ) := by
  have hz := prA_ok hO 7
  have hc := costT_le hO 7 hp hd
  unfold F_PR_allows F_PR_allows_24
  rw [isThereC hPr hz hp hd, Option.bind_some]
  simp only [one0, if_false]
  rw [ofC isPR_36 hPr hz hp hd, Option.bind_some]
  show (if (1000000 : Int32) ≤ nI (if mayA A p d = true then costT 7 A p d else 1000000) then _ else _) = _
  cases mayA A p d with
  | true =>
    simp only [if_true]
    rw [if_neg (show ¬ (1000000 : Int32) ≤ nI (costT 7 A p d) from nI_ge (b := 1000000) (by omega) (by decide))]
    rfl
  | false =>
    simp only [Bool.false_eq_true, if_false]
    rw [if_pos (show (1000000 : Int32) ≤ nI 1000000 from Int32.le_refl _)]
    rfl
/-- months of a brother behind a place -/
theorem behindC (hn : isNI nn) (hA : AbsC σ nn A) (hO : OkN A) (hPr : PrC σ 36 (prA 7 A)) {f n : Nat} (hnP : n ≤ nP A) (ih : ∀ m, m < n → ∀ T, F_LB_choice f 36 nn (nI (nP A - (m + 1))) (nI (fr (nD A) T)) σ = some (bI (lbC A m T), σ)) {T b : Nat} (hb : b < nP A) (hbn : nP A - n ≤ plc (nOd A) b (nP A)) :
    FR_LB_monthsBehind (F_LB_choice f) 36 nn (nI (nP A - n)) (nI (fr (nD A) T)) (nI b) σ = some (nI (lbM A n T b), σ) := by
  have hP := hO.P
  have hD := hO.D
  have ho := hO.od
  have hz := prA_ok hO 7
  have pb := ho.plc_lt hb
  have ob := ho.od_plc hb
  have e1 : rd σ nn 1 = nI (nP A) := hA.2.1
  have hat : ∀ k, k < nP A → F_AC_at (nn + 8) (nI k) σ = some (nI (nOd A k), σ) := fun k hk => by
    rw [atC (al_NI8 hn) (by omega), show rd σ (nn + 8) k = nI (nOd A k) from (hA.2.2.2 k hk).2.2.2.2.2]
  unfold FR_LB_monthsBehind F_LB_monthsBehind_6
  refine fix_inv (f := G_LB_monthsBehind_6 (F_LB_choice f) 36 nn (nI b)) (n := plc (nOd A) b (nP A) - (nP A - n)) (s0 := (nI (fr (nD A) T), nI (nP A - n), σ)) (fun i q => ∃ Ti, q = (nI (fr (nD A) Ti), nI (nP A - n + i), σ) ∧ lbM A (n - i) Ti b = lbM A n T b) (fun r => r = some (nI (lbM A n T b), σ)) (by rw [fuel_val]; omega) ⟨T, rfl, rfl⟩ ?_ ?_
  · rintro i s hi ⟨Ti, rfl, hM⟩
    left
    obtain ⟨m, hm⟩ : ∃ m, n - i = m + 1 := ⟨n - i - 1, by omega⟩
    have hk : nP A - n + i = nP A - (m + 1) := by omega
    rw [hm, lbM_s] at hM
    have hne : nOd A (nP A - (m + 1)) ≠ b := fun e => by
      have := ho.2 _ _ (show nP A - (m + 1) < nP A by omega) pb (e.trans ob.symm)
      omega
    rw [if_neg hne] at hM
    refine ⟨_, ⟨addT Ti (lbC A m Ti), rfl, by rw [show n - (i + 1) = m by omega]; exact hM⟩, fun K => ?_⟩
    show H_LB_monthsBehind_6 (F_LB_choice f) 36 nn (nI b) K (nI (fr (nD A) Ti)) (nI (nP A - n + i)) σ = _
    unfold H_LB_monthsBehind_6
    have hlt := ho.1 (nP A - (m + 1)) (by omega)
    rw [hk, e1, if_neg (nI_ge (by omega) (by omega)), ih m (by omega) Ti, Option.bind_some]
    simp only
    rw [hat _ (by omega), Option.bind_some]
    simp only
    rw [if_neg (fun e => hne (nI_inj (by omega) (by omega) e)), bitC_b (fun d e => by have := (lbC_in e).1; omega), Option.bind_some]
    simp only
    rw [Option.bind_some, fr_take _ _ hD _ (fun d e => (lbC_in e).1), nI_1, show nP A - (m + 1) + 1 = nP A - n + (i + 1) by omega]
  · rintro s ⟨Ti, rfl, hM⟩
    obtain ⟨m, hm⟩ : ∃ m, n - (plc (nOd A) b (nP A) - (nP A - n)) = m + 1 := ⟨n - (plc (nOd A) b (nP A) - (nP A - n)) - 1, by omega⟩
    have hk : nP A - n + (plc (nOd A) b (nP A) - (nP A - n)) = nP A - (m + 1) := by omega
    have hk2 : plc (nOd A) b (nP A) = nP A - (m + 1) := by omega
    rw [hm, lbM_s] at hM
    have he : nOd A (nP A - (m + 1)) = b := by rw [← hk2]; exact ob
    rw [if_pos he] at hM
    refine ⟨_, rfl, fun K => ?_⟩
    show H_LB_monthsBehind_6 (F_LB_choice f) 36 nn (nI b) K (nI (fr (nD A) Ti)) (nI (nP A - n + (plc (nOd A) b (nP A) - (nP A - n)))) σ = _
    unfold H_LB_monthsBehind_6
    rw [hk, e1, if_neg (nI_ge (by omega) (by omega)), ih m (by omega) Ti, Option.bind_some]
    simp only
    rw [hat _ (by omega), Option.bind_some]
    simp only
    rw [if_pos (by rw [he]), bid, ofC_b isPR_36 hPr hz hb (fun d e => ⟨(lbC_in e).1, by have := (lbC_in e).2.2; rw [he] at this; exact this⟩), hM]
theorem choiceC (hn : isNI nn) (hA : AbsC σ nn A) (hO : OkN A) (hPr : PrC σ 36 (prA 7 A)) : ∀ n f, n < nP A → n < f → ∀ T, F_LB_choice f 36 nn (nI (nP A - (n + 1))) (nI (fr (nD A) T)) σ = some (bI (lbC A n T), σ) := by
  have hP := hO.P
  have hD := hO.D
  have ho := hO.od
  have hz := prA_ok hO 7
  have e1 : rd σ nn 1 = nI (nP A) := hA.2.1
  intro n
  induction n using Nat.strongRecOn with
  | ind n ihn =>
  intro f hnP hf T
  obtain ⟨f, rfl⟩ : ∃ g, f = g + 1 := ⟨f - 1, by omega⟩
  have ih : ∀ m, m < n → ∀ T, F_LB_choice f 36 nn (nI (nP A - (m + 1))) (nI (fr (nD A) T)) σ = some (bI (lbC A m T), σ) := fun m hm T => ihn m hm f (by omega) (by omega) T
  have hp := ho.1 (nP A - (n + 1)) (by omega)
  show FR_LB_choice (fun t0 t1 a2 a3 a4 s => FR_LB_monthsBehind (F_LB_choice f) t0 t1 a2 a3 a4 s) 36 nn (nI (nP A - (n + 1))) (nI (fr (nD A) T)) σ = _
  unfold FR_LB_choice
  rw [atC (al_NI8 hn) (by omega), Option.bind_some]
  simp only
  rw [show rd σ (nn + 8) (nP A - (n + 1)) = nI (nOd A (nP A - (n + 1))) from (hA.2.2.2 _ (by omega)).2.2.2.2.2, atC (al_NI6 hn) (by omega), Option.bind_some]
  simp only
  rw [show rd σ (nn + 6) (nOd A (nP A - (n + 1))) = bI (nB A (nOd A (nP A - (n + 1)))) from (hA.2.2.2 _ hp).2.2.2.1]
  have hlight : F_PR_lightest 36 (nI (nOd A (nP A - (n + 1)))) (nI (fr (nD A) T)) σ = some (bI (mk1 (prA 7 A) (nOd A (nP A - (n + 1))) T), σ) := lightestC (T := T) isPR_36 hPr hz hp (fun d hd => by
    have hd' : d < nD A := hd
    rw [fr_bit]; simp [hd'])
  cases e : nB A (nOd A (nP A - (n + 1))) with
  | none =>
    have hpl : F_NI_placeOf nn (bI none) σ = some (-9, σ) := by
      unfold F_NI_placeOf
      rw [e1, bid]
      refine placeInC_no (al_NI8 hn) hP (by decide) (fun j hj c => ?_)
      rw [show rd σ (nn + 8) j = nI (nOd A j) from (hA.2.2.2 j hj).2.2.2.2.2] at c
      have := ho.1 j hj
      exact n9_ne (by omega) c
    rw [hpl, Option.bind_some]
    simp only
    rw [if_neg (n9_nlt (by omega)), bid, hlight, lbC_light (fun b hb => by rw [e] at hb; cases hb)]
  | some b =>
    have hb := (nB_in hO hp e).1
    rw [show F_NI_placeOf nn (bI (some b)) σ = _ from placeOfC hn hA hO hb, Option.bind_some]
    simp only
    have pb := ho.plc_lt hb
    by_cases hk' : ¬ nP A - (n + 1) < plc (nOd A) b (nP A)
    · rw [if_neg (nI_nlt (by omega) (by omega)), bid, hlight, lbC_light (fun b' hb' => by rw [e] at hb'; cases hb'; omega)]
    · have hk : nP A - (n + 1) < plc (nOd A) b (nP A) := Decidable.not_not.mp hk'
      rw [if_pos (nI_lt hk (by omega))]
      have hw : ∀ d, d < nD A → lbW A n (lbM A n) T d ≤ 156 := fun d hd => lbW_le hO hnP hd
      have hbd : ∀ k c, k ≤ nD A → bestN (fun d => !(T.testBit d) && mayA A (nOd A (nP A - (n + 1))) d) (lbW A n (lbM A n) T) k = some c → lbW A n (lbM A n) T c ≤ 156 := fun k c hk2 hc => hw c (by have := (bestN_in hc).1; omega)
      unfold F_LB_choice_50
      refine fix_up (n := nD A) (fun k => (bI (bestN (fun d => !(T.testBit d) && mayA A (nOd A (nP A - (n + 1))) d) (lbW A n (lbM A n) T) k), nI (match bestN (fun d => !(T.testBit d) && mayA A (nOd A (nP A - (n + 1))) d) (lbW A n (lbM A n) T) k with | none => 1000000 | some c => lbW A n (lbM A n) T c), nI k, σ)) (by rw [fuel_val]; omega) (fun K k hkD => ?_) (fun K => ?_)
      · show H_LB_choice_50 _ 36 nn (nI (nP A - (n + 1))) (nI (fr (nD A) T)) (nI (nOd A (nP A - (n + 1)))) (bI (some b)) K _ _ (nI k) σ = _
        unfold H_LB_choice_50 F_LB_choice_128
        have hbk := hbd k
        have hwk := hw k hkD
        rw [show rd σ 36 1 = nI (nD A) from hPr.2.1, if_neg (nI_ge hkD (by omega)), hasC (by omega), Option.bind_some, fr_bit, decide_eq_true hkD, Bool.true_and]
        simp only [zI_eq0]
        rw [allowsC hPr hO hp hkD, Option.bind_some]
        simp only [zI_eq0]
        rw [bitC (by omega), Option.bind_some]
        simp only
        have htk := fr_take (nD A) T hD (some k) (fun d w => by cases w; exact hkD)
        rw [show bitO (some k) = 2 ^ k from rfl] at htk
        rw [htk, nI_1, nI_1, show nP A - (n + 1) + 1 = nP A - n by omega, show FR_LB_monthsBehind (F_LB_choice f) 36 nn (nI (nP A - n)) (nI (fr (nD A) (addT T (some k)))) (bI (some b)) σ = _ from behindC hn hA hO hPr (by omega) ih hb (by omega), Option.bind_some]
        simp only
        rw [ofC isPR_36 hPr hz hp hkD, Option.bind_some]
        simp only [Option.bind_some]
        rw [bestN]
        cases ht : T.testBit k with
        | true => simp
        | false =>
          simp only [Bool.not_false, Bool.true_and]
          cases hm : mayA A (nOd A (nP A - (n + 1))) k with
          | false => simp
          | true =>
            have hmz : zM (prA 7 A) (nOd A (nP A - (n + 1))) k = true := hm
            simp only [Bool.true_eq_false, if_false, if_true, hmz]
            have hcost : nI (zC (prA 7 A) (nOd A (nP A - (n + 1))) k) + nI (lbM A n (addT T (some k)) b) = nI (lbW A n (lbM A n) T k) := by
              rw [nI_add]
              congr 1
              unfold lbW
              rw [e]
              show _ = costT 7 A (nOd A (nP A - (n + 1))) k + (if nP A - (n + 1) < plc (nOd A) b (nP A) then lbM A n (addT T (some k)) b else 0)
              rw [if_pos hk]; rfl
            rw [hcost]
            cases e2 : bestN (fun d => !(T.testBit d) && mayA A (nOd A (nP A - (n + 1))) d) (lbW A n (lbM A n) T) k with
            | none =>
              simp only
              rw [if_neg (show ¬ nI 1000000 ≤ nI (lbW A n (lbM A n) T k) from nI_ge (by omega) (by decide))]
              rfl
            | some c =>
              have hcb := hbk c (by omega) e2
              simp only
              by_cases hc : lbW A n (lbM A n) T k < lbW A n (lbM A n) T c
              · simp only [hc, if_true]
                rw [if_neg (nI_ge hc (by omega))]
                rfl
              · simp only [hc, if_false]
                rw [if_pos (nI_le (by omega) (by omega))]
      · show H_LB_choice_50 _ 36 nn (nI (nP A - (n + 1))) (nI (fr (nD A) T)) (nI (nOd A (nP A - (n + 1)))) (bI (some b)) K _ _ (nI (nD A)) σ = _
        unfold H_LB_choice_50
        rw [show rd σ 36 1 = nI (nD A) from hPr.2.1, if_pos (Int32.le_refl _)]
        rfl
end LBC
