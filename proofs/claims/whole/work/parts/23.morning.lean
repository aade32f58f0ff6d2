-- prices and mornings, as numbers
abbrev Pz : Type := Nat × Nat × (Nat → Nat → Bool) × (Nat → Nat → Nat)
def zP (Z : Pz) : Nat := Z.1
def zD (Z : Pz) : Nat := Z.2.1
def zM (Z : Pz) : Nat → Nat → Bool := Z.2.2.1
def zC (Z : Pz) : Nat → Nat → Nat := Z.2.2.2
def OkZ (Z : Pz) : Prop := zP Z ≤ 7 ∧ zD Z ≤ 14 ∧ ∀ p d, p < zP Z → d < zD Z → zC Z p d ≤ 78
def prA (t : Nat) (A : Nt) : Pz := (nP A, nD A, mayA A, costT t A)
theorem prA_ok {A : Nt} (h : OkN A) (t : Nat) : OkZ (prA t A) := ⟨h.P, h.D, fun _ _ hp hd => costT_le h t hp hd⟩
/-- the least of the fewest -/
def bestN (m : Nat → Bool) (c : Nat → Nat) : Nat → Option Nat
  | 0 => none
  | k + 1 => if m k = true then (match bestN m c k with | none => some k | some b => if c k < c b then some k else some b) else bestN m c k
theorem bestN_in {m : Nat → Bool} {c : Nat → Nat} : ∀ {k b : Nat}, bestN m c k = some b → b < k ∧ m b = true
  | 0, b, h => by cases h
  | k + 1, b, h => by
    unfold bestN at h
    by_cases hm : m k = true
    · rw [if_pos hm] at h
      cases hb : bestN m c k with
      | none =>
        rw [hb] at h
        cases h
        exact ⟨Nat.lt_succ_self _, hm⟩
      | some q =>
        rw [hb] at h
        have := bestN_in hb
        by_cases hc : c k < c q
        · simp only [hc, if_true] at h
          cases h
          exact ⟨Nat.lt_succ_self _, hm⟩
        · simp only [hc, if_false] at h
          cases h
          exact ⟨by omega, this.2⟩
    · rw [if_neg hm] at h
      have := bestN_in h
      exact ⟨by omega, this.2⟩
theorem bestN_cong {m m' : Nat → Bool} {c c' : Nat → Nat} : ∀ {k : Nat}, (∀ d, d < k → m d = m' d) → (∀ d, d < k → c d = c' d) → bestN m c k = bestN m' c' k
  | 0, _, _ => rfl
  | k + 1, h1, h2 => by
    have ih := bestN_cong (k := k) (fun d hd => h1 d (by omega)) (fun d hd => h2 d (by omega))
    have e : ∀ b, bestN m' c' k = some b → c b = c' b := fun b hb => h2 b (by have := (bestN_in hb).1; omega)
    unfold bestN
    rw [ih, h1 k (by omega), h2 k (by omega)]
    cases hb : bestN m' c' k with
    | none => rfl
    | some b => simp only [e b hb]
def sumN (f : Nat → Nat) : Nat → Nat
  | 0 => 0
  | k + 1 => sumN f k + f k
theorem sumN_cong {f g : Nat → Nat} : ∀ {n : Nat}, (∀ k, k < n → f k = g k) → sumN f n = sumN g n
  | 0, _ => rfl
  | n + 1, h => by rw [sumN, sumN, sumN_cong (fun k hk => h k (by omega)), h n (by omega)]
theorem sumN_le {f : Nat → Nat} {b : Nat} : ∀ {n : Nat}, (∀ k, k < n → f k ≤ b) → sumN f n ≤ n * b
  | 0, _ => by simp [sumN]
  | n + 1, h => by
    have := sumN_le (n := n) (fun k hk => h k (by omega))
    have := h n (by omega)
    rw [sumN, Nat.succ_mul]
    omega
def moZ (Z : Pz) (p : Nat) (o : Option Nat) : Nat := match o with | some d => zC Z p d | none => 60
def mk1 (Z : Pz) (p T : Nat) : Option Nat := bestN (fun d => !(T.testBit d) && zM Z p d) (zC Z p) (zD Z)
def addT (T : Nat) (o : Option Nat) : Nat := T ||| bitO o
/-- taken ahead of a place -/
def mT (Z : Pz) (od : Nat → Nat) (T0 : Nat) : Nat → Nat
  | 0 => T0
  | k + 1 => addT (mT Z od T0 k) (mk1 Z (od k) (mT Z od T0 k))
def mC (Z : Pz) (od : Nat → Nat) (T0 k : Nat) : Option Nat := mk1 Z (od k) (mT Z od T0 k)
def wo1 (w o : Option Nat) (p : Nat) : Option Nat := match w with | some q => some q | none => match o with | some _ => none | none => some p
def mWo (Z : Pz) (od : Nat → Nat) (T0 : Nat) : Nat → Option Nat
  | 0 => none
  | k + 1 => wo1 (mWo Z od T0 k) (mC Z od T0 k) (od k)
theorem mk1_in {Z : Pz} {p T d : Nat} (h : mk1 Z p T = some d) : d < zD Z ∧ T.testBit d = false ∧ zM Z p d = true := by
  have := bestN_in h
  simp only [Bool.and_eq_true, Bool.not_eq_true'] at this
  exact ⟨this.1, this.2.1, this.2.2⟩
theorem moZ_le {Z : Pz} (h : OkZ Z) {p T : Nat} (hp : p < zP Z) : moZ Z p (mk1 Z p T) ≤ 78 := by
  cases e : mk1 Z p T with
  | none => exact Nat.le_of_ble_eq_true rfl
  | some d => exact h.2.2 p d hp (mk1_in e).1
/-- deeds that are free -/
def fr (D T : Nat) : Nat := (2 ^ D - 1) ^^^ ((2 ^ D - 1) &&& T)
theorem fr_bit (D T k : Nat) : (fr D T).testBit k = (decide (k < D) && !(T.testBit k)) := by
  unfold fr
  rw [Nat.testBit_xor, Nat.testBit_and, Nat.testBit_two_pow_sub_one]
  cases decide (k < D) <;> cases T.testBit k <;> rfl
theorem fr_lt (D T : Nat) (hD : D ≤ 14) : fr D T < 2 ^ 14 := by
  apply Nat.lt_pow_two_of_testBit
  intro i hi
  rw [fr_bit]
  have : decide (i < D) = false := by simp; omega
  rw [this]; rfl
theorem fr_0 (D : Nat) : fr D 0 = 2 ^ D - 1 := by unfold fr; rw [Nat.and_zero, Nat.xor_zero]
theorem fr_take (D T : Nat) (hD : D ≤ 14) (o : Option Nat) (ho : ∀ d, o = some d → d < D) : nI (fr D T) &&& (nI (bitO o) ^^^ (-1)) = nI (fr D (addT T o)) := by
  rw [m1_nI, xor_nI, fa_and]
  congr 1
  apply Nat.eq_of_testBit_eq
  intro i
  rw [Nat.testBit_and, fr_bit, fr_bit, Nat.testBit_xor, Nat.testBit_two_pow_sub_one, addT, Nat.testBit_or]
  by_cases hi : i < D
  · have h32 : decide (i < 32) = true := by simp; omega
    rw [h32]
    cases (bitO o).testBit i <;> cases T.testBit i <;> simp
  · have : decide (i < D) = false := by simp; omega
    rw [this]; simp
theorem bitO_bit (o : Option Nat) (k : Nat) : (bitO o).testBit k = decide (o = some k) := by
  cases o with
  | none => simp [bitO]
  | some d =>
    unfold bitO
    rw [Nat.testBit_two_pow]
    simp
theorem addT_bit (T : Nat) (o : Option Nat) (k : Nat) : (addT T o).testBit k = (T.testBit k || decide (o = some k)) := by
  rw [addT, Nat.testBit_or, bitO_bit]
/-- an order of people -/
def OdOK (P : Nat) (od : Nat → Nat) : Prop := (∀ k, k < P → od k < P) ∧ ∀ j k, j < P → k < P → od j = od k → j = k
theorem OkN.od {A : Nt} (h : OkN A) : OdOK (nP A) (nOd A) := ⟨fun k hk => (h.2.2.2.1 k hk).2.2.2.2.1, h.2.2.2.2⟩
theorem OdOK.onto {P : Nat} {od : Nat → Nat} (h : OdOK P od) {p : Nat} (hp : p < P) : ∃ k, k < P ∧ od k = p :=
  fb_onto h.1 (fun i j hij hj e => by have := h.2 i j (by omega) hj e; omega) hp
-- prices of the class
def PrC (σ : St) (n : Nat) (Z : Pz) : Prop := rd σ n 0 = nI (zP Z) ∧ rd σ n 1 = nI (zD Z) ∧ ∀ p d, p < zP Z → d < zD Z → rd σ (n + 1) (p * 14 + d) = nI (if zM Z p d = true then zC Z p d else 1000000)
theorem PrC.fr {σ τ : St} {n : Nat} {Z : Pz} {l : List Nat} (h : PrC σ n Z) (hf : Fr l σ τ) (h1 : n ∉ l) (h2 : n + 1 ∉ l) : PrC τ n Z :=
  ⟨by rw [hf.at h1]; exact h.1, by rw [hf.at h1]; exact h.2.1, fun p d hp hd => by rw [hf.at h2]; exact h.2.2 p d hp hd⟩
theorem AbsC.fr {σ τ : St} {n : Nat} {A : Nt} {l : List Nat} (h : AbsC σ n A) (hf : Fr l σ τ) (h1 : ∀ k, k < 9 → n + k ∉ l) : AbsC τ n A := by
  have e : ∀ k, k < 9 → ∀ j, rd τ (n + k) j = rd σ (n + k) j := fun k hk j => hf.at (h1 k hk) j
  refine ⟨?_, ?_, fun d hd => ?_, fun p hp => ?_⟩
  · have := e 0 (by decide) 0; exact this.trans h.1
  · have := e 0 (by decide) 1; exact this.trans h.2.1
  · exact ⟨(e 1 (by decide) d).trans (h.2.2.1 d hd).1, (e 2 (by decide) d).trans (h.2.2.1 d hd).2⟩
  · obtain ⟨q3, q4, q5, q6, q7, q8⟩ := h.2.2.2 p hp
    exact ⟨(e 3 (by decide) p).trans q3, (e 4 (by decide) p).trans q4, (e 5 (by decide) p).trans q5, (e 6 (by decide) p).trans q6, (e 7 (by decide) p).trans q7, (e 8 (by decide) p).trans q8⟩
theorem al_PR {n : Nat} (h : isPR n) : alen (n + 1) = 98 := al_PR1 h
theorem isThereC {σ : St} {n : Nat} {Z : Pz} (h : PrC σ n Z) (hz : OkZ Z) {p d : Nat} (hp : p < zP Z) (hd : d < zD Z) : F_PR_isThere n (nI p) (nI d) σ = some (1, σ) := by
  have h1 := hz.1
  have h2 := hz.2.1
  unfold F_PR_isThere
  rw [h.1, h.2.1, if_neg (nI_pos (by omega)), if_neg (nI_ge hp (by omega)), if_neg (nI_pos (by omega)), if_neg (nI_ge hd (by omega))]
theorem isThereC_no {σ : St} {n : Nat} {Z : Pz} (h : PrC σ n Z) (hz : OkZ Z) {p : Nat} (hp : p < zP Z) : F_PR_isThere n (nI p) (-9) σ = some (0, σ) := by
  have h1 := hz.1
  unfold F_PR_isThere
  rw [h.1, h.2.1, if_neg (nI_pos (by omega)), if_neg (nI_ge hp (by omega)), if_pos n9_neg]
  rfl
theorem ofC {σ : St} {n : Nat} {Z : Pz} (hn : isPR n) (h : PrC σ n Z) (hz : OkZ Z) {p d : Nat} (hp : p < zP Z) (hd : d < zD Z) : F_PR_of n (nI p) (nI d) σ = some (nI (if zM Z p d = true then zC Z p d else 1000000), σ) := by
  have h1 := hz.1
  have h2 := hz.2.1
  unfold F_PR_of
  have e : nI p * 2 * 7 + nI d = nI (p * 14 + d) := by
    rw [show (2 : Int32) = nI 2 from rfl, show (7 : Int32) = nI 7 from rfl, pk_mul, pk_mul, nI_add, Nat.mul_assoc]
  rw [isThereC h hz hp hd, Option.bind_some]
  simp only [one0, if_false]
  rw [e, atC (al_PR hn) (by omega), Option.bind_some, h.2.2 p d hp hd]
theorem ofC_b {σ : St} {n : Nat} {Z : Pz} (hn : isPR n) (h : PrC σ n Z) (hz : OkZ Z) {p : Nat} {o : Option Nat} (hp : p < zP Z) (ho : ∀ d, o = some d → d < zD Z ∧ zM Z p d = true) : F_PR_of n (nI p) (bI o) σ = some (nI (moZ Z p o), σ) := by
  cases o with
  | none =>
    show F_PR_of n (nI p) (-9) σ = _
    unfold F_PR_of
    rw [isThereC_no h hz hp, Option.bind_some, if_pos rfl]
    rfl
  | some d =>
    obtain ⟨a, b⟩ := ho d rfl
    show F_PR_of n (nI p) (nI d) σ = _
    rw [ofC hn h hz hp a, if_pos b]
    rfl
theorem lightestC {σ : St} {n : Nat} {Z : Pz} (hn : isPR n) (h : PrC σ n Z) (hz : OkZ Z) {p L T : Nat} (hp : p < zP Z) (hL : ∀ d, d < zD Z → L.testBit d = !(T.testBit d)) : F_PR_lightest n (nI p) (nI L) σ = some (bI (mk1 Z p T), σ) := by
  have h1 := hz.1
  have h2 := hz.2.1
  have hb : ∀ k b, k ≤ zD Z → bestN (fun d => !(T.testBit d) && zM Z p d) (zC Z p) k = some b → zC Z p b ≤ 78 := fun k b hk e => hz.2.2 p b hp (by have := (bestN_in e).1; omega)
  unfold F_PR_lightest F_PR_lightest_10
  refine fix_up (n := zD Z) (fun k => (bI (bestN (fun d => !(T.testBit d) && zM Z p d) (zC Z p) k), nI (match bestN (fun d => !(T.testBit d) && zM Z p d) (zC Z p) k with | none => 1000000 | some b => zC Z p b), nI k, σ)) (by rw [fuel_val]; omega) (fun K k hk => ?_) (fun K => ?_)
  · show H_PR_lightest_10 n (nI p) (nI L) K _ _ (nI k) σ = _
    unfold H_PR_lightest_10 F_PR_lightest_52
    rw [h.2.1, if_neg (nI_ge hk (by omega)), bitC (by omega), Option.bind_some]
    simp only [and_bit (show k < 31 by omega), hL k hk, ofC hn h hz hp hk, Option.bind_some, nI_1]
    rw [bestN]
    have hbk := hb k
    cases ht : T.testBit k with
    | true => simp
    | false =>
      simp only [Bool.not_false, Bool.true_and]
      cases hm : zM Z p k with
      | false =>
        simp only [Bool.true_eq_false, if_false, Bool.false_eq_true]
        rw [if_pos]
        cases e : bestN (fun d => !(T.testBit d) && zM Z p d) (zC Z p) k with
        | none => exact Int32.le_refl _
        | some b => exact nI_le (by have := hbk b (by omega) e; show zC Z p b ≤ _; omega) (by decide)
      | true =>
        have hck := hz.2.2 p k hp hk
        simp only [Bool.true_eq_false, if_false, if_true]
        cases e : bestN (fun d => !(T.testBit d) && zM Z p d) (zC Z p) k with
        | none =>
          rw [if_neg (show ¬ nI 1000000 ≤ nI (zC Z p k) from nI_ge (by omega) (by decide))]
          rfl
        | some b =>
          have hcb := hbk b (by omega) e
          by_cases hc : zC Z p k < zC Z p b
          · simp only [hc, if_true]
            rw [if_neg (nI_ge hc (by omega))]
            rfl
          · simp only [hc, if_false]
            rw [if_pos (nI_le (by omega) (by omega))]
  · show H_PR_lightest_10 n (nI p) (nI L) K _ _ (nI (zD Z)) σ = _
    unfold H_PR_lightest_10
    rw [h.2.1, if_pos (Int32.le_refl _)]
    rfl
theorem NI_PR_off {m n k : Nat} (hm : isNI m) (hn : isPR n) (hk : k < 9) : m + k ∉ [n, n + 1] := by
  rcases hm with rfl | rfl | rfl <;> rcases hn with rfl | rfl <;> simp <;> omega
/-- what filling keeps, row by row -/
def FilI (σ : St) (n : Nat) (A : Nt) (p e : Nat) (s : St) : Prop := Fr [n, n + 1] σ s ∧ rd s n 0 = nI (nP A) ∧ rd s n 1 = nI (nD A) ∧ (∀ p' d, p' < p → d < nD A → rd s (n + 1) (p' * 14 + d) = nI (if mayA A p' d = true then costT 7 A p' d else 1000000)) ∧ ∀ d, d < e → rd s (n + 1) (p * 14 + d) = nI (if mayA A p d = true then costT 7 A p d else 1000000)
theorem fillC {σ : St} {n m : Nat} {A : Nt} (hn : isPR n) (hm : isNI m) (hA : AbsC σ m A) (hO : OkN A) : ∃ σ', F_PR_fill n m σ = some σ' ∧ Fr [n, n + 1] σ σ' ∧ PrC σ' n (prA 7 A) := by
  have hD := hO.D
  have hP := hO.P
  have hmn : m ≠ n := by rcases hm with rfl | rfl | rfl <;> rcases hn with rfl | rfl <;> decide
  have hI0 : FilI σ n A 0 0 (wr (wr σ n 0 (rd σ m 1)) n 1 (rd (wr σ n 0 (rd σ m 1)) m 0)) := by
    refine ⟨(Fr.wr (by simp)).two (Fr.wr (by simp)), ?_, ?_, fun p' d hp => absurd hp (Nat.not_lt_zero _), fun d hd => absurd hd (Nat.not_lt_zero _)⟩
    · rw [rd_wr_slot _ _ _ _ (by decide), rd_wr_same]; exact hA.2.1
    · rw [rd_wr_same, rd_wr_cell _ _ _ _ hmn]; exact hA.1
  have hinner : ∀ p s, p < nP A → FilI σ n A p 0 s → ∃ s', FilI σ n A (p + 1) 0 s' ∧ ∀ K : Int32 × St → Option St, fixF (G_PR_fill_28 n m K (nI p)) FUEL (nI 0, s) = K (nI (p + 1), s') := by
    intro p s hp h0
    obtain ⟨⟨w', s'⟩, ⟨hw', hf', h0', h1', hall', hrow'⟩, hr'⟩ := fix_relK (f := fun K : Int32 × St → Option St => G_PR_fill_28 n m K (nI p)) (n := nD A) (s0 := (nI 0, s)) (fun e q => q.1 = nI e ∧ FilI σ n A p e q.2) (by rw [fuel_val]; omega) ⟨rfl, h0⟩ (by
        rintro e ⟨w, s⟩ he ⟨hw, hf, h0, h1, hall, hrow⟩
        simp only at hw hf h0 h1 hall hrow
        subst hw
        have hA' : AbsC s m A := hA.fr hf (fun k hk => NI_PR_off hm hn hk)
        refine ⟨(nI (e + 1), wr s (n + 1) (p * 14 + e) (nI (if mayA A p e = true then costT 7 A p e else 1000000))), ⟨rfl, hf.two (Fr.wr (by simp)), ?_, ?_, ?_, ?_⟩, fun K K' => ?_⟩
        · rw [rd_wr_cell _ _ _ _ (by omega)]; exact h0
        · rw [rd_wr_cell _ _ _ _ (by omega)]; exact h1
        · intro p' d hp' hd
          rw [rd_wr_slot _ _ _ _ (by omega)]
          exact hall p' d hp' hd
        · intro d hd
          by_cases q : d = e
          · subst q; rw [rd_wr_same]
          · rw [rd_wr_slot _ _ _ _ (by omega)]; exact hrow d (by omega)
        · show H_PR_fill_28 n m K (nI p) K' (nI e) s = _
          have ee : nI p * 2 * 7 + nI e = nI (p * 14 + e) := by
            rw [show (2 : Int32) = nI 2 from rfl, show (7 : Int32) = nI 7 from rfl, pk_mul, pk_mul, nI_add, Nat.mul_assoc]
          unfold H_PR_fill_28 F_PR_fill_56
          rw [h1, if_neg (nI_ge he (by omega)), mayC hm hA' hO hp he, Option.bind_some]
          simp only [zI_eq0, monthsForC hm hA' hO hp he, Option.bind_some, ee, putC (al_PR hn) (show p * 14 + e < 98 by omega), nI_1]
          cases mayA A p e <;> rfl)
    simp only at hw' hf' h0' h1' hall' hrow'
    refine ⟨s', ⟨hf', h0', h1', fun p' d hp' hd => ?_, fun d hd => absurd hd (Nat.not_lt_zero _)⟩, fun K => hr' K _ (fun K' => ?_)⟩
    · by_cases e : p' = p
      · subst e; exact hrow' d hd
      · exact hall' p' d (by omega) hd
    · show H_PR_fill_28 n m K (nI p) K' w' s' = _
      unfold H_PR_fill_28
      rw [hw', h1', if_pos (Int32.le_refl _), nI_1]
  obtain ⟨⟨w, s⟩, ⟨hw, hf, h0, h1, hall, _⟩, hr⟩ := fix_rel (f := G_PR_fill_18 n m) (n := nP A) (s0 := (nI 0, wr (wr σ n 0 (rd σ m 1)) n 1 (rd (wr σ n 0 (rd σ m 1)) m 0)))
    (fun p q => q.1 = nI p ∧ FilI σ n A p 0 q.2) (by rw [fuel_val]; omega) ⟨rfl, hI0⟩ (by
      rintro p ⟨w, s⟩ hp ⟨hw, hI⟩
      simp only at hw hI
      subst hw
      obtain ⟨s', h1, h2⟩ := hinner p s hp hI
      refine ⟨(nI (p + 1), s'), ⟨rfl, h1⟩, fun K => ?_⟩
      show H_PR_fill_18 n m K (nI p) s = _
      unfold H_PR_fill_18 F_PR_fill_28
      rw [hI.2.1, if_neg (nI_ge hp (by omega))]
      exact h2 K)
  refine ⟨s, ?_, hf, h0, h1, fun p d hp hd => hall p d hp hd⟩
  unfold F_PR_fill F_PR_fill_18
  simp only [Option.bind_some]
  refine hr _ (fun K => ?_)
  show H_PR_fill_18 n m K w s = _
  unfold H_PR_fill_18
  simp only at hw h0
  rw [hw, h0, if_pos (Int32.le_refl _)]
