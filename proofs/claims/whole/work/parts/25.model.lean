-- sums over an order
theorem sumN_add {f g : Nat → Nat} : ∀ {n : Nat}, sumN (fun k => f k + g k) n = sumN f n + sumN g n
  | 0 => rfl
  | n + 1 => by rw [sumN, sumN, sumN, sumN_add (n := n)]; omega
theorem sumN_zero : ∀ {n : Nat} {f : Nat → Nat}, (∀ k, k < n → f k = 0) → sumN f n = 0
  | 0, _, _ => rfl
  | n + 1, f, h => by rw [sumN, sumN_zero (n := n) (fun k hk => h k (by omega)), h n (by omega)]
theorem sumN_one {f : Nat → Nat} {n j : Nat} (hj : j < n) (h : ∀ k, k < n → k ≠ j → f k = 0) : sumN f n = f j := by
  induction n with
  | zero => omega
  | succ n ih =>
    rw [sumN]
    by_cases e : j = n
    · subst e
      rw [sumN_zero (fun k hk => h k (by omega) (by omega)), Nat.zero_add]
    · rw [ih (by omega) (fun k hk hk2 => h k (by omega) hk2), h n (by omega) (by omega), Nat.add_zero]
theorem sumN_comm (f : Nat → Nat → Nat) (m : Nat) : ∀ n, sumN (fun k => sumN (fun p => f k p) m) n = sumN (fun p => sumN (fun k => f k p) n) m
  | 0 => (sumN_zero (fun _ _ => rfl)).symm
  | n + 1 => by
    rw [sumN, sumN_comm f m n, ← sumN_add]
    rfl
theorem sumN_perm {P : Nat} {od : Nat → Nat} (h : OdOK P od) (g : Nat → Nat) : sumN (fun k => g (od k)) P = sumN g P := by
  have h1 : sumN (fun k => g (od k)) P = sumN (fun k => sumN (fun p => if od k = p then g p else 0) P) P := sumN_cong (fun k hk => by
    rw [sumN_one (j := od k) (h.1 k hk) (fun p _ hp => if_neg (fun e => hp e.symm)), if_pos rfl])
  rw [h1, sumN_comm]
  refine sumN_cong (fun p hp => ?_)
  obtain ⟨k, hk, e⟩ := h.onto hp
  rw [sumN_one (j := k) hk (fun k' hk' hne => if_neg (fun e2 => hne (h.2 k' k hk' hk (e2.trans e.symm)))), if_pos e]
/-- where one stands -/
def plc (od : Nat → Nat) (p : Nat) : Nat → Nat
  | 0 => 0
  | k + 1 => if od k = p then k else plc od p k
theorem plc_spec {od : Nat → Nat} {p : Nat} : ∀ {n : Nat}, (∃ k, k < n ∧ od k = p) → plc od p n < n ∧ od (plc od p n) = p
  | 0, ⟨_, h, _⟩ => absurd h (Nat.not_lt_zero _)
  | n + 1, ⟨k, hk, e⟩ => by
    unfold plc
    by_cases h : od n = p
    · rw [if_pos h]; exact ⟨Nat.lt_succ_self _, h⟩
    · rw [if_neg h]
      have := plc_spec (n := n) ⟨k, by
        have : k ≠ n := fun q => h (q ▸ e)
        omega, e⟩
      exact ⟨by omega, this.2⟩
theorem OdOK.plc_lt {P : Nat} {od : Nat → Nat} (h : OdOK P od) {p : Nat} (hp : p < P) : plc od p P < P := (plc_spec (h.onto hp)).1
theorem OdOK.od_plc {P : Nat} {od : Nat → Nat} (h : OdOK P od) {p : Nat} (hp : p < P) : od (plc od p P) = p := (plc_spec (h.onto hp)).2
theorem OdOK.plc_od {P : Nat} {od : Nat → Nat} (h : OdOK P od) {k : Nat} (hk : k < P) : plc od (od k) P = k :=
  h.2 _ _ (h.plc_lt (h.1 k hk)) hk (h.od_plc (h.1 k hk))
/-- what one takes, in all -/
def tkO (Z : Pz) (od : Nat → Nat) (T0 p : Nat) : Option Nat := mC Z od T0 (plc od p (zP Z))
def moO (Z : Pz) (od : Nat → Nat) (T0 p : Nat) : Nat := moZ Z p (tkO Z od T0 p)
def allO (Z : Pz) (od : Nat → Nat) (T0 : Nat) : Nat := sumN (moO Z od T0) (zP Z)
theorem tkO_in {Z : Pz} {od : Nat → Nat} {T0 p d : Nat} (h : tkO Z od T0 p = some d) : d < zD Z := (mk1_in h).1
theorem tkO_may {Z : Pz} {od : Nat → Nat} (ho : OdOK (zP Z) od) {T0 p d : Nat} (hp : p < zP Z) (h : tkO Z od T0 p = some d) : zM Z p d = true := by
  have := (mk1_in h).2.2
  rwa [ho.od_plc hp] at this
theorem moO_le {Z : Pz} (hz : OkZ Z) {od : Nat → Nat} {T0 p : Nat} (hp : p < zP Z) : moO Z od T0 p ≤ 78 := by
  unfold moO
  cases e : tkO Z od T0 p with
  | none => exact Nat.le_of_ble_eq_true rfl
  | some d => exact hz.2.2 p d hp (tkO_in e)
theorem allO_le {Z : Pz} (hz : OkZ Z) {od : Nat → Nat} {T0 : Nat} : allO Z od T0 ≤ 546 := by
  have h1 := sumN_le (n := zP Z) (f := moO Z od T0) (b := 78) (fun k hk => moO_le hz hk)
  have h2 := hz.1
  have : zP Z * 78 ≤ 7 * 78 := Nat.mul_le_mul_right _ h2
  unfold allO
  omega
theorem sum_all {Z : Pz} {od : Nat → Nat} (ho : OdOK (zP Z) od) (T0 : Nat) : sumN (fun j => moZ Z (od j) (mC Z od T0 j)) (zP Z) = allO Z od T0 := by
  unfold allO
  rw [← sumN_perm ho (moO Z od T0)]
  refine sumN_cong (fun k hk => ?_)
  show _ = moZ Z (od k) (mC Z od T0 (plc od (od k) (zP Z)))
  rw [ho.plc_od hk]
/-- a morning's object of the class, by people -/
def MoD (σ : St) (mo : Nat) (Z : Pz) (od : Nat → Nat) (T0 : Nat) : Prop :=
  rd σ mo 2 = nI (zP Z) ∧ rd σ mo 3 = nI (fr (zD Z) (mT Z od T0 (zP Z))) ∧ rd σ mo 4 = nI (allO Z od T0) ∧ rd σ mo 5 = bI (mWo Z od T0 (zP Z)) ∧
  ∀ p, p < zP Z → rd σ (mo + 1) p = bI (tkO Z od T0 p) ∧ rd σ (mo + 2) p = nI (moO Z od T0 p)
theorem MoK.D {σ : St} {mo : Nat} {Z : Pz} {od : Nat → Nat} {T0 : Nat} (ho : OdOK (zP Z) od) (h : MoK σ mo Z od T0 (zP Z)) : MoD σ mo Z od T0 := by
  obtain ⟨a, b, c, d, e⟩ := h
  refine ⟨a, b, by rw [c, sum_all ho], d, fun p hp => ?_⟩
  have := e _ (ho.plc_lt hp)
  rw [ho.od_plc hp] at this
  exact this
theorem MoD.fr {σ τ : St} {mo : Nat} {Z : Pz} {od : Nat → Nat} {T0 : Nat} {l : List Nat} (h : MoD σ mo Z od T0) (hf : Fr l σ τ) (h0 : mo ∉ l) (h1 : mo + 1 ∉ l) (h2 : mo + 2 ∉ l) : MoD τ mo Z od T0 := by
  obtain ⟨a, b, c, d, e⟩ := h
  exact ⟨by rw [hf.at h0]; exact a, by rw [hf.at h0]; exact b, by rw [hf.at h0]; exact c, by rw [hf.at h0]; exact d, fun j hj => ⟨by rw [hf.at h1]; exact (e j hj).1, by rw [hf.at h2]; exact (e j hj).2⟩⟩
theorem mT_lt {Z : Pz} (hz : OkZ Z) {od : Nat → Nat} {T0 : Nat} (h : T0 < 2 ^ 14) : ∀ k, mT Z od T0 k < 2 ^ 14
  | 0 => h
  | k + 1 => by
    have ih := mT_lt hz (od := od) h k
    have hD := hz.2.1
    show addT _ _ < _
    unfold addT
    refine Nat.or_lt_two_pow ih ?_
    cases e : mk1 Z (od k) (mT Z od T0 k) with
    | none => exact Nat.two_pow_pos _
    | some d =>
      show 2 ^ d < 2 ^ 14
      exact Nat.pow_lt_pow_right (by decide) (by have := (mk1_in e).1; omega)
-- the model
def MdN (σ : St) (A : Nt) (t : Nat) : Prop := AbsM σ A ∧ rd σ 58 23 = nI t ∧ t ≤ 14
def mdKeep : List Nat := [58, 60, 61, 62, 63, 64, 65, 66, 67]
theorem AbsM.fr {σ τ : St} {A : Nt} (h : AbsM σ A) (h0 : rd τ 58 9 = rd σ 58 9) (h1 : rd τ 58 10 = rd σ 58 10) (hf : ∀ b, 60 ≤ b → b ≤ 67 → ∀ j, rd τ b j = rd σ b j) : AbsM τ A := by
  refine ⟨h0.trans h.1, h1.trans h.2.1, fun d hd => ?_, fun p hp => ?_⟩
  · obtain ⟨q1, q2⟩ := h.2.2.1 d hd
    exact ⟨(hf 60 (by decide) (by decide) d).trans q1, (hf 61 (by decide) (by decide) d).trans q2⟩
  · obtain ⟨q3, q4, q5, q6, q7, q8⟩ := h.2.2.2 p hp
    exact ⟨(hf 62 (by decide) (by decide) p).trans q3, (hf 63 (by decide) (by decide) p).trans q4, (hf 64 (by decide) (by decide) p).trans q5, (hf 65 (by decide) (by decide) p).trans q6, (hf 66 (by decide) (by decide) p).trans q7, (hf 67 (by decide) (by decide) p).trans q8⟩
theorem MdN.fr {σ τ : St} {A : Nt} {t : Nat} {l : List Nat} (h : MdN σ A t) (hf : Fr l σ τ) (hl : ∀ b ∈ mdKeep, b ∉ l) : MdN τ A t :=
  ⟨h.1.fr (hf.at (hl 58 (by decide)) 9) (hf.at (hl 58 (by decide)) 10) (fun b h1 h2 j => hf.at (hl b (by unfold mdKeep; simp; omega)) j), (hf.at (hl 58 (by decide)) 23).trans h.2.1, h.2.2⟩
section MODEL
variable {σ : St} {A : Nt} {t : Nat}
theorem hasM {x d : Nat} (hx : x < 2 ^ 31) (hd : d < 31) : F_MD_has (nI x) (nI d) σ = some (zI (x.testBit d), σ) := by
  unfold F_MD_has
  rw [shr_nI hx (by omega), and1_nI, tb_div]
  cases x.testBit d <;> rfl
theorem mayM (h : MdN σ A t) (hO : OkN A) {p d : Nat} (hp : p < nP A) (hd : d < nD A) : F_MD_may (nI p) (nI d) σ = some (zI (mayA A p d), σ) := by
  have hD := hO.D
  have hP := hO.P
  have h3 := h.1.2.2.1 d hd
  have h4 := h.1.2.2.2 p hp
  have b4 := hO.2.2.2.1 p hp
  have e1 : rd σ 66 p = nI (nAl A p) := h4.2.2.2.2.1
  have e2 : rd σ 63 p = nI (nC A p) := h4.2.1
  have e3 : rd σ 60 d = nI (nK A d) := h3.1
  unfold F_MD_may
  rw [ldA_in (by rw [al_66]; omega) (by rw [al_66]; decide), Option.bind_some, e1, hasM (by omega) (by omega), Option.bind_some]
  simp only [zI_eq0]
  rw [ldA_in (by rw [al_60]; omega) (by rw [al_60]; decide), ldA_in (by rw [al_63]; omega) (by rw [al_63]; decide), Option.bind_some, Option.bind_some, e2, e3, hasM (by omega) (by omega), Option.bind_some]
  simp only [zI_eq0]
  unfold mayA
  cases (nAl A p).testBit d with
  | true => rfl
  | false =>
    rw [if_pos rfl]
    by_cases h5 : nK A d = 5
    · rw [if_pos (show nI (nK A d) = (5 : Int32) by rw [h5]; rfl), h5]; rfl
    · rw [if_neg (show ¬ nI (nK A d) = (5 : Int32) from fun q => h5 (nI_inj (b := 5) (by have := (hO.2.2.1 d hd).1; omega) (by decide) q))]
      have : (nK A d == 5) = false := by simp [h5]
      rw [this]
      cases (nC A p).testBit d <;> rfl
def plI (f r k : Int32) : Int32 := let x2 := 2 * f + 1; let x4 := x2 + 3 + r / 2; if k = 1 then x4 else if k = 2 then x2 / 2 else if k = 3 then 3 * x4 else if k = 4 then x2 / 2 + 1 else if k = 5 then (if 1 ≤ x4 - r then x4 - r else 1) else x2
theorem plI_num : ∀ k, k < 6 → ∀ f, f < 10 → ∀ r, r < 10 → plI (nI f) (nI r) (nI k) = nI (mkN k f r) := by decide +kernel
theorem plainM (h : MdN σ A t) (hO : OkN A) {p d : Nat} (hp : p < nP A) (hd : d < nD A) : F_MD_plainMonths (nI p) (nI d) σ = some (nI (mkN (nK A d) (nF A d) (nR A p)), σ) := by
  have hD := hO.D
  have hP := hO.P
  have h3 := h.1.2.2.1 d hd
  have h4 := h.1.2.2.2 p hp
  have e1 : rd σ 60 d = nI (nK A d) := h3.1
  have e2 : rd σ 61 d = nI (nF A d) := h3.2
  have e3 : rd σ 62 p = nI (nR A p) := h4.1
  have b3 := hO.2.2.1 d hd
  have b4 := hO.2.2.2.1 p hp
  rw [← plI_num _ b3.1 _ b3.2 _ b4.1]
  unfold F_MD_plainMonths plI
  have l1 : ldA σ 61 (nI d) = some (nI (nF A d)) := by rw [ldA_in (by rw [al_61]; omega) (by rw [al_61]; decide), e2]
  have l2 : ldA σ 62 (nI p) = some (nI (nR A p)) := by rw [ldA_in (by rw [al_62]; omega) (by rw [al_62]; decide), e3]
  have l3 : ldA σ 60 (nI d) = some (nI (nK A d)) := by rw [ldA_in (by rw [al_60]; omega) (by rw [al_60]; decide), e1]
  simp only [l1, l2, l3, Option.bind_some]
  repeat' split
  all_goals first | rfl | (simp_all; done)
theorem monthsOfM (h : MdN σ A t) (hO : OkN A) {p d : Nat} (hp : p < nP A) (hd : d < nD A) : F_MD_monthsOf (nI p) (nI d) σ = some (nI (costT t A p d), σ) := by
  have hD := hO.D
  have hP := hO.P
  have ht := h.2.2
  have h4 := h.1.2.2.2 p hp
  have e5 : rd σ 64 p = nI (nDi A p) := h4.2.2.1
  have b3 := hO.2.2.1 d hd
  have b4 := hO.2.2.2.1 p hp
  have hle := mkN_le _ b3.1 _ b3.2 _ b4.1
  unfold F_MD_monthsOf
  rw [if_pos (nI_pos' (by omega)), plainM h hO hp hd, Option.bind_some, ldA_in (by rw [al_64]; omega) (by rw [al_64]; decide), Option.bind_some, e5, h.2.1]
  unfold costT F_MD_monthsOf_40
  by_cases hdi : nDi A p = d
  · rw [if_pos (show nI (nDi A p) = nI d by rw [hdi])]
    by_cases hdt : d < t
    · rw [if_neg (nI_ge hdt (by omega)), if_pos ⟨hdi, hdt⟩, show (3 : Int32) = nI 3 from rfl, pk_div (by omega) (by decide) (by decide), pk_sub (by omega)]
    · rw [if_pos (nI_le (by omega) (by omega)), if_neg (fun q => hdt q.2)]
  · rw [if_neg (show ¬ nI (nDi A p) = nI d from fun q => hdi (nI_inj (by omega) (by omega) q)), if_neg (fun q => hdi q.1)]
theorem monthsOfM_b (h : MdN σ A t) (hO : OkN A) {p : Nat} {o : Option Nat} (hp : p < nP A) (ho : ∀ d, o = some d → d < nD A) : F_MD_monthsOf (nI p) (bI o) σ = some (nI (moZ (prA t A) p o), σ) := by
  cases o with
  | none => rfl
  | some d => exact monthsOfM h hO hp (ho d rfl)
theorem bestM (h : MdN σ A t) (hO : OkN A) {p T : Nat} (hp : p < nP A) (hT : T < 2 ^ 31) : F_MD_best (nI p) (nI T) σ = some (bI (mk1 (prA t A) p T), σ) := by
  have hD := hO.D
  have hP := hO.P
  have e9 : rd σ 58 9 = nI (nD A) := h.1.1
  have hb : ∀ k b, k ≤ nD A → bestN (fun d => !(T.testBit d) && mayA A p d) (costT t A p) k = some b → b < nD A ∧ costT t A p b ≤ 78 := fun k b hk e => by
    have := (bestN_in e).1
    exact ⟨by omega, costT_le hO t hp (by omega)⟩
  unfold F_MD_best F_MD_best_6
  refine fix_up (n := nD A) (fun k => (bI (bestN (fun d => !(T.testBit d) && mayA A p d) (costT t A p) k), nI k, σ)) (by rw [fuel_val]; omega) (fun K k hk => ?_) (fun K => ?_)
  · show H_MD_best_6 (nI p) (nI T) K _ (nI k) σ = _
    unfold H_MD_best_6 F_MD_best_57 F_MD_best_60
    rw [e9, if_neg (nI_ge hk (by omega)), hasM hT (by omega), Option.bind_some]
    simp only [zI_eq0, mayM h hO hp hk, Option.bind_some, nI_1, monthsOfM h hO hp hk]
    rw [bestN]
    have hbk := hb k
    cases ht : T.testBit k with
    | true => simp
    | false =>
      simp only [Bool.not_false, Bool.true_and, if_true]
      cases hm : mayA A p k with
      | false => simp
      | true =>
        simp only [if_true, Bool.true_eq_false, if_false]
        cases e : bestN (fun d => !(T.testBit d) && mayA A p d) (costT t A p) k with
        | none =>
          rw [if_pos (show bI none < 0 from n9_neg)]
          rfl
        | some b =>
          obtain ⟨hb1, hb2⟩ := hbk b (by omega) e
          have hck := costT_le hO t hp hk
          rw [if_neg (show ¬ bI (some b) < 0 from nI_pos (by omega)), bI_some, monthsOfM h hO hp hb1, Option.bind_some]
          by_cases hc : costT t A p k < costT t A p b
          · simp only [hc, if_true]
            rw [if_neg (nI_ge hc (by omega))]
            rfl
          · simp only [hc, if_false]
            rw [if_pos (nI_le (by omega) (by omega))]
            rfl
  · show H_MD_best_6 (nI p) (nI T) K _ (nI (nD A)) σ = _
    unfold H_MD_best_6
    rw [e9, if_pos (Int32.le_refl _)]
    rfl
end MODEL
