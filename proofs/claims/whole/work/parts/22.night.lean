-- a night as numbers
abbrev Nt : Type := (Nat × Nat) × (Nat → Nat) × (Nat → Nat) × (Nat → Nat) × (Nat → Nat) × (Nat → Nat) × (Nat → Option Nat) × (Nat → Nat) × (Nat → Nat)
def nD (A : Nt) : Nat := A.1.1
def nP (A : Nt) : Nat := A.1.2
def nK (A : Nt) : Nat → Nat := A.2.1
def nF (A : Nt) : Nat → Nat := A.2.2.1
def nR (A : Nt) : Nat → Nat := A.2.2.2.1
def nC (A : Nt) : Nat → Nat := A.2.2.2.2.1
def nDi (A : Nt) : Nat → Nat := A.2.2.2.2.2.1
def nB (A : Nt) : Nat → Option Nat := A.2.2.2.2.2.2.1
def nAl (A : Nt) : Nat → Nat := A.2.2.2.2.2.2.2.1
def nOd (A : Nt) : Nat → Nat := A.2.2.2.2.2.2.2.2
/-- rows of a memory hold a night -/
def AbsR (r : Nat → Nat → Int32) (A : Nt) : Prop :=
  r 0 0 = nI (nD A) ∧ r 0 1 = nI (nP A) ∧ (∀ d, d < nD A → r 1 d = nI (nK A d) ∧ r 2 d = nI (nF A d)) ∧
  ∀ p, p < nP A → r 3 p = nI (nR A p) ∧ r 4 p = nI (nC A p) ∧ r 5 p = nI (nDi A p) ∧ r 6 p = bI (nB A p) ∧ r 7 p = nI (nAl A p) ∧ r 8 p = nI (nOd A p)
def AbsC (σ : St) (n : Nat) (A : Nt) : Prop := AbsR (fun k j => rd σ (n + k) j) A
def AbsM (σ : St) (A : Nt) : Prop := AbsR (fun k j => if k = 0 then rd σ 58 (9 + j) else rd σ (59 + k) j) A
/-- as it must be, with room for deeds put in -/
def OkN (A : Nt) : Prop := nD A ≤ 14 ∧ nP A ≤ 7 ∧ (∀ d, d < nD A → nK A d < 6 ∧ nF A d < 10) ∧
  (∀ p, p < nP A → nR A p < 10 ∧ nC A p < 128 ∧ nDi A p < 8 ∧ nAl A p < 128 ∧ nOd A p < nP A ∧ ∀ q, nB A p = some q → q < nP A ∧ q ≠ p ∧ nB A q = some p) ∧
  ∀ j k, j < nP A → k < nP A → nOd A j = nOd A k → j = k
theorem OkN.D {A : Nt} (h : OkN A) : nD A ≤ 14 := h.1
theorem OkN.P {A : Nt} (h : OkN A) : nP A ≤ 7 := h.2.1
theorem OkN.onto {A : Nt} (h : OkN A) {p : Nat} (hp : p < nP A) : ∃ k, k < nP A ∧ nOd A k = p :=
  fb_onto (fun i hi => (h.2.2.2.1 i hi).2.2.2.2.1) (fun i j hij hj e => by have := h.2.2.2.2 i j (by omega) hj e; omega) hp
def mkN (k f r : Nat) : Nat :=
  if k = 1 then 2 * f + 4 + r / 2 else if k = 2 then (2 * f + 1) / 2 else if k = 3 then 3 * (2 * f + 4 + r / 2) else if k = 4 then (2 * f + 1) / 2 + 1 else if k = 5 then (if 2 * f + 4 + r / 2 - r < 1 then 1 else 2 * f + 4 + r / 2 - r) else 2 * f + 1
theorem mkN_le : ∀ k, k < 6 → ∀ f, f < 10 → ∀ r, r < 10 → mkN k f r ≤ 78 := by decide +kernel
def mayA (A : Nt) (p d : Nat) : Bool := !((nAl A p).testBit d) && (nK A d == 5 || (nC A p).testBit d)
def costT (t : Nat) (A : Nt) (p d : Nat) : Nat := if nDi A p = d ∧ d < t then mkN (nK A d) (nF A d) (nR A p) - mkN (nK A d) (nF A d) (nR A p) / 3 else mkN (nK A d) (nF A d) (nR A p)
theorem costT_le {A : Nt} (h : OkN A) (t : Nat) {p d : Nat} (hp : p < nP A) (hd : d < nD A) : costT t A p d ≤ 78 := by
  have := mkN_le _ (h.2.2.1 d hd).1 _ (h.2.2.1 d hd).2 _ (h.2.2.2.1 p hp).1
  unfold costT
  split <;> omega
-- small helpers of the class
theorem atC {σ : St} {a len k : Nat} (hal : alen a = len) (hk : k < len) (hlen : len < 2 ^ 31 := by decide) : F_AC_at a (nI k) σ = some (rd σ a k, σ) := by
  subst hal
  unfold F_AC_at
  rw [if_neg (nI_pos (Nat.lt_trans hk hlen)), if_neg (nI_ge hk hlen), ldA_in hk hlen]
  rfl
theorem atC_neg {σ : St} {a : Nat} : F_AC_at a (-9) σ = some (-9, σ) := by
  unfold F_AC_at
  rw [if_pos n9_neg]
  rfl
theorem putC {σ : St} {a len k : Nat} {x : Int32} (hal : alen a = len) (hk : k < len) (hlen : len < 2 ^ 31 := by decide) : F_AC_put a (nI k) x σ = some (wr σ a k x) := by
  subst hal
  unfold F_AC_put
  rw [if_neg (nI_pos (Nat.lt_trans hk hlen)), if_neg (nI_ge hk hlen), stA_in hk hlen]
  rfl
theorem putC_neg {σ : St} {a : Nat} {x : Int32} : F_AC_put a (-9) x σ = some σ := by
  unfold F_AC_put
  rw [if_pos n9_neg]
theorem putC_b {σ : St} {a len : Nat} {x : Int32} {o : Option Nat} (hal : alen a = len) (hk : ∀ q, o = some q → q < len) (hlen : len < 2 ^ 31 := by decide) : F_AC_put a (bI o) x σ = some (match o with | some q => wr σ a q x | none => σ) := by
  cases o with
  | none => exact putC_neg
  | some q => exact putC hal (hk q rfl) hlen
theorem bitC {σ : St} {d : Nat} (h : d < 31) : F_AC_bit (nI d) σ = some (nI (2 ^ d), σ) := by
  unfold F_AC_bit
  rw [if_neg (nI_pos (by omega)), if_neg (show ¬ (31 : Int32) ≤ nI d from nI_ge (b := 31) h (by decide)), shl1 h]
theorem bitC_neg {σ : St} : F_AC_bit (-9) σ = some (0, σ) := by
  unfold F_AC_bit
  rw [if_pos n9_neg]
  rfl
theorem one0 : ((1 : Int32) = 0) = False := by decide
theorem zI_eq0 (b : Bool) : (zI b = 0) = (b = false) := propext (zI_0 b)
def bitO (o : Option Nat) : Nat := match o with | some d => 2 ^ d | none => 0
theorem bitC_b {σ : St} {o : Option Nat} (h : ∀ d, o = some d → d < 31) : F_AC_bit (bI o) σ = some (nI (bitO o), σ) := by
  cases o with
  | none => exact bitC_neg
  | some d => exact bitC (h d rfl)
theorem hasC {σ : St} {x d : Nat} (h : d < 31) : F_AC_has (nI x) (nI d) σ = some (zI (x.testBit d), σ) := by
  unfold F_AC_has
  rw [bitC h, Option.bind_some]
  cases hb : x.testBit d with
  | false => rw [if_pos ((and_bit h).mpr hb)]; rfl
  | true => rw [if_neg (fun q => by rw [(and_bit h).mp q] at hb; cases hb)]; rfl
theorem hasC_neg {σ : St} {a : Int32} : F_AC_has a (-9) σ = some (0, σ) := by
  unfold F_AC_has
  rw [bitC_neg, Option.bind_some, if_pos (Int32.and_zero)]
theorem maxC {σ : St} {a b : Nat} (ha : a < 2 ^ 31) (hb : b < 2 ^ 31) : F_MA_max (nI a) (nI b) σ = some (nI (max a b), σ) := by
  unfold F_MA_max
  by_cases h : a < b
  · rw [if_pos (nI_lt h hb), Nat.max_eq_right (by omega)]
  · rw [if_neg (nI_nlt (by omega) ha), Nat.max_eq_left (by omega)]
theorem minC {σ : St} {a b : Nat} (ha : a < 2 ^ 31) (hb : b < 2 ^ 31) : F_MA_min (nI a) (nI b) σ = some (nI (min a b), σ) := by
  unfold F_MA_min
  by_cases h : b < a
  · rw [if_pos (nI_lt h ha), Nat.min_eq_right (by omega)]
  · rw [if_neg (nI_nlt (by omega) hb), Nat.min_eq_left (by omega)]
def mokI (a b c : Int32) : Int32 := let x1 := 2 * b + 1; let x2 := x1 + 3 + c / 2; let x3 := x1 / 2; if a = 1 then x2 else if a = 2 then x3 else if a = 3 then 3 * x2 else if a = 4 then x3 + 1 else if a = 5 then (if 1 < x2 - c then x2 - c else 1) else x1
theorem mok_eq (a b c : Int32) (σ : St) : F_AC_monthsOfKind a b c σ = some (mokI a b c, σ) := by
  unfold F_AC_monthsOfKind mokI F_MA_max
  simp only [Option.bind_some]
  repeat' split
  all_goals first | rfl | (simp_all; done)
theorem mok_num : ∀ k, k < 6 → ∀ f, f < 10 → ∀ r, r < 10 → mokI (nI k) (nI f) (nI r) = nI (mkN k f r) := by decide +kernel
-- nights of the class
section NIGHT
variable {σ : St} {n : Nat} {A : Nt}
theorem hasDeedC_in (hA : AbsC σ n A) (hO : OkN A) {d : Nat} (hd : d < nD A) : F_NI_hasDeed n (nI d) σ = some (1, σ) := by
  have hD := hO.D
  unfold F_NI_hasDeed
  have e : rd σ n 0 = nI (nD A) := hA.1
  rw [e, if_neg (nI_pos (by omega)), if_neg (nI_ge hd (by omega))]
theorem hasDeedC_out (hA : AbsC σ n A) (hO : OkN A) {a : Int32} (h : a < 0 ∨ nI (nD A) ≤ a) : F_NI_hasDeed n a σ = some (0, σ) := by
  unfold F_NI_hasDeed
  have e : rd σ n 0 = nI (nD A) := hA.1
  rw [e]
  rcases h with h | h
  · rw [if_pos h]; rfl
  · rw [if_pos h]
    split <;> rfl
theorem hasPersonC_in (hA : AbsC σ n A) (hO : OkN A) {p : Nat} (hp : p < nP A) : F_NI_hasPerson n (nI p) σ = some (1, σ) := by
  have hP := hO.P
  unfold F_NI_hasPerson
  have e : rd σ n 1 = nI (nP A) := hA.2.1
  rw [e, if_neg (nI_pos (by omega)), if_neg (nI_ge hp (by omega))]
theorem hasPersonC_out (hA : AbsC σ n A) (hO : OkN A) {a : Int32} (h : a < 0 ∨ nI (nP A) ≤ a) : F_NI_hasPerson n a σ = some (0, σ) := by
  unfold F_NI_hasPerson
  have e : rd σ n 1 = nI (nP A) := hA.2.1
  rw [e]
  rcases h with h | h
  · rw [if_pos h]; rfl
  · rw [if_pos h]
    split <;> rfl
theorem mayC (hn : isNI n) (hA : AbsC σ n A) (hO : OkN A) {p d : Nat} (hp : p < nP A) (hd : d < nD A) : F_NI_may n (nI p) (nI d) σ = some (zI (mayA A p d), σ) := by
  have hD := hO.D
  have hP := hO.P
  have h3 := hA.2.2.1 d hd
  have h4 := hA.2.2.2 p hp
  have e1 : rd σ (n + 7) p = nI (nAl A p) := h4.2.2.2.2.1
  have e2 : rd σ (n + 4) p = nI (nC A p) := h4.2.1
  have e3 : rd σ (n + 1) d = nI (nK A d) := h3.1
  unfold F_NI_may
  simp only [hasPersonC_in hA hO hp, hasDeedC_in hA hO hd, atC (σ := σ) (al_NI7 hn) (show p < 7 by omega), atC (σ := σ) (al_NI4 hn) (show p < 7 by omega), atC (σ := σ) (al_NI1 hn) (show d < 14 by omega), Option.bind_some, e1, e2, e3, hasC (σ := σ) (show d < 31 by omega)]
  simp only [one0, if_false, zI_eq0]
  unfold mayA
  cases (nAl A p).testBit d with
  | true => rfl
  | false =>
    rw [if_pos rfl]
    by_cases h5 : nK A d = 5
    · rw [if_pos (show nI (nK A d) = (5 : Int32) by rw [h5]; rfl), h5]; rfl
    · rw [if_neg (show ¬ nI (nK A d) = (5 : Int32) from fun q => h5 (nI_inj (b := 5) (by have := (hO.2.2.1 d hd).1; omega) (by decide) q))]
      have : (nK A d == 5) = false := by simp [h5]
      rw [this]
      cases (nC A p).testBit d <;> rfl
theorem monthsForC (hn : isNI n) (hA : AbsC σ n A) (hO : OkN A) {p d : Nat} (hp : p < nP A) (hd : d < nD A) : F_NI_monthsFor n (nI p) (nI d) σ = some (nI (costT 7 A p d), σ) := by
  have hD := hO.D
  have hP := hO.P
  have h3 := hA.2.2.1 d hd
  have h4 := hA.2.2.2 p hp
  have e1 : rd σ (n + 1) d = nI (nK A d) := h3.1
  have e2 : rd σ (n + 2) d = nI (nF A d) := h3.2
  have e3 : rd σ (n + 3) p = nI (nR A p) := h4.1
  have e5 : rd σ (n + 5) p = nI (nDi A p) := h4.2.2.1
  have b3 := hO.2.2.1 d hd
  have b4 := hO.2.2.2.1 p hp
  have hm := mok_num _ b3.1 _ b3.2 _ b4.1
  have hle := mkN_le _ b3.1 _ b3.2 _ b4.1
  have hsub : nI (mkN (nK A d) (nF A d) (nR A p)) - nI (mkN (nK A d) (nF A d) (nR A p)) / 3 = nI (mkN (nK A d) (nF A d) (nR A p) - mkN (nK A d) (nF A d) (nR A p) / 3) := by
    rw [show (3 : Int32) = nI 3 from rfl, pk_div (by omega) (by decide) (by decide), pk_sub (by omega)]
  unfold F_NI_monthsFor
  simp only [hasDeedC_in hA hO hd, atC (σ := σ) (al_NI1 hn) (show d < 14 by omega), atC (σ := σ) (al_NI2 hn) (show d < 14 by omega), atC (σ := σ) (al_NI3 hn) (show p < 7 by omega), atC (σ := σ) (al_NI5 hn) (show p < 7 by omega), Option.bind_some, e1, e2, e3, e5, mok_eq, hm]
  rw [if_neg (by decide : ¬ (1 : Int32) = 0)]
  unfold costT
  by_cases h7 : d = 7
  · subst h7
    rw [if_pos (show nI 7 = (7 : Int32) from rfl), if_neg (by omega)]
    rfl
  · rw [if_neg (show ¬ nI d = (7 : Int32) from fun q => h7 (nI_inj (b := 7) (by omega) (by decide) q))]
    by_cases hdi : nDi A p = d
    · rw [if_pos (by rw [hdi]), if_pos ⟨hdi, by omega⟩]
      show (if (1 : Int32) = 0 then _ else _) = _
      rw [if_neg (by decide), hsub]
    · rw [if_neg (fun q => hdi (nI_inj (by omega) (by omega) q)), if_neg (fun q => hdi q.1)]
      rfl
theorem allDeedsC (hA : AbsC σ n A) (hO : OkN A) : F_NI_allDeeds n σ = some (nI (2 ^ nD A - 1), σ) := by
  have hD := hO.D
  unfold F_NI_allDeeds
  have e : rd σ n 0 = nI (nD A) := hA.1
  have hp : 0 < 2 ^ nD A := Nat.two_pow_pos _
  rw [e, bitC (by omega), Option.bind_some, show (1 : Int32) = nI 1 from rfl, pk_sub (by omega)]
end NIGHT
/-- where one stands in a row -/
theorem placeInC {σ : St} {a len m k : Nat} {x : Int32} (hal : alen a = len) (hm : m ≤ len) (hlen : len < 4000) (hk : k < m) (hx : rd σ a k = x) (hno : ∀ j, j < k → rd σ a j ≠ x) : F_AC_placeIn a (nI m) x σ = some (nI k, σ) := by
  unfold F_AC_placeIn F_AC_placeIn_2
  refine fix_up (n := k) (fun j => (nI j, σ)) (by rw [fuel_val]; omega) (fun K j hj => ?_) (fun K => ?_)
  · show H_AC_placeIn_2 a (nI m) x K (nI j) σ = _
    unfold H_AC_placeIn_2
    rw [if_neg (nI_ge (by omega) (by omega)), hal, if_neg (nI_ge (by omega) (by omega)), ldA_in (by omega) (by omega), Option.bind_some, if_neg (hno j hj), nI_1]
  · show H_AC_placeIn_2 a (nI m) x K (nI k) σ = _
    unfold H_AC_placeIn_2
    rw [if_neg (nI_ge (by omega) (by omega)), hal, if_neg (nI_ge (by omega) (by omega)), ldA_in (by omega) (by omega), Option.bind_some, if_pos hx]
theorem placeInC_no {σ : St} {a len m : Nat} {x : Int32} (hal : alen a = len) (hm : m ≤ len) (hlen : len < 4000) (hno : ∀ j, j < m → rd σ a j ≠ x) : F_AC_placeIn a (nI m) x σ = some (-9, σ) := by
  unfold F_AC_placeIn F_AC_placeIn_2
  refine fix_up (n := m) (fun j => (nI j, σ)) (by rw [fuel_val]; omega) (fun K j hj => ?_) (fun K => ?_)
  · show H_AC_placeIn_2 a (nI m) x K (nI j) σ = _
    unfold H_AC_placeIn_2
    rw [if_neg (nI_ge (by omega) (by omega)), hal, if_neg (nI_ge (by omega) (by omega)), ldA_in (by omega) (by omega), Option.bind_some, if_neg (hno j hj), nI_1]
  · show H_AC_placeIn_2 a (nI m) x K (nI m) σ = _
    unfold H_AC_placeIn_2
    rw [if_pos (Int32.le_refl _)]
/-- a row copied -/
def cpR (σ : St) (f t n : Nat) : St := (fun b j => if b = t ∧ j < n then σ.1 f j else σ.1 b j, σ.2)
theorem rd_cpR (σ : St) (f t n b j : Nat) : rd (cpR σ f t n) b j = if b = t ∧ j < n then rd σ f j else rd σ b j := rfl
theorem copyRowC {σ : St} {f t len : Nat} (hf : alen f = len) (ht : alen t = len) (hlen : len < 4000) (hne : f ≠ t) : F_AC_copyRow f t σ = some (cpR σ f t len) := by
  unfold F_AC_copyRow F_AC_copyRow_2
  have e0 : cpR σ f t 0 = σ := St_ext (fun b k => by rw [rd_cpR, if_neg (by omega)]) rfl
  have key := fix_up (f := G_AC_copyRow_2 f t) (r := some (cpR σ f t len)) (n := len) (fun j => (nI j, cpR σ f t j)) (by rw [fuel_val]; omega) (fun K j hj => ?_) (fun K => ?_)
  · simp only [e0] at key
    exact key
  · show H_AC_copyRow_2 f t K (nI j) (cpR σ f t j) = _
    unfold H_AC_copyRow_2
    rw [ht, if_neg (nI_ge hj (by omega)), atC hf hj (by omega), Option.bind_some, stA_in (by omega) (by omega), Option.bind_some, nI_1]
    congr 2
    refine St_ext (fun b k => ?_) rfl
    rw [rd_wr, rd_cpR, rd_cpR, rd_cpR]
    by_cases hb : b = t
    · subst hb
      by_cases hk : k = j
      · subst hk
        rw [if_pos ⟨rfl, rfl⟩, if_neg (fun q => hne q.1), if_pos ⟨rfl, Nat.lt_succ_self _⟩]
      · rw [if_neg (fun q => hk q.2)]
        by_cases h2 : k < j
        · rw [if_pos ⟨rfl, h2⟩, if_pos ⟨rfl, by omega⟩]
        · rw [if_neg (fun q => h2 q.2), if_neg (fun q => by omega)]
    · rw [if_neg (fun q => hb q.1), if_neg (fun q => hb q.1), if_neg (fun q => hb q.1)]
  · show H_AC_copyRow_2 f t K (nI len) (cpR σ f t len) = _
    unfold H_AC_copyRow_2
    rw [ht, if_pos (Int32.le_refl _)]
