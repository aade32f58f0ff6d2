-- all orders, as numbers
def dgN (P k j : Nat) : Nat := k / P ^ (P - 1 - j) % P
def seN (P k : Nat) : Nat → Nat
  | 0 => 0
  | i + 1 => seN P k i ||| 2 ^ (k / P ^ i % P)
def vaB (P k : Nat) : Bool := seN P k P == 2 ^ P - 1
def exF (f : Nat → Nat) (i j : Nat) : Nat → Nat := fun k => if k = i then f j else if k = j then f i else f k
def lwN (f : Nat → Nat) : Nat → Nat
  | 0 => 0
  | n + 1 => if f n < f (n + 1) then n + 1 else lwN f n
def hgN (f : Nat → Nat) (low : Nat) : Nat → Nat
  | 0 => 0
  | n + 1 => if n + 1 ≤ low then n + 1 else if f low < f (n + 1) then n + 1 else hgN f low n
def rvL : Nat → (Nat → Nat) → Nat → Nat → Nat → Nat
  | 0, f, _, _ => f
  | n + 1, f, i, j => if i < j then rvL n (exF f i j) (i + 1) (j - 1) else f
def stN' (P : Nat) (f : Nat → Nat) : Option (Nat → Nat) :=
  if lwN f (P - 1) = 0 then none else some (rvL P (exF f (lwN f (P - 1) - 1) (hgN f (lwN f (P - 1) - 1) (P - 1))) (lwN f (P - 1)) (P - 1))
def eqB (f g : Nat → Nat) : Nat → Bool
  | 0 => true
  | n + 1 => f n == g n && eqB f g n
theorem eqB_in {f g : Nat → Nat} : ∀ {n : Nat}, eqB f g n = true → ∀ j, j < n → f j = g j
  | 0, _, j, h => absurd h (Nat.not_lt_zero _)
  | n + 1, h, j, hj => by
    unfold eqB at h
    rw [Bool.and_eq_true, beq_iff_eq] at h
    by_cases e : j = n
    · rw [e]; exact h.1
    · exact eqB_in h.2 j (by omega)
/-- an order without repeats -/
def neB (f : Nat → Nat) (x : Nat) : Nat → Bool
  | 0 => true
  | n + 1 => !(f n == x) && neB f x n
def okB (P : Nat) (f : Nat → Nat) : Nat → Bool
  | 0 => true
  | n + 1 => decide (f n < P) && (neB f (f n) n && okB P f n)
theorem neB_in {f : Nat → Nat} {x : Nat} : ∀ {n : Nat}, neB f x n = true → ∀ j, j < n → f j ≠ x
  | 0, _, j, h => absurd h (Nat.not_lt_zero _)
  | n + 1, h, j, hj => by
    unfold neB at h
    rw [Bool.and_eq_true, Bool.not_eq_true', beq_eq_false_iff_ne] at h
    by_cases e : j = n
    · rw [e]; exact h.1
    · exact neB_in h.2 j (by omega)
theorem okB_in {P : Nat} {f : Nat → Nat} : ∀ {n : Nat}, okB P f n = true → (∀ j, j < n → f j < P) ∧ ∀ i j, i < j → j < n → f i ≠ f j
  | 0, _ => ⟨fun j h => absurd h (Nat.not_lt_zero _), fun i j _ h => absurd h (Nat.not_lt_zero _)⟩
  | n + 1, h => by
    unfold okB at h
    rw [Bool.and_eq_true, Bool.and_eq_true, decide_eq_true_eq] at h
    obtain ⟨i1, i2⟩ := okB_in h.2.2
    refine ⟨fun j hj => ?_, fun i j hij hj => ?_⟩
    · by_cases e : j = n
      · rw [e]; exact h.1
      · exact i1 j (by omega)
    · by_cases e : j = n
      · rw [e]; exact neB_in h.2.1 i (by omega)
      · exact i2 i j hij (by omega)
theorem okB_od {P : Nat} {f : Nat → Nat} (h : okB P f P = true) : OdOK P f := by
  obtain ⟨h1, h2⟩ := okB_in h
  refine ⟨h1, fun i j hi hj e => ?_⟩
  rcases Nat.lt_trichotomy i j with q | q | q
  · exact absurd e (h2 i j q hj)
  · exact q
  · exact absurd e.symm (h2 j i q hi)
def srB (P a b : Nat) : Bool := match stN' P (dgN P a) with | none => false | some g => eqB g (dgN P b) P
def snB (P a : Nat) : Bool := match stN' P (dgN P a) with | none => true | some _ => false
def chB' (P : Nat) : List Nat → Bool
  | [] => true
  | a :: t => okB P (dgN P a) P && ((match t with | [] => snB P a | b :: _ => srB P a b) && chB' P t)
def nxB (P a : Nat) (o : Option Nat) : Bool := match o with | none => snB P a | some b => srB P a b
theorem chB_in {P : Nat} : ∀ {L : List Nat}, chB' P L = true → ∀ (i a : Nat), L[i]? = some a → okB P (dgN P a) P = true ∧ nxB P a L[i + 1]? = true
  | [], _, i, a, h => by simp at h
  | x :: t, hc, i, a, h => by
    unfold chB' at hc
    rw [Bool.and_eq_true, Bool.and_eq_true] at hc
    cases i with
    | zero =>
      have e : x = a := by simpa using h
      subst e
      refine ⟨hc.1, ?_⟩
      cases t with
      | nil => exact hc.2.1
      | cons b t' => exact hc.2.1
    | succ i =>
      have h' : t[i]? = some a := by simpa using h
      have := chB_in hc.2.2 i a h'
      simpa using this
def orL (P k : Nat) : List Nat := (List.range k).filter (vaB P)
theorem orL_s (P k : Nat) : orL P (k + 1) = if vaB P k = true then orL P k ++ [k] else orL P k := by
  unfold orL
  rw [List.range_succ, List.filter_append]
  by_cases h : vaB P k = true
  · rw [if_pos h]; simp [h]
  · rw [if_neg h]; simp [h]
theorem orL_at {P k : Nat} (h : vaB P k = true) : ∀ {N : Nat}, k < N → (orL P N)[(orL P k).length]? = some k := by
  intro N hN
  induction N with
  | zero => omega
  | succ N ih =>
    rw [orL_s]
    by_cases e : k = N
    · subst e
      rw [if_pos h]
      simp
    · have := ih (by omega)
      by_cases hv : vaB P N = true
      · rw [if_pos hv, List.getElem?_append_left]
        · exact this
        · exact (List.getElem?_eq_some_iff.mp this).1
      · rw [if_neg hv]; exact this
theorem orL_0 (P : Nat) : (orL P 0).length = 0 := rfl
def hdB (P : Nat) : List Nat → Bool
  | [] => false
  | a :: _ => eqB (dgN P a) (fun j => j) P
set_option maxRecDepth 100000 in
theorem or_all : ∀ P, P ≤ 5 → chB' P (orL P (P ^ P)) = true ∧ hdB P (orL P (P ^ P)) = true ∧ (orL P (P ^ P)).length ≤ 120 := by decide +kernel
