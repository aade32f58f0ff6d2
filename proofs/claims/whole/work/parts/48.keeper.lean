-- keeper
def mK (A : Nt) (n q : Nat) : Nat := moO (prA 7 A) (mvO (nOd A) (plc (nOd A) n (nP A)) (nP A - 1)) 0 q
def kLess (o : Option (Nat × Nat)) (x : Nat) : Bool := match o with | none => true | some y => decide (x < y.2)
def kNext (A : Nt) (n : Nat) (o : Option (Nat × Nat)) : Option (Nat × Nat) := match nB A n with
  | none => o
  | some q => if mK A n q < moO (prA 7 A) (nOd A) 0 q ∧ kLess o (mK A n q) = true then some (n, mK A n q) else o
def kS (A : Nt) : Nat → Option (Nat × Nat)
  | 0 => none
  | n + 1 => kNext A n (kS A n)
def kBest (o : Option (Nat × Nat)) : Int32 := match o with | none => -9 | some y => nI y.1
def kFew (D : Nat) (o : Option (Nat × Nat)) : Int32 := match o with | none => nI D | some y => nI y.2
theorem kS_le {A : Nt} (hO : OkN A) : ∀ {n : Nat}, n ≤ nP A → ∀ y, kS A n = some y → y.2 ≤ 78
  | 0, _, y, h => by cases h
  | n + 1, hn, y, h => by
    have ih := kS_le hO (n := n) (by omega)
    have h' : kNext A n (kS A n) = some y := h
    unfold kNext at h'
    cases e : nB A n with
    | none => rw [e] at h'; exact ih y h'
    | some q =>
      rw [e] at h'
      simp only at h'
      split at h'
      · cases h'
        exact moO_le (prA_ok hO 7) (nB_in hO (by omega) e).1
      · exact ih y h'
theorem kLess_iff {A : Nt} (hO : OkN A) {n D x : Nat} (hn : n ≤ nP A) (hx : x ≤ 78) (hD : 78 < D) (hD2 : D < 2 ^ 31) : (nI x < kFew D (kS A n)) ↔ kLess (kS A n) x = true := by
  cases e : kS A n with
  | none => exact ⟨fun _ => rfl, fun _ => nI_lt (by omega) hD2⟩
  | some y =>
    have := kS_le hO hn y e
    show nI x < nI y.2 ↔ decide (x < y.2) = true
    rw [nI_ltI (by omega) (by omega), decide_eq_true_eq]
