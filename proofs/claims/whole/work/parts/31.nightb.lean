theorem OkN.ch {A : Nt} (h : OkN A) {a b : Nat} (ha : a < nP A) (hb : b < nP A) : OkN (chN A a b) := by
  have ho := h.od.swp ha hb
  exact ⟨h.1, h.2.1, h.2.2.1, fun p hp => ⟨(h.2.2.2.1 p hp).1, (h.2.2.2.1 p hp).2.1, (h.2.2.2.1 p hp).2.2.1, (h.2.2.2.1 p hp).2.2.2.1, ho.1 p hp, (h.2.2.2.1 p hp).2.2.2.2.2⟩, ho.2⟩
theorem OkN.al {A : Nt} (h : OkN A) {p d : Nat} (hd : d < 7) : OkN (alN A p d) := by
  refine ⟨h.1, h.2.1, h.2.2.1, fun q hq => ⟨(h.2.2.2.1 q hq).1, (h.2.2.2.1 q hq).2.1, (h.2.2.2.1 q hq).2.2.1, ?_, (h.2.2.2.1 q hq).2.2.2.2.1, (h.2.2.2.1 q hq).2.2.2.2.2⟩, h.2.2.2.2⟩
  have hl := (h.2.2.2.1 q hq).2.2.2.1
  show (if q = p then nAl A q ^^^ 2 ^ d else nAl A q) < 128
  split
  · exact Nat.xor_lt_two_pow (n := 7) hl (Nat.pow_lt_pow_right (by decide) hd)
  · exact hl
theorem OkN.pr {A : Nt} (h : OkN A) {a b : Nat} (ha : a < nP A) (hb : b < nP A) (hab : a ≠ b) : OkN (prN A a b) := by
  refine ⟨h.1, h.2.1, h.2.2.1, fun q hq => ⟨(h.2.2.2.1 q hq).1, (h.2.2.2.1 q hq).2.1, (h.2.2.2.1 q hq).2.2.1, (h.2.2.2.1 q hq).2.2.2.1, (h.2.2.2.1 q hq).2.2.2.2.1, fun r hr => ?_⟩, h.2.2.2.2⟩
  have e : ∀ x, nB (prN A a b) x = if x = a then some b else if x = b then some a else if nB A x = some a ∨ nB A x = some b then none else nB A x := fun _ => rfl
  rw [e] at hr ⊢
  show r < nP A ∧ _
  by_cases h1 : q = a
  · rw [if_pos h1] at hr
    cases hr
    exact ⟨hb, by omega, by rw [if_neg (by omega), if_pos rfl, h1]⟩
  · rw [if_neg h1] at hr
    by_cases h2 : q = b
    · rw [if_pos h2] at hr
      cases hr
      exact ⟨ha, by omega, by rw [if_pos rfl, h2]⟩
    · rw [if_neg h2] at hr
      by_cases h3 : nB A q = some a ∨ nB A q = some b
      · rw [if_pos h3] at hr; cases hr
      · rw [if_neg h3] at hr
        obtain ⟨q1, q2, q3⟩ := (h.2.2.2.1 q hq).2.2.2.2.2 r hr
        have n1 : r ≠ a := fun w => h3 (Or.inl (by rw [hr, w]))
        have n2 : r ≠ b := fun w => h3 (Or.inr (by rw [hr, w]))
        refine ⟨q1, q2, ?_⟩
        rw [if_neg n1, if_neg n2, if_neg, q3]
        rw [q3]
        intro w
        exact w.elim (fun w => h1 (Option.some.inj w)) (fun w => h2 (Option.some.inj w))
theorem AbsC.ch {σ σ' : St} {n : Nat} {A : Nt} (hA : AbsC σ n A) (hf : Fr [n + 8] σ σ') {a b : Nat} (h : ∀ k, k < nP A → rd σ' (n + 8) k = nI (sw (nOd A) a b k)) : AbsC σ' n (chN A a b) := by
  have e : ∀ k, k < 8 → ∀ j, rd σ' (n + k) j = rd σ (n + k) j := fun k hk j => hf.at (by simp; omega) j
  refine ⟨(e 0 (by decide) 0).trans hA.1, (e 0 (by decide) 1).trans hA.2.1, fun d hd => ⟨(e 1 (by decide) d).trans (hA.2.2.1 d hd).1, (e 2 (by decide) d).trans (hA.2.2.1 d hd).2⟩, fun p hp => ?_⟩
  obtain ⟨q3, q4, q5, q6, q7, q8⟩ := hA.2.2.2 p hp
  exact ⟨(e 3 (by decide) p).trans q3, (e 4 (by decide) p).trans q4, (e 5 (by decide) p).trans q5, (e 6 (by decide) p).trans q6, (e 7 (by decide) p).trans q7, h p hp⟩
theorem AbsC.al {σ σ' : St} {n : Nat} {A : Nt} (hA : AbsC σ n A) (hf : Fr [n + 7] σ σ') {p d : Nat} (h : ∀ k, k < nP A → rd σ' (n + 7) k = nI (nAl (alN A p d) k)) : AbsC σ' n (alN A p d) := by
  have e : ∀ k, k < 9 → k ≠ 7 → ∀ j, rd σ' (n + k) j = rd σ (n + k) j := fun k hk hk2 j => hf.at (by simp; omega) j
  refine ⟨(e 0 (by decide) (by decide) 0).trans hA.1, (e 0 (by decide) (by decide) 1).trans hA.2.1, fun d hd => ⟨(e 1 (by decide) (by decide) d).trans (hA.2.2.1 d hd).1, (e 2 (by decide) (by decide) d).trans (hA.2.2.1 d hd).2⟩, fun p hp => ?_⟩
  obtain ⟨q3, q4, q5, q6, q7, q8⟩ := hA.2.2.2 p hp
  exact ⟨(e 3 (by decide) (by decide) p).trans q3, (e 4 (by decide) (by decide) p).trans q4, (e 5 (by decide) (by decide) p).trans q5, (e 6 (by decide) (by decide) p).trans q6, h p hp, (e 8 (by decide) (by decide) p).trans q8⟩
/-- brothers otherwise -/
def brN (A : Nt) (B : Nat → Option Nat) : Nt := (A.1, nK A, nF A, nR A, nC A, nDi A, B, nAl A, nOd A)
theorem AbsC.br {σ σ' : St} {n : Nat} {A : Nt} (hA : AbsC σ n A) (hf : Fr [n + 6] σ σ') {B : Nat → Option Nat} (h : ∀ k, k < nP A → rd σ' (n + 6) k = bI (B k)) : AbsC σ' n (brN A B) := by
  have e : ∀ k, k < 9 → k ≠ 6 → ∀ j, rd σ' (n + k) j = rd σ (n + k) j := fun k hk hk2 j => hf.at (by simp; omega) j
  refine ⟨(e 0 (by decide) (by decide) 0).trans hA.1, (e 0 (by decide) (by decide) 1).trans hA.2.1, fun d hd => ⟨(e 1 (by decide) (by decide) d).trans (hA.2.2.1 d hd).1, (e 2 (by decide) (by decide) d).trans (hA.2.2.1 d hd).2⟩, fun p hp => ?_⟩
  obtain ⟨q3, q4, q5, q6, q7, q8⟩ := hA.2.2.2 p hp
  exact ⟨(e 3 (by decide) (by decide) p).trans q3, (e 4 (by decide) (by decide) p).trans q4, (e 5 (by decide) (by decide) p).trans q5, h p hp, (e 7 (by decide) (by decide) p).trans q7, (e 8 (by decide) (by decide) p).trans q8⟩
theorem AbsM.row {σ σ' : St} {A A' : Nt} {c : Nat} (hA : AbsM σ A) (hc : c = 65 ∨ c = 66 ∨ c = 67) (hf : Fr [c] σ σ') (e1 : A'.1 = A.1) (e2 : nK A' = nK A) (e3 : nF A' = nF A) (e4 : nR A' = nR A) (e5 : nC A' = nC A) (e6 : nDi A' = nDi A) (h65 : c ≠ 65 → nB A' = nB A) (h66 : c ≠ 66 → nAl A' = nAl A) (h67 : c ≠ 67 → nOd A' = nOd A)
    (h : ∀ k, k < nP A → rd σ' c k = if c = 65 then bI (nB A' k) else if c = 66 then nI (nAl A' k) else nI (nOd A' k)) : AbsM σ' A' := by
  have e : ∀ b, b ≠ c → ∀ j, rd σ' b j = rd σ b j := fun b hb j => hf.at (by simpa using hb) j
  have eD : nD A' = nD A := by unfold nD; rw [e1]
  have eP : nP A' = nP A := by unfold nP; rw [e1]
  refine ⟨?_, ?_, fun d hd => ?_, fun p hp => ?_⟩
  · rw [eD]; exact (e 58 (by omega) 9).trans hA.1
  · rw [eP]; exact (e 58 (by omega) 10).trans hA.2.1
  · rw [eD] at hd
    rw [e2, e3]
    exact ⟨(e 60 (by omega) d).trans (hA.2.2.1 d hd).1, (e 61 (by omega) d).trans (hA.2.2.1 d hd).2⟩
  · rw [eP] at hp
    obtain ⟨q3, q4, q5, q6, q7, q8⟩ := hA.2.2.2 p hp
    rw [e4, e5, e6]
    have hh := h p hp
    refine ⟨(e 62 (by omega) p).trans q3, (e 63 (by omega) p).trans q4, (e 64 (by omega) p).trans q5, ?_, ?_, ?_⟩
    · show rd σ' 65 p = _
      by_cases w : c = 65
      · subst w; exact hh
      · rw [h65 w]; exact (e 65 (by omega) p).trans q6
    · show rd σ' 66 p = _
      by_cases w : c = 66
      · subst w; exact hh
      · rw [h66 w]; exact (e 66 (by omega) p).trans q7
    · show rd σ' 67 p = _
      by_cases w : c = 67
      · subst w; exact hh
      · rw [h67 w]; exact (e 67 (by omega) p).trans q8
-- an alibi turned
theorem turnC {σ : St} {n : Nat} {A : Nt} (hn : isNI n) (hA : AbsC σ n A) (hO : OkN A) {p d : Nat} (hp : p < nP A) (hd : d < 31) : ∃ σ', F_NI_turnAlibi n (nI p) (nI d) σ = some σ' ∧ Fr [n + 7] σ σ' ∧ AbsC σ' n (alN A p d) := by
  have hP := hO.P
  have e7 : rd σ (n + 7) p = nI (nAl A p) := (hA.2.2.2 p hp).2.2.2.2.1
  have hf : Fr [n + 7] σ (wr σ (n + 7) p (nI (nAl A p ^^^ 2 ^ d))) := Fr.wr (by simp)
  refine ⟨wr σ (n + 7) p (nI (nAl A p ^^^ 2 ^ d)), ?_, hf, hA.al hf (fun k hk => ?_)⟩
  · unfold F_NI_turnAlibi
    rw [atC (al_NI7 hn) (by omega), Option.bind_some, e7]
    simp only
    rw [bitC hd, Option.bind_some]
    simp only
    rw [xor_nI, putC (al_NI7 hn) (by omega), Option.bind_some]
  · show _ = nI (if k = p then nAl A k ^^^ 2 ^ d else nAl A k)
    rw [rd_wr]
    by_cases w : k = p
    · rw [if_pos ⟨rfl, w⟩, if_pos w, w]
    · rw [if_neg (fun q => w q.2), if_neg w]
      exact (hA.2.2.2 k hk).2.2.2.2.1
theorem nB_in {A : Nt} (h : OkN A) {p q : Nat} (hp : p < nP A) (e : nB A p = some q) : q < nP A ∧ q ≠ p ∧ nB A q = some p := (h.2.2.2.1 p hp).2.2.2.2.2 q e
