-- deeds and people put in
def fput (f : Nat → Nat) (i x : Nat) : Nat → Nat := fun j => if j = i then x else f j
theorem fput_eq (f : Nat → Nat) (i x : Nat) : fput f i x i = x := if_pos rfl
theorem fput_ne (f : Nat → Nat) {i x j : Nat} (h : j ≠ i) : fput f i x j = f j := if_neg h
def adN (A : Nt) (k f : Nat) : Nt := ((nD A + 1, nP A), fput (nK A) (nD A) k, fput (nF A) (nD A) f, nR A, nC A, nDi A, nB A, nAl A, nOd A)
def adP (A : Nt) (r c d : Nat) : Nt := ((nD A, nP A + 1), nK A, nF A, fput (nR A) (nP A) r, fput (nC A) (nP A) c, fput (nDi A) (nP A) d, (fun j => if j = nP A then none else nB A j), fput (nAl A) (nP A) 0, fput (nOd A) (nP A) (nP A))
theorem OkN.adN {A : Nt} (h : OkN A) (hD : nD A < 14) {k f : Nat} (hk : k < 6) (hf : f < 10) : OkN (adN A k f) := by
  refine ⟨hD, h.2.1, fun d hd => ?_, h.2.2.2.1, h.2.2.2.2⟩
  have hd' : d < nD A + 1 := hd
  show fput (nK A) (nD A) k d < 6 ∧ fput (nF A) (nD A) f d < 10
  by_cases e : d = nD A
  · subst e; rw [fput_eq, fput_eq]; exact ⟨hk, hf⟩
  · rw [fput_ne _ e, fput_ne _ e]; exact h.2.2.1 d (by omega)
theorem OkN.adP {A : Nt} (h : OkN A) (hP : nP A < 7) {r c d : Nat} (hr : r < 10) (hc : c < 128) (hd : d < 8) : OkN (adP A r c d) := by
  refine ⟨h.1, hP, h.2.2.1, fun p hp => ?_, fun j k hj hk e => ?_⟩
  · have hp' : p < nP A + 1 := hp
    show fput (nR A) (nP A) r p < 10 ∧ fput (nC A) (nP A) c p < 128 ∧ fput (nDi A) (nP A) d p < 8 ∧ fput (nAl A) (nP A) 0 p < 128 ∧ fput (nOd A) (nP A) (nP A) p < nP A + 1 ∧ ∀ q, (if p = nP A then none else nB A p) = some q → q < nP A + 1 ∧ q ≠ p ∧ (if q = nP A then none else nB A q) = some p
    by_cases e : p = nP A
    · subst e
      rw [fput_eq, fput_eq, fput_eq, fput_eq, fput_eq]
      exact ⟨hr, hc, hd, by decide, by omega, fun q hq => by rw [if_pos rfl] at hq; cases hq⟩
    · rw [fput_ne _ e, fput_ne _ e, fput_ne _ e, fput_ne _ e, fput_ne _ e]
      obtain ⟨q1, q2, q3, q4, q5, q6⟩ := h.2.2.2.1 p (by omega)
      refine ⟨q1, q2, q3, q4, by omega, fun q hq => ?_⟩
      rw [if_neg e] at hq
      obtain ⟨w1, w2, w3⟩ := q6 q hq
      exact ⟨by omega, w2, by rw [if_neg (by omega)]; exact w3⟩
  · have hj' : j < nP A + 1 := hj
    have hk' : k < nP A + 1 := hk
    have e' : fput (nOd A) (nP A) (nP A) j = fput (nOd A) (nP A) (nP A) k := e
    by_cases w1 : j = nP A
    · by_cases w2 : k = nP A
      · omega
      · rw [w1, fput_eq, fput_ne _ w2] at e'
        have := h.od.1 k (by omega)
        omega
    · by_cases w2 : k = nP A
      · rw [w2, fput_eq, fput_ne _ w1] at e'
        have := h.od.1 j (by omega)
        omega
      · rw [fput_ne _ w1, fput_ne _ w2] at e'
        exact h.od.2 j k (by omega) (by omega) e'
theorem putDeedC {σ : St} {n : Nat} {A : Nt} (hn : isNI n) (hA : AbsC σ n A) (hD : nD A < 14) (k f : Nat) : ∃ σ', F_NI_putDeed n (nI k) (nI f) σ = some (nI (nD A), σ') ∧ Fr [n, n + 1, n + 2] σ σ' ∧ AbsC σ' n (adN A k f) := by
  have hf : Fr [n, n + 1, n + 2] σ (wr (wr (wr σ (n + 1) (nD A) (nI k)) (n + 2) (nD A) (nI f)) n 0 (nI (nD A + 1))) := ((Fr.wr (by simp)).two (Fr.wr (by simp))).two (Fr.wr (by simp))
  have e : ∀ b j, ¬ (b = n ∧ j = 0 ∨ b = n + 1 ∧ j = nD A ∨ b = n + 2 ∧ j = nD A) → rd (wr (wr (wr σ (n + 1) (nD A) (nI k)) (n + 2) (nD A) (nI f)) n 0 (nI (nD A + 1))) b j = rd σ b j := fun b j q => by
    rw [rd_wr, if_neg (by omega), rd_wr, if_neg (by omega), rd_wr, if_neg (by omega)]
  refine ⟨_, ?_, hf, rd_wr_same _ _ _ _, (e (n + 0) 1 (by omega)).trans hA.2.1, fun d hd => ⟨?_, ?_⟩, fun p hp => ?_⟩
  · unfold F_NI_putDeed
    rw [show rd σ n 0 = nI (nD A) from hA.1, Option.bind_some, putC (al_NI1 hn) hD, Option.bind_some, putC (al_NI2 hn) hD, Option.bind_some, nI_1, al_NI1 hn, minC (by omega) (by decide), Option.bind_some, Option.bind_some, show min (nD A + 1) 14 = nD A + 1 by omega]
  · show rd _ (n + 1) d = nI (fput (nK A) (nD A) k d)
    have hd' : d < nD A + 1 := hd
    by_cases w : d = nD A
    · subst w; rw [fput_eq, rd_wr_cell _ _ _ _ (by omega), rd_wr_cell _ _ _ _ (by omega), rd_wr_same]
    · rw [fput_ne _ w, e (n + 1) d (by omega)]; exact (hA.2.2.1 d (by omega)).1
  · show rd _ (n + 2) d = nI (fput (nF A) (nD A) f d)
    have hd' : d < nD A + 1 := hd
    by_cases w : d = nD A
    · subst w; rw [fput_eq, rd_wr_cell _ _ _ _ (by omega), rd_wr_same]
    · rw [fput_ne _ w, e (n + 2) d (by omega)]; exact (hA.2.2.1 d (by omega)).2
  · obtain ⟨q3, q4, q5, q6, q7, q8⟩ := hA.2.2.2 p hp
    exact ⟨(e (n + 3) p (by omega)).trans q3, (e (n + 4) p (by omega)).trans q4, (e (n + 5) p (by omega)).trans q5, (e (n + 6) p (by omega)).trans q6, (e (n + 7) p (by omega)).trans q7, (e (n + 8) p (by omega)).trans q8⟩
theorem addsDeedM {σ : St} {A : Nt} (hA : AbsM σ A) (hD : nD A < 14) (k f : Nat) : ∃ σ', F_MD_addsDeed (nI k) (nI f) σ = some σ' ∧ rd σ' 58 9 = nI (nD A + 1) ∧ AbsM σ' (adN A k f) ∧ ∀ b j, ¬ (b = 58 ∧ j = 9 ∨ 60 ≤ b ∧ b ≤ 61 ∧ j = nD A) → rd σ' b j = rd σ b j := by
  have e : ∀ b j, ¬ (b = 58 ∧ j = 9 ∨ 60 ≤ b ∧ b ≤ 61 ∧ j = nD A) → rd (wr (wr (wr σ 60 (nD A) (nI k)) 61 (nD A) (nI f)) 58 9 (nI (nD A + 1))) b j = rd σ b j := fun b j q => by
    rw [rd_wr, if_neg (by omega), rd_wr, if_neg (by omega), rd_wr, if_neg (by omega)]
  have h9 : rd σ 58 9 = nI (nD A) := hA.1
  refine ⟨wr (wr (wr σ 60 (nD A) (nI k)) 61 (nD A) (nI f)) 58 9 (nI (nD A + 1)), ?_, rd_wr_same _ _ _ _, ⟨rd_wr_same _ _ _ _, (e 58 10 (by omega)).trans hA.2.1, fun d hd => ⟨?_, ?_⟩, fun p hp => ?_⟩, e⟩
  · unfold F_MD_addsDeed
    rw [h9, stk al_60 hD, Option.bind_some, rd_wr_cell _ _ _ _ (by decide), h9, stk al_61 hD, Option.bind_some, rd_wr_cell _ _ _ _ (by decide), rd_wr_cell _ _ _ _ (by decide), h9, Option.bind_some, nI_1]
  · show rd _ 60 d = nI (fput (nK A) (nD A) k d)
    have hd' : d < nD A + 1 := hd
    by_cases w : d = nD A
    · subst w; rw [fput_eq, rd_wr_cell _ _ _ _ (by omega), rd_wr_cell _ _ _ _ (by omega), rd_wr_same]
    · rw [fput_ne _ w, e 60 d (by omega)]; exact (hA.2.2.1 d (by omega)).1
  · show rd _ 61 d = nI (fput (nF A) (nD A) f d)
    have hd' : d < nD A + 1 := hd
    by_cases w : d = nD A
    · subst w; rw [fput_eq, rd_wr_cell _ _ _ _ (by omega), rd_wr_same]
    · rw [fput_ne _ w, e 61 d (by omega)]; exact (hA.2.2.1 d (by omega)).2
  · obtain ⟨q3, q4, q5, q6, q7, q8⟩ := hA.2.2.2 p hp
    exact ⟨(e 62 p (by omega)).trans q3, (e 63 p (by omega)).trans q4, (e 64 p (by omega)).trans q5, (e 65 p (by omega)).trans q6, (e 66 p (by omega)).trans q7, (e 67 p (by omega)).trans q8⟩
theorem putPersonC {σ : St} {n : Nat} {A : Nt} (hn : isNI n) (hA : AbsC σ n A) (hP : nP A < 7) (r c d : Nat) : ∃ σ', F_NI_putPerson n (nI r) (nI c) (nI d) σ = some (nI (nP A), σ') ∧ Fr [n, n + 3, n + 4, n + 5, n + 6, n + 7, n + 8] σ σ' ∧ AbsC σ' n (adP A r c d) := by
  let p0 := nP A
  let s := wr (wr (wr (wr (wr (wr (wr σ (n + 3) p0 (nI r)) (n + 4) p0 (nI c)) (n + 5) p0 (nI d)) (n + 6) p0 (-9)) (n + 7) p0 (nI 0)) (n + 8) p0 (nI p0)) n 1 (nI (p0 + 1))
  have hf : Fr [n, n + 3, n + 4, n + 5, n + 6, n + 7, n + 8] σ s := ((((((Fr.wr (by simp)).two (Fr.wr (by simp))).two (Fr.wr (by simp))).two (Fr.wr (by simp))).two (Fr.wr (by simp))).two (Fr.wr (by simp))).two (Fr.wr (by simp))
  have e : ∀ b j, ¬ (b = n ∧ j = 1 ∨ n + 3 ≤ b ∧ b ≤ n + 8 ∧ j = nP A) → rd s b j = rd σ b j := fun b j q => by
    have q' : ¬ (b = n ∧ j = 1 ∨ n + 3 ≤ b ∧ b ≤ n + 8 ∧ j = p0) := q
    show rd (wr (wr (wr (wr (wr (wr (wr σ (n + 3) p0 (nI r)) (n + 4) p0 (nI c)) (n + 5) p0 (nI d)) (n + 6) p0 (-9)) (n + 7) p0 (nI 0)) (n + 8) p0 (nI p0)) n 1 (nI (p0 + 1))) b j = _
    rw [rd_wr, if_neg (by omega), rd_wr, if_neg (by omega), rd_wr, if_neg (by omega), rd_wr, if_neg (by omega), rd_wr, if_neg (by omega), rd_wr, if_neg (by omega), rd_wr, if_neg (by omega)]
  refine ⟨s, ?_, hf, (e (n + 0) 0 (by omega)).trans hA.1, rd_wr_same _ _ _ _, fun x hx => ⟨(e (n + 1) x (by omega)).trans (hA.2.2.1 x hx).1, (e (n + 2) x (by omega)).trans (hA.2.2.1 x hx).2⟩, fun p hp => ?_⟩
  · unfold F_NI_putPerson
    rw [show rd σ n 1 = nI (nP A) from hA.2.1, Option.bind_some, putC (al_NI3 hn) hP, Option.bind_some, putC (al_NI4 hn) hP, Option.bind_some, putC (al_NI5 hn) hP, Option.bind_some, putC (al_NI6 hn) hP, Option.bind_some, putC (al_NI7 hn) hP, Option.bind_some, putC (al_NI8 hn) hP, Option.bind_some, nI_1, show (7 : Int32) = nI 7 from rfl, minC (by omega) (by decide), Option.bind_some, Option.bind_some, show min (nP A + 1) 7 = nP A + 1 by omega]
    rfl
  · have hp' : p < nP A + 1 := hp
    by_cases w : p = nP A
    · show rd s (n + 3) p = nI (fput (nR A) (nP A) r p) ∧ rd s (n + 4) p = nI (fput (nC A) (nP A) c p) ∧ rd s (n + 5) p = nI (fput (nDi A) (nP A) d p) ∧ rd s (n + 6) p = bI (if p = nP A then none else nB A p) ∧ rd s (n + 7) p = nI (fput (nAl A) (nP A) 0 p) ∧ rd s (n + 8) p = nI (fput (nOd A) (nP A) (nP A) p)
      rw [if_pos w]
      subst w
      rw [fput_eq, fput_eq, fput_eq, fput_eq, fput_eq]
      refine ⟨?_, ?_, ?_, ?_, ?_, ?_⟩
      · show rd (wr (wr (wr (wr (wr (wr (wr σ (n + 3) p0 (nI r)) (n + 4) p0 (nI c)) (n + 5) p0 (nI d)) (n + 6) p0 (-9)) (n + 7) p0 (nI 0)) (n + 8) p0 (nI p0)) n 1 (nI (p0 + 1))) (n + 3) p0 = _
        rw [rd_wr_cell _ _ _ _ (by omega), rd_wr_cell _ _ _ _ (by omega), rd_wr_cell _ _ _ _ (by omega), rd_wr_cell _ _ _ _ (by omega), rd_wr_cell _ _ _ _ (by omega), rd_wr_cell _ _ _ _ (by omega), rd_wr_same]
      · show rd (wr (wr (wr (wr (wr (wr (wr σ (n + 3) p0 (nI r)) (n + 4) p0 (nI c)) (n + 5) p0 (nI d)) (n + 6) p0 (-9)) (n + 7) p0 (nI 0)) (n + 8) p0 (nI p0)) n 1 (nI (p0 + 1))) (n + 4) p0 = _
        rw [rd_wr_cell _ _ _ _ (by omega), rd_wr_cell _ _ _ _ (by omega), rd_wr_cell _ _ _ _ (by omega), rd_wr_cell _ _ _ _ (by omega), rd_wr_cell _ _ _ _ (by omega), rd_wr_same]
      · show rd (wr (wr (wr (wr (wr (wr (wr σ (n + 3) p0 (nI r)) (n + 4) p0 (nI c)) (n + 5) p0 (nI d)) (n + 6) p0 (-9)) (n + 7) p0 (nI 0)) (n + 8) p0 (nI p0)) n 1 (nI (p0 + 1))) (n + 5) p0 = _
        rw [rd_wr_cell _ _ _ _ (by omega), rd_wr_cell _ _ _ _ (by omega), rd_wr_cell _ _ _ _ (by omega), rd_wr_cell _ _ _ _ (by omega), rd_wr_same]
      · show rd (wr (wr (wr (wr (wr (wr (wr σ (n + 3) p0 (nI r)) (n + 4) p0 (nI c)) (n + 5) p0 (nI d)) (n + 6) p0 (-9)) (n + 7) p0 (nI 0)) (n + 8) p0 (nI p0)) n 1 (nI (p0 + 1))) (n + 6) p0 = _
        rw [rd_wr_cell _ _ _ _ (by omega), rd_wr_cell _ _ _ _ (by omega), rd_wr_cell _ _ _ _ (by omega), rd_wr_same]; rfl
      · show rd (wr (wr (wr (wr (wr (wr (wr σ (n + 3) p0 (nI r)) (n + 4) p0 (nI c)) (n + 5) p0 (nI d)) (n + 6) p0 (-9)) (n + 7) p0 (nI 0)) (n + 8) p0 (nI p0)) n 1 (nI (p0 + 1))) (n + 7) p0 = _
        rw [rd_wr_cell _ _ _ _ (by omega), rd_wr_cell _ _ _ _ (by omega), rd_wr_same]
      · show rd (wr (wr (wr (wr (wr (wr (wr σ (n + 3) p0 (nI r)) (n + 4) p0 (nI c)) (n + 5) p0 (nI d)) (n + 6) p0 (-9)) (n + 7) p0 (nI 0)) (n + 8) p0 (nI p0)) n 1 (nI (p0 + 1))) (n + 8) p0 = _
        rw [rd_wr_cell _ _ _ _ (by omega), rd_wr_same]
    · show rd s (n + 3) p = nI (fput (nR A) (nP A) r p) ∧ rd s (n + 4) p = nI (fput (nC A) (nP A) c p) ∧ rd s (n + 5) p = nI (fput (nDi A) (nP A) d p) ∧ rd s (n + 6) p = bI (if p = nP A then none else nB A p) ∧ rd s (n + 7) p = nI (fput (nAl A) (nP A) 0 p) ∧ rd s (n + 8) p = nI (fput (nOd A) (nP A) (nP A) p)
      rw [fput_ne _ w, fput_ne _ w, fput_ne _ w, fput_ne _ w, fput_ne _ w, if_neg w]
      obtain ⟨q3, q4, q5, q6, q7, q8⟩ := hA.2.2.2 p (by omega)
      exact ⟨(e (n + 3) p (by omega)).trans q3, (e (n + 4) p (by omega)).trans q4, (e (n + 5) p (by omega)).trans q5, (e (n + 6) p (by omega)).trans q6, (e (n + 7) p (by omega)).trans q7, (e (n + 8) p (by omega)).trans q8⟩
theorem addsPersonM {σ : St} {A : Nt} (hA : AbsM σ A) (hP : nP A < 7) (r c d : Nat) : ∃ σ', F_MD_addsPerson (nI r) (nI c) (nI d) σ = some σ' ∧ rd σ' 58 10 = nI (nP A + 1) ∧ AbsM σ' (adP A r c d) ∧ ∀ b j, ¬ (b = 58 ∧ j = 10 ∨ 62 ≤ b ∧ b ≤ 67 ∧ j = nP A) → rd σ' b j = rd σ b j := by
  let p0 := nP A
  let s := wr (wr (wr (wr (wr (wr (wr σ 62 p0 (nI r)) 63 p0 (nI c)) 64 p0 (nI d)) 65 p0 (-9)) 66 p0 (nI 0)) 67 p0 (nI p0)) 58 10 (nI (p0 + 1))
  have e : ∀ b j, ¬ (b = 58 ∧ j = 10 ∨ 62 ≤ b ∧ b ≤ 67 ∧ j = nP A) → rd s b j = rd σ b j := fun b j q => by
    have q' : ¬ (b = 58 ∧ j = 10 ∨ 62 ≤ b ∧ b ≤ 67 ∧ j = p0) := q
    show rd (wr (wr (wr (wr (wr (wr (wr σ 62 p0 (nI r)) 63 p0 (nI c)) 64 p0 (nI d)) 65 p0 (-9)) 66 p0 (nI 0)) 67 p0 (nI p0)) 58 10 (nI (p0 + 1))) b j = _
    rw [rd_wr, if_neg (by omega), rd_wr, if_neg (by omega), rd_wr, if_neg (by omega), rd_wr, if_neg (by omega), rd_wr, if_neg (by omega), rd_wr, if_neg (by omega), rd_wr, if_neg (by omega)]
  have h10 : rd σ 58 10 = nI (nP A) := hA.2.1
  refine ⟨s, ?_, rd_wr_same _ _ _ _, ⟨(e 58 9 (by omega)).trans hA.1, rd_wr_same _ _ _ _, fun x hx => ⟨(e 60 x (by omega)).trans (hA.2.2.1 x hx).1, (e 61 x (by omega)).trans (hA.2.2.1 x hx).2⟩, fun p hp => ?_⟩, e⟩
  · unfold F_MD_addsPerson
    rw [h10, stk al_62 hP, Option.bind_some, rd_wr_cell _ 62 _ _ (show 58 ≠ 62 by decide), h10, stk al_63 hP, Option.bind_some]
    rw [rd_wr_cell _ 63 _ _ (show 58 ≠ 63 by decide), rd_wr_cell _ 62 _ _ (show 58 ≠ 62 by decide), h10, stk al_64 hP, Option.bind_some]
    rw [rd_wr_cell _ 64 _ _ (show 58 ≠ 64 by decide), rd_wr_cell _ 63 _ _ (show 58 ≠ 63 by decide), rd_wr_cell _ 62 _ _ (show 58 ≠ 62 by decide), h10, stk al_65 hP, Option.bind_some]
    rw [rd_wr_cell _ 65 _ _ (show 58 ≠ 65 by decide), rd_wr_cell _ 64 _ _ (show 58 ≠ 64 by decide), rd_wr_cell _ 63 _ _ (show 58 ≠ 63 by decide), rd_wr_cell _ 62 _ _ (show 58 ≠ 62 by decide), h10, stk al_66 hP, Option.bind_some]
    rw [rd_wr_cell _ 66 _ _ (show 58 ≠ 66 by decide), rd_wr_cell _ 65 _ _ (show 58 ≠ 65 by decide), rd_wr_cell _ 64 _ _ (show 58 ≠ 64 by decide), rd_wr_cell _ 63 _ _ (show 58 ≠ 63 by decide), rd_wr_cell _ 62 _ _ (show 58 ≠ 62 by decide), h10, stk al_67 hP, Option.bind_some]
    rw [rd_wr_cell _ 67 _ _ (show 58 ≠ 67 by decide), rd_wr_cell _ 66 _ _ (show 58 ≠ 66 by decide), rd_wr_cell _ 65 _ _ (show 58 ≠ 65 by decide), rd_wr_cell _ 64 _ _ (show 58 ≠ 64 by decide), rd_wr_cell _ 63 _ _ (show 58 ≠ 63 by decide), rd_wr_cell _ 62 _ _ (show 58 ≠ 62 by decide), h10, Option.bind_some, nI_1]
    rfl
  · have hp' : p < nP A + 1 := hp
    show rd s 62 p = nI (fput (nR A) (nP A) r p) ∧ rd s 63 p = nI (fput (nC A) (nP A) c p) ∧ rd s 64 p = nI (fput (nDi A) (nP A) d p) ∧ rd s 65 p = bI (if p = nP A then none else nB A p) ∧ rd s 66 p = nI (fput (nAl A) (nP A) 0 p) ∧ rd s 67 p = nI (fput (nOd A) (nP A) (nP A) p)
    by_cases w : p = nP A
    · rw [if_pos w]
      subst w
      rw [fput_eq, fput_eq, fput_eq, fput_eq, fput_eq]
      have hs : ∀ b, rd s b p0 = rd (wr (wr (wr (wr (wr (wr (wr σ 62 p0 (nI r)) 63 p0 (nI c)) 64 p0 (nI d)) 65 p0 (-9)) 66 p0 (nI 0)) 67 p0 (nI p0)) 58 10 (nI (p0 + 1))) b p0 := fun _ => rfl
      refine ⟨(hs 62).trans ?_, (hs 63).trans ?_, (hs 64).trans ?_, (hs 65).trans ?_, (hs 66).trans ?_, (hs 67).trans ?_⟩ <;> simp [rd_wr] <;> rfl
    · rw [fput_ne _ w, fput_ne _ w, fput_ne _ w, fput_ne _ w, fput_ne _ w, if_neg w]
      obtain ⟨q3, q4, q5, q6, q7, q8⟩ := hA.2.2.2 p (by omega)
      exact ⟨(e 62 p (by omega)).trans q3, (e 63 p (by omega)).trans q4, (e 64 p (by omega)).trans q5, (e 65 p (by omega)).trans q6, (e 66 p (by omega)).trans q7, (e 67 p (by omega)).trans q8⟩
