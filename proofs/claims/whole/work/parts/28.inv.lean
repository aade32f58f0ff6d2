-- what holds between two calls
theorem ldk {σ : St} {a len k : Nat} (hal : alen a = len) (hk : k < len) (hlen : len < 2 ^ 31 := by decide) : ldA σ a (nI k) = some (rd σ a k) := by
  subst hal; exact ldA_in hk hlen
theorem stk {σ : St} {a len k : Nat} {x : Int32} (hal : alen a = len) (hk : k < len) (hlen : len < 2 ^ 31 := by decide) : stA σ a (nI k) x = some (wr σ a k x) := by
  subst hal; exact stA_in hk hlen
def offN : Nat → Nat → Nat
  | 0, j => 70 + j
  | 1, j => j
  | 2, j => 14 + j
  | 3, j => 28 + j
  | 4, j => 35 + j
  | 5, j => 42 + j
  | 6, j => 49 + j
  | 7, j => 56 + j
  | _, j => 63 + j
/-- a night kept in a slice of the model's store -/
def Sl (σ : St) (w : Nat) (A : Nt) : Prop := AbsR (fun k j => rd σ 72 (80 * w + offN k j)) A
def chN (A : Nt) (a b : Nat) : Nt := (A.1, nK A, nF A, nR A, nC A, nDi A, nB A, nAl A, fun k => if nOd A k = a then b else if nOd A k = b then a else nOd A k)
def alN (A : Nt) (p d : Nat) : Nt := (A.1, nK A, nF A, nR A, nC A, nDi A, nB A, (fun q => if q = p then nAl A q ^^^ 2 ^ d else nAl A q), nOd A)
def prN (A : Nt) (a b : Nat) : Nt := (A.1, nK A, nF A, nR A, nC A, nDi A, (fun q => if q = a then some b else if q = b then some a else if nB A q = some a ∨ nB A q = some b then none else nB A q), nAl A, nOd A)
/-- an entry of the past: from the second night to the first -/
def En (σ : St) (i : Nat) (A A' : Nt) : Prop :=
  (∃ a b, a < nP A' ∧ b < nP A' ∧ a ≠ b ∧ rd σ 29 i = 0 ∧ rd σ 30 i = nI a ∧ rd σ 31 i = nI b ∧ A = chN A' a b) ∨
  (∃ p d, p < nP A' ∧ d < nD A' ∧ rd σ 29 i = 1 ∧ rd σ 30 i = nI p ∧ rd σ 31 i = nI d ∧ A = alN A' p d) ∨
  (∃ a b, a < nP A' ∧ b < nP A' ∧ a ≠ b ∧ rd σ 29 i = 2 ∧ rd σ 30 i = nI a ∧ rd σ 31 i = nI b ∧ rd σ 32 i = bI (nB A' a) ∧ rd σ 33 i = bI (nB A' b) ∧ A = prN A' a b)
def LetI (σ : St) : Prop := ∃ c, c ≤ 96 ∧ rd σ 34 0 = nI c ∧ rd σ 58 15 = nI c ∧ ∀ j, j < c → ∃ v, v < 256 ∧ rd σ 35 j = nI v ∧ rd σ 68 j = nI v
def RowI (σ : St) : Prop := ∃ c, c ≤ 12 ∧ rd σ 0 16 = nI c ∧ rd σ 58 35 = nI c ∧ ∀ j, j < c → ∃ v, v < 10 ∧ rd σ 56 j = nI v ∧ rd σ 81 j = nI v
def RefI (σ : St) : Prop := ∀ j, j < 7 → rd σ 57 j = rd σ 59 j
/-- no alibi but for a deed that there is -/
def AlK (A : Nt) : Prop := ∀ p, p < nP A → nAl A p < 2 ^ nD A
def ImgI (σ : St) : Prop := (rd σ 0 17 = 0 ∧ rd σ 58 19 = 0) ∨ (rd σ 0 17 = 1 ∧ rd σ 58 19 = 1 ∧ ∃ B, OkN B ∧ (nD B ≤ 7 ∧ AlK B) ∧ AbsC σ 10 B ∧ Sl σ 0 B)
def ChI (σ : St) (A : Nt) : Prop := ∃ (c : Nat) (N : Nat → Nt), c ≤ 8 ∧ rd σ 28 0 = nI c ∧ rd σ 58 22 = nI c ∧ N c = A ∧ ∀ i, i < c → OkN (N i) ∧ (nD (N i) ≤ 7 ∧ AlK (N i)) ∧ Sl σ (2 + i) (N i) ∧ En σ i (N (i + 1)) (N i)
def NowI (σ : St) (A : Nt) : Prop := OkN A ∧ (nD A ≤ 7 ∧ AlK A) ∧ AbsC σ 1 A ∧ MdN σ A 7 ∧ rd σ 58 26 = nI 0
def INV (σ : St) : Prop := ∃ A, NowI σ A ∧ ChI σ A ∧ LetI σ ∧ RowI σ ∧ RefI σ ∧ ImgI σ
-- each part sees certain cells only
theorem AbsR_cong {r r' : Nat → Nat → Int32} {A : Nt} (h : AbsR r A) (e0 : ∀ j, j < 2 → r' 0 j = r 0 j) (e1 : ∀ k j, 1 ≤ k → k ≤ 2 → j < nD A → r' k j = r k j) (e3 : ∀ k j, 3 ≤ k → k ≤ 8 → j < nP A → r' k j = r k j) : AbsR r' A := by
  refine ⟨(e0 0 (by decide)).trans h.1, (e0 1 (by decide)).trans h.2.1, fun d hd => ⟨(e1 1 d (by decide) (by decide) hd).trans (h.2.2.1 d hd).1, (e1 2 d (by decide) (by decide) hd).trans (h.2.2.1 d hd).2⟩, fun p hp => ?_⟩
  obtain ⟨q3, q4, q5, q6, q7, q8⟩ := h.2.2.2 p hp
  exact ⟨(e3 3 p (by decide) (by decide) hp).trans q3, (e3 4 p (by decide) (by decide) hp).trans q4, (e3 5 p (by decide) (by decide) hp).trans q5, (e3 6 p (by decide) (by decide) hp).trans q6, (e3 7 p (by decide) (by decide) hp).trans q7, (e3 8 p (by decide) (by decide) hp).trans q8⟩
theorem offN_lt {A : Nt} (hO : OkN A) : (∀ j, j < 2 → offN 0 j < 80) ∧ (∀ k j, 1 ≤ k → k ≤ 2 → j < nD A → offN k j < 80) ∧ ∀ k j, 3 ≤ k → k ≤ 8 → j < nP A → offN k j < 80 := by
  have hD := hO.D
  have hP := hO.P
  refine ⟨fun j hj => ?_, fun k j h1 h2 hj => ?_, fun k j h1 h2 hj => ?_⟩
  · show 70 + j < 80; omega
  · rcases (show k = 1 ∨ k = 2 by omega) with rfl | rfl
    · show j < 80; omega
    · show 14 + j < 80; omega
  · rcases (show k = 3 ∨ k = 4 ∨ k = 5 ∨ k = 6 ∨ k = 7 ∨ k = 8 by omega) with rfl | rfl | rfl | rfl | rfl | rfl
    · show 28 + j < 80; omega
    · show 35 + j < 80; omega
    · show 42 + j < 80; omega
    · show 49 + j < 80; omega
    · show 56 + j < 80; omega
    · show 63 + j < 80; omega
theorem Sl.un {σ τ : St} {w : Nat} {A : Nt} (h : Sl σ w A) (hO : OkN A) (he : ∀ j, 80 * w ≤ j → j < 80 * w + 80 → rd τ 72 j = rd σ 72 j) : Sl τ w A := by
  obtain ⟨a, b, c⟩ := offN_lt hO
  exact AbsR_cong h (fun j hj => he _ (by omega) (by have := a j hj; omega)) (fun k j h1 h2 hj => he _ (by omega) (by have := b k j h1 h2 hj; omega)) (fun k j h1 h2 hj => he _ (by omega) (by have := c k j h1 h2 hj; omega))
theorem AbsC.un {σ τ : St} {n : Nat} {A : Nt} (h : AbsC σ n A) (he : ∀ b j, n ≤ b → b ≤ n + 8 → rd τ b j = rd σ b j) : AbsC τ n A :=
  AbsR_cong h (fun j _ => he _ j (by omega) (by omega)) (fun k j h1 h2 _ => he _ j (by omega) (by omega)) (fun k j h1 h2 _ => he _ j (by omega) (by omega))
theorem LetI.un {σ τ : St} (h : LetI σ) (he : ∀ b j, (b = 34 ∨ b = 35 ∨ b = 68 ∨ b = 58 ∧ j = 15) → rd τ b j = rd σ b j) : LetI τ := by
  obtain ⟨c, h1, h2, h3, h4⟩ := h
  refine ⟨c, h1, (he 34 0 (by simp)).trans h2, (he 58 15 (by simp)).trans h3, fun j hj => ?_⟩
  obtain ⟨v, q1, q2, q3⟩ := h4 j hj
  exact ⟨v, q1, (he 35 j (by simp)).trans q2, (he 68 j (by simp)).trans q3⟩
theorem RowI.un {σ τ : St} (h : RowI σ) (he : ∀ b j, (b = 56 ∨ b = 81 ∨ b = 0 ∧ j = 16 ∨ b = 58 ∧ j = 35) → rd τ b j = rd σ b j) : RowI τ := by
  obtain ⟨c, h1, h2, h3, h4⟩ := h
  refine ⟨c, h1, (he 0 16 (by simp)).trans h2, (he 58 35 (by simp)).trans h3, fun j hj => ?_⟩
  obtain ⟨v, q1, q2, q3⟩ := h4 j hj
  exact ⟨v, q1, (he 56 j (by simp)).trans q2, (he 81 j (by simp)).trans q3⟩
theorem RefI.un {σ τ : St} (h : RefI σ) (he : ∀ b j, (b = 57 ∨ b = 59) → rd τ b j = rd σ b j) : RefI τ := fun j hj => by
  rw [he 57 j (by simp), he 59 j (by simp)]; exact h j hj
theorem ImgI.un {σ τ : St} (h : ImgI σ) (he : ∀ b j, (10 ≤ b ∧ b ≤ 18 ∨ b = 72 ∧ j < 80 ∨ b = 0 ∧ j = 17 ∨ b = 58 ∧ j = 19) → rd τ b j = rd σ b j) : ImgI τ := by
  rcases h with ⟨h1, h2⟩ | ⟨h1, h2, B, h3, h4, h5, h6⟩
  · exact Or.inl ⟨(he 0 17 (by simp)).trans h1, (he 58 19 (by simp)).trans h2⟩
  · exact Or.inr ⟨(he 0 17 (by simp)).trans h1, (he 58 19 (by simp)).trans h2, B, h3, h4, h5.un (fun b j q1 q2 => he b j (by omega)), h6.un h3 (fun j q1 q2 => he 72 j (by omega))⟩
theorem En.un {σ τ : St} {i : Nat} {A A' : Nt} (h : En σ i A A') (he : ∀ b, 29 ≤ b → b ≤ 33 → rd τ b i = rd σ b i) : En τ i A A' := by
  unfold En
  rw [he 29 (by decide) (by decide), he 30 (by decide) (by decide), he 31 (by decide) (by decide), he 32 (by decide) (by decide), he 33 (by decide) (by decide)]
  exact h
theorem ChI.un {σ τ : St} {A : Nt} (h : ChI σ A) (he : ∀ b j, (28 ≤ b ∧ b ≤ 33 ∨ b = 72 ∧ 160 ≤ j ∨ b = 58 ∧ j = 22) → rd τ b j = rd σ b j) : ChI τ A := by
  obtain ⟨c, N, h1, h2, h3, h4, h5⟩ := h
  refine ⟨c, N, h1, (he 28 0 (by simp)).trans h2, (he 58 22 (by simp)).trans h3, h4, fun i hi => ?_⟩
  obtain ⟨q1, q2, q3, q4⟩ := h5 i hi
  exact ⟨q1, q2, q3.un q1 (fun j w1 w2 => he 72 j (by omega)), q4.un (fun b w1 w2 => he b i (by omega))⟩
theorem AbsM.un {σ τ : St} {A : Nt} (h : AbsM σ A) (he : ∀ b j, (b = 58 ∧ (j = 9 ∨ j = 10) ∨ 62 ≤ b ∧ b ≤ 67 ∨ 60 ≤ b ∧ b ≤ 61 ∧ j < nD A) → rd τ b j = rd σ b j) : AbsM τ A := by
  refine AbsR_cong h (fun j hj => ?_) (fun k j h1 h2 hj => ?_) (fun k j h1 h2 hj => ?_)
  · show rd τ 58 (9 + j) = rd σ 58 (9 + j)
    exact he 58 (9 + j) (by omega)
  · simp only [show ¬ k = 0 by omega, if_false]
    exact he (59 + k) j (by omega)
  · simp only [show ¬ k = 0 by omega, if_false]
    exact he (59 + k) j (by omega)
theorem MdN.un {σ τ : St} {A : Nt} {t : Nat} (h : MdN σ A t) (he : ∀ b j, (b = 58 ∧ (j = 9 ∨ j = 10 ∨ j = 23) ∨ 62 ≤ b ∧ b ≤ 67 ∨ 60 ≤ b ∧ b ≤ 61 ∧ j < nD A) → rd τ b j = rd σ b j) : MdN τ A t :=
  ⟨h.1.un (fun b j q => he b j (by omega)), (he 58 23 (by simp)).trans h.2.1, h.2.2⟩
theorem NowI.un {σ τ : St} {A : Nt} (h : NowI σ A) (he : ∀ b j, (1 ≤ b ∧ b ≤ 9 ∨ b = 58 ∧ (j = 9 ∨ j = 10 ∨ j = 23 ∨ j = 26) ∨ 62 ≤ b ∧ b ≤ 67 ∨ 60 ≤ b ∧ b ≤ 61 ∧ j < nD A) → rd τ b j = rd σ b j) : NowI τ A :=
  ⟨h.1, h.2.1, h.2.2.1.un (fun b j q1 q2 => he b j (by omega)), h.2.2.2.1.un (fun b j q => he b j (by omega)), (he 58 26 (by simp)).trans h.2.2.2.2⟩
/-- what a question may touch -/
def Qd (D b j : Nat) : Prop := 19 ≤ b ∧ b ≤ 27 ∨ 36 ≤ b ∧ b ≤ 55 ∨ b = 58 ∧ (j = 16 ∨ j = 17 ∨ j = 20 ∨ j = 21 ∨ j = 33) ∨ b = 72 ∧ 80 ≤ j ∧ j < 160 ∨ 69 ≤ b ∧ b ≤ 71 ∨ 73 ≤ b ∧ b ≤ 80 ∨ 60 ≤ b ∧ b ≤ 61 ∧ D ≤ j
def Qf (D : Nat) (σ τ : St) : Prop := ∀ b j, ¬ Qd D b j → rd τ b j = rd σ b j
theorem Qf.tr {D : Nat} {σ τ ρ : St} (h : Qf D σ τ) (k : Qf D τ ρ) : Qf D σ ρ := fun b j q => (k b j q).trans (h b j q)
theorem Qf.of {D : Nat} {l : List Nat} {σ τ : St} (h : Fr l σ τ) (hl : ∀ b ∈ l, 19 ≤ b ∧ b ≤ 27 ∨ 36 ≤ b ∧ b ≤ 55 ∨ 69 ≤ b ∧ b ≤ 71 ∨ 73 ≤ b ∧ b ≤ 80) : Qf D σ τ := fun b j q => h.at (fun hb => q (by have := hl b hb; unfold Qd; omega)) j
theorem INV.q {σ τ : St} {A : Nt} (h : NowI σ A ∧ ChI σ A ∧ LetI σ ∧ RowI σ ∧ RefI σ ∧ ImgI σ) (hq : Qf (nD A) σ τ) : INV τ :=
  ⟨A, h.1.un (fun b j q => hq b j (by unfold Qd; omega)), h.2.1.un (fun b j q => hq b j (by unfold Qd; omega)), h.2.2.1.un (fun b j q => hq b j (by unfold Qd; omega)), h.2.2.2.1.un (fun b j q => hq b j (by unfold Qd; omega)), h.2.2.2.2.1.un (fun b j q => hq b j (by unfold Qd; omega)), h.2.2.2.2.2.un (fun b j q => hq b j (by unfold Qd; omega))⟩
/-- two of one answer -/
def Ask (f g : St → Option (Int32 × St)) : Prop := ∀ σ, INV σ → ∃ r σ1 σ2, f σ = some (r, σ1) ∧ g σ1 = some (r, σ2) ∧ INV σ2
def AskL (f g : St → Option (Int64 × St)) : Prop := ∀ σ, INV σ → ∃ r σ1 σ2, f σ = some (r, σ1) ∧ g σ1 = some (r, σ2) ∧ INV σ2
/-- a question, by its two halves -/
theorem Ask.q {f g : St → Option (Int32 × St)} {σ : St} (h : INV σ) (hq : ∀ A, NowI σ A → RowI σ → ∃ r σ1 σ2, f σ = some (r, σ1) ∧ g σ1 = some (r, σ2) ∧ Qf (nD A) σ σ2) : ∃ r σ1 σ2, f σ = some (r, σ1) ∧ g σ1 = some (r, σ2) ∧ INV σ2 := by
  obtain ⟨A, hA⟩ := h
  obtain ⟨r, σ1, σ2, h1, h2, h3⟩ := hq A hA.1 hA.2.2.2.1
  exact ⟨r, σ1, σ2, h1, h2, INV.q hA h3⟩
-- refusals
theorem refC {σ : St} {k : Nat} {x : Int32} (hk : k < 7) (hx : -x = nI k) : F_AC_refuse x σ = some (x, wr σ 57 k (rd σ 57 k + 1)) := by
  unfold F_AC_refuse
  rw [hx, atC al_57 hk, Option.bind_some, putC al_57 hk, Option.bind_some]
theorem noM {σ : St} {k : Nat} {x : Int32} (hk : k < 7) (hx : -x = nI k) : F_MD_no x σ = some (x, wr σ 59 k (rd σ 59 k + 1)) := by
  unfold F_MD_no
  rw [Option.bind_some, hx, ldk al_59 hk, Option.bind_some, stk al_59 hk, Option.bind_some]
theorem INV.ref {σ : St} (h : INV σ) {k : Nat} (hk : k < 7) : INV (wr (wr σ 57 k (rd σ 57 k + 1)) 59 k (rd (wr σ 57 k (rd σ 57 k + 1)) 59 k + 1)) := by
  obtain ⟨A, h1, h2, h3, h4, h5, h6⟩ := h
  have he : ∀ b j, b ≠ 57 → b ≠ 59 → rd (wr (wr σ 57 k (rd σ 57 k + 1)) 59 k (rd (wr σ 57 k (rd σ 57 k + 1)) 59 k + 1)) b j = rd σ b j := fun b j q1 q2 => by
    rw [rd_wr_cell _ _ _ _ q2, rd_wr_cell _ _ _ _ q1]
  refine ⟨A, h1.un (fun b j q => he b j (by omega) (by omega)), h2.un (fun b j q => he b j (by omega) (by omega)), h3.un (fun b j q => he b j (by omega) (by omega)), h4.un (fun b j q => he b j (by omega) (by omega)), fun j hj => ?_, h6.un (fun b j q => he b j (by omega) (by omega))⟩
  rw [rd_wr_cell _ _ _ _ (show 57 ≠ 59 by decide), rd_wr, rd_wr, rd_wr_cell _ _ _ _ (show 59 ≠ 57 by decide)]
  by_cases e : j = k
  · subst e
    rw [if_pos ⟨rfl, rfl⟩, if_pos ⟨rfl, rfl⟩, h5 j hj]
  · rw [if_neg (fun q => e q.2), if_neg (fun q => e q.2), rd_wr_cell _ _ _ _ (show 59 ≠ 57 by decide)]
    exact h5 j hj
/-- both refuse -/
theorem Ask.no {f g : St → Option (Int32 × St)} {σ : St} (h : INV σ) {k : Nat} {x : Int32} (hk : k < 7) (hx : -x = nI k) (hf : f σ = F_AC_refuse x σ) (hg : ∀ τ, (∀ b j, b ≠ 57 → rd τ b j = rd σ b j) → g τ = F_MD_no x τ) : ∃ r σ1 σ2, f σ = some (r, σ1) ∧ g σ1 = some (r, σ2) ∧ INV σ2 :=
  ⟨x, _, _, hf.trans (refC hk hx), (hg _ (fun b j hb => rd_wr_cell _ _ _ _ hb)).trans (noM hk hx), h.ref hk⟩
theorem AskL.no {f g : St → Option (Int64 × St)} {σ : St} (h : INV σ) {k : Nat} {x : Int32} (hk : k < 7) (hx : -x = nI k) (hf : f σ = F_AC_refuseLong x σ) (hg : ∀ τ, (∀ b j, b ≠ 57 → rd τ b j = rd σ b j) → g τ = F_MD_lowest x τ) : ∃ r σ1 σ2, f σ = some (r, σ1) ∧ g σ1 = some (r, σ2) ∧ INV σ2 := by
  refine ⟨4000000000000000000 - x.toInt64, wr σ 57 k (rd σ 57 k + 1), wr (wr σ 57 k (rd σ 57 k + 1)) 59 k (rd (wr σ 57 k (rd σ 57 k + 1)) 59 k + 1), hf.trans ?_, (hg _ (fun b j hb => rd_wr_cell _ _ _ _ hb)).trans ?_, h.ref hk⟩
  · unfold F_AC_refuseLong
    rw [refC hk hx]; rfl
  · unfold F_MD_lowest
    rw [Option.bind_some, hx, ldk al_59 hk, Option.bind_some, stk al_59 hk, Option.bind_some]
theorem Ask.noBig {f g : St → Option (Int32 × St)} {σ : St} (h : INV σ) {k : Nat} {x : Int32} (hk : k < 7) (hx : -x = nI k) (hf : f σ = F_AC_refuseBig x σ) (hg : ∀ τ, (∀ b j, b ≠ 57 → rd τ b j = rd σ b j) → g τ = F_MD_lower x τ) : ∃ r σ1 σ2, f σ = some (r, σ1) ∧ g σ1 = some (r, σ2) ∧ INV σ2 := by
  refine ⟨1000000000 - x, wr σ 57 k (rd σ 57 k + 1), wr (wr σ 57 k (rd σ 57 k + 1)) 59 k (rd (wr σ 57 k (rd σ 57 k + 1)) 59 k + 1), hf.trans ?_, (hg _ (fun b j hb => rd_wr_cell _ _ _ _ hb)).trans ?_, h.ref hk⟩
  · unfold F_AC_refuseBig
    rw [refC hk hx]; rfl
  · unfold F_MD_lower
    rw [Option.bind_some, hx, ldk al_59 hk, Option.bind_some, stk al_59 hk, Option.bind_some]
