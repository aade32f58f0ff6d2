-- a night with one thing otherwise
def setR (r : Nat → Nat → Int32) (kk jj : Nat) (x : Int32) : Nat → Nat → Int32 := fun k j => if k = kk ∧ j = jj then x else r k j
theorem setR_k {r : Nat → Nat → Int32} {kk jj : Nat} {x : Int32} {k j : Nat} (h : k ≠ kk) : setR r kk jj x k j = r k j := if_neg (fun q => h q.1)
theorem setR_n {r : Nat → Nat → Int32} {kk jj v : Nat} {f : Nat → Nat} {j : Nat} (h : r kk j = nI (f j)) : setR r kk jj (nI v) kk j = nI (fput f jj v j) := by
  unfold setR
  by_cases q : j = jj
  · subst q
    rw [if_pos ⟨rfl, rfl⟩, fput_eq]
  · rw [if_neg (fun c => q c.2), fput_ne _ q]; exact h
theorem fput_lt {f : Nat → Nat} {i x b j : Nat} (hx : x < b) (h : f j < b) : fput f i x j < b := by
  unfold fput
  split
  · exact hx
  · exact h
def kdN (A : Nt) (d v : Nat) : Nt := (A.1, fput (nK A) d v, nF A, nR A, nC A, nDi A, nB A, nAl A, nOd A)
def fgN (A : Nt) (d v : Nat) : Nt := (A.1, nK A, fput (nF A) d v, nR A, nC A, nDi A, nB A, nAl A, nOd A)
def rcN (A : Nt) (p v : Nat) : Nt := (A.1, nK A, nF A, fput (nR A) p v, nC A, nDi A, nB A, nAl A, nOd A)
def ddN (A : Nt) (p v : Nat) : Nt := (A.1, nK A, nF A, nR A, nC A, fput (nDi A) p v, nB A, nAl A, nOd A)
def coN (A : Nt) (c : Nat → Nat) : Nt := (A.1, nK A, nF A, nR A, c, nDi A, nB A, nAl A, nOd A)
theorem AbsR_kd {A : Nt} {d v : Nat} : ∀ r, AbsR r A → AbsR (setR r 1 d (nI v)) (kdN A d v) := fun r h =>
  ⟨(setR_k (by decide)).trans h.1, (setR_k (by decide)).trans h.2.1, fun e he => ⟨setR_n (h.2.2.1 e he).1, (setR_k (by decide)).trans (h.2.2.1 e he).2⟩, fun p hp => by
    obtain ⟨q3, q4, q5, q6, q7, q8⟩ := h.2.2.2 p hp
    exact ⟨(setR_k (by decide)).trans q3, (setR_k (by decide)).trans q4, (setR_k (by decide)).trans q5, (setR_k (by decide)).trans q6, (setR_k (by decide)).trans q7, (setR_k (by decide)).trans q8⟩⟩
theorem AbsR_fg {A : Nt} {d v : Nat} : ∀ r, AbsR r A → AbsR (setR r 2 d (nI v)) (fgN A d v) := fun r h =>
  ⟨(setR_k (by decide)).trans h.1, (setR_k (by decide)).trans h.2.1, fun e he => ⟨(setR_k (by decide)).trans (h.2.2.1 e he).1, setR_n (h.2.2.1 e he).2⟩, fun p hp => by
    obtain ⟨q3, q4, q5, q6, q7, q8⟩ := h.2.2.2 p hp
    exact ⟨(setR_k (by decide)).trans q3, (setR_k (by decide)).trans q4, (setR_k (by decide)).trans q5, (setR_k (by decide)).trans q6, (setR_k (by decide)).trans q7, (setR_k (by decide)).trans q8⟩⟩
theorem AbsR_rc {A : Nt} {d v : Nat} : ∀ r, AbsR r A → AbsR (setR r 3 d (nI v)) (rcN A d v) := fun r h =>
  ⟨(setR_k (by decide)).trans h.1, (setR_k (by decide)).trans h.2.1, fun e he => ⟨(setR_k (by decide)).trans (h.2.2.1 e he).1, (setR_k (by decide)).trans (h.2.2.1 e he).2⟩, fun p hp => by
    obtain ⟨q3, q4, q5, q6, q7, q8⟩ := h.2.2.2 p hp
    exact ⟨setR_n q3, (setR_k (by decide)).trans q4, (setR_k (by decide)).trans q5, (setR_k (by decide)).trans q6, (setR_k (by decide)).trans q7, (setR_k (by decide)).trans q8⟩⟩
theorem AbsR_co {A : Nt} {c : Nat → Nat} {d v : Nat} : ∀ r, AbsR r (coN A c) → AbsR (setR r 4 d (nI v)) (coN A (fput c d v)) := fun r h =>
  ⟨(setR_k (by decide)).trans h.1, (setR_k (by decide)).trans h.2.1, fun e he => ⟨(setR_k (by decide)).trans (h.2.2.1 e he).1, (setR_k (by decide)).trans (h.2.2.1 e he).2⟩, fun p hp => by
    obtain ⟨q3, q4, q5, q6, q7, q8⟩ := h.2.2.2 p hp
    exact ⟨(setR_k (by decide)).trans q3, setR_n q4, (setR_k (by decide)).trans q5, (setR_k (by decide)).trans q6, (setR_k (by decide)).trans q7, (setR_k (by decide)).trans q8⟩⟩
theorem AbsR_dd {A : Nt} {d v : Nat} : ∀ r, AbsR r A → AbsR (setR r 5 d (nI v)) (ddN A d v) := fun r h =>
  ⟨(setR_k (by decide)).trans h.1, (setR_k (by decide)).trans h.2.1, fun e he => ⟨(setR_k (by decide)).trans (h.2.2.1 e he).1, (setR_k (by decide)).trans (h.2.2.1 e he).2⟩, fun p hp => by
    obtain ⟨q3, q4, q5, q6, q7, q8⟩ := h.2.2.2 p hp
    exact ⟨(setR_k (by decide)).trans q3, (setR_k (by decide)).trans q4, setR_n q5, (setR_k (by decide)).trans q6, (setR_k (by decide)).trans q7, (setR_k (by decide)).trans q8⟩⟩
theorem AbsR_al {A : Nt} {p d : Nat} : ∀ r, AbsR r A → AbsR (setR r 7 p (nI (nAl A p ^^^ 2 ^ d))) (alN A p d) := fun r h =>
  ⟨(setR_k (by decide)).trans h.1, (setR_k (by decide)).trans h.2.1, fun e he => ⟨(setR_k (by decide)).trans (h.2.2.1 e he).1, (setR_k (by decide)).trans (h.2.2.1 e he).2⟩, fun p' hp => by
    obtain ⟨q3, q4, q5, q6, q7, q8⟩ := h.2.2.2 p' hp
    refine ⟨(setR_k (by decide)).trans q3, (setR_k (by decide)).trans q4, (setR_k (by decide)).trans q5, (setR_k (by decide)).trans q6, ?_, (setR_k (by decide)).trans q8⟩
    show (if 7 = 7 ∧ p' = p then _ else r 7 p') = nI (if p' = p then nAl A p' ^^^ 2 ^ d else nAl A p')
    by_cases q : p' = p
    · subst q
      rw [if_pos ⟨rfl, rfl⟩, if_pos rfl]
    · rw [if_neg (fun c => q c.2), if_neg q]; exact q7⟩
theorem OkN.kd {A : Nt} (h : OkN A) {d v : Nat} (hv : v < 6) : OkN (kdN A d v) := ⟨h.1, h.2.1, fun e he => ⟨fput_lt hv (h.2.2.1 e he).1, (h.2.2.1 e he).2⟩, h.2.2.2.1, h.2.2.2.2⟩
theorem OkN.fg {A : Nt} (h : OkN A) {d v : Nat} (hv : v < 10) : OkN (fgN A d v) := ⟨h.1, h.2.1, fun e he => ⟨(h.2.2.1 e he).1, fput_lt hv (h.2.2.1 e he).2⟩, h.2.2.2.1, h.2.2.2.2⟩
theorem OkN.rc {A : Nt} (h : OkN A) {p v : Nat} (hv : v < 10) : OkN (rcN A p v) := ⟨h.1, h.2.1, h.2.2.1, fun q hq => ⟨fput_lt hv (h.2.2.2.1 q hq).1, (h.2.2.2.1 q hq).2⟩, h.2.2.2.2⟩
theorem OkN.dd {A : Nt} (h : OkN A) {p v : Nat} (hv : v < 8) : OkN (ddN A p v) := ⟨h.1, h.2.1, h.2.2.1, fun q hq => ⟨(h.2.2.2.1 q hq).1, (h.2.2.2.1 q hq).2.1, fput_lt hv (h.2.2.2.1 q hq).2.2.1, (h.2.2.2.1 q hq).2.2.2⟩, h.2.2.2.2⟩
theorem OkN.co {A : Nt} (h : OkN A) {c : Nat → Nat} (hc : ∀ p, p < nP A → c p < 128) : OkN (coN A c) := ⟨h.1, h.2.1, h.2.2.1, fun q hq => ⟨(h.2.2.2.1 q hq).1, hc q hq, (h.2.2.2.1 q hq).2.2⟩, h.2.2.2.2⟩
theorem AbsC.st {σ : St} {n kk jj : Nat} {x : Int32} {A B : Nt} (h : ∀ r, AbsR r A → AbsR (setR r kk jj x) B) (hA : AbsC σ n A) : AbsC (wr σ (n + kk) jj x) n B := by
  have e : (fun k j => rd (wr σ (n + kk) jj x) (n + k) j) = setR (fun k j => rd σ (n + k) j) kk jj x := by
    funext k j
    rw [rd_wr]
    unfold setR
    by_cases q : k = kk
    · subst q
      by_cases q2 : j = jj
      · rw [if_pos ⟨rfl, q2⟩, if_pos ⟨rfl, q2⟩]
      · rw [if_neg (fun c => q2 c.2), if_neg (fun c => q2 c.2)]
    · rw [if_neg (fun c => q (by have := c.1; omega)), if_neg (fun c => q c.1)]
  show AbsR _ B
  rw [e]
  exact h _ hA
theorem AbsM.st {σ : St} {kk jj : Nat} {x : Int32} {A B : Nt} (hk : 1 ≤ kk) (h : ∀ r, AbsR r A → AbsR (setR r kk jj x) B) (hA : AbsM σ A) : AbsM (wr σ (59 + kk) jj x) B := by
  have e : (fun k j => if k = 0 then rd (wr σ (59 + kk) jj x) 58 (9 + j) else rd (wr σ (59 + kk) jj x) (59 + k) j) = setR (fun k j => if k = 0 then rd σ 58 (9 + j) else rd σ (59 + k) j) kk jj x := by
    funext k j
    show (if k = 0 then rd (wr σ (59 + kk) jj x) 58 (9 + j) else rd (wr σ (59 + kk) jj x) (59 + k) j) = (if k = kk ∧ j = jj then x else if k = 0 then rd σ 58 (9 + j) else rd σ (59 + k) j)
    by_cases k0 : k = 0
    · rw [if_pos k0, if_neg (fun c => by have := c.1; omega), if_pos k0, rd_wr, if_neg (fun c => by have := c.1; omega)]
    · rw [if_neg k0, if_neg k0, rd_wr]
      by_cases q : k = kk
      · subst q
        by_cases q2 : j = jj
        · rw [if_pos ⟨rfl, q2⟩, if_pos ⟨rfl, q2⟩]
        · rw [if_neg (fun c => q2 c.2), if_neg (fun c => q2 c.2)]
      · rw [if_neg (fun c => q (by have := c.1; omega)), if_neg (fun c => q c.1)]
  show AbsR _ B
  rw [e]
  exact h _ hA
theorem wr_back {σ s : St} {c j : Nat} {x : Int32} {l : List Nat} (hc : c ∉ l) (hf : Fr l (wr σ c j x) s) : Fr l σ (wr s c j (rd σ c j)) := by
  refine ⟨hf.1, fun b hb k => ?_⟩
  rw [rd_wr]
  by_cases q : b = c ∧ k = j
  · rw [if_pos q, q.1, q.2]
  · rw [if_neg q, hf.2 b hb k, rd_wr, if_neg q]
/-- a morning of the model, one cell being otherwise -/
theorem whatM {σ : St} {A B : Nt} {kk jj : Nat} {x : Int32} (hN : NowI σ A) (hB : ∀ r, AbsR r A → AbsR (setR r kk jj x) B) (hO : OkN B) (h1 : 1 ≤ kk) (h8 : kk ≤ 8) :
    ∃ s, F_MD_goes (wr σ (59 + kk) jj x) = some s ∧ F_MD_monthsNow (wr σ (59 + kk) jj x) = some (nI (allO (prA 7 B) (nOd B) 0), s) ∧ MdN s B 7 ∧ (∀ p, p < nP B → rd s 73 p = bI (tkO (prA 7 B) (nOd B) 0 p)) ∧ (∀ b j, b ≠ 73 → b ≠ 74 → rd s b j = rd (wr σ (59 + kk) jj x) b j) ∧ Fr [73, 74] σ (wr s (59 + kk) jj (rd σ (59 + kk) jj)) := by
  have hM : MdN (wr σ (59 + kk) jj x) B 7 := ⟨AbsM.st h1 hB hN.2.2.2.1.1, by rw [rd_wr, if_neg (fun c => by have := c.1; omega)]; exact hN.2.2.2.1.2.1, by decide⟩
  have hg : rd (wr σ (59 + kk) jj x) 58 26 = nI 0 := by rw [rd_wr, if_neg (fun c => by have := c.1; omega)]; exact hN.2.2.2.2
  obtain ⟨s, a1, a2, a3, a4⟩ := goesM hM hO hg (by decide)
  refine ⟨s, a1, ?_, hM.fr a2 (by decide), a4, fun b j h73 h74 => a2.at (by simp; omega) j, wr_back (by simp; omega) a2⟩
  unfold F_MD_monthsNow
  rw [a1, Option.bind_some, allMonthsM' (hM.fr a2 (by decide)) hO a4]
  rfl
/-- the night copied for a trial -/
theorem trialC {σ : St} {A : Nt} (hN : NowI σ A) : ∃ s, F_NI_copy 19 1 σ = some s ∧ NowI s A ∧ Qf (nD A) σ s ∧ AbsC s 19 A := by
  obtain ⟨s, a1, a2, a3⟩ := copyC isNI_19 isNI_1 (by decide) hN.2.2.1 hN.1
  have hq : Qf (nD A) σ s := Qf.of a2 (by decide)
  exact ⟨s, a1, hN.q hq, hq, a3⟩
/-- a morning of the trial, one cell being otherwise -/
theorem whatC {σ : St} {A B : Nt} {kk jj D : Nat} {x : Int32} (hA : AbsC σ 19 A) (hB : ∀ r, AbsR r A → AbsR (setR r kk jj x) B) (hO : OkN B) (h1 : 1 ≤ kk) (h8 : kk ≤ 8) :
    ∃ s, F_AC_tried (wr σ (19 + kk) jj x) = some (nI (allO (prA 7 B) (nOd B) 0), s) ∧ Qf D σ s ∧ MoD s 43 (prA 7 B) (nOd B) 0 ∧ AbsC s 19 B ∧ ∀ b, 40 ≤ b → b ≤ 42 → ∀ j, rd s b j = rd σ b j := by
  have hA2 := AbsC.st hB hA
  obtain ⟨s, a1, a2, a3⟩ := triedC hA2 hO
  refine ⟨s, a1, fun b j hq => ?_, a3, hA2.fr a2 (fun k hk => by simp; omega), fun b h1 h2 j => ?_⟩
  · unfold Qd at hq
    rw [a2.at (by simp; omega) j, rd_wr, if_neg (fun c => by have := c.1; omega)]
  · rw [a2.at (by simp; omega) j, rd_wr, if_neg (fun c => by have := c.1; omega)]
-- parole, madeLight: the first of the least
def mnS (c : Nat → Nat) (s0 : Nat) : Nat → Nat × Int32
  | 0 => (s0, -9)
  | k + 1 => if c k < (mnS c s0 k).1 then (c k, nI k) else mnS c s0 k
theorem mnS_s (c : Nat → Nat) (s0 k : Nat) : mnS c s0 (k + 1) = if c k < (mnS c s0 k).1 then (c k, nI k) else mnS c s0 k := rfl
theorem mnS_le (c : Nat → Nat) (s0 : Nat) : ∀ k, (mnS c s0 k).1 ≤ s0
  | 0 => Nat.le_refl _
  | k + 1 => by
    have := mnS_le c s0 k
    unfold mnS
    split
    · show c k ≤ s0; omega
    · exact this
def paV (A : Nt) (p : Nat) : Nat := allO (prA 7 (rcN A p 0)) (nOd A) 0
theorem paroleC {σ : St} {A : Nt} (hN : NowI σ A) {x0 : Nat} (hx : x0 ≤ 546) : ∃ s, F_AC_parole_17 (nI x0) (-9) 0 σ = some ((mnS (paV A) x0 (nP A)).2, s) ∧ Qf (nD A) σ s := by
  have hO := hN.1
  have hP := hO.P
  obtain ⟨⟨w1, w2, w3, s⟩, ⟨e1, e2, e3, hf⟩, hr⟩ := fix_rel (f := G_AC_parole_17) (n := nP A) (s0 := (nI x0, -9, nI 0, σ)) (fun n x => x.1 = nI (mnS (paV A) x0 n).1 ∧ x.2.1 = (mnS (paV A) x0 n).2 ∧ x.2.2.1 = nI n ∧ Qf (nD A) σ x.2.2.2) (by rw [fuel_val]; omega) ⟨rfl, rfl, rfl, Qf.rf⟩ (by
    rintro n ⟨w1, w2, w3, s⟩ hn ⟨e1, e2, e3, hf⟩
    simp only at e1 e2 e3 hf
    subst e1; subst e2; subst e3
    have hNs := hN.q hf
    obtain ⟨t1, a1, a2, a3, a4⟩ := trialC hNs
    obtain ⟨t, b1, b2, b3, b4, b5⟩ := whatC (D := nD A) a4 (AbsR_rc (d := n) (v := 0)) (hO.rc (by decide)) (by decide) (by decide)
    have hv : allO (prA 7 (rcN A n 0)) (nOd (rcN A n 0)) 0 = paV A n := rfl
    rw [hv] at b1
    have b34 : rd t 43 4 = nI (paV A n) := b3.2.2.1
    have hle : paV A n ≤ 546 := allO_le (prA_ok (hO.rc (by decide)) 7)
    have hml := mnS_le (paV A) x0 n
    refine ⟨(nI (mnS (paV A) x0 (n + 1)).1, (mnS (paV A) x0 (n + 1)).2, nI (n + 1), t), ⟨rfl, rfl, rfl, (hf.tr a3).tr b2⟩, fun K => ?_⟩
    show H_AC_parole_17 K (nI (mnS (paV A) x0 n).1) (mnS (paV A) x0 n).2 (nI n) s = _
    unfold H_AC_parole_17 F_AC_parole_69
    rw [show rd s 1 1 = nI (nP A) from hNs.2.2.1.2.1, if_neg (nI_ge hn (by omega)), a1, Option.bind_some, putC (al_22) (by omega), Option.bind_some, show F_AC_tried (wr t1 22 n 0) = _ from b1, Option.bind_some]
    simp only
    rw [b34, nI_1, mnS_s]
    by_cases g : paV A n < (mnS (paV A) x0 n).1
    · rw [if_neg (nI_ge g (by omega)), if_pos g]
      rfl
    · rw [if_pos (nI_le (by omega) (by omega)), if_neg g])
  simp only at e1 e2 e3 hf
  refine ⟨s, ?_, hf⟩
  unfold F_AC_parole_17
  refine hr _ (fun K => ?_)
  show H_AC_parole_17 K w1 w2 w3 s = _
  unfold H_AC_parole_17
  rw [e3, show rd s 1 1 = nI (nP A) from (hN.q hf).2.2.1.2.1, if_pos (Int32.le_refl _), e2]
theorem paroleM {σ : St} {A : Nt} (hN : NowI σ A) {x0 : Nat} (hx : x0 ≤ 546) : ∃ s, F_MD_parole_10 (nI x0) (-9) 0 σ = some ((mnS (paV A) x0 (nP A)).2, s) ∧ Fr [73, 74] σ s := by
  have hO := hN.1
  have hP := hO.P
  obtain ⟨⟨w1, w2, w3, s⟩, ⟨e1, e2, e3, hf⟩, hr⟩ := fix_rel (f := G_MD_parole_10) (n := nP A) (s0 := (nI x0, -9, nI 0, σ)) (fun n x => x.1 = nI (mnS (paV A) x0 n).1 ∧ x.2.1 = (mnS (paV A) x0 n).2 ∧ x.2.2.1 = nI n ∧ Fr [73, 74] σ x.2.2.2) (by rw [fuel_val]; omega) ⟨rfl, rfl, rfl, Fr.rf⟩ (by
    rintro n ⟨w1, w2, w3, s⟩ hn ⟨e1, e2, e3, hf⟩
    simp only at e1 e2 e3 hf
    subst e1; subst e2; subst e3
    have hNs : NowI s A := hN.q (Qf.of hf (by decide))
    obtain ⟨t, b1, b2, b3, b4, b5, b6⟩ := whatM hNs (AbsR_rc (d := n) (v := 0)) (hO.rc (by decide)) (by decide) (by decide)
    have hv : allO (prA 7 (rcN A n 0)) (nOd (rcN A n 0)) 0 = paV A n := rfl
    rw [hv] at b2
    have hle : paV A n ≤ 546 := allO_le (prA_ok (hO.rc (by decide)) 7)
    have hml := mnS_le (paV A) x0 n
    refine ⟨(nI (mnS (paV A) x0 (n + 1)).1, (mnS (paV A) x0 (n + 1)).2, nI (n + 1), wr t 62 n (rd s 62 n)), ⟨rfl, rfl, rfl, hf.two b6⟩, fun K => ?_⟩
    show H_MD_parole_10 K (nI (mnS (paV A) x0 n).1) (mnS (paV A) x0 n).2 (nI n) s = _
    unfold H_MD_parole_10 F_MD_parole_61
    rw [show rd s 58 10 = nI (nP A) from hNs.2.2.2.1.1.2.1, if_neg (nI_ge hn (by omega)), ldk al_62 (by omega), Option.bind_some, stk al_62 (by omega), Option.bind_some, show F_MD_monthsNow (wr s 62 n 0) = _ from b2, Option.bind_some]
    simp only
    rw [stk al_62 (by omega), Option.bind_some, nI_1, mnS_s]
    by_cases g : paV A n < (mnS (paV A) x0 n).1
    · rw [if_pos (nI_lt g (by omega)), if_pos g]
    · rw [if_neg (nI_nlt (by omega) (by omega)), if_neg g])
  simp only at e1 e2 e3 hf
  refine ⟨s, ?_, hf⟩
  unfold F_MD_parole_10
  refine hr _ (fun K => ?_)
  show H_MD_parole_10 K w1 w2 w3 s = _
  unfold H_MD_parole_10
  rw [e3, show rd s 58 10 = nI (nP A) from (hN.q (Qf.of hf (by decide))).2.2.2.1.1.2.1, if_pos (Int32.le_refl _), e2]
theorem nowN {σ : St} {A : Nt} (hN : NowI σ A) : ∃ s, F_MD_monthsNow σ = some (nI (allO (prA 7 A) (nOd A) 0), s) ∧ Fr [73, 74] σ s ∧ NowI s A ∧ (∀ k, k < nP A → rd s 74 k = nI (nOd A k)) ∧ ∀ p, p < nP A → rd s 73 p = bI (tkO (prA 7 A) (nOd A) 0 p) := by
  obtain ⟨s, b1, b2, b3, b4⟩ := monthsNowM hN.2.2.2.1 hN.1 hN.2.2.2.2 (by decide)
  exact ⟨s, b1, b2, hN.q (Qf.of b2 (by decide)), b3, b4⟩
theorem op_parole : Ask F_AC_parole F_MD_parole := by
  intro σ h
  obtain ⟨A, hall⟩ := id h
  have hle : allO (prA 7 A) (nOd A) 0 ≤ 546 := allO_le (prA_ok hall.1.1 7)
  obtain ⟨s1, a1, a2, hN1, a3, a4⟩ := todayC hall.1
  obtain ⟨s2, b1, b2⟩ := paroleC hN1 hle
  obtain ⟨s3, c1, c2, hN3, c3, c4⟩ := nowN (hN1.q b2)
  obtain ⟨s4, d1, d2⟩ := paroleM hN3 hle
  refine ⟨_, s2, s4, (?_ : F_AC_parole σ = some ((mnS (paV A) (allO (prA 7 A) (nOd A) 0) (nP A)).2, s2)), ?_, INV.q hall ((((Qf.of a2 (by decide)).tr b2).tr (Qf.of c2 (by decide))).tr (Qf.of d2 (by decide)))⟩
  · unfold F_AC_parole
    rw [a1, Option.bind_some, Option.bind_some, show rd s1 40 4 = nI (allO (prA 7 A) (nOd A) 0) from a4.2.2.1]
    exact b1
  · unfold F_MD_parole
    rw [c1, Option.bind_some]
    exact d1
def mlV (A : Nt) (d : Nat) : Nat := allO (prA 7 (kdN A d 2)) (nOd A) 0
theorem madeLightC {σ : St} {A : Nt} (hN : NowI σ A) {x0 : Nat} (hx : x0 ≤ 546) : ∃ s, F_AC_madeLight_17 (nI x0) (-9) 0 σ = some ((mnS (mlV A) x0 (nD A)).2, s) ∧ Qf (nD A) σ s := by
  have hO := hN.1
  have hD := hN.2.1.1
  obtain ⟨⟨w1, w2, w3, s⟩, ⟨e1, e2, e3, hf⟩, hr⟩ := fix_rel (f := G_AC_madeLight_17) (n := nD A) (s0 := (nI x0, -9, nI 0, σ)) (fun n x => x.1 = nI (mnS (mlV A) x0 n).1 ∧ x.2.1 = (mnS (mlV A) x0 n).2 ∧ x.2.2.1 = nI n ∧ Qf (nD A) σ x.2.2.2) (by rw [fuel_val]; omega) ⟨rfl, rfl, rfl, Qf.rf⟩ (by
    rintro n ⟨w1, w2, w3, s⟩ hn ⟨e1, e2, e3, hf⟩
    simp only at e1 e2 e3 hf
    subst e1; subst e2; subst e3
    have hNs := hN.q hf
    obtain ⟨t1, a1, a2, a3, a4⟩ := trialC hNs
    obtain ⟨t, b1, b2, b3, b4, b5⟩ := whatC (D := nD A) a4 (AbsR_kd (d := n) (v := 2)) (hO.kd (by decide)) (by decide) (by decide)
    have hv : allO (prA 7 (kdN A n 2)) (nOd (kdN A n 2)) 0 = mlV A n := rfl
    rw [hv] at b1
    have b34 : rd t 43 4 = nI (mlV A n) := b3.2.2.1
    have hle : mlV A n ≤ 546 := allO_le (prA_ok (hO.kd (by decide)) 7)
    have hml := mnS_le (mlV A) x0 n
    refine ⟨(nI (mnS (mlV A) x0 (n + 1)).1, (mnS (mlV A) x0 (n + 1)).2, nI (n + 1), t), ⟨rfl, rfl, rfl, (hf.tr a3).tr b2⟩, fun K => ?_⟩
    show H_AC_madeLight_17 K (nI (mnS (mlV A) x0 n).1) (mnS (mlV A) x0 n).2 (nI n) s = _
    unfold H_AC_madeLight_17 F_AC_madeLight_69
    rw [show rd s 1 0 = nI (nD A) from hNs.2.2.1.1, if_neg (nI_ge hn (by omega)), a1, Option.bind_some, putC (al_20) (by omega), Option.bind_some, show F_AC_tried (wr t1 20 n 2) = _ from b1, Option.bind_some]
    simp only
    rw [b34, nI_1, mnS_s]
    by_cases g : mlV A n < (mnS (mlV A) x0 n).1
    · rw [if_neg (nI_ge g (by omega)), if_pos g]
      rfl
    · rw [if_pos (nI_le (by omega) (by omega)), if_neg g])
  simp only at e1 e2 e3 hf
  refine ⟨s, ?_, hf⟩
  unfold F_AC_madeLight_17
  refine hr _ (fun K => ?_)
  show H_AC_madeLight_17 K w1 w2 w3 s = _
  unfold H_AC_madeLight_17
  rw [e3, show rd s 1 0 = nI (nD A) from (hN.q hf).2.2.1.1, if_pos (Int32.le_refl _), e2]
theorem madeLightM {σ : St} {A : Nt} (hN : NowI σ A) {x0 : Nat} (hx : x0 ≤ 546) : ∃ s, F_MD_madeLight_10 (nI x0) (-9) 0 σ = some ((mnS (mlV A) x0 (nD A)).2, s) ∧ Fr [73, 74] σ s := by
  have hO := hN.1
  have hD := hN.2.1.1
  obtain ⟨⟨w1, w2, w3, s⟩, ⟨e1, e2, e3, hf⟩, hr⟩ := fix_rel (f := G_MD_madeLight_10) (n := nD A) (s0 := (nI x0, -9, nI 0, σ)) (fun n x => x.1 = nI (mnS (mlV A) x0 n).1 ∧ x.2.1 = (mnS (mlV A) x0 n).2 ∧ x.2.2.1 = nI n ∧ Fr [73, 74] σ x.2.2.2) (by rw [fuel_val]; omega) ⟨rfl, rfl, rfl, Fr.rf⟩ (by
    rintro n ⟨w1, w2, w3, s⟩ hn ⟨e1, e2, e3, hf⟩
    simp only at e1 e2 e3 hf
    subst e1; subst e2; subst e3
    have hNs : NowI s A := hN.q (Qf.of hf (by decide))
    obtain ⟨t, b1, b2, b3, b4, b5, b6⟩ := whatM hNs (AbsR_kd (d := n) (v := 2)) (hO.kd (by decide)) (by decide) (by decide)
    have hv : allO (prA 7 (kdN A n 2)) (nOd (kdN A n 2)) 0 = mlV A n := rfl
    rw [hv] at b2
    have hle : mlV A n ≤ 546 := allO_le (prA_ok (hO.kd (by decide)) 7)
    have hml := mnS_le (mlV A) x0 n
    refine ⟨(nI (mnS (mlV A) x0 (n + 1)).1, (mnS (mlV A) x0 (n + 1)).2, nI (n + 1), wr t 60 n (rd s 60 n)), ⟨rfl, rfl, rfl, hf.two b6⟩, fun K => ?_⟩
    show H_MD_madeLight_10 K (nI (mnS (mlV A) x0 n).1) (mnS (mlV A) x0 n).2 (nI n) s = _
    unfold H_MD_madeLight_10 F_MD_madeLight_61
    rw [show rd s 58 9 = nI (nD A) from hNs.2.2.2.1.1.1, if_neg (nI_ge hn (by omega)), ldk al_60 (by omega), Option.bind_some, stk al_60 (by omega), Option.bind_some, show F_MD_monthsNow (wr s 60 n 2) = _ from b2, Option.bind_some]
    simp only
    rw [stk al_60 (by omega), Option.bind_some, nI_1, mnS_s]
    by_cases g : mlV A n < (mnS (mlV A) x0 n).1
    · rw [if_pos (nI_lt g (by omega)), if_pos g]
    · rw [if_neg (nI_nlt (by omega) (by omega)), if_neg g])
  simp only at e1 e2 e3 hf
  refine ⟨s, ?_, hf⟩
  unfold F_MD_madeLight_10
  refine hr _ (fun K => ?_)
  show H_MD_madeLight_10 K w1 w2 w3 s = _
  unfold H_MD_madeLight_10
  rw [e3, show rd s 58 9 = nI (nD A) from (hN.q (Qf.of hf (by decide))).2.2.2.1.1.1, if_pos (Int32.le_refl _), e2]
theorem op_madeLight : Ask F_AC_madeLight F_MD_madeLight := by
  intro σ h
  obtain ⟨A, hall⟩ := id h
  have hle : allO (prA 7 A) (nOd A) 0 ≤ 546 := allO_le (prA_ok hall.1.1 7)
  obtain ⟨s1, a1, a2, hN1, a3, a4⟩ := todayC hall.1
  obtain ⟨s2, b1, b2⟩ := madeLightC hN1 hle
  obtain ⟨s3, c1, c2, hN3, c3, c4⟩ := nowN (hN1.q b2)
  obtain ⟨s4, d1, d2⟩ := madeLightM hN3 hle
  refine ⟨_, s2, s4, (?_ : F_AC_madeLight σ = some ((mnS (mlV A) (allO (prA 7 A) (nOd A) 0) (nD A)).2, s2)), ?_, INV.q hall ((((Qf.of a2 (by decide)).tr b2).tr (Qf.of c2 (by decide))).tr (Qf.of d2 (by decide)))⟩
  · unfold F_AC_madeLight
    rw [a1, Option.bind_some, Option.bind_some, show rd s1 40 4 = nI (allO (prA 7 A) (nOd A) 0) from a4.2.2.1]
    exact b1
  · unfold F_MD_madeLight
    rw [c1, Option.bind_some]
    exact d1
