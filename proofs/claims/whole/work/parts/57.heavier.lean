-- heavier, bestDid
theorem fput_fput (f : Nat → Nat) (i x y : Nat) : fput (fput f i x) i y = fput f i y := by
  funext j
  unfold fput
  split <;> rfl
theorem fput_self (f : Nat → Nat) (i : Nat) : fput f i (f i) = f := by
  funext j
  unfold fput
  split
  · rename_i h; rw [h]
  · rfl
theorem fgN_fgN (A : Nt) (d v w : Nat) : fgN (fgN A d v) d w = fgN A d w := by
  show (A.1, nK A, fput (fput (nF A) d v) d w, nR A, nC A, nDi A, nB A, nAl A, nOd A) = _
  rw [fput_fput]; rfl
theorem fgN_self (A : Nt) (d : Nat) : fgN A d (nF A d) = A := by
  unfold fgN
  rw [fput_self]; rfl
theorem ddN_ddN (A : Nt) (d v w : Nat) : ddN (ddN A d v) d w = ddN A d w := by
  show (A.1, nK A, nF A, nR A, nC A, fput (fput (nDi A) d v) d w, nB A, nAl A, nOd A) = _
  rw [fput_fput]; rfl
theorem ddN_self (A : Nt) (d : Nat) : ddN A d (nDi A d) = A := by
  unfold ddN
  rw [fput_self]; rfl
theorem wr_wr (s : St) (c j : Nat) (x y : Int32) : wr (wr s c j y) c j x = wr s c j x := St_ext (fun b k => by
  rw [rd_wr, rd_wr, rd_wr]
  by_cases q : b = c ∧ k = j
  · rw [if_pos q, if_pos q]
  · rw [if_neg q, if_neg q, if_neg q]) rfl
theorem wr_self (s : St) (c j : Nat) : wr s c j (rd s c j) = s := St_ext (fun b k => by
  rw [rd_wr]
  by_cases q : b = c ∧ k = j
  · rw [if_pos q, q.1, q.2]
  · rw [if_neg q]) rfl
theorem bI_nI {o : Option Nat} {d : Nat} (ho : ∀ e, o = some e → e < 100) (hd : d < 100) : bI o = nI d ↔ o = some d := by
  cases o with
  | none => exact ⟨fun h => absurd h.symm (n9_ne (by omega)), fun h => by cases h⟩
  | some e =>
    have := ho e rfl
    exact ⟨fun h => by rw [nI_inj (by omega) (by omega) h], fun h => by cases h; rfl⟩
def lastB (c : Nat → Bool) : Nat → Option Nat
  | 0 => none
  | n + 1 => if c n = true then some n else lastB c n
def hvB (A : Nt) (p d f : Nat) : Bool := decide (tkO (prA 7 (fgN A d f)) (nOd A) 0 p = some d)
theorem heavierC {σ s0 : St} {A : Nt} (hN : NowI σ A) {p d : Nat} (hp : p < nP A) (hd : d < nD A) (h0 : Qf (nD A) σ s0) (hA0 : AbsC s0 19 A) : ∃ s, F_AC_heavier_42 (nI p) (nI d) 9 s0 = some (bI (lastB (hvB A p d) 10), s) ∧ Qf (nD A) σ s := by
  have hO := hN.1
  have hP := hO.P
  have hD := hN.2.1.1
  have := fix_inv (f := G_AC_heavier_42 (nI p) (nI d)) (n := 10) (s0 := (9, s0)) (fun k q => q.1 = nI (10 - k) - 1 ∧ Qf (nD A) σ q.2 ∧ lastB (hvB A p d) 10 = lastB (hvB A p d) (10 - k) ∧ ∃ v, AbsC q.2 19 (fgN A d v)) (fun r => ∃ s, r = some (bI (lastB (hvB A p d) 10), s) ∧ Qf (nD A) σ s) (by rw [fuel_val]; omega) ⟨rfl, h0, rfl, nF A d, by rw [fgN_self]; exact hA0⟩ (by
    rintro k ⟨w, s⟩ hk ⟨hw, hf, hl, v, hv⟩
    simp only at hw hf hv
    obtain ⟨n, hn⟩ : ∃ n, n = 9 - k := ⟨_, rfl⟩
    have e1 : 10 - k = n + 1 := by omega
    have e2 : 10 - (k + 1) = n := by omega
    rw [e1, nI_dec (by omega), Nat.add_sub_cancel] at hw
    subst hw
    rw [e1] at hl
    have hOB : OkN (fgN A d n) := hO.fg (by omega)
    have hB : ∀ r, AbsR r (fgN A d v) → AbsR (setR r 2 d (nI n)) (fgN A d n) := fun r h => by
      have := AbsR_fg (d := d) (v := n) r h
      rwa [fgN_fgN] at this
    obtain ⟨t, b1, b2, b3, b4, b5⟩ := whatC (D := nD A) hv hB hOB (by decide) (by decide)
    have e44 : rd t 44 p = bI (tkO (prA 7 (fgN A d n)) (nOd A) 0 p) := (b3.2.2.2.2 p hp).1
    have hin : ∀ e, tkO (prA 7 (fgN A d n)) (nOd A) 0 p = some e → e < 100 := fun e he => by
      have : e < nD A := tkO_in he
      omega
    have hrun : ∀ K : Int32 × St → Option (Int32 × St), H_AC_heavier_42 (nI p) (nI d) K (nI n) s = if hvB A p d n = true then some (nI n, t) else K (nI n - 1, t) := fun K => by
      unfold H_AC_heavier_42
      rw [if_neg (nI_pos (by omega)), putC al_21 (by omega), Option.bind_some, show F_AC_tried (wr s 21 d (nI n)) = _ from b1, Option.bind_some]
      simp only
      rw [atC al_44 (by omega), Option.bind_some]
      simp only
      rw [e44]
      unfold hvB
      by_cases g : tkO (prA 7 (fgN A d n)) (nOd A) 0 p = some d
      · rw [if_pos ((bI_nI hin (by omega)).mpr g), if_pos (decide_eq_true g)]
      · rw [if_neg (fun c => g ((bI_nI hin (by omega)).mp c)), if_neg (by simpa using g)]
    have hl2 : lastB (hvB A p d) (n + 1) = if hvB A p d n = true then some n else lastB (hvB A p d) n := rfl
    by_cases g : hvB A p d n = true
    · right
      refine ⟨some (nI n, t), ⟨t, ?_, hf.tr b2⟩, fun K => (hrun K).trans (if_pos g)⟩
      rw [hl, hl2, if_pos g]; rfl
    · left
      refine ⟨(nI n - 1, t), ⟨by rw [e2], hf.tr b2, ?_, n, b4⟩, fun K => (hrun K).trans (if_neg g)⟩
      rw [hl, hl2, if_neg g, e2]) (by
    rintro ⟨w, s⟩ ⟨hw, hf, hl, v, hv⟩
    simp only at hw hf
    refine ⟨some (-9, s), ⟨s, by rw [hl]; rfl, hf⟩, fun K => ?_⟩
    show H_AC_heavier_42 (nI p) (nI d) K w s = _
    unfold H_AC_heavier_42
    rw [hw, if_pos (by decide)])
  obtain ⟨s, h1, h2⟩ := this
  exact ⟨s, h1, h2⟩
theorem heavierM {σ : St} {A : Nt} (hN : NowI σ A) {p d : Nat} (hp : p < nP A) (hd : d < nD A) : ∃ s, F_MD_heavier_36 (nI p) (nI d) (rd σ 61 d) (-9) 0 σ = some (bI (lastB (hvB A p d) 10), s) ∧ Fr [73, 74] σ s := by
  have hO := hN.1
  have hP := hO.P
  have hD := hN.2.1.1
  obtain ⟨⟨w1, w2, s⟩, ⟨e1, e2, hf⟩, hr⟩ := fix_rel (f := G_MD_heavier_36 (nI p) (nI d) (rd σ 61 d)) (n := 10) (s0 := (-9, nI 0, σ)) (fun k x => x.1 = bI (lastB (hvB A p d) k) ∧ x.2.1 = nI k ∧ Fr [73, 74] σ (wr x.2.2 61 d (rd σ 61 d))) (by rw [fuel_val]; omega) ⟨rfl, rfl, by rw [show wr σ 61 d (rd σ 61 d) = σ from wr_self _ _ _]; exact Fr.rf⟩ (by
    rintro n ⟨w1, w2, s⟩ hn ⟨e1, e2, hf⟩
    simp only at e1 e2 hf
    subst e1; subst e2
    have hOB : OkN (fgN A d n) := hO.fg hn
    have hNs : NowI (wr s 61 d (rd σ 61 d)) A := hN.q (Qf.of hf (by decide))
    obtain ⟨t, b1, b2, b3, b4, b5, b6⟩ := whatM hNs (AbsR_fg (d := d) (v := n)) hOB (by decide) (by decide)
    have b1' : F_MD_goes (wr s 61 d (nI n)) = some t := by rw [← wr_wr s 61 d (nI n) (rd σ 61 d)]; exact b1
    have b6' : Fr [73, 74] (wr s 61 d (rd σ 61 d)) (wr t 61 d (rd (wr s 61 d (rd σ 61 d)) 61 d)) := b6
    rw [rd_wr_same] at b6'
    have e73 : rd t 73 p = bI (tkO (prA 7 (fgN A d n)) (nOd A) 0 p) := b4 p hp
    have hin : ∀ e, tkO (prA 7 (fgN A d n)) (nOd A) 0 p = some e → e < 100 := fun e he => by
      have : e < nD A := tkO_in he
      omega
    refine ⟨(bI (lastB (hvB A p d) (n + 1)), nI (n + 1), t), ⟨rfl, rfl, hf.two b6'⟩, fun K => ?_⟩
    show H_MD_heavier_36 (nI p) (nI d) (rd σ 61 d) K (bI (lastB (hvB A p d) n)) (nI n) s = _
    unfold H_MD_heavier_36 F_MD_heavier_72
    rw [if_neg (show ¬ (10 : Int32) ≤ nI n from nI_ge (b := 10) hn (by decide)), stk al_61 (by omega), Option.bind_some, b1', Option.bind_some, ldk al_73 (by omega), Option.bind_some, e73, nI_1]
    have hl2 : lastB (hvB A p d) (n + 1) = if hvB A p d n = true then some n else lastB (hvB A p d) n := rfl
    rw [hl2]
    unfold hvB
    by_cases g : tkO (prA 7 (fgN A d n)) (nOd A) 0 p = some d
    · rw [if_pos ((bI_nI hin (by omega)).mpr g), if_pos (decide_eq_true g)]
      rfl
    · rw [if_neg (fun c => g ((bI_nI hin (by omega)).mp c)), if_neg (by simpa using g)])
  simp only at e1 e2 hf
  refine ⟨wr s 61 d (rd σ 61 d), ?_, hf⟩
  unfold F_MD_heavier_36
  refine hr _ (fun K => ?_)
  show H_MD_heavier_36 (nI p) (nI d) (rd σ 61 d) K w1 w2 s = _
  unfold H_MD_heavier_36
  rw [e2, if_pos (show (10 : Int32) ≤ nI 10 from Int32.le_refl _), stk al_61 (by omega), Option.bind_some, e1]
theorem op_heavier (a b : Int32) : Ask (F_AC_heavier a b) (F_MD_heavier a b) := by
  intro σ h
  obtain ⟨A, hall⟩ := id h
  have hN := hall.1
  obtain ⟨hO, hD, hA, hM, hg⟩ := id hN
  rcases perC hA hO a with ⟨p, hp, rfl⟩ | ho
  · rcases deeC hA hO b with ⟨d, hd, rfl⟩ | ho
    · obtain ⟨s1, a1, hN1, a3, a4⟩ := trialC hN
      obtain ⟨s2, b1, b2⟩ := heavierC hN hp hd a3 a4
      have hN2 := hN.q b2
      obtain ⟨s3, c1, c2⟩ := heavierM hN2 hp hd
      refine ⟨_, s2, s3, (?_ : F_AC_heavier (nI p) (nI d) σ = some (bI (lastB (hvB A p d) 10), s2)), ?_, INV.q hall (b2.tr (Qf.of c2 (by decide)))⟩
      · unfold F_AC_heavier
        rw [hasPersonC_in hA hO hp, Option.bind_some, if1, hasDeedC_in hA hO hd, Option.bind_some, if1, a1, Option.bind_some, b1]
      · unfold F_MD_heavier
        rw [isPersonM_in hN2.2.2.2.1 hO hp, Option.bind_some, if1, isDeedM_in hN2.2.2.2.1 hO hd, Option.bind_some, if1]
        simp only
        rw [ldk al_61 (by omega), Option.bind_some]
        exact c1
    · refine Ask.no h (k := 1) (x := -1) (by decide) (by decide) ?_ (fun τ hτ => ?_)
      · unfold F_AC_heavier F_AC_heavier_22
        rw [hasPersonC_in hA hO hp, Option.bind_some, if1, hasDeedC_out hA hO ho, Option.bind_some, if0, bid]
      · unfold F_MD_heavier F_MD_heavier_16
        rw [isPersonM_in (hN.r57 hτ).2.2.2.1 hO hp, Option.bind_some, if1, isDeedM_out (hN.r57 hτ).2.2.2.1 ho, Option.bind_some, if0, bid]
  · refine Ask.no h (k := 1) (x := -1) (by decide) (by decide) ?_ (fun τ hτ => ?_)
    · unfold F_AC_heavier F_AC_heavier_22
      rw [hasPersonC_out hA hO ho, Option.bind_some, if0, bid]
    · unfold F_MD_heavier F_MD_heavier_16
      rw [isPersonM_out (hN.r57 hτ).2.2.2.1 ho, Option.bind_some, if0, bid]
-- bestDid
theorem bestN_spec {m : Nat → Bool} {c : Nat → Nat} : ∀ {k : Nat}, (∀ b, bestN m c k = some b → (∀ j, j < k → m j = true → c b ≤ c j) ∧ ∀ j, j < b → m j = true → c b < c j) ∧ (bestN m c k = none → ∀ j, j < k → m j = false)
  | 0 => ⟨fun b h => (by cases h), fun _ j hj => absurd hj (Nat.not_lt_zero _)⟩
  | k + 1 => by
    obtain ⟨ih1, ih2⟩ := bestN_spec (m := m) (c := c) (k := k)
    constructor
    · intro b h
      unfold bestN at h
      by_cases hm : m k = true
      · rw [if_pos hm] at h
        cases hb : bestN m c k with
        | none =>
          rw [hb] at h
          cases h
          have := ih2 hb
          refine ⟨fun j hj hmj => ?_, fun j hj hmj => by rw [this j hj] at hmj; cases hmj⟩
          by_cases e : j = k
          · subst e; exact Nat.le_refl _
          · rw [this j (by omega)] at hmj; cases hmj
        | some q =>
          rw [hb] at h
          obtain ⟨i1, i2⟩ := ih1 q hb
          have hq := (bestN_in hb).1
          by_cases hc : c k < c q
          · simp only [hc, if_true] at h
            cases h
            refine ⟨fun j hj hmj => ?_, fun j hj hmj => by have := i1 j hj hmj; omega⟩
            by_cases e : j = k
            · subst e; exact Nat.le_refl _
            · have := i1 j (by omega) hmj; omega
          · simp only [hc, if_false] at h
            cases h
            refine ⟨fun j hj hmj => ?_, i2⟩
            by_cases e : j = k
            · subst e; omega
            · exact i1 j (by omega) hmj
      · rw [if_neg hm] at h
        obtain ⟨i1, i2⟩ := ih1 b h
        refine ⟨fun j hj hmj => ?_, i2⟩
        by_cases e : j = k
        · subst e; exact absurd hmj hm
        · exact i1 j (by omega) hmj
    · intro h j hj
      unfold bestN at h
      by_cases hm : m k = true
      · rw [if_pos hm] at h
        cases hb : bestN m c k with
        | none => rw [hb] at h; cases h
        | some q =>
          rw [hb] at h
          simp only at h
          split at h <;> cases h
      · rw [if_neg hm] at h
        by_cases e : j = k
        · subst e; exact Bool.eq_false_iff.mpr hm
        · exact ih2 h j (by omega)
theorem bestN_is {m : Nat → Bool} {c : Nat → Nat} {k b : Nat} (h1 : b < k) (h2 : m b = true) (h3 : ∀ j, j < k → m j = true → c b ≤ c j) (h4 : ∀ j, j < b → m j = true → c b < c j) : bestN m c k = some b := by
  obtain ⟨i1, i2⟩ := bestN_spec (m := m) (c := c) (k := k)
  cases e : bestN m c k with
  | none => rw [i2 e b h1] at h2; cases h2
  | some q =>
    obtain ⟨j1, j2⟩ := i1 q e
    have hq := bestN_in e
    rcases Nat.lt_trichotomy b q with g | g | g
    · have := j2 b g h2
      have := h3 q hq.1 hq.2
      omega
    · rw [g]
    · have := h4 q g hq.2
      have := j1 b h1 h2
      omega
def bdV (A : Nt) (p d : Nat) : Nat := moO (prA 7 (ddN A p d)) (nOd A) 0 p
theorem bdV_le {A : Nt} (hO : OkN A) {p d : Nat} (hp : p < nP A) (hd : d < 8) : bdV A p d ≤ 78 := moO_le (Z := prA 7 (ddN A p d)) (prA_ok (hO.dd hd) 7) hp
def bdM (A : Nt) (p d : Nat) : Bool := decide (d = 7) || (decide (d < nD A) && mayA A p d)
def bdD (A : Nt) (p : Nat) : Nat → Nat
  | 0 => 7
  | k + 1 => if mayA A p (nD A - 1 - k) = true ∧ bdV A p (nD A - 1 - k) ≤ bdV A p (bdD A p k) then nD A - 1 - k else bdD A p k
theorem bdD_spec {A : Nt} {p : Nat} (hD : nD A ≤ 7) : ∀ k, k ≤ nD A → (bdD A p k = 7 ∨ nD A - k ≤ bdD A p k ∧ bdD A p k < nD A ∧ mayA A p (bdD A p k) = true) ∧ (∀ j, j = 7 ∨ nD A - k ≤ j ∧ j < nD A ∧ mayA A p j = true → bdV A p (bdD A p k) ≤ bdV A p j ∧ (j < bdD A p k → bdV A p (bdD A p k) < bdV A p j))
  | 0, _ => ⟨Or.inl rfl, fun j hj => by
    rcases hj with rfl | hj
    · exact ⟨Nat.le_refl _, fun h => absurd h (Nat.lt_irrefl _)⟩
    · omega⟩
  | k + 1, hk => by
    obtain ⟨i1, i2⟩ := bdD_spec hD k (by omega)
    have e : bdD A p (k + 1) = if mayA A p (nD A - 1 - k) = true ∧ bdV A p (nD A - 1 - k) ≤ bdV A p (bdD A p k) then nD A - 1 - k else bdD A p k := rfl
    rw [e]
    by_cases g : mayA A p (nD A - 1 - k) = true ∧ bdV A p (nD A - 1 - k) ≤ bdV A p (bdD A p k)
    · rw [if_pos g]
      refine ⟨Or.inr ⟨by omega, by omega, g.1⟩, fun j hj => ?_⟩
      by_cases ej : j = nD A - 1 - k
      · subst ej; exact ⟨Nat.le_refl _, fun h => absurd h (Nat.lt_irrefl _)⟩
      · have := (i2 j (by rcases hj with h | h; exact Or.inl h; exact Or.inr ⟨by omega, h.2.1, h.2.2⟩)).1
        exact ⟨by omega, fun h => by omega⟩
    · rw [if_neg g]
      refine ⟨?_, fun j hj => ?_⟩
      · rcases i1 with h | h
        · exact Or.inl h
        · exact Or.inr ⟨by omega, h.2.1, h.2.2⟩
      · by_cases ej : j = nD A - 1 - k
        · subst ej
          have hm : mayA A p (nD A - 1 - k) = true := by
            rcases hj with h | h
            · omega
            · exact h.2.2
          have : bdV A p (bdD A p k) < bdV A p (nD A - 1 - k) := by
            rcases Nat.lt_or_ge (bdV A p (bdD A p k)) (bdV A p (nD A - 1 - k)) with q | q
            · exact q
            · exact absurd ⟨hm, q⟩ g
          exact ⟨by omega, fun _ => this⟩
        · exact i2 j (by rcases hj with h | h; exact Or.inl h; exact Or.inr ⟨by omega, h.2.1, h.2.2⟩)
theorem bdD_le {A : Nt} {p : Nat} (hD : nD A ≤ 7) {k : Nat} (hk : k ≤ nD A) : bdD A p k < 8 := by
  rcases (bdD_spec (p := p) hD k hk).1 with h | h <;> omega
theorem bdD_best {A : Nt} {p : Nat} (hD : nD A ≤ 7) : bestN (bdM A p) (bdV A p) 8 = some (bdD A p (nD A)) := by
  obtain ⟨i1, i2⟩ := bdD_spec (p := p) hD (nD A) (Nat.le_refl _)
  have hm : ∀ j, bdM A p j = true → j = 7 ∨ nD A - nD A ≤ j ∧ j < nD A ∧ mayA A p j = true := fun j h => by
    unfold bdM at h
    rw [Bool.or_eq_true, Bool.and_eq_true, decide_eq_true_eq, decide_eq_true_eq] at h
    rcases h with h | h
    · exact Or.inl h
    · exact Or.inr ⟨by omega, h.1, h.2⟩
  refine bestN_is (bdD_le hD (Nat.le_refl _)) ?_ (fun j hj h => (i2 j (hm j h)).1) (fun j hj h => (i2 j (hm j h)).2 hj)
  unfold bdM
  rw [Bool.or_eq_true, Bool.and_eq_true, decide_eq_true_eq, decide_eq_true_eq]
  rcases i1 with h | h
  · exact Or.inl h
  · exact Or.inr ⟨h.2.1, h.2.2⟩
def bdF (A : Nt) (p : Nat) (o : Option Nat) : Nat := match o with | none => 1000000 | some b => bdV A p b
def bdB (o : Option Nat) : Nat := match o with | none => 7 | some b => b
theorem mayC_out {σ : St} {n : Nat} {A : Nt} (hA : AbsC σ n A) (hO : OkN A) {p d : Nat} (hp : p < nP A) (hd : nD A ≤ d) (hd2 : d < 100) : F_NI_may n (nI p) (nI d) σ = some (0, σ) := by
  have hD := hO.D
  unfold F_NI_may
  rw [hasPersonC_in hA hO hp, Option.bind_some]
  simp only [one0, if_false]
  rw [hasDeedC_out hA hO (Or.inr (nI_le hd (by omega))), Option.bind_some]
  simp only [if_true]
theorem bestDidC {σ s0 : St} {A : Nt} (hN : NowI σ A) {p : Nat} (hp : p < nP A) (h0 : Qf (nD A) σ s0) (hA0 : AbsC s0 19 A) : ∃ s, F_AC_bestDid_37 (nI p) 1000000 7 0 s0 = some (nI (bdB (bestN (bdM A p) (bdV A p) 8)), s) ∧ Qf (nD A) σ s := by
  have hO := hN.1
  have hP := hO.P
  have hD := hN.2.1.1
  obtain ⟨⟨w1, w2, w3, s⟩, ⟨e1, e2, e3, hf, _⟩, hr⟩ := fix_rel (f := G_AC_bestDid_37 (nI p)) (n := 8) (s0 := (nI 1000000, nI 7, nI 0, s0)) (fun n x => x.1 = nI (bdF A p (bestN (bdM A p) (bdV A p) n)) ∧ x.2.1 = nI (bdB (bestN (bdM A p) (bdV A p) n)) ∧ x.2.2.1 = nI n ∧ Qf (nD A) σ x.2.2.2 ∧ ∃ v, AbsC x.2.2.2 19 (ddN A p v)) (by rw [fuel_val]; omega) ⟨rfl, rfl, rfl, h0, nDi A p, by rw [ddN_self]; exact hA0⟩ (by
    rintro n ⟨w1, w2, w3, s⟩ hn ⟨e1, e2, e3, hf, v, hv⟩
    simp only at e1 e2 e3 hf hv
    subst e1; subst e2; subst e3
    have hNs := hN.q hf
    have hbn : bestN (bdM A p) (bdV A p) (n + 1) = if bdM A p n = true then (match bestN (bdM A p) (bdV A p) n with | none => some n | some b => if bdV A p n < bdV A p b then some n else some b) else bestN (bdM A p) (bdV A p) n := rfl
    have hOB : OkN (ddN A p n) := hO.dd (by omega)
    have hB : ∀ r, AbsR r (ddN A p v) → AbsR (setR r 5 p (nI n)) (ddN A p n) := fun r h => by
      have := AbsR_dd (d := p) (v := n) r h
      rwa [ddN_ddN] at this
    obtain ⟨t, b1, b2, b3, b4, b5⟩ := whatC (D := nD A) hv hB hOB (by decide) (by decide)
    have e45 : rd t 45 p = nI (bdV A p n) := (b3.2.2.2.2 p hp).2
    have hle := bdV_le hO hp hn
    have h64 : ∀ K : Int32 × Int32 × Int32 × St → Option (Int32 × St), bdM A p n = true → F_AC_bestDid_64 K (nI p) (nI (bdF A p (bestN (bdM A p) (bdV A p) n))) (nI (bdB (bestN (bdM A p) (bdV A p) n))) (nI n) s = K (nI (bdF A p (bestN (bdM A p) (bdV A p) (n + 1))), nI (bdB (bestN (bdM A p) (bdV A p) (n + 1))), nI (n + 1), t) := fun K hm => by
      unfold F_AC_bestDid_64 F_AC_bestDid_112
      rw [putC al_24 (by omega), Option.bind_some, show F_AC_tried (wr s 24 p (nI n)) = _ from b1, Option.bind_some]
      simp only
      rw [atC al_45 (by omega), Option.bind_some]
      simp only
      rw [atC al_45 (by omega), Option.bind_some]
      simp only
      rw [e45, nI_1, hbn, if_pos hm]
      cases e : bestN (bdM A p) (bdV A p) n with
      | none =>
        show (if nI 1000000 ≤ nI (bdV A p n) then _ else _) = _
        rw [if_neg (show ¬ nI 1000000 ≤ nI (bdV A p n) from nI_ge (by omega) (by decide))]
        rfl
      | some b =>
        have hb := (bestN_in e).1
        have hlb := bdV_le hO hp (show b < 8 by omega)
        show (if nI (bdV A p b) ≤ nI (bdV A p n) then _ else _) = _
        by_cases g : bdV A p n < bdV A p b
        · rw [if_neg (nI_ge g (by omega))]
          simp only [g, if_true]
          rfl
        · rw [if_pos (nI_le (by omega) (by omega))]
          simp only [g, if_false]
    cases hm : bdM A p n with
    | true =>
      refine ⟨(nI (bdF A p (bestN (bdM A p) (bdV A p) (n + 1))), nI (bdB (bestN (bdM A p) (bdV A p) (n + 1))), nI (n + 1), t), ⟨rfl, rfl, rfl, hf.tr b2, n, b4⟩, fun K => ?_⟩
      rw [← h64 K hm]
      show H_AC_bestDid_37 (nI p) K _ _ (nI n) s = _
      unfold H_AC_bestDid_37
      rw [if_neg (show ¬ (7 : Int32) < nI n from nI_nlt (a := 7) (by omega) (by omega))]
      by_cases h7 : n = 7
      · rw [if_pos (by rw [h7]; rfl)]
      · rw [if_neg (show ¬ nI n = (7 : Int32) from fun c => h7 (nI_inj (b := 7) (by omega) (by decide) c))]
        have hm2 : n < nD A ∧ mayA A p n = true := by
          unfold bdM at hm
          rw [Bool.or_eq_true, Bool.and_eq_true, decide_eq_true_eq, decide_eq_true_eq] at hm
          exact hm.resolve_left h7
        rw [mayC isNI_1 hNs.2.2.1 hO hp hm2.1, Option.bind_some, hm2.2]
        simp only [zI_t, one0, if_false]
    | false =>
      have hbn2 : bestN (bdM A p) (bdV A p) (n + 1) = bestN (bdM A p) (bdV A p) n := by rw [hbn, hm]; rfl
      refine ⟨(nI (bdF A p (bestN (bdM A p) (bdV A p) (n + 1))), nI (bdB (bestN (bdM A p) (bdV A p) (n + 1))), nI (n + 1), s), ⟨rfl, rfl, rfl, hf, v, hv⟩, fun K => ?_⟩
      show H_AC_bestDid_37 (nI p) K (nI (bdF A p (bestN (bdM A p) (bdV A p) n))) (nI (bdB (bestN (bdM A p) (bdV A p) n))) (nI n) s = _
      have h7 : n ≠ 7 := fun c => by
        subst c
        unfold bdM at hm
        simp at hm
      unfold H_AC_bestDid_37 F_AC_bestDid_112
      rw [if_neg (show ¬ (7 : Int32) < nI n from nI_nlt (a := 7) (by omega) (by omega)), if_neg (show ¬ nI n = (7 : Int32) from fun c => h7 (nI_inj (b := 7) (by omega) (by decide) c)), hbn2, nI_1]
      by_cases hnD : n < nD A
      · have hm2 : mayA A p n = false := by
          unfold bdM at hm
          rw [Bool.or_eq_false_iff, Bool.and_eq_false_iff] at hm
          rcases hm.2 with q | q
          · exact absurd hnD (of_decide_eq_false q)
          · exact q
        rw [mayC isNI_1 hNs.2.2.1 hO hp hnD, Option.bind_some, hm2]
        simp only [zI_f, if_true]
      · rw [mayC_out hNs.2.2.1 hO hp (by omega) (by omega), Option.bind_some]
        simp only [if_true])
  simp only at e1 e2 e3 hf
  refine ⟨s, ?_, hf⟩
  unfold F_AC_bestDid_37
  refine hr _ (fun K => ?_)
  show H_AC_bestDid_37 (nI p) K w1 w2 w3 s = _
  unfold H_AC_bestDid_37
  rw [e3, if_pos (show (7 : Int32) < nI 8 by decide), e2]
theorem havingM {σ : St} {A : Nt} (hN : NowI σ A) {p d : Nat} (hp : p < nP A) (hd : d < 8) : ∃ s, F_MD_monthsHaving (nI p) (nI d) σ = some (nI (bdV A p d), s) ∧ Fr [73, 74] σ s := by
  have hO := hN.1
  have hP := hO.P
  have hOB : OkN (ddN A p d) := hO.dd hd
  obtain ⟨t, b1, b2, b3, b4, b5, b6⟩ := whatM hN (AbsR_dd (d := p) (v := d)) hOB (by decide) (by decide)
  refine ⟨wr t 64 p (rd σ 64 p), ?_, b6⟩
  unfold F_MD_monthsHaving
  rw [ldk al_64 (by omega), Option.bind_some, stk al_64 (by omega), Option.bind_some, show F_MD_goes (wr σ 64 p (nI d)) = _ from b1, Option.bind_some, hasMonthsM b3 hOB hp (b4 p hp) (fun e he => tkO_in he), Option.bind_some]
  simp only
  rw [stk al_64 (by omega), Option.bind_some]
  rfl
theorem bestDidM {σ : St} {A : Nt} (hN : NowI σ A) {p : Nat} (hp : p < nP A) : ∃ s, F_MD_bestDid_24 (nI p) 7 (nI (nD A) - 1) σ = some (nI (bdD A p (nD A)), s) ∧ Fr [73, 74] σ s := by
  have hO := hN.1
  have hP := hO.P
  have hD := hN.2.1.1
  obtain ⟨⟨w1, w2, s⟩, ⟨e1, e2, hf⟩, hr⟩ := fix_rel (f := G_MD_bestDid_24 (nI p)) (n := nD A) (s0 := (nI 7, nI (nD A) - 1, σ)) (fun k x => x.1 = nI (bdD A p k) ∧ x.2.1 = nI (nD A - k) - 1 ∧ Fr [73, 74] σ x.2.2) (by rw [fuel_val]; omega) ⟨rfl, rfl, Fr.rf⟩ (by
    rintro k ⟨w1, w2, s⟩ hk ⟨e1, e2, hf⟩
    simp only at e1 e2 hf
    rw [nI_dec (by omega)] at e2
    subst e1
    obtain ⟨d, hd⟩ : ∃ d, d = nD A - 1 - k := ⟨_, rfl⟩
    rw [show nD A - k - 1 = d by omega] at e2
    subst e2
    have hdD : d < nD A := by omega
    have hNs : NowI s A := hN.q (Qf.of hf (by decide))
    have hb8 := bdD_le (p := p) hD (show k ≤ nD A by omega)
    have e : bdD A p (k + 1) = if mayA A p d = true ∧ bdV A p d ≤ bdV A p (bdD A p k) then d else bdD A p k := by rw [hd]; rfl
    have ed : nI d - 1 = nI (nD A - (k + 1)) - 1 := by rw [show nD A - (k + 1) = d by omega]
    cases hm : mayA A p d with
    | false =>
      rw [hm] at e
      refine ⟨(nI (bdD A p (k + 1)), nI (nD A - (k + 1)) - 1, s), ⟨rfl, rfl, hf⟩, fun K => ?_⟩
      show H_MD_bestDid_24 (nI p) K (nI (bdD A p k)) (nI d) s = _
      unfold H_MD_bestDid_24 F_MD_bestDid_54
      rw [if_neg (nI_pos (by omega)), mayM hNs.2.2.2.1 hO hp hdD, Option.bind_some, hm]
      simp only [zI_f, if_true]
      rw [e, if_neg (fun c => by cases c.1), ed]
    | true =>
      rw [hm] at e
      obtain ⟨t1, b1, b2⟩ := havingM hNs hp (d := d) (by omega)
      have hN1 : NowI t1 A := hNs.q (Qf.of b2 (by decide))
      obtain ⟨t2, c1, c2⟩ := havingM hN1 hp hb8
      have l1 := bdV_le hO hp (show d < 8 by omega)
      have l2 := bdV_le hO hp hb8
      refine ⟨(nI (bdD A p (k + 1)), nI (nD A - (k + 1)) - 1, t2), ⟨rfl, rfl, (hf.two b2).two c2⟩, fun K => ?_⟩
      show H_MD_bestDid_24 (nI p) K (nI (bdD A p k)) (nI d) s = _
      unfold H_MD_bestDid_24 F_MD_bestDid_54
      rw [if_neg (nI_pos (by omega)), mayM hNs.2.2.2.1 hO hp hdD, Option.bind_some, hm]
      simp only [zI_t, one0, if_false]
      rw [b1, Option.bind_some]
      simp only
      rw [c1, Option.bind_some]
      simp only
      rw [e, ed]
      by_cases g : bdV A p d ≤ bdV A p (bdD A p k)
      · rw [if_neg (nI_nlt g (by omega)), if_pos ⟨rfl, g⟩]
      · rw [if_pos (nI_lt (by omega) (by omega)), if_neg (fun c => g c.2)])
  simp only at e1 e2 hf
  refine ⟨s, ?_, hf⟩
  unfold F_MD_bestDid_24
  refine hr _ (fun K => ?_)
  show H_MD_bestDid_24 (nI p) K w1 w2 s = _
  unfold H_MD_bestDid_24
  rw [e2, Nat.sub_self, if_pos (by decide), e1]
theorem op_bestDid (a : Int32) : Ask (F_AC_bestDid a) (F_MD_bestDid a) := by
  intro σ h
  obtain ⟨A, hall⟩ := id h
  have hN := hall.1
  obtain ⟨hO, hD, hA, hM, hg⟩ := id hN
  rcases perC hA hO a with ⟨p, hp, rfl⟩ | ho
  · obtain ⟨s1, a1, hN1, a3, a4⟩ := trialC hN
    obtain ⟨s2, b1, b2⟩ := bestDidC hN hp a3 a4
    have hN2 := hN.q b2
    obtain ⟨s3, c1, c2⟩ := bestDidM hN2 hp
    refine ⟨nI (bdD A p (nD A)), s2, s3, ?_, ?_, INV.q hall (b2.tr (Qf.of c2 (by decide)))⟩
    · unfold F_AC_bestDid
      rw [hasPersonC_in hA hO hp, Option.bind_some, if1, a1, Option.bind_some, b1, bdD_best hD.1]
      rfl
    · unfold F_MD_bestDid
      rw [isPersonM_in hN2.2.2.2.1 hO hp, Option.bind_some, if1, Option.bind_some, show rd s2 58 9 = nI (nD A) from hN2.2.2.2.1.1.1]
      exact c1
  · refine Ask.no h (k := 1) (x := -1) (by decide) (by decide) ?_ (fun τ hτ => ?_)
    · unfold F_AC_bestDid
      rw [hasPersonC_out hA hO ho, Option.bind_some, if0, bid]
    · unfold F_MD_bestDid
      rw [isPersonM_out (hN.r57 hτ).2.2.2.1 ho, Option.bind_some, if0, bid]
