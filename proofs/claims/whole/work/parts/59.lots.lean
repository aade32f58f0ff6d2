-- lots
def sdS (x : Int32) : Int32 := x * 1103515245 + 12345
def sdK (z : Int32) : Nat → Int32
  | 0 => z
  | k + 1 => sdS (sdK z k)
def sdI (z : Int32) (P : Nat) : Nat → Int32
  | 0 => z
  | i + 1 => sdK (sdI z P i) P
theorem sdS_eq (x : Int32) : x * 1103515245 + 12345 = sdS x := rfl
theorem sdK_s (z : Int32) (k : Nat) : sdK z (k + 1) = sdS (sdK z k) := rfl
theorem sdI_s (z : Int32) (P i : Nat) : sdI z P (i + 1) = sdK (sdI z P i) P := rfl
def coV (x : Int32) : Nat := x.toBitVec.toNat % 2 ^ 31 / 65536 % 2 ^ 7
theorem coV_lt (x : Int32) : coV x < 128 := Nat.mod_lt _ (by decide)
theorem coV_eq (x : Int32) : (x &&& (2147483647 : Int32)) / (65536 : Int32) - (x &&& (2147483647 : Int32)) / (65536 : Int32) / (128 : Int32) * (128 : Int32) = nI (coV x) := by
  have h1 : x &&& (2147483647 : Int32) = nI (x.toBitVec.toNat % 2 ^ 31) := pk_and x 31 (by decide)
  have hlt : x.toBitVec.toNat % 2 ^ 31 < 2 ^ 31 := Nat.mod_lt _ (by decide)
  have h2 : nI (x.toBitVec.toNat % 2 ^ 31) / (65536 : Int32) = nI (x.toBitVec.toNat % 2 ^ 31 / 65536) := pk_div (d := 65536) hlt (by decide) (by decide)
  rw [h1, h2]
  exact fa_rem (k := 7) (by omega) (by decide)
theorem AbsC.co {σ : St} {n : Nat} {A : Nt} {c c' : Nat → Nat} (h : AbsC σ n (coN A c)) (e : ∀ p, p < nP A → c p = c' p) : AbsC σ n (coN A c') := by
  refine ⟨h.1, h.2.1, h.2.2.1, fun p hp => ?_⟩
  obtain ⟨q3, q4, q5⟩ := h.2.2.2 p hp
  exact ⟨q3, by rw [show nC (coN A c') p = c p from (e p hp).symm]; exact q4, q5⟩
theorem AbsM.co {σ : St} {A : Nt} {c c' : Nat → Nat} (h : AbsM σ (coN A c)) (e : ∀ p, p < nP A → c p = c' p) : AbsM σ (coN A c') := by
  refine ⟨h.1, h.2.1, h.2.2.1, fun p hp => ?_⟩
  obtain ⟨q3, q4, q5⟩ := h.2.2.2 p hp
  exact ⟨q3, by rw [show nC (coN A c') p = c p from (e p hp).symm]; exact q4, q5⟩
theorem coN_self (A : Nt) : coN A (nC A) = A := rfl
def loN (A : Nt) (C : Nat → Nat → Nat) (i : Nat) : Nt := coN A (C i)
def loA (A : Nt) (C : Nat → Nat → Nat) (i : Nat) : Nat := allO (prA 7 (loN A C i)) (nOd A) 0
def loW (A : Nt) (C : Nat → Nat → Nat) (i : Nat) : Option Nat := mWo (prA 7 (loN A C i)) (nOd A) 0 (nP A)
def loF (A : Nt) (C : Nat → Nat → Nat) (i : Nat) : Nat := match loW A C i with | none => 1 | some _ => 0
/-- seeds and rows of the lots -/
def LoOK (A : Nt) (z : Int32) (S : Nat → Nat → Int32) (C : Nat → Nat → Nat) : Prop := S 0 0 = z ∧ (∀ i, S (i + 1) 0 = S i (nP A)) ∧ (∀ i k, sdS (S i k) = S i (k + 1)) ∧ (∀ i k, coV (S i (k + 1)) = C i k) ∧ ∀ i k, C i k < 128
theorem OkN.lo {A : Nt} (h : OkN A) {z : Int32} {S : Nat → Nat → Int32} {C : Nat → Nat → Nat} (hL : LoOK A z S C) (i : Nat) : OkN (loN A C i) := h.co (fun p _ => hL.2.2.2.2 i p)
theorem loA_le {A : Nt} (hO : OkN A) {z : Int32} {S : Nat → Nat → Int32} {C : Nat → Nat → Nat} (hL : LoOK A z S C) (i : Nat) : loA A C i ≤ 546 := allO_le (Z := prA 7 (loN A C i)) (prA_ok (hO.lo hL i) 7)
theorem lotsC {σ s0 : St} {A : Nt} (hN : NowI σ A) {n : Nat} {b z : Int32} {S : Nat → Nat → Int32} {C : Nat → Nat → Nat} (hL : LoOK A z S C) (hn : n ≤ 20) (h0 : Qf (nD A) σ s0) (hA0 : AbsC s0 19 A) : ∃ s, F_AC_lots_64 (nI n) b z 0 0 0 s0 = some (if b = 0 then nI (sumN (loA A C) n) else nI (sumN (loF A C) n), s) ∧ Qf (nD A) σ s := by
  have hO := hN.1
  have hP := hO.P
  have inner : ∀ i s (x5 x6 x7 : Int32), Qf (nD A) σ s → (∃ c, AbsC s 19 (coN A c)) → ∃ s', Qf (nD A) σ s' ∧ AbsC s' 19 (loN A C i) ∧ ∀ K, F_AC_lots_73 K (nI n) b (S i 0) x5 x6 x7 0 s = (F_AC_tried s').bind fun o3 => (some (x5 + o3.1)).bind fun x4 => if (rd o3.2 43 5) = (-9 : Int32) then (F_AC_lots_153 K (nI n) b (S i (nP A)) x4 (x6 + 1) x7 o3.2) else (F_AC_lots_153 K (nI n) b (S i (nP A)) x4 x6 x7 o3.2) := by
    rintro i s x5 x6 x7 hs ⟨c0, hc0⟩
    obtain ⟨⟨w4, w8, s'⟩, ⟨e4, e8, hf, c, hc, hcv⟩, hr⟩ := fix_relK (f := fun K : Int32 × Int32 × Int32 × Int32 × St → Option (Int32 × St) => G_AC_lots_73 K (nI n) b x5 x6 x7) (n := nP A) (s0 := (S i 0, nI 0, s)) (fun k q => q.1 = S i k ∧ q.2.1 = nI k ∧ Qf (nD A) σ q.2.2 ∧ ∃ c, AbsC q.2.2 19 (coN A c) ∧ ∀ p, p < k → c p = C i p) (by rw [fuel_val]; omega) ⟨rfl, rfl, hs, c0, hc0, fun p hp => absurd hp (Nat.not_lt_zero _)⟩ (by
      rintro k ⟨w4, w8, s⟩ hk ⟨e4, e8, hf, c, hc, hcv⟩
      simp only at e4 e8 hf hc
      subst e4; subst e8
      have hst := AbsC.st (AbsR_co (A := A) (c := c) (d := k) (v := C i k)) hc
      refine ⟨(S i (k + 1), nI (k + 1), wr s 23 k (nI (C i k))), ⟨rfl, rfl, fun b j q => ?_, _, hst, fun p hp => ?_⟩, fun K K' => ?_⟩
      · unfold Qd at q
        rw [rd_wr, if_neg (by omega)]
        exact hf b j (by unfold Qd; omega)
      · by_cases e : p = k
        · subst e; exact fput_eq _ _ _
        · rw [fput_ne _ e]; exact hcv p (by omega)
      · show H_AC_lots_73 K (nI n) b x5 x6 x7 K' (S i k) (nI k) s = _
        unfold H_AC_lots_73
        rw [show rd s 19 1 = nI (nP A) from hc.2.1, if_neg (nI_ge hk (by omega)), Option.bind_some]
        rw [sdS_eq, coV_eq, hL.2.2.1, hL.2.2.2.1, putC al_23 (by omega), Option.bind_some, nI_1])
    simp only at e4 e8 hf hc
    refine ⟨s', hf, hc.co hcv, fun K => hr K _ (fun K' => ?_)⟩
    show H_AC_lots_73 K (nI n) b x5 x6 x7 K' w4 w8 s' = _
    unfold H_AC_lots_73
    rw [e8, show rd s' 19 1 = nI (nP A) from hc.2.1, if_pos (Int32.le_refl _), e4]
  obtain ⟨⟨w4, w5, w6, w7, s⟩, ⟨e4, e5, e6, e7, hf, _⟩, hr⟩ := fix_rel (f := G_AC_lots_64 (nI n) b) (n := n) (s0 := (z, nI 0, nI 0, nI 0, s0)) (fun i q => q.1 = S i 0 ∧ q.2.1 = nI (sumN (loA A C) i) ∧ q.2.2.1 = nI (sumN (loF A C) i) ∧ q.2.2.2.1 = nI i ∧ Qf (nD A) σ q.2.2.2.2 ∧ ∃ c, AbsC q.2.2.2.2 19 (coN A c)) (by rw [fuel_val]; omega) ⟨hL.1.symm, rfl, rfl, rfl, h0, nC A, hA0⟩ (by
    rintro i ⟨w4, w5, w6, w7, s⟩ hi ⟨e4, e5, e6, e7, hf, hc⟩
    simp only at e4 e5 e6 e7 hf hc
    subst e4; subst e5; subst e6; subst e7
    obtain ⟨s', h1, h2, h3⟩ := inner i s (nI (sumN (loA A C) i)) (nI (sumN (loF A C) i)) (nI i) hf hc
    obtain ⟨t, b1, b2, b3, b4, b5⟩ := triedN (D := nD A) h2 (hO.lo hL i)
    have hv : allO (prA 7 (loN A C i)) (nOd (loN A C i)) 0 = loA A C i := rfl
    rw [hv] at b1
    have e43 : rd t 43 5 = bI (loW A C i) := b4.2.2.2.1
    refine ⟨(S (i + 1) 0, nI (sumN (loA A C) (i + 1)), nI (sumN (loF A C) (i + 1)), nI (i + 1), t), ⟨rfl, rfl, rfl, rfl, h1.tr b2, _, b3⟩, fun K => ?_⟩
    show H_AC_lots_64 (nI n) b K (S i 0) (nI (sumN (loA A C) i)) (nI (sumN (loF A C) i)) (nI i) s = _
    unfold H_AC_lots_64
    rw [if_neg (nI_ge hi (by omega)), h3, b1, Option.bind_some, Option.bind_some]
    simp only
    unfold F_AC_lots_153
    rw [e43, nI_add, nI_1, nI_1]
    have eA : sumN (loA A C) (i + 1) = sumN (loA A C) i + loA A C i := rfl
    have eF : sumN (loF A C) (i + 1) = sumN (loF A C) i + loF A C i := rfl
    rw [eA, eF, hL.2.1]
    unfold loF
    cases e : loW A C i with
    | none => rw [if_pos (show bI none = (-9 : Int32) from rfl)]
    | some q =>
      have hq : q < 7 := by
        have h1 := mWo_in (Z := prA 7 (loN A C i)) (od := nOd A) (T0 := 0) hO.od (k := nP A) (Nat.le_refl _) q e
        have h2 : zP (prA 7 (loN A C i)) = nP A := rfl
        omega
      rw [if_neg (show ¬ bI (some q) = (-9 : Int32) from n9_ne (by omega))]
      rfl)
  simp only at e4 e5 e6 e7 hf
  refine ⟨s, ?_, hf⟩
  unfold F_AC_lots_64
  refine hr _ (fun K => ?_)
  show H_AC_lots_64 (nI n) b K w4 w5 w6 w7 s = _
  unfold H_AC_lots_64
  rw [e7, if_pos (Int32.le_refl _), e5, e6]
  split <;> rfl
/-- the model's cells while lots are drawn -/
def LoM (A : Nt) (s1 s : St) : Prop := (∃ c, MdN s (coN A c) 7) ∧ ∀ b j, ¬ (b = 63 ∧ j < 7 ∨ b = 73 ∨ b = 74) → rd s b j = rd s1 b j
theorem lotsM {s1 : St} {A : Nt} (hN : NowI s1 A) {n : Nat} {b z : Int32} {S : Nat → Nat → Int32} {C : Nat → Nat → Nat} (hL : LoOK A z S C) (hn : n ≤ 20) : ∃ s, F_MD_lots_57 (nI n) b z 0 0 0 s1 = (F_MD_passesAll 1 0 s).bind (fun s3 => if b = 0 then some (nI (sumN (loA A C) n), s3) else some (nI (sumN (loF A C) n), s3)) ∧ LoM A s1 s := by
  have hO := hN.1
  have hP := hO.P
  have inner : ∀ i s (x6 x7 x8 : Int32), LoM A s1 s → ∃ s', LoM A s1 s' ∧ MdN s' (loN A C i) 7 ∧ ∀ K, F_MD_lots_66 K (nI n) b (S i 0) x6 x7 x8 0 s = (F_MD_monthsNow s').bind fun o4 => (some (x6 + o4.1)).bind fun x5 => (F_MD_firstWithout o4.2).bind fun o6 => if 0 ≤ o6.1 then (F_MD_lots_137 K (nI n) b (S i (nP A)) x5 x8 (0 : Int32) x7 o6.2) else (F_MD_lots_137 K (nI n) b (S i (nP A)) x5 x8 (1 : Int32) x7 o6.2) := by
    rintro i s x6 x7 x8 ⟨⟨c0, hc0⟩, hs⟩
    obtain ⟨⟨w4, w8, s'⟩, ⟨e4, e8, hf, c, hc, hcv⟩, hr⟩ := fix_relK (f := fun K : Int32 × Int32 × Int32 × Int32 × St → Option (Int32 × St) => G_MD_lots_66 K (nI n) b x6 x7 x8) (n := nP A) (s0 := (S i 0, nI 0, s)) (fun k q => q.1 = S i k ∧ q.2.1 = nI k ∧ (∀ b j, ¬ (b = 63 ∧ j < 7 ∨ b = 73 ∨ b = 74) → rd q.2.2 b j = rd s1 b j) ∧ ∃ c, MdN q.2.2 (coN A c) 7 ∧ ∀ p, p < k → c p = C i p) (by rw [fuel_val]; omega) ⟨rfl, rfl, hs, c0, hc0, fun p hp => absurd hp (Nat.not_lt_zero _)⟩ (by
      rintro k ⟨w4, w8, s⟩ hk ⟨e4, e8, hf, c, hc, hcv⟩
      simp only at e4 e8 hf hc
      subst e4; subst e8
      have hst := AbsM.st (kk := 4) (by decide) (AbsR_co (A := A) (c := c) (d := k) (v := C i k)) hc.1
      have hst2 : MdN (wr s 63 k (nI (C i k))) (coN A (fput c k (C i k))) 7 := ⟨hst, by rw [rd_wr, if_neg (by omega)]; exact hc.2.1, by decide⟩
      refine ⟨(S i (k + 1), nI (k + 1), wr s 63 k (nI (C i k))), ⟨rfl, rfl, fun b j q => ?_, _, hst2, fun p hp => ?_⟩, fun K K' => ?_⟩
      · rw [rd_wr, if_neg (by omega)]
        exact hf b j q
      · by_cases e : p = k
        · subst e; exact fput_eq _ _ _
        · rw [fput_ne _ e]; exact hcv p (by omega)
      · show H_MD_lots_66 K (nI n) b x6 x7 x8 K' (S i k) (nI k) s = _
        unfold H_MD_lots_66
        rw [show rd s 58 10 = nI (nP A) from hc.1.2.1, if_neg (nI_ge hk (by omega)), Option.bind_some]
        rw [sdS_eq, coV_eq, hL.2.2.1, hL.2.2.2.1, stk al_63 (by omega), Option.bind_some, nI_1])
    simp only at e4 e8 hf hc
    refine ⟨s', ⟨⟨c, hc⟩, hf⟩, ⟨hc.1.co hcv, hc.2.1, hc.2.2⟩, fun K => hr K _ (fun K' => ?_)⟩
    show H_MD_lots_66 K (nI n) b x6 x7 x8 K' w4 w8 s' = _
    unfold H_MD_lots_66
    rw [e8, show rd s' 58 10 = nI (nP A) from hc.1.2.1, if_pos (Int32.le_refl _), e4]
  obtain ⟨⟨w4, w5, w6, w7, s⟩, ⟨e4, e5, e6, e7, hf⟩, hr⟩ := fix_rel (f := G_MD_lots_57 (nI n) b) (n := n) (s0 := (z, nI 0, nI 0, nI 0, s1)) (fun i q => q.1 = S i 0 ∧ q.2.1 = nI (sumN (loA A C) i) ∧ q.2.2.1 = nI (sumN (loF A C) i) ∧ q.2.2.2.1 = nI i ∧ LoM A s1 q.2.2.2.2) (by rw [fuel_val]; omega) ⟨hL.1.symm, rfl, rfl, rfl, ⟨nC A, hN.2.2.2.1⟩, fun _ _ _ => rfl⟩ (by
    rintro i ⟨w4, w5, w6, w7, s⟩ hi ⟨e4, e5, e6, e7, hf⟩
    simp only at e4 e5 e6 e7 hf
    subst e4; subst e5; subst e6; subst e7
    obtain ⟨s', h1, h2, h3⟩ := inner i s (nI (sumN (loA A C) i)) (nI (sumN (loF A C) i)) (nI i) hf
    have hg : rd s' 58 26 = nI 0 := (h1.2 58 26 (by omega)).trans hN.2.2.2.2
    obtain ⟨t, b1, b2, b3, b4⟩ := monthsNowM h2 (hO.lo hL i) hg (by decide)
    have hv : allO (prA 7 (loN A C i)) (nOd (loN A C i)) 0 = loA A C i := rfl
    rw [hv] at b1
    have hMt : MdN t (loN A C i) 7 := h2.fr b2 (by decide)
    have hw : F_MD_firstWithout t = some (bI (loW A C i), t) := firstWithoutM hMt (hO.lo hL i) hO.od b3 b4
    refine ⟨(S (i + 1) 0, nI (sumN (loA A C) (i + 1)), nI (sumN (loF A C) (i + 1)), nI (i + 1), t), ⟨rfl, rfl, rfl, rfl, ⟨_, hMt⟩, fun b j q => ?_⟩, fun K => ?_⟩
    · rw [b2.at (by simp; omega) j]; exact h1.2 b j q
    show H_MD_lots_57 (nI n) b K (S i 0) (nI (sumN (loA A C) i)) (nI (sumN (loF A C) i)) (nI i) s = _
    unfold H_MD_lots_57
    rw [if_neg (nI_ge hi (by omega)), h3, b1, Option.bind_some, Option.bind_some]
    simp only
    unfold F_MD_lots_137
    rw [hw, Option.bind_some]
    simp only
    rw [Option.bind_some, Option.bind_some, nI_add, nI_1, nI_1]
    have eA : sumN (loA A C) (i + 1) = sumN (loA A C) i + loA A C i := rfl
    have eF : sumN (loF A C) (i + 1) = sumN (loF A C) i + loF A C i := rfl
    rw [eA, eF, hL.2.1]
    unfold loF
    cases e : loW A C i with
    | none => rw [if_neg (by decide : ¬ (0 : Int32) ≤ bI none)]
    | some q =>
      have hq : q < 7 := by
        have h1 := mWo_in (Z := prA 7 (loN A C i)) (od := nOd A) (T0 := 0) hO.od (k := nP A) (Nat.le_refl _) q e
        have h2 : zP (prA 7 (loN A C i)) = nP A := rfl
        omega
      rw [if_pos (show 0 ≤ bI (some q) from nI_pos' (by omega)), Int32.add_zero]
      rfl)
  simp only at e4 e5 e6 e7 hf
  refine ⟨s, ?_, hf⟩
  unfold F_MD_lots_57
  refine hr _ (fun K => ?_)
  show H_MD_lots_57 (nI n) b K w4 w5 w6 w7 s = _
  unfold H_MD_lots_57
  rw [e7, if_pos (Int32.le_refl _), e5, e6]
theorem lo_ex (A : Nt) (z : Int32) : ∃ S C, LoOK A z S C := ⟨fun i k => sdK (sdI z (nP A) i) k, fun i k => coV (sdK (sdI z (nP A) i) (k + 1)), rfl, fun i => sdI_s z (nP A) i, fun i k => (sdK_s (sdI z (nP A) i) k).symm, fun _ _ => rfl, fun _ _ => coV_lt _⟩
theorem SlF.mv {σ s ρ : St} {w : Nat} (h : SlF σ w ρ) (e : ∀ j, rd s 72 j = rd σ 72 j) : SlF s w ρ :=
  ⟨fun l1 t l2 q j hj => (e _).trans (h.1 l1 t l2 q j hj), (e _).trans h.2.1, (e _).trans h.2.2⟩
theorem op_lots (a z b : Int32) : Ask (F_AC_lots a z b) (F_MD_lots a z b) := by
  intro σ h
  obtain ⟨A, hall⟩ := id h
  have hN := hall.1
  have hO := hN.1
  have hP := hO.P
  have lo : ∀ τ : St, a < nI 1 → F_MD_bound a 1 20 τ = some (-4, τ) := fun τ h => by
    unfold F_MD_bound
    rw [if_neg (show ¬ (1 : Int32) ≤ a from Int32.not_le.mpr h)]
  have hno : a < nI 1 → ∃ r σ1 σ2, F_AC_lots a z b σ = some (r, σ1) ∧ F_MD_lots a z b σ1 = some (r, σ2) ∧ INV σ2 := fun ha => by
    refine Ask.no h (k := 4) (x := -4) (by decide) (by decide) ?_ (fun τ hτ => ?_)
    · unfold F_AC_lots
      rw [if_neg (show ¬ (1 : Int32) ≤ a from Int32.not_le.mpr ha), bid]
    · unfold F_MD_lots F_MD_lots_27
      rw [lo τ ha, Option.bind_some]
      simp only
      rw [if_neg (by decide), if_neg (by decide), bid]
  rcases pk_ix a (n := 21) (by decide) with ha | ha | ⟨n, hn, rfl⟩
  · refine hno ?_
    rw [fa_lt] at ha ⊢
    have e0 : (0 : Int32).toInt = 0 := by decide
    have e1 : (nI 1).toInt = 1 := by decide
    omega
  · have h20 : (20 : Int32) < a := lt_nI (n := 20) (by decide) ha
    have h1 : (1 : Int32) ≤ a := by
      rw [fa_lt] at h20
      rw [fa_le]
      have e0 : (20 : Int32).toInt = 20 := by decide
      have e1 : (1 : Int32).toInt = 1 := by decide
      omega
    refine Ask.no h (k := 6) (x := -6) (by decide) (by decide) ?_ (fun τ hτ => ?_)
    · unfold F_AC_lots
      rw [if_pos h1, if_neg (Int32.not_le.mpr h20), bid]
    · unfold F_MD_lots F_MD_lots_27 F_MD_bound
      rw [if_pos h1, if_neg (Int32.not_le.mpr h20), Option.bind_some]
      simp only
      rw [if_neg (by decide), if_neg (by decide), bid]
  · by_cases h0 : n = 0
    · exact hno (by rw [h0]; decide)
    have h1 : (1 : Int32) ≤ nI n := nI_le (a := 1) (by omega) (by omega)
    have h20 : nI n ≤ (20 : Int32) := nI_le (b := 20) (by omega) (by decide)
    have hbd : ∀ τ : St, F_MD_bound (nI n) 1 20 τ = some (0, τ) := fun τ => by
      unfold F_MD_bound
      rw [if_pos h1, if_pos h20]
    rcases isIn_01 (σ := σ) (b := b) with ⟨hb, _⟩ | ⟨hb, _⟩
    · obtain ⟨S, C, hL⟩ := lo_ex A z
      obtain ⟨s1, a1, hN1, a3, a4⟩ := trialC hN
      obtain ⟨s2, b1, b2⟩ := lotsC (b := b) (z := z) hN hL (show n ≤ 20 by omega) a3 a4
      have hN2 := hN.q b2
      obtain ⟨s3, c1, c2, c3⟩ := keepAll (σ := s2) (w := 1) (by decide)
      have hN3 : NowI s3 A := hN2.un (fun b j q => c3 b j (by omega))
      obtain ⟨s4, d1, d2⟩ := lotsM (b := b) (z := z) hN3 hL (show n ≤ 20 by omega)
      have e34 : ∀ j, rd s4 72 j = rd s3 72 j := fun j => d2.2 72 j (by omega)
      obtain ⟨s5, f1, f2, f3, f4, f5⟩ := putF (w := 1) (by decide) (c2.mv e34) (fun b hb j hj => by
        have hb' : 60 ≤ b ∧ b ≤ 67 := by
          simp only [nrows, List.mem_cons, List.not_mem_nil, or_false] at hb; omega
        rw [d2.2 b j (fun q => by
          rcases q with q | q | q
          · rw [q.1, al_63] at hj; omega
          · omega
          · omega), c3 b j (by omega)])
      have hq5 : Qf (nD A) s2 s5 := fun b j q => by
        unfold Qd at q
        by_cases hb : 60 ≤ b ∧ b ≤ 67
        · exact f2 b hb.1 hb.2 j
        · by_cases h9 : b = 58 ∧ j = 9
          · rw [h9.1, h9.2]; exact f3
          · by_cases h10 : b = 58 ∧ j = 10
            · rw [h10.1, h10.2]; exact f4
            · rw [f5 b j (by omega), d2.2 b j (by omega), c3 b j (by omega)]
      refine ⟨_, s2, s5, (?_ : F_AC_lots (nI n) z b σ = some (if b = 0 then nI (sumN (loA A C) n) else nI (sumN (loF A C) n), s2)), ?_, INV.q hall (b2.tr hq5)⟩
      · unfold F_AC_lots
        rw [if_pos h1, if_pos h20, in_01 hb, a1, Option.bind_some]
        exact b1
      · have hin : F_MD_isIn b 0 1 s2 = some (1, s2) := by
          rcases isIn_01 (σ := s2) (b := b) with ⟨_, e⟩ | ⟨hb2, _⟩
          · exact e
          · exfalso; rcases hb with rfl | rfl <;> revert hb2 <;> decide
        have d1' : F_MD_lots_57 (nI n) b z 0 0 0 s3 = _ := d1
        have c1' : F_MD_passesAll 1 1 s2 = some s3 := c1
        have f1' : F_MD_passesAll 1 0 s4 = some s5 := f1
        unfold F_MD_lots F_MD_lots_27
        rw [hbd, Option.bind_some]
        simp only [if_true]
        rw [hin, Option.bind_some]
        simp only [one0, if_false, if_true]
        rw [c1', Option.bind_some, d1', f1', Option.bind_some]
        split <;> rfl
    · refine Ask.no h (k := 2) (x := -2) (by decide) (by decide) ?_ (fun τ hτ => ?_)
      · unfold F_AC_lots F_AC_lots_34
        rw [if_pos h1, if_pos h20, out_01 hb, bid]
      · unfold F_MD_lots F_MD_lots_27
        rw [hbd, Option.bind_some]
        simp only [if_true]
        rw [show (1 : Int32) = nI 1 from rfl, isIn_out (m := 1) (by decide) hb, Option.bind_some]
        simp only [if_true]
        rw [if_neg (by decide), bid]
