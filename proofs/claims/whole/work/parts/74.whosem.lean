-- whose: the model
theorem rdL_wrL (σ : St) (j : Nat) (x : Int64) (k : Nat) : rdL (wrL σ j x) k = if k = j then x else rdL σ k := rfl
theorem rd_wrL (σ : St) (j : Nat) (x : Int64) (b k : Nat) : rd (wrL σ j x) b k = rd σ b k := rfl
theorem ldk8 {σ : St} {k : Nat} (hk : k < 128) : ldL σ 78 (nI k) = some (rdL σ k) := by
  have : alen 78 = 128 := al_78
  exact ldL_in (by omega) (by rw [this]; decide)
theorem stk8 {σ : St} {k : Nat} {x : Int64} (hk : k < 128) : stL σ 78 (nI k) x = some (wrL σ k x) := by
  have : alen 78 = 128 := al_78
  exact stL_in (by omega) (by rw [this]; decide)
theorem canDoneM {σ : St} {A : Nt} (hM : MdN σ A 7) (hO : OkN A) (hD : nD A ≤ 7) {p d : Nat} (hp : p < nP A) (hd : d < nD A) : F_MD_canHaveDone (nI p) (nI d) σ = some (zI (cnB A p d), σ) := by
  have hP := hO.P
  have hdi := (hO.2.2.2.1 p hp).2.2.1
  have l64 : ldA σ 64 (nI p) = some (nI (nDi A p)) := by rw [ldk al_64 (by omega), show rd σ 64 p = nI (nDi A p) from (hM.1.2.2.2 p hp).2.2.1]
  unfold F_MD_canHaveDone F_MD_canHaveDone_36
  rw [l64]
  simp only [Option.bind_some, l64]
  rw [mayM hM hO hp hd]
  simp only [Option.bind_some]
  rw [retZ_z, show rd σ 58 9 = nI (nD A) from hM.1.1]
  unfold cnB
  by_cases h7 : nDi A p = 7
  · rw [if_pos (show nI (nDi A p) = (7 : Int32) by rw [h7]; rfl), decide_eq_false (fun c => c h7), Bool.false_and, Bool.and_false]
    rfl
  · rw [if_neg (show ¬ nI (nDi A p) = (7 : Int32) from fun c => h7 (nI_inj (b := 7) (by omega) (by decide) c)), decide_eq_true h7, Bool.true_and]
    by_cases hh : nDi A p < nD A
    · rw [if_neg (nI_ge hh (by omega))]
      by_cases g : nDi A p = d
      · rw [if_pos (by rw [g]), decide_eq_true (Or.inr g), Bool.and_true]
      · rw [if_neg (fun c => g (nI_inj (by omega) (by omega) c)), decide_eq_false (fun c => by rcases c with q | q; omega; exact g q), Bool.and_false]
        rfl
    · rw [if_pos (nI_le (by omega) (by omega)), decide_eq_true (Or.inl (by omega)), Bool.and_true]
theorem waysM {σ : St} {A : Nt} (hM : MdN σ A 7) (hO : OkN A) (hD : nD A ≤ 7) {rs : Option (Nat × Nat)} {v1 v2 : Int32} (hr : RSr A rs v1 v2) : ∃ s, F_MD_waysWith v1 v2 σ = some (lN (sumN (wyN A rs (nD A)) 128), s) ∧ ∀ b j, rd s b j = rd σ b j := by
  have hP := hO.P
  have hMd : ∀ s : St, (∀ b j, rd s b j = rd σ b j) → MdN s A 7 := fun s hs => hM.un (fun b j _ => hs b j)
  have hask : ∀ p d, p < nP A → d < nD A → ((nI d = v2 → nI p = v1) ↔ chT rs p d = true) := fun p d hp hd => by
    rcases hr with ⟨rfl, rfl, rfl⟩ | ⟨pe, de, rfl, hpe, hde, rfl, rfl⟩
    · exact ⟨fun _ => rfl, fun _ c => absurd c (n1_ne (by omega))⟩
    · show _ ↔ decide (d ≠ de ∨ p = pe) = true
      rw [decide_eq_true_eq]
      constructor
      · intro h
        by_cases g : d = de
        · exact Or.inr (nI_inj (by omega) (by omega) (h (by rw [g])))
        · exact Or.inl g
      · intro h c
        rcases h with h | h
        · exact absurd (nI_inj (by omega) (by omega) c) h
        · rw [h]
  -- one set
  have one : ∀ d S s (K32 K44 : Int32 × St → Option (Int64 × St)), d < nD A → S < 128 → (∀ b j, rd s b j = rd σ b j) → (∀ T, T < S → rdL s T = lN (wyN A rs d T)) → F_MD_waysWith_55 K32 K44 v1 v2 (nI d) (nI S) 0 0 s = K44 (nI S - 1, wrL s S (lN (wyN A rs (d + 1) S))) := by
    intro d S s K32 K44 hd hS hs hrow
    have hMs := hMd s hs
    unfold F_MD_waysWith_55
    refine fix_up (f := G_MD_waysWith_55 K32 K44 v1 v2 (nI d) (nI S)) (n := nP A) (fun k => (lN (sumN (fun p => if S.testBit p = true ∧ chQ A rs p d = true then wyN A rs d (S ^^^ 2 ^ p) else 0) k), nI k, s)) (by rw [fuel_val]; omega) (fun K p hp => ?_) (fun K => ?_)
    · show H_MD_waysWith_55 K32 K44 v1 v2 (nI d) (nI S) K _ (nI p) s = _
      unfold H_MD_waysWith_55 F_MD_waysWith_95 F_MD_waysWith_114
      rw [show rd s 58 10 = nI (nP A) from hMs.1.2.1, if_neg (nI_ge hp (by omega)), hasM (by omega) (by omega), Option.bind_some]
      simp only [zI_eq0]
      rw [canDoneM hMs hO hD hp hd, Option.bind_some]
      simp only [zI_eq0]
      rw [sumN, nI_1]
      cases hb : S.testBit p with
      | false => simp
      | true =>
        obtain ⟨b1, b2, b3, b4, b5⟩ := bt_in S hS p (by omega) hb
        have hx : nI S &&& ((1 : Int32) <<< (nI p &&& 31) ^^^ (-1 : Int32)) = nI (S ^^^ 2 ^ p) := by
          rw [shl1 (by omega), m1_nI, xor_nI, fa_and]
          exact congrArg nI b5
        have hld : ldL s 78 (nI S &&& ((1 : Int32) <<< (nI p &&& 31) ^^^ (-1 : Int32))) = some (lN (wyN A rs d (S ^^^ 2 ^ p))) := by
          rw [hx, ldk8 (by omega), hrow _ b1]
        rw [hld]
        simp only [Option.bind_some, Bool.true_eq_false, if_false, true_and]
        have hq : chQ A rs p d = (cnB A p d && chT rs p d) := rfl
        rw [hq]
        cases hc : cnB A p d with
        | false => simp
        | true =>
          simp only [Bool.true_eq_false, if_false, Bool.true_and]
          by_cases ht : chT rs p d = true
          · rw [if_pos ht, lN_add]
            have := (hask p d hp hd).mpr ht
            by_cases g : nI d = v2
            · rw [if_pos g, if_pos (this g)]
            · rw [if_neg g]
          · rw [if_neg ht]
            have hno : ¬ (nI d = v2 → nI p = v1) := fun c => ht ((hask p d hp hd).mp c)
            by_cases g : nI d = v2
            · rw [if_pos g, if_neg (fun c => hno (fun _ => c))]; rfl
            · exact absurd (fun c => absurd c g) hno
    · show H_MD_waysWith_55 K32 K44 v1 v2 (nI d) (nI S) K (lN (wyN A rs (d + 1) S)) (nI (nP A)) s = _
      unfold H_MD_waysWith_55
      rw [show rd s 58 10 = nI (nP A) from hMs.1.2.1, if_pos (Int32.le_refl _), stk8 hS, Option.bind_some]
  -- one deed
  have deed : ∀ d s, d < nD A → (∀ b j, rd s b j = rd σ b j) → (∀ T, T < 128 → rdL s T = lN (wyN A rs d T)) → ∃ s', (∀ b j, rd s' b j = rd σ b j) ∧ (∀ T, T < 128 → rdL s' T = lN (wyN A rs (d + 1) T)) ∧ ∀ K, F_MD_waysWith_44 K v1 v2 (nI d) 127 s = K (nI (d + 1), s') := by
    intro d s hd hs hrow
    obtain ⟨⟨w, s'⟩, ⟨hw, hs', h1⟩, hr2⟩ := fix_relK (f := fun K : Int32 × St → Option (Int64 × St) => G_MD_waysWith_44 K v1 v2 (nI d)) (n := 128) (s0 := (127, s)) (fun i q => q.1 = nI (128 - i) - 1 ∧ (∀ b j, rd q.2 b j = rd σ b j) ∧ ∀ T, T < 128 → rdL q.2 T = lN (if 128 - i ≤ T then wyN A rs (d + 1) T else wyN A rs d T)) (by rw [fuel_val]; omega) ⟨rfl, hs, fun T hT => by rw [hrow T hT, if_neg (by omega)]⟩ (by
      rintro i ⟨w, t⟩ hi ⟨hw, ht, h1⟩
      simp only at hw ht h1
      obtain ⟨S, hS⟩ : ∃ S, S = 127 - i := ⟨_, rfl⟩
      rw [nI_dec (by omega), show 128 - i - 1 = S by omega] at hw
      subst hw
      have hlow : ∀ T, T < S → rdL t T = lN (wyN A rs d T) := fun T hT => by rw [h1 T (by omega), if_neg (by omega)]
      refine ⟨(nI S - 1, wrL t S (lN (wyN A rs (d + 1) S))), ⟨by rw [show 128 - (i + 1) = S by omega], fun b j => (rd_wrL _ _ _ _ _).trans (ht b j), fun T hT => ?_⟩, fun K K' => ?_⟩
      · rw [rdL_wrL]
        by_cases e : T = S
        · rw [if_pos e, e, if_pos (by omega)]
        · rw [if_neg e, h1 T hT]
          by_cases g : 128 - i ≤ T
          · rw [if_pos g, if_pos (by omega)]
          · rw [if_neg g, if_neg (by omega)]
      · show H_MD_waysWith_44 K v1 v2 (nI d) K' (nI S) t = _
        unfold H_MD_waysWith_44
        rw [if_neg (nI_pos (by omega)), one d S t K K' hd (by omega) ht hlow])
    simp only at hw hs' h1
    refine ⟨s', hs', fun T hT => by rw [h1 T hT, if_pos (by omega)], fun K => hr2 K _ (fun K' => ?_)⟩
    show H_MD_waysWith_44 K v1 v2 (nI d) K' w s' = _
    unfold H_MD_waysWith_44
    rw [hw, if_pos (by decide), nI_1]
  obtain ⟨⟨w0, s0⟩, ⟨hw0, hs0, h10⟩, hr0⟩ := fix_rel (f := G_MD_waysWith_2 v1 v2) (n := 128) (s0 := (nI 0, σ)) (fun k q => q.1 = nI k ∧ (∀ b j, rd q.2 b j = rd σ b j) ∧ ∀ T, T < k → rdL q.2 T = lN (wyN A rs 0 T)) (by rw [fuel_val]; omega) ⟨rfl, fun _ _ => rfl, fun T hT => absurd hT (Nat.not_lt_zero _)⟩ (by
    rintro k ⟨w, t⟩ hk ⟨hw, ht, h1⟩
    simp only at hw ht h1
    subst hw
    refine ⟨(nI (k + 1), wrL t k (lN (wyN A rs 0 k))), ⟨rfl, fun b j => (rd_wrL _ _ _ _ _).trans (ht b j), fun T hT => ?_⟩, fun K => ?_⟩
    · rw [rdL_wrL]
      by_cases e : T = k
      · rw [if_pos e, e]
      · rw [if_neg e]; exact h1 T (by omega)
    · show H_MD_waysWith_2 v1 v2 K (nI k) t = _
      have e0 : wyN A rs 0 k = if k = 0 then 1 else 0 := rfl
      unfold H_MD_waysWith_2 F_MD_waysWith_23
      rw [if_neg (show ¬ (128 : Int32) ≤ nI k from nI_ge (b := 128) hk (by decide)), e0]
      by_cases e : k = 0
      · rw [if_pos (by rw [e]; rfl), stk8 hk, Option.bind_some, nI_1, if_pos e]
        rfl
      · rw [if_neg (show ¬ nI k = (0 : Int32) from fun c => e (nI_inj (b := 0) (by omega) (by decide) c)), stk8 hk, Option.bind_some, nI_1, if_neg e]
        rfl)
  simp only at hw0 hs0 h10
  obtain ⟨⟨w, s⟩, ⟨hw, hs, h1⟩, hrr⟩ := fix_rel (f := G_MD_waysWith_32 v1 v2) (n := nD A) (s0 := (nI 0, s0)) (fun d q => q.1 = nI d ∧ (∀ b j, rd q.2 b j = rd σ b j) ∧ ∀ T, T < 128 → rdL q.2 T = lN (wyN A rs d T)) (by rw [fuel_val]; omega) ⟨rfl, hs0, h10⟩ (by
    rintro d ⟨w, t⟩ hd ⟨hw, ht, h1⟩
    simp only at hw ht h1
    subst hw
    obtain ⟨t', b1, b2, b3⟩ := deed d t hd ht h1
    refine ⟨(nI (d + 1), t'), ⟨rfl, b1, b2⟩, fun K => ?_⟩
    show H_MD_waysWith_32 v1 v2 K (nI d) t = _
    unfold H_MD_waysWith_32
    rw [show rd t 58 9 = nI (nD A) from (hMd t ht).1.1, if_neg (nI_ge hd (by omega)), b3])
  simp only at hw hs h1
  refine ⟨s, ?_, hs⟩
  unfold F_MD_waysWith F_MD_waysWith_2
  refine hr0 _ (fun K => ?_)
  show H_MD_waysWith_2 v1 v2 K w0 s0 = _
  unfold H_MD_waysWith_2 F_MD_waysWith_32
  rw [hw0, if_pos (show (128 : Int32) ≤ nI 128 from Int32.le_refl _)]
  refine hrr _ (fun K' => ?_)
  show H_MD_waysWith_32 v1 v2 K' w s = _
  unfold H_MD_waysWith_32 F_MD_waysWith_146
  rw [hw, show rd s 58 9 = nI (nD A) from (hMd s hs).1.1, if_pos (Int32.le_refl _)]
  refine fix_up (f := G_MD_waysWith_146) (n := 128) (fun k => (lN (sumN (wyN A rs (nD A)) k), nI k, s)) (by rw [fuel_val]; omega) (fun K2 k hk => ?_) (fun K2 => ?_)
  · show H_MD_waysWith_146 K2 (lN (sumN (wyN A rs (nD A)) k)) (nI k) s = _
    unfold H_MD_waysWith_146
    rw [if_neg (show ¬ (128 : Int32) ≤ nI k from nI_ge (b := 128) hk (by decide)), ldk8 hk, Option.bind_some, Option.bind_some, h1 k hk, lN_add, nI_1]
    rfl
  · show H_MD_waysWith_146 K2 (lN (sumN (wyN A rs (nD A)) 128)) (nI 128) s = _
    unfold H_MD_waysWith_146
    rw [if_pos (show (128 : Int32) ≤ nI 128 from Int32.le_refl _)]
theorem op_whose (a b : Int32) : AskL (F_AC_whose a b) (F_MD_whose a b) := by
  intro σ h
  obtain ⟨A, hall⟩ := id h
  have hN := hall.1
  obtain ⟨hO, hD, hA, hM, hg⟩ := id hN
  have hP := hO.P
  have main : ∀ rs, RSr A rs a b → F_AC_whose a b σ = F_AC_whose_48 a b σ → (∀ τ, NowI τ A → F_MD_whose a b τ = F_MD_whose_32 a b τ) → ∃ r σ1 σ2, F_AC_whose a b σ = some (r, σ1) ∧ F_MD_whose a b σ1 = some (r, σ2) ∧ INV σ2 := fun rs hr h1 h2 => by
    obtain ⟨s1, a1, a2⟩ := countWaysC hA hO hD.1 hr
    have hN1 : NowI s1 A := hN.q (Qf.of a2 (by decide))
    obtain ⟨s2, b1, b2⟩ := waysM hN1.2.2.2.1 hO hD.1 hr
    have hle : sumN (wyN A rs (nD A)) 128 < 2 ^ 31 := by
      have h3 := sumN_le (n := 128) (f := wyN A rs (nD A)) (b := 7 ^ nD A) (fun k _ => wyN_le hP rs _ _)
      have h4 : 7 ^ nD A ≤ 7 ^ 7 := Nat.pow_le_pow_right (by decide) hD.1
      have h5 : (7 : Nat) ^ 7 = 823543 := by decide
      omega
    refine AskL.q hall (r := lN (sumN (wyN A rs (nD A)) 128)) (s1 := s1) (s2 := s2) ?_ ?_ ((Qf.of a2 (by decide)).tr (fun b j _ => b2 b j))
    · rw [h1]
      unfold F_AC_whose_48
      rw [a1, Option.bind_some, nI_l hle]
    · rw [h2 s1 hN1]
      unfold F_MD_whose_32
      rw [bid, b1]
  by_cases h0 : a = -1 ∧ b = -1
  · obtain ⟨rfl, rfl⟩ := h0
    refine main none (Or.inl ⟨rfl, rfl, rfl⟩) ?_ (fun τ hτ => ?_)
    · unfold F_AC_whose F_AC_whose_15
      rw [if_pos rfl, if_pos rfl, if_neg (by decide)]
    · unfold F_MD_whose
      rw [if_pos rfl, if_pos rfl]
  · have e1 : F_AC_whose a b σ = F_AC_whose_15 a b 0 σ := by
      unfold F_AC_whose F_AC_whose_14
      by_cases c : a = -1
      · rw [if_pos c, if_neg (fun d => h0 ⟨c, d⟩)]
      · rw [if_neg c]
    have e2 : ∀ τ, F_MD_whose a b τ = F_MD_whose_10 a b τ := fun τ => by
      unfold F_MD_whose
      by_cases c : a = -1
      · rw [if_pos c, if_neg (fun d => h0 ⟨c, d⟩)]
      · rw [if_neg c]
    rcases perC hA hO a with ⟨p, hp, rfl⟩ | ho
    · rcases deeC hA hO b with ⟨d, hd, rfl⟩ | ho
      · refine main (some (p, d)) (Or.inr ⟨p, d, rfl, hp, hd, rfl, rfl⟩) ?_ (fun τ hτ => ?_)
        · rw [e1]
          unfold F_AC_whose_15
          rw [if_pos rfl, hasPersonC_in hA hO hp, Option.bind_some, if1, hasDeedC_in hA hO hd, Option.bind_some, if1]
        · rw [e2]
          unfold F_MD_whose_10
          rw [isPersonM_in hτ.2.2.2.1 hO hp, Option.bind_some, if1, isDeedM_in hτ.2.2.2.1 hO hd, Option.bind_some, if1]
      · refine AskL.no h (k := 1) (x := -1) (by decide) (by decide) ?_ (fun τ hτ => ?_)
        · rw [e1]
          unfold F_AC_whose_15 F_AC_whose_42
          rw [if_pos rfl, hasPersonC_in hA hO hp, Option.bind_some, if1, hasDeedC_out hA hO ho, Option.bind_some, if0, bid]
        · rw [e2]
          unfold F_MD_whose_10 F_MD_whose_26
          rw [isPersonM_in (hN.r57 hτ).2.2.2.1 hO hp, Option.bind_some, if1, isDeedM_out (hN.r57 hτ).2.2.2.1 ho, Option.bind_some, if0, bid]
    · refine AskL.no h (k := 1) (x := -1) (by decide) (by decide) ?_ (fun τ hτ => ?_)
      · rw [e1]
        unfold F_AC_whose_15 F_AC_whose_42
        rw [if_pos rfl, hasPersonC_out hA hO ho, Option.bind_some, if0, bid]
      · rw [e2]
        unfold F_MD_whose_10 F_MD_whose_26
        rw [isPersonM_out (hN.r57 hτ).2.2.2.1 ho, Option.bind_some, if0, bid]
