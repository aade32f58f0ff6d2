-- night: the model reads
theorem nI_sum (a b : Nat) : nI a + nI b = nI (a + b) := (Int32.ofNat_add a b).symm
theorem dgt_112 : dgt 112 = 5 := rfl
theorem dgt_n112 {v : Nat} (h : dgt v ≠ 0) (h2 : v ≠ 112) : dgt v = 2 := by
  unfold dgt at h ⊢
  rw [if_neg h2] at h ⊢
  repeat' split
  all_goals first | rfl | skip
  all_goals simp_all
def TxM (s : St) (t : Nat → Nat) (c : Nat) : Prop := rd s 58 15 = nI c ∧ ∀ j, j < c → rd s 68 j = nI (t j)
theorem TxM.un {s s' : St} {t : Nat → Nat} {c : Nat} (h : TxM s t c) (h1 : rd s' 58 15 = rd s 58 15) (h2 : ∀ j, rd s' 68 j = rd s 68 j) : TxM s' t c := ⟨h1.trans h.1, fun j hj => (h2 j).trans (h.2 j hj)⟩
theorem nextM {s : St} {t : Nat → Nat} {c q : Nat} (hx : TxM s t c) (hc : c ≤ 96) (h16 : rd s 58 16 = nI q) (hq : q ≤ 200) : F_MD_next s = some (if q < c then nI (t q) else -1, s) := by
  unfold F_MD_next
  rw [hx.1, h16]
  by_cases g : q < c
  · rw [if_neg (nI_ge g (by omega)), if_pos g, ldk al_68 (by omega), Option.bind_some, hx.2 q g]
  · rw [if_pos (nI_le (by omega) (by omega)), if_neg g]
theorem inDig {t : Nat → Nat} {c q : Nat} (ht : ∀ j, j < c → t j < 256) (s : St) : F_MD_isIn (if q < c then nI (t q) else -1) 48 57 s = some (zI (dgB t c q), s) := by
  unfold F_MD_isIn F_MD_isIn_14
  by_cases g : q < c
  · have := ht q g
    rw [if_pos g]
    by_cases g2 : t q < 48
    · rw [if_pos (show nI (t q) < 48 from nI_lt (b := 48) g2 (by decide)), show dgB t c q = false from decide_eq_false (by omega)]; rfl
    · rw [if_neg (show ¬ nI (t q) < 48 from nI_nlt (a := t q) (b := 48) (by omega) (by omega))]
      by_cases g3 : t q ≤ 57
      · rw [if_neg (show ¬ (57 : Int32) < nI (t q) from nI_nlt (a := 57) g3 (by decide)), show dgB t c q = true from decide_eq_true ⟨g, by omega, g3⟩]; rfl
      · rw [if_pos (show (57 : Int32) < nI (t q) from nI_lt (a := 57) (by omega) (by omega)), show dgB t c q = false from decide_eq_false (by omega)]; rfl
  · rw [if_neg g, if_pos (by decide), show dgB t c q = false from decide_eq_false (by omega)]; rfl
def vlN (t : Nat → Nat) (q : Nat) : Nat → Nat
  | 0 => 0
  | m + 1 => 10 * vlN t q m + (t (q + m) - 48)
theorem dgB_in {t : Nat → Nat} {c j : Nat} (h : dgB t c j = true) : j < c ∧ 48 ≤ t j ∧ t j ≤ 57 := of_decide_eq_true h
theorem readM {s : St} {t : Nat → Nat} {c q m a : Nat} (hx : TxM s t c) (hc : c ≤ 96) (ht : ∀ j, j < c → t j < 256) (h16 : rd s 58 16 = nI q) (hq : q ≤ 150) (hm : m ≤ 3) (ha : a < 144) : ((∀ l, l < m → dgB t c (q + l) = true) ∧ ∃ s', F_MD_readsDigits (nI a) (nI m) s = some (1, s') ∧ rd s' 58 16 = nI (q + m) ∧ rd s' 71 a = nI (vlN t q m) ∧ ∀ b j, ¬ (b = 58 ∧ j = 16 ∨ b = 71 ∧ j = a) → rd s' b j = rd s b j) ∨ ∃ i, i < m ∧ (∀ l, l < i → dgB t c (q + l) = true) ∧ dgB t c (q + i) = false ∧ ∃ s', F_MD_readsDigits (nI a) (nI m) s = some (0, s') ∧ rd s' 58 16 = nI (q + i) ∧ ∀ b j, ¬ (b = 58 ∧ j = 16) → rd s' b j = rd s b j := by
  have hfin := fix_inv (f := G_MD_readsDigits_5 (nI a) (nI m)) (n := m) (s0 := (nI 0, nI 0, s)) (fun k x => x.1 = nI (vlN t q k) ∧ x.2.1 = nI k ∧ rd x.2.2 58 16 = nI (q + k) ∧ (∀ l, l < k → dgB t c (q + l) = true) ∧ ∀ b j, ¬ (b = 58 ∧ j = 16) → rd x.2.2 b j = rd s b j) (fun o => ((∀ l, l < m → dgB t c (q + l) = true) ∧ ∃ s', o = some (1, s') ∧ rd s' 58 16 = nI (q + m) ∧ rd s' 71 a = nI (vlN t q m) ∧ ∀ b j, ¬ (b = 58 ∧ j = 16 ∨ b = 71 ∧ j = a) → rd s' b j = rd s b j) ∨ ∃ i, i < m ∧ (∀ l, l < i → dgB t c (q + l) = true) ∧ dgB t c (q + i) = false ∧ ∃ s', o = some (0, s') ∧ rd s' 58 16 = nI (q + i) ∧ ∀ b j, ¬ (b = 58 ∧ j = 16) → rd s' b j = rd s b j) (by rw [fuel_val]; omega) ⟨rfl, rfl, h16, fun l hl => absurd hl (Nat.not_lt_zero _), fun b j _ => rfl⟩ (by
    rintro k ⟨v3, v4, s1⟩ hk ⟨e1, e2, e3, e4, e5⟩
    simp only at e1 e2 e3 e4 e5
    subst e1; subst e2
    have hx1 : TxM s1 t c := hx.un (e5 58 15 (by omega)) (fun j => e5 68 j (by omega))
    have hnx := nextM hx1 hc e3 (by omega)
    have hin := inDig (q := q + k) ht s1
    cases hb : dgB t c (q + k) with
    | false =>
      right
      refine ⟨_, Or.inr ⟨k, hk, e4, hb, s1, rfl, e3, e5⟩, fun K => ?_⟩
      show H_MD_readsDigits_5 (nI a) (nI m) K (nI (vlN t q k)) (nI k) s1 = _
      unfold H_MD_readsDigits_5
      rw [if_neg (nI_ge hk (by omega)), hnx, Option.bind_some, hin, Option.bind_some, hb]
      exact if_pos rfl
    | true =>
      left
      obtain ⟨g1, g2, g3⟩ := dgB_in hb
      refine ⟨(nI (vlN t q (k + 1)), nI (k + 1), wr s1 58 16 (nI (q + (k + 1)))), ⟨rfl, rfl, rd_wr_same _ _ _ _, fun l hl => ?_, fun b j w => by rw [rd_wr, if_neg w]; exact e5 b j w⟩, fun K => ?_⟩
      · by_cases e : l = k
        · rw [e]; exact hb
        · exact e4 l (by omega)
      · show H_MD_readsDigits_5 (nI a) (nI m) K (nI (vlN t q k)) (nI k) s1 = _
        unfold H_MD_readsDigits_5
        rw [if_neg (nI_ge hk (by omega)), hnx, Option.bind_some, hin, Option.bind_some, hb, if_neg (show ¬ (zI true) = 0 by decide), hnx, Option.bind_some, if_pos g1, ten_nI, show (48 : Int32) = nI 48 from rfl, pk_sub (by omega), Option.bind_some, e3, nI_1, nI_1, Option.bind_some]
        rw [show 10 * vlN t q k + t (q + k) - 48 = vlN t q (k + 1) by
          show _ = 10 * vlN t q k + (t (q + k) - 48)
          omega]
        rfl) (by
    rintro ⟨v3, v4, s1⟩ ⟨e1, e2, e3, e4, e5⟩
    simp only at e1 e2 e3 e4 e5
    subst e1; subst e2
    refine ⟨_, Or.inl ⟨e4, wr s1 71 a (nI (vlN t q m)), rfl, by rw [rd_wr_cell _ _ _ _ (by decide)]; exact e3, rd_wr_same _ _ _ _, fun b j w => by rw [rd_wr, if_neg (fun z => w (Or.inr z))]; exact e5 b j (fun z => w (Or.inl z))⟩, fun K => ?_⟩
    show H_MD_readsDigits_5 (nI a) (nI m) K (nI (vlN t q m)) (nI m) s1 = _
    unfold H_MD_readsDigits_5
    rw [if_pos (Int32.le_refl _), stk al_71 ha, Option.bind_some])
  exact hfin
theorem stLet {s : St} {t : Nat → Nat} {c p : Nat} (hx : TxM s t c) (hc : c ≤ 96) (ht : ∀ j, j < c → t j < 256) (h16 : rd s 58 16 = nI p) (hp : p ≤ 200) : F_MD_statement s = if p < c ∧ dgt (t p) ≠ 0 then F_MD_statement_37 (nI (t p)) s else some (0, s) := by
  unfold F_MD_statement
  rw [nextM hx hc h16 hp, Option.bind_some]
  by_cases g : p < c
  · have := ht p g
    rw [if_pos g]
    by_cases h3 : t p = 100
    · rw [h3, if_pos (show nI 100 = 100 from rfl), if_pos ⟨g, by decide⟩]
    rw [if_neg (show ¬ nI (t p) = 100 from lit_ne (k := 100) (by omega) (by decide) h3)]
    by_cases h4 : t p = 112
    · rw [h4, if_pos (show nI 112 = 112 from rfl), if_pos ⟨g, by decide⟩]
    rw [if_neg (show ¬ nI (t p) = 112 from lit_ne (k := 112) (by omega) (by decide) h4)]
    by_cases h2 : t p = 98
    · rw [h2, if_pos (show nI 98 = 98 from rfl), if_pos ⟨g, by decide⟩]
    rw [if_neg (show ¬ nI (t p) = 98 from lit_ne (k := 98) (by omega) (by decide) h2)]
    by_cases h1 : t p = 97
    · rw [h1, if_pos (show nI 97 = 97 from rfl), if_pos ⟨g, by decide⟩]
    rw [if_neg (show ¬ nI (t p) = 97 from lit_ne (k := 97) (by omega) (by decide) h1)]
    by_cases h5 : t p = 120
    · rw [h5, if_pos (show nI 120 = 120 from rfl), if_pos ⟨g, by decide⟩]
    rw [if_neg (show ¬ nI (t p) = 120 from lit_ne (k := 120) (by omega) (by decide) h5)]
    have : dgt (t p) = 0 := by unfold dgt; rw [if_neg h1, if_neg h2, if_neg h3, if_neg h4, if_neg h5]
    rw [if_neg (fun q => q.2 this)]
  · rw [if_neg (show ¬ (p < c ∧ dgt (t p) ≠ 0) from fun q => g q.1), if_neg g]
    simp only
    rw [if_neg (by decide), if_neg (by decide), if_neg (by decide), if_neg (by decide), if_neg (by decide)]
def StR (s : St) (t : Nat → Nat) (p n : Nat) : Prop := rd s 69 n = nI (t p) ∧ rd s 70 n = nI p ∧ rd s 71 (3 * n) = nI (vlN t (p + 1) 1) ∧ rd s 71 (3 * n + 1) = nI (vlN t (p + 2) (if t p = 112 then 3 else 1)) ∧ (t p = 112 → rd s 71 (3 * n + 2) = nI (vlN t (p + 5) 1))
def StF (n : Nat) (s s' : St) : Prop := ∀ b j, ¬ (b = 58 ∧ j = 16 ∨ (b = 69 ∨ b = 70) ∧ j = n ∨ b = 71 ∧ 3 * n ≤ j ∧ j < 3 * n + 3) → rd s' b j = rd s b j
theorem endM {s : St} {t : Nat → Nat} {c p : Nat} (hx : TxM s t c) (hc : c ≤ 96) (ht : ∀ j, j < c → t j < 256) (hp : p < c ∧ dgt (t p) ≠ 0) (h16 : rd s 58 16 = nI (p + 1 + dgt (t p))) (hall : ∀ l, l < dgt (t p) → dgB t c (p + 1 + l) = true) : (fltN t c p = none ∧ F_MD_statement_124 s = some (1, wr s 58 16 (nI (p + dgt (t p) + 2)))) ∨ fltN t c p = some (p + 1 + dgt (t p)) ∧ F_MD_statement_124 s = some (0, s) := by
  have hD := dgt_le (t p)
  rw [fltN_semi hp hall]
  unfold F_MD_statement_124 F_MD_statement_129
  rw [if_neg (show ¬ (1 : Int32) = 0 by decide), nextM hx hc h16 (by omega), Option.bind_some]
  by_cases g : p + 1 + dgt (t p) < c
  · have := ht _ g
    rw [if_pos g]
    by_cases g2 : t (p + 1 + dgt (t p)) = 59
    · left
      refine ⟨if_pos ⟨g, g2⟩, ?_⟩
      rw [g2, if_pos (show nI 59 = 59 from rfl), Option.bind_some]
      simp only
      rw [h16, nI_1, show p + 1 + dgt (t p) + 1 = p + dgt (t p) + 2 by omega]
    · right
      exact ⟨if_neg (fun q => g2 q.2), if_neg (show ¬ nI _ = 59 from lit_ne (k := 59) (by omega) (by decide) g2)⟩
  · right
    rw [if_neg g]
    exact ⟨if_neg (fun q => g q.1), if_neg (show ¬ (-1 : Int32) = 59 by decide)⟩
theorem stateM {s : St} {t : Nat → Nat} {c p n : Nat} (hx : TxM s t c) (hc : c ≤ 96) (ht : ∀ j, j < c → t j < 256) (h16 : rd s 58 16 = nI p) (h17 : rd s 58 17 = nI n) (hp : p ≤ 96) (hn : n < 48) : (fltN t c p = none ∧ ∃ s', F_MD_statement s = some (1, s') ∧ rd s' 58 16 = nI (p + dgt (t p) + 2) ∧ StR s' t p n ∧ StF n s s') ∨ ∃ f s', fltN t c p = some f ∧ F_MD_statement s = some (0, s') ∧ rd s' 58 16 = nI f ∧ StF n s s' := by
  have hlet := stLet hx hc ht h16 (by omega)
  by_cases g : p < c ∧ dgt (t p) ≠ 0
  · rw [if_pos g] at hlet
    rw [hlet]
    have htp := ht p g.1
    let s4 := wr (wr (wr s 69 n (nI (t p))) 70 n (nI p)) 58 16 (nI (p + 1))
    have e4 : ∀ b j, ¬ (b = 58 ∧ j = 16 ∨ (b = 69 ∨ b = 70) ∧ j = n) → rd s4 b j = rd s b j := fun b j w => by
      show rd (wr (wr (wr s 69 n (nI (t p))) 70 n (nI p)) 58 16 (nI (p + 1))) b j = _
      rw [rd_wr, if_neg (by omega), rd_wr, if_neg (by omega), rd_wr, if_neg (by omega)]
    have f4 : StF n s s4 := fun b j w => e4 b j (by omega)
    have a69 : rd s4 69 n = nI (t p) := by
      show rd (wr (wr (wr s 69 n (nI (t p))) 70 n (nI p)) 58 16 (nI (p + 1))) 69 n = _
      rw [rd_wr_cell _ _ _ _ (by decide), rd_wr_cell _ _ _ _ (by decide), rd_wr_same]
    have a70 : rd s4 70 n = nI p := by
      show rd (wr (wr (wr s 69 n (nI (t p))) 70 n (nI p)) 58 16 (nI (p + 1))) 70 n = _
      rw [rd_wr_cell _ _ _ _ (by decide), rd_wr_same]
    have a16 : rd s4 58 16 = nI (p + 1) := rd_wr_same _ _ _ _
    have hx4 : TxM s4 t c := hx.un (e4 58 15 (by omega)) (fun j => e4 68 j (by omega))
    have h0 : F_MD_statement_37 (nI (t p)) s = (F_MD_readsDigits (nI (3 * n)) (nI 1) s4).bind fun o6 => if o6.1 = 0 then (F_MD_statement_128 o6.2) else (if nI (t p) = (112 : Int32) then (F_MD_statement_101 (nI (t p)) (nI (3 * n)) (3 : Int32) (nI (3 * n + 1)) o6.2) else (F_MD_statement_101 (nI (t p)) (nI (3 * n)) (1 : Int32) (nI (3 * n + 1)) o6.2)) := by
      unfold F_MD_statement_37
      rw [h17, stk al_69 hn, Option.bind_some]
      rw [show rd (wr s 69 n (nI (t p))) 58 17 = nI n by rw [rd_wr_cell _ _ _ _ (by decide)]; exact h17, show rd (wr s 69 n (nI (t p))) 58 16 = nI p by rw [rd_wr_cell _ _ _ _ (by decide)]; exact h16, stk al_70 hn, Option.bind_some]
      rw [show rd (wr (wr s 69 n (nI (t p))) 70 n (nI p)) 58 16 = nI p by rw [rd_wr_cell _ _ _ _ (by decide), rd_wr_cell _ _ _ _ (by decide)]; exact h16, nI_1, Option.bind_some]
      rw [show rd (wr (wr (wr s 69 n (nI (t p))) 70 n (nI p)) 58 16 (nI (p + 1))) 58 17 = nI n from (e4 58 17 (by omega)).trans h17, show (3 : Int32) = nI 3 from rfl, pk_mul, Option.bind_some, nI_1]
      rfl
    rw [h0]
    rcases readM (m := 1) (a := 3 * n) hx4 hc ht a16 (by omega) (by decide) (by omega) with ⟨r1, s5, r2, r3, r4, r5⟩ | ⟨i, i1, i2, i3, s5, r2, r3, r5⟩
    · rw [r2, Option.bind_some, if_neg (show ¬ (1 : Int32) = 0 by decide)]
      have hx5 : TxM s5 t c := hx4.un (r5 58 15 (by omega)) (fun j => r5 68 j (by omega))
      have f5 : StF n s s5 := fun b j w => (r5 b j (by omega)).trans (f4 b j w)
      obtain ⟨mm, hmm⟩ : ∃ mm, mm = if t p = 112 then 3 else 1 := ⟨_, rfl⟩
      have hmm3 : mm ≤ 3 := by rw [hmm]; split <;> decide
      have h1 : (if nI (t p) = (112 : Int32) then (F_MD_statement_101 (nI (t p)) (nI (3 * n)) (3 : Int32) (nI (3 * n + 1)) s5) else (F_MD_statement_101 (nI (t p)) (nI (3 * n)) (1 : Int32) (nI (3 * n + 1)) s5)) = F_MD_statement_101 (nI (t p)) (nI (3 * n)) (nI mm) (nI (3 * n + 1)) s5 := by
        rw [hmm]
        by_cases z : t p = 112
        · rw [if_pos (show nI (t p) = 112 by rw [z]; rfl), if_pos z]; rfl
        · rw [if_neg (show ¬ nI (t p) = 112 from lit_ne (k := 112) (by omega) (by decide) z), if_neg z]; rfl
      rw [h1]
      unfold F_MD_statement_101
      have hDm : mm + 1 ≤ dgt (t p) := by
        rw [hmm]
        by_cases z : t p = 112
        · rw [if_pos z, z]; decide
        · rw [if_neg z, dgt_n112 g.2 z]; decide
      rcases readM (m := mm) (a := 3 * n + 1) hx5 hc ht (q := p + 2) r3 (by omega) hmm3 (by omega) with ⟨u1, s6, u2, u3, u4, u5⟩ | ⟨i, i1, i2, i3, s6, u2, u3, u5⟩
      · rw [u2, Option.bind_some, if_neg (show ¬ (1 : Int32) = 0 by decide)]
        have hx6 : TxM s6 t c := hx5.un (u5 58 15 (by omega)) (fun j => u5 68 j (by omega))
        have f6 : StF n s s6 := fun b j w => (u5 b j (by omega)).trans (f5 b j w)
        have d6 : ∀ l, l < mm + 1 → dgB t c (p + 1 + l) = true := fun l hl => by
          by_cases z : l = 0
          · rw [z]; exact r1 0 (by decide)
          · have := u1 (l - 1) (by omega)
            rw [show p + 2 + (l - 1) = p + 1 + l by omega] at this
            exact this
        have b69 : rd s6 69 n = nI (t p) := (u5 69 n (by omega)).trans ((r5 69 n (by omega)).trans a69)
        have b70 : rd s6 70 n = nI p := (u5 70 n (by omega)).trans ((r5 70 n (by omega)).trans a70)
        have b71 : rd s6 71 (3 * n) = nI (vlN t (p + 1) 1) := (u5 71 (3 * n) (by omega)).trans r4
        rw [hmm] at u4
        by_cases z : t p = 112
        · have hm3 : mm = 3 := by rw [hmm, if_pos z]
          have hD5 : dgt (t p) = 5 := by rw [z]; rfl
          rw [if_pos (show nI (t p) = 112 by rw [z]; rfl), show nI (3 * n) + (2 : Int32) = nI (3 * n + 2) from nI_sum _ 2]
          rcases readM (m := 1) (a := 3 * n + 2) hx6 hc ht (q := p + 5) (by rw [u3, hm3]) (by omega) (by decide) (by omega) with ⟨w1, s7, w2, w3, w4, w5⟩ | ⟨i, i1, i2, i3, s7, w2, w3, w5⟩
          · rw [show (1 : Int32) = nI 1 from rfl, w2, Option.bind_some, if_neg (show ¬ (1 : Int32) = 0 by decide)]
            have hx7 : TxM s7 t c := hx6.un (w5 58 15 (by omega)) (fun j => w5 68 j (by omega))
            have f7 : StF n s s7 := fun b j w => (w5 b j (by omega)).trans (f6 b j w)
            rcases endM hx7 hc ht g (by rw [w3, hD5]) (fun l hl => by
              by_cases y : l = 4
              · rw [y]; exact w1 0 (by decide)
              · exact d6 l (by omega)) with ⟨y1, y2⟩ | ⟨y1, y2⟩
            · left
              refine ⟨y1, _, y2, rd_wr_same _ _ _ _, ⟨?_, ?_, ?_, ?_, fun _ => ?_⟩, fun b j w => ?_⟩
              · rw [rd_wr_cell _ _ _ _ (by decide)]; exact (w5 69 n (by omega)).trans b69
              · rw [rd_wr_cell _ _ _ _ (by decide)]; exact (w5 70 n (by omega)).trans b70
              · rw [rd_wr_cell _ _ _ _ (by decide)]; exact (w5 71 _ (by omega)).trans b71
              · rw [rd_wr_cell _ _ _ _ (by decide)]; exact (w5 71 _ (by omega)).trans u4
              · rw [rd_wr_cell _ _ _ _ (by decide)]; exact w4
              · rw [rd_wr, if_neg (by omega)]; exact f7 b j w
            · right
              exact ⟨_, s7, y1, y2, by rw [w3, hD5], f7⟩
          · right
            refine ⟨p + 1 + 4, s7, fltN_dig g (by omega) (fun l hl => d6 l (by omega)) (by
              have : i = 0 := by omega
              rw [this] at i3; exact i3), ?_, by rw [w3, show i = 0 by omega], fun b j w => (w5 b j (by omega)).trans (f6 b j w)⟩
            rw [show (1 : Int32) = nI 1 from rfl, w2]
            rfl
        · have hm3 : mm = 1 := by rw [hmm, if_neg z]
          have hD2 := dgt_n112 g.2 z
          rw [if_neg (show ¬ nI (t p) = 112 from lit_ne (k := 112) (by omega) (by decide) z)]
          rcases endM hx6 hc ht g (by rw [u3, hD2, hm3]) (fun l hl => d6 l (by omega)) with ⟨y1, y2⟩ | ⟨y1, y2⟩
          · left
            refine ⟨y1, _, y2, rd_wr_same _ _ _ _, ⟨?_, ?_, ?_, ?_, fun q => absurd q z⟩, fun b j w => ?_⟩
            · rw [rd_wr_cell _ _ _ _ (by decide)]; exact b69
            · rw [rd_wr_cell _ _ _ _ (by decide)]; exact b70
            · rw [rd_wr_cell _ _ _ _ (by decide)]; exact b71
            · rw [rd_wr_cell _ _ _ _ (by decide)]; exact u4
            · rw [rd_wr, if_neg (by omega)]; exact f6 b j w
          · right
            exact ⟨_, s6, y1, y2, by rw [u3, hD2, hm3], f6⟩
      · right
        refine ⟨p + 1 + (i + 1), s6, fltN_dig g (by omega) (fun l hl => ?_) (by rw [show p + 1 + (i + 1) = p + 2 + i by omega]; exact i3), ?_, by rw [u3, show p + 1 + (i + 1) = p + 2 + i by omega], fun b j w => (u5 b j (by omega)).trans (f5 b j w)⟩
        · by_cases z : l = 0
          · rw [z]; exact r1 0 (by decide)
          · have := i2 (l - 1) (by omega)
            rw [show p + 2 + (l - 1) = p + 1 + l by omega] at this
            exact this
        · rw [u2]; rfl
    · right
      have hi0 : i = 0 := by omega
      subst hi0
      refine ⟨p + 1 + 0, s5, fltN_dig g (by omega) (fun l hl => absurd hl (Nat.not_lt_zero _)) i3, ?_, r3, fun b j w => (r5 b j (by omega)).trans (f4 b j w)⟩
      rw [r2]; rfl
  · right
    rw [if_neg g] at hlet
    exact ⟨p, s, fltN_0 g, hlet, h16, fun b j _ => rfl⟩
