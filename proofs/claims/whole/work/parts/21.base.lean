-- loops over a counter, and by an invariant
theorem fix_up {S O : Type} {f : (S → Option O) → S → Option O} (st : Nat → S) {n : Nat} {r : Option O} (hF : n < FUEL) (hstep : ∀ (K : S → Option O) (k : Nat), k < n → f K (st k) = K (st (k + 1))) (hend : ∀ K, f K (st n) = r) : fixF f FUEL (st 0) = r := by
  have key : ∀ (m fuel k : Nat), k + m = n → m < fuel → fixF f fuel (st k) = r := by
    intro m
    induction m with
    | zero =>
      intro fuel k hk hf
      obtain ⟨q, rfl⟩ : ∃ q, fuel = q + 1 := ⟨fuel - 1, by omega⟩
      have : k = n := by omega
      subst this
      exact hend _
    | succ m ih =>
      intro fuel k hk hf
      obtain ⟨q, rfl⟩ : ∃ q, fuel = q + 1 := ⟨fuel - 1, by omega⟩
      show f (fixF f q) (st k) = r
      rw [hstep _ k (by omega)]
      exact ih q (k + 1) (by omega) (by omega)
  exact key n FUEL 0 (by omega) hF
theorem fix_inv {S O : Type} {f : (S → Option O) → S → Option O} (I : Nat → S → Prop) (P : Option O → Prop) {n : Nat} {s0 : S} (hF : n < FUEL) (h0 : I 0 s0) (hstep : ∀ (k : Nat) (s : S), k < n → I k s → (∃ s', I (k + 1) s' ∧ ∀ K, f K s = K s') ∨ (∃ r, P r ∧ ∀ K, f K s = r)) (hend : ∀ s, I n s → ∃ r, P r ∧ ∀ K, f K s = r) : P (fixF f FUEL s0) := by
  have key : ∀ (m fuel k : Nat) (s : S), k + m = n → m < fuel → I k s → P (fixF f fuel s) := by
    intro m
    induction m with
    | zero =>
      intro fuel k s hk hf hi
      obtain ⟨q, rfl⟩ : ∃ q, fuel = q + 1 := ⟨fuel - 1, by omega⟩
      have : k = n := by omega
      subst this
      obtain ⟨r, hp, hr⟩ := hend s hi
      show P (f (fixF f q) s)
      rw [hr]; exact hp
    | succ m ih =>
      intro fuel k s hk hf hi
      obtain ⟨q, rfl⟩ : ∃ q, fuel = q + 1 := ⟨fuel - 1, by omega⟩
      show P (f (fixF f q) s)
      rcases hstep k s (by omega) hi with ⟨s', h1, h2⟩ | ⟨r, hp, hr⟩
      · rw [h2]; exact ih q (k + 1) s' (by omega) (by omega) h1
      · rw [hr]; exact hp
  exact key n FUEL 0 s0 (by omega) hF h0
/-- a loop to its end by an invariant: the state there, and what the loop gives -/
theorem fix_rel {S O : Type} {f : (S → Option O) → S → Option O} (I : Nat → S → Prop) {n : Nat} {s0 : S} (hF : n < FUEL) (h0 : I 0 s0) (hstep : ∀ (k : Nat) (s : S), k < n → I k s → ∃ s', I (k + 1) s' ∧ ∀ K, f K s = K s') : ∃ s, I n s ∧ ∀ r, (∀ K, f K s = r) → fixF f FUEL s0 = r := by
  have key : ∀ (m fuel k : Nat) (s : S), k + m = n → m < fuel → I k s → ∃ s', I n s' ∧ ∀ r, (∀ K, f K s' = r) → fixF f fuel s = r := by
    intro m
    induction m with
    | zero =>
      intro fuel k s hk hf hi
      obtain ⟨q, rfl⟩ : ∃ q, fuel = q + 1 := ⟨fuel - 1, by omega⟩
      have : k = n := by omega
      subst this
      exact ⟨s, hi, fun r hr => hr _⟩
    | succ m ih =>
      intro fuel k s hk hf hi
      obtain ⟨q, rfl⟩ : ∃ q, fuel = q + 1 := ⟨fuel - 1, by omega⟩
      obtain ⟨s1, h1, h2⟩ := hstep k s (by omega) hi
      obtain ⟨s', h3, h4⟩ := ih q (k + 1) s1 (by omega) (by omega) h1
      exact ⟨s', h3, fun r hr => by show f (fixF f q) s = r; rw [h2]; exact h4 r hr⟩
  exact key n FUEL 0 s0 (by omega) hF h0
/-- the same where the loop stands in another: one end for every continuation -/
theorem fix_relK {S O T : Type} {f : T → (S → Option O) → S → Option O} (I : Nat → S → Prop) {n : Nat} {s0 : S} (hF : n < FUEL) (h0 : I 0 s0) (hstep : ∀ (k : Nat) (s : S), k < n → I k s → ∃ s', I (k + 1) s' ∧ ∀ t K, f t K s = K s') : ∃ s, I n s ∧ ∀ t r, (∀ K, f t K s = r) → fixF (f t) FUEL s0 = r := by
  have key : ∀ (m fuel k : Nat) (s : S), k + m = n → m < fuel → I k s → ∃ s', I n s' ∧ ∀ t r, (∀ K, f t K s' = r) → fixF (f t) fuel s = r := by
    intro m
    induction m with
    | zero =>
      intro fuel k s hk hf hi
      obtain ⟨q, rfl⟩ : ∃ q, fuel = q + 1 := ⟨fuel - 1, by omega⟩
      have : k = n := by omega
      subst this
      exact ⟨s, hi, fun t r hr => hr _⟩
    | succ m ih =>
      intro fuel k s hk hf hi
      obtain ⟨q, rfl⟩ : ∃ q, fuel = q + 1 := ⟨fuel - 1, by omega⟩
      obtain ⟨s1, h1, h2⟩ := hstep k s (by omega) hi
      obtain ⟨s', h3, h4⟩ := ih q (k + 1) s1 (by omega) (by omega) h1
      exact ⟨s', h3, fun t r hr => by show f t (fixF (f t) q) s = r; rw [h2]; exact h4 t r hr⟩
  exact key n FUEL 0 s0 (by omega) hF h0
theorem fuel_val : FUEL = 4096 := rfl
-- memory
theorem rd_wr (σ : St) (a j : Nat) (x : Int32) (b k : Nat) : rd (wr σ a j x) b k = if b = a ∧ k = j then x else rd σ b k := rfl
theorem rd_wr_same (σ : St) (a j : Nat) (x : Int32) : rd (wr σ a j x) a j = x := by rw [rd_wr, if_pos ⟨rfl, rfl⟩]
theorem rd_wr_cell (σ : St) (a j : Nat) (x : Int32) {b k : Nat} (h : b ≠ a) : rd (wr σ a j x) b k = rd σ b k := by rw [rd_wr, if_neg (fun q => h q.1)]
theorem rd_wr_slot (σ : St) (a j : Nat) (x : Int32) {b k : Nat} (h : k ≠ j) : rd (wr σ a j x) b k = rd σ b k := by rw [rd_wr, if_neg (fun q => h q.2)]
theorem wr_2 (σ : St) (a j : Nat) (x : Int32) : (wr σ a j x).2 = σ.2 := rfl
theorem St_ext {σ τ : St} (h1 : ∀ b k, rd σ b k = rd τ b k) (h2 : σ.2 = τ.2) : σ = τ := Prod.ext (funext fun b => funext fun k => h1 b k) h2
/-- only the cells of the list may differ -/
def Fr (l : List Nat) (σ τ : St) : Prop := τ.2 = σ.2 ∧ ∀ b, b ∉ l → ∀ j, rd τ b j = rd σ b j
theorem Fr.rf {l : List Nat} {σ : St} : Fr l σ σ := ⟨rfl, fun _ _ _ => rfl⟩
theorem Fr.trans {l m : List Nat} {σ τ ρ : St} (h : Fr l σ τ) (k : Fr m τ ρ) : Fr (l ++ m) σ ρ := ⟨k.1.trans h.1, fun b hb j => by
  rw [List.mem_append, not_or] at hb
  rw [k.2 b hb.2, h.2 b hb.1]⟩
theorem Fr.sub {l m : List Nat} {σ τ : St} (h : Fr l σ τ) (hs : ∀ b ∈ l, b ∈ m) : Fr m σ τ := ⟨h.1, fun b hb j => h.2 b (fun q => hb (hs b q)) j⟩
theorem Fr.wr {l : List Nat} {σ : St} {a j : Nat} {x : Int32} (h : a ∈ l) : Fr l σ (wr σ a j x) := ⟨rfl, fun b hb k => rd_wr_cell _ _ _ _ (fun q => hb (q ▸ h))⟩
theorem Fr.two {l : List Nat} {σ τ ρ : St} (h : Fr l σ τ) (k : Fr l τ ρ) : Fr l σ ρ := ⟨k.1.trans h.1, fun b hb j => by rw [k.2 b hb, h.2 b hb]⟩
theorem Fr.at {l : List Nat} {σ τ : St} (h : Fr l σ τ) {b : Nat} (hb : b ∉ l) (j : Nat) : rd τ b j = rd σ b j := h.2 b hb j
-- ints that are small naturals; NONE
theorem nI_inj {a b : Nat} (ha : a < 2 ^ 31) (hb : b < 2 ^ 31) (h : nI a = nI b) : a = b := (nI_eq ha hb).mp h
def bI (o : Option Nat) : Int32 := match o with | some q => nI q | none => -9
theorem bI_none : bI none = -9 := rfl
theorem bI_some (q : Nat) : bI (some q) = nI q := rfl
def zI (b : Bool) : Int32 := if b then 1 else 0
theorem zI_t : zI true = 1 := rfl
theorem zI_f : zI false = 0 := rfl
theorem zI_0 (b : Bool) : zI b = 0 ↔ b = false := by cases b <;> decide
theorem n9_neg : (-9 : Int32) < 0 := by decide
theorem n9_ne {k : Nat} (h : k < 2 ^ 31) : nI k ≠ -9 := by
  intro q
  have a := nI_toInt h
  rw [q] at a
  have b : (-9 : Int32).toInt = -9 := by decide
  omega
theorem inB_nI {k n : Nat} (h : k < n) (hn : n < 2 ^ 31) : inB (nI k) n = true := by
  simp only [inB, nI_toInt (Nat.lt_trans h hn), Bool.and_eq_true, decide_eq_true_eq]
  omega
theorem ldA_in {σ : St} {a k : Nat} (h : k < alen a) (hn : alen a < 2 ^ 31) : ldA σ a (nI k) = some (rd σ a k) := by
  rw [ldA, if_pos (inB_nI h hn), nI_clamp (Nat.lt_trans h hn)]
theorem stA_in {σ : St} {a k : Nat} {x : Int32} (h : k < alen a) (hn : alen a < 2 ^ 31) : stA σ a (nI k) x = some (wr σ a k x) := by
  rw [stA, if_pos (inB_nI h hn), nI_clamp (Nat.lt_trans h hn)]
theorem ldL_in {σ : St} {a k : Nat} (h : k < alen a) (hn : alen a < 2 ^ 31) : ldL σ a (nI k) = some (rdL σ k) := by
  rw [ldL, if_pos (inB_nI h hn), nI_clamp (Nat.lt_trans h hn)]
theorem stL_in {σ : St} {a k : Nat} {x : Int64} (h : k < alen a) (hn : alen a < 2 ^ 31) : stL σ a (nI k) x = some (wrL σ k x) := by
  rw [stL, if_pos (inB_nI h hn), nI_clamp (Nat.lt_trans h hn)]
theorem retZ_z (b : Bool) (σ : St) : retZ (zI b) σ = some (zI b, σ) := by cases b <;> rfl
-- bits
theorem shl1 {d : Nat} (h : d < 31) : (1 : Int32) <<< (nI d &&& 31) = nI (2 ^ d) := by
  have e := pk_shlN (n := 1) (nI d &&& 31) d (s_l d (by omega)) (by
    have : 2 ^ d < 2 ^ 31 := Nat.pow_lt_pow_right (by decide) h
    omega)
  rw [Nat.one_mul] at e
  exact e
theorem and_bit {n j : Nat} (hj : j < 31) : (nI n &&& nI (2 ^ j) = 0) ↔ n.testBit j = false := fa_bit hj
theorem m1_nI : (-1 : Int32) = nI (2 ^ 32 - 1) := by decide
theorem shr_nI {n d : Nat} (hn : n < 2 ^ 31) (hd : d < 32) : nI n >>> (nI d &&& 31) = nI (n / 2 ^ d) := pk_shrN hn _ d (s_l d hd)
theorem and1_nI (n : Nat) : nI n &&& 1 = nI (n % 2) := fa_mask n 1
theorem tb_div (n d : Nat) : n / 2 ^ d % 2 = (n.testBit d).toNat := by
  rw [Nat.testBit_eq_decide_div_mod_eq]
  have : n / 2 ^ d % 2 < 2 := Nat.mod_lt _ (by decide)
  by_cases h : n / 2 ^ d % 2 = 1
  · simp [h]
  · have h0 : n / 2 ^ d % 2 = 0 := by omega
    simp [h0]
theorem xor_nI (a b : Nat) : nI a ^^^ nI b = nI (a ^^^ b) := nx_xor a b
theorem nI_lt_iff {a b : Nat} (ha : a < 2 ^ 31) (hb : b < 2 ^ 31) : nI a < nI b ↔ a < b := nI_ltI ha hb
theorem n9_lt {a : Nat} (ha : a < 2 ^ 31) : ¬ nI a < 0 := nI_pos ha
