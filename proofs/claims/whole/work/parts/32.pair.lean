theorem pairC {σ : St} {n : Nat} {A : Nt} (hn : isNI n) (hA : AbsC σ n A) (hO : OkN A) {a b : Nat} (ha : a < nP A) (hb : b < nP A) (hab : a ≠ b) : ∃ σ', F_NI_pair n (nI a) (nI b) σ = some σ' ∧ Fr [n + 6] σ σ' ∧ AbsC σ' n (prN A a b) := by
  have hP := hO.P
  have e6 : ∀ k, k < nP A → rd σ (n + 6) k = bI (nB A k) := fun k hk => (hA.2.2.2 k hk).2.2.2.1
  have hin : ∀ k, k < nP A → ∀ q, nB A k = some q → q < 7 := fun k hk q e => by have := (nB_in hO hk e).1; omega
  let o2 : Option Nat := if nB A a = some b then none else nB A b
  let s1 := updO σ (n + 6) (nB A a) (-9)
  have r1 : rd s1 (n + 6) b = bI o2 := by
    show rd (updO σ (n + 6) (nB A a) (-9)) (n + 6) b = bI (if nB A a = some b then none else nB A b)
    rw [rd_updO]
    by_cases w : nB A a = some b
    · rw [if_pos ⟨rfl, w⟩, if_pos w]; rfl
    · rw [if_neg (fun q => w q.2), if_neg w, e6 b hb]
  have hf : Fr [n + 6] σ (wr (wr (updO s1 (n + 6) o2 (-9)) (n + 6) a (nI b)) (n + 6) b (nI a)) := (((Fr.upd (by simp)).two (Fr.upd (by simp))).two (Fr.wr (by simp))).two (Fr.wr (by simp))
  refine ⟨wr (wr (updO s1 (n + 6) o2 (-9)) (n + 6) a (nI b)) (n + 6) b (nI a), ?_, hf, hA.br hf (fun k hk => ?_)⟩
  · unfold F_NI_pair
    rw [atC (al_NI6 hn) (by omega), Option.bind_some, e6 a ha]
    simp only
    rw [putU (al_NI6 hn) (hin a ha), Option.bind_some]
    rw [atC (al_NI6 hn) (by omega), Option.bind_some]
    simp only
    rw [show rd (updO σ (n + 6) (nB A a) (-9)) (n + 6) b = bI o2 from r1, putU (al_NI6 hn) (fun q e => by
      have e' : (if nB A a = some b then none else nB A b) = some q := e
      by_cases w : nB A a = some b
      · rw [if_pos w] at e'; cases e'
      · rw [if_neg w] at e'; exact hin b hb q e'), Option.bind_some]
    rw [putC (al_NI6 hn) (by omega), Option.bind_some, putC (al_NI6 hn) (by omega), Option.bind_some]
  · show rd (wr (wr (updO (updO σ (n + 6) (nB A a) (-9)) (n + 6) (if nB A a = some b then none else nB A b) (-9)) (n + 6) a (nI b)) (n + 6) b (nI a)) (n + 6) k = _
    rw [rd_wr, rd_wr, rd_updO, rd_updO]
    simp only [true_and]
    by_cases k1 : k = a
    · rw [if_neg (by omega), if_pos k1, if_pos k1]; rfl
    · rw [if_neg k1]
      by_cases k2 : k = b
      · rw [if_pos k2, if_pos k2]
        simp only [k1, if_false]; rfl
      · rw [if_neg k2, if_neg k2]
        simp only [k1, if_false]
        by_cases k3 : nB A k = some a
        · have := (nB_in hO hk k3).2.2
          rw [if_pos (Or.inl k3)]
          by_cases k5 : (if nB A a = some b then none else nB A b) = some k
          · rw [if_pos k5]; rfl
          · rw [if_neg k5, if_pos this]; rfl
        · by_cases k4 : nB A k = some b
          · have := (nB_in hO hk k4).2.2
            have hn1 : ¬ nB A a = some b := fun q => k1 (by
              have := (nB_in hO ha q).2.2
              have e := ((nB_in hO hk k4).2.2).symm.trans this
              exact Option.some.inj e)
            rw [if_pos (Or.inr k4), if_pos (by rw [if_neg hn1]; exact this)]; rfl
          · have h1 : ¬ nB A a = some k := fun q => k3 (nB_in hO ha q).2.2
            have h2 : ¬ (if nB A a = some b then none else nB A b) = some k := by
              split
              · exact fun q => by cases q
              · exact fun q => k4 (nB_in hO hb q).2.2
            rw [if_neg h2, if_neg h1, if_neg (fun q => q.elim k3 k4), e6 k hk]
theorem unpairC {σ : St} {n : Nat} {A : Nt} (hn : isNI n) {a b : Nat} (hA : AbsC σ n (prN A a b)) (hO : OkN A) (ha : a < nP A) (hb : b < nP A) (hab : a ≠ b) : ∃ σ', F_NI_unpair n (nI a) (nI b) (bI (nB A a)) (bI (nB A b)) σ = some σ' ∧ Fr [n + 6] σ σ' ∧ AbsC σ' n A := by
  have hP := hO.P
  have e6 : ∀ k, k < nP A → rd σ (n + 6) k = bI (nB (prN A a b) k) := fun k hk => (hA.2.2.2 k hk).2.2.2.1
  have hin : ∀ k, k < nP A → ∀ q, nB A k = some q → q < 7 := fun k hk q e => by have := (nB_in hO hk e).1; omega
  have hf : Fr [n + 6] σ (updO (updO (wr (wr σ (n + 6) a (bI (nB A a))) (n + 6) b (bI (nB A b))) (n + 6) (nB A a) (nI a)) (n + 6) (nB A b) (nI b)) := (((Fr.wr (by simp)).two (Fr.wr (by simp))).two (Fr.upd (by simp))).two (Fr.upd (by simp))
  refine ⟨updO (updO (wr (wr σ (n + 6) a (bI (nB A a))) (n + 6) b (bI (nB A b))) (n + 6) (nB A a) (nI a)) (n + 6) (nB A b) (nI b), ?_, hf, (hA.br (B := nB A) hf (fun k hk => ?_) : AbsC _ n A)⟩
  · unfold F_NI_unpair
    rw [putC (al_NI6 hn) (by omega), Option.bind_some, putC (al_NI6 hn) (by omega), Option.bind_some, putU (al_NI6 hn) (hin a ha), Option.bind_some, putU (al_NI6 hn) (hin b hb), Option.bind_some]
  · have hk' : k < nP A := hk
    rw [rd_updO, rd_updO, rd_wr, rd_wr]
    simp only [true_and]
    by_cases w1 : nB A b = some k
    · rw [if_pos w1, (nB_in hO hb w1).2.2]; rfl
    · rw [if_neg w1]
      by_cases w2 : nB A a = some k
      · rw [if_pos w2, (nB_in hO ha w2).2.2]; rfl
      · rw [if_neg w2]
        by_cases w3 : k = b
        · rw [if_pos w3, w3]
        · rw [if_neg w3]
          by_cases w4 : k = a
          · rw [if_pos w4, w4]
          · rw [if_neg w4, e6 k hk']
            show bI (if k = a then some b else if k = b then some a else if nB A k = some a ∨ nB A k = some b then none else nB A k) = _
            rw [if_neg w4, if_neg w3, if_neg (fun q => q.elim (fun q => w2 (nB_in hO hk' q).2.2) (fun q => w1 (nB_in hO hk' q).2.2))]
theorem partsM {σ : St} {P a : Nat} {B : Nat → Option Nat} (hP : P ≤ 7) (hB : ∀ k, k < P → rd σ 65 k = bI (B k)) (ha : a < P) (hin : ∀ q, B a = some q → q < P) : F_MD_parts (nI a) σ = some (wr (updO σ 65 (B a) (-9)) 65 a (-9)) := by
  unfold F_MD_parts F_MD_parts_22
  rw [ldk al_65 (by omega), Option.bind_some, hB a ha]
  cases e : B a with
  | none =>
    rw [if_pos (show bI none < 0 from n9_neg), stk al_65 (by omega), Option.bind_some]; rfl
  | some q =>
    have := hin q e
    rw [if_neg (show ¬ bI (some q) < 0 from nI_pos (by omega)), Option.bind_some, show bI (some q) = nI q from rfl, stk al_65 (by omega), Option.bind_some, stk al_65 (by omega), Option.bind_some]; rfl
theorem brothersM {σ : St} {A : Nt} (hA : AbsM σ A) (hO : OkN A) {a b : Nat} (ha : a < nP A) (hb : b < nP A) (hab : a ≠ b) : ∃ σ', F_MD_areBrothers (nI a) (nI b) σ = some σ' ∧ Fr [65] σ σ' ∧ AbsM σ' (prN A a b) := by
  have hP := hO.P
  have e6 : ∀ k, k < nP A → rd σ 65 k = bI (nB A k) := fun k hk => (hA.2.2.2 k hk).2.2.2.1
  let B1 : Nat → Option Nat := fun k => if k = a then none else if nB A a = some k then none else nB A k
  let s1 := wr (updO σ 65 (nB A a) (-9)) 65 a (-9)
  have r1 : ∀ k, k < nP A → rd s1 65 k = bI (B1 k) := fun k hk => by
    show rd (wr (updO σ 65 (nB A a) (-9)) 65 a (-9)) 65 k = bI (if k = a then none else if nB A a = some k then none else nB A k)
    rw [rd_wr, rd_updO]
    simp only [true_and]
    by_cases w : k = a
    · rw [if_pos w, if_pos w]; rfl
    · rw [if_neg w, if_neg w]
      by_cases w2 : nB A a = some k
      · rw [if_pos w2, if_pos w2]; rfl
      · rw [if_neg w2, if_neg w2, e6 k hk]
  have hin1 : ∀ q, B1 b = some q → q < nP A := fun q e => by
    have e' : (if b = a then none else if nB A a = some b then none else nB A b) = some q := e
    rw [if_neg (Ne.symm hab)] at e'
    by_cases w : nB A a = some b
    · rw [if_pos w] at e'; cases e'
    · rw [if_neg w] at e'; exact (nB_in hO hb e').1
  have hf : Fr [65] σ (wr (wr (wr (updO s1 65 (B1 b) (-9)) 65 b (-9)) 65 a (nI b)) 65 b (nI a)) := (((((Fr.upd (by simp)).two (Fr.wr (by simp))).two (Fr.upd (by simp))).two (Fr.wr (by simp))).two (Fr.wr (by simp))).two (Fr.wr (by simp))
  refine ⟨_, ?_, hf, hA.row (A' := prN A a b) (c := 65) (by decide) hf rfl rfl rfl rfl rfl rfl (fun q => absurd rfl q) (fun _ => rfl) (fun _ => rfl) (fun k hk => ?_)⟩
  · unfold F_MD_areBrothers
    rw [partsM hP e6 ha (fun q e => (nB_in hO ha e).1), Option.bind_some]
    rw [partsM (σ := s1) hP r1 hb hin1, Option.bind_some, stk al_65 (by omega), Option.bind_some, stk al_65 (by omega), Option.bind_some]
  · rw [if_pos rfl]
    show rd (wr (wr (wr (updO (wr (updO σ 65 (nB A a) (-9)) 65 a (-9)) 65 (if b = a then none else if nB A a = some b then none else nB A b) (-9)) 65 b (-9)) 65 a (nI b)) 65 b (nI a)) 65 k = bI (if k = a then some b else if k = b then some a else if nB A k = some a ∨ nB A k = some b then none else nB A k)
    rw [rd_wr, rd_wr, rd_wr, rd_updO, rd_wr, rd_updO, if_neg (Ne.symm hab)]
    simp only [true_and]
    by_cases k1 : k = a
    · rw [if_neg (by omega), if_pos k1, if_pos k1]; rfl
    · rw [if_neg k1, if_neg k1, if_neg k1]
      by_cases k2 : k = b
      · rw [if_pos k2, if_pos k2]; rfl
      · rw [if_neg k2, if_neg k2, if_neg k2]
        by_cases k3 : nB A k = some a
        · have := (nB_in hO hk k3).2.2
          rw [if_pos (Or.inl k3)]
          by_cases k5 : (if nB A a = some b then none else nB A b) = some k
          · rw [if_pos k5]; rfl
          · rw [if_neg k5, if_pos this]; rfl
        · by_cases k4 : nB A k = some b
          · have := (nB_in hO hk k4).2.2
            have hn1 : ¬ nB A a = some b := fun q => k1 (by
              have := (nB_in hO ha q).2.2
              have e := ((nB_in hO hk k4).2.2).symm.trans this
              exact Option.some.inj e)
            rw [if_pos (Or.inr k4), if_pos (by rw [if_neg hn1]; exact this)]; rfl
          · have h1 : ¬ nB A a = some k := fun q => k3 (nB_in hO ha q).2.2
            have h2 : ¬ (if nB A a = some b then none else nB A b) = some k := by
              split
              · exact fun q => by cases q
              · exact fun q => k4 (nB_in hO hb q).2.2
            rw [if_neg h2, if_neg h1, if_neg (fun q => q.elim k3 k4), e6 k hk]
