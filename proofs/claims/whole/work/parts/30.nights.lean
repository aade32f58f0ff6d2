-- nights changed
def updO (σ : St) (c : Nat) (o : Option Nat) (x : Int32) : St := match o with | some q => wr σ c q x | none => σ
theorem rd_updO (σ : St) (c : Nat) (o : Option Nat) (x : Int32) (b j : Nat) : rd (updO σ c o x) b j = if b = c ∧ o = some j then x else rd σ b j := by
  cases o with
  | none => rw [if_neg (fun q => by cases q.2)]; rfl
  | some q =>
    show rd (wr σ c q x) b j = _
    rw [rd_wr]
    by_cases h : b = c ∧ j = q
    · rw [if_pos h, if_pos ⟨h.1, by rw [h.2]⟩]
    · rw [if_neg h, if_neg (fun w => h ⟨w.1, (Option.some.inj w.2).symm⟩)]
theorem putU {σ : St} {a len : Nat} {x : Int32} {o : Option Nat} (hal : alen a = len) (hk : ∀ q, o = some q → q < len) (hlen : len < 2 ^ 31 := by decide) : F_AC_put a (bI o) x σ = some (updO σ a o x) := putC_b hal hk hlen
theorem Fr.upd {l : List Nat} {σ : St} {c : Nat} {o : Option Nat} {x : Int32} (h : c ∈ l) : Fr l σ (updO σ c o x) := by
  cases o with
  | none => exact Fr.rf
  | some q => exact Fr.wr h
-- orders
def swV (a b x : Nat) : Nat := if x = a then b else if x = b then a else x
def sw (od : Nat → Nat) (a b : Nat) : Nat → Nat := fun k => swV a b (od k)
theorem swV_swV (a b x : Nat) : swV a b (swV a b x) = x := by
  unfold swV
  by_cases h1 : x = a
  · rw [if_pos h1]
    by_cases h2 : b = a
    · rw [if_pos h2, h2, h1]
    · rw [if_neg h2, if_pos rfl, h1]
  · rw [if_neg h1]
    by_cases h2 : x = b
    · rw [if_pos h2, if_pos rfl, h2]
    · rw [if_neg h2, if_neg h1, if_neg h2]
theorem sw_sw (od : Nat → Nat) (a b : Nat) : sw (sw od a b) a b = od := funext fun k => swV_swV a b (od k)
theorem swV_lt {P a b x : Nat} (ha : a < P) (hb : b < P) (hx : x < P) : swV a b x < P := by
  unfold swV
  split
  · exact hb
  · split
    · exact ha
    · exact hx
theorem OdOK.swp {P : Nat} {od : Nat → Nat} (h : OdOK P od) {a b : Nat} (ha : a < P) (hb : b < P) : OdOK P (sw od a b) := by
  refine ⟨fun k hk => swV_lt ha hb (h.1 k hk), fun j k hj hk e => ?_⟩
  have e2 : swV a b (swV a b (od j)) = swV a b (swV a b (od k)) := congrArg (swV a b) e
  rw [swV_swV, swV_swV] at e2
  exact h.2 j k hj hk e2
theorem swapC {σ : St} {o len P : Nat} {od : Nat → Nat} {a b : Nat} (hal : alen o = len) (hlen : len < 4000) (hP : P ≤ len) (ho : OdOK P od) (hod : ∀ k, k < P → rd σ o k = nI (od k)) (ha : a < P) (hb : b < P) (hab : a ≠ b) :
    ∃ σ', F_AC_swapPlaces o (nI P) (nI a) (nI b) σ = some σ' ∧ Fr [o] σ σ' ∧ ∀ k, k < P → rd σ' o k = nI (sw od a b k) := by
  have pa := ho.plc_lt ha
  have pb := ho.plc_lt hb
  have oa := ho.od_plc ha
  have ob := ho.od_plc hb
  have hsm : ∀ k, k < P → od k < 2 ^ 31 := fun k hk => by have := ho.1 k hk; omega
  have f1 : F_AC_placeIn o (nI P) (nI a) σ = some (nI (plc od a P), σ) := placeInC hal hP hlen pa (by rw [hod _ pa, oa]) (fun j hj e => by
    rw [hod j (by omega)] at e
    have := nI_inj (hsm j (by omega)) (by omega) e
    have := ho.2 j _ (by omega) pa (this.trans oa.symm)
    omega)
  have f2 : F_AC_placeIn o (nI P) (nI b) σ = some (nI (plc od b P), σ) := placeInC hal hP hlen pb (by rw [hod _ pb, ob]) (fun j hj e => by
    rw [hod j (by omega)] at e
    have := nI_inj (hsm j (by omega)) (by omega) e
    have := ho.2 j _ (by omega) pb (this.trans ob.symm)
    omega)
  refine ⟨wr (wr σ o (plc od a P) (nI b)) o (plc od b P) (nI a), ?_, (Fr.wr (by simp)).two (Fr.wr (by simp)), fun k hk => ?_⟩
  · unfold F_AC_swapPlaces
    rw [f1, Option.bind_some]
    simp only
    rw [f2, Option.bind_some]
    simp only
    rw [putC hal (by omega) (by omega), Option.bind_some, putC hal (by omega) (by omega), Option.bind_some]
  · rw [rd_wr, rd_wr]
    unfold sw swV
    by_cases e1 : od k = a
    · have : k = plc od a P := ho.2 k _ hk pa (e1.trans oa.symm)
      have hne : ¬ k = plc od b P := fun q => hab (by rw [← e1, q, ob])
      rw [if_neg (fun q => hne q.2), if_pos ⟨rfl, this⟩, if_pos e1]
    · have : ¬ k = plc od a P := fun q => e1 (by rw [q, oa])
      rw [if_neg e1]
      by_cases e2 : od k = b
      · rw [if_pos ⟨rfl, ho.2 k _ hk pb (e2.trans ob.symm)⟩, if_pos e2]
      · rw [if_neg (fun q => e2 (by rw [q.2, ob])), if_neg (fun q => this q.2), if_neg e2, hod k hk]
theorem placeOfM {σ : St} {P : Nat} {od : Nat → Nat} {a : Nat} (hP : P ≤ 7) (ho : OdOK P od) (hod : ∀ k, k < P → rd σ 67 k = nI (od k)) (ha : a < P) : F_MD_placeOf (nI a) σ = some (nI (plc od a P), σ) := by
  have pa := ho.plc_lt ha
  have oa := ho.od_plc ha
  unfold F_MD_placeOf F_MD_placeOf_2
  refine fix_up (n := plc od a P) (fun j => (nI j, σ)) (by rw [fuel_val]; omega) (fun K j hj => ?_) (fun K => ?_)
  · show H_MD_placeOf_2 (nI a) K (nI j) σ = _
    unfold H_MD_placeOf_2
    rw [ldk al_67 (by omega), Option.bind_some, hod j (by omega), if_neg (fun e => by
      have h1 := ho.1 j (by omega)
      have := nI_inj (by omega) (by omega) e
      have := ho.2 j _ (by omega) pa (this.trans oa.symm)
      omega), nI_1]
  · show H_MD_placeOf_2 (nI a) K (nI _) σ = _
    unfold H_MD_placeOf_2
    rw [ldk al_67 (by omega), Option.bind_some, hod _ pa, oa, if_pos rfl]
theorem placeOfC {σ : St} {n : Nat} {A : Nt} (hn : isNI n) (hA : AbsC σ n A) (hO : OkN A) {a : Nat} (ha : a < nP A) : F_NI_placeOf n (nI a) σ = some (nI (plc (nOd A) a (nP A)), σ) := by
  have hP := hO.P
  have ho := hO.od
  have pa := ho.plc_lt ha
  have oa := ho.od_plc ha
  have hod : ∀ k, k < nP A → rd σ (n + 8) k = nI (nOd A k) := fun k hk => (hA.2.2.2 k hk).2.2.2.2.2
  unfold F_NI_placeOf
  rw [show rd σ n 1 = nI (nP A) from hA.2.1, placeInC (al_NI8 hn) hP (by decide) pa (by rw [hod _ pa, oa]) (fun j hj e => by
    rw [hod j (by omega)] at e
    have h1 := ho.1 j (by omega)
    have := nI_inj (by omega) (by omega) e
    have := ho.2 j _ (by omega) pa (this.trans oa.symm)
    omega), Option.bind_some]
theorem exchangesM {σ : St} {P : Nat} {od : Nat → Nat} {a b : Nat} (hP : P ≤ 7) (ho : OdOK P od) (hod : ∀ k, k < P → rd σ 67 k = nI (od k)) (ha : a < P) (hb : b < P) (hab : a ≠ b) :
    ∃ σ', F_MD_exchanges (nI a) (nI b) σ = some σ' ∧ Fr [67] σ σ' ∧ ∀ k, k < P → rd σ' 67 k = nI (sw od a b k) := by
  have pa := ho.plc_lt ha
  have pb := ho.plc_lt hb
  have oa := ho.od_plc ha
  have ob := ho.od_plc hb
  refine ⟨wr (wr σ 67 (plc od b P) (nI a)) 67 (plc od a P) (nI b), ?_, (Fr.wr (by simp)).two (Fr.wr (by simp)), fun k hk => ?_⟩
  · unfold F_MD_exchanges
    rw [placeOfM hP ho hod ha, Option.bind_some]
    simp only
    rw [placeOfM hP ho hod hb, Option.bind_some]
    simp only
    rw [stk al_67 (by omega), Option.bind_some, stk al_67 (by omega), Option.bind_some]
  · rw [rd_wr, rd_wr]
    unfold sw swV
    by_cases e1 : od k = a
    · rw [if_pos ⟨rfl, ho.2 k _ hk pa (e1.trans oa.symm)⟩, if_pos e1]
    · rw [if_neg e1, if_neg (fun q => e1 (by rw [q.2, oa]))]
      by_cases e2 : od k = b
      · rw [if_pos ⟨rfl, ho.2 k _ hk pb (e2.trans ob.symm)⟩, if_pos e2]
      · rw [if_neg (fun q => e2 (by rw [q.2, ob])), if_neg e2, hod k hk]
