-- from the first memory to the last call
def N0 : Nt := ((0, 0), fun _ => 0, fun _ => 0, fun _ => 0, fun _ => 0, fun _ => 0, fun _ => none, fun _ => 0, fun _ => 0)
theorem INV_start : INV σ0 := by
  have z : ∀ {P : Prop} {j : Nat}, j < 0 → P := fun h => absurd h (Nat.not_lt_zero _)
  refine ⟨N0, ⟨⟨Nat.zero_le 14, Nat.zero_le 7, fun d hd => z hd, fun p hp => z hp, fun j k hj => z hj⟩, ⟨Nat.zero_le 7, fun p hp => z hp⟩, ⟨rfl, rfl, fun d hd => z hd, fun p hp => z hp⟩, ⟨⟨rfl, rfl, fun d hd => z hd, fun p hp => z hp⟩, rfl, by decide⟩, rfl⟩, ⟨0, fun _ => N0, by decide, rfl, rfl, rfl, fun i hi => z hi⟩, ⟨0, by decide, rfl, rfl, fun j hj => z hj⟩, ⟨0, by decide, rfl, rfl, fun j hj => z hj⟩, fun j _ => rfl, Or.inl ⟨rfl, rfl⟩⟩
theorem pure_main {L : Nat} {xs : Nat → Int32} (hL : L ≤ 2048) : ∃ σ', F_LW L xs σ0 = some (1, σ') := by
  have hlt : ∀ i, i ≤ 2048 → L < i + 4 → (nI L - (4 : Int32)) < nI i := fun i hi h => by
    by_cases q : 4 ≤ L
    · rw [show (4 : Int32) = nI 4 from rfl, pk_sub q]
      exact nI_lt (by omega) (by omega)
    · rw [fa_lt, nI_toInt (show i < 2 ^ 31 by omega)]
      have e : (nI L - (4 : Int32)).toInt = (L : Int) - 4 := by
        rcases (show L = 0 ∨ L = 1 ∨ L = 2 ∨ L = 3 by omega) with e | e | e | e <;> rw [e] <;> decide
      omega
  unfold F_LW F_LW_18
  obtain ⟨q, ⟨s, rfl, hs⟩, hr⟩ := fix_rel (f := G_LW_18 L xs) (n := L / 4) (s0 := ((0 : Int32), σ0)) (fun k q => ∃ s, q = (nI (4 * k), s) ∧ INV s) (by unfold FUEL; omega) ⟨σ0, rfl, INV_start⟩ (fun k q hk hq => by
    obtain ⟨s, rfl, hs⟩ := hq
    obtain ⟨s', h1, h2⟩ := main_step (xs := xs) hL (i := 4 * k) (by omega) hs
    refine ⟨(nI (4 * (k + 1)), s'), ⟨s', rfl, h1⟩, fun K => ?_⟩
    rw [show 4 * (k + 1) = 4 * k + 4 from rfl]
    exact h2 K)
  refine ⟨s, hr _ (fun K => ?_)⟩
  show H_LW_18 L xs K (nI (4 * (L / 4))) s = some (1, s)
  unfold H_LW_18
  rw [if_pos (hlt _ (by omega) (by omega))]
