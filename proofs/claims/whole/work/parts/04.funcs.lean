theorem la_78 : shp[78]? = some (.inr (true, 128)) := rfl
theorem al_78 : alen 78 = 128 := rfl
theorem lu_only : ∀ (k m : Nat), shp[k]? = some (.inr (true, m)) → k = 78 := by
  have h : ∀ k, k < 82 → (match shp[k]? with | some (.inr (true, _)) => decide (k = 78) | _ => true) = true := by decide +kernel
  intro k m hk
  have hl : k < 82 := by
    have := (List.getElem?_eq_some_iff.mp hk).1
    rwa [shp_len] at this
  have h2 := h k hl
  rw [hk] at h2
  exact of_decide_eq_true h2
def F_AC_bit_16 (s : St) : Option (Int32 × St) :=
  some ((0 : Int32), s)
def F_AC_bit (a0 : Int32) (s : St) : Option (Int32 × St) :=
  if a0 < 0 then (F_AC_bit_16 s) else (if (31 : Int32) ≤ a0 then (F_AC_bit_16 s) else (some (((1 : Int32) <<< (a0 &&& 31)), s)))
def F_NI_allDeeds (t0 : Nat) (s : St) : Option (Int32 × St) :=
  (F_AC_bit (rd s t0 0) s).bind fun o1 => some ((o1.1 - (1 : Int32)), o1.2)
def F_AC_at_16 (t0 : Nat) (s : St) : Option (Int32 × St) :=
  some ((-9 : Int32), s)
def F_AC_at (t0 : Nat) (a1 : Int32) (s : St) : Option (Int32 × St) :=
  if a1 < 0 then (F_AC_at_16 t0 s) else (if (nI (alen t0)) ≤ a1 then (F_AC_at_16 t0 s) else ((ldA s t0 a1).bind fun x1 => some (x1, s)))
def F_PR_isThere_28 (t0 : Nat) (s : St) : Option (Int32 × St) :=
  some (0, s)
def F_PR_isThere (t0 : Nat) (a1 : Int32) (a2 : Int32) (s : St) : Option (Int32 × St) :=
  if a1 < 0 then (F_PR_isThere_28 t0 s) else (if (rd s t0 0) ≤ a1 then (F_PR_isThere_28 t0 s) else (if a2 < 0 then (F_PR_isThere_28 t0 s) else (if (rd s t0 1) ≤ a2 then (F_PR_isThere_28 t0 s) else (some (1, s)))))
def F_PR_of (t0 : Nat) (a1 : Int32) (a2 : Int32) (s : St) : Option (Int32 × St) :=
  (F_PR_isThere t0 a1 a2 s).bind fun o1 => if o1.1 = 0 then (some ((60 : Int32), o1.2)) else ((F_AC_at (t0 + 1) (((a1 * (2 : Int32)) * (7 : Int32)) + a2) o1.2).bind fun o2 => some (o2.1, o2.2))
def H_AC_placeIn_2 (t0 : Nat) (v1 : Int32) (v2 : Int32) (K2 : Int32 × St → Option (Int32 × St)) (v3 : Int32) (s : St) : Option (Int32 × St) :=
  if v1 ≤ v3 then (some ((-9 : Int32), s)) else (if (nI (alen t0)) ≤ v3 then (some ((-9 : Int32), s)) else ((ldA s t0 v3).bind fun x1 => if x1 = v2 then (some (v3, s)) else (K2 ((v3 + 1), s))))
def G_AC_placeIn_2 (t0 : Nat) (v1 : Int32) (v2 : Int32) (K2 : Int32 × St → Option (Int32 × St)) (q : Int32 × St) : Option (Int32 × St) := H_AC_placeIn_2 t0 v1 v2 K2 q.1 q.2
def F_AC_placeIn_2 (t0 : Nat) (v1 : Int32) (v2 : Int32) (v3 : Int32) (s : St) : Option (Int32 × St) := fixF (G_AC_placeIn_2 t0 v1 v2) FUEL (v3, s)
def F_AC_placeIn (t0 : Nat) (a1 : Int32) (a2 : Int32) (s : St) : Option (Int32 × St) :=
  F_AC_placeIn_2 t0 a1 a2 (0 : Int32) s
def F_NI_placeOf (t0 : Nat) (a1 : Int32) (s : St) : Option (Int32 × St) :=
  (F_AC_placeIn (t0 + 8) (rd s t0 1) a1 s).bind fun o1 => some (o1.1, o1.2)
def F_PR_lightest_52 (t0 : Nat) (K10 : Int32 × Int32 × Int32 × St → Option (Int32 × St)) (v1 : Int32) (v2 : Int32) (v3 : Int32) (v4 : Int32) (v5 : Int32) (s : St) : Option (Int32 × St) :=
  K10 (v3, v4, (v5 + 1), s)
def H_PR_lightest_10 (t0 : Nat) (v1 : Int32) (v2 : Int32) (K10 : Int32 × Int32 × Int32 × St → Option (Int32 × St)) (v3 : Int32) (v4 : Int32) (v5 : Int32) (s : St) : Option (Int32 × St) :=
  if (rd s t0 1) ≤ v5 then (some (v3, s)) else ((F_AC_bit v5 s).bind fun o1 => if (v2 &&& o1.1) = 0 then (F_PR_lightest_52 t0 K10 v1 v2 v3 v4 v5 o1.2) else ((F_PR_of t0 v1 v5 o1.2).bind fun o2 => if v4 ≤ o2.1 then (F_PR_lightest_52 t0 K10 v1 v2 v3 v4 v5 o2.2) else (F_PR_lightest_52 t0 K10 v1 v2 v5 o2.1 v5 o2.2)))
def G_PR_lightest_10 (t0 : Nat) (v1 : Int32) (v2 : Int32) (K10 : Int32 × Int32 × Int32 × St → Option (Int32 × St)) (q : Int32 × Int32 × Int32 × St) : Option (Int32 × St) := H_PR_lightest_10 t0 v1 v2 K10 q.1 q.2.1 q.2.2.1 q.2.2.2
def F_PR_lightest_10 (t0 : Nat) (v1 : Int32) (v2 : Int32) (v3 : Int32) (v4 : Int32) (v5 : Int32) (s : St) : Option (Int32 × St) := fixF (G_PR_lightest_10 t0 v1 v2) FUEL (v3, v4, v5, s)
def F_PR_lightest (t0 : Nat) (a1 : Int32) (a2 : Int32) (s : St) : Option (Int32 × St) :=
  F_PR_lightest_10 t0 a1 a2 (-9 : Int32) (1000000 : Int32) (0 : Int32) s
def F_AC_has (a0 : Int32) (a1 : Int32) (s : St) : Option (Int32 × St) :=
  (F_AC_bit a1 s).bind fun o1 => if (a0 &&& o1.1) = 0 then (some (0, o1.2)) else (some (1, o1.2))
def F_PR_allows_24 (t0 : Nat) (s : St) : Option (Int32 × St) :=
  some (0, s)
def F_PR_allows (t0 : Nat) (a1 : Int32) (a2 : Int32) (s : St) : Option (Int32 × St) :=
  (F_PR_isThere t0 a1 a2 s).bind fun o1 => if o1.1 = 0 then (F_PR_allows_24 t0 o1.2) else ((F_PR_of t0 a1 a2 o1.2).bind fun o2 => if (1000000 : Int32) ≤ o2.1 then (F_PR_allows_24 t0 o2.2) else (some (1, o2.2)))
def F_LB_choice_128 (rMB : Nat → Nat → Int32 → Int32 → Int32 → St → Option (Int32 × St)) (t0 : Nat) (t1 : Nat) (K50 : Int32 × Int32 × Int32 × St → Option (Int32 × St)) (v2 : Int32) (v3 : Int32) (v4 : Int32) (v5 : Int32) (v6 : Int32) (v7 : Int32) (v8 : Int32) (s : St) : Option (Int32 × St) :=
  K50 (v6, v7, (v8 + 1), s)
def H_LB_choice_50 (rMB : Nat → Nat → Int32 → Int32 → Int32 → St → Option (Int32 × St)) (t0 : Nat) (t1 : Nat) (v2 : Int32) (v3 : Int32) (v4 : Int32) (v5 : Int32) (K50 : Int32 × Int32 × Int32 × St → Option (Int32 × St)) (v6 : Int32) (v7 : Int32) (v8 : Int32) (s : St) : Option (Int32 × St) :=
  if (rd s t0 1) ≤ v8 then (some (v6, s)) else ((F_AC_has v3 v8 s).bind fun o4 => if o4.1 = 0 then (F_LB_choice_128 rMB t0 t1 K50 v2 v3 v4 v5 v6 v7 v8 o4.2) else ((F_PR_allows t0 v4 v8 o4.2).bind fun o5 => if o5.1 = 0 then (F_LB_choice_128 rMB t0 t1 K50 v2 v3 v4 v5 v6 v7 v8 o5.2) else ((F_AC_bit v8 o5.2).bind fun o6 => (rMB t0 t1 (v2 + (1 : Int32)) (v3 &&& (o6.1 ^^^ (-1 : Int32))) v5 o6.2).bind fun o7 => (F_PR_of t0 v4 v8 o7.2).bind fun o8 => (some (o8.1 + o7.1)).bind fun x9 => if v7 ≤ x9 then (F_LB_choice_128 rMB t0 t1 K50 v2 v3 v4 v5 v6 v7 v8 o8.2) else (F_LB_choice_128 rMB t0 t1 K50 v2 v3 v4 v5 v8 x9 v8 o8.2))))
def G_LB_choice_50 (rMB : Nat → Nat → Int32 → Int32 → Int32 → St → Option (Int32 × St)) (t0 : Nat) (t1 : Nat) (v2 : Int32) (v3 : Int32) (v4 : Int32) (v5 : Int32) (K50 : Int32 × Int32 × Int32 × St → Option (Int32 × St)) (q : Int32 × Int32 × Int32 × St) : Option (Int32 × St) := H_LB_choice_50 rMB t0 t1 v2 v3 v4 v5 K50 q.1 q.2.1 q.2.2.1 q.2.2.2
def F_LB_choice_50 (rMB : Nat → Nat → Int32 → Int32 → Int32 → St → Option (Int32 × St)) (t0 : Nat) (t1 : Nat) (v2 : Int32) (v3 : Int32) (v4 : Int32) (v5 : Int32) (v6 : Int32) (v7 : Int32) (v8 : Int32) (s : St) : Option (Int32 × St) := fixF (G_LB_choice_50 rMB t0 t1 v2 v3 v4 v5) FUEL (v6, v7, v8, s)
def FR_LB_choice (rMB : Nat → Nat → Int32 → Int32 → Int32 → St → Option (Int32 × St)) (t0 : Nat) (t1 : Nat) (a2 : Int32) (a3 : Int32) (s : St) : Option (Int32 × St) :=
  (F_AC_at (t1 + 8) a2 s).bind fun o1 => (F_AC_at (t1 + 6) o1.1 o1.2).bind fun o2 => (F_NI_placeOf t1 o2.1 o2.2).bind fun o3 => if a2 < o3.1 then (F_LB_choice_50 rMB t0 t1 a2 a3 o1.1 o2.1 (-9 : Int32) (1000000 : Int32) (0 : Int32) o3.2) else ((F_PR_lightest t0 o1.1 a3 o3.2).bind fun o10 => some (o10.1, o10.2))
def H_LB_monthsBehind_6 (rCH : Nat → Nat → Int32 → Int32 → St → Option (Int32 × St)) (t0 : Nat) (t1 : Nat) (v4 : Int32) (K6 : Int32 × Int32 × St → Option (Int32 × St)) (v5 : Int32) (v6 : Int32) (s : St) : Option (Int32 × St) :=
  if (rd s t1 1) ≤ v6 then (some ((60 : Int32), s)) else ((rCH t0 t1 v6 v5 s).bind fun o1 => (F_AC_at (t1 + 8) v6 o1.2).bind fun o2 => if o2.1 = v4 then ((F_PR_of t0 v4 o1.1 o2.2).bind fun o5 => some (o5.1, o5.2)) else ((F_AC_bit o1.1 o2.2).bind fun o3 => (some (v5 &&& (o3.1 ^^^ (-1 : Int32)))).bind fun x4 => K6 (x4, (v6 + 1), o3.2)))
def G_LB_monthsBehind_6 (rCH : Nat → Nat → Int32 → Int32 → St → Option (Int32 × St)) (t0 : Nat) (t1 : Nat) (v4 : Int32) (K6 : Int32 × Int32 × St → Option (Int32 × St)) (q : Int32 × Int32 × St) : Option (Int32 × St) := H_LB_monthsBehind_6 rCH t0 t1 v4 K6 q.1 q.2.1 q.2.2
def F_LB_monthsBehind_6 (rCH : Nat → Nat → Int32 → Int32 → St → Option (Int32 × St)) (t0 : Nat) (t1 : Nat) (v4 : Int32) (v5 : Int32) (v6 : Int32) (s : St) : Option (Int32 × St) := fixF (G_LB_monthsBehind_6 rCH t0 t1 v4) FUEL (v5, v6, s)
def FR_LB_monthsBehind (rCH : Nat → Nat → Int32 → Int32 → St → Option (Int32 × St)) (t0 : Nat) (t1 : Nat) (a2 : Int32) (a3 : Int32) (a4 : Int32) (s : St) : Option (Int32 × St) :=
  F_LB_monthsBehind_6 rCH t0 t1 a4 a3 a2 s
def F_LB_choice : Nat → Nat → Nat → Int32 → Int32 → St → Option (Int32 × St)
  | 0 => fun _ _ _ _ _ => none
  | n + 1 => fun t0 t1 a2 a3 s => FR_LB_choice (fun t0 t1 a2 a3 a4 s => FR_LB_monthsBehind (F_LB_choice n) t0 t1 a2 a3 a4 s) t0 t1 a2 a3 s
def F_AC_put (t0 : Nat) (a1 : Int32) (a2 : Int32) (s : St) : Option (St) :=
  if a1 < 0 then (some s) else (if (nI (alen t0)) ≤ a1 then (some s) else ((stA s t0 a1 a2).bind fun s1 => some s1))
def H_LB_hold_13 (t1 : Nat) (t2 : Nat) (K13 : Int32 × Int32 × St → Option (St)) (v3 : Int32) (v4 : Int32) (s : St) : Option (St) :=
  if (rd s t2 1) ≤ v4 then (some s) else ((F_AC_at (t2 + 8) v4 s).bind fun o3 => (F_LB_choice 8 t1 t2 v4 v3 o3.2).bind fun o4 => (F_PR_of t1 o3.1 o4.1 o4.2).bind fun o5 => (F_AC_put 47 o3.1 o4.1 o5.2).bind fun s6 => (F_AC_put 48 o3.1 o5.1 s6).bind fun s7 => (F_AC_bit o4.1 s7).bind fun o8 => (some (v3 &&& (o8.1 ^^^ (-1 : Int32)))).bind fun x9 => (some (wr o8.2 46 2 ((rd o8.2 46 2) + o5.1))).bind fun s10 => K13 (x9, (v4 + 1), s10))
def G_LB_hold_13 (t1 : Nat) (t2 : Nat) (K13 : Int32 × Int32 × St → Option (St)) (q : Int32 × Int32 × St) : Option (St) := H_LB_hold_13 t1 t2 K13 q.1 q.2.1 q.2.2
def F_LB_hold_13 (t1 : Nat) (t2 : Nat) (v3 : Int32) (v4 : Int32) (s : St) : Option (St) := fixF (G_LB_hold_13 t1 t2) FUEL (v3, v4, s)
def F_LB_hold (t1 : Nat) (t2 : Nat) (s : St) : Option (St) :=
  (F_NI_allDeeds t2 s).bind fun o1 => (some (wr o1.2 46 2 (0 : Int32))).bind fun s2 => F_LB_hold_13 t1 t2 o1.1 (0 : Int32) s2
def F_LT_isFull (s : St) : Option (Int32 × St) :=
  if (rd s 34 0) < (96 : Int32) then (some (0, s)) else (some (1, s))
def F_MA_min (a0 : Int32) (a1 : Int32) (s : St) : Option (Int32 × St) :=
  if a1 < a0 then (some (a1, s)) else (some (a0, s))
def F_LT_add (a1 : Int32) (s : St) : Option (Int32 × St) :=
  (F_AC_put 35 (rd s 34 0) a1 s).bind fun s1 => (F_MA_min ((rd s1 34 0) + (1 : Int32)) (96 : Int32) s1).bind fun o2 => (some (wr o2.2 34 0 o2.1)).bind fun s3 => some ((rd s3 34 0), s3)
def F_LT_drop (s : St) : Option (St) :=
  (some (wr s 34 0 (0 : Int32))).bind fun s1 => some s1
def F_LT_digitsOf (a0 : Int32) (s : St) : Option (Int32 × St) :=
  if a0 = 97 then (some ((2 : Int32), s)) else if a0 = 98 then (some ((2 : Int32), s)) else if a0 = 100 then (some ((2 : Int32), s)) else if a0 = 112 then (some ((5 : Int32), s)) else if a0 = 120 then (some ((2 : Int32), s)) else (some ((0 : Int32), s))
def F_LT_placeOfWrongLetter_94 (s : St) : Option (Int32 × St) :=
  some ((rd s 34 0), s)
def F_LT_placeOfWrongLetter_71 (K4 : Int32 × Int32 × St → Option (Int32 × St)) (v1 : Int32) (v2 : Int32) (s : St) : Option (Int32 × St) :=
  K4 (v1, (v2 + 1), s)
def H_LT_placeOfWrongLetter_4 (K4 : Int32 × Int32 × St → Option (Int32 × St)) (v1 : Int32) (v2 : Int32) (s : St) : Option (Int32 × St) :=
  if (rd s 34 0) ≤ v2 then (if v1 = (-1 : Int32) then (if (rd s 34 0) ≤ 0 then (F_LT_placeOfWrongLetter_94 s) else (some ((-9 : Int32), s))) else (F_LT_placeOfWrongLetter_94 s)) else ((F_AC_at 35 v2 s).bind fun o1 => if v1 = (-1 : Int32) then ((F_LT_digitsOf o1.1 o1.2).bind fun o2 => if o2.1 = 0 then (some (v2, o2.2)) else (F_LT_placeOfWrongLetter_71 K4 o2.1 v2 o2.2)) else (if v1 ≤ 0 then (if o1.1 = (59 : Int32) then (F_LT_placeOfWrongLetter_71 K4 (-1 : Int32) v2 o1.2) else (some (v2, o1.2))) else (if o1.1 < (48 : Int32) then (some (v2, o1.2)) else (if o1.1 ≤ (57 : Int32) then (F_LT_placeOfWrongLetter_71 K4 (v1 - 1) v2 o1.2) else (some (v2, o1.2))))))
def G_LT_placeOfWrongLetter_4 (K4 : Int32 × Int32 × St → Option (Int32 × St)) (q : Int32 × Int32 × St) : Option (Int32 × St) := H_LT_placeOfWrongLetter_4 K4 q.1 q.2.1 q.2.2
def F_LT_placeOfWrongLetter_4 (v1 : Int32) (v2 : Int32) (s : St) : Option (Int32 × St) := fixF (G_LT_placeOfWrongLetter_4) FUEL (v1, v2, s)
def F_LT_placeOfWrongLetter (s : St) : Option (Int32 × St) :=
  F_LT_placeOfWrongLetter_4 (-1 : Int32) (0 : Int32) s
def F_LT_digit (a1 : Int32) (s : St) : Option (Int32 × St) :=
  (F_AC_at 35 a1 s).bind fun o1 => some ((o1.1 - (48 : Int32)), o1.2)
def F_NI_putDeed (t0 : Nat) (a1 : Int32) (a2 : Int32) (s : St) : Option (Int32 × St) :=
  (some (rd s t0 0)).bind fun x1 => (F_AC_put (t0 + 1) x1 a1 s).bind fun s2 => (F_AC_put (t0 + 2) x1 a2 s2).bind fun s3 => (F_MA_min (x1 + (1 : Int32)) (nI (alen (t0 + 1))) s3).bind fun o4 => (some (wr o4.2 t0 0 o4.1)).bind fun s5 => some (x1, s5)
def F_LT_stateDeed (t1 : Nat) (a2 : Int32) (a3 : Int32) (s : St) : Option (Int32 × St) :=
  if (6 : Int32) ≤ a2 then (some (0, s)) else (if (rd s t1 0) < (7 : Int32) then ((F_NI_putDeed t1 a2 a3 s).bind fun o1 => some (1, o1.2)) else (some (0, s)))
def F_NI_putPerson (t0 : Nat) (a1 : Int32) (a2 : Int32) (a3 : Int32) (s : St) : Option (Int32 × St) :=
  (some (rd s t0 1)).bind fun x1 => (F_AC_put (t0 + 3) x1 a1 s).bind fun s2 => (F_AC_put (t0 + 4) x1 a2 s2).bind fun s3 => (F_AC_put (t0 + 5) x1 a3 s3).bind fun s4 => (F_AC_put (t0 + 6) x1 (-9 : Int32) s4).bind fun s5 => (F_AC_put (t0 + 7) x1 (0 : Int32) s5).bind fun s6 => (F_AC_put (t0 + 8) x1 x1 s6).bind fun s7 => (F_MA_min (x1 + (1 : Int32)) (7 : Int32) s7).bind fun o8 => (some (wr o8.2 t0 1 o8.1)).bind fun s9 => some (x1, s9)
def F_LT_statePerson (t1 : Nat) (a2 : Int32) (s : St) : Option (Int32 × St) :=
  (F_LT_digit (a2 + (2 : Int32)) s).bind fun o1 => (F_LT_digit (a2 + (3 : Int32)) o1.2).bind fun o2 => (F_LT_digit (a2 + (4 : Int32)) o2.2).bind fun o3 => (some ((((100 : Int32) * o1.1) + ((10 : Int32) * o2.1)) + o3.1)).bind fun x4 => (F_LT_digit (a2 + (5 : Int32)) o3.2).bind fun o5 => if (128 : Int32) ≤ x4 then (some (0, o5.2)) else (if (7 : Int32) < o5.1 then (some (0, o5.2)) else (if (rd o5.2 t1 1) < (7 : Int32) then ((F_LT_digit (a2 + (1 : Int32)) o5.2).bind fun o6 => (F_NI_putPerson t1 o6.1 x4 o5.1 o6.2).bind fun o7 => some (1, o7.2)) else (some (0, o5.2))))
def F_NI_hasPerson_16 (t0 : Nat) (s : St) : Option (Int32 × St) :=
  some (0, s)
def F_NI_hasPerson (t0 : Nat) (a1 : Int32) (s : St) : Option (Int32 × St) :=
  if a1 < 0 then (F_NI_hasPerson_16 t0 s) else (if (rd s t0 1) ≤ a1 then (F_NI_hasPerson_16 t0 s) else (some (1, s)))
def F_NI_hasTwo_25 (t0 : Nat) (s : St) : Option (Int32 × St) :=
  some (0, s)
def F_NI_hasTwo (t0 : Nat) (a1 : Int32) (a2 : Int32) (s : St) : Option (Int32 × St) :=
  (F_NI_hasPerson t0 a1 s).bind fun o1 => if o1.1 = 0 then (F_NI_hasTwo_25 t0 o1.2) else ((F_NI_hasPerson t0 a2 o1.2).bind fun o2 => if o2.1 = 0 then (F_NI_hasTwo_25 t0 o2.2) else (if a1 = a2 then (F_NI_hasTwo_25 t0 o2.2) else (some (1, o2.2))))
def F_NI_pair (t0 : Nat) (a1 : Int32) (a2 : Int32) (s : St) : Option (St) :=
  (F_AC_at (t0 + 6) a1 s).bind fun o1 => (F_AC_put (t0 + 6) o1.1 (-9 : Int32) o1.2).bind fun s2 => (F_AC_at (t0 + 6) a2 s2).bind fun o3 => (F_AC_put (t0 + 6) o3.1 (-9 : Int32) o3.2).bind fun s4 => (F_AC_put (t0 + 6) a1 a2 s4).bind fun s5 => (F_AC_put (t0 + 6) a2 a1 s5).bind fun s6 => some s6
def F_NI_hasDeed_16 (t0 : Nat) (s : St) : Option (Int32 × St) :=
  some (0, s)
def F_NI_hasDeed (t0 : Nat) (a1 : Int32) (s : St) : Option (Int32 × St) :=
  if a1 < 0 then (F_NI_hasDeed_16 t0 s) else (if (rd s t0 0) ≤ a1 then (F_NI_hasDeed_16 t0 s) else (some (1, s)))
def F_NI_turnAlibi (t0 : Nat) (a1 : Int32) (a2 : Int32) (s : St) : Option (St) :=
  (F_AC_at (t0 + 7) a1 s).bind fun o1 => (F_AC_bit a2 o1.2).bind fun o2 => (F_AC_put (t0 + 7) a1 (o1.1 ^^^ o2.1) o2.2).bind fun s3 => some s3
def F_AC_swapPlaces (t0 : Nat) (a1 : Int32) (a2 : Int32) (a3 : Int32) (s : St) : Option (St) :=
  (F_AC_placeIn t0 a1 a2 s).bind fun o1 => (F_AC_placeIn t0 a1 a3 o1.2).bind fun o2 => (F_AC_put t0 o1.1 a3 o2.2).bind fun s3 => (F_AC_put t0 o2.1 a2 s3).bind fun s4 => some s4
def F_LT_state (t1 : Nat) (a2 : Int32) (s : St) : Option (Int32 × St) :=
  (F_LT_digit (a2 + (1 : Int32)) s).bind fun o1 => (F_LT_digit (a2 + (2 : Int32)) o1.2).bind fun o2 => (F_AC_at 35 a2 o2.2).bind fun o3 => (some o3.1).bind fun x4 => if x4 = 97 then ((F_NI_hasPerson t1 o1.1 o3.2).bind fun o5 => if o5.1 = 0 then (some (0, o5.2)) else ((F_NI_hasDeed t1 o2.1 o5.2).bind fun o6 => if o6.1 = 0 then (some (0, o6.2)) else ((F_NI_turnAlibi t1 o1.1 o2.1 o6.2).bind fun s7 => some (1, s7)))) else if x4 = 98 then ((F_NI_hasTwo t1 o1.1 o2.1 o3.2).bind fun o8 => if o8.1 = 0 then (some (0, o8.2)) else ((F_NI_pair t1 o1.1 o2.1 o8.2).bind fun s9 => some (1, s9))) else if x4 = 100 then ((F_LT_stateDeed t1 o1.1 o2.1 o3.2).bind fun o10 => retZ o10.1 o10.2) else if x4 = 112 then ((F_LT_statePerson t1 a2 o3.2).bind fun o11 => retZ o11.1 o11.2) else ((F_NI_hasTwo t1 o1.1 o2.1 o3.2).bind fun o12 => if o12.1 = 0 then (some (0, o12.2)) else ((F_AC_swapPlaces (t1 + 8) (rd o12.2 t1 1) o1.1 o2.1 o12.2).bind fun s13 => some (1, s13)))
def H_LT_tell_20 (t1 : Nat) (K20 : Int32 × Int32 × St → Option (Int32 × St)) (v3 : Int32) (v4 : Int32) (s : St) : Option (Int32 × St) :=
  if (rd s 34 0) ≤ v4 then (some (v3, s)) else ((F_LT_state t1 v4 s).bind fun o2 => if o2.1 = 0 then (some (((-2000 : Int32) - v4), o2.2)) else ((F_AC_at 35 v4 o2.2).bind fun o3 => (F_LT_digitsOf o3.1 o3.2).bind fun o4 => (some (v4 + (o4.1 + (2 : Int32)))).bind fun x5 => K20 ((v3 + 1), x5, o4.2)))
def G_LT_tell_20 (t1 : Nat) (K20 : Int32 × Int32 × St → Option (Int32 × St)) (q : Int32 × Int32 × St) : Option (Int32 × St) := H_LT_tell_20 t1 K20 q.1 q.2.1 q.2.2
def F_LT_tell_20 (t1 : Nat) (v3 : Int32) (v4 : Int32) (s : St) : Option (Int32 × St) := fixF (G_LT_tell_20 t1) FUEL (v3, v4, s)
def F_LT_tell (t1 : Nat) (s : St) : Option (Int32 × St) :=
  (F_LT_placeOfWrongLetter s).bind fun o1 => if o1.1 < 0 then (F_LT_tell_20 t1 (0 : Int32) (0 : Int32) o1.2) else (some (((-1000 : Int32) - o1.1), o1.2))
def F_MO_begin (t0 : Nat) (a1 : Int32) (a2 : Int32) (s : St) : Option (St) :=
  (some (wr s t0 2 a1)).bind fun s1 => (some (wr s1 t0 3 a2)).bind fun s2 => (some (wr s2 t0 4 (0 : Int32))).bind fun s3 => (some (wr s3 t0 5 (-9 : Int32))).bind fun s4 => some s4
def F_MO_seat (t0 : Nat) (t1 : Nat) (a2 : Int32) (a3 : Int32) (s : St) : Option (St) :=
  (F_PR_of t1 a2 a3 s).bind fun o1 => (F_AC_put (t0 + 1) a2 a3 o1.2).bind fun s2 => (F_AC_put (t0 + 2) a2 o1.1 s2).bind fun s3 => (F_AC_bit a3 s3).bind fun o4 => (some (wr o4.2 t0 3 ((rd s3 t0 3) &&& (o4.1 ^^^ (-1 : Int32))))).bind fun s5 => (some (wr s5 t0 4 ((rd s5 t0 4) + o1.1))).bind fun s6 => if a3 = (-9 : Int32) then (if (rd s6 t0 5) = (-9 : Int32) then ((some (wr s6 t0 5 a2)).bind fun s7 => some s7) else (some s6)) else (some s6)
def H_MO_hold_12 (t0 : Nat) (t1 : Nat) (t2 : Nat) (K12 : Int32 × St → Option (St)) (v4 : Int32) (s : St) : Option (St) :=
  if (rd s t0 2) ≤ v4 then (some s) else ((F_AC_at t2 v4 s).bind fun o2 => (F_PR_lightest t1 o2.1 (rd o2.2 t0 3) o2.2).bind fun o3 => (F_MO_seat t0 t1 o2.1 o3.1 o3.2).bind fun s4 => K12 ((v4 + 1), s4))
def G_MO_hold_12 (t0 : Nat) (t1 : Nat) (t2 : Nat) (K12 : Int32 × St → Option (St)) (q : Int32 × St) : Option (St) := H_MO_hold_12 t0 t1 t2 K12 q.1 q.2
def F_MO_hold_12 (t0 : Nat) (t1 : Nat) (t2 : Nat) (v4 : Int32) (s : St) : Option (St) := fixF (G_MO_hold_12 t0 t1 t2) FUEL (v4, s)
def F_MO_hold (t0 : Nat) (t1 : Nat) (t2 : Nat) (a3 : Int32) (s : St) : Option (St) :=
  (F_MO_begin t0 (rd s t1 0) a3 s).bind fun s1 => F_MO_hold_12 t0 t1 t2 (0 : Int32) s1
def F_NI_may_60 (t0 : Nat) (s : St) : Option (Int32 × St) :=
  some (1, s)
def F_NI_may (t0 : Nat) (a1 : Int32) (a2 : Int32) (s : St) : Option (Int32 × St) :=
  (F_NI_hasPerson t0 a1 s).bind fun o1 => if o1.1 = 0 then (some (0, o1.2)) else ((F_NI_hasDeed t0 a2 o1.2).bind fun o2 => if o2.1 = 0 then (some (0, o2.2)) else ((F_AC_at (t0 + 7) a1 o2.2).bind fun o3 => (F_AC_has o3.1 a2 o3.2).bind fun o4 => if o4.1 = 0 then ((F_AC_at (t0 + 1) a2 o4.2).bind fun o5 => if o5.1 = (5 : Int32) then (F_NI_may_60 t0 o5.2) else ((F_AC_at (t0 + 4) a1 o5.2).bind fun o6 => (F_AC_has o6.1 a2 o6.2).bind fun o7 => if o7.1 = 0 then (some (0, o7.2)) else (F_NI_may_60 t0 o7.2))) else (some (0, o4.2))))
def F_MO_holdTrue_97 (t0 : Nat) (t1 : Nat) (t2 : Nat) (K14 : Int32 × St → Option (St)) (v3 : Int32) (z0 : Int32) (z1 : Int32) (s : St) : Option (St) :=
  (F_MO_seat t0 t1 z1 z0 s).bind fun s7 => K14 ((v3 + 1), s7)
def F_MO_holdTrue_71 (t0 : Nat) (t1 : Nat) (t2 : Nat) (K14 : Int32 × St → Option (St)) (v3 : Int32) (v4 : Int32) (v5 : Int32) (z0 : Int32) (s : St) : Option (St) :=
  if z0 = 0 then ((F_PR_lightest t1 v4 (rd s t0 3) s).bind fun o6 => F_MO_holdTrue_97 t0 t1 t2 K14 v3 o6.1 v4 o6.2) else (F_MO_holdTrue_97 t0 t1 t2 K14 v3 v5 v4 s)
def F_MO_holdTrue_70 (t0 : Nat) (t1 : Nat) (t2 : Nat) (K14 : Int32 × St → Option (St)) (v3 : Int32) (v4 : Int32) (v5 : Int32) (s : St) : Option (St) :=
  F_MO_holdTrue_71 t0 t1 t2 K14 v3 v4 v5 (0 : Int32) s
def H_MO_holdTrue_14 (t0 : Nat) (t1 : Nat) (t2 : Nat) (K14 : Int32 × St → Option (St)) (v3 : Int32) (s : St) : Option (St) :=
  if (rd s t0 2) ≤ v3 then (some s) else ((F_AC_at (t2 + 8) v3 s).bind fun o3 => (F_AC_at (t2 + 5) o3.1 o3.2).bind fun o4 => (F_AC_has (rd o4.2 t0 3) o4.1 o4.2).bind fun o5 => if o5.1 = 0 then (F_MO_holdTrue_70 t0 t1 t2 K14 v3 o3.1 o4.1 o5.2) else ((F_NI_may t2 o3.1 o4.1 o5.2).bind fun o8 => if o8.1 = 0 then (F_MO_holdTrue_70 t0 t1 t2 K14 v3 o3.1 o4.1 o8.2) else (F_MO_holdTrue_71 t0 t1 t2 K14 v3 o3.1 o4.1 (1 : Int32) o8.2)))
def G_MO_holdTrue_14 (t0 : Nat) (t1 : Nat) (t2 : Nat) (K14 : Int32 × St → Option (St)) (q : Int32 × St) : Option (St) := H_MO_holdTrue_14 t0 t1 t2 K14 q.1 q.2
def F_MO_holdTrue_14 (t0 : Nat) (t1 : Nat) (t2 : Nat) (v3 : Int32) (s : St) : Option (St) := fixF (G_MO_holdTrue_14 t0 t1 t2) FUEL (v3, s)
def F_MO_holdTrue (t0 : Nat) (t1 : Nat) (t2 : Nat) (s : St) : Option (St) :=
  (F_NI_allDeeds t2 s).bind fun o1 => (F_MO_begin t0 (rd s t1 0) o1.1 o1.2).bind fun s2 => F_MO_holdTrue_14 t0 t1 t2 (0 : Int32) s2
def F_MA_max (a0 : Int32) (a1 : Int32) (s : St) : Option (Int32 × St) :=
  if a0 < a1 then (some (a1, s)) else (some (a0, s))
def H_MO_most_4 (t0 : Nat) (K4 : Int32 × Int32 × St → Option (Int32 × St)) (v1 : Int32) (v2 : Int32) (s : St) : Option (Int32 × St) :=
  if (rd s t0 2) ≤ v2 then (some (v1, s)) else ((F_AC_at (t0 + 2) v2 s).bind fun o1 => (F_MA_max v1 o1.1 o1.2).bind fun o2 => K4 (o2.1, (v2 + 1), o2.2))
def G_MO_most_4 (t0 : Nat) (K4 : Int32 × Int32 × St → Option (Int32 × St)) (q : Int32 × Int32 × St) : Option (Int32 × St) := H_MO_most_4 t0 K4 q.1 q.2.1 q.2.2
def F_MO_most_4 (t0 : Nat) (v1 : Int32) (v2 : Int32) (s : St) : Option (Int32 × St) := fixF (G_MO_most_4 t0) FUEL (v1, v2, s)
def F_MO_most (t0 : Nat) (s : St) : Option (Int32 × St) :=
  F_MO_most_4 t0 (0 : Int32) (0 : Int32) s
def F_MO_monthsTaken_36 (t0 : Nat) (K4 : Int32 × Int32 × St → Option (Int32 × St)) (v1 : Int32) (v2 : Int32) (s : St) : Option (Int32 × St) :=
  K4 (v1, (v2 + 1), s)
def H_MO_monthsTaken_4 (t0 : Nat) (K4 : Int32 × Int32 × St → Option (Int32 × St)) (v1 : Int32) (v2 : Int32) (s : St) : Option (Int32 × St) :=
  if (rd s t0 2) ≤ v2 then (some (v1, s)) else ((F_AC_at (t0 + 1) v2 s).bind fun o1 => if o1.1 = (-9 : Int32) then (F_MO_monthsTaken_36 t0 K4 v1 v2 o1.2) else ((F_AC_at (t0 + 2) v2 o1.2).bind fun o2 => (some (v1 + o2.1)).bind fun x3 => F_MO_monthsTaken_36 t0 K4 x3 v2 o2.2))
def G_MO_monthsTaken_4 (t0 : Nat) (K4 : Int32 × Int32 × St → Option (Int32 × St)) (q : Int32 × Int32 × St) : Option (Int32 × St) := H_MO_monthsTaken_4 t0 K4 q.1 q.2.1 q.2.2
def F_MO_monthsTaken_4 (t0 : Nat) (v1 : Int32) (v2 : Int32) (s : St) : Option (Int32 × St) := fixF (G_MO_monthsTaken_4 t0) FUEL (v1, v2, s)
def F_MO_monthsTaken (t0 : Nat) (s : St) : Option (Int32 × St) :=
  F_MO_monthsTaken_4 t0 (0 : Int32) (0 : Int32) s
def F_MO_owners_58 (t0 : Nat) (t1 : Nat) (K5 : Int32 × Int32 × St → Option (Int32 × St)) (v2 : Int32) (v3 : Int32) (v4 : Int32) (s : St) : Option (Int32 × St) :=
  K5 (v3, (v4 + 1), s)
def F_MO_owners_51 (t0 : Nat) (t1 : Nat) (K5 : Int32 × Int32 × St → Option (Int32 × St)) (v2 : Int32) (v3 : Int32) (v4 : Int32) (z0 : Int32) (s : St) : Option (Int32 × St) :=
  if z0 = v2 then (F_MO_owners_58 t0 t1 K5 v2 (v3 + 1) v4 s) else (F_MO_owners_58 t0 t1 K5 v2 v3 v4 s)
def H_MO_owners_5 (t0 : Nat) (t1 : Nat) (v2 : Int32) (K5 : Int32 × Int32 × St → Option (Int32 × St)) (v3 : Int32) (v4 : Int32) (s : St) : Option (Int32 × St) :=
  if (rd s t0 2) ≤ v4 then (some (v3, s)) else ((F_AC_at (t0 + 1) v4 s).bind fun o1 => if o1.1 = (-9 : Int32) then (F_MO_owners_58 t0 t1 K5 v2 v3 v4 o1.2) else ((F_AC_at (t1 + 5) v4 o1.2).bind fun o2 => if o1.1 = o2.1 then (F_MO_owners_51 t0 t1 K5 v2 v3 v4 (1 : Int32) o2.2) else (F_MO_owners_51 t0 t1 K5 v2 v3 v4 (0 : Int32) o2.2)))
def G_MO_owners_5 (t0 : Nat) (t1 : Nat) (v2 : Int32) (K5 : Int32 × Int32 × St → Option (Int32 × St)) (q : Int32 × Int32 × St) : Option (Int32 × St) := H_MO_owners_5 t0 t1 v2 K5 q.1 q.2.1 q.2.2
def F_MO_owners_5 (t0 : Nat) (t1 : Nat) (v2 : Int32) (v3 : Int32) (v4 : Int32) (s : St) : Option (Int32 × St) := fixF (G_MO_owners_5 t0 t1 v2) FUEL (v3, v4, s)
def F_MO_owners (t0 : Nat) (t1 : Nat) (a2 : Int32) (s : St) : Option (Int32 × St) :=
  F_MO_owners_5 t0 t1 a2 (0 : Int32) (0 : Int32) s
def H_AC_copyRow_2 (t0 : Nat) (t1 : Nat) (K2 : Int32 × St → Option (St)) (v2 : Int32) (s : St) : Option (St) :=
  if (nI (alen t1)) ≤ v2 then (some s) else ((F_AC_at t0 v2 s).bind fun o1 => (stA o1.2 t1 v2 o1.1).bind fun s2 => K2 ((v2 + 1), s2))
def G_AC_copyRow_2 (t0 : Nat) (t1 : Nat) (K2 : Int32 × St → Option (St)) (q : Int32 × St) : Option (St) := H_AC_copyRow_2 t0 t1 K2 q.1 q.2
def F_AC_copyRow_2 (t0 : Nat) (t1 : Nat) (v2 : Int32) (s : St) : Option (St) := fixF (G_AC_copyRow_2 t0 t1) FUEL (v2, s)
def F_AC_copyRow (t0 : Nat) (t1 : Nat) (s : St) : Option (St) :=
  F_AC_copyRow_2 t0 t1 (0 : Int32) s
def F_NI_copy (t0 : Nat) (t1 : Nat) (s : St) : Option (St) :=
  (some (wr s t0 0 (rd s t1 0))).bind fun s1 => (some (wr s1 t0 1 (rd s1 t1 1))).bind fun s2 => (F_AC_copyRow (t1 + 1) (t0 + 1) s2).bind fun s3 => (F_AC_copyRow (t1 + 2) (t0 + 2) s3).bind fun s4 => (F_AC_copyRow (t1 + 3) (t0 + 3) s4).bind fun s5 => (F_AC_copyRow (t1 + 4) (t0 + 4) s5).bind fun s6 => (F_AC_copyRow (t1 + 5) (t0 + 5) s6).bind fun s7 => (F_AC_copyRow (t1 + 6) (t0 + 6) s7).bind fun s8 => (F_AC_copyRow (t1 + 7) (t0 + 7) s8).bind fun s9 => (F_AC_copyRow (t1 + 8) (t0 + 8) s9).bind fun s10 => some s10
def F_NI_unpair (t0 : Nat) (a1 : Int32) (a2 : Int32) (a3 : Int32) (a4 : Int32) (s : St) : Option (St) :=
  (F_AC_put (t0 + 6) a1 a3 s).bind fun s1 => (F_AC_put (t0 + 6) a2 a4 s1).bind fun s2 => (F_AC_put (t0 + 6) a3 a1 s2).bind fun s3 => (F_AC_put (t0 + 6) a4 a2 s3).bind fun s4 => some s4
def F_NI_mayBits_28 (t0 : Nat) (K4 : Int32 × Int32 × St → Option (Int32 × St)) (v1 : Int32) (v2 : Int32) (v3 : Int32) (s : St) : Option (Int32 × St) :=
  K4 (v2, (v3 + 1), s)
def H_NI_mayBits_4 (t0 : Nat) (v1 : Int32) (K4 : Int32 × Int32 × St → Option (Int32 × St)) (v2 : Int32) (v3 : Int32) (s : St) : Option (Int32 × St) :=
  if (rd s t0 0) ≤ v3 then (some (v2, s)) else ((F_NI_may t0 v1 v3 s).bind fun o1 => if o1.1 = 0 then (F_NI_mayBits_28 t0 K4 v1 v2 v3 o1.2) else ((F_AC_bit v3 o1.2).bind fun o2 => (some (v2 ||| o2.1)).bind fun x3 => F_NI_mayBits_28 t0 K4 v1 x3 v3 o2.2))
def G_NI_mayBits_4 (t0 : Nat) (v1 : Int32) (K4 : Int32 × Int32 × St → Option (Int32 × St)) (q : Int32 × Int32 × St) : Option (Int32 × St) := H_NI_mayBits_4 t0 v1 K4 q.1 q.2.1 q.2.2
def F_NI_mayBits_4 (t0 : Nat) (v1 : Int32) (v2 : Int32) (v3 : Int32) (s : St) : Option (Int32 × St) := fixF (G_NI_mayBits_4 t0 v1) FUEL (v2, v3, s)
def F_NI_mayBits (t0 : Nat) (a1 : Int32) (s : St) : Option (Int32 × St) :=
  F_NI_mayBits_4 t0 a1 (0 : Int32) (0 : Int32) s
def F_NI_canHaveDone_41 (t0 : Nat) (s : St) : Option (Int32 × St) :=
  some (0, s)
def F_NI_canHaveDone_37 (t0 : Nat) (s : St) : Option (Int32 × St) :=
  some (1, s)
def F_NI_canHaveDone (t0 : Nat) (a1 : Int32) (a2 : Int32) (s : St) : Option (Int32 × St) :=
  (F_AC_at (t0 + 5) a1 s).bind fun o1 => (F_NI_may t0 a1 a2 o1.2).bind fun o2 => if o2.1 = 0 then (F_NI_canHaveDone_41 t0 o2.2) else (if o1.1 = (7 : Int32) then (F_NI_canHaveDone_41 t0 o2.2) else ((F_NI_hasDeed t0 o1.1 o2.2).bind fun o3 => if o3.1 = 0 then (F_NI_canHaveDone_37 t0 o3.2) else (if o1.1 = a2 then (F_NI_canHaveDone_37 t0 o3.2) else (F_NI_canHaveDone_41 t0 o3.2))))
def F_AC_monthsOfKind (a0 : Int32) (a1 : Int32) (a2 : Int32) (s : St) : Option (Int32 × St) :=
  (some (((2 : Int32) * a1) + (1 : Int32))).bind fun x1 => (some ((x1 + (3 : Int32)) + (a2 / (2 : Int32)))).bind fun x2 => (some (x1 / (2 : Int32))).bind fun x3 => if a0 = 1 then (some (x2, s)) else if a0 = 2 then (some (x3, s)) else if a0 = 3 then (some (((3 : Int32) * x2), s)) else if a0 = 4 then (some ((x3 + (1 : Int32)), s)) else if a0 = 5 then ((F_MA_max (1 : Int32) (x2 - a2) s).bind fun o4 => some (o4.1, o4.2)) else (some (x1, s))
def F_NI_monthsFor_62 (t0 : Nat) (v3 : Int32) (z0 : Int32) (s : St) : Option (Int32 × St) :=
  if z0 = 0 then (some (v3, s)) else (some ((v3 - (v3 / (3 : Int32))), s))
def F_NI_monthsFor_61 (t0 : Nat) (v3 : Int32) (s : St) : Option (Int32 × St) :=
  F_NI_monthsFor_62 t0 v3 (0 : Int32) s
def F_NI_monthsFor (t0 : Nat) (a1 : Int32) (a2 : Int32) (s : St) : Option (Int32 × St) :=
  (F_NI_hasDeed t0 a2 s).bind fun o1 => if o1.1 = 0 then (some ((60 : Int32), o1.2)) else ((F_AC_at (t0 + 1) a2 o1.2).bind fun o2 => (F_AC_at (t0 + 2) a2 o2.2).bind fun o3 => (F_AC_at (t0 + 3) a1 o3.2).bind fun o4 => (F_AC_monthsOfKind o2.1 o3.1 o4.1 o4.2).bind fun o5 => if a2 = (7 : Int32) then (F_NI_monthsFor_61 t0 o5.1 o5.2) else ((F_AC_at (t0 + 5) a1 o5.2).bind fun o6 => if o6.1 = a2 then (F_NI_monthsFor_62 t0 o5.1 (1 : Int32) o6.2) else (F_NI_monthsFor_61 t0 o5.1 o6.2)))
def F_NI_forgetLaterDids_35 (t0 : Nat) (K2 : Int32 × St → Option (St)) (v1 : Int32) (s : St) : Option (St) :=
  K2 ((v1 + 1), s)
def H_NI_forgetLaterDids_2 (t0 : Nat) (K2 : Int32 × St → Option (St)) (v1 : Int32) (s : St) : Option (St) :=
  if (rd s t0 1) ≤ v1 then (some s) else ((F_AC_at (t0 + 5) v1 s).bind fun o1 => (F_NI_hasDeed t0 o1.1 o1.2).bind fun o2 => if o2.1 = 0 then ((F_AC_put (t0 + 5) v1 (7 : Int32) o2.2).bind fun s3 => F_NI_forgetLaterDids_35 t0 K2 v1 s3) else (F_NI_forgetLaterDids_35 t0 K2 v1 o2.2))
def G_NI_forgetLaterDids_2 (t0 : Nat) (K2 : Int32 × St → Option (St)) (q : Int32 × St) : Option (St) := H_NI_forgetLaterDids_2 t0 K2 q.1 q.2
def F_NI_forgetLaterDids_2 (t0 : Nat) (v1 : Int32) (s : St) : Option (St) := fixF (G_NI_forgetLaterDids_2 t0) FUEL (v1, s)
def F_NI_forgetLaterDids (t0 : Nat) (s : St) : Option (St) :=
  F_NI_forgetLaterDids_2 t0 (0 : Int32) s
def H_NI_allRecords_4 (t0 : Nat) (K4 : Int32 × Int32 × St → Option (Int32 × St)) (v1 : Int32) (v2 : Int32) (s : St) : Option (Int32 × St) :=
  if (rd s t0 1) ≤ v2 then (some (v1, s)) else ((F_AC_at (t0 + 3) v2 s).bind fun o1 => (some (v1 + o1.1)).bind fun x2 => K4 (x2, (v2 + 1), o1.2))
def G_NI_allRecords_4 (t0 : Nat) (K4 : Int32 × Int32 × St → Option (Int32 × St)) (q : Int32 × Int32 × St) : Option (Int32 × St) := H_NI_allRecords_4 t0 K4 q.1 q.2.1 q.2.2
def F_NI_allRecords_4 (t0 : Nat) (v1 : Int32) (v2 : Int32) (s : St) : Option (Int32 × St) := fixF (G_NI_allRecords_4 t0) FUEL (v1, v2, s)
def F_NI_allRecords (t0 : Nat) (s : St) : Option (Int32 × St) :=
  F_NI_allRecords_4 t0 (0 : Int32) (0 : Int32) s
def F_IG_bitCount (a0 : Int32) (s : St) : Option (Int32 × St) :=
  (some (a0 - (((a0).toUInt32 >>> (((1 : Int32)).toUInt32 &&& Int32.toUInt32 31)).toInt32 &&& (1431655765 : Int32)))).bind fun x1 => (some ((x1 &&& (858993459 : Int32)) + (((x1).toUInt32 >>> (((2 : Int32)).toUInt32 &&& Int32.toUInt32 31)).toInt32 &&& (858993459 : Int32)))).bind fun x2 => (some ((x2 + ((x2).toUInt32 >>> (((4 : Int32)).toUInt32 &&& Int32.toUInt32 31)).toInt32) &&& (252645135 : Int32))).bind fun x3 => (some (x3 + ((x3).toUInt32 >>> (((8 : Int32)).toUInt32 &&& Int32.toUInt32 31)).toInt32)).bind fun x4 => (some (x4 + ((x4).toUInt32 >>> (((16 : Int32)).toUInt32 &&& Int32.toUInt32 31)).toInt32)).bind fun x5 => some ((x5 &&& (63 : Int32)), s)
def H_NI_allAlibis_4 (t0 : Nat) (K4 : Int32 × Int32 × St → Option (Int32 × St)) (v1 : Int32) (v2 : Int32) (s : St) : Option (Int32 × St) :=
  if (rd s t0 1) ≤ v2 then (some (v1, s)) else ((F_AC_at (t0 + 7) v2 s).bind fun o1 => (F_IG_bitCount o1.1 o1.2).bind fun o2 => (some (v1 + o2.1)).bind fun x3 => K4 (x3, (v2 + 1), o2.2))
def G_NI_allAlibis_4 (t0 : Nat) (K4 : Int32 × Int32 × St → Option (Int32 × St)) (q : Int32 × Int32 × St) : Option (Int32 × St) := H_NI_allAlibis_4 t0 K4 q.1 q.2.1 q.2.2
def F_NI_allAlibis_4 (t0 : Nat) (v1 : Int32) (v2 : Int32) (s : St) : Option (Int32 × St) := fixF (G_NI_allAlibis_4 t0) FUEL (v1, v2, s)
def F_NI_allAlibis (t0 : Nat) (s : St) : Option (Int32 × St) :=
  F_NI_allAlibis_4 t0 (0 : Int32) (0 : Int32) s
def H_OR_begin_12 (K12 : Int32 × St → Option (St)) (v2 : Int32) (s : St) : Option (St) :=
  if (nI (alen 52)) ≤ v2 then (some s) else ((stA s 52 v2 v2).bind fun s3 => K12 ((v2 + 1), s3))
def G_OR_begin_12 (K12 : Int32 × St → Option (St)) (q : Int32 × St) : Option (St) := H_OR_begin_12 K12 q.1 q.2
def F_OR_begin_12 (v2 : Int32) (s : St) : Option (St) := fixF (G_OR_begin_12) FUEL (v2, s)
def F_OR_begin (a1 : Int32) (s : St) : Option (St) :=
  (some (wr s 51 0 a1)).bind fun s1 => (some (wr s1 51 1 (0 : Int32))).bind fun s2 => F_OR_begin_12 (0 : Int32) s2
def F_OR_keep (s : St) : Option (St) :=
  (F_AC_copyRow 52 53 s).bind fun s1 => (some (wr s1 51 1 (rd s1 51 0))).bind fun s2 => some s2
def F_OR_keptAt_23 (s : St) : Option (Int32 × St) :=
  some ((-9 : Int32), s)
def F_OR_keptAt (a1 : Int32) (s : St) : Option (Int32 × St) :=
  if a1 < 0 then (F_OR_keptAt_23 s) else (if (rd s 51 1) ≤ a1 then (F_OR_keptAt_23 s) else ((F_AC_at 53 a1 s).bind fun o1 => some (o1.1, o1.2)))
def F_OR_exchange (a1 : Int32) (a2 : Int32) (s : St) : Option (St) :=
  (F_AC_at 52 a1 s).bind fun o1 => (F_AC_at 52 a2 o1.2).bind fun o2 => (F_AC_put 52 a1 o2.1 o2.2).bind fun s3 => (F_AC_put 52 a2 o1.1 s3).bind fun s4 => some s4
def H_OR_step_99 (K99 : Int32 × Int32 × St → Option (Int32 × St)) (v3 : Int32) (v4 : Int32) (s : St) : Option (Int32 × St) :=
  if v4 ≤ v3 then (some (1, s)) else ((F_OR_exchange v3 v4 s).bind fun s6 => K99 ((v3 + 1), (v4 - 1), s6))
def G_OR_step_99 (K99 : Int32 × Int32 × St → Option (Int32 × St)) (q : Int32 × Int32 × St) : Option (Int32 × St) := H_OR_step_99 K99 q.1 q.2.1 q.2.2
def F_OR_step_99 (v3 : Int32) (v4 : Int32) (s : St) : Option (Int32 × St) := fixF (G_OR_step_99) FUEL (v3, v4, s)
def F_OR_step_81 (v1 : Int32) (v2 : Int32) (s : St) : Option (Int32 × St) :=
  (F_OR_exchange v1 v2 s).bind fun s3 => (some (v1 + (1 : Int32))).bind fun x4 => (some ((rd s3 51 0) - (1 : Int32))).bind fun x5 => F_OR_step_99 x4 x5 s3
def H_OR_step_51 (v1 : Int32) (K51 : Int32 × St → Option (Int32 × St)) (v2 : Int32) (s : St) : Option (Int32 × St) :=
  if v2 ≤ v1 then (F_OR_step_81 v1 v2 s) else ((F_AC_at 52 v2 s).bind fun o7 => (F_AC_at 52 v1 o7.2).bind fun o8 => if o8.1 < o7.1 then (F_OR_step_81 v1 v2 o8.2) else (K51 ((v2 - 1), o8.2)))
def G_OR_step_51 (v1 : Int32) (K51 : Int32 × St → Option (Int32 × St)) (q : Int32 × St) : Option (Int32 × St) := H_OR_step_51 v1 K51 q.1 q.2
def F_OR_step_51 (v1 : Int32) (v2 : Int32) (s : St) : Option (Int32 × St) := fixF (G_OR_step_51 v1) FUEL (v2, s)
def F_OR_step_38 (v1 : Int32) (s : St) : Option (Int32 × St) :=
  if 0 ≤ v1 then ((some ((rd s 51 0) - (1 : Int32))).bind fun x2 => F_OR_step_51 v1 x2 s) else (some (0, s))
def H_OR_step_7 (K7 : Int32 × St → Option (Int32 × St)) (v1 : Int32) (s : St) : Option (Int32 × St) :=
  if v1 < 0 then (F_OR_step_38 v1 s) else ((F_AC_at 52 v1 s).bind fun o9 => (F_AC_at 52 (v1 + (1 : Int32)) o9.2).bind fun o10 => if o9.1 < o10.1 then (F_OR_step_38 v1 o10.2) else (K7 ((v1 - 1), o10.2)))
def G_OR_step_7 (K7 : Int32 × St → Option (Int32 × St)) (q : Int32 × St) : Option (Int32 × St) := H_OR_step_7 K7 q.1 q.2
def F_OR_step_7 (v1 : Int32) (s : St) : Option (Int32 × St) := fixF (G_OR_step_7) FUEL (v1, s)
def F_OR_step (s : St) : Option (Int32 × St) :=
  (some ((rd s 51 0) - (2 : Int32))).bind fun x1 => F_OR_step_7 x1 s
def H_PA_shift_2 (t0 : Nat) (K2 : Int32 × St → Option (St)) (v1 : Int32) (s : St) : Option (St) :=
  if (nI (alen t0)) ≤ v1 then (some s) else ((ldA s t0 v1).bind fun x1 => (stA s t0 (v1 - (1 : Int32)) x1).bind fun s2 => K2 ((v1 + 1), s2))
def G_PA_shift_2 (t0 : Nat) (K2 : Int32 × St → Option (St)) (q : Int32 × St) : Option (St) := H_PA_shift_2 t0 K2 q.1 q.2
def F_PA_shift_2 (t0 : Nat) (v1 : Int32) (s : St) : Option (St) := fixF (G_PA_shift_2 t0) FUEL (v1, s)
def F_PA_shift (t0 : Nat) (s : St) : Option (St) :=
  F_PA_shift_2 t0 (1 : Int32) s
def F_PA_dropOldest (s : St) : Option (St) :=
  (F_PA_shift 29 s).bind fun s1 => (F_PA_shift 30 s1).bind fun s2 => (F_PA_shift 31 s2).bind fun s3 => (F_PA_shift 32 s3).bind fun s4 => (F_PA_shift 33 s4).bind fun s5 => (some (wr s5 28 0 ((rd s5 28 0) - (1 : Int32)))).bind fun s6 => some s6
def F_PA_add_13 (v1 : Int32) (v2 : Int32) (v3 : Int32) (v4 : Int32) (v5 : Int32) (s : St) : Option (St) :=
  (F_AC_put 29 (rd s 28 0) v1 s).bind fun s1 => (F_AC_put 30 (rd s1 28 0) v2 s1).bind fun s2 => (F_AC_put 31 (rd s2 28 0) v3 s2).bind fun s3 => (F_AC_put 32 (rd s3 28 0) v4 s3).bind fun s4 => (F_AC_put 33 (rd s4 28 0) v5 s4).bind fun s5 => (some (wr s5 28 0 ((rd s5 28 0) + (1 : Int32)))).bind fun s6 => some s6
def F_PA_add (a1 : Int32) (a2 : Int32) (a3 : Int32) (a4 : Int32) (a5 : Int32) (s : St) : Option (St) :=
  if (rd s 28 0) < (8 : Int32) then (F_PA_add_13 a1 a2 a3 a4 a5 s) else ((F_PA_dropOldest s).bind fun s7 => F_PA_add_13 a1 a2 a3 a4 a5 s7)
def F_PA_forget (s : St) : Option (St) :=
  (some (wr s 28 0 (0 : Int32))).bind fun s1 => some s1
def F_PA_takeBack (t1 : Nat) (s : St) : Option (St) :=
  if 0 < (rd s 28 0) then ((some (wr s 28 0 ((rd s 28 0) - (1 : Int32)))).bind fun s1 => (F_AC_at 30 (rd s1 28 0) s1).bind fun o2 => (F_AC_at 31 (rd o2.2 28 0) o2.2).bind fun o3 => (F_AC_at 29 (rd o3.2 28 0) o3.2).bind fun o4 => (some o4.1).bind fun x5 => if x5 = 0 then ((F_AC_swapPlaces (t1 + 8) (rd o4.2 t1 1) o2.1 o3.1 o4.2).bind fun s6 => some s6) else if x5 = 1 then ((F_NI_turnAlibi t1 o2.1 o3.1 o4.2).bind fun s7 => some s7) else ((F_AC_at 32 (rd o4.2 28 0) o4.2).bind fun o8 => (F_AC_at 33 (rd o8.2 28 0) o8.2).bind fun o9 => (F_NI_unpair t1 o2.1 o3.1 o8.1 o9.1 o9.2).bind fun s10 => some s10)) else (some s)
def F_PR_fill_56 (t0 : Nat) (t1 : Nat) (K18 : Int32 × St → Option (St)) (K28 : Int32 × St → Option (St)) (v2 : Int32) (v3 : Int32) (z0 : Int32) (s : St) : Option (St) :=
  (F_AC_put (t0 + 1) (((v2 * (2 : Int32)) * (7 : Int32)) + v3) z0 s).bind fun s4 => K28 ((v3 + 1), s4)
def H_PR_fill_28 (t0 : Nat) (t1 : Nat) (K18 : Int32 × St → Option (St)) (v2 : Int32) (K28 : Int32 × St → Option (St)) (v3 : Int32) (s : St) : Option (St) :=
  if (rd s t0 1) ≤ v3 then (K18 ((v2 + 1), s)) else ((F_NI_may t1 v2 v3 s).bind fun o3 => if o3.1 = 0 then (F_PR_fill_56 t0 t1 K18 K28 v2 v3 (1000000 : Int32) o3.2) else ((F_NI_monthsFor t1 v2 v3 o3.2).bind fun o5 => F_PR_fill_56 t0 t1 K18 K28 v2 v3 o5.1 o5.2))
def G_PR_fill_28 (t0 : Nat) (t1 : Nat) (K18 : Int32 × St → Option (St)) (v2 : Int32) (K28 : Int32 × St → Option (St)) (q : Int32 × St) : Option (St) := H_PR_fill_28 t0 t1 K18 v2 K28 q.1 q.2
def F_PR_fill_28 (t0 : Nat) (t1 : Nat) (K18 : Int32 × St → Option (St)) (v2 : Int32) (v3 : Int32) (s : St) : Option (St) := fixF (G_PR_fill_28 t0 t1 K18 v2) FUEL (v3, s)
def H_PR_fill_18 (t0 : Nat) (t1 : Nat) (K18 : Int32 × St → Option (St)) (v2 : Int32) (s : St) : Option (St) :=
  if (rd s t0 0) ≤ v2 then (some s) else (F_PR_fill_28 t0 t1 K18 v2 (0 : Int32) s)
def G_PR_fill_18 (t0 : Nat) (t1 : Nat) (K18 : Int32 × St → Option (St)) (q : Int32 × St) : Option (St) := H_PR_fill_18 t0 t1 K18 q.1 q.2
def F_PR_fill_18 (t0 : Nat) (t1 : Nat) (v2 : Int32) (s : St) : Option (St) := fixF (G_PR_fill_18 t0 t1) FUEL (v2, s)
def F_PR_fill (t0 : Nat) (t1 : Nat) (s : St) : Option (St) :=
  (some (wr s t0 0 (rd s t1 1))).bind fun s1 => (some (wr s1 t0 1 (rd s1 t1 0))).bind fun s2 => F_PR_fill_18 t0 t1 (0 : Int32) s2
def F_TA_get (a1 : Int32) (a2 : Int32) (s : St) : Option (Int32 × St) :=
  (F_AC_at 50 ((a1 * (128 : Int32)) + a2) s).bind fun o1 => some (o1.1, o1.2)
def F_TA_set (a1 : Int32) (a2 : Int32) (a3 : Int32) (s : St) : Option (St) :=
  (F_AC_put 50 ((a1 * (128 : Int32)) + a2) a3 s).bind fun s1 => some s1
def H_TA_closeAt_2 (v1 : Int32) (K2 : Int32 × St → Option (St)) (v2 : Int32) (s : St) : Option (St) :=
  if (128 : Int32) ≤ v2 then (some s) else ((F_TA_set v1 v2 (0 : Int32) s).bind fun s1 => K2 ((v2 + 1), s1))
def G_TA_closeAt_2 (v1 : Int32) (K2 : Int32 × St → Option (St)) (q : Int32 × St) : Option (St) := H_TA_closeAt_2 v1 K2 q.1 q.2
def F_TA_closeAt_2 (v1 : Int32) (v2 : Int32) (s : St) : Option (St) := fixF (G_TA_closeAt_2 v1) FUEL (v2, s)
def F_TA_closeAt (a1 : Int32) (s : St) : Option (St) :=
  F_TA_closeAt_2 a1 (0 : Int32) s
def F_TA_canBe (a0 : Int32) (a1 : Int32) (s : St) : Option (Int32 × St) :=
  (F_IG_bitCount a0 s).bind fun o1 => if a1 < o1.1 then (some (0, o1.2)) else (some (1, o1.2))
def F_TA_monthsWith (t1 : Nat) (a2 : Int32) (a3 : Int32) (a4 : Int32) (a5 : Int32) (s : St) : Option (Int32 × St) :=
  (F_PR_of t1 a3 a4 s).bind fun o1 => (F_AC_bit a4 o1.2).bind fun o2 => (F_TA_get (a2 + (1 : Int32)) (a5 ||| o2.1) o2.2).bind fun o3 => some ((o1.1 + o3.1), o3.2)
def F_TA_leastFrom_61 (t1 : Nat) (K16 : Int32 × Int32 × St → Option (Int32 × St)) (v2 : Int32) (v3 : Int32) (v4 : Int32) (v5 : Int32) (s : St) : Option (Int32 × St) :=
  K16 (v4, (v5 + 1), s)
def H_TA_leastFrom_16 (t1 : Nat) (v2 : Int32) (v3 : Int32) (K16 : Int32 × Int32 × St → Option (Int32 × St)) (v4 : Int32) (v5 : Int32) (s : St) : Option (Int32 × St) :=
  if (rd s t1 1) ≤ v5 then (some (v4, s)) else ((F_AC_has v3 v5 s).bind fun o3 => if o3.1 = 0 then ((F_PR_allows t1 v2 v5 o3.2).bind fun o4 => if o4.1 = 0 then (F_TA_leastFrom_61 t1 K16 v2 v3 v4 v5 o4.2) else ((F_TA_monthsWith t1 v2 v2 v5 v3 o4.2).bind fun o5 => (F_MA_min v4 o5.1 o5.2).bind fun o6 => F_TA_leastFrom_61 t1 K16 v2 v3 o6.1 v5 o6.2)) else (F_TA_leastFrom_61 t1 K16 v2 v3 v4 v5 o3.2))
def G_TA_leastFrom_16 (t1 : Nat) (v2 : Int32) (v3 : Int32) (K16 : Int32 × Int32 × St → Option (Int32 × St)) (q : Int32 × Int32 × St) : Option (Int32 × St) := H_TA_leastFrom_16 t1 v2 v3 K16 q.1 q.2.1 q.2.2
def F_TA_leastFrom_16 (t1 : Nat) (v2 : Int32) (v3 : Int32) (v4 : Int32) (v5 : Int32) (s : St) : Option (Int32 × St) := fixF (G_TA_leastFrom_16 t1 v2 v3) FUEL (v4, v5, s)
def F_TA_leastFrom (t1 : Nat) (a2 : Int32) (a3 : Int32) (s : St) : Option (Int32 × St) :=
  (F_TA_get (a2 + (1 : Int32)) a3 s).bind fun o1 => (some ((60 : Int32) + o1.1)).bind fun x2 => F_TA_leastFrom_16 t1 a2 a3 x2 (0 : Int32) o1.2
def F_TA_fillLeast_53 (t1 : Nat) (K15 : Int32 × St → Option (St)) (K21 : Int32 × St → Option (St)) (v2 : Int32) (v3 : Int32) (s : St) : Option (St) :=
  K21 ((v3 + 1), s)
def H_TA_fillLeast_21 (t1 : Nat) (K15 : Int32 × St → Option (St)) (v2 : Int32) (K21 : Int32 × St → Option (St)) (v3 : Int32) (s : St) : Option (St) :=
  (F_AC_bit (rd s t1 1) s).bind fun o3 => if o3.1 ≤ v3 then (K15 ((v2 - 1), o3.2)) else ((F_TA_canBe v3 v2 o3.2).bind fun o4 => if o4.1 = 0 then (F_TA_fillLeast_53 t1 K15 K21 v2 v3 o4.2) else ((F_TA_leastFrom t1 v2 v3 o4.2).bind fun o5 => (F_TA_set v2 v3 o5.1 o5.2).bind fun s6 => F_TA_fillLeast_53 t1 K15 K21 v2 v3 s6))
def G_TA_fillLeast_21 (t1 : Nat) (K15 : Int32 × St → Option (St)) (v2 : Int32) (K21 : Int32 × St → Option (St)) (q : Int32 × St) : Option (St) := H_TA_fillLeast_21 t1 K15 v2 K21 q.1 q.2
def F_TA_fillLeast_21 (t1 : Nat) (K15 : Int32 × St → Option (St)) (v2 : Int32) (v3 : Int32) (s : St) : Option (St) := fixF (G_TA_fillLeast_21 t1 K15 v2) FUEL (v3, s)
def H_TA_fillLeast_15 (t1 : Nat) (K15 : Int32 × St → Option (St)) (v2 : Int32) (s : St) : Option (St) :=
  if v2 < 0 then (some s) else (F_TA_fillLeast_21 t1 K15 v2 (0 : Int32) s)
def G_TA_fillLeast_15 (t1 : Nat) (K15 : Int32 × St → Option (St)) (q : Int32 × St) : Option (St) := H_TA_fillLeast_15 t1 K15 q.1 q.2
def F_TA_fillLeast_15 (t1 : Nat) (v2 : Int32) (s : St) : Option (St) := fixF (G_TA_fillLeast_15 t1) FUEL (v2, s)
def F_TA_fillLeast (t1 : Nat) (s : St) : Option (St) :=
  (F_TA_closeAt (rd s t1 0) s).bind fun s1 => (some ((rd s1 t1 0) - (1 : Int32))).bind fun x2 => F_TA_fillLeast_15 t1 x2 s1
def F_TA_leastStep_57 (t1 : Nat) (K11 : Int32 × St → Option (Int32 × St)) (v2 : Int32) (v3 : Int32) (v4 : Int32) (v5 : Int32) (s : St) : Option (Int32 × St) :=
  K11 ((v5 + 1), s)
def H_TA_leastStep_11 (t1 : Nat) (v2 : Int32) (v3 : Int32) (v4 : Int32) (K11 : Int32 × St → Option (Int32 × St)) (v5 : Int32) (s : St) : Option (Int32 × St) :=
  if (rd s t1 1) ≤ v5 then (some ((-9 : Int32), s)) else ((F_AC_has v3 v5 s).bind fun o2 => if o2.1 = 0 then ((F_PR_allows t1 v2 v5 o2.2).bind fun o3 => if o3.1 = 0 then (F_TA_leastStep_57 t1 K11 v2 v3 v4 v5 o3.2) else ((F_TA_monthsWith t1 v2 v2 v5 v3 o3.2).bind fun o4 => if o4.1 = v4 then (some (v5, o4.2)) else (F_TA_leastStep_57 t1 K11 v2 v3 v4 v5 o4.2))) else (F_TA_leastStep_57 t1 K11 v2 v3 v4 v5 o2.2))
def G_TA_leastStep_11 (t1 : Nat) (v2 : Int32) (v3 : Int32) (v4 : Int32) (K11 : Int32 × St → Option (Int32 × St)) (q : Int32 × St) : Option (Int32 × St) := H_TA_leastStep_11 t1 v2 v3 v4 K11 q.1 q.2
def F_TA_leastStep_11 (t1 : Nat) (v2 : Int32) (v3 : Int32) (v4 : Int32) (v5 : Int32) (s : St) : Option (Int32 × St) := fixF (G_TA_leastStep_11 t1 v2 v3 v4) FUEL (v5, s)
def F_TA_leastStep (t1 : Nat) (a2 : Int32) (a3 : Int32) (s : St) : Option (Int32 × St) :=
  (F_TA_get a2 a3 s).bind fun o1 => F_TA_leastStep_11 t1 a2 a3 o1.1 (0 : Int32) o1.2
def H_TA_leastDeed_9 (t1 : Nat) (v2 : Int32) (K9 : Int32 × Int32 × Int32 × St → Option (Int32 × St)) (v3 : Int32) (v4 : Int32) (v5 : Int32) (s : St) : Option (Int32 × St) :=
  if v2 < v5 then (some (v4, s)) else ((F_TA_leastStep t1 v5 v3 s).bind fun o1 => (F_AC_bit o1.1 o1.2).bind fun o2 => (some (v3 ||| o2.1)).bind fun x3 => K9 (x3, o1.1, (v5 + 1), o2.2))
def G_TA_leastDeed_9 (t1 : Nat) (v2 : Int32) (K9 : Int32 × Int32 × Int32 × St → Option (Int32 × St)) (q : Int32 × Int32 × Int32 × St) : Option (Int32 × St) := H_TA_leastDeed_9 t1 v2 K9 q.1 q.2.1 q.2.2.1 q.2.2.2
def F_TA_leastDeed_9 (t1 : Nat) (v2 : Int32) (v3 : Int32) (v4 : Int32) (v5 : Int32) (s : St) : Option (Int32 × St) := fixF (G_TA_leastDeed_9 t1 v2) FUEL (v3, v4, v5, s)
def F_TA_leastDeed (t1 : Nat) (a2 : Int32) (s : St) : Option (Int32 × St) :=
  F_TA_leastDeed_9 t1 a2 (0 : Int32) (-9 : Int32) (0 : Int32) s
def F_TA_chosen_54 (t1 : Nat) (K7 : Int32 × Int32 × St → Option (Int32 × St)) (v2 : Int32) (v3 : Int32) (v4 : Int32) (v5 : Int32) (v6 : Int32) (s : St) : Option (Int32 × St) :=
  K7 (v5, (v6 + 1), s)
def H_TA_chosen_7 (t1 : Nat) (v2 : Int32) (v3 : Int32) (v4 : Int32) (K7 : Int32 × Int32 × St → Option (Int32 × St)) (v5 : Int32) (v6 : Int32) (s : St) : Option (Int32 × St) :=
  if (rd s t1 1) ≤ v6 then (if (1000000 : Int32) ≤ v5 then ((F_TA_get (v2 + (1 : Int32)) v4 s).bind fun o1 => some (((60 : Int32) + o1.1), o1.2)) else (some (v5, s))) else ((F_AC_has v4 v6 s).bind fun o2 => if o2.1 = 0 then ((F_PR_allows t1 v3 v6 o2.2).bind fun o3 => if o3.1 = 0 then (F_TA_chosen_54 t1 K7 v2 v3 v4 v5 v6 o3.2) else ((F_TA_monthsWith t1 v2 v3 v6 v4 o3.2).bind fun o4 => (F_MA_min v5 o4.1 o4.2).bind fun o5 => F_TA_chosen_54 t1 K7 v2 v3 v4 o5.1 v6 o5.2)) else (F_TA_chosen_54 t1 K7 v2 v3 v4 v5 v6 o2.2))
def G_TA_chosen_7 (t1 : Nat) (v2 : Int32) (v3 : Int32) (v4 : Int32) (K7 : Int32 × Int32 × St → Option (Int32 × St)) (q : Int32 × Int32 × St) : Option (Int32 × St) := H_TA_chosen_7 t1 v2 v3 v4 K7 q.1 q.2.1 q.2.2
def F_TA_chosen_7 (t1 : Nat) (v2 : Int32) (v3 : Int32) (v4 : Int32) (v5 : Int32) (v6 : Int32) (s : St) : Option (Int32 × St) := fixF (G_TA_chosen_7 t1 v2 v3 v4) FUEL (v5, v6, s)
def F_TA_chosen (t1 : Nat) (a2 : Int32) (a3 : Int32) (a4 : Int32) (s : St) : Option (Int32 × St) :=
  F_TA_chosen_7 t1 a2 a3 a4 (1000000 : Int32) (0 : Int32) s
def F_TA_passed (t1 : Nat) (a2 : Int32) (a3 : Int32) (a4 : Int32) (s : St) : Option (Int32 × St) :=
  (F_PR_lightest t1 a3 (a4 ^^^ (-1 : Int32)) s).bind fun o1 => (F_AC_bit o1.1 o1.2).bind fun o2 => (F_TA_get (a2 + (1 : Int32)) (a4 ||| o2.1) o2.2).bind fun o3 => some (o3.1, o3.2)
def F_TA_fillTogether_100 (t1 : Nat) (t2 : Nat) (K16 : Int32 × St → Option (St)) (K40 : Int32 × St → Option (St)) (v3 : Int32) (v4 : Int32) (v5 : Int32) (v6 : Int32) (v7 : Int32) (s : St) : Option (St) :=
  K40 ((v7 + 1), s)
def F_TA_fillTogether_97 (t1 : Nat) (t2 : Nat) (K16 : Int32 × St → Option (St)) (K40 : Int32 × St → Option (St)) (v3 : Int32) (v4 : Int32) (v5 : Int32) (v6 : Int32) (v7 : Int32) (z0 : Int32) (z1 : Int32) (z2 : Int32) (s : St) : Option (St) :=
  (F_TA_set z2 z1 z0 s).bind fun s8 => F_TA_fillTogether_100 t1 t2 K16 K40 v3 v4 v5 v6 v7 s8
def H_TA_fillTogether_40 (t1 : Nat) (t2 : Nat) (K16 : Int32 × St → Option (St)) (v3 : Int32) (v4 : Int32) (v5 : Int32) (v6 : Int32) (K40 : Int32 × St → Option (St)) (v7 : Int32) (s : St) : Option (St) :=
  (F_AC_bit (rd s t1 1) s).bind fun o5 => if o5.1 ≤ v7 then (K16 ((v4 - 1), o5.2)) else ((F_TA_canBe v7 v4 o5.2).bind fun o6 => if o6.1 = 0 then (F_TA_fillTogether_100 t1 t2 K16 K40 v3 v4 v5 v6 v7 o6.2) else (if v6 = 0 then ((F_TA_passed t1 v4 v5 v7 o6.2).bind fun o7 => F_TA_fillTogether_97 t1 t2 K16 K40 v3 v4 v5 v6 v7 o7.1 v7 v4 o7.2) else ((F_TA_chosen t1 v4 v5 v7 o6.2).bind fun o9 => F_TA_fillTogether_97 t1 t2 K16 K40 v3 v4 v5 v6 v7 o9.1 v7 v4 o9.2)))
def G_TA_fillTogether_40 (t1 : Nat) (t2 : Nat) (K16 : Int32 × St → Option (St)) (v3 : Int32) (v4 : Int32) (v5 : Int32) (v6 : Int32) (K40 : Int32 × St → Option (St)) (q : Int32 × St) : Option (St) := H_TA_fillTogether_40 t1 t2 K16 v3 v4 v5 v6 K40 q.1 q.2
def F_TA_fillTogether_40 (t1 : Nat) (t2 : Nat) (K16 : Int32 × St → Option (St)) (v3 : Int32) (v4 : Int32) (v5 : Int32) (v6 : Int32) (v7 : Int32) (s : St) : Option (St) := fixF (G_TA_fillTogether_40 t1 t2 K16 v3 v4 v5 v6) FUEL (v7, s)
def H_TA_fillTogether_16 (t1 : Nat) (t2 : Nat) (v3 : Int32) (K16 : Int32 × St → Option (St)) (v4 : Int32) (s : St) : Option (St) :=
  if v4 < 0 then (some s) else ((F_AC_at t2 v4 s).bind fun o3 => (F_AC_has v3 o3.1 o3.2).bind fun o4 => F_TA_fillTogether_40 t1 t2 K16 v3 v4 o3.1 o4.1 (0 : Int32) o4.2)
def G_TA_fillTogether_16 (t1 : Nat) (t2 : Nat) (v3 : Int32) (K16 : Int32 × St → Option (St)) (q : Int32 × St) : Option (St) := H_TA_fillTogether_16 t1 t2 v3 K16 q.1 q.2
def F_TA_fillTogether_16 (t1 : Nat) (t2 : Nat) (v3 : Int32) (v4 : Int32) (s : St) : Option (St) := fixF (G_TA_fillTogether_16 t1 t2 v3) FUEL (v4, s)
def F_TA_fillTogether (t1 : Nat) (t2 : Nat) (a3 : Int32) (s : St) : Option (St) :=
  (F_TA_closeAt (rd s t1 0) s).bind fun s1 => (some ((rd s1 t1 0) - (1 : Int32))).bind fun x2 => F_TA_fillTogether_16 t1 t2 a3 x2 s1
def F_AC_refuse (a1 : Int32) (s : St) : Option (Int32 × St) :=
  (F_AC_at 57 (-a1) s).bind fun o1 => (F_AC_put 57 (-a1) (o1.1 + (1 : Int32)) o1.2).bind fun s2 => some (a1, s2)
def F_AC_feed_28 (s : St) : Option (Int32 × St) :=
  (F_AC_refuse (-6 : Int32) s).bind fun o1 => some (o1.1, o1.2)
def F_AC_feed (a1 : Int32) (s : St) : Option (Int32 × St) :=
  if 0 ≤ a1 then (if (255 : Int32) < a1 then (F_AC_feed_28 s) else ((F_LT_isFull s).bind fun o2 => if o2.1 = 0 then ((F_LT_add a1 o2.2).bind fun o3 => some (o3.1, o3.2)) else (F_AC_feed_28 o2.2))) else ((F_AC_refuse (-4 : Int32) s).bind fun o4 => some (o4.1, o4.2))
def F_AC_night (s : St) : Option (Int32 × St) :=
  (F_NI_copy 19 1 s).bind fun s1 => (F_LT_tell 19 s1).bind fun o2 => (F_LT_drop o2.2).bind fun s3 => if o2.1 ≤ 0 then (some (o2.1, s3)) else ((F_NI_copy 1 19 s3).bind fun s4 => (F_PA_forget s4).bind fun s5 => some (o2.1, s5))
def F_AC_deed (a1 : Int32) (a2 : Int32) (s : St) : Option (Int32 × St) :=
  (F_NI_hasDeed 1 a1 s).bind fun o1 => if o1.1 = 0 then ((F_AC_refuse (-1 : Int32) o1.2).bind fun o5 => some (o5.1, o5.2)) else (if a2 = 0 then ((F_AC_at 2 a1 o1.2).bind fun o2 => some (o2.1, o2.2)) else if a2 = 1 then ((F_AC_at 3 a1 o1.2).bind fun o3 => some (o3.1, o3.2)) else ((F_AC_refuse (-2 : Int32) o1.2).bind fun o4 => some (o4.1, o4.2)))
def F_AC_person (a1 : Int32) (a2 : Int32) (s : St) : Option (Int32 × St) :=
  (F_NI_hasPerson 1 a1 s).bind fun o1 => if o1.1 = 0 then ((F_AC_refuse (-1 : Int32) o1.2).bind fun o10 => some (o10.1, o10.2)) else (if a2 = 0 then ((F_AC_at 4 a1 o1.2).bind fun o2 => some (o2.1, o2.2)) else if a2 = 1 then ((F_AC_at 5 a1 o1.2).bind fun o3 => some (o3.1, o3.2)) else if a2 = 2 then ((F_AC_at 6 a1 o1.2).bind fun o4 => some (o4.1, o4.2)) else if a2 = 3 then ((F_AC_at 7 a1 o1.2).bind fun o5 => some (o5.1, o5.2)) else if a2 = 4 then ((F_NI_placeOf 1 a1 o1.2).bind fun o6 => some (o6.1, o6.2)) else if a2 = 5 then ((F_AC_at 8 a1 o1.2).bind fun o7 => some (o7.1, o7.2)) else if a2 = 6 then ((F_NI_mayBits 1 a1 o1.2).bind fun o8 => some (o8.1, o8.2)) else ((F_AC_refuse (-2 : Int32) o1.2).bind fun o9 => some (o9.1, o9.2)))
def F_AC_months_22 (s : St) : Option (Int32 × St) :=
  (F_AC_refuse (-1 : Int32) s).bind fun o2 => some (o2.1, o2.2)
def F_AC_months (a1 : Int32) (a2 : Int32) (s : St) : Option (Int32 × St) :=
  (F_NI_hasPerson 1 a1 s).bind fun o1 => if o1.1 = 0 then (F_AC_months_22 o1.2) else ((F_NI_hasDeed 1 a2 o1.2).bind fun o3 => if o3.1 = 0 then (F_AC_months_22 o3.2) else ((F_NI_monthsFor 1 a1 a2 o3.2).bind fun o4 => some (o4.1, o4.2)))
def F_AC_addDeed_10 (s : St) : Option (Int32 × St) :=
  (F_AC_refuse (-2 : Int32) s).bind fun o1 => some (o1.1, o1.2)
def F_AC_addDeed_46 (s : St) : Option (Int32 × St) :=
  (F_AC_refuse (-6 : Int32) s).bind fun o2 => some (o2.1, o2.2)
def F_AC_addDeed (a1 : Int32) (a2 : Int32) (s : St) : Option (Int32 × St) :=
  if a1 < 0 then (F_AC_addDeed_10 s) else (if a1 < (6 : Int32) then (if 0 ≤ a2 then (if (9 : Int32) < a2 then (F_AC_addDeed_46 s) else (if (rd s 1 0) < (7 : Int32) then ((F_PA_forget s).bind fun s3 => (F_NI_putDeed 1 a1 a2 s3).bind fun o4 => some (o4.1, o4.2)) else (F_AC_addDeed_46 s))) else ((F_AC_refuse (-4 : Int32) s).bind fun o5 => some (o5.1, o5.2))) else (F_AC_addDeed_10 s))
def F_AC_addPerson_12 (s : St) : Option (Int32 × St) :=
  (F_AC_refuse (-4 : Int32) s).bind fun o1 => some (o1.1, o1.2)
def F_AC_addPerson_50 (s : St) : Option (Int32 × St) :=
  (F_AC_refuse (-6 : Int32) s).bind fun o2 => some (o2.1, o2.2)
def F_AC_addPerson (a1 : Int32) (a2 : Int32) (a3 : Int32) (s : St) : Option (Int32 × St) :=
  if a1 < 0 then (F_AC_addPerson_12 s) else (if a2 < 0 then (F_AC_addPerson_12 s) else (if 0 ≤ a3 then (if (9 : Int32) < a1 then (F_AC_addPerson_50 s) else (if (128 : Int32) ≤ a2 then (F_AC_addPerson_50 s) else (if (7 : Int32) < a3 then (F_AC_addPerson_50 s) else (if (rd s 1 1) < (7 : Int32) then ((F_PA_forget s).bind fun s3 => (F_NI_putPerson 1 a1 a2 a3 s3).bind fun o4 => some (o4.1, o4.2)) else (F_AC_addPerson_50 s))))) else (F_AC_addPerson_12 s)))
def F_AC_change (a1 : Int32) (a2 : Int32) (s : St) : Option (Int32 × St) :=
  (F_NI_hasTwo 1 a1 a2 s).bind fun o1 => if o1.1 = 0 then ((F_AC_refuse (-1 : Int32) o1.2).bind fun o5 => some (o5.1, o5.2)) else ((F_PA_add (0 : Int32) a1 a2 (-9 : Int32) (-9 : Int32) o1.2).bind fun s2 => (F_AC_swapPlaces 9 (rd s2 1 1) a1 a2 s2).bind fun s3 => (F_NI_placeOf 1 a1 s3).bind fun o4 => some (o4.1, o4.2))
def F_AC_alibi_22 (s : St) : Option (Int32 × St) :=
  (F_AC_refuse (-1 : Int32) s).bind fun o2 => some (o2.1, o2.2)
def F_AC_alibi (a1 : Int32) (a2 : Int32) (s : St) : Option (Int32 × St) :=
  (F_NI_hasPerson 1 a1 s).bind fun o1 => if o1.1 = 0 then (F_AC_alibi_22 o1.2) else ((F_NI_hasDeed 1 a2 o1.2).bind fun o3 => if o3.1 = 0 then (F_AC_alibi_22 o3.2) else ((F_PA_add (1 : Int32) a1 a2 (-9 : Int32) (-9 : Int32) o3.2).bind fun s4 => (F_NI_turnAlibi 1 a1 a2 s4).bind fun s5 => (F_AC_at 8 a1 s5).bind fun o6 => (F_AC_has o6.1 a2 o6.2).bind fun o7 => if o7.1 = 0 then (some ((0 : Int32), o7.2)) else (some ((1 : Int32), o7.2))))
def F_AC_brothers (a1 : Int32) (a2 : Int32) (s : St) : Option (Int32 × St) :=
  (F_NI_hasTwo 1 a1 a2 s).bind fun o1 => if o1.1 = 0 then ((F_AC_refuse (-1 : Int32) o1.2).bind fun o6 => some (o6.1, o6.2)) else ((F_AC_at 7 a1 o1.2).bind fun o2 => (F_AC_at 7 a2 o2.2).bind fun o3 => (F_PA_add (2 : Int32) a1 a2 o2.1 o3.1 o3.2).bind fun s4 => (F_NI_pair 1 a1 a2 s4).bind fun s5 => some (o2.1, s5))
def F_AC_back (s : St) : Option (Int32 × St) :=
  if 0 < (rd s 28 0) then ((F_PA_takeBack 1 s).bind fun s1 => some ((rd s1 28 0), s1)) else ((F_AC_refuse (-3 : Int32) s).bind fun o2 => some (o2.1, o2.2))
def F_AC_holdToday (s : St) : Option (St) :=
  (F_PR_fill 36 1 s).bind fun s1 => (F_NI_allDeeds 1 s1).bind fun o2 => (F_MO_hold 40 36 9 o2.1 o2.2).bind fun s3 => some s3
def F_AC_takes_26 (s : St) : Option (Int32 × St) :=
  (F_AC_refuse (-2 : Int32) s).bind fun o2 => some (o2.1, o2.2)
def F_AC_takes (a1 : Int32) (a2 : Int32) (s : St) : Option (Int32 × St) :=
  (F_NI_hasPerson 1 a1 s).bind fun o1 => if o1.1 = 0 then ((F_AC_refuse (-1 : Int32) o1.2).bind fun o6 => some (o6.1, o6.2)) else (if a2 < 0 then (F_AC_takes_26 o1.2) else (if a2 ≤ (1 : Int32) then ((F_AC_holdToday o1.2).bind fun s3 => if a2 = 0 then ((F_AC_at 41 a1 s3).bind fun o5 => some (o5.1, o5.2)) else ((F_AC_at 42 a1 s3).bind fun o4 => some (o4.1, o4.2))) else (F_AC_takes_26 o1.2)))
def F_AC_morning (a1 : Int32) (s : St) : Option (Int32 × St) :=
  (F_AC_holdToday s).bind fun s1 => if a1 = 0 then (some ((rd s1 40 5), s1)) else if a1 = 1 then (some ((rd s1 40 4), s1)) else if a1 = 2 then (some ((rd s1 40 3), s1)) else ((F_AC_refuse (-2 : Int32) s1).bind fun o2 => some (o2.1, o2.2))
def F_AC_least_22 (v1 : Int32) (s : St) : Option (Int32 × St) :=
  (F_PR_fill 36 1 s).bind fun s1 => (F_TA_fillLeast 36 s1).bind fun s2 => if v1 = (-1 : Int32) then ((F_TA_get (0 : Int32) (0 : Int32) s2).bind fun o4 => some (o4.1, o4.2)) else ((F_TA_leastDeed 36 v1 s2).bind fun o3 => some (o3.1, o3.2))
def F_AC_least (a1 : Int32) (s : St) : Option (Int32 × St) :=
  if a1 = (-1 : Int32) then (F_AC_least_22 a1 s) else ((F_NI_hasPerson 1 a1 s).bind fun o5 => if o5.1 = 0 then ((F_AC_refuse (-1 : Int32) o5.2).bind fun o6 => some (o6.1, o6.2)) else (F_AC_least_22 a1 o5.2))
def F_AC_fromLast_26 (s : St) : Option (Int32 × St) :=
  (F_AC_refuse (-2 : Int32) s).bind fun o2 => some (o2.1, o2.2)
def F_AC_fromLast (a1 : Int32) (a2 : Int32) (s : St) : Option (Int32 × St) :=
  (F_NI_hasPerson 1 a1 s).bind fun o1 => if o1.1 = 0 then ((F_AC_refuse (-1 : Int32) o1.2).bind fun o7 => some (o7.1, o7.2)) else (if a2 < 0 then (F_AC_fromLast_26 o1.2) else (if a2 ≤ (1 : Int32) then ((F_PR_fill 36 1 o1.2).bind fun s3 => (F_LB_hold 36 1 s3).bind fun s4 => if a2 = 0 then ((F_AC_at 47 a1 s4).bind fun o6 => some (o6.1, o6.2)) else ((F_AC_at 48 a1 s4).bind fun o5 => some (o5.1, o5.2))) else (F_AC_fromLast_26 o1.2)))
def F_AC_allFromLast (s : St) : Option (Int32 × St) :=
  (F_PR_fill 36 1 s).bind fun s1 => (F_LB_hold 36 1 s1).bind fun s2 => some ((rd s2 46 2), s2)
def F_AC_refuseLong (a1 : Int32) (s : St) : Option (Int64 × St) :=
  (F_AC_refuse a1 s).bind fun o1 => some (((4000000000000000000 : Int64) - (o1.1).toInt64), o1.2)
def F_AC_giveOut_97 (K3 : Int32 × St → Option (St)) (v1 : Int32) (v2 : Int32) (v3 : Int32) (v4 : Int32) (s : St) : Option (St) :=
  K3 ((v4 + 1), s)
def F_AC_giveOut_32 (K3 : Int32 × St → Option (St)) (v1 : Int32) (v2 : Int32) (v3 : Int32) (v4 : Int32) (z0 : Int32) (s : St) : Option (St) :=
  if z0 = 0 then (F_AC_giveOut_97 K3 v1 v2 v3 v4 s) else ((F_AC_has v1 v4 s).bind fun o1 => if o1.1 = 0 then ((F_NI_canHaveDone 1 v4 v2 o1.2).bind fun o2 => if o2.1 = 0 then (F_AC_giveOut_97 K3 v1 v2 v3 v4 o2.2) else ((F_AC_bit v4 o2.2).bind fun o3 => (some (v1 ||| o3.1)).bind fun x4 => (F_AC_at 55 x4 o3.2).bind fun o5 => (F_AC_at 55 v1 o5.2).bind fun o6 => (F_AC_put 55 x4 (o5.1 + o6.1) o6.2).bind fun s7 => F_AC_giveOut_97 K3 v1 v2 v3 v4 s7)) else (F_AC_giveOut_97 K3 v1 v2 v3 v4 o1.2))
def F_AC_giveOut_27 (K3 : Int32 × St → Option (St)) (v1 : Int32) (v2 : Int32) (v3 : Int32) (v4 : Int32) (s : St) : Option (St) :=
  F_AC_giveOut_32 K3 v1 v2 v3 v4 (1 : Int32) s
def H_AC_giveOut_3 (v1 : Int32) (v2 : Int32) (v3 : Int32) (K3 : Int32 × St → Option (St)) (v4 : Int32) (s : St) : Option (St) :=
  if (rd s 1 1) ≤ v4 then (some s) else (if v3 = (-9 : Int32) then (F_AC_giveOut_27 K3 v1 v2 v3 v4 s) else (if v3 = v4 then (F_AC_giveOut_27 K3 v1 v2 v3 v4 s) else (F_AC_giveOut_32 K3 v1 v2 v3 v4 (0 : Int32) s)))
def G_AC_giveOut_3 (v1 : Int32) (v2 : Int32) (v3 : Int32) (K3 : Int32 × St → Option (St)) (q : Int32 × St) : Option (St) := H_AC_giveOut_3 v1 v2 v3 K3 q.1 q.2
def F_AC_giveOut_3 (v1 : Int32) (v2 : Int32) (v3 : Int32) (v4 : Int32) (s : St) : Option (St) := fixF (G_AC_giveOut_3 v1 v2 v3) FUEL (v4, s)
def F_AC_giveOut (a1 : Int32) (a2 : Int32) (a3 : Int32) (s : St) : Option (St) :=
  F_AC_giveOut_3 a1 a2 a3 (0 : Int32) s
def F_AC_countWays_127 (K53 : Int32 × Int32 × St → Option (Int32 × St)) (v1 : Int32) (v2 : Int32) (v3 : Int32) (v4 : Int32) (v5 : Int32) (s : St) : Option (Int32 × St) :=
  K53 (v4, (v5 + 1), s)
def F_AC_countWays_124 (K53 : Int32 × Int32 × St → Option (Int32 × St)) (v1 : Int32) (v2 : Int32) (v3 : Int32) (v4 : Int32) (v5 : Int32) (z0 : Int32) (z1 : Int32) (z2 : Int32) (s : St) : Option (Int32 × St) :=
  (F_AC_giveOut z2 z1 z0 s).bind fun s3 => F_AC_countWays_127 K53 v1 v2 v3 v4 v5 s3
def H_AC_countWays_53 (v1 : Int32) (v2 : Int32) (v3 : Int32) (K53 : Int32 × Int32 × St → Option (Int32 × St)) (v4 : Int32) (v5 : Int32) (s : St) : Option (Int32 × St) :=
  if v3 ≤ v5 then (some (v4, s)) else ((F_IG_bitCount v5 s).bind fun o2 => if o2.1 = (rd o2.2 1 0) then ((F_AC_at 55 v5 o2.2).bind fun o4 => (some (v4 + o4.1)).bind fun x5 => F_AC_countWays_127 K53 v1 v2 v3 x5 v5 o4.2) else (if (rd o2.2 1 0) ≤ o2.1 then (F_AC_countWays_127 K53 v1 v2 v3 v4 v5 o2.2) else (if o2.1 = v2 then (F_AC_countWays_124 K53 v1 v2 v3 v4 v5 v1 o2.1 v5 o2.2) else (F_AC_countWays_124 K53 v1 v2 v3 v4 v5 (-9 : Int32) o2.1 v5 o2.2))))
def G_AC_countWays_53 (v1 : Int32) (v2 : Int32) (v3 : Int32) (K53 : Int32 × Int32 × St → Option (Int32 × St)) (q : Int32 × Int32 × St) : Option (Int32 × St) := H_AC_countWays_53 v1 v2 v3 K53 q.1 q.2.1 q.2.2
def F_AC_countWays_53 (v1 : Int32) (v2 : Int32) (v3 : Int32) (v4 : Int32) (v5 : Int32) (s : St) : Option (Int32 × St) := fixF (G_AC_countWays_53 v1 v2 v3) FUEL (v4, v5, s)
def F_AC_countWays_43 (K17 : Int32 × St → Option (Int32 × St)) (v1 : Int32) (v2 : Int32) (v3 : Int32) (v4 : Int32) (v5 : Int32) (z0 : Int32) (z1 : Int32) (s : St) : Option (Int32 × St) :=
  (stA s 55 z1 z0).bind fun s6 => K17 ((v5 + 1), s6)
def H_AC_countWays_17 (v1 : Int32) (v2 : Int32) (v3 : Int32) (v4 : Int32) (K17 : Int32 × St → Option (Int32 × St)) (v5 : Int32) (s : St) : Option (Int32 × St) :=
  if (nI (alen 55)) ≤ v5 then (F_AC_countWays_53 v1 v2 v3 v4 (0 : Int32) s) else (if v5 = 0 then (F_AC_countWays_43 K17 v1 v2 v3 v4 v5 (1 : Int32) v5 s) else (F_AC_countWays_43 K17 v1 v2 v3 v4 v5 (0 : Int32) v5 s))
def G_AC_countWays_17 (v1 : Int32) (v2 : Int32) (v3 : Int32) (v4 : Int32) (K17 : Int32 × St → Option (Int32 × St)) (q : Int32 × St) : Option (Int32 × St) := H_AC_countWays_17 v1 v2 v3 v4 K17 q.1 q.2
def F_AC_countWays_17 (v1 : Int32) (v2 : Int32) (v3 : Int32) (v4 : Int32) (v5 : Int32) (s : St) : Option (Int32 × St) := fixF (G_AC_countWays_17 v1 v2 v3 v4) FUEL (v5, s)
def F_AC_countWays (a1 : Int32) (a2 : Int32) (s : St) : Option (Int32 × St) :=
  (F_AC_bit (rd s 1 1) s).bind fun o1 => F_AC_countWays_17 a1 a2 o1.1 (0 : Int32) (0 : Int32) o1.2
def F_AC_whose_48 (v1 : Int32) (v2 : Int32) (s : St) : Option (Int64 × St) :=
  (F_AC_countWays v1 v2 s).bind fun o1 => some ((o1.1).toInt64, o1.2)
def F_AC_whose_42 (s : St) : Option (Int64 × St) :=
  (F_AC_refuseLong (-1 : Int32) s).bind fun o3 => some (o3.1, o3.2)
def F_AC_whose_15 (v1 : Int32) (v2 : Int32) (z0 : Int32) (s : St) : Option (Int64 × St) :=
  if z0 = 0 then ((F_NI_hasPerson 1 v1 s).bind fun o2 => if o2.1 = 0 then (F_AC_whose_42 o2.2) else ((F_NI_hasDeed 1 v2 o2.2).bind fun o4 => if o4.1 = 0 then (F_AC_whose_42 o4.2) else (F_AC_whose_48 v1 v2 o4.2))) else (F_AC_whose_48 v1 v2 s)
def F_AC_whose_14 (v1 : Int32) (v2 : Int32) (s : St) : Option (Int64 × St) :=
  F_AC_whose_15 v1 v2 (0 : Int32) s
def F_AC_whose (a1 : Int32) (a2 : Int32) (s : St) : Option (Int64 × St) :=
  if a1 = (-1 : Int32) then (if a2 = (-1 : Int32) then (F_AC_whose_15 a1 a2 (1 : Int32) s) else (F_AC_whose_14 a1 a2 s)) else (F_AC_whose_14 a1 a2 s)
def H_AC_lineUp_2 (t1 : Nat) (K2 : Int32 × St → Option (St)) (v2 : Int32) (s : St) : Option (St) :=
  if (nI (alen 54)) ≤ v2 then (some s) else ((F_AC_at t1 v2 s).bind fun o1 => (stA o1.2 54 v2 o1.1).bind fun s2 => K2 ((v2 + 1), s2))
def G_AC_lineUp_2 (t1 : Nat) (K2 : Int32 × St → Option (St)) (q : Int32 × St) : Option (St) := H_AC_lineUp_2 t1 K2 q.1 q.2
def F_AC_lineUp_2 (t1 : Nat) (v2 : Int32) (s : St) : Option (St) := fixF (G_AC_lineUp_2 t1) FUEL (v2, s)
def F_AC_lineUp (t1 : Nat) (s : St) : Option (St) :=
  F_AC_lineUp_2 t1 (0 : Int32) s
def F_AC_ruleKey_33 (v1 : Int32) (v3 : Int32) (z0 : Int32) (s : St) : Option (Int32 × St) :=
  if v1 = 1 then (some (v3, s)) else if v1 = 2 then (some ((-v3), s)) else if v1 = 3 then (if z0 = 0 then (some ((0 : Int32), s)) else (some ((1 : Int32), s))) else (if z0 = 0 then (some ((1 : Int32), s)) else (some ((0 : Int32), s)))
def F_AC_ruleKey (a1 : Int32) (a2 : Int32) (s : St) : Option (Int32 × St) :=
  (F_AC_at 4 a2 s).bind fun o1 => (F_AC_at 6 a2 o1.2).bind fun o2 => if o2.1 = (7 : Int32) then (F_AC_ruleKey_33 a1 o1.1 (1 : Int32) o2.2) else (F_AC_ruleKey_33 a1 o1.1 (0 : Int32) o2.2)
def F_AC_holdLine (s : St) : Option (St) :=
  (F_NI_allDeeds 1 s).bind fun o1 => (F_MO_hold 43 36 54 o1.1 o1.2).bind fun s2 => some s2
def F_AC_holdRule_77 (s : St) : Option (St) :=
  (F_AC_holdLine s).bind fun s2 => some s2
def F_AC_holdRule_65 (K20 : Int32 × Int32 × St → Option (St)) (K29 : Int32 × Int32 × St → Option (St)) (v1 : Int32) (v2 : Int32) (v3 : Int32) (v4 : Int32) (s : St) : Option (St) :=
  K29 (v2, (v4 + 1), s)
def H_AC_holdRule_29 (K20 : Int32 × Int32 × St → Option (St)) (v1 : Int32) (v3 : Int32) (K29 : Int32 × Int32 × St → Option (St)) (v2 : Int32) (v4 : Int32) (s : St) : Option (St) :=
  if (rd s 1 1) ≤ v4 then (K20 (v2, (v3 + 1), s)) else ((F_AC_ruleKey v1 v4 s).bind fun o3 => if o3.1 = v3 then ((F_AC_put 54 v2 v4 o3.2).bind fun s4 => F_AC_holdRule_65 K20 K29 v1 (v2 + 1) v3 v4 s4) else (F_AC_holdRule_65 K20 K29 v1 v2 v3 v4 o3.2))
def G_AC_holdRule_29 (K20 : Int32 × Int32 × St → Option (St)) (v1 : Int32) (v3 : Int32) (K29 : Int32 × Int32 × St → Option (St)) (q : Int32 × Int32 × St) : Option (St) := H_AC_holdRule_29 K20 v1 v3 K29 q.1 q.2.1 q.2.2
def F_AC_holdRule_29 (K20 : Int32 × Int32 × St → Option (St)) (v1 : Int32) (v2 : Int32) (v3 : Int32) (v4 : Int32) (s : St) : Option (St) := fixF (G_AC_holdRule_29 K20 v1 v3) FUEL (v2, v4, s)
def H_AC_holdRule_20 (v1 : Int32) (K20 : Int32 × Int32 × St → Option (St)) (v2 : Int32) (v3 : Int32) (s : St) : Option (St) :=
  if (9 : Int32) < v3 then (F_AC_holdRule_77 s) else (F_AC_holdRule_29 K20 v1 v2 v3 (0 : Int32) s)
def G_AC_holdRule_20 (v1 : Int32) (K20 : Int32 × Int32 × St → Option (St)) (q : Int32 × Int32 × St) : Option (St) := H_AC_holdRule_20 v1 K20 q.1 q.2.1 q.2.2
def F_AC_holdRule_20 (v1 : Int32) (v2 : Int32) (v3 : Int32) (s : St) : Option (St) := fixF (G_AC_holdRule_20 v1) FUEL (v2, v3, s)
def F_AC_holdRule (a1 : Int32) (s : St) : Option (St) :=
  (F_AC_lineUp 9 s).bind fun s1 => if a1 = 0 then (F_AC_holdRule_77 s1) else (F_AC_holdRule_20 a1 (0 : Int32) (-9 : Int32) s1)
def F_AC_unfairTwo_96 (t1 : Nat) (K2 : Int32 × St → Option (Int32 × St)) (K15 : Int32 × St → Option (Int32 × St)) (v2 : Int32) (v3 : Int32) (s : St) : Option (Int32 × St) :=
  K15 ((v3 + 1), s)
def F_AC_unfairTwo_63 (t1 : Nat) (K2 : Int32 × St → Option (Int32 × St)) (K15 : Int32 × St → Option (Int32 × St)) (v2 : Int32) (v3 : Int32) (z0 : Int32) (s : St) : Option (Int32 × St) :=
  if z0 = 0 then (F_AC_unfairTwo_96 t1 K2 K15 v2 v3 s) else ((F_AC_at (t1 + 2) v2 s).bind fun o2 => (F_AC_at (t1 + 2) v3 o2.2).bind fun o3 => if o2.1 ≤ o3.1 then (F_AC_unfairTwo_96 t1 K2 K15 v2 v3 o3.2) else (some ((((10 : Int32) * v2) + v3), o3.2)))
def F_AC_unfairTwo_62 (t1 : Nat) (K2 : Int32 × St → Option (Int32 × St)) (K15 : Int32 × St → Option (Int32 × St)) (v2 : Int32) (v3 : Int32) (s : St) : Option (Int32 × St) :=
  F_AC_unfairTwo_63 t1 K2 K15 v2 v3 (0 : Int32) s
def H_AC_unfairTwo_15 (t1 : Nat) (K2 : Int32 × St → Option (Int32 × St)) (v2 : Int32) (K15 : Int32 × St → Option (Int32 × St)) (v3 : Int32) (s : St) : Option (Int32 × St) :=
  if (rd s 1 1) ≤ v3 then (K2 ((v2 + 1), s)) else ((F_AC_at 6 v2 s).bind fun o1 => if o1.1 = (7 : Int32) then ((F_AC_at 6 v3 o1.2).bind fun o4 => if o4.1 = (7 : Int32) then (F_AC_unfairTwo_62 t1 K2 K15 v2 v3 o4.2) else (F_AC_unfairTwo_63 t1 K2 K15 v2 v3 (1 : Int32) o4.2)) else (F_AC_unfairTwo_62 t1 K2 K15 v2 v3 o1.2))
def G_AC_unfairTwo_15 (t1 : Nat) (K2 : Int32 × St → Option (Int32 × St)) (v2 : Int32) (K15 : Int32 × St → Option (Int32 × St)) (q : Int32 × St) : Option (Int32 × St) := H_AC_unfairTwo_15 t1 K2 v2 K15 q.1 q.2
def F_AC_unfairTwo_15 (t1 : Nat) (K2 : Int32 × St → Option (Int32 × St)) (v2 : Int32) (v3 : Int32) (s : St) : Option (Int32 × St) := fixF (G_AC_unfairTwo_15 t1 K2 v2) FUEL (v3, s)
def H_AC_unfairTwo_2 (t1 : Nat) (K2 : Int32 × St → Option (Int32 × St)) (v2 : Int32) (s : St) : Option (Int32 × St) :=
  if (rd s 1 1) ≤ v2 then (some ((-9 : Int32), s)) else (F_AC_unfairTwo_15 t1 K2 v2 (0 : Int32) s)
def G_AC_unfairTwo_2 (t1 : Nat) (K2 : Int32 × St → Option (Int32 × St)) (q : Int32 × St) : Option (Int32 × St) := H_AC_unfairTwo_2 t1 K2 q.1 q.2
def F_AC_unfairTwo_2 (t1 : Nat) (v2 : Int32) (s : St) : Option (Int32 × St) := fixF (G_AC_unfairTwo_2 t1) FUEL (v2, s)
def F_AC_unfairTwo (t1 : Nat) (s : St) : Option (Int32 × St) :=
  F_AC_unfairTwo_2 t1 (0 : Int32) s
def F_AC_rule_18 (s : St) : Option (Int32 × St) :=
  (F_AC_refuse (-2 : Int32) s).bind fun o1 => some (o1.1, o1.2)
def F_AC_rule (a1 : Int32) (a2 : Int32) (s : St) : Option (Int32 × St) :=
  if a1 < 0 then (F_AC_rule_18 s) else (if (4 : Int32) < a1 then (F_AC_rule_18 s) else (if a2 < 0 then (F_AC_rule_18 s) else (if a2 ≤ (1 : Int32) then ((F_PR_fill 36 1 s).bind fun s2 => (F_AC_holdRule a1 s2).bind fun s3 => if a2 = 0 then (some ((rd s3 43 4), s3)) else ((F_AC_unfairTwo 43 s3).bind fun o4 => some (o4.1, o4.2))) else (F_AC_rule_18 s))))
def F_AC_bestRule_49 (K18 : Int32 × Int32 × Int32 × St → Option (Int32 × St)) (v1 : Int32) (v2 : Int32) (v3 : Int32) (s : St) : Option (Int32 × St) :=
  K18 (v1, v2, (v3 + 1), s)
def H_AC_bestRule_18 (K18 : Int32 × Int32 × Int32 × St → Option (Int32 × St)) (v1 : Int32) (v2 : Int32) (v3 : Int32) (s : St) : Option (Int32 × St) :=
  if (4 : Int32) < v3 then (some (v1, s)) else ((F_AC_holdRule v3 s).bind fun s2 => if v2 ≤ (rd s2 43 4) then (F_AC_bestRule_49 K18 v1 v2 v3 s2) else ((some (rd s2 43 4)).bind fun x3 => F_AC_bestRule_49 K18 v3 x3 v3 s2))
def G_AC_bestRule_18 (K18 : Int32 × Int32 × Int32 × St → Option (Int32 × St)) (q : Int32 × Int32 × Int32 × St) : Option (Int32 × St) := H_AC_bestRule_18 K18 q.1 q.2.1 q.2.2.1 q.2.2.2
def F_AC_bestRule_18 (v1 : Int32) (v2 : Int32) (v3 : Int32) (s : St) : Option (Int32 × St) := fixF (G_AC_bestRule_18) FUEL (v1, v2, v3, s)
def F_AC_bestRule (s : St) : Option (Int32 × St) :=
  (F_PR_fill 36 1 s).bind fun s1 => F_AC_bestRule_18 (0 : Int32) (1000000 : Int32) (0 : Int32) s1
def F_AC_refuseBig (a1 : Int32) (s : St) : Option (Int32 × St) :=
  (F_AC_refuse a1 s).bind fun o1 => some (((1000000000 : Int32) - o1.1), o1.2)
def F_AC_moveInLine_77 (v1 : Int32) (v2 : Int32) (s : St) : Option (St) :=
  (F_AC_put 54 v2 v1 s).bind fun s2 => some s2
def H_AC_moveInLine_31 (v1 : Int32) (v2 : Int32) (v4 : Int32) (K31 : Int32 × Int32 × St → Option (St)) (v3 : Int32) (v5 : Int32) (s : St) : Option (St) :=
  if (7 : Int32) ≤ v5 then (F_AC_moveInLine_77 v1 v2 s) else (if v3 < 0 then (F_AC_moveInLine_77 v1 v2 s) else (if v3 = v2 then (F_AC_moveInLine_77 v1 v2 s) else ((F_AC_at 54 (v3 + v4) s).bind fun o3 => (F_AC_put 54 v3 o3.1 o3.2).bind fun s4 => (some (v3 + v4)).bind fun x5 => K31 (x5, (v5 + 1), s4))))
def G_AC_moveInLine_31 (v1 : Int32) (v2 : Int32) (v4 : Int32) (K31 : Int32 × Int32 × St → Option (St)) (q : Int32 × Int32 × St) : Option (St) := H_AC_moveInLine_31 v1 v2 v4 K31 q.1 q.2.1 q.2.2
def F_AC_moveInLine_31 (v1 : Int32) (v2 : Int32) (v3 : Int32) (v4 : Int32) (v5 : Int32) (s : St) : Option (St) := fixF (G_AC_moveInLine_31 v1 v2 v4) FUEL (v3, v5, s)
def F_AC_moveInLine_26 (v1 : Int32) (v2 : Int32) (v3 : Int32) (z0 : Int32) (s : St) : Option (St) :=
  F_AC_moveInLine_31 v1 v2 v3 z0 (0 : Int32) s
def F_AC_moveInLine (a1 : Int32) (a2 : Int32) (s : St) : Option (St) :=
  (F_AC_placeIn 54 (rd s 1 1) a1 s).bind fun o1 => if a2 ≤ o1.1 then (F_AC_moveInLine_26 a1 a2 o1.1 (-1 : Int32) o1.2) else (F_AC_moveInLine_26 a1 a2 o1.1 (1 : Int32) o1.2)
def F_AC_monthsAt (a1 : Int32) (a2 : Int32) (a3 : Int32) (s : St) : Option (Int32 × St) :=
  (F_AC_lineUp 9 s).bind fun s1 => (F_AC_moveInLine a2 a3 s1).bind fun s2 => (F_AC_holdLine s2).bind fun s3 => (F_AC_at 45 a1 s3).bind fun o4 => some (o4.1, o4.2)
def F_AC_placeWorth (a1 : Int32) (s : St) : Option (Int32 × St) :=
  (F_NI_hasPerson 1 a1 s).bind fun o1 => if o1.1 = 0 then ((F_AC_refuseBig (-1 : Int32) o1.2).bind fun o5 => some (o5.1, o5.2)) else ((F_PR_fill 36 1 o1.2).bind fun s2 => (F_AC_monthsAt a1 a1 ((rd s2 1 1) - (1 : Int32)) s2).bind fun o3 => (F_AC_monthsAt a1 a1 (0 : Int32) o3.2).bind fun o4 => some ((o3.1 - o4.1), o4.2))
def F_AC_holdChanged (a1 : Int32) (a2 : Int32) (s : St) : Option (St) :=
  (F_AC_lineUp 9 s).bind fun s1 => (F_AC_swapPlaces 54 (rd s1 1 1) a1 a2 s1).bind fun s2 => (F_AC_holdLine s2).bind fun s3 => some s3
def F_AC_changes_110 (K6 : Int32 × St → Option (Int32 × St)) (K21 : Int32 × St → Option (Int32 × St)) (v1 : Int32) (v2 : Int32) (s : St) : Option (Int32 × St) :=
  K21 ((v2 + 1), s)
def H_AC_changes_21 (K6 : Int32 × St → Option (Int32 × St)) (v1 : Int32) (K21 : Int32 × St → Option (Int32 × St)) (v2 : Int32) (s : St) : Option (Int32 × St) :=
  if (rd s 1 1) ≤ v2 then (K6 ((v1 + 1), s)) else ((F_AC_holdChanged v1 v2 s).bind fun s3 => (F_AC_at 42 v1 s3).bind fun o4 => (F_AC_at 45 v1 o4.2).bind fun o5 => (some (o4.1 - o5.1)).bind fun x6 => (F_AC_at 42 v2 o5.2).bind fun o7 => (F_AC_at 45 v2 o7.2).bind fun o8 => (some (o7.1 - o8.1)).bind fun x9 => if x6 < 0 then (F_AC_changes_110 K6 K21 v1 v2 o8.2) else (if x9 < 0 then (F_AC_changes_110 K6 K21 v1 v2 o8.2) else (if (x6 + x9) ≤ 0 then (F_AC_changes_110 K6 K21 v1 v2 o8.2) else (some ((((10 : Int32) * v1) + v2), o8.2)))))
def G_AC_changes_21 (K6 : Int32 × St → Option (Int32 × St)) (v1 : Int32) (K21 : Int32 × St → Option (Int32 × St)) (q : Int32 × St) : Option (Int32 × St) := H_AC_changes_21 K6 v1 K21 q.1 q.2
def F_AC_changes_21 (K6 : Int32 × St → Option (Int32 × St)) (v1 : Int32) (v2 : Int32) (s : St) : Option (Int32 × St) := fixF (G_AC_changes_21 K6 v1) FUEL (v2, s)
def H_AC_changes_6 (K6 : Int32 × St → Option (Int32 × St)) (v1 : Int32) (s : St) : Option (Int32 × St) :=
  if (rd s 1 1) ≤ v1 then (some ((-9 : Int32), s)) else ((some (v1 + (1 : Int32))).bind fun x2 => F_AC_changes_21 K6 v1 x2 s)
def G_AC_changes_6 (K6 : Int32 × St → Option (Int32 × St)) (q : Int32 × St) : Option (Int32 × St) := H_AC_changes_6 K6 q.1 q.2
def F_AC_changes_6 (v1 : Int32) (s : St) : Option (Int32 × St) := fixF (G_AC_changes_6) FUEL (v1, s)
def F_AC_changes (s : St) : Option (Int32 × St) :=
  (F_AC_holdToday s).bind fun s1 => F_AC_changes_6 (0 : Int32) s1
def F_AC_soughtOrder_151 (v1 : Int32) (v3 : Int32) (s : St) : Option (Int32 × St) :=
  if v1 = (-1 : Int32) then (some (v3, s)) else ((F_OR_keptAt v1 s).bind fun o3 => some (o3.1, o3.2))
def F_AC_soughtOrder_132 (K61 : Int32 × Int32 × St → Option (Int32 × St)) (v1 : Int32) (v2 : Int32) (v3 : Int32) (v4 : Int32) (s : St) : Option (Int32 × St) :=
  (F_OR_step s).bind fun o6 => if o6.1 = 0 then (F_AC_soughtOrder_151 v1 v3 o6.2) else (K61 (v3, (v4 + 1), o6.2))
def F_AC_soughtOrder_114 (K61 : Int32 × Int32 × St → Option (Int32 × St)) (v1 : Int32) (v2 : Int32) (v3 : Int32) (v4 : Int32) (z0 : Int32) (s : St) : Option (Int32 × St) :=
  if v3 ≤ z0 then (F_AC_soughtOrder_132 K61 v1 v2 v3 v4 s) else ((F_OR_keep s).bind fun s7 => F_AC_soughtOrder_132 K61 v1 v2 z0 v4 s7)
def H_AC_soughtOrder_61 (v1 : Int32) (v2 : Int32) (K61 : Int32 × Int32 × St → Option (Int32 × St)) (v3 : Int32) (v4 : Int32) (s : St) : Option (Int32 × St) :=
  if (120 : Int32) ≤ v4 then (F_AC_soughtOrder_151 v1 v3 s) else ((F_NI_allDeeds 1 s).bind fun o4 => (F_MO_hold 43 36 52 o4.1 o4.2).bind fun s5 => if v2 = 0 then (F_AC_soughtOrder_114 K61 v1 v2 v3 v4 (rd s5 43 4) s5) else ((F_MO_most 43 s5).bind fun o8 => F_AC_soughtOrder_114 K61 v1 v2 v3 v4 o8.1 o8.2))
def G_AC_soughtOrder_61 (v1 : Int32) (v2 : Int32) (K61 : Int32 × Int32 × St → Option (Int32 × St)) (q : Int32 × Int32 × St) : Option (Int32 × St) := H_AC_soughtOrder_61 v1 v2 K61 q.1 q.2.1 q.2.2
def F_AC_soughtOrder_61 (v1 : Int32) (v2 : Int32) (v3 : Int32) (v4 : Int32) (s : St) : Option (Int32 × St) := fixF (G_AC_soughtOrder_61 v1 v2) FUEL (v3, v4, s)
def F_AC_soughtOrder (a1 : Int32) (a2 : Int32) (s : St) : Option (Int32 × St) :=
  if (rd s 1 1) ≤ (5 : Int32) then (if (-1 : Int32) ≤ a1 then ((F_PR_fill 36 1 s).bind fun s1 => (F_OR_begin (rd s1 1 1) s1).bind fun s2 => F_AC_soughtOrder_61 a1 a2 (1000000 : Int32) (0 : Int32) s2) else ((F_AC_refuse (-4 : Int32) s).bind fun o9 => some (o9.1, o9.2))) else ((F_AC_refuse (-3 : Int32) s).bind fun o10 => some (o10.1, o10.2))
def F_AC_bestOrder (a1 : Int32) (s : St) : Option (Int32 × St) :=
  (F_AC_soughtOrder a1 (0 : Int32) s).bind fun o1 => some (o1.1, o1.2)
def F_AC_tried (s : St) : Option (Int32 × St) :=
  (F_PR_fill 38 19 s).bind fun s1 => (F_NI_allDeeds 19 s1).bind fun o2 => (F_MO_hold 43 38 27 o2.1 o2.2).bind fun s3 => some ((rd s3 43 4), s3)
def F_AC_putIn_33 (s : St) : Option (Int32 × St) :=
  (F_AC_refuse (-2 : Int32) s).bind fun o1 => some (o1.1, o1.2)
def F_AC_putIn_106 (v2 : Int32) (v3 : Int32) (v4 : Int32) (s : St) : Option (Int32 × St) :=
  if v2 = 0 then (some (v4, s)) else (some (v3, s))
def H_AC_putIn_66 (v1 : Int32) (v2 : Int32) (K66 : Int32 × Int32 × St → Option (Int32 × St)) (v3 : Int32) (v4 : Int32) (s : St) : Option (Int32 × St) :=
  if (rd s 43 5) = (-9 : Int32) then (F_AC_putIn_106 v2 v3 v4 s) else (if (7 : Int32) ≤ v4 then (F_AC_putIn_106 v2 v3 v4 s) else ((F_NI_putDeed 19 (5 : Int32) v1 s).bind fun o5 => (F_AC_tried o5.2).bind fun o6 => K66 (o6.1, (v4 + 1), o6.2)))
def G_AC_putIn_66 (v1 : Int32) (v2 : Int32) (K66 : Int32 × Int32 × St → Option (Int32 × St)) (q : Int32 × Int32 × St) : Option (Int32 × St) := H_AC_putIn_66 v1 v2 K66 q.1 q.2.1 q.2.2
def F_AC_putIn_66 (v1 : Int32) (v2 : Int32) (v3 : Int32) (v4 : Int32) (s : St) : Option (Int32 × St) := fixF (G_AC_putIn_66 v1 v2) FUEL (v3, v4, s)
def F_AC_putIn (a1 : Int32) (a2 : Int32) (s : St) : Option (Int32 × St) :=
  if 0 ≤ a1 then (if a1 ≤ (9 : Int32) then (if a2 < 0 then (F_AC_putIn_33 s) else (if a2 ≤ (1 : Int32) then ((F_NI_copy 19 1 s).bind fun s2 => (F_NI_forgetLaterDids 19 s2).bind fun s3 => (F_AC_tried s3).bind fun o4 => F_AC_putIn_66 a1 a2 o4.1 (0 : Int32) o4.2) else (F_AC_putIn_33 s))) else ((F_AC_refuse (-6 : Int32) s).bind fun o7 => some (o7.1, o7.2))) else ((F_AC_refuse (-4 : Int32) s).bind fun o8 => some (o8.1, o8.2))
def F_AC_todaysMonthsOf_41 (K8 : Int32 × Int32 × St → Option (Int32 × St)) (v1 : Int32) (v2 : Int32) (v3 : Int32) (s : St) : Option (Int32 × St) :=
  K8 (v2, (v3 + 1), s)
def H_AC_todaysMonthsOf_8 (v1 : Int32) (K8 : Int32 × Int32 × St → Option (Int32 × St)) (v2 : Int32) (v3 : Int32) (s : St) : Option (Int32 × St) :=
  if (rd s 1 1) ≤ v3 then (some (v2, s)) else ((F_AC_has v1 v3 s).bind fun o2 => if o2.1 = 0 then (F_AC_todaysMonthsOf_41 K8 v1 v2 v3 o2.2) else ((F_AC_at 42 v3 o2.2).bind fun o3 => (some (v2 + o3.1)).bind fun x4 => F_AC_todaysMonthsOf_41 K8 v1 x4 v3 o3.2))
def G_AC_todaysMonthsOf_8 (v1 : Int32) (K8 : Int32 × Int32 × St → Option (Int32 × St)) (q : Int32 × Int32 × St) : Option (Int32 × St) := H_AC_todaysMonthsOf_8 v1 K8 q.1 q.2.1 q.2.2
def F_AC_todaysMonthsOf_8 (v1 : Int32) (v2 : Int32) (v3 : Int32) (s : St) : Option (Int32 × St) := fixF (G_AC_todaysMonthsOf_8 v1) FUEL (v2, v3, s)
def F_AC_todaysMonthsOf (a1 : Int32) (s : St) : Option (Int32 × St) :=
  (F_AC_holdToday s).bind fun s1 => F_AC_todaysMonthsOf_8 a1 (0 : Int32) (0 : Int32) s1
def F_AC_together_41 (s : St) : Option (Int32 × St) :=
  (F_AC_refuse (-2 : Int32) s).bind fun o2 => some (o2.1, o2.2)
def F_AC_together (a1 : Int32) (a2 : Int32) (s : St) : Option (Int32 × St) :=
  if 0 ≤ a1 then ((F_AC_bit (rd s 1 1) s).bind fun o1 => if a1 < o1.1 then (if a2 < 0 then (F_AC_together_41 o1.2) else (if a2 ≤ (1 : Int32) then ((F_PR_fill 36 1 o1.2).bind fun s3 => (F_TA_fillTogether 36 9 a1 s3).bind fun s4 => (F_TA_get (0 : Int32) (0 : Int32) s4).bind fun o5 => if a2 = 0 then (some (o5.1, o5.2)) else ((F_AC_todaysMonthsOf a1 o5.2).bind fun o6 => some ((o6.1 - o5.1), o6.2))) else (F_AC_together_41 o1.2))) else ((F_AC_refuse (-6 : Int32) o1.2).bind fun o7 => some (o7.1, o7.2))) else ((F_AC_refuse (-4 : Int32) s).bind fun o8 => some (o8.1, o8.2))
def F_AC_alibiWorth_22 (s : St) : Option (Int32 × St) :=
  (F_AC_refuseBig (-1 : Int32) s).bind fun o2 => some (o2.1, o2.2)
def F_AC_alibiWorth (a1 : Int32) (a2 : Int32) (s : St) : Option (Int32 × St) :=
  (F_NI_hasPerson 1 a1 s).bind fun o1 => if o1.1 = 0 then (F_AC_alibiWorth_22 o1.2) else ((F_NI_hasDeed 1 a2 o1.2).bind fun o3 => if o3.1 = 0 then (F_AC_alibiWorth_22 o3.2) else ((F_NI_copy 19 1 o3.2).bind fun s4 => (F_NI_turnAlibi 19 a1 a2 s4).bind fun s5 => (F_AC_holdToday s5).bind fun s6 => (F_AC_tried s6).bind fun o7 => some ((o7.1 - (rd o7.2 40 4)), o7.2)))
def F_AC_givenAway_107 (K17 : Int32 × Int32 × Int32 × St → Option (Int32 × St)) (K31 : Int32 × Int32 × Int32 × St → Option (Int32 × St)) (v1 : Int32) (v2 : Int32) (v3 : Int32) (v4 : Int32) (s : St) : Option (Int32 × St) :=
  K31 (v1, v2, (v4 + 1), s)
def H_AC_givenAway_31 (K17 : Int32 × Int32 × Int32 × St → Option (Int32 × St)) (v3 : Int32) (K31 : Int32 × Int32 × Int32 × St → Option (Int32 × St)) (v1 : Int32) (v2 : Int32) (v4 : Int32) (s : St) : Option (Int32 × St) :=
  if (rd s 1 0) ≤ v4 then (K17 (v1, v2, (v3 + 1), s)) else ((F_AC_at 8 v3 s).bind fun o3 => (F_AC_has o3.1 v4 o3.2).bind fun o4 => if o4.1 = 0 then (F_AC_givenAway_107 K17 K31 v1 v2 v3 v4 o4.2) else ((F_NI_copy 19 1 o4.2).bind fun s5 => (F_NI_turnAlibi 19 v3 v4 s5).bind fun s6 => (F_AC_tried s6).bind fun o7 => if v1 ≤ o7.1 then (F_AC_givenAway_107 K17 K31 v1 v2 v3 v4 o7.2) else ((some (rd o7.2 43 4)).bind fun x8 => (some (((10 : Int32) * v3) + v4)).bind fun x9 => F_AC_givenAway_107 K17 K31 x8 x9 v3 v4 o7.2)))
def G_AC_givenAway_31 (K17 : Int32 × Int32 × Int32 × St → Option (Int32 × St)) (v3 : Int32) (K31 : Int32 × Int32 × Int32 × St → Option (Int32 × St)) (q : Int32 × Int32 × Int32 × St) : Option (Int32 × St) := H_AC_givenAway_31 K17 v3 K31 q.1 q.2.1 q.2.2.1 q.2.2.2
def F_AC_givenAway_31 (K17 : Int32 × Int32 × Int32 × St → Option (Int32 × St)) (v1 : Int32) (v2 : Int32) (v3 : Int32) (v4 : Int32) (s : St) : Option (Int32 × St) := fixF (G_AC_givenAway_31 K17 v3) FUEL (v1, v2, v4, s)
def H_AC_givenAway_17 (K17 : Int32 × Int32 × Int32 × St → Option (Int32 × St)) (v1 : Int32) (v2 : Int32) (v3 : Int32) (s : St) : Option (Int32 × St) :=
  if (rd s 1 1) ≤ v3 then (some (v2, s)) else (F_AC_givenAway_31 K17 v1 v2 v3 (0 : Int32) s)
def G_AC_givenAway_17 (K17 : Int32 × Int32 × Int32 × St → Option (Int32 × St)) (q : Int32 × Int32 × Int32 × St) : Option (Int32 × St) := H_AC_givenAway_17 K17 q.1 q.2.1 q.2.2.1 q.2.2.2
def F_AC_givenAway_17 (v1 : Int32) (v2 : Int32) (v3 : Int32) (s : St) : Option (Int32 × St) := fixF (G_AC_givenAway_17) FUEL (v1, v2, v3, s)
def F_AC_givenAway (s : St) : Option (Int32 × St) :=
  (F_AC_holdToday s).bind fun s1 => (some (rd s1 40 4)).bind fun x2 => F_AC_givenAway_17 x2 (-9 : Int32) (0 : Int32) s1
def H_AC_power_5 (v0 : Int32) (v1 : Int32) (K5 : Int64 × Int32 × St → Option (Int64 × St)) (v2 : Int64) (v4 : Int32) (s : St) : Option (Int64 × St) :=
  if v1 ≤ v4 then (some (v2, s)) else ((some (v2 * (v0).toInt64)).bind fun x1 => K5 (x1, (v4 + 1), s))
def G_AC_power_5 (v0 : Int32) (v1 : Int32) (K5 : Int64 × Int32 × St → Option (Int64 × St)) (q : Int64 × Int32 × St) : Option (Int64 × St) := H_AC_power_5 v0 v1 K5 q.1 q.2.1 q.2.2
def F_AC_power_5 (v0 : Int32) (v1 : Int32) (v2 : Int64) (v4 : Int32) (s : St) : Option (Int64 × St) := fixF (G_AC_power_5 v0 v1) FUEL (v2, v4, s)
def F_AC_power (a0 : Int32) (a1 : Int32) (s : St) : Option (Int64 × St) :=
  F_AC_power_5 a0 a1 (1 : Int64) (0 : Int32) s
def H_AC_waysToBeCaught_12 (v0 : Int32) (v1 : Int32) (v2 : Int32) (K12 : Int64 × Int32 × St → Option (Int64 × St)) (v3 : Int64) (v5 : Int32) (s : St) : Option (Int64 × St) :=
  if v1 < v5 then ((F_AC_power (v2 - (1 : Int32)) (v0 - v1) s).bind fun o1 => some ((v3 * o1.1), o1.2)) else (if (v5).toInt64 = 0 then none else (some ((v3 * (((v0 - v1) + v5)).toInt64) / (v5).toInt64)).bind fun x2 => K12 (x2, (v5 + 1), s))
def G_AC_waysToBeCaught_12 (v0 : Int32) (v1 : Int32) (v2 : Int32) (K12 : Int64 × Int32 × St → Option (Int64 × St)) (q : Int64 × Int32 × St) : Option (Int64 × St) := H_AC_waysToBeCaught_12 v0 v1 v2 K12 q.1 q.2.1 q.2.2
def F_AC_waysToBeCaught_12 (v0 : Int32) (v1 : Int32) (v2 : Int32) (v3 : Int64) (v5 : Int32) (s : St) : Option (Int64 × St) := fixF (G_AC_waysToBeCaught_12 v0 v1 v2) FUEL (v3, v5, s)
def F_AC_waysToBeCaught (a0 : Int32) (a1 : Int32) (a2 : Int32) (s : St) : Option (Int64 × St) :=
  if a1 ≤ a0 then (F_AC_waysToBeCaught_12 a0 a1 a2 (1 : Int64) (1 : Int32) s) else (some ((0 : Int64), s))
def H_AC_commonDivisor_9 (K9 : Int64 × Int64 × Int32 × St → Option (Int64 × St)) (v4 : Int64) (v6 : Int64) (v8 : Int32) (s : St) : Option (Int64 × St) :=
  if (128 : Int32) ≤ v8 then (some (v4, s)) else (if (lg_cmp v6 (0 : Int64)) ≤ 0 then (some (v4, s)) else (if v6 = 0 then none else (some (v4 - v4 / v6 * v6)).bind fun x1 => K9 (v6, x1, (v8 + 1), s)))
def G_AC_commonDivisor_9 (K9 : Int64 × Int64 × Int32 × St → Option (Int64 × St)) (q : Int64 × Int64 × Int32 × St) : Option (Int64 × St) := H_AC_commonDivisor_9 K9 q.1 q.2.1 q.2.2.1 q.2.2.2
def F_AC_commonDivisor_9 (v4 : Int64) (v6 : Int64) (v8 : Int32) (s : St) : Option (Int64 × St) := fixF (G_AC_commonDivisor_9) FUEL (v4, v6, v8, s)
def F_AC_commonDivisor (a0 : Int64) (a2 : Int64) (s : St) : Option (Int64 × St) :=
  F_AC_commonDivisor_9 a2 a0 (0 : Int32) s
def F_AC_caught_9 (s : St) : Option (Int64 × St) :=
  (F_AC_refuseLong (-4 : Int32) s).bind fun o1 => some (o1.1, o1.2)
def F_AC_caught_28 (s : St) : Option (Int64 × St) :=
  (F_AC_refuseLong (-6 : Int32) s).bind fun o2 => some (o2.1, o2.2)
def F_AC_caught_44 (s : St) : Option (Int64 × St) :=
  (F_AC_refuseLong (-2 : Int32) s).bind fun o3 => some (o3.1, o3.2)
def F_AC_caught_115 (v9 : Int64) (z0 : Int64) (s : St) : Option (Int64 × St) :=
  if v9 = 0 then none else some ((z0 / v9), s)
def F_AC_caught (a1 : Int32) (a2 : Int32) (a3 : Int32) (s : St) : Option (Int64 × St) :=
  if a1 < (2 : Int32) then (F_AC_caught_9 s) else (if 0 ≤ a2 then (if (20 : Int32) < a1 then (F_AC_caught_28 s) else (if a2 ≤ (7 : Int32) then (if a3 < 0 then (F_AC_caught_44 s) else (if a3 ≤ (1 : Int32) then ((F_AC_holdToday s).bind fun s4 => (F_MO_owners 40 1 (0 : Int32) s4).bind fun o5 => (F_AC_waysToBeCaught o5.1 a2 a1 o5.2).bind fun o6 => (F_AC_power a1 o5.1 o6.2).bind fun o7 => (F_AC_commonDivisor o6.1 o7.1 o7.2).bind fun o8 => if 0 < (lg_cmp o8.1 (0 : Int64)) then (if a3 = 0 then (F_AC_caught_115 o8.1 o6.1 o8.2) else (F_AC_caught_115 o8.1 o7.1 o8.2)) else (some ((0 : Int64), o8.2))) else (F_AC_caught_44 s))) else (F_AC_caught_28 s))) else (F_AC_caught_9 s))
def F_AC_spared_75 (K8 : Int32 × Int32 × St → Option (Int32 × St)) (v1 : Int32) (v2 : Int32) (s : St) : Option (Int32 × St) :=
  K8 (v1, (v2 + 1), s)
def H_AC_spared_8 (K8 : Int32 × Int32 × St → Option (Int32 × St)) (v1 : Int32) (v2 : Int32) (s : St) : Option (Int32 × St) :=
  if (rd s 1 0) ≤ v2 then (some (v1, s)) else ((F_NI_allDeeds 1 s).bind fun o2 => (F_AC_bit v2 o2.2).bind fun o3 => (F_MO_hold 43 36 9 (o2.1 &&& (o3.1 ^^^ (-1 : Int32))) o3.2).bind fun s4 => if (rd s4 43 4) = (rd s4 40 4) then ((F_AC_bit v2 s4).bind fun o5 => (some (v1 ||| o5.1)).bind fun x6 => F_AC_spared_75 K8 x6 v2 o5.2) else (F_AC_spared_75 K8 v1 v2 s4))
def G_AC_spared_8 (K8 : Int32 × Int32 × St → Option (Int32 × St)) (q : Int32 × Int32 × St) : Option (Int32 × St) := H_AC_spared_8 K8 q.1 q.2.1 q.2.2
def F_AC_spared_8 (v1 : Int32) (v2 : Int32) (s : St) : Option (Int32 × St) := fixF (G_AC_spared_8) FUEL (v1, v2, s)
def F_AC_spared (s : St) : Option (Int32 × St) :=
  (F_AC_holdToday s).bind fun s1 => F_AC_spared_8 (0 : Int32) (0 : Int32) s1
def F_AC_keeper_94 (K12 : Int32 × Int32 × Int32 × St → Option (Int32 × St)) (v1 : Int32) (v2 : Int32) (v3 : Int32) (s : St) : Option (Int32 × St) :=
  K12 (v1, v2, (v3 + 1), s)
def H_AC_keeper_12 (K12 : Int32 × Int32 × Int32 × St → Option (Int32 × St)) (v1 : Int32) (v2 : Int32) (v3 : Int32) (s : St) : Option (Int32 × St) :=
  if (rd s 1 1) ≤ v3 then (some (v2, s)) else ((F_AC_at 7 v3 s).bind fun o2 => (F_NI_hasPerson 1 o2.1 o2.2).bind fun o3 => if o3.1 = 0 then (F_AC_keeper_94 K12 v1 v2 v3 o3.2) else ((F_AC_monthsAt o2.1 v3 ((rd o3.2 1 1) - (1 : Int32)) o3.2).bind fun o4 => (F_AC_at 42 o2.1 o4.2).bind fun o5 => if o5.1 ≤ o4.1 then (F_AC_keeper_94 K12 v1 v2 v3 o5.2) else (if v1 ≤ o4.1 then (F_AC_keeper_94 K12 v1 v2 v3 o5.2) else (F_AC_keeper_94 K12 o4.1 v3 v3 o5.2))))
def G_AC_keeper_12 (K12 : Int32 × Int32 × Int32 × St → Option (Int32 × St)) (q : Int32 × Int32 × Int32 × St) : Option (Int32 × St) := H_AC_keeper_12 K12 q.1 q.2.1 q.2.2.1 q.2.2.2
def F_AC_keeper_12 (v1 : Int32) (v2 : Int32) (v3 : Int32) (s : St) : Option (Int32 × St) := fixF (G_AC_keeper_12) FUEL (v1, v2, v3, s)
def F_AC_keeper (s : St) : Option (Int32 × St) :=
  (F_AC_holdToday s).bind fun s1 => F_AC_keeper_12 (1000000 : Int32) (-9 : Int32) (0 : Int32) s1
def F_AC_firstSwap_129 (K2 : Int32 × St → Option (Int32 × St)) (K17 : Int32 × St → Option (Int32 × St)) (v1 : Int32) (v2 : Int32) (s : St) : Option (Int32 × St) :=
  K17 ((v2 + 1), s)
def H_AC_firstSwap_17 (K2 : Int32 × St → Option (Int32 × St)) (v1 : Int32) (K17 : Int32 × St → Option (Int32 × St)) (v2 : Int32) (s : St) : Option (Int32 × St) :=
  if (rd s 1 1) ≤ v2 then (K2 ((v1 + 1), s)) else ((F_AC_at 47 v1 s).bind fun o2 => (F_AC_at 47 v2 o2.2).bind fun o3 => (F_NI_may 1 v1 o3.1 o3.2).bind fun o4 => if o4.1 = 0 then (F_AC_firstSwap_129 K2 K17 v1 v2 o4.2) else ((F_NI_may 1 v2 o2.1 o4.2).bind fun o5 => if o5.1 = 0 then (F_AC_firstSwap_129 K2 K17 v1 v2 o5.2) else ((F_NI_monthsFor 1 v1 o3.1 o5.2).bind fun o6 => (F_NI_monthsFor 1 v1 o2.1 o6.2).bind fun o7 => if o7.1 ≤ o6.1 then (F_AC_firstSwap_129 K2 K17 v1 v2 o7.2) else ((F_NI_monthsFor 1 v2 o2.1 o7.2).bind fun o8 => (F_NI_monthsFor 1 v2 o3.1 o8.2).bind fun o9 => if o9.1 ≤ o8.1 then (F_AC_firstSwap_129 K2 K17 v1 v2 o9.2) else (some ((((10 : Int32) * v1) + v2), o9.2))))))
def G_AC_firstSwap_17 (K2 : Int32 × St → Option (Int32 × St)) (v1 : Int32) (K17 : Int32 × St → Option (Int32 × St)) (q : Int32 × St) : Option (Int32 × St) := H_AC_firstSwap_17 K2 v1 K17 q.1 q.2
def F_AC_firstSwap_17 (K2 : Int32 × St → Option (Int32 × St)) (v1 : Int32) (v2 : Int32) (s : St) : Option (Int32 × St) := fixF (G_AC_firstSwap_17 K2 v1) FUEL (v2, s)
def H_AC_firstSwap_2 (K2 : Int32 × St → Option (Int32 × St)) (v1 : Int32) (s : St) : Option (Int32 × St) :=
  if (rd s 1 1) ≤ v1 then (some ((-9 : Int32), s)) else ((some (v1 + (1 : Int32))).bind fun x1 => F_AC_firstSwap_17 K2 v1 x1 s)
def G_AC_firstSwap_2 (K2 : Int32 × St → Option (Int32 × St)) (q : Int32 × St) : Option (Int32 × St) := H_AC_firstSwap_2 K2 q.1 q.2
def F_AC_firstSwap_2 (v1 : Int32) (s : St) : Option (Int32 × St) := fixF (G_AC_firstSwap_2) FUEL (v1, s)
def F_AC_firstSwap (s : St) : Option (Int32 × St) :=
  F_AC_firstSwap_2 (0 : Int32) s
def F_AC_swaps_9 (s : St) : Option (Int32 × St) :=
  (F_AC_refuse (-2 : Int32) s).bind fun o1 => some (o1.1, o1.2)
def F_AC_swaps (a1 : Int32) (s : St) : Option (Int32 × St) :=
  if a1 < 0 then (F_AC_swaps_9 s) else (if a1 ≤ (1 : Int32) then ((F_PR_fill 36 1 s).bind fun s2 => (F_LB_hold 36 1 s2).bind fun s3 => (F_AC_firstSwap s3).bind fun o4 => if a1 = 0 then (some (o4.1, o4.2)) else (if o4.1 = (-9 : Int32) then (some ((1 : Int32), o4.2)) else (some ((0 : Int32), o4.2)))) else (F_AC_swaps_9 s))
def F_AC_heavier_22 (s : St) : Option (Int32 × St) :=
  (F_AC_refuse (-1 : Int32) s).bind fun o2 => some (o2.1, o2.2)
def H_AC_heavier_42 (v1 : Int32) (v2 : Int32) (K42 : Int32 × St → Option (Int32 × St)) (v3 : Int32) (s : St) : Option (Int32 × St) :=
  if v3 < 0 then (some ((-9 : Int32), s)) else ((F_AC_put 21 v2 v3 s).bind fun s5 => (F_AC_tried s5).bind fun o6 => (F_AC_at 44 v1 o6.2).bind fun o7 => if o7.1 = v2 then (some (v3, o7.2)) else (K42 ((v3 - 1), o7.2)))
def G_AC_heavier_42 (v1 : Int32) (v2 : Int32) (K42 : Int32 × St → Option (Int32 × St)) (q : Int32 × St) : Option (Int32 × St) := H_AC_heavier_42 v1 v2 K42 q.1 q.2
def F_AC_heavier_42 (v1 : Int32) (v2 : Int32) (v3 : Int32) (s : St) : Option (Int32 × St) := fixF (G_AC_heavier_42 v1 v2) FUEL (v3, s)
def F_AC_heavier (a1 : Int32) (a2 : Int32) (s : St) : Option (Int32 × St) :=
  (F_NI_hasPerson 1 a1 s).bind fun o1 => if o1.1 = 0 then (F_AC_heavier_22 o1.2) else ((F_NI_hasDeed 1 a2 o1.2).bind fun o3 => if o3.1 = 0 then (F_AC_heavier_22 o3.2) else ((F_NI_copy 19 1 o3.2).bind fun s4 => F_AC_heavier_42 a1 a2 (9 : Int32) s4))
def F_AC_bestDid_112 (K37 : Int32 × Int32 × Int32 × St → Option (Int32 × St)) (v1 : Int32) (v2 : Int32) (v3 : Int32) (v4 : Int32) (s : St) : Option (Int32 × St) :=
  K37 (v2, v3, (v4 + 1), s)
def F_AC_bestDid_64 (K37 : Int32 × Int32 × Int32 × St → Option (Int32 × St)) (v1 : Int32) (v2 : Int32) (v3 : Int32) (v4 : Int32) (s : St) : Option (Int32 × St) :=
  (F_AC_put 24 v1 v4 s).bind fun s3 => (F_AC_tried s3).bind fun o4 => (F_AC_at 45 v1 o4.2).bind fun o5 => if v2 ≤ o5.1 then (F_AC_bestDid_112 K37 v1 v2 v3 v4 o5.2) else ((F_AC_at 45 v1 o5.2).bind fun o6 => F_AC_bestDid_112 K37 v1 o6.1 v4 v4 o6.2)
def H_AC_bestDid_37 (v1 : Int32) (K37 : Int32 × Int32 × Int32 × St → Option (Int32 × St)) (v2 : Int32) (v3 : Int32) (v4 : Int32) (s : St) : Option (Int32 × St) :=
  if (7 : Int32) < v4 then (some (v3, s)) else (if v4 = (7 : Int32) then (F_AC_bestDid_64 K37 v1 v2 v3 v4 s) else ((F_NI_may 1 v1 v4 s).bind fun o7 => if o7.1 = 0 then (F_AC_bestDid_112 K37 v1 v2 v3 v4 o7.2) else (F_AC_bestDid_64 K37 v1 v2 v3 v4 o7.2)))
def G_AC_bestDid_37 (v1 : Int32) (K37 : Int32 × Int32 × Int32 × St → Option (Int32 × St)) (q : Int32 × Int32 × Int32 × St) : Option (Int32 × St) := H_AC_bestDid_37 v1 K37 q.1 q.2.1 q.2.2.1 q.2.2.2
def F_AC_bestDid_37 (v1 : Int32) (v2 : Int32) (v3 : Int32) (v4 : Int32) (s : St) : Option (Int32 × St) := fixF (G_AC_bestDid_37 v1) FUEL (v2, v3, v4, s)
def F_AC_bestDid (a1 : Int32) (s : St) : Option (Int32 × St) :=
  (F_NI_hasPerson 1 a1 s).bind fun o1 => if o1.1 = 0 then ((F_AC_refuse (-1 : Int32) o1.2).bind fun o8 => some (o8.1, o8.2)) else ((F_NI_copy 19 1 o1.2).bind fun s2 => F_AC_bestDid_37 a1 (1000000 : Int32) (7 : Int32) (0 : Int32) s2)
def F_AC_rest_9 (s : St) : Option (Int32 × St) :=
  (F_AC_refuse (-2 : Int32) s).bind fun o1 => some (o1.1, o1.2)
def F_AC_rest_113 (v1 : Int32) (v2 : Int32) (v3 : Int32) (v4 : Int32) (s : St) : Option (Int32 × St) :=
  if v1 = 0 then (some (v2, s)) else if v1 = 1 then (some (v3, s)) else (some (v4, s))
def H_AC_rest_43 (v1 : Int32) (K43 : Int32 × Int32 × Int32 × Int32 × St → Option (Int32 × St)) (v2 : Int32) (v3 : Int32) (v4 : Int32) (v5 : Int32) (s : St) : Option (Int32 × St) :=
  if (7 : Int32) < v5 then (F_AC_rest_113 v1 v2 v3 v4 s) else ((F_MO_hold 43 36 9 v4 s).bind fun s4 => if (rd s4 43 3) = v4 then (F_AC_rest_113 v1 v2 v3 v4 s4) else ((F_MO_monthsTaken 43 s4).bind fun o5 => (some (v3 + o5.1)).bind fun x6 => (some (rd o5.2 43 3)).bind fun x7 => K43 ((v2 + 1), x6, x7, (v5 + 1), o5.2)))
def G_AC_rest_43 (v1 : Int32) (K43 : Int32 × Int32 × Int32 × Int32 × St → Option (Int32 × St)) (q : Int32 × Int32 × Int32 × Int32 × St) : Option (Int32 × St) := H_AC_rest_43 v1 K43 q.1 q.2.1 q.2.2.1 q.2.2.2.1 q.2.2.2.2
def F_AC_rest_43 (v1 : Int32) (v2 : Int32) (v3 : Int32) (v4 : Int32) (v5 : Int32) (s : St) : Option (Int32 × St) := fixF (G_AC_rest_43 v1) FUEL (v2, v3, v4, v5, s)
def F_AC_rest (a1 : Int32) (s : St) : Option (Int32 × St) :=
  if a1 < 0 then (F_AC_rest_9 s) else (if a1 ≤ (2 : Int32) then ((F_NI_allDeeds 1 s).bind fun o2 => (F_PR_fill 36 1 o2.2).bind fun s3 => F_AC_rest_43 a1 (0 : Int32) (0 : Int32) o2.1 (0 : Int32) s3) else (F_AC_rest_9 s))
def F_AC_even (a1 : Int32) (s : St) : Option (Int32 × St) :=
  (F_AC_soughtOrder a1 (1 : Int32) s).bind fun o1 => some (o1.1, o1.2)
def H_AC_turnRound_2 (K2 : Int32 × St → Option (St)) (v1 : Int32) (s : St) : Option (St) :=
  if (rd s 1 1) ≤ v1 then (some s) else ((F_AC_at 9 (((rd s 1 1) - (1 : Int32)) - v1) s).bind fun o1 => (F_AC_put 54 v1 o1.1 o1.2).bind fun s2 => K2 ((v1 + 1), s2))
def G_AC_turnRound_2 (K2 : Int32 × St → Option (St)) (q : Int32 × St) : Option (St) := H_AC_turnRound_2 K2 q.1 q.2
def F_AC_turnRound_2 (v1 : Int32) (s : St) : Option (St) := fixF (G_AC_turnRound_2) FUEL (v1, s)
def F_AC_turnRound (s : St) : Option (St) :=
  F_AC_turnRound_2 (0 : Int32) s
def F_AC_lastWord (a1 : Int32) (s : St) : Option (Int32 × St) :=
  (F_NI_hasPerson 1 a1 s).bind fun o1 => if o1.1 = 0 then ((F_AC_refuse (-1 : Int32) o1.2).bind fun o9 => some (o9.1, o9.2)) else ((F_PR_fill 36 1 o1.2).bind fun s2 => (F_AC_monthsAt a1 a1 ((rd s2 1 1) - (1 : Int32)) s2).bind fun o3 => (F_AC_turnRound o3.2).bind fun s4 => (F_AC_moveInLine a1 ((rd s4 1 1) - (1 : Int32)) s4).bind fun s5 => (F_AC_holdLine s5).bind fun s6 => (F_AC_at 45 a1 s6).bind fun o7 => (F_MA_min o3.1 o7.1 o7.2).bind fun o8 => some (o8.1, o8.2))
def F_AC_bribe_9 (s : St) : Option (Int32 × St) :=
  (F_AC_refuse (-2 : Int32) s).bind fun o1 => some (o1.1, o1.2)
def F_AC_bribe_157 (K33 : Int32 × Int32 × Int32 × Int32 × St → Option (Int32 × St)) (K51 : Int32 × Int32 × Int32 × Int32 × St → Option (Int32 × St)) (v1 : Int32) (v2 : Int32) (v3 : Int32) (v4 : Int32) (v5 : Int32) (v6 : Int32) (s : St) : Option (Int32 × St) :=
  K51 (v2, v3, v4, (v6 + 1), s)
def H_AC_bribe_51 (K33 : Int32 × Int32 × Int32 × Int32 × St → Option (Int32 × St)) (v1 : Int32) (v5 : Int32) (K51 : Int32 × Int32 × Int32 × Int32 × St → Option (Int32 × St)) (v2 : Int32) (v3 : Int32) (v4 : Int32) (v6 : Int32) (s : St) : Option (Int32 × St) :=
  if (rd s 1 1) ≤ v6 then (K33 (v2, v3, v4, (v5 + 1), s)) else ((F_AC_holdChanged v5 v6 s).bind fun s4 => (F_AC_at 42 v5 s4).bind fun o5 => (F_AC_at 42 v6 o5.2).bind fun o6 => (some (o5.1 + o6.1)).bind fun x7 => (F_AC_at 45 v5 o6.2).bind fun o8 => (F_AC_at 45 v6 o8.2).bind fun o9 => (some (o8.1 + o9.1)).bind fun x10 => if x7 ≤ x10 then (F_AC_bribe_157 K33 K51 v1 v2 v3 v4 v5 v6 o9.2) else (if v2 ≤ x10 then (F_AC_bribe_157 K33 K51 v1 v2 v3 v4 v5 v6 o9.2) else ((some (((10 : Int32) * v5) + v6)).bind fun x11 => (some (x7 - x10)).bind fun x12 => F_AC_bribe_157 K33 K51 v1 x10 x11 x12 v5 v6 o9.2)))
def G_AC_bribe_51 (K33 : Int32 × Int32 × Int32 × Int32 × St → Option (Int32 × St)) (v1 : Int32) (v5 : Int32) (K51 : Int32 × Int32 × Int32 × Int32 × St → Option (Int32 × St)) (q : Int32 × Int32 × Int32 × Int32 × St) : Option (Int32 × St) := H_AC_bribe_51 K33 v1 v5 K51 q.1 q.2.1 q.2.2.1 q.2.2.2.1 q.2.2.2.2
def F_AC_bribe_51 (K33 : Int32 × Int32 × Int32 × Int32 × St → Option (Int32 × St)) (v1 : Int32) (v2 : Int32) (v3 : Int32) (v4 : Int32) (v5 : Int32) (v6 : Int32) (s : St) : Option (Int32 × St) := fixF (G_AC_bribe_51 K33 v1 v5) FUEL (v2, v3, v4, v6, s)
def H_AC_bribe_33 (v1 : Int32) (K33 : Int32 × Int32 × Int32 × Int32 × St → Option (Int32 × St)) (v2 : Int32) (v3 : Int32) (v4 : Int32) (v5 : Int32) (s : St) : Option (Int32 × St) :=
  if (rd s 1 1) ≤ v5 then (if v1 = 0 then (some (v3, s)) else (some (v4, s))) else ((some (v5 + (1 : Int32))).bind fun x3 => F_AC_bribe_51 K33 v1 v2 v3 v4 v5 x3 s)
def G_AC_bribe_33 (v1 : Int32) (K33 : Int32 × Int32 × Int32 × Int32 × St → Option (Int32 × St)) (q : Int32 × Int32 × Int32 × Int32 × St) : Option (Int32 × St) := H_AC_bribe_33 v1 K33 q.1 q.2.1 q.2.2.1 q.2.2.2.1 q.2.2.2.2
def F_AC_bribe_33 (v1 : Int32) (v2 : Int32) (v3 : Int32) (v4 : Int32) (v5 : Int32) (s : St) : Option (Int32 × St) := fixF (G_AC_bribe_33 v1) FUEL (v2, v3, v4, v5, s)
def F_AC_bribe (a1 : Int32) (s : St) : Option (Int32 × St) :=
  if a1 < 0 then (F_AC_bribe_9 s) else (if a1 ≤ (1 : Int32) then ((F_AC_holdToday s).bind fun s2 => F_AC_bribe_33 a1 (1000000 : Int32) (-9 : Int32) (-9 : Int32) (0 : Int32) s2) else (F_AC_bribe_9 s))
def F_AC_latest_26 (s : St) : Option (Int32 × St) :=
  (F_AC_refuse (-2 : Int32) s).bind fun o2 => some (o2.1, o2.2)
def F_AC_latest_93 (K61 : Int32 × Int32 × Int32 × St → Option (Int32 × St)) (v1 : Int32) (v2 : Int32) (v3 : Int32) (v4 : Int32) (v5 : Int32) (v6 : Int32) (v7 : Int32) (s : St) : Option (Int32 × St) :=
  (F_MA_max v5 v7 s).bind fun o6 => K61 (v4, o6.1, (v6 + 1), o6.2)
def H_AC_latest_61 (v1 : Int32) (v2 : Int32) (v3 : Int32) (K61 : Int32 × Int32 × Int32 × St → Option (Int32 × St)) (v4 : Int32) (v5 : Int32) (v6 : Int32) (s : St) : Option (Int32 × St) :=
  if (rd s 1 1) ≤ v6 then (if v2 = 0 then (some (v4, s)) else (some (v5, s))) else ((F_AC_monthsAt v1 v1 v6 s).bind fun o5 => if v3 < o5.1 then (F_AC_latest_93 K61 v1 v2 v3 v4 v5 v6 o5.1 o5.2) else (F_AC_latest_93 K61 v1 v2 v3 v6 v5 v6 o5.1 o5.2))
def G_AC_latest_61 (v1 : Int32) (v2 : Int32) (v3 : Int32) (K61 : Int32 × Int32 × Int32 × St → Option (Int32 × St)) (q : Int32 × Int32 × Int32 × St) : Option (Int32 × St) := H_AC_latest_61 v1 v2 v3 K61 q.1 q.2.1 q.2.2.1 q.2.2.2
def F_AC_latest_61 (v1 : Int32) (v2 : Int32) (v3 : Int32) (v4 : Int32) (v5 : Int32) (v6 : Int32) (s : St) : Option (Int32 × St) := fixF (G_AC_latest_61 v1 v2 v3) FUEL (v4, v5, v6, s)
def F_AC_latest (a1 : Int32) (a2 : Int32) (s : St) : Option (Int32 × St) :=
  (F_NI_hasPerson 1 a1 s).bind fun o1 => if o1.1 = 0 then ((F_AC_refuse (-1 : Int32) o1.2).bind fun o7 => some (o7.1, o7.2)) else (if a2 < 0 then (F_AC_latest_26 o1.2) else (if a2 ≤ (1 : Int32) then ((F_PR_fill 36 1 o1.2).bind fun s3 => (F_AC_monthsAt a1 a1 (0 : Int32) s3).bind fun o4 => F_AC_latest_61 a1 a2 o4.1 (0 : Int32) o4.1 (1 : Int32) o4.2) else (F_AC_latest_26 o1.2)))
def F_AC_truth_9 (s : St) : Option (Int32 × St) :=
  (F_AC_refuse (-2 : Int32) s).bind fun o1 => some (o1.1, o1.2)
def F_AC_truth (a1 : Int32) (s : St) : Option (Int32 × St) :=
  if a1 < 0 then (F_AC_truth_9 s) else (if a1 ≤ (1 : Int32) then ((F_PR_fill 36 1 s).bind fun s2 => (F_MO_holdTrue 43 36 1 s2).bind fun s3 => if a1 = 0 then (some ((rd s3 43 4), s3)) else ((F_MO_owners 43 1 (1 : Int32) s3).bind fun o4 => some (o4.1, o4.2))) else (F_AC_truth_9 s))
def F_AC_parole_69 (K17 : Int32 × Int32 × Int32 × St → Option (Int32 × St)) (v1 : Int32) (v2 : Int32) (v3 : Int32) (s : St) : Option (Int32 × St) :=
  K17 (v1, v2, (v3 + 1), s)
def H_AC_parole_17 (K17 : Int32 × Int32 × Int32 × St → Option (Int32 × St)) (v1 : Int32) (v2 : Int32) (v3 : Int32) (s : St) : Option (Int32 × St) :=
  if (rd s 1 1) ≤ v3 then (some (v2, s)) else ((F_NI_copy 19 1 s).bind fun s3 => (F_AC_put 22 v3 (0 : Int32) s3).bind fun s4 => (F_AC_tried s4).bind fun o5 => if v1 ≤ o5.1 then (F_AC_parole_69 K17 v1 v2 v3 o5.2) else ((some (rd o5.2 43 4)).bind fun x6 => F_AC_parole_69 K17 x6 v3 v3 o5.2))
def G_AC_parole_17 (K17 : Int32 × Int32 × Int32 × St → Option (Int32 × St)) (q : Int32 × Int32 × Int32 × St) : Option (Int32 × St) := H_AC_parole_17 K17 q.1 q.2.1 q.2.2.1 q.2.2.2
def F_AC_parole_17 (v1 : Int32) (v2 : Int32) (v3 : Int32) (s : St) : Option (Int32 × St) := fixF (G_AC_parole_17) FUEL (v1, v2, v3, s)
def F_AC_parole (s : St) : Option (Int32 × St) :=
  (F_AC_holdToday s).bind fun s1 => (some (rd s1 40 4)).bind fun x2 => F_AC_parole_17 x2 (-9 : Int32) (0 : Int32) s1
def F_AC_newBrothers_130 (K39 : Int32 × Int32 × Int32 × St → Option (Int32 × St)) (K55 : Int32 × Int32 × Int32 × St → Option (Int32 × St)) (v1 : Int32) (v2 : Int32) (v3 : Int32) (v4 : Int32) (s : St) : Option (Int32 × St) :=
  K55 (v1, v2, (v4 + 1), s)
def H_AC_newBrothers_55 (K39 : Int32 × Int32 × Int32 × St → Option (Int32 × St)) (v3 : Int32) (K55 : Int32 × Int32 × Int32 × St → Option (Int32 × St)) (v1 : Int32) (v2 : Int32) (v4 : Int32) (s : St) : Option (Int32 × St) :=
  if (rd s 1 1) ≤ v4 then (K39 (v1, v2, (v3 + 1), s)) else ((F_NI_copy 19 1 s).bind fun s5 => (F_NI_pair 19 v3 v4 s5).bind fun s6 => (F_LB_hold 36 19 s6).bind fun s7 => if v1 ≤ (rd s7 46 2) then (F_AC_newBrothers_130 K39 K55 v1 v2 v3 v4 s7) else ((some (rd s7 46 2)).bind fun x8 => (some (((10 : Int32) * v3) + v4)).bind fun x9 => F_AC_newBrothers_130 K39 K55 x8 x9 v3 v4 s7))
def G_AC_newBrothers_55 (K39 : Int32 × Int32 × Int32 × St → Option (Int32 × St)) (v3 : Int32) (K55 : Int32 × Int32 × Int32 × St → Option (Int32 × St)) (q : Int32 × Int32 × Int32 × St) : Option (Int32 × St) := H_AC_newBrothers_55 K39 v3 K55 q.1 q.2.1 q.2.2.1 q.2.2.2
def F_AC_newBrothers_55 (K39 : Int32 × Int32 × Int32 × St → Option (Int32 × St)) (v1 : Int32) (v2 : Int32) (v3 : Int32) (v4 : Int32) (s : St) : Option (Int32 × St) := fixF (G_AC_newBrothers_55 K39 v3) FUEL (v1, v2, v4, s)
def H_AC_newBrothers_39 (K39 : Int32 × Int32 × Int32 × St → Option (Int32 × St)) (v1 : Int32) (v2 : Int32) (v3 : Int32) (s : St) : Option (Int32 × St) :=
  if (rd s 1 1) ≤ v3 then (some (v2, s)) else ((some (v3 + (1 : Int32))).bind fun x4 => F_AC_newBrothers_55 K39 v1 v2 v3 x4 s)
def G_AC_newBrothers_39 (K39 : Int32 × Int32 × Int32 × St → Option (Int32 × St)) (q : Int32 × Int32 × Int32 × St) : Option (Int32 × St) := H_AC_newBrothers_39 K39 q.1 q.2.1 q.2.2.1 q.2.2.2
def F_AC_newBrothers_39 (v1 : Int32) (v2 : Int32) (v3 : Int32) (s : St) : Option (Int32 × St) := fixF (G_AC_newBrothers_39) FUEL (v1, v2, v3, s)
def F_AC_newBrothers (s : St) : Option (Int32 × St) :=
  (F_PR_fill 36 1 s).bind fun s1 => (F_LB_hold 36 1 s1).bind fun s2 => (some (rd s2 46 2)).bind fun x3 => F_AC_newBrothers_39 x3 (-9 : Int32) (0 : Int32) s2
def F_AC_madeLight_69 (K17 : Int32 × Int32 × Int32 × St → Option (Int32 × St)) (v1 : Int32) (v2 : Int32) (v3 : Int32) (s : St) : Option (Int32 × St) :=
  K17 (v1, v2, (v3 + 1), s)
def H_AC_madeLight_17 (K17 : Int32 × Int32 × Int32 × St → Option (Int32 × St)) (v1 : Int32) (v2 : Int32) (v3 : Int32) (s : St) : Option (Int32 × St) :=
  if (rd s 1 0) ≤ v3 then (some (v2, s)) else ((F_NI_copy 19 1 s).bind fun s3 => (F_AC_put 20 v3 (2 : Int32) s3).bind fun s4 => (F_AC_tried s4).bind fun o5 => if v1 ≤ o5.1 then (F_AC_madeLight_69 K17 v1 v2 v3 o5.2) else ((some (rd o5.2 43 4)).bind fun x6 => F_AC_madeLight_69 K17 x6 v3 v3 o5.2))
def G_AC_madeLight_17 (K17 : Int32 × Int32 × Int32 × St → Option (Int32 × St)) (q : Int32 × Int32 × Int32 × St) : Option (Int32 × St) := H_AC_madeLight_17 K17 q.1 q.2.1 q.2.2.1 q.2.2.2
def F_AC_madeLight_17 (v1 : Int32) (v2 : Int32) (v3 : Int32) (s : St) : Option (Int32 × St) := fixF (G_AC_madeLight_17) FUEL (v1, v2, v3, s)
def F_AC_madeLight (s : St) : Option (Int32 × St) :=
  (F_AC_holdToday s).bind fun s1 => (some (rd s1 40 4)).bind fun x2 => F_AC_madeLight_17 x2 (-9 : Int32) (0 : Int32) s1
def F_AC_always (s : St) : Option (Int32 × St) :=
  (F_NI_allDeeds 1 s).bind fun o1 => (F_AC_holdToday o1.2).bind fun s2 => (some (o1.1 &&& ((rd s2 40 3) ^^^ (-1 : Int32)))).bind fun x3 => (F_AC_turnRound s2).bind fun s4 => (F_AC_holdLine s4).bind fun s5 => (some (x3 &&& ((rd s5 43 3) ^^^ (-1 : Int32)))).bind fun x6 => (F_AC_lineUp 9 s5).bind fun s7 => (F_AC_at 9 (0 : Int32) s7).bind fun o8 => (F_AC_moveInLine o8.1 ((rd o8.2 1 1) - (1 : Int32)) o8.2).bind fun s9 => (F_AC_holdLine s9).bind fun s10 => some ((x6 &&& ((rd s10 43 3) ^^^ (-1 : Int32))), s10)
def F_AC_row_26 (s : St) : Option (Int32 × St) :=
  (F_AC_refuse (-6 : Int32) s).bind fun o1 => some (o1.1, o1.2)
def F_AC_row (a1 : Int32) (s : St) : Option (Int32 × St) :=
  if 0 ≤ a1 then (if (9 : Int32) < a1 then (F_AC_row_26 s) else (if (rd s 0 16) < (12 : Int32) then ((F_AC_put 56 (rd s 0 16) a1 s).bind fun s2 => (some (wr s2 0 16 ((rd s2 0 16) + (1 : Int32)))).bind fun s3 => some ((rd s3 0 16), s3)) else (F_AC_row_26 s))) else ((F_AC_refuse (-4 : Int32) s).bind fun o4 => some (o4.1, o4.2))
def F_AC_firstNotSo_31 (t1 : Nat) (K2 : Int32 × St → Option (Int32 × St)) (v2 : Int32) (z0 : Int32) (s : St) : Option (Int32 × St) :=
  if (rd s 1 1) ≤ v2 then (some (v2, s)) else ((F_AC_at 56 v2 s).bind fun o2 => if z0 = o2.1 then (K2 ((v2 + 1), o2.2)) else (some (v2, o2.2)))
def H_AC_firstNotSo_2 (t1 : Nat) (K2 : Int32 × St → Option (Int32 × St)) (v2 : Int32) (s : St) : Option (Int32 × St) :=
  if (rd s 0 16) ≤ v2 then (some ((-9 : Int32), s)) else ((F_AC_at (t1 + 1) v2 s).bind fun o1 => if o1.1 = (-9 : Int32) then (F_AC_firstNotSo_31 t1 K2 v2 (9 : Int32) o1.2) else (F_AC_firstNotSo_31 t1 K2 v2 o1.1 o1.2))
def G_AC_firstNotSo_2 (t1 : Nat) (K2 : Int32 × St → Option (Int32 × St)) (q : Int32 × St) : Option (Int32 × St) := H_AC_firstNotSo_2 t1 K2 q.1 q.2
def F_AC_firstNotSo_2 (t1 : Nat) (v2 : Int32) (s : St) : Option (Int32 × St) := fixF (G_AC_firstNotSo_2 t1) FUEL (v2, s)
def F_AC_firstNotSo (t1 : Nat) (s : St) : Option (Int32 × St) :=
  F_AC_firstNotSo_2 t1 (0 : Int32) s
def F_AC_judge (s : St) : Option (Int32 × St) :=
  (F_AC_holdToday s).bind fun s1 => (F_AC_firstNotSo 40 s1).bind fun o2 => (some (wr o2.2 0 16 (0 : Int32))).bind fun s3 => some (o2.1, s3)
def F_AC_fits_136 (v1 : Int32) (v2 : Int32) (s : St) : Option (Int32 × St) :=
  if v1 = (-1 : Int32) then (some (v2, s)) else ((F_OR_keptAt v1 s).bind fun o3 => some (o3.1, o3.2))
def F_AC_fits_117 (K59 : Int32 × Int32 × St → Option (Int32 × St)) (v1 : Int32) (v2 : Int32) (v3 : Int32) (s : St) : Option (Int32 × St) :=
  (F_OR_step s).bind fun o7 => if o7.1 = 0 then (F_AC_fits_136 v1 v2 o7.2) else (K59 (v2, (v3 + 1), o7.2))
def F_AC_fits_114 (K59 : Int32 × Int32 × St → Option (Int32 × St)) (v1 : Int32) (v2 : Int32) (v3 : Int32) (s : St) : Option (Int32 × St) :=
  F_AC_fits_117 K59 v1 (v2 + 1) v3 s
def H_AC_fits_59 (v1 : Int32) (K59 : Int32 × Int32 × St → Option (Int32 × St)) (v2 : Int32) (v3 : Int32) (s : St) : Option (Int32 × St) :=
  if (120 : Int32) ≤ v3 then (F_AC_fits_136 v1 v2 s) else ((F_NI_allDeeds 1 s).bind fun o4 => (F_MO_hold 43 36 52 o4.1 o4.2).bind fun s5 => (F_AC_firstNotSo 43 s5).bind fun o6 => if o6.1 = (-9 : Int32) then (if v2 = 0 then ((F_OR_keep o6.2).bind fun s8 => F_AC_fits_114 K59 v1 v2 v3 s8) else (F_AC_fits_114 K59 v1 v2 v3 o6.2)) else (F_AC_fits_117 K59 v1 v2 v3 o6.2))
def G_AC_fits_59 (v1 : Int32) (K59 : Int32 × Int32 × St → Option (Int32 × St)) (q : Int32 × Int32 × St) : Option (Int32 × St) := H_AC_fits_59 v1 K59 q.1 q.2.1 q.2.2
def F_AC_fits_59 (v1 : Int32) (v2 : Int32) (v3 : Int32) (s : St) : Option (Int32 × St) := fixF (G_AC_fits_59 v1) FUEL (v2, v3, s)
def F_AC_fits (a1 : Int32) (s : St) : Option (Int32 × St) :=
  if (rd s 1 1) ≤ (5 : Int32) then (if (-1 : Int32) ≤ a1 then ((F_PR_fill 36 1 s).bind fun s1 => (F_OR_begin (rd s1 1 1) s1).bind fun s2 => F_AC_fits_59 a1 (0 : Int32) (0 : Int32) s2) else ((F_AC_refuse (-4 : Int32) s).bind fun o9 => some (o9.1, o9.2))) else ((F_AC_refuse (-3 : Int32) s).bind fun o10 => some (o10.1, o10.2))
def F_AC_clear (s : St) : Option (Int32 × St) :=
  (some (rd s 0 16)).bind fun x1 => (some (wr s 0 16 (0 : Int32))).bind fun s2 => some (x1, s2)
def F_AC_lots_34 (s : St) : Option (Int32 × St) :=
  (F_AC_refuse (-2 : Int32) s).bind fun o1 => some (o1.1, o1.2)
def F_AC_lots_153 (K64 : Int32 × Int32 × Int32 × Int32 × St → Option (Int32 × St)) (v1 : Int32) (v3 : Int32) (v4 : Int32) (v5 : Int32) (v6 : Int32) (v7 : Int32) (s : St) : Option (Int32 × St) :=
  K64 (v4, v5, v6, (v7 + 1), s)
def H_AC_lots_73 (K64 : Int32 × Int32 × Int32 × Int32 × St → Option (Int32 × St)) (v1 : Int32) (v3 : Int32) (v5 : Int32) (v6 : Int32) (v7 : Int32) (K73 : Int32 × Int32 × St → Option (Int32 × St)) (v4 : Int32) (v8 : Int32) (s : St) : Option (Int32 × St) :=
  if (rd s 19 1) ≤ v8 then ((F_AC_tried s).bind fun o3 => (some (v5 + o3.1)).bind fun x4 => if (rd o3.2 43 5) = (-9 : Int32) then (F_AC_lots_153 K64 v1 v3 v4 x4 (v6 + 1) v7 o3.2) else (F_AC_lots_153 K64 v1 v3 v4 x4 v6 v7 o3.2)) else ((some ((v4 * (1103515245 : Int32)) + (12345 : Int32))).bind fun x5 => (F_AC_put 23 v8 (((x5 &&& (2147483647 : Int32)) / (65536 : Int32)) - ((x5 &&& (2147483647 : Int32)) / (65536 : Int32)) / (128 : Int32) * (128 : Int32)) s).bind fun s6 => K73 (x5, (v8 + 1), s6))
def G_AC_lots_73 (K64 : Int32 × Int32 × Int32 × Int32 × St → Option (Int32 × St)) (v1 : Int32) (v3 : Int32) (v5 : Int32) (v6 : Int32) (v7 : Int32) (K73 : Int32 × Int32 × St → Option (Int32 × St)) (q : Int32 × Int32 × St) : Option (Int32 × St) := H_AC_lots_73 K64 v1 v3 v5 v6 v7 K73 q.1 q.2.1 q.2.2
def F_AC_lots_73 (K64 : Int32 × Int32 × Int32 × Int32 × St → Option (Int32 × St)) (v1 : Int32) (v3 : Int32) (v4 : Int32) (v5 : Int32) (v6 : Int32) (v7 : Int32) (v8 : Int32) (s : St) : Option (Int32 × St) := fixF (G_AC_lots_73 K64 v1 v3 v5 v6 v7) FUEL (v4, v8, s)
def H_AC_lots_64 (v1 : Int32) (v3 : Int32) (K64 : Int32 × Int32 × Int32 × Int32 × St → Option (Int32 × St)) (v4 : Int32) (v5 : Int32) (v6 : Int32) (v7 : Int32) (s : St) : Option (Int32 × St) :=
  if v1 ≤ v7 then (if v3 = 0 then (some (v5, s)) else (some (v6, s))) else (F_AC_lots_73 K64 v1 v3 v4 v5 v6 v7 (0 : Int32) s)
def G_AC_lots_64 (v1 : Int32) (v3 : Int32) (K64 : Int32 × Int32 × Int32 × Int32 × St → Option (Int32 × St)) (q : Int32 × Int32 × Int32 × Int32 × St) : Option (Int32 × St) := H_AC_lots_64 v1 v3 K64 q.1 q.2.1 q.2.2.1 q.2.2.2.1 q.2.2.2.2
def F_AC_lots_64 (v1 : Int32) (v3 : Int32) (v4 : Int32) (v5 : Int32) (v6 : Int32) (v7 : Int32) (s : St) : Option (Int32 × St) := fixF (G_AC_lots_64 v1 v3) FUEL (v4, v5, v6, v7, s)
def F_AC_lots (a1 : Int32) (a2 : Int32) (a3 : Int32) (s : St) : Option (Int32 × St) :=
  if (1 : Int32) ≤ a1 then (if a1 ≤ (20 : Int32) then (if a3 < 0 then (F_AC_lots_34 s) else (if a3 ≤ (1 : Int32) then ((F_NI_copy 19 1 s).bind fun s2 => F_AC_lots_64 a1 a3 a2 (0 : Int32) (0 : Int32) (0 : Int32) s2) else (F_AC_lots_34 s))) else ((F_AC_refuse (-6 : Int32) s).bind fun o7 => some (o7.1, o7.2))) else ((F_AC_refuse (-4 : Int32) s).bind fun o8 => some (o8.1, o8.2))
def F_AC_image (s : St) : Option (Int32 × St) :=
  (F_NI_copy 10 1 s).bind fun s1 => (wrZ s1 0 17 (1 : Int32)).bind fun s2 => some ((rd s2 1 1), s2)
def F_AC_restore (s : St) : Option (Int32 × St) :=
  if (rd s 0 17) = 0 then ((F_AC_refuse (-3 : Int32) s).bind fun o3 => some (o3.1, o3.2)) else ((F_NI_copy 1 10 s).bind fun s1 => (F_PA_forget s1).bind fun s2 => some ((rd s2 1 1), s2))
def F_AC_count_123 (s : St) : Option (Int32 × St) :=
  some ((-9 : Int32), s)
def F_AC_count (a1 : Int32) (s : St) : Option (Int32 × St) :=
  if a1 = 0 then (some ((rd s 1 1), s)) else if a1 = 1 then (some ((rd s 1 0), s)) else if a1 = 2 then ((F_NI_allRecords 1 s).bind fun o1 => some (o1.1, o1.2)) else if a1 = 3 then ((F_NI_allAlibis 1 s).bind fun o2 => some (o2.1, o2.2)) else if a1 = 4 then (some ((rd s 34 0), s)) else if a1 = 5 then (some ((rd s 0 16), s)) else if a1 = 6 then (some ((rd s 28 0), s)) else (if a1 < (11 : Int32) then (F_AC_count_123 s) else (if (16 : Int32) < a1 then (F_AC_count_123 s) else ((F_AC_at 57 (a1 - (10 : Int32)) s).bind fun o3 => some (o3.1, o3.2))))
def F_MD_no (a1 : Int32) (s : St) : Option (Int32 × St) :=
  (some (-a1)).bind fun x1 => (ldA s 59 x1).bind fun x2 => (stA s 59 x1 (x2 + (1 : Int32))).bind fun s3 => some (a1, s3)
def F_MD_lower (a1 : Int32) (s : St) : Option (Int32 × St) :=
  (some (-a1)).bind fun x1 => (ldA s 59 x1).bind fun x2 => (stA s 59 x1 (x2 + (1 : Int32))).bind fun s3 => some (((1000000000 : Int32) - a1), s3)
def F_MD_lowest (a1 : Int32) (s : St) : Option (Int64 × St) :=
  (some (-a1)).bind fun x1 => (ldA s 59 x1).bind fun x2 => (stA s 59 x1 (x2 + (1 : Int32))).bind fun s3 => some (((4000000000000000000 : Int64) - (a1).toInt64), s3)
def F_MD_isIn_14 (s : St) : Option (Int32 × St) :=
  some (0, s)
def F_MD_isIn (a0 : Int32) (a1 : Int32) (a2 : Int32) (s : St) : Option (Int32 × St) :=
  if a0 < a1 then (F_MD_isIn_14 s) else (if a2 < a0 then (F_MD_isIn_14 s) else (some (1, s)))
def F_MD_bound (a0 : Int32) (a1 : Int32) (a2 : Int32) (s : St) : Option (Int32 × St) :=
  if a1 ≤ a0 then (if a0 ≤ a2 then (some ((0 : Int32), s)) else (some ((-6 : Int32), s))) else (some ((-4 : Int32), s))
def F_MD_has (a0 : Int32) (a1 : Int32) (s : St) : Option (Int32 × St) :=
  if ((a0 >>> (a1 &&& 31)) &&& (1 : Int32)) = (1 : Int32) then (some (1, s)) else (some (0, s))
def F_MD_isPerson_16 (s : St) : Option (Int32 × St) :=
  some (0, s)
def F_MD_isPerson (a1 : Int32) (s : St) : Option (Int32 × St) :=
  if a1 < 0 then (F_MD_isPerson_16 s) else (if (rd s 58 10) ≤ a1 then (F_MD_isPerson_16 s) else (some (1, s)))
def F_MD_isDeed_16 (s : St) : Option (Int32 × St) :=
  some (0, s)
def F_MD_isDeed (a1 : Int32) (s : St) : Option (Int32 × St) :=
  if a1 < 0 then (F_MD_isDeed_16 s) else (if (rd s 58 9) ≤ a1 then (F_MD_isDeed_16 s) else (some (1, s)))
def F_MD_areTwo_25 (s : St) : Option (Int32 × St) :=
  some (0, s)
def F_MD_areTwo (a1 : Int32) (a2 : Int32) (s : St) : Option (Int32 × St) :=
  (F_MD_isPerson a1 s).bind fun o1 => if o1.1 = 0 then (F_MD_areTwo_25 o1.2) else ((F_MD_isPerson a2 o1.2).bind fun o2 => if o2.1 = 0 then (F_MD_areTwo_25 o2.2) else (if a1 = a2 then (F_MD_areTwo_25 o2.2) else (some (1, o2.2))))
def F_MD_feed_25 (v1 : Int32) (v2 : Int32) (s : St) : Option (Int32 × St) :=
  if v2 = 0 then ((stA s 68 (rd s 58 15) v1).bind fun s2 => (some (wr s2 58 15 ((rd s2 58 15) + (1 : Int32)))).bind fun s3 => some ((rd s3 58 15), s3)) else ((F_MD_no v2 s).bind fun o4 => some (o4.1, o4.2))
def F_MD_feed (a1 : Int32) (s : St) : Option (Int32 × St) :=
  (F_MD_bound a1 (0 : Int32) (255 : Int32) s).bind fun o1 => if o1.1 = 0 then (if (rd o1.2 58 15) = (96 : Int32) then (F_MD_feed_25 a1 (-6 : Int32) o1.2) else (F_MD_feed_25 a1 o1.1 o1.2)) else (F_MD_feed_25 a1 o1.1 o1.2)
def F_MD_next (s : St) : Option (Int32 × St) :=
  if (rd s 58 15) ≤ (rd s 58 16) then (some ((-1 : Int32), s)) else ((ldA s 68 (rd s 58 16)).bind fun x1 => some (x1, s))
def H_MD_readsDigits_5 (v1 : Int32) (v2 : Int32) (K5 : Int32 × Int32 × St → Option (Int32 × St)) (v3 : Int32) (v4 : Int32) (s : St) : Option (Int32 × St) :=
  if v2 ≤ v4 then ((stA s 71 v1 v3).bind fun s1 => some (1, s1)) else ((F_MD_next s).bind fun o2 => (F_MD_isIn o2.1 (48 : Int32) (57 : Int32) o2.2).bind fun o3 => if o3.1 = 0 then (some (0, o3.2)) else ((F_MD_next o3.2).bind fun o4 => (some ((((10 : Int32) * v3) + o4.1) - (48 : Int32))).bind fun x5 => (some (wr o4.2 58 16 ((rd o4.2 58 16) + (1 : Int32)))).bind fun s6 => K5 (x5, (v4 + 1), s6)))
def G_MD_readsDigits_5 (v1 : Int32) (v2 : Int32) (K5 : Int32 × Int32 × St → Option (Int32 × St)) (q : Int32 × Int32 × St) : Option (Int32 × St) := H_MD_readsDigits_5 v1 v2 K5 q.1 q.2.1 q.2.2
def F_MD_readsDigits_5 (v1 : Int32) (v2 : Int32) (v3 : Int32) (v4 : Int32) (s : St) : Option (Int32 × St) := fixF (G_MD_readsDigits_5 v1 v2) FUEL (v3, v4, s)
def F_MD_readsDigits (a1 : Int32) (a2 : Int32) (s : St) : Option (Int32 × St) :=
  F_MD_readsDigits_5 a1 a2 (0 : Int32) (0 : Int32) s
def F_MD_statement_129 (z0 : Int32) (s : St) : Option (Int32 × St) :=
  if z0 = 0 then (some (0, s)) else ((F_MD_next s).bind fun o7 => if o7.1 = (59 : Int32) then ((some (wr o7.2 58 16 ((rd o7.2 58 16) + (1 : Int32)))).bind fun s8 => some (1, s8)) else (some (0, o7.2)))
def F_MD_statement_128 (s : St) : Option (Int32 × St) :=
  F_MD_statement_129 (0 : Int32) s
def F_MD_statement_124 (s : St) : Option (Int32 × St) :=
  F_MD_statement_129 (1 : Int32) s
def F_MD_statement_101 (v1 : Int32) (v2 : Int32) (z0 : Int32) (z1 : Int32) (s : St) : Option (Int32 × St) :=
  (F_MD_readsDigits z1 z0 s).bind fun o9 => if o9.1 = 0 then (F_MD_statement_128 o9.2) else (if v1 = (112 : Int32) then ((F_MD_readsDigits (v2 + (2 : Int32)) (1 : Int32) o9.2).bind fun o10 => if o10.1 = 0 then (F_MD_statement_128 o10.2) else (F_MD_statement_124 o10.2)) else (F_MD_statement_124 o9.2))
def F_MD_statement_37 (v1 : Int32) (s : St) : Option (Int32 × St) :=
  (stA s 69 (rd s 58 17) v1).bind fun s2 => (stA s2 70 (rd s2 58 17) (rd s2 58 16)).bind fun s3 => (some (wr s3 58 16 ((rd s3 58 16) + (1 : Int32)))).bind fun s4 => (some ((3 : Int32) * (rd s4 58 17))).bind fun x5 => (F_MD_readsDigits x5 (1 : Int32) s4).bind fun o6 => if o6.1 = 0 then (F_MD_statement_128 o6.2) else (if v1 = (112 : Int32) then (F_MD_statement_101 v1 x5 (3 : Int32) (x5 + (1 : Int32)) o6.2) else (F_MD_statement_101 v1 x5 (1 : Int32) (x5 + (1 : Int32)) o6.2))
def F_MD_statement (s : St) : Option (Int32 × St) :=
  (F_MD_next s).bind fun o1 => if o1.1 = (100 : Int32) then (F_MD_statement_37 o1.1 o1.2) else (if o1.1 = (112 : Int32) then (F_MD_statement_37 o1.1 o1.2) else (if o1.1 = (98 : Int32) then (F_MD_statement_37 o1.1 o1.2) else (if o1.1 = (97 : Int32) then (F_MD_statement_37 o1.1 o1.2) else (if o1.1 = (120 : Int32) then (F_MD_statement_37 o1.1 o1.2) else (some (0, o1.2))))))
def F_MD_addsDeed (a1 : Int32) (a2 : Int32) (s : St) : Option (St) :=
  (stA s 60 (rd s 58 9) a1).bind fun s1 => (stA s1 61 (rd s1 58 9) a2).bind fun s2 => (some (wr s2 58 9 ((rd s2 58 9) + (1 : Int32)))).bind fun s3 => some s3
def F_MD_addsPerson (a1 : Int32) (a2 : Int32) (a3 : Int32) (s : St) : Option (St) :=
  (stA s 62 (rd s 58 10) a1).bind fun s1 => (stA s1 63 (rd s1 58 10) a2).bind fun s2 => (stA s2 64 (rd s2 58 10) a3).bind fun s3 => (stA s3 65 (rd s3 58 10) (-9 : Int32)).bind fun s4 => (stA s4 66 (rd s4 58 10) (0 : Int32)).bind fun s5 => (stA s5 67 (rd s5 58 10) (rd s5 58 10)).bind fun s6 => (some (wr s6 58 10 ((rd s6 58 10) + (1 : Int32)))).bind fun s7 => some s7
def F_MD_parts_22 (v1 : Int32) (s : St) : Option (St) :=
  (stA s 65 v1 (-9 : Int32)).bind fun s2 => some s2
def F_MD_parts (a1 : Int32) (s : St) : Option (St) :=
  (ldA s 65 a1).bind fun x1 => if x1 < 0 then (F_MD_parts_22 a1 s) else ((ldA s 65 a1).bind fun x3 => (stA s 65 x3 (-9 : Int32)).bind fun s4 => F_MD_parts_22 a1 s4)
def F_MD_areBrothers (a1 : Int32) (a2 : Int32) (s : St) : Option (St) :=
  (F_MD_parts a1 s).bind fun s1 => (F_MD_parts a2 s1).bind fun s2 => (stA s2 65 a1 a2).bind fun s3 => (stA s3 65 a2 a1).bind fun s4 => some s4
def H_MD_placeOf_2 (v1 : Int32) (K2 : Int32 × St → Option (Int32 × St)) (v2 : Int32) (s : St) : Option (Int32 × St) :=
  (ldA s 67 v2).bind fun x1 => if x1 = v1 then (some (v2, s)) else (K2 ((v2 + 1), s))
def G_MD_placeOf_2 (v1 : Int32) (K2 : Int32 × St → Option (Int32 × St)) (q : Int32 × St) : Option (Int32 × St) := H_MD_placeOf_2 v1 K2 q.1 q.2
def F_MD_placeOf_2 (v1 : Int32) (v2 : Int32) (s : St) : Option (Int32 × St) := fixF (G_MD_placeOf_2 v1) FUEL (v2, s)
def F_MD_placeOf (a1 : Int32) (s : St) : Option (Int32 × St) :=
  F_MD_placeOf_2 a1 (0 : Int32) s
def F_MD_exchanges (a1 : Int32) (a2 : Int32) (s : St) : Option (St) :=
  (F_MD_placeOf a1 s).bind fun o1 => (F_MD_placeOf a2 o1.2).bind fun o2 => (stA o2.2 67 o2.1 a1).bind fun s3 => (stA s3 67 o1.1 a2).bind fun s4 => some s4
def F_MD_comes (a1 : Int32) (s : St) : Option (Int32 × St) :=
  (ldA s 71 ((3 : Int32) * a1)).bind fun x1 => (ldA s 71 (((3 : Int32) * a1) + (1 : Int32))).bind fun x2 => (ldA s 69 a1).bind fun x3 => if x3 = 97 then ((F_MD_isPerson x1 s).bind fun o4 => if o4.1 = 0 then (some (0, o4.2)) else ((F_MD_isDeed x2 o4.2).bind fun o5 => if o5.1 = 0 then (some (0, o5.2)) else ((ldA o5.2 66 x1).bind fun x6 => (stA o5.2 66 x1 (x6 ^^^ ((1 : Int32) <<< (x2 &&& 31)))).bind fun s7 => some (1, s7)))) else if x3 = 98 then ((F_MD_areTwo x1 x2 s).bind fun o8 => if o8.1 = 0 then (some (0, o8.2)) else ((F_MD_areBrothers x1 x2 o8.2).bind fun s9 => some (1, s9))) else if x3 = 100 then (if (5 : Int32) < x1 then (some (0, s)) else (if (rd s 58 9) = (7 : Int32) then (some (0, s)) else ((F_MD_addsDeed x1 x2 s).bind fun s10 => some (1, s10)))) else if x3 = 112 then (if (128 : Int32) ≤ x2 then (some (0, s)) else ((ldA s 71 (((3 : Int32) * a1) + (2 : Int32))).bind fun x11 => if (7 : Int32) < x11 then (some (0, s)) else (if (rd s 58 10) = (7 : Int32) then (some (0, s)) else ((ldA s 71 (((3 : Int32) * a1) + (2 : Int32))).bind fun x12 => (F_MD_addsPerson x1 x2 x12 s).bind fun s13 => some (1, s13))))) else ((F_MD_areTwo x1 x2 s).bind fun o14 => if o14.1 = 0 then (some (0, o14.2)) else ((F_MD_exchanges x1 x2 o14.2).bind fun s15 => some (1, s15)))
def F_MD_passes_42 (t1 : Nat) (K2 : Int32 × St → Option (St)) (v2 : Int32) (s : St) : Option (St) :=
  (some (wr s 58 21 ((rd s 58 21) + (1 : Int32)))).bind fun s3 => K2 ((v2 + 1), s3)
def H_MD_passes_2 (t1 : Nat) (K2 : Int32 × St → Option (St)) (v2 : Int32) (s : St) : Option (St) :=
  if (nI (alen t1)) ≤ v2 then (some s) else (if (rd s 58 20) = 0 then ((ldA s 72 (rd s 58 21)).bind fun x1 => (stA s t1 v2 x1).bind fun s2 => F_MD_passes_42 t1 K2 v2 s2) else ((ldA s t1 v2).bind fun x4 => (stA s 72 (rd s 58 21) x4).bind fun s5 => F_MD_passes_42 t1 K2 v2 s5))
def G_MD_passes_2 (t1 : Nat) (K2 : Int32 × St → Option (St)) (q : Int32 × St) : Option (St) := H_MD_passes_2 t1 K2 q.1 q.2
def F_MD_passes_2 (t1 : Nat) (v2 : Int32) (s : St) : Option (St) := fixF (G_MD_passes_2 t1) FUEL (v2, s)
def F_MD_passes (t1 : Nat) (s : St) : Option (St) :=
  F_MD_passes_2 t1 (0 : Int32) s
def F_MD_passOne_38 (v2 : Int32) (s : St) : Option (Int32 × St) :=
  (some (wr s 58 21 ((rd s 58 21) + (1 : Int32)))).bind fun s2 => some (v2, s2)
def F_MD_passOne_20 (v1 : Int32) (z0 : Int32) (s : St) : Option (Int32 × St) :=
  if (rd s 58 20) = 0 then (F_MD_passOne_38 z0 s) else ((stA s 72 (rd s 58 21) v1).bind fun s3 => F_MD_passOne_38 z0 s3)
def F_MD_passOne (a1 : Int32) (s : St) : Option (Int32 × St) :=
  if (rd s 58 20) = 0 then ((ldA s 72 (rd s 58 21)).bind fun x1 => F_MD_passOne_20 a1 x1 s) else (F_MD_passOne_20 a1 a1 s)
def F_MD_passesAll (a1 : Int32) (a2 : Int32) (s : St) : Option (St) :=
  (some (wr s 58 21 ((80 : Int32) * a1))).bind fun s1 => (wrZ s1 58 20 a2).bind fun s2 => (F_MD_passes 60 s2).bind fun s3 => (F_MD_passes 61 s3).bind fun s4 => (F_MD_passes 62 s4).bind fun s5 => (F_MD_passes 63 s5).bind fun s6 => (F_MD_passes 64 s6).bind fun s7 => (F_MD_passes 65 s7).bind fun s8 => (F_MD_passes 66 s8).bind fun s9 => (F_MD_passes 67 s9).bind fun s10 => (F_MD_passOne (rd s10 58 9) s10).bind fun o11 => (some (wr o11.2 58 9 o11.1)).bind fun s12 => (F_MD_passOne (rd s12 58 10) s12).bind fun o13 => (some (wr o13.2 58 10 o13.1)).bind fun s14 => some s14
def H_MD_night_86 (K86 : Int32 × St → Option (Int32 × St)) (v2 : Int32) (s : St) : Option (Int32 × St) :=
  if (rd s 58 17) ≤ v2 then ((some (wr s 58 22 (0 : Int32))).bind fun s5 => some ((rd s5 58 17), s5)) else ((F_MD_comes v2 s).bind fun o6 => if o6.1 = 0 then ((F_MD_passesAll (1 : Int32) (0 : Int32) o6.2).bind fun s7 => (ldA s7 70 v2).bind fun x8 => some (((-2000 : Int32) - x8), s7)) else (K86 ((v2 + 1), o6.2)))
def G_MD_night_86 (K86 : Int32 × St → Option (Int32 × St)) (q : Int32 × St) : Option (Int32 × St) := H_MD_night_86 K86 q.1 q.2
def F_MD_night_86 (v2 : Int32) (s : St) : Option (Int32 × St) := fixF (G_MD_night_86) FUEL (v2, s)
def F_MD_night_60 (v1 : Int32) (s : St) : Option (Int32 × St) :=
  (some (wr s 58 15 (0 : Int32))).bind fun s3 => if v1 = 0 then (some (((-1000 : Int32) - (rd s3 58 16)), s3)) else ((F_MD_passesAll (1 : Int32) (1 : Int32) s3).bind fun s4 => F_MD_night_86 (0 : Int32) s4)
def F_MD_night_53 (K12 : Int32 × St → Option (Int32 × St)) (v1 : Int32) (z0 : Int32) (z1 : Int32) (s : St) : Option (Int32 × St) :=
  (some (wr s 58 17 (z1 + z0))).bind fun s10 => K12 (v1, s10)
def F_MD_night_34 (K12 : Int32 × St → Option (Int32 × St)) (s : St) : Option (Int32 × St) :=
  (F_MD_statement s).bind fun o9 => if o9.1 = 0 then (F_MD_night_53 K12 o9.1 (0 : Int32) (rd o9.2 58 17) o9.2) else (F_MD_night_53 K12 o9.1 (1 : Int32) (rd o9.2 58 17) o9.2)
def H_MD_night_12 (K12 : Int32 × St → Option (Int32 × St)) (v1 : Int32) (s : St) : Option (Int32 × St) :=
  if v1 = 0 then (F_MD_night_60 v1 s) else (if (rd s 58 16) < (rd s 58 15) then (F_MD_night_34 K12 s) else (if (rd s 58 17) = 0 then (F_MD_night_34 K12 s) else (F_MD_night_60 v1 s)))
def G_MD_night_12 (K12 : Int32 × St → Option (Int32 × St)) (q : Int32 × St) : Option (Int32 × St) := H_MD_night_12 K12 q.1 q.2
def F_MD_night_12 (v1 : Int32) (s : St) : Option (Int32 × St) := fixF (G_MD_night_12) FUEL (v1, s)
def F_MD_night (s : St) : Option (Int32 × St) :=
  (some (wr s 58 16 (0 : Int32))).bind fun s1 => (some (wr s1 58 17 (0 : Int32))).bind fun s2 => F_MD_night_12 (1 : Int32) s2
def F_MD_keepsBack_51 (s : St) : Option (St) :=
  (F_MD_passesAll ((2 : Int32) + (rd s 58 22)) (1 : Int32) s).bind fun s1 => (some (wr s1 58 22 ((rd s1 58 22) + (1 : Int32)))).bind fun s2 => some s2
def H_MD_keepsBack_13 (K13 : Int32 × St → Option (St)) (v1 : Int32) (s : St) : Option (St) :=
  if (720 : Int32) ≤ v1 then ((some (wr s 58 22 ((rd s 58 22) - (1 : Int32)))).bind fun s3 => F_MD_keepsBack_51 s3) else ((ldA s 72 (v1 + (80 : Int32))).bind fun x4 => (stA s 72 v1 x4).bind fun s5 => K13 ((v1 + 1), s5))
def G_MD_keepsBack_13 (K13 : Int32 × St → Option (St)) (q : Int32 × St) : Option (St) := H_MD_keepsBack_13 K13 q.1 q.2
def F_MD_keepsBack_13 (v1 : Int32) (s : St) : Option (St) := fixF (G_MD_keepsBack_13) FUEL (v1, s)
def F_MD_keepsBack (s : St) : Option (St) :=
  if (rd s 58 22) = (8 : Int32) then (F_MD_keepsBack_13 (160 : Int32) s) else (F_MD_keepsBack_51 s)
def F_MD_back (s : St) : Option (Int32 × St) :=
  if (rd s 58 22) = 0 then ((F_MD_no (-3 : Int32) s).bind fun o3 => some (o3.1, o3.2)) else ((some (wr s 58 22 ((rd s 58 22) - (1 : Int32)))).bind fun s1 => (F_MD_passesAll ((2 : Int32) + (rd s1 58 22)) (0 : Int32) s1).bind fun s2 => some ((rd s2 58 22), s2))
def F_MD_image (s : St) : Option (Int32 × St) :=
  (wrZ s 58 19 (1 : Int32)).bind fun s1 => (F_MD_passesAll (0 : Int32) (1 : Int32) s1).bind fun s2 => some ((rd s2 58 10), s2)
def F_MD_restore (s : St) : Option (Int32 × St) :=
  if (rd s 58 19) = 0 then ((F_MD_no (-3 : Int32) s).bind fun o3 => some (o3.1, o3.2)) else ((F_MD_passesAll (0 : Int32) (0 : Int32) s).bind fun s1 => (some (wr s1 58 22 (0 : Int32))).bind fun s2 => some ((rd s2 58 10), s2))
def F_MD_may_40 (s : St) : Option (Int32 × St) :=
  some (0, s)
def F_MD_may_36 (s : St) : Option (Int32 × St) :=
  some (1, s)
def F_MD_may (a1 : Int32) (a2 : Int32) (s : St) : Option (Int32 × St) :=
  (ldA s 66 a1).bind fun x1 => (F_MD_has x1 a2 s).bind fun o2 => if o2.1 = 0 then ((ldA o2.2 60 a2).bind fun x3 => if x3 = (5 : Int32) then (F_MD_may_36 o2.2) else ((ldA o2.2 63 a1).bind fun x4 => (F_MD_has x4 a2 o2.2).bind fun o5 => if o5.1 = 0 then (F_MD_may_40 o5.2) else (F_MD_may_36 o5.2))) else (F_MD_may_40 o2.2)
def F_MD_plainMonths (a1 : Int32) (a2 : Int32) (s : St) : Option (Int32 × St) :=
  (ldA s 61 a2).bind fun x1 => (some (((2 : Int32) * x1) + (1 : Int32))).bind fun x2 => (ldA s 62 a1).bind fun x3 => (some ((x2 + (3 : Int32)) + (x3 / (2 : Int32)))).bind fun x4 => (ldA s 60 a2).bind fun x5 => if x5 = 1 then (some (x4, s)) else if x5 = 2 then (some ((x2 / (2 : Int32)), s)) else if x5 = 3 then (some (((3 : Int32) * x4), s)) else if x5 = 4 then (some (((x2 / (2 : Int32)) + (1 : Int32)), s)) else if x5 = 5 then ((ldA s 62 a1).bind fun x6 => if (1 : Int32) ≤ (x4 - x6) then ((ldA s 62 a1).bind fun x7 => some ((x4 - x7), s)) else (some ((1 : Int32), s))) else (some (x2, s))
def F_MD_monthsOf_40 (v3 : Int32) (s : St) : Option (Int32 × St) :=
  some (v3, s)
def F_MD_monthsOf (a1 : Int32) (a2 : Int32) (s : St) : Option (Int32 × St) :=
  if 0 ≤ a2 then ((F_MD_plainMonths a1 a2 s).bind fun o1 => (ldA o1.2 64 a1).bind fun x2 => if x2 = a2 then (if (rd o1.2 58 23) ≤ a2 then (F_MD_monthsOf_40 o1.1 o1.2) else (some ((o1.1 - (o1.1 / (3 : Int32))), o1.2))) else (F_MD_monthsOf_40 o1.1 o1.2)) else (some ((60 : Int32), s))
def F_MD_deed (a1 : Int32) (a2 : Int32) (s : St) : Option (Int32 × St) :=
  (F_MD_isDeed a1 s).bind fun o1 => if o1.1 = 0 then ((F_MD_no (-1 : Int32) o1.2).bind fun o5 => some (o5.1, o5.2)) else (if a2 = 0 then ((ldA o1.2 60 a1).bind fun x4 => some (x4, o1.2)) else (if a2 = (1 : Int32) then ((ldA o1.2 61 a1).bind fun x3 => some (x3, o1.2)) else ((F_MD_no (-2 : Int32) o1.2).bind fun o2 => some (o2.1, o2.2))))
def F_MD_person_132 (K104 : Int32 × Int32 × St → Option (Int32 × St)) (v1 : Int32) (v4 : Int32) (z0 : Int32) (z1 : Int32) (s : St) : Option (Int32 × St) :=
  (some (z1 ||| z0)).bind fun x9 => K104 (x9, (v4 + 1), s)
def H_MD_person_104 (v1 : Int32) (K104 : Int32 × Int32 × St → Option (Int32 × St)) (v3 : Int32) (v4 : Int32) (s : St) : Option (Int32 × St) :=
  if (rd s 58 9) ≤ v4 then (some (v3, s)) else ((F_MD_may v1 v4 s).bind fun o8 => if o8.1 = 0 then (F_MD_person_132 K104 v1 v4 (0 : Int32) v3 o8.2) else (F_MD_person_132 K104 v1 v4 ((1 : Int32) <<< (v4 &&& 31)) v3 o8.2))
def G_MD_person_104 (v1 : Int32) (K104 : Int32 × Int32 × St → Option (Int32 × St)) (q : Int32 × Int32 × St) : Option (Int32 × St) := H_MD_person_104 v1 K104 q.1 q.2.1 q.2.2
def F_MD_person_104 (v1 : Int32) (v3 : Int32) (v4 : Int32) (s : St) : Option (Int32 × St) := fixF (G_MD_person_104 v1) FUEL (v3, v4, s)
def F_MD_person (a1 : Int32) (a2 : Int32) (s : St) : Option (Int32 × St) :=
  (F_MD_isPerson a1 s).bind fun o1 => if o1.1 = 0 then ((F_MD_no (-1 : Int32) o1.2).bind fun o11 => some (o11.1, o11.2)) else (if a2 = 0 then ((ldA o1.2 62 a1).bind fun x2 => some (x2, o1.2)) else if a2 = 1 then ((ldA o1.2 63 a1).bind fun x3 => some (x3, o1.2)) else if a2 = 2 then ((ldA o1.2 64 a1).bind fun x4 => some (x4, o1.2)) else if a2 = 3 then ((ldA o1.2 65 a1).bind fun x5 => some (x5, o1.2)) else if a2 = 4 then ((F_MD_placeOf a1 o1.2).bind fun o6 => some (o6.1, o6.2)) else if a2 = 5 then ((ldA o1.2 66 a1).bind fun x7 => some (x7, o1.2)) else if a2 = 6 then (F_MD_person_104 a1 (0 : Int32) (0 : Int32) o1.2) else ((F_MD_no (-2 : Int32) o1.2).bind fun o10 => some (o10.1, o10.2)))
def F_MD_months_25 (s : St) : Option (Int32 × St) :=
  (F_MD_no (-1 : Int32) s).bind fun o2 => some (o2.1, o2.2)
def F_MD_months (a1 : Int32) (a2 : Int32) (s : St) : Option (Int32 × St) :=
  (F_MD_isPerson a1 s).bind fun o1 => if o1.1 = 0 then (F_MD_months_25 o1.2) else ((F_MD_isDeed a2 o1.2).bind fun o3 => if o3.1 = 0 then (F_MD_months_25 o3.2) else ((F_MD_monthsOf a1 a2 o3.2).bind fun o4 => some (o4.1, o4.2)))
def F_MD_addDeed_38 (v1 : Int32) (v2 : Int32) (v3 : Int32) (s : St) : Option (Int32 × St) :=
  if v3 = 0 then ((some (wr s 58 22 (0 : Int32))).bind fun s3 => (F_MD_addsDeed v1 v2 s3).bind fun s4 => some (((rd s4 58 9) - (1 : Int32)), s4)) else ((F_MD_no v3 s).bind fun o5 => some (o5.1, o5.2))
def F_MD_addDeed_21 (v1 : Int32) (v2 : Int32) (z0 : Int32) (s : St) : Option (Int32 × St) :=
  if z0 = 0 then (if (rd s 58 9) = (7 : Int32) then (F_MD_addDeed_38 v1 v2 (-6 : Int32) s) else (F_MD_addDeed_38 v1 v2 z0 s)) else (F_MD_addDeed_38 v1 v2 z0 s)
def F_MD_addDeed (a1 : Int32) (a2 : Int32) (s : St) : Option (Int32 × St) :=
  (F_MD_isIn a1 (0 : Int32) (5 : Int32) s).bind fun o1 => if o1.1 = 0 then (F_MD_addDeed_21 a1 a2 (-2 : Int32) o1.2) else ((F_MD_bound a2 (0 : Int32) (9 : Int32) o1.2).bind fun o2 => F_MD_addDeed_21 a1 a2 o2.1 o2.2)
def F_MD_addPerson_51 (v1 : Int32) (v2 : Int32) (v3 : Int32) (z0 : Int32) (s : St) : Option (Int32 × St) :=
  if z0 = 0 then ((some (wr s 58 22 (0 : Int32))).bind fun s1 => (F_MD_addsPerson v1 v2 v3 s1).bind fun s2 => some (((rd s2 58 10) - (1 : Int32)), s2)) else ((F_MD_no z0 s).bind fun o3 => some (o3.1, o3.2))
def F_MD_addPerson_12 (v1 : Int32) (v2 : Int32) (v3 : Int32) (s : St) : Option (Int32 × St) :=
  F_MD_addPerson_51 v1 v2 v3 (-4 : Int32) s
def F_MD_addPerson_45 (v1 : Int32) (v2 : Int32) (v3 : Int32) (s : St) : Option (Int32 × St) :=
  F_MD_addPerson_51 v1 v2 v3 (-6 : Int32) s
def F_MD_addPerson (a1 : Int32) (a2 : Int32) (a3 : Int32) (s : St) : Option (Int32 × St) :=
  if a1 < 0 then (F_MD_addPerson_12 a1 a2 a3 s) else (if a2 < 0 then (F_MD_addPerson_12 a1 a2 a3 s) else (if 0 ≤ a3 then (if (9 : Int32) < a1 then (F_MD_addPerson_45 a1 a2 a3 s) else (if (128 : Int32) ≤ a2 then (F_MD_addPerson_45 a1 a2 a3 s) else (if (7 : Int32) < a3 then (F_MD_addPerson_45 a1 a2 a3 s) else (if (rd s 58 10) = (7 : Int32) then (F_MD_addPerson_45 a1 a2 a3 s) else (F_MD_addPerson_51 a1 a2 a3 (0 : Int32) s))))) else (F_MD_addPerson_12 a1 a2 a3 s)))
def F_MD_change (a1 : Int32) (a2 : Int32) (s : St) : Option (Int32 × St) :=
  (F_MD_areTwo a1 a2 s).bind fun o1 => if o1.1 = 0 then ((F_MD_no (-1 : Int32) o1.2).bind fun o5 => some (o5.1, o5.2)) else ((F_MD_keepsBack o1.2).bind fun s2 => (F_MD_exchanges a1 a2 s2).bind fun s3 => (F_MD_placeOf a1 s3).bind fun o4 => some (o4.1, o4.2))
def F_MD_alibi_16 (s : St) : Option (Int32 × St) :=
  (F_MD_no (-1 : Int32) s).bind fun o2 => some (o2.1, o2.2)
def F_MD_alibi (a1 : Int32) (a2 : Int32) (s : St) : Option (Int32 × St) :=
  (F_MD_isPerson a1 s).bind fun o1 => if o1.1 = 0 then (F_MD_alibi_16 o1.2) else ((F_MD_isDeed a2 o1.2).bind fun o3 => if o3.1 = 0 then (F_MD_alibi_16 o3.2) else ((F_MD_keepsBack o3.2).bind fun s4 => (ldA s4 66 a1).bind fun x5 => (stA s4 66 a1 (x5 ^^^ ((1 : Int32) <<< (a2 &&& 31)))).bind fun s6 => (ldA s6 66 a1).bind fun x7 => some (((x7 >>> (a2 &&& 31)) &&& (1 : Int32)), s6)))
def F_MD_brothers (a1 : Int32) (a2 : Int32) (s : St) : Option (Int32 × St) :=
  (F_MD_areTwo a1 a2 s).bind fun o1 => if o1.1 = 0 then ((F_MD_no (-1 : Int32) o1.2).bind fun o5 => some (o5.1, o5.2)) else ((F_MD_keepsBack o1.2).bind fun s2 => (ldA s2 65 a1).bind fun x3 => (F_MD_areBrothers a1 a2 s2).bind fun s4 => some (x3, s4))
def F_MD_best_60 (K6 : Int32 × Int32 × St → Option (Int32 × St)) (v1 : Int32) (v2 : Int32) (v3 : Int32) (v4 : Int32) (s : St) : Option (Int32 × St) :=
  K6 (v3, (v4 + 1), s)
def F_MD_best_57 (K6 : Int32 × Int32 × St → Option (Int32 × St)) (v1 : Int32) (v2 : Int32) (v4 : Int32) (s : St) : Option (Int32 × St) :=
  F_MD_best_60 K6 v1 v2 v4 v4 s
def H_MD_best_6 (v1 : Int32) (v2 : Int32) (K6 : Int32 × Int32 × St → Option (Int32 × St)) (v3 : Int32) (v4 : Int32) (s : St) : Option (Int32 × St) :=
  if (rd s 58 9) ≤ v4 then (some (v3, s)) else ((F_MD_has v2 v4 s).bind fun o1 => if o1.1 = 0 then ((F_MD_may v1 v4 o1.2).bind fun o2 => if o2.1 = 0 then (F_MD_best_60 K6 v1 v2 v3 v4 o2.2) else (if v3 < 0 then (F_MD_best_57 K6 v1 v2 v4 o2.2) else ((F_MD_monthsOf v1 v4 o2.2).bind fun o3 => (F_MD_monthsOf v1 v3 o3.2).bind fun o4 => if o4.1 ≤ o3.1 then (F_MD_best_60 K6 v1 v2 v3 v4 o4.2) else (F_MD_best_57 K6 v1 v2 v4 o4.2)))) else (F_MD_best_60 K6 v1 v2 v3 v4 o1.2))
def G_MD_best_6 (v1 : Int32) (v2 : Int32) (K6 : Int32 × Int32 × St → Option (Int32 × St)) (q : Int32 × Int32 × St) : Option (Int32 × St) := H_MD_best_6 v1 v2 K6 q.1 q.2.1 q.2.2
def F_MD_best_6 (v1 : Int32) (v2 : Int32) (v3 : Int32) (v4 : Int32) (s : St) : Option (Int32 × St) := fixF (G_MD_best_6 v1 v2) FUEL (v3, v4, s)
def F_MD_best (a1 : Int32) (a2 : Int32) (s : St) : Option (Int32 × St) :=
  F_MD_best_6 a1 a2 (-9 : Int32) (0 : Int32) s
def F_MD_goesBy_51 (K7 : Int32 × Int32 × St → Option (St)) (v2 : Int32) (z0 : Int32) (z1 : Int32) (s : St) : Option (St) :=
  (some (z1 ||| z0)).bind fun x6 => K7 (x6, (v2 + 1), s)
def H_MD_goesBy_7 (K7 : Int32 × Int32 × St → Option (St)) (v1 : Int32) (v2 : Int32) (s : St) : Option (St) :=
  if (rd s 58 10) ≤ v2 then (some s) else ((ldA s 74 v2).bind fun x2 => (F_MD_best x2 v1 s).bind fun o3 => (ldA o3.2 74 v2).bind fun x4 => (stA o3.2 73 x4 o3.1).bind fun s5 => if 0 ≤ o3.1 then (F_MD_goesBy_51 K7 v2 ((1 : Int32) <<< (o3.1 &&& 31)) v1 s5) else (F_MD_goesBy_51 K7 v2 (0 : Int32) v1 s5))
def G_MD_goesBy_7 (K7 : Int32 × Int32 × St → Option (St)) (q : Int32 × Int32 × St) : Option (St) := H_MD_goesBy_7 K7 q.1 q.2.1 q.2.2
def F_MD_goesBy_7 (v1 : Int32) (v2 : Int32) (s : St) : Option (St) := fixF (G_MD_goesBy_7) FUEL (v1, v2, s)
def F_MD_goesBy (s : St) : Option (St) :=
  (some (rd s 58 26)).bind fun x1 => F_MD_goesBy_7 x1 (0 : Int32) s
def H_MD_asItIs_2 (K2 : Int32 × St → Option (St)) (v1 : Int32) (s : St) : Option (St) :=
  if (rd s 58 10) ≤ v1 then (some s) else ((ldA s 67 v1).bind fun x1 => (stA s 74 v1 x1).bind fun s2 => K2 ((v1 + 1), s2))
def G_MD_asItIs_2 (K2 : Int32 × St → Option (St)) (q : Int32 × St) : Option (St) := H_MD_asItIs_2 K2 q.1 q.2
def F_MD_asItIs_2 (v1 : Int32) (s : St) : Option (St) := fixF (G_MD_asItIs_2) FUEL (v1, s)
def F_MD_asItIs (s : St) : Option (St) :=
  F_MD_asItIs_2 (0 : Int32) s
def F_MD_goes (s : St) : Option (St) :=
  (F_MD_asItIs s).bind fun s1 => (F_MD_goesBy s1).bind fun s2 => some s2
def F_MD_hasMonths (a1 : Int32) (s : St) : Option (Int32 × St) :=
  (ldA s 73 a1).bind fun x1 => (F_MD_monthsOf a1 x1 s).bind fun o2 => some (o2.1, o2.2)
def H_MD_allMonths_4 (K4 : Int32 × Int32 × St → Option (Int32 × St)) (v1 : Int32) (v2 : Int32) (s : St) : Option (Int32 × St) :=
  if (rd s 58 10) ≤ v2 then (some (v1, s)) else ((F_MD_hasMonths v2 s).bind fun o1 => (some (v1 + o1.1)).bind fun x2 => K4 (x2, (v2 + 1), o1.2))
def G_MD_allMonths_4 (K4 : Int32 × Int32 × St → Option (Int32 × St)) (q : Int32 × Int32 × St) : Option (Int32 × St) := H_MD_allMonths_4 K4 q.1 q.2.1 q.2.2
def F_MD_allMonths_4 (v1 : Int32) (v2 : Int32) (s : St) : Option (Int32 × St) := fixF (G_MD_allMonths_4) FUEL (v1, v2, s)
def F_MD_allMonths (s : St) : Option (Int32 × St) :=
  F_MD_allMonths_4 (0 : Int32) (0 : Int32) s
def F_MD_monthsNow (s : St) : Option (Int32 × St) :=
  (F_MD_goes s).bind fun s1 => (F_MD_allMonths s1).bind fun o2 => some (o2.1, o2.2)
def F_MD_takes_27 (v1 : Int32) (v2 : Int32) (z0 : Int32) (s : St) : Option (Int32 × St) :=
  if z0 = 0 then ((F_MD_goes s).bind fun s3 => if v2 = 0 then ((ldA s3 73 v1).bind fun x5 => some (x5, s3)) else ((F_MD_hasMonths v1 s3).bind fun o4 => some (o4.1, o4.2))) else ((F_MD_no z0 s).bind fun o6 => some (o6.1, o6.2))
def F_MD_takes (a1 : Int32) (a2 : Int32) (s : St) : Option (Int32 × St) :=
  (F_MD_isPerson a1 s).bind fun o1 => if o1.1 = 0 then (F_MD_takes_27 a1 a2 (-1 : Int32) o1.2) else ((F_MD_isIn a2 (0 : Int32) (1 : Int32) o1.2).bind fun o2 => if o2.1 = 0 then (F_MD_takes_27 a1 a2 (-2 : Int32) o2.2) else (F_MD_takes_27 a1 a2 (0 : Int32) o2.2))
def H_MD_firstWithout_2 (K2 : Int32 × St → Option (Int32 × St)) (v1 : Int32) (s : St) : Option (Int32 × St) :=
  if (rd s 58 10) ≤ v1 then (some ((-9 : Int32), s)) else ((ldA s 74 v1).bind fun x1 => (ldA s 73 x1).bind fun x2 => if 0 ≤ x2 then (K2 ((v1 + 1), s)) else ((ldA s 74 v1).bind fun x3 => some (x3, s)))
def G_MD_firstWithout_2 (K2 : Int32 × St → Option (Int32 × St)) (q : Int32 × St) : Option (Int32 × St) := H_MD_firstWithout_2 K2 q.1 q.2
def F_MD_firstWithout_2 (v1 : Int32) (s : St) : Option (Int32 × St) := fixF (G_MD_firstWithout_2) FUEL (v1, s)
def F_MD_firstWithout (s : St) : Option (Int32 × St) :=
  F_MD_firstWithout_2 (0 : Int32) s
def F_MD_morning_63 (K31 : Int32 × Int32 × St → Option (Int32 × St)) (v1 : Int32) (v3 : Int32) (z0 : Int32) (z1 : Int32) (s : St) : Option (Int32 × St) :=
  (some (z1 &&& z0)).bind fun x8 => K31 (x8, (v3 + 1), s)
def H_MD_morning_31 (v1 : Int32) (K31 : Int32 × Int32 × St → Option (Int32 × St)) (v2 : Int32) (v3 : Int32) (s : St) : Option (Int32 × St) :=
  if (rd s 58 10) ≤ v3 then (if v1 = 0 then ((F_MD_firstWithout s).bind fun o5 => some (o5.1, o5.2)) else (if v1 = (1 : Int32) then ((F_MD_allMonths s).bind fun o4 => some (o4.1, o4.2)) else (some (v2, s)))) else ((ldA s 73 v3).bind fun x6 => if 0 ≤ x6 then ((ldA s 73 v3).bind fun x7 => F_MD_morning_63 K31 v1 v3 (((1 : Int32) <<< (x7 &&& 31)) ^^^ (-1 : Int32)) v2 s) else (F_MD_morning_63 K31 v1 v3 (-1 : Int32) v2 s))
def G_MD_morning_31 (v1 : Int32) (K31 : Int32 × Int32 × St → Option (Int32 × St)) (q : Int32 × Int32 × St) : Option (Int32 × St) := H_MD_morning_31 v1 K31 q.1 q.2.1 q.2.2
def F_MD_morning_31 (v1 : Int32) (v2 : Int32) (v3 : Int32) (s : St) : Option (Int32 × St) := fixF (G_MD_morning_31 v1) FUEL (v2, v3, s)
def F_MD_morning (a1 : Int32) (s : St) : Option (Int32 × St) :=
  (F_MD_isIn a1 (0 : Int32) (2 : Int32) s).bind fun o1 => if o1.1 = 0 then ((F_MD_no (-2 : Int32) o1.2).bind fun o9 => some (o9.1, o9.2)) else ((F_MD_goes o1.2).bind fun s2 => (some (((1 : Int32) <<< ((rd s2 58 9) &&& 31)) - (1 : Int32))).bind fun x3 => F_MD_morning_31 a1 x3 (0 : Int32) s2)
def F_MD_leastWith (a1 : Int32) (a2 : Int32) (a3 : Int32) (s : St) : Option (Int32 × St) :=
  (F_MD_monthsOf a1 a3 s).bind fun o1 => (ldA o1.2 75 (((128 : Int32) * (a1 + (1 : Int32))) + (a2 ||| ((1 : Int32) <<< (a3 &&& 31))))).bind fun x2 => some ((o1.1 + x2), o1.2)
def F_MD_findLeast_121 (K38 : Int32 × St → Option (St)) (K44 : Int32 × St → Option (St)) (K72 : Int32 × Int32 × St → Option (St)) (v1 : Int32) (v2 : Int32) (v3 : Int32) (v4 : Int32) (s : St) : Option (St) :=
  K72 (v3, (v4 + 1), s)
def H_MD_findLeast_72 (K38 : Int32 × St → Option (St)) (K44 : Int32 × St → Option (St)) (v1 : Int32) (v2 : Int32) (K72 : Int32 × Int32 × St → Option (St)) (v3 : Int32) (v4 : Int32) (s : St) : Option (St) :=
  if (rd s 58 9) ≤ v4 then ((stA s 75 (((128 : Int32) * v1) + v2) v3).bind fun s4 => K44 ((v2 + 1), s4)) else ((F_MD_has v2 v4 s).bind fun o5 => if o5.1 = 0 then ((F_MD_may v1 v4 o5.2).bind fun o6 => if o6.1 = 0 then (F_MD_findLeast_121 K38 K44 K72 v1 v2 v3 v4 o6.2) else ((F_MD_leastWith v1 v2 v4 o6.2).bind fun o7 => if v3 ≤ o7.1 then (F_MD_findLeast_121 K38 K44 K72 v1 v2 v3 v4 o7.2) else ((F_MD_leastWith v1 v2 v4 o7.2).bind fun o8 => F_MD_findLeast_121 K38 K44 K72 v1 v2 o8.1 v4 o8.2))) else (F_MD_findLeast_121 K38 K44 K72 v1 v2 v3 v4 o5.2))
def G_MD_findLeast_72 (K38 : Int32 × St → Option (St)) (K44 : Int32 × St → Option (St)) (v1 : Int32) (v2 : Int32) (K72 : Int32 × Int32 × St → Option (St)) (q : Int32 × Int32 × St) : Option (St) := H_MD_findLeast_72 K38 K44 v1 v2 K72 q.1 q.2.1 q.2.2
def F_MD_findLeast_72 (K38 : Int32 × St → Option (St)) (K44 : Int32 × St → Option (St)) (v1 : Int32) (v2 : Int32) (v3 : Int32) (v4 : Int32) (s : St) : Option (St) := fixF (G_MD_findLeast_72 K38 K44 v1 v2) FUEL (v3, v4, s)
def H_MD_findLeast_44 (K38 : Int32 × St → Option (St)) (v1 : Int32) (K44 : Int32 × St → Option (St)) (v2 : Int32) (s : St) : Option (St) :=
  if (128 : Int32) ≤ v2 then (K38 ((v1 - 1), s)) else ((ldA s 75 (((128 : Int32) * (v1 + (1 : Int32))) + v2)).bind fun x2 => (some ((60 : Int32) + x2)).bind fun x3 => F_MD_findLeast_72 K38 K44 v1 v2 x3 (0 : Int32) s)
def G_MD_findLeast_44 (K38 : Int32 × St → Option (St)) (v1 : Int32) (K44 : Int32 × St → Option (St)) (q : Int32 × St) : Option (St) := H_MD_findLeast_44 K38 v1 K44 q.1 q.2
def F_MD_findLeast_44 (K38 : Int32 × St → Option (St)) (v1 : Int32) (v2 : Int32) (s : St) : Option (St) := fixF (G_MD_findLeast_44 K38 v1) FUEL (v2, s)
def H_MD_findLeast_38 (K38 : Int32 × St → Option (St)) (v1 : Int32) (s : St) : Option (St) :=
  if v1 < 0 then (some s) else (F_MD_findLeast_44 K38 v1 (0 : Int32) s)
def G_MD_findLeast_38 (K38 : Int32 × St → Option (St)) (q : Int32 × St) : Option (St) := H_MD_findLeast_38 K38 q.1 q.2
def F_MD_findLeast_38 (v1 : Int32) (s : St) : Option (St) := fixF (G_MD_findLeast_38) FUEL (v1, s)
def H_MD_findLeast_2 (K2 : Int32 × St → Option (St)) (v1 : Int32) (s : St) : Option (St) :=
  if (128 : Int32) ≤ v1 then ((some ((rd s 58 10) - (1 : Int32))).bind fun x1 => F_MD_findLeast_38 x1 s) else ((stA s 75 (((128 : Int32) * (rd s 58 10)) + v1) (0 : Int32)).bind fun s9 => K2 ((v1 + 1), s9))
def G_MD_findLeast_2 (K2 : Int32 × St → Option (St)) (q : Int32 × St) : Option (St) := H_MD_findLeast_2 K2 q.1 q.2
def F_MD_findLeast_2 (v1 : Int32) (s : St) : Option (St) := fixF (G_MD_findLeast_2) FUEL (v1, s)
def F_MD_findLeast (s : St) : Option (St) :=
  F_MD_findLeast_2 (0 : Int32) s
def F_MD_least_130 (K42 : Int32 × Int32 × Int32 × St → Option (Int32 × St)) (v1 : Int32) (v3 : Int32) (v4 : Int32) (z0 : Int32) (z1 : Int32) (s : St) : Option (Int32 × St) :=
  (some (z1 ||| z0)).bind fun x3 => K42 (x3, v3, (v4 + 1), s)
def F_MD_least_112 (K42 : Int32 × Int32 × Int32 × St → Option (Int32 × St)) (K59 : Int32 × Int32 × St → Option (Int32 × St)) (v1 : Int32) (v2 : Int32) (v3 : Int32) (v4 : Int32) (v5 : Int32) (s : St) : Option (Int32 × St) :=
  K59 (v3, (v5 - 1), s)
def H_MD_least_59 (K42 : Int32 × Int32 × Int32 × St → Option (Int32 × St)) (v1 : Int32) (v2 : Int32) (v4 : Int32) (K59 : Int32 × Int32 × St → Option (Int32 × St)) (v3 : Int32) (v5 : Int32) (s : St) : Option (Int32 × St) :=
  if v5 < 0 then (if 0 ≤ v3 then (F_MD_least_130 K42 v1 v3 v4 ((1 : Int32) <<< (v3 &&& 31)) v2 s) else (F_MD_least_130 K42 v1 v3 v4 (0 : Int32) v2 s)) else ((F_MD_has v2 v5 s).bind fun o4 => if o4.1 = 0 then ((F_MD_may v4 v5 o4.2).bind fun o5 => if o5.1 = 0 then (F_MD_least_112 K42 K59 v1 v2 v3 v4 v5 o5.2) else ((F_MD_leastWith v4 v2 v5 o5.2).bind fun o6 => (ldA o6.2 75 (((128 : Int32) * v4) + v2)).bind fun x7 => if o6.1 = x7 then (F_MD_least_112 K42 K59 v1 v2 v5 v4 v5 o6.2) else (F_MD_least_112 K42 K59 v1 v2 v3 v4 v5 o6.2))) else (F_MD_least_112 K42 K59 v1 v2 v3 v4 v5 o4.2))
def G_MD_least_59 (K42 : Int32 × Int32 × Int32 × St → Option (Int32 × St)) (v1 : Int32) (v2 : Int32) (v4 : Int32) (K59 : Int32 × Int32 × St → Option (Int32 × St)) (q : Int32 × Int32 × St) : Option (Int32 × St) := H_MD_least_59 K42 v1 v2 v4 K59 q.1 q.2.1 q.2.2
def F_MD_least_59 (K42 : Int32 × Int32 × Int32 × St → Option (Int32 × St)) (v1 : Int32) (v2 : Int32) (v3 : Int32) (v4 : Int32) (v5 : Int32) (s : St) : Option (Int32 × St) := fixF (G_MD_least_59 K42 v1 v2 v4) FUEL (v3, v5, s)
def H_MD_least_42 (v1 : Int32) (K42 : Int32 × Int32 × Int32 × St → Option (Int32 × St)) (v2 : Int32) (v3 : Int32) (v4 : Int32) (s : St) : Option (Int32 × St) :=
  if v1 < v4 then (some (v3, s)) else ((some ((rd s 58 9) - (1 : Int32))).bind fun x2 => F_MD_least_59 K42 v1 v2 (-9 : Int32) v4 x2 s)
def G_MD_least_42 (v1 : Int32) (K42 : Int32 × Int32 × Int32 × St → Option (Int32 × St)) (q : Int32 × Int32 × Int32 × St) : Option (Int32 × St) := H_MD_least_42 v1 K42 q.1 q.2.1 q.2.2.1 q.2.2.2
def F_MD_least_42 (v1 : Int32) (v2 : Int32) (v3 : Int32) (v4 : Int32) (s : St) : Option (Int32 × St) := fixF (G_MD_least_42 v1) FUEL (v2, v3, v4, s)
def F_MD_least_19 (v1 : Int32) (s : St) : Option (Int32 × St) :=
  (F_MD_findLeast s).bind fun s1 => if 0 ≤ v1 then (F_MD_least_42 v1 (0 : Int32) (-9 : Int32) (0 : Int32) s1) else ((ldA s1 75 (0 : Int32)).bind fun x8 => some (x8, s1))
def F_MD_least (a1 : Int32) (s : St) : Option (Int32 × St) :=
  if a1 = (-1 : Int32) then (F_MD_least_19 a1 s) else ((F_MD_isPerson a1 s).bind fun o9 => if o9.1 = 0 then ((F_MD_no (-1 : Int32) o9.2).bind fun o10 => some (o10.1, o10.2)) else (F_MD_least_19 a1 o9.2))
def F_MD_monthsIn (a1 : Int32) (a2 : Int32) (a3 : Int32) (s : St) : Option (Int32 × St) :=
  (ldA s 77 (((7 : Int32) * (((128 : Int32) * a1) + a2)) + a3)).bind fun x1 => some (x1, s)
def F_MD_withBrother_69 (z0 : Int32) (z1 : Int32) (s : St) : Option (Int32 × St) :=
  some ((z1 + z0), s)
def F_MD_withBrother_68 (z0 : Int32) (s : St) : Option (Int32 × St) :=
  F_MD_withBrother_69 (0 : Int32) z0 s
def F_MD_withBrother_21 (v1 : Int32) (v3 : Int32) (v4 : Int32) (z0 : Int32) (s : St) : Option (Int32 × St) :=
  (ldA s 65 v4).bind fun x2 => (F_MD_monthsOf v4 v3 s).bind fun o3 => if x2 < 0 then (F_MD_withBrother_68 o3.1 o3.2) else ((F_MD_placeOf x2 o3.2).bind fun o4 => if o4.1 ≤ v1 then (F_MD_withBrother_68 o3.1 o4.2) else ((F_MD_monthsIn (v1 + (1 : Int32)) z0 x2 o4.2).bind fun o5 => F_MD_withBrother_69 o5.1 o3.1 o5.2))
def F_MD_withBrother (a1 : Int32) (a2 : Int32) (a3 : Int32) (s : St) : Option (Int32 × St) :=
  (ldA s 67 a1).bind fun x1 => if 0 ≤ a3 then (F_MD_withBrother_21 a1 a3 x1 (a2 ||| ((1 : Int32) <<< (a3 &&& 31))) s) else (F_MD_withBrother_21 a1 a3 x1 a2 s)
def F_MD_chooses_164 (K113 : Int32 × St → Option (St)) (v1 : Int32) (v2 : Int32) (v3 : Int32) (v4 : Int32) (v5 : Int32) (v6 : Int32) (z0 : Int32) (z1 : Int32) (s : St) : Option (St) :=
  (stA s 77 z1 z0).bind fun s5 => K113 ((v6 + 1), s5)
def H_MD_chooses_113 (v1 : Int32) (v2 : Int32) (v3 : Int32) (v4 : Int32) (v5 : Int32) (K113 : Int32 × St → Option (St)) (v6 : Int32) (s : St) : Option (St) :=
  if (rd s 58 10) ≤ v6 then ((F_MD_monthsOf v3 v4 s).bind fun o3 => (stA o3.2 77 (((7 : Int32) * (((128 : Int32) * v1) + v2)) + v3) o3.1).bind fun s4 => some s4) else (if (rd s 58 10) ≤ (v1 + (1 : Int32)) then (F_MD_chooses_164 K113 v1 v2 v3 v4 v5 v6 (0 : Int32) (((7 : Int32) * (((128 : Int32) * v1) + v2)) + v6) s) else ((F_MD_monthsIn (v1 + (1 : Int32)) v5 v6 s).bind fun o6 => F_MD_chooses_164 K113 v1 v2 v3 v4 v5 v6 o6.1 (((7 : Int32) * (((128 : Int32) * v1) + v2)) + v6) o6.2))
def G_MD_chooses_113 (v1 : Int32) (v2 : Int32) (v3 : Int32) (v4 : Int32) (v5 : Int32) (K113 : Int32 × St → Option (St)) (q : Int32 × St) : Option (St) := H_MD_chooses_113 v1 v2 v3 v4 v5 K113 q.1 q.2
def F_MD_chooses_113 (v1 : Int32) (v2 : Int32) (v3 : Int32) (v4 : Int32) (v5 : Int32) (v6 : Int32) (s : St) : Option (St) := fixF (G_MD_chooses_113 v1 v2 v3 v4 v5) FUEL (v6, s)
def F_MD_chooses_108 (v1 : Int32) (v2 : Int32) (v3 : Int32) (v4 : Int32) (z0 : Int32) (s : St) : Option (St) :=
  F_MD_chooses_113 v1 v2 v3 v4 z0 (0 : Int32) s
def F_MD_chooses_73 (K14 : Int32 × Int32 × St → Option (St)) (v1 : Int32) (v2 : Int32) (v3 : Int32) (v4 : Int32) (v5 : Int32) (s : St) : Option (St) :=
  K14 (v4, (v5 + 1), s)
def F_MD_chooses_69 (K14 : Int32 × Int32 × St → Option (St)) (v1 : Int32) (v2 : Int32) (v3 : Int32) (v5 : Int32) (s : St) : Option (St) :=
  F_MD_chooses_73 K14 v1 v2 v3 v5 v5 s
def H_MD_chooses_14 (v1 : Int32) (v2 : Int32) (v3 : Int32) (K14 : Int32 × Int32 × St → Option (St)) (v4 : Int32) (v5 : Int32) (s : St) : Option (St) :=
  if (rd s 58 9) ≤ v5 then ((stA s 76 (((128 : Int32) * v1) + v2) v4).bind fun s2 => if 0 ≤ v4 then (F_MD_chooses_108 v1 v2 v3 v4 (v2 ||| ((1 : Int32) <<< (v4 &&& 31))) s2) else (F_MD_chooses_108 v1 v2 v3 v4 v2 s2)) else ((F_MD_has v2 v5 s).bind fun o7 => if o7.1 = 0 then ((F_MD_may v3 v5 o7.2).bind fun o8 => if o8.1 = 0 then (F_MD_chooses_73 K14 v1 v2 v3 v4 v5 o8.2) else (if v4 < 0 then (F_MD_chooses_69 K14 v1 v2 v3 v5 o8.2) else ((F_MD_withBrother v1 v2 v5 o8.2).bind fun o9 => (F_MD_withBrother v1 v2 v4 o9.2).bind fun o10 => if o10.1 ≤ o9.1 then (F_MD_chooses_73 K14 v1 v2 v3 v4 v5 o10.2) else (F_MD_chooses_69 K14 v1 v2 v3 v5 o10.2)))) else (F_MD_chooses_73 K14 v1 v2 v3 v4 v5 o7.2))
def G_MD_chooses_14 (v1 : Int32) (v2 : Int32) (v3 : Int32) (K14 : Int32 × Int32 × St → Option (St)) (q : Int32 × Int32 × St) : Option (St) := H_MD_chooses_14 v1 v2 v3 K14 q.1 q.2.1 q.2.2
def F_MD_chooses_14 (v1 : Int32) (v2 : Int32) (v3 : Int32) (v4 : Int32) (v5 : Int32) (s : St) : Option (St) := fixF (G_MD_chooses_14 v1 v2 v3) FUEL (v4, v5, s)
def F_MD_chooses (a1 : Int32) (a2 : Int32) (s : St) : Option (St) :=
  (ldA s 67 a1).bind fun x1 => F_MD_chooses_14 a1 a2 x1 (-9 : Int32) (0 : Int32) s
def F_MD_findFromLast_105 (K42 : Int32 × Int32 × St → Option (St)) (v2 : Int32) (z0 : Int32) (z1 : Int32) (s : St) : Option (St) :=
  (some (z1 ||| z0)).bind fun x9 => K42 (x9, (v2 + 1), s)
def H_MD_findFromLast_42 (K42 : Int32 × Int32 × St → Option (St)) (v1 : Int32) (v2 : Int32) (s : St) : Option (St) :=
  if (rd s 58 10) ≤ v2 then (some s) else ((ldA s 67 v2).bind fun x2 => (ldA s 76 (((128 : Int32) * v2) + v1)).bind fun x3 => (stA s 73 x2 x3).bind fun s4 => (ldA s4 67 v2).bind fun x5 => (ldA s4 73 x5).bind fun x6 => if 0 ≤ x6 then ((ldA s4 67 v2).bind fun x7 => (ldA s4 73 x7).bind fun x8 => F_MD_findFromLast_105 K42 v2 ((1 : Int32) <<< (x8 &&& 31)) v1 s4) else (F_MD_findFromLast_105 K42 v2 (0 : Int32) v1 s4))
def G_MD_findFromLast_42 (K42 : Int32 × Int32 × St → Option (St)) (q : Int32 × Int32 × St) : Option (St) := H_MD_findFromLast_42 K42 q.1 q.2.1 q.2.2
def F_MD_findFromLast_42 (v1 : Int32) (v2 : Int32) (s : St) : Option (St) := fixF (G_MD_findFromLast_42) FUEL (v1, v2, s)
def H_MD_findFromLast_13 (K7 : Int32 × St → Option (St)) (v1 : Int32) (K13 : Int32 × St → Option (St)) (v2 : Int32) (s : St) : Option (St) :=
  if (128 : Int32) ≤ v2 then (K7 ((v1 - 1), s)) else ((F_MD_chooses v1 v2 s).bind fun s10 => K13 ((v2 + 1), s10))
def G_MD_findFromLast_13 (K7 : Int32 × St → Option (St)) (v1 : Int32) (K13 : Int32 × St → Option (St)) (q : Int32 × St) : Option (St) := H_MD_findFromLast_13 K7 v1 K13 q.1 q.2
def F_MD_findFromLast_13 (K7 : Int32 × St → Option (St)) (v1 : Int32) (v2 : Int32) (s : St) : Option (St) := fixF (G_MD_findFromLast_13 K7 v1) FUEL (v2, s)
def H_MD_findFromLast_7 (K7 : Int32 × St → Option (St)) (v1 : Int32) (s : St) : Option (St) :=
  if v1 < 0 then (F_MD_findFromLast_42 (0 : Int32) (0 : Int32) s) else (F_MD_findFromLast_13 K7 v1 (0 : Int32) s)
def G_MD_findFromLast_7 (K7 : Int32 × St → Option (St)) (q : Int32 × St) : Option (St) := H_MD_findFromLast_7 K7 q.1 q.2
def F_MD_findFromLast_7 (v1 : Int32) (s : St) : Option (St) := fixF (G_MD_findFromLast_7) FUEL (v1, s)
def F_MD_findFromLast (s : St) : Option (St) :=
  (some ((rd s 58 10) - (1 : Int32))).bind fun x1 => F_MD_findFromLast_7 x1 s
def F_MD_fromLast_27 (v1 : Int32) (v2 : Int32) (z0 : Int32) (s : St) : Option (Int32 × St) :=
  if z0 = 0 then ((F_MD_findFromLast s).bind fun s3 => if v2 = 0 then ((ldA s3 73 v1).bind fun x5 => some (x5, s3)) else ((F_MD_hasMonths v1 s3).bind fun o4 => some (o4.1, o4.2))) else ((F_MD_no z0 s).bind fun o6 => some (o6.1, o6.2))
def F_MD_fromLast (a1 : Int32) (a2 : Int32) (s : St) : Option (Int32 × St) :=
  (F_MD_isPerson a1 s).bind fun o1 => if o1.1 = 0 then (F_MD_fromLast_27 a1 a2 (-1 : Int32) o1.2) else ((F_MD_isIn a2 (0 : Int32) (1 : Int32) o1.2).bind fun o2 => if o2.1 = 0 then (F_MD_fromLast_27 a1 a2 (-2 : Int32) o2.2) else (F_MD_fromLast_27 a1 a2 (0 : Int32) o2.2))
def F_MD_allFromLast (s : St) : Option (Int32 × St) :=
  (F_MD_findFromLast s).bind fun s1 => (F_MD_allMonths s1).bind fun o2 => some (o2.1, o2.2)
def F_MD_canHaveDone_36 (v1 : Int32) (v2 : Int32) (s : St) : Option (Int32 × St) :=
  (F_MD_may v1 v2 s).bind fun o3 => retZ o3.1 o3.2
def F_MD_canHaveDone (a1 : Int32) (a2 : Int32) (s : St) : Option (Int32 × St) :=
  (ldA s 64 a1).bind fun x1 => if x1 = (7 : Int32) then (some (0, s)) else ((ldA s 64 a1).bind fun x2 => if (rd s 58 9) ≤ x2 then (F_MD_canHaveDone_36 a1 a2 s) else ((ldA s 64 a1).bind fun x4 => if x4 = a2 then (F_MD_canHaveDone_36 a1 a2 s) else (some (0, s))))
def H_MD_waysWith_146 (K146 : Int64 × Int32 × St → Option (Int64 × St)) (v3 : Int64) (v5 : Int32) (s : St) : Option (Int64 × St) :=
  if (128 : Int32) ≤ v5 then (some (v3, s)) else ((ldL s 78 v5).bind fun x1 => (some (v3 + x1)).bind fun x2 => K146 (x2, (v5 + 1), s))
def G_MD_waysWith_146 (K146 : Int64 × Int32 × St → Option (Int64 × St)) (q : Int64 × Int32 × St) : Option (Int64 × St) := H_MD_waysWith_146 K146 q.1 q.2.1 q.2.2
def F_MD_waysWith_146 (v3 : Int64) (v5 : Int32) (s : St) : Option (Int64 × St) := fixF (G_MD_waysWith_146) FUEL (v3, v5, s)
def F_MD_waysWith_114 (K32 : Int32 × St → Option (Int64 × St)) (K44 : Int32 × St → Option (Int64 × St)) (K55 : Int64 × Int32 × St → Option (Int64 × St)) (v1 : Int32) (v2 : Int32) (v3 : Int32) (v4 : Int32) (v5 : Int64) (v7 : Int32) (s : St) : Option (Int64 × St) :=
  K55 (v5, (v7 + 1), s)
def F_MD_waysWith_95 (K32 : Int32 × St → Option (Int64 × St)) (K44 : Int32 × St → Option (Int64 × St)) (K55 : Int64 × Int32 × St → Option (Int64 × St)) (v1 : Int32) (v2 : Int32) (v3 : Int32) (v4 : Int32) (v5 : Int64) (v7 : Int32) (s : St) : Option (Int64 × St) :=
  (ldL s 78 (v4 &&& (((1 : Int32) <<< (v7 &&& 31)) ^^^ (-1 : Int32)))).bind fun x6 => (some (v5 + x6)).bind fun x7 => F_MD_waysWith_114 K32 K44 K55 v1 v2 v3 v4 x7 v7 s
def H_MD_waysWith_55 (K32 : Int32 × St → Option (Int64 × St)) (K44 : Int32 × St → Option (Int64 × St)) (v1 : Int32) (v2 : Int32) (v3 : Int32) (v4 : Int32) (K55 : Int64 × Int32 × St → Option (Int64 × St)) (v5 : Int64) (v7 : Int32) (s : St) : Option (Int64 × St) :=
  if (rd s 58 10) ≤ v7 then ((stL s 78 v4 v5).bind fun s3 => K44 ((v4 - 1), s3)) else ((F_MD_has v4 v7 s).bind fun o4 => if o4.1 = 0 then (F_MD_waysWith_114 K32 K44 K55 v1 v2 v3 v4 v5 v7 o4.2) else ((F_MD_canHaveDone v7 v3 o4.2).bind fun o5 => if o5.1 = 0 then (F_MD_waysWith_114 K32 K44 K55 v1 v2 v3 v4 v5 v7 o5.2) else (if v3 = v2 then (if v7 = v1 then (F_MD_waysWith_95 K32 K44 K55 v1 v2 v3 v4 v5 v7 o5.2) else (F_MD_waysWith_114 K32 K44 K55 v1 v2 v3 v4 v5 v7 o5.2)) else (F_MD_waysWith_95 K32 K44 K55 v1 v2 v3 v4 v5 v7 o5.2))))
def G_MD_waysWith_55 (K32 : Int32 × St → Option (Int64 × St)) (K44 : Int32 × St → Option (Int64 × St)) (v1 : Int32) (v2 : Int32) (v3 : Int32) (v4 : Int32) (K55 : Int64 × Int32 × St → Option (Int64 × St)) (q : Int64 × Int32 × St) : Option (Int64 × St) := H_MD_waysWith_55 K32 K44 v1 v2 v3 v4 K55 q.1 q.2.1 q.2.2
def F_MD_waysWith_55 (K32 : Int32 × St → Option (Int64 × St)) (K44 : Int32 × St → Option (Int64 × St)) (v1 : Int32) (v2 : Int32) (v3 : Int32) (v4 : Int32) (v5 : Int64) (v7 : Int32) (s : St) : Option (Int64 × St) := fixF (G_MD_waysWith_55 K32 K44 v1 v2 v3 v4) FUEL (v5, v7, s)
def H_MD_waysWith_44 (K32 : Int32 × St → Option (Int64 × St)) (v1 : Int32) (v2 : Int32) (v3 : Int32) (K44 : Int32 × St → Option (Int64 × St)) (v4 : Int32) (s : St) : Option (Int64 × St) :=
  if v4 < 0 then (K32 ((v3 + 1), s)) else (F_MD_waysWith_55 K32 K44 v1 v2 v3 v4 (0 : Int64) (0 : Int32) s)
def G_MD_waysWith_44 (K32 : Int32 × St → Option (Int64 × St)) (v1 : Int32) (v2 : Int32) (v3 : Int32) (K44 : Int32 × St → Option (Int64 × St)) (q : Int32 × St) : Option (Int64 × St) := H_MD_waysWith_44 K32 v1 v2 v3 K44 q.1 q.2
def F_MD_waysWith_44 (K32 : Int32 × St → Option (Int64 × St)) (v1 : Int32) (v2 : Int32) (v3 : Int32) (v4 : Int32) (s : St) : Option (Int64 × St) := fixF (G_MD_waysWith_44 K32 v1 v2 v3) FUEL (v4, s)
def H_MD_waysWith_32 (v1 : Int32) (v2 : Int32) (K32 : Int32 × St → Option (Int64 × St)) (v3 : Int32) (s : St) : Option (Int64 × St) :=
  if (rd s 58 9) ≤ v3 then (F_MD_waysWith_146 (0 : Int64) (0 : Int32) s) else (F_MD_waysWith_44 K32 v1 v2 v3 (127 : Int32) s)
def G_MD_waysWith_32 (v1 : Int32) (v2 : Int32) (K32 : Int32 × St → Option (Int64 × St)) (q : Int32 × St) : Option (Int64 × St) := H_MD_waysWith_32 v1 v2 K32 q.1 q.2
def F_MD_waysWith_32 (v1 : Int32) (v2 : Int32) (v3 : Int32) (s : St) : Option (Int64 × St) := fixF (G_MD_waysWith_32 v1 v2) FUEL (v3, s)
def F_MD_waysWith_23 (K2 : Int32 × St → Option (Int64 × St)) (v1 : Int32) (v2 : Int32) (v3 : Int32) (z0 : Int64) (z1 : Int32) (s : St) : Option (Int64 × St) :=
  (stL s 78 z1 z0).bind fun s8 => K2 ((v3 + 1), s8)
def H_MD_waysWith_2 (v1 : Int32) (v2 : Int32) (K2 : Int32 × St → Option (Int64 × St)) (v3 : Int32) (s : St) : Option (Int64 × St) :=
  if (128 : Int32) ≤ v3 then (F_MD_waysWith_32 v1 v2 (0 : Int32) s) else (if v3 = 0 then (F_MD_waysWith_23 K2 v1 v2 v3 (1 : Int64) v3 s) else (F_MD_waysWith_23 K2 v1 v2 v3 (0 : Int64) v3 s))
def G_MD_waysWith_2 (v1 : Int32) (v2 : Int32) (K2 : Int32 × St → Option (Int64 × St)) (q : Int32 × St) : Option (Int64 × St) := H_MD_waysWith_2 v1 v2 K2 q.1 q.2
def F_MD_waysWith_2 (v1 : Int32) (v2 : Int32) (v3 : Int32) (s : St) : Option (Int64 × St) := fixF (G_MD_waysWith_2 v1 v2) FUEL (v3, s)
def F_MD_waysWith (a1 : Int32) (a2 : Int32) (s : St) : Option (Int64 × St) :=
  F_MD_waysWith_2 a1 a2 (0 : Int32) s
def F_MD_whose_26 (s : St) : Option (Int64 × St) :=
  (F_MD_lowest (-1 : Int32) s).bind fun o2 => some (o2.1, o2.2)
def F_MD_whose_32 (v1 : Int32) (v2 : Int32) (s : St) : Option (Int64 × St) :=
  (F_MD_waysWith v1 v2 s).bind fun o4 => some (o4.1, o4.2)
def F_MD_whose_10 (v1 : Int32) (v2 : Int32) (s : St) : Option (Int64 × St) :=
  (F_MD_isPerson v1 s).bind fun o1 => if o1.1 = 0 then (F_MD_whose_26 o1.2) else ((F_MD_isDeed v2 o1.2).bind fun o3 => if o3.1 = 0 then (F_MD_whose_26 o3.2) else (F_MD_whose_32 v1 v2 o3.2))
def F_MD_whose (a1 : Int32) (a2 : Int32) (s : St) : Option (Int64 × St) :=
  if a1 = (-1 : Int32) then (if a2 = (-1 : Int32) then (F_MD_whose_32 a1 a2 s) else (F_MD_whose_10 a1 a2 s)) else (F_MD_whose_10 a1 a2 s)
def F_MD_keyBy (a1 : Int32) (a2 : Int32) (s : St) : Option (Int32 × St) :=
  (ldA s 67 a2).bind fun x1 => if a1 = 1 then ((ldA s 62 x1).bind fun x2 => some ((((10 : Int32) * x2) + x1), s)) else if a1 = 2 then ((ldA s 62 x1).bind fun x3 => some ((((-10 : Int32) * x3) + x1), s)) else if a1 = 3 then ((ldA s 64 x1).bind fun x4 => if x4 = (7 : Int32) then (some (((10 : Int32) + x1), s)) else (some (x1, s))) else if a1 = 4 then ((ldA s 64 x1).bind fun x5 => if x5 = (7 : Int32) then (some (x1, s)) else (some (((10 : Int32) + x1), s))) else (some (a2, s))
def F_MD_sortsBy_76 (K2 : Int32 × St → Option (St)) (v1 : Int32) (v2 : Int32) (v3 : Int32) (v4 : Int32) (s : St) : Option (St) :=
  (stA s 79 v4 v3).bind fun s2 => (ldA s2 67 v2).bind fun x3 => (stA s2 74 v4 x3).bind fun s4 => K2 ((v2 + 1), s4)
def H_MD_sortsBy_20 (K2 : Int32 × St → Option (St)) (v1 : Int32) (v2 : Int32) (v3 : Int32) (K20 : Int32 × St → Option (St)) (v4 : Int32) (s : St) : Option (St) :=
  if v4 ≤ 0 then (F_MD_sortsBy_76 K2 v1 v2 v3 v4 s) else ((ldA s 79 (v4 - (1 : Int32))).bind fun x5 => if x5 ≤ v3 then (F_MD_sortsBy_76 K2 v1 v2 v3 v4 s) else ((ldA s 79 (v4 - (1 : Int32))).bind fun x6 => (stA s 79 v4 x6).bind fun s7 => (ldA s7 74 (v4 - (1 : Int32))).bind fun x8 => (stA s7 74 v4 x8).bind fun s9 => K20 ((v4 - 1), s9)))
def G_MD_sortsBy_20 (K2 : Int32 × St → Option (St)) (v1 : Int32) (v2 : Int32) (v3 : Int32) (K20 : Int32 × St → Option (St)) (q : Int32 × St) : Option (St) := H_MD_sortsBy_20 K2 v1 v2 v3 K20 q.1 q.2
def F_MD_sortsBy_20 (K2 : Int32 × St → Option (St)) (v1 : Int32) (v2 : Int32) (v3 : Int32) (v4 : Int32) (s : St) : Option (St) := fixF (G_MD_sortsBy_20 K2 v1 v2 v3) FUEL (v4, s)
def H_MD_sortsBy_2 (v1 : Int32) (K2 : Int32 × St → Option (St)) (v2 : Int32) (s : St) : Option (St) :=
  if (rd s 58 10) ≤ v2 then (some s) else ((F_MD_keyBy v1 v2 s).bind fun o1 => F_MD_sortsBy_20 K2 v1 v2 o1.1 v2 o1.2)
def G_MD_sortsBy_2 (v1 : Int32) (K2 : Int32 × St → Option (St)) (q : Int32 × St) : Option (St) := H_MD_sortsBy_2 v1 K2 q.1 q.2
def F_MD_sortsBy_2 (v1 : Int32) (v2 : Int32) (s : St) : Option (St) := fixF (G_MD_sortsBy_2 v1) FUEL (v2, s)
def F_MD_sortsBy (a1 : Int32) (s : St) : Option (St) :=
  F_MD_sortsBy_2 a1 (0 : Int32) s
def F_MD_monthsBy (a1 : Int32) (s : St) : Option (Int32 × St) :=
  (F_MD_sortsBy a1 s).bind fun s1 => (F_MD_goesBy s1).bind fun s2 => (F_MD_allMonths s2).bind fun o3 => some (o3.1, o3.2)
def F_MD_unfair_62 (K2 : Int32 × St → Option (Int32 × St)) (K12 : Int32 × St → Option (Int32 × St)) (v1 : Int32) (v2 : Int32) (s : St) : Option (Int32 × St) :=
  K12 ((v2 + 1), s)
def H_MD_unfair_12 (K2 : Int32 × St → Option (Int32 × St)) (v1 : Int32) (K12 : Int32 × St → Option (Int32 × St)) (v2 : Int32) (s : St) : Option (Int32 × St) :=
  if (rd s 58 10) ≤ v2 then (K2 ((v1 + 1), s)) else ((ldA s 64 v1).bind fun x1 => if x1 = (7 : Int32) then ((ldA s 64 v2).bind fun x2 => if x2 = (7 : Int32) then (F_MD_unfair_62 K2 K12 v1 v2 s) else ((F_MD_hasMonths v1 s).bind fun o3 => (F_MD_hasMonths v2 o3.2).bind fun o4 => if o3.1 ≤ o4.1 then (F_MD_unfair_62 K2 K12 v1 v2 o4.2) else (some ((((10 : Int32) * v1) + v2), o4.2)))) else (F_MD_unfair_62 K2 K12 v1 v2 s))
def G_MD_unfair_12 (K2 : Int32 × St → Option (Int32 × St)) (v1 : Int32) (K12 : Int32 × St → Option (Int32 × St)) (q : Int32 × St) : Option (Int32 × St) := H_MD_unfair_12 K2 v1 K12 q.1 q.2
def F_MD_unfair_12 (K2 : Int32 × St → Option (Int32 × St)) (v1 : Int32) (v2 : Int32) (s : St) : Option (Int32 × St) := fixF (G_MD_unfair_12 K2 v1) FUEL (v2, s)
def H_MD_unfair_2 (K2 : Int32 × St → Option (Int32 × St)) (v1 : Int32) (s : St) : Option (Int32 × St) :=
  if (rd s 58 10) ≤ v1 then (some ((-9 : Int32), s)) else (F_MD_unfair_12 K2 v1 (0 : Int32) s)
def G_MD_unfair_2 (K2 : Int32 × St → Option (Int32 × St)) (q : Int32 × St) : Option (Int32 × St) := H_MD_unfair_2 K2 q.1 q.2
def F_MD_unfair_2 (v1 : Int32) (s : St) : Option (Int32 × St) := fixF (G_MD_unfair_2) FUEL (v1, s)
def F_MD_unfair (s : St) : Option (Int32 × St) :=
  F_MD_unfair_2 (0 : Int32) s
def F_MD_rule_18 (s : St) : Option (Int32 × St) :=
  (F_MD_no (-2 : Int32) s).bind fun o2 => some (o2.1, o2.2)
def F_MD_rule (a1 : Int32) (a2 : Int32) (s : St) : Option (Int32 × St) :=
  (F_MD_isIn a1 (0 : Int32) (4 : Int32) s).bind fun o1 => if o1.1 = 0 then (F_MD_rule_18 o1.2) else ((F_MD_isIn a2 (0 : Int32) (1 : Int32) o1.2).bind fun o3 => if o3.1 = 0 then (F_MD_rule_18 o3.2) else ((F_MD_monthsBy a1 o3.2).bind fun o4 => if a2 = 0 then (some (o4.1, o4.2)) else ((F_MD_unfair o4.2).bind fun o5 => some (o5.1, o5.2))))
def F_MD_bestRule_27 (K4 : Int32 × Int32 × St → Option (Int32 × St)) (v2 : Int32) (z0 : Int32) (s : St) : Option (Int32 × St) :=
  K4 (z0, (v2 + 1), s)
def H_MD_bestRule_4 (K4 : Int32 × Int32 × St → Option (Int32 × St)) (v1 : Int32) (v2 : Int32) (s : St) : Option (Int32 × St) :=
  if (5 : Int32) ≤ v2 then (some (v1, s)) else ((F_MD_monthsBy v2 s).bind fun o1 => (F_MD_monthsBy v1 o1.2).bind fun o2 => if o2.1 ≤ o1.1 then (F_MD_bestRule_27 K4 v2 v1 o2.2) else (F_MD_bestRule_27 K4 v2 v2 o2.2))
def G_MD_bestRule_4 (K4 : Int32 × Int32 × St → Option (Int32 × St)) (q : Int32 × Int32 × St) : Option (Int32 × St) := H_MD_bestRule_4 K4 q.1 q.2.1 q.2.2
def F_MD_bestRule_4 (v1 : Int32) (v2 : Int32) (s : St) : Option (Int32 × St) := fixF (G_MD_bestRule_4) FUEL (v1, v2, s)
def F_MD_bestRule (s : St) : Option (Int32 × St) :=
  F_MD_bestRule_4 (0 : Int32) (1 : Int32) s
def F_MD_monthsAt_55 (K5 : Int32 × Int32 × St → Option (Int32 × St)) (v1 : Int32) (v2 : Int32) (v3 : Int32) (v4 : Int32) (s : St) : Option (Int32 × St) :=
  K5 (v3, (v4 + 1), s)
def F_MD_monthsAt_44 (K5 : Int32 × Int32 × St → Option (Int32 × St)) (v1 : Int32) (v2 : Int32) (v3 : Int32) (v4 : Int32) (z0 : Int32) (s : St) : Option (Int32 × St) :=
  (ldA s 67 v4).bind fun x5 => (stA s 74 z0 x5).bind fun s6 => F_MD_monthsAt_55 K5 v1 v2 (v3 + 1) v4 s6
def H_MD_monthsAt_5 (v1 : Int32) (v2 : Int32) (K5 : Int32 × Int32 × St → Option (Int32 × St)) (v3 : Int32) (v4 : Int32) (s : St) : Option (Int32 × St) :=
  if (rd s 58 10) ≤ v4 then ((stA s 74 v2 v1).bind fun s1 => (F_MD_goesBy s1).bind fun s2 => (F_MD_hasMonths v1 s2).bind fun o3 => some (o3.1, o3.2)) else ((ldA s 67 v4).bind fun x4 => if x4 = v1 then (F_MD_monthsAt_55 K5 v1 v2 v3 v4 s) else (if v2 ≤ v3 then (F_MD_monthsAt_44 K5 v1 v2 v3 v4 (v3 + (1 : Int32)) s) else (F_MD_monthsAt_44 K5 v1 v2 v3 v4 v3 s)))
def G_MD_monthsAt_5 (v1 : Int32) (v2 : Int32) (K5 : Int32 × Int32 × St → Option (Int32 × St)) (q : Int32 × Int32 × St) : Option (Int32 × St) := H_MD_monthsAt_5 v1 v2 K5 q.1 q.2.1 q.2.2
def F_MD_monthsAt_5 (v1 : Int32) (v2 : Int32) (v3 : Int32) (v4 : Int32) (s : St) : Option (Int32 × St) := fixF (G_MD_monthsAt_5 v1 v2) FUEL (v3, v4, s)
def F_MD_monthsAt (a1 : Int32) (a2 : Int32) (s : St) : Option (Int32 × St) :=
  F_MD_monthsAt_5 a1 a2 (0 : Int32) (0 : Int32) s
def F_MD_placeWorth (a1 : Int32) (s : St) : Option (Int32 × St) :=
  (F_MD_isPerson a1 s).bind fun o1 => if o1.1 = 0 then ((F_MD_lower (-1 : Int32) o1.2).bind fun o4 => some (o4.1, o4.2)) else ((F_MD_monthsAt a1 ((rd o1.2 58 10) - (1 : Int32)) o1.2).bind fun o2 => (F_MD_monthsAt a1 (0 : Int32) o2.2).bind fun o3 => some ((o2.1 - o3.1), o3.2))
def F_MD_areBetter_88 (s : St) : Option (Int32 × St) :=
  some (0, s)
def F_MD_areBetter (a1 : Int32) (a2 : Int32) (s : St) : Option (Int32 × St) :=
  (F_MD_goes s).bind fun s1 => (F_MD_hasMonths a1 s1).bind fun o2 => (F_MD_hasMonths a2 o2.2).bind fun o3 => (F_MD_asItIs o3.2).bind fun s4 => (F_MD_placeOf a1 s4).bind fun o5 => (stA o5.2 74 o5.1 a2).bind fun s6 => (F_MD_placeOf a2 s6).bind fun o7 => (stA o7.2 74 o7.1 a1).bind fun s8 => (F_MD_goesBy s8).bind fun s9 => (F_MD_hasMonths a1 s9).bind fun o10 => if o2.1 < o10.1 then (F_MD_areBetter_88 o10.2) else ((F_MD_hasMonths a2 o10.2).bind fun o11 => if o3.1 < o11.1 then (F_MD_areBetter_88 o11.2) else ((F_MD_hasMonths a1 o11.2).bind fun o12 => (F_MD_hasMonths a2 o12.2).bind fun o13 => if (o2.1 + o3.1) ≤ (o12.1 + o13.1) then (F_MD_areBetter_88 o13.2) else (some (1, o13.2))))
def H_MD_changes_14 (K2 : Int32 × St → Option (Int32 × St)) (v1 : Int32) (K14 : Int32 × St → Option (Int32 × St)) (v2 : Int32) (s : St) : Option (Int32 × St) :=
  if (rd s 58 10) ≤ v2 then (K2 ((v1 + 1), s)) else ((F_MD_areBetter v1 v2 s).bind fun o2 => if o2.1 = 0 then (K14 ((v2 + 1), o2.2)) else (some ((((10 : Int32) * v1) + v2), o2.2)))
def G_MD_changes_14 (K2 : Int32 × St → Option (Int32 × St)) (v1 : Int32) (K14 : Int32 × St → Option (Int32 × St)) (q : Int32 × St) : Option (Int32 × St) := H_MD_changes_14 K2 v1 K14 q.1 q.2
def F_MD_changes_14 (K2 : Int32 × St → Option (Int32 × St)) (v1 : Int32) (v2 : Int32) (s : St) : Option (Int32 × St) := fixF (G_MD_changes_14 K2 v1) FUEL (v2, s)
def H_MD_changes_2 (K2 : Int32 × St → Option (Int32 × St)) (v1 : Int32) (s : St) : Option (Int32 × St) :=
  if (rd s 58 10) ≤ v1 then (some ((-9 : Int32), s)) else ((some (v1 + (1 : Int32))).bind fun x1 => F_MD_changes_14 K2 v1 x1 s)
def G_MD_changes_2 (K2 : Int32 × St → Option (Int32 × St)) (q : Int32 × St) : Option (Int32 × St) := H_MD_changes_2 K2 q.1 q.2
def F_MD_changes_2 (v1 : Int32) (s : St) : Option (Int32 × St) := fixF (G_MD_changes_2) FUEL (v1, s)
def F_MD_changes (s : St) : Option (Int32 × St) :=
  F_MD_changes_2 (0 : Int32) s
def H_MD_laysOrder_12 (K12 : Int32 × Int32 × Int32 × St → Option (Int32 × St)) (v2 : Int32) (v3 : Int32) (v4 : Int32) (s : St) : Option (Int32 × St) :=
  if v4 < 0 then (if v3 = (((1 : Int32) <<< ((rd s 58 10) &&& 31)) - (1 : Int32)) then (some (1, s)) else (some (0, s))) else (if (rd s 58 10) = 0 then none else (stA s 74 v4 (v2 - v2 / (rd s 58 10) * (rd s 58 10))).bind fun s2 => if (rd s2 58 10) = 0 then none else (some (v2 / (rd s2 58 10))).bind fun x3 => (ldA s2 74 v4).bind fun x4 => (some (v3 ||| ((1 : Int32) <<< (x4 &&& 31)))).bind fun x5 => K12 (x3, x5, (v4 - 1), s2))
def G_MD_laysOrder_12 (K12 : Int32 × Int32 × Int32 × St → Option (Int32 × St)) (q : Int32 × Int32 × Int32 × St) : Option (Int32 × St) := H_MD_laysOrder_12 K12 q.1 q.2.1 q.2.2.1 q.2.2.2
def F_MD_laysOrder_12 (v2 : Int32) (v3 : Int32) (v4 : Int32) (s : St) : Option (Int32 × St) := fixF (G_MD_laysOrder_12) FUEL (v2, v3, v4, s)
def F_MD_laysOrder (a1 : Int32) (s : St) : Option (Int32 × St) :=
  (some ((rd s 58 10) - (1 : Int32))).bind fun x1 => F_MD_laysOrder_12 a1 (0 : Int32) x1 s
def H_MD_numbers_4 (K4 : Int32 × Int32 × St → Option (Int32 × St)) (v1 : Int32) (v2 : Int32) (s : St) : Option (Int32 × St) :=
  if (rd s 58 10) ≤ v2 then (some (v1, s)) else ((some (v1 * (rd s 58 10))).bind fun x1 => K4 (x1, (v2 + 1), s))
def G_MD_numbers_4 (K4 : Int32 × Int32 × St → Option (Int32 × St)) (q : Int32 × Int32 × St) : Option (Int32 × St) := H_MD_numbers_4 K4 q.1 q.2.1 q.2.2
def F_MD_numbers_4 (v1 : Int32) (v2 : Int32) (s : St) : Option (Int32 × St) := fixF (G_MD_numbers_4) FUEL (v1, v2, s)
def F_MD_numbers (s : St) : Option (Int32 × St) :=
  F_MD_numbers_4 (1 : Int32) (0 : Int32) s
def H_MD_keepsFound_2 (v1 : Int32) (K2 : Int32 × St → Option (St)) (v2 : Int32) (s : St) : Option (St) :=
  if (rd s 58 10) ≤ v2 then ((some (wr s 58 33 v1)).bind fun s1 => some s1) else ((ldA s 74 v2).bind fun x2 => (stA s 80 v2 x2).bind fun s3 => K2 ((v2 + 1), s3))
def G_MD_keepsFound_2 (v1 : Int32) (K2 : Int32 × St → Option (St)) (q : Int32 × St) : Option (St) := H_MD_keepsFound_2 v1 K2 q.1 q.2
def F_MD_keepsFound_2 (v1 : Int32) (v2 : Int32) (s : St) : Option (St) := fixF (G_MD_keepsFound_2 v1) FUEL (v2, s)
def F_MD_keepsFound (a1 : Int32) (s : St) : Option (St) :=
  F_MD_keepsFound_2 a1 (0 : Int32) s
def F_MD_foundOr (a1 : Int32) (s : St) : Option (Int32 × St) :=
  if 0 ≤ a1 then (if (rd s 58 10) ≤ a1 then (some ((-9 : Int32), s)) else ((ldA s 80 a1).bind fun x1 => some (x1, s))) else (some ((rd s 58 33), s))
def F_MD_notFew (a1 : Int32) (s : St) : Option (Int32 × St) :=
  if (rd s 58 10) ≤ (5 : Int32) then (if (-1 : Int32) ≤ a1 then (some ((0 : Int32), s)) else (some ((-4 : Int32), s))) else (some ((-3 : Int32), s))
def F_MD_greatest_30 (K4 : Int32 × Int32 × St → Option (Int32 × St)) (v2 : Int32) (z0 : Int32) (s : St) : Option (Int32 × St) :=
  K4 (z0, (v2 + 1), s)
def H_MD_greatest_4 (K4 : Int32 × Int32 × St → Option (Int32 × St)) (v1 : Int32) (v2 : Int32) (s : St) : Option (Int32 × St) :=
  if (rd s 58 10) ≤ v2 then (some (v1, s)) else ((F_MD_hasMonths v2 s).bind fun o1 => if o1.1 ≤ v1 then (F_MD_greatest_30 K4 v2 v1 o1.2) else ((F_MD_hasMonths v2 o1.2).bind fun o2 => F_MD_greatest_30 K4 v2 o2.1 o2.2))
def G_MD_greatest_4 (K4 : Int32 × Int32 × St → Option (Int32 × St)) (q : Int32 × Int32 × St) : Option (Int32 × St) := H_MD_greatest_4 K4 q.1 q.2.1 q.2.2
def F_MD_greatest_4 (v1 : Int32) (v2 : Int32) (s : St) : Option (Int32 × St) := fixF (G_MD_greatest_4) FUEL (v1, v2, s)
def F_MD_greatest (s : St) : Option (Int32 × St) :=
  F_MD_greatest_4 (0 : Int32) (0 : Int32) s
def F_MD_findOrder_60 (K8 : Int32 × St → Option (St)) (v1 : Int32) (v2 : Int32) (s : St) : Option (St) :=
  K8 ((v2 + 1), s)
def F_MD_findOrder_46 (K8 : Int32 × St → Option (St)) (v1 : Int32) (v2 : Int32) (z0 : Int32) (s : St) : Option (St) :=
  if (rd s 58 33) ≤ z0 then (F_MD_findOrder_60 K8 v1 v2 s) else ((F_MD_keepsFound z0 s).bind fun s6 => F_MD_findOrder_60 K8 v1 v2 s6)
def H_MD_findOrder_8 (v1 : Int32) (K8 : Int32 × St → Option (St)) (v2 : Int32) (s : St) : Option (St) :=
  (F_MD_numbers s).bind fun o2 => if o2.1 ≤ v2 then (some o2.2) else ((F_MD_laysOrder v2 o2.2).bind fun o3 => if o3.1 = 0 then (F_MD_findOrder_60 K8 v1 v2 o3.2) else ((F_MD_goesBy o3.2).bind fun s4 => if v1 = 0 then ((F_MD_allMonths s4).bind fun o5 => F_MD_findOrder_46 K8 v1 v2 o5.1 o5.2) else ((F_MD_greatest s4).bind fun o7 => F_MD_findOrder_46 K8 v1 v2 o7.1 o7.2)))
def G_MD_findOrder_8 (v1 : Int32) (K8 : Int32 × St → Option (St)) (q : Int32 × St) : Option (St) := H_MD_findOrder_8 v1 K8 q.1 q.2
def F_MD_findOrder_8 (v1 : Int32) (v2 : Int32) (s : St) : Option (St) := fixF (G_MD_findOrder_8 v1) FUEL (v2, s)
def F_MD_findOrder (a1 : Int32) (s : St) : Option (St) :=
  (some (wr s 58 33 (1000000000 : Int32))).bind fun s1 => F_MD_findOrder_8 a1 (0 : Int32) s1
def F_MD_bestOrder (a1 : Int32) (s : St) : Option (Int32 × St) :=
  (F_MD_notFew a1 s).bind fun o1 => if o1.1 = 0 then ((F_MD_findOrder (0 : Int32) o1.2).bind fun s2 => (F_MD_foundOr a1 s2).bind fun o3 => some (o3.1, o3.2)) else ((F_MD_no o1.1 o1.2).bind fun o4 => some (o4.1, o4.2))
def F_MD_even (a1 : Int32) (s : St) : Option (Int32 × St) :=
  (F_MD_notFew a1 s).bind fun o1 => if o1.1 = 0 then ((F_MD_findOrder (1 : Int32) o1.2).bind fun s2 => (F_MD_foundOr a1 s2).bind fun o3 => some (o3.1, o3.2)) else ((F_MD_no o1.1 o1.2).bind fun o4 => some (o4.1, o4.2))
def F_MD_putIn_99 (v2 : Int32) (v4 : Int32) (v5 : Int32) (v6 : Int32) (z0 : Int32) (s : St) : Option (Int32 × St) :=
  (some (wr s 58 9 v4)).bind fun s6 => (some (wr s6 58 23 (7 : Int32))).bind fun s7 => if z0 = 0 then (some ((-9 : Int32), s7)) else (if v2 = 0 then (some (v5, s7)) else (some (v6, s7)))
def F_MD_putIn_87 (v2 : Int32) (v4 : Int32) (v5 : Int32) (v6 : Int32) (s : St) : Option (Int32 × St) :=
  (F_MD_firstWithout s).bind fun o5 => if 0 ≤ o5.1 then (F_MD_putIn_99 v2 v4 v5 v6 (0 : Int32) o5.2) else (F_MD_putIn_99 v2 v4 v5 v6 (1 : Int32) o5.2)
def H_MD_putIn_55 (v1 : Int32) (v2 : Int32) (v4 : Int32) (K55 : Int32 × Int32 × St → Option (Int32 × St)) (v5 : Int32) (v6 : Int32) (s : St) : Option (Int32 × St) :=
  if (7 : Int32) ≤ v5 then (F_MD_putIn_87 v2 v4 v5 v6 s) else ((F_MD_firstWithout s).bind fun o8 => if o8.1 < 0 then (F_MD_putIn_87 v2 v4 v5 v6 o8.2) else ((F_MD_addsDeed (5 : Int32) v1 o8.2).bind fun s9 => (F_MD_monthsNow s9).bind fun o10 => K55 ((v5 + 1), o10.1, o10.2)))
def G_MD_putIn_55 (v1 : Int32) (v2 : Int32) (v4 : Int32) (K55 : Int32 × Int32 × St → Option (Int32 × St)) (q : Int32 × Int32 × St) : Option (Int32 × St) := H_MD_putIn_55 v1 v2 v4 K55 q.1 q.2.1 q.2.2
def F_MD_putIn_55 (v1 : Int32) (v2 : Int32) (v4 : Int32) (v5 : Int32) (v6 : Int32) (s : St) : Option (Int32 × St) := fixF (G_MD_putIn_55 v1 v2 v4) FUEL (v5, v6, s)
def F_MD_putIn_24 (v1 : Int32) (v2 : Int32) (v3 : Int32) (s : St) : Option (Int32 × St) :=
  if v3 = 0 then ((some (rd s 58 9)).bind fun x2 => (some (wr s 58 23 x2)).bind fun s3 => (F_MD_monthsNow s3).bind fun o4 => F_MD_putIn_55 v1 v2 x2 (0 : Int32) o4.1 o4.2) else ((F_MD_no v3 s).bind fun o11 => some (o11.1, o11.2))
def F_MD_putIn (a1 : Int32) (a2 : Int32) (s : St) : Option (Int32 × St) :=
  (F_MD_bound a1 (0 : Int32) (9 : Int32) s).bind fun o1 => if o1.1 = 0 then ((F_MD_isIn a2 (0 : Int32) (1 : Int32) o1.2).bind fun o12 => if o12.1 = 0 then (F_MD_putIn_24 a1 a2 (-2 : Int32) o12.2) else (F_MD_putIn_24 a1 a2 o1.1 o12.2)) else (F_MD_putIn_24 a1 a2 o1.1 o1.2)
def F_MD_setMonths_30 (K4 : Int32 × Int32 × St → Option (Int32 × St)) (v1 : Int32) (v3 : Int32) (z0 : Int32) (z1 : Int32) (s : St) : Option (Int32 × St) :=
  (some (z1 + z0)).bind fun x2 => K4 (x2, (v3 + 1), s)
def H_MD_setMonths_4 (v1 : Int32) (K4 : Int32 × Int32 × St → Option (Int32 × St)) (v2 : Int32) (v3 : Int32) (s : St) : Option (Int32 × St) :=
  if (rd s 58 10) ≤ v3 then (some (v2, s)) else ((F_MD_has v1 v3 s).bind fun o1 => if o1.1 = 0 then (F_MD_setMonths_30 K4 v1 v3 (0 : Int32) v2 o1.2) else ((F_MD_hasMonths v3 o1.2).bind fun o3 => F_MD_setMonths_30 K4 v1 v3 o3.1 v2 o3.2))
def G_MD_setMonths_4 (v1 : Int32) (K4 : Int32 × Int32 × St → Option (Int32 × St)) (q : Int32 × Int32 × St) : Option (Int32 × St) := H_MD_setMonths_4 v1 K4 q.1 q.2.1 q.2.2
def F_MD_setMonths_4 (v1 : Int32) (v2 : Int32) (v3 : Int32) (s : St) : Option (Int32 × St) := fixF (G_MD_setMonths_4 v1) FUEL (v2, v3, s)
def F_MD_setMonths (a1 : Int32) (s : St) : Option (Int32 × St) :=
  F_MD_setMonths_4 a1 (0 : Int32) (0 : Int32) s
def F_MD_fewestOf_216 (K38 : Int32 × St → Option (Int32 × St)) (K52 : Int32 × St → Option (Int32 × St)) (v1 : Int32) (v2 : Int32) (v3 : Int32) (v4 : Int32) (v6 : Int32) (s : St) : Option (Int32 × St) :=
  (stA s 75 (((128 : Int32) * v2) + v4) v6).bind fun s8 => K52 ((v4 + 1), s8)
def F_MD_fewestOf_210 (K38 : Int32 × St → Option (Int32 × St)) (K52 : Int32 × St → Option (Int32 × St)) (K124 : Int32 × Int32 × St → Option (Int32 × St)) (v1 : Int32) (v2 : Int32) (v3 : Int32) (v4 : Int32) (v6 : Int32) (v7 : Int32) (s : St) : Option (Int32 × St) :=
  K124 (v6, (v7 + 1), s)
def F_MD_fewestOf_208 (K38 : Int32 × St → Option (Int32 × St)) (K52 : Int32 × St → Option (Int32 × St)) (K124 : Int32 × Int32 × St → Option (Int32 × St)) (v1 : Int32) (v2 : Int32) (v3 : Int32) (v4 : Int32) (v7 : Int32) (z0 : Int32) (s : St) : Option (Int32 × St) :=
  F_MD_fewestOf_210 K38 K52 K124 v1 v2 v3 v4 z0 v7 s
def H_MD_fewestOf_124 (K38 : Int32 × St → Option (Int32 × St)) (K52 : Int32 × St → Option (Int32 × St)) (v1 : Int32) (v2 : Int32) (v3 : Int32) (v4 : Int32) (K124 : Int32 × Int32 × St → Option (Int32 × St)) (v6 : Int32) (v7 : Int32) (s : St) : Option (Int32 × St) :=
  if (rd s 58 9) ≤ v7 then (F_MD_fewestOf_216 K38 K52 v1 v2 v3 v4 v6 s) else ((F_MD_has v1 v3 s).bind fun o9 => if o9.1 = 0 then (F_MD_fewestOf_216 K38 K52 v1 v2 v3 v4 v6 o9.2) else ((F_MD_has v4 v7 o9.2).bind fun o10 => if o10.1 = 0 then ((F_MD_may v3 v7 o10.2).bind fun o11 => if o11.1 = 0 then (F_MD_fewestOf_210 K38 K52 K124 v1 v2 v3 v4 v6 v7 o11.2) else ((F_MD_monthsOf v3 v7 o11.2).bind fun o12 => (ldA o12.2 75 (((128 : Int32) * (v2 + (1 : Int32))) + (v4 ||| ((1 : Int32) <<< (v7 &&& 31))))).bind fun x13 => (some (o12.1 + x13)).bind fun x14 => if v6 ≤ x14 then (F_MD_fewestOf_208 K38 K52 K124 v1 v2 v3 v4 v7 v6 o12.2) else (F_MD_fewestOf_208 K38 K52 K124 v1 v2 v3 v4 v7 x14 o12.2))) else (F_MD_fewestOf_210 K38 K52 K124 v1 v2 v3 v4 v6 v7 o10.2)))
def G_MD_fewestOf_124 (K38 : Int32 × St → Option (Int32 × St)) (K52 : Int32 × St → Option (Int32 × St)) (v1 : Int32) (v2 : Int32) (v3 : Int32) (v4 : Int32) (K124 : Int32 × Int32 × St → Option (Int32 × St)) (q : Int32 × Int32 × St) : Option (Int32 × St) := H_MD_fewestOf_124 K38 K52 v1 v2 v3 v4 K124 q.1 q.2.1 q.2.2
def F_MD_fewestOf_124 (K38 : Int32 × St → Option (Int32 × St)) (K52 : Int32 × St → Option (Int32 × St)) (v1 : Int32) (v2 : Int32) (v3 : Int32) (v4 : Int32) (v6 : Int32) (v7 : Int32) (s : St) : Option (Int32 × St) := fixF (G_MD_fewestOf_124 K38 K52 v1 v2 v3 v4) FUEL (v6, v7, s)
def F_MD_fewestOf_118 (K38 : Int32 × St → Option (Int32 × St)) (K52 : Int32 × St → Option (Int32 × St)) (v1 : Int32) (v2 : Int32) (v3 : Int32) (v4 : Int32) (z0 : Int32) (z1 : Int32) (s : St) : Option (Int32 × St) :=
  (some (z1 + z0)).bind fun x7 => F_MD_fewestOf_124 K38 K52 v1 v2 v3 v4 x7 (0 : Int32) s
def F_MD_fewestOf_97 (K38 : Int32 × St → Option (Int32 × St)) (K52 : Int32 × St → Option (Int32 × St)) (v1 : Int32) (v2 : Int32) (v3 : Int32) (v4 : Int32) (v5 : Int32) (z0 : Int32) (z1 : Int32) (s : St) : Option (Int32 × St) :=
  (ldA s 75 (z1 + z0)).bind fun x5 => (F_MD_has v1 v3 s).bind fun o6 => if o6.1 = 0 then (F_MD_fewestOf_118 K38 K52 v1 v2 v3 v4 (0 : Int32) x5 o6.2) else ((F_MD_monthsOf v3 v5 o6.2).bind fun o15 => F_MD_fewestOf_118 K38 K52 v1 v2 v3 v4 o15.1 x5 o15.2)
def H_MD_fewestOf_52 (K38 : Int32 × St → Option (Int32 × St)) (v1 : Int32) (v2 : Int32) (v3 : Int32) (K52 : Int32 × St → Option (Int32 × St)) (v4 : Int32) (s : St) : Option (Int32 × St) :=
  if (128 : Int32) ≤ v4 then (K38 ((v2 - 1), s)) else ((F_MD_best v3 v4 s).bind fun o4 => if 0 ≤ o4.1 then (F_MD_fewestOf_97 K38 K52 v1 v2 v3 v4 o4.1 (v4 ||| ((1 : Int32) <<< (o4.1 &&& 31))) ((128 : Int32) * (v2 + (1 : Int32))) o4.2) else (F_MD_fewestOf_97 K38 K52 v1 v2 v3 v4 o4.1 v4 ((128 : Int32) * (v2 + (1 : Int32))) o4.2))
def G_MD_fewestOf_52 (K38 : Int32 × St → Option (Int32 × St)) (v1 : Int32) (v2 : Int32) (v3 : Int32) (K52 : Int32 × St → Option (Int32 × St)) (q : Int32 × St) : Option (Int32 × St) := H_MD_fewestOf_52 K38 v1 v2 v3 K52 q.1 q.2
def F_MD_fewestOf_52 (K38 : Int32 × St → Option (Int32 × St)) (v1 : Int32) (v2 : Int32) (v3 : Int32) (v4 : Int32) (s : St) : Option (Int32 × St) := fixF (G_MD_fewestOf_52 K38 v1 v2 v3) FUEL (v4, s)
def H_MD_fewestOf_38 (v1 : Int32) (K38 : Int32 × St → Option (Int32 × St)) (v2 : Int32) (s : St) : Option (Int32 × St) :=
  if v2 < 0 then ((ldA s 75 (0 : Int32)).bind fun x2 => some (x2, s)) else ((ldA s 67 v2).bind fun x3 => F_MD_fewestOf_52 K38 v1 v2 x3 (0 : Int32) s)
def G_MD_fewestOf_38 (v1 : Int32) (K38 : Int32 × St → Option (Int32 × St)) (q : Int32 × St) : Option (Int32 × St) := H_MD_fewestOf_38 v1 K38 q.1 q.2
def F_MD_fewestOf_38 (v1 : Int32) (v2 : Int32) (s : St) : Option (Int32 × St) := fixF (G_MD_fewestOf_38 v1) FUEL (v2, s)
def H_MD_fewestOf_2 (v1 : Int32) (K2 : Int32 × St → Option (Int32 × St)) (v2 : Int32) (s : St) : Option (Int32 × St) :=
  if (128 : Int32) ≤ v2 then ((some ((rd s 58 10) - (1 : Int32))).bind fun x1 => F_MD_fewestOf_38 v1 x1 s) else ((stA s 75 (((128 : Int32) * (rd s 58 10)) + v2) (0 : Int32)).bind fun s16 => K2 ((v2 + 1), s16))
def G_MD_fewestOf_2 (v1 : Int32) (K2 : Int32 × St → Option (Int32 × St)) (q : Int32 × St) : Option (Int32 × St) := H_MD_fewestOf_2 v1 K2 q.1 q.2
def F_MD_fewestOf_2 (v1 : Int32) (v2 : Int32) (s : St) : Option (Int32 × St) := fixF (G_MD_fewestOf_2 v1) FUEL (v2, s)
def F_MD_fewestOf (a1 : Int32) (s : St) : Option (Int32 × St) :=
  F_MD_fewestOf_2 a1 (0 : Int32) s
def F_MD_together_38 (v1 : Int32) (v2 : Int32) (z0 : Int32) (s : St) : Option (Int32 × St) :=
  if z0 = 0 then ((F_MD_fewestOf v1 s).bind fun o2 => (F_MD_goes o2.2).bind fun s3 => if v2 = 0 then (some (o2.1, s3)) else ((F_MD_setMonths v1 s3).bind fun o4 => some ((o4.1 - o2.1), o4.2))) else ((F_MD_no z0 s).bind fun o5 => some (o5.1, o5.2))
def F_MD_together (a1 : Int32) (a2 : Int32) (s : St) : Option (Int32 × St) :=
  if 0 ≤ a1 then (if (a1 >>> ((rd s 58 10) &&& 31)) = 0 then ((F_MD_isIn a2 (0 : Int32) (1 : Int32) s).bind fun o1 => if o1.1 = 0 then (F_MD_together_38 a1 a2 (-2 : Int32) o1.2) else (F_MD_together_38 a1 a2 (0 : Int32) o1.2)) else (F_MD_together_38 a1 a2 (-6 : Int32) s)) else (F_MD_together_38 a1 a2 (-4 : Int32) s)
def F_MD_monthsTurned (a1 : Int32) (a2 : Int32) (s : St) : Option (Int32 × St) :=
  (ldA s 66 a1).bind fun x1 => (stA s 66 a1 (x1 ^^^ ((1 : Int32) <<< (a2 &&& 31)))).bind fun s2 => (F_MD_monthsNow s2).bind fun o3 => (ldA o3.2 66 a1).bind fun x4 => (stA o3.2 66 a1 (x4 ^^^ ((1 : Int32) <<< (a2 &&& 31)))).bind fun s5 => some (o3.1, s5)
def F_MD_alibiWorth_16 (s : St) : Option (Int32 × St) :=
  (F_MD_lower (-1 : Int32) s).bind fun o2 => some (o2.1, o2.2)
def F_MD_alibiWorth (a1 : Int32) (a2 : Int32) (s : St) : Option (Int32 × St) :=
  (F_MD_isPerson a1 s).bind fun o1 => if o1.1 = 0 then (F_MD_alibiWorth_16 o1.2) else ((F_MD_isDeed a2 o1.2).bind fun o3 => if o3.1 = 0 then (F_MD_alibiWorth_16 o3.2) else ((F_MD_monthsNow o3.2).bind fun o4 => (F_MD_monthsTurned a1 a2 o4.2).bind fun o5 => some ((o5.1 - o4.1), o5.2)))
def F_MD_givenAway_77 (K10 : Int32 × Int32 × Int32 × St → Option (Int32 × St)) (K21 : Int32 × Int32 × Int32 × St → Option (Int32 × St)) (v1 : Int32) (v2 : Int32) (v3 : Int32) (v4 : Int32) (s : St) : Option (Int32 × St) :=
  K21 (v1, v2, (v4 + 1), s)
def F_MD_givenAway_55 (K10 : Int32 × Int32 × Int32 × St → Option (Int32 × St)) (K21 : Int32 × Int32 × Int32 × St → Option (Int32 × St)) (v1 : Int32) (v2 : Int32) (v3 : Int32) (v4 : Int32) (z0 : Int32) (s : St) : Option (Int32 × St) :=
  if z0 < v1 then ((some (((10 : Int32) * v3) + v4)).bind fun x4 => F_MD_givenAway_77 K10 K21 z0 x4 v3 v4 s) else (F_MD_givenAway_77 K10 K21 v1 v2 v3 v4 s)
def H_MD_givenAway_21 (K10 : Int32 × Int32 × Int32 × St → Option (Int32 × St)) (v3 : Int32) (K21 : Int32 × Int32 × Int32 × St → Option (Int32 × St)) (v1 : Int32) (v2 : Int32) (v4 : Int32) (s : St) : Option (Int32 × St) :=
  if (rd s 58 9) ≤ v4 then (K10 (v1, v2, (v3 + 1), s)) else ((ldA s 66 v3).bind fun x2 => (F_MD_has x2 v4 s).bind fun o3 => if o3.1 = 0 then (F_MD_givenAway_55 K10 K21 v1 v2 v3 v4 v1 o3.2) else ((F_MD_monthsTurned v3 v4 o3.2).bind fun o5 => F_MD_givenAway_55 K10 K21 v1 v2 v3 v4 o5.1 o5.2))
def G_MD_givenAway_21 (K10 : Int32 × Int32 × Int32 × St → Option (Int32 × St)) (v3 : Int32) (K21 : Int32 × Int32 × Int32 × St → Option (Int32 × St)) (q : Int32 × Int32 × Int32 × St) : Option (Int32 × St) := H_MD_givenAway_21 K10 v3 K21 q.1 q.2.1 q.2.2.1 q.2.2.2
def F_MD_givenAway_21 (K10 : Int32 × Int32 × Int32 × St → Option (Int32 × St)) (v1 : Int32) (v2 : Int32) (v3 : Int32) (v4 : Int32) (s : St) : Option (Int32 × St) := fixF (G_MD_givenAway_21 K10 v3) FUEL (v1, v2, v4, s)
def H_MD_givenAway_10 (K10 : Int32 × Int32 × Int32 × St → Option (Int32 × St)) (v1 : Int32) (v2 : Int32) (v3 : Int32) (s : St) : Option (Int32 × St) :=
  if (rd s 58 10) ≤ v3 then (some (v2, s)) else (F_MD_givenAway_21 K10 v1 v2 v3 (0 : Int32) s)
def G_MD_givenAway_10 (K10 : Int32 × Int32 × Int32 × St → Option (Int32 × St)) (q : Int32 × Int32 × Int32 × St) : Option (Int32 × St) := H_MD_givenAway_10 K10 q.1 q.2.1 q.2.2.1 q.2.2.2
def F_MD_givenAway_10 (v1 : Int32) (v2 : Int32) (v3 : Int32) (s : St) : Option (Int32 × St) := fixF (G_MD_givenAway_10) FUEL (v1, v2, v3, s)
def F_MD_givenAway (s : St) : Option (Int32 × St) :=
  (F_MD_monthsNow s).bind fun o1 => F_MD_givenAway_10 o1.1 (-9 : Int32) (0 : Int32) o1.2
def H_MD_divisor_6 (K6 : Int64 × Int64 × St → Option (Int64 × St)) (v4 : Int64) (v6 : Int64) (s : St) : Option (Int64 × St) :=
  if (lg_cmp v6 (0 : Int64)) = 0 then (some (v4, s)) else (if v6 = 0 then none else (some (v4 - v4 / v6 * v6)).bind fun x1 => K6 (v6, x1, s))
def G_MD_divisor_6 (K6 : Int64 × Int64 × St → Option (Int64 × St)) (q : Int64 × Int64 × St) : Option (Int64 × St) := H_MD_divisor_6 K6 q.1 q.2.1 q.2.2
def F_MD_divisor_6 (v4 : Int64) (v6 : Int64) (s : St) : Option (Int64 × St) := fixF (G_MD_divisor_6) FUEL (v4, v6, s)
def F_MD_divisor (a0 : Int64) (a2 : Int64) (s : St) : Option (Int64 × St) :=
  F_MD_divisor_6 a0 a2 s
def F_MD_caught_229 (v6 : Int64) (v8 : Int64) (z0 : Int64) (s : St) : Option (Int64 × St) :=
  (F_MD_divisor v6 v8 s).bind fun o2 => if o2.1 = 0 then none else some ((z0 / o2.1), o2.2)
def F_MD_caught_218 (v3 : Int32) (v6 : Int64) (v8 : Int64) (s : St) : Option (Int64 × St) :=
  if v3 = 0 then (F_MD_caught_229 v6 v8 v6 s) else (F_MD_caught_229 v6 v8 v8 s)
def H_MD_caught_183 (v2 : Int32) (v3 : Int32) (v5 : Int32) (v8 : Int64) (K183 : Int64 × Int32 × St → Option (Int64 × St)) (v6 : Int64) (v10 : Int32) (s : St) : Option (Int64 × St) :=
  if v2 < v10 then (F_MD_caught_218 v3 v6 v8 s) else (if v5 < v2 then (F_MD_caught_218 v3 v6 v8 s) else (if (v10).toInt64 = 0 then none else (some ((v6 * (((v5 + (1 : Int32)) - v10)).toInt64) / (v10).toInt64)).bind fun x3 => K183 (x3, (v10 + 1), s)))
def G_MD_caught_183 (v2 : Int32) (v3 : Int32) (v5 : Int32) (v8 : Int64) (K183 : Int64 × Int32 × St → Option (Int64 × St)) (q : Int64 × Int32 × St) : Option (Int64 × St) := H_MD_caught_183 v2 v3 v5 v8 K183 q.1 q.2.1 q.2.2
def F_MD_caught_183 (v2 : Int32) (v3 : Int32) (v5 : Int32) (v6 : Int64) (v8 : Int64) (v10 : Int32) (s : St) : Option (Int64 × St) := fixF (G_MD_caught_183 v2 v3 v5 v8) FUEL (v6, v10, s)
def F_MD_caught_164 (K141 : Int64 × Int64 × Int32 × St → Option (Int64 × St)) (v1 : Int32) (v2 : Int32) (v3 : Int32) (v5 : Int32) (v8 : Int64) (v10 : Int32) (z0 : Int64) (z1 : Int64) (s : St) : Option (Int64 × St) :=
  (some (z1 * z0)).bind fun x4 => (some (v8 * (v1).toInt64)).bind fun x5 => K141 (x4, x5, (v10 + 1), s)
def H_MD_caught_141 (v1 : Int32) (v2 : Int32) (v3 : Int32) (v5 : Int32) (K141 : Int64 × Int64 × Int32 × St → Option (Int64 × St)) (v6 : Int64) (v8 : Int64) (v10 : Int32) (s : St) : Option (Int64 × St) :=
  if v5 ≤ v10 then (F_MD_caught_183 v2 v3 v5 v6 v8 (1 : Int32) s) else (if v2 ≤ v10 then (F_MD_caught_164 K141 v1 v2 v3 v5 v8 v10 ((v1 - (1 : Int32))).toInt64 v6 s) else (F_MD_caught_164 K141 v1 v2 v3 v5 v8 v10 (1 : Int64) v6 s))
def G_MD_caught_141 (v1 : Int32) (v2 : Int32) (v3 : Int32) (v5 : Int32) (K141 : Int64 × Int64 × Int32 × St → Option (Int64 × St)) (q : Int64 × Int64 × Int32 × St) : Option (Int64 × St) := H_MD_caught_141 v1 v2 v3 v5 K141 q.1 q.2.1 q.2.2.1 q.2.2.2
def F_MD_caught_141 (v1 : Int32) (v2 : Int32) (v3 : Int32) (v5 : Int32) (v6 : Int64) (v8 : Int64) (v10 : Int32) (s : St) : Option (Int64 × St) := fixF (G_MD_caught_141 v1 v2 v3 v5) FUEL (v6, v8, v10, s)
def F_MD_caught_133 (v1 : Int32) (v2 : Int32) (v3 : Int32) (v5 : Int32) (z0 : Int64) (s : St) : Option (Int64 × St) :=
  F_MD_caught_141 v1 v2 v3 v5 z0 (1 : Int64) (0 : Int32) s
def F_MD_caught_113 (K70 : Int32 × Int32 × St → Option (Int64 × St)) (v1 : Int32) (v2 : Int32) (v3 : Int32) (v6 : Int32) (z0 : Int32) (z1 : Int32) (s : St) : Option (Int64 × St) :=
  (some (z1 + z0)).bind fun x7 => K70 (x7, (v6 + 1), s)
def F_MD_caught_112 (K70 : Int32 × Int32 × St → Option (Int64 × St)) (v1 : Int32) (v2 : Int32) (v3 : Int32) (v6 : Int32) (z0 : Int32) (s : St) : Option (Int64 × St) :=
  F_MD_caught_113 K70 v1 v2 v3 v6 (0 : Int32) z0 s
def H_MD_caught_70 (v1 : Int32) (v2 : Int32) (v3 : Int32) (K70 : Int32 × Int32 × St → Option (Int64 × St)) (v5 : Int32) (v6 : Int32) (s : St) : Option (Int64 × St) :=
  if (rd s 58 10) ≤ v6 then (if v2 ≤ v5 then (F_MD_caught_133 v1 v2 v3 v5 (1 : Int64) s) else (F_MD_caught_133 v1 v2 v3 v5 (0 : Int64) s)) else ((ldA s 73 v6).bind fun x6 => if x6 < 0 then (F_MD_caught_112 K70 v1 v2 v3 v6 v5 s) else ((ldA s 73 v6).bind fun x8 => (ldA s 64 v6).bind fun x9 => if x8 = x9 then (F_MD_caught_112 K70 v1 v2 v3 v6 v5 s) else (F_MD_caught_113 K70 v1 v2 v3 v6 (1 : Int32) v5 s)))
def G_MD_caught_70 (v1 : Int32) (v2 : Int32) (v3 : Int32) (K70 : Int32 × Int32 × St → Option (Int64 × St)) (q : Int32 × Int32 × St) : Option (Int64 × St) := H_MD_caught_70 v1 v2 v3 K70 q.1 q.2.1 q.2.2
def F_MD_caught_70 (v1 : Int32) (v2 : Int32) (v3 : Int32) (v5 : Int32) (v6 : Int32) (s : St) : Option (Int64 × St) := fixF (G_MD_caught_70 v1 v2 v3) FUEL (v5, v6, s)
def F_MD_caught_46 (v1 : Int32) (v2 : Int32) (v3 : Int32) (z0 : Int32) (s : St) : Option (Int64 × St) :=
  if z0 = 0 then ((F_MD_goes s).bind fun s1 => F_MD_caught_70 v1 v2 v3 (0 : Int32) (0 : Int32) s1) else ((F_MD_lowest z0 s).bind fun o10 => some (o10.1, o10.2))
def F_MD_caught_9 (v1 : Int32) (v2 : Int32) (v3 : Int32) (s : St) : Option (Int64 × St) :=
  F_MD_caught_46 v1 v2 v3 (-4 : Int32) s
def F_MD_caught_26 (v1 : Int32) (v2 : Int32) (v3 : Int32) (s : St) : Option (Int64 × St) :=
  F_MD_caught_46 v1 v2 v3 (-6 : Int32) s
def F_MD_caught (a1 : Int32) (a2 : Int32) (a3 : Int32) (s : St) : Option (Int64 × St) :=
  if a1 < (2 : Int32) then (F_MD_caught_9 a1 a2 a3 s) else (if 0 ≤ a2 then (if (20 : Int32) < a1 then (F_MD_caught_26 a1 a2 a3 s) else (if a2 ≤ (7 : Int32) then ((F_MD_isIn a3 (0 : Int32) (1 : Int32) s).bind fun o11 => if o11.1 = 0 then (F_MD_caught_46 a1 a2 a3 (-2 : Int32) o11.2) else (F_MD_caught_46 a1 a2 a3 (0 : Int32) o11.2)) else (F_MD_caught_26 a1 a2 a3 s))) else (F_MD_caught_9 a1 a2 a3 s))
def F_MD_spared_40 (K9 : Int32 × Int32 × St → Option (Int32 × St)) (v1 : Int32) (v3 : Int32) (z0 : Int32) (z1 : Int32) (s : St) : Option (Int32 × St) :=
  (some (z1 ||| z0)).bind fun x5 => K9 (x5, (v3 + 1), s)
def H_MD_spared_9 (v1 : Int32) (K9 : Int32 × Int32 × St → Option (Int32 × St)) (v2 : Int32) (v3 : Int32) (s : St) : Option (Int32 × St) :=
  if (rd s 58 9) ≤ v3 then ((some (wr s 58 26 (0 : Int32))).bind fun s2 => some (v2, s2)) else ((some (wr s 58 26 ((1 : Int32) <<< (v3 &&& 31)))).bind fun s3 => (F_MD_monthsNow s3).bind fun o4 => if o4.1 = v1 then (F_MD_spared_40 K9 v1 v3 ((1 : Int32) <<< (v3 &&& 31)) v2 o4.2) else (F_MD_spared_40 K9 v1 v3 (0 : Int32) v2 o4.2))
def G_MD_spared_9 (v1 : Int32) (K9 : Int32 × Int32 × St → Option (Int32 × St)) (q : Int32 × Int32 × St) : Option (Int32 × St) := H_MD_spared_9 v1 K9 q.1 q.2.1 q.2.2
def F_MD_spared_9 (v1 : Int32) (v2 : Int32) (v3 : Int32) (s : St) : Option (Int32 × St) := fixF (G_MD_spared_9 v1) FUEL (v2, v3, s)
def F_MD_spared (s : St) : Option (Int32 × St) :=
  (F_MD_monthsNow s).bind fun o1 => F_MD_spared_9 o1.1 (0 : Int32) (0 : Int32) o1.2
def F_MD_keeper_89 (K8 : Int32 × Int32 × Int32 × St → Option (Int32 × St)) (v1 : Int32) (v2 : Int32) (v3 : Int32) (s : St) : Option (Int32 × St) :=
  K8 (v1, v2, (v3 + 1), s)
def H_MD_keeper_8 (K8 : Int32 × Int32 × Int32 × St → Option (Int32 × St)) (v1 : Int32) (v2 : Int32) (v3 : Int32) (s : St) : Option (Int32 × St) :=
  if (rd s 58 10) ≤ v3 then (some (v1, s)) else ((ldA s 65 v3).bind fun x1 => if 0 ≤ x1 then ((F_MD_goes s).bind fun s2 => (ldA s2 65 v3).bind fun x3 => (F_MD_hasMonths x3 s2).bind fun o4 => (F_MD_monthsAt v3 ((rd o4.2 58 10) - (1 : Int32)) o4.2).bind fun o5 => (ldA o5.2 65 v3).bind fun x6 => (F_MD_hasMonths x6 o5.2).bind fun o7 => if o4.1 ≤ o7.1 then (F_MD_keeper_89 K8 v1 v2 v3 o7.2) else (if o7.1 < v2 then (F_MD_keeper_89 K8 v3 o7.1 v3 o7.2) else (F_MD_keeper_89 K8 v1 v2 v3 o7.2))) else (F_MD_keeper_89 K8 v1 v2 v3 s))
def G_MD_keeper_8 (K8 : Int32 × Int32 × Int32 × St → Option (Int32 × St)) (q : Int32 × Int32 × Int32 × St) : Option (Int32 × St) := H_MD_keeper_8 K8 q.1 q.2.1 q.2.2.1 q.2.2.2
def F_MD_keeper_8 (v1 : Int32) (v2 : Int32) (v3 : Int32) (s : St) : Option (Int32 × St) := fixF (G_MD_keeper_8) FUEL (v1, v2, v3, s)
def F_MD_keeper (s : St) : Option (Int32 × St) :=
  F_MD_keeper_8 (-9 : Int32) (1000000000 : Int32) (0 : Int32) s
def F_MD_mayHave_55 (s : St) : Option (Int32 × St) :=
  some (0, s)
def F_MD_mayHave (a1 : Int32) (a2 : Int32) (s : St) : Option (Int32 × St) :=
  (ldA s 73 a1).bind fun x1 => if x1 < 0 then (F_MD_mayHave_55 s) else ((ldA s 73 a2).bind fun x2 => if x2 < 0 then (F_MD_mayHave_55 s) else ((ldA s 73 a2).bind fun x3 => (F_MD_may a1 x3 s).bind fun o4 => if o4.1 = 0 then (F_MD_mayHave_55 o4.2) else ((ldA o4.2 73 a2).bind fun x5 => (F_MD_monthsOf a1 x5 o4.2).bind fun o6 => (F_MD_hasMonths a1 o6.2).bind fun o7 => if o7.1 ≤ o6.1 then (F_MD_mayHave_55 o7.2) else (some (1, o7.2)))))
def F_MD_swaps_79 (K30 : Int32 × Int32 × St → Option (Int32 × St)) (K42 : Int32 × Int32 × St → Option (Int32 × St)) (v1 : Int32) (v3 : Int32) (v4 : Int32) (z0 : Int32) (s : St) : Option (Int32 × St) :=
  K42 (z0, (v4 - 1), s)
def F_MD_swaps_78 (K30 : Int32 × Int32 × St → Option (Int32 × St)) (K42 : Int32 × Int32 × St → Option (Int32 × St)) (v1 : Int32) (v2 : Int32) (v3 : Int32) (v4 : Int32) (s : St) : Option (Int32 × St) :=
  F_MD_swaps_79 K30 K42 v1 v3 v4 v2 s
def H_MD_swaps_42 (K30 : Int32 × Int32 × St → Option (Int32 × St)) (v1 : Int32) (v3 : Int32) (K42 : Int32 × Int32 × St → Option (Int32 × St)) (v2 : Int32) (v4 : Int32) (s : St) : Option (Int32 × St) :=
  if v4 ≤ v3 then (K30 (v2, (v3 - 1), s)) else ((F_MD_mayHave v3 v4 s).bind fun o5 => if o5.1 = 0 then (F_MD_swaps_78 K30 K42 v1 v2 v3 v4 o5.2) else ((F_MD_mayHave v4 v3 o5.2).bind fun o6 => if o6.1 = 0 then (F_MD_swaps_78 K30 K42 v1 v2 v3 v4 o6.2) else (F_MD_swaps_79 K30 K42 v1 v3 v4 (((10 : Int32) * v3) + v4) o6.2)))
def G_MD_swaps_42 (K30 : Int32 × Int32 × St → Option (Int32 × St)) (v1 : Int32) (v3 : Int32) (K42 : Int32 × Int32 × St → Option (Int32 × St)) (q : Int32 × Int32 × St) : Option (Int32 × St) := H_MD_swaps_42 K30 v1 v3 K42 q.1 q.2.1 q.2.2
def F_MD_swaps_42 (K30 : Int32 × Int32 × St → Option (Int32 × St)) (v1 : Int32) (v2 : Int32) (v3 : Int32) (v4 : Int32) (s : St) : Option (Int32 × St) := fixF (G_MD_swaps_42 K30 v1 v3) FUEL (v2, v4, s)
def H_MD_swaps_30 (v1 : Int32) (K30 : Int32 × Int32 × St → Option (Int32 × St)) (v2 : Int32) (v3 : Int32) (s : St) : Option (Int32 × St) :=
  if v3 < 0 then (if v1 = 0 then (some (v2, s)) else (if 0 ≤ v2 then (some ((0 : Int32), s)) else (some ((1 : Int32), s)))) else ((some ((rd s 58 10) - (1 : Int32))).bind fun x4 => F_MD_swaps_42 K30 v1 v2 v3 x4 s)
def G_MD_swaps_30 (v1 : Int32) (K30 : Int32 × Int32 × St → Option (Int32 × St)) (q : Int32 × Int32 × St) : Option (Int32 × St) := H_MD_swaps_30 v1 K30 q.1 q.2.1 q.2.2
def F_MD_swaps_30 (v1 : Int32) (v2 : Int32) (v3 : Int32) (s : St) : Option (Int32 × St) := fixF (G_MD_swaps_30 v1) FUEL (v2, v3, s)
def F_MD_swaps (a1 : Int32) (s : St) : Option (Int32 × St) :=
  (F_MD_isIn a1 (0 : Int32) (1 : Int32) s).bind fun o1 => if o1.1 = 0 then ((F_MD_no (-2 : Int32) o1.2).bind fun o7 => some (o7.1, o7.2)) else ((F_MD_findFromLast o1.2).bind fun s2 => (some ((rd s2 58 10) - (1 : Int32))).bind fun x3 => F_MD_swaps_30 a1 (-9 : Int32) x3 s2)
def F_MD_heavier_16 (s : St) : Option (Int32 × St) :=
  (F_MD_no (-1 : Int32) s).bind fun o2 => some (o2.1, o2.2)
def F_MD_heavier_72 (K36 : Int32 × Int32 × St → Option (Int32 × St)) (v1 : Int32) (v2 : Int32) (v3 : Int32) (v5 : Int32) (z0 : Int32) (s : St) : Option (Int32 × St) :=
  K36 (z0, (v5 + 1), s)
def H_MD_heavier_36 (v1 : Int32) (v2 : Int32) (v3 : Int32) (K36 : Int32 × Int32 × St → Option (Int32 × St)) (v4 : Int32) (v5 : Int32) (s : St) : Option (Int32 × St) :=
  if (10 : Int32) ≤ v5 then ((stA s 61 v2 v3).bind fun s5 => some (v4, s5)) else ((stA s 61 v2 v5).bind fun s6 => (F_MD_goes s6).bind fun s7 => (ldA s7 73 v1).bind fun x8 => if x8 = v2 then (F_MD_heavier_72 K36 v1 v2 v3 v5 v5 s7) else (F_MD_heavier_72 K36 v1 v2 v3 v5 v4 s7))
def G_MD_heavier_36 (v1 : Int32) (v2 : Int32) (v3 : Int32) (K36 : Int32 × Int32 × St → Option (Int32 × St)) (q : Int32 × Int32 × St) : Option (Int32 × St) := H_MD_heavier_36 v1 v2 v3 K36 q.1 q.2.1 q.2.2
def F_MD_heavier_36 (v1 : Int32) (v2 : Int32) (v3 : Int32) (v4 : Int32) (v5 : Int32) (s : St) : Option (Int32 × St) := fixF (G_MD_heavier_36 v1 v2 v3) FUEL (v4, v5, s)
def F_MD_heavier (a1 : Int32) (a2 : Int32) (s : St) : Option (Int32 × St) :=
  (F_MD_isPerson a1 s).bind fun o1 => if o1.1 = 0 then (F_MD_heavier_16 o1.2) else ((F_MD_isDeed a2 o1.2).bind fun o3 => if o3.1 = 0 then (F_MD_heavier_16 o3.2) else ((ldA o3.2 61 a2).bind fun x4 => F_MD_heavier_36 a1 a2 x4 (-9 : Int32) (0 : Int32) o3.2))
def F_MD_monthsHaving (a1 : Int32) (a2 : Int32) (s : St) : Option (Int32 × St) :=
  (ldA s 64 a1).bind fun x1 => (stA s 64 a1 a2).bind fun s2 => (F_MD_goes s2).bind fun s3 => (F_MD_hasMonths a1 s3).bind fun o4 => (stA o4.2 64 a1 x1).bind fun s5 => some (o4.1, s5)
def F_MD_bestDid_54 (K24 : Int32 × Int32 × St → Option (Int32 × St)) (v1 : Int32) (v2 : Int32) (v3 : Int32) (s : St) : Option (Int32 × St) :=
  K24 (v2, (v3 - 1), s)
def H_MD_bestDid_24 (v1 : Int32) (K24 : Int32 × Int32 × St → Option (Int32 × St)) (v2 : Int32) (v3 : Int32) (s : St) : Option (Int32 × St) :=
  if v3 < 0 then (some (v2, s)) else ((F_MD_may v1 v3 s).bind fun o3 => if o3.1 = 0 then (F_MD_bestDid_54 K24 v1 v2 v3 o3.2) else ((F_MD_monthsHaving v1 v3 o3.2).bind fun o4 => (F_MD_monthsHaving v1 v2 o4.2).bind fun o5 => if o5.1 < o4.1 then (F_MD_bestDid_54 K24 v1 v2 v3 o5.2) else (F_MD_bestDid_54 K24 v1 v3 v3 o5.2)))
def G_MD_bestDid_24 (v1 : Int32) (K24 : Int32 × Int32 × St → Option (Int32 × St)) (q : Int32 × Int32 × St) : Option (Int32 × St) := H_MD_bestDid_24 v1 K24 q.1 q.2.1 q.2.2
def F_MD_bestDid_24 (v1 : Int32) (v2 : Int32) (v3 : Int32) (s : St) : Option (Int32 × St) := fixF (G_MD_bestDid_24 v1) FUEL (v2, v3, s)
def F_MD_bestDid (a1 : Int32) (s : St) : Option (Int32 × St) :=
  (F_MD_isPerson a1 s).bind fun o1 => if o1.1 = 0 then ((F_MD_no (-1 : Int32) o1.2).bind fun o6 => some (o6.1, o6.2)) else ((some ((rd o1.2 58 9) - (1 : Int32))).bind fun x2 => F_MD_bestDid_24 a1 (7 : Int32) x2 o1.2)
def F_MD_takenBits_34 (K4 : Int32 × Int32 × St → Option (Int32 × St)) (v2 : Int32) (z0 : Int32) (z1 : Int32) (s : St) : Option (Int32 × St) :=
  (some (z1 ||| z0)).bind fun x3 => K4 (x3, (v2 + 1), s)
def H_MD_takenBits_4 (K4 : Int32 × Int32 × St → Option (Int32 × St)) (v1 : Int32) (v2 : Int32) (s : St) : Option (Int32 × St) :=
  if (rd s 58 10) ≤ v2 then (some (v1, s)) else ((ldA s 73 v2).bind fun x1 => if 0 ≤ x1 then ((ldA s 73 v2).bind fun x2 => F_MD_takenBits_34 K4 v2 ((1 : Int32) <<< (x2 &&& 31)) v1 s) else (F_MD_takenBits_34 K4 v2 (0 : Int32) v1 s))
def G_MD_takenBits_4 (K4 : Int32 × Int32 × St → Option (Int32 × St)) (q : Int32 × Int32 × St) : Option (Int32 × St) := H_MD_takenBits_4 K4 q.1 q.2.1 q.2.2
def F_MD_takenBits_4 (v1 : Int32) (v2 : Int32) (s : St) : Option (Int32 × St) := fixF (G_MD_takenBits_4) FUEL (v1, v2, s)
def F_MD_takenBits (s : St) : Option (Int32 × St) :=
  F_MD_takenBits_4 (0 : Int32) (0 : Int32) s
def F_MD_takenMonths_31 (K4 : Int32 × Int32 × St → Option (Int32 × St)) (v2 : Int32) (z0 : Int32) (z1 : Int32) (s : St) : Option (Int32 × St) :=
  (some (z1 + z0)).bind fun x3 => K4 (x3, (v2 + 1), s)
def H_MD_takenMonths_4 (K4 : Int32 × Int32 × St → Option (Int32 × St)) (v1 : Int32) (v2 : Int32) (s : St) : Option (Int32 × St) :=
  if (rd s 58 10) ≤ v2 then (some (v1, s)) else ((ldA s 73 v2).bind fun x1 => if 0 ≤ x1 then ((F_MD_hasMonths v2 s).bind fun o2 => F_MD_takenMonths_31 K4 v2 o2.1 v1 o2.2) else (F_MD_takenMonths_31 K4 v2 (0 : Int32) v1 s))
def G_MD_takenMonths_4 (K4 : Int32 × Int32 × St → Option (Int32 × St)) (q : Int32 × Int32 × St) : Option (Int32 × St) := H_MD_takenMonths_4 K4 q.1 q.2.1 q.2.2
def F_MD_takenMonths_4 (v1 : Int32) (v2 : Int32) (s : St) : Option (Int32 × St) := fixF (G_MD_takenMonths_4) FUEL (v1, v2, s)
def F_MD_takenMonths (s : St) : Option (Int32 × St) :=
  F_MD_takenMonths_4 (0 : Int32) (0 : Int32) s
def H_MD_rest_24 (v1 : Int32) (K24 : Int32 × Int32 × St → Option (Int32 × St)) (v2 : Int32) (v3 : Int32) (s : St) : Option (Int32 × St) :=
  (F_MD_takenBits s).bind fun o3 => if o3.1 = 0 then ((some ((((1 : Int32) <<< ((rd o3.2 58 9) &&& 31)) - (1 : Int32)) &&& ((rd o3.2 58 26) ^^^ (-1 : Int32)))).bind fun x4 => (some (wr o3.2 58 26 (0 : Int32))).bind fun s5 => if v1 = 0 then (some (v2, s5)) else (if v1 = (1 : Int32) then (some (v3, s5)) else (some (x4, s5)))) else ((F_MD_takenMonths o3.2).bind fun o6 => (some (v3 + o6.1)).bind fun x7 => (F_MD_takenBits o6.2).bind fun o8 => (some (wr o8.2 58 26 ((rd o6.2 58 26) ||| o8.1))).bind fun s9 => (F_MD_goes s9).bind fun s10 => K24 ((v2 + 1), x7, s10))
def G_MD_rest_24 (v1 : Int32) (K24 : Int32 × Int32 × St → Option (Int32 × St)) (q : Int32 × Int32 × St) : Option (Int32 × St) := H_MD_rest_24 v1 K24 q.1 q.2.1 q.2.2
def F_MD_rest_24 (v1 : Int32) (v2 : Int32) (v3 : Int32) (s : St) : Option (Int32 × St) := fixF (G_MD_rest_24 v1) FUEL (v2, v3, s)
def F_MD_rest (a1 : Int32) (s : St) : Option (Int32 × St) :=
  (F_MD_isIn a1 (0 : Int32) (2 : Int32) s).bind fun o1 => if o1.1 = 0 then ((F_MD_no (-2 : Int32) o1.2).bind fun o11 => some (o11.1, o11.2)) else ((F_MD_goes o1.2).bind fun s2 => F_MD_rest_24 a1 (0 : Int32) (0 : Int32) s2)
def H_MD_lastWord_28 (v1 : Int32) (v2 : Int32) (K28 : Int32 × St → Option (Int32 × St)) (v3 : Int32) (s : St) : Option (Int32 × St) :=
  if (((rd s 58 10) - (1 : Int32)) / (2 : Int32)) ≤ v3 then ((F_MD_goesBy s).bind fun s3 => (F_MD_hasMonths v1 s3).bind fun o4 => if v2 ≤ o4.1 then (some (v2, o4.2)) else ((F_MD_hasMonths v1 o4.2).bind fun o5 => some (o5.1, o5.2))) else ((ldA s 74 v3).bind fun x6 => (ldA s 74 (((rd s 58 10) - (2 : Int32)) - v3)).bind fun x7 => (stA s 74 v3 x7).bind fun s8 => (stA s8 74 (((rd s8 58 10) - (2 : Int32)) - v3) x6).bind fun s9 => K28 ((v3 + 1), s9))
def G_MD_lastWord_28 (v1 : Int32) (v2 : Int32) (K28 : Int32 × St → Option (Int32 × St)) (q : Int32 × St) : Option (Int32 × St) := H_MD_lastWord_28 v1 v2 K28 q.1 q.2
def F_MD_lastWord_28 (v1 : Int32) (v2 : Int32) (v3 : Int32) (s : St) : Option (Int32 × St) := fixF (G_MD_lastWord_28 v1 v2) FUEL (v3, s)
def F_MD_lastWord (a1 : Int32) (s : St) : Option (Int32 × St) :=
  (F_MD_isPerson a1 s).bind fun o1 => if o1.1 = 0 then ((F_MD_no (-1 : Int32) o1.2).bind fun o10 => some (o10.1, o10.2)) else ((F_MD_monthsAt a1 ((rd o1.2 58 10) - (1 : Int32)) o1.2).bind fun o2 => F_MD_lastWord_28 a1 o2.1 (0 : Int32) o2.2)
def F_MD_sumChanged (a1 : Int32) (a2 : Int32) (s : St) : Option (Int32 × St) :=
  (F_MD_asItIs s).bind fun s1 => (F_MD_placeOf a1 s1).bind fun o2 => (stA o2.2 74 o2.1 a2).bind fun s3 => (F_MD_placeOf a2 s3).bind fun o4 => (stA o4.2 74 o4.1 a1).bind fun s5 => (F_MD_goesBy s5).bind fun s6 => (F_MD_hasMonths a1 s6).bind fun o7 => (F_MD_hasMonths a2 o7.2).bind fun o8 => some ((o7.1 + o8.1), o8.2)
def F_MD_bribe_136 (v2 : Int32) (s : St) : Option (Int32 × St) :=
  some (v2, s)
def F_MD_bribe_116 (K28 : Int32 × Int32 × Int32 × Int32 × St → Option (Int32 × St)) (K43 : Int32 × Int32 × Int32 × Int32 × St → Option (Int32 × St)) (v1 : Int32) (v2 : Int32) (v3 : Int32) (v4 : Int32) (v5 : Int32) (v6 : Int32) (s : St) : Option (Int32 × St) :=
  K43 (v2, v3, v4, (v6 + 1), s)
def H_MD_bribe_43 (K28 : Int32 × Int32 × Int32 × Int32 × St → Option (Int32 × St)) (v1 : Int32) (v5 : Int32) (K43 : Int32 × Int32 × Int32 × Int32 × St → Option (Int32 × St)) (v2 : Int32) (v3 : Int32) (v4 : Int32) (v6 : Int32) (s : St) : Option (Int32 × St) :=
  if (rd s 58 10) ≤ v6 then (K28 (v2, v3, v4, (v5 + 1), s)) else ((F_MD_goes s).bind fun s3 => (F_MD_hasMonths v5 s3).bind fun o4 => (F_MD_hasMonths v6 o4.2).bind fun o5 => (some (o4.1 + o5.1)).bind fun x6 => (F_MD_sumChanged v5 v6 o5.2).bind fun o7 => if x6 ≤ o7.1 then (F_MD_bribe_116 K28 K43 v1 v2 v3 v4 v5 v6 o7.2) else (if o7.1 < v3 then ((some (((10 : Int32) * v5) + v6)).bind fun x8 => (some (x6 - o7.1)).bind fun x9 => F_MD_bribe_116 K28 K43 v1 x8 o7.1 x9 v5 v6 o7.2) else (F_MD_bribe_116 K28 K43 v1 v2 v3 v4 v5 v6 o7.2)))
def G_MD_bribe_43 (K28 : Int32 × Int32 × Int32 × Int32 × St → Option (Int32 × St)) (v1 : Int32) (v5 : Int32) (K43 : Int32 × Int32 × Int32 × Int32 × St → Option (Int32 × St)) (q : Int32 × Int32 × Int32 × Int32 × St) : Option (Int32 × St) := H_MD_bribe_43 K28 v1 v5 K43 q.1 q.2.1 q.2.2.1 q.2.2.2.1 q.2.2.2.2
def F_MD_bribe_43 (K28 : Int32 × Int32 × Int32 × Int32 × St → Option (Int32 × St)) (v1 : Int32) (v2 : Int32) (v3 : Int32) (v4 : Int32) (v5 : Int32) (v6 : Int32) (s : St) : Option (Int32 × St) := fixF (G_MD_bribe_43 K28 v1 v5) FUEL (v2, v3, v4, v6, s)
def H_MD_bribe_28 (v1 : Int32) (K28 : Int32 × Int32 × Int32 × Int32 × St → Option (Int32 × St)) (v2 : Int32) (v3 : Int32) (v4 : Int32) (v5 : Int32) (s : St) : Option (Int32 × St) :=
  if (rd s 58 10) ≤ v5 then (if v1 = 0 then (F_MD_bribe_136 v2 s) else (if 0 ≤ v2 then (some (v4, s)) else (F_MD_bribe_136 v2 s))) else ((some (v5 + (1 : Int32))).bind fun x2 => F_MD_bribe_43 K28 v1 v2 v3 v4 v5 x2 s)
def G_MD_bribe_28 (v1 : Int32) (K28 : Int32 × Int32 × Int32 × Int32 × St → Option (Int32 × St)) (q : Int32 × Int32 × Int32 × Int32 × St) : Option (Int32 × St) := H_MD_bribe_28 v1 K28 q.1 q.2.1 q.2.2.1 q.2.2.2.1 q.2.2.2.2
def F_MD_bribe_28 (v1 : Int32) (v2 : Int32) (v3 : Int32) (v4 : Int32) (v5 : Int32) (s : St) : Option (Int32 × St) := fixF (G_MD_bribe_28 v1) FUEL (v2, v3, v4, v5, s)
def F_MD_bribe (a1 : Int32) (s : St) : Option (Int32 × St) :=
  (F_MD_isIn a1 (0 : Int32) (1 : Int32) s).bind fun o1 => if o1.1 = 0 then ((F_MD_no (-2 : Int32) o1.2).bind fun o10 => some (o10.1, o10.2)) else (F_MD_bribe_28 a1 (-9 : Int32) (1000000000 : Int32) (0 : Int32) (0 : Int32) o1.2)
def F_MD_latest_104 (K56 : Int32 × Int32 × Int32 × St → Option (Int32 × St)) (v1 : Int32) (v2 : Int32) (v4 : Int32) (v5 : Int32) (v7 : Int32) (z0 : Int32) (s : St) : Option (Int32 × St) :=
  K56 (v5, z0, (v7 + 1), s)
def F_MD_latest_88 (K56 : Int32 × Int32 × Int32 × St → Option (Int32 × St)) (v1 : Int32) (v2 : Int32) (v4 : Int32) (v6 : Int32) (v7 : Int32) (v8 : Int32) (z0 : Int32) (s : St) : Option (Int32 × St) :=
  if v8 ≤ v6 then (F_MD_latest_104 K56 v1 v2 v4 z0 v7 v6 s) else (F_MD_latest_104 K56 v1 v2 v4 z0 v7 v8 s)
def H_MD_latest_56 (v1 : Int32) (v2 : Int32) (v4 : Int32) (K56 : Int32 × Int32 × Int32 × St → Option (Int32 × St)) (v5 : Int32) (v6 : Int32) (v7 : Int32) (s : St) : Option (Int32 × St) :=
  if (rd s 58 10) ≤ v7 then (if v2 = 0 then (some (v5, s)) else (some (v6, s))) else ((F_MD_monthsAt v1 v7 s).bind fun o4 => if v4 < o4.1 then (F_MD_latest_88 K56 v1 v2 v4 v6 v7 o4.1 v5 o4.2) else (F_MD_latest_88 K56 v1 v2 v4 v6 v7 o4.1 v7 o4.2))
def G_MD_latest_56 (v1 : Int32) (v2 : Int32) (v4 : Int32) (K56 : Int32 × Int32 × Int32 × St → Option (Int32 × St)) (q : Int32 × Int32 × Int32 × St) : Option (Int32 × St) := H_MD_latest_56 v1 v2 v4 K56 q.1 q.2.1 q.2.2.1 q.2.2.2
def F_MD_latest_56 (v1 : Int32) (v2 : Int32) (v4 : Int32) (v5 : Int32) (v6 : Int32) (v7 : Int32) (s : St) : Option (Int32 × St) := fixF (G_MD_latest_56 v1 v2 v4) FUEL (v5, v6, v7, s)
def F_MD_latest_27 (v1 : Int32) (v2 : Int32) (z0 : Int32) (s : St) : Option (Int32 × St) :=
  if z0 = 0 then ((F_MD_monthsAt v1 (0 : Int32) s).bind fun o3 => F_MD_latest_56 v1 v2 o3.1 (0 : Int32) o3.1 (1 : Int32) o3.2) else ((F_MD_no z0 s).bind fun o5 => some (o5.1, o5.2))
def F_MD_latest (a1 : Int32) (a2 : Int32) (s : St) : Option (Int32 × St) :=
  (F_MD_isPerson a1 s).bind fun o1 => if o1.1 = 0 then (F_MD_latest_27 a1 a2 (-1 : Int32) o1.2) else ((F_MD_isIn a2 (0 : Int32) (1 : Int32) o1.2).bind fun o2 => if o2.1 = 0 then (F_MD_latest_27 a1 a2 (-2 : Int32) o2.2) else (F_MD_latest_27 a1 a2 (0 : Int32) o2.2))
def F_MD_truth_180 (K23 : Int32 × Int32 × Int32 × St → Option (Int32 × St)) (v1 : Int32) (v2 : Int32) (v4 : Int32) (z0 : Int32) (z1 : Int32) (s : St) : Option (Int32 × St) :=
  (some (z1 + z0)).bind fun x11 => K23 (v2, x11, (v4 + 1), s)
def F_MD_truth_179 (K23 : Int32 × Int32 × Int32 × St → Option (Int32 × St)) (v1 : Int32) (v2 : Int32) (v4 : Int32) (z0 : Int32) (s : St) : Option (Int32 × St) :=
  F_MD_truth_180 K23 v1 v2 v4 (0 : Int32) z0 s
def F_MD_truth_145 (K23 : Int32 × Int32 × Int32 × St → Option (Int32 × St)) (v1 : Int32) (v3 : Int32) (v4 : Int32) (v5 : Int32) (z0 : Int32) (z1 : Int32) (s : St) : Option (Int32 × St) :=
  (some (z1 ||| z0)).bind fun x9 => (ldA s 73 v5).bind fun x10 => if x10 < 0 then (F_MD_truth_179 K23 v1 x9 v4 v3 s) else ((ldA s 73 v5).bind fun x12 => (ldA s 64 v5).bind fun x13 => if x12 = x13 then (F_MD_truth_180 K23 v1 x9 v4 (1 : Int32) v3 s) else (F_MD_truth_179 K23 v1 x9 v4 v3 s))
def F_MD_truth_120 (K23 : Int32 × Int32 × Int32 × St → Option (Int32 × St)) (v1 : Int32) (v2 : Int32) (v3 : Int32) (v4 : Int32) (v5 : Int32) (z0 : Int32) (z1 : Int32) (s : St) : Option (Int32 × St) :=
  (stA s 73 z1 z0).bind fun s6 => (ldA s6 73 v5).bind fun x7 => if 0 ≤ x7 then ((ldA s6 73 v5).bind fun x8 => F_MD_truth_145 K23 v1 v3 v4 v5 ((1 : Int32) <<< (x8 &&& 31)) v2 s6) else (F_MD_truth_145 K23 v1 v3 v4 v5 (0 : Int32) v2 s6)
def F_MD_truth_90 (K23 : Int32 × Int32 × Int32 × St → Option (Int32 × St)) (v1 : Int32) (v2 : Int32) (v3 : Int32) (v4 : Int32) (v5 : Int32) (z0 : Int32) (s : St) : Option (Int32 × St) :=
  if z0 = 0 then ((F_MD_best v5 v2 s).bind fun o5 => F_MD_truth_120 K23 v1 v2 v3 v4 v5 o5.1 v5 o5.2) else ((ldA s 64 v5).bind fun x14 => F_MD_truth_120 K23 v1 v2 v3 v4 v5 x14 v5 s)
def F_MD_truth_89 (K23 : Int32 × Int32 × Int32 × St → Option (Int32 × St)) (v1 : Int32) (v2 : Int32) (v3 : Int32) (v4 : Int32) (v5 : Int32) (s : St) : Option (Int32 × St) :=
  F_MD_truth_90 K23 v1 v2 v3 v4 v5 (0 : Int32) s
def H_MD_truth_23 (v1 : Int32) (K23 : Int32 × Int32 × Int32 × St → Option (Int32 × St)) (v2 : Int32) (v3 : Int32) (v4 : Int32) (s : St) : Option (Int32 × St) :=
  if (rd s 58 10) ≤ v4 then (if v1 = 0 then ((F_MD_allMonths s).bind fun o2 => some (o2.1, o2.2)) else (some (v3, s))) else ((ldA s 67 v4).bind fun x3 => (ldA s 64 x3).bind fun x4 => if (rd s 58 9) ≤ x4 then (F_MD_truth_89 K23 v1 v2 v3 v4 x3 s) else ((ldA s 64 x3).bind fun x15 => (F_MD_has v2 x15 s).bind fun o16 => if o16.1 = 0 then ((ldA o16.2 64 x3).bind fun x17 => (F_MD_may x3 x17 o16.2).bind fun o18 => if o18.1 = 0 then (F_MD_truth_89 K23 v1 v2 v3 v4 x3 o18.2) else (F_MD_truth_90 K23 v1 v2 v3 v4 x3 (1 : Int32) o18.2)) else (F_MD_truth_89 K23 v1 v2 v3 v4 x3 o16.2)))
def G_MD_truth_23 (v1 : Int32) (K23 : Int32 × Int32 × Int32 × St → Option (Int32 × St)) (q : Int32 × Int32 × Int32 × St) : Option (Int32 × St) := H_MD_truth_23 v1 K23 q.1 q.2.1 q.2.2.1 q.2.2.2
def F_MD_truth_23 (v1 : Int32) (v2 : Int32) (v3 : Int32) (v4 : Int32) (s : St) : Option (Int32 × St) := fixF (G_MD_truth_23 v1) FUEL (v2, v3, v4, s)
def F_MD_truth (a1 : Int32) (s : St) : Option (Int32 × St) :=
  (F_MD_isIn a1 (0 : Int32) (1 : Int32) s).bind fun o1 => if o1.1 = 0 then ((F_MD_no (-2 : Int32) o1.2).bind fun o19 => some (o19.1, o19.2)) else (F_MD_truth_23 a1 (0 : Int32) (0 : Int32) (0 : Int32) o1.2)
def F_MD_parole_61 (K10 : Int32 × Int32 × Int32 × St → Option (Int32 × St)) (v1 : Int32) (v2 : Int32) (v3 : Int32) (s : St) : Option (Int32 × St) :=
  K10 (v1, v2, (v3 + 1), s)
def H_MD_parole_10 (K10 : Int32 × Int32 × Int32 × St → Option (Int32 × St)) (v1 : Int32) (v2 : Int32) (v3 : Int32) (s : St) : Option (Int32 × St) :=
  if (rd s 58 10) ≤ v3 then (some (v2, s)) else ((ldA s 62 v3).bind fun x2 => (stA s 62 v3 (0 : Int32)).bind fun s3 => (F_MD_monthsNow s3).bind fun o4 => (stA o4.2 62 v3 x2).bind fun s5 => if o4.1 < v1 then (F_MD_parole_61 K10 o4.1 v3 v3 s5) else (F_MD_parole_61 K10 v1 v2 v3 s5))
def G_MD_parole_10 (K10 : Int32 × Int32 × Int32 × St → Option (Int32 × St)) (q : Int32 × Int32 × Int32 × St) : Option (Int32 × St) := H_MD_parole_10 K10 q.1 q.2.1 q.2.2.1 q.2.2.2
def F_MD_parole_10 (v1 : Int32) (v2 : Int32) (v3 : Int32) (s : St) : Option (Int32 × St) := fixF (G_MD_parole_10) FUEL (v1, v2, v3, s)
def F_MD_parole (s : St) : Option (Int32 × St) :=
  (F_MD_monthsNow s).bind fun o1 => F_MD_parole_10 o1.1 (-9 : Int32) (0 : Int32) o1.2
def F_MD_newBrothers_85 (K14 : Int32 × Int32 × Int32 × St → Option (Int32 × St)) (K27 : Int32 × Int32 × Int32 × St → Option (Int32 × St)) (v1 : Int32) (v2 : Int32) (v3 : Int32) (v4 : Int32) (s : St) : Option (Int32 × St) :=
  K27 (v1, v2, (v4 + 1), s)
def H_MD_newBrothers_27 (K14 : Int32 × Int32 × Int32 × St → Option (Int32 × St)) (v3 : Int32) (K27 : Int32 × Int32 × Int32 × St → Option (Int32 × St)) (v1 : Int32) (v2 : Int32) (v4 : Int32) (s : St) : Option (Int32 × St) :=
  if (rd s 58 10) ≤ v4 then (K14 (v1, v2, (v3 + 1), s)) else ((F_MD_passesAll (1 : Int32) (1 : Int32) s).bind fun s4 => (F_MD_areBrothers v3 v4 s4).bind fun s5 => (F_MD_findFromLast s5).bind fun s6 => (F_MD_allMonths s6).bind fun o7 => (F_MD_passesAll (1 : Int32) (0 : Int32) o7.2).bind fun s8 => if o7.1 < v1 then ((some (((10 : Int32) * v3) + v4)).bind fun x9 => F_MD_newBrothers_85 K14 K27 o7.1 x9 v3 v4 s8) else (F_MD_newBrothers_85 K14 K27 v1 v2 v3 v4 s8))
def G_MD_newBrothers_27 (K14 : Int32 × Int32 × Int32 × St → Option (Int32 × St)) (v3 : Int32) (K27 : Int32 × Int32 × Int32 × St → Option (Int32 × St)) (q : Int32 × Int32 × Int32 × St) : Option (Int32 × St) := H_MD_newBrothers_27 K14 v3 K27 q.1 q.2.1 q.2.2.1 q.2.2.2
def F_MD_newBrothers_27 (K14 : Int32 × Int32 × Int32 × St → Option (Int32 × St)) (v1 : Int32) (v2 : Int32) (v3 : Int32) (v4 : Int32) (s : St) : Option (Int32 × St) := fixF (G_MD_newBrothers_27 K14 v3) FUEL (v1, v2, v4, s)
def H_MD_newBrothers_14 (K14 : Int32 × Int32 × Int32 × St → Option (Int32 × St)) (v1 : Int32) (v2 : Int32) (v3 : Int32) (s : St) : Option (Int32 × St) :=
  if (rd s 58 10) ≤ v3 then (some (v2, s)) else ((some (v3 + (1 : Int32))).bind fun x3 => F_MD_newBrothers_27 K14 v1 v2 v3 x3 s)
def G_MD_newBrothers_14 (K14 : Int32 × Int32 × Int32 × St → Option (Int32 × St)) (q : Int32 × Int32 × Int32 × St) : Option (Int32 × St) := H_MD_newBrothers_14 K14 q.1 q.2.1 q.2.2.1 q.2.2.2
def F_MD_newBrothers_14 (v1 : Int32) (v2 : Int32) (v3 : Int32) (s : St) : Option (Int32 × St) := fixF (G_MD_newBrothers_14) FUEL (v1, v2, v3, s)
def F_MD_newBrothers (s : St) : Option (Int32 × St) :=
  (F_MD_findFromLast s).bind fun s1 => (F_MD_allMonths s1).bind fun o2 => F_MD_newBrothers_14 o2.1 (-9 : Int32) (0 : Int32) o2.2
def F_MD_madeLight_61 (K10 : Int32 × Int32 × Int32 × St → Option (Int32 × St)) (v1 : Int32) (v2 : Int32) (v3 : Int32) (s : St) : Option (Int32 × St) :=
  K10 (v1, v2, (v3 + 1), s)
def H_MD_madeLight_10 (K10 : Int32 × Int32 × Int32 × St → Option (Int32 × St)) (v1 : Int32) (v2 : Int32) (v3 : Int32) (s : St) : Option (Int32 × St) :=
  if (rd s 58 9) ≤ v3 then (some (v2, s)) else ((ldA s 60 v3).bind fun x2 => (stA s 60 v3 (2 : Int32)).bind fun s3 => (F_MD_monthsNow s3).bind fun o4 => (stA o4.2 60 v3 x2).bind fun s5 => if o4.1 < v1 then (F_MD_madeLight_61 K10 o4.1 v3 v3 s5) else (F_MD_madeLight_61 K10 v1 v2 v3 s5))
def G_MD_madeLight_10 (K10 : Int32 × Int32 × Int32 × St → Option (Int32 × St)) (q : Int32 × Int32 × Int32 × St) : Option (Int32 × St) := H_MD_madeLight_10 K10 q.1 q.2.1 q.2.2.1 q.2.2.2
def F_MD_madeLight_10 (v1 : Int32) (v2 : Int32) (v3 : Int32) (s : St) : Option (Int32 × St) := fixF (G_MD_madeLight_10) FUEL (v1, v2, v3, s)
def F_MD_madeLight (s : St) : Option (Int32 × St) :=
  (F_MD_monthsNow s).bind fun o1 => F_MD_madeLight_10 o1.1 (-9 : Int32) (0 : Int32) o1.2
def H_MD_always_57 (v1 : Int32) (K57 : Int32 × St → Option (Int32 × St)) (v2 : Int32) (s : St) : Option (Int32 × St) :=
  if (rd s 58 10) ≤ v2 then ((F_MD_goesBy s).bind fun s6 => (F_MD_takenBits s6).bind fun o7 => some ((v1 &&& o7.1), o7.2)) else (if (rd s 58 10) = 0 then none else (ldA s 67 ((v2 + (1 : Int32)) - (v2 + (1 : Int32)) / (rd s 58 10) * (rd s 58 10))).bind fun x8 => (stA s 74 v2 x8).bind fun s9 => K57 ((v2 + 1), s9))
def G_MD_always_57 (v1 : Int32) (K57 : Int32 × St → Option (Int32 × St)) (q : Int32 × St) : Option (Int32 × St) := H_MD_always_57 v1 K57 q.1 q.2
def F_MD_always_57 (v1 : Int32) (v2 : Int32) (s : St) : Option (Int32 × St) := fixF (G_MD_always_57 v1) FUEL (v2, s)
def H_MD_always_11 (v1 : Int32) (K11 : Int32 × St → Option (Int32 × St)) (v2 : Int32) (s : St) : Option (Int32 × St) :=
  if (rd s 58 10) ≤ v2 then ((F_MD_goesBy s).bind fun s3 => (F_MD_takenBits s3).bind fun o4 => (some (v1 &&& o4.1)).bind fun x5 => F_MD_always_57 x5 (0 : Int32) o4.2) else ((ldA s 67 (((rd s 58 10) - (1 : Int32)) - v2)).bind fun x10 => (stA s 74 v2 x10).bind fun s11 => K11 ((v2 + 1), s11))
def G_MD_always_11 (v1 : Int32) (K11 : Int32 × St → Option (Int32 × St)) (q : Int32 × St) : Option (Int32 × St) := H_MD_always_11 v1 K11 q.1 q.2
def F_MD_always_11 (v1 : Int32) (v2 : Int32) (s : St) : Option (Int32 × St) := fixF (G_MD_always_11 v1) FUEL (v2, s)
def F_MD_always (s : St) : Option (Int32 × St) :=
  (F_MD_goes s).bind fun s1 => (F_MD_takenBits s1).bind fun o2 => F_MD_always_11 o2.1 (0 : Int32) o2.2
def F_MD_row_24 (v1 : Int32) (v2 : Int32) (s : St) : Option (Int32 × St) :=
  if v2 = 0 then ((stA s 81 (rd s 58 35) v1).bind fun s2 => (some (wr s2 58 35 ((rd s2 58 35) + (1 : Int32)))).bind fun s3 => some ((rd s3 58 35), s3)) else ((F_MD_no v2 s).bind fun o4 => some (o4.1, o4.2))
def F_MD_row (a1 : Int32) (s : St) : Option (Int32 × St) :=
  (F_MD_bound a1 (0 : Int32) (9 : Int32) s).bind fun o1 => if o1.1 = 0 then (if (rd o1.2 58 35) = (12 : Int32) then (F_MD_row_24 a1 (-6 : Int32) o1.2) else (F_MD_row_24 a1 o1.1 o1.2)) else (F_MD_row_24 a1 o1.1 o1.2)
def F_MD_firstOther_38 (K2 : Int32 × St → Option (Int32 × St)) (v1 : Int32) (z0 : Int32) (s : St) : Option (Int32 × St) :=
  (ldA s 81 v1).bind fun x3 => if z0 = x3 then (K2 ((v1 + 1), s)) else (some (v1, s))
def H_MD_firstOther_2 (K2 : Int32 × St → Option (Int32 × St)) (v1 : Int32) (s : St) : Option (Int32 × St) :=
  if (rd s 58 35) ≤ v1 then (some ((-9 : Int32), s)) else (if (rd s 58 10) ≤ v1 then (some (v1, s)) else ((ldA s 73 v1).bind fun x1 => if 0 ≤ x1 then ((ldA s 73 v1).bind fun x2 => F_MD_firstOther_38 K2 v1 x2 s) else (F_MD_firstOther_38 K2 v1 (9 : Int32) s)))
def G_MD_firstOther_2 (K2 : Int32 × St → Option (Int32 × St)) (q : Int32 × St) : Option (Int32 × St) := H_MD_firstOther_2 K2 q.1 q.2
def F_MD_firstOther_2 (v1 : Int32) (s : St) : Option (Int32 × St) := fixF (G_MD_firstOther_2) FUEL (v1, s)
def F_MD_firstOther (s : St) : Option (Int32 × St) :=
  F_MD_firstOther_2 (0 : Int32) s
def F_MD_judge (s : St) : Option (Int32 × St) :=
  (F_MD_goes s).bind fun s1 => (F_MD_firstOther s1).bind fun o2 => (some (wr o2.2 58 35 (0 : Int32))).bind fun s3 => some (o2.1, s3)
def F_MD_fits_68 (K21 : Int32 × Int32 × St → Option (Int32 × St)) (v1 : Int32) (v3 : Int32) (v4 : Int32) (s : St) : Option (Int32 × St) :=
  K21 (v3, (v4 + 1), s)
def F_MD_fits_65 (K21 : Int32 × Int32 × St → Option (Int32 × St)) (v1 : Int32) (v3 : Int32) (v4 : Int32) (s : St) : Option (Int32 × St) :=
  F_MD_fits_68 K21 v1 (v3 + 1) v4 s
def H_MD_fits_21 (v1 : Int32) (K21 : Int32 × Int32 × St → Option (Int32 × St)) (v3 : Int32) (v4 : Int32) (s : St) : Option (Int32 × St) :=
  (F_MD_numbers s).bind fun o2 => if o2.1 ≤ v4 then (if 0 ≤ v1 then (if v3 = 0 then (some ((-9 : Int32), o2.2)) else ((F_MD_foundOr v1 o2.2).bind fun o3 => some (o3.1, o3.2))) else (some (v3, o2.2))) else ((F_MD_laysOrder v4 o2.2).bind fun o4 => if o4.1 = 0 then (F_MD_fits_68 K21 v1 v3 v4 o4.2) else ((F_MD_goesBy o4.2).bind fun s5 => (F_MD_firstOther s5).bind fun o6 => if o6.1 < 0 then (if v3 = 0 then ((F_MD_keepsFound (0 : Int32) o6.2).bind fun s7 => F_MD_fits_65 K21 v1 v3 v4 s7) else (F_MD_fits_65 K21 v1 v3 v4 o6.2)) else (F_MD_fits_68 K21 v1 v3 v4 o6.2)))
def G_MD_fits_21 (v1 : Int32) (K21 : Int32 × Int32 × St → Option (Int32 × St)) (q : Int32 × Int32 × St) : Option (Int32 × St) := H_MD_fits_21 v1 K21 q.1 q.2.1 q.2.2
def F_MD_fits_21 (v1 : Int32) (v3 : Int32) (v4 : Int32) (s : St) : Option (Int32 × St) := fixF (G_MD_fits_21 v1) FUEL (v3, v4, s)
def F_MD_fits (a1 : Int32) (s : St) : Option (Int32 × St) :=
  (F_MD_notFew a1 s).bind fun o1 => if o1.1 = 0 then (F_MD_fits_21 a1 (0 : Int32) (0 : Int32) o1.2) else ((F_MD_no o1.1 o1.2).bind fun o8 => some (o8.1, o8.2))
def F_MD_clear (s : St) : Option (Int32 × St) :=
  (some (rd s 58 35)).bind fun x1 => (some (wr s 58 35 (0 : Int32))).bind fun s2 => some (x1, s2)
def F_MD_lots_137 (K57 : Int32 × Int32 × Int32 × Int32 × St → Option (Int32 × St)) (v1 : Int32) (v3 : Int32) (v5 : Int32) (v6 : Int32) (v8 : Int32) (z0 : Int32) (z1 : Int32) (s : St) : Option (Int32 × St) :=
  (some (z1 + z0)).bind fun x7 => K57 (v5, v6, x7, (v8 + 1), s)
def H_MD_lots_66 (K57 : Int32 × Int32 × Int32 × Int32 × St → Option (Int32 × St)) (v1 : Int32) (v3 : Int32) (v6 : Int32) (v7 : Int32) (v8 : Int32) (K66 : Int32 × Int32 × St → Option (Int32 × St)) (v5 : Int32) (v9 : Int32) (s : St) : Option (Int32 × St) :=
  if (rd s 58 10) ≤ v9 then ((F_MD_monthsNow s).bind fun o4 => (some (v6 + o4.1)).bind fun x5 => (F_MD_firstWithout o4.2).bind fun o6 => if 0 ≤ o6.1 then (F_MD_lots_137 K57 v1 v3 v5 x5 v8 (0 : Int32) v7 o6.2) else (F_MD_lots_137 K57 v1 v3 v5 x5 v8 (1 : Int32) v7 o6.2)) else ((some ((v5 * (1103515245 : Int32)) + (12345 : Int32))).bind fun x8 => (stA s 63 v9 (((x8 &&& (2147483647 : Int32)) / (65536 : Int32)) - ((x8 &&& (2147483647 : Int32)) / (65536 : Int32)) / (128 : Int32) * (128 : Int32))).bind fun s9 => K66 (x8, (v9 + 1), s9))
def G_MD_lots_66 (K57 : Int32 × Int32 × Int32 × Int32 × St → Option (Int32 × St)) (v1 : Int32) (v3 : Int32) (v6 : Int32) (v7 : Int32) (v8 : Int32) (K66 : Int32 × Int32 × St → Option (Int32 × St)) (q : Int32 × Int32 × St) : Option (Int32 × St) := H_MD_lots_66 K57 v1 v3 v6 v7 v8 K66 q.1 q.2.1 q.2.2
def F_MD_lots_66 (K57 : Int32 × Int32 × Int32 × Int32 × St → Option (Int32 × St)) (v1 : Int32) (v3 : Int32) (v5 : Int32) (v6 : Int32) (v7 : Int32) (v8 : Int32) (v9 : Int32) (s : St) : Option (Int32 × St) := fixF (G_MD_lots_66 K57 v1 v3 v6 v7 v8) FUEL (v5, v9, s)
def H_MD_lots_57 (v1 : Int32) (v3 : Int32) (K57 : Int32 × Int32 × Int32 × Int32 × St → Option (Int32 × St)) (v5 : Int32) (v6 : Int32) (v7 : Int32) (v8 : Int32) (s : St) : Option (Int32 × St) :=
  if v1 ≤ v8 then ((F_MD_passesAll (1 : Int32) (0 : Int32) s).bind fun s3 => if v3 = 0 then (some (v6, s3)) else (some (v7, s3))) else (F_MD_lots_66 K57 v1 v3 v5 v6 v7 v8 (0 : Int32) s)
def G_MD_lots_57 (v1 : Int32) (v3 : Int32) (K57 : Int32 × Int32 × Int32 × Int32 × St → Option (Int32 × St)) (q : Int32 × Int32 × Int32 × Int32 × St) : Option (Int32 × St) := H_MD_lots_57 v1 v3 K57 q.1 q.2.1 q.2.2.1 q.2.2.2.1 q.2.2.2.2
def F_MD_lots_57 (v1 : Int32) (v3 : Int32) (v5 : Int32) (v6 : Int32) (v7 : Int32) (v8 : Int32) (s : St) : Option (Int32 × St) := fixF (G_MD_lots_57 v1 v3) FUEL (v5, v6, v7, v8, s)
def F_MD_lots_27 (v1 : Int32) (v2 : Int32) (v3 : Int32) (v4 : Int32) (s : St) : Option (Int32 × St) :=
  if v4 = 0 then ((F_MD_passesAll (1 : Int32) (1 : Int32) s).bind fun s2 => F_MD_lots_57 v1 v3 v2 (0 : Int32) (0 : Int32) (0 : Int32) s2) else ((F_MD_no v4 s).bind fun o10 => some (o10.1, o10.2))
def F_MD_lots (a1 : Int32) (a2 : Int32) (a3 : Int32) (s : St) : Option (Int32 × St) :=
  (F_MD_bound a1 (1 : Int32) (20 : Int32) s).bind fun o1 => if o1.1 = 0 then ((F_MD_isIn a3 (0 : Int32) (1 : Int32) o1.2).bind fun o11 => if o11.1 = 0 then (F_MD_lots_27 a1 a2 a3 (-2 : Int32) o11.2) else (F_MD_lots_27 a1 a2 a3 o1.1 o11.2)) else (F_MD_lots_27 a1 a2 a3 o1.1 o1.2)
def H_MD_alibisOf_4 (v1 : Int32) (K4 : Int32 × Int32 × St → Option (Int32 × St)) (v2 : Int32) (v3 : Int32) (s : St) : Option (Int32 × St) :=
  if (7 : Int32) ≤ v3 then (some (v2, s)) else ((ldA s 66 v1).bind fun x1 => (some (v2 + ((x1 >>> (v3 &&& 31)) &&& (1 : Int32)))).bind fun x2 => K4 (x2, (v3 + 1), s))
def G_MD_alibisOf_4 (v1 : Int32) (K4 : Int32 × Int32 × St → Option (Int32 × St)) (q : Int32 × Int32 × St) : Option (Int32 × St) := H_MD_alibisOf_4 v1 K4 q.1 q.2.1 q.2.2
def F_MD_alibisOf_4 (v1 : Int32) (v2 : Int32) (v3 : Int32) (s : St) : Option (Int32 × St) := fixF (G_MD_alibisOf_4 v1) FUEL (v2, v3, s)
def F_MD_alibisOf (a1 : Int32) (s : St) : Option (Int32 × St) :=
  F_MD_alibisOf_4 a1 (0 : Int32) (0 : Int32) s
def H_MD_count_80 (K80 : Int32 × Int32 × St → Option (Int32 × St)) (v2 : Int32) (v3 : Int32) (s : St) : Option (Int32 × St) :=
  if (rd s 58 10) ≤ v3 then (some (v2, s)) else ((ldA s 62 v3).bind fun x2 => (some (v2 + x2)).bind fun x3 => K80 (x3, (v3 + 1), s))
def G_MD_count_80 (K80 : Int32 × Int32 × St → Option (Int32 × St)) (q : Int32 × Int32 × St) : Option (Int32 × St) := H_MD_count_80 K80 q.1 q.2.1 q.2.2
def F_MD_count_80 (v2 : Int32) (v3 : Int32) (s : St) : Option (Int32 × St) := fixF (G_MD_count_80) FUEL (v2, v3, s)
def H_MD_count_107 (K107 : Int32 × Int32 × St → Option (Int32 × St)) (v2 : Int32) (v3 : Int32) (s : St) : Option (Int32 × St) :=
  if (rd s 58 10) ≤ v3 then (some (v2, s)) else ((F_MD_alibisOf v3 s).bind fun o4 => (some (v2 + o4.1)).bind fun x5 => K107 (x5, (v3 + 1), o4.2))
def G_MD_count_107 (K107 : Int32 × Int32 × St → Option (Int32 × St)) (q : Int32 × Int32 × St) : Option (Int32 × St) := H_MD_count_107 K107 q.1 q.2.1 q.2.2
def F_MD_count_107 (v2 : Int32) (v3 : Int32) (s : St) : Option (Int32 × St) := fixF (G_MD_count_107) FUEL (v2, v3, s)
def F_MD_count (a1 : Int32) (s : St) : Option (Int32 × St) :=
  (F_MD_isIn a1 (11 : Int32) (16 : Int32) s).bind fun o1 => if o1.1 = 0 then (if a1 = 0 then (some ((rd o1.2 58 10), o1.2)) else if a1 = 1 then (some ((rd o1.2 58 9), o1.2)) else if a1 = 2 then (F_MD_count_80 (0 : Int32) (0 : Int32) o1.2) else if a1 = 3 then (F_MD_count_107 (0 : Int32) (0 : Int32) o1.2) else if a1 = 4 then (some ((rd o1.2 58 15), o1.2)) else if a1 = 5 then (some ((rd o1.2 58 35), o1.2)) else if a1 = 6 then (some ((rd o1.2 58 22), o1.2)) else (some ((-9 : Int32), o1.2))) else ((ldA o1.2 59 (a1 - (10 : Int32))).bind fun x6 => some (x6, o1.2))
