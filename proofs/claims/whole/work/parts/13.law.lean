def ldS (xs : Nat → Int32) (L : Nat) (j : Int32) : Option Int32 := if inB j L = true then some (xs j.toNatClampNeg) else none
section SCR
variable {G : MCx} {O : Type} {Z : O → Prop} {X : Option O} {own : String} {cc : ByteArray} {nL d pc pn : Nat} {lv : List (Nat × Value)} {st : List Value} {σ : St} {b L : Nat} {xs : Nat → Int32}
theorem VO_sld (hC : C0 G own cc nL d) (hX : va_X b L xs (gs G) (gs G).heap) (hbl : b < (gs G).heap.size) (hbA : ¬ gA G b) {j : Int32} {K : Int32 → Option O} (hd : DR cc pc .iaload 1 pn) (k : ∀ v, VO G Z (K v) pn lv (.int v :: st) σ) : VO G Z ((ldS xs L j).bind K) pc lv (.int j :: .ref b :: st) σ := by
  intro o ho hz H locs ls hP hS h
  obtain ⟨h1, rfl⟩ := hd
  unfold ldS at ho
  by_cases hb : inB j L = true
  · rw [if_pos hb] at ho
    exact va_sld hC.1 hC.2.1 hX hbl hbA hS (inB_in hb) h1 (k _ o ho hz H locs ls hP hS h)
  · rw [if_neg hb] at ho; cases ho
theorem VO_slen (hC : C0 G own cc nL d) (hX : va_X b L xs (gs G) (gs G).heap) (hbl : b < (gs G).heap.size) (hbA : ¬ gA G b) (hd : DR cc pc .arraylength 1 pn) (k : VO G Z X pn lv (.int (nI L) :: st) σ) : VO G Z X pc lv (.ref b :: st) σ := by
  intro o ho hz H locs ls hP hS h
  obtain ⟨h1, rfl⟩ := hd
  exact va_slen hC.1 hC.2.1 hX hbl hbA hS h1 (k o ho hz H locs ls hP hS h)
end SCR
def F_LW_1460 (L : Nat) (xs : Nat → Int32) (K18 : Int32 × St → Option (Int32 × St)) (v3 : Int32) (s : St) : Option (Int32 × St) :=
  K18 ((v3 + 4), s)
def H_LW_18 (L : Nat) (xs : Nat → Int32) (K18 : Int32 × St → Option (Int32 × St)) (v3 : Int32) (s : St) : Option (Int32 × St) :=
  if ((nI L) - (4 : Int32)) < v3 then (some (1, s)) else ((ldS xs L v3).bind fun x1 => (some (x1 &&& (63 : Int32))).bind fun x2 => if x2 = 0 then ((ldS xs L (v3 + (1 : Int32))).bind fun x3 => (F_AC_feed x3 s).bind fun o4 => (ldS xs L (v3 + (1 : Int32))).bind fun x5 => (F_MD_feed x5 o4.2).bind fun o6 => if o4.1 = o6.1 then (F_LW_1460 L xs K18 v3 o6.2) else (some (0, o6.2))) else if x2 = 1 then ((F_AC_night s).bind fun o7 => (F_MD_night o7.2).bind fun o8 => if o7.1 = o8.1 then (F_LW_1460 L xs K18 v3 o8.2) else (some (0, o8.2))) else if x2 = 2 then ((ldS xs L (v3 + (1 : Int32))).bind fun x9 => (ldS xs L (v3 + (2 : Int32))).bind fun x10 => (F_AC_deed x9 x10 s).bind fun o11 => (ldS xs L (v3 + (1 : Int32))).bind fun x12 => (ldS xs L (v3 + (2 : Int32))).bind fun x13 => (F_MD_deed x12 x13 o11.2).bind fun o14 => if o11.1 = o14.1 then (F_LW_1460 L xs K18 v3 o14.2) else (some (0, o14.2))) else if x2 = 3 then ((ldS xs L (v3 + (1 : Int32))).bind fun x15 => (ldS xs L (v3 + (2 : Int32))).bind fun x16 => (F_AC_person x15 x16 s).bind fun o17 => (ldS xs L (v3 + (1 : Int32))).bind fun x18 => (ldS xs L (v3 + (2 : Int32))).bind fun x19 => (F_MD_person x18 x19 o17.2).bind fun o20 => if o17.1 = o20.1 then (F_LW_1460 L xs K18 v3 o20.2) else (some (0, o20.2))) else if x2 = 4 then ((ldS xs L (v3 + (1 : Int32))).bind fun x21 => (ldS xs L (v3 + (2 : Int32))).bind fun x22 => (F_AC_months x21 x22 s).bind fun o23 => (ldS xs L (v3 + (1 : Int32))).bind fun x24 => (ldS xs L (v3 + (2 : Int32))).bind fun x25 => (F_MD_months x24 x25 o23.2).bind fun o26 => if o23.1 = o26.1 then (F_LW_1460 L xs K18 v3 o26.2) else (some (0, o26.2))) else if x2 = 5 then ((ldS xs L (v3 + (1 : Int32))).bind fun x27 => (ldS xs L (v3 + (2 : Int32))).bind fun x28 => (F_AC_addDeed x27 x28 s).bind fun o29 => (ldS xs L (v3 + (1 : Int32))).bind fun x30 => (ldS xs L (v3 + (2 : Int32))).bind fun x31 => (F_MD_addDeed x30 x31 o29.2).bind fun o32 => if o29.1 = o32.1 then (F_LW_1460 L xs K18 v3 o32.2) else (some (0, o32.2))) else if x2 = 6 then ((ldS xs L (v3 + (1 : Int32))).bind fun x33 => (ldS xs L (v3 + (2 : Int32))).bind fun x34 => (ldS xs L (v3 + (3 : Int32))).bind fun x35 => (F_AC_addPerson x33 x34 x35 s).bind fun o36 => (ldS xs L (v3 + (1 : Int32))).bind fun x37 => (ldS xs L (v3 + (2 : Int32))).bind fun x38 => (ldS xs L (v3 + (3 : Int32))).bind fun x39 => (F_MD_addPerson x37 x38 x39 o36.2).bind fun o40 => if o36.1 = o40.1 then (F_LW_1460 L xs K18 v3 o40.2) else (some (0, o40.2))) else if x2 = 7 then ((ldS xs L (v3 + (1 : Int32))).bind fun x41 => (ldS xs L (v3 + (2 : Int32))).bind fun x42 => (F_AC_change x41 x42 s).bind fun o43 => (ldS xs L (v3 + (1 : Int32))).bind fun x44 => (ldS xs L (v3 + (2 : Int32))).bind fun x45 => (F_MD_change x44 x45 o43.2).bind fun o46 => if o43.1 = o46.1 then (F_LW_1460 L xs K18 v3 o46.2) else (some (0, o46.2))) else if x2 = 8 then ((ldS xs L (v3 + (1 : Int32))).bind fun x47 => (ldS xs L (v3 + (2 : Int32))).bind fun x48 => (F_AC_alibi x47 x48 s).bind fun o49 => (ldS xs L (v3 + (1 : Int32))).bind fun x50 => (ldS xs L (v3 + (2 : Int32))).bind fun x51 => (F_MD_alibi x50 x51 o49.2).bind fun o52 => if o49.1 = o52.1 then (F_LW_1460 L xs K18 v3 o52.2) else (some (0, o52.2))) else if x2 = 9 then ((ldS xs L (v3 + (1 : Int32))).bind fun x53 => (ldS xs L (v3 + (2 : Int32))).bind fun x54 => (F_AC_brothers x53 x54 s).bind fun o55 => (ldS xs L (v3 + (1 : Int32))).bind fun x56 => (ldS xs L (v3 + (2 : Int32))).bind fun x57 => (F_MD_brothers x56 x57 o55.2).bind fun o58 => if o55.1 = o58.1 then (F_LW_1460 L xs K18 v3 o58.2) else (some (0, o58.2))) else if x2 = 10 then ((F_AC_back s).bind fun o59 => (F_MD_back o59.2).bind fun o60 => if o59.1 = o60.1 then (F_LW_1460 L xs K18 v3 o60.2) else (some (0, o60.2))) else if x2 = 11 then ((ldS xs L (v3 + (1 : Int32))).bind fun x61 => (ldS xs L (v3 + (2 : Int32))).bind fun x62 => (F_AC_takes x61 x62 s).bind fun o63 => (ldS xs L (v3 + (1 : Int32))).bind fun x64 => (ldS xs L (v3 + (2 : Int32))).bind fun x65 => (F_MD_takes x64 x65 o63.2).bind fun o66 => if o63.1 = o66.1 then (F_LW_1460 L xs K18 v3 o66.2) else (some (0, o66.2))) else if x2 = 12 then ((ldS xs L (v3 + (1 : Int32))).bind fun x67 => (F_AC_morning x67 s).bind fun o68 => (ldS xs L (v3 + (1 : Int32))).bind fun x69 => (F_MD_morning x69 o68.2).bind fun o70 => if o68.1 = o70.1 then (F_LW_1460 L xs K18 v3 o70.2) else (some (0, o70.2))) else if x2 = 13 then ((ldS xs L (v3 + (1 : Int32))).bind fun x71 => (F_AC_least x71 s).bind fun o72 => (ldS xs L (v3 + (1 : Int32))).bind fun x73 => (F_MD_least x73 o72.2).bind fun o74 => if o72.1 = o74.1 then (F_LW_1460 L xs K18 v3 o74.2) else (some (0, o74.2))) else if x2 = 14 then ((ldS xs L (v3 + (1 : Int32))).bind fun x75 => (ldS xs L (v3 + (2 : Int32))).bind fun x76 => (F_AC_fromLast x75 x76 s).bind fun o77 => (ldS xs L (v3 + (1 : Int32))).bind fun x78 => (ldS xs L (v3 + (2 : Int32))).bind fun x79 => (F_MD_fromLast x78 x79 o77.2).bind fun o80 => if o77.1 = o80.1 then (F_LW_1460 L xs K18 v3 o80.2) else (some (0, o80.2))) else if x2 = 15 then ((F_AC_allFromLast s).bind fun o81 => (F_MD_allFromLast o81.2).bind fun o82 => if o81.1 = o82.1 then (F_LW_1460 L xs K18 v3 o82.2) else (some (0, o82.2))) else if x2 = 16 then ((ldS xs L (v3 + (1 : Int32))).bind fun x83 => (ldS xs L (v3 + (2 : Int32))).bind fun x84 => (F_AC_whose x83 x84 s).bind fun o85 => (ldS xs L (v3 + (1 : Int32))).bind fun x86 => (ldS xs L (v3 + (2 : Int32))).bind fun x87 => (F_MD_whose x86 x87 o85.2).bind fun o88 => if (lg_cmp o85.1 o88.1) = 0 then (F_LW_1460 L xs K18 v3 o88.2) else (some (0, o88.2))) else if x2 = 17 then ((ldS xs L (v3 + (1 : Int32))).bind fun x89 => (ldS xs L (v3 + (2 : Int32))).bind fun x90 => (F_AC_rule x89 x90 s).bind fun o91 => (ldS xs L (v3 + (1 : Int32))).bind fun x92 => (ldS xs L (v3 + (2 : Int32))).bind fun x93 => (F_MD_rule x92 x93 o91.2).bind fun o94 => if o91.1 = o94.1 then (F_LW_1460 L xs K18 v3 o94.2) else (some (0, o94.2))) else if x2 = 18 then ((F_AC_bestRule s).bind fun o95 => (F_MD_bestRule o95.2).bind fun o96 => if o95.1 = o96.1 then (F_LW_1460 L xs K18 v3 o96.2) else (some (0, o96.2))) else if x2 = 19 then ((ldS xs L (v3 + (1 : Int32))).bind fun x97 => (F_AC_placeWorth x97 s).bind fun o98 => (ldS xs L (v3 + (1 : Int32))).bind fun x99 => (F_MD_placeWorth x99 o98.2).bind fun o100 => if o98.1 = o100.1 then (F_LW_1460 L xs K18 v3 o100.2) else (some (0, o100.2))) else if x2 = 20 then ((F_AC_changes s).bind fun o101 => (F_MD_changes o101.2).bind fun o102 => if o101.1 = o102.1 then (F_LW_1460 L xs K18 v3 o102.2) else (some (0, o102.2))) else if x2 = 21 then ((ldS xs L (v3 + (1 : Int32))).bind fun x103 => (F_AC_bestOrder x103 s).bind fun o104 => (ldS xs L (v3 + (1 : Int32))).bind fun x105 => (F_MD_bestOrder x105 o104.2).bind fun o106 => if o104.1 = o106.1 then (F_LW_1460 L xs K18 v3 o106.2) else (some (0, o106.2))) else if x2 = 22 then ((ldS xs L (v3 + (1 : Int32))).bind fun x107 => (ldS xs L (v3 + (2 : Int32))).bind fun x108 => (F_AC_putIn x107 x108 s).bind fun o109 => (ldS xs L (v3 + (1 : Int32))).bind fun x110 => (ldS xs L (v3 + (2 : Int32))).bind fun x111 => (F_MD_putIn x110 x111 o109.2).bind fun o112 => if o109.1 = o112.1 then (F_LW_1460 L xs K18 v3 o112.2) else (some (0, o112.2))) else if x2 = 23 then ((ldS xs L (v3 + (1 : Int32))).bind fun x113 => (ldS xs L (v3 + (2 : Int32))).bind fun x114 => (F_AC_together x113 x114 s).bind fun o115 => (ldS xs L (v3 + (1 : Int32))).bind fun x116 => (ldS xs L (v3 + (2 : Int32))).bind fun x117 => (F_MD_together x116 x117 o115.2).bind fun o118 => if o115.1 = o118.1 then (F_LW_1460 L xs K18 v3 o118.2) else (some (0, o118.2))) else if x2 = 24 then ((ldS xs L (v3 + (1 : Int32))).bind fun x119 => (ldS xs L (v3 + (2 : Int32))).bind fun x120 => (F_AC_alibiWorth x119 x120 s).bind fun o121 => (ldS xs L (v3 + (1 : Int32))).bind fun x122 => (ldS xs L (v3 + (2 : Int32))).bind fun x123 => (F_MD_alibiWorth x122 x123 o121.2).bind fun o124 => if o121.1 = o124.1 then (F_LW_1460 L xs K18 v3 o124.2) else (some (0, o124.2))) else if x2 = 25 then ((F_AC_givenAway s).bind fun o125 => (F_MD_givenAway o125.2).bind fun o126 => if o125.1 = o126.1 then (F_LW_1460 L xs K18 v3 o126.2) else (some (0, o126.2))) else if x2 = 26 then ((ldS xs L (v3 + (1 : Int32))).bind fun x127 => (ldS xs L (v3 + (2 : Int32))).bind fun x128 => (ldS xs L (v3 + (3 : Int32))).bind fun x129 => (F_AC_caught x127 x128 x129 s).bind fun o130 => (ldS xs L (v3 + (1 : Int32))).bind fun x131 => (ldS xs L (v3 + (2 : Int32))).bind fun x132 => (ldS xs L (v3 + (3 : Int32))).bind fun x133 => (F_MD_caught x131 x132 x133 o130.2).bind fun o134 => if (lg_cmp o130.1 o134.1) = 0 then (F_LW_1460 L xs K18 v3 o134.2) else (some (0, o134.2))) else if x2 = 27 then ((F_AC_spared s).bind fun o135 => (F_MD_spared o135.2).bind fun o136 => if o135.1 = o136.1 then (F_LW_1460 L xs K18 v3 o136.2) else (some (0, o136.2))) else if x2 = 28 then ((F_AC_keeper s).bind fun o137 => (F_MD_keeper o137.2).bind fun o138 => if o137.1 = o138.1 then (F_LW_1460 L xs K18 v3 o138.2) else (some (0, o138.2))) else if x2 = 29 then ((ldS xs L (v3 + (1 : Int32))).bind fun x139 => (F_AC_swaps x139 s).bind fun o140 => (ldS xs L (v3 + (1 : Int32))).bind fun x141 => (F_MD_swaps x141 o140.2).bind fun o142 => if o140.1 = o142.1 then (F_LW_1460 L xs K18 v3 o142.2) else (some (0, o142.2))) else if x2 = 30 then ((ldS xs L (v3 + (1 : Int32))).bind fun x143 => (ldS xs L (v3 + (2 : Int32))).bind fun x144 => (F_AC_heavier x143 x144 s).bind fun o145 => (ldS xs L (v3 + (1 : Int32))).bind fun x146 => (ldS xs L (v3 + (2 : Int32))).bind fun x147 => (F_MD_heavier x146 x147 o145.2).bind fun o148 => if o145.1 = o148.1 then (F_LW_1460 L xs K18 v3 o148.2) else (some (0, o148.2))) else if x2 = 31 then ((ldS xs L (v3 + (1 : Int32))).bind fun x149 => (F_AC_bestDid x149 s).bind fun o150 => (ldS xs L (v3 + (1 : Int32))).bind fun x151 => (F_MD_bestDid x151 o150.2).bind fun o152 => if o150.1 = o152.1 then (F_LW_1460 L xs K18 v3 o152.2) else (some (0, o152.2))) else if x2 = 32 then ((ldS xs L (v3 + (1 : Int32))).bind fun x153 => (F_AC_rest x153 s).bind fun o154 => (ldS xs L (v3 + (1 : Int32))).bind fun x155 => (F_MD_rest x155 o154.2).bind fun o156 => if o154.1 = o156.1 then (F_LW_1460 L xs K18 v3 o156.2) else (some (0, o156.2))) else if x2 = 33 then ((ldS xs L (v3 + (1 : Int32))).bind fun x157 => (F_AC_even x157 s).bind fun o158 => (ldS xs L (v3 + (1 : Int32))).bind fun x159 => (F_MD_even x159 o158.2).bind fun o160 => if o158.1 = o160.1 then (F_LW_1460 L xs K18 v3 o160.2) else (some (0, o160.2))) else if x2 = 34 then ((ldS xs L (v3 + (1 : Int32))).bind fun x161 => (F_AC_lastWord x161 s).bind fun o162 => (ldS xs L (v3 + (1 : Int32))).bind fun x163 => (F_MD_lastWord x163 o162.2).bind fun o164 => if o162.1 = o164.1 then (F_LW_1460 L xs K18 v3 o164.2) else (some (0, o164.2))) else if x2 = 35 then ((ldS xs L (v3 + (1 : Int32))).bind fun x165 => (F_AC_bribe x165 s).bind fun o166 => (ldS xs L (v3 + (1 : Int32))).bind fun x167 => (F_MD_bribe x167 o166.2).bind fun o168 => if o166.1 = o168.1 then (F_LW_1460 L xs K18 v3 o168.2) else (some (0, o168.2))) else if x2 = 36 then ((ldS xs L (v3 + (1 : Int32))).bind fun x169 => (ldS xs L (v3 + (2 : Int32))).bind fun x170 => (F_AC_latest x169 x170 s).bind fun o171 => (ldS xs L (v3 + (1 : Int32))).bind fun x172 => (ldS xs L (v3 + (2 : Int32))).bind fun x173 => (F_MD_latest x172 x173 o171.2).bind fun o174 => if o171.1 = o174.1 then (F_LW_1460 L xs K18 v3 o174.2) else (some (0, o174.2))) else if x2 = 37 then ((ldS xs L (v3 + (1 : Int32))).bind fun x175 => (F_AC_truth x175 s).bind fun o176 => (ldS xs L (v3 + (1 : Int32))).bind fun x177 => (F_MD_truth x177 o176.2).bind fun o178 => if o176.1 = o178.1 then (F_LW_1460 L xs K18 v3 o178.2) else (some (0, o178.2))) else if x2 = 38 then ((F_AC_parole s).bind fun o179 => (F_MD_parole o179.2).bind fun o180 => if o179.1 = o180.1 then (F_LW_1460 L xs K18 v3 o180.2) else (some (0, o180.2))) else if x2 = 39 then ((F_AC_newBrothers s).bind fun o181 => (F_MD_newBrothers o181.2).bind fun o182 => if o181.1 = o182.1 then (F_LW_1460 L xs K18 v3 o182.2) else (some (0, o182.2))) else if x2 = 40 then ((F_AC_madeLight s).bind fun o183 => (F_MD_madeLight o183.2).bind fun o184 => if o183.1 = o184.1 then (F_LW_1460 L xs K18 v3 o184.2) else (some (0, o184.2))) else if x2 = 41 then ((F_AC_always s).bind fun o185 => (F_MD_always o185.2).bind fun o186 => if o185.1 = o186.1 then (F_LW_1460 L xs K18 v3 o186.2) else (some (0, o186.2))) else if x2 = 42 then ((ldS xs L (v3 + (1 : Int32))).bind fun x187 => (F_AC_row x187 s).bind fun o188 => (ldS xs L (v3 + (1 : Int32))).bind fun x189 => (F_MD_row x189 o188.2).bind fun o190 => if o188.1 = o190.1 then (F_LW_1460 L xs K18 v3 o190.2) else (some (0, o190.2))) else if x2 = 43 then ((F_AC_judge s).bind fun o191 => (F_MD_judge o191.2).bind fun o192 => if o191.1 = o192.1 then (F_LW_1460 L xs K18 v3 o192.2) else (some (0, o192.2))) else if x2 = 44 then ((ldS xs L (v3 + (1 : Int32))).bind fun x193 => (F_AC_fits x193 s).bind fun o194 => (ldS xs L (v3 + (1 : Int32))).bind fun x195 => (F_MD_fits x195 o194.2).bind fun o196 => if o194.1 = o196.1 then (F_LW_1460 L xs K18 v3 o196.2) else (some (0, o196.2))) else if x2 = 45 then ((F_AC_clear s).bind fun o197 => (F_MD_clear o197.2).bind fun o198 => if o197.1 = o198.1 then (F_LW_1460 L xs K18 v3 o198.2) else (some (0, o198.2))) else if x2 = 46 then ((ldS xs L (v3 + (1 : Int32))).bind fun x199 => (ldS xs L (v3 + (2 : Int32))).bind fun x200 => (ldS xs L (v3 + (3 : Int32))).bind fun x201 => (F_AC_lots x199 x200 x201 s).bind fun o202 => (ldS xs L (v3 + (1 : Int32))).bind fun x203 => (ldS xs L (v3 + (2 : Int32))).bind fun x204 => (ldS xs L (v3 + (3 : Int32))).bind fun x205 => (F_MD_lots x203 x204 x205 o202.2).bind fun o206 => if o202.1 = o206.1 then (F_LW_1460 L xs K18 v3 o206.2) else (some (0, o206.2))) else if x2 = 47 then ((F_AC_image s).bind fun o207 => (F_MD_image o207.2).bind fun o208 => if o207.1 = o208.1 then (F_LW_1460 L xs K18 v3 o208.2) else (some (0, o208.2))) else if x2 = 48 then ((F_AC_restore s).bind fun o209 => (F_MD_restore o209.2).bind fun o210 => if o209.1 = o210.1 then (F_LW_1460 L xs K18 v3 o210.2) else (some (0, o210.2))) else if x2 = 49 then ((ldS xs L (v3 + (1 : Int32))).bind fun x211 => (F_AC_count x211 s).bind fun o212 => (ldS xs L (v3 + (1 : Int32))).bind fun x213 => (F_MD_count x213 o212.2).bind fun o214 => if o212.1 = o214.1 then (F_LW_1460 L xs K18 v3 o214.2) else (some (0, o214.2))) else (F_LW_1460 L xs K18 v3 s))
def G_LW_18 (L : Nat) (xs : Nat → Int32) (K18 : Int32 × St → Option (Int32 × St)) (q : Int32 × St) : Option (Int32 × St) := H_LW_18 L xs K18 q.1 q.2
def F_LW_18 (L : Nat) (xs : Nat → Int32) (v3 : Int32) (s : St) : Option (Int32 × St) := fixF (G_LW_18 L xs) FUEL (v3, s)
def F_LW (L : Nat) (xs : Nat → Int32) (s : St) : Option (Int32 × St) :=
  F_LW_18 L xs (0 : Int32) s
theorem d_LW_16 : PCi code 16 0 17 := Or.inl ⟨0, by decide +kernel, by decide, rfl⟩
theorem d_LW_17 : PSi code 17 3 18 := Or.inl ⟨3, by decide +kernel, rfl, rfl⟩
theorem d_LW_18 : PLi code 18 3 19 := Or.inl ⟨3, by decide +kernel, rfl, rfl⟩
theorem d_LW_19 : PLa code 19 0 20 := Or.inl ⟨0, by decide +kernel, rfl, rfl⟩
theorem d_LW_20 : DR code 20 (.arraylength) 1 21 := ⟨by decide +kernel, rfl⟩
theorem d_LW_21 : PCi code 21 4 22 := Or.inl ⟨4, by decide +kernel, by decide, rfl⟩
theorem d_LW_22 : DR code 22 (.isub) 1 23 := ⟨by decide +kernel, rfl⟩
theorem d_LW_23 : DJ code 23 (.if_icmp .gt) 26 1466 := ⟨1443, by decide +kernel, rfl, by decide⟩
theorem d_LW_26 : PLa code 26 0 27 := Or.inl ⟨0, by decide +kernel, rfl, rfl⟩
theorem d_LW_27 : PLi code 27 3 28 := Or.inl ⟨3, by decide +kernel, rfl, rfl⟩
theorem d_LW_28 : DR code 28 (.iaload) 1 29 := ⟨by decide +kernel, rfl⟩
theorem d_LW_29 : PCi code 29 63 31 := Or.inr (Or.inl ⟨63, by decide +kernel, by decide, rfl⟩)
theorem d_LW_31 : DR code 31 (.iand) 1 32 := ⟨by decide +kernel, rfl⟩
theorem d_LW_32 : decode code 32 = .ok (.tableswitch 1428 0 49 #[216, 239, 252, 285, 318, 351, 384, 427, 460, 493, 526, 539, 572, 595, 618, 651, 664, 698, 731, 744, 767, 780, 803, 836, 869, 902, 915, 959, 972, 985, 1008, 1041, 1064, 1087, 1110, 1133, 1156, 1189, 1212, 1225, 1238, 1251, 1264, 1287, 1300, 1323, 1336, 1379, 1392, 1405], 216) := by decide +kernel
theorem d_LW_248 : PLa code 248 1 249 := Or.inl ⟨1, by decide +kernel, rfl, rfl⟩
theorem d_LW_249 : PLa code 249 0 250 := Or.inl ⟨0, by decide +kernel, rfl, rfl⟩
theorem d_LW_250 : PLi code 250 3 251 := Or.inl ⟨3, by decide +kernel, rfl, rfl⟩
theorem d_LW_251 : PCi code 251 1 252 := Or.inl ⟨1, by decide +kernel, by decide, rfl⟩
theorem d_LW_252 : DR code 252 (.iadd) 1 253 := ⟨by decide +kernel, rfl⟩
theorem d_LW_253 : DR code 253 (.iaload) 1 254 := ⟨by decide +kernel, rfl⟩
theorem d_LW_254 : DR code 254 (.invokevirtual 13) 3 257 := ⟨by decide +kernel, rfl⟩
theorem d_LW_257 : PLa code 257 2 258 := Or.inl ⟨2, by decide +kernel, rfl, rfl⟩
theorem d_LW_258 : PLa code 258 0 259 := Or.inl ⟨0, by decide +kernel, rfl, rfl⟩
theorem d_LW_259 : PLi code 259 3 260 := Or.inl ⟨3, by decide +kernel, rfl, rfl⟩
theorem d_LW_260 : PCi code 260 1 261 := Or.inl ⟨1, by decide +kernel, by decide, rfl⟩
theorem d_LW_261 : DR code 261 (.iadd) 1 262 := ⟨by decide +kernel, rfl⟩
theorem d_LW_262 : DR code 262 (.iaload) 1 263 := ⟨by decide +kernel, rfl⟩
theorem d_LW_263 : DR code 263 (.invokevirtual 17) 3 266 := ⟨by decide +kernel, rfl⟩
theorem d_LW_266 : DJ code 266 (.if_icmp .eq) 269 1460 := ⟨1194, by decide +kernel, rfl, by decide⟩
theorem d_LW_269 : PCi code 269 0 270 := Or.inl ⟨0, by decide +kernel, by decide, rfl⟩
theorem d_LW_270 : DR code 270 (.ireturn) 1 271 := ⟨by decide +kernel, rfl⟩
theorem d_LW_271 : PLa code 271 1 272 := Or.inl ⟨1, by decide +kernel, rfl, rfl⟩
theorem d_LW_272 : DR code 272 (.invokevirtual 18) 3 275 := ⟨by decide +kernel, rfl⟩
theorem d_LW_275 : PLa code 275 2 276 := Or.inl ⟨2, by decide +kernel, rfl, rfl⟩
theorem d_LW_276 : DR code 276 (.invokevirtual 22) 3 279 := ⟨by decide +kernel, rfl⟩
theorem d_LW_279 : DJ code 279 (.if_icmp .eq) 282 1460 := ⟨1181, by decide +kernel, rfl, by decide⟩
theorem d_LW_282 : PCi code 282 0 283 := Or.inl ⟨0, by decide +kernel, by decide, rfl⟩
theorem d_LW_283 : DR code 283 (.ireturn) 1 284 := ⟨by decide +kernel, rfl⟩
theorem d_LW_284 : PLa code 284 1 285 := Or.inl ⟨1, by decide +kernel, rfl, rfl⟩
theorem d_LW_285 : PLa code 285 0 286 := Or.inl ⟨0, by decide +kernel, rfl, rfl⟩
theorem d_LW_286 : PLi code 286 3 287 := Or.inl ⟨3, by decide +kernel, rfl, rfl⟩
theorem d_LW_287 : PCi code 287 1 288 := Or.inl ⟨1, by decide +kernel, by decide, rfl⟩
theorem d_LW_288 : DR code 288 (.iadd) 1 289 := ⟨by decide +kernel, rfl⟩
theorem d_LW_289 : DR code 289 (.iaload) 1 290 := ⟨by decide +kernel, rfl⟩
theorem d_LW_290 : PLa code 290 0 291 := Or.inl ⟨0, by decide +kernel, rfl, rfl⟩
theorem d_LW_291 : PLi code 291 3 292 := Or.inl ⟨3, by decide +kernel, rfl, rfl⟩
theorem d_LW_292 : PCi code 292 2 293 := Or.inl ⟨2, by decide +kernel, by decide, rfl⟩
theorem d_LW_293 : DR code 293 (.iadd) 1 294 := ⟨by decide +kernel, rfl⟩
theorem d_LW_294 : DR code 294 (.iaload) 1 295 := ⟨by decide +kernel, rfl⟩
theorem d_LW_295 : DR code 295 (.invokevirtual 23) 3 298 := ⟨by decide +kernel, rfl⟩
theorem d_LW_298 : PLa code 298 2 299 := Or.inl ⟨2, by decide +kernel, rfl, rfl⟩
theorem d_LW_299 : PLa code 299 0 300 := Or.inl ⟨0, by decide +kernel, rfl, rfl⟩
theorem d_LW_300 : PLi code 300 3 301 := Or.inl ⟨3, by decide +kernel, rfl, rfl⟩
theorem d_LW_301 : PCi code 301 1 302 := Or.inl ⟨1, by decide +kernel, by decide, rfl⟩
theorem d_LW_302 : DR code 302 (.iadd) 1 303 := ⟨by decide +kernel, rfl⟩
theorem d_LW_303 : DR code 303 (.iaload) 1 304 := ⟨by decide +kernel, rfl⟩
theorem d_LW_304 : PLa code 304 0 305 := Or.inl ⟨0, by decide +kernel, rfl, rfl⟩
theorem d_LW_305 : PLi code 305 3 306 := Or.inl ⟨3, by decide +kernel, rfl, rfl⟩
theorem d_LW_306 : PCi code 306 2 307 := Or.inl ⟨2, by decide +kernel, by decide, rfl⟩
theorem d_LW_307 : DR code 307 (.iadd) 1 308 := ⟨by decide +kernel, rfl⟩
theorem d_LW_308 : DR code 308 (.iaload) 1 309 := ⟨by decide +kernel, rfl⟩
theorem d_LW_309 : DR code 309 (.invokevirtual 27) 3 312 := ⟨by decide +kernel, rfl⟩
theorem d_LW_312 : DJ code 312 (.if_icmp .eq) 315 1460 := ⟨1148, by decide +kernel, rfl, by decide⟩
theorem d_LW_315 : PCi code 315 0 316 := Or.inl ⟨0, by decide +kernel, by decide, rfl⟩
theorem d_LW_316 : DR code 316 (.ireturn) 1 317 := ⟨by decide +kernel, rfl⟩
theorem d_LW_317 : PLa code 317 1 318 := Or.inl ⟨1, by decide +kernel, rfl, rfl⟩
theorem d_LW_318 : PLa code 318 0 319 := Or.inl ⟨0, by decide +kernel, rfl, rfl⟩
theorem d_LW_319 : PLi code 319 3 320 := Or.inl ⟨3, by decide +kernel, rfl, rfl⟩
theorem d_LW_320 : PCi code 320 1 321 := Or.inl ⟨1, by decide +kernel, by decide, rfl⟩
theorem d_LW_321 : DR code 321 (.iadd) 1 322 := ⟨by decide +kernel, rfl⟩
theorem d_LW_322 : DR code 322 (.iaload) 1 323 := ⟨by decide +kernel, rfl⟩
theorem d_LW_323 : PLa code 323 0 324 := Or.inl ⟨0, by decide +kernel, rfl, rfl⟩
theorem d_LW_324 : PLi code 324 3 325 := Or.inl ⟨3, by decide +kernel, rfl, rfl⟩
theorem d_LW_325 : PCi code 325 2 326 := Or.inl ⟨2, by decide +kernel, by decide, rfl⟩
theorem d_LW_326 : DR code 326 (.iadd) 1 327 := ⟨by decide +kernel, rfl⟩
theorem d_LW_327 : DR code 327 (.iaload) 1 328 := ⟨by decide +kernel, rfl⟩
theorem d_LW_328 : DR code 328 (.invokevirtual 28) 3 331 := ⟨by decide +kernel, rfl⟩
theorem d_LW_331 : PLa code 331 2 332 := Or.inl ⟨2, by decide +kernel, rfl, rfl⟩
theorem d_LW_332 : PLa code 332 0 333 := Or.inl ⟨0, by decide +kernel, rfl, rfl⟩
theorem d_LW_333 : PLi code 333 3 334 := Or.inl ⟨3, by decide +kernel, rfl, rfl⟩
theorem d_LW_334 : PCi code 334 1 335 := Or.inl ⟨1, by decide +kernel, by decide, rfl⟩
theorem d_LW_335 : DR code 335 (.iadd) 1 336 := ⟨by decide +kernel, rfl⟩
theorem d_LW_336 : DR code 336 (.iaload) 1 337 := ⟨by decide +kernel, rfl⟩
theorem d_LW_337 : PLa code 337 0 338 := Or.inl ⟨0, by decide +kernel, rfl, rfl⟩
theorem d_LW_338 : PLi code 338 3 339 := Or.inl ⟨3, by decide +kernel, rfl, rfl⟩
theorem d_LW_339 : PCi code 339 2 340 := Or.inl ⟨2, by decide +kernel, by decide, rfl⟩
theorem d_LW_340 : DR code 340 (.iadd) 1 341 := ⟨by decide +kernel, rfl⟩
theorem d_LW_341 : DR code 341 (.iaload) 1 342 := ⟨by decide +kernel, rfl⟩
theorem d_LW_342 : DR code 342 (.invokevirtual 31) 3 345 := ⟨by decide +kernel, rfl⟩
theorem d_LW_345 : DJ code 345 (.if_icmp .eq) 348 1460 := ⟨1115, by decide +kernel, rfl, by decide⟩
theorem d_LW_348 : PCi code 348 0 349 := Or.inl ⟨0, by decide +kernel, by decide, rfl⟩
theorem d_LW_349 : DR code 349 (.ireturn) 1 350 := ⟨by decide +kernel, rfl⟩
theorem d_LW_350 : PLa code 350 1 351 := Or.inl ⟨1, by decide +kernel, rfl, rfl⟩
theorem d_LW_351 : PLa code 351 0 352 := Or.inl ⟨0, by decide +kernel, rfl, rfl⟩
theorem d_LW_352 : PLi code 352 3 353 := Or.inl ⟨3, by decide +kernel, rfl, rfl⟩
theorem d_LW_353 : PCi code 353 1 354 := Or.inl ⟨1, by decide +kernel, by decide, rfl⟩
theorem d_LW_354 : DR code 354 (.iadd) 1 355 := ⟨by decide +kernel, rfl⟩
theorem d_LW_355 : DR code 355 (.iaload) 1 356 := ⟨by decide +kernel, rfl⟩
theorem d_LW_356 : PLa code 356 0 357 := Or.inl ⟨0, by decide +kernel, rfl, rfl⟩
theorem d_LW_357 : PLi code 357 3 358 := Or.inl ⟨3, by decide +kernel, rfl, rfl⟩
theorem d_LW_358 : PCi code 358 2 359 := Or.inl ⟨2, by decide +kernel, by decide, rfl⟩
theorem d_LW_359 : DR code 359 (.iadd) 1 360 := ⟨by decide +kernel, rfl⟩
theorem d_LW_360 : DR code 360 (.iaload) 1 361 := ⟨by decide +kernel, rfl⟩
theorem d_LW_361 : DR code 361 (.invokevirtual 32) 3 364 := ⟨by decide +kernel, rfl⟩
theorem d_LW_364 : PLa code 364 2 365 := Or.inl ⟨2, by decide +kernel, rfl, rfl⟩
theorem d_LW_365 : PLa code 365 0 366 := Or.inl ⟨0, by decide +kernel, rfl, rfl⟩
theorem d_LW_366 : PLi code 366 3 367 := Or.inl ⟨3, by decide +kernel, rfl, rfl⟩
theorem d_LW_367 : PCi code 367 1 368 := Or.inl ⟨1, by decide +kernel, by decide, rfl⟩
theorem d_LW_368 : DR code 368 (.iadd) 1 369 := ⟨by decide +kernel, rfl⟩
theorem d_LW_369 : DR code 369 (.iaload) 1 370 := ⟨by decide +kernel, rfl⟩
theorem d_LW_370 : PLa code 370 0 371 := Or.inl ⟨0, by decide +kernel, rfl, rfl⟩
theorem d_LW_371 : PLi code 371 3 372 := Or.inl ⟨3, by decide +kernel, rfl, rfl⟩
theorem d_LW_372 : PCi code 372 2 373 := Or.inl ⟨2, by decide +kernel, by decide, rfl⟩
theorem d_LW_373 : DR code 373 (.iadd) 1 374 := ⟨by decide +kernel, rfl⟩
theorem d_LW_374 : DR code 374 (.iaload) 1 375 := ⟨by decide +kernel, rfl⟩
theorem d_LW_375 : DR code 375 (.invokevirtual 35) 3 378 := ⟨by decide +kernel, rfl⟩
theorem d_LW_378 : DJ code 378 (.if_icmp .eq) 381 1460 := ⟨1082, by decide +kernel, rfl, by decide⟩
theorem d_LW_381 : PCi code 381 0 382 := Or.inl ⟨0, by decide +kernel, by decide, rfl⟩
theorem d_LW_382 : DR code 382 (.ireturn) 1 383 := ⟨by decide +kernel, rfl⟩
theorem d_LW_383 : PLa code 383 1 384 := Or.inl ⟨1, by decide +kernel, rfl, rfl⟩
theorem d_LW_384 : PLa code 384 0 385 := Or.inl ⟨0, by decide +kernel, rfl, rfl⟩
theorem d_LW_385 : PLi code 385 3 386 := Or.inl ⟨3, by decide +kernel, rfl, rfl⟩
theorem d_LW_386 : PCi code 386 1 387 := Or.inl ⟨1, by decide +kernel, by decide, rfl⟩
theorem d_LW_387 : DR code 387 (.iadd) 1 388 := ⟨by decide +kernel, rfl⟩
theorem d_LW_388 : DR code 388 (.iaload) 1 389 := ⟨by decide +kernel, rfl⟩
theorem d_LW_389 : PLa code 389 0 390 := Or.inl ⟨0, by decide +kernel, rfl, rfl⟩
theorem d_LW_390 : PLi code 390 3 391 := Or.inl ⟨3, by decide +kernel, rfl, rfl⟩
theorem d_LW_391 : PCi code 391 2 392 := Or.inl ⟨2, by decide +kernel, by decide, rfl⟩
theorem d_LW_392 : DR code 392 (.iadd) 1 393 := ⟨by decide +kernel, rfl⟩
theorem d_LW_393 : DR code 393 (.iaload) 1 394 := ⟨by decide +kernel, rfl⟩
theorem d_LW_394 : DR code 394 (.invokevirtual 36) 3 397 := ⟨by decide +kernel, rfl⟩
theorem d_LW_397 : PLa code 397 2 398 := Or.inl ⟨2, by decide +kernel, rfl, rfl⟩
theorem d_LW_398 : PLa code 398 0 399 := Or.inl ⟨0, by decide +kernel, rfl, rfl⟩
theorem d_LW_399 : PLi code 399 3 400 := Or.inl ⟨3, by decide +kernel, rfl, rfl⟩
theorem d_LW_400 : PCi code 400 1 401 := Or.inl ⟨1, by decide +kernel, by decide, rfl⟩
theorem d_LW_401 : DR code 401 (.iadd) 1 402 := ⟨by decide +kernel, rfl⟩
theorem d_LW_402 : DR code 402 (.iaload) 1 403 := ⟨by decide +kernel, rfl⟩
theorem d_LW_403 : PLa code 403 0 404 := Or.inl ⟨0, by decide +kernel, rfl, rfl⟩
theorem d_LW_404 : PLi code 404 3 405 := Or.inl ⟨3, by decide +kernel, rfl, rfl⟩
theorem d_LW_405 : PCi code 405 2 406 := Or.inl ⟨2, by decide +kernel, by decide, rfl⟩
theorem d_LW_406 : DR code 406 (.iadd) 1 407 := ⟨by decide +kernel, rfl⟩
theorem d_LW_407 : DR code 407 (.iaload) 1 408 := ⟨by decide +kernel, rfl⟩
theorem d_LW_408 : DR code 408 (.invokevirtual 39) 3 411 := ⟨by decide +kernel, rfl⟩
theorem d_LW_411 : DJ code 411 (.if_icmp .eq) 414 1460 := ⟨1049, by decide +kernel, rfl, by decide⟩
theorem d_LW_414 : PCi code 414 0 415 := Or.inl ⟨0, by decide +kernel, by decide, rfl⟩
theorem d_LW_415 : DR code 415 (.ireturn) 1 416 := ⟨by decide +kernel, rfl⟩
theorem d_LW_416 : PLa code 416 1 417 := Or.inl ⟨1, by decide +kernel, rfl, rfl⟩
theorem d_LW_417 : PLa code 417 0 418 := Or.inl ⟨0, by decide +kernel, rfl, rfl⟩
theorem d_LW_418 : PLi code 418 3 419 := Or.inl ⟨3, by decide +kernel, rfl, rfl⟩
theorem d_LW_419 : PCi code 419 1 420 := Or.inl ⟨1, by decide +kernel, by decide, rfl⟩
theorem d_LW_420 : DR code 420 (.iadd) 1 421 := ⟨by decide +kernel, rfl⟩
theorem d_LW_421 : DR code 421 (.iaload) 1 422 := ⟨by decide +kernel, rfl⟩
theorem d_LW_422 : PLa code 422 0 423 := Or.inl ⟨0, by decide +kernel, rfl, rfl⟩
theorem d_LW_423 : PLi code 423 3 424 := Or.inl ⟨3, by decide +kernel, rfl, rfl⟩
theorem d_LW_424 : PCi code 424 2 425 := Or.inl ⟨2, by decide +kernel, by decide, rfl⟩
theorem d_LW_425 : DR code 425 (.iadd) 1 426 := ⟨by decide +kernel, rfl⟩
theorem d_LW_426 : DR code 426 (.iaload) 1 427 := ⟨by decide +kernel, rfl⟩
theorem d_LW_427 : PLa code 427 0 428 := Or.inl ⟨0, by decide +kernel, rfl, rfl⟩
theorem d_LW_428 : PLi code 428 3 429 := Or.inl ⟨3, by decide +kernel, rfl, rfl⟩
theorem d_LW_429 : PCi code 429 3 430 := Or.inl ⟨3, by decide +kernel, by decide, rfl⟩
theorem d_LW_430 : DR code 430 (.iadd) 1 431 := ⟨by decide +kernel, rfl⟩
theorem d_LW_431 : DR code 431 (.iaload) 1 432 := ⟨by decide +kernel, rfl⟩
theorem d_LW_432 : DR code 432 (.invokevirtual 40) 3 435 := ⟨by decide +kernel, rfl⟩
theorem d_LW_435 : PLa code 435 2 436 := Or.inl ⟨2, by decide +kernel, rfl, rfl⟩
theorem d_LW_436 : PLa code 436 0 437 := Or.inl ⟨0, by decide +kernel, rfl, rfl⟩
theorem d_LW_437 : PLi code 437 3 438 := Or.inl ⟨3, by decide +kernel, rfl, rfl⟩
theorem d_LW_438 : PCi code 438 1 439 := Or.inl ⟨1, by decide +kernel, by decide, rfl⟩
theorem d_LW_439 : DR code 439 (.iadd) 1 440 := ⟨by decide +kernel, rfl⟩
theorem d_LW_440 : DR code 440 (.iaload) 1 441 := ⟨by decide +kernel, rfl⟩
theorem d_LW_441 : PLa code 441 0 442 := Or.inl ⟨0, by decide +kernel, rfl, rfl⟩
theorem d_LW_442 : PLi code 442 3 443 := Or.inl ⟨3, by decide +kernel, rfl, rfl⟩
theorem d_LW_443 : PCi code 443 2 444 := Or.inl ⟨2, by decide +kernel, by decide, rfl⟩
theorem d_LW_444 : DR code 444 (.iadd) 1 445 := ⟨by decide +kernel, rfl⟩
theorem d_LW_445 : DR code 445 (.iaload) 1 446 := ⟨by decide +kernel, rfl⟩
theorem d_LW_446 : PLa code 446 0 447 := Or.inl ⟨0, by decide +kernel, rfl, rfl⟩
theorem d_LW_447 : PLi code 447 3 448 := Or.inl ⟨3, by decide +kernel, rfl, rfl⟩
theorem d_LW_448 : PCi code 448 3 449 := Or.inl ⟨3, by decide +kernel, by decide, rfl⟩
theorem d_LW_449 : DR code 449 (.iadd) 1 450 := ⟨by decide +kernel, rfl⟩
theorem d_LW_450 : DR code 450 (.iaload) 1 451 := ⟨by decide +kernel, rfl⟩
theorem d_LW_451 : DR code 451 (.invokevirtual 44) 3 454 := ⟨by decide +kernel, rfl⟩
theorem d_LW_454 : DJ code 454 (.if_icmp .eq) 457 1460 := ⟨1006, by decide +kernel, rfl, by decide⟩
theorem d_LW_457 : PCi code 457 0 458 := Or.inl ⟨0, by decide +kernel, by decide, rfl⟩
theorem d_LW_458 : DR code 458 (.ireturn) 1 459 := ⟨by decide +kernel, rfl⟩
theorem d_LW_459 : PLa code 459 1 460 := Or.inl ⟨1, by decide +kernel, rfl, rfl⟩
theorem d_LW_460 : PLa code 460 0 461 := Or.inl ⟨0, by decide +kernel, rfl, rfl⟩
theorem d_LW_461 : PLi code 461 3 462 := Or.inl ⟨3, by decide +kernel, rfl, rfl⟩
theorem d_LW_462 : PCi code 462 1 463 := Or.inl ⟨1, by decide +kernel, by decide, rfl⟩
theorem d_LW_463 : DR code 463 (.iadd) 1 464 := ⟨by decide +kernel, rfl⟩
theorem d_LW_464 : DR code 464 (.iaload) 1 465 := ⟨by decide +kernel, rfl⟩
theorem d_LW_465 : PLa code 465 0 466 := Or.inl ⟨0, by decide +kernel, rfl, rfl⟩
theorem d_LW_466 : PLi code 466 3 467 := Or.inl ⟨3, by decide +kernel, rfl, rfl⟩
theorem d_LW_467 : PCi code 467 2 468 := Or.inl ⟨2, by decide +kernel, by decide, rfl⟩
theorem d_LW_468 : DR code 468 (.iadd) 1 469 := ⟨by decide +kernel, rfl⟩
theorem d_LW_469 : DR code 469 (.iaload) 1 470 := ⟨by decide +kernel, rfl⟩
theorem d_LW_470 : DR code 470 (.invokevirtual 45) 3 473 := ⟨by decide +kernel, rfl⟩
theorem d_LW_473 : PLa code 473 2 474 := Or.inl ⟨2, by decide +kernel, rfl, rfl⟩
theorem d_LW_474 : PLa code 474 0 475 := Or.inl ⟨0, by decide +kernel, rfl, rfl⟩
theorem d_LW_475 : PLi code 475 3 476 := Or.inl ⟨3, by decide +kernel, rfl, rfl⟩
theorem d_LW_476 : PCi code 476 1 477 := Or.inl ⟨1, by decide +kernel, by decide, rfl⟩
theorem d_LW_477 : DR code 477 (.iadd) 1 478 := ⟨by decide +kernel, rfl⟩
theorem d_LW_478 : DR code 478 (.iaload) 1 479 := ⟨by decide +kernel, rfl⟩
theorem d_LW_479 : PLa code 479 0 480 := Or.inl ⟨0, by decide +kernel, rfl, rfl⟩
theorem d_LW_480 : PLi code 480 3 481 := Or.inl ⟨3, by decide +kernel, rfl, rfl⟩
theorem d_LW_481 : PCi code 481 2 482 := Or.inl ⟨2, by decide +kernel, by decide, rfl⟩
theorem d_LW_482 : DR code 482 (.iadd) 1 483 := ⟨by decide +kernel, rfl⟩
theorem d_LW_483 : DR code 483 (.iaload) 1 484 := ⟨by decide +kernel, rfl⟩
theorem d_LW_484 : DR code 484 (.invokevirtual 48) 3 487 := ⟨by decide +kernel, rfl⟩
theorem d_LW_487 : DJ code 487 (.if_icmp .eq) 490 1460 := ⟨973, by decide +kernel, rfl, by decide⟩
theorem d_LW_490 : PCi code 490 0 491 := Or.inl ⟨0, by decide +kernel, by decide, rfl⟩
theorem d_LW_491 : DR code 491 (.ireturn) 1 492 := ⟨by decide +kernel, rfl⟩
theorem d_LW_492 : PLa code 492 1 493 := Or.inl ⟨1, by decide +kernel, rfl, rfl⟩
theorem d_LW_493 : PLa code 493 0 494 := Or.inl ⟨0, by decide +kernel, rfl, rfl⟩
theorem d_LW_494 : PLi code 494 3 495 := Or.inl ⟨3, by decide +kernel, rfl, rfl⟩
theorem d_LW_495 : PCi code 495 1 496 := Or.inl ⟨1, by decide +kernel, by decide, rfl⟩
theorem d_LW_496 : DR code 496 (.iadd) 1 497 := ⟨by decide +kernel, rfl⟩
theorem d_LW_497 : DR code 497 (.iaload) 1 498 := ⟨by decide +kernel, rfl⟩
theorem d_LW_498 : PLa code 498 0 499 := Or.inl ⟨0, by decide +kernel, rfl, rfl⟩
theorem d_LW_499 : PLi code 499 3 500 := Or.inl ⟨3, by decide +kernel, rfl, rfl⟩
theorem d_LW_500 : PCi code 500 2 501 := Or.inl ⟨2, by decide +kernel, by decide, rfl⟩
theorem d_LW_501 : DR code 501 (.iadd) 1 502 := ⟨by decide +kernel, rfl⟩
theorem d_LW_502 : DR code 502 (.iaload) 1 503 := ⟨by decide +kernel, rfl⟩
theorem d_LW_503 : DR code 503 (.invokevirtual 49) 3 506 := ⟨by decide +kernel, rfl⟩
theorem d_LW_506 : PLa code 506 2 507 := Or.inl ⟨2, by decide +kernel, rfl, rfl⟩
theorem d_LW_507 : PLa code 507 0 508 := Or.inl ⟨0, by decide +kernel, rfl, rfl⟩
theorem d_LW_508 : PLi code 508 3 509 := Or.inl ⟨3, by decide +kernel, rfl, rfl⟩
theorem d_LW_509 : PCi code 509 1 510 := Or.inl ⟨1, by decide +kernel, by decide, rfl⟩
theorem d_LW_510 : DR code 510 (.iadd) 1 511 := ⟨by decide +kernel, rfl⟩
theorem d_LW_511 : DR code 511 (.iaload) 1 512 := ⟨by decide +kernel, rfl⟩
theorem d_LW_512 : PLa code 512 0 513 := Or.inl ⟨0, by decide +kernel, rfl, rfl⟩
theorem d_LW_513 : PLi code 513 3 514 := Or.inl ⟨3, by decide +kernel, rfl, rfl⟩
theorem d_LW_514 : PCi code 514 2 515 := Or.inl ⟨2, by decide +kernel, by decide, rfl⟩
theorem d_LW_515 : DR code 515 (.iadd) 1 516 := ⟨by decide +kernel, rfl⟩
theorem d_LW_516 : DR code 516 (.iaload) 1 517 := ⟨by decide +kernel, rfl⟩
theorem d_LW_517 : DR code 517 (.invokevirtual 52) 3 520 := ⟨by decide +kernel, rfl⟩
theorem d_LW_520 : DJ code 520 (.if_icmp .eq) 523 1460 := ⟨940, by decide +kernel, rfl, by decide⟩
theorem d_LW_523 : PCi code 523 0 524 := Or.inl ⟨0, by decide +kernel, by decide, rfl⟩
theorem d_LW_524 : DR code 524 (.ireturn) 1 525 := ⟨by decide +kernel, rfl⟩
theorem d_LW_525 : PLa code 525 1 526 := Or.inl ⟨1, by decide +kernel, rfl, rfl⟩
theorem d_LW_526 : PLa code 526 0 527 := Or.inl ⟨0, by decide +kernel, rfl, rfl⟩
theorem d_LW_527 : PLi code 527 3 528 := Or.inl ⟨3, by decide +kernel, rfl, rfl⟩
theorem d_LW_528 : PCi code 528 1 529 := Or.inl ⟨1, by decide +kernel, by decide, rfl⟩
theorem d_LW_529 : DR code 529 (.iadd) 1 530 := ⟨by decide +kernel, rfl⟩
theorem d_LW_530 : DR code 530 (.iaload) 1 531 := ⟨by decide +kernel, rfl⟩
theorem d_LW_531 : PLa code 531 0 532 := Or.inl ⟨0, by decide +kernel, rfl, rfl⟩
theorem d_LW_532 : PLi code 532 3 533 := Or.inl ⟨3, by decide +kernel, rfl, rfl⟩
theorem d_LW_533 : PCi code 533 2 534 := Or.inl ⟨2, by decide +kernel, by decide, rfl⟩
theorem d_LW_534 : DR code 534 (.iadd) 1 535 := ⟨by decide +kernel, rfl⟩
theorem d_LW_535 : DR code 535 (.iaload) 1 536 := ⟨by decide +kernel, rfl⟩
theorem d_LW_536 : DR code 536 (.invokevirtual 53) 3 539 := ⟨by decide +kernel, rfl⟩
theorem d_LW_539 : PLa code 539 2 540 := Or.inl ⟨2, by decide +kernel, rfl, rfl⟩
theorem d_LW_540 : PLa code 540 0 541 := Or.inl ⟨0, by decide +kernel, rfl, rfl⟩
theorem d_LW_541 : PLi code 541 3 542 := Or.inl ⟨3, by decide +kernel, rfl, rfl⟩
theorem d_LW_542 : PCi code 542 1 543 := Or.inl ⟨1, by decide +kernel, by decide, rfl⟩
theorem d_LW_543 : DR code 543 (.iadd) 1 544 := ⟨by decide +kernel, rfl⟩
theorem d_LW_544 : DR code 544 (.iaload) 1 545 := ⟨by decide +kernel, rfl⟩
theorem d_LW_545 : PLa code 545 0 546 := Or.inl ⟨0, by decide +kernel, rfl, rfl⟩
theorem d_LW_546 : PLi code 546 3 547 := Or.inl ⟨3, by decide +kernel, rfl, rfl⟩
theorem d_LW_547 : PCi code 547 2 548 := Or.inl ⟨2, by decide +kernel, by decide, rfl⟩
theorem d_LW_548 : DR code 548 (.iadd) 1 549 := ⟨by decide +kernel, rfl⟩
theorem d_LW_549 : DR code 549 (.iaload) 1 550 := ⟨by decide +kernel, rfl⟩
theorem d_LW_550 : DR code 550 (.invokevirtual 56) 3 553 := ⟨by decide +kernel, rfl⟩
theorem d_LW_553 : DJ code 553 (.if_icmp .eq) 556 1460 := ⟨907, by decide +kernel, rfl, by decide⟩
theorem d_LW_556 : PCi code 556 0 557 := Or.inl ⟨0, by decide +kernel, by decide, rfl⟩
theorem d_LW_557 : DR code 557 (.ireturn) 1 558 := ⟨by decide +kernel, rfl⟩
theorem d_LW_558 : PLa code 558 1 559 := Or.inl ⟨1, by decide +kernel, rfl, rfl⟩
theorem d_LW_559 : DR code 559 (.invokevirtual 57) 3 562 := ⟨by decide +kernel, rfl⟩
theorem d_LW_562 : PLa code 562 2 563 := Or.inl ⟨2, by decide +kernel, rfl, rfl⟩
theorem d_LW_563 : DR code 563 (.invokevirtual 60) 3 566 := ⟨by decide +kernel, rfl⟩
theorem d_LW_566 : DJ code 566 (.if_icmp .eq) 569 1460 := ⟨894, by decide +kernel, rfl, by decide⟩
theorem d_LW_569 : PCi code 569 0 570 := Or.inl ⟨0, by decide +kernel, by decide, rfl⟩
theorem d_LW_570 : DR code 570 (.ireturn) 1 571 := ⟨by decide +kernel, rfl⟩
theorem d_LW_571 : PLa code 571 1 572 := Or.inl ⟨1, by decide +kernel, rfl, rfl⟩
theorem d_LW_572 : PLa code 572 0 573 := Or.inl ⟨0, by decide +kernel, rfl, rfl⟩
theorem d_LW_573 : PLi code 573 3 574 := Or.inl ⟨3, by decide +kernel, rfl, rfl⟩
theorem d_LW_574 : PCi code 574 1 575 := Or.inl ⟨1, by decide +kernel, by decide, rfl⟩
theorem d_LW_575 : DR code 575 (.iadd) 1 576 := ⟨by decide +kernel, rfl⟩
theorem d_LW_576 : DR code 576 (.iaload) 1 577 := ⟨by decide +kernel, rfl⟩
theorem d_LW_577 : PLa code 577 0 578 := Or.inl ⟨0, by decide +kernel, rfl, rfl⟩
theorem d_LW_578 : PLi code 578 3 579 := Or.inl ⟨3, by decide +kernel, rfl, rfl⟩
theorem d_LW_579 : PCi code 579 2 580 := Or.inl ⟨2, by decide +kernel, by decide, rfl⟩
theorem d_LW_580 : DR code 580 (.iadd) 1 581 := ⟨by decide +kernel, rfl⟩
theorem d_LW_581 : DR code 581 (.iaload) 1 582 := ⟨by decide +kernel, rfl⟩
theorem d_LW_582 : DR code 582 (.invokevirtual 61) 3 585 := ⟨by decide +kernel, rfl⟩
theorem d_LW_585 : PLa code 585 2 586 := Or.inl ⟨2, by decide +kernel, rfl, rfl⟩
theorem d_LW_586 : PLa code 586 0 587 := Or.inl ⟨0, by decide +kernel, rfl, rfl⟩
theorem d_LW_587 : PLi code 587 3 588 := Or.inl ⟨3, by decide +kernel, rfl, rfl⟩
theorem d_LW_588 : PCi code 588 1 589 := Or.inl ⟨1, by decide +kernel, by decide, rfl⟩
theorem d_LW_589 : DR code 589 (.iadd) 1 590 := ⟨by decide +kernel, rfl⟩
theorem d_LW_590 : DR code 590 (.iaload) 1 591 := ⟨by decide +kernel, rfl⟩
theorem d_LW_591 : PLa code 591 0 592 := Or.inl ⟨0, by decide +kernel, rfl, rfl⟩
theorem d_LW_592 : PLi code 592 3 593 := Or.inl ⟨3, by decide +kernel, rfl, rfl⟩
theorem d_LW_593 : PCi code 593 2 594 := Or.inl ⟨2, by decide +kernel, by decide, rfl⟩
theorem d_LW_594 : DR code 594 (.iadd) 1 595 := ⟨by decide +kernel, rfl⟩
theorem d_LW_595 : DR code 595 (.iaload) 1 596 := ⟨by decide +kernel, rfl⟩
theorem d_LW_596 : DR code 596 (.invokevirtual 64) 3 599 := ⟨by decide +kernel, rfl⟩
theorem d_LW_599 : DJ code 599 (.if_icmp .eq) 602 1460 := ⟨861, by decide +kernel, rfl, by decide⟩
theorem d_LW_602 : PCi code 602 0 603 := Or.inl ⟨0, by decide +kernel, by decide, rfl⟩
theorem d_LW_603 : DR code 603 (.ireturn) 1 604 := ⟨by decide +kernel, rfl⟩
theorem d_LW_604 : PLa code 604 1 605 := Or.inl ⟨1, by decide +kernel, rfl, rfl⟩
theorem d_LW_605 : PLa code 605 0 606 := Or.inl ⟨0, by decide +kernel, rfl, rfl⟩
theorem d_LW_606 : PLi code 606 3 607 := Or.inl ⟨3, by decide +kernel, rfl, rfl⟩
theorem d_LW_607 : PCi code 607 1 608 := Or.inl ⟨1, by decide +kernel, by decide, rfl⟩
theorem d_LW_608 : DR code 608 (.iadd) 1 609 := ⟨by decide +kernel, rfl⟩
theorem d_LW_609 : DR code 609 (.iaload) 1 610 := ⟨by decide +kernel, rfl⟩
theorem d_LW_610 : DR code 610 (.invokevirtual 65) 3 613 := ⟨by decide +kernel, rfl⟩
theorem d_LW_613 : PLa code 613 2 614 := Or.inl ⟨2, by decide +kernel, rfl, rfl⟩
theorem d_LW_614 : PLa code 614 0 615 := Or.inl ⟨0, by decide +kernel, rfl, rfl⟩
theorem d_LW_615 : PLi code 615 3 616 := Or.inl ⟨3, by decide +kernel, rfl, rfl⟩
theorem d_LW_616 : PCi code 616 1 617 := Or.inl ⟨1, by decide +kernel, by decide, rfl⟩
theorem d_LW_617 : DR code 617 (.iadd) 1 618 := ⟨by decide +kernel, rfl⟩
theorem d_LW_618 : DR code 618 (.iaload) 1 619 := ⟨by decide +kernel, rfl⟩
theorem d_LW_619 : DR code 619 (.invokevirtual 68) 3 622 := ⟨by decide +kernel, rfl⟩
theorem d_LW_622 : DJ code 622 (.if_icmp .eq) 625 1460 := ⟨838, by decide +kernel, rfl, by decide⟩
theorem d_LW_625 : PCi code 625 0 626 := Or.inl ⟨0, by decide +kernel, by decide, rfl⟩
theorem d_LW_626 : DR code 626 (.ireturn) 1 627 := ⟨by decide +kernel, rfl⟩
theorem d_LW_627 : PLa code 627 1 628 := Or.inl ⟨1, by decide +kernel, rfl, rfl⟩
theorem d_LW_628 : PLa code 628 0 629 := Or.inl ⟨0, by decide +kernel, rfl, rfl⟩
theorem d_LW_629 : PLi code 629 3 630 := Or.inl ⟨3, by decide +kernel, rfl, rfl⟩
theorem d_LW_630 : PCi code 630 1 631 := Or.inl ⟨1, by decide +kernel, by decide, rfl⟩
theorem d_LW_631 : DR code 631 (.iadd) 1 632 := ⟨by decide +kernel, rfl⟩
theorem d_LW_632 : DR code 632 (.iaload) 1 633 := ⟨by decide +kernel, rfl⟩
theorem d_LW_633 : DR code 633 (.invokevirtual 69) 3 636 := ⟨by decide +kernel, rfl⟩
theorem d_LW_636 : PLa code 636 2 637 := Or.inl ⟨2, by decide +kernel, rfl, rfl⟩
theorem d_LW_637 : PLa code 637 0 638 := Or.inl ⟨0, by decide +kernel, rfl, rfl⟩
theorem d_LW_638 : PLi code 638 3 639 := Or.inl ⟨3, by decide +kernel, rfl, rfl⟩
theorem d_LW_639 : PCi code 639 1 640 := Or.inl ⟨1, by decide +kernel, by decide, rfl⟩
theorem d_LW_640 : DR code 640 (.iadd) 1 641 := ⟨by decide +kernel, rfl⟩
theorem d_LW_641 : DR code 641 (.iaload) 1 642 := ⟨by decide +kernel, rfl⟩
theorem d_LW_642 : DR code 642 (.invokevirtual 72) 3 645 := ⟨by decide +kernel, rfl⟩
theorem d_LW_645 : DJ code 645 (.if_icmp .eq) 648 1460 := ⟨815, by decide +kernel, rfl, by decide⟩
theorem d_LW_648 : PCi code 648 0 649 := Or.inl ⟨0, by decide +kernel, by decide, rfl⟩
theorem d_LW_649 : DR code 649 (.ireturn) 1 650 := ⟨by decide +kernel, rfl⟩
theorem d_LW_650 : PLa code 650 1 651 := Or.inl ⟨1, by decide +kernel, rfl, rfl⟩
theorem d_LW_651 : PLa code 651 0 652 := Or.inl ⟨0, by decide +kernel, rfl, rfl⟩
theorem d_LW_652 : PLi code 652 3 653 := Or.inl ⟨3, by decide +kernel, rfl, rfl⟩
theorem d_LW_653 : PCi code 653 1 654 := Or.inl ⟨1, by decide +kernel, by decide, rfl⟩
theorem d_LW_654 : DR code 654 (.iadd) 1 655 := ⟨by decide +kernel, rfl⟩
theorem d_LW_655 : DR code 655 (.iaload) 1 656 := ⟨by decide +kernel, rfl⟩
theorem d_LW_656 : PLa code 656 0 657 := Or.inl ⟨0, by decide +kernel, rfl, rfl⟩
theorem d_LW_657 : PLi code 657 3 658 := Or.inl ⟨3, by decide +kernel, rfl, rfl⟩
theorem d_LW_658 : PCi code 658 2 659 := Or.inl ⟨2, by decide +kernel, by decide, rfl⟩
theorem d_LW_659 : DR code 659 (.iadd) 1 660 := ⟨by decide +kernel, rfl⟩
theorem d_LW_660 : DR code 660 (.iaload) 1 661 := ⟨by decide +kernel, rfl⟩
theorem d_LW_661 : DR code 661 (.invokevirtual 73) 3 664 := ⟨by decide +kernel, rfl⟩
theorem d_LW_664 : PLa code 664 2 665 := Or.inl ⟨2, by decide +kernel, rfl, rfl⟩
theorem d_LW_665 : PLa code 665 0 666 := Or.inl ⟨0, by decide +kernel, rfl, rfl⟩
theorem d_LW_666 : PLi code 666 3 667 := Or.inl ⟨3, by decide +kernel, rfl, rfl⟩
theorem d_LW_667 : PCi code 667 1 668 := Or.inl ⟨1, by decide +kernel, by decide, rfl⟩
theorem d_LW_668 : DR code 668 (.iadd) 1 669 := ⟨by decide +kernel, rfl⟩
theorem d_LW_669 : DR code 669 (.iaload) 1 670 := ⟨by decide +kernel, rfl⟩
theorem d_LW_670 : PLa code 670 0 671 := Or.inl ⟨0, by decide +kernel, rfl, rfl⟩
theorem d_LW_671 : PLi code 671 3 672 := Or.inl ⟨3, by decide +kernel, rfl, rfl⟩
theorem d_LW_672 : PCi code 672 2 673 := Or.inl ⟨2, by decide +kernel, by decide, rfl⟩
theorem d_LW_673 : DR code 673 (.iadd) 1 674 := ⟨by decide +kernel, rfl⟩
theorem d_LW_674 : DR code 674 (.iaload) 1 675 := ⟨by decide +kernel, rfl⟩
theorem d_LW_675 : DR code 675 (.invokevirtual 76) 3 678 := ⟨by decide +kernel, rfl⟩
theorem d_LW_678 : DJ code 678 (.if_icmp .eq) 681 1460 := ⟨782, by decide +kernel, rfl, by decide⟩
theorem d_LW_681 : PCi code 681 0 682 := Or.inl ⟨0, by decide +kernel, by decide, rfl⟩
theorem d_LW_682 : DR code 682 (.ireturn) 1 683 := ⟨by decide +kernel, rfl⟩
theorem d_LW_683 : PLa code 683 1 684 := Or.inl ⟨1, by decide +kernel, rfl, rfl⟩
theorem d_LW_684 : DR code 684 (.invokevirtual 77) 3 687 := ⟨by decide +kernel, rfl⟩
theorem d_LW_687 : PLa code 687 2 688 := Or.inl ⟨2, by decide +kernel, rfl, rfl⟩
theorem d_LW_688 : DR code 688 (.invokevirtual 80) 3 691 := ⟨by decide +kernel, rfl⟩
theorem d_LW_691 : DJ code 691 (.if_icmp .eq) 694 1460 := ⟨769, by decide +kernel, rfl, by decide⟩
theorem d_LW_694 : PCi code 694 0 695 := Or.inl ⟨0, by decide +kernel, by decide, rfl⟩
theorem d_LW_695 : DR code 695 (.ireturn) 1 696 := ⟨by decide +kernel, rfl⟩
theorem d_LW_696 : PLa code 696 1 697 := Or.inl ⟨1, by decide +kernel, rfl, rfl⟩
theorem d_LW_697 : PLa code 697 0 698 := Or.inl ⟨0, by decide +kernel, rfl, rfl⟩
theorem d_LW_698 : PLi code 698 3 699 := Or.inl ⟨3, by decide +kernel, rfl, rfl⟩
theorem d_LW_699 : PCi code 699 1 700 := Or.inl ⟨1, by decide +kernel, by decide, rfl⟩
theorem d_LW_700 : DR code 700 (.iadd) 1 701 := ⟨by decide +kernel, rfl⟩
theorem d_LW_701 : DR code 701 (.iaload) 1 702 := ⟨by decide +kernel, rfl⟩
theorem d_LW_702 : PLa code 702 0 703 := Or.inl ⟨0, by decide +kernel, rfl, rfl⟩
theorem d_LW_703 : PLi code 703 3 704 := Or.inl ⟨3, by decide +kernel, rfl, rfl⟩
theorem d_LW_704 : PCi code 704 2 705 := Or.inl ⟨2, by decide +kernel, by decide, rfl⟩
theorem d_LW_705 : DR code 705 (.iadd) 1 706 := ⟨by decide +kernel, rfl⟩
theorem d_LW_706 : DR code 706 (.iaload) 1 707 := ⟨by decide +kernel, rfl⟩
theorem d_LW_707 : DR code 707 (.invokevirtual 81) 3 710 := ⟨by decide +kernel, rfl⟩
theorem d_LW_710 : PLa code 710 2 711 := Or.inl ⟨2, by decide +kernel, rfl, rfl⟩
theorem d_LW_711 : PLa code 711 0 712 := Or.inl ⟨0, by decide +kernel, rfl, rfl⟩
theorem d_LW_712 : PLi code 712 3 713 := Or.inl ⟨3, by decide +kernel, rfl, rfl⟩
theorem d_LW_713 : PCi code 713 1 714 := Or.inl ⟨1, by decide +kernel, by decide, rfl⟩
theorem d_LW_714 : DR code 714 (.iadd) 1 715 := ⟨by decide +kernel, rfl⟩
theorem d_LW_715 : DR code 715 (.iaload) 1 716 := ⟨by decide +kernel, rfl⟩
theorem d_LW_716 : PLa code 716 0 717 := Or.inl ⟨0, by decide +kernel, rfl, rfl⟩
theorem d_LW_717 : PLi code 717 3 718 := Or.inl ⟨3, by decide +kernel, rfl, rfl⟩
theorem d_LW_718 : PCi code 718 2 719 := Or.inl ⟨2, by decide +kernel, by decide, rfl⟩
theorem d_LW_719 : DR code 719 (.iadd) 1 720 := ⟨by decide +kernel, rfl⟩
theorem d_LW_720 : DR code 720 (.iaload) 1 721 := ⟨by decide +kernel, rfl⟩
theorem d_LW_721 : DR code 721 (.invokevirtual 85) 3 724 := ⟨by decide +kernel, rfl⟩
theorem d_LW_724 : DR code 724 (.lcmp) 1 725 := ⟨by decide +kernel, rfl⟩
theorem d_LW_725 : DJ code 725 (.ifCond .eq) 728 1460 := ⟨735, by decide +kernel, rfl, by decide⟩
theorem d_LW_728 : PCi code 728 0 729 := Or.inl ⟨0, by decide +kernel, by decide, rfl⟩
theorem d_LW_729 : DR code 729 (.ireturn) 1 730 := ⟨by decide +kernel, rfl⟩
theorem d_LW_730 : PLa code 730 1 731 := Or.inl ⟨1, by decide +kernel, rfl, rfl⟩
theorem d_LW_731 : PLa code 731 0 732 := Or.inl ⟨0, by decide +kernel, rfl, rfl⟩
theorem d_LW_732 : PLi code 732 3 733 := Or.inl ⟨3, by decide +kernel, rfl, rfl⟩
theorem d_LW_733 : PCi code 733 1 734 := Or.inl ⟨1, by decide +kernel, by decide, rfl⟩
theorem d_LW_734 : DR code 734 (.iadd) 1 735 := ⟨by decide +kernel, rfl⟩
theorem d_LW_735 : DR code 735 (.iaload) 1 736 := ⟨by decide +kernel, rfl⟩
theorem d_LW_736 : PLa code 736 0 737 := Or.inl ⟨0, by decide +kernel, rfl, rfl⟩
theorem d_LW_737 : PLi code 737 3 738 := Or.inl ⟨3, by decide +kernel, rfl, rfl⟩
theorem d_LW_738 : PCi code 738 2 739 := Or.inl ⟨2, by decide +kernel, by decide, rfl⟩
theorem d_LW_739 : DR code 739 (.iadd) 1 740 := ⟨by decide +kernel, rfl⟩
theorem d_LW_740 : DR code 740 (.iaload) 1 741 := ⟨by decide +kernel, rfl⟩
theorem d_LW_741 : DR code 741 (.invokevirtual 86) 3 744 := ⟨by decide +kernel, rfl⟩
theorem d_LW_744 : PLa code 744 2 745 := Or.inl ⟨2, by decide +kernel, rfl, rfl⟩
theorem d_LW_745 : PLa code 745 0 746 := Or.inl ⟨0, by decide +kernel, rfl, rfl⟩
theorem d_LW_746 : PLi code 746 3 747 := Or.inl ⟨3, by decide +kernel, rfl, rfl⟩
theorem d_LW_747 : PCi code 747 1 748 := Or.inl ⟨1, by decide +kernel, by decide, rfl⟩
theorem d_LW_748 : DR code 748 (.iadd) 1 749 := ⟨by decide +kernel, rfl⟩
theorem d_LW_749 : DR code 749 (.iaload) 1 750 := ⟨by decide +kernel, rfl⟩
theorem d_LW_750 : PLa code 750 0 751 := Or.inl ⟨0, by decide +kernel, rfl, rfl⟩
theorem d_LW_751 : PLi code 751 3 752 := Or.inl ⟨3, by decide +kernel, rfl, rfl⟩
theorem d_LW_752 : PCi code 752 2 753 := Or.inl ⟨2, by decide +kernel, by decide, rfl⟩
theorem d_LW_753 : DR code 753 (.iadd) 1 754 := ⟨by decide +kernel, rfl⟩
theorem d_LW_754 : DR code 754 (.iaload) 1 755 := ⟨by decide +kernel, rfl⟩
theorem d_LW_755 : DR code 755 (.invokevirtual 89) 3 758 := ⟨by decide +kernel, rfl⟩
theorem d_LW_758 : DJ code 758 (.if_icmp .eq) 761 1460 := ⟨702, by decide +kernel, rfl, by decide⟩
theorem d_LW_761 : PCi code 761 0 762 := Or.inl ⟨0, by decide +kernel, by decide, rfl⟩
theorem d_LW_762 : DR code 762 (.ireturn) 1 763 := ⟨by decide +kernel, rfl⟩
theorem d_LW_763 : PLa code 763 1 764 := Or.inl ⟨1, by decide +kernel, rfl, rfl⟩
theorem d_LW_764 : DR code 764 (.invokevirtual 90) 3 767 := ⟨by decide +kernel, rfl⟩
theorem d_LW_767 : PLa code 767 2 768 := Or.inl ⟨2, by decide +kernel, rfl, rfl⟩
theorem d_LW_768 : DR code 768 (.invokevirtual 93) 3 771 := ⟨by decide +kernel, rfl⟩
theorem d_LW_771 : DJ code 771 (.if_icmp .eq) 774 1460 := ⟨689, by decide +kernel, rfl, by decide⟩
theorem d_LW_774 : PCi code 774 0 775 := Or.inl ⟨0, by decide +kernel, by decide, rfl⟩
theorem d_LW_775 : DR code 775 (.ireturn) 1 776 := ⟨by decide +kernel, rfl⟩
theorem d_LW_776 : PLa code 776 1 777 := Or.inl ⟨1, by decide +kernel, rfl, rfl⟩
theorem d_LW_777 : PLa code 777 0 778 := Or.inl ⟨0, by decide +kernel, rfl, rfl⟩
theorem d_LW_778 : PLi code 778 3 779 := Or.inl ⟨3, by decide +kernel, rfl, rfl⟩
theorem d_LW_779 : PCi code 779 1 780 := Or.inl ⟨1, by decide +kernel, by decide, rfl⟩
theorem d_LW_780 : DR code 780 (.iadd) 1 781 := ⟨by decide +kernel, rfl⟩
theorem d_LW_781 : DR code 781 (.iaload) 1 782 := ⟨by decide +kernel, rfl⟩
theorem d_LW_782 : DR code 782 (.invokevirtual 94) 3 785 := ⟨by decide +kernel, rfl⟩
theorem d_LW_785 : PLa code 785 2 786 := Or.inl ⟨2, by decide +kernel, rfl, rfl⟩
theorem d_LW_786 : PLa code 786 0 787 := Or.inl ⟨0, by decide +kernel, rfl, rfl⟩
theorem d_LW_787 : PLi code 787 3 788 := Or.inl ⟨3, by decide +kernel, rfl, rfl⟩
theorem d_LW_788 : PCi code 788 1 789 := Or.inl ⟨1, by decide +kernel, by decide, rfl⟩
theorem d_LW_789 : DR code 789 (.iadd) 1 790 := ⟨by decide +kernel, rfl⟩
theorem d_LW_790 : DR code 790 (.iaload) 1 791 := ⟨by decide +kernel, rfl⟩
theorem d_LW_791 : DR code 791 (.invokevirtual 97) 3 794 := ⟨by decide +kernel, rfl⟩
theorem d_LW_794 : DJ code 794 (.if_icmp .eq) 797 1460 := ⟨666, by decide +kernel, rfl, by decide⟩
theorem d_LW_797 : PCi code 797 0 798 := Or.inl ⟨0, by decide +kernel, by decide, rfl⟩
theorem d_LW_798 : DR code 798 (.ireturn) 1 799 := ⟨by decide +kernel, rfl⟩
theorem d_LW_799 : PLa code 799 1 800 := Or.inl ⟨1, by decide +kernel, rfl, rfl⟩
theorem d_LW_800 : DR code 800 (.invokevirtual 98) 3 803 := ⟨by decide +kernel, rfl⟩
theorem d_LW_803 : PLa code 803 2 804 := Or.inl ⟨2, by decide +kernel, rfl, rfl⟩
theorem d_LW_804 : DR code 804 (.invokevirtual 101) 3 807 := ⟨by decide +kernel, rfl⟩
theorem d_LW_807 : DJ code 807 (.if_icmp .eq) 810 1460 := ⟨653, by decide +kernel, rfl, by decide⟩
theorem d_LW_810 : PCi code 810 0 811 := Or.inl ⟨0, by decide +kernel, by decide, rfl⟩
theorem d_LW_811 : DR code 811 (.ireturn) 1 812 := ⟨by decide +kernel, rfl⟩
theorem d_LW_812 : PLa code 812 1 813 := Or.inl ⟨1, by decide +kernel, rfl, rfl⟩
theorem d_LW_813 : PLa code 813 0 814 := Or.inl ⟨0, by decide +kernel, rfl, rfl⟩
theorem d_LW_814 : PLi code 814 3 815 := Or.inl ⟨3, by decide +kernel, rfl, rfl⟩
theorem d_LW_815 : PCi code 815 1 816 := Or.inl ⟨1, by decide +kernel, by decide, rfl⟩
theorem d_LW_816 : DR code 816 (.iadd) 1 817 := ⟨by decide +kernel, rfl⟩
theorem d_LW_817 : DR code 817 (.iaload) 1 818 := ⟨by decide +kernel, rfl⟩
theorem d_LW_818 : DR code 818 (.invokevirtual 102) 3 821 := ⟨by decide +kernel, rfl⟩
theorem d_LW_821 : PLa code 821 2 822 := Or.inl ⟨2, by decide +kernel, rfl, rfl⟩
theorem d_LW_822 : PLa code 822 0 823 := Or.inl ⟨0, by decide +kernel, rfl, rfl⟩
theorem d_LW_823 : PLi code 823 3 824 := Or.inl ⟨3, by decide +kernel, rfl, rfl⟩
theorem d_LW_824 : PCi code 824 1 825 := Or.inl ⟨1, by decide +kernel, by decide, rfl⟩
theorem d_LW_825 : DR code 825 (.iadd) 1 826 := ⟨by decide +kernel, rfl⟩
theorem d_LW_826 : DR code 826 (.iaload) 1 827 := ⟨by decide +kernel, rfl⟩
theorem d_LW_827 : DR code 827 (.invokevirtual 105) 3 830 := ⟨by decide +kernel, rfl⟩
theorem d_LW_830 : DJ code 830 (.if_icmp .eq) 833 1460 := ⟨630, by decide +kernel, rfl, by decide⟩
theorem d_LW_833 : PCi code 833 0 834 := Or.inl ⟨0, by decide +kernel, by decide, rfl⟩
theorem d_LW_834 : DR code 834 (.ireturn) 1 835 := ⟨by decide +kernel, rfl⟩
theorem d_LW_835 : PLa code 835 1 836 := Or.inl ⟨1, by decide +kernel, rfl, rfl⟩
theorem d_LW_836 : PLa code 836 0 837 := Or.inl ⟨0, by decide +kernel, rfl, rfl⟩
theorem d_LW_837 : PLi code 837 3 838 := Or.inl ⟨3, by decide +kernel, rfl, rfl⟩
theorem d_LW_838 : PCi code 838 1 839 := Or.inl ⟨1, by decide +kernel, by decide, rfl⟩
theorem d_LW_839 : DR code 839 (.iadd) 1 840 := ⟨by decide +kernel, rfl⟩
theorem d_LW_840 : DR code 840 (.iaload) 1 841 := ⟨by decide +kernel, rfl⟩
theorem d_LW_841 : PLa code 841 0 842 := Or.inl ⟨0, by decide +kernel, rfl, rfl⟩
theorem d_LW_842 : PLi code 842 3 843 := Or.inl ⟨3, by decide +kernel, rfl, rfl⟩
theorem d_LW_843 : PCi code 843 2 844 := Or.inl ⟨2, by decide +kernel, by decide, rfl⟩
theorem d_LW_844 : DR code 844 (.iadd) 1 845 := ⟨by decide +kernel, rfl⟩
theorem d_LW_845 : DR code 845 (.iaload) 1 846 := ⟨by decide +kernel, rfl⟩
theorem d_LW_846 : DR code 846 (.invokevirtual 106) 3 849 := ⟨by decide +kernel, rfl⟩
theorem d_LW_849 : PLa code 849 2 850 := Or.inl ⟨2, by decide +kernel, rfl, rfl⟩
theorem d_LW_850 : PLa code 850 0 851 := Or.inl ⟨0, by decide +kernel, rfl, rfl⟩
theorem d_LW_851 : PLi code 851 3 852 := Or.inl ⟨3, by decide +kernel, rfl, rfl⟩
theorem d_LW_852 : PCi code 852 1 853 := Or.inl ⟨1, by decide +kernel, by decide, rfl⟩
theorem d_LW_853 : DR code 853 (.iadd) 1 854 := ⟨by decide +kernel, rfl⟩
theorem d_LW_854 : DR code 854 (.iaload) 1 855 := ⟨by decide +kernel, rfl⟩
theorem d_LW_855 : PLa code 855 0 856 := Or.inl ⟨0, by decide +kernel, rfl, rfl⟩
theorem d_LW_856 : PLi code 856 3 857 := Or.inl ⟨3, by decide +kernel, rfl, rfl⟩
theorem d_LW_857 : PCi code 857 2 858 := Or.inl ⟨2, by decide +kernel, by decide, rfl⟩
theorem d_LW_858 : DR code 858 (.iadd) 1 859 := ⟨by decide +kernel, rfl⟩
theorem d_LW_859 : DR code 859 (.iaload) 1 860 := ⟨by decide +kernel, rfl⟩
theorem d_LW_860 : DR code 860 (.invokevirtual 109) 3 863 := ⟨by decide +kernel, rfl⟩
theorem d_LW_863 : DJ code 863 (.if_icmp .eq) 866 1460 := ⟨597, by decide +kernel, rfl, by decide⟩
theorem d_LW_866 : PCi code 866 0 867 := Or.inl ⟨0, by decide +kernel, by decide, rfl⟩
theorem d_LW_867 : DR code 867 (.ireturn) 1 868 := ⟨by decide +kernel, rfl⟩
theorem d_LW_868 : PLa code 868 1 869 := Or.inl ⟨1, by decide +kernel, rfl, rfl⟩
theorem d_LW_869 : PLa code 869 0 870 := Or.inl ⟨0, by decide +kernel, rfl, rfl⟩
theorem d_LW_870 : PLi code 870 3 871 := Or.inl ⟨3, by decide +kernel, rfl, rfl⟩
theorem d_LW_871 : PCi code 871 1 872 := Or.inl ⟨1, by decide +kernel, by decide, rfl⟩
theorem d_LW_872 : DR code 872 (.iadd) 1 873 := ⟨by decide +kernel, rfl⟩
theorem d_LW_873 : DR code 873 (.iaload) 1 874 := ⟨by decide +kernel, rfl⟩
theorem d_LW_874 : PLa code 874 0 875 := Or.inl ⟨0, by decide +kernel, rfl, rfl⟩
theorem d_LW_875 : PLi code 875 3 876 := Or.inl ⟨3, by decide +kernel, rfl, rfl⟩
theorem d_LW_876 : PCi code 876 2 877 := Or.inl ⟨2, by decide +kernel, by decide, rfl⟩
theorem d_LW_877 : DR code 877 (.iadd) 1 878 := ⟨by decide +kernel, rfl⟩
theorem d_LW_878 : DR code 878 (.iaload) 1 879 := ⟨by decide +kernel, rfl⟩
theorem d_LW_879 : DR code 879 (.invokevirtual 110) 3 882 := ⟨by decide +kernel, rfl⟩
theorem d_LW_882 : PLa code 882 2 883 := Or.inl ⟨2, by decide +kernel, rfl, rfl⟩
theorem d_LW_883 : PLa code 883 0 884 := Or.inl ⟨0, by decide +kernel, rfl, rfl⟩
theorem d_LW_884 : PLi code 884 3 885 := Or.inl ⟨3, by decide +kernel, rfl, rfl⟩
theorem d_LW_885 : PCi code 885 1 886 := Or.inl ⟨1, by decide +kernel, by decide, rfl⟩
theorem d_LW_886 : DR code 886 (.iadd) 1 887 := ⟨by decide +kernel, rfl⟩
theorem d_LW_887 : DR code 887 (.iaload) 1 888 := ⟨by decide +kernel, rfl⟩
theorem d_LW_888 : PLa code 888 0 889 := Or.inl ⟨0, by decide +kernel, rfl, rfl⟩
theorem d_LW_889 : PLi code 889 3 890 := Or.inl ⟨3, by decide +kernel, rfl, rfl⟩
theorem d_LW_890 : PCi code 890 2 891 := Or.inl ⟨2, by decide +kernel, by decide, rfl⟩
theorem d_LW_891 : DR code 891 (.iadd) 1 892 := ⟨by decide +kernel, rfl⟩
theorem d_LW_892 : DR code 892 (.iaload) 1 893 := ⟨by decide +kernel, rfl⟩
theorem d_LW_893 : DR code 893 (.invokevirtual 113) 3 896 := ⟨by decide +kernel, rfl⟩
theorem d_LW_896 : DJ code 896 (.if_icmp .eq) 899 1460 := ⟨564, by decide +kernel, rfl, by decide⟩
theorem d_LW_899 : PCi code 899 0 900 := Or.inl ⟨0, by decide +kernel, by decide, rfl⟩
theorem d_LW_900 : DR code 900 (.ireturn) 1 901 := ⟨by decide +kernel, rfl⟩
theorem d_LW_901 : PLa code 901 1 902 := Or.inl ⟨1, by decide +kernel, rfl, rfl⟩
theorem d_LW_902 : PLa code 902 0 903 := Or.inl ⟨0, by decide +kernel, rfl, rfl⟩
theorem d_LW_903 : PLi code 903 3 904 := Or.inl ⟨3, by decide +kernel, rfl, rfl⟩
theorem d_LW_904 : PCi code 904 1 905 := Or.inl ⟨1, by decide +kernel, by decide, rfl⟩
theorem d_LW_905 : DR code 905 (.iadd) 1 906 := ⟨by decide +kernel, rfl⟩
theorem d_LW_906 : DR code 906 (.iaload) 1 907 := ⟨by decide +kernel, rfl⟩
theorem d_LW_907 : PLa code 907 0 908 := Or.inl ⟨0, by decide +kernel, rfl, rfl⟩
theorem d_LW_908 : PLi code 908 3 909 := Or.inl ⟨3, by decide +kernel, rfl, rfl⟩
theorem d_LW_909 : PCi code 909 2 910 := Or.inl ⟨2, by decide +kernel, by decide, rfl⟩
theorem d_LW_910 : DR code 910 (.iadd) 1 911 := ⟨by decide +kernel, rfl⟩
theorem d_LW_911 : DR code 911 (.iaload) 1 912 := ⟨by decide +kernel, rfl⟩
theorem d_LW_912 : DR code 912 (.invokevirtual 114) 3 915 := ⟨by decide +kernel, rfl⟩
theorem d_LW_915 : PLa code 915 2 916 := Or.inl ⟨2, by decide +kernel, rfl, rfl⟩
theorem d_LW_916 : PLa code 916 0 917 := Or.inl ⟨0, by decide +kernel, rfl, rfl⟩
theorem d_LW_917 : PLi code 917 3 918 := Or.inl ⟨3, by decide +kernel, rfl, rfl⟩
theorem d_LW_918 : PCi code 918 1 919 := Or.inl ⟨1, by decide +kernel, by decide, rfl⟩
theorem d_LW_919 : DR code 919 (.iadd) 1 920 := ⟨by decide +kernel, rfl⟩
theorem d_LW_920 : DR code 920 (.iaload) 1 921 := ⟨by decide +kernel, rfl⟩
theorem d_LW_921 : PLa code 921 0 922 := Or.inl ⟨0, by decide +kernel, rfl, rfl⟩
theorem d_LW_922 : PLi code 922 3 923 := Or.inl ⟨3, by decide +kernel, rfl, rfl⟩
theorem d_LW_923 : PCi code 923 2 924 := Or.inl ⟨2, by decide +kernel, by decide, rfl⟩
theorem d_LW_924 : DR code 924 (.iadd) 1 925 := ⟨by decide +kernel, rfl⟩
theorem d_LW_925 : DR code 925 (.iaload) 1 926 := ⟨by decide +kernel, rfl⟩
theorem d_LW_926 : DR code 926 (.invokevirtual 117) 3 929 := ⟨by decide +kernel, rfl⟩
theorem d_LW_929 : DJ code 929 (.if_icmp .eq) 932 1460 := ⟨531, by decide +kernel, rfl, by decide⟩
theorem d_LW_932 : PCi code 932 0 933 := Or.inl ⟨0, by decide +kernel, by decide, rfl⟩
theorem d_LW_933 : DR code 933 (.ireturn) 1 934 := ⟨by decide +kernel, rfl⟩
theorem d_LW_934 : PLa code 934 1 935 := Or.inl ⟨1, by decide +kernel, rfl, rfl⟩
theorem d_LW_935 : DR code 935 (.invokevirtual 118) 3 938 := ⟨by decide +kernel, rfl⟩
theorem d_LW_938 : PLa code 938 2 939 := Or.inl ⟨2, by decide +kernel, rfl, rfl⟩
theorem d_LW_939 : DR code 939 (.invokevirtual 121) 3 942 := ⟨by decide +kernel, rfl⟩
theorem d_LW_942 : DJ code 942 (.if_icmp .eq) 945 1460 := ⟨518, by decide +kernel, rfl, by decide⟩
theorem d_LW_945 : PCi code 945 0 946 := Or.inl ⟨0, by decide +kernel, by decide, rfl⟩
theorem d_LW_946 : DR code 946 (.ireturn) 1 947 := ⟨by decide +kernel, rfl⟩
theorem d_LW_947 : PLa code 947 1 948 := Or.inl ⟨1, by decide +kernel, rfl, rfl⟩
theorem d_LW_948 : PLa code 948 0 949 := Or.inl ⟨0, by decide +kernel, rfl, rfl⟩
theorem d_LW_949 : PLi code 949 3 950 := Or.inl ⟨3, by decide +kernel, rfl, rfl⟩
theorem d_LW_950 : PCi code 950 1 951 := Or.inl ⟨1, by decide +kernel, by decide, rfl⟩
theorem d_LW_951 : DR code 951 (.iadd) 1 952 := ⟨by decide +kernel, rfl⟩
theorem d_LW_952 : DR code 952 (.iaload) 1 953 := ⟨by decide +kernel, rfl⟩
theorem d_LW_953 : PLa code 953 0 954 := Or.inl ⟨0, by decide +kernel, rfl, rfl⟩
theorem d_LW_954 : PLi code 954 3 955 := Or.inl ⟨3, by decide +kernel, rfl, rfl⟩
theorem d_LW_955 : PCi code 955 2 956 := Or.inl ⟨2, by decide +kernel, by decide, rfl⟩
theorem d_LW_956 : DR code 956 (.iadd) 1 957 := ⟨by decide +kernel, rfl⟩
theorem d_LW_957 : DR code 957 (.iaload) 1 958 := ⟨by decide +kernel, rfl⟩
theorem d_LW_958 : PLa code 958 0 959 := Or.inl ⟨0, by decide +kernel, rfl, rfl⟩
theorem d_LW_959 : PLi code 959 3 960 := Or.inl ⟨3, by decide +kernel, rfl, rfl⟩
theorem d_LW_960 : PCi code 960 3 961 := Or.inl ⟨3, by decide +kernel, by decide, rfl⟩
theorem d_LW_961 : DR code 961 (.iadd) 1 962 := ⟨by decide +kernel, rfl⟩
theorem d_LW_962 : DR code 962 (.iaload) 1 963 := ⟨by decide +kernel, rfl⟩
theorem d_LW_963 : DR code 963 (.invokevirtual 122) 3 966 := ⟨by decide +kernel, rfl⟩
theorem d_LW_966 : PLa code 966 2 967 := Or.inl ⟨2, by decide +kernel, rfl, rfl⟩
theorem d_LW_967 : PLa code 967 0 968 := Or.inl ⟨0, by decide +kernel, rfl, rfl⟩
theorem d_LW_968 : PLi code 968 3 969 := Or.inl ⟨3, by decide +kernel, rfl, rfl⟩
theorem d_LW_969 : PCi code 969 1 970 := Or.inl ⟨1, by decide +kernel, by decide, rfl⟩
theorem d_LW_970 : DR code 970 (.iadd) 1 971 := ⟨by decide +kernel, rfl⟩
theorem d_LW_971 : DR code 971 (.iaload) 1 972 := ⟨by decide +kernel, rfl⟩
theorem d_LW_972 : PLa code 972 0 973 := Or.inl ⟨0, by decide +kernel, rfl, rfl⟩
theorem d_LW_973 : PLi code 973 3 974 := Or.inl ⟨3, by decide +kernel, rfl, rfl⟩
theorem d_LW_974 : PCi code 974 2 975 := Or.inl ⟨2, by decide +kernel, by decide, rfl⟩
theorem d_LW_975 : DR code 975 (.iadd) 1 976 := ⟨by decide +kernel, rfl⟩
theorem d_LW_976 : DR code 976 (.iaload) 1 977 := ⟨by decide +kernel, rfl⟩
theorem d_LW_977 : PLa code 977 0 978 := Or.inl ⟨0, by decide +kernel, rfl, rfl⟩
theorem d_LW_978 : PLi code 978 3 979 := Or.inl ⟨3, by decide +kernel, rfl, rfl⟩
theorem d_LW_979 : PCi code 979 3 980 := Or.inl ⟨3, by decide +kernel, by decide, rfl⟩
theorem d_LW_980 : DR code 980 (.iadd) 1 981 := ⟨by decide +kernel, rfl⟩
theorem d_LW_981 : DR code 981 (.iaload) 1 982 := ⟨by decide +kernel, rfl⟩
theorem d_LW_982 : DR code 982 (.invokevirtual 126) 3 985 := ⟨by decide +kernel, rfl⟩
theorem d_LW_985 : DR code 985 (.lcmp) 1 986 := ⟨by decide +kernel, rfl⟩
theorem d_LW_986 : DJ code 986 (.ifCond .eq) 989 1460 := ⟨474, by decide +kernel, rfl, by decide⟩
theorem d_LW_989 : PCi code 989 0 990 := Or.inl ⟨0, by decide +kernel, by decide, rfl⟩
theorem d_LW_990 : DR code 990 (.ireturn) 1 991 := ⟨by decide +kernel, rfl⟩
theorem d_LW_991 : PLa code 991 1 992 := Or.inl ⟨1, by decide +kernel, rfl, rfl⟩
theorem d_LW_992 : DR code 992 (.invokevirtual 127) 3 995 := ⟨by decide +kernel, rfl⟩
theorem d_LW_995 : PLa code 995 2 996 := Or.inl ⟨2, by decide +kernel, rfl, rfl⟩
theorem d_LW_996 : DR code 996 (.invokevirtual 130) 3 999 := ⟨by decide +kernel, rfl⟩
theorem d_LW_999 : DJ code 999 (.if_icmp .eq) 1002 1460 := ⟨461, by decide +kernel, rfl, by decide⟩
theorem d_LW_1002 : PCi code 1002 0 1003 := Or.inl ⟨0, by decide +kernel, by decide, rfl⟩
theorem d_LW_1003 : DR code 1003 (.ireturn) 1 1004 := ⟨by decide +kernel, rfl⟩
theorem d_LW_1004 : PLa code 1004 1 1005 := Or.inl ⟨1, by decide +kernel, rfl, rfl⟩
theorem d_LW_1005 : DR code 1005 (.invokevirtual 131) 3 1008 := ⟨by decide +kernel, rfl⟩
theorem d_LW_1008 : PLa code 1008 2 1009 := Or.inl ⟨2, by decide +kernel, rfl, rfl⟩
theorem d_LW_1009 : DR code 1009 (.invokevirtual 134) 3 1012 := ⟨by decide +kernel, rfl⟩
theorem d_LW_1012 : DJ code 1012 (.if_icmp .eq) 1015 1460 := ⟨448, by decide +kernel, rfl, by decide⟩
theorem d_LW_1015 : PCi code 1015 0 1016 := Or.inl ⟨0, by decide +kernel, by decide, rfl⟩
theorem d_LW_1016 : DR code 1016 (.ireturn) 1 1017 := ⟨by decide +kernel, rfl⟩
theorem d_LW_1017 : PLa code 1017 1 1018 := Or.inl ⟨1, by decide +kernel, rfl, rfl⟩
theorem d_LW_1018 : PLa code 1018 0 1019 := Or.inl ⟨0, by decide +kernel, rfl, rfl⟩
theorem d_LW_1019 : PLi code 1019 3 1020 := Or.inl ⟨3, by decide +kernel, rfl, rfl⟩
theorem d_LW_1020 : PCi code 1020 1 1021 := Or.inl ⟨1, by decide +kernel, by decide, rfl⟩
theorem d_LW_1021 : DR code 1021 (.iadd) 1 1022 := ⟨by decide +kernel, rfl⟩
theorem d_LW_1022 : DR code 1022 (.iaload) 1 1023 := ⟨by decide +kernel, rfl⟩
theorem d_LW_1023 : DR code 1023 (.invokevirtual 135) 3 1026 := ⟨by decide +kernel, rfl⟩
theorem d_LW_1026 : PLa code 1026 2 1027 := Or.inl ⟨2, by decide +kernel, rfl, rfl⟩
theorem d_LW_1027 : PLa code 1027 0 1028 := Or.inl ⟨0, by decide +kernel, rfl, rfl⟩
theorem d_LW_1028 : PLi code 1028 3 1029 := Or.inl ⟨3, by decide +kernel, rfl, rfl⟩
theorem d_LW_1029 : PCi code 1029 1 1030 := Or.inl ⟨1, by decide +kernel, by decide, rfl⟩
theorem d_LW_1030 : DR code 1030 (.iadd) 1 1031 := ⟨by decide +kernel, rfl⟩
theorem d_LW_1031 : DR code 1031 (.iaload) 1 1032 := ⟨by decide +kernel, rfl⟩
theorem d_LW_1032 : DR code 1032 (.invokevirtual 138) 3 1035 := ⟨by decide +kernel, rfl⟩
theorem d_LW_1035 : DJ code 1035 (.if_icmp .eq) 1038 1460 := ⟨425, by decide +kernel, rfl, by decide⟩
theorem d_LW_1038 : PCi code 1038 0 1039 := Or.inl ⟨0, by decide +kernel, by decide, rfl⟩
theorem d_LW_1039 : DR code 1039 (.ireturn) 1 1040 := ⟨by decide +kernel, rfl⟩
theorem d_LW_1040 : PLa code 1040 1 1041 := Or.inl ⟨1, by decide +kernel, rfl, rfl⟩
theorem d_LW_1041 : PLa code 1041 0 1042 := Or.inl ⟨0, by decide +kernel, rfl, rfl⟩
theorem d_LW_1042 : PLi code 1042 3 1043 := Or.inl ⟨3, by decide +kernel, rfl, rfl⟩
theorem d_LW_1043 : PCi code 1043 1 1044 := Or.inl ⟨1, by decide +kernel, by decide, rfl⟩
theorem d_LW_1044 : DR code 1044 (.iadd) 1 1045 := ⟨by decide +kernel, rfl⟩
theorem d_LW_1045 : DR code 1045 (.iaload) 1 1046 := ⟨by decide +kernel, rfl⟩
theorem d_LW_1046 : PLa code 1046 0 1047 := Or.inl ⟨0, by decide +kernel, rfl, rfl⟩
theorem d_LW_1047 : PLi code 1047 3 1048 := Or.inl ⟨3, by decide +kernel, rfl, rfl⟩
theorem d_LW_1048 : PCi code 1048 2 1049 := Or.inl ⟨2, by decide +kernel, by decide, rfl⟩
theorem d_LW_1049 : DR code 1049 (.iadd) 1 1050 := ⟨by decide +kernel, rfl⟩
theorem d_LW_1050 : DR code 1050 (.iaload) 1 1051 := ⟨by decide +kernel, rfl⟩
theorem d_LW_1051 : DR code 1051 (.invokevirtual 139) 3 1054 := ⟨by decide +kernel, rfl⟩
theorem d_LW_1054 : PLa code 1054 2 1055 := Or.inl ⟨2, by decide +kernel, rfl, rfl⟩
theorem d_LW_1055 : PLa code 1055 0 1056 := Or.inl ⟨0, by decide +kernel, rfl, rfl⟩
theorem d_LW_1056 : PLi code 1056 3 1057 := Or.inl ⟨3, by decide +kernel, rfl, rfl⟩
theorem d_LW_1057 : PCi code 1057 1 1058 := Or.inl ⟨1, by decide +kernel, by decide, rfl⟩
theorem d_LW_1058 : DR code 1058 (.iadd) 1 1059 := ⟨by decide +kernel, rfl⟩
theorem d_LW_1059 : DR code 1059 (.iaload) 1 1060 := ⟨by decide +kernel, rfl⟩
theorem d_LW_1060 : PLa code 1060 0 1061 := Or.inl ⟨0, by decide +kernel, rfl, rfl⟩
theorem d_LW_1061 : PLi code 1061 3 1062 := Or.inl ⟨3, by decide +kernel, rfl, rfl⟩
theorem d_LW_1062 : PCi code 1062 2 1063 := Or.inl ⟨2, by decide +kernel, by decide, rfl⟩
theorem d_LW_1063 : DR code 1063 (.iadd) 1 1064 := ⟨by decide +kernel, rfl⟩
theorem d_LW_1064 : DR code 1064 (.iaload) 1 1065 := ⟨by decide +kernel, rfl⟩
theorem d_LW_1065 : DR code 1065 (.invokevirtual 142) 3 1068 := ⟨by decide +kernel, rfl⟩
theorem d_LW_1068 : DJ code 1068 (.if_icmp .eq) 1071 1460 := ⟨392, by decide +kernel, rfl, by decide⟩
theorem d_LW_1071 : PCi code 1071 0 1072 := Or.inl ⟨0, by decide +kernel, by decide, rfl⟩
theorem d_LW_1072 : DR code 1072 (.ireturn) 1 1073 := ⟨by decide +kernel, rfl⟩
theorem d_LW_1073 : PLa code 1073 1 1074 := Or.inl ⟨1, by decide +kernel, rfl, rfl⟩
theorem d_LW_1074 : PLa code 1074 0 1075 := Or.inl ⟨0, by decide +kernel, rfl, rfl⟩
theorem d_LW_1075 : PLi code 1075 3 1076 := Or.inl ⟨3, by decide +kernel, rfl, rfl⟩
theorem d_LW_1076 : PCi code 1076 1 1077 := Or.inl ⟨1, by decide +kernel, by decide, rfl⟩
theorem d_LW_1077 : DR code 1077 (.iadd) 1 1078 := ⟨by decide +kernel, rfl⟩
theorem d_LW_1078 : DR code 1078 (.iaload) 1 1079 := ⟨by decide +kernel, rfl⟩
theorem d_LW_1079 : DR code 1079 (.invokevirtual 143) 3 1082 := ⟨by decide +kernel, rfl⟩
theorem d_LW_1082 : PLa code 1082 2 1083 := Or.inl ⟨2, by decide +kernel, rfl, rfl⟩
theorem d_LW_1083 : PLa code 1083 0 1084 := Or.inl ⟨0, by decide +kernel, rfl, rfl⟩
theorem d_LW_1084 : PLi code 1084 3 1085 := Or.inl ⟨3, by decide +kernel, rfl, rfl⟩
theorem d_LW_1085 : PCi code 1085 1 1086 := Or.inl ⟨1, by decide +kernel, by decide, rfl⟩
theorem d_LW_1086 : DR code 1086 (.iadd) 1 1087 := ⟨by decide +kernel, rfl⟩
theorem d_LW_1087 : DR code 1087 (.iaload) 1 1088 := ⟨by decide +kernel, rfl⟩
theorem d_LW_1088 : DR code 1088 (.invokevirtual 146) 3 1091 := ⟨by decide +kernel, rfl⟩
theorem d_LW_1091 : DJ code 1091 (.if_icmp .eq) 1094 1460 := ⟨369, by decide +kernel, rfl, by decide⟩
theorem d_LW_1094 : PCi code 1094 0 1095 := Or.inl ⟨0, by decide +kernel, by decide, rfl⟩
theorem d_LW_1095 : DR code 1095 (.ireturn) 1 1096 := ⟨by decide +kernel, rfl⟩
theorem d_LW_1096 : PLa code 1096 1 1097 := Or.inl ⟨1, by decide +kernel, rfl, rfl⟩
theorem d_LW_1097 : PLa code 1097 0 1098 := Or.inl ⟨0, by decide +kernel, rfl, rfl⟩
theorem d_LW_1098 : PLi code 1098 3 1099 := Or.inl ⟨3, by decide +kernel, rfl, rfl⟩
theorem d_LW_1099 : PCi code 1099 1 1100 := Or.inl ⟨1, by decide +kernel, by decide, rfl⟩
theorem d_LW_1100 : DR code 1100 (.iadd) 1 1101 := ⟨by decide +kernel, rfl⟩
theorem d_LW_1101 : DR code 1101 (.iaload) 1 1102 := ⟨by decide +kernel, rfl⟩
theorem d_LW_1102 : DR code 1102 (.invokevirtual 147) 3 1105 := ⟨by decide +kernel, rfl⟩
theorem d_LW_1105 : PLa code 1105 2 1106 := Or.inl ⟨2, by decide +kernel, rfl, rfl⟩
theorem d_LW_1106 : PLa code 1106 0 1107 := Or.inl ⟨0, by decide +kernel, rfl, rfl⟩
theorem d_LW_1107 : PLi code 1107 3 1108 := Or.inl ⟨3, by decide +kernel, rfl, rfl⟩
theorem d_LW_1108 : PCi code 1108 1 1109 := Or.inl ⟨1, by decide +kernel, by decide, rfl⟩
theorem d_LW_1109 : DR code 1109 (.iadd) 1 1110 := ⟨by decide +kernel, rfl⟩
theorem d_LW_1110 : DR code 1110 (.iaload) 1 1111 := ⟨by decide +kernel, rfl⟩
theorem d_LW_1111 : DR code 1111 (.invokevirtual 150) 3 1114 := ⟨by decide +kernel, rfl⟩
theorem d_LW_1114 : DJ code 1114 (.if_icmp .eq) 1117 1460 := ⟨346, by decide +kernel, rfl, by decide⟩
theorem d_LW_1117 : PCi code 1117 0 1118 := Or.inl ⟨0, by decide +kernel, by decide, rfl⟩
theorem d_LW_1118 : DR code 1118 (.ireturn) 1 1119 := ⟨by decide +kernel, rfl⟩
theorem d_LW_1119 : PLa code 1119 1 1120 := Or.inl ⟨1, by decide +kernel, rfl, rfl⟩
theorem d_LW_1120 : PLa code 1120 0 1121 := Or.inl ⟨0, by decide +kernel, rfl, rfl⟩
theorem d_LW_1121 : PLi code 1121 3 1122 := Or.inl ⟨3, by decide +kernel, rfl, rfl⟩
theorem d_LW_1122 : PCi code 1122 1 1123 := Or.inl ⟨1, by decide +kernel, by decide, rfl⟩
theorem d_LW_1123 : DR code 1123 (.iadd) 1 1124 := ⟨by decide +kernel, rfl⟩
theorem d_LW_1124 : DR code 1124 (.iaload) 1 1125 := ⟨by decide +kernel, rfl⟩
theorem d_LW_1125 : DR code 1125 (.invokevirtual 151) 3 1128 := ⟨by decide +kernel, rfl⟩
theorem d_LW_1128 : PLa code 1128 2 1129 := Or.inl ⟨2, by decide +kernel, rfl, rfl⟩
theorem d_LW_1129 : PLa code 1129 0 1130 := Or.inl ⟨0, by decide +kernel, rfl, rfl⟩
theorem d_LW_1130 : PLi code 1130 3 1131 := Or.inl ⟨3, by decide +kernel, rfl, rfl⟩
theorem d_LW_1131 : PCi code 1131 1 1132 := Or.inl ⟨1, by decide +kernel, by decide, rfl⟩
theorem d_LW_1132 : DR code 1132 (.iadd) 1 1133 := ⟨by decide +kernel, rfl⟩
theorem d_LW_1133 : DR code 1133 (.iaload) 1 1134 := ⟨by decide +kernel, rfl⟩
theorem d_LW_1134 : DR code 1134 (.invokevirtual 154) 3 1137 := ⟨by decide +kernel, rfl⟩
theorem d_LW_1137 : DJ code 1137 (.if_icmp .eq) 1140 1460 := ⟨323, by decide +kernel, rfl, by decide⟩
theorem d_LW_1140 : PCi code 1140 0 1141 := Or.inl ⟨0, by decide +kernel, by decide, rfl⟩
theorem d_LW_1141 : DR code 1141 (.ireturn) 1 1142 := ⟨by decide +kernel, rfl⟩
theorem d_LW_1142 : PLa code 1142 1 1143 := Or.inl ⟨1, by decide +kernel, rfl, rfl⟩
theorem d_LW_1143 : PLa code 1143 0 1144 := Or.inl ⟨0, by decide +kernel, rfl, rfl⟩
theorem d_LW_1144 : PLi code 1144 3 1145 := Or.inl ⟨3, by decide +kernel, rfl, rfl⟩
theorem d_LW_1145 : PCi code 1145 1 1146 := Or.inl ⟨1, by decide +kernel, by decide, rfl⟩
theorem d_LW_1146 : DR code 1146 (.iadd) 1 1147 := ⟨by decide +kernel, rfl⟩
theorem d_LW_1147 : DR code 1147 (.iaload) 1 1148 := ⟨by decide +kernel, rfl⟩
theorem d_LW_1148 : DR code 1148 (.invokevirtual 155) 3 1151 := ⟨by decide +kernel, rfl⟩
theorem d_LW_1151 : PLa code 1151 2 1152 := Or.inl ⟨2, by decide +kernel, rfl, rfl⟩
theorem d_LW_1152 : PLa code 1152 0 1153 := Or.inl ⟨0, by decide +kernel, rfl, rfl⟩
theorem d_LW_1153 : PLi code 1153 3 1154 := Or.inl ⟨3, by decide +kernel, rfl, rfl⟩
theorem d_LW_1154 : PCi code 1154 1 1155 := Or.inl ⟨1, by decide +kernel, by decide, rfl⟩
theorem d_LW_1155 : DR code 1155 (.iadd) 1 1156 := ⟨by decide +kernel, rfl⟩
theorem d_LW_1156 : DR code 1156 (.iaload) 1 1157 := ⟨by decide +kernel, rfl⟩
theorem d_LW_1157 : DR code 1157 (.invokevirtual 158) 3 1160 := ⟨by decide +kernel, rfl⟩
theorem d_LW_1160 : DJ code 1160 (.if_icmp .eq) 1163 1460 := ⟨300, by decide +kernel, rfl, by decide⟩
theorem d_LW_1163 : PCi code 1163 0 1164 := Or.inl ⟨0, by decide +kernel, by decide, rfl⟩
theorem d_LW_1164 : DR code 1164 (.ireturn) 1 1165 := ⟨by decide +kernel, rfl⟩
theorem d_LW_1165 : PLa code 1165 1 1166 := Or.inl ⟨1, by decide +kernel, rfl, rfl⟩
theorem d_LW_1166 : PLa code 1166 0 1167 := Or.inl ⟨0, by decide +kernel, rfl, rfl⟩
theorem d_LW_1167 : PLi code 1167 3 1168 := Or.inl ⟨3, by decide +kernel, rfl, rfl⟩
theorem d_LW_1168 : PCi code 1168 1 1169 := Or.inl ⟨1, by decide +kernel, by decide, rfl⟩
theorem d_LW_1169 : DR code 1169 (.iadd) 1 1170 := ⟨by decide +kernel, rfl⟩
theorem d_LW_1170 : DR code 1170 (.iaload) 1 1171 := ⟨by decide +kernel, rfl⟩
theorem d_LW_1171 : DR code 1171 (.invokevirtual 159) 3 1174 := ⟨by decide +kernel, rfl⟩
theorem d_LW_1174 : PLa code 1174 2 1175 := Or.inl ⟨2, by decide +kernel, rfl, rfl⟩
theorem d_LW_1175 : PLa code 1175 0 1176 := Or.inl ⟨0, by decide +kernel, rfl, rfl⟩
theorem d_LW_1176 : PLi code 1176 3 1177 := Or.inl ⟨3, by decide +kernel, rfl, rfl⟩
theorem d_LW_1177 : PCi code 1177 1 1178 := Or.inl ⟨1, by decide +kernel, by decide, rfl⟩
theorem d_LW_1178 : DR code 1178 (.iadd) 1 1179 := ⟨by decide +kernel, rfl⟩
theorem d_LW_1179 : DR code 1179 (.iaload) 1 1180 := ⟨by decide +kernel, rfl⟩
theorem d_LW_1180 : DR code 1180 (.invokevirtual 162) 3 1183 := ⟨by decide +kernel, rfl⟩
theorem d_LW_1183 : DJ code 1183 (.if_icmp .eq) 1186 1460 := ⟨277, by decide +kernel, rfl, by decide⟩
theorem d_LW_1186 : PCi code 1186 0 1187 := Or.inl ⟨0, by decide +kernel, by decide, rfl⟩
theorem d_LW_1187 : DR code 1187 (.ireturn) 1 1188 := ⟨by decide +kernel, rfl⟩
theorem d_LW_1188 : PLa code 1188 1 1189 := Or.inl ⟨1, by decide +kernel, rfl, rfl⟩
theorem d_LW_1189 : PLa code 1189 0 1190 := Or.inl ⟨0, by decide +kernel, rfl, rfl⟩
theorem d_LW_1190 : PLi code 1190 3 1191 := Or.inl ⟨3, by decide +kernel, rfl, rfl⟩
theorem d_LW_1191 : PCi code 1191 1 1192 := Or.inl ⟨1, by decide +kernel, by decide, rfl⟩
theorem d_LW_1192 : DR code 1192 (.iadd) 1 1193 := ⟨by decide +kernel, rfl⟩
theorem d_LW_1193 : DR code 1193 (.iaload) 1 1194 := ⟨by decide +kernel, rfl⟩
theorem d_LW_1194 : PLa code 1194 0 1195 := Or.inl ⟨0, by decide +kernel, rfl, rfl⟩
theorem d_LW_1195 : PLi code 1195 3 1196 := Or.inl ⟨3, by decide +kernel, rfl, rfl⟩
theorem d_LW_1196 : PCi code 1196 2 1197 := Or.inl ⟨2, by decide +kernel, by decide, rfl⟩
theorem d_LW_1197 : DR code 1197 (.iadd) 1 1198 := ⟨by decide +kernel, rfl⟩
theorem d_LW_1198 : DR code 1198 (.iaload) 1 1199 := ⟨by decide +kernel, rfl⟩
theorem d_LW_1199 : DR code 1199 (.invokevirtual 163) 3 1202 := ⟨by decide +kernel, rfl⟩
theorem d_LW_1202 : PLa code 1202 2 1203 := Or.inl ⟨2, by decide +kernel, rfl, rfl⟩
theorem d_LW_1203 : PLa code 1203 0 1204 := Or.inl ⟨0, by decide +kernel, rfl, rfl⟩
theorem d_LW_1204 : PLi code 1204 3 1205 := Or.inl ⟨3, by decide +kernel, rfl, rfl⟩
theorem d_LW_1205 : PCi code 1205 1 1206 := Or.inl ⟨1, by decide +kernel, by decide, rfl⟩
theorem d_LW_1206 : DR code 1206 (.iadd) 1 1207 := ⟨by decide +kernel, rfl⟩
theorem d_LW_1207 : DR code 1207 (.iaload) 1 1208 := ⟨by decide +kernel, rfl⟩
theorem d_LW_1208 : PLa code 1208 0 1209 := Or.inl ⟨0, by decide +kernel, rfl, rfl⟩
theorem d_LW_1209 : PLi code 1209 3 1210 := Or.inl ⟨3, by decide +kernel, rfl, rfl⟩
theorem d_LW_1210 : PCi code 1210 2 1211 := Or.inl ⟨2, by decide +kernel, by decide, rfl⟩
theorem d_LW_1211 : DR code 1211 (.iadd) 1 1212 := ⟨by decide +kernel, rfl⟩
theorem d_LW_1212 : DR code 1212 (.iaload) 1 1213 := ⟨by decide +kernel, rfl⟩
theorem d_LW_1213 : DR code 1213 (.invokevirtual 166) 3 1216 := ⟨by decide +kernel, rfl⟩
theorem d_LW_1216 : DJ code 1216 (.if_icmp .eq) 1219 1460 := ⟨244, by decide +kernel, rfl, by decide⟩
theorem d_LW_1219 : PCi code 1219 0 1220 := Or.inl ⟨0, by decide +kernel, by decide, rfl⟩
theorem d_LW_1220 : DR code 1220 (.ireturn) 1 1221 := ⟨by decide +kernel, rfl⟩
theorem d_LW_1221 : PLa code 1221 1 1222 := Or.inl ⟨1, by decide +kernel, rfl, rfl⟩
theorem d_LW_1222 : PLa code 1222 0 1223 := Or.inl ⟨0, by decide +kernel, rfl, rfl⟩
theorem d_LW_1223 : PLi code 1223 3 1224 := Or.inl ⟨3, by decide +kernel, rfl, rfl⟩
theorem d_LW_1224 : PCi code 1224 1 1225 := Or.inl ⟨1, by decide +kernel, by decide, rfl⟩
theorem d_LW_1225 : DR code 1225 (.iadd) 1 1226 := ⟨by decide +kernel, rfl⟩
theorem d_LW_1226 : DR code 1226 (.iaload) 1 1227 := ⟨by decide +kernel, rfl⟩
theorem d_LW_1227 : DR code 1227 (.invokevirtual 167) 3 1230 := ⟨by decide +kernel, rfl⟩
theorem d_LW_1230 : PLa code 1230 2 1231 := Or.inl ⟨2, by decide +kernel, rfl, rfl⟩
theorem d_LW_1231 : PLa code 1231 0 1232 := Or.inl ⟨0, by decide +kernel, rfl, rfl⟩
theorem d_LW_1232 : PLi code 1232 3 1233 := Or.inl ⟨3, by decide +kernel, rfl, rfl⟩
theorem d_LW_1233 : PCi code 1233 1 1234 := Or.inl ⟨1, by decide +kernel, by decide, rfl⟩
theorem d_LW_1234 : DR code 1234 (.iadd) 1 1235 := ⟨by decide +kernel, rfl⟩
theorem d_LW_1235 : DR code 1235 (.iaload) 1 1236 := ⟨by decide +kernel, rfl⟩
theorem d_LW_1236 : DR code 1236 (.invokevirtual 170) 3 1239 := ⟨by decide +kernel, rfl⟩
theorem d_LW_1239 : DJ code 1239 (.if_icmp .eq) 1242 1460 := ⟨221, by decide +kernel, rfl, by decide⟩
theorem d_LW_1242 : PCi code 1242 0 1243 := Or.inl ⟨0, by decide +kernel, by decide, rfl⟩
theorem d_LW_1243 : DR code 1243 (.ireturn) 1 1244 := ⟨by decide +kernel, rfl⟩
theorem d_LW_1244 : PLa code 1244 1 1245 := Or.inl ⟨1, by decide +kernel, rfl, rfl⟩
theorem d_LW_1245 : DR code 1245 (.invokevirtual 171) 3 1248 := ⟨by decide +kernel, rfl⟩
theorem d_LW_1248 : PLa code 1248 2 1249 := Or.inl ⟨2, by decide +kernel, rfl, rfl⟩
theorem d_LW_1249 : DR code 1249 (.invokevirtual 174) 3 1252 := ⟨by decide +kernel, rfl⟩
theorem d_LW_1252 : DJ code 1252 (.if_icmp .eq) 1255 1460 := ⟨208, by decide +kernel, rfl, by decide⟩
theorem d_LW_1255 : PCi code 1255 0 1256 := Or.inl ⟨0, by decide +kernel, by decide, rfl⟩
theorem d_LW_1256 : DR code 1256 (.ireturn) 1 1257 := ⟨by decide +kernel, rfl⟩
theorem d_LW_1257 : PLa code 1257 1 1258 := Or.inl ⟨1, by decide +kernel, rfl, rfl⟩
theorem d_LW_1258 : DR code 1258 (.invokevirtual 175) 3 1261 := ⟨by decide +kernel, rfl⟩
theorem d_LW_1261 : PLa code 1261 2 1262 := Or.inl ⟨2, by decide +kernel, rfl, rfl⟩
theorem d_LW_1262 : DR code 1262 (.invokevirtual 178) 3 1265 := ⟨by decide +kernel, rfl⟩
theorem d_LW_1265 : DJ code 1265 (.if_icmp .eq) 1268 1460 := ⟨195, by decide +kernel, rfl, by decide⟩
theorem d_LW_1268 : PCi code 1268 0 1269 := Or.inl ⟨0, by decide +kernel, by decide, rfl⟩
theorem d_LW_1269 : DR code 1269 (.ireturn) 1 1270 := ⟨by decide +kernel, rfl⟩
theorem d_LW_1270 : PLa code 1270 1 1271 := Or.inl ⟨1, by decide +kernel, rfl, rfl⟩
theorem d_LW_1271 : DR code 1271 (.invokevirtual 179) 3 1274 := ⟨by decide +kernel, rfl⟩
theorem d_LW_1274 : PLa code 1274 2 1275 := Or.inl ⟨2, by decide +kernel, rfl, rfl⟩
theorem d_LW_1275 : DR code 1275 (.invokevirtual 182) 3 1278 := ⟨by decide +kernel, rfl⟩
theorem d_LW_1278 : DJ code 1278 (.if_icmp .eq) 1281 1460 := ⟨182, by decide +kernel, rfl, by decide⟩
theorem d_LW_1281 : PCi code 1281 0 1282 := Or.inl ⟨0, by decide +kernel, by decide, rfl⟩
theorem d_LW_1282 : DR code 1282 (.ireturn) 1 1283 := ⟨by decide +kernel, rfl⟩
theorem d_LW_1283 : PLa code 1283 1 1284 := Or.inl ⟨1, by decide +kernel, rfl, rfl⟩
theorem d_LW_1284 : DR code 1284 (.invokevirtual 183) 3 1287 := ⟨by decide +kernel, rfl⟩
theorem d_LW_1287 : PLa code 1287 2 1288 := Or.inl ⟨2, by decide +kernel, rfl, rfl⟩
theorem d_LW_1288 : DR code 1288 (.invokevirtual 186) 3 1291 := ⟨by decide +kernel, rfl⟩
theorem d_LW_1291 : DJ code 1291 (.if_icmp .eq) 1294 1460 := ⟨169, by decide +kernel, rfl, by decide⟩
theorem d_LW_1294 : PCi code 1294 0 1295 := Or.inl ⟨0, by decide +kernel, by decide, rfl⟩
theorem d_LW_1295 : DR code 1295 (.ireturn) 1 1296 := ⟨by decide +kernel, rfl⟩
theorem d_LW_1296 : PLa code 1296 1 1297 := Or.inl ⟨1, by decide +kernel, rfl, rfl⟩
theorem d_LW_1297 : PLa code 1297 0 1298 := Or.inl ⟨0, by decide +kernel, rfl, rfl⟩
theorem d_LW_1298 : PLi code 1298 3 1299 := Or.inl ⟨3, by decide +kernel, rfl, rfl⟩
theorem d_LW_1299 : PCi code 1299 1 1300 := Or.inl ⟨1, by decide +kernel, by decide, rfl⟩
theorem d_LW_1300 : DR code 1300 (.iadd) 1 1301 := ⟨by decide +kernel, rfl⟩
theorem d_LW_1301 : DR code 1301 (.iaload) 1 1302 := ⟨by decide +kernel, rfl⟩
theorem d_LW_1302 : DR code 1302 (.invokevirtual 187) 3 1305 := ⟨by decide +kernel, rfl⟩
theorem d_LW_1305 : PLa code 1305 2 1306 := Or.inl ⟨2, by decide +kernel, rfl, rfl⟩
theorem d_LW_1306 : PLa code 1306 0 1307 := Or.inl ⟨0, by decide +kernel, rfl, rfl⟩
theorem d_LW_1307 : PLi code 1307 3 1308 := Or.inl ⟨3, by decide +kernel, rfl, rfl⟩
theorem d_LW_1308 : PCi code 1308 1 1309 := Or.inl ⟨1, by decide +kernel, by decide, rfl⟩
theorem d_LW_1309 : DR code 1309 (.iadd) 1 1310 := ⟨by decide +kernel, rfl⟩
theorem d_LW_1310 : DR code 1310 (.iaload) 1 1311 := ⟨by decide +kernel, rfl⟩
theorem d_LW_1311 : DR code 1311 (.invokevirtual 190) 3 1314 := ⟨by decide +kernel, rfl⟩
theorem d_LW_1314 : DJ code 1314 (.if_icmp .eq) 1317 1460 := ⟨146, by decide +kernel, rfl, by decide⟩
theorem d_LW_1317 : PCi code 1317 0 1318 := Or.inl ⟨0, by decide +kernel, by decide, rfl⟩
theorem d_LW_1318 : DR code 1318 (.ireturn) 1 1319 := ⟨by decide +kernel, rfl⟩
theorem d_LW_1319 : PLa code 1319 1 1320 := Or.inl ⟨1, by decide +kernel, rfl, rfl⟩
theorem d_LW_1320 : DR code 1320 (.invokevirtual 191) 3 1323 := ⟨by decide +kernel, rfl⟩
theorem d_LW_1323 : PLa code 1323 2 1324 := Or.inl ⟨2, by decide +kernel, rfl, rfl⟩
theorem d_LW_1324 : DR code 1324 (.invokevirtual 194) 3 1327 := ⟨by decide +kernel, rfl⟩
theorem d_LW_1327 : DJ code 1327 (.if_icmp .eq) 1330 1460 := ⟨133, by decide +kernel, rfl, by decide⟩
theorem d_LW_1330 : PCi code 1330 0 1331 := Or.inl ⟨0, by decide +kernel, by decide, rfl⟩
theorem d_LW_1331 : DR code 1331 (.ireturn) 1 1332 := ⟨by decide +kernel, rfl⟩
theorem d_LW_1332 : PLa code 1332 1 1333 := Or.inl ⟨1, by decide +kernel, rfl, rfl⟩
theorem d_LW_1333 : PLa code 1333 0 1334 := Or.inl ⟨0, by decide +kernel, rfl, rfl⟩
theorem d_LW_1334 : PLi code 1334 3 1335 := Or.inl ⟨3, by decide +kernel, rfl, rfl⟩
theorem d_LW_1335 : PCi code 1335 1 1336 := Or.inl ⟨1, by decide +kernel, by decide, rfl⟩
theorem d_LW_1336 : DR code 1336 (.iadd) 1 1337 := ⟨by decide +kernel, rfl⟩
theorem d_LW_1337 : DR code 1337 (.iaload) 1 1338 := ⟨by decide +kernel, rfl⟩
theorem d_LW_1338 : DR code 1338 (.invokevirtual 195) 3 1341 := ⟨by decide +kernel, rfl⟩
theorem d_LW_1341 : PLa code 1341 2 1342 := Or.inl ⟨2, by decide +kernel, rfl, rfl⟩
theorem d_LW_1342 : PLa code 1342 0 1343 := Or.inl ⟨0, by decide +kernel, rfl, rfl⟩
theorem d_LW_1343 : PLi code 1343 3 1344 := Or.inl ⟨3, by decide +kernel, rfl, rfl⟩
theorem d_LW_1344 : PCi code 1344 1 1345 := Or.inl ⟨1, by decide +kernel, by decide, rfl⟩
theorem d_LW_1345 : DR code 1345 (.iadd) 1 1346 := ⟨by decide +kernel, rfl⟩
theorem d_LW_1346 : DR code 1346 (.iaload) 1 1347 := ⟨by decide +kernel, rfl⟩
theorem d_LW_1347 : DR code 1347 (.invokevirtual 198) 3 1350 := ⟨by decide +kernel, rfl⟩
theorem d_LW_1350 : DJ code 1350 (.if_icmp .eq) 1353 1460 := ⟨110, by decide +kernel, rfl, by decide⟩
theorem d_LW_1353 : PCi code 1353 0 1354 := Or.inl ⟨0, by decide +kernel, by decide, rfl⟩
theorem d_LW_1354 : DR code 1354 (.ireturn) 1 1355 := ⟨by decide +kernel, rfl⟩
theorem d_LW_1355 : PLa code 1355 1 1356 := Or.inl ⟨1, by decide +kernel, rfl, rfl⟩
theorem d_LW_1356 : DR code 1356 (.invokevirtual 199) 3 1359 := ⟨by decide +kernel, rfl⟩
theorem d_LW_1359 : PLa code 1359 2 1360 := Or.inl ⟨2, by decide +kernel, rfl, rfl⟩
theorem d_LW_1360 : DR code 1360 (.invokevirtual 202) 3 1363 := ⟨by decide +kernel, rfl⟩
theorem d_LW_1363 : DJ code 1363 (.if_icmp .eq) 1366 1460 := ⟨97, by decide +kernel, rfl, by decide⟩
theorem d_LW_1366 : PCi code 1366 0 1367 := Or.inl ⟨0, by decide +kernel, by decide, rfl⟩
theorem d_LW_1367 : DR code 1367 (.ireturn) 1 1368 := ⟨by decide +kernel, rfl⟩
theorem d_LW_1368 : PLa code 1368 1 1369 := Or.inl ⟨1, by decide +kernel, rfl, rfl⟩
theorem d_LW_1369 : PLa code 1369 0 1370 := Or.inl ⟨0, by decide +kernel, rfl, rfl⟩
theorem d_LW_1370 : PLi code 1370 3 1371 := Or.inl ⟨3, by decide +kernel, rfl, rfl⟩
theorem d_LW_1371 : PCi code 1371 1 1372 := Or.inl ⟨1, by decide +kernel, by decide, rfl⟩
theorem d_LW_1372 : DR code 1372 (.iadd) 1 1373 := ⟨by decide +kernel, rfl⟩
theorem d_LW_1373 : DR code 1373 (.iaload) 1 1374 := ⟨by decide +kernel, rfl⟩
theorem d_LW_1374 : PLa code 1374 0 1375 := Or.inl ⟨0, by decide +kernel, rfl, rfl⟩
theorem d_LW_1375 : PLi code 1375 3 1376 := Or.inl ⟨3, by decide +kernel, rfl, rfl⟩
theorem d_LW_1376 : PCi code 1376 2 1377 := Or.inl ⟨2, by decide +kernel, by decide, rfl⟩
theorem d_LW_1377 : DR code 1377 (.iadd) 1 1378 := ⟨by decide +kernel, rfl⟩
theorem d_LW_1378 : DR code 1378 (.iaload) 1 1379 := ⟨by decide +kernel, rfl⟩
theorem d_LW_1379 : PLa code 1379 0 1380 := Or.inl ⟨0, by decide +kernel, rfl, rfl⟩
theorem d_LW_1380 : PLi code 1380 3 1381 := Or.inl ⟨3, by decide +kernel, rfl, rfl⟩
theorem d_LW_1381 : PCi code 1381 3 1382 := Or.inl ⟨3, by decide +kernel, by decide, rfl⟩
theorem d_LW_1382 : DR code 1382 (.iadd) 1 1383 := ⟨by decide +kernel, rfl⟩
theorem d_LW_1383 : DR code 1383 (.iaload) 1 1384 := ⟨by decide +kernel, rfl⟩
theorem d_LW_1384 : DR code 1384 (.invokevirtual 203) 3 1387 := ⟨by decide +kernel, rfl⟩
theorem d_LW_1387 : PLa code 1387 2 1388 := Or.inl ⟨2, by decide +kernel, rfl, rfl⟩
theorem d_LW_1388 : PLa code 1388 0 1389 := Or.inl ⟨0, by decide +kernel, rfl, rfl⟩
theorem d_LW_1389 : PLi code 1389 3 1390 := Or.inl ⟨3, by decide +kernel, rfl, rfl⟩
theorem d_LW_1390 : PCi code 1390 1 1391 := Or.inl ⟨1, by decide +kernel, by decide, rfl⟩
theorem d_LW_1391 : DR code 1391 (.iadd) 1 1392 := ⟨by decide +kernel, rfl⟩
theorem d_LW_1392 : DR code 1392 (.iaload) 1 1393 := ⟨by decide +kernel, rfl⟩
theorem d_LW_1393 : PLa code 1393 0 1394 := Or.inl ⟨0, by decide +kernel, rfl, rfl⟩
theorem d_LW_1394 : PLi code 1394 3 1395 := Or.inl ⟨3, by decide +kernel, rfl, rfl⟩
theorem d_LW_1395 : PCi code 1395 2 1396 := Or.inl ⟨2, by decide +kernel, by decide, rfl⟩
theorem d_LW_1396 : DR code 1396 (.iadd) 1 1397 := ⟨by decide +kernel, rfl⟩
theorem d_LW_1397 : DR code 1397 (.iaload) 1 1398 := ⟨by decide +kernel, rfl⟩
theorem d_LW_1398 : PLa code 1398 0 1399 := Or.inl ⟨0, by decide +kernel, rfl, rfl⟩
theorem d_LW_1399 : PLi code 1399 3 1400 := Or.inl ⟨3, by decide +kernel, rfl, rfl⟩
theorem d_LW_1400 : PCi code 1400 3 1401 := Or.inl ⟨3, by decide +kernel, by decide, rfl⟩
theorem d_LW_1401 : DR code 1401 (.iadd) 1 1402 := ⟨by decide +kernel, rfl⟩
theorem d_LW_1402 : DR code 1402 (.iaload) 1 1403 := ⟨by decide +kernel, rfl⟩
theorem d_LW_1403 : DR code 1403 (.invokevirtual 206) 3 1406 := ⟨by decide +kernel, rfl⟩
theorem d_LW_1406 : DJ code 1406 (.if_icmp .eq) 1409 1460 := ⟨54, by decide +kernel, rfl, by decide⟩
theorem d_LW_1409 : PCi code 1409 0 1410 := Or.inl ⟨0, by decide +kernel, by decide, rfl⟩
theorem d_LW_1410 : DR code 1410 (.ireturn) 1 1411 := ⟨by decide +kernel, rfl⟩
theorem d_LW_1411 : PLa code 1411 1 1412 := Or.inl ⟨1, by decide +kernel, rfl, rfl⟩
theorem d_LW_1412 : DR code 1412 (.invokevirtual 207) 3 1415 := ⟨by decide +kernel, rfl⟩
theorem d_LW_1415 : PLa code 1415 2 1416 := Or.inl ⟨2, by decide +kernel, rfl, rfl⟩
theorem d_LW_1416 : DR code 1416 (.invokevirtual 210) 3 1419 := ⟨by decide +kernel, rfl⟩
theorem d_LW_1419 : DJ code 1419 (.if_icmp .eq) 1422 1460 := ⟨41, by decide +kernel, rfl, by decide⟩
theorem d_LW_1422 : PCi code 1422 0 1423 := Or.inl ⟨0, by decide +kernel, by decide, rfl⟩
theorem d_LW_1423 : DR code 1423 (.ireturn) 1 1424 := ⟨by decide +kernel, rfl⟩
theorem d_LW_1424 : PLa code 1424 1 1425 := Or.inl ⟨1, by decide +kernel, rfl, rfl⟩
theorem d_LW_1425 : DR code 1425 (.invokevirtual 211) 3 1428 := ⟨by decide +kernel, rfl⟩
theorem d_LW_1428 : PLa code 1428 2 1429 := Or.inl ⟨2, by decide +kernel, rfl, rfl⟩
theorem d_LW_1429 : DR code 1429 (.invokevirtual 214) 3 1432 := ⟨by decide +kernel, rfl⟩
theorem d_LW_1432 : DJ code 1432 (.if_icmp .eq) 1435 1460 := ⟨28, by decide +kernel, rfl, by decide⟩
theorem d_LW_1435 : PCi code 1435 0 1436 := Or.inl ⟨0, by decide +kernel, by decide, rfl⟩
theorem d_LW_1436 : DR code 1436 (.ireturn) 1 1437 := ⟨by decide +kernel, rfl⟩
theorem d_LW_1437 : PLa code 1437 1 1438 := Or.inl ⟨1, by decide +kernel, rfl, rfl⟩
theorem d_LW_1438 : PLa code 1438 0 1439 := Or.inl ⟨0, by decide +kernel, rfl, rfl⟩
theorem d_LW_1439 : PLi code 1439 3 1440 := Or.inl ⟨3, by decide +kernel, rfl, rfl⟩
theorem d_LW_1440 : PCi code 1440 1 1441 := Or.inl ⟨1, by decide +kernel, by decide, rfl⟩
theorem d_LW_1441 : DR code 1441 (.iadd) 1 1442 := ⟨by decide +kernel, rfl⟩
theorem d_LW_1442 : DR code 1442 (.iaload) 1 1443 := ⟨by decide +kernel, rfl⟩
theorem d_LW_1443 : DR code 1443 (.invokevirtual 215) 3 1446 := ⟨by decide +kernel, rfl⟩
theorem d_LW_1446 : PLa code 1446 2 1447 := Or.inl ⟨2, by decide +kernel, rfl, rfl⟩
theorem d_LW_1447 : PLa code 1447 0 1448 := Or.inl ⟨0, by decide +kernel, rfl, rfl⟩
theorem d_LW_1448 : PLi code 1448 3 1449 := Or.inl ⟨3, by decide +kernel, rfl, rfl⟩
theorem d_LW_1449 : PCi code 1449 1 1450 := Or.inl ⟨1, by decide +kernel, by decide, rfl⟩
theorem d_LW_1450 : DR code 1450 (.iadd) 1 1451 := ⟨by decide +kernel, rfl⟩
theorem d_LW_1451 : DR code 1451 (.iaload) 1 1452 := ⟨by decide +kernel, rfl⟩
theorem d_LW_1452 : DR code 1452 (.invokevirtual 218) 3 1455 := ⟨by decide +kernel, rfl⟩
theorem d_LW_1455 : DJ code 1455 (.if_icmp .eq) 1458 1460 := ⟨5, by decide +kernel, rfl, by decide⟩
theorem d_LW_1458 : PCi code 1458 0 1459 := Or.inl ⟨0, by decide +kernel, by decide, rfl⟩
theorem d_LW_1459 : DR code 1459 (.ireturn) 1 1460 := ⟨by decide +kernel, rfl⟩
theorem d_LW_1460 : DR code 1460 (.iinc 3 4) 3 1463 := ⟨by decide +kernel, rfl⟩
theorem d_LW_1463 : DJ code 1463 .goto 1466 18 := ⟨-1445, by decide +kernel, rfl, by decide⟩
theorem d_LW_1466 : PCi code 1466 1 1467 := Or.inl ⟨1, by decide +kernel, by decide, rfl⟩
theorem d_LW_1467 : DR code 1467 (.ireturn) 1 1468 := ⟨by decide +kernel, rfl⟩
set_option maxRecDepth 20000 in
theorem B_LW_1460 {G : MCx} (hC : C0 G "AccusedChooseLaw" code 4 27) {L : Nat} {xs : Nat → Int32} {b : Nat} (hX : va_X b L xs (gs G) (gs G).heap) (hbl : b < (gs G).heap.size) (hbA : ¬ gA G b) (K18 : Int32 × St → Option (Int32 × St)) (hK18 : ∀ (w3 : Int32) (s : St), VO G (RZ G code) (K18 (w3, s)) 18 [(0, .ref b), (1, .ref (gad G 0)), (2, .ref (gad G 58)), (3, .int w3)] [] s) (v3 : Int32) (s : St) : VO G (RZ G code) (F_LW_1460 L xs K18 v3 s) 1460 [(0, .ref b), (1, .ref (gad G 0)), (2, .ref (gad G 58)), (3, .int v3)] [] s := by
  unfold F_LW_1460
  refine VO_iinc hC d_LW_1460 3 rfl (by decide : Int32.ofInt 4 = 4) [(0, .ref b), (1, .ref (gad G 0)), (2, .ref (gad G 58))] rfl (by decide) ?_
  refine VO_goto hC d_LW_1463 ?_
  exact VO_sub [1, 2, 3, 0] rfl (hK18 (v3 + 4) s)
set_option maxRecDepth 20000 in
theorem BH_LW_18 {G : MCx} (hC : C0 G "AccusedChooseLaw" code 4 27) {L : Nat} {xs : Nat → Int32} {b : Nat} (hX : va_X b L xs (gs G) (gs G).heap) (hbl : b < (gs G).heap.size) (hbA : ¬ gA G b) (K18 : Int32 × St → Option (Int32 × St)) (hK18 : ∀ (w3 : Int32) (s : St), VO G (RZ G code) (K18 (w3, s)) 18 [(0, .ref b), (1, .ref (gad G 0)), (2, .ref (gad G 58)), (3, .int w3)] [] s) (v3 : Int32) (s : St) : VO G (RZ G code) (H_LW_18 L xs K18 v3 s) 18 [(0, .ref b), (1, .ref (gad G 0)), (2, .ref (gad G 58)), (3, .int v3)] [] s := by
  unfold H_LW_18
  refine VO_iload hC d_LW_18 3 rfl ?_
  refine VO_aload hC d_LW_19 0 rfl ?_
  refine VO_slen hC hX hbl hbA d_LW_20 ?_
  refine VO_const hC d_LW_21 ?_
  refine VO_isub hC d_LW_22 ?_
  refine VO_icmp_gt hC d_LW_23 (fun _ => ?_) (fun _ => ?_)
  · refine VO_const hC d_LW_1466 ?_
    exact VO_z1 d_LW_1467
  · refine VO_aload hC d_LW_26 0 rfl ?_
    refine VO_iload hC d_LW_27 3 rfl ?_
    refine VO_sld hC hX hbl hbA d_LW_28 (fun x1 => ?_)
    refine VO_const hC d_LW_29 ?_
    refine VO_iand hC d_LW_31 ?_
    refine VO_topi (fun x2 => ?_)
    refine VO_ite (fun c32_0 => ?_) (fun c32_0 => ?_)
    · refine VO_tin (tgt := 248) (off := (216 : Int)) hC d_LW_32 (by rw [c32_0]; decide) (by rw [c32_0]; decide) (by first | (rw [c32_0]; done) | (rw [c32_0]; rfl)) (by decide) ?_
      refine VO_aload hC d_LW_248 1 rfl ?_
      refine VO_aload hC d_LW_249 0 rfl ?_
      refine VO_iload hC d_LW_250 3 rfl ?_
      refine VO_const hC d_LW_251 ?_
      refine VO_iadd hC d_LW_252 ?_
      refine VO_sld hC hX hbl hbA d_LW_253 (fun x3 => ?_)
      refine VO_callVI hC [.int x3] [] ml_LW_13 d_LW_254 yv_AC_feed sh_AC rfl rfl (fun o h => M_AC_feed hC.inj h) (by decide) rfl rfl (Nat.le_of_ble_eq_true rfl) (fun o4 => ?_)
      refine VO_aload hC d_LW_257 2 rfl ?_
      refine VO_aload hC d_LW_258 0 rfl ?_
      refine VO_iload hC d_LW_259 3 rfl ?_
      refine VO_const hC d_LW_260 ?_
      refine VO_iadd hC d_LW_261 ?_
      refine VO_sld hC hX hbl hbA d_LW_262 (fun x5 => ?_)
      refine VO_callVI hC [.int x5] [.int o4.1] ml_LW_17 d_LW_263 yv_MD_feed sh_MD rfl rfl (fun o h => M_MD_feed hC.inj h) (by decide) rfl rfl (Nat.le_of_ble_eq_true rfl) (fun o6 => ?_)
      refine VO_icmp_eq hC d_LW_266 (fun _ => ?_) (fun _ => ?_)
      · exact (B_LW_1460 hC hX hbl hbA K18 hK18 v3 o6.2)
      · refine VO_const hC d_LW_269 ?_
        exact VO_z0 d_LW_270
    refine VO_ite (fun c32_1 => ?_) (fun c32_1 => ?_)
    · refine VO_tin (tgt := 271) (off := (239 : Int)) hC d_LW_32 (by rw [c32_1]; decide) (by rw [c32_1]; decide) (by first | (rw [c32_1]; done) | (rw [c32_1]; rfl)) (by decide) ?_
      refine VO_aload hC d_LW_271 1 rfl ?_
      refine VO_callVI hC [] [] ml_LW_18 d_LW_272 yv_AC_night sh_AC rfl rfl (fun o h => M_AC_night hC.inj h) (by decide) rfl rfl (Nat.le_of_ble_eq_true rfl) (fun o7 => ?_)
      refine VO_aload hC d_LW_275 2 rfl ?_
      refine VO_callVI hC [] [.int o7.1] ml_LW_22 d_LW_276 yv_MD_night sh_MD rfl rfl (fun o h => M_MD_night hC.inj h) (by decide) rfl rfl (Nat.le_of_ble_eq_true rfl) (fun o8 => ?_)
      refine VO_icmp_eq hC d_LW_279 (fun _ => ?_) (fun _ => ?_)
      · exact (B_LW_1460 hC hX hbl hbA K18 hK18 v3 o8.2)
      · refine VO_const hC d_LW_282 ?_
        exact VO_z0 d_LW_283
    refine VO_ite (fun c32_2 => ?_) (fun c32_2 => ?_)
    · refine VO_tin (tgt := 284) (off := (252 : Int)) hC d_LW_32 (by rw [c32_2]; decide) (by rw [c32_2]; decide) (by first | (rw [c32_2]; done) | (rw [c32_2]; rfl)) (by decide) ?_
      refine VO_aload hC d_LW_284 1 rfl ?_
      refine VO_aload hC d_LW_285 0 rfl ?_
      refine VO_iload hC d_LW_286 3 rfl ?_
      refine VO_const hC d_LW_287 ?_
      refine VO_iadd hC d_LW_288 ?_
      refine VO_sld hC hX hbl hbA d_LW_289 (fun x9 => ?_)
      refine VO_aload hC d_LW_290 0 rfl ?_
      refine VO_iload hC d_LW_291 3 rfl ?_
      refine VO_const hC d_LW_292 ?_
      refine VO_iadd hC d_LW_293 ?_
      refine VO_sld hC hX hbl hbA d_LW_294 (fun x10 => ?_)
      refine VO_callVI hC [.int x9, .int x10] [] ml_LW_23 d_LW_295 yv_AC_deed sh_AC rfl rfl (fun o h => M_AC_deed hC.inj h) (by decide) rfl rfl (Nat.le_of_ble_eq_true rfl) (fun o11 => ?_)
      refine VO_aload hC d_LW_298 2 rfl ?_
      refine VO_aload hC d_LW_299 0 rfl ?_
      refine VO_iload hC d_LW_300 3 rfl ?_
      refine VO_const hC d_LW_301 ?_
      refine VO_iadd hC d_LW_302 ?_
      refine VO_sld hC hX hbl hbA d_LW_303 (fun x12 => ?_)
      refine VO_aload hC d_LW_304 0 rfl ?_
      refine VO_iload hC d_LW_305 3 rfl ?_
      refine VO_const hC d_LW_306 ?_
      refine VO_iadd hC d_LW_307 ?_
      refine VO_sld hC hX hbl hbA d_LW_308 (fun x13 => ?_)
      refine VO_callVI hC [.int x12, .int x13] [.int o11.1] ml_LW_27 d_LW_309 yv_MD_deed sh_MD rfl rfl (fun o h => M_MD_deed hC.inj h) (by decide) rfl rfl (Nat.le_of_ble_eq_true rfl) (fun o14 => ?_)
      refine VO_icmp_eq hC d_LW_312 (fun _ => ?_) (fun _ => ?_)
      · exact (B_LW_1460 hC hX hbl hbA K18 hK18 v3 o14.2)
      · refine VO_const hC d_LW_315 ?_
        exact VO_z0 d_LW_316
    refine VO_ite (fun c32_3 => ?_) (fun c32_3 => ?_)
    · refine VO_tin (tgt := 317) (off := (285 : Int)) hC d_LW_32 (by rw [c32_3]; decide) (by rw [c32_3]; decide) (by first | (rw [c32_3]; done) | (rw [c32_3]; rfl)) (by decide) ?_
      refine VO_aload hC d_LW_317 1 rfl ?_
      refine VO_aload hC d_LW_318 0 rfl ?_
      refine VO_iload hC d_LW_319 3 rfl ?_
      refine VO_const hC d_LW_320 ?_
      refine VO_iadd hC d_LW_321 ?_
      refine VO_sld hC hX hbl hbA d_LW_322 (fun x15 => ?_)
      refine VO_aload hC d_LW_323 0 rfl ?_
      refine VO_iload hC d_LW_324 3 rfl ?_
      refine VO_const hC d_LW_325 ?_
      refine VO_iadd hC d_LW_326 ?_
      refine VO_sld hC hX hbl hbA d_LW_327 (fun x16 => ?_)
      refine VO_callVI hC [.int x15, .int x16] [] ml_LW_28 d_LW_328 yv_AC_person sh_AC rfl rfl (fun o h => M_AC_person hC.inj h) (by decide) rfl rfl (Nat.le_of_ble_eq_true rfl) (fun o17 => ?_)
      refine VO_aload hC d_LW_331 2 rfl ?_
      refine VO_aload hC d_LW_332 0 rfl ?_
      refine VO_iload hC d_LW_333 3 rfl ?_
      refine VO_const hC d_LW_334 ?_
      refine VO_iadd hC d_LW_335 ?_
      refine VO_sld hC hX hbl hbA d_LW_336 (fun x18 => ?_)
      refine VO_aload hC d_LW_337 0 rfl ?_
      refine VO_iload hC d_LW_338 3 rfl ?_
      refine VO_const hC d_LW_339 ?_
      refine VO_iadd hC d_LW_340 ?_
      refine VO_sld hC hX hbl hbA d_LW_341 (fun x19 => ?_)
      refine VO_callVI hC [.int x18, .int x19] [.int o17.1] ml_LW_31 d_LW_342 yv_MD_person sh_MD rfl rfl (fun o h => M_MD_person hC.inj h) (by decide) rfl rfl (Nat.le_of_ble_eq_true rfl) (fun o20 => ?_)
      refine VO_icmp_eq hC d_LW_345 (fun _ => ?_) (fun _ => ?_)
      · exact (B_LW_1460 hC hX hbl hbA K18 hK18 v3 o20.2)
      · refine VO_const hC d_LW_348 ?_
        exact VO_z0 d_LW_349
    refine VO_ite (fun c32_4 => ?_) (fun c32_4 => ?_)
    · refine VO_tin (tgt := 350) (off := (318 : Int)) hC d_LW_32 (by rw [c32_4]; decide) (by rw [c32_4]; decide) (by first | (rw [c32_4]; done) | (rw [c32_4]; rfl)) (by decide) ?_
      refine VO_aload hC d_LW_350 1 rfl ?_
      refine VO_aload hC d_LW_351 0 rfl ?_
      refine VO_iload hC d_LW_352 3 rfl ?_
      refine VO_const hC d_LW_353 ?_
      refine VO_iadd hC d_LW_354 ?_
      refine VO_sld hC hX hbl hbA d_LW_355 (fun x21 => ?_)
      refine VO_aload hC d_LW_356 0 rfl ?_
      refine VO_iload hC d_LW_357 3 rfl ?_
      refine VO_const hC d_LW_358 ?_
      refine VO_iadd hC d_LW_359 ?_
      refine VO_sld hC hX hbl hbA d_LW_360 (fun x22 => ?_)
      refine VO_callVI hC [.int x21, .int x22] [] ml_LW_32 d_LW_361 yv_AC_months sh_AC rfl rfl (fun o h => M_AC_months hC.inj h) (by decide) rfl rfl (Nat.le_of_ble_eq_true rfl) (fun o23 => ?_)
      refine VO_aload hC d_LW_364 2 rfl ?_
      refine VO_aload hC d_LW_365 0 rfl ?_
      refine VO_iload hC d_LW_366 3 rfl ?_
      refine VO_const hC d_LW_367 ?_
      refine VO_iadd hC d_LW_368 ?_
      refine VO_sld hC hX hbl hbA d_LW_369 (fun x24 => ?_)
      refine VO_aload hC d_LW_370 0 rfl ?_
      refine VO_iload hC d_LW_371 3 rfl ?_
      refine VO_const hC d_LW_372 ?_
      refine VO_iadd hC d_LW_373 ?_
      refine VO_sld hC hX hbl hbA d_LW_374 (fun x25 => ?_)
      refine VO_callVI hC [.int x24, .int x25] [.int o23.1] ml_LW_35 d_LW_375 yv_MD_months sh_MD rfl rfl (fun o h => M_MD_months hC.inj h) (by decide) rfl rfl (Nat.le_of_ble_eq_true rfl) (fun o26 => ?_)
      refine VO_icmp_eq hC d_LW_378 (fun _ => ?_) (fun _ => ?_)
      · exact (B_LW_1460 hC hX hbl hbA K18 hK18 v3 o26.2)
      · refine VO_const hC d_LW_381 ?_
        exact VO_z0 d_LW_382
    refine VO_ite (fun c32_5 => ?_) (fun c32_5 => ?_)
    · refine VO_tin (tgt := 383) (off := (351 : Int)) hC d_LW_32 (by rw [c32_5]; decide) (by rw [c32_5]; decide) (by first | (rw [c32_5]; done) | (rw [c32_5]; rfl)) (by decide) ?_
      refine VO_aload hC d_LW_383 1 rfl ?_
      refine VO_aload hC d_LW_384 0 rfl ?_
      refine VO_iload hC d_LW_385 3 rfl ?_
      refine VO_const hC d_LW_386 ?_
      refine VO_iadd hC d_LW_387 ?_
      refine VO_sld hC hX hbl hbA d_LW_388 (fun x27 => ?_)
      refine VO_aload hC d_LW_389 0 rfl ?_
      refine VO_iload hC d_LW_390 3 rfl ?_
      refine VO_const hC d_LW_391 ?_
      refine VO_iadd hC d_LW_392 ?_
      refine VO_sld hC hX hbl hbA d_LW_393 (fun x28 => ?_)
      refine VO_callVI hC [.int x27, .int x28] [] ml_LW_36 d_LW_394 yv_AC_addDeed sh_AC rfl rfl (fun o h => M_AC_addDeed hC.inj h) (by decide) rfl rfl (Nat.le_of_ble_eq_true rfl) (fun o29 => ?_)
      refine VO_aload hC d_LW_397 2 rfl ?_
      refine VO_aload hC d_LW_398 0 rfl ?_
      refine VO_iload hC d_LW_399 3 rfl ?_
      refine VO_const hC d_LW_400 ?_
      refine VO_iadd hC d_LW_401 ?_
      refine VO_sld hC hX hbl hbA d_LW_402 (fun x30 => ?_)
      refine VO_aload hC d_LW_403 0 rfl ?_
      refine VO_iload hC d_LW_404 3 rfl ?_
      refine VO_const hC d_LW_405 ?_
      refine VO_iadd hC d_LW_406 ?_
      refine VO_sld hC hX hbl hbA d_LW_407 (fun x31 => ?_)
      refine VO_callVI hC [.int x30, .int x31] [.int o29.1] ml_LW_39 d_LW_408 yv_MD_addDeed sh_MD rfl rfl (fun o h => M_MD_addDeed hC.inj h) (by decide) rfl rfl (Nat.le_of_ble_eq_true rfl) (fun o32 => ?_)
      refine VO_icmp_eq hC d_LW_411 (fun _ => ?_) (fun _ => ?_)
      · exact (B_LW_1460 hC hX hbl hbA K18 hK18 v3 o32.2)
      · refine VO_const hC d_LW_414 ?_
        exact VO_z0 d_LW_415
    refine VO_ite (fun c32_6 => ?_) (fun c32_6 => ?_)
    · refine VO_tin (tgt := 416) (off := (384 : Int)) hC d_LW_32 (by rw [c32_6]; decide) (by rw [c32_6]; decide) (by first | (rw [c32_6]; done) | (rw [c32_6]; rfl)) (by decide) ?_
      refine VO_aload hC d_LW_416 1 rfl ?_
      refine VO_aload hC d_LW_417 0 rfl ?_
      refine VO_iload hC d_LW_418 3 rfl ?_
      refine VO_const hC d_LW_419 ?_
      refine VO_iadd hC d_LW_420 ?_
      refine VO_sld hC hX hbl hbA d_LW_421 (fun x33 => ?_)
      refine VO_aload hC d_LW_422 0 rfl ?_
      refine VO_iload hC d_LW_423 3 rfl ?_
      refine VO_const hC d_LW_424 ?_
      refine VO_iadd hC d_LW_425 ?_
      refine VO_sld hC hX hbl hbA d_LW_426 (fun x34 => ?_)
      refine VO_aload hC d_LW_427 0 rfl ?_
      refine VO_iload hC d_LW_428 3 rfl ?_
      refine VO_const hC d_LW_429 ?_
      refine VO_iadd hC d_LW_430 ?_
      refine VO_sld hC hX hbl hbA d_LW_431 (fun x35 => ?_)
      refine VO_callVI hC [.int x33, .int x34, .int x35] [] ml_LW_40 d_LW_432 yv_AC_addPerson sh_AC rfl rfl (fun o h => M_AC_addPerson hC.inj h) (by decide) rfl rfl (Nat.le_of_ble_eq_true rfl) (fun o36 => ?_)
      refine VO_aload hC d_LW_435 2 rfl ?_
      refine VO_aload hC d_LW_436 0 rfl ?_
      refine VO_iload hC d_LW_437 3 rfl ?_
      refine VO_const hC d_LW_438 ?_
      refine VO_iadd hC d_LW_439 ?_
      refine VO_sld hC hX hbl hbA d_LW_440 (fun x37 => ?_)
      refine VO_aload hC d_LW_441 0 rfl ?_
      refine VO_iload hC d_LW_442 3 rfl ?_
      refine VO_const hC d_LW_443 ?_
      refine VO_iadd hC d_LW_444 ?_
      refine VO_sld hC hX hbl hbA d_LW_445 (fun x38 => ?_)
      refine VO_aload hC d_LW_446 0 rfl ?_
      refine VO_iload hC d_LW_447 3 rfl ?_
      refine VO_const hC d_LW_448 ?_
      refine VO_iadd hC d_LW_449 ?_
      refine VO_sld hC hX hbl hbA d_LW_450 (fun x39 => ?_)
      refine VO_callVI hC [.int x37, .int x38, .int x39] [.int o36.1] ml_LW_44 d_LW_451 yv_MD_addPerson sh_MD rfl rfl (fun o h => M_MD_addPerson hC.inj h) (by decide) rfl rfl (Nat.le_of_ble_eq_true rfl) (fun o40 => ?_)
      refine VO_icmp_eq hC d_LW_454 (fun _ => ?_) (fun _ => ?_)
      · exact (B_LW_1460 hC hX hbl hbA K18 hK18 v3 o40.2)
      · refine VO_const hC d_LW_457 ?_
        exact VO_z0 d_LW_458
    refine VO_ite (fun c32_7 => ?_) (fun c32_7 => ?_)
    · refine VO_tin (tgt := 459) (off := (427 : Int)) hC d_LW_32 (by rw [c32_7]; decide) (by rw [c32_7]; decide) (by first | (rw [c32_7]; done) | (rw [c32_7]; rfl)) (by decide) ?_
      refine VO_aload hC d_LW_459 1 rfl ?_
      refine VO_aload hC d_LW_460 0 rfl ?_
      refine VO_iload hC d_LW_461 3 rfl ?_
      refine VO_const hC d_LW_462 ?_
      refine VO_iadd hC d_LW_463 ?_
      refine VO_sld hC hX hbl hbA d_LW_464 (fun x41 => ?_)
      refine VO_aload hC d_LW_465 0 rfl ?_
      refine VO_iload hC d_LW_466 3 rfl ?_
      refine VO_const hC d_LW_467 ?_
      refine VO_iadd hC d_LW_468 ?_
      refine VO_sld hC hX hbl hbA d_LW_469 (fun x42 => ?_)
      refine VO_callVI hC [.int x41, .int x42] [] ml_LW_45 d_LW_470 yv_AC_change sh_AC rfl rfl (fun o h => M_AC_change hC.inj h) (by decide) rfl rfl (Nat.le_of_ble_eq_true rfl) (fun o43 => ?_)
      refine VO_aload hC d_LW_473 2 rfl ?_
      refine VO_aload hC d_LW_474 0 rfl ?_
      refine VO_iload hC d_LW_475 3 rfl ?_
      refine VO_const hC d_LW_476 ?_
      refine VO_iadd hC d_LW_477 ?_
      refine VO_sld hC hX hbl hbA d_LW_478 (fun x44 => ?_)
      refine VO_aload hC d_LW_479 0 rfl ?_
      refine VO_iload hC d_LW_480 3 rfl ?_
      refine VO_const hC d_LW_481 ?_
      refine VO_iadd hC d_LW_482 ?_
      refine VO_sld hC hX hbl hbA d_LW_483 (fun x45 => ?_)
      refine VO_callVI hC [.int x44, .int x45] [.int o43.1] ml_LW_48 d_LW_484 yv_MD_change sh_MD rfl rfl (fun o h => M_MD_change hC.inj h) (by decide) rfl rfl (Nat.le_of_ble_eq_true rfl) (fun o46 => ?_)
      refine VO_icmp_eq hC d_LW_487 (fun _ => ?_) (fun _ => ?_)
      · exact (B_LW_1460 hC hX hbl hbA K18 hK18 v3 o46.2)
      · refine VO_const hC d_LW_490 ?_
        exact VO_z0 d_LW_491
    refine VO_ite (fun c32_8 => ?_) (fun c32_8 => ?_)
    · refine VO_tin (tgt := 492) (off := (460 : Int)) hC d_LW_32 (by rw [c32_8]; decide) (by rw [c32_8]; decide) (by first | (rw [c32_8]; done) | (rw [c32_8]; rfl)) (by decide) ?_
      refine VO_aload hC d_LW_492 1 rfl ?_
      refine VO_aload hC d_LW_493 0 rfl ?_
      refine VO_iload hC d_LW_494 3 rfl ?_
      refine VO_const hC d_LW_495 ?_
      refine VO_iadd hC d_LW_496 ?_
      refine VO_sld hC hX hbl hbA d_LW_497 (fun x47 => ?_)
      refine VO_aload hC d_LW_498 0 rfl ?_
      refine VO_iload hC d_LW_499 3 rfl ?_
      refine VO_const hC d_LW_500 ?_
      refine VO_iadd hC d_LW_501 ?_
      refine VO_sld hC hX hbl hbA d_LW_502 (fun x48 => ?_)
      refine VO_callVI hC [.int x47, .int x48] [] ml_LW_49 d_LW_503 yv_AC_alibi sh_AC rfl rfl (fun o h => M_AC_alibi hC.inj h) (by decide) rfl rfl (Nat.le_of_ble_eq_true rfl) (fun o49 => ?_)
      refine VO_aload hC d_LW_506 2 rfl ?_
      refine VO_aload hC d_LW_507 0 rfl ?_
      refine VO_iload hC d_LW_508 3 rfl ?_
      refine VO_const hC d_LW_509 ?_
      refine VO_iadd hC d_LW_510 ?_
      refine VO_sld hC hX hbl hbA d_LW_511 (fun x50 => ?_)
      refine VO_aload hC d_LW_512 0 rfl ?_
      refine VO_iload hC d_LW_513 3 rfl ?_
      refine VO_const hC d_LW_514 ?_
      refine VO_iadd hC d_LW_515 ?_
      refine VO_sld hC hX hbl hbA d_LW_516 (fun x51 => ?_)
      refine VO_callVI hC [.int x50, .int x51] [.int o49.1] ml_LW_52 d_LW_517 yv_MD_alibi sh_MD rfl rfl (fun o h => M_MD_alibi hC.inj h) (by decide) rfl rfl (Nat.le_of_ble_eq_true rfl) (fun o52 => ?_)
      refine VO_icmp_eq hC d_LW_520 (fun _ => ?_) (fun _ => ?_)
      · exact (B_LW_1460 hC hX hbl hbA K18 hK18 v3 o52.2)
      · refine VO_const hC d_LW_523 ?_
        exact VO_z0 d_LW_524
    refine VO_ite (fun c32_9 => ?_) (fun c32_9 => ?_)
    · refine VO_tin (tgt := 525) (off := (493 : Int)) hC d_LW_32 (by rw [c32_9]; decide) (by rw [c32_9]; decide) (by first | (rw [c32_9]; done) | (rw [c32_9]; rfl)) (by decide) ?_
      refine VO_aload hC d_LW_525 1 rfl ?_
      refine VO_aload hC d_LW_526 0 rfl ?_
      refine VO_iload hC d_LW_527 3 rfl ?_
      refine VO_const hC d_LW_528 ?_
      refine VO_iadd hC d_LW_529 ?_
      refine VO_sld hC hX hbl hbA d_LW_530 (fun x53 => ?_)
      refine VO_aload hC d_LW_531 0 rfl ?_
      refine VO_iload hC d_LW_532 3 rfl ?_
      refine VO_const hC d_LW_533 ?_
      refine VO_iadd hC d_LW_534 ?_
      refine VO_sld hC hX hbl hbA d_LW_535 (fun x54 => ?_)
      refine VO_callVI hC [.int x53, .int x54] [] ml_LW_53 d_LW_536 yv_AC_brothers sh_AC rfl rfl (fun o h => M_AC_brothers hC.inj h) (by decide) rfl rfl (Nat.le_of_ble_eq_true rfl) (fun o55 => ?_)
      refine VO_aload hC d_LW_539 2 rfl ?_
      refine VO_aload hC d_LW_540 0 rfl ?_
      refine VO_iload hC d_LW_541 3 rfl ?_
      refine VO_const hC d_LW_542 ?_
      refine VO_iadd hC d_LW_543 ?_
      refine VO_sld hC hX hbl hbA d_LW_544 (fun x56 => ?_)
      refine VO_aload hC d_LW_545 0 rfl ?_
      refine VO_iload hC d_LW_546 3 rfl ?_
      refine VO_const hC d_LW_547 ?_
      refine VO_iadd hC d_LW_548 ?_
      refine VO_sld hC hX hbl hbA d_LW_549 (fun x57 => ?_)
      refine VO_callVI hC [.int x56, .int x57] [.int o55.1] ml_LW_56 d_LW_550 yv_MD_brothers sh_MD rfl rfl (fun o h => M_MD_brothers hC.inj h) (by decide) rfl rfl (Nat.le_of_ble_eq_true rfl) (fun o58 => ?_)
      refine VO_icmp_eq hC d_LW_553 (fun _ => ?_) (fun _ => ?_)
      · exact (B_LW_1460 hC hX hbl hbA K18 hK18 v3 o58.2)
      · refine VO_const hC d_LW_556 ?_
        exact VO_z0 d_LW_557
    refine VO_ite (fun c32_10 => ?_) (fun c32_10 => ?_)
    · refine VO_tin (tgt := 558) (off := (526 : Int)) hC d_LW_32 (by rw [c32_10]; decide) (by rw [c32_10]; decide) (by first | (rw [c32_10]; done) | (rw [c32_10]; rfl)) (by decide) ?_
      refine VO_aload hC d_LW_558 1 rfl ?_
      refine VO_callVI hC [] [] ml_LW_57 d_LW_559 yv_AC_back sh_AC rfl rfl (fun o h => M_AC_back hC.inj h) (by decide) rfl rfl (Nat.le_of_ble_eq_true rfl) (fun o59 => ?_)
      refine VO_aload hC d_LW_562 2 rfl ?_
      refine VO_callVI hC [] [.int o59.1] ml_LW_60 d_LW_563 yv_MD_back sh_MD rfl rfl (fun o h => M_MD_back hC.inj h) (by decide) rfl rfl (Nat.le_of_ble_eq_true rfl) (fun o60 => ?_)
      refine VO_icmp_eq hC d_LW_566 (fun _ => ?_) (fun _ => ?_)
      · exact (B_LW_1460 hC hX hbl hbA K18 hK18 v3 o60.2)
      · refine VO_const hC d_LW_569 ?_
        exact VO_z0 d_LW_570
    refine VO_ite (fun c32_11 => ?_) (fun c32_11 => ?_)
    · refine VO_tin (tgt := 571) (off := (539 : Int)) hC d_LW_32 (by rw [c32_11]; decide) (by rw [c32_11]; decide) (by first | (rw [c32_11]; done) | (rw [c32_11]; rfl)) (by decide) ?_
      refine VO_aload hC d_LW_571 1 rfl ?_
      refine VO_aload hC d_LW_572 0 rfl ?_
      refine VO_iload hC d_LW_573 3 rfl ?_
      refine VO_const hC d_LW_574 ?_
      refine VO_iadd hC d_LW_575 ?_
      refine VO_sld hC hX hbl hbA d_LW_576 (fun x61 => ?_)
      refine VO_aload hC d_LW_577 0 rfl ?_
      refine VO_iload hC d_LW_578 3 rfl ?_
      refine VO_const hC d_LW_579 ?_
      refine VO_iadd hC d_LW_580 ?_
      refine VO_sld hC hX hbl hbA d_LW_581 (fun x62 => ?_)
      refine VO_callVI hC [.int x61, .int x62] [] ml_LW_61 d_LW_582 yv_AC_takes sh_AC rfl rfl (fun o h => M_AC_takes hC.inj h) (by decide) rfl rfl (Nat.le_of_ble_eq_true rfl) (fun o63 => ?_)
      refine VO_aload hC d_LW_585 2 rfl ?_
      refine VO_aload hC d_LW_586 0 rfl ?_
      refine VO_iload hC d_LW_587 3 rfl ?_
      refine VO_const hC d_LW_588 ?_
      refine VO_iadd hC d_LW_589 ?_
      refine VO_sld hC hX hbl hbA d_LW_590 (fun x64 => ?_)
      refine VO_aload hC d_LW_591 0 rfl ?_
      refine VO_iload hC d_LW_592 3 rfl ?_
      refine VO_const hC d_LW_593 ?_
      refine VO_iadd hC d_LW_594 ?_
      refine VO_sld hC hX hbl hbA d_LW_595 (fun x65 => ?_)
      refine VO_callVI hC [.int x64, .int x65] [.int o63.1] ml_LW_64 d_LW_596 yv_MD_takes sh_MD rfl rfl (fun o h => M_MD_takes hC.inj h) (by decide) rfl rfl (Nat.le_of_ble_eq_true rfl) (fun o66 => ?_)
      refine VO_icmp_eq hC d_LW_599 (fun _ => ?_) (fun _ => ?_)
      · exact (B_LW_1460 hC hX hbl hbA K18 hK18 v3 o66.2)
      · refine VO_const hC d_LW_602 ?_
        exact VO_z0 d_LW_603
    refine VO_ite (fun c32_12 => ?_) (fun c32_12 => ?_)
    · refine VO_tin (tgt := 604) (off := (572 : Int)) hC d_LW_32 (by rw [c32_12]; decide) (by rw [c32_12]; decide) (by first | (rw [c32_12]; done) | (rw [c32_12]; rfl)) (by decide) ?_
      refine VO_aload hC d_LW_604 1 rfl ?_
      refine VO_aload hC d_LW_605 0 rfl ?_
      refine VO_iload hC d_LW_606 3 rfl ?_
      refine VO_const hC d_LW_607 ?_
      refine VO_iadd hC d_LW_608 ?_
      refine VO_sld hC hX hbl hbA d_LW_609 (fun x67 => ?_)
      refine VO_callVI hC [.int x67] [] ml_LW_65 d_LW_610 yv_AC_morning sh_AC rfl rfl (fun o h => M_AC_morning hC.inj h) (by decide) rfl rfl (Nat.le_of_ble_eq_true rfl) (fun o68 => ?_)
      refine VO_aload hC d_LW_613 2 rfl ?_
      refine VO_aload hC d_LW_614 0 rfl ?_
      refine VO_iload hC d_LW_615 3 rfl ?_
      refine VO_const hC d_LW_616 ?_
      refine VO_iadd hC d_LW_617 ?_
      refine VO_sld hC hX hbl hbA d_LW_618 (fun x69 => ?_)
      refine VO_callVI hC [.int x69] [.int o68.1] ml_LW_68 d_LW_619 yv_MD_morning sh_MD rfl rfl (fun o h => M_MD_morning hC.inj h) (by decide) rfl rfl (Nat.le_of_ble_eq_true rfl) (fun o70 => ?_)
      refine VO_icmp_eq hC d_LW_622 (fun _ => ?_) (fun _ => ?_)
      · exact (B_LW_1460 hC hX hbl hbA K18 hK18 v3 o70.2)
      · refine VO_const hC d_LW_625 ?_
        exact VO_z0 d_LW_626
    refine VO_ite (fun c32_13 => ?_) (fun c32_13 => ?_)
    · refine VO_tin (tgt := 627) (off := (595 : Int)) hC d_LW_32 (by rw [c32_13]; decide) (by rw [c32_13]; decide) (by first | (rw [c32_13]; done) | (rw [c32_13]; rfl)) (by decide) ?_
      refine VO_aload hC d_LW_627 1 rfl ?_
      refine VO_aload hC d_LW_628 0 rfl ?_
      refine VO_iload hC d_LW_629 3 rfl ?_
      refine VO_const hC d_LW_630 ?_
      refine VO_iadd hC d_LW_631 ?_
      refine VO_sld hC hX hbl hbA d_LW_632 (fun x71 => ?_)
      refine VO_callVI hC [.int x71] [] ml_LW_69 d_LW_633 yv_AC_least sh_AC rfl rfl (fun o h => M_AC_least hC.inj h) (by decide) rfl rfl (Nat.le_of_ble_eq_true rfl) (fun o72 => ?_)
      refine VO_aload hC d_LW_636 2 rfl ?_
      refine VO_aload hC d_LW_637 0 rfl ?_
      refine VO_iload hC d_LW_638 3 rfl ?_
      refine VO_const hC d_LW_639 ?_
      refine VO_iadd hC d_LW_640 ?_
      refine VO_sld hC hX hbl hbA d_LW_641 (fun x73 => ?_)
      refine VO_callVI hC [.int x73] [.int o72.1] ml_LW_72 d_LW_642 yv_MD_least sh_MD rfl rfl (fun o h => M_MD_least hC.inj h) (by decide) rfl rfl (Nat.le_of_ble_eq_true rfl) (fun o74 => ?_)
      refine VO_icmp_eq hC d_LW_645 (fun _ => ?_) (fun _ => ?_)
      · exact (B_LW_1460 hC hX hbl hbA K18 hK18 v3 o74.2)
      · refine VO_const hC d_LW_648 ?_
        exact VO_z0 d_LW_649
    refine VO_ite (fun c32_14 => ?_) (fun c32_14 => ?_)
    · refine VO_tin (tgt := 650) (off := (618 : Int)) hC d_LW_32 (by rw [c32_14]; decide) (by rw [c32_14]; decide) (by first | (rw [c32_14]; done) | (rw [c32_14]; rfl)) (by decide) ?_
      refine VO_aload hC d_LW_650 1 rfl ?_
      refine VO_aload hC d_LW_651 0 rfl ?_
      refine VO_iload hC d_LW_652 3 rfl ?_
      refine VO_const hC d_LW_653 ?_
      refine VO_iadd hC d_LW_654 ?_
      refine VO_sld hC hX hbl hbA d_LW_655 (fun x75 => ?_)
      refine VO_aload hC d_LW_656 0 rfl ?_
      refine VO_iload hC d_LW_657 3 rfl ?_
      refine VO_const hC d_LW_658 ?_
      refine VO_iadd hC d_LW_659 ?_
      refine VO_sld hC hX hbl hbA d_LW_660 (fun x76 => ?_)
      refine VO_callVI hC [.int x75, .int x76] [] ml_LW_73 d_LW_661 yv_AC_fromLast sh_AC rfl rfl (fun o h => M_AC_fromLast hC.inj h) (by decide) rfl rfl (Nat.le_of_ble_eq_true rfl) (fun o77 => ?_)
      refine VO_aload hC d_LW_664 2 rfl ?_
      refine VO_aload hC d_LW_665 0 rfl ?_
      refine VO_iload hC d_LW_666 3 rfl ?_
      refine VO_const hC d_LW_667 ?_
      refine VO_iadd hC d_LW_668 ?_
      refine VO_sld hC hX hbl hbA d_LW_669 (fun x78 => ?_)
      refine VO_aload hC d_LW_670 0 rfl ?_
      refine VO_iload hC d_LW_671 3 rfl ?_
      refine VO_const hC d_LW_672 ?_
      refine VO_iadd hC d_LW_673 ?_
      refine VO_sld hC hX hbl hbA d_LW_674 (fun x79 => ?_)
      refine VO_callVI hC [.int x78, .int x79] [.int o77.1] ml_LW_76 d_LW_675 yv_MD_fromLast sh_MD rfl rfl (fun o h => M_MD_fromLast hC.inj h) (by decide) rfl rfl (Nat.le_of_ble_eq_true rfl) (fun o80 => ?_)
      refine VO_icmp_eq hC d_LW_678 (fun _ => ?_) (fun _ => ?_)
      · exact (B_LW_1460 hC hX hbl hbA K18 hK18 v3 o80.2)
      · refine VO_const hC d_LW_681 ?_
        exact VO_z0 d_LW_682
    refine VO_ite (fun c32_15 => ?_) (fun c32_15 => ?_)
    · refine VO_tin (tgt := 683) (off := (651 : Int)) hC d_LW_32 (by rw [c32_15]; decide) (by rw [c32_15]; decide) (by first | (rw [c32_15]; done) | (rw [c32_15]; rfl)) (by decide) ?_
      refine VO_aload hC d_LW_683 1 rfl ?_
      refine VO_callVI hC [] [] ml_LW_77 d_LW_684 yv_AC_allFromLast sh_AC rfl rfl (fun o h => M_AC_allFromLast hC.inj h) (by decide) rfl rfl (Nat.le_of_ble_eq_true rfl) (fun o81 => ?_)
      refine VO_aload hC d_LW_687 2 rfl ?_
      refine VO_callVI hC [] [.int o81.1] ml_LW_80 d_LW_688 yv_MD_allFromLast sh_MD rfl rfl (fun o h => M_MD_allFromLast hC.inj h) (by decide) rfl rfl (Nat.le_of_ble_eq_true rfl) (fun o82 => ?_)
      refine VO_icmp_eq hC d_LW_691 (fun _ => ?_) (fun _ => ?_)
      · exact (B_LW_1460 hC hX hbl hbA K18 hK18 v3 o82.2)
      · refine VO_const hC d_LW_694 ?_
        exact VO_z0 d_LW_695
    refine VO_ite (fun c32_16 => ?_) (fun c32_16 => ?_)
    · refine VO_tin (tgt := 696) (off := (664 : Int)) hC d_LW_32 (by rw [c32_16]; decide) (by rw [c32_16]; decide) (by first | (rw [c32_16]; done) | (rw [c32_16]; rfl)) (by decide) ?_
      refine VO_aload hC d_LW_696 1 rfl ?_
      refine VO_aload hC d_LW_697 0 rfl ?_
      refine VO_iload hC d_LW_698 3 rfl ?_
      refine VO_const hC d_LW_699 ?_
      refine VO_iadd hC d_LW_700 ?_
      refine VO_sld hC hX hbl hbA d_LW_701 (fun x83 => ?_)
      refine VO_aload hC d_LW_702 0 rfl ?_
      refine VO_iload hC d_LW_703 3 rfl ?_
      refine VO_const hC d_LW_704 ?_
      refine VO_iadd hC d_LW_705 ?_
      refine VO_sld hC hX hbl hbA d_LW_706 (fun x84 => ?_)
      refine VO_callVL hC [.int x83, .int x84] [] ml_LW_81 d_LW_707 yv_AC_whose sh_AC rfl rfl (fun o h => M_AC_whose hC.inj h) (by decide) rfl rfl (Nat.le_of_ble_eq_true rfl) (fun o85 => ?_)
      refine VO_aload hC d_LW_710 2 rfl ?_
      refine VO_aload hC d_LW_711 0 rfl ?_
      refine VO_iload hC d_LW_712 3 rfl ?_
      refine VO_const hC d_LW_713 ?_
      refine VO_iadd hC d_LW_714 ?_
      refine VO_sld hC hX hbl hbA d_LW_715 (fun x86 => ?_)
      refine VO_aload hC d_LW_716 0 rfl ?_
      refine VO_iload hC d_LW_717 3 rfl ?_
      refine VO_const hC d_LW_718 ?_
      refine VO_iadd hC d_LW_719 ?_
      refine VO_sld hC hX hbl hbA d_LW_720 (fun x87 => ?_)
      refine VO_callVL hC [.int x86, .int x87] [.long o85.1] ml_LW_85 d_LW_721 yv_MD_whose sh_MD rfl rfl (fun o h => M_MD_whose hC.inj h) (by decide) rfl rfl (Nat.le_of_ble_eq_true rfl) (fun o88 => ?_)
      refine VO_lcmp hC d_LW_724 ?_
      refine VO_if_eq hC d_LW_725 (fun _ => ?_) (fun _ => ?_)
      · exact (B_LW_1460 hC hX hbl hbA K18 hK18 v3 o88.2)
      · refine VO_const hC d_LW_728 ?_
        exact VO_z0 d_LW_729
    refine VO_ite (fun c32_17 => ?_) (fun c32_17 => ?_)
    · refine VO_tin (tgt := 730) (off := (698 : Int)) hC d_LW_32 (by rw [c32_17]; decide) (by rw [c32_17]; decide) (by first | (rw [c32_17]; done) | (rw [c32_17]; rfl)) (by decide) ?_
      refine VO_aload hC d_LW_730 1 rfl ?_
      refine VO_aload hC d_LW_731 0 rfl ?_
      refine VO_iload hC d_LW_732 3 rfl ?_
      refine VO_const hC d_LW_733 ?_
      refine VO_iadd hC d_LW_734 ?_
      refine VO_sld hC hX hbl hbA d_LW_735 (fun x89 => ?_)
      refine VO_aload hC d_LW_736 0 rfl ?_
      refine VO_iload hC d_LW_737 3 rfl ?_
      refine VO_const hC d_LW_738 ?_
      refine VO_iadd hC d_LW_739 ?_
      refine VO_sld hC hX hbl hbA d_LW_740 (fun x90 => ?_)
      refine VO_callVI hC [.int x89, .int x90] [] ml_LW_86 d_LW_741 yv_AC_rule sh_AC rfl rfl (fun o h => M_AC_rule hC.inj h) (by decide) rfl rfl (Nat.le_of_ble_eq_true rfl) (fun o91 => ?_)
      refine VO_aload hC d_LW_744 2 rfl ?_
      refine VO_aload hC d_LW_745 0 rfl ?_
      refine VO_iload hC d_LW_746 3 rfl ?_
      refine VO_const hC d_LW_747 ?_
      refine VO_iadd hC d_LW_748 ?_
      refine VO_sld hC hX hbl hbA d_LW_749 (fun x92 => ?_)
      refine VO_aload hC d_LW_750 0 rfl ?_
      refine VO_iload hC d_LW_751 3 rfl ?_
      refine VO_const hC d_LW_752 ?_
      refine VO_iadd hC d_LW_753 ?_
      refine VO_sld hC hX hbl hbA d_LW_754 (fun x93 => ?_)
      refine VO_callVI hC [.int x92, .int x93] [.int o91.1] ml_LW_89 d_LW_755 yv_MD_rule sh_MD rfl rfl (fun o h => M_MD_rule hC.inj h) (by decide) rfl rfl (Nat.le_of_ble_eq_true rfl) (fun o94 => ?_)
      refine VO_icmp_eq hC d_LW_758 (fun _ => ?_) (fun _ => ?_)
      · exact (B_LW_1460 hC hX hbl hbA K18 hK18 v3 o94.2)
      · refine VO_const hC d_LW_761 ?_
        exact VO_z0 d_LW_762
    refine VO_ite (fun c32_18 => ?_) (fun c32_18 => ?_)
    · refine VO_tin (tgt := 763) (off := (731 : Int)) hC d_LW_32 (by rw [c32_18]; decide) (by rw [c32_18]; decide) (by first | (rw [c32_18]; done) | (rw [c32_18]; rfl)) (by decide) ?_
      refine VO_aload hC d_LW_763 1 rfl ?_
      refine VO_callVI hC [] [] ml_LW_90 d_LW_764 yv_AC_bestRule sh_AC rfl rfl (fun o h => M_AC_bestRule hC.inj h) (by decide) rfl rfl (Nat.le_of_ble_eq_true rfl) (fun o95 => ?_)
      refine VO_aload hC d_LW_767 2 rfl ?_
      refine VO_callVI hC [] [.int o95.1] ml_LW_93 d_LW_768 yv_MD_bestRule sh_MD rfl rfl (fun o h => M_MD_bestRule hC.inj h) (by decide) rfl rfl (Nat.le_of_ble_eq_true rfl) (fun o96 => ?_)
      refine VO_icmp_eq hC d_LW_771 (fun _ => ?_) (fun _ => ?_)
      · exact (B_LW_1460 hC hX hbl hbA K18 hK18 v3 o96.2)
      · refine VO_const hC d_LW_774 ?_
        exact VO_z0 d_LW_775
    refine VO_ite (fun c32_19 => ?_) (fun c32_19 => ?_)
    · refine VO_tin (tgt := 776) (off := (744 : Int)) hC d_LW_32 (by rw [c32_19]; decide) (by rw [c32_19]; decide) (by first | (rw [c32_19]; done) | (rw [c32_19]; rfl)) (by decide) ?_
      refine VO_aload hC d_LW_776 1 rfl ?_
      refine VO_aload hC d_LW_777 0 rfl ?_
      refine VO_iload hC d_LW_778 3 rfl ?_
      refine VO_const hC d_LW_779 ?_
      refine VO_iadd hC d_LW_780 ?_
      refine VO_sld hC hX hbl hbA d_LW_781 (fun x97 => ?_)
      refine VO_callVI hC [.int x97] [] ml_LW_94 d_LW_782 yv_AC_placeWorth sh_AC rfl rfl (fun o h => M_AC_placeWorth hC.inj h) (by decide) rfl rfl (Nat.le_of_ble_eq_true rfl) (fun o98 => ?_)
      refine VO_aload hC d_LW_785 2 rfl ?_
      refine VO_aload hC d_LW_786 0 rfl ?_
      refine VO_iload hC d_LW_787 3 rfl ?_
      refine VO_const hC d_LW_788 ?_
      refine VO_iadd hC d_LW_789 ?_
      refine VO_sld hC hX hbl hbA d_LW_790 (fun x99 => ?_)
      refine VO_callVI hC [.int x99] [.int o98.1] ml_LW_97 d_LW_791 yv_MD_placeWorth sh_MD rfl rfl (fun o h => M_MD_placeWorth hC.inj h) (by decide) rfl rfl (Nat.le_of_ble_eq_true rfl) (fun o100 => ?_)
      refine VO_icmp_eq hC d_LW_794 (fun _ => ?_) (fun _ => ?_)
      · exact (B_LW_1460 hC hX hbl hbA K18 hK18 v3 o100.2)
      · refine VO_const hC d_LW_797 ?_
        exact VO_z0 d_LW_798
    refine VO_ite (fun c32_20 => ?_) (fun c32_20 => ?_)
    · refine VO_tin (tgt := 799) (off := (767 : Int)) hC d_LW_32 (by rw [c32_20]; decide) (by rw [c32_20]; decide) (by first | (rw [c32_20]; done) | (rw [c32_20]; rfl)) (by decide) ?_
      refine VO_aload hC d_LW_799 1 rfl ?_
      refine VO_callVI hC [] [] ml_LW_98 d_LW_800 yv_AC_changes sh_AC rfl rfl (fun o h => M_AC_changes hC.inj h) (by decide) rfl rfl (Nat.le_of_ble_eq_true rfl) (fun o101 => ?_)
      refine VO_aload hC d_LW_803 2 rfl ?_
      refine VO_callVI hC [] [.int o101.1] ml_LW_101 d_LW_804 yv_MD_changes sh_MD rfl rfl (fun o h => M_MD_changes hC.inj h) (by decide) rfl rfl (Nat.le_of_ble_eq_true rfl) (fun o102 => ?_)
      refine VO_icmp_eq hC d_LW_807 (fun _ => ?_) (fun _ => ?_)
      · exact (B_LW_1460 hC hX hbl hbA K18 hK18 v3 o102.2)
      · refine VO_const hC d_LW_810 ?_
        exact VO_z0 d_LW_811
    refine VO_ite (fun c32_21 => ?_) (fun c32_21 => ?_)
    · refine VO_tin (tgt := 812) (off := (780 : Int)) hC d_LW_32 (by rw [c32_21]; decide) (by rw [c32_21]; decide) (by first | (rw [c32_21]; done) | (rw [c32_21]; rfl)) (by decide) ?_
      refine VO_aload hC d_LW_812 1 rfl ?_
      refine VO_aload hC d_LW_813 0 rfl ?_
      refine VO_iload hC d_LW_814 3 rfl ?_
      refine VO_const hC d_LW_815 ?_
      refine VO_iadd hC d_LW_816 ?_
      refine VO_sld hC hX hbl hbA d_LW_817 (fun x103 => ?_)
      refine VO_callVI hC [.int x103] [] ml_LW_102 d_LW_818 yv_AC_bestOrder sh_AC rfl rfl (fun o h => M_AC_bestOrder hC.inj h) (by decide) rfl rfl (Nat.le_of_ble_eq_true rfl) (fun o104 => ?_)
      refine VO_aload hC d_LW_821 2 rfl ?_
      refine VO_aload hC d_LW_822 0 rfl ?_
      refine VO_iload hC d_LW_823 3 rfl ?_
      refine VO_const hC d_LW_824 ?_
      refine VO_iadd hC d_LW_825 ?_
      refine VO_sld hC hX hbl hbA d_LW_826 (fun x105 => ?_)
      refine VO_callVI hC [.int x105] [.int o104.1] ml_LW_105 d_LW_827 yv_MD_bestOrder sh_MD rfl rfl (fun o h => M_MD_bestOrder hC.inj h) (by decide) rfl rfl (Nat.le_of_ble_eq_true rfl) (fun o106 => ?_)
      refine VO_icmp_eq hC d_LW_830 (fun _ => ?_) (fun _ => ?_)
      · exact (B_LW_1460 hC hX hbl hbA K18 hK18 v3 o106.2)
      · refine VO_const hC d_LW_833 ?_
        exact VO_z0 d_LW_834
    refine VO_ite (fun c32_22 => ?_) (fun c32_22 => ?_)
    · refine VO_tin (tgt := 835) (off := (803 : Int)) hC d_LW_32 (by rw [c32_22]; decide) (by rw [c32_22]; decide) (by first | (rw [c32_22]; done) | (rw [c32_22]; rfl)) (by decide) ?_
      refine VO_aload hC d_LW_835 1 rfl ?_
      refine VO_aload hC d_LW_836 0 rfl ?_
      refine VO_iload hC d_LW_837 3 rfl ?_
      refine VO_const hC d_LW_838 ?_
      refine VO_iadd hC d_LW_839 ?_
      refine VO_sld hC hX hbl hbA d_LW_840 (fun x107 => ?_)
      refine VO_aload hC d_LW_841 0 rfl ?_
      refine VO_iload hC d_LW_842 3 rfl ?_
      refine VO_const hC d_LW_843 ?_
      refine VO_iadd hC d_LW_844 ?_
      refine VO_sld hC hX hbl hbA d_LW_845 (fun x108 => ?_)
      refine VO_callVI hC [.int x107, .int x108] [] ml_LW_106 d_LW_846 yv_AC_putIn sh_AC rfl rfl (fun o h => M_AC_putIn hC.inj h) (by decide) rfl rfl (Nat.le_of_ble_eq_true rfl) (fun o109 => ?_)
      refine VO_aload hC d_LW_849 2 rfl ?_
      refine VO_aload hC d_LW_850 0 rfl ?_
      refine VO_iload hC d_LW_851 3 rfl ?_
      refine VO_const hC d_LW_852 ?_
      refine VO_iadd hC d_LW_853 ?_
      refine VO_sld hC hX hbl hbA d_LW_854 (fun x110 => ?_)
      refine VO_aload hC d_LW_855 0 rfl ?_
      refine VO_iload hC d_LW_856 3 rfl ?_
      refine VO_const hC d_LW_857 ?_
      refine VO_iadd hC d_LW_858 ?_
      refine VO_sld hC hX hbl hbA d_LW_859 (fun x111 => ?_)
      refine VO_callVI hC [.int x110, .int x111] [.int o109.1] ml_LW_109 d_LW_860 yv_MD_putIn sh_MD rfl rfl (fun o h => M_MD_putIn hC.inj h) (by decide) rfl rfl (Nat.le_of_ble_eq_true rfl) (fun o112 => ?_)
      refine VO_icmp_eq hC d_LW_863 (fun _ => ?_) (fun _ => ?_)
      · exact (B_LW_1460 hC hX hbl hbA K18 hK18 v3 o112.2)
      · refine VO_const hC d_LW_866 ?_
        exact VO_z0 d_LW_867
    refine VO_ite (fun c32_23 => ?_) (fun c32_23 => ?_)
    · refine VO_tin (tgt := 868) (off := (836 : Int)) hC d_LW_32 (by rw [c32_23]; decide) (by rw [c32_23]; decide) (by first | (rw [c32_23]; done) | (rw [c32_23]; rfl)) (by decide) ?_
      refine VO_aload hC d_LW_868 1 rfl ?_
      refine VO_aload hC d_LW_869 0 rfl ?_
      refine VO_iload hC d_LW_870 3 rfl ?_
      refine VO_const hC d_LW_871 ?_
      refine VO_iadd hC d_LW_872 ?_
      refine VO_sld hC hX hbl hbA d_LW_873 (fun x113 => ?_)
      refine VO_aload hC d_LW_874 0 rfl ?_
      refine VO_iload hC d_LW_875 3 rfl ?_
      refine VO_const hC d_LW_876 ?_
      refine VO_iadd hC d_LW_877 ?_
      refine VO_sld hC hX hbl hbA d_LW_878 (fun x114 => ?_)
      refine VO_callVI hC [.int x113, .int x114] [] ml_LW_110 d_LW_879 yv_AC_together sh_AC rfl rfl (fun o h => M_AC_together hC.inj h) (by decide) rfl rfl (Nat.le_of_ble_eq_true rfl) (fun o115 => ?_)
      refine VO_aload hC d_LW_882 2 rfl ?_
      refine VO_aload hC d_LW_883 0 rfl ?_
      refine VO_iload hC d_LW_884 3 rfl ?_
      refine VO_const hC d_LW_885 ?_
      refine VO_iadd hC d_LW_886 ?_
      refine VO_sld hC hX hbl hbA d_LW_887 (fun x116 => ?_)
      refine VO_aload hC d_LW_888 0 rfl ?_
      refine VO_iload hC d_LW_889 3 rfl ?_
      refine VO_const hC d_LW_890 ?_
      refine VO_iadd hC d_LW_891 ?_
      refine VO_sld hC hX hbl hbA d_LW_892 (fun x117 => ?_)
      refine VO_callVI hC [.int x116, .int x117] [.int o115.1] ml_LW_113 d_LW_893 yv_MD_together sh_MD rfl rfl (fun o h => M_MD_together hC.inj h) (by decide) rfl rfl (Nat.le_of_ble_eq_true rfl) (fun o118 => ?_)
      refine VO_icmp_eq hC d_LW_896 (fun _ => ?_) (fun _ => ?_)
      · exact (B_LW_1460 hC hX hbl hbA K18 hK18 v3 o118.2)
      · refine VO_const hC d_LW_899 ?_
        exact VO_z0 d_LW_900
    refine VO_ite (fun c32_24 => ?_) (fun c32_24 => ?_)
    · refine VO_tin (tgt := 901) (off := (869 : Int)) hC d_LW_32 (by rw [c32_24]; decide) (by rw [c32_24]; decide) (by first | (rw [c32_24]; done) | (rw [c32_24]; rfl)) (by decide) ?_
      refine VO_aload hC d_LW_901 1 rfl ?_
      refine VO_aload hC d_LW_902 0 rfl ?_
      refine VO_iload hC d_LW_903 3 rfl ?_
      refine VO_const hC d_LW_904 ?_
      refine VO_iadd hC d_LW_905 ?_
      refine VO_sld hC hX hbl hbA d_LW_906 (fun x119 => ?_)
      refine VO_aload hC d_LW_907 0 rfl ?_
      refine VO_iload hC d_LW_908 3 rfl ?_
      refine VO_const hC d_LW_909 ?_
      refine VO_iadd hC d_LW_910 ?_
      refine VO_sld hC hX hbl hbA d_LW_911 (fun x120 => ?_)
      refine VO_callVI hC [.int x119, .int x120] [] ml_LW_114 d_LW_912 yv_AC_alibiWorth sh_AC rfl rfl (fun o h => M_AC_alibiWorth hC.inj h) (by decide) rfl rfl (Nat.le_of_ble_eq_true rfl) (fun o121 => ?_)
      refine VO_aload hC d_LW_915 2 rfl ?_
      refine VO_aload hC d_LW_916 0 rfl ?_
      refine VO_iload hC d_LW_917 3 rfl ?_
      refine VO_const hC d_LW_918 ?_
      refine VO_iadd hC d_LW_919 ?_
      refine VO_sld hC hX hbl hbA d_LW_920 (fun x122 => ?_)
      refine VO_aload hC d_LW_921 0 rfl ?_
      refine VO_iload hC d_LW_922 3 rfl ?_
      refine VO_const hC d_LW_923 ?_
      refine VO_iadd hC d_LW_924 ?_
      refine VO_sld hC hX hbl hbA d_LW_925 (fun x123 => ?_)
      refine VO_callVI hC [.int x122, .int x123] [.int o121.1] ml_LW_117 d_LW_926 yv_MD_alibiWorth sh_MD rfl rfl (fun o h => M_MD_alibiWorth hC.inj h) (by decide) rfl rfl (Nat.le_of_ble_eq_true rfl) (fun o124 => ?_)
      refine VO_icmp_eq hC d_LW_929 (fun _ => ?_) (fun _ => ?_)
      · exact (B_LW_1460 hC hX hbl hbA K18 hK18 v3 o124.2)
      · refine VO_const hC d_LW_932 ?_
        exact VO_z0 d_LW_933
    refine VO_ite (fun c32_25 => ?_) (fun c32_25 => ?_)
    · refine VO_tin (tgt := 934) (off := (902 : Int)) hC d_LW_32 (by rw [c32_25]; decide) (by rw [c32_25]; decide) (by first | (rw [c32_25]; done) | (rw [c32_25]; rfl)) (by decide) ?_
      refine VO_aload hC d_LW_934 1 rfl ?_
      refine VO_callVI hC [] [] ml_LW_118 d_LW_935 yv_AC_givenAway sh_AC rfl rfl (fun o h => M_AC_givenAway hC.inj h) (by decide) rfl rfl (Nat.le_of_ble_eq_true rfl) (fun o125 => ?_)
      refine VO_aload hC d_LW_938 2 rfl ?_
      refine VO_callVI hC [] [.int o125.1] ml_LW_121 d_LW_939 yv_MD_givenAway sh_MD rfl rfl (fun o h => M_MD_givenAway hC.inj h) (by decide) rfl rfl (Nat.le_of_ble_eq_true rfl) (fun o126 => ?_)
      refine VO_icmp_eq hC d_LW_942 (fun _ => ?_) (fun _ => ?_)
      · exact (B_LW_1460 hC hX hbl hbA K18 hK18 v3 o126.2)
      · refine VO_const hC d_LW_945 ?_
        exact VO_z0 d_LW_946
    refine VO_ite (fun c32_26 => ?_) (fun c32_26 => ?_)
    · refine VO_tin (tgt := 947) (off := (915 : Int)) hC d_LW_32 (by rw [c32_26]; decide) (by rw [c32_26]; decide) (by first | (rw [c32_26]; done) | (rw [c32_26]; rfl)) (by decide) ?_
      refine VO_aload hC d_LW_947 1 rfl ?_
      refine VO_aload hC d_LW_948 0 rfl ?_
      refine VO_iload hC d_LW_949 3 rfl ?_
      refine VO_const hC d_LW_950 ?_
      refine VO_iadd hC d_LW_951 ?_
      refine VO_sld hC hX hbl hbA d_LW_952 (fun x127 => ?_)
      refine VO_aload hC d_LW_953 0 rfl ?_
      refine VO_iload hC d_LW_954 3 rfl ?_
      refine VO_const hC d_LW_955 ?_
      refine VO_iadd hC d_LW_956 ?_
      refine VO_sld hC hX hbl hbA d_LW_957 (fun x128 => ?_)
      refine VO_aload hC d_LW_958 0 rfl ?_
      refine VO_iload hC d_LW_959 3 rfl ?_
      refine VO_const hC d_LW_960 ?_
      refine VO_iadd hC d_LW_961 ?_
      refine VO_sld hC hX hbl hbA d_LW_962 (fun x129 => ?_)
      refine VO_callVL hC [.int x127, .int x128, .int x129] [] ml_LW_122 d_LW_963 yv_AC_caught sh_AC rfl rfl (fun o h => M_AC_caught hC.inj h) (by decide) rfl rfl (Nat.le_of_ble_eq_true rfl) (fun o130 => ?_)
      refine VO_aload hC d_LW_966 2 rfl ?_
      refine VO_aload hC d_LW_967 0 rfl ?_
      refine VO_iload hC d_LW_968 3 rfl ?_
      refine VO_const hC d_LW_969 ?_
      refine VO_iadd hC d_LW_970 ?_
      refine VO_sld hC hX hbl hbA d_LW_971 (fun x131 => ?_)
      refine VO_aload hC d_LW_972 0 rfl ?_
      refine VO_iload hC d_LW_973 3 rfl ?_
      refine VO_const hC d_LW_974 ?_
      refine VO_iadd hC d_LW_975 ?_
      refine VO_sld hC hX hbl hbA d_LW_976 (fun x132 => ?_)
      refine VO_aload hC d_LW_977 0 rfl ?_
      refine VO_iload hC d_LW_978 3 rfl ?_
      refine VO_const hC d_LW_979 ?_
      refine VO_iadd hC d_LW_980 ?_
      refine VO_sld hC hX hbl hbA d_LW_981 (fun x133 => ?_)
      refine VO_callVL hC [.int x131, .int x132, .int x133] [.long o130.1] ml_LW_126 d_LW_982 yv_MD_caught sh_MD rfl rfl (fun o h => M_MD_caught hC.inj h) (by decide) rfl rfl (Nat.le_of_ble_eq_true rfl) (fun o134 => ?_)
      refine VO_lcmp hC d_LW_985 ?_
      refine VO_if_eq hC d_LW_986 (fun _ => ?_) (fun _ => ?_)
      · exact (B_LW_1460 hC hX hbl hbA K18 hK18 v3 o134.2)
      · refine VO_const hC d_LW_989 ?_
        exact VO_z0 d_LW_990
    refine VO_ite (fun c32_27 => ?_) (fun c32_27 => ?_)
    · refine VO_tin (tgt := 991) (off := (959 : Int)) hC d_LW_32 (by rw [c32_27]; decide) (by rw [c32_27]; decide) (by first | (rw [c32_27]; done) | (rw [c32_27]; rfl)) (by decide) ?_
      refine VO_aload hC d_LW_991 1 rfl ?_
      refine VO_callVI hC [] [] ml_LW_127 d_LW_992 yv_AC_spared sh_AC rfl rfl (fun o h => M_AC_spared hC.inj h) (by decide) rfl rfl (Nat.le_of_ble_eq_true rfl) (fun o135 => ?_)
      refine VO_aload hC d_LW_995 2 rfl ?_
      refine VO_callVI hC [] [.int o135.1] ml_LW_130 d_LW_996 yv_MD_spared sh_MD rfl rfl (fun o h => M_MD_spared hC.inj h) (by decide) rfl rfl (Nat.le_of_ble_eq_true rfl) (fun o136 => ?_)
      refine VO_icmp_eq hC d_LW_999 (fun _ => ?_) (fun _ => ?_)
      · exact (B_LW_1460 hC hX hbl hbA K18 hK18 v3 o136.2)
      · refine VO_const hC d_LW_1002 ?_
        exact VO_z0 d_LW_1003
    refine VO_ite (fun c32_28 => ?_) (fun c32_28 => ?_)
    · refine VO_tin (tgt := 1004) (off := (972 : Int)) hC d_LW_32 (by rw [c32_28]; decide) (by rw [c32_28]; decide) (by first | (rw [c32_28]; done) | (rw [c32_28]; rfl)) (by decide) ?_
      refine VO_aload hC d_LW_1004 1 rfl ?_
      refine VO_callVI hC [] [] ml_LW_131 d_LW_1005 yv_AC_keeper sh_AC rfl rfl (fun o h => M_AC_keeper hC.inj h) (by decide) rfl rfl (Nat.le_of_ble_eq_true rfl) (fun o137 => ?_)
      refine VO_aload hC d_LW_1008 2 rfl ?_
      refine VO_callVI hC [] [.int o137.1] ml_LW_134 d_LW_1009 yv_MD_keeper sh_MD rfl rfl (fun o h => M_MD_keeper hC.inj h) (by decide) rfl rfl (Nat.le_of_ble_eq_true rfl) (fun o138 => ?_)
      refine VO_icmp_eq hC d_LW_1012 (fun _ => ?_) (fun _ => ?_)
      · exact (B_LW_1460 hC hX hbl hbA K18 hK18 v3 o138.2)
      · refine VO_const hC d_LW_1015 ?_
        exact VO_z0 d_LW_1016
    refine VO_ite (fun c32_29 => ?_) (fun c32_29 => ?_)
    · refine VO_tin (tgt := 1017) (off := (985 : Int)) hC d_LW_32 (by rw [c32_29]; decide) (by rw [c32_29]; decide) (by first | (rw [c32_29]; done) | (rw [c32_29]; rfl)) (by decide) ?_
      refine VO_aload hC d_LW_1017 1 rfl ?_
      refine VO_aload hC d_LW_1018 0 rfl ?_
      refine VO_iload hC d_LW_1019 3 rfl ?_
      refine VO_const hC d_LW_1020 ?_
      refine VO_iadd hC d_LW_1021 ?_
      refine VO_sld hC hX hbl hbA d_LW_1022 (fun x139 => ?_)
      refine VO_callVI hC [.int x139] [] ml_LW_135 d_LW_1023 yv_AC_swaps sh_AC rfl rfl (fun o h => M_AC_swaps hC.inj h) (by decide) rfl rfl (Nat.le_of_ble_eq_true rfl) (fun o140 => ?_)
      refine VO_aload hC d_LW_1026 2 rfl ?_
      refine VO_aload hC d_LW_1027 0 rfl ?_
      refine VO_iload hC d_LW_1028 3 rfl ?_
      refine VO_const hC d_LW_1029 ?_
      refine VO_iadd hC d_LW_1030 ?_
      refine VO_sld hC hX hbl hbA d_LW_1031 (fun x141 => ?_)
      refine VO_callVI hC [.int x141] [.int o140.1] ml_LW_138 d_LW_1032 yv_MD_swaps sh_MD rfl rfl (fun o h => M_MD_swaps hC.inj h) (by decide) rfl rfl (Nat.le_of_ble_eq_true rfl) (fun o142 => ?_)
      refine VO_icmp_eq hC d_LW_1035 (fun _ => ?_) (fun _ => ?_)
      · exact (B_LW_1460 hC hX hbl hbA K18 hK18 v3 o142.2)
      · refine VO_const hC d_LW_1038 ?_
        exact VO_z0 d_LW_1039
    refine VO_ite (fun c32_30 => ?_) (fun c32_30 => ?_)
    · refine VO_tin (tgt := 1040) (off := (1008 : Int)) hC d_LW_32 (by rw [c32_30]; decide) (by rw [c32_30]; decide) (by first | (rw [c32_30]; done) | (rw [c32_30]; rfl)) (by decide) ?_
      refine VO_aload hC d_LW_1040 1 rfl ?_
      refine VO_aload hC d_LW_1041 0 rfl ?_
      refine VO_iload hC d_LW_1042 3 rfl ?_
      refine VO_const hC d_LW_1043 ?_
      refine VO_iadd hC d_LW_1044 ?_
      refine VO_sld hC hX hbl hbA d_LW_1045 (fun x143 => ?_)
      refine VO_aload hC d_LW_1046 0 rfl ?_
      refine VO_iload hC d_LW_1047 3 rfl ?_
      refine VO_const hC d_LW_1048 ?_
      refine VO_iadd hC d_LW_1049 ?_
      refine VO_sld hC hX hbl hbA d_LW_1050 (fun x144 => ?_)
      refine VO_callVI hC [.int x143, .int x144] [] ml_LW_139 d_LW_1051 yv_AC_heavier sh_AC rfl rfl (fun o h => M_AC_heavier hC.inj h) (by decide) rfl rfl (Nat.le_of_ble_eq_true rfl) (fun o145 => ?_)
      refine VO_aload hC d_LW_1054 2 rfl ?_
      refine VO_aload hC d_LW_1055 0 rfl ?_
      refine VO_iload hC d_LW_1056 3 rfl ?_
      refine VO_const hC d_LW_1057 ?_
      refine VO_iadd hC d_LW_1058 ?_
      refine VO_sld hC hX hbl hbA d_LW_1059 (fun x146 => ?_)
      refine VO_aload hC d_LW_1060 0 rfl ?_
      refine VO_iload hC d_LW_1061 3 rfl ?_
      refine VO_const hC d_LW_1062 ?_
      refine VO_iadd hC d_LW_1063 ?_
      refine VO_sld hC hX hbl hbA d_LW_1064 (fun x147 => ?_)
      refine VO_callVI hC [.int x146, .int x147] [.int o145.1] ml_LW_142 d_LW_1065 yv_MD_heavier sh_MD rfl rfl (fun o h => M_MD_heavier hC.inj h) (by decide) rfl rfl (Nat.le_of_ble_eq_true rfl) (fun o148 => ?_)
      refine VO_icmp_eq hC d_LW_1068 (fun _ => ?_) (fun _ => ?_)
      · exact (B_LW_1460 hC hX hbl hbA K18 hK18 v3 o148.2)
      · refine VO_const hC d_LW_1071 ?_
        exact VO_z0 d_LW_1072
    refine VO_ite (fun c32_31 => ?_) (fun c32_31 => ?_)
    · refine VO_tin (tgt := 1073) (off := (1041 : Int)) hC d_LW_32 (by rw [c32_31]; decide) (by rw [c32_31]; decide) (by first | (rw [c32_31]; done) | (rw [c32_31]; rfl)) (by decide) ?_
      refine VO_aload hC d_LW_1073 1 rfl ?_
      refine VO_aload hC d_LW_1074 0 rfl ?_
      refine VO_iload hC d_LW_1075 3 rfl ?_
      refine VO_const hC d_LW_1076 ?_
      refine VO_iadd hC d_LW_1077 ?_
      refine VO_sld hC hX hbl hbA d_LW_1078 (fun x149 => ?_)
      refine VO_callVI hC [.int x149] [] ml_LW_143 d_LW_1079 yv_AC_bestDid sh_AC rfl rfl (fun o h => M_AC_bestDid hC.inj h) (by decide) rfl rfl (Nat.le_of_ble_eq_true rfl) (fun o150 => ?_)
      refine VO_aload hC d_LW_1082 2 rfl ?_
      refine VO_aload hC d_LW_1083 0 rfl ?_
      refine VO_iload hC d_LW_1084 3 rfl ?_
      refine VO_const hC d_LW_1085 ?_
      refine VO_iadd hC d_LW_1086 ?_
      refine VO_sld hC hX hbl hbA d_LW_1087 (fun x151 => ?_)
      refine VO_callVI hC [.int x151] [.int o150.1] ml_LW_146 d_LW_1088 yv_MD_bestDid sh_MD rfl rfl (fun o h => M_MD_bestDid hC.inj h) (by decide) rfl rfl (Nat.le_of_ble_eq_true rfl) (fun o152 => ?_)
      refine VO_icmp_eq hC d_LW_1091 (fun _ => ?_) (fun _ => ?_)
      · exact (B_LW_1460 hC hX hbl hbA K18 hK18 v3 o152.2)
      · refine VO_const hC d_LW_1094 ?_
        exact VO_z0 d_LW_1095
    refine VO_ite (fun c32_32 => ?_) (fun c32_32 => ?_)
    · refine VO_tin (tgt := 1096) (off := (1064 : Int)) hC d_LW_32 (by rw [c32_32]; decide) (by rw [c32_32]; decide) (by first | (rw [c32_32]; done) | (rw [c32_32]; rfl)) (by decide) ?_
      refine VO_aload hC d_LW_1096 1 rfl ?_
      refine VO_aload hC d_LW_1097 0 rfl ?_
      refine VO_iload hC d_LW_1098 3 rfl ?_
      refine VO_const hC d_LW_1099 ?_
      refine VO_iadd hC d_LW_1100 ?_
      refine VO_sld hC hX hbl hbA d_LW_1101 (fun x153 => ?_)
      refine VO_callVI hC [.int x153] [] ml_LW_147 d_LW_1102 yv_AC_rest sh_AC rfl rfl (fun o h => M_AC_rest hC.inj h) (by decide) rfl rfl (Nat.le_of_ble_eq_true rfl) (fun o154 => ?_)
      refine VO_aload hC d_LW_1105 2 rfl ?_
      refine VO_aload hC d_LW_1106 0 rfl ?_
      refine VO_iload hC d_LW_1107 3 rfl ?_
      refine VO_const hC d_LW_1108 ?_
      refine VO_iadd hC d_LW_1109 ?_
      refine VO_sld hC hX hbl hbA d_LW_1110 (fun x155 => ?_)
      refine VO_callVI hC [.int x155] [.int o154.1] ml_LW_150 d_LW_1111 yv_MD_rest sh_MD rfl rfl (fun o h => M_MD_rest hC.inj h) (by decide) rfl rfl (Nat.le_of_ble_eq_true rfl) (fun o156 => ?_)
      refine VO_icmp_eq hC d_LW_1114 (fun _ => ?_) (fun _ => ?_)
      · exact (B_LW_1460 hC hX hbl hbA K18 hK18 v3 o156.2)
      · refine VO_const hC d_LW_1117 ?_
        exact VO_z0 d_LW_1118
    refine VO_ite (fun c32_33 => ?_) (fun c32_33 => ?_)
    · refine VO_tin (tgt := 1119) (off := (1087 : Int)) hC d_LW_32 (by rw [c32_33]; decide) (by rw [c32_33]; decide) (by first | (rw [c32_33]; done) | (rw [c32_33]; rfl)) (by decide) ?_
      refine VO_aload hC d_LW_1119 1 rfl ?_
      refine VO_aload hC d_LW_1120 0 rfl ?_
      refine VO_iload hC d_LW_1121 3 rfl ?_
      refine VO_const hC d_LW_1122 ?_
      refine VO_iadd hC d_LW_1123 ?_
      refine VO_sld hC hX hbl hbA d_LW_1124 (fun x157 => ?_)
      refine VO_callVI hC [.int x157] [] ml_LW_151 d_LW_1125 yv_AC_even sh_AC rfl rfl (fun o h => M_AC_even hC.inj h) (by decide) rfl rfl (Nat.le_of_ble_eq_true rfl) (fun o158 => ?_)
      refine VO_aload hC d_LW_1128 2 rfl ?_
      refine VO_aload hC d_LW_1129 0 rfl ?_
      refine VO_iload hC d_LW_1130 3 rfl ?_
      refine VO_const hC d_LW_1131 ?_
      refine VO_iadd hC d_LW_1132 ?_
      refine VO_sld hC hX hbl hbA d_LW_1133 (fun x159 => ?_)
      refine VO_callVI hC [.int x159] [.int o158.1] ml_LW_154 d_LW_1134 yv_MD_even sh_MD rfl rfl (fun o h => M_MD_even hC.inj h) (by decide) rfl rfl (Nat.le_of_ble_eq_true rfl) (fun o160 => ?_)
      refine VO_icmp_eq hC d_LW_1137 (fun _ => ?_) (fun _ => ?_)
      · exact (B_LW_1460 hC hX hbl hbA K18 hK18 v3 o160.2)
      · refine VO_const hC d_LW_1140 ?_
        exact VO_z0 d_LW_1141
    refine VO_ite (fun c32_34 => ?_) (fun c32_34 => ?_)
    · refine VO_tin (tgt := 1142) (off := (1110 : Int)) hC d_LW_32 (by rw [c32_34]; decide) (by rw [c32_34]; decide) (by first | (rw [c32_34]; done) | (rw [c32_34]; rfl)) (by decide) ?_
      refine VO_aload hC d_LW_1142 1 rfl ?_
      refine VO_aload hC d_LW_1143 0 rfl ?_
      refine VO_iload hC d_LW_1144 3 rfl ?_
      refine VO_const hC d_LW_1145 ?_
      refine VO_iadd hC d_LW_1146 ?_
      refine VO_sld hC hX hbl hbA d_LW_1147 (fun x161 => ?_)
      refine VO_callVI hC [.int x161] [] ml_LW_155 d_LW_1148 yv_AC_lastWord sh_AC rfl rfl (fun o h => M_AC_lastWord hC.inj h) (by decide) rfl rfl (Nat.le_of_ble_eq_true rfl) (fun o162 => ?_)
      refine VO_aload hC d_LW_1151 2 rfl ?_
      refine VO_aload hC d_LW_1152 0 rfl ?_
      refine VO_iload hC d_LW_1153 3 rfl ?_
      refine VO_const hC d_LW_1154 ?_
      refine VO_iadd hC d_LW_1155 ?_
      refine VO_sld hC hX hbl hbA d_LW_1156 (fun x163 => ?_)
      refine VO_callVI hC [.int x163] [.int o162.1] ml_LW_158 d_LW_1157 yv_MD_lastWord sh_MD rfl rfl (fun o h => M_MD_lastWord hC.inj h) (by decide) rfl rfl (Nat.le_of_ble_eq_true rfl) (fun o164 => ?_)
      refine VO_icmp_eq hC d_LW_1160 (fun _ => ?_) (fun _ => ?_)
      · exact (B_LW_1460 hC hX hbl hbA K18 hK18 v3 o164.2)
      · refine VO_const hC d_LW_1163 ?_
        exact VO_z0 d_LW_1164
    refine VO_ite (fun c32_35 => ?_) (fun c32_35 => ?_)
    · refine VO_tin (tgt := 1165) (off := (1133 : Int)) hC d_LW_32 (by rw [c32_35]; decide) (by rw [c32_35]; decide) (by first | (rw [c32_35]; done) | (rw [c32_35]; rfl)) (by decide) ?_
      refine VO_aload hC d_LW_1165 1 rfl ?_
      refine VO_aload hC d_LW_1166 0 rfl ?_
      refine VO_iload hC d_LW_1167 3 rfl ?_
      refine VO_const hC d_LW_1168 ?_
      refine VO_iadd hC d_LW_1169 ?_
      refine VO_sld hC hX hbl hbA d_LW_1170 (fun x165 => ?_)
      refine VO_callVI hC [.int x165] [] ml_LW_159 d_LW_1171 yv_AC_bribe sh_AC rfl rfl (fun o h => M_AC_bribe hC.inj h) (by decide) rfl rfl (Nat.le_of_ble_eq_true rfl) (fun o166 => ?_)
      refine VO_aload hC d_LW_1174 2 rfl ?_
      refine VO_aload hC d_LW_1175 0 rfl ?_
      refine VO_iload hC d_LW_1176 3 rfl ?_
      refine VO_const hC d_LW_1177 ?_
      refine VO_iadd hC d_LW_1178 ?_
      refine VO_sld hC hX hbl hbA d_LW_1179 (fun x167 => ?_)
      refine VO_callVI hC [.int x167] [.int o166.1] ml_LW_162 d_LW_1180 yv_MD_bribe sh_MD rfl rfl (fun o h => M_MD_bribe hC.inj h) (by decide) rfl rfl (Nat.le_of_ble_eq_true rfl) (fun o168 => ?_)
      refine VO_icmp_eq hC d_LW_1183 (fun _ => ?_) (fun _ => ?_)
      · exact (B_LW_1460 hC hX hbl hbA K18 hK18 v3 o168.2)
      · refine VO_const hC d_LW_1186 ?_
        exact VO_z0 d_LW_1187
    refine VO_ite (fun c32_36 => ?_) (fun c32_36 => ?_)
    · refine VO_tin (tgt := 1188) (off := (1156 : Int)) hC d_LW_32 (by rw [c32_36]; decide) (by rw [c32_36]; decide) (by first | (rw [c32_36]; done) | (rw [c32_36]; rfl)) (by decide) ?_
      refine VO_aload hC d_LW_1188 1 rfl ?_
      refine VO_aload hC d_LW_1189 0 rfl ?_
      refine VO_iload hC d_LW_1190 3 rfl ?_
      refine VO_const hC d_LW_1191 ?_
      refine VO_iadd hC d_LW_1192 ?_
      refine VO_sld hC hX hbl hbA d_LW_1193 (fun x169 => ?_)
      refine VO_aload hC d_LW_1194 0 rfl ?_
      refine VO_iload hC d_LW_1195 3 rfl ?_
      refine VO_const hC d_LW_1196 ?_
      refine VO_iadd hC d_LW_1197 ?_
      refine VO_sld hC hX hbl hbA d_LW_1198 (fun x170 => ?_)
      refine VO_callVI hC [.int x169, .int x170] [] ml_LW_163 d_LW_1199 yv_AC_latest sh_AC rfl rfl (fun o h => M_AC_latest hC.inj h) (by decide) rfl rfl (Nat.le_of_ble_eq_true rfl) (fun o171 => ?_)
      refine VO_aload hC d_LW_1202 2 rfl ?_
      refine VO_aload hC d_LW_1203 0 rfl ?_
      refine VO_iload hC d_LW_1204 3 rfl ?_
      refine VO_const hC d_LW_1205 ?_
      refine VO_iadd hC d_LW_1206 ?_
      refine VO_sld hC hX hbl hbA d_LW_1207 (fun x172 => ?_)
      refine VO_aload hC d_LW_1208 0 rfl ?_
      refine VO_iload hC d_LW_1209 3 rfl ?_
      refine VO_const hC d_LW_1210 ?_
      refine VO_iadd hC d_LW_1211 ?_
      refine VO_sld hC hX hbl hbA d_LW_1212 (fun x173 => ?_)
      refine VO_callVI hC [.int x172, .int x173] [.int o171.1] ml_LW_166 d_LW_1213 yv_MD_latest sh_MD rfl rfl (fun o h => M_MD_latest hC.inj h) (by decide) rfl rfl (Nat.le_of_ble_eq_true rfl) (fun o174 => ?_)
      refine VO_icmp_eq hC d_LW_1216 (fun _ => ?_) (fun _ => ?_)
      · exact (B_LW_1460 hC hX hbl hbA K18 hK18 v3 o174.2)
      · refine VO_const hC d_LW_1219 ?_
        exact VO_z0 d_LW_1220
    refine VO_ite (fun c32_37 => ?_) (fun c32_37 => ?_)
    · refine VO_tin (tgt := 1221) (off := (1189 : Int)) hC d_LW_32 (by rw [c32_37]; decide) (by rw [c32_37]; decide) (by first | (rw [c32_37]; done) | (rw [c32_37]; rfl)) (by decide) ?_
      refine VO_aload hC d_LW_1221 1 rfl ?_
      refine VO_aload hC d_LW_1222 0 rfl ?_
      refine VO_iload hC d_LW_1223 3 rfl ?_
      refine VO_const hC d_LW_1224 ?_
      refine VO_iadd hC d_LW_1225 ?_
      refine VO_sld hC hX hbl hbA d_LW_1226 (fun x175 => ?_)
      refine VO_callVI hC [.int x175] [] ml_LW_167 d_LW_1227 yv_AC_truth sh_AC rfl rfl (fun o h => M_AC_truth hC.inj h) (by decide) rfl rfl (Nat.le_of_ble_eq_true rfl) (fun o176 => ?_)
      refine VO_aload hC d_LW_1230 2 rfl ?_
      refine VO_aload hC d_LW_1231 0 rfl ?_
      refine VO_iload hC d_LW_1232 3 rfl ?_
      refine VO_const hC d_LW_1233 ?_
      refine VO_iadd hC d_LW_1234 ?_
      refine VO_sld hC hX hbl hbA d_LW_1235 (fun x177 => ?_)
      refine VO_callVI hC [.int x177] [.int o176.1] ml_LW_170 d_LW_1236 yv_MD_truth sh_MD rfl rfl (fun o h => M_MD_truth hC.inj h) (by decide) rfl rfl (Nat.le_of_ble_eq_true rfl) (fun o178 => ?_)
      refine VO_icmp_eq hC d_LW_1239 (fun _ => ?_) (fun _ => ?_)
      · exact (B_LW_1460 hC hX hbl hbA K18 hK18 v3 o178.2)
      · refine VO_const hC d_LW_1242 ?_
        exact VO_z0 d_LW_1243
    refine VO_ite (fun c32_38 => ?_) (fun c32_38 => ?_)
    · refine VO_tin (tgt := 1244) (off := (1212 : Int)) hC d_LW_32 (by rw [c32_38]; decide) (by rw [c32_38]; decide) (by first | (rw [c32_38]; done) | (rw [c32_38]; rfl)) (by decide) ?_
      refine VO_aload hC d_LW_1244 1 rfl ?_
      refine VO_callVI hC [] [] ml_LW_171 d_LW_1245 yv_AC_parole sh_AC rfl rfl (fun o h => M_AC_parole hC.inj h) (by decide) rfl rfl (Nat.le_of_ble_eq_true rfl) (fun o179 => ?_)
      refine VO_aload hC d_LW_1248 2 rfl ?_
      refine VO_callVI hC [] [.int o179.1] ml_LW_174 d_LW_1249 yv_MD_parole sh_MD rfl rfl (fun o h => M_MD_parole hC.inj h) (by decide) rfl rfl (Nat.le_of_ble_eq_true rfl) (fun o180 => ?_)
      refine VO_icmp_eq hC d_LW_1252 (fun _ => ?_) (fun _ => ?_)
      · exact (B_LW_1460 hC hX hbl hbA K18 hK18 v3 o180.2)
      · refine VO_const hC d_LW_1255 ?_
        exact VO_z0 d_LW_1256
    refine VO_ite (fun c32_39 => ?_) (fun c32_39 => ?_)
    · refine VO_tin (tgt := 1257) (off := (1225 : Int)) hC d_LW_32 (by rw [c32_39]; decide) (by rw [c32_39]; decide) (by first | (rw [c32_39]; done) | (rw [c32_39]; rfl)) (by decide) ?_
      refine VO_aload hC d_LW_1257 1 rfl ?_
      refine VO_callVI hC [] [] ml_LW_175 d_LW_1258 yv_AC_newBrothers sh_AC rfl rfl (fun o h => M_AC_newBrothers hC.inj h) (by decide) rfl rfl (Nat.le_of_ble_eq_true rfl) (fun o181 => ?_)
      refine VO_aload hC d_LW_1261 2 rfl ?_
      refine VO_callVI hC [] [.int o181.1] ml_LW_178 d_LW_1262 yv_MD_newBrothers sh_MD rfl rfl (fun o h => M_MD_newBrothers hC.inj h) (by decide) rfl rfl (Nat.le_of_ble_eq_true rfl) (fun o182 => ?_)
      refine VO_icmp_eq hC d_LW_1265 (fun _ => ?_) (fun _ => ?_)
      · exact (B_LW_1460 hC hX hbl hbA K18 hK18 v3 o182.2)
      · refine VO_const hC d_LW_1268 ?_
        exact VO_z0 d_LW_1269
    refine VO_ite (fun c32_40 => ?_) (fun c32_40 => ?_)
    · refine VO_tin (tgt := 1270) (off := (1238 : Int)) hC d_LW_32 (by rw [c32_40]; decide) (by rw [c32_40]; decide) (by first | (rw [c32_40]; done) | (rw [c32_40]; rfl)) (by decide) ?_
      refine VO_aload hC d_LW_1270 1 rfl ?_
      refine VO_callVI hC [] [] ml_LW_179 d_LW_1271 yv_AC_madeLight sh_AC rfl rfl (fun o h => M_AC_madeLight hC.inj h) (by decide) rfl rfl (Nat.le_of_ble_eq_true rfl) (fun o183 => ?_)
      refine VO_aload hC d_LW_1274 2 rfl ?_
      refine VO_callVI hC [] [.int o183.1] ml_LW_182 d_LW_1275 yv_MD_madeLight sh_MD rfl rfl (fun o h => M_MD_madeLight hC.inj h) (by decide) rfl rfl (Nat.le_of_ble_eq_true rfl) (fun o184 => ?_)
      refine VO_icmp_eq hC d_LW_1278 (fun _ => ?_) (fun _ => ?_)
      · exact (B_LW_1460 hC hX hbl hbA K18 hK18 v3 o184.2)
      · refine VO_const hC d_LW_1281 ?_
        exact VO_z0 d_LW_1282
    refine VO_ite (fun c32_41 => ?_) (fun c32_41 => ?_)
    · refine VO_tin (tgt := 1283) (off := (1251 : Int)) hC d_LW_32 (by rw [c32_41]; decide) (by rw [c32_41]; decide) (by first | (rw [c32_41]; done) | (rw [c32_41]; rfl)) (by decide) ?_
      refine VO_aload hC d_LW_1283 1 rfl ?_
      refine VO_callVI hC [] [] ml_LW_183 d_LW_1284 yv_AC_always sh_AC rfl rfl (fun o h => M_AC_always hC.inj h) (by decide) rfl rfl (Nat.le_of_ble_eq_true rfl) (fun o185 => ?_)
      refine VO_aload hC d_LW_1287 2 rfl ?_
      refine VO_callVI hC [] [.int o185.1] ml_LW_186 d_LW_1288 yv_MD_always sh_MD rfl rfl (fun o h => M_MD_always hC.inj h) (by decide) rfl rfl (Nat.le_of_ble_eq_true rfl) (fun o186 => ?_)
      refine VO_icmp_eq hC d_LW_1291 (fun _ => ?_) (fun _ => ?_)
      · exact (B_LW_1460 hC hX hbl hbA K18 hK18 v3 o186.2)
      · refine VO_const hC d_LW_1294 ?_
        exact VO_z0 d_LW_1295
    refine VO_ite (fun c32_42 => ?_) (fun c32_42 => ?_)
    · refine VO_tin (tgt := 1296) (off := (1264 : Int)) hC d_LW_32 (by rw [c32_42]; decide) (by rw [c32_42]; decide) (by first | (rw [c32_42]; done) | (rw [c32_42]; rfl)) (by decide) ?_
      refine VO_aload hC d_LW_1296 1 rfl ?_
      refine VO_aload hC d_LW_1297 0 rfl ?_
      refine VO_iload hC d_LW_1298 3 rfl ?_
      refine VO_const hC d_LW_1299 ?_
      refine VO_iadd hC d_LW_1300 ?_
      refine VO_sld hC hX hbl hbA d_LW_1301 (fun x187 => ?_)
      refine VO_callVI hC [.int x187] [] ml_LW_187 d_LW_1302 yv_AC_row sh_AC rfl rfl (fun o h => M_AC_row hC.inj h) (by decide) rfl rfl (Nat.le_of_ble_eq_true rfl) (fun o188 => ?_)
      refine VO_aload hC d_LW_1305 2 rfl ?_
      refine VO_aload hC d_LW_1306 0 rfl ?_
      refine VO_iload hC d_LW_1307 3 rfl ?_
      refine VO_const hC d_LW_1308 ?_
      refine VO_iadd hC d_LW_1309 ?_
      refine VO_sld hC hX hbl hbA d_LW_1310 (fun x189 => ?_)
      refine VO_callVI hC [.int x189] [.int o188.1] ml_LW_190 d_LW_1311 yv_MD_row sh_MD rfl rfl (fun o h => M_MD_row hC.inj h) (by decide) rfl rfl (Nat.le_of_ble_eq_true rfl) (fun o190 => ?_)
      refine VO_icmp_eq hC d_LW_1314 (fun _ => ?_) (fun _ => ?_)
      · exact (B_LW_1460 hC hX hbl hbA K18 hK18 v3 o190.2)
      · refine VO_const hC d_LW_1317 ?_
        exact VO_z0 d_LW_1318
    refine VO_ite (fun c32_43 => ?_) (fun c32_43 => ?_)
    · refine VO_tin (tgt := 1319) (off := (1287 : Int)) hC d_LW_32 (by rw [c32_43]; decide) (by rw [c32_43]; decide) (by first | (rw [c32_43]; done) | (rw [c32_43]; rfl)) (by decide) ?_
      refine VO_aload hC d_LW_1319 1 rfl ?_
      refine VO_callVI hC [] [] ml_LW_191 d_LW_1320 yv_AC_judge sh_AC rfl rfl (fun o h => M_AC_judge hC.inj h) (by decide) rfl rfl (Nat.le_of_ble_eq_true rfl) (fun o191 => ?_)
      refine VO_aload hC d_LW_1323 2 rfl ?_
      refine VO_callVI hC [] [.int o191.1] ml_LW_194 d_LW_1324 yv_MD_judge sh_MD rfl rfl (fun o h => M_MD_judge hC.inj h) (by decide) rfl rfl (Nat.le_of_ble_eq_true rfl) (fun o192 => ?_)
      refine VO_icmp_eq hC d_LW_1327 (fun _ => ?_) (fun _ => ?_)
      · exact (B_LW_1460 hC hX hbl hbA K18 hK18 v3 o192.2)
      · refine VO_const hC d_LW_1330 ?_
        exact VO_z0 d_LW_1331
    refine VO_ite (fun c32_44 => ?_) (fun c32_44 => ?_)
    · refine VO_tin (tgt := 1332) (off := (1300 : Int)) hC d_LW_32 (by rw [c32_44]; decide) (by rw [c32_44]; decide) (by first | (rw [c32_44]; done) | (rw [c32_44]; rfl)) (by decide) ?_
      refine VO_aload hC d_LW_1332 1 rfl ?_
      refine VO_aload hC d_LW_1333 0 rfl ?_
      refine VO_iload hC d_LW_1334 3 rfl ?_
      refine VO_const hC d_LW_1335 ?_
      refine VO_iadd hC d_LW_1336 ?_
      refine VO_sld hC hX hbl hbA d_LW_1337 (fun x193 => ?_)
      refine VO_callVI hC [.int x193] [] ml_LW_195 d_LW_1338 yv_AC_fits sh_AC rfl rfl (fun o h => M_AC_fits hC.inj h) (by decide) rfl rfl (Nat.le_of_ble_eq_true rfl) (fun o194 => ?_)
      refine VO_aload hC d_LW_1341 2 rfl ?_
      refine VO_aload hC d_LW_1342 0 rfl ?_
      refine VO_iload hC d_LW_1343 3 rfl ?_
      refine VO_const hC d_LW_1344 ?_
      refine VO_iadd hC d_LW_1345 ?_
      refine VO_sld hC hX hbl hbA d_LW_1346 (fun x195 => ?_)
      refine VO_callVI hC [.int x195] [.int o194.1] ml_LW_198 d_LW_1347 yv_MD_fits sh_MD rfl rfl (fun o h => M_MD_fits hC.inj h) (by decide) rfl rfl (Nat.le_of_ble_eq_true rfl) (fun o196 => ?_)
      refine VO_icmp_eq hC d_LW_1350 (fun _ => ?_) (fun _ => ?_)
      · exact (B_LW_1460 hC hX hbl hbA K18 hK18 v3 o196.2)
      · refine VO_const hC d_LW_1353 ?_
        exact VO_z0 d_LW_1354
    refine VO_ite (fun c32_45 => ?_) (fun c32_45 => ?_)
    · refine VO_tin (tgt := 1355) (off := (1323 : Int)) hC d_LW_32 (by rw [c32_45]; decide) (by rw [c32_45]; decide) (by first | (rw [c32_45]; done) | (rw [c32_45]; rfl)) (by decide) ?_
      refine VO_aload hC d_LW_1355 1 rfl ?_
      refine VO_callVI hC [] [] ml_LW_199 d_LW_1356 yv_AC_clear sh_AC rfl rfl (fun o h => M_AC_clear hC.inj h) (by decide) rfl rfl (Nat.le_of_ble_eq_true rfl) (fun o197 => ?_)
      refine VO_aload hC d_LW_1359 2 rfl ?_
      refine VO_callVI hC [] [.int o197.1] ml_LW_202 d_LW_1360 yv_MD_clear sh_MD rfl rfl (fun o h => M_MD_clear hC.inj h) (by decide) rfl rfl (Nat.le_of_ble_eq_true rfl) (fun o198 => ?_)
      refine VO_icmp_eq hC d_LW_1363 (fun _ => ?_) (fun _ => ?_)
      · exact (B_LW_1460 hC hX hbl hbA K18 hK18 v3 o198.2)
      · refine VO_const hC d_LW_1366 ?_
        exact VO_z0 d_LW_1367
    refine VO_ite (fun c32_46 => ?_) (fun c32_46 => ?_)
    · refine VO_tin (tgt := 1368) (off := (1336 : Int)) hC d_LW_32 (by rw [c32_46]; decide) (by rw [c32_46]; decide) (by first | (rw [c32_46]; done) | (rw [c32_46]; rfl)) (by decide) ?_
      refine VO_aload hC d_LW_1368 1 rfl ?_
      refine VO_aload hC d_LW_1369 0 rfl ?_
      refine VO_iload hC d_LW_1370 3 rfl ?_
      refine VO_const hC d_LW_1371 ?_
      refine VO_iadd hC d_LW_1372 ?_
      refine VO_sld hC hX hbl hbA d_LW_1373 (fun x199 => ?_)
      refine VO_aload hC d_LW_1374 0 rfl ?_
      refine VO_iload hC d_LW_1375 3 rfl ?_
      refine VO_const hC d_LW_1376 ?_
      refine VO_iadd hC d_LW_1377 ?_
      refine VO_sld hC hX hbl hbA d_LW_1378 (fun x200 => ?_)
      refine VO_aload hC d_LW_1379 0 rfl ?_
      refine VO_iload hC d_LW_1380 3 rfl ?_
      refine VO_const hC d_LW_1381 ?_
      refine VO_iadd hC d_LW_1382 ?_
      refine VO_sld hC hX hbl hbA d_LW_1383 (fun x201 => ?_)
      refine VO_callVI hC [.int x199, .int x200, .int x201] [] ml_LW_203 d_LW_1384 yv_AC_lots sh_AC rfl rfl (fun o h => M_AC_lots hC.inj h) (by decide) rfl rfl (Nat.le_of_ble_eq_true rfl) (fun o202 => ?_)
      refine VO_aload hC d_LW_1387 2 rfl ?_
      refine VO_aload hC d_LW_1388 0 rfl ?_
      refine VO_iload hC d_LW_1389 3 rfl ?_
      refine VO_const hC d_LW_1390 ?_
      refine VO_iadd hC d_LW_1391 ?_
      refine VO_sld hC hX hbl hbA d_LW_1392 (fun x203 => ?_)
      refine VO_aload hC d_LW_1393 0 rfl ?_
      refine VO_iload hC d_LW_1394 3 rfl ?_
      refine VO_const hC d_LW_1395 ?_
      refine VO_iadd hC d_LW_1396 ?_
      refine VO_sld hC hX hbl hbA d_LW_1397 (fun x204 => ?_)
      refine VO_aload hC d_LW_1398 0 rfl ?_
      refine VO_iload hC d_LW_1399 3 rfl ?_
      refine VO_const hC d_LW_1400 ?_
      refine VO_iadd hC d_LW_1401 ?_
      refine VO_sld hC hX hbl hbA d_LW_1402 (fun x205 => ?_)
      refine VO_callVI hC [.int x203, .int x204, .int x205] [.int o202.1] ml_LW_206 d_LW_1403 yv_MD_lots sh_MD rfl rfl (fun o h => M_MD_lots hC.inj h) (by decide) rfl rfl (Nat.le_of_ble_eq_true rfl) (fun o206 => ?_)
      refine VO_icmp_eq hC d_LW_1406 (fun _ => ?_) (fun _ => ?_)
      · exact (B_LW_1460 hC hX hbl hbA K18 hK18 v3 o206.2)
      · refine VO_const hC d_LW_1409 ?_
        exact VO_z0 d_LW_1410
    refine VO_ite (fun c32_47 => ?_) (fun c32_47 => ?_)
    · refine VO_tin (tgt := 1411) (off := (1379 : Int)) hC d_LW_32 (by rw [c32_47]; decide) (by rw [c32_47]; decide) (by first | (rw [c32_47]; done) | (rw [c32_47]; rfl)) (by decide) ?_
      refine VO_aload hC d_LW_1411 1 rfl ?_
      refine VO_callVI hC [] [] ml_LW_207 d_LW_1412 yv_AC_image sh_AC rfl rfl (fun o h => M_AC_image hC.inj h) (by decide) rfl rfl (Nat.le_of_ble_eq_true rfl) (fun o207 => ?_)
      refine VO_aload hC d_LW_1415 2 rfl ?_
      refine VO_callVI hC [] [.int o207.1] ml_LW_210 d_LW_1416 yv_MD_image sh_MD rfl rfl (fun o h => M_MD_image hC.inj h) (by decide) rfl rfl (Nat.le_of_ble_eq_true rfl) (fun o208 => ?_)
      refine VO_icmp_eq hC d_LW_1419 (fun _ => ?_) (fun _ => ?_)
      · exact (B_LW_1460 hC hX hbl hbA K18 hK18 v3 o208.2)
      · refine VO_const hC d_LW_1422 ?_
        exact VO_z0 d_LW_1423
    refine VO_ite (fun c32_48 => ?_) (fun c32_48 => ?_)
    · refine VO_tin (tgt := 1424) (off := (1392 : Int)) hC d_LW_32 (by rw [c32_48]; decide) (by rw [c32_48]; decide) (by first | (rw [c32_48]; done) | (rw [c32_48]; rfl)) (by decide) ?_
      refine VO_aload hC d_LW_1424 1 rfl ?_
      refine VO_callVI hC [] [] ml_LW_211 d_LW_1425 yv_AC_restore sh_AC rfl rfl (fun o h => M_AC_restore hC.inj h) (by decide) rfl rfl (Nat.le_of_ble_eq_true rfl) (fun o209 => ?_)
      refine VO_aload hC d_LW_1428 2 rfl ?_
      refine VO_callVI hC [] [.int o209.1] ml_LW_214 d_LW_1429 yv_MD_restore sh_MD rfl rfl (fun o h => M_MD_restore hC.inj h) (by decide) rfl rfl (Nat.le_of_ble_eq_true rfl) (fun o210 => ?_)
      refine VO_icmp_eq hC d_LW_1432 (fun _ => ?_) (fun _ => ?_)
      · exact (B_LW_1460 hC hX hbl hbA K18 hK18 v3 o210.2)
      · refine VO_const hC d_LW_1435 ?_
        exact VO_z0 d_LW_1436
    refine VO_ite (fun c32_49 => ?_) (fun c32_49 => ?_)
    · refine VO_tin (tgt := 1437) (off := (1405 : Int)) hC d_LW_32 (by rw [c32_49]; decide) (by rw [c32_49]; decide) (by first | (rw [c32_49]; done) | (rw [c32_49]; rfl)) (by decide) ?_
      refine VO_aload hC d_LW_1437 1 rfl ?_
      refine VO_aload hC d_LW_1438 0 rfl ?_
      refine VO_iload hC d_LW_1439 3 rfl ?_
      refine VO_const hC d_LW_1440 ?_
      refine VO_iadd hC d_LW_1441 ?_
      refine VO_sld hC hX hbl hbA d_LW_1442 (fun x211 => ?_)
      refine VO_callVI hC [.int x211] [] ml_LW_215 d_LW_1443 yv_AC_count sh_AC rfl rfl (fun o h => M_AC_count hC.inj h) (by decide) rfl rfl (Nat.le_of_ble_eq_true rfl) (fun o212 => ?_)
      refine VO_aload hC d_LW_1446 2 rfl ?_
      refine VO_aload hC d_LW_1447 0 rfl ?_
      refine VO_iload hC d_LW_1448 3 rfl ?_
      refine VO_const hC d_LW_1449 ?_
      refine VO_iadd hC d_LW_1450 ?_
      refine VO_sld hC hX hbl hbA d_LW_1451 (fun x213 => ?_)
      refine VO_callVI hC [.int x213] [.int o212.1] ml_LW_218 d_LW_1452 yv_MD_count sh_MD rfl rfl (fun o h => M_MD_count hC.inj h) (by decide) rfl rfl (Nat.le_of_ble_eq_true rfl) (fun o214 => ?_)
      refine VO_icmp_eq hC d_LW_1455 (fun _ => ?_) (fun _ => ?_)
      · exact (B_LW_1460 hC hX hbl hbA K18 hK18 v3 o214.2)
      · refine VO_const hC d_LW_1458 ?_
        exact VO_z0 d_LW_1459
    refine VO_tout (tgt := 1460) hC d_LW_32 (by have e0 := lv_neT (a := 0) c32_0 rfl; have e1 := lv_neT (a := 1) c32_1 rfl; have e2 := lv_neT (a := 2) c32_2 rfl; have e3 := lv_neT (a := 3) c32_3 rfl; have e4 := lv_neT (a := 4) c32_4 rfl; have e5 := lv_neT (a := 5) c32_5 rfl; have e6 := lv_neT (a := 6) c32_6 rfl; have e7 := lv_neT (a := 7) c32_7 rfl; have e8 := lv_neT (a := 8) c32_8 rfl; have e9 := lv_neT (a := 9) c32_9 rfl; have e10 := lv_neT (a := 10) c32_10 rfl; have e11 := lv_neT (a := 11) c32_11 rfl; have e12 := lv_neT (a := 12) c32_12 rfl; have e13 := lv_neT (a := 13) c32_13 rfl; have e14 := lv_neT (a := 14) c32_14 rfl; have e15 := lv_neT (a := 15) c32_15 rfl; have e16 := lv_neT (a := 16) c32_16 rfl; have e17 := lv_neT (a := 17) c32_17 rfl; have e18 := lv_neT (a := 18) c32_18 rfl; have e19 := lv_neT (a := 19) c32_19 rfl; have e20 := lv_neT (a := 20) c32_20 rfl; have e21 := lv_neT (a := 21) c32_21 rfl; have e22 := lv_neT (a := 22) c32_22 rfl; have e23 := lv_neT (a := 23) c32_23 rfl; have e24 := lv_neT (a := 24) c32_24 rfl; have e25 := lv_neT (a := 25) c32_25 rfl; have e26 := lv_neT (a := 26) c32_26 rfl; have e27 := lv_neT (a := 27) c32_27 rfl; have e28 := lv_neT (a := 28) c32_28 rfl; have e29 := lv_neT (a := 29) c32_29 rfl; have e30 := lv_neT (a := 30) c32_30 rfl; have e31 := lv_neT (a := 31) c32_31 rfl; have e32 := lv_neT (a := 32) c32_32 rfl; have e33 := lv_neT (a := 33) c32_33 rfl; have e34 := lv_neT (a := 34) c32_34 rfl; have e35 := lv_neT (a := 35) c32_35 rfl; have e36 := lv_neT (a := 36) c32_36 rfl; have e37 := lv_neT (a := 37) c32_37 rfl; have e38 := lv_neT (a := 38) c32_38 rfl; have e39 := lv_neT (a := 39) c32_39 rfl; have e40 := lv_neT (a := 40) c32_40 rfl; have e41 := lv_neT (a := 41) c32_41 rfl; have e42 := lv_neT (a := 42) c32_42 rfl; have e43 := lv_neT (a := 43) c32_43 rfl; have e44 := lv_neT (a := 44) c32_44 rfl; have e45 := lv_neT (a := 45) c32_45 rfl; have e46 := lv_neT (a := 46) c32_46 rfl; have e47 := lv_neT (a := 47) c32_47 rfl; have e48 := lv_neT (a := 48) c32_48 rfl; have e49 := lv_neT (a := 49) c32_49 rfl; omega) (by decide) ?_
    exact (B_LW_1460 hC hX hbl hbA K18 hK18 v3 s)
set_option maxRecDepth 20000 in
theorem B_LW_18 {G : MCx} (hC : C0 G "AccusedChooseLaw" code 4 27) {L : Nat} {xs : Nat → Int32} {b : Nat} (hX : va_X b L xs (gs G) (gs G).heap) (hbl : b < (gs G).heap.size) (hbA : ¬ gA G b) (v3 : Int32) (s : St) : VO G (RZ G code) (F_LW_18 L xs v3 s) 18 [(0, .ref b), (1, .ref (gad G 0)), (2, .ref (gad G 58)), (3, .int v3)] [] s := by
  exact VO_fix (G_LW_18 L xs) 18 (fun q => [(0, .ref b), (1, .ref (gad G 0)), (2, .ref (gad G 58)), (3, .int q.1)]) (fun q => q.2) (fun K hK q => BH_LW_18 hC hX hbl hbA K (fun w3 s => hK (w3, s)) q.1 q.2) FUEL (v3, s)
set_option maxRecDepth 20000 in
theorem B_LW {G : MCx} (hC : C0 G "AccusedChooseLaw" code 4 27) {L : Nat} {xs : Nat → Int32} {b : Nat} (hX : va_X b L xs (gs G) (gs G).heap) (hbl : b < (gs G).heap.size) (hbA : ¬ gA G b) (s : St) : VO G (RZ G code) (F_LW L xs s) 16 [(0, .ref b), (1, .ref (gad G 0)), (2, .ref (gad G 58))] [] s := by
  unfold F_LW
  refine VO_const hC d_LW_16 ?_
  refine VO_istore hC d_LW_17 [(0, .ref b), (1, .ref (gad G 0)), (2, .ref (gad G 58))] rfl (by decide) ?_
  exact VO_sub [1, 2, 3, 0] rfl (B_LW_18 hC hX hbl hbA (0 : Int32) s)
