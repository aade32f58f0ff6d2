-- THE LAYER: the world as a function of one memory; judgements over it; one rule an instruction
abbrev St : Type := (Nat → Nat → Int32) × (Nat → Int64)
def rd (σ : St) (a j : Nat) : Int32 := σ.1 a j
def wr (σ : St) (a j : Nat) (x : Int32) : St := (fun b k => if b = a ∧ k = j then x else σ.1 b k, σ.2)
def rdL (σ : St) (j : Nat) : Int64 := σ.2 j
def wrL (σ : St) (j : Nat) (x : Int64) : St := (σ.1, fun k => if k = j then x else σ.2 k)
def inb (j : Int32) (n : Nat) : Prop := ¬ (j < 0 ∨ n ≤ j.toNatClampNeg)
theorem inb_dec (j : Int32) (n : Nat) : inb j n ↔ (0 ≤ j.toInt ∧ j.toInt < n) := vp_in_iff
def inB (j : Int32) (n : Nat) : Bool := decide (0 ≤ j.toInt) && decide (j.toInt < (n : Int))
theorem inB_in {j : Int32} {n : Nat} (h : inB j n = true) : vp_in j n := by
  simp only [inB, Bool.and_eq_true, decide_eq_true_eq] at h
  exact vp_in_iff.mpr h
def ldA (σ : St) (a : Nat) (j : Int32) : Option Int32 := if inB j (alen a) = true then some (rd σ a j.toNatClampNeg) else none
def stA (σ : St) (a : Nat) (j x : Int32) : Option St := if inB j (alen a) = true then some (wr σ a j.toNatClampNeg x) else none
def ldL (σ : St) (a : Nat) (j : Int32) : Option Int64 := if inB j (alen a) = true then some (rdL σ j.toNatClampNeg) else none
def stL (σ : St) (a : Nat) (j : Int32) (x : Int64) : Option St := if inB j (alen a) = true then some (wrL σ j.toNatClampNeg x) else none
def wrZ (σ : St) (a j : Nat) (x : Int32) : Option St := if x = 0 ∨ x = 1 then some (wr σ a j x) else none
def retZ (x : Int32) (σ : St) : Option (Int32 × St) := if x = 0 ∨ x = 1 then some (x, σ) else none
def fixF {S O : Type} (f : (S → Option O) → S → Option O) : Nat → S → Option O
  | 0 => fun _ => none
  | n + 1 => f (fixF f n)
def FUEL : Nat := 4096
-- the world
def cellE (ad : Nat → Nat) (cI cL : ClassId) (σ : St) (i : Nat) : ShE → va_E
  | .inl (ci, fs) => .inr (ci, fs.mapIdx fun k f => match f with | some j => .ref (ad j) | none => .int (σ.1 i k))
  | .inr (false, n) => .inl (cI, (n, .inl (σ.1 i)))
  | .inr (true, n) => .inl (cL, (n, .inr (.inl σ.2)))
def wld (ad : Nat → Nat) (cI cL : ClassId) (σ : St) : va_W := shp.mapIdx fun i e => (ad i, cellE ad cI cL σ i e)
theorem wld_at {ad : Nat → Nat} {cI cL : ClassId} {σ : St} {i : Nat} {e : ShE} (h : shp[i]? = some e) : (wld ad cI cL σ)[i]? = some (ad i, cellE ad cI cL σ i e) := by
  simp only [wld, List.getElem?_mapIdx, h, Option.map_some]
theorem wld_lt {ad : Nat → Nat} {cI cL : ClassId} {σ : St} {k : Nat} {q : Nat × va_E} (h : (wld ad cI cL σ)[k]? = some q) : k < NC ∧ q.1 = ad k := by
  simp only [wld, List.getElem?_mapIdx] at h
  cases hs : shp[k]? with
  | none => rw [hs] at h; cases h
  | some e =>
    rw [hs] at h
    refine ⟨by rw [← shp_len]; exact (List.getElem?_eq_some_iff.mp hs).1, ?_⟩
    cases h
    rfl
theorem wld_set {ad : Nat → Nat} {cI cL : ClassId} {σ σ' : St} {i : Nat} {e : ShE} (h : shp[i]? = some e) (h1 : ∀ b, b ≠ i → σ'.1 b = σ.1 b) (h2 : σ'.2 = σ.2) : (wld ad cI cL σ).set i (ad i, cellE ad cI cL σ' i e) = wld ad cI cL σ' := by
  apply List.ext_getElem?
  intro m
  by_cases hm : m = i
  · subst hm
    have hl : m < (wld ad cI cL σ).length := by rw [wld, List.length_mapIdx]; exact (List.getElem?_eq_some_iff.mp h).1
    rw [List.getElem?_set_self hl, wld_at h]
  · rw [List.getElem?_set_ne (Ne.symm hm)]
    simp only [wld, List.getElem?_mapIdx]
    cases hs : shp[m]? with
    | none => rfl
    | some e' =>
      simp only [Option.map_some]
      congr 2
      rcases e' with ⟨ci, fs⟩ | ⟨b, n⟩
      · simp only [cellE, h1 m hm]
      · cases b
        · simp only [cellE, h1 m hm]
        · simp only [cellE, h2]
theorem wld_setL {ad : Nat → Nat} {cI cL : ClassId} {σ σ' : St} {i n : Nat} (h : shp[i]? = some (.inr (true, n))) (hu : ∀ (k m : Nat), shp[k]? = some (.inr (true, m)) → k = i) (h1 : σ'.1 = σ.1) : (wld ad cI cL σ).set i (ad i, cellE ad cI cL σ' i (.inr (true, n))) = wld ad cI cL σ' := by
  apply List.ext_getElem?
  intro m
  by_cases hm : m = i
  · subst hm
    have hl : m < (wld ad cI cL σ).length := by rw [wld, List.length_mapIdx]; exact (List.getElem?_eq_some_iff.mp h).1
    rw [List.getElem?_set_self hl, wld_at h]
  · rw [List.getElem?_set_ne (Ne.symm hm)]
    simp only [wld, List.getElem?_mapIdx]
    cases hs : shp[m]? with
    | none => rfl
    | some e' =>
      simp only [Option.map_some]
      congr 2
      rcases e' with ⟨ci, fs⟩ | ⟨b, n'⟩
      · simp only [cellE, h1]
      · cases b
        · simp only [cellE, h1]
        · exact absurd (hu m n' hs) hm
def AD (ad : Nat → Nat) : Nat → Prop := fun q => ∃ i, i < NC ∧ q = ad i
theorem wld_D {ad : Nat → Nat} {cI cL : ClassId} {σ : St} {A : Nat → Prop} (hinj : ∀ i j, i < NC → j < NC → ad i = ad j → i = j) (hA : ∀ q, AD ad q → A q) : va_D A (wld ad cI cL σ) :=
  ⟨fun i j p q hi hj hpq => hinj i j (wld_lt hi).1 (wld_lt hj).1 (by rw [← (wld_lt hi).2, ← (wld_lt hj).2]; exact hpq), fun k q hk => hA _ ⟨k, (wld_lt hk).1, (wld_lt hk).2⟩⟩
-- the context: machine, tables, addresses
abbrev MCx : Type := Program × Launch × Env × Room × State × MethodId × Array Value × List Frame × Method × Code × (State → Prop) × va_G × (Nat → Nat) × ClassId × ClassId × (Nat → Prop) × Nat × Nat × Nat
abbrev gp (G : MCx) : Program := G.1
abbrev gl (G : MCx) : Launch := G.2.1
abbrev ge (G : MCx) : Env := G.2.2.1
abbrev gR (G : MCx) : Room := G.2.2.2.1
abbrev gs (G : MCx) : State := G.2.2.2.2.1
abbrev gm (G : MCx) : MethodId := G.2.2.2.2.2.1
abbrev ga (G : MCx) : Array Value := G.2.2.2.2.2.2.1
abbrev gb (G : MCx) : List Frame := G.2.2.2.2.2.2.2.1
abbrev gme (G : MCx) : Method := G.2.2.2.2.2.2.2.2.1
abbrev gco (G : MCx) : Code := G.2.2.2.2.2.2.2.2.2.1
abbrev gQ (G : MCx) : State → Prop := G.2.2.2.2.2.2.2.2.2.2.1
abbrev gD (G : MCx) : va_G := G.2.2.2.2.2.2.2.2.2.2.2.1
abbrev gad (G : MCx) : Nat → Nat := G.2.2.2.2.2.2.2.2.2.2.2.2.1
abbrev gI (G : MCx) : ClassId := G.2.2.2.2.2.2.2.2.2.2.2.2.2.1
abbrev gL (G : MCx) : ClassId := G.2.2.2.2.2.2.2.2.2.2.2.2.2.2.1
abbrev gA (G : MCx) : Nat → Prop := G.2.2.2.2.2.2.2.2.2.2.2.2.2.2.2.1
abbrev gn (G : MCx) : Nat := G.2.2.2.2.2.2.2.2.2.2.2.2.2.2.2.2.1
abbrev gc (G : MCx) : Nat := G.2.2.2.2.2.2.2.2.2.2.2.2.2.2.2.2.2.1
abbrev gsl (G : MCx) : Nat := G.2.2.2.2.2.2.2.2.2.2.2.2.2.2.2.2.2.2
def gW (G : MCx) (H : Heap) (locs : List Loc) (g : JFrame) : Prop := W (gp G) (gl G) (ge G) (gR G) (gs G) (gm G) (ga G) (gb G) (gme G) (gco G) H locs (gc G) (gsl G) (gQ G) g
def NestOK (U : State) : Prop := ∀ q ∈ nestQ, va_Nw (.methodLinkNest q.1 q.2.1 q.2.2.1 q.2.2.2) U
def C0 (G : MCx) (own : String) (cc : ByteArray) (nL d : Nat) : Prop :=
  (gp G).tables.exec = Jvm.exec ∧ (gco G).code = cc ∧ (gco G).maxLocals = nL ∧ gn G = nL ∧ (gs G).vm.findClass own = some (gm G).cls ∧ (∀ w ∈ tb, w.before (ga G) (gs G) = true) ∧
  va_K (gD G) classes [(gI G, .int), (gL G, .long)] (gs G) ∧ NestOK (gs G) ∧ (∀ i j, i < NC → j < NC → gad G i = gad G j → i = j) ∧ (∀ q, AD (gad G) q → gA G q) ∧ (d ≤ (gR G).frames ∧ 40 * d ≤ (gR G).locals ∧ gc G ≤ (gR G).cells ∧ gsl G ≤ (gR G).slots)
def V (G : MCx) (pc : Nat) (lv : List (Nat × Value)) (st : List Value) (σ : St) : Prop :=
  ∀ (H : Heap) (locs : List Loc) (ls : Array Slot), va_P (gD G) classes (wld (gad G) (gI G) (gL G) σ) H → va_S (gA G) (gs G).heap H locs → lv_has ls (gn G) lv → gW G H locs (F0 (gm G) pc ls st)
-- what decoding says of a place
def DR (cc : ByteArray) (pc : Nat) (i : Instr) (n pn : Nat) : Prop := decode cc pc = .ok (i, n) ∧ pc + n = pn
def DJ (cc : ByteArray) (pc : Nat) (mk : Int → Instr) (pn tgt : Nat) : Prop := ∃ off : Int, decode cc pc = .ok (mk off, 3) ∧ pc + 3 = pn ∧ (pc : Int) + off = (tgt : Int)
def PCi (cc : ByteArray) (pc : Nat) (v : Int32) (pn : Nat) : Prop := (∃ n, decode cc pc = .ok (.iconst n, 1) ∧ Int32.ofInt n = v ∧ pc + 1 = pn) ∨ (∃ n, decode cc pc = .ok (.bipush n, 2) ∧ (Int8.ofInt n).toInt32 = v ∧ pc + 2 = pn) ∨ (∃ n, decode cc pc = .ok (.sipush n, 3) ∧ (Int16.ofInt n).toInt32 = v ∧ pc + 3 = pn)
def PLi (cc : ByteArray) (pc i pn : Nat) : Prop := (∃ k : Fin 4, decode cc pc = .ok (.iload_n k, 1) ∧ (k : Nat) = i ∧ pc + 1 = pn) ∨ (decode cc pc = .ok (.iload i, 2) ∧ pc + 2 = pn)
def PLl (cc : ByteArray) (pc i pn : Nat) : Prop := (∃ k : Fin 4, decode cc pc = .ok (.lload_n k, 1) ∧ (k : Nat) = i ∧ pc + 1 = pn) ∨ (decode cc pc = .ok (.lload i, 2) ∧ pc + 2 = pn)
def PLa (cc : ByteArray) (pc i pn : Nat) : Prop := (∃ k : Fin 4, decode cc pc = .ok (.aload_n k, 1) ∧ (k : Nat) = i ∧ pc + 1 = pn) ∨ (decode cc pc = .ok (.aload i, 2) ∧ pc + 2 = pn)
def PSi (cc : ByteArray) (pc i pn : Nat) : Prop := (∃ k : Fin 4, decode cc pc = .ok (.istore_n k, 1) ∧ (k : Nat) = i ∧ pc + 1 = pn) ∨ (decode cc pc = .ok (.istore i, 2) ∧ pc + 2 = pn)
def PSl (cc : ByteArray) (pc i pn : Nat) : Prop := (∃ k : Fin 4, decode cc pc = .ok (.lstore_n k, 1) ∧ (k : Nat) = i ∧ pc + 1 = pn) ∨ (decode cc pc = .ok (.lstore i, 2) ∧ pc + 2 = pn)
def flt1 (i : Nat) (lv : List (Nat × Value)) : List (Nat × Value) := lv.filter (fun q => !(q.1 == i) && !(q.1 + 1 == i && q.2.category == 2))
def flt2 (i : Nat) (lv : List (Nat × Value)) : List (Nat × Value) := lv.filter (fun q => !(q.1 == i) && (!(q.1 == i + 1) && !(q.1 + 1 == i && q.2.category == 2)))
/-- the machine at this place comes to the outcomes that X tells -/
def VO (G : MCx) {O : Type} (Z : O → Prop) (X : Option O) (pc : Nat) (lv : List (Nat × Value)) (st : List Value) (σ : St) : Prop := ∀ o, X = some o → Z o → V G pc lv st σ
section RULES
variable {G : MCx} {O : Type} {Z : O → Prop} {X X1 X2 : Option O} {own : String} {cc : ByteArray} {nL d pc pn tgt : Nat} {lv : List (Nat × Value)} {st : List Value} {σ : St}
theorem VO_sub (ks : List Nat) {lv' : List (Nat × Value)} (hl : lv_pick lv ks = lv') (k : VO G Z X pc lv' st σ) : VO G Z X pc lv st σ := fun o ho hz H locs ls hP hS h => k o ho hz H locs ls hP hS (lv_sub h ks hl)
theorem VO_none : VO G Z none pc lv st σ := fun o ho => by cases ho
theorem VO_const (hC : C0 G own cc nL d) {v : Int32} (hd : PCi cc pc v pn) (k : VO G Z X pn lv (.int v :: st) σ) : VO G Z X pc lv st σ := by
  intro o ho hz H locs ls hP hS h
  rcases hd with ⟨n, h1, h2, rfl⟩ | ⟨n, h1, h2, rfl⟩ | ⟨n, h1, h2, rfl⟩
  · exact lv_iconst hC.1 hC.2.1 h1 h2 (k o ho hz H locs ls hP hS h)
  · exact lv_bipush hC.1 hC.2.1 h1 h2 (k o ho hz H locs ls hP hS h)
  · exact lv_sipush hC.1 hC.2.1 h1 h2 (k o ho hz H locs ls hP hS h)
theorem VO_lconst (hC : C0 G own cc nL d) {n : Fin 2} {v : Int64} (hd : DR cc pc (.lconst n) 1 pn) (hv : Int64.ofNat (n : Nat) = v) (k : VO G Z X pn lv (.long v :: st) σ) : VO G Z X pc lv st σ := by
  intro o ho hz H locs ls hP hS h
  obtain ⟨h1, rfl⟩ := hd
  exact lv_lconst hC.1 hC.2.1 h1 hv (k o ho hz H locs ls hP hS h)
theorem VO_ldc (hC : C0 G own cc nL d) {idx : Nat} {v : Int32} (hw : Cond.constant own idx v ∈ tb) (hd : DR cc pc (.ldc idx) 2 pn) (k : VO G Z X pn lv (.int v :: st) σ) : VO G Z X pc lv st σ := by
  intro o ho hz H locs ls hP hS h
  obtain ⟨h1, rfl⟩ := hd
  exact lv_ldc hC.1 hC.2.1 hC.2.2.2.2.1 (hC.2.2.2.2.2.1 _ hw) h1 (k o ho hz H locs ls hP hS h)
theorem VO_ldcw (hC : C0 G own cc nL d) {idx : Nat} {v : Int32} (hw : Cond.constant own idx v ∈ tb) (hd : DR cc pc (.ldc_w idx) 3 pn) (k : VO G Z X pn lv (.int v :: st) σ) : VO G Z X pc lv st σ := by
  intro o ho hz H locs ls hP hS h
  obtain ⟨h1, rfl⟩ := hd
  exact lv_ldcw hC.1 hC.2.1 hC.2.2.2.2.1 (hC.2.2.2.2.2.1 _ hw) h1 (k o ho hz H locs ls hP hS h)
theorem VO_ldc2 (hC : C0 G own cc nL d) {idx : Nat} {v : Int64} (hw : Cond.constantLong own idx v ∈ tb) (hd : DR cc pc (.ldc2_w idx) 3 pn) (k : VO G Z X pn lv (.long v :: st) σ) : VO G Z X pc lv st σ := by
  intro o ho hz H locs ls hP hS h
  obtain ⟨h1, rfl⟩ := hd
  exact lv_ldc2 hC.1 hC.2.1 hC.2.2.2.2.1 (hC.2.2.2.2.2.1 _ hw) h1 (k o ho hz H locs ls hP hS h)
theorem VO_iload (hC : C0 G own cc nL d) {i : Nat} {x : Int32} (hd : PLi cc pc i pn) (j : Nat) (hl : lv[j]? = some (i, .int x)) (k : VO G Z X pn lv (.int x :: st) σ) : VO G Z X pc lv st σ := by
  intro o ho hz H locs ls hP hS h
  rcases hd with ⟨n, h1, h2, rfl⟩ | ⟨h1, rfl⟩
  · exact lv_iload_n hC.1 hC.2.1 h1 h2 (lv_at h j hl) (k o ho hz H locs ls hP hS h)
  · exact lv_iload hC.1 hC.2.1 h1 (lv_at h j hl) (k o ho hz H locs ls hP hS h)
theorem VO_lload (hC : C0 G own cc nL d) {i : Nat} {x : Int64} (hd : PLl cc pc i pn) (j : Nat) (hl : lv[j]? = some (i, .long x)) (k : VO G Z X pn lv (.long x :: st) σ) : VO G Z X pc lv st σ := by
  intro o ho hz H locs ls hP hS h
  rcases hd with ⟨n, h1, h2, rfl⟩ | ⟨h1, rfl⟩
  · exact lv_lload_n hC.1 hC.2.1 h1 h2 (lv_at h j hl) (k o ho hz H locs ls hP hS h)
  · exact lv_lload hC.1 hC.2.1 h1 (lv_at h j hl) (k o ho hz H locs ls hP hS h)
theorem VO_aload (hC : C0 G own cc nL d) {i x : Nat} (hd : PLa cc pc i pn) (j : Nat) (hl : lv[j]? = some (i, .ref x)) (k : VO G Z X pn lv (.ref x :: st) σ) : VO G Z X pc lv st σ := by
  intro o ho hz H locs ls hP hS h
  rcases hd with ⟨n, h1, h2, rfl⟩ | ⟨h1, rfl⟩
  · exact lv_aload_n hC.1 hC.2.1 h1 h2 (lv_at h j hl) (k o ho hz H locs ls hP hS h)
  · exact lv_aload hC.1 hC.2.1 h1 (lv_at h j hl) (k o ho hz H locs ls hP hS h)
theorem C0.nl (hC : C0 G own cc nL d) {i : Nat} (h : i < nL) : i < gn G := by rw [hC.2.2.2.1]; exact h
theorem VO_istore (hC : C0 G own cc nL d) {i : Nat} {x : Int32} (hd : PSi cc pc i pn) (lv' : List (Nat × Value)) (hl : flt1 i lv = lv') (hi : i < nL) (k : VO G Z X pn ((i, .int x) :: lv') st σ) : VO G Z X pc lv (.int x :: st) σ := by
  intro o ho hz H locs ls hP hS h
  subst hl
  rcases hd with ⟨n, h1, h2, rfl⟩ | ⟨h1, rfl⟩
  · exact lv_istore_n hC.1 hC.2.1 h1 h2 h (hC.nl hi) rfl (fun ls' h' => k o ho hz H locs ls' hP hS h')
  · exact lv_istore hC.1 hC.2.1 h1 h (hC.nl hi) rfl (fun ls' h' => k o ho hz H locs ls' hP hS h')
theorem VO_istoreB (hC : C0 G own cc nL d) {i : Nat} {x : Int32} {K : Int32 → Option O} (hd : PSi cc pc i pn) (lv' : List (Nat × Value)) (hl : flt1 i lv = lv') (hi : i < nL) (k : ∀ v, VO G Z (K v) pn ((i, .int v) :: lv') st σ) : VO G Z ((some x).bind K) pc lv (.int x :: st) σ := VO_istore hC hd lv' hl hi (k x)
theorem VO_lstore (hC : C0 G own cc nL d) {i : Nat} {x : Int64} (hd : PSl cc pc i pn) (lv' : List (Nat × Value)) (hl : flt2 i lv = lv') (hi : i + 1 < nL) (k : VO G Z X pn ((i, .long x) :: lv') st σ) : VO G Z X pc lv (.long x :: st) σ := by
  intro o ho hz H locs ls hP hS h
  subst hl
  rcases hd with ⟨n, h1, h2, rfl⟩ | ⟨h1, rfl⟩
  · exact lv_lstore_n hC.1 hC.2.1 h1 h2 h (hC.nl hi) rfl (fun ls' h' => k o ho hz H locs ls' hP hS h')
  · exact lv_lstore hC.1 hC.2.1 h1 h (hC.nl hi) rfl (fun ls' h' => k o ho hz H locs ls' hP hS h')
theorem VO_lstoreB (hC : C0 G own cc nL d) {i : Nat} {x : Int64} {K : Int64 → Option O} (hd : PSl cc pc i pn) (lv' : List (Nat × Value)) (hl : flt2 i lv = lv') (hi : i + 1 < nL) (k : ∀ v, VO G Z (K v) pn ((i, .long v) :: lv') st σ) : VO G Z ((some x).bind K) pc lv (.long x :: st) σ := VO_lstore hC hd lv' hl hi (k x)
theorem VO_iinc (hC : C0 G own cc nL d) {i : Nat} {n : Int} {x w : Int32} (hd : DR cc pc (.iinc i n) 3 pn) (j : Nat) (hj : lv[j]? = some (i, .int x)) (hw : Int32.ofInt n = w) (lv' : List (Nat × Value)) (hl : flt1 i lv = lv') (hi : i < nL) (k : VO G Z X pn ((i, .int (x + w)) :: lv') st σ) : VO G Z X pc lv st σ := by
  intro o ho hz H locs ls hP hS h
  subst hl
  obtain ⟨h1, rfl⟩ := hd
  exact lv_iinc hC.1 hC.2.1 h1 h hj (by rw [hw]) (hC.nl hi) rfl (fun ls' h' => k o ho hz H locs ls' hP hS h')
theorem VO_iincN (hC : C0 G own cc nL d) {i : Nat} {n : Int} {x w : Int32} (hd : DR cc pc (.iinc i n) 3 pn) (j : Nat) (hj : lv[j]? = some (i, .int x)) (hw : Int32.ofInt n = -w) (lv' : List (Nat × Value)) (hl : flt1 i lv = lv') (hi : i < nL) (k : VO G Z X pn ((i, .int (x - w)) :: lv') st σ) : VO G Z X pc lv st σ :=
  VO_iinc hC hd j hj rfl lv' hl hi (by rw [hw, ← Int32.sub_eq_add_neg]; exact k)
theorem VO_topi {x : Int32} {K : Int32 → Option O} (k : ∀ v, VO G Z (K v) pc lv (.int v :: st) σ) : VO G Z ((some x).bind K) pc lv (.int x :: st) σ := k x
theorem VO_ite {c : Prop} [Decidable c] (kt : c → VO G Z X1 pc lv st σ) (kf : ¬ c → VO G Z X2 pc lv st σ) : VO G Z (if c then X1 else X2) pc lv st σ := by
  by_cases h : c
  · rw [if_pos h]; exact kt h
  · rw [if_neg h]; exact kf h
theorem VO_iadd (hC : C0 G own cc nL d) {x y : Int32} (hd : DR cc pc .iadd 1 pn) (k : VO G Z X pn lv (.int (x + y) :: st) σ) : VO G Z X pc lv (.int y :: .int x :: st) σ := by
  intro o ho hz H locs ls hP hS h
  obtain ⟨h1, rfl⟩ := hd
  exact lv_iadd hC.1 hC.2.1 h1 (k o ho hz H locs ls hP hS h)
theorem VO_isub (hC : C0 G own cc nL d) {x y : Int32} (hd : DR cc pc .isub 1 pn) (k : VO G Z X pn lv (.int (x - y) :: st) σ) : VO G Z X pc lv (.int y :: .int x :: st) σ := by
  intro o ho hz H locs ls hP hS h
  obtain ⟨h1, rfl⟩ := hd
  exact lv_isub hC.1 hC.2.1 h1 (k o ho hz H locs ls hP hS h)
theorem VO_imul (hC : C0 G own cc nL d) {x y : Int32} (hd : DR cc pc .imul 1 pn) (k : VO G Z X pn lv (.int (x * y) :: st) σ) : VO G Z X pc lv (.int y :: .int x :: st) σ := by
  intro o ho hz H locs ls hP hS h
  obtain ⟨h1, rfl⟩ := hd
  exact lv_imul hC.1 hC.2.1 h1 (k o ho hz H locs ls hP hS h)
theorem VO_iand (hC : C0 G own cc nL d) {x y : Int32} (hd : DR cc pc .iand 1 pn) (k : VO G Z X pn lv (.int (x &&& y) :: st) σ) : VO G Z X pc lv (.int y :: .int x :: st) σ := by
  intro o ho hz H locs ls hP hS h
  obtain ⟨h1, rfl⟩ := hd
  exact lv_iand hC.1 hC.2.1 h1 (k o ho hz H locs ls hP hS h)
theorem VO_ior (hC : C0 G own cc nL d) {x y : Int32} (hd : DR cc pc .ior 1 pn) (k : VO G Z X pn lv (.int (x ||| y) :: st) σ) : VO G Z X pc lv (.int y :: .int x :: st) σ := by
  intro o ho hz H locs ls hP hS h
  obtain ⟨h1, rfl⟩ := hd
  exact lv_ior hC.1 hC.2.1 h1 (k o ho hz H locs ls hP hS h)
theorem VO_ixor (hC : C0 G own cc nL d) {x y : Int32} (hd : DR cc pc .ixor 1 pn) (k : VO G Z X pn lv (.int (x ^^^ y) :: st) σ) : VO G Z X pc lv (.int y :: .int x :: st) σ := by
  intro o ho hz H locs ls hP hS h
  obtain ⟨h1, rfl⟩ := hd
  exact lv_ixor hC.1 hC.2.1 h1 (k o ho hz H locs ls hP hS h)
theorem VO_ishl (hC : C0 G own cc nL d) {x y : Int32} (hd : DR cc pc .ishl 1 pn) (k : VO G Z X pn lv (.int (x <<< (y &&& 31)) :: st) σ) : VO G Z X pc lv (.int y :: .int x :: st) σ := by
  intro o ho hz H locs ls hP hS h
  obtain ⟨h1, rfl⟩ := hd
  exact lv_ishl hC.1 hC.2.1 h1 (k o ho hz H locs ls hP hS h)
theorem VO_ishr (hC : C0 G own cc nL d) {x y : Int32} (hd : DR cc pc .ishr 1 pn) (k : VO G Z X pn lv (.int (x >>> (y &&& 31)) :: st) σ) : VO G Z X pc lv (.int y :: .int x :: st) σ := by
  intro o ho hz H locs ls hP hS h
  obtain ⟨h1, rfl⟩ := hd
  exact lv_ishr hC.1 hC.2.1 h1 (k o ho hz H locs ls hP hS h)
theorem VO_ladd (hC : C0 G own cc nL d) {x y : Int64} (hd : DR cc pc .ladd 1 pn) (k : VO G Z X pn lv (.long (x + y) :: st) σ) : VO G Z X pc lv (.long y :: .long x :: st) σ := by
  intro o ho hz H locs ls hP hS h
  obtain ⟨h1, rfl⟩ := hd
  exact lv_ladd hC.1 hC.2.1 h1 (k o ho hz H locs ls hP hS h)
theorem VO_lsub (hC : C0 G own cc nL d) {x y : Int64} (hd : DR cc pc .lsub 1 pn) (k : VO G Z X pn lv (.long (x - y) :: st) σ) : VO G Z X pc lv (.long y :: .long x :: st) σ := by
  intro o ho hz H locs ls hP hS h
  obtain ⟨h1, rfl⟩ := hd
  exact lv_lsub hC.1 hC.2.1 h1 (k o ho hz H locs ls hP hS h)
theorem VO_lmul (hC : C0 G own cc nL d) {x y : Int64} (hd : DR cc pc .lmul 1 pn) (k : VO G Z X pn lv (.long (x * y) :: st) σ) : VO G Z X pc lv (.long y :: .long x :: st) σ := by
  intro o ho hz H locs ls hP hS h
  obtain ⟨h1, rfl⟩ := hd
  exact lv_lmul hC.1 hC.2.1 h1 (k o ho hz H locs ls hP hS h)
theorem VO_idiv (hC : C0 G own cc nL d) {x y : Int32} (hd : DR cc pc .idiv 1 pn) (k : VO G Z X pn lv (.int (x / y) :: st) σ) : VO G Z (if y = 0 then none else X) pc lv (.int y :: .int x :: st) σ := by
  intro o ho hz H locs ls hP hS h
  obtain ⟨h1, rfl⟩ := hd
  by_cases hy : y = 0
  · rw [if_pos hy] at ho; cases ho
  · rw [if_neg hy] at ho
    exact lv_idiv hC.1 hC.2.1 h1 hy (k o ho hz H locs ls hP hS h)
theorem VO_idivC (hC : C0 G own cc nL d) {x y : Int32} (hd : DR cc pc .idiv 1 pn) (hy : ¬ y = 0) (k : VO G Z X pn lv (.int (x / y) :: st) σ) : VO G Z X pc lv (.int y :: .int x :: st) σ := by
  intro o ho hz H locs ls hP hS h
  obtain ⟨h1, rfl⟩ := hd
  exact lv_idiv hC.1 hC.2.1 h1 hy (k o ho hz H locs ls hP hS h)
theorem VO_irem (hC : C0 G own cc nL d) {x y : Int32} (hd : DR cc pc .irem 1 pn) (k : VO G Z X pn lv (.int (x - x / y * y) :: st) σ) : VO G Z (if y = 0 then none else X) pc lv (.int y :: .int x :: st) σ := by
  intro o ho hz H locs ls hP hS h
  obtain ⟨h1, rfl⟩ := hd
  by_cases hy : y = 0
  · rw [if_pos hy] at ho; cases ho
  · rw [if_neg hy] at ho
    exact lv_irem hC.1 hC.2.1 h1 hy (k o ho hz H locs ls hP hS h)
theorem VO_iremC (hC : C0 G own cc nL d) {x y : Int32} (hd : DR cc pc .irem 1 pn) (hy : ¬ y = 0) (k : VO G Z X pn lv (.int (x - x / y * y) :: st) σ) : VO G Z X pc lv (.int y :: .int x :: st) σ := by
  intro o ho hz H locs ls hP hS h
  obtain ⟨h1, rfl⟩ := hd
  exact lv_irem hC.1 hC.2.1 h1 hy (k o ho hz H locs ls hP hS h)
theorem VO_ldiv (hC : C0 G own cc nL d) {x y : Int64} (hd : DR cc pc .ldiv 1 pn) (k : VO G Z X pn lv (.long (x / y) :: st) σ) : VO G Z (if y = 0 then none else X) pc lv (.long y :: .long x :: st) σ := by
  intro o ho hz H locs ls hP hS h
  obtain ⟨h1, rfl⟩ := hd
  by_cases hy : y = 0
  · rw [if_pos hy] at ho; cases ho
  · rw [if_neg hy] at ho
    exact lv_ldiv hC.1 hC.2.1 h1 hy (k o ho hz H locs ls hP hS h)
theorem VO_ldivC (hC : C0 G own cc nL d) {x y : Int64} (hd : DR cc pc .ldiv 1 pn) (hy : ¬ y = 0) (k : VO G Z X pn lv (.long (x / y) :: st) σ) : VO G Z X pc lv (.long y :: .long x :: st) σ := by
  intro o ho hz H locs ls hP hS h
  obtain ⟨h1, rfl⟩ := hd
  exact lv_ldiv hC.1 hC.2.1 h1 hy (k o ho hz H locs ls hP hS h)
theorem VO_lrem (hC : C0 G own cc nL d) {x y : Int64} (hd : DR cc pc .lrem 1 pn) (k : VO G Z X pn lv (.long (x - x / y * y) :: st) σ) : VO G Z (if y = 0 then none else X) pc lv (.long y :: .long x :: st) σ := by
  intro o ho hz H locs ls hP hS h
  obtain ⟨h1, rfl⟩ := hd
  by_cases hy : y = 0
  · rw [if_pos hy] at ho; cases ho
  · rw [if_neg hy] at ho
    exact lv_lrem hC.1 hC.2.1 h1 hy (k o ho hz H locs ls hP hS h)
theorem VO_lremC (hC : C0 G own cc nL d) {x y : Int64} (hd : DR cc pc .lrem 1 pn) (hy : ¬ y = 0) (k : VO G Z X pn lv (.long (x - x / y * y) :: st) σ) : VO G Z X pc lv (.long y :: .long x :: st) σ := by
  intro o ho hz H locs ls hP hS h
  obtain ⟨h1, rfl⟩ := hd
  exact lv_lrem hC.1 hC.2.1 h1 hy (k o ho hz H locs ls hP hS h)
theorem VO_ineg (hC : C0 G own cc nL d) {x : Int32} (hd : DR cc pc .ineg 1 pn) (k : VO G Z X pn lv (.int (-x) :: st) σ) : VO G Z X pc lv (.int x :: st) σ := by
  intro o ho hz H locs ls hP hS h
  obtain ⟨h1, rfl⟩ := hd
  exact lv_ineg hC.1 hC.2.1 h1 (k o ho hz H locs ls hP hS h)
theorem VO_iushr (hC : C0 G own cc nL d) {x y : Int32} (hd : DR cc pc .iushr 1 pn) (k : VO G Z X pn lv (.int ((x.toUInt32 >>> (y.toUInt32 &&& Int32.toUInt32 31)).toInt32) :: st) σ) : VO G Z X pc lv (.int y :: .int x :: st) σ := by
  intro o ho hz H locs ls hP hS h
  obtain ⟨h1, rfl⟩ := hd
  exact lv_iushr hC.1 hC.2.1 h1 rfl (k o ho hz H locs ls hP hS h)
theorem VO_i2l (hC : C0 G own cc nL d) {x : Int32} (hd : DR cc pc .i2l 1 pn) (k : VO G Z X pn lv (.long (x.toInt64) :: st) σ) : VO G Z X pc lv (.int x :: st) σ := by
  intro o ho hz H locs ls hP hS h
  obtain ⟨h1, rfl⟩ := hd
  exact lv_i2l hC.1 hC.2.1 h1 rfl (k o ho hz H locs ls hP hS h)
theorem VO_lcmp (hC : C0 G own cc nL d) {x y : Int64} (hd : DR cc pc .lcmp 1 pn) (k : VO G Z X pn lv (.int (lg_cmp x y) :: st) σ) : VO G Z X pc lv (.long y :: .long x :: st) σ := by
  intro o ho hz H locs ls hP hS h
  obtain ⟨h1, rfl⟩ := hd
  exact W.lcmp hC.1 hC.2.1 h1 (k o ho hz H locs ls hP hS h)
theorem VO_dup (hC : C0 G own cc nL d) {v : Value} (hd : DR cc pc .dup 1 pn) (hv : v.category = 1) (k : VO G Z X pn lv (v :: v :: st) σ) : VO G Z X pc lv (v :: st) σ := by
  intro o ho hz H locs ls hP hS h
  obtain ⟨h1, rfl⟩ := hd
  exact lv_dup hC.1 hC.2.1 h1 hv (k o ho hz H locs ls hP hS h)
theorem VO_dup2 (hC : C0 G own cc nL d) {v u : Value} (hd : DR cc pc .dup2 1 pn) (hv : v.category = 1) (hu : u.category = 1) (k : VO G Z X pn lv (v :: u :: v :: u :: st) σ) : VO G Z X pc lv (v :: u :: st) σ := by
  intro o ho hz H locs ls hP hS h
  obtain ⟨h1, rfl⟩ := hd
  exact lv_dup2_11 hC.1 hC.2.1 h1 hv hu (k o ho hz H locs ls hP hS h)
theorem VO_pop (hC : C0 G own cc nL d) {v : Value} (hd : DR cc pc .pop 1 pn) (hv : v.category = 1) (k : VO G Z X pn lv st σ) : VO G Z X pc lv (v :: st) σ := by
  intro o ho hz H locs ls hP hS h
  obtain ⟨h1, rfl⟩ := hd
  exact lv_pop hC.1 hC.2.1 h1 hv (k o ho hz H locs ls hP hS h)
theorem VO_goto (hC : C0 G own cc nL d) (hd : DJ cc pc .goto pn tgt) (k : VO G Z X tgt lv st σ) : VO G Z X pc lv st σ := by
  intro o ho hz H locs ls hP hS h
  obtain ⟨off, h1, rfl, h3⟩ := hd
  exact lv_goto hC.1 hC.2.1 h1 h3 (k o ho hz H locs ls hP hS h)
theorem VO_if_eq (hC : C0 G own cc nL d) {x : Int32} (hd : DJ cc pc (.ifCond .eq) pn tgt) (kt : x = 0 → VO G Z X1 tgt lv st σ) (kf : ¬ x = 0 → VO G Z X2 pn lv st σ) : VO G Z (if x = 0 then X1 else X2) pc lv (.int x :: st) σ := by
  intro o ho hz H locs ls hP hS h
  obtain ⟨off, h1, rfl, h3⟩ := hd
  refine lv_if_eq hC.1 hC.2.1 h1 h3 (fun q => ?_) (fun q => ?_)
  · rw [if_pos q] at ho; exact kt q o ho hz H locs ls hP hS h
  · rw [if_neg q] at ho; exact kf q o ho hz H locs ls hP hS h
theorem VO_if_ne (hC : C0 G own cc nL d) {x : Int32} (hd : DJ cc pc (.ifCond .ne) pn tgt) (kf : x = 0 → VO G Z X1 pn lv st σ) (kt : ¬ x = 0 → VO G Z X2 tgt lv st σ) : VO G Z (if x = 0 then X1 else X2) pc lv (.int x :: st) σ := by
  intro o ho hz H locs ls hP hS h
  obtain ⟨off, h1, rfl, h3⟩ := hd
  refine lv_if_ne hC.1 hC.2.1 h1 h3 (fun q => ?_) (fun q => ?_)
  · rw [if_neg q] at ho; exact kt q o ho hz H locs ls hP hS h
  · rw [if_pos q] at ho; exact kf q o ho hz H locs ls hP hS h
theorem VO_if_lt (hC : C0 G own cc nL d) {x : Int32} (hd : DJ cc pc (.ifCond .lt) pn tgt) (kt : x < 0 → VO G Z X1 tgt lv st σ) (kf : ¬ x < 0 → VO G Z X2 pn lv st σ) : VO G Z (if x < 0 then X1 else X2) pc lv (.int x :: st) σ := by
  intro o ho hz H locs ls hP hS h
  obtain ⟨off, h1, rfl, h3⟩ := hd
  refine lv_if_lt hC.1 hC.2.1 h1 h3 (fun q => ?_) (fun q => ?_)
  · rw [if_pos q] at ho; exact kt q o ho hz H locs ls hP hS h
  · rw [if_neg q] at ho; exact kf q o ho hz H locs ls hP hS h
theorem VO_if_ge (hC : C0 G own cc nL d) {x : Int32} (hd : DJ cc pc (.ifCond .ge) pn tgt) (kt : 0 ≤ x → VO G Z X1 tgt lv st σ) (kf : ¬ 0 ≤ x → VO G Z X2 pn lv st σ) : VO G Z (if 0 ≤ x then X1 else X2) pc lv (.int x :: st) σ := by
  intro o ho hz H locs ls hP hS h
  obtain ⟨off, h1, rfl, h3⟩ := hd
  refine lv_if_ge hC.1 hC.2.1 h1 h3 (fun q => ?_) (fun q => ?_)
  · rw [if_pos q] at ho; exact kt q o ho hz H locs ls hP hS h
  · rw [if_neg q] at ho; exact kf q o ho hz H locs ls hP hS h
theorem VO_if_gt (hC : C0 G own cc nL d) {x : Int32} (hd : DJ cc pc (.ifCond .gt) pn tgt) (kt : 0 < x → VO G Z X1 tgt lv st σ) (kf : ¬ 0 < x → VO G Z X2 pn lv st σ) : VO G Z (if 0 < x then X1 else X2) pc lv (.int x :: st) σ := by
  intro o ho hz H locs ls hP hS h
  obtain ⟨off, h1, rfl, h3⟩ := hd
  refine lv_if_gt hC.1 hC.2.1 h1 h3 (fun q => ?_) (fun q => ?_)
  · rw [if_pos q] at ho; exact kt q o ho hz H locs ls hP hS h
  · rw [if_neg q] at ho; exact kf q o ho hz H locs ls hP hS h
theorem VO_if_le (hC : C0 G own cc nL d) {x : Int32} (hd : DJ cc pc (.ifCond .le) pn tgt) (kt : x ≤ 0 → VO G Z X1 tgt lv st σ) (kf : ¬ x ≤ 0 → VO G Z X2 pn lv st σ) : VO G Z (if x ≤ 0 then X1 else X2) pc lv (.int x :: st) σ := by
  intro o ho hz H locs ls hP hS h
  obtain ⟨off, h1, rfl, h3⟩ := hd
  refine lv_if_le hC.1 hC.2.1 h1 h3 (fun q => ?_) (fun q => ?_)
  · rw [if_pos q] at ho; exact kt q o ho hz H locs ls hP hS h
  · rw [if_neg q] at ho; exact kf q o ho hz H locs ls hP hS h
theorem VO_icmp_eq (hC : C0 G own cc nL d) {x y : Int32} (hd : DJ cc pc (.if_icmp .eq) pn tgt) (kt : x = y → VO G Z X1 tgt lv st σ) (kf : ¬ x = y → VO G Z X2 pn lv st σ) : VO G Z (if x = y then X1 else X2) pc lv (.int y :: .int x :: st) σ := by
  intro o ho hz H locs ls hP hS h
  obtain ⟨off, h1, rfl, h3⟩ := hd
  refine lv_icmp_eq hC.1 hC.2.1 h1 h3 (fun q => ?_) (fun q => ?_)
  · rw [if_pos q] at ho; exact kt q o ho hz H locs ls hP hS h
  · rw [if_neg q] at ho; exact kf q o ho hz H locs ls hP hS h
theorem VO_icmp_ne (hC : C0 G own cc nL d) {x y : Int32} (hd : DJ cc pc (.if_icmp .ne) pn tgt) (kf : x = y → VO G Z X1 pn lv st σ) (kt : ¬ x = y → VO G Z X2 tgt lv st σ) : VO G Z (if x = y then X1 else X2) pc lv (.int y :: .int x :: st) σ := by
  intro o ho hz H locs ls hP hS h
  obtain ⟨off, h1, rfl, h3⟩ := hd
  refine lv_icmp_ne hC.1 hC.2.1 h1 h3 (fun q => ?_) (fun q => ?_)
  · rw [if_neg q] at ho; exact kt q o ho hz H locs ls hP hS h
  · rw [if_pos q] at ho; exact kf q o ho hz H locs ls hP hS h
theorem VO_icmp_lt (hC : C0 G own cc nL d) {x y : Int32} (hd : DJ cc pc (.if_icmp .lt) pn tgt) (kt : x < y → VO G Z X1 tgt lv st σ) (kf : ¬ x < y → VO G Z X2 pn lv st σ) : VO G Z (if x < y then X1 else X2) pc lv (.int y :: .int x :: st) σ := by
  intro o ho hz H locs ls hP hS h
  obtain ⟨off, h1, rfl, h3⟩ := hd
  refine lv_icmp_lt hC.1 hC.2.1 h1 h3 (fun q => ?_) (fun q => ?_)
  · rw [if_pos q] at ho; exact kt q o ho hz H locs ls hP hS h
  · rw [if_neg q] at ho; exact kf q o ho hz H locs ls hP hS h
theorem VO_icmp_ge (hC : C0 G own cc nL d) {x y : Int32} (hd : DJ cc pc (.if_icmp .ge) pn tgt) (kt : y ≤ x → VO G Z X1 tgt lv st σ) (kf : ¬ y ≤ x → VO G Z X2 pn lv st σ) : VO G Z (if y ≤ x then X1 else X2) pc lv (.int y :: .int x :: st) σ := by
  intro o ho hz H locs ls hP hS h
  obtain ⟨off, h1, rfl, h3⟩ := hd
  refine lv_icmp_ge hC.1 hC.2.1 h1 h3 (fun q => ?_) (fun q => ?_)
  · rw [if_pos q] at ho; exact kt q o ho hz H locs ls hP hS h
  · rw [if_neg q] at ho; exact kf q o ho hz H locs ls hP hS h
theorem VO_icmp_gt (hC : C0 G own cc nL d) {x y : Int32} (hd : DJ cc pc (.if_icmp .gt) pn tgt) (kt : y < x → VO G Z X1 tgt lv st σ) (kf : ¬ y < x → VO G Z X2 pn lv st σ) : VO G Z (if y < x then X1 else X2) pc lv (.int y :: .int x :: st) σ := by
  intro o ho hz H locs ls hP hS h
  obtain ⟨off, h1, rfl, h3⟩ := hd
  refine lv_icmp_gt hC.1 hC.2.1 h1 h3 (fun q => ?_) (fun q => ?_)
  · rw [if_pos q] at ho; exact kt q o ho hz H locs ls hP hS h
  · rw [if_neg q] at ho; exact kf q o ho hz H locs ls hP hS h
theorem VO_icmp_le (hC : C0 G own cc nL d) {x y : Int32} (hd : DJ cc pc (.if_icmp .le) pn tgt) (kt : x ≤ y → VO G Z X1 tgt lv st σ) (kf : ¬ x ≤ y → VO G Z X2 pn lv st σ) : VO G Z (if x ≤ y then X1 else X2) pc lv (.int y :: .int x :: st) σ := by
  intro o ho hz H locs ls hP hS h
  obtain ⟨off, h1, rfl, h3⟩ := hd
  refine lv_icmp_le hC.1 hC.2.1 h1 h3 (fun q => ?_) (fun q => ?_)
  · rw [if_pos q] at ho; exact kt q o ho hz H locs ls hP hS h
  · rw [if_neg q] at ho; exact kf q o ho hz H locs ls hP hS h
theorem VO_tin (hC : C0 G own cc nL d) {dflt lo hi : Int} {offs : Array Int} {len : Nat} {x : Int32} {off : Int} (hd : decode cc pc = .ok (.tableswitch dflt lo hi offs, len)) (h1 : ¬ x.toInt < lo) (h2 : ¬ hi < x.toInt) (h3 : offs[(x.toInt - lo).toNat]? = some off) (ht : (pc : Int) + off = (tgt : Int)) (k : VO G Z X tgt lv st σ) : VO G Z X pc lv (.int x :: st) σ := fun o ho hz H locs ls hP hS h => lv_tableIn hC.1 hC.2.1 hd h1 h2 h3 ht (k o ho hz H locs ls hP hS h)
theorem VO_tout (hC : C0 G own cc nL d) {dflt lo hi : Int} {offs : Array Int} {len : Nat} {x : Int32} (hd : decode cc pc = .ok (.tableswitch dflt lo hi offs, len)) (h1 : x.toInt < lo ∨ hi < x.toInt) (ht : (pc : Int) + dflt = (tgt : Int)) (k : VO G Z X tgt lv st σ) : VO G Z X pc lv (.int x :: st) σ := fun o ho hz H locs ls hP hS h => lv_tableOut hC.1 hC.2.1 hd h1 ht (k o ho hz H locs ls hP hS h)
theorem VO_lsw (hC : C0 G own cc nL d) {dflt : Int} {ps : Array (Int × Int)} {len : Nat} {x : Int32} {off : Int} (hd : decode cc pc = .ok (.lookupswitch dflt ps, len)) (hp : (ps.toList.zip (ps.toList.drop 1)).all (fun (a, next) => a.1 < next.1) = true) (ho' : Op.lookupswitch.offset ps.toList dflt x.toInt = off) (ht : (pc : Int) + off = (tgt : Int)) (k : VO G Z X tgt lv st σ) : VO G Z X pc lv (.int x :: st) σ := fun o ho hz H locs ls hP hS h => lv_lookup hC.1 hC.2.1 hd hp ho' ht (k o ho hz H locs ls hP hS h)
-- memory
theorem alen_of {a n : Nat} {b : Bool} (h : shp[a]? = some (.inr (b, n))) : alen a = n := by simp [alen, h]
theorem VO_iaload (hC : C0 G own cc nL d) {a : Nat} (ha : isIA a) {j : Int32} {K : Int32 → Option O} (hd : DR cc pc .iaload 1 pn) (k : ∀ v, VO G Z (K v) pn lv (.int v :: st) σ) : VO G Z ((ldA σ a j).bind K) pc lv (.int j :: .ref (gad G a) :: st) σ := by
  intro o ho hz H locs ls hP hS h
  obtain ⟨h1, rfl⟩ := hd
  obtain ⟨n, hn, hlt⟩ := ha
  unfold ldA at ho
  rw [alen_of hn] at ho
  by_cases hb : inB j n = true
  · rw [if_pos hb] at ho
    exact va_iald hC.1 hC.2.1 hC.2.2.2.2.2.2.1 hP a 0 (wld_at hn) rfl (inB_in hb) h1 (k _ o ho hz H locs ls hP hS h)
  · rw [if_neg hb] at ho; cases ho
theorem VO_iastore (hC : C0 G own cc nL d) {a : Nat} (ha : isIA a) {j x : Int32} {K : St → Option O} (hd : DR cc pc .iastore 1 pn) (k : ∀ σ', VO G Z (K σ') pn lv st σ') : VO G Z ((stA σ a j x).bind K) pc lv (.int x :: .int j :: .ref (gad G a) :: st) σ := by
  intro o ho hz H locs ls hP hS h
  obtain ⟨h1, rfl⟩ := hd
  obtain ⟨n, hn, hlt⟩ := ha
  unfold stA at ho
  rw [alen_of hn] at ho
  by_cases hb : inB j n = true
  · rw [if_pos hb] at ho
    refine va_iast hC.1 hC.2.1 hC.2.2.2.2.2.2.1 hP (wld_D hC.2.2.2.2.2.2.2.2.1 hC.2.2.2.2.2.2.2.2.2.1) hS a 0 (wld_at hn) rfl (inB_in hb) h1 (fun H1 locs1 hP1 _ hS1 => ?_)
    refine k _ o ho hz H1 locs1 ls ?_ hS1 h
    have e := wld_set (ad := gad G) (cI := gI G) (cL := gL G) (σ := σ) (σ' := wr σ a j.toNatClampNeg x) hn (fun b hb => by funext k; simp [wr, hb]) rfl
    rw [← e]
    have e2 : (wr σ a j.toNatClampNeg x).1 a = upd (σ.1 a) j.toNatClampNeg x := by funext k; simp [wr, upd]
    simp only [cellE, e2]
    exact hP1
  · rw [if_neg hb] at ho; cases ho
theorem VO_alen (hC : C0 G own cc nL d) {a : Nat} (ha : isIA a) (hd : DR cc pc .arraylength 1 pn) (k : VO G Z X pn lv (.int (nI (alen a)) :: st) σ) : VO G Z X pc lv (.ref (gad G a) :: st) σ := by
  intro o ho hz H locs ls hP hS h
  obtain ⟨h1, rfl⟩ := hd
  obtain ⟨n, hn, hlt⟩ := ha
  rw [alen_of hn] at k
  exact va_alen hC.1 hC.2.1 hC.2.2.2.2.2.2.1 hP a 0 (wld_at hn) (ty := .int) rfl rfl h1 (k o ho hz H locs ls hP hS h)
theorem VO_laload (hC : C0 G own cc nL d) {a n : Nat} (ha : shp[a]? = some (.inr (true, n))) {j : Int32} {K : Int64 → Option O} (hd : DR cc pc .laload 1 pn) (k : ∀ v, VO G Z (K v) pn lv (.long v :: st) σ) : VO G Z ((ldL σ a j).bind K) pc lv (.int j :: .ref (gad G a) :: st) σ := by
  intro o ho hz H locs ls hP hS h
  obtain ⟨h1, rfl⟩ := hd
  unfold ldL at ho
  rw [alen_of ha] at ho
  by_cases hb : inB j n = true
  · rw [if_pos hb] at ho
    exact va_lald hC.1 hC.2.1 hC.2.2.2.2.2.2.1 hP a 1 (wld_at ha) rfl (inB_in hb) h1 (k _ o ho hz H locs ls hP hS h)
  · rw [if_neg hb] at ho; cases ho
theorem VO_lastore (hC : C0 G own cc nL d) {a n : Nat} (ha : shp[a]? = some (.inr (true, n))) (hu : ∀ (k m : Nat), shp[k]? = some (.inr (true, m)) → k = a) {j : Int32} {x : Int64} {K : St → Option O} (hd : DR cc pc .lastore 1 pn) (k : ∀ σ', VO G Z (K σ') pn lv st σ') : VO G Z ((stL σ a j x).bind K) pc lv (.long x :: .int j :: .ref (gad G a) :: st) σ := by
  intro o ho hz H locs ls hP hS h
  obtain ⟨h1, rfl⟩ := hd
  unfold stL at ho
  rw [alen_of ha] at ho
  by_cases hb : inB j n = true
  · rw [if_pos hb] at ho
    refine va_last hC.1 hC.2.1 hC.2.2.2.2.2.2.1 hP (wld_D hC.2.2.2.2.2.2.2.2.1 hC.2.2.2.2.2.2.2.2.2.1) hS a 1 (wld_at ha) rfl (inB_in hb) h1 (fun H1 locs1 hP1 _ hS1 => ?_)
    refine k _ o ho hz H1 locs1 ls ?_ hS1 h
    have e := wld_setL (ad := gad G) (cI := gI G) (cL := gL G) (σ := σ) (σ' := wrL σ j.toNatClampNeg x) ha hu rfl
    rw [← e]
    exact hP1
  · rw [if_neg hb] at ho; cases ho
theorem VO_geti (hC : C0 G own cc nL d) {i idx ci f : Nat} {fs : List (Option Nat)} (hF : FL own idx ci f) (hs : shp[i]? = some (.inl (ci, fs))) (hf : fs[f]? = some none) (hd : DR cc pc (.getfield idx) 3 pn) (k : VO G Z X pn lv (.int (rd σ i f) :: st) σ) : VO G Z X pc lv (.ref (gad G i) :: st) σ := by
  intro o ho hz H locs ls hP hS h
  obtain ⟨h1, rfl⟩ := hd
  obtain ⟨C, T, N, ty0, q1, q2, q3, q4, q5, q6⟩ := hF
  exact va_get hC.1 hC.2.1 (v := .int (rd σ i f)) hC.2.2.2.2.2.1 q4 hC.2.2.2.2.1 hC.2.2.2.2.2.2.1 hP i (wld_at hs) q1 f q2 (hC.2.2.2.2.2.1 _ q3) (fun _ h => h) (by simp only [List.getElem?_mapIdx, hf, Option.map_some, rd]) h1 (k o ho hz H locs ls hP hS h)
theorem VO_getr (hC : C0 G own cc nL d) {i idx ci f r : Nat} {fs : List (Option Nat)} (hF : FL own idx ci f) (hs : shp[i]? = some (.inl (ci, fs))) (hf : fs[f]? = some (some r)) (hd : DR cc pc (.getfield idx) 3 pn) (k : VO G Z X pn lv (.ref (gad G r) :: st) σ) : VO G Z X pc lv (.ref (gad G i) :: st) σ := by
  intro o ho hz H locs ls hP hS h
  obtain ⟨h1, rfl⟩ := hd
  obtain ⟨C, T, N, ty0, q1, q2, q3, q4, q5, q6⟩ := hF
  exact va_get hC.1 hC.2.1 (v := .ref (gad G r)) hC.2.2.2.2.2.1 q4 hC.2.2.2.2.1 hC.2.2.2.2.2.2.1 hP i (wld_at hs) q1 f q2 (hC.2.2.2.2.2.1 _ q3) (fun _ h => h) (by simp only [List.getElem?_mapIdx, hf, Option.map_some]) h1 (k o ho hz H locs ls hP hS h)
theorem puti_aux {ad : Nat → Nat} {cI cL : ClassId} {i ci f : Nat} {x : Int32} {fs : List (Option Nat)} (hs : shp[i]? = some (.inl (ci, fs))) (hf : fs[f]? = some none) : (wld ad cI cL σ).set i (ad i, .inr (ci, (fs.mapIdx fun k f => match f with | some j => Value.ref (ad j) | none => .int (σ.1 i k)).set f (.int x))) = wld ad cI cL (wr σ i f x) := by
  have e := wld_set (ad := ad) (cI := cI) (cL := cL) (σ := σ) (σ' := wr σ i f x) hs (fun b hb => by funext k; simp [wr, hb]) rfl
  have e2 : cellE ad cI cL (wr σ i f x) i (.inl (ci, fs)) = .inr (ci, (fs.mapIdx fun k f => match f with | some j => Value.ref (ad j) | none => .int (σ.1 i k)).set f (.int x)) := by
    show Sum.inr (ci, _) = Sum.inr (ci, _)
    refine congrArg (fun z => Sum.inr (ci, z)) ?_
    apply List.ext_getElem?
    intro m
    have hl : f < (fs.mapIdx fun k f => match f with | some j => Value.ref (ad j) | none => .int (σ.1 i k)).length := by rw [List.length_mapIdx]; exact (List.getElem?_eq_some_iff.mp hf).1
    by_cases hm : m = f
    · subst hm
      rw [List.getElem?_set_self hl]
      simp [List.getElem?_mapIdx, hf, wr]
    · rw [List.getElem?_set_ne (Ne.symm hm)]
      simp only [List.getElem?_mapIdx, wr, true_and]
      cases fs[m]? with
      | none => rfl
      | some r => cases r <;> simp [hm]
  rw [e2] at e
  exact e
theorem VO_puti (hC : C0 G own cc nL d) {i idx ci f : Nat} {x : Int32} {K : St → Option O} {fs : List (Option Nat)} (hF : FW own idx ci f .int) (hs : shp[i]? = some (.inl (ci, fs))) (hf : fs[f]? = some none) (hd : DR cc pc (.putfield idx) 3 pn) (k : ∀ σ', VO G Z (K σ') pn lv st σ') : VO G Z ((some (wr σ i f x)).bind K) pc lv (.int x :: .ref (gad G i) :: st) σ := by
  intro o ho hz H locs ls hP hS h
  obtain ⟨h1, rfl⟩ := hd
  obtain ⟨C, T, N, ty0, q1, q2, q3, q4, q5, q6, q7, q8⟩ := hF
  refine va_put hC.1 hC.2.1 (v := .int x) (ty := .int) hC.2.2.2.2.2.1 q4 ty0 q5 q6 hC.2.2.2.2.1 hC.2.2.2.2.2.2.1 hP (wld_D hC.2.2.2.2.2.2.2.2.1 hC.2.2.2.2.2.2.2.2.2.1) hS i (wld_at hs) q1 f q2 (hC.2.2.2.2.2.1 _ q3) (fun _ h => h) q7 q8 rfl rfl (by rw [List.length_mapIdx]; exact (List.getElem?_eq_some_iff.mp hf).1) h1 (fun H1 locs1 hP1 _ hS1 => ?_)
  refine k _ o ho hz H1 locs1 ls ?_ hS1 h
  rw [← puti_aux hs hf]
  exact hP1
theorem VO_putz (hC : C0 G own cc nL d) {i idx ci f : Nat} {x : Int32} {K : St → Option O} {fs : List (Option Nat)} (hF : FW own idx ci f .boolean) (hs : shp[i]? = some (.inl (ci, fs))) (hf : fs[f]? = some none) (hd : DR cc pc (.putfield idx) 3 pn) (k : ∀ σ', VO G Z (K σ') pn lv st σ') : VO G Z ((wrZ σ i f x).bind K) pc lv (.int x :: .ref (gad G i) :: st) σ := by
  intro o ho hz H locs ls hP hS h
  obtain ⟨h1, rfl⟩ := hd
  obtain ⟨C, T, N, ty0, q1, q2, q3, q4, q5, q6, q7, q8⟩ := hF
  unfold wrZ at ho
  by_cases hx : x = 0 ∨ x = 1
  · rw [if_pos hx] at ho
    have n1 : narrow .boolean (.int x) = .int x := by rcases hx with rfl | rfl <;> rfl
    have n2 : fits .boolean (.int x) = true := by rcases hx with rfl | rfl <;> rfl
    refine va_put hC.1 hC.2.1 (v := .int x) (ty := .boolean) hC.2.2.2.2.2.1 q4 ty0 q5 q6 hC.2.2.2.2.1 hC.2.2.2.2.2.2.1 hP (wld_D hC.2.2.2.2.2.2.2.2.1 hC.2.2.2.2.2.2.2.2.2.1) hS i (wld_at hs) q1 f q2 (hC.2.2.2.2.2.1 _ q3) (fun _ h => h) q7 q8 n1 n2 (by rw [List.length_mapIdx]; exact (List.getElem?_eq_some_iff.mp hf).1) h1 (fun H1 locs1 hP1 _ hS1 => ?_)
    refine k _ o ho hz H1 locs1 ls ?_ hS1 h
    rw [← puti_aux hs hf]
    exact hP1
  · rw [if_neg hx] at ho; cases ho
-- ends of methods
def RI (G : MCx) (cc : ByteArray) (o : Int32 × St) : Prop := ∀ (pc pn : Nat) (lv : List (Nat × Value)), DR cc pc .ireturn 1 pn → V G pc lv [.int o.1] o.2
def RLo (G : MCx) (cc : ByteArray) (o : Int64 × St) : Prop := ∀ (pc pn : Nat) (lv : List (Nat × Value)), DR cc pc .lreturn 1 pn → V G pc lv [.long o.1] o.2
def RV (G : MCx) (cc : ByteArray) (o : St) : Prop := ∀ (pc pn : Nat) (lv : List (Nat × Value)), DR cc pc .return_ 1 pn → V G pc lv [] o
def RZ (G : MCx) (cc : ByteArray) (o : Int32 × St) : Prop := (o.1 = 0 ∨ o.1 = 1) → RI G cc o
theorem VO_ireturn {x : Int32} (hd : DR cc pc .ireturn 1 pn) : VO G (RI G cc) (some (x, σ)) pc lv [.int x] σ := fun o ho hz => by cases ho; exact hz pc pn lv hd
theorem VO_lreturn {x : Int64} (hd : DR cc pc .lreturn 1 pn) : VO G (RLo G cc) (some (x, σ)) pc lv [.long x] σ := fun o ho hz => by cases ho; exact hz pc pn lv hd
theorem VO_return (hd : DR cc pc .return_ 1 pn) : VO G (RV G cc) (some σ) pc lv [] σ := fun o ho hz => by cases ho; exact hz pc pn lv hd
theorem VO_zreturn {x : Int32} (hd : DR cc pc .ireturn 1 pn) : VO G (RZ G cc) (retZ x σ) pc lv [.int x] σ := fun o ho hz => by
  unfold retZ at ho
  by_cases hx : x = 0 ∨ x = 1
  · rw [if_pos hx] at ho; cases ho; exact hz hx pc pn lv hd
  · rw [if_neg hx] at ho; cases ho
theorem VO_z0 (hd : DR cc pc .ireturn 1 pn) : VO G (RZ G cc) (some (0, σ)) pc lv [.int 0] σ := fun o ho hz => by cases ho; exact hz (Or.inl rfl) pc pn lv hd
theorem VO_z1 (hd : DR cc pc .ireturn 1 pn) : VO G (RZ G cc) (some (1, σ)) pc lv [.int 1] σ := fun o ho hz => by cases ho; exact hz (Or.inr rfl) pc pn lv hd
-- loops
theorem VO_fix {S : Type} (f : (S → Option O) → S → Option O) (pc : Nat) (lf : S → List (Nat × Value)) (sf : S → St) (h : ∀ K : S → Option O, (∀ s, VO G Z (K s) pc (lf s) [] (sf s)) → ∀ s, VO G Z (f K s) pc (lf s) [] (sf s)) : ∀ (n : Nat) (s : S), VO G Z (fixF f n s) pc (lf s) [] (sf s)
  | 0, _ => VO_none
  | n + 1, s => h (fixF f n) (VO_fix f pc lf sf h n) s
end RULES
-- contracts
def PcW (D : va_G) (ad : Nat → Nat) (cI cL : ClassId) (As : List Value) (σ : St) : Array Value → State → Prop := va_Pc As (fun U => va_P D classes (wld ad cI cL σ) U.heap ∧ va_K D classes [(cI, .int), (cL, .long)] U ∧ NestOK U)
def QcW (D : va_G) (ad : Nat → Nat) (cI cL : ClassId) (rv : Option Value) (σ' : St) : Array Value → State → Outcome → State → Prop := fun _ st oc t => oc = .returned rv ∧ va_P D classes (wld ad cI cL σ') t.heap ∧ va_F (AD ad) st t
def rmd (d : Nat) : Room := { frames := d, cells := 0, slots := 0, locals := 40 * d }
def Cn (l : Launch) (D : va_G) (ad : Nat → Nat) (cI cL : ClassId) (y : MethodName) (bytes : ByteArray) (maxL : Nat) (ret : Option FieldType) (d : Nat) (As : List Value) (σ : St) (rv : Option Value) (σ' : St) : Prop :=
  Met l y (.code y bytes maxL ret :: tb) (rmd d) (PcW D ad cI cL As σ) (QcW D ad cI cL rv σ') 0 0 (AD ad)
theorem NestOK.warm {s U : State} (h : NestOK s) (hW : s.WarmedH U.vm) : NestOK U := fun q hq => va_Nw.warmM hW (h q hq)
theorem PcW.blind {D : va_G} {ad : Nat → Nat} {cI cL : ClassId} {As : List Value} {σ : St} : FrameBlind (PcW D ad cI cL As σ) := by
  intro a U g mk q
  obtain ⟨q0, qP, qK, qN⟩ := q
  exact ⟨q0, qP, va_K.moved (u := U) (U := U.calling g mk a) (Vm.Alike.refl U.vm) qK, fun w hw => va_Nw.same (u := U) rfl rfl (qN w hw)⟩
theorem tb_good : GoodIn tb tb := fun w hw => ⟨hw, good_of_word (List.mem_filter.mp hw).2⟩
section CALLS
variable {G : MCx} {O : Type} {Z : O → Prop} {own : String} {cc : ByteArray} {nL d pc pn : Nat} {lv : List (Nat × Value)} {st rest : List Value} {σ σ' : St}
theorem V_run {y : MethodName} {rv : Option Value} {a : Array Value} (hC : C0 G own cc nL d) (hS0 : ∀ (H : Heap) (locs : List Loc) (ls : Array Slot), va_P (gD G) classes (wld (gad G) (gI G) (gL G) σ) H → lv_has ls (gn G) lv →
    va_Run (gp G) (gl G) (ge G) (gR G) (gs G) (gm G) (ga G) (gb G) (gme G) (gco G) H locs (gc G) (gsl G) 0 0 (F0 (gm G) pc ls st) rest (QcW (gD G) (gad G) (gI G) (gL G) rv σ' a) (AD (gad G)))
    (k : V G (pc + 3) lv (rv.toList ++ rest) σ') : V G pc lv st σ := by
  intro H locs ls hP hS hl T hT X
  obtain ⟨v, st₀, t, T', L, h0, X', hL, e1, e2, ⟨hv, hP', hz, hk⟩, hst⟩ := hS0 H locs ls hP hl T hT X
  cases hv
  rw [h0] at hz hk
  have hA := hC.2.2.2.2.2.2.2.2.2.1
  obtain ⟨t2, a1, b1⟩ := k T'.heap (locs ++ L) ls (by rw [e1]; exact hP')
    ⟨Nat.le_trans hS.1 (by rw [e1]; exact hz), fun q h1 h2 => by rw [e1, hk q (Nat.lt_of_lt_of_le h1 hS.1) (fun z => h2 (hA q z))]; exact hS.2.1 q h1 h2, fun q hq => by
      rcases List.mem_append.mp hq with h | h
      · exact hS.2.2 q h
      · exact hA _ (hL q h)⟩ hl T' rfl X'
  exact ⟨t2, hst t2 a1, b1⟩
theorem C0.pre (hC : C0 G own cc nL d) {H : Heap} {As : List Value} (hP : va_P (gD G) classes (wld (gad G) (gI G) (gL G) σ) H) : PreS (gs G) H (PcW (gD G) (gad G) (gI G) (gL G) As σ) As :=
  ⟨PcW.blind, fun U hU hW => ⟨rfl, by rw [hU]; exact hP, va_K.moved hW.alike hC.2.2.2.2.2.2.1, hC.2.2.2.2.2.2.2.1.warm hW⟩⟩
theorem good_call {y : MethodName} {bytes : ByteArray} {maxL : Nat} {ret : Option FieldType} (h : Cond.code y bytes maxL ret ∈ tb) : GoodIn tb (Cond.code y bytes maxL ret :: tb) := by
  intro w hw
  rcases List.mem_cons.mp hw with rfl | hw
  · exact tb_good _ h
  · exact tb_good _ hw
theorem C0.room (hC : C0 G own cc nL d) {dz maxL : Nat} (hm : maxL ≤ 21) (hd : dz + 1 ≤ d) : (rmd dz).frames + 1 ≤ (gR G).frames ∧ 8 + (maxL + 11) + (rmd dz).locals ≤ (gR G).locals := by
  obtain ⟨h1, h2, -⟩ := hC.2.2.2.2.2.2.2.2.2.2
  simp only [rmd]
  omega
theorem V_callS (hC : C0 G own cc nL d) {y : MethodName} {bytes : ByteArray} {maxL n dz idx : Nat} {ret : Option FieldType} {As : List Value} {rv : Option Value} (hY : YS y bytes maxL ret n) (hM : Cn (gl G) (gD G) (gad G) (gI G) (gL G) y bytes maxL ret dz As σ rv σ') (hlink : Cond.methodLink own idx y ∈ tb) (hdz : dz + 1 ≤ d) (hn : As.length = n) (hst : st = As.reverse ++ rest) (hcat : (rest.map fun v => v.category).sum ≤ 8) (hdg : DR cc pc (.invokestatic idx) 3 pn)
    (k : V G pn lv (rv.toList ++ rest) σ') : V G pc lv st σ := by
  obtain ⟨hdg, rfl⟩ := hdg
  obtain ⟨⟨hi, hc, hp, hm⟩, hs⟩ := hY
  have hts := hC.2.2.2.2.2.1
  refine V_run (y := y) (a := As.toArray) hC (fun H locs ls hP hl => ?_) k
  exact va_runS (Ts := tb) (own := own) (nL := nL) (cc := cc) ⟨hC.1, hC.2.1, hC.2.2.1, hC.2.2.2.2.1, hts⟩ hM ⟨callB_of n hts (good_call hc) rfl rfl rfl (hts _ hi) (hts _ hlink) hp (hC.room hm hdz), hts _ hs⟩ (hC.pre hP) rfl hn (hl.1.trans hC.2.2.2.1) hst (lv_room (pc := pc) (ls := ls) (rest := rest) (m := gm G) hcat) hdg ⟨hC.2.2.2.2.2.2.2.2.2.2.2.2.1, hC.2.2.2.2.2.2.2.2.2.2.2.2.2⟩
theorem V_callN (hC : C0 G own cc nL d) {y : MethodName} {host : String} {bytes : ByteArray} {maxL n dz idx : Nat} {ret : Option FieldType} {As : List Value} {rv : Option Value} (hY : YS y bytes maxL ret n) (hM : Cn (gl G) (gD G) (gad G) (gI G) (gL G) y bytes maxL ret dz As σ rv σ') (hlink : (own, idx, y, host) ∈ nestQ) (hdz : dz + 1 ≤ d) (hn : As.length = n) (hst : st = As.reverse ++ rest) (hcat : (rest.map fun v => v.category).sum ≤ 8) (hdg : DR cc pc (.invokestatic idx) 3 pn)
    (k : V G pn lv (rv.toList ++ rest) σ') : V G pc lv st σ := by
  obtain ⟨hdg, rfl⟩ := hdg
  obtain ⟨⟨hi, hc, hp, hm⟩, hs⟩ := hY
  have hts := hC.2.2.2.2.2.1
  refine V_run (y := y) (a := As.toArray) hC (fun H locs ls hP hl => ?_) k
  exact va_runSN (Ts := tb) (own := own) (host := host) (nL := nL) (cc := cc) ⟨hC.1, hC.2.1, hC.2.2.1, hC.2.2.2.2.1, hts⟩ hM ⟨va_cnB n hts (good_call hc) rfl rfl rfl (hC.2.2.2.2.2.2.2.1 _ hlink) (hts _ hi) hp (hC.room hm hdz), hts _ hs, trivial⟩ (hC.pre hP) rfl hn (hl.1.trans hC.2.2.2.1) hst (lv_room (pc := pc) (ls := ls) (rest := rest) (m := gm G) hcat) hdg ⟨hC.2.2.2.2.2.2.2.2.2.2.2.2.1, hC.2.2.2.2.2.2.2.2.2.2.2.2.2⟩
theorem V_callV (hC : C0 G own cc nL d) {y : MethodName} {bytes : ByteArray} {maxL n dz idx i ci : Nat} {ret : Option FieldType} {As : List Value} {rv : Option Value} {fs : List (Option Nat)} {q : vw_C} (hY : YV y bytes maxL ret n) (hM : Cn (gl G) (gD G) (gad G) (gI G) (gL G) y bytes maxL ret dz (.ref (gad G i) :: As) σ rv σ') (hlink : Cond.methodLink own idx y ∈ tb) (hs : shp[i]? = some (.inl (ci, fs))) (hcl : classes[ci]? = some q) (hq : q.1 = y.cls) (hdz : dz + 1 ≤ d) (hn : As.length = n) (hst : st = As.reverse ++ .ref (gad G i) :: rest) (hcat : (rest.map fun v => v.category).sum ≤ 8) (hdg : DR cc pc (.invokevirtual idx) 3 pn)
    (k : V G pn lv (rv.toList ++ rest) σ') : V G pc lv st σ := by
  obtain ⟨hdg, rfl⟩ := hdg
  obtain ⟨⟨hi, hc, hp, hm⟩, hs1, hs2⟩ := hY
  have hts := hC.2.2.2.2.2.1
  refine V_run (y := y) (a := (Value.ref (gad G i) :: As).toArray) hC (fun H locs ls hP hl => ?_) k
  have hr := va_recv hC.2.2.2.2.2.2.1 hP hcl (wld_at hs)
  rw [hq] at hr
  exact va_runV (Ts := tb) (own := own) (C := y.cls) (nL := nL) (cc := cc) ⟨hC.1, hC.2.1, hC.2.2.1, hC.2.2.2.2.1, hts⟩ hM ⟨callB_of n hts (good_call hc) rfl rfl rfl (hts _ hi) (hts _ hlink) hp (hC.room hm hdz), hts _ hs1, hts _ hs2⟩ ⟨(hC.pre hP).1, hr, (hC.pre (As := .ref (gad G i) :: As) hP).2⟩ rfl hn (hl.1.trans hC.2.2.2.1) hst (lv_room (pc := pc) (ls := ls) (rest := rest) (m := gm G) hcat) hdg ⟨hC.2.2.2.2.2.2.2.2.2.2.2.2.1, hC.2.2.2.2.2.2.2.2.2.2.2.2.2⟩
end CALLS
theorem Met.ofWF {l : Launch} {y : MethodName} {ws ws' : List Cond} {rm : Room} {Pc : Array Value → State → Prop} {Qc : Array Value → State → Outcome → State → Prop} {mc ms : Nat} {free : Addr → Prop} {cc : ByteArray} {maxL : Nat} {ret : Option FieldType}
    (hy : plainFor y = true) (hw : ws = Cond.code y cc maxL ret :: ws')
    (body : ∀ p e s m args below meth c s₁, BodyLoose p l y (headSpec ws rm) cc maxL ret e s m args below meth c s₁ → c.maxLocals = maxL → Pc args s →
      W p l e (headSpec ws rm).room s m args below meth c s.heap [] 0 0 (MQ below Qc args s mc ms free) (entryFrame m args maxL)) : Met l y ws rm Pc Qc mc ms free := by
  refine MetFree.of_bodySF (code := cc) (maxLocals := maxL) (ret := ret) hy ?_ ?_
  · intro args s m h hn
    obtain ⟨meth, c, h1, h2, h3, h4, h5, h6, -, -⟩ := Cond.code_spec hn (atoms_spec (ws := ws) h _ (by rw [hw]; exact List.mem_cons_self))
    exact ⟨meth, c, h1, h2, h3, h4, h5, h6⟩
  · intro p e s m args below meth c s₁ B hml hP _
    have hh0 : s₁.heap = s.heap := by rw [B.state]; rfl
    obtain ⟨t, a1, o, b1, b2, b3⟩ := body p e s m args below meth c s₁ B hml hP s₁ hh0 (Stand.of_body B)
    exact ⟨t, o, a1, b1, b2, ⟨b3.1, b3.2⟩⟩
def Inj (ad : Nat → Nat) : Prop := ∀ i j, i < NC → j < NC → ad i = ad j → i = j
theorem C0.inj {G : MCx} {own : String} {cc : ByteArray} {nL d : Nat} (hC : C0 G own cc nL d) : Inj (gad G) := hC.2.2.2.2.2.2.2.2.1
section CALLS2
variable {G : MCx} {O : Type} {Z : O → Prop} {own : String} {cc : ByteArray} {nL d pc pn : Nat} {lv : List (Nat × Value)} {st : List Value} {σ : St}
theorem VO_callSI (hC : C0 G own cc nL d) {y : MethodName} {bytes : ByteArray} {maxL n dz idx : Nat} {ret : Option FieldType} {X : Option (Int32 × St)} {K : Int32 × St → Option O} (As rest : List Value) (hlink : Cond.methodLink own idx y ∈ tb) (hdg : DR cc pc (.invokestatic idx) 3 pn) (hY : YS y bytes maxL ret n) (hM : ∀ o, X = some o → Cn (gl G) (gD G) (gad G) (gI G) (gL G) y bytes maxL ret dz As σ (some (.int o.1)) o.2) (hdz : dz + 1 ≤ d) (hn : As.length = n) (hst : st = As.reverse ++ rest) (hcat : (rest.map fun v => v.category).sum ≤ 8)
    (k : ∀ o, VO G Z (K o) pn lv (.int o.1 :: rest) o.2) : VO G Z (X.bind K) pc lv st σ := by
  intro o ho hz
  cases hX : X with
  | none => rw [hX] at ho; cases ho
  | some z => rw [hX] at ho; exact V_callS hC hY (hM z hX) hlink hdz hn hst hcat hdg (k z o ho hz)
theorem VO_callNI (hC : C0 G own cc nL d) {y : MethodName} {bytes : ByteArray} {maxL n dz idx : Nat} {ret : Option FieldType} {X : Option (Int32 × St)} {K : Int32 × St → Option O} (As rest : List Value) {host : String} (hlink : (own, idx, y, host) ∈ nestQ) (hdg : DR cc pc (.invokestatic idx) 3 pn) (hY : YS y bytes maxL ret n) (hM : ∀ o, X = some o → Cn (gl G) (gD G) (gad G) (gI G) (gL G) y bytes maxL ret dz As σ (some (.int o.1)) o.2) (hdz : dz + 1 ≤ d) (hn : As.length = n) (hst : st = As.reverse ++ rest) (hcat : (rest.map fun v => v.category).sum ≤ 8)
    (k : ∀ o, VO G Z (K o) pn lv (.int o.1 :: rest) o.2) : VO G Z (X.bind K) pc lv st σ := by
  intro o ho hz
  cases hX : X with
  | none => rw [hX] at ho; cases ho
  | some z => rw [hX] at ho; exact V_callN hC hY (hM z hX) hlink hdz hn hst hcat hdg (k z o ho hz)
theorem VO_callVI (hC : C0 G own cc nL d) {y : MethodName} {bytes : ByteArray} {maxL n dz idx i ci : Nat} {ret : Option FieldType} {fs : List (Option Nat)} {q : vw_C} {X : Option (Int32 × St)} {K : Int32 × St → Option O} (As rest : List Value) (hlink : Cond.methodLink own idx y ∈ tb) (hdg : DR cc pc (.invokevirtual idx) 3 pn) (hY : YV y bytes maxL ret n) (hs : shp[i]? = some (.inl (ci, fs))) (hcl : classes[ci]? = some q) (hq : q.1 = y.cls) (hM : ∀ o, X = some o → Cn (gl G) (gD G) (gad G) (gI G) (gL G) y bytes maxL ret dz (.ref (gad G i) :: As) σ (some (.int o.1)) o.2) (hdz : dz + 1 ≤ d) (hn : As.length = n) (hst : st = As.reverse ++ .ref (gad G i) :: rest) (hcat : (rest.map fun v => v.category).sum ≤ 8)
    (k : ∀ o, VO G Z (K o) pn lv (.int o.1 :: rest) o.2) : VO G Z (X.bind K) pc lv st σ := by
  intro o ho hz
  cases hX : X with
  | none => rw [hX] at ho; cases ho
  | some z => rw [hX] at ho; exact V_callV hC hY (hM z hX) hlink hs hcl hq hdz hn hst hcat hdg (k z o ho hz)
theorem VO_callSL (hC : C0 G own cc nL d) {y : MethodName} {bytes : ByteArray} {maxL n dz idx : Nat} {ret : Option FieldType} {X : Option (Int64 × St)} {K : Int64 × St → Option O} (As rest : List Value) (hlink : Cond.methodLink own idx y ∈ tb) (hdg : DR cc pc (.invokestatic idx) 3 pn) (hY : YS y bytes maxL ret n) (hM : ∀ o, X = some o → Cn (gl G) (gD G) (gad G) (gI G) (gL G) y bytes maxL ret dz As σ (some (.long o.1)) o.2) (hdz : dz + 1 ≤ d) (hn : As.length = n) (hst : st = As.reverse ++ rest) (hcat : (rest.map fun v => v.category).sum ≤ 8)
    (k : ∀ o, VO G Z (K o) pn lv (.long o.1 :: rest) o.2) : VO G Z (X.bind K) pc lv st σ := by
  intro o ho hz
  cases hX : X with
  | none => rw [hX] at ho; cases ho
  | some z => rw [hX] at ho; exact V_callS hC hY (hM z hX) hlink hdz hn hst hcat hdg (k z o ho hz)
theorem VO_callNL (hC : C0 G own cc nL d) {y : MethodName} {bytes : ByteArray} {maxL n dz idx : Nat} {ret : Option FieldType} {X : Option (Int64 × St)} {K : Int64 × St → Option O} (As rest : List Value) {host : String} (hlink : (own, idx, y, host) ∈ nestQ) (hdg : DR cc pc (.invokestatic idx) 3 pn) (hY : YS y bytes maxL ret n) (hM : ∀ o, X = some o → Cn (gl G) (gD G) (gad G) (gI G) (gL G) y bytes maxL ret dz As σ (some (.long o.1)) o.2) (hdz : dz + 1 ≤ d) (hn : As.length = n) (hst : st = As.reverse ++ rest) (hcat : (rest.map fun v => v.category).sum ≤ 8)
    (k : ∀ o, VO G Z (K o) pn lv (.long o.1 :: rest) o.2) : VO G Z (X.bind K) pc lv st σ := by
  intro o ho hz
  cases hX : X with
  | none => rw [hX] at ho; cases ho
  | some z => rw [hX] at ho; exact V_callN hC hY (hM z hX) hlink hdz hn hst hcat hdg (k z o ho hz)
theorem VO_callVL (hC : C0 G own cc nL d) {y : MethodName} {bytes : ByteArray} {maxL n dz idx i ci : Nat} {ret : Option FieldType} {fs : List (Option Nat)} {q : vw_C} {X : Option (Int64 × St)} {K : Int64 × St → Option O} (As rest : List Value) (hlink : Cond.methodLink own idx y ∈ tb) (hdg : DR cc pc (.invokevirtual idx) 3 pn) (hY : YV y bytes maxL ret n) (hs : shp[i]? = some (.inl (ci, fs))) (hcl : classes[ci]? = some q) (hq : q.1 = y.cls) (hM : ∀ o, X = some o → Cn (gl G) (gD G) (gad G) (gI G) (gL G) y bytes maxL ret dz (.ref (gad G i) :: As) σ (some (.long o.1)) o.2) (hdz : dz + 1 ≤ d) (hn : As.length = n) (hst : st = As.reverse ++ .ref (gad G i) :: rest) (hcat : (rest.map fun v => v.category).sum ≤ 8)
    (k : ∀ o, VO G Z (K o) pn lv (.long o.1 :: rest) o.2) : VO G Z (X.bind K) pc lv st σ := by
  intro o ho hz
  cases hX : X with
  | none => rw [hX] at ho; cases ho
  | some z => rw [hX] at ho; exact V_callV hC hY (hM z hX) hlink hs hcl hq hdz hn hst hcat hdg (k z o ho hz)
theorem VO_callSV (hC : C0 G own cc nL d) {y : MethodName} {bytes : ByteArray} {maxL n dz idx : Nat} {ret : Option FieldType} {X : Option (St)} {K : St → Option O} (As rest : List Value) (hlink : Cond.methodLink own idx y ∈ tb) (hdg : DR cc pc (.invokestatic idx) 3 pn) (hY : YS y bytes maxL ret n) (hM : ∀ o, X = some o → Cn (gl G) (gD G) (gad G) (gI G) (gL G) y bytes maxL ret dz As σ none o) (hdz : dz + 1 ≤ d) (hn : As.length = n) (hst : st = As.reverse ++ rest) (hcat : (rest.map fun v => v.category).sum ≤ 8)
    (k : ∀ o, VO G Z (K o) pn lv (rest) o) : VO G Z (X.bind K) pc lv st σ := by
  intro o ho hz
  cases hX : X with
  | none => rw [hX] at ho; cases ho
  | some z => rw [hX] at ho; exact V_callS hC hY (hM z hX) hlink hdz hn hst hcat hdg (k z o ho hz)
theorem VO_callNV (hC : C0 G own cc nL d) {y : MethodName} {bytes : ByteArray} {maxL n dz idx : Nat} {ret : Option FieldType} {X : Option (St)} {K : St → Option O} (As rest : List Value) {host : String} (hlink : (own, idx, y, host) ∈ nestQ) (hdg : DR cc pc (.invokestatic idx) 3 pn) (hY : YS y bytes maxL ret n) (hM : ∀ o, X = some o → Cn (gl G) (gD G) (gad G) (gI G) (gL G) y bytes maxL ret dz As σ none o) (hdz : dz + 1 ≤ d) (hn : As.length = n) (hst : st = As.reverse ++ rest) (hcat : (rest.map fun v => v.category).sum ≤ 8)
    (k : ∀ o, VO G Z (K o) pn lv (rest) o) : VO G Z (X.bind K) pc lv st σ := by
  intro o ho hz
  cases hX : X with
  | none => rw [hX] at ho; cases ho
  | some z => rw [hX] at ho; exact V_callN hC hY (hM z hX) hlink hdz hn hst hcat hdg (k z o ho hz)
theorem VO_callVV (hC : C0 G own cc nL d) {y : MethodName} {bytes : ByteArray} {maxL n dz idx i ci : Nat} {ret : Option FieldType} {fs : List (Option Nat)} {q : vw_C} {X : Option (St)} {K : St → Option O} (As rest : List Value) (hlink : Cond.methodLink own idx y ∈ tb) (hdg : DR cc pc (.invokevirtual idx) 3 pn) (hY : YV y bytes maxL ret n) (hs : shp[i]? = some (.inl (ci, fs))) (hcl : classes[ci]? = some q) (hq : q.1 = y.cls) (hM : ∀ o, X = some o → Cn (gl G) (gD G) (gad G) (gI G) (gL G) y bytes maxL ret dz (.ref (gad G i) :: As) σ none o) (hdz : dz + 1 ≤ d) (hn : As.length = n) (hst : st = As.reverse ++ .ref (gad G i) :: rest) (hcat : (rest.map fun v => v.category).sum ≤ 8)
    (k : ∀ o, VO G Z (K o) pn lv (rest) o) : VO G Z (X.bind K) pc lv st σ := by
  intro o ho hz
  cases hX : X with
  | none => rw [hX] at ho; cases ho
  | some z => rw [hX] at ho; exact V_callV hC hY (hM z hX) hlink hs hcl hq hdz hn hst hcat hdg (k z o ho hz)
end CALLS2
theorem Cn_ofI {l : Launch} {D : va_G} {ad : Nat → Nat} {cI cL : ClassId} {y : MethodName} {bytes : ByteArray} {maxL d : Nat} {As : List Value} {σ : St} {o : Int32 × St} (hj : Inj ad) (hp : plainFor y = true) (hAs : (lg_sl As).length ≤ maxL) (lv : List (Nat × Value)) (hlv : lv_args 0 As = lv)
    (body : ∀ G : MCx, C0 G y.cls bytes maxL d → gl G = l → gD G = D → gad G = ad → gI G = cI → gL G = cL → RI G bytes o → V G 0 lv [] σ) : Cn l D ad cI cL y bytes maxL (some .int) d As σ (some (.int o.1)) o.2 := by
  refine Met.ofWF (cc := bytes) (maxL := maxL) (ret := (some .int)) hp rfl ?_
  intro p e s m args below meth c s₁ B hml hv
  obtain ⟨rfl, hP, hK, hN⟩ := hv
  have hx := B.exec
  have hb := B.bytes
  have hr := B.returns
  have hts := atoms_spec (ws := .code y bytes maxL (some .int) :: tb) B.pre
  have hown : s.vm.findClass y.cls = some m.cls := findClass_of_methodNamed B.named
  have hlocks := B.notSynchronized
  rw [lg_entry_eq]
  have hl := lv_entry As (n := maxL) hAs
  rw [hlv] at hl
  exact body (p, l, e, rmd d, s, m, As.toArray, below, meth, c, MQ below (QcW D ad cI cL (some (.int o.1)) o.2) As.toArray s 0 0 (AD ad), D, ad, cI, cL, AD ad, maxL, 0, 0)
    ⟨hx, hb, hml, rfl, hown, fun w hw => hts w (List.mem_cons_of_mem _ hw), hK, hN, hj, fun _ h => h, Nat.le_refl _, Nat.le_refl _, Nat.le_refl _, Nat.le_refl _⟩ rfl rfl rfl rfl rfl
    (fun pc pn lv hd H locs ls hP hS hl => W.iret hx hb hr (fun t ht hW => ⟨rfl, by rw [ht]; exact hP, hS.F ht⟩) hS.2.2 hd.1 hlocks) s.heap [] _ hP va_S.rf hl
theorem Cn_ofZ {l : Launch} {D : va_G} {ad : Nat → Nat} {cI cL : ClassId} {y : MethodName} {bytes : ByteArray} {maxL d : Nat} {As : List Value} {σ : St} {o : Int32 × St} (hj : Inj ad) (hp : plainFor y = true) (hAs : (lg_sl As).length ≤ maxL) (lv : List (Nat × Value)) (hlv : lv_args 0 As = lv)
    (body : ∀ G : MCx, C0 G y.cls bytes maxL d → gl G = l → gD G = D → gad G = ad → gI G = cI → gL G = cL → RZ G bytes o → V G 0 lv [] σ) : Cn l D ad cI cL y bytes maxL (some .boolean) d As σ (some (.int o.1)) o.2 := by
  refine Met.ofWF (cc := bytes) (maxL := maxL) (ret := (some .boolean)) hp rfl ?_
  intro p e s m args below meth c s₁ B hml hv
  obtain ⟨rfl, hP, hK, hN⟩ := hv
  have hx := B.exec
  have hb := B.bytes
  have hr := B.returns
  have hts := atoms_spec (ws := .code y bytes maxL (some .boolean) :: tb) B.pre
  have hown : s.vm.findClass y.cls = some m.cls := findClass_of_methodNamed B.named
  have hlocks := B.notSynchronized
  rw [lg_entry_eq]
  have hl := lv_entry As (n := maxL) hAs
  rw [hlv] at hl
  exact body (p, l, e, rmd d, s, m, As.toArray, below, meth, c, MQ below (QcW D ad cI cL (some (.int o.1)) o.2) As.toArray s 0 0 (AD ad), D, ad, cI, cL, AD ad, maxL, 0, 0)
    ⟨hx, hb, hml, rfl, hown, fun w hw => hts w (List.mem_cons_of_mem _ hw), hK, hN, hj, fun _ h => h, Nat.le_refl _, Nat.le_refl _, Nat.le_refl _, Nat.le_refl _⟩ rfl rfl rfl rfl rfl
    (fun hz pc pn lv hd H locs ls hP hS hl => W.zret hx hb hr (by rcases hz with h | h <;> rw [h] <;> rfl) (fun t ht hW => ⟨rfl, by rw [ht]; exact hP, hS.F ht⟩) hS.2.2 hd.1 hlocks) s.heap [] _ hP va_S.rf hl
theorem Cn_ofL {l : Launch} {D : va_G} {ad : Nat → Nat} {cI cL : ClassId} {y : MethodName} {bytes : ByteArray} {maxL d : Nat} {As : List Value} {σ : St} {o : Int64 × St} (hj : Inj ad) (hp : plainFor y = true) (hAs : (lg_sl As).length ≤ maxL) (lv : List (Nat × Value)) (hlv : lv_args 0 As = lv)
    (body : ∀ G : MCx, C0 G y.cls bytes maxL d → gl G = l → gD G = D → gad G = ad → gI G = cI → gL G = cL → RLo G bytes o → V G 0 lv [] σ) : Cn l D ad cI cL y bytes maxL (some .long) d As σ (some (.long o.1)) o.2 := by
  refine Met.ofWF (cc := bytes) (maxL := maxL) (ret := (some .long)) hp rfl ?_
  intro p e s m args below meth c s₁ B hml hv
  obtain ⟨rfl, hP, hK, hN⟩ := hv
  have hx := B.exec
  have hb := B.bytes
  have hr := B.returns
  have hts := atoms_spec (ws := .code y bytes maxL (some .long) :: tb) B.pre
  have hown : s.vm.findClass y.cls = some m.cls := findClass_of_methodNamed B.named
  have hlocks := B.notSynchronized
  rw [lg_entry_eq]
  have hl := lv_entry As (n := maxL) hAs
  rw [hlv] at hl
  exact body (p, l, e, rmd d, s, m, As.toArray, below, meth, c, MQ below (QcW D ad cI cL (some (.long o.1)) o.2) As.toArray s 0 0 (AD ad), D, ad, cI, cL, AD ad, maxL, 0, 0)
    ⟨hx, hb, hml, rfl, hown, fun w hw => hts w (List.mem_cons_of_mem _ hw), hK, hN, hj, fun _ h => h, Nat.le_refl _, Nat.le_refl _, Nat.le_refl _, Nat.le_refl _⟩ rfl rfl rfl rfl rfl
    (fun pc pn lv hd H locs ls hP hS hl => W.lret hx hb hr (fun t ht hW => ⟨rfl, by rw [ht]; exact hP, hS.F ht⟩) hS.2.2 hd.1 hlocks) s.heap [] _ hP va_S.rf hl
theorem Cn_ofV {l : Launch} {D : va_G} {ad : Nat → Nat} {cI cL : ClassId} {y : MethodName} {bytes : ByteArray} {maxL d : Nat} {As : List Value} {σ : St} {o : St} (hj : Inj ad) (hp : plainFor y = true) (hAs : (lg_sl As).length ≤ maxL) (lv : List (Nat × Value)) (hlv : lv_args 0 As = lv)
    (body : ∀ G : MCx, C0 G y.cls bytes maxL d → gl G = l → gD G = D → gad G = ad → gI G = cI → gL G = cL → RV G bytes o → V G 0 lv [] σ) : Cn l D ad cI cL y bytes maxL none d As σ none o := by
  refine Met.ofWF (cc := bytes) (maxL := maxL) (ret := none) hp rfl ?_
  intro p e s m args below meth c s₁ B hml hv
  obtain ⟨rfl, hP, hK, hN⟩ := hv
  have hx := B.exec
  have hb := B.bytes
  have hr := B.returns
  have hts := atoms_spec (ws := .code y bytes maxL none :: tb) B.pre
  have hown : s.vm.findClass y.cls = some m.cls := findClass_of_methodNamed B.named
  have hlocks := B.notSynchronized
  rw [lg_entry_eq]
  have hl := lv_entry As (n := maxL) hAs
  rw [hlv] at hl
  exact body (p, l, e, rmd d, s, m, As.toArray, below, meth, c, MQ below (QcW D ad cI cL none o) As.toArray s 0 0 (AD ad), D, ad, cI, cL, AD ad, maxL, 0, 0)
    ⟨hx, hb, hml, rfl, hown, fun w hw => hts w (List.mem_cons_of_mem _ hw), hK, hN, hj, fun _ h => h, Nat.le_refl _, Nat.le_refl _, Nat.le_refl _, Nat.le_refl _⟩ rfl rfl rfl rfl rfl
    (fun pc pn lv hd H locs ls hP hS hl => W.vret hx hb hr (fun t ht hW => ⟨rfl, by rw [ht]; exact hP, hS.F ht⟩) hS.2.2 hd.1 hlocks) s.heap [] _ hP va_S.rf hl
