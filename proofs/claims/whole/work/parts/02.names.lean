def R_LB : String := "AccusedChoose$LastBack"
def T_LB : u_T := fun k => match k with
  | 0 => ("AccusedChoose$LastBack", "taken", "[I", true)
  | 1 => ("AccusedChoose$LastBack", "months", "[I", true)
  | _ => ("AccusedChoose$LastBack", "all", "I", false)
def t_LB : Nat → FieldType := fun k => match k with
  | 0 => .array .int
  | 1 => .array .int
  | _ => .int
theorem n_LB : ∀ a, a < 3 → ∀ b, b < 3 → a ≠ b → (T_LB a).2.1 ≠ (T_LB b).2.1 := by decide +kernel
theorem t_LB_ok : ∀ k, k < 3 → parseFieldDescriptor (T_LB k).2.2.1 = some (t_LB k) := by decide +kernel
def R_LT : String := "AccusedChoose$Letters"
def T_LT : u_T := fun k => match k with
  | 0 => ("AccusedChoose$Letters", "count", "I", false)
  | _ => ("AccusedChoose$Letters", "text", "[I", true)
def t_LT : Nat → FieldType := fun k => match k with
  | 0 => .int
  | _ => .array .int
theorem n_LT : ∀ a, a < 2 → ∀ b, b < 2 → a ≠ b → (T_LT a).2.1 ≠ (T_LT b).2.1 := by decide +kernel
theorem t_LT_ok : ∀ k, k < 2 → parseFieldDescriptor (T_LT k).2.2.1 = some (t_LT k) := by decide +kernel
def R_MO : String := "AccusedChoose$Morning"
def T_MO : u_T := fun k => match k with
  | 0 => ("AccusedChoose$Morning", "taken", "[I", true)
  | 1 => ("AccusedChoose$Morning", "months", "[I", true)
  | 2 => ("AccusedChoose$Morning", "people", "I", false)
  | 3 => ("AccusedChoose$Morning", "left", "I", false)
  | 4 => ("AccusedChoose$Morning", "all", "I", false)
  | _ => ("AccusedChoose$Morning", "without", "I", false)
def t_MO : Nat → FieldType := fun k => match k with
  | 0 => .array .int
  | 1 => .array .int
  | 2 => .int
  | 3 => .int
  | 4 => .int
  | _ => .int
theorem n_MO : ∀ a, a < 6 → ∀ b, b < 6 → a ≠ b → (T_MO a).2.1 ≠ (T_MO b).2.1 := by decide +kernel
theorem t_MO_ok : ∀ k, k < 6 → parseFieldDescriptor (T_MO k).2.2.1 = some (t_MO k) := by decide +kernel
def R_NI : String := "AccusedChoose$Night"
def T_NI : u_T := fun k => match k with
  | 0 => ("AccusedChoose$Night", "deeds", "I", false)
  | 1 => ("AccusedChoose$Night", "people", "I", false)
  | 2 => ("AccusedChoose$Night", "kind", "[I", true)
  | 3 => ("AccusedChoose$Night", "figure", "[I", true)
  | 4 => ("AccusedChoose$Night", "records", "[I", true)
  | 5 => ("AccusedChoose$Night", "could", "[I", true)
  | 6 => ("AccusedChoose$Night", "did", "[I", true)
  | 7 => ("AccusedChoose$Night", "brother", "[I", true)
  | 8 => ("AccusedChoose$Night", "alibis", "[I", true)
  | _ => ("AccusedChoose$Night", "order", "[I", true)
def t_NI : Nat → FieldType := fun k => match k with
  | 0 => .int
  | 1 => .int
  | 2 => .array .int
  | 3 => .array .int
  | 4 => .array .int
  | 5 => .array .int
  | 6 => .array .int
  | 7 => .array .int
  | 8 => .array .int
  | _ => .array .int
theorem n_NI : ∀ a, a < 10 → ∀ b, b < 10 → a ≠ b → (T_NI a).2.1 ≠ (T_NI b).2.1 := by decide +kernel
theorem t_NI_ok : ∀ k, k < 10 → parseFieldDescriptor (T_NI k).2.2.1 = some (t_NI k) := by decide +kernel
def R_OR : String := "AccusedChoose$Orders"
def T_OR : u_T := fun k => match k with
  | 0 => ("AccusedChoose$Orders", "length", "I", false)
  | 1 => ("AccusedChoose$Orders", "keptLength", "I", false)
  | 2 => ("AccusedChoose$Orders", "order", "[I", true)
  | _ => ("AccusedChoose$Orders", "kept", "[I", true)
def t_OR : Nat → FieldType := fun k => match k with
  | 0 => .int
  | 1 => .int
  | 2 => .array .int
  | _ => .array .int
theorem n_OR : ∀ a, a < 4 → ∀ b, b < 4 → a ≠ b → (T_OR a).2.1 ≠ (T_OR b).2.1 := by decide +kernel
theorem t_OR_ok : ∀ k, k < 4 → parseFieldDescriptor (T_OR k).2.2.1 = some (t_OR k) := by decide +kernel
def R_PA : String := "AccusedChoose$Past"
def T_PA : u_T := fun k => match k with
  | 0 => ("AccusedChoose$Past", "count", "I", false)
  | 1 => ("AccusedChoose$Past", "sort", "[I", true)
  | 2 => ("AccusedChoose$Past", "one", "[I", true)
  | 3 => ("AccusedChoose$Past", "two", "[I", true)
  | 4 => ("AccusedChoose$Past", "oneHad", "[I", true)
  | _ => ("AccusedChoose$Past", "twoHad", "[I", true)
def t_PA : Nat → FieldType := fun k => match k with
  | 0 => .int
  | 1 => .array .int
  | 2 => .array .int
  | 3 => .array .int
  | 4 => .array .int
  | _ => .array .int
theorem n_PA : ∀ a, a < 6 → ∀ b, b < 6 → a ≠ b → (T_PA a).2.1 ≠ (T_PA b).2.1 := by decide +kernel
theorem t_PA_ok : ∀ k, k < 6 → parseFieldDescriptor (T_PA k).2.2.1 = some (t_PA k) := by decide +kernel
def R_PR : String := "AccusedChoose$Prices"
def T_PR : u_T := fun k => match k with
  | 0 => ("AccusedChoose$Prices", "people", "I", false)
  | 1 => ("AccusedChoose$Prices", "deeds", "I", false)
  | _ => ("AccusedChoose$Prices", "cells", "[I", true)
def t_PR : Nat → FieldType := fun k => match k with
  | 0 => .int
  | 1 => .int
  | _ => .array .int
theorem n_PR : ∀ a, a < 3 → ∀ b, b < 3 → a ≠ b → (T_PR a).2.1 ≠ (T_PR b).2.1 := by decide +kernel
theorem t_PR_ok : ∀ k, k < 3 → parseFieldDescriptor (T_PR k).2.2.1 = some (t_PR k) := by decide +kernel
def R_TA : String := "AccusedChoose$Table"
def T_TA : u_T := fun k => match k with
  | _ => ("AccusedChoose$Table", "cells", "[I", true)
def t_TA : Nat → FieldType := fun k => match k with
  | _ => .array .int
theorem n_TA : ∀ a, a < 1 → ∀ b, b < 1 → a ≠ b → (T_TA a).2.1 ≠ (T_TA b).2.1 := by decide +kernel
theorem t_TA_ok : ∀ k, k < 1 → parseFieldDescriptor (T_TA k).2.2.1 = some (t_TA k) := by decide +kernel
def R_AC : String := "AccusedChoose"
def T_AC : u_T := fun k => match k with
  | 0 => ("AccusedChoose", "now", "LAccusedChoose$Night;", true)
  | 1 => ("AccusedChoose", "image", "LAccusedChoose$Night;", true)
  | 2 => ("AccusedChoose", "trial", "LAccusedChoose$Night;", true)
  | 3 => ("AccusedChoose", "past", "LAccusedChoose$Past;", true)
  | 4 => ("AccusedChoose", "letters", "LAccusedChoose$Letters;", true)
  | 5 => ("AccusedChoose", "prices", "LAccusedChoose$Prices;", true)
  | 6 => ("AccusedChoose", "trialPrices", "LAccusedChoose$Prices;", true)
  | 7 => ("AccusedChoose", "today", "LAccusedChoose$Morning;", true)
  | 8 => ("AccusedChoose", "other", "LAccusedChoose$Morning;", true)
  | 9 => ("AccusedChoose", "lastBack", "LAccusedChoose$LastBack;", true)
  | 10 => ("AccusedChoose", "table", "LAccusedChoose$Table;", true)
  | 11 => ("AccusedChoose", "orders", "LAccusedChoose$Orders;", true)
  | 12 => ("AccusedChoose", "line", "[I", true)
  | 13 => ("AccusedChoose", "ways", "[I", true)
  | 14 => ("AccusedChoose", "told", "[I", true)
  | 15 => ("AccusedChoose", "refused", "[I", true)
  | 16 => ("AccusedChoose", "toldCount", "I", false)
  | _ => ("AccusedChoose", "imaged", "Z", false)
def t_AC : Nat → FieldType := fun k => match k with
  | 0 => .object "AccusedChoose$Night"
  | 1 => .object "AccusedChoose$Night"
  | 2 => .object "AccusedChoose$Night"
  | 3 => .object "AccusedChoose$Past"
  | 4 => .object "AccusedChoose$Letters"
  | 5 => .object "AccusedChoose$Prices"
  | 6 => .object "AccusedChoose$Prices"
  | 7 => .object "AccusedChoose$Morning"
  | 8 => .object "AccusedChoose$Morning"
  | 9 => .object "AccusedChoose$LastBack"
  | 10 => .object "AccusedChoose$Table"
  | 11 => .object "AccusedChoose$Orders"
  | 12 => .array .int
  | 13 => .array .int
  | 14 => .array .int
  | 15 => .array .int
  | 16 => .int
  | _ => .boolean
theorem n_AC : ∀ a, a < 18 → ∀ b, b < 18 → a ≠ b → (T_AC a).2.1 ≠ (T_AC b).2.1 := by decide +kernel
theorem t_AC_ok : ∀ k, k < 18 → parseFieldDescriptor (T_AC k).2.2.1 = some (t_AC k) := by decide +kernel
def R_MD : String := "AccusedChooseModel"
def T_MD : u_T := fun k => match k with
  | 0 => ("AccusedChooseModel", "refused", "[I", true)
  | 1 => ("AccusedChooseModel", "kind", "[I", true)
  | 2 => ("AccusedChooseModel", "figure", "[I", true)
  | 3 => ("AccusedChooseModel", "record", "[I", true)
  | 4 => ("AccusedChooseModel", "could", "[I", true)
  | 5 => ("AccusedChooseModel", "did", "[I", true)
  | 6 => ("AccusedChooseModel", "brother", "[I", true)
  | 7 => ("AccusedChooseModel", "alibis", "[I", true)
  | 8 => ("AccusedChooseModel", "order", "[I", true)
  | 9 => ("AccusedChooseModel", "deeds", "I", false)
  | 10 => ("AccusedChooseModel", "people", "I", false)
  | 11 => ("AccusedChooseModel", "tape", "[I", true)
  | 12 => ("AccusedChooseModel", "letter", "[I", true)
  | 13 => ("AccusedChooseModel", "letterAt", "[I", true)
  | 14 => ("AccusedChooseModel", "told", "[I", true)
  | 15 => ("AccusedChooseModel", "taped", "I", false)
  | 16 => ("AccusedChooseModel", "at", "I", false)
  | 17 => ("AccusedChooseModel", "statements", "I", false)
  | 18 => ("AccusedChooseModel", "kept", "[I", true)
  | 19 => ("AccusedChooseModel", "hasImage", "Z", false)
  | 20 => ("AccusedChooseModel", "isKeeping", "Z", false)
  | 21 => ("AccusedChooseModel", "cursor", "I", false)
  | 22 => ("AccusedChooseModel", "backs", "I", false)
  | 23 => ("AccusedChooseModel", "toldDeeds", "I", false)
  | 24 => ("AccusedChooseModel", "takes", "[I", true)
  | 25 => ("AccusedChooseModel", "by", "[I", true)
  | 26 => ("AccusedChooseModel", "gone", "I", false)
  | 27 => ("AccusedChooseModel", "least", "[I", true)
  | 28 => ("AccusedChooseModel", "chosen", "[I", true)
  | 29 => ("AccusedChooseModel", "monthsAll", "[I", true)
  | 30 => ("AccusedChooseModel", "ways", "[J", true)
  | 31 => ("AccusedChooseModel", "key", "[I", true)
  | 32 => ("AccusedChooseModel", "found", "[I", true)
  | 33 => ("AccusedChooseModel", "foundValue", "I", false)
  | 34 => ("AccusedChooseModel", "row", "[I", true)
  | _ => ("AccusedChooseModel", "rowMany", "I", false)
def t_MD : Nat → FieldType := fun k => match k with
  | 0 => .array .int
  | 1 => .array .int
  | 2 => .array .int
  | 3 => .array .int
  | 4 => .array .int
  | 5 => .array .int
  | 6 => .array .int
  | 7 => .array .int
  | 8 => .array .int
  | 9 => .int
  | 10 => .int
  | 11 => .array .int
  | 12 => .array .int
  | 13 => .array .int
  | 14 => .array .int
  | 15 => .int
  | 16 => .int
  | 17 => .int
  | 18 => .array .int
  | 19 => .boolean
  | 20 => .boolean
  | 21 => .int
  | 22 => .int
  | 23 => .int
  | 24 => .array .int
  | 25 => .array .int
  | 26 => .int
  | 27 => .array .int
  | 28 => .array .int
  | 29 => .array .int
  | 30 => .array .long
  | 31 => .array .int
  | 32 => .array .int
  | 33 => .int
  | 34 => .array .int
  | _ => .int
theorem n_MD : ∀ a, a < 36 → ∀ b, b < 36 → a ≠ b → (T_MD a).2.1 ≠ (T_MD b).2.1 := by decide +kernel
theorem t_MD_ok : ∀ k, k < 36 → parseFieldDescriptor (T_MD k).2.2.1 = some (t_MD k) := by decide +kernel
abbrev classes : List vw_C := [(R_LB, T_LB, 3), (R_LT, T_LT, 2), (R_MO, T_MO, 6), (R_NI, T_NI, 10), (R_OR, T_OR, 4), (R_PA, T_PA, 6), (R_PR, T_PR, 3), (R_TA, T_TA, 1), (R_AC, T_AC, 18), (R_MD, T_MD, 36)]
abbrev ShE : Type := (Nat × List (Option Nat)) ⊕ (Bool × Nat)
def shp : List ShE := [
  .inl (8, [some 1, some 10, some 19, some 28, some 34, some 36, some 38, some 40, some 43, some 46, some 49, some 51, some 54, some 55, some 56, some 57, none, none]),
  .inl (3, [none, none, some 2, some 3, some 4, some 5, some 6, some 7, some 8, some 9]),
  .inr (false, 14),
  .inr (false, 14),
  .inr (false, 7),
  .inr (false, 7),
  .inr (false, 7),
  .inr (false, 7),
  .inr (false, 7),
  .inr (false, 7),
  .inl (3, [none, none, some 11, some 12, some 13, some 14, some 15, some 16, some 17, some 18]),
  .inr (false, 14),
  .inr (false, 14),
  .inr (false, 7),
  .inr (false, 7),
  .inr (false, 7),
  .inr (false, 7),
  .inr (false, 7),
  .inr (false, 7),
  .inl (3, [none, none, some 20, some 21, some 22, some 23, some 24, some 25, some 26, some 27]),
  .inr (false, 14),
  .inr (false, 14),
  .inr (false, 7),
  .inr (false, 7),
  .inr (false, 7),
  .inr (false, 7),
  .inr (false, 7),
  .inr (false, 7),
  .inl (5, [none, some 29, some 30, some 31, some 32, some 33]),
  .inr (false, 8),
  .inr (false, 8),
  .inr (false, 8),
  .inr (false, 8),
  .inr (false, 8),
  .inl (1, [none, some 35]),
  .inr (false, 96),
  .inl (6, [none, none, some 37]),
  .inr (false, 98),
  .inl (6, [none, none, some 39]),
  .inr (false, 98),
  .inl (2, [some 41, some 42, none, none, none, none]),
  .inr (false, 7),
  .inr (false, 7),
  .inl (2, [some 44, some 45, none, none, none, none]),
  .inr (false, 7),
  .inr (false, 7),
  .inl (0, [some 47, some 48, none]),
  .inr (false, 7),
  .inr (false, 7),
  .inl (7, [some 50]),
  .inr (false, 1024),
  .inl (4, [none, none, some 52, some 53]),
  .inr (false, 7),
  .inr (false, 7),
  .inr (false, 7),
  .inr (false, 128),
  .inr (false, 12),
  .inr (false, 7),
  .inl (9, [some 59, some 60, some 61, some 62, some 63, some 64, some 65, some 66, some 67, none, none, some 68, some 69, some 70, some 71, none, none, none, some 72, none, none, none, none, none, some 73, some 74, none, some 75, some 76, some 77, some 78, some 79, some 80, none, some 81, none]),
  .inr (false, 7),
  .inr (false, 14),
  .inr (false, 14),
  .inr (false, 7),
  .inr (false, 7),
  .inr (false, 7),
  .inr (false, 7),
  .inr (false, 7),
  .inr (false, 7),
  .inr (false, 96),
  .inr (false, 48),
  .inr (false, 48),
  .inr (false, 144),
  .inr (false, 800),
  .inr (false, 7),
  .inr (false, 7),
  .inr (false, 1024),
  .inr (false, 1024),
  .inr (false, 7168),
  .inr (true, 128),
  .inr (false, 7),
  .inr (false, 7),
  .inr (false, 12)]
def NC : Nat := 82
theorem shp_len : shp.length = NC := rfl
def isIA (a : Nat) : Prop := ∃ n, shp[a]? = some (.inr (false, n)) ∧ n < 2 ^ 31
def alen (a : Nat) : Nat := match shp[a]? with | some (.inr (_, n)) => n | _ => 0
theorem ia_2 : isIA 2 := ⟨14, rfl, by decide⟩
theorem al_2 : alen 2 = 14 := rfl
theorem ia_3 : isIA 3 := ⟨14, rfl, by decide⟩
theorem al_3 : alen 3 = 14 := rfl
theorem ia_4 : isIA 4 := ⟨7, rfl, by decide⟩
theorem al_4 : alen 4 = 7 := rfl
theorem ia_5 : isIA 5 := ⟨7, rfl, by decide⟩
theorem al_5 : alen 5 = 7 := rfl
theorem ia_6 : isIA 6 := ⟨7, rfl, by decide⟩
theorem al_6 : alen 6 = 7 := rfl
theorem ia_7 : isIA 7 := ⟨7, rfl, by decide⟩
theorem al_7 : alen 7 = 7 := rfl
theorem ia_8 : isIA 8 := ⟨7, rfl, by decide⟩
theorem al_8 : alen 8 = 7 := rfl
theorem ia_9 : isIA 9 := ⟨7, rfl, by decide⟩
theorem al_9 : alen 9 = 7 := rfl
theorem ia_11 : isIA 11 := ⟨14, rfl, by decide⟩
theorem al_11 : alen 11 = 14 := rfl
theorem ia_12 : isIA 12 := ⟨14, rfl, by decide⟩
theorem al_12 : alen 12 = 14 := rfl
theorem ia_13 : isIA 13 := ⟨7, rfl, by decide⟩
theorem al_13 : alen 13 = 7 := rfl
theorem ia_14 : isIA 14 := ⟨7, rfl, by decide⟩
theorem al_14 : alen 14 = 7 := rfl
theorem ia_15 : isIA 15 := ⟨7, rfl, by decide⟩
theorem al_15 : alen 15 = 7 := rfl
theorem ia_16 : isIA 16 := ⟨7, rfl, by decide⟩
theorem al_16 : alen 16 = 7 := rfl
theorem ia_17 : isIA 17 := ⟨7, rfl, by decide⟩
theorem al_17 : alen 17 = 7 := rfl
theorem ia_18 : isIA 18 := ⟨7, rfl, by decide⟩
theorem al_18 : alen 18 = 7 := rfl
theorem ia_20 : isIA 20 := ⟨14, rfl, by decide⟩
theorem al_20 : alen 20 = 14 := rfl
theorem ia_21 : isIA 21 := ⟨14, rfl, by decide⟩
theorem al_21 : alen 21 = 14 := rfl
theorem ia_22 : isIA 22 := ⟨7, rfl, by decide⟩
theorem al_22 : alen 22 = 7 := rfl
theorem ia_23 : isIA 23 := ⟨7, rfl, by decide⟩
theorem al_23 : alen 23 = 7 := rfl
theorem ia_24 : isIA 24 := ⟨7, rfl, by decide⟩
theorem al_24 : alen 24 = 7 := rfl
theorem ia_25 : isIA 25 := ⟨7, rfl, by decide⟩
theorem al_25 : alen 25 = 7 := rfl
theorem ia_26 : isIA 26 := ⟨7, rfl, by decide⟩
theorem al_26 : alen 26 = 7 := rfl
theorem ia_27 : isIA 27 := ⟨7, rfl, by decide⟩
theorem al_27 : alen 27 = 7 := rfl
theorem ia_29 : isIA 29 := ⟨8, rfl, by decide⟩
theorem al_29 : alen 29 = 8 := rfl
theorem ia_30 : isIA 30 := ⟨8, rfl, by decide⟩
theorem al_30 : alen 30 = 8 := rfl
theorem ia_31 : isIA 31 := ⟨8, rfl, by decide⟩
theorem al_31 : alen 31 = 8 := rfl
theorem ia_32 : isIA 32 := ⟨8, rfl, by decide⟩
theorem al_32 : alen 32 = 8 := rfl
theorem ia_33 : isIA 33 := ⟨8, rfl, by decide⟩
theorem al_33 : alen 33 = 8 := rfl
theorem ia_35 : isIA 35 := ⟨96, rfl, by decide⟩
theorem al_35 : alen 35 = 96 := rfl
theorem ia_37 : isIA 37 := ⟨98, rfl, by decide⟩
theorem al_37 : alen 37 = 98 := rfl
theorem ia_39 : isIA 39 := ⟨98, rfl, by decide⟩
theorem al_39 : alen 39 = 98 := rfl
theorem ia_41 : isIA 41 := ⟨7, rfl, by decide⟩
theorem al_41 : alen 41 = 7 := rfl
theorem ia_42 : isIA 42 := ⟨7, rfl, by decide⟩
theorem al_42 : alen 42 = 7 := rfl
theorem ia_44 : isIA 44 := ⟨7, rfl, by decide⟩
theorem al_44 : alen 44 = 7 := rfl
theorem ia_45 : isIA 45 := ⟨7, rfl, by decide⟩
theorem al_45 : alen 45 = 7 := rfl
theorem ia_47 : isIA 47 := ⟨7, rfl, by decide⟩
theorem al_47 : alen 47 = 7 := rfl
theorem ia_48 : isIA 48 := ⟨7, rfl, by decide⟩
theorem al_48 : alen 48 = 7 := rfl
theorem ia_50 : isIA 50 := ⟨1024, rfl, by decide⟩
theorem al_50 : alen 50 = 1024 := rfl
theorem ia_52 : isIA 52 := ⟨7, rfl, by decide⟩
theorem al_52 : alen 52 = 7 := rfl
theorem ia_53 : isIA 53 := ⟨7, rfl, by decide⟩
theorem al_53 : alen 53 = 7 := rfl
theorem ia_54 : isIA 54 := ⟨7, rfl, by decide⟩
theorem al_54 : alen 54 = 7 := rfl
theorem ia_55 : isIA 55 := ⟨128, rfl, by decide⟩
theorem al_55 : alen 55 = 128 := rfl
theorem ia_56 : isIA 56 := ⟨12, rfl, by decide⟩
theorem al_56 : alen 56 = 12 := rfl
theorem ia_57 : isIA 57 := ⟨7, rfl, by decide⟩
theorem al_57 : alen 57 = 7 := rfl
theorem ia_59 : isIA 59 := ⟨7, rfl, by decide⟩
theorem al_59 : alen 59 = 7 := rfl
theorem ia_60 : isIA 60 := ⟨14, rfl, by decide⟩
theorem al_60 : alen 60 = 14 := rfl
theorem ia_61 : isIA 61 := ⟨14, rfl, by decide⟩
theorem al_61 : alen 61 = 14 := rfl
theorem ia_62 : isIA 62 := ⟨7, rfl, by decide⟩
theorem al_62 : alen 62 = 7 := rfl
theorem ia_63 : isIA 63 := ⟨7, rfl, by decide⟩
theorem al_63 : alen 63 = 7 := rfl
theorem ia_64 : isIA 64 := ⟨7, rfl, by decide⟩
theorem al_64 : alen 64 = 7 := rfl
theorem ia_65 : isIA 65 := ⟨7, rfl, by decide⟩
theorem al_65 : alen 65 = 7 := rfl
theorem ia_66 : isIA 66 := ⟨7, rfl, by decide⟩
theorem al_66 : alen 66 = 7 := rfl
theorem ia_67 : isIA 67 := ⟨7, rfl, by decide⟩
theorem al_67 : alen 67 = 7 := rfl
theorem ia_68 : isIA 68 := ⟨96, rfl, by decide⟩
theorem al_68 : alen 68 = 96 := rfl
theorem ia_69 : isIA 69 := ⟨48, rfl, by decide⟩
theorem al_69 : alen 69 = 48 := rfl
theorem ia_70 : isIA 70 := ⟨48, rfl, by decide⟩
theorem al_70 : alen 70 = 48 := rfl
theorem ia_71 : isIA 71 := ⟨144, rfl, by decide⟩
theorem al_71 : alen 71 = 144 := rfl
theorem ia_72 : isIA 72 := ⟨800, rfl, by decide⟩
theorem al_72 : alen 72 = 800 := rfl
theorem ia_73 : isIA 73 := ⟨7, rfl, by decide⟩
theorem al_73 : alen 73 = 7 := rfl
theorem ia_74 : isIA 74 := ⟨7, rfl, by decide⟩
theorem al_74 : alen 74 = 7 := rfl
theorem ia_75 : isIA 75 := ⟨1024, rfl, by decide⟩
theorem al_75 : alen 75 = 1024 := rfl
theorem ia_76 : isIA 76 := ⟨1024, rfl, by decide⟩
theorem al_76 : alen 76 = 1024 := rfl
theorem ia_77 : isIA 77 := ⟨7168, rfl, by decide⟩
theorem al_77 : alen 77 = 7168 := rfl
theorem ia_79 : isIA 79 := ⟨7, rfl, by decide⟩
theorem al_79 : alen 79 = 7 := rfl
theorem ia_80 : isIA 80 := ⟨7, rfl, by decide⟩
theorem al_80 : alen 80 = 7 := rfl
theorem ia_81 : isIA 81 := ⟨12, rfl, by decide⟩
theorem al_81 : alen 81 = 12 := rfl
def isNI (i : Nat) : Prop := i = 1 ∨ i = 10 ∨ i = 19
theorem isNI_1 : isNI 1 := Or.inl rfl
theorem isNI_10 : isNI 10 := Or.inr (Or.inl rfl)
theorem isNI_19 : isNI 19 := Or.inr (Or.inr (rfl))
theorem sh_NI {i : Nat} (h : isNI i) : shp[i]? = some (.inl (3, [none, none, some (i + 1), some (i + 2), some (i + 3), some (i + 4), some (i + 5), some (i + 6), some (i + 7), some (i + 8)])) := by rcases h with rfl | rfl | rfl <;> rfl
theorem ia_NI1 {i : Nat} (h : isNI i) : isIA (i + 1) := by rcases h with rfl | rfl | rfl <;> exact ⟨_, rfl, by decide⟩
theorem al_NI1 {i : Nat} (h : isNI i) : alen (i + 1) = 14 := by rcases h with rfl | rfl | rfl <;> rfl
theorem ia_NI2 {i : Nat} (h : isNI i) : isIA (i + 2) := by rcases h with rfl | rfl | rfl <;> exact ⟨_, rfl, by decide⟩
theorem al_NI2 {i : Nat} (h : isNI i) : alen (i + 2) = 14 := by rcases h with rfl | rfl | rfl <;> rfl
theorem ia_NI3 {i : Nat} (h : isNI i) : isIA (i + 3) := by rcases h with rfl | rfl | rfl <;> exact ⟨_, rfl, by decide⟩
theorem al_NI3 {i : Nat} (h : isNI i) : alen (i + 3) = 7 := by rcases h with rfl | rfl | rfl <;> rfl
theorem ia_NI4 {i : Nat} (h : isNI i) : isIA (i + 4) := by rcases h with rfl | rfl | rfl <;> exact ⟨_, rfl, by decide⟩
theorem al_NI4 {i : Nat} (h : isNI i) : alen (i + 4) = 7 := by rcases h with rfl | rfl | rfl <;> rfl
theorem ia_NI5 {i : Nat} (h : isNI i) : isIA (i + 5) := by rcases h with rfl | rfl | rfl <;> exact ⟨_, rfl, by decide⟩
theorem al_NI5 {i : Nat} (h : isNI i) : alen (i + 5) = 7 := by rcases h with rfl | rfl | rfl <;> rfl
theorem ia_NI6 {i : Nat} (h : isNI i) : isIA (i + 6) := by rcases h with rfl | rfl | rfl <;> exact ⟨_, rfl, by decide⟩
theorem al_NI6 {i : Nat} (h : isNI i) : alen (i + 6) = 7 := by rcases h with rfl | rfl | rfl <;> rfl
theorem ia_NI7 {i : Nat} (h : isNI i) : isIA (i + 7) := by rcases h with rfl | rfl | rfl <;> exact ⟨_, rfl, by decide⟩
theorem al_NI7 {i : Nat} (h : isNI i) : alen (i + 7) = 7 := by rcases h with rfl | rfl | rfl <;> rfl
theorem ia_NI8 {i : Nat} (h : isNI i) : isIA (i + 8) := by rcases h with rfl | rfl | rfl <;> exact ⟨_, rfl, by decide⟩
theorem al_NI8 {i : Nat} (h : isNI i) : alen (i + 8) = 7 := by rcases h with rfl | rfl | rfl <;> rfl
def isPR (i : Nat) : Prop := i = 36 ∨ i = 38
theorem isPR_36 : isPR 36 := Or.inl rfl
theorem isPR_38 : isPR 38 := Or.inr (rfl)
theorem sh_PR {i : Nat} (h : isPR i) : shp[i]? = some (.inl (6, [none, none, some (i + 1)])) := by rcases h with rfl | rfl <;> rfl
theorem ia_PR1 {i : Nat} (h : isPR i) : isIA (i + 1) := by rcases h with rfl | rfl <;> exact ⟨_, rfl, by decide⟩
theorem al_PR1 {i : Nat} (h : isPR i) : alen (i + 1) = 98 := by rcases h with rfl | rfl <;> rfl
def isMO (i : Nat) : Prop := i = 40 ∨ i = 43
theorem isMO_40 : isMO 40 := Or.inl rfl
theorem isMO_43 : isMO 43 := Or.inr (rfl)
theorem sh_MO {i : Nat} (h : isMO i) : shp[i]? = some (.inl (2, [some (i + 1), some (i + 2), none, none, none, none])) := by rcases h with rfl | rfl <;> rfl
theorem ia_MO1 {i : Nat} (h : isMO i) : isIA (i + 1) := by rcases h with rfl | rfl <;> exact ⟨_, rfl, by decide⟩
theorem al_MO1 {i : Nat} (h : isMO i) : alen (i + 1) = 7 := by rcases h with rfl | rfl <;> rfl
theorem ia_MO2 {i : Nat} (h : isMO i) : isIA (i + 2) := by rcases h with rfl | rfl <;> exact ⟨_, rfl, by decide⟩
theorem al_MO2 {i : Nat} (h : isMO i) : alen (i + 2) = 7 := by rcases h with rfl | rfl <;> rfl
theorem sh_LB : shp[46]? = some (.inl (0, [some 47, some 48, none])) := rfl
theorem sh_LT : shp[34]? = some (.inl (1, [none, some 35])) := rfl
theorem sh_OR : shp[51]? = some (.inl (4, [none, none, some 52, some 53])) := rfl
theorem sh_PA : shp[28]? = some (.inl (5, [none, some 29, some 30, some 31, some 32, some 33])) := rfl
theorem sh_TA : shp[49]? = some (.inl (7, [some 50])) := rfl
theorem sh_AC : shp[0]? = some (.inl (8, [some 1, some 10, some 19, some 28, some 34, some 36, some 38, some 40, some 43, some 46, some 49, some 51, some 54, some 55, some 56, some 57, none, none])) := rfl
theorem sh_MD : shp[58]? = some (.inl (9, [some 59, some 60, some 61, some 62, some 63, some 64, some 65, some 66, some 67, none, none, some 68, some 69, some 70, some 71, none, none, none, some 72, none, none, none, none, none, some 73, some 74, none, some 75, some 76, some 77, some 78, some 79, some 80, none, some 81, none])) := rfl
def tb : List Cond := lw_tbl.filter goodWord
theorem tb_mem {w : Cond} (i : Nat) (h : lw_tbl[i]? = some w) (hg : goodWord w = true) : w ∈ tb := List.mem_filter.mpr ⟨List.mem_of_getElem? h, hg⟩
theorem tb_list (ws : List Cond) (is : List Nat) (h : ws.map some = is.map (fun i => lw_tbl[i]?)) (hg : ws.all goodWord = true) : ∀ w ∈ ws, w ∈ tb := by
  intro w hw
  have h1 : some w ∈ ws.map some := List.mem_map_of_mem hw
  rw [h] at h1
  obtain ⟨i, -, hi⟩ := List.mem_map.mp h1
  exact tb_mem i hi (List.all_eq_true.mp hg w hw)
theorem in_LB : ∀ w ∈ u_ws R_LB T_LB 3, w ∈ tb := by
  have h : (u_ws R_LB T_LB 3).map some = [281, 283, 285].map (fun i => lw_tbl[i]?) := by decide +kernel
  have g : (u_ws R_LB T_LB 3).all goodWord = true := by decide +kernel
  exact tb_list _ _ h g
theorem in_LT : ∀ w ∈ u_ws R_LT T_LT 2, w ∈ tb := by
  have h : (u_ws R_LT T_LT 2).map some = [214, 216].map (fun i => lw_tbl[i]?) := by decide +kernel
  have g : (u_ws R_LT T_LT 2).all goodWord = true := by decide +kernel
  exact tb_list _ _ h g
theorem in_MO : ∀ w ∈ u_ws R_MO T_MO 6, w ∈ tb := by
  have h : (u_ws R_MO T_MO 6).map some = [256, 258, 260, 262, 264, 266].map (fun i => lw_tbl[i]?) := by decide +kernel
  have g : (u_ws R_MO T_MO 6).all goodWord = true := by decide +kernel
  exact tb_list _ _ h g
theorem in_NI : ∀ w ∈ u_ws R_NI T_NI 10, w ∈ tb := by
  have h : (u_ws R_NI T_NI 10).map some = [157, 159, 161, 163, 165, 167, 169, 171, 173, 175].map (fun i => lw_tbl[i]?) := by decide +kernel
  have g : (u_ws R_NI T_NI 10).all goodWord = true := by decide +kernel
  exact tb_list _ _ h g
theorem in_OR : ∀ w ∈ u_ws R_OR T_OR 4, w ∈ tb := by
  have h : (u_ws R_OR T_OR 4).map some = [309, 311, 313, 315].map (fun i => lw_tbl[i]?) := by decide +kernel
  have g : (u_ws R_OR T_OR 4).all goodWord = true := by decide +kernel
  exact tb_list _ _ h g
theorem in_PA : ∀ w ∈ u_ws R_PA T_PA 6, w ∈ tb := by
  have h : (u_ws R_PA T_PA 6).map some = [192, 194, 196, 198, 200, 202].map (fun i => lw_tbl[i]?) := by decide +kernel
  have g : (u_ws R_PA T_PA 6).all goodWord = true := by decide +kernel
  exact tb_list _ _ h g
theorem in_PR : ∀ w ∈ u_ws R_PR T_PR 3, w ∈ tb := by
  have h : (u_ws R_PR T_PR 3).map some = [232, 234, 236].map (fun i => lw_tbl[i]?) := by decide +kernel
  have g : (u_ws R_PR T_PR 3).all goodWord = true := by decide +kernel
  exact tb_list _ _ h g
theorem in_TA : ∀ w ∈ u_ws R_TA T_TA 1, w ∈ tb := by
  have h : (u_ws R_TA T_TA 1).map some = [295].map (fun i => lw_tbl[i]?) := by decide +kernel
  have g : (u_ws R_TA T_TA 1).all goodWord = true := by decide +kernel
  exact tb_list _ _ h g
theorem in_AC : ∀ w ∈ u_ws R_AC T_AC 18, w ∈ tb := by
  have h : (u_ws R_AC T_AC 18).map some = [336, 338, 340, 342, 344, 346, 348, 350, 352, 354, 356, 358, 360, 362, 364, 366, 368, 370].map (fun i => lw_tbl[i]?) := by decide +kernel
  have g : (u_ws R_AC T_AC 18).all goodWord = true := by decide +kernel
  exact tb_list _ _ h g
theorem in_MD : ∀ w ∈ u_ws R_MD T_MD 36, w ∈ tb := by
  have h : (u_ws R_MD T_MD 36).map some = [1063, 1065, 1067, 1069, 1071, 1073, 1075, 1077, 1079, 1081, 1083, 1085, 1087, 1089, 1091, 1093, 1095, 1097, 1099, 1101, 1103, 1105, 1107, 1109, 1111, 1113, 1115, 1117, 1119, 1121, 1123, 1125, 1127, 1129, 1131, 1133].map (fun i => lw_tbl[i]?) := by decide +kernel
  have g : (u_ws R_MD T_MD 36).all goodWord = true := by decide +kernel
  exact tb_list _ _ h g
abbrev b_LB_init : ByteArray := prog_2_method_1_code
abbrev y_LB_init : MethodName := ⟨"AccusedChoose$LastBack", "<init>", "()V"⟩
abbrev b_LB_hold : ByteArray := prog_2_method_2_code
abbrev y_LB_hold : MethodName := ⟨"AccusedChoose$LastBack", "hold", "(LAccusedChoose$Prices;LAccusedChoose$Night;)V"⟩
abbrev b_LB_choice : ByteArray := prog_2_method_3_code
abbrev y_LB_choice : MethodName := ⟨"AccusedChoose$LastBack", "choice", "(LAccusedChoose$Prices;LAccusedChoose$Night;II)I"⟩
abbrev b_LB_monthsBehind : ByteArray := prog_2_method_4_code
abbrev y_LB_monthsBehind : MethodName := ⟨"AccusedChoose$LastBack", "monthsBehind", "(LAccusedChoose$Prices;LAccusedChoose$Night;III)I"⟩
abbrev b_LT_init : ByteArray := prog_3_method_1_code
abbrev y_LT_init : MethodName := ⟨"AccusedChoose$Letters", "<init>", "()V"⟩
abbrev b_LT_isFull : ByteArray := prog_3_method_2_code
abbrev y_LT_isFull : MethodName := ⟨"AccusedChoose$Letters", "isFull", "()Z"⟩
abbrev b_LT_add : ByteArray := prog_3_method_3_code
abbrev y_LT_add : MethodName := ⟨"AccusedChoose$Letters", "add", "(I)I"⟩
abbrev b_LT_drop : ByteArray := prog_3_method_4_code
abbrev y_LT_drop : MethodName := ⟨"AccusedChoose$Letters", "drop", "()V"⟩
abbrev b_LT_tell : ByteArray := prog_3_method_5_code
abbrev y_LT_tell : MethodName := ⟨"AccusedChoose$Letters", "tell", "(LAccusedChoose$Night;)I"⟩
abbrev b_LT_placeOfWrongLetter : ByteArray := prog_3_method_6_code
abbrev y_LT_placeOfWrongLetter : MethodName := ⟨"AccusedChoose$Letters", "placeOfWrongLetter", "()I"⟩
abbrev b_LT_digitsOf : ByteArray := prog_3_method_7_code
abbrev y_LT_digitsOf : MethodName := ⟨"AccusedChoose$Letters", "digitsOf", "(I)I"⟩
abbrev b_LT_digit : ByteArray := prog_3_method_8_code
abbrev y_LT_digit : MethodName := ⟨"AccusedChoose$Letters", "digit", "(I)I"⟩
abbrev b_LT_state : ByteArray := prog_3_method_9_code
abbrev y_LT_state : MethodName := ⟨"AccusedChoose$Letters", "state", "(LAccusedChoose$Night;I)Z"⟩
abbrev b_LT_stateDeed : ByteArray := prog_3_method_10_code
abbrev y_LT_stateDeed : MethodName := ⟨"AccusedChoose$Letters", "stateDeed", "(LAccusedChoose$Night;II)Z"⟩
abbrev b_LT_statePerson : ByteArray := prog_3_method_11_code
abbrev y_LT_statePerson : MethodName := ⟨"AccusedChoose$Letters", "statePerson", "(LAccusedChoose$Night;I)Z"⟩
abbrev b_MO_init : ByteArray := prog_4_method_1_code
abbrev y_MO_init : MethodName := ⟨"AccusedChoose$Morning", "<init>", "()V"⟩
abbrev b_MO_hold : ByteArray := prog_4_method_2_code
abbrev y_MO_hold : MethodName := ⟨"AccusedChoose$Morning", "hold", "(LAccusedChoose$Prices;[II)V"⟩
abbrev b_MO_holdTrue : ByteArray := prog_4_method_3_code
abbrev y_MO_holdTrue : MethodName := ⟨"AccusedChoose$Morning", "holdTrue", "(LAccusedChoose$Prices;LAccusedChoose$Night;)V"⟩
abbrev b_MO_begin : ByteArray := prog_4_method_4_code
abbrev y_MO_begin : MethodName := ⟨"AccusedChoose$Morning", "begin", "(II)V"⟩
abbrev b_MO_seat : ByteArray := prog_4_method_5_code
abbrev y_MO_seat : MethodName := ⟨"AccusedChoose$Morning", "seat", "(LAccusedChoose$Prices;II)V"⟩
abbrev b_MO_most : ByteArray := prog_4_method_6_code
abbrev y_MO_most : MethodName := ⟨"AccusedChoose$Morning", "most", "()I"⟩
abbrev b_MO_monthsTaken : ByteArray := prog_4_method_7_code
abbrev y_MO_monthsTaken : MethodName := ⟨"AccusedChoose$Morning", "monthsTaken", "()I"⟩
abbrev b_MO_owners : ByteArray := prog_4_method_8_code
abbrev y_MO_owners : MethodName := ⟨"AccusedChoose$Morning", "owners", "(LAccusedChoose$Night;Z)I"⟩
abbrev b_NI_init : ByteArray := prog_5_method_1_code
abbrev y_NI_init : MethodName := ⟨"AccusedChoose$Night", "<init>", "()V"⟩
abbrev b_NI_copy : ByteArray := prog_5_method_2_code
abbrev y_NI_copy : MethodName := ⟨"AccusedChoose$Night", "copy", "(LAccusedChoose$Night;)V"⟩
abbrev b_NI_hasDeed : ByteArray := prog_5_method_3_code
abbrev y_NI_hasDeed : MethodName := ⟨"AccusedChoose$Night", "hasDeed", "(I)Z"⟩
abbrev b_NI_hasPerson : ByteArray := prog_5_method_4_code
abbrev y_NI_hasPerson : MethodName := ⟨"AccusedChoose$Night", "hasPerson", "(I)Z"⟩
abbrev b_NI_hasTwo : ByteArray := prog_5_method_5_code
abbrev y_NI_hasTwo : MethodName := ⟨"AccusedChoose$Night", "hasTwo", "(II)Z"⟩
abbrev b_NI_putDeed : ByteArray := prog_5_method_6_code
abbrev y_NI_putDeed : MethodName := ⟨"AccusedChoose$Night", "putDeed", "(II)I"⟩
abbrev b_NI_putPerson : ByteArray := prog_5_method_7_code
abbrev y_NI_putPerson : MethodName := ⟨"AccusedChoose$Night", "putPerson", "(III)I"⟩
abbrev b_NI_placeOf : ByteArray := prog_5_method_8_code
abbrev y_NI_placeOf : MethodName := ⟨"AccusedChoose$Night", "placeOf", "(I)I"⟩
abbrev b_NI_turnAlibi : ByteArray := prog_5_method_9_code
abbrev y_NI_turnAlibi : MethodName := ⟨"AccusedChoose$Night", "turnAlibi", "(II)V"⟩
abbrev b_NI_pair : ByteArray := prog_5_method_10_code
abbrev y_NI_pair : MethodName := ⟨"AccusedChoose$Night", "pair", "(II)V"⟩
abbrev b_NI_unpair : ByteArray := prog_5_method_11_code
abbrev y_NI_unpair : MethodName := ⟨"AccusedChoose$Night", "unpair", "(IIII)V"⟩
abbrev b_NI_allDeeds : ByteArray := prog_5_method_12_code
abbrev y_NI_allDeeds : MethodName := ⟨"AccusedChoose$Night", "allDeeds", "()I"⟩
abbrev b_NI_may : ByteArray := prog_5_method_13_code
abbrev y_NI_may : MethodName := ⟨"AccusedChoose$Night", "may", "(II)Z"⟩
abbrev b_NI_mayBits : ByteArray := prog_5_method_14_code
abbrev y_NI_mayBits : MethodName := ⟨"AccusedChoose$Night", "mayBits", "(I)I"⟩
abbrev b_NI_canHaveDone : ByteArray := prog_5_method_15_code
abbrev y_NI_canHaveDone : MethodName := ⟨"AccusedChoose$Night", "canHaveDone", "(II)Z"⟩
abbrev b_NI_monthsFor : ByteArray := prog_5_method_16_code
abbrev y_NI_monthsFor : MethodName := ⟨"AccusedChoose$Night", "monthsFor", "(II)I"⟩
abbrev b_NI_forgetLaterDids : ByteArray := prog_5_method_17_code
abbrev y_NI_forgetLaterDids : MethodName := ⟨"AccusedChoose$Night", "forgetLaterDids", "()V"⟩
abbrev b_NI_allRecords : ByteArray := prog_5_method_18_code
abbrev y_NI_allRecords : MethodName := ⟨"AccusedChoose$Night", "allRecords", "()I"⟩
abbrev b_NI_allAlibis : ByteArray := prog_5_method_19_code
abbrev y_NI_allAlibis : MethodName := ⟨"AccusedChoose$Night", "allAlibis", "()I"⟩
abbrev b_OR_init : ByteArray := prog_6_method_1_code
abbrev y_OR_init : MethodName := ⟨"AccusedChoose$Orders", "<init>", "()V"⟩
abbrev b_OR_begin : ByteArray := prog_6_method_2_code
abbrev y_OR_begin : MethodName := ⟨"AccusedChoose$Orders", "begin", "(I)V"⟩
abbrev b_OR_keep : ByteArray := prog_6_method_3_code
abbrev y_OR_keep : MethodName := ⟨"AccusedChoose$Orders", "keep", "()V"⟩
abbrev b_OR_keptAt : ByteArray := prog_6_method_4_code
abbrev y_OR_keptAt : MethodName := ⟨"AccusedChoose$Orders", "keptAt", "(I)I"⟩
abbrev b_OR_step : ByteArray := prog_6_method_5_code
abbrev y_OR_step : MethodName := ⟨"AccusedChoose$Orders", "step", "()Z"⟩
abbrev b_OR_exchange : ByteArray := prog_6_method_6_code
abbrev y_OR_exchange : MethodName := ⟨"AccusedChoose$Orders", "exchange", "(II)V"⟩
abbrev b_PA_init : ByteArray := prog_7_method_1_code
abbrev y_PA_init : MethodName := ⟨"AccusedChoose$Past", "<init>", "()V"⟩
abbrev b_PA_add : ByteArray := prog_7_method_2_code
abbrev y_PA_add : MethodName := ⟨"AccusedChoose$Past", "add", "(IIIII)V"⟩
abbrev b_PA_forget : ByteArray := prog_7_method_3_code
abbrev y_PA_forget : MethodName := ⟨"AccusedChoose$Past", "forget", "()V"⟩
abbrev b_PA_takeBack : ByteArray := prog_7_method_4_code
abbrev y_PA_takeBack : MethodName := ⟨"AccusedChoose$Past", "takeBack", "(LAccusedChoose$Night;)V"⟩
abbrev b_PA_dropOldest : ByteArray := prog_7_method_5_code
abbrev y_PA_dropOldest : MethodName := ⟨"AccusedChoose$Past", "dropOldest", "()V"⟩
abbrev b_PA_shift : ByteArray := prog_7_method_6_code
abbrev y_PA_shift : MethodName := ⟨"AccusedChoose$Past", "shift", "([I)V"⟩
abbrev b_PR_init : ByteArray := prog_8_method_1_code
abbrev y_PR_init : MethodName := ⟨"AccusedChoose$Prices", "<init>", "()V"⟩
abbrev b_PR_fill : ByteArray := prog_8_method_2_code
abbrev y_PR_fill : MethodName := ⟨"AccusedChoose$Prices", "fill", "(LAccusedChoose$Night;)V"⟩
abbrev b_PR_allows : ByteArray := prog_8_method_3_code
abbrev y_PR_allows : MethodName := ⟨"AccusedChoose$Prices", "allows", "(II)Z"⟩
abbrev b_PR_of : ByteArray := prog_8_method_4_code
abbrev y_PR_of : MethodName := ⟨"AccusedChoose$Prices", "of", "(II)I"⟩
abbrev b_PR_isThere : ByteArray := prog_8_method_5_code
abbrev y_PR_isThere : MethodName := ⟨"AccusedChoose$Prices", "isThere", "(II)Z"⟩
abbrev b_PR_lightest : ByteArray := prog_8_method_6_code
abbrev y_PR_lightest : MethodName := ⟨"AccusedChoose$Prices", "lightest", "(II)I"⟩
abbrev b_TA_init : ByteArray := prog_9_method_1_code
abbrev y_TA_init : MethodName := ⟨"AccusedChoose$Table", "<init>", "()V"⟩
abbrev b_TA_get : ByteArray := prog_9_method_2_code
abbrev y_TA_get : MethodName := ⟨"AccusedChoose$Table", "get", "(II)I"⟩
abbrev b_TA_set : ByteArray := prog_9_method_3_code
abbrev y_TA_set : MethodName := ⟨"AccusedChoose$Table", "set", "(III)V"⟩
abbrev b_TA_fillLeast : ByteArray := prog_9_method_4_code
abbrev y_TA_fillLeast : MethodName := ⟨"AccusedChoose$Table", "fillLeast", "(LAccusedChoose$Prices;)V"⟩
abbrev b_TA_leastFrom : ByteArray := prog_9_method_5_code
abbrev y_TA_leastFrom : MethodName := ⟨"AccusedChoose$Table", "leastFrom", "(LAccusedChoose$Prices;II)I"⟩
abbrev b_TA_leastDeed : ByteArray := prog_9_method_6_code
abbrev y_TA_leastDeed : MethodName := ⟨"AccusedChoose$Table", "leastDeed", "(LAccusedChoose$Prices;I)I"⟩
abbrev b_TA_leastStep : ByteArray := prog_9_method_7_code
abbrev y_TA_leastStep : MethodName := ⟨"AccusedChoose$Table", "leastStep", "(LAccusedChoose$Prices;II)I"⟩
abbrev b_TA_fillTogether : ByteArray := prog_9_method_8_code
abbrev y_TA_fillTogether : MethodName := ⟨"AccusedChoose$Table", "fillTogether", "(LAccusedChoose$Prices;[II)V"⟩
abbrev b_TA_chosen : ByteArray := prog_9_method_9_code
abbrev y_TA_chosen : MethodName := ⟨"AccusedChoose$Table", "chosen", "(LAccusedChoose$Prices;III)I"⟩
abbrev b_TA_passed : ByteArray := prog_9_method_10_code
abbrev y_TA_passed : MethodName := ⟨"AccusedChoose$Table", "passed", "(LAccusedChoose$Prices;III)I"⟩
abbrev b_TA_monthsWith : ByteArray := prog_9_method_11_code
abbrev y_TA_monthsWith : MethodName := ⟨"AccusedChoose$Table", "monthsWith", "(LAccusedChoose$Prices;IIII)I"⟩
abbrev b_TA_canBe : ByteArray := prog_9_method_12_code
abbrev y_TA_canBe : MethodName := ⟨"AccusedChoose$Table", "canBe", "(II)Z"⟩
abbrev b_TA_closeAt : ByteArray := prog_9_method_13_code
abbrev y_TA_closeAt : MethodName := ⟨"AccusedChoose$Table", "closeAt", "(I)V"⟩
abbrev b_AC_init : ByteArray := prog_1_method_1_code
abbrev y_AC_init : MethodName := ⟨"AccusedChoose", "<init>", "()V"⟩
abbrev b_AC_feed : ByteArray := prog_1_method_2_code
abbrev y_AC_feed : MethodName := ⟨"AccusedChoose", "feed", "(I)I"⟩
abbrev b_AC_night : ByteArray := prog_1_method_3_code
abbrev y_AC_night : MethodName := ⟨"AccusedChoose", "night", "()I"⟩
abbrev b_AC_deed : ByteArray := prog_1_method_4_code
abbrev y_AC_deed : MethodName := ⟨"AccusedChoose", "deed", "(II)I"⟩
abbrev b_AC_person : ByteArray := prog_1_method_5_code
abbrev y_AC_person : MethodName := ⟨"AccusedChoose", "person", "(II)I"⟩
abbrev b_AC_months : ByteArray := prog_1_method_6_code
abbrev y_AC_months : MethodName := ⟨"AccusedChoose", "months", "(II)I"⟩
abbrev b_AC_addDeed : ByteArray := prog_1_method_7_code
abbrev y_AC_addDeed : MethodName := ⟨"AccusedChoose", "addDeed", "(II)I"⟩
abbrev b_AC_addPerson : ByteArray := prog_1_method_8_code
abbrev y_AC_addPerson : MethodName := ⟨"AccusedChoose", "addPerson", "(III)I"⟩
abbrev b_AC_change : ByteArray := prog_1_method_9_code
abbrev y_AC_change : MethodName := ⟨"AccusedChoose", "change", "(II)I"⟩
abbrev b_AC_alibi : ByteArray := prog_1_method_10_code
abbrev y_AC_alibi : MethodName := ⟨"AccusedChoose", "alibi", "(II)I"⟩
abbrev b_AC_brothers : ByteArray := prog_1_method_11_code
abbrev y_AC_brothers : MethodName := ⟨"AccusedChoose", "brothers", "(II)I"⟩
abbrev b_AC_back : ByteArray := prog_1_method_12_code
abbrev y_AC_back : MethodName := ⟨"AccusedChoose", "back", "()I"⟩
abbrev b_AC_takes : ByteArray := prog_1_method_13_code
abbrev y_AC_takes : MethodName := ⟨"AccusedChoose", "takes", "(II)I"⟩
abbrev b_AC_morning : ByteArray := prog_1_method_14_code
abbrev y_AC_morning : MethodName := ⟨"AccusedChoose", "morning", "(I)I"⟩
abbrev b_AC_least : ByteArray := prog_1_method_15_code
abbrev y_AC_least : MethodName := ⟨"AccusedChoose", "least", "(I)I"⟩
abbrev b_AC_fromLast : ByteArray := prog_1_method_16_code
abbrev y_AC_fromLast : MethodName := ⟨"AccusedChoose", "fromLast", "(II)I"⟩
abbrev b_AC_allFromLast : ByteArray := prog_1_method_17_code
abbrev y_AC_allFromLast : MethodName := ⟨"AccusedChoose", "allFromLast", "()I"⟩
abbrev b_AC_whose : ByteArray := prog_1_method_18_code
abbrev y_AC_whose : MethodName := ⟨"AccusedChoose", "whose", "(II)J"⟩
abbrev b_AC_rule : ByteArray := prog_1_method_19_code
abbrev y_AC_rule : MethodName := ⟨"AccusedChoose", "rule", "(II)I"⟩
abbrev b_AC_bestRule : ByteArray := prog_1_method_20_code
abbrev y_AC_bestRule : MethodName := ⟨"AccusedChoose", "bestRule", "()I"⟩
abbrev b_AC_placeWorth : ByteArray := prog_1_method_21_code
abbrev y_AC_placeWorth : MethodName := ⟨"AccusedChoose", "placeWorth", "(I)I"⟩
abbrev b_AC_changes : ByteArray := prog_1_method_22_code
abbrev y_AC_changes : MethodName := ⟨"AccusedChoose", "changes", "()I"⟩
abbrev b_AC_bestOrder : ByteArray := prog_1_method_23_code
abbrev y_AC_bestOrder : MethodName := ⟨"AccusedChoose", "bestOrder", "(I)I"⟩
abbrev b_AC_putIn : ByteArray := prog_1_method_24_code
abbrev y_AC_putIn : MethodName := ⟨"AccusedChoose", "putIn", "(II)I"⟩
abbrev b_AC_together : ByteArray := prog_1_method_25_code
abbrev y_AC_together : MethodName := ⟨"AccusedChoose", "together", "(II)I"⟩
abbrev b_AC_alibiWorth : ByteArray := prog_1_method_26_code
abbrev y_AC_alibiWorth : MethodName := ⟨"AccusedChoose", "alibiWorth", "(II)I"⟩
abbrev b_AC_givenAway : ByteArray := prog_1_method_27_code
abbrev y_AC_givenAway : MethodName := ⟨"AccusedChoose", "givenAway", "()I"⟩
abbrev b_AC_caught : ByteArray := prog_1_method_28_code
abbrev y_AC_caught : MethodName := ⟨"AccusedChoose", "caught", "(III)J"⟩
abbrev b_AC_spared : ByteArray := prog_1_method_29_code
abbrev y_AC_spared : MethodName := ⟨"AccusedChoose", "spared", "()I"⟩
abbrev b_AC_keeper : ByteArray := prog_1_method_30_code
abbrev y_AC_keeper : MethodName := ⟨"AccusedChoose", "keeper", "()I"⟩
abbrev b_AC_swaps : ByteArray := prog_1_method_31_code
abbrev y_AC_swaps : MethodName := ⟨"AccusedChoose", "swaps", "(I)I"⟩
abbrev b_AC_heavier : ByteArray := prog_1_method_32_code
abbrev y_AC_heavier : MethodName := ⟨"AccusedChoose", "heavier", "(II)I"⟩
abbrev b_AC_bestDid : ByteArray := prog_1_method_33_code
abbrev y_AC_bestDid : MethodName := ⟨"AccusedChoose", "bestDid", "(I)I"⟩
abbrev b_AC_rest : ByteArray := prog_1_method_34_code
abbrev y_AC_rest : MethodName := ⟨"AccusedChoose", "rest", "(I)I"⟩
abbrev b_AC_even : ByteArray := prog_1_method_35_code
abbrev y_AC_even : MethodName := ⟨"AccusedChoose", "even", "(I)I"⟩
abbrev b_AC_lastWord : ByteArray := prog_1_method_36_code
abbrev y_AC_lastWord : MethodName := ⟨"AccusedChoose", "lastWord", "(I)I"⟩
abbrev b_AC_bribe : ByteArray := prog_1_method_37_code
abbrev y_AC_bribe : MethodName := ⟨"AccusedChoose", "bribe", "(I)I"⟩
abbrev b_AC_latest : ByteArray := prog_1_method_38_code
abbrev y_AC_latest : MethodName := ⟨"AccusedChoose", "latest", "(II)I"⟩
abbrev b_AC_truth : ByteArray := prog_1_method_39_code
abbrev y_AC_truth : MethodName := ⟨"AccusedChoose", "truth", "(I)I"⟩
abbrev b_AC_parole : ByteArray := prog_1_method_40_code
abbrev y_AC_parole : MethodName := ⟨"AccusedChoose", "parole", "()I"⟩
abbrev b_AC_newBrothers : ByteArray := prog_1_method_41_code
abbrev y_AC_newBrothers : MethodName := ⟨"AccusedChoose", "newBrothers", "()I"⟩
abbrev b_AC_madeLight : ByteArray := prog_1_method_42_code
abbrev y_AC_madeLight : MethodName := ⟨"AccusedChoose", "madeLight", "()I"⟩
abbrev b_AC_always : ByteArray := prog_1_method_43_code
abbrev y_AC_always : MethodName := ⟨"AccusedChoose", "always", "()I"⟩
abbrev b_AC_row : ByteArray := prog_1_method_44_code
abbrev y_AC_row : MethodName := ⟨"AccusedChoose", "row", "(I)I"⟩
abbrev b_AC_judge : ByteArray := prog_1_method_45_code
abbrev y_AC_judge : MethodName := ⟨"AccusedChoose", "judge", "()I"⟩
abbrev b_AC_fits : ByteArray := prog_1_method_46_code
abbrev y_AC_fits : MethodName := ⟨"AccusedChoose", "fits", "(I)I"⟩
abbrev b_AC_clear : ByteArray := prog_1_method_47_code
abbrev y_AC_clear : MethodName := ⟨"AccusedChoose", "clear", "()I"⟩
abbrev b_AC_lots : ByteArray := prog_1_method_48_code
abbrev y_AC_lots : MethodName := ⟨"AccusedChoose", "lots", "(III)I"⟩
abbrev b_AC_image : ByteArray := prog_1_method_49_code
abbrev y_AC_image : MethodName := ⟨"AccusedChoose", "image", "()I"⟩
abbrev b_AC_restore : ByteArray := prog_1_method_50_code
abbrev y_AC_restore : MethodName := ⟨"AccusedChoose", "restore", "()I"⟩
abbrev b_AC_count : ByteArray := prog_1_method_51_code
abbrev y_AC_count : MethodName := ⟨"AccusedChoose", "count", "(I)I"⟩
abbrev b_AC_refuse : ByteArray := prog_1_method_52_code
abbrev y_AC_refuse : MethodName := ⟨"AccusedChoose", "refuse", "(I)I"⟩
abbrev b_AC_refuseBig : ByteArray := prog_1_method_53_code
abbrev y_AC_refuseBig : MethodName := ⟨"AccusedChoose", "refuseBig", "(I)I"⟩
abbrev b_AC_refuseLong : ByteArray := prog_1_method_54_code
abbrev y_AC_refuseLong : MethodName := ⟨"AccusedChoose", "refuseLong", "(I)J"⟩
abbrev b_AC_holdToday : ByteArray := prog_1_method_55_code
abbrev y_AC_holdToday : MethodName := ⟨"AccusedChoose", "holdToday", "()V"⟩
abbrev b_AC_holdLine : ByteArray := prog_1_method_56_code
abbrev y_AC_holdLine : MethodName := ⟨"AccusedChoose", "holdLine", "()V"⟩
abbrev b_AC_tried : ByteArray := prog_1_method_57_code
abbrev y_AC_tried : MethodName := ⟨"AccusedChoose", "tried", "()I"⟩
abbrev b_AC_holdChanged : ByteArray := prog_1_method_58_code
abbrev y_AC_holdChanged : MethodName := ⟨"AccusedChoose", "holdChanged", "(II)V"⟩
abbrev b_AC_monthsAt : ByteArray := prog_1_method_59_code
abbrev y_AC_monthsAt : MethodName := ⟨"AccusedChoose", "monthsAt", "(III)I"⟩
abbrev b_AC_todaysMonthsOf : ByteArray := prog_1_method_60_code
abbrev y_AC_todaysMonthsOf : MethodName := ⟨"AccusedChoose", "todaysMonthsOf", "(I)I"⟩
abbrev b_AC_lineUp : ByteArray := prog_1_method_61_code
abbrev y_AC_lineUp : MethodName := ⟨"AccusedChoose", "lineUp", "([I)V"⟩
abbrev b_AC_turnRound : ByteArray := prog_1_method_62_code
abbrev y_AC_turnRound : MethodName := ⟨"AccusedChoose", "turnRound", "()V"⟩
abbrev b_AC_moveInLine : ByteArray := prog_1_method_63_code
abbrev y_AC_moveInLine : MethodName := ⟨"AccusedChoose", "moveInLine", "(II)V"⟩
abbrev b_AC_holdRule : ByteArray := prog_1_method_64_code
abbrev y_AC_holdRule : MethodName := ⟨"AccusedChoose", "holdRule", "(I)V"⟩
abbrev b_AC_ruleKey : ByteArray := prog_1_method_65_code
abbrev y_AC_ruleKey : MethodName := ⟨"AccusedChoose", "ruleKey", "(II)I"⟩
abbrev b_AC_unfairTwo : ByteArray := prog_1_method_66_code
abbrev y_AC_unfairTwo : MethodName := ⟨"AccusedChoose", "unfairTwo", "(LAccusedChoose$Morning;)I"⟩
abbrev b_AC_soughtOrder : ByteArray := prog_1_method_67_code
abbrev y_AC_soughtOrder : MethodName := ⟨"AccusedChoose", "soughtOrder", "(IZ)I"⟩
abbrev b_AC_firstNotSo : ByteArray := prog_1_method_68_code
abbrev y_AC_firstNotSo : MethodName := ⟨"AccusedChoose", "firstNotSo", "(LAccusedChoose$Morning;)I"⟩
abbrev b_AC_countWays : ByteArray := prog_1_method_69_code
abbrev y_AC_countWays : MethodName := ⟨"AccusedChoose", "countWays", "(II)I"⟩
abbrev b_AC_giveOut : ByteArray := prog_1_method_70_code
abbrev y_AC_giveOut : MethodName := ⟨"AccusedChoose", "giveOut", "(III)V"⟩
abbrev b_AC_waysToBeCaught : ByteArray := prog_1_method_71_code
abbrev y_AC_waysToBeCaught : MethodName := ⟨"AccusedChoose", "waysToBeCaught", "(III)J"⟩
abbrev b_AC_power : ByteArray := prog_1_method_72_code
abbrev y_AC_power : MethodName := ⟨"AccusedChoose", "power", "(II)J"⟩
abbrev b_AC_commonDivisor : ByteArray := prog_1_method_73_code
abbrev y_AC_commonDivisor : MethodName := ⟨"AccusedChoose", "commonDivisor", "(JJ)J"⟩
abbrev b_AC_firstSwap : ByteArray := prog_1_method_74_code
abbrev y_AC_firstSwap : MethodName := ⟨"AccusedChoose", "firstSwap", "()I"⟩
abbrev b_AC_at : ByteArray := prog_1_method_75_code
abbrev y_AC_at : MethodName := ⟨"AccusedChoose", "at", "([II)I"⟩
abbrev b_AC_put : ByteArray := prog_1_method_76_code
abbrev y_AC_put : MethodName := ⟨"AccusedChoose", "put", "([III)V"⟩
abbrev b_AC_bit : ByteArray := prog_1_method_77_code
abbrev y_AC_bit : MethodName := ⟨"AccusedChoose", "bit", "(I)I"⟩
abbrev b_AC_has : ByteArray := prog_1_method_78_code
abbrev y_AC_has : MethodName := ⟨"AccusedChoose", "has", "(II)Z"⟩
abbrev b_AC_copyRow : ByteArray := prog_1_method_79_code
abbrev y_AC_copyRow : MethodName := ⟨"AccusedChoose", "copyRow", "([I[I)V"⟩
abbrev b_AC_placeIn : ByteArray := prog_1_method_80_code
abbrev y_AC_placeIn : MethodName := ⟨"AccusedChoose", "placeIn", "([III)I"⟩
abbrev b_AC_swapPlaces : ByteArray := prog_1_method_81_code
abbrev y_AC_swapPlaces : MethodName := ⟨"AccusedChoose", "swapPlaces", "([IIII)V"⟩
abbrev b_AC_monthsOfKind : ByteArray := prog_1_method_82_code
abbrev y_AC_monthsOfKind : MethodName := ⟨"AccusedChoose", "monthsOfKind", "(III)I"⟩
abbrev b_MD_init : ByteArray := prog_11_method_1_code
abbrev y_MD_init : MethodName := ⟨"AccusedChooseModel", "<init>", "()V"⟩
abbrev b_MD_no : ByteArray := prog_11_method_2_code
abbrev y_MD_no : MethodName := ⟨"AccusedChooseModel", "no", "(I)I"⟩
abbrev b_MD_lower : ByteArray := prog_11_method_3_code
abbrev y_MD_lower : MethodName := ⟨"AccusedChooseModel", "lower", "(I)I"⟩
abbrev b_MD_lowest : ByteArray := prog_11_method_4_code
abbrev y_MD_lowest : MethodName := ⟨"AccusedChooseModel", "lowest", "(I)J"⟩
abbrev b_MD_isIn : ByteArray := prog_11_method_5_code
abbrev y_MD_isIn : MethodName := ⟨"AccusedChooseModel", "isIn", "(III)Z"⟩
abbrev b_MD_bound : ByteArray := prog_11_method_6_code
abbrev y_MD_bound : MethodName := ⟨"AccusedChooseModel", "bound", "(III)I"⟩
abbrev b_MD_has : ByteArray := prog_11_method_7_code
abbrev y_MD_has : MethodName := ⟨"AccusedChooseModel", "has", "(II)Z"⟩
abbrev b_MD_isPerson : ByteArray := prog_11_method_8_code
abbrev y_MD_isPerson : MethodName := ⟨"AccusedChooseModel", "isPerson", "(I)Z"⟩
abbrev b_MD_isDeed : ByteArray := prog_11_method_9_code
abbrev y_MD_isDeed : MethodName := ⟨"AccusedChooseModel", "isDeed", "(I)Z"⟩
abbrev b_MD_areTwo : ByteArray := prog_11_method_10_code
abbrev y_MD_areTwo : MethodName := ⟨"AccusedChooseModel", "areTwo", "(II)Z"⟩
abbrev b_MD_feed : ByteArray := prog_11_method_11_code
abbrev y_MD_feed : MethodName := ⟨"AccusedChooseModel", "feed", "(I)I"⟩
abbrev b_MD_next : ByteArray := prog_11_method_12_code
abbrev y_MD_next : MethodName := ⟨"AccusedChooseModel", "next", "()I"⟩
abbrev b_MD_readsDigits : ByteArray := prog_11_method_13_code
abbrev y_MD_readsDigits : MethodName := ⟨"AccusedChooseModel", "readsDigits", "(II)Z"⟩
abbrev b_MD_statement : ByteArray := prog_11_method_14_code
abbrev y_MD_statement : MethodName := ⟨"AccusedChooseModel", "statement", "()Z"⟩
abbrev b_MD_comes : ByteArray := prog_11_method_15_code
abbrev y_MD_comes : MethodName := ⟨"AccusedChooseModel", "comes", "(I)Z"⟩
abbrev b_MD_night : ByteArray := prog_11_method_16_code
abbrev y_MD_night : MethodName := ⟨"AccusedChooseModel", "night", "()I"⟩
abbrev b_MD_passes : ByteArray := prog_11_method_17_code
abbrev y_MD_passes : MethodName := ⟨"AccusedChooseModel", "passes", "([I)V"⟩
abbrev b_MD_passOne : ByteArray := prog_11_method_18_code
abbrev y_MD_passOne : MethodName := ⟨"AccusedChooseModel", "passOne", "(I)I"⟩
abbrev b_MD_passesAll : ByteArray := prog_11_method_19_code
abbrev y_MD_passesAll : MethodName := ⟨"AccusedChooseModel", "passesAll", "(IZ)V"⟩
abbrev b_MD_keepsBack : ByteArray := prog_11_method_20_code
abbrev y_MD_keepsBack : MethodName := ⟨"AccusedChooseModel", "keepsBack", "()V"⟩
abbrev b_MD_back : ByteArray := prog_11_method_21_code
abbrev y_MD_back : MethodName := ⟨"AccusedChooseModel", "back", "()I"⟩
abbrev b_MD_image : ByteArray := prog_11_method_22_code
abbrev y_MD_image : MethodName := ⟨"AccusedChooseModel", "image", "()I"⟩
abbrev b_MD_restore : ByteArray := prog_11_method_23_code
abbrev y_MD_restore : MethodName := ⟨"AccusedChooseModel", "restore", "()I"⟩
abbrev b_MD_addsDeed : ByteArray := prog_11_method_24_code
abbrev y_MD_addsDeed : MethodName := ⟨"AccusedChooseModel", "addsDeed", "(II)V"⟩
abbrev b_MD_addsPerson : ByteArray := prog_11_method_25_code
abbrev y_MD_addsPerson : MethodName := ⟨"AccusedChooseModel", "addsPerson", "(III)V"⟩
abbrev b_MD_placeOf : ByteArray := prog_11_method_26_code
abbrev y_MD_placeOf : MethodName := ⟨"AccusedChooseModel", "placeOf", "(I)I"⟩
abbrev b_MD_exchanges : ByteArray := prog_11_method_27_code
abbrev y_MD_exchanges : MethodName := ⟨"AccusedChooseModel", "exchanges", "(II)V"⟩
abbrev b_MD_parts : ByteArray := prog_11_method_28_code
abbrev y_MD_parts : MethodName := ⟨"AccusedChooseModel", "parts", "(I)V"⟩
abbrev b_MD_areBrothers : ByteArray := prog_11_method_29_code
abbrev y_MD_areBrothers : MethodName := ⟨"AccusedChooseModel", "areBrothers", "(II)V"⟩
abbrev b_MD_may : ByteArray := prog_11_method_30_code
abbrev y_MD_may : MethodName := ⟨"AccusedChooseModel", "may", "(II)Z"⟩
abbrev b_MD_plainMonths : ByteArray := prog_11_method_31_code
abbrev y_MD_plainMonths : MethodName := ⟨"AccusedChooseModel", "plainMonths", "(II)I"⟩
abbrev b_MD_monthsOf : ByteArray := prog_11_method_32_code
abbrev y_MD_monthsOf : MethodName := ⟨"AccusedChooseModel", "monthsOf", "(II)I"⟩
abbrev b_MD_deed : ByteArray := prog_11_method_33_code
abbrev y_MD_deed : MethodName := ⟨"AccusedChooseModel", "deed", "(II)I"⟩
abbrev b_MD_person : ByteArray := prog_11_method_34_code
abbrev y_MD_person : MethodName := ⟨"AccusedChooseModel", "person", "(II)I"⟩
abbrev b_MD_months : ByteArray := prog_11_method_35_code
abbrev y_MD_months : MethodName := ⟨"AccusedChooseModel", "months", "(II)I"⟩
abbrev b_MD_addDeed : ByteArray := prog_11_method_36_code
abbrev y_MD_addDeed : MethodName := ⟨"AccusedChooseModel", "addDeed", "(II)I"⟩
abbrev b_MD_addPerson : ByteArray := prog_11_method_37_code
abbrev y_MD_addPerson : MethodName := ⟨"AccusedChooseModel", "addPerson", "(III)I"⟩
abbrev b_MD_change : ByteArray := prog_11_method_38_code
abbrev y_MD_change : MethodName := ⟨"AccusedChooseModel", "change", "(II)I"⟩
abbrev b_MD_alibi : ByteArray := prog_11_method_39_code
abbrev y_MD_alibi : MethodName := ⟨"AccusedChooseModel", "alibi", "(II)I"⟩
abbrev b_MD_brothers : ByteArray := prog_11_method_40_code
abbrev y_MD_brothers : MethodName := ⟨"AccusedChooseModel", "brothers", "(II)I"⟩
abbrev b_MD_best : ByteArray := prog_11_method_41_code
abbrev y_MD_best : MethodName := ⟨"AccusedChooseModel", "best", "(II)I"⟩
abbrev b_MD_goesBy : ByteArray := prog_11_method_42_code
abbrev y_MD_goesBy : MethodName := ⟨"AccusedChooseModel", "goesBy", "()V"⟩
abbrev b_MD_asItIs : ByteArray := prog_11_method_43_code
abbrev y_MD_asItIs : MethodName := ⟨"AccusedChooseModel", "asItIs", "()V"⟩
abbrev b_MD_goes : ByteArray := prog_11_method_44_code
abbrev y_MD_goes : MethodName := ⟨"AccusedChooseModel", "goes", "()V"⟩
abbrev b_MD_hasMonths : ByteArray := prog_11_method_45_code
abbrev y_MD_hasMonths : MethodName := ⟨"AccusedChooseModel", "hasMonths", "(I)I"⟩
abbrev b_MD_allMonths : ByteArray := prog_11_method_46_code
abbrev y_MD_allMonths : MethodName := ⟨"AccusedChooseModel", "allMonths", "()I"⟩
abbrev b_MD_monthsNow : ByteArray := prog_11_method_47_code
abbrev y_MD_monthsNow : MethodName := ⟨"AccusedChooseModel", "monthsNow", "()I"⟩
abbrev b_MD_takes : ByteArray := prog_11_method_48_code
abbrev y_MD_takes : MethodName := ⟨"AccusedChooseModel", "takes", "(II)I"⟩
abbrev b_MD_firstWithout : ByteArray := prog_11_method_49_code
abbrev y_MD_firstWithout : MethodName := ⟨"AccusedChooseModel", "firstWithout", "()I"⟩
abbrev b_MD_morning : ByteArray := prog_11_method_50_code
abbrev y_MD_morning : MethodName := ⟨"AccusedChooseModel", "morning", "(I)I"⟩
abbrev b_MD_leastWith : ByteArray := prog_11_method_51_code
abbrev y_MD_leastWith : MethodName := ⟨"AccusedChooseModel", "leastWith", "(III)I"⟩
abbrev b_MD_findLeast : ByteArray := prog_11_method_52_code
abbrev y_MD_findLeast : MethodName := ⟨"AccusedChooseModel", "findLeast", "()V"⟩
abbrev b_MD_least : ByteArray := prog_11_method_53_code
abbrev y_MD_least : MethodName := ⟨"AccusedChooseModel", "least", "(I)I"⟩
abbrev b_MD_monthsIn : ByteArray := prog_11_method_54_code
abbrev y_MD_monthsIn : MethodName := ⟨"AccusedChooseModel", "monthsIn", "(III)I"⟩
abbrev b_MD_withBrother : ByteArray := prog_11_method_55_code
abbrev y_MD_withBrother : MethodName := ⟨"AccusedChooseModel", "withBrother", "(III)I"⟩
abbrev b_MD_chooses : ByteArray := prog_11_method_56_code
abbrev y_MD_chooses : MethodName := ⟨"AccusedChooseModel", "chooses", "(II)V"⟩
abbrev b_MD_findFromLast : ByteArray := prog_11_method_57_code
abbrev y_MD_findFromLast : MethodName := ⟨"AccusedChooseModel", "findFromLast", "()V"⟩
abbrev b_MD_fromLast : ByteArray := prog_11_method_58_code
abbrev y_MD_fromLast : MethodName := ⟨"AccusedChooseModel", "fromLast", "(II)I"⟩
abbrev b_MD_allFromLast : ByteArray := prog_11_method_59_code
abbrev y_MD_allFromLast : MethodName := ⟨"AccusedChooseModel", "allFromLast", "()I"⟩
abbrev b_MD_canHaveDone : ByteArray := prog_11_method_60_code
abbrev y_MD_canHaveDone : MethodName := ⟨"AccusedChooseModel", "canHaveDone", "(II)Z"⟩
abbrev b_MD_waysWith : ByteArray := prog_11_method_61_code
abbrev y_MD_waysWith : MethodName := ⟨"AccusedChooseModel", "waysWith", "(II)J"⟩
abbrev b_MD_whose : ByteArray := prog_11_method_62_code
abbrev y_MD_whose : MethodName := ⟨"AccusedChooseModel", "whose", "(II)J"⟩
abbrev b_MD_keyBy : ByteArray := prog_11_method_63_code
abbrev y_MD_keyBy : MethodName := ⟨"AccusedChooseModel", "keyBy", "(II)I"⟩
abbrev b_MD_sortsBy : ByteArray := prog_11_method_64_code
abbrev y_MD_sortsBy : MethodName := ⟨"AccusedChooseModel", "sortsBy", "(I)V"⟩
abbrev b_MD_monthsBy : ByteArray := prog_11_method_65_code
abbrev y_MD_monthsBy : MethodName := ⟨"AccusedChooseModel", "monthsBy", "(I)I"⟩
abbrev b_MD_unfair : ByteArray := prog_11_method_66_code
abbrev y_MD_unfair : MethodName := ⟨"AccusedChooseModel", "unfair", "()I"⟩
abbrev b_MD_rule : ByteArray := prog_11_method_67_code
abbrev y_MD_rule : MethodName := ⟨"AccusedChooseModel", "rule", "(II)I"⟩
abbrev b_MD_bestRule : ByteArray := prog_11_method_68_code
abbrev y_MD_bestRule : MethodName := ⟨"AccusedChooseModel", "bestRule", "()I"⟩
abbrev b_MD_monthsAt : ByteArray := prog_11_method_69_code
abbrev y_MD_monthsAt : MethodName := ⟨"AccusedChooseModel", "monthsAt", "(II)I"⟩
abbrev b_MD_placeWorth : ByteArray := prog_11_method_70_code
abbrev y_MD_placeWorth : MethodName := ⟨"AccusedChooseModel", "placeWorth", "(I)I"⟩
abbrev b_MD_areBetter : ByteArray := prog_11_method_71_code
abbrev y_MD_areBetter : MethodName := ⟨"AccusedChooseModel", "areBetter", "(II)Z"⟩
abbrev b_MD_changes : ByteArray := prog_11_method_72_code
abbrev y_MD_changes : MethodName := ⟨"AccusedChooseModel", "changes", "()I"⟩
abbrev b_MD_laysOrder : ByteArray := prog_11_method_73_code
abbrev y_MD_laysOrder : MethodName := ⟨"AccusedChooseModel", "laysOrder", "(I)Z"⟩
abbrev b_MD_numbers : ByteArray := prog_11_method_74_code
abbrev y_MD_numbers : MethodName := ⟨"AccusedChooseModel", "numbers", "()I"⟩
abbrev b_MD_keepsFound : ByteArray := prog_11_method_75_code
abbrev y_MD_keepsFound : MethodName := ⟨"AccusedChooseModel", "keepsFound", "(I)V"⟩
abbrev b_MD_foundOr : ByteArray := prog_11_method_76_code
abbrev y_MD_foundOr : MethodName := ⟨"AccusedChooseModel", "foundOr", "(I)I"⟩
abbrev b_MD_notFew : ByteArray := prog_11_method_77_code
abbrev y_MD_notFew : MethodName := ⟨"AccusedChooseModel", "notFew", "(I)I"⟩
abbrev b_MD_greatest : ByteArray := prog_11_method_78_code
abbrev y_MD_greatest : MethodName := ⟨"AccusedChooseModel", "greatest", "()I"⟩
abbrev b_MD_findOrder : ByteArray := prog_11_method_79_code
abbrev y_MD_findOrder : MethodName := ⟨"AccusedChooseModel", "findOrder", "(Z)V"⟩
abbrev b_MD_bestOrder : ByteArray := prog_11_method_80_code
abbrev y_MD_bestOrder : MethodName := ⟨"AccusedChooseModel", "bestOrder", "(I)I"⟩
abbrev b_MD_even : ByteArray := prog_11_method_81_code
abbrev y_MD_even : MethodName := ⟨"AccusedChooseModel", "even", "(I)I"⟩
abbrev b_MD_putIn : ByteArray := prog_11_method_82_code
abbrev y_MD_putIn : MethodName := ⟨"AccusedChooseModel", "putIn", "(II)I"⟩
abbrev b_MD_setMonths : ByteArray := prog_11_method_83_code
abbrev y_MD_setMonths : MethodName := ⟨"AccusedChooseModel", "setMonths", "(I)I"⟩
abbrev b_MD_fewestOf : ByteArray := prog_11_method_84_code
abbrev y_MD_fewestOf : MethodName := ⟨"AccusedChooseModel", "fewestOf", "(I)I"⟩
abbrev b_MD_together : ByteArray := prog_11_method_85_code
abbrev y_MD_together : MethodName := ⟨"AccusedChooseModel", "together", "(II)I"⟩
abbrev b_MD_monthsTurned : ByteArray := prog_11_method_86_code
abbrev y_MD_monthsTurned : MethodName := ⟨"AccusedChooseModel", "monthsTurned", "(II)I"⟩
abbrev b_MD_alibiWorth : ByteArray := prog_11_method_87_code
abbrev y_MD_alibiWorth : MethodName := ⟨"AccusedChooseModel", "alibiWorth", "(II)I"⟩
abbrev b_MD_givenAway : ByteArray := prog_11_method_88_code
abbrev y_MD_givenAway : MethodName := ⟨"AccusedChooseModel", "givenAway", "()I"⟩
abbrev b_MD_divisor : ByteArray := prog_11_method_89_code
abbrev y_MD_divisor : MethodName := ⟨"AccusedChooseModel", "divisor", "(JJ)J"⟩
abbrev b_MD_caught : ByteArray := prog_11_method_90_code
abbrev y_MD_caught : MethodName := ⟨"AccusedChooseModel", "caught", "(III)J"⟩
abbrev b_MD_spared : ByteArray := prog_11_method_91_code
abbrev y_MD_spared : MethodName := ⟨"AccusedChooseModel", "spared", "()I"⟩
abbrev b_MD_keeper : ByteArray := prog_11_method_92_code
abbrev y_MD_keeper : MethodName := ⟨"AccusedChooseModel", "keeper", "()I"⟩
abbrev b_MD_mayHave : ByteArray := prog_11_method_93_code
abbrev y_MD_mayHave : MethodName := ⟨"AccusedChooseModel", "mayHave", "(II)Z"⟩
abbrev b_MD_swaps : ByteArray := prog_11_method_94_code
abbrev y_MD_swaps : MethodName := ⟨"AccusedChooseModel", "swaps", "(I)I"⟩
abbrev b_MD_heavier : ByteArray := prog_11_method_95_code
abbrev y_MD_heavier : MethodName := ⟨"AccusedChooseModel", "heavier", "(II)I"⟩
abbrev b_MD_monthsHaving : ByteArray := prog_11_method_96_code
abbrev y_MD_monthsHaving : MethodName := ⟨"AccusedChooseModel", "monthsHaving", "(II)I"⟩
abbrev b_MD_bestDid : ByteArray := prog_11_method_97_code
abbrev y_MD_bestDid : MethodName := ⟨"AccusedChooseModel", "bestDid", "(I)I"⟩
abbrev b_MD_takenBits : ByteArray := prog_11_method_98_code
abbrev y_MD_takenBits : MethodName := ⟨"AccusedChooseModel", "takenBits", "()I"⟩
abbrev b_MD_takenMonths : ByteArray := prog_11_method_99_code
abbrev y_MD_takenMonths : MethodName := ⟨"AccusedChooseModel", "takenMonths", "()I"⟩
abbrev b_MD_rest : ByteArray := prog_11_method_100_code
abbrev y_MD_rest : MethodName := ⟨"AccusedChooseModel", "rest", "(I)I"⟩
abbrev b_MD_lastWord : ByteArray := prog_11_method_101_code
abbrev y_MD_lastWord : MethodName := ⟨"AccusedChooseModel", "lastWord", "(I)I"⟩
abbrev b_MD_sumChanged : ByteArray := prog_11_method_102_code
abbrev y_MD_sumChanged : MethodName := ⟨"AccusedChooseModel", "sumChanged", "(II)I"⟩
abbrev b_MD_bribe : ByteArray := prog_11_method_103_code
abbrev y_MD_bribe : MethodName := ⟨"AccusedChooseModel", "bribe", "(I)I"⟩
abbrev b_MD_latest : ByteArray := prog_11_method_104_code
abbrev y_MD_latest : MethodName := ⟨"AccusedChooseModel", "latest", "(II)I"⟩
abbrev b_MD_truth : ByteArray := prog_11_method_105_code
abbrev y_MD_truth : MethodName := ⟨"AccusedChooseModel", "truth", "(I)I"⟩
abbrev b_MD_parole : ByteArray := prog_11_method_106_code
abbrev y_MD_parole : MethodName := ⟨"AccusedChooseModel", "parole", "()I"⟩
abbrev b_MD_newBrothers : ByteArray := prog_11_method_107_code
abbrev y_MD_newBrothers : MethodName := ⟨"AccusedChooseModel", "newBrothers", "()I"⟩
abbrev b_MD_madeLight : ByteArray := prog_11_method_108_code
abbrev y_MD_madeLight : MethodName := ⟨"AccusedChooseModel", "madeLight", "()I"⟩
abbrev b_MD_always : ByteArray := prog_11_method_109_code
abbrev y_MD_always : MethodName := ⟨"AccusedChooseModel", "always", "()I"⟩
abbrev b_MD_row : ByteArray := prog_11_method_110_code
abbrev y_MD_row : MethodName := ⟨"AccusedChooseModel", "row", "(I)I"⟩
abbrev b_MD_firstOther : ByteArray := prog_11_method_111_code
abbrev y_MD_firstOther : MethodName := ⟨"AccusedChooseModel", "firstOther", "()I"⟩
abbrev b_MD_judge : ByteArray := prog_11_method_112_code
abbrev y_MD_judge : MethodName := ⟨"AccusedChooseModel", "judge", "()I"⟩
abbrev b_MD_fits : ByteArray := prog_11_method_113_code
abbrev y_MD_fits : MethodName := ⟨"AccusedChooseModel", "fits", "(I)I"⟩
abbrev b_MD_clear : ByteArray := prog_11_method_114_code
abbrev y_MD_clear : MethodName := ⟨"AccusedChooseModel", "clear", "()I"⟩
abbrev b_MD_lots : ByteArray := prog_11_method_115_code
abbrev y_MD_lots : MethodName := ⟨"AccusedChooseModel", "lots", "(III)I"⟩
abbrev b_MD_alibisOf : ByteArray := prog_11_method_116_code
abbrev y_MD_alibisOf : MethodName := ⟨"AccusedChooseModel", "alibisOf", "(I)I"⟩
abbrev b_MD_count : ByteArray := prog_11_method_117_code
abbrev y_MD_count : MethodName := ⟨"AccusedChooseModel", "count", "(I)I"⟩
abbrev b_IG_bitCount : ByteArray := prog_12_method_49_code
abbrev y_IG_bitCount : MethodName := ⟨"java/lang/Integer", "bitCount", "(I)I"⟩
abbrev b_MA_max : ByteArray := prog_13_method_65_code
abbrev y_MA_max : MethodName := ⟨"java/lang/Math", "max", "(II)I"⟩
abbrev b_MA_min : ByteArray := prog_13_method_69_code
abbrev y_MA_min : MethodName := ⟨"java/lang/Math", "min", "(II)I"⟩
def FL (own : String) (idx ci k : Nat) : Prop := ∃ (C : String) (T : u_T) (N : Nat) (ty0 : Nat → FieldType), classes[ci]? = some (C, T, N) ∧ k < N ∧ Cond.fieldLink own idx (T k).1 (T k).2.1 (T k).2.2.1 ∈ tb ∧ (∀ w ∈ u_ws C T N, w ∈ tb) ∧ (∀ k, k < N → parseFieldDescriptor (T k).2.2.1 = some (ty0 k)) ∧ (∀ a, a < N → ∀ b, b < N → a ≠ b → (T a).2.1 ≠ (T b).2.1)
def FW (own : String) (idx ci k : Nat) (ty : FieldType) : Prop := ∃ (C : String) (T : u_T) (N : Nat) (ty0 : Nat → FieldType), classes[ci]? = some (C, T, N) ∧ k < N ∧ Cond.fieldLink own idx (T k).1 (T k).2.1 (T k).2.2.1 ∈ tb ∧ (∀ w ∈ u_ws C T N, w ∈ tb) ∧ (∀ k, k < N → parseFieldDescriptor (T k).2.2.1 = some (ty0 k)) ∧ (∀ a, a < N → ∀ b, b < N → a ≠ b → (T a).2.1 ≠ (T b).2.1) ∧ (T k).2.2.2 = false ∧ parseFieldDescriptor (T k).2.2.1 = some ty
theorem fw_NI_36 : FW "AccusedChoose$Night" 36 3 0 .int := ⟨R_NI, T_NI, 10, t_NI, rfl, by decide, tb_mem 125 (by decide +kernel) (by decide +kernel), in_NI, t_NI_ok, n_NI, rfl, by decide +kernel⟩
theorem fl_NI_36 : FL "AccusedChoose$Night" 36 3 0 := let ⟨C, T, N, t0, a, b, c, d, e, f, _, _⟩ := fw_NI_36; ⟨C, T, N, t0, a, b, c, d, e, f⟩
theorem fw_PR_22 : FW "AccusedChoose$Prices" 22 3 0 .int := ⟨R_NI, T_NI, 10, t_NI, rfl, by decide, tb_mem 126 (by decide +kernel) (by decide +kernel), in_NI, t_NI_ok, n_NI, rfl, by decide +kernel⟩
theorem fl_PR_22 : FL "AccusedChoose$Prices" 22 3 0 := let ⟨C, T, N, t0, a, b, c, d, e, f, _, _⟩ := fw_PR_22; ⟨C, T, N, t0, a, b, c, d, e, f⟩
theorem fw_AC_157 : FW "AccusedChoose" 157 3 0 .int := ⟨R_NI, T_NI, 10, t_NI, rfl, by decide, tb_mem 127 (by decide +kernel) (by decide +kernel), in_NI, t_NI_ok, n_NI, rfl, by decide +kernel⟩
theorem fl_AC_157 : FL "AccusedChoose" 157 3 0 := let ⟨C, T, N, t0, a, b, c, d, e, f, _, _⟩ := fw_AC_157; ⟨C, T, N, t0, a, b, c, d, e, f⟩
theorem fw_LT_85 : FW "AccusedChoose$Letters" 85 3 0 .int := ⟨R_NI, T_NI, 10, t_NI, rfl, by decide, tb_mem 128 (by decide +kernel) (by decide +kernel), in_NI, t_NI_ok, n_NI, rfl, by decide +kernel⟩
theorem fl_LT_85 : FL "AccusedChoose$Letters" 85 3 0 := let ⟨C, T, N, t0, a, b, c, d, e, f, _, _⟩ := fw_LT_85; ⟨C, T, N, t0, a, b, c, d, e, f⟩
theorem fw_PR_15 : FW "AccusedChoose$Prices" 15 3 1 .int := ⟨R_NI, T_NI, 10, t_NI, rfl, by decide, tb_mem 129 (by decide +kernel) (by decide +kernel), in_NI, t_NI_ok, n_NI, rfl, by decide +kernel⟩
theorem fl_PR_15 : FL "AccusedChoose$Prices" 15 3 1 := let ⟨C, T, N, t0, a, b, c, d, e, f, _, _⟩ := fw_PR_15; ⟨C, T, N, t0, a, b, c, d, e, f⟩
theorem fw_NI_40 : FW "AccusedChoose$Night" 40 3 1 .int := ⟨R_NI, T_NI, 10, t_NI, rfl, by decide, tb_mem 130 (by decide +kernel) (by decide +kernel), in_NI, t_NI_ok, n_NI, rfl, by decide +kernel⟩
theorem fl_NI_40 : FL "AccusedChoose$Night" 40 3 1 := let ⟨C, T, N, t0, a, b, c, d, e, f, _, _⟩ := fw_NI_40; ⟨C, T, N, t0, a, b, c, d, e, f⟩
theorem fw_LB_28 : FW "AccusedChoose$LastBack" 28 3 1 .int := ⟨R_NI, T_NI, 10, t_NI, rfl, by decide, tb_mem 131 (by decide +kernel) (by decide +kernel), in_NI, t_NI_ok, n_NI, rfl, by decide +kernel⟩
theorem fl_LB_28 : FL "AccusedChoose$LastBack" 28 3 1 := let ⟨C, T, N, t0, a, b, c, d, e, f, _, _⟩ := fw_LB_28; ⟨C, T, N, t0, a, b, c, d, e, f⟩
theorem fw_PA_47 : FW "AccusedChoose$Past" 47 3 1 .int := ⟨R_NI, T_NI, 10, t_NI, rfl, by decide, tb_mem 132 (by decide +kernel) (by decide +kernel), in_NI, t_NI_ok, n_NI, rfl, by decide +kernel⟩
theorem fl_PA_47 : FL "AccusedChoose$Past" 47 3 1 := let ⟨C, T, N, t0, a, b, c, d, e, f, _, _⟩ := fw_PA_47; ⟨C, T, N, t0, a, b, c, d, e, f⟩
theorem fw_AC_164 : FW "AccusedChoose" 164 3 1 .int := ⟨R_NI, T_NI, 10, t_NI, rfl, by decide, tb_mem 133 (by decide +kernel) (by decide +kernel), in_NI, t_NI_ok, n_NI, rfl, by decide +kernel⟩
theorem fl_AC_164 : FL "AccusedChoose" 164 3 1 := let ⟨C, T, N, t0, a, b, c, d, e, f, _, _⟩ := fw_AC_164; ⟨C, T, N, t0, a, b, c, d, e, f⟩
theorem fw_LT_78 : FW "AccusedChoose$Letters" 78 3 1 .int := ⟨R_NI, T_NI, 10, t_NI, rfl, by decide, tb_mem 134 (by decide +kernel) (by decide +kernel), in_NI, t_NI_ok, n_NI, rfl, by decide +kernel⟩
theorem fl_LT_78 : FL "AccusedChoose$Letters" 78 3 1 := let ⟨C, T, N, t0, a, b, c, d, e, f, _, _⟩ := fw_LT_78; ⟨C, T, N, t0, a, b, c, d, e, f⟩
theorem fl_NI_9 : FL "AccusedChoose$Night" 9 3 2 := ⟨R_NI, T_NI, 10, t_NI, rfl, by decide, tb_mem 135 (by decide +kernel) (by decide +kernel), in_NI, t_NI_ok, n_NI⟩
theorem fl_AC_119 : FL "AccusedChoose" 119 3 2 := ⟨R_NI, T_NI, 10, t_NI, rfl, by decide, tb_mem 136 (by decide +kernel) (by decide +kernel), in_NI, t_NI_ok, n_NI⟩
theorem fl_NI_15 : FL "AccusedChoose$Night" 15 3 3 := ⟨R_NI, T_NI, 10, t_NI, rfl, by decide, tb_mem 137 (by decide +kernel) (by decide +kernel), in_NI, t_NI_ok, n_NI⟩
theorem fl_AC_126 : FL "AccusedChoose" 126 3 3 := ⟨R_NI, T_NI, 10, t_NI, rfl, by decide, tb_mem 138 (by decide +kernel) (by decide +kernel), in_NI, t_NI_ok, n_NI⟩
theorem fl_NI_18 : FL "AccusedChoose$Night" 18 3 4 := ⟨R_NI, T_NI, 10, t_NI, rfl, by decide, tb_mem 139 (by decide +kernel) (by decide +kernel), in_NI, t_NI_ok, n_NI⟩
theorem fl_AC_132 : FL "AccusedChoose" 132 3 4 := ⟨R_NI, T_NI, 10, t_NI, rfl, by decide, tb_mem 140 (by decide +kernel) (by decide +kernel), in_NI, t_NI_ok, n_NI⟩
theorem fl_NI_21 : FL "AccusedChoose$Night" 21 3 5 := ⟨R_NI, T_NI, 10, t_NI, rfl, by decide, tb_mem 141 (by decide +kernel) (by decide +kernel), in_NI, t_NI_ok, n_NI⟩
theorem fl_AC_135 : FL "AccusedChoose" 135 3 5 := ⟨R_NI, T_NI, 10, t_NI, rfl, by decide, tb_mem 142 (by decide +kernel) (by decide +kernel), in_NI, t_NI_ok, n_NI⟩
theorem fl_NI_24 : FL "AccusedChoose$Night" 24 3 6 := ⟨R_NI, T_NI, 10, t_NI, rfl, by decide, tb_mem 143 (by decide +kernel) (by decide +kernel), in_NI, t_NI_ok, n_NI⟩
theorem fl_MO_53 : FL "AccusedChoose$Morning" 53 3 6 := ⟨R_NI, T_NI, 10, t_NI, rfl, by decide, tb_mem 144 (by decide +kernel) (by decide +kernel), in_NI, t_NI_ok, n_NI⟩
theorem fl_AC_138 : FL "AccusedChoose" 138 3 6 := ⟨R_NI, T_NI, 10, t_NI, rfl, by decide, tb_mem 145 (by decide +kernel) (by decide +kernel), in_NI, t_NI_ok, n_NI⟩
theorem fl_NI_27 : FL "AccusedChoose$Night" 27 3 7 := ⟨R_NI, T_NI, 10, t_NI, rfl, by decide, tb_mem 146 (by decide +kernel) (by decide +kernel), in_NI, t_NI_ok, n_NI⟩
theorem fl_LB_56 : FL "AccusedChoose$LastBack" 56 3 7 := ⟨R_NI, T_NI, 10, t_NI, rfl, by decide, tb_mem 147 (by decide +kernel) (by decide +kernel), in_NI, t_NI_ok, n_NI⟩
theorem fl_AC_141 : FL "AccusedChoose" 141 3 7 := ⟨R_NI, T_NI, 10, t_NI, rfl, by decide, tb_mem 148 (by decide +kernel) (by decide +kernel), in_NI, t_NI_ok, n_NI⟩
theorem fl_NI_30 : FL "AccusedChoose$Night" 30 3 8 := ⟨R_NI, T_NI, 10, t_NI, rfl, by decide, tb_mem 149 (by decide +kernel) (by decide +kernel), in_NI, t_NI_ok, n_NI⟩
theorem fl_AC_147 : FL "AccusedChoose" 147 3 8 := ⟨R_NI, T_NI, 10, t_NI, rfl, by decide, tb_mem 150 (by decide +kernel) (by decide +kernel), in_NI, t_NI_ok, n_NI⟩
theorem fl_NI_33 : FL "AccusedChoose$Night" 33 3 9 := ⟨R_NI, T_NI, 10, t_NI, rfl, by decide, tb_mem 151 (by decide +kernel) (by decide +kernel), in_NI, t_NI_ok, n_NI⟩
theorem fl_LB_31 : FL "AccusedChoose$LastBack" 31 3 9 := ⟨R_NI, T_NI, 10, t_NI, rfl, by decide, tb_mem 152 (by decide +kernel) (by decide +kernel), in_NI, t_NI_ok, n_NI⟩
theorem fl_MO_50 : FL "AccusedChoose$Morning" 50 3 9 := ⟨R_NI, T_NI, 10, t_NI, rfl, by decide, tb_mem 153 (by decide +kernel) (by decide +kernel), in_NI, t_NI_ok, n_NI⟩
theorem fl_PA_42 : FL "AccusedChoose$Past" 42 3 9 := ⟨R_NI, T_NI, 10, t_NI, rfl, by decide, tb_mem 154 (by decide +kernel) (by decide +kernel), in_NI, t_NI_ok, n_NI⟩
theorem fl_AC_178 : FL "AccusedChoose" 178 3 9 := ⟨R_NI, T_NI, 10, t_NI, rfl, by decide, tb_mem 155 (by decide +kernel) (by decide +kernel), in_NI, t_NI_ok, n_NI⟩
theorem fl_LT_75 : FL "AccusedChoose$Letters" 75 3 9 := ⟨R_NI, T_NI, 10, t_NI, rfl, by decide, tb_mem 156 (by decide +kernel) (by decide +kernel), in_NI, t_NI_ok, n_NI⟩
theorem fw_PA_25 : FW "AccusedChoose$Past" 25 5 0 .int := ⟨R_PA, T_PA, 6, t_PA, rfl, by decide, tb_mem 185 (by decide +kernel) (by decide +kernel), in_PA, t_PA_ok, n_PA, rfl, by decide +kernel⟩
theorem fl_PA_25 : FL "AccusedChoose$Past" 25 5 0 := let ⟨C, T, N, t0, a, b, c, d, e, f, _, _⟩ := fw_PA_25; ⟨C, T, N, t0, a, b, c, d, e, f⟩
theorem fw_AC_195 : FW "AccusedChoose" 195 5 0 .int := ⟨R_PA, T_PA, 6, t_PA, rfl, by decide, tb_mem 186 (by decide +kernel) (by decide +kernel), in_PA, t_PA_ok, n_PA, rfl, by decide +kernel⟩
theorem fl_AC_195 : FL "AccusedChoose" 195 5 0 := let ⟨C, T, N, t0, a, b, c, d, e, f, _, _⟩ := fw_AC_195; ⟨C, T, N, t0, a, b, c, d, e, f⟩
theorem fl_PA_9 : FL "AccusedChoose$Past" 9 5 1 := ⟨R_PA, T_PA, 6, t_PA, rfl, by decide, tb_mem 187 (by decide +kernel) (by decide +kernel), in_PA, t_PA_ok, n_PA⟩
theorem fl_PA_13 : FL "AccusedChoose$Past" 13 5 2 := ⟨R_PA, T_PA, 6, t_PA, rfl, by decide, tb_mem 188 (by decide +kernel) (by decide +kernel), in_PA, t_PA_ok, n_PA⟩
theorem fl_PA_16 : FL "AccusedChoose$Past" 16 5 3 := ⟨R_PA, T_PA, 6, t_PA, rfl, by decide, tb_mem 189 (by decide +kernel) (by decide +kernel), in_PA, t_PA_ok, n_PA⟩
theorem fl_PA_19 : FL "AccusedChoose$Past" 19 5 4 := ⟨R_PA, T_PA, 6, t_PA, rfl, by decide, tb_mem 190 (by decide +kernel) (by decide +kernel), in_PA, t_PA_ok, n_PA⟩
theorem fl_PA_22 : FL "AccusedChoose$Past" 22 5 5 := ⟨R_PA, T_PA, 6, t_PA, rfl, by decide, tb_mem 191 (by decide +kernel) (by decide +kernel), in_PA, t_PA_ok, n_PA⟩
theorem fw_LT_15 : FW "AccusedChoose$Letters" 15 1 0 .int := ⟨R_LT, T_LT, 2, t_LT, rfl, by decide, tb_mem 211 (by decide +kernel) (by decide +kernel), in_LT, t_LT_ok, n_LT, rfl, by decide +kernel⟩
theorem fl_LT_15 : FL "AccusedChoose$Letters" 15 1 0 := let ⟨C, T, N, t0, a, b, c, d, e, f, _, _⟩ := fw_LT_15; ⟨C, T, N, t0, a, b, c, d, e, f⟩
theorem fw_AC_376 : FW "AccusedChoose" 376 1 0 .int := ⟨R_LT, T_LT, 2, t_LT, rfl, by decide, tb_mem 212 (by decide +kernel) (by decide +kernel), in_LT, t_LT_ok, n_LT, rfl, by decide +kernel⟩
theorem fl_AC_376 : FL "AccusedChoose" 376 1 0 := let ⟨C, T, N, t0, a, b, c, d, e, f, _, _⟩ := fw_AC_376; ⟨C, T, N, t0, a, b, c, d, e, f⟩
theorem fl_LT_11 : FL "AccusedChoose$Letters" 11 1 1 := ⟨R_LT, T_LT, 2, t_LT, rfl, by decide, tb_mem 213 (by decide +kernel) (by decide +kernel), in_LT, t_LT_ok, n_LT⟩
theorem fw_MO_18 : FW "AccusedChoose$Morning" 18 6 0 .int := ⟨R_PR, T_PR, 3, t_PR, rfl, by decide, tb_mem 225 (by decide +kernel) (by decide +kernel), in_PR, t_PR_ok, n_PR, rfl, by decide +kernel⟩
theorem fl_MO_18 : FL "AccusedChoose$Morning" 18 6 0 := let ⟨C, T, N, t0, a, b, c, d, e, f, _, _⟩ := fw_MO_18; ⟨C, T, N, t0, a, b, c, d, e, f⟩
theorem fw_PR_21 : FW "AccusedChoose$Prices" 21 6 0 .int := ⟨R_PR, T_PR, 3, t_PR, rfl, by decide, tb_mem 226 (by decide +kernel) (by decide +kernel), in_PR, t_PR_ok, n_PR, rfl, by decide +kernel⟩
theorem fl_PR_21 : FL "AccusedChoose$Prices" 21 6 0 := let ⟨C, T, N, t0, a, b, c, d, e, f, _, _⟩ := fw_PR_21; ⟨C, T, N, t0, a, b, c, d, e, f⟩
theorem fw_TA_23 : FW "AccusedChoose$Table" 23 6 0 .int := ⟨R_PR, T_PR, 3, t_PR, rfl, by decide, tb_mem 227 (by decide +kernel) (by decide +kernel), in_PR, t_PR_ok, n_PR, rfl, by decide +kernel⟩
theorem fl_TA_23 : FL "AccusedChoose$Table" 23 6 0 := let ⟨C, T, N, t0, a, b, c, d, e, f, _, _⟩ := fw_TA_23; ⟨C, T, N, t0, a, b, c, d, e, f⟩
theorem fw_PR_25 : FW "AccusedChoose$Prices" 25 6 1 .int := ⟨R_PR, T_PR, 3, t_PR, rfl, by decide, tb_mem 228 (by decide +kernel) (by decide +kernel), in_PR, t_PR_ok, n_PR, rfl, by decide +kernel⟩
theorem fl_PR_25 : FL "AccusedChoose$Prices" 25 6 1 := let ⟨C, T, N, t0, a, b, c, d, e, f, _, _⟩ := fw_PR_25; ⟨C, T, N, t0, a, b, c, d, e, f⟩
theorem fw_LB_66 : FW "AccusedChoose$LastBack" 66 6 1 .int := ⟨R_PR, T_PR, 3, t_PR, rfl, by decide, tb_mem 229 (by decide +kernel) (by decide +kernel), in_PR, t_PR_ok, n_PR, rfl, by decide +kernel⟩
theorem fl_LB_66 : FL "AccusedChoose$LastBack" 66 6 1 := let ⟨C, T, N, t0, a, b, c, d, e, f, _, _⟩ := fw_LB_66; ⟨C, T, N, t0, a, b, c, d, e, f⟩
theorem fw_TA_33 : FW "AccusedChoose$Table" 33 6 1 .int := ⟨R_PR, T_PR, 3, t_PR, rfl, by decide, tb_mem 230 (by decide +kernel) (by decide +kernel), in_PR, t_PR_ok, n_PR, rfl, by decide +kernel⟩
theorem fl_TA_33 : FL "AccusedChoose$Table" 33 6 1 := let ⟨C, T, N, t0, a, b, c, d, e, f, _, _⟩ := fw_TA_33; ⟨C, T, N, t0, a, b, c, d, e, f⟩
theorem fl_PR_9 : FL "AccusedChoose$Prices" 9 6 2 := ⟨R_PR, T_PR, 3, t_PR, rfl, by decide, tb_mem 231 (by decide +kernel) (by decide +kernel), in_PR, t_PR_ok, n_PR⟩
theorem fl_MO_9 : FL "AccusedChoose$Morning" 9 2 0 := ⟨R_MO, T_MO, 6, t_MO, rfl, by decide, tb_mem 245 (by decide +kernel) (by decide +kernel), in_MO, t_MO_ok, n_MO⟩
theorem fl_AC_204 : FL "AccusedChoose" 204 2 0 := ⟨R_MO, T_MO, 6, t_MO, rfl, by decide, tb_mem 246 (by decide +kernel) (by decide +kernel), in_MO, t_MO_ok, n_MO⟩
theorem fl_MO_15 : FL "AccusedChoose$Morning" 15 2 1 := ⟨R_MO, T_MO, 6, t_MO, rfl, by decide, tb_mem 247 (by decide +kernel) (by decide +kernel), in_MO, t_MO_ok, n_MO⟩
theorem fl_AC_207 : FL "AccusedChoose" 207 2 1 := ⟨R_MO, T_MO, 6, t_MO, rfl, by decide, tb_mem 248 (by decide +kernel) (by decide +kernel), in_MO, t_MO_ok, n_MO⟩
theorem fw_MO_28 : FW "AccusedChoose$Morning" 28 2 2 .int := ⟨R_MO, T_MO, 6, t_MO, rfl, by decide, tb_mem 249 (by decide +kernel) (by decide +kernel), in_MO, t_MO_ok, n_MO, rfl, by decide +kernel⟩
theorem fl_MO_28 : FL "AccusedChoose$Morning" 28 2 2 := let ⟨C, T, N, t0, a, b, c, d, e, f, _, _⟩ := fw_MO_28; ⟨C, T, N, t0, a, b, c, d, e, f⟩
theorem fw_MO_33 : FW "AccusedChoose$Morning" 33 2 3 .int := ⟨R_MO, T_MO, 6, t_MO, rfl, by decide, tb_mem 250 (by decide +kernel) (by decide +kernel), in_MO, t_MO_ok, n_MO, rfl, by decide +kernel⟩
theorem fl_MO_33 : FL "AccusedChoose$Morning" 33 2 3 := let ⟨C, T, N, t0, a, b, c, d, e, f, _, _⟩ := fw_MO_33; ⟨C, T, N, t0, a, b, c, d, e, f⟩
theorem fw_AC_216 : FW "AccusedChoose" 216 2 3 .int := ⟨R_MO, T_MO, 6, t_MO, rfl, by decide, tb_mem 251 (by decide +kernel) (by decide +kernel), in_MO, t_MO_ok, n_MO, rfl, by decide +kernel⟩
theorem fl_AC_216 : FL "AccusedChoose" 216 2 3 := let ⟨C, T, N, t0, a, b, c, d, e, f, _, _⟩ := fw_AC_216; ⟨C, T, N, t0, a, b, c, d, e, f⟩
theorem fw_MO_63 : FW "AccusedChoose$Morning" 63 2 4 .int := ⟨R_MO, T_MO, 6, t_MO, rfl, by decide, tb_mem 252 (by decide +kernel) (by decide +kernel), in_MO, t_MO_ok, n_MO, rfl, by decide +kernel⟩
theorem fl_MO_63 : FL "AccusedChoose$Morning" 63 2 4 := let ⟨C, T, N, t0, a, b, c, d, e, f, _, _⟩ := fw_MO_63; ⟨C, T, N, t0, a, b, c, d, e, f⟩
theorem fw_AC_213 : FW "AccusedChoose" 213 2 4 .int := ⟨R_MO, T_MO, 6, t_MO, rfl, by decide, tb_mem 253 (by decide +kernel) (by decide +kernel), in_MO, t_MO_ok, n_MO, rfl, by decide +kernel⟩
theorem fl_AC_213 : FL "AccusedChoose" 213 2 4 := let ⟨C, T, N, t0, a, b, c, d, e, f, _, _⟩ := fw_AC_213; ⟨C, T, N, t0, a, b, c, d, e, f⟩
theorem fw_MO_66 : FW "AccusedChoose$Morning" 66 2 5 .int := ⟨R_MO, T_MO, 6, t_MO, rfl, by decide, tb_mem 254 (by decide +kernel) (by decide +kernel), in_MO, t_MO_ok, n_MO, rfl, by decide +kernel⟩
theorem fl_MO_66 : FL "AccusedChoose$Morning" 66 2 5 := let ⟨C, T, N, t0, a, b, c, d, e, f, _, _⟩ := fw_MO_66; ⟨C, T, N, t0, a, b, c, d, e, f⟩
theorem fw_AC_210 : FW "AccusedChoose" 210 2 5 .int := ⟨R_MO, T_MO, 6, t_MO, rfl, by decide, tb_mem 255 (by decide +kernel) (by decide +kernel), in_MO, t_MO_ok, n_MO, rfl, by decide +kernel⟩
theorem fl_AC_210 : FL "AccusedChoose" 210 2 5 := let ⟨C, T, N, t0, a, b, c, d, e, f, _, _⟩ := fw_AC_210; ⟨C, T, N, t0, a, b, c, d, e, f⟩
theorem fl_LB_9 : FL "AccusedChoose$LastBack" 9 0 0 := ⟨R_LB, T_LB, 3, t_LB, rfl, by decide, tb_mem 275 (by decide +kernel) (by decide +kernel), in_LB, t_LB_ok, n_LB⟩
theorem fl_AC_237 : FL "AccusedChoose" 237 0 0 := ⟨R_LB, T_LB, 3, t_LB, rfl, by decide, tb_mem 276 (by decide +kernel) (by decide +kernel), in_LB, t_LB_ok, n_LB⟩
theorem fl_LB_15 : FL "AccusedChoose$LastBack" 15 0 1 := ⟨R_LB, T_LB, 3, t_LB, rfl, by decide, tb_mem 277 (by decide +kernel) (by decide +kernel), in_LB, t_LB_ok, n_LB⟩
theorem fl_AC_238 : FL "AccusedChoose" 238 0 1 := ⟨R_LB, T_LB, 3, t_LB, rfl, by decide, tb_mem 278 (by decide +kernel) (by decide +kernel), in_LB, t_LB_ok, n_LB⟩
theorem fw_LB_24 : FW "AccusedChoose$LastBack" 24 0 2 .int := ⟨R_LB, T_LB, 3, t_LB, rfl, by decide, tb_mem 279 (by decide +kernel) (by decide +kernel), in_LB, t_LB_ok, n_LB, rfl, by decide +kernel⟩
theorem fl_LB_24 : FL "AccusedChoose$LastBack" 24 0 2 := let ⟨C, T, N, t0, a, b, c, d, e, f, _, _⟩ := fw_LB_24; ⟨C, T, N, t0, a, b, c, d, e, f⟩
theorem fw_AC_239 : FW "AccusedChoose" 239 0 2 .int := ⟨R_LB, T_LB, 3, t_LB, rfl, by decide, tb_mem 280 (by decide +kernel) (by decide +kernel), in_LB, t_LB_ok, n_LB, rfl, by decide +kernel⟩
theorem fl_AC_239 : FL "AccusedChoose" 239 0 2 := let ⟨C, T, N, t0, a, b, c, d, e, f, _, _⟩ := fw_AC_239; ⟨C, T, N, t0, a, b, c, d, e, f⟩
theorem fl_TA_9 : FL "AccusedChoose$Table" 9 7 0 := ⟨R_TA, T_TA, 1, t_TA, rfl, by decide, tb_mem 294 (by decide +kernel) (by decide +kernel), in_TA, t_TA_ok, n_TA⟩
theorem fw_OR_18 : FW "AccusedChoose$Orders" 18 4 0 .int := ⟨R_OR, T_OR, 4, t_OR, rfl, by decide, tb_mem 304 (by decide +kernel) (by decide +kernel), in_OR, t_OR_ok, n_OR, rfl, by decide +kernel⟩
theorem fl_OR_18 : FL "AccusedChoose$Orders" 18 4 0 := let ⟨C, T, N, t0, a, b, c, d, e, f, _, _⟩ := fw_OR_18; ⟨C, T, N, t0, a, b, c, d, e, f⟩
theorem fw_OR_22 : FW "AccusedChoose$Orders" 22 4 1 .int := ⟨R_OR, T_OR, 4, t_OR, rfl, by decide, tb_mem 305 (by decide +kernel) (by decide +kernel), in_OR, t_OR_ok, n_OR, rfl, by decide +kernel⟩
theorem fl_OR_22 : FL "AccusedChoose$Orders" 22 4 1 := let ⟨C, T, N, t0, a, b, c, d, e, f, _, _⟩ := fw_OR_22; ⟨C, T, N, t0, a, b, c, d, e, f⟩
theorem fl_OR_9 : FL "AccusedChoose$Orders" 9 4 2 := ⟨R_OR, T_OR, 4, t_OR, rfl, by decide, tb_mem 306 (by decide +kernel) (by decide +kernel), in_OR, t_OR_ok, n_OR⟩
theorem fl_AC_353 : FL "AccusedChoose" 353 4 2 := ⟨R_OR, T_OR, 4, t_OR, rfl, by decide, tb_mem 307 (by decide +kernel) (by decide +kernel), in_OR, t_OR_ok, n_OR⟩
theorem fl_OR_15 : FL "AccusedChoose$Orders" 15 4 3 := ⟨R_OR, T_OR, 4, t_OR, rfl, by decide, tb_mem 308 (by decide +kernel) (by decide +kernel), in_OR, t_OR_ok, n_OR⟩
theorem fl_AC_10 : FL "AccusedChoose" 10 8 0 := ⟨R_AC, T_AC, 18, t_AC, rfl, by decide, tb_mem 318 (by decide +kernel) (by decide +kernel), in_AC, t_AC_ok, n_AC⟩
theorem fl_AC_16 : FL "AccusedChoose" 16 8 1 := ⟨R_AC, T_AC, 18, t_AC, rfl, by decide, tb_mem 319 (by decide +kernel) (by decide +kernel), in_AC, t_AC_ok, n_AC⟩
theorem fl_AC_19 : FL "AccusedChoose" 19 8 2 := ⟨R_AC, T_AC, 18, t_AC, rfl, by decide, tb_mem 320 (by decide +kernel) (by decide +kernel), in_AC, t_AC_ok, n_AC⟩
theorem fl_AC_25 : FL "AccusedChoose" 25 8 3 := ⟨R_AC, T_AC, 18, t_AC, rfl, by decide, tb_mem 321 (by decide +kernel) (by decide +kernel), in_AC, t_AC_ok, n_AC⟩
theorem fl_AC_32 : FL "AccusedChoose" 32 8 4 := ⟨R_AC, T_AC, 18, t_AC, rfl, by decide, tb_mem 322 (by decide +kernel) (by decide +kernel), in_AC, t_AC_ok, n_AC⟩
theorem fl_AC_39 : FL "AccusedChoose" 39 8 5 := ⟨R_AC, T_AC, 18, t_AC, rfl, by decide, tb_mem 323 (by decide +kernel) (by decide +kernel), in_AC, t_AC_ok, n_AC⟩
theorem fl_AC_43 : FL "AccusedChoose" 43 8 6 := ⟨R_AC, T_AC, 18, t_AC, rfl, by decide, tb_mem 324 (by decide +kernel) (by decide +kernel), in_AC, t_AC_ok, n_AC⟩
theorem fl_AC_49 : FL "AccusedChoose" 49 8 7 := ⟨R_AC, T_AC, 18, t_AC, rfl, by decide, tb_mem 325 (by decide +kernel) (by decide +kernel), in_AC, t_AC_ok, n_AC⟩
theorem fl_AC_53 : FL "AccusedChoose" 53 8 8 := ⟨R_AC, T_AC, 18, t_AC, rfl, by decide, tb_mem 326 (by decide +kernel) (by decide +kernel), in_AC, t_AC_ok, n_AC⟩
theorem fl_AC_59 : FL "AccusedChoose" 59 8 9 := ⟨R_AC, T_AC, 18, t_AC, rfl, by decide, tb_mem 327 (by decide +kernel) (by decide +kernel), in_AC, t_AC_ok, n_AC⟩
theorem fl_AC_66 : FL "AccusedChoose" 66 8 10 := ⟨R_AC, T_AC, 18, t_AC, rfl, by decide, tb_mem 328 (by decide +kernel) (by decide +kernel), in_AC, t_AC_ok, n_AC⟩
theorem fl_AC_73 : FL "AccusedChoose" 73 8 11 := ⟨R_AC, T_AC, 18, t_AC, rfl, by decide, tb_mem 329 (by decide +kernel) (by decide +kernel), in_AC, t_AC_ok, n_AC⟩
theorem fl_AC_77 : FL "AccusedChoose" 77 8 12 := ⟨R_AC, T_AC, 18, t_AC, rfl, by decide, tb_mem 330 (by decide +kernel) (by decide +kernel), in_AC, t_AC_ok, n_AC⟩
theorem fl_AC_81 : FL "AccusedChoose" 81 8 13 := ⟨R_AC, T_AC, 18, t_AC, rfl, by decide, tb_mem 331 (by decide +kernel) (by decide +kernel), in_AC, t_AC_ok, n_AC⟩
theorem fl_AC_84 : FL "AccusedChoose" 84 8 14 := ⟨R_AC, T_AC, 18, t_AC, rfl, by decide, tb_mem 332 (by decide +kernel) (by decide +kernel), in_AC, t_AC_ok, n_AC⟩
theorem fl_AC_87 : FL "AccusedChoose" 87 8 15 := ⟨R_AC, T_AC, 18, t_AC, rfl, by decide, tb_mem 333 (by decide +kernel) (by decide +kernel), in_AC, t_AC_ok, n_AC⟩
theorem fw_AC_344 : FW "AccusedChoose" 344 8 16 .int := ⟨R_AC, T_AC, 18, t_AC, rfl, by decide, tb_mem 334 (by decide +kernel) (by decide +kernel), in_AC, t_AC_ok, n_AC, rfl, by decide +kernel⟩
theorem fl_AC_344 : FL "AccusedChoose" 344 8 16 := let ⟨C, T, N, t0, a, b, c, d, e, f, _, _⟩ := fw_AC_344; ⟨C, T, N, t0, a, b, c, d, e, f⟩
theorem fw_AC_366 : FW "AccusedChoose" 366 8 17 .boolean := ⟨R_AC, T_AC, 18, t_AC, rfl, by decide, tb_mem 335 (by decide +kernel) (by decide +kernel), in_AC, t_AC_ok, n_AC, rfl, by decide +kernel⟩
theorem fl_AC_366 : FL "AccusedChoose" 366 8 17 := let ⟨C, T, N, t0, a, b, c, d, e, f, _, _⟩ := fw_AC_366; ⟨C, T, N, t0, a, b, c, d, e, f⟩
theorem fl_MD_7 : FL "AccusedChooseModel" 7 9 0 := ⟨R_MD, T_MD, 36, t_MD, rfl, by decide, tb_mem 1027 (by decide +kernel) (by decide +kernel), in_MD, t_MD_ok, n_MD⟩
theorem fl_MD_13 : FL "AccusedChooseModel" 13 9 1 := ⟨R_MD, T_MD, 36, t_MD, rfl, by decide, tb_mem 1028 (by decide +kernel) (by decide +kernel), in_MD, t_MD_ok, n_MD⟩
theorem fl_MD_16 : FL "AccusedChooseModel" 16 9 2 := ⟨R_MD, T_MD, 36, t_MD, rfl, by decide, tb_mem 1029 (by decide +kernel) (by decide +kernel), in_MD, t_MD_ok, n_MD⟩
theorem fl_MD_19 : FL "AccusedChooseModel" 19 9 3 := ⟨R_MD, T_MD, 36, t_MD, rfl, by decide, tb_mem 1030 (by decide +kernel) (by decide +kernel), in_MD, t_MD_ok, n_MD⟩
theorem fl_MD_22 : FL "AccusedChooseModel" 22 9 4 := ⟨R_MD, T_MD, 36, t_MD, rfl, by decide, tb_mem 1031 (by decide +kernel) (by decide +kernel), in_MD, t_MD_ok, n_MD⟩
theorem fl_MD_25 : FL "AccusedChooseModel" 25 9 5 := ⟨R_MD, T_MD, 36, t_MD, rfl, by decide, tb_mem 1032 (by decide +kernel) (by decide +kernel), in_MD, t_MD_ok, n_MD⟩
theorem fl_MD_28 : FL "AccusedChooseModel" 28 9 6 := ⟨R_MD, T_MD, 36, t_MD, rfl, by decide, tb_mem 1033 (by decide +kernel) (by decide +kernel), in_MD, t_MD_ok, n_MD⟩
theorem fl_MD_31 : FL "AccusedChooseModel" 31 9 7 := ⟨R_MD, T_MD, 36, t_MD, rfl, by decide, tb_mem 1034 (by decide +kernel) (by decide +kernel), in_MD, t_MD_ok, n_MD⟩
theorem fl_MD_34 : FL "AccusedChooseModel" 34 9 8 := ⟨R_MD, T_MD, 36, t_MD, rfl, by decide, tb_mem 1035 (by decide +kernel) (by decide +kernel), in_MD, t_MD_ok, n_MD⟩
theorem fw_MD_84 : FW "AccusedChooseModel" 84 9 9 .int := ⟨R_MD, T_MD, 36, t_MD, rfl, by decide, tb_mem 1036 (by decide +kernel) (by decide +kernel), in_MD, t_MD_ok, n_MD, rfl, by decide +kernel⟩
theorem fl_MD_84 : FL "AccusedChooseModel" 84 9 9 := let ⟨C, T, N, t0, a, b, c, d, e, f, _, _⟩ := fw_MD_84; ⟨C, T, N, t0, a, b, c, d, e, f⟩
theorem fw_MD_90 : FW "AccusedChooseModel" 90 9 10 .int := ⟨R_MD, T_MD, 36, t_MD, rfl, by decide, tb_mem 1037 (by decide +kernel) (by decide +kernel), in_MD, t_MD_ok, n_MD, rfl, by decide +kernel⟩
theorem fl_MD_90 : FL "AccusedChooseModel" 90 9 10 := let ⟨C, T, N, t0, a, b, c, d, e, f, _, _⟩ := fw_MD_90; ⟨C, T, N, t0, a, b, c, d, e, f⟩
theorem fl_MD_37 : FL "AccusedChooseModel" 37 9 11 := ⟨R_MD, T_MD, 36, t_MD, rfl, by decide, tb_mem 1038 (by decide +kernel) (by decide +kernel), in_MD, t_MD_ok, n_MD⟩
theorem fl_MD_40 : FL "AccusedChooseModel" 40 9 12 := ⟨R_MD, T_MD, 36, t_MD, rfl, by decide, tb_mem 1039 (by decide +kernel) (by decide +kernel), in_MD, t_MD_ok, n_MD⟩
theorem fl_MD_43 : FL "AccusedChooseModel" 43 9 13 := ⟨R_MD, T_MD, 36, t_MD, rfl, by decide, tb_mem 1040 (by decide +kernel) (by decide +kernel), in_MD, t_MD_ok, n_MD⟩
theorem fl_MD_46 : FL "AccusedChooseModel" 46 9 14 := ⟨R_MD, T_MD, 36, t_MD, rfl, by decide, tb_mem 1041 (by decide +kernel) (by decide +kernel), in_MD, t_MD_ok, n_MD⟩
theorem fw_MD_101 : FW "AccusedChooseModel" 101 9 15 .int := ⟨R_MD, T_MD, 36, t_MD, rfl, by decide, tb_mem 1042 (by decide +kernel) (by decide +kernel), in_MD, t_MD_ok, n_MD, rfl, by decide +kernel⟩
theorem fl_MD_101 : FL "AccusedChooseModel" 101 9 15 := let ⟨C, T, N, t0, a, b, c, d, e, f, _, _⟩ := fw_MD_101; ⟨C, T, N, t0, a, b, c, d, e, f⟩
theorem fw_MD_108 : FW "AccusedChooseModel" 108 9 16 .int := ⟨R_MD, T_MD, 36, t_MD, rfl, by decide, tb_mem 1043 (by decide +kernel) (by decide +kernel), in_MD, t_MD_ok, n_MD, rfl, by decide +kernel⟩
theorem fl_MD_108 : FL "AccusedChooseModel" 108 9 16 := let ⟨C, T, N, t0, a, b, c, d, e, f, _, _⟩ := fw_MD_108; ⟨C, T, N, t0, a, b, c, d, e, f⟩
theorem fw_MD_119 : FW "AccusedChooseModel" 119 9 17 .int := ⟨R_MD, T_MD, 36, t_MD, rfl, by decide, tb_mem 1044 (by decide +kernel) (by decide +kernel), in_MD, t_MD_ok, n_MD, rfl, by decide +kernel⟩
theorem fl_MD_119 : FL "AccusedChooseModel" 119 9 17 := let ⟨C, T, N, t0, a, b, c, d, e, f, _, _⟩ := fw_MD_119; ⟨C, T, N, t0, a, b, c, d, e, f⟩
theorem fl_MD_49 : FL "AccusedChooseModel" 49 9 18 := ⟨R_MD, T_MD, 36, t_MD, rfl, by decide, tb_mem 1045 (by decide +kernel) (by decide +kernel), in_MD, t_MD_ok, n_MD⟩
theorem fw_MD_174 : FW "AccusedChooseModel" 174 9 19 .boolean := ⟨R_MD, T_MD, 36, t_MD, rfl, by decide, tb_mem 1046 (by decide +kernel) (by decide +kernel), in_MD, t_MD_ok, n_MD, rfl, by decide +kernel⟩
theorem fl_MD_174 : FL "AccusedChooseModel" 174 9 19 := let ⟨C, T, N, t0, a, b, c, d, e, f, _, _⟩ := fw_MD_174; ⟨C, T, N, t0, a, b, c, d, e, f⟩
theorem fw_MD_160 : FW "AccusedChooseModel" 160 9 20 .boolean := ⟨R_MD, T_MD, 36, t_MD, rfl, by decide, tb_mem 1047 (by decide +kernel) (by decide +kernel), in_MD, t_MD_ok, n_MD, rfl, by decide +kernel⟩
theorem fl_MD_160 : FL "AccusedChooseModel" 160 9 20 := let ⟨C, T, N, t0, a, b, c, d, e, f, _, _⟩ := fw_MD_160; ⟨C, T, N, t0, a, b, c, d, e, f⟩
theorem fw_MD_164 : FW "AccusedChooseModel" 164 9 21 .int := ⟨R_MD, T_MD, 36, t_MD, rfl, by decide, tb_mem 1048 (by decide +kernel) (by decide +kernel), in_MD, t_MD_ok, n_MD, rfl, by decide +kernel⟩
theorem fl_MD_164 : FL "AccusedChooseModel" 164 9 21 := let ⟨C, T, N, t0, a, b, c, d, e, f, _, _⟩ := fw_MD_164; ⟨C, T, N, t0, a, b, c, d, e, f⟩
theorem fw_MD_157 : FW "AccusedChooseModel" 157 9 22 .int := ⟨R_MD, T_MD, 36, t_MD, rfl, by decide, tb_mem 1049 (by decide +kernel) (by decide +kernel), in_MD, t_MD_ok, n_MD, rfl, by decide +kernel⟩
theorem fl_MD_157 : FL "AccusedChooseModel" 157 9 22 := let ⟨C, T, N, t0, a, b, c, d, e, f, _, _⟩ := fw_MD_157; ⟨C, T, N, t0, a, b, c, d, e, f⟩
theorem fw_MD_52 : FW "AccusedChooseModel" 52 9 23 .int := ⟨R_MD, T_MD, 36, t_MD, rfl, by decide, tb_mem 1050 (by decide +kernel) (by decide +kernel), in_MD, t_MD_ok, n_MD, rfl, by decide +kernel⟩
theorem fl_MD_52 : FL "AccusedChooseModel" 52 9 23 := let ⟨C, T, N, t0, a, b, c, d, e, f, _, _⟩ := fw_MD_52; ⟨C, T, N, t0, a, b, c, d, e, f⟩
theorem fl_MD_56 : FL "AccusedChooseModel" 56 9 24 := ⟨R_MD, T_MD, 36, t_MD, rfl, by decide, tb_mem 1051 (by decide +kernel) (by decide +kernel), in_MD, t_MD_ok, n_MD⟩
theorem fl_MD_59 : FL "AccusedChooseModel" 59 9 25 := ⟨R_MD, T_MD, 36, t_MD, rfl, by decide, tb_mem 1052 (by decide +kernel) (by decide +kernel), in_MD, t_MD_ok, n_MD⟩
theorem fw_MD_200 : FW "AccusedChooseModel" 200 9 26 .int := ⟨R_MD, T_MD, 36, t_MD, rfl, by decide, tb_mem 1053 (by decide +kernel) (by decide +kernel), in_MD, t_MD_ok, n_MD, rfl, by decide +kernel⟩
theorem fl_MD_200 : FL "AccusedChooseModel" 200 9 26 := let ⟨C, T, N, t0, a, b, c, d, e, f, _, _⟩ := fw_MD_200; ⟨C, T, N, t0, a, b, c, d, e, f⟩
theorem fl_MD_62 : FL "AccusedChooseModel" 62 9 27 := ⟨R_MD, T_MD, 36, t_MD, rfl, by decide, tb_mem 1054 (by decide +kernel) (by decide +kernel), in_MD, t_MD_ok, n_MD⟩
theorem fl_MD_65 : FL "AccusedChooseModel" 65 9 28 := ⟨R_MD, T_MD, 36, t_MD, rfl, by decide, tb_mem 1055 (by decide +kernel) (by decide +kernel), in_MD, t_MD_ok, n_MD⟩
theorem fl_MD_68 : FL "AccusedChooseModel" 68 9 29 := ⟨R_MD, T_MD, 36, t_MD, rfl, by decide, tb_mem 1056 (by decide +kernel) (by decide +kernel), in_MD, t_MD_ok, n_MD⟩
theorem fl_MD_71 : FL "AccusedChooseModel" 71 9 30 := ⟨R_MD, T_MD, 36, t_MD, rfl, by decide, tb_mem 1057 (by decide +kernel) (by decide +kernel), in_MD, t_MD_ok, n_MD⟩
theorem fl_MD_75 : FL "AccusedChooseModel" 75 9 31 := ⟨R_MD, T_MD, 36, t_MD, rfl, by decide, tb_mem 1058 (by decide +kernel) (by decide +kernel), in_MD, t_MD_ok, n_MD⟩
theorem fl_MD_78 : FL "AccusedChooseModel" 78 9 32 := ⟨R_MD, T_MD, 36, t_MD, rfl, by decide, tb_mem 1059 (by decide +kernel) (by decide +kernel), in_MD, t_MD_ok, n_MD⟩
theorem fw_MD_274 : FW "AccusedChooseModel" 274 9 33 .int := ⟨R_MD, T_MD, 36, t_MD, rfl, by decide, tb_mem 1060 (by decide +kernel) (by decide +kernel), in_MD, t_MD_ok, n_MD, rfl, by decide +kernel⟩
theorem fl_MD_274 : FL "AccusedChooseModel" 274 9 33 := let ⟨C, T, N, t0, a, b, c, d, e, f, _, _⟩ := fw_MD_274; ⟨C, T, N, t0, a, b, c, d, e, f⟩
theorem fl_MD_81 : FL "AccusedChooseModel" 81 9 34 := ⟨R_MD, T_MD, 36, t_MD, rfl, by decide, tb_mem 1061 (by decide +kernel) (by decide +kernel), in_MD, t_MD_ok, n_MD⟩
theorem fw_MD_330 : FW "AccusedChooseModel" 330 9 35 .int := ⟨R_MD, T_MD, 36, t_MD, rfl, by decide, tb_mem 1062 (by decide +kernel) (by decide +kernel), in_MD, t_MD_ok, n_MD, rfl, by decide +kernel⟩
theorem fl_MD_330 : FL "AccusedChooseModel" 330 9 35 := let ⟨C, T, N, t0, a, b, c, d, e, f, _, _⟩ := fw_MD_330; ⟨C, T, N, t0, a, b, c, d, e, f⟩
def YB (y : MethodName) (bytes : ByteArray) (maxL : Nat) (ret : Option FieldType) (n : Nat) : Prop := Cond.initialized y.cls ∈ tb ∧ Cond.code y bytes maxL ret ∈ tb ∧ (y.cls ≠ "java/lang/invoke/MethodHandle" ∧ y.cls ≠ "java/lang/invoke/VarHandle" ∧ (parseMethodDescriptor y.desc).map (fun d => d.parameters.length) = some n) ∧ maxL ≤ 21
def YV (y : MethodName) (bytes : ByteArray) (maxL : Nat) (ret : Option FieldType) (n : Nat) : Prop := YB y bytes maxL ret n ∧ Cond.instanceMethod y ∈ tb ∧ Cond.selects y.cls y y ∈ tb
def YS (y : MethodName) (bytes : ByteArray) (maxL : Nat) (ret : Option FieldType) (n : Nat) : Prop := YB y bytes maxL ret n ∧ Cond.static y ∈ tb
theorem yv_LB_hold : YV y_LB_hold b_LB_hold 8 none 2 := ⟨⟨tb_mem 105 (by decide +kernel) (by decide +kernel), tb_mem 700 (by decide +kernel) (by decide +kernel), ⟨by decide +kernel, by decide +kernel, by decide +kernel⟩, by decide⟩, tb_mem 698 (by decide +kernel) (by decide +kernel), tb_mem 699 (by decide +kernel) (by decide +kernel)⟩
theorem ys_LB_choice : YS y_LB_choice b_LB_choice 11 (some .int) 4 := ⟨⟨tb_mem 105 (by decide +kernel) (by decide +kernel), tb_mem 705 (by decide +kernel) (by decide +kernel), ⟨by decide +kernel, by decide +kernel, by decide +kernel⟩, by decide⟩, tb_mem 704 (by decide +kernel) (by decide +kernel)⟩
theorem ys_LB_monthsBehind : YS y_LB_monthsBehind b_LB_monthsBehind 8 (some .int) 5 := ⟨⟨tb_mem 105 (by decide +kernel) (by decide +kernel), tb_mem 714 (by decide +kernel) (by decide +kernel), ⟨by decide +kernel, by decide +kernel, by decide +kernel⟩, by decide⟩, tb_mem 713 (by decide +kernel) (by decide +kernel)⟩
theorem yv_LT_isFull : YV y_LT_isFull b_LT_isFull 1 (some .boolean) 0 := ⟨⟨tb_mem 102 (by decide +kernel) (by decide +kernel), tb_mem 390 (by decide +kernel) (by decide +kernel), ⟨by decide +kernel, by decide +kernel, by decide +kernel⟩, by decide⟩, tb_mem 388 (by decide +kernel) (by decide +kernel), tb_mem 389 (by decide +kernel) (by decide +kernel)⟩
theorem yv_LT_add : YV y_LT_add b_LT_add 2 (some .int) 1 := ⟨⟨tb_mem 102 (by decide +kernel) (by decide +kernel), tb_mem 394 (by decide +kernel) (by decide +kernel), ⟨by decide +kernel, by decide +kernel, by decide +kernel⟩, by decide⟩, tb_mem 392 (by decide +kernel) (by decide +kernel), tb_mem 393 (by decide +kernel) (by decide +kernel)⟩
theorem yv_LT_drop : YV y_LT_drop b_LT_drop 1 none 0 := ⟨⟨tb_mem 102 (by decide +kernel) (by decide +kernel), tb_mem 482 (by decide +kernel) (by decide +kernel), ⟨by decide +kernel, by decide +kernel, by decide +kernel⟩, by decide⟩, tb_mem 480 (by decide +kernel) (by decide +kernel), tb_mem 481 (by decide +kernel) (by decide +kernel)⟩
theorem yv_LT_tell : YV y_LT_tell b_LT_tell 5 (some .int) 1 := ⟨⟨tb_mem 102 (by decide +kernel) (by decide +kernel), tb_mem 413 (by decide +kernel) (by decide +kernel), ⟨by decide +kernel, by decide +kernel, by decide +kernel⟩, by decide⟩, tb_mem 411 (by decide +kernel) (by decide +kernel), tb_mem 412 (by decide +kernel) (by decide +kernel)⟩
theorem yv_LT_placeOfWrongLetter : YV y_LT_placeOfWrongLetter b_LT_placeOfWrongLetter 4 (some .int) 0 := ⟨⟨tb_mem 102 (by decide +kernel) (by decide +kernel), tb_mem 417 (by decide +kernel) (by decide +kernel), ⟨by decide +kernel, by decide +kernel, by decide +kernel⟩, by decide⟩, tb_mem 416 (by decide +kernel) (by decide +kernel), tb_mem 1 (by decide +kernel) (by decide +kernel)⟩
theorem ys_LT_digitsOf : YS y_LT_digitsOf b_LT_digitsOf 1 (some .int) 1 := ⟨⟨tb_mem 102 (by decide +kernel) (by decide +kernel), tb_mem 421 (by decide +kernel) (by decide +kernel), ⟨by decide +kernel, by decide +kernel, by decide +kernel⟩, by decide⟩, tb_mem 420 (by decide +kernel) (by decide +kernel)⟩
theorem yv_LT_digit : YV y_LT_digit b_LT_digit 2 (some .int) 1 := ⟨⟨tb_mem 102 (by decide +kernel) (by decide +kernel), tb_mem 429 (by decide +kernel) (by decide +kernel), ⟨by decide +kernel, by decide +kernel, by decide +kernel⟩, by decide⟩, tb_mem 428 (by decide +kernel) (by decide +kernel), tb_mem 3 (by decide +kernel) (by decide +kernel)⟩
theorem yv_LT_state : YV y_LT_state b_LT_state 5 (some .boolean) 2 := ⟨⟨tb_mem 102 (by decide +kernel) (by decide +kernel), tb_mem 425 (by decide +kernel) (by decide +kernel), ⟨by decide +kernel, by decide +kernel, by decide +kernel⟩, by decide⟩, tb_mem 424 (by decide +kernel) (by decide +kernel), tb_mem 2 (by decide +kernel) (by decide +kernel)⟩
theorem yv_LT_stateDeed : YV y_LT_stateDeed b_LT_stateDeed 4 (some .boolean) 3 := ⟨⟨tb_mem 102 (by decide +kernel) (by decide +kernel), tb_mem 433 (by decide +kernel) (by decide +kernel), ⟨by decide +kernel, by decide +kernel, by decide +kernel⟩, by decide⟩, tb_mem 432 (by decide +kernel) (by decide +kernel), tb_mem 4 (by decide +kernel) (by decide +kernel)⟩
theorem yv_LT_statePerson : YV y_LT_statePerson b_LT_statePerson 5 (some .boolean) 2 := ⟨⟨tb_mem 102 (by decide +kernel) (by decide +kernel), tb_mem 443 (by decide +kernel) (by decide +kernel), ⟨by decide +kernel, by decide +kernel, by decide +kernel⟩, by decide⟩, tb_mem 442 (by decide +kernel) (by decide +kernel), tb_mem 5 (by decide +kernel) (by decide +kernel)⟩
theorem yv_MO_hold : YV y_MO_hold b_MO_hold 6 none 3 := ⟨⟨tb_mem 104 (by decide +kernel) (by decide +kernel), tb_mem 606 (by decide +kernel) (by decide +kernel), ⟨by decide +kernel, by decide +kernel, by decide +kernel⟩, by decide⟩, tb_mem 604 (by decide +kernel) (by decide +kernel), tb_mem 605 (by decide +kernel) (by decide +kernel)⟩
theorem yv_MO_holdTrue : YV y_MO_holdTrue b_MO_holdTrue 7 none 2 := ⟨⟨tb_mem 104 (by decide +kernel) (by decide +kernel), tb_mem 953 (by decide +kernel) (by decide +kernel), ⟨by decide +kernel, by decide +kernel, by decide +kernel⟩, by decide⟩, tb_mem 951 (by decide +kernel) (by decide +kernel), tb_mem 952 (by decide +kernel) (by decide +kernel)⟩
theorem yv_MO_begin : YV y_MO_begin b_MO_begin 3 none 2 := ⟨⟨tb_mem 104 (by decide +kernel) (by decide +kernel), tb_mem 610 (by decide +kernel) (by decide +kernel), ⟨by decide +kernel, by decide +kernel, by decide +kernel⟩, by decide⟩, tb_mem 609 (by decide +kernel) (by decide +kernel), tb_mem 8 (by decide +kernel) (by decide +kernel)⟩
theorem yv_MO_seat : YV y_MO_seat b_MO_seat 5 none 3 := ⟨⟨tb_mem 104 (by decide +kernel) (by decide +kernel), tb_mem 629 (by decide +kernel) (by decide +kernel), ⟨by decide +kernel, by decide +kernel, by decide +kernel⟩, by decide⟩, tb_mem 628 (by decide +kernel) (by decide +kernel), tb_mem 10 (by decide +kernel) (by decide +kernel)⟩
theorem yv_MO_most : YV y_MO_most b_MO_most 3 (some .int) 0 := ⟨⟨tb_mem 104 (by decide +kernel) (by decide +kernel), tb_mem 812 (by decide +kernel) (by decide +kernel), ⟨by decide +kernel, by decide +kernel, by decide +kernel⟩, by decide⟩, tb_mem 810 (by decide +kernel) (by decide +kernel), tb_mem 811 (by decide +kernel) (by decide +kernel)⟩
theorem yv_MO_monthsTaken : YV y_MO_monthsTaken b_MO_monthsTaken 3 (some .int) 0 := ⟨⟨tb_mem 104 (by decide +kernel) (by decide +kernel), tb_mem 924 (by decide +kernel) (by decide +kernel), ⟨by decide +kernel, by decide +kernel, by decide +kernel⟩, by decide⟩, tb_mem 922 (by decide +kernel) (by decide +kernel), tb_mem 923 (by decide +kernel) (by decide +kernel)⟩
theorem yv_MO_owners : YV y_MO_owners b_MO_owners 6 (some .int) 2 := ⟨⟨tb_mem 104 (by decide +kernel) (by decide +kernel), tb_mem 882 (by decide +kernel) (by decide +kernel), ⟨by decide +kernel, by decide +kernel, by decide +kernel⟩, by decide⟩, tb_mem 880 (by decide +kernel) (by decide +kernel), tb_mem 881 (by decide +kernel) (by decide +kernel)⟩
theorem yv_NI_copy : YV y_NI_copy b_NI_copy 2 none 1 := ⟨⟨tb_mem 100 (by decide +kernel) (by decide +kernel), tb_mem 406 (by decide +kernel) (by decide +kernel), ⟨by decide +kernel, by decide +kernel, by decide +kernel⟩, by decide⟩, tb_mem 404 (by decide +kernel) (by decide +kernel), tb_mem 405 (by decide +kernel) (by decide +kernel)⟩
theorem yv_NI_hasDeed : YV y_NI_hasDeed b_NI_hasDeed 2 (some .boolean) 1 := ⟨⟨tb_mem 100 (by decide +kernel) (by decide +kernel), tb_mem 465 (by decide +kernel) (by decide +kernel), ⟨by decide +kernel, by decide +kernel, by decide +kernel⟩, by decide⟩, tb_mem 463 (by decide +kernel) (by decide +kernel), tb_mem 464 (by decide +kernel) (by decide +kernel)⟩
theorem yv_NI_hasPerson : YV y_NI_hasPerson b_NI_hasPerson 2 (some .boolean) 1 := ⟨⟨tb_mem 100 (by decide +kernel) (by decide +kernel), tb_mem 455 (by decide +kernel) (by decide +kernel), ⟨by decide +kernel, by decide +kernel, by decide +kernel⟩, by decide⟩, tb_mem 453 (by decide +kernel) (by decide +kernel), tb_mem 454 (by decide +kernel) (by decide +kernel)⟩
theorem yv_NI_hasTwo : YV y_NI_hasTwo b_NI_hasTwo 3 (some .boolean) 2 := ⟨⟨tb_mem 100 (by decide +kernel) (by decide +kernel), tb_mem 451 (by decide +kernel) (by decide +kernel), ⟨by decide +kernel, by decide +kernel, by decide +kernel⟩, by decide⟩, tb_mem 449 (by decide +kernel) (by decide +kernel), tb_mem 450 (by decide +kernel) (by decide +kernel)⟩
theorem yv_NI_putDeed : YV y_NI_putDeed b_NI_putDeed 4 (some .int) 2 := ⟨⟨tb_mem 100 (by decide +kernel) (by decide +kernel), tb_mem 437 (by decide +kernel) (by decide +kernel), ⟨by decide +kernel, by decide +kernel, by decide +kernel⟩, by decide⟩, tb_mem 435 (by decide +kernel) (by decide +kernel), tb_mem 436 (by decide +kernel) (by decide +kernel)⟩
theorem yv_NI_putPerson : YV y_NI_putPerson b_NI_putPerson 5 (some .int) 3 := ⟨⟨tb_mem 100 (by decide +kernel) (by decide +kernel), tb_mem 447 (by decide +kernel) (by decide +kernel), ⟨by decide +kernel, by decide +kernel, by decide +kernel⟩, by decide⟩, tb_mem 445 (by decide +kernel) (by decide +kernel), tb_mem 446 (by decide +kernel) (by decide +kernel)⟩
theorem yv_NI_placeOf : YV y_NI_placeOf b_NI_placeOf 2 (some .int) 1 := ⟨⟨tb_mem 100 (by decide +kernel) (by decide +kernel), tb_mem 500 (by decide +kernel) (by decide +kernel), ⟨by decide +kernel, by decide +kernel, by decide +kernel⟩, by decide⟩, tb_mem 498 (by decide +kernel) (by decide +kernel), tb_mem 499 (by decide +kernel) (by decide +kernel)⟩
theorem yv_NI_turnAlibi : YV y_NI_turnAlibi b_NI_turnAlibi 3 none 2 := ⟨⟨tb_mem 100 (by decide +kernel) (by decide +kernel), tb_mem 469 (by decide +kernel) (by decide +kernel), ⟨by decide +kernel, by decide +kernel, by decide +kernel⟩, by decide⟩, tb_mem 467 (by decide +kernel) (by decide +kernel), tb_mem 468 (by decide +kernel) (by decide +kernel)⟩
theorem yv_NI_pair : YV y_NI_pair b_NI_pair 3 none 2 := ⟨⟨tb_mem 100 (by decide +kernel) (by decide +kernel), tb_mem 459 (by decide +kernel) (by decide +kernel), ⟨by decide +kernel, by decide +kernel, by decide +kernel⟩, by decide⟩, tb_mem 457 (by decide +kernel) (by decide +kernel), tb_mem 458 (by decide +kernel) (by decide +kernel)⟩
theorem yv_NI_unpair : YV y_NI_unpair b_NI_unpair 5 none 4 := ⟨⟨tb_mem 100 (by decide +kernel) (by decide +kernel), tb_mem 582 (by decide +kernel) (by decide +kernel), ⟨by decide +kernel, by decide +kernel, by decide +kernel⟩, by decide⟩, tb_mem 580 (by decide +kernel) (by decide +kernel), tb_mem 581 (by decide +kernel) (by decide +kernel)⟩
theorem yv_NI_allDeeds : YV y_NI_allDeeds b_NI_allDeeds 1 (some .int) 0 := ⟨⟨tb_mem 100 (by decide +kernel) (by decide +kernel), tb_mem 602 (by decide +kernel) (by decide +kernel), ⟨by decide +kernel, by decide +kernel, by decide +kernel⟩, by decide⟩, tb_mem 600 (by decide +kernel) (by decide +kernel), tb_mem 601 (by decide +kernel) (by decide +kernel)⟩
theorem yv_NI_may : YV y_NI_may b_NI_may 3 (some .boolean) 2 := ⟨⟨tb_mem 100 (by decide +kernel) (by decide +kernel), tb_mem 509 (by decide +kernel) (by decide +kernel), ⟨by decide +kernel, by decide +kernel, by decide +kernel⟩, by decide⟩, tb_mem 507 (by decide +kernel) (by decide +kernel), tb_mem 508 (by decide +kernel) (by decide +kernel)⟩
theorem yv_NI_mayBits : YV y_NI_mayBits b_NI_mayBits 4 (some .int) 1 := ⟨⟨tb_mem 100 (by decide +kernel) (by decide +kernel), tb_mem 505 (by decide +kernel) (by decide +kernel), ⟨by decide +kernel, by decide +kernel, by decide +kernel⟩, by decide⟩, tb_mem 503 (by decide +kernel) (by decide +kernel), tb_mem 504 (by decide +kernel) (by decide +kernel)⟩
theorem yv_NI_canHaveDone : YV y_NI_canHaveDone b_NI_canHaveDone 4 (some .boolean) 2 := ⟨⟨tb_mem 100 (by decide +kernel) (by decide +kernel), tb_mem 742 (by decide +kernel) (by decide +kernel), ⟨by decide +kernel, by decide +kernel, by decide +kernel⟩, by decide⟩, tb_mem 740 (by decide +kernel) (by decide +kernel), tb_mem 741 (by decide +kernel) (by decide +kernel)⟩
theorem yv_NI_monthsFor : YV y_NI_monthsFor b_NI_monthsFor 5 (some .int) 2 := ⟨⟨tb_mem 100 (by decide +kernel) (by decide +kernel), tb_mem 522 (by decide +kernel) (by decide +kernel), ⟨by decide +kernel, by decide +kernel, by decide +kernel⟩, by decide⟩, tb_mem 520 (by decide +kernel) (by decide +kernel), tb_mem 521 (by decide +kernel) (by decide +kernel)⟩
theorem yv_NI_forgetLaterDids : YV y_NI_forgetLaterDids b_NI_forgetLaterDids 2 none 0 := ⟨⟨tb_mem 100 (by decide +kernel) (by decide +kernel), tb_mem 840 (by decide +kernel) (by decide +kernel), ⟨by decide +kernel, by decide +kernel, by decide +kernel⟩, by decide⟩, tb_mem 838 (by decide +kernel) (by decide +kernel), tb_mem 839 (by decide +kernel) (by decide +kernel)⟩
theorem yv_NI_allRecords : YV y_NI_allRecords b_NI_allRecords 3 (some .int) 0 := ⟨⟨tb_mem 100 (by decide +kernel) (by decide +kernel), tb_mem 1015 (by decide +kernel) (by decide +kernel), ⟨by decide +kernel, by decide +kernel, by decide +kernel⟩, by decide⟩, tb_mem 1013 (by decide +kernel) (by decide +kernel), tb_mem 1014 (by decide +kernel) (by decide +kernel)⟩
theorem yv_NI_allAlibis : YV y_NI_allAlibis b_NI_allAlibis 3 (some .int) 0 := ⟨⟨tb_mem 100 (by decide +kernel) (by decide +kernel), tb_mem 1019 (by decide +kernel) (by decide +kernel), ⟨by decide +kernel, by decide +kernel, by decide +kernel⟩, by decide⟩, tb_mem 1017 (by decide +kernel) (by decide +kernel), tb_mem 1018 (by decide +kernel) (by decide +kernel)⟩
theorem yv_OR_begin : YV y_OR_begin b_OR_begin 3 none 1 := ⟨⟨tb_mem 107 (by decide +kernel) (by decide +kernel), tb_mem 808 (by decide +kernel) (by decide +kernel), ⟨by decide +kernel, by decide +kernel, by decide +kernel⟩, by decide⟩, tb_mem 806 (by decide +kernel) (by decide +kernel), tb_mem 807 (by decide +kernel) (by decide +kernel)⟩
theorem yv_OR_keep : YV y_OR_keep b_OR_keep 1 none 0 := ⟨⟨tb_mem 107 (by decide +kernel) (by decide +kernel), tb_mem 817 (by decide +kernel) (by decide +kernel), ⟨by decide +kernel, by decide +kernel, by decide +kernel⟩, by decide⟩, tb_mem 815 (by decide +kernel) (by decide +kernel), tb_mem 816 (by decide +kernel) (by decide +kernel)⟩
theorem yv_OR_keptAt : YV y_OR_keptAt b_OR_keptAt 2 (some .int) 1 := ⟨⟨tb_mem 107 (by decide +kernel) (by decide +kernel), tb_mem 832 (by decide +kernel) (by decide +kernel), ⟨by decide +kernel, by decide +kernel, by decide +kernel⟩, by decide⟩, tb_mem 830 (by decide +kernel) (by decide +kernel), tb_mem 831 (by decide +kernel) (by decide +kernel)⟩
theorem yv_OR_step : YV y_OR_step b_OR_step 5 (some .boolean) 0 := ⟨⟨tb_mem 107 (by decide +kernel) (by decide +kernel), tb_mem 822 (by decide +kernel) (by decide +kernel), ⟨by decide +kernel, by decide +kernel, by decide +kernel⟩, by decide⟩, tb_mem 820 (by decide +kernel) (by decide +kernel), tb_mem 821 (by decide +kernel) (by decide +kernel)⟩
theorem yv_OR_exchange : YV y_OR_exchange b_OR_exchange 4 none 2 := ⟨⟨tb_mem 107 (by decide +kernel) (by decide +kernel), tb_mem 827 (by decide +kernel) (by decide +kernel), ⟨by decide +kernel, by decide +kernel, by decide +kernel⟩, by decide⟩, tb_mem 826 (by decide +kernel) (by decide +kernel), tb_mem 28 (by decide +kernel) (by decide +kernel)⟩
theorem yv_PA_add : YV y_PA_add b_PA_add 6 none 5 := ⟨⟨tb_mem 101 (by decide +kernel) (by decide +kernel), tb_mem 547 (by decide +kernel) (by decide +kernel), ⟨by decide +kernel, by decide +kernel, by decide +kernel⟩, by decide⟩, tb_mem 545 (by decide +kernel) (by decide +kernel), tb_mem 546 (by decide +kernel) (by decide +kernel)⟩
theorem yv_PA_forget : YV y_PA_forget b_PA_forget 1 none 0 := ⟨⟨tb_mem 101 (by decide +kernel) (by decide +kernel), tb_mem 486 (by decide +kernel) (by decide +kernel), ⟨by decide +kernel, by decide +kernel, by decide +kernel⟩, by decide⟩, tb_mem 484 (by decide +kernel) (by decide +kernel), tb_mem 485 (by decide +kernel) (by decide +kernel)⟩
theorem yv_PA_takeBack : YV y_PA_takeBack b_PA_takeBack 4 none 1 := ⟨⟨tb_mem 101 (by decide +kernel) (by decide +kernel), tb_mem 575 (by decide +kernel) (by decide +kernel), ⟨by decide +kernel, by decide +kernel, by decide +kernel⟩, by decide⟩, tb_mem 573 (by decide +kernel) (by decide +kernel), tb_mem 574 (by decide +kernel) (by decide +kernel)⟩
theorem yv_PA_dropOldest : YV y_PA_dropOldest b_PA_dropOldest 1 none 0 := ⟨⟨tb_mem 101 (by decide +kernel) (by decide +kernel), tb_mem 551 (by decide +kernel) (by decide +kernel), ⟨by decide +kernel, by decide +kernel, by decide +kernel⟩, by decide⟩, tb_mem 550 (by decide +kernel) (by decide +kernel), tb_mem 6 (by decide +kernel) (by decide +kernel)⟩
theorem ys_PA_shift : YS y_PA_shift b_PA_shift 2 none 1 := ⟨⟨tb_mem 101 (by decide +kernel) (by decide +kernel), tb_mem 554 (by decide +kernel) (by decide +kernel), ⟨by decide +kernel, by decide +kernel, by decide +kernel⟩, by decide⟩, tb_mem 553 (by decide +kernel) (by decide +kernel)⟩
theorem yv_PR_fill : YV y_PR_fill b_PR_fill 5 none 1 := ⟨⟨tb_mem 103 (by decide +kernel) (by decide +kernel), tb_mem 594 (by decide +kernel) (by decide +kernel), ⟨by decide +kernel, by decide +kernel, by decide +kernel⟩, by decide⟩, tb_mem 592 (by decide +kernel) (by decide +kernel), tb_mem 593 (by decide +kernel) (by decide +kernel)⟩
theorem yv_PR_allows : YV y_PR_allows b_PR_allows 3 (some .boolean) 2 := ⟨⟨tb_mem 103 (by decide +kernel) (by decide +kernel), tb_mem 677 (by decide +kernel) (by decide +kernel), ⟨by decide +kernel, by decide +kernel, by decide +kernel⟩, by decide⟩, tb_mem 675 (by decide +kernel) (by decide +kernel), tb_mem 676 (by decide +kernel) (by decide +kernel)⟩
theorem yv_PR_of : YV y_PR_of b_PR_of 3 (some .int) 2 := ⟨⟨tb_mem 103 (by decide +kernel) (by decide +kernel), tb_mem 620 (by decide +kernel) (by decide +kernel), ⟨by decide +kernel, by decide +kernel, by decide +kernel⟩, by decide⟩, tb_mem 618 (by decide +kernel) (by decide +kernel), tb_mem 619 (by decide +kernel) (by decide +kernel)⟩
theorem yv_PR_isThere : YV y_PR_isThere b_PR_isThere 3 (some .boolean) 2 := ⟨⟨tb_mem 103 (by decide +kernel) (by decide +kernel), tb_mem 624 (by decide +kernel) (by decide +kernel), ⟨by decide +kernel, by decide +kernel, by decide +kernel⟩, by decide⟩, tb_mem 623 (by decide +kernel) (by decide +kernel), tb_mem 9 (by decide +kernel) (by decide +kernel)⟩
theorem yv_PR_lightest : YV y_PR_lightest b_PR_lightest 7 (some .int) 2 := ⟨⟨tb_mem 103 (by decide +kernel) (by decide +kernel), tb_mem 615 (by decide +kernel) (by decide +kernel), ⟨by decide +kernel, by decide +kernel, by decide +kernel⟩, by decide⟩, tb_mem 613 (by decide +kernel) (by decide +kernel), tb_mem 614 (by decide +kernel) (by decide +kernel)⟩
theorem yv_TA_get : YV y_TA_get b_TA_get 3 (some .int) 2 := ⟨⟨tb_mem 106 (by decide +kernel) (by decide +kernel), tb_mem 671 (by decide +kernel) (by decide +kernel), ⟨by decide +kernel, by decide +kernel, by decide +kernel⟩, by decide⟩, tb_mem 669 (by decide +kernel) (by decide +kernel), tb_mem 670 (by decide +kernel) (by decide +kernel)⟩
theorem yv_TA_set : YV y_TA_set b_TA_set 4 none 3 := ⟨⟨tb_mem 106 (by decide +kernel) (by decide +kernel), tb_mem 652 (by decide +kernel) (by decide +kernel), ⟨by decide +kernel, by decide +kernel, by decide +kernel⟩, by decide⟩, tb_mem 650 (by decide +kernel) (by decide +kernel), tb_mem 651 (by decide +kernel) (by decide +kernel)⟩
theorem yv_TA_fillLeast : YV y_TA_fillLeast b_TA_fillLeast 4 none 1 := ⟨⟨tb_mem 106 (by decide +kernel) (by decide +kernel), tb_mem 644 (by decide +kernel) (by decide +kernel), ⟨by decide +kernel, by decide +kernel, by decide +kernel⟩, by decide⟩, tb_mem 642 (by decide +kernel) (by decide +kernel), tb_mem 643 (by decide +kernel) (by decide +kernel)⟩
theorem yv_TA_leastFrom : YV y_TA_leastFrom b_TA_leastFrom 6 (some .int) 3 := ⟨⟨tb_mem 106 (by decide +kernel) (by decide +kernel), tb_mem 667 (by decide +kernel) (by decide +kernel), ⟨by decide +kernel, by decide +kernel, by decide +kernel⟩, by decide⟩, tb_mem 666 (by decide +kernel) (by decide +kernel), tb_mem 12 (by decide +kernel) (by decide +kernel)⟩
theorem yv_TA_leastDeed : YV y_TA_leastDeed b_TA_leastDeed 6 (some .int) 2 := ⟨⟨tb_mem 106 (by decide +kernel) (by decide +kernel), tb_mem 688 (by decide +kernel) (by decide +kernel), ⟨by decide +kernel, by decide +kernel, by decide +kernel⟩, by decide⟩, tb_mem 686 (by decide +kernel) (by decide +kernel), tb_mem 687 (by decide +kernel) (by decide +kernel)⟩
theorem yv_TA_leastStep : YV y_TA_leastStep b_TA_leastStep 6 (some .int) 3 := ⟨⟨tb_mem 106 (by decide +kernel) (by decide +kernel), tb_mem 692 (by decide +kernel) (by decide +kernel), ⟨by decide +kernel, by decide +kernel, by decide +kernel⟩, by decide⟩, tb_mem 691 (by decide +kernel) (by decide +kernel), tb_mem 14 (by decide +kernel) (by decide +kernel)⟩
theorem yv_TA_fillTogether : YV y_TA_fillTogether b_TA_fillTogether 8 none 3 := ⟨⟨tb_mem 106 (by decide +kernel) (by decide +kernel), tb_mem 852 (by decide +kernel) (by decide +kernel), ⟨by decide +kernel, by decide +kernel, by decide +kernel⟩, by decide⟩, tb_mem 850 (by decide +kernel) (by decide +kernel), tb_mem 851 (by decide +kernel) (by decide +kernel)⟩
theorem yv_TA_chosen : YV y_TA_chosen b_TA_chosen 7 (some .int) 4 := ⟨⟨tb_mem 106 (by decide +kernel) (by decide +kernel), tb_mem 856 (by decide +kernel) (by decide +kernel), ⟨by decide +kernel, by decide +kernel, by decide +kernel⟩, by decide⟩, tb_mem 855 (by decide +kernel) (by decide +kernel), tb_mem 30 (by decide +kernel) (by decide +kernel)⟩
theorem yv_TA_passed : YV y_TA_passed b_TA_passed 6 (some .int) 4 := ⟨⟨tb_mem 106 (by decide +kernel) (by decide +kernel), tb_mem 861 (by decide +kernel) (by decide +kernel), ⟨by decide +kernel, by decide +kernel, by decide +kernel⟩, by decide⟩, tb_mem 860 (by decide +kernel) (by decide +kernel), tb_mem 31 (by decide +kernel) (by decide +kernel)⟩
theorem yv_TA_monthsWith : YV y_TA_monthsWith b_TA_monthsWith 6 (some .int) 5 := ⟨⟨tb_mem 106 (by decide +kernel) (by decide +kernel), tb_mem 681 (by decide +kernel) (by decide +kernel), ⟨by decide +kernel, by decide +kernel, by decide +kernel⟩, by decide⟩, tb_mem 680 (by decide +kernel) (by decide +kernel), tb_mem 13 (by decide +kernel) (by decide +kernel)⟩
theorem ys_TA_canBe : YS y_TA_canBe b_TA_canBe 2 (some .boolean) 2 := ⟨⟨tb_mem 106 (by decide +kernel) (by decide +kernel), tb_mem 657 (by decide +kernel) (by decide +kernel), ⟨by decide +kernel, by decide +kernel, by decide +kernel⟩, by decide⟩, tb_mem 656 (by decide +kernel) (by decide +kernel)⟩
theorem yv_TA_closeAt : YV y_TA_closeAt b_TA_closeAt 3 none 1 := ⟨⟨tb_mem 106 (by decide +kernel) (by decide +kernel), tb_mem 648 (by decide +kernel) (by decide +kernel), ⟨by decide +kernel, by decide +kernel, by decide +kernel⟩, by decide⟩, tb_mem 647 (by decide +kernel) (by decide +kernel), tb_mem 11 (by decide +kernel) (by decide +kernel)⟩
theorem yv_AC_feed : YV y_AC_feed b_AC_feed 2 (some .int) 1 := ⟨⟨tb_mem 99 (by decide +kernel) (by decide +kernel), tb_mem 376 (by decide +kernel) (by decide +kernel), ⟨by decide +kernel, by decide +kernel, by decide +kernel⟩, by decide⟩, tb_mem 374 (by decide +kernel) (by decide +kernel), tb_mem 375 (by decide +kernel) (by decide +kernel)⟩
theorem yv_AC_night : YV y_AC_night b_AC_night 2 (some .int) 0 := ⟨⟨tb_mem 99 (by decide +kernel) (by decide +kernel), tb_mem 402 (by decide +kernel) (by decide +kernel), ⟨by decide +kernel, by decide +kernel, by decide +kernel⟩, by decide⟩, tb_mem 400 (by decide +kernel) (by decide +kernel), tb_mem 401 (by decide +kernel) (by decide +kernel)⟩
theorem yv_AC_deed : YV y_AC_deed b_AC_deed 3 (some .int) 2 := ⟨⟨tb_mem 99 (by decide +kernel) (by decide +kernel), tb_mem 490 (by decide +kernel) (by decide +kernel), ⟨by decide +kernel, by decide +kernel, by decide +kernel⟩, by decide⟩, tb_mem 488 (by decide +kernel) (by decide +kernel), tb_mem 489 (by decide +kernel) (by decide +kernel)⟩
theorem yv_AC_person : YV y_AC_person b_AC_person 3 (some .int) 2 := ⟨⟨tb_mem 99 (by decide +kernel) (by decide +kernel), tb_mem 495 (by decide +kernel) (by decide +kernel), ⟨by decide +kernel, by decide +kernel, by decide +kernel⟩, by decide⟩, tb_mem 493 (by decide +kernel) (by decide +kernel), tb_mem 494 (by decide +kernel) (by decide +kernel)⟩
theorem yv_AC_months : YV y_AC_months b_AC_months 3 (some .int) 2 := ⟨⟨tb_mem 99 (by decide +kernel) (by decide +kernel), tb_mem 518 (by decide +kernel) (by decide +kernel), ⟨by decide +kernel, by decide +kernel, by decide +kernel⟩, by decide⟩, tb_mem 516 (by decide +kernel) (by decide +kernel), tb_mem 517 (by decide +kernel) (by decide +kernel)⟩
theorem yv_AC_addDeed : YV y_AC_addDeed b_AC_addDeed 3 (some .int) 2 := ⟨⟨tb_mem 99 (by decide +kernel) (by decide +kernel), tb_mem 532 (by decide +kernel) (by decide +kernel), ⟨by decide +kernel, by decide +kernel, by decide +kernel⟩, by decide⟩, tb_mem 530 (by decide +kernel) (by decide +kernel), tb_mem 531 (by decide +kernel) (by decide +kernel)⟩
theorem yv_AC_addPerson : YV y_AC_addPerson b_AC_addPerson 4 (some .int) 3 := ⟨⟨tb_mem 99 (by decide +kernel) (by decide +kernel), tb_mem 537 (by decide +kernel) (by decide +kernel), ⟨by decide +kernel, by decide +kernel, by decide +kernel⟩, by decide⟩, tb_mem 535 (by decide +kernel) (by decide +kernel), tb_mem 536 (by decide +kernel) (by decide +kernel)⟩
theorem yv_AC_change : YV y_AC_change b_AC_change 3 (some .int) 2 := ⟨⟨tb_mem 99 (by decide +kernel) (by decide +kernel), tb_mem 542 (by decide +kernel) (by decide +kernel), ⟨by decide +kernel, by decide +kernel, by decide +kernel⟩, by decide⟩, tb_mem 540 (by decide +kernel) (by decide +kernel), tb_mem 541 (by decide +kernel) (by decide +kernel)⟩
theorem yv_AC_alibi : YV y_AC_alibi b_AC_alibi 3 (some .int) 2 := ⟨⟨tb_mem 99 (by decide +kernel) (by decide +kernel), tb_mem 560 (by decide +kernel) (by decide +kernel), ⟨by decide +kernel, by decide +kernel, by decide +kernel⟩, by decide⟩, tb_mem 558 (by decide +kernel) (by decide +kernel), tb_mem 559 (by decide +kernel) (by decide +kernel)⟩
theorem yv_AC_brothers : YV y_AC_brothers b_AC_brothers 4 (some .int) 2 := ⟨⟨tb_mem 99 (by decide +kernel) (by decide +kernel), tb_mem 566 (by decide +kernel) (by decide +kernel), ⟨by decide +kernel, by decide +kernel, by decide +kernel⟩, by decide⟩, tb_mem 564 (by decide +kernel) (by decide +kernel), tb_mem 565 (by decide +kernel) (by decide +kernel)⟩
theorem yv_AC_back : YV y_AC_back b_AC_back 1 (some .int) 0 := ⟨⟨tb_mem 99 (by decide +kernel) (by decide +kernel), tb_mem 571 (by decide +kernel) (by decide +kernel), ⟨by decide +kernel, by decide +kernel, by decide +kernel⟩, by decide⟩, tb_mem 569 (by decide +kernel) (by decide +kernel), tb_mem 570 (by decide +kernel) (by decide +kernel)⟩
theorem yv_AC_takes : YV y_AC_takes b_AC_takes 3 (some .int) 2 := ⟨⟨tb_mem 99 (by decide +kernel) (by decide +kernel), tb_mem 586 (by decide +kernel) (by decide +kernel), ⟨by decide +kernel, by decide +kernel, by decide +kernel⟩, by decide⟩, tb_mem 584 (by decide +kernel) (by decide +kernel), tb_mem 585 (by decide +kernel) (by decide +kernel)⟩
theorem yv_AC_morning : YV y_AC_morning b_AC_morning 2 (some .int) 1 := ⟨⟨tb_mem 99 (by decide +kernel) (by decide +kernel), tb_mem 636 (by decide +kernel) (by decide +kernel), ⟨by decide +kernel, by decide +kernel, by decide +kernel⟩, by decide⟩, tb_mem 634 (by decide +kernel) (by decide +kernel), tb_mem 635 (by decide +kernel) (by decide +kernel)⟩
theorem yv_AC_least : YV y_AC_least b_AC_least 2 (some .int) 1 := ⟨⟨tb_mem 99 (by decide +kernel) (by decide +kernel), tb_mem 640 (by decide +kernel) (by decide +kernel), ⟨by decide +kernel, by decide +kernel, by decide +kernel⟩, by decide⟩, tb_mem 638 (by decide +kernel) (by decide +kernel), tb_mem 639 (by decide +kernel) (by decide +kernel)⟩
theorem yv_AC_fromLast : YV y_AC_fromLast b_AC_fromLast 3 (some .int) 2 := ⟨⟨tb_mem 99 (by decide +kernel) (by decide +kernel), tb_mem 696 (by decide +kernel) (by decide +kernel), ⟨by decide +kernel, by decide +kernel, by decide +kernel⟩, by decide⟩, tb_mem 694 (by decide +kernel) (by decide +kernel), tb_mem 695 (by decide +kernel) (by decide +kernel)⟩
theorem yv_AC_allFromLast : YV y_AC_allFromLast b_AC_allFromLast 1 (some .int) 0 := ⟨⟨tb_mem 99 (by decide +kernel) (by decide +kernel), tb_mem 720 (by decide +kernel) (by decide +kernel), ⟨by decide +kernel, by decide +kernel, by decide +kernel⟩, by decide⟩, tb_mem 718 (by decide +kernel) (by decide +kernel), tb_mem 719 (by decide +kernel) (by decide +kernel)⟩
theorem yv_AC_whose : YV y_AC_whose b_AC_whose 4 (some .long) 2 := ⟨⟨tb_mem 99 (by decide +kernel) (by decide +kernel), tb_mem 724 (by decide +kernel) (by decide +kernel), ⟨by decide +kernel, by decide +kernel, by decide +kernel⟩, by decide⟩, tb_mem 722 (by decide +kernel) (by decide +kernel), tb_mem 723 (by decide +kernel) (by decide +kernel)⟩
theorem yv_AC_rule : YV y_AC_rule b_AC_rule 3 (some .int) 2 := ⟨⟨tb_mem 99 (by decide +kernel) (by decide +kernel), tb_mem 746 (by decide +kernel) (by decide +kernel), ⟨by decide +kernel, by decide +kernel, by decide +kernel⟩, by decide⟩, tb_mem 744 (by decide +kernel) (by decide +kernel), tb_mem 745 (by decide +kernel) (by decide +kernel)⟩
theorem yv_AC_bestRule : YV y_AC_bestRule b_AC_bestRule 4 (some .int) 0 := ⟨⟨tb_mem 99 (by decide +kernel) (by decide +kernel), tb_mem 770 (by decide +kernel) (by decide +kernel), ⟨by decide +kernel, by decide +kernel, by decide +kernel⟩, by decide⟩, tb_mem 768 (by decide +kernel) (by decide +kernel), tb_mem 769 (by decide +kernel) (by decide +kernel)⟩
theorem yv_AC_placeWorth : YV y_AC_placeWorth b_AC_placeWorth 2 (some .int) 1 := ⟨⟨tb_mem 99 (by decide +kernel) (by decide +kernel), tb_mem 775 (by decide +kernel) (by decide +kernel), ⟨by decide +kernel, by decide +kernel, by decide +kernel⟩, by decide⟩, tb_mem 773 (by decide +kernel) (by decide +kernel), tb_mem 774 (by decide +kernel) (by decide +kernel)⟩
theorem yv_AC_changes : YV y_AC_changes b_AC_changes 5 (some .int) 0 := ⟨⟨tb_mem 99 (by decide +kernel) (by decide +kernel), tb_mem 792 (by decide +kernel) (by decide +kernel), ⟨by decide +kernel, by decide +kernel, by decide +kernel⟩, by decide⟩, tb_mem 790 (by decide +kernel) (by decide +kernel), tb_mem 791 (by decide +kernel) (by decide +kernel)⟩
theorem yv_AC_bestOrder : YV y_AC_bestOrder b_AC_bestOrder 2 (some .int) 1 := ⟨⟨tb_mem 99 (by decide +kernel) (by decide +kernel), tb_mem 800 (by decide +kernel) (by decide +kernel), ⟨by decide +kernel, by decide +kernel, by decide +kernel⟩, by decide⟩, tb_mem 798 (by decide +kernel) (by decide +kernel), tb_mem 799 (by decide +kernel) (by decide +kernel)⟩
theorem yv_AC_putIn : YV y_AC_putIn b_AC_putIn 5 (some .int) 2 := ⟨⟨tb_mem 99 (by decide +kernel) (by decide +kernel), tb_mem 836 (by decide +kernel) (by decide +kernel), ⟨by decide +kernel, by decide +kernel, by decide +kernel⟩, by decide⟩, tb_mem 834 (by decide +kernel) (by decide +kernel), tb_mem 835 (by decide +kernel) (by decide +kernel)⟩
theorem yv_AC_together : YV y_AC_together b_AC_together 4 (some .int) 2 := ⟨⟨tb_mem 99 (by decide +kernel) (by decide +kernel), tb_mem 848 (by decide +kernel) (by decide +kernel), ⟨by decide +kernel, by decide +kernel, by decide +kernel⟩, by decide⟩, tb_mem 846 (by decide +kernel) (by decide +kernel), tb_mem 847 (by decide +kernel) (by decide +kernel)⟩
theorem yv_AC_alibiWorth : YV y_AC_alibiWorth b_AC_alibiWorth 3 (some .int) 2 := ⟨⟨tb_mem 99 (by decide +kernel) (by decide +kernel), tb_mem 870 (by decide +kernel) (by decide +kernel), ⟨by decide +kernel, by decide +kernel, by decide +kernel⟩, by decide⟩, tb_mem 868 (by decide +kernel) (by decide +kernel), tb_mem 869 (by decide +kernel) (by decide +kernel)⟩
theorem yv_AC_givenAway : YV y_AC_givenAway b_AC_givenAway 5 (some .int) 0 := ⟨⟨tb_mem 99 (by decide +kernel) (by decide +kernel), tb_mem 874 (by decide +kernel) (by decide +kernel), ⟨by decide +kernel, by decide +kernel, by decide +kernel⟩, by decide⟩, tb_mem 872 (by decide +kernel) (by decide +kernel), tb_mem 873 (by decide +kernel) (by decide +kernel)⟩
theorem yv_AC_caught : YV y_AC_caught b_AC_caught 11 (some .long) 3 := ⟨⟨tb_mem 99 (by decide +kernel) (by decide +kernel), tb_mem 878 (by decide +kernel) (by decide +kernel), ⟨by decide +kernel, by decide +kernel, by decide +kernel⟩, by decide⟩, tb_mem 876 (by decide +kernel) (by decide +kernel), tb_mem 877 (by decide +kernel) (by decide +kernel)⟩
theorem yv_AC_spared : YV y_AC_spared b_AC_spared 3 (some .int) 0 := ⟨⟨tb_mem 99 (by decide +kernel) (by decide +kernel), tb_mem 895 (by decide +kernel) (by decide +kernel), ⟨by decide +kernel, by decide +kernel, by decide +kernel⟩, by decide⟩, tb_mem 893 (by decide +kernel) (by decide +kernel), tb_mem 894 (by decide +kernel) (by decide +kernel)⟩
theorem yv_AC_keeper : YV y_AC_keeper b_AC_keeper 6 (some .int) 0 := ⟨⟨tb_mem 99 (by decide +kernel) (by decide +kernel), tb_mem 899 (by decide +kernel) (by decide +kernel), ⟨by decide +kernel, by decide +kernel, by decide +kernel⟩, by decide⟩, tb_mem 897 (by decide +kernel) (by decide +kernel), tb_mem 898 (by decide +kernel) (by decide +kernel)⟩
theorem yv_AC_swaps : YV y_AC_swaps b_AC_swaps 3 (some .int) 1 := ⟨⟨tb_mem 99 (by decide +kernel) (by decide +kernel), tb_mem 903 (by decide +kernel) (by decide +kernel), ⟨by decide +kernel, by decide +kernel, by decide +kernel⟩, by decide⟩, tb_mem 901 (by decide +kernel) (by decide +kernel), tb_mem 902 (by decide +kernel) (by decide +kernel)⟩
theorem yv_AC_heavier : YV y_AC_heavier b_AC_heavier 4 (some .int) 2 := ⟨⟨tb_mem 99 (by decide +kernel) (by decide +kernel), tb_mem 912 (by decide +kernel) (by decide +kernel), ⟨by decide +kernel, by decide +kernel, by decide +kernel⟩, by decide⟩, tb_mem 910 (by decide +kernel) (by decide +kernel), tb_mem 911 (by decide +kernel) (by decide +kernel)⟩
theorem yv_AC_bestDid : YV y_AC_bestDid b_AC_bestDid 5 (some .int) 1 := ⟨⟨tb_mem 99 (by decide +kernel) (by decide +kernel), tb_mem 916 (by decide +kernel) (by decide +kernel), ⟨by decide +kernel, by decide +kernel, by decide +kernel⟩, by decide⟩, tb_mem 914 (by decide +kernel) (by decide +kernel), tb_mem 915 (by decide +kernel) (by decide +kernel)⟩
theorem yv_AC_rest : YV y_AC_rest b_AC_rest 6 (some .int) 1 := ⟨⟨tb_mem 99 (by decide +kernel) (by decide +kernel), tb_mem 920 (by decide +kernel) (by decide +kernel), ⟨by decide +kernel, by decide +kernel, by decide +kernel⟩, by decide⟩, tb_mem 918 (by decide +kernel) (by decide +kernel), tb_mem 919 (by decide +kernel) (by decide +kernel)⟩
theorem yv_AC_even : YV y_AC_even b_AC_even 2 (some .int) 1 := ⟨⟨tb_mem 99 (by decide +kernel) (by decide +kernel), tb_mem 928 (by decide +kernel) (by decide +kernel), ⟨by decide +kernel, by decide +kernel, by decide +kernel⟩, by decide⟩, tb_mem 926 (by decide +kernel) (by decide +kernel), tb_mem 927 (by decide +kernel) (by decide +kernel)⟩
theorem yv_AC_lastWord : YV y_AC_lastWord b_AC_lastWord 3 (some .int) 1 := ⟨⟨tb_mem 99 (by decide +kernel) (by decide +kernel), tb_mem 932 (by decide +kernel) (by decide +kernel), ⟨by decide +kernel, by decide +kernel, by decide +kernel⟩, by decide⟩, tb_mem 930 (by decide +kernel) (by decide +kernel), tb_mem 931 (by decide +kernel) (by decide +kernel)⟩
theorem yv_AC_bribe : YV y_AC_bribe b_AC_bribe 9 (some .int) 1 := ⟨⟨tb_mem 99 (by decide +kernel) (by decide +kernel), tb_mem 941 (by decide +kernel) (by decide +kernel), ⟨by decide +kernel, by decide +kernel, by decide +kernel⟩, by decide⟩, tb_mem 939 (by decide +kernel) (by decide +kernel), tb_mem 940 (by decide +kernel) (by decide +kernel)⟩
theorem yv_AC_latest : YV y_AC_latest b_AC_latest 8 (some .int) 2 := ⟨⟨tb_mem 99 (by decide +kernel) (by decide +kernel), tb_mem 945 (by decide +kernel) (by decide +kernel), ⟨by decide +kernel, by decide +kernel, by decide +kernel⟩, by decide⟩, tb_mem 943 (by decide +kernel) (by decide +kernel), tb_mem 944 (by decide +kernel) (by decide +kernel)⟩
theorem yv_AC_truth : YV y_AC_truth b_AC_truth 2 (some .int) 1 := ⟨⟨tb_mem 99 (by decide +kernel) (by decide +kernel), tb_mem 949 (by decide +kernel) (by decide +kernel), ⟨by decide +kernel, by decide +kernel, by decide +kernel⟩, by decide⟩, tb_mem 947 (by decide +kernel) (by decide +kernel), tb_mem 948 (by decide +kernel) (by decide +kernel)⟩
theorem yv_AC_parole : YV y_AC_parole b_AC_parole 4 (some .int) 0 := ⟨⟨tb_mem 99 (by decide +kernel) (by decide +kernel), tb_mem 960 (by decide +kernel) (by decide +kernel), ⟨by decide +kernel, by decide +kernel, by decide +kernel⟩, by decide⟩, tb_mem 958 (by decide +kernel) (by decide +kernel), tb_mem 959 (by decide +kernel) (by decide +kernel)⟩
theorem yv_AC_newBrothers : YV y_AC_newBrothers b_AC_newBrothers 5 (some .int) 0 := ⟨⟨tb_mem 99 (by decide +kernel) (by decide +kernel), tb_mem 964 (by decide +kernel) (by decide +kernel), ⟨by decide +kernel, by decide +kernel, by decide +kernel⟩, by decide⟩, tb_mem 962 (by decide +kernel) (by decide +kernel), tb_mem 963 (by decide +kernel) (by decide +kernel)⟩
theorem yv_AC_madeLight : YV y_AC_madeLight b_AC_madeLight 4 (some .int) 0 := ⟨⟨tb_mem 99 (by decide +kernel) (by decide +kernel), tb_mem 968 (by decide +kernel) (by decide +kernel), ⟨by decide +kernel, by decide +kernel, by decide +kernel⟩, by decide⟩, tb_mem 966 (by decide +kernel) (by decide +kernel), tb_mem 967 (by decide +kernel) (by decide +kernel)⟩
theorem yv_AC_always : YV y_AC_always b_AC_always 3 (some .int) 0 := ⟨⟨tb_mem 99 (by decide +kernel) (by decide +kernel), tb_mem 972 (by decide +kernel) (by decide +kernel), ⟨by decide +kernel, by decide +kernel, by decide +kernel⟩, by decide⟩, tb_mem 970 (by decide +kernel) (by decide +kernel), tb_mem 971 (by decide +kernel) (by decide +kernel)⟩
theorem yv_AC_row : YV y_AC_row b_AC_row 2 (some .int) 1 := ⟨⟨tb_mem 99 (by decide +kernel) (by decide +kernel), tb_mem 976 (by decide +kernel) (by decide +kernel), ⟨by decide +kernel, by decide +kernel, by decide +kernel⟩, by decide⟩, tb_mem 974 (by decide +kernel) (by decide +kernel), tb_mem 975 (by decide +kernel) (by decide +kernel)⟩
theorem yv_AC_judge : YV y_AC_judge b_AC_judge 2 (some .int) 0 := ⟨⟨tb_mem 99 (by decide +kernel) (by decide +kernel), tb_mem 980 (by decide +kernel) (by decide +kernel), ⟨by decide +kernel, by decide +kernel, by decide +kernel⟩, by decide⟩, tb_mem 978 (by decide +kernel) (by decide +kernel), tb_mem 979 (by decide +kernel) (by decide +kernel)⟩
theorem yv_AC_fits : YV y_AC_fits b_AC_fits 4 (some .int) 1 := ⟨⟨tb_mem 99 (by decide +kernel) (by decide +kernel), tb_mem 988 (by decide +kernel) (by decide +kernel), ⟨by decide +kernel, by decide +kernel, by decide +kernel⟩, by decide⟩, tb_mem 986 (by decide +kernel) (by decide +kernel), tb_mem 987 (by decide +kernel) (by decide +kernel)⟩
theorem yv_AC_clear : YV y_AC_clear b_AC_clear 2 (some .int) 0 := ⟨⟨tb_mem 99 (by decide +kernel) (by decide +kernel), tb_mem 992 (by decide +kernel) (by decide +kernel), ⟨by decide +kernel, by decide +kernel, by decide +kernel⟩, by decide⟩, tb_mem 990 (by decide +kernel) (by decide +kernel), tb_mem 991 (by decide +kernel) (by decide +kernel)⟩
theorem yv_AC_lots : YV y_AC_lots b_AC_lots 9 (some .int) 3 := ⟨⟨tb_mem 99 (by decide +kernel) (by decide +kernel), tb_mem 996 (by decide +kernel) (by decide +kernel), ⟨by decide +kernel, by decide +kernel, by decide +kernel⟩, by decide⟩, tb_mem 994 (by decide +kernel) (by decide +kernel), tb_mem 995 (by decide +kernel) (by decide +kernel)⟩
theorem yv_AC_image : YV y_AC_image b_AC_image 1 (some .int) 0 := ⟨⟨tb_mem 99 (by decide +kernel) (by decide +kernel), tb_mem 1003 (by decide +kernel) (by decide +kernel), ⟨by decide +kernel, by decide +kernel, by decide +kernel⟩, by decide⟩, tb_mem 1001 (by decide +kernel) (by decide +kernel), tb_mem 1002 (by decide +kernel) (by decide +kernel)⟩
theorem yv_AC_restore : YV y_AC_restore b_AC_restore 1 (some .int) 0 := ⟨⟨tb_mem 99 (by decide +kernel) (by decide +kernel), tb_mem 1007 (by decide +kernel) (by decide +kernel), ⟨by decide +kernel, by decide +kernel, by decide +kernel⟩, by decide⟩, tb_mem 1005 (by decide +kernel) (by decide +kernel), tb_mem 1006 (by decide +kernel) (by decide +kernel)⟩
theorem yv_AC_count : YV y_AC_count b_AC_count 2 (some .int) 1 := ⟨⟨tb_mem 99 (by decide +kernel) (by decide +kernel), tb_mem 1011 (by decide +kernel) (by decide +kernel), ⟨by decide +kernel, by decide +kernel, by decide +kernel⟩, by decide⟩, tb_mem 1009 (by decide +kernel) (by decide +kernel), tb_mem 1010 (by decide +kernel) (by decide +kernel)⟩
theorem yv_AC_refuse : YV y_AC_refuse b_AC_refuse 2 (some .int) 1 := ⟨⟨tb_mem 99 (by decide +kernel) (by decide +kernel), tb_mem 380 (by decide +kernel) (by decide +kernel), ⟨by decide +kernel, by decide +kernel, by decide +kernel⟩, by decide⟩, tb_mem 379 (by decide +kernel) (by decide +kernel), tb_mem 0 (by decide +kernel) (by decide +kernel)⟩
theorem yv_AC_refuseBig : YV y_AC_refuseBig b_AC_refuseBig 2 (some .int) 1 := ⟨⟨tb_mem 99 (by decide +kernel) (by decide +kernel), tb_mem 779 (by decide +kernel) (by decide +kernel), ⟨by decide +kernel, by decide +kernel, by decide +kernel⟩, by decide⟩, tb_mem 778 (by decide +kernel) (by decide +kernel), tb_mem 23 (by decide +kernel) (by decide +kernel)⟩
theorem yv_AC_refuseLong : YV y_AC_refuseLong b_AC_refuseLong 2 (some .long) 1 := ⟨⟨tb_mem 99 (by decide +kernel) (by decide +kernel), tb_mem 728 (by decide +kernel) (by decide +kernel), ⟨by decide +kernel, by decide +kernel, by decide +kernel⟩, by decide⟩, tb_mem 727 (by decide +kernel) (by decide +kernel), tb_mem 15 (by decide +kernel) (by decide +kernel)⟩
theorem yv_AC_holdToday : YV y_AC_holdToday b_AC_holdToday 1 none 0 := ⟨⟨tb_mem 99 (by decide +kernel) (by decide +kernel), tb_mem 590 (by decide +kernel) (by decide +kernel), ⟨by decide +kernel, by decide +kernel, by decide +kernel⟩, by decide⟩, tb_mem 589 (by decide +kernel) (by decide +kernel), tb_mem 7 (by decide +kernel) (by decide +kernel)⟩
theorem yv_AC_holdLine : YV y_AC_holdLine b_AC_holdLine 1 none 0 := ⟨⟨tb_mem 99 (by decide +kernel) (by decide +kernel), tb_mem 762 (by decide +kernel) (by decide +kernel), ⟨by decide +kernel, by decide +kernel, by decide +kernel⟩, by decide⟩, tb_mem 761 (by decide +kernel) (by decide +kernel), tb_mem 21 (by decide +kernel) (by decide +kernel)⟩
theorem yv_AC_tried : YV y_AC_tried b_AC_tried 1 (some .int) 0 := ⟨⟨tb_mem 99 (by decide +kernel) (by decide +kernel), tb_mem 844 (by decide +kernel) (by decide +kernel), ⟨by decide +kernel, by decide +kernel, by decide +kernel⟩, by decide⟩, tb_mem 843 (by decide +kernel) (by decide +kernel), tb_mem 29 (by decide +kernel) (by decide +kernel)⟩
theorem yv_AC_holdChanged : YV y_AC_holdChanged b_AC_holdChanged 3 none 2 := ⟨⟨tb_mem 99 (by decide +kernel) (by decide +kernel), tb_mem 796 (by decide +kernel) (by decide +kernel), ⟨by decide +kernel, by decide +kernel, by decide +kernel⟩, by decide⟩, tb_mem 795 (by decide +kernel) (by decide +kernel), tb_mem 26 (by decide +kernel) (by decide +kernel)⟩
theorem yv_AC_monthsAt : YV y_AC_monthsAt b_AC_monthsAt 4 (some .int) 3 := ⟨⟨tb_mem 99 (by decide +kernel) (by decide +kernel), tb_mem 784 (by decide +kernel) (by decide +kernel), ⟨by decide +kernel, by decide +kernel, by decide +kernel⟩, by decide⟩, tb_mem 783 (by decide +kernel) (by decide +kernel), tb_mem 24 (by decide +kernel) (by decide +kernel)⟩
theorem yv_AC_todaysMonthsOf : YV y_AC_todaysMonthsOf b_AC_todaysMonthsOf 4 (some .int) 1 := ⟨⟨tb_mem 99 (by decide +kernel) (by decide +kernel), tb_mem 866 (by decide +kernel) (by decide +kernel), ⟨by decide +kernel, by decide +kernel, by decide +kernel⟩, by decide⟩, tb_mem 865 (by decide +kernel) (by decide +kernel), tb_mem 32 (by decide +kernel) (by decide +kernel)⟩
theorem yv_AC_lineUp : YV y_AC_lineUp b_AC_lineUp 3 none 1 := ⟨⟨tb_mem 99 (by decide +kernel) (by decide +kernel), tb_mem 754 (by decide +kernel) (by decide +kernel), ⟨by decide +kernel, by decide +kernel, by decide +kernel⟩, by decide⟩, tb_mem 753 (by decide +kernel) (by decide +kernel), tb_mem 19 (by decide +kernel) (by decide +kernel)⟩
theorem yv_AC_turnRound : YV y_AC_turnRound b_AC_turnRound 2 none 0 := ⟨⟨tb_mem 99 (by decide +kernel) (by decide +kernel), tb_mem 936 (by decide +kernel) (by decide +kernel), ⟨by decide +kernel, by decide +kernel, by decide +kernel⟩, by decide⟩, tb_mem 935 (by decide +kernel) (by decide +kernel), tb_mem 34 (by decide +kernel) (by decide +kernel)⟩
theorem yv_AC_moveInLine : YV y_AC_moveInLine b_AC_moveInLine 6 none 2 := ⟨⟨tb_mem 99 (by decide +kernel) (by decide +kernel), tb_mem 788 (by decide +kernel) (by decide +kernel), ⟨by decide +kernel, by decide +kernel, by decide +kernel⟩, by decide⟩, tb_mem 787 (by decide +kernel) (by decide +kernel), tb_mem 25 (by decide +kernel) (by decide +kernel)⟩
theorem yv_AC_holdRule : YV y_AC_holdRule b_AC_holdRule 5 none 1 := ⟨⟨tb_mem 99 (by decide +kernel) (by decide +kernel), tb_mem 750 (by decide +kernel) (by decide +kernel), ⟨by decide +kernel, by decide +kernel, by decide +kernel⟩, by decide⟩, tb_mem 749 (by decide +kernel) (by decide +kernel), tb_mem 18 (by decide +kernel) (by decide +kernel)⟩
theorem yv_AC_ruleKey : YV y_AC_ruleKey b_AC_ruleKey 5 (some .int) 2 := ⟨⟨tb_mem 99 (by decide +kernel) (by decide +kernel), tb_mem 758 (by decide +kernel) (by decide +kernel), ⟨by decide +kernel, by decide +kernel, by decide +kernel⟩, by decide⟩, tb_mem 757 (by decide +kernel) (by decide +kernel), tb_mem 20 (by decide +kernel) (by decide +kernel)⟩
theorem yv_AC_unfairTwo : YV y_AC_unfairTwo b_AC_unfairTwo 5 (some .int) 1 := ⟨⟨tb_mem 99 (by decide +kernel) (by decide +kernel), tb_mem 766 (by decide +kernel) (by decide +kernel), ⟨by decide +kernel, by decide +kernel, by decide +kernel⟩, by decide⟩, tb_mem 765 (by decide +kernel) (by decide +kernel), tb_mem 22 (by decide +kernel) (by decide +kernel)⟩
theorem yv_AC_soughtOrder : YV y_AC_soughtOrder b_AC_soughtOrder 6 (some .int) 2 := ⟨⟨tb_mem 99 (by decide +kernel) (by decide +kernel), tb_mem 804 (by decide +kernel) (by decide +kernel), ⟨by decide +kernel, by decide +kernel, by decide +kernel⟩, by decide⟩, tb_mem 803 (by decide +kernel) (by decide +kernel), tb_mem 27 (by decide +kernel) (by decide +kernel)⟩
theorem yv_AC_firstNotSo : YV y_AC_firstNotSo b_AC_firstNotSo 5 (some .int) 1 := ⟨⟨tb_mem 99 (by decide +kernel) (by decide +kernel), tb_mem 984 (by decide +kernel) (by decide +kernel), ⟨by decide +kernel, by decide +kernel, by decide +kernel⟩, by decide⟩, tb_mem 983 (by decide +kernel) (by decide +kernel), tb_mem 35 (by decide +kernel) (by decide +kernel)⟩
theorem yv_AC_countWays : YV y_AC_countWays b_AC_countWays 7 (some .int) 2 := ⟨⟨tb_mem 99 (by decide +kernel) (by decide +kernel), tb_mem 733 (by decide +kernel) (by decide +kernel), ⟨by decide +kernel, by decide +kernel, by decide +kernel⟩, by decide⟩, tb_mem 732 (by decide +kernel) (by decide +kernel), tb_mem 16 (by decide +kernel) (by decide +kernel)⟩
theorem yv_AC_giveOut : YV y_AC_giveOut b_AC_giveOut 7 none 3 := ⟨⟨tb_mem 99 (by decide +kernel) (by decide +kernel), tb_mem 738 (by decide +kernel) (by decide +kernel), ⟨by decide +kernel, by decide +kernel, by decide +kernel⟩, by decide⟩, tb_mem 737 (by decide +kernel) (by decide +kernel), tb_mem 17 (by decide +kernel) (by decide +kernel)⟩
theorem ys_AC_waysToBeCaught : YS y_AC_waysToBeCaught b_AC_waysToBeCaught 6 (some .long) 3 := ⟨⟨tb_mem 99 (by decide +kernel) (by decide +kernel), tb_mem 885 (by decide +kernel) (by decide +kernel), ⟨by decide +kernel, by decide +kernel, by decide +kernel⟩, by decide⟩, tb_mem 884 (by decide +kernel) (by decide +kernel)⟩
theorem ys_AC_power : YS y_AC_power b_AC_power 5 (some .long) 2 := ⟨⟨tb_mem 99 (by decide +kernel) (by decide +kernel), tb_mem 888 (by decide +kernel) (by decide +kernel), ⟨by decide +kernel, by decide +kernel, by decide +kernel⟩, by decide⟩, tb_mem 887 (by decide +kernel) (by decide +kernel)⟩
theorem ys_AC_commonDivisor : YS y_AC_commonDivisor b_AC_commonDivisor 11 (some .long) 2 := ⟨⟨tb_mem 99 (by decide +kernel) (by decide +kernel), tb_mem 891 (by decide +kernel) (by decide +kernel), ⟨by decide +kernel, by decide +kernel, by decide +kernel⟩, by decide⟩, tb_mem 890 (by decide +kernel) (by decide +kernel)⟩
theorem yv_AC_firstSwap : YV y_AC_firstSwap b_AC_firstSwap 5 (some .int) 0 := ⟨⟨tb_mem 99 (by decide +kernel) (by decide +kernel), tb_mem 907 (by decide +kernel) (by decide +kernel), ⟨by decide +kernel, by decide +kernel, by decide +kernel⟩, by decide⟩, tb_mem 906 (by decide +kernel) (by decide +kernel), tb_mem 33 (by decide +kernel) (by decide +kernel)⟩
theorem ys_AC_at : YS y_AC_at b_AC_at 2 (some .int) 2 := ⟨⟨tb_mem 99 (by decide +kernel) (by decide +kernel), tb_mem 383 (by decide +kernel) (by decide +kernel), ⟨by decide +kernel, by decide +kernel, by decide +kernel⟩, by decide⟩, tb_mem 382 (by decide +kernel) (by decide +kernel)⟩
theorem ys_AC_put : YS y_AC_put b_AC_put 3 none 3 := ⟨⟨tb_mem 99 (by decide +kernel) (by decide +kernel), tb_mem 386 (by decide +kernel) (by decide +kernel), ⟨by decide +kernel, by decide +kernel, by decide +kernel⟩, by decide⟩, tb_mem 385 (by decide +kernel) (by decide +kernel)⟩
theorem ys_AC_bit : YS y_AC_bit b_AC_bit 1 (some .int) 1 := ⟨⟨tb_mem 99 (by decide +kernel) (by decide +kernel), tb_mem 472 (by decide +kernel) (by decide +kernel), ⟨by decide +kernel, by decide +kernel, by decide +kernel⟩, by decide⟩, tb_mem 471 (by decide +kernel) (by decide +kernel)⟩
theorem ys_AC_has : YS y_AC_has b_AC_has 2 (some .boolean) 2 := ⟨⟨tb_mem 99 (by decide +kernel) (by decide +kernel), tb_mem 513 (by decide +kernel) (by decide +kernel), ⟨by decide +kernel, by decide +kernel, by decide +kernel⟩, by decide⟩, tb_mem 512 (by decide +kernel) (by decide +kernel)⟩
theorem ys_AC_copyRow : YS y_AC_copyRow b_AC_copyRow 3 none 2 := ⟨⟨tb_mem 99 (by decide +kernel) (by decide +kernel), tb_mem 409 (by decide +kernel) (by decide +kernel), ⟨by decide +kernel, by decide +kernel, by decide +kernel⟩, by decide⟩, tb_mem 408 (by decide +kernel) (by decide +kernel)⟩
theorem ys_AC_placeIn : YS y_AC_placeIn b_AC_placeIn 4 (some .int) 3 := ⟨⟨tb_mem 99 (by decide +kernel) (by decide +kernel), tb_mem 478 (by decide +kernel) (by decide +kernel), ⟨by decide +kernel, by decide +kernel, by decide +kernel⟩, by decide⟩, tb_mem 477 (by decide +kernel) (by decide +kernel)⟩
theorem ys_AC_swapPlaces : YS y_AC_swapPlaces b_AC_swapPlaces 6 none 4 := ⟨⟨tb_mem 99 (by decide +kernel) (by decide +kernel), tb_mem 475 (by decide +kernel) (by decide +kernel), ⟨by decide +kernel, by decide +kernel, by decide +kernel⟩, by decide⟩, tb_mem 474 (by decide +kernel) (by decide +kernel)⟩
theorem ys_AC_monthsOfKind : YS y_AC_monthsOfKind b_AC_monthsOfKind 6 (some .int) 3 := ⟨⟨tb_mem 99 (by decide +kernel) (by decide +kernel), tb_mem 525 (by decide +kernel) (by decide +kernel), ⟨by decide +kernel, by decide +kernel, by decide +kernel⟩, by decide⟩, tb_mem 524 (by decide +kernel) (by decide +kernel)⟩
theorem yv_MD_no : YV y_MD_no b_MD_no 2 (some .int) 1 := ⟨⟨tb_mem 108 (by decide +kernel) (by decide +kernel), tb_mem 1147 (by decide +kernel) (by decide +kernel), ⟨by decide +kernel, by decide +kernel, by decide +kernel⟩, by decide⟩, tb_mem 1146 (by decide +kernel) (by decide +kernel), tb_mem 36 (by decide +kernel) (by decide +kernel)⟩
theorem yv_MD_lower : YV y_MD_lower b_MD_lower 2 (some .int) 1 := ⟨⟨tb_mem 108 (by decide +kernel) (by decide +kernel), tb_mem 1402 (by decide +kernel) (by decide +kernel), ⟨by decide +kernel, by decide +kernel, by decide +kernel⟩, by decide⟩, tb_mem 1401 (by decide +kernel) (by decide +kernel), tb_mem 77 (by decide +kernel) (by decide +kernel)⟩
theorem yv_MD_lowest : YV y_MD_lowest b_MD_lowest 2 (some .long) 1 := ⟨⟨tb_mem 108 (by decide +kernel) (by decide +kernel), tb_mem 1361 (by decide +kernel) (by decide +kernel), ⟨by decide +kernel, by decide +kernel, by decide +kernel⟩, by decide⟩, tb_mem 1360 (by decide +kernel) (by decide +kernel), tb_mem 70 (by decide +kernel) (by decide +kernel)⟩
theorem ys_MD_isIn : YS y_MD_isIn b_MD_isIn 3 (some .boolean) 3 := ⟨⟨tb_mem 108 (by decide +kernel) (by decide +kernel), tb_mem 1166 (by decide +kernel) (by decide +kernel), ⟨by decide +kernel, by decide +kernel, by decide +kernel⟩, by decide⟩, tb_mem 1165 (by decide +kernel) (by decide +kernel)⟩
theorem ys_MD_bound : YS y_MD_bound b_MD_bound 3 (some .int) 3 := ⟨⟨tb_mem 108 (by decide +kernel) (by decide +kernel), tb_mem 1143 (by decide +kernel) (by decide +kernel), ⟨by decide +kernel, by decide +kernel, by decide +kernel⟩, by decide⟩, tb_mem 1142 (by decide +kernel) (by decide +kernel)⟩
theorem ys_MD_has : YS y_MD_has b_MD_has 2 (some .boolean) 2 := ⟨⟨tb_mem 108 (by decide +kernel) (by decide +kernel), tb_mem 1245 (by decide +kernel) (by decide +kernel), ⟨by decide +kernel, by decide +kernel, by decide +kernel⟩, by decide⟩, tb_mem 1244 (by decide +kernel) (by decide +kernel)⟩
theorem yv_MD_isPerson : YV y_MD_isPerson b_MD_isPerson 2 (some .boolean) 1 := ⟨⟨tb_mem 108 (by decide +kernel) (by decide +kernel), tb_mem 1198 (by decide +kernel) (by decide +kernel), ⟨by decide +kernel, by decide +kernel, by decide +kernel⟩, by decide⟩, tb_mem 1197 (by decide +kernel) (by decide +kernel), tb_mem 47 (by decide +kernel) (by decide +kernel)⟩
theorem yv_MD_isDeed : YV y_MD_isDeed b_MD_isDeed 2 (some .boolean) 1 := ⟨⟨tb_mem 108 (by decide +kernel) (by decide +kernel), tb_mem 1210 (by decide +kernel) (by decide +kernel), ⟨by decide +kernel, by decide +kernel, by decide +kernel⟩, by decide⟩, tb_mem 1209 (by decide +kernel) (by decide +kernel), tb_mem 50 (by decide +kernel) (by decide +kernel)⟩
theorem yv_MD_areTwo : YV y_MD_areTwo b_MD_areTwo 3 (some .boolean) 2 := ⟨⟨tb_mem 108 (by decide +kernel) (by decide +kernel), tb_mem 1194 (by decide +kernel) (by decide +kernel), ⟨by decide +kernel, by decide +kernel, by decide +kernel⟩, by decide⟩, tb_mem 1193 (by decide +kernel) (by decide +kernel), tb_mem 46 (by decide +kernel) (by decide +kernel)⟩
theorem yv_MD_feed : YV y_MD_feed b_MD_feed 3 (some .int) 1 := ⟨⟨tb_mem 108 (by decide +kernel) (by decide +kernel), tb_mem 1140 (by decide +kernel) (by decide +kernel), ⟨by decide +kernel, by decide +kernel, by decide +kernel⟩, by decide⟩, tb_mem 1138 (by decide +kernel) (by decide +kernel), tb_mem 1139 (by decide +kernel) (by decide +kernel)⟩
theorem yv_MD_next : YV y_MD_next b_MD_next 1 (some .int) 0 := ⟨⟨tb_mem 108 (by decide +kernel) (by decide +kernel), tb_mem 1159 (by decide +kernel) (by decide +kernel), ⟨by decide +kernel, by decide +kernel, by decide +kernel⟩, by decide⟩, tb_mem 1158 (by decide +kernel) (by decide +kernel), tb_mem 38 (by decide +kernel) (by decide +kernel)⟩
theorem yv_MD_readsDigits : YV y_MD_readsDigits b_MD_readsDigits 5 (some .boolean) 2 := ⟨⟨tb_mem 108 (by decide +kernel) (by decide +kernel), tb_mem 1163 (by decide +kernel) (by decide +kernel), ⟨by decide +kernel, by decide +kernel, by decide +kernel⟩, by decide⟩, tb_mem 1162 (by decide +kernel) (by decide +kernel), tb_mem 39 (by decide +kernel) (by decide +kernel)⟩
theorem yv_MD_statement : YV y_MD_statement b_MD_statement 4 (some .boolean) 0 := ⟨⟨tb_mem 108 (by decide +kernel) (by decide +kernel), tb_mem 1155 (by decide +kernel) (by decide +kernel), ⟨by decide +kernel, by decide +kernel, by decide +kernel⟩, by decide⟩, tb_mem 1154 (by decide +kernel) (by decide +kernel), tb_mem 37 (by decide +kernel) (by decide +kernel)⟩
theorem yv_MD_comes : YV y_MD_comes b_MD_comes 4 (some .boolean) 1 := ⟨⟨tb_mem 108 (by decide +kernel) (by decide +kernel), tb_mem 1182 (by decide +kernel) (by decide +kernel), ⟨by decide +kernel, by decide +kernel, by decide +kernel⟩, by decide⟩, tb_mem 1181 (by decide +kernel) (by decide +kernel), tb_mem 43 (by decide +kernel) (by decide +kernel)⟩
theorem yv_MD_night : YV y_MD_night b_MD_night 3 (some .int) 0 := ⟨⟨tb_mem 108 (by decide +kernel) (by decide +kernel), tb_mem 1151 (by decide +kernel) (by decide +kernel), ⟨by decide +kernel, by decide +kernel, by decide +kernel⟩, by decide⟩, tb_mem 1149 (by decide +kernel) (by decide +kernel), tb_mem 1150 (by decide +kernel) (by decide +kernel)⟩
theorem yv_MD_passes : YV y_MD_passes b_MD_passes 3 none 1 := ⟨⟨tb_mem 108 (by decide +kernel) (by decide +kernel), tb_mem 1174 (by decide +kernel) (by decide +kernel), ⟨by decide +kernel, by decide +kernel, by decide +kernel⟩, by decide⟩, tb_mem 1173 (by decide +kernel) (by decide +kernel), tb_mem 41 (by decide +kernel) (by decide +kernel)⟩
theorem yv_MD_passOne : YV y_MD_passOne b_MD_passOne 3 (some .int) 1 := ⟨⟨tb_mem 108 (by decide +kernel) (by decide +kernel), tb_mem 1178 (by decide +kernel) (by decide +kernel), ⟨by decide +kernel, by decide +kernel, by decide +kernel⟩, by decide⟩, tb_mem 1177 (by decide +kernel) (by decide +kernel), tb_mem 42 (by decide +kernel) (by decide +kernel)⟩
theorem yv_MD_passesAll : YV y_MD_passesAll b_MD_passesAll 3 none 2 := ⟨⟨tb_mem 108 (by decide +kernel) (by decide +kernel), tb_mem 1170 (by decide +kernel) (by decide +kernel), ⟨by decide +kernel, by decide +kernel, by decide +kernel⟩, by decide⟩, tb_mem 1169 (by decide +kernel) (by decide +kernel), tb_mem 40 (by decide +kernel) (by decide +kernel)⟩
theorem yv_MD_keepsBack : YV y_MD_keepsBack b_MD_keepsBack 2 none 0 := ⟨⟨tb_mem 108 (by decide +kernel) (by decide +kernel), tb_mem 1273 (by decide +kernel) (by decide +kernel), ⟨by decide +kernel, by decide +kernel, by decide +kernel⟩, by decide⟩, tb_mem 1272 (by decide +kernel) (by decide +kernel), tb_mem 56 (by decide +kernel) (by decide +kernel)⟩
theorem yv_MD_back : YV y_MD_back b_MD_back 1 (some .int) 0 := ⟨⟨tb_mem 108 (by decide +kernel) (by decide +kernel), tb_mem 1222 (by decide +kernel) (by decide +kernel), ⟨by decide +kernel, by decide +kernel, by decide +kernel⟩, by decide⟩, tb_mem 1220 (by decide +kernel) (by decide +kernel), tb_mem 1221 (by decide +kernel) (by decide +kernel)⟩
theorem yv_MD_image : YV y_MD_image b_MD_image 1 (some .int) 0 := ⟨⟨tb_mem 108 (by decide +kernel) (by decide +kernel), tb_mem 1226 (by decide +kernel) (by decide +kernel), ⟨by decide +kernel, by decide +kernel, by decide +kernel⟩, by decide⟩, tb_mem 1224 (by decide +kernel) (by decide +kernel), tb_mem 1225 (by decide +kernel) (by decide +kernel)⟩
theorem yv_MD_restore : YV y_MD_restore b_MD_restore 1 (some .int) 0 := ⟨⟨tb_mem 108 (by decide +kernel) (by decide +kernel), tb_mem 1230 (by decide +kernel) (by decide +kernel), ⟨by decide +kernel, by decide +kernel, by decide +kernel⟩, by decide⟩, tb_mem 1228 (by decide +kernel) (by decide +kernel), tb_mem 1229 (by decide +kernel) (by decide +kernel)⟩
theorem yv_MD_addsDeed : YV y_MD_addsDeed b_MD_addsDeed 3 none 2 := ⟨⟨tb_mem 108 (by decide +kernel) (by decide +kernel), tb_mem 1186 (by decide +kernel) (by decide +kernel), ⟨by decide +kernel, by decide +kernel, by decide +kernel⟩, by decide⟩, tb_mem 1185 (by decide +kernel) (by decide +kernel), tb_mem 44 (by decide +kernel) (by decide +kernel)⟩
theorem yv_MD_addsPerson : YV y_MD_addsPerson b_MD_addsPerson 4 none 3 := ⟨⟨tb_mem 108 (by decide +kernel) (by decide +kernel), tb_mem 1190 (by decide +kernel) (by decide +kernel), ⟨by decide +kernel, by decide +kernel, by decide +kernel⟩, by decide⟩, tb_mem 1189 (by decide +kernel) (by decide +kernel), tb_mem 45 (by decide +kernel) (by decide +kernel)⟩
theorem yv_MD_placeOf : YV y_MD_placeOf b_MD_placeOf 3 (some .int) 1 := ⟨⟨tb_mem 108 (by decide +kernel) (by decide +kernel), tb_mem 1218 (by decide +kernel) (by decide +kernel), ⟨by decide +kernel, by decide +kernel, by decide +kernel⟩, by decide⟩, tb_mem 1217 (by decide +kernel) (by decide +kernel), tb_mem 52 (by decide +kernel) (by decide +kernel)⟩
theorem yv_MD_exchanges : YV y_MD_exchanges b_MD_exchanges 4 none 2 := ⟨⟨tb_mem 108 (by decide +kernel) (by decide +kernel), tb_mem 1214 (by decide +kernel) (by decide +kernel), ⟨by decide +kernel, by decide +kernel, by decide +kernel⟩, by decide⟩, tb_mem 1213 (by decide +kernel) (by decide +kernel), tb_mem 51 (by decide +kernel) (by decide +kernel)⟩
theorem yv_MD_parts : YV y_MD_parts b_MD_parts 2 none 1 := ⟨⟨tb_mem 108 (by decide +kernel) (by decide +kernel), tb_mem 1206 (by decide +kernel) (by decide +kernel), ⟨by decide +kernel, by decide +kernel, by decide +kernel⟩, by decide⟩, tb_mem 1205 (by decide +kernel) (by decide +kernel), tb_mem 49 (by decide +kernel) (by decide +kernel)⟩
theorem yv_MD_areBrothers : YV y_MD_areBrothers b_MD_areBrothers 3 none 2 := ⟨⟨tb_mem 108 (by decide +kernel) (by decide +kernel), tb_mem 1202 (by decide +kernel) (by decide +kernel), ⟨by decide +kernel, by decide +kernel, by decide +kernel⟩, by decide⟩, tb_mem 1201 (by decide +kernel) (by decide +kernel), tb_mem 48 (by decide +kernel) (by decide +kernel)⟩
theorem yv_MD_may : YV y_MD_may b_MD_may 3 (some .boolean) 2 := ⟨⟨tb_mem 108 (by decide +kernel) (by decide +kernel), tb_mem 1242 (by decide +kernel) (by decide +kernel), ⟨by decide +kernel, by decide +kernel, by decide +kernel⟩, by decide⟩, tb_mem 1241 (by decide +kernel) (by decide +kernel), tb_mem 53 (by decide +kernel) (by decide +kernel)⟩
theorem yv_MD_plainMonths : YV y_MD_plainMonths b_MD_plainMonths 5 (some .int) 2 := ⟨⟨tb_mem 108 (by decide +kernel) (by decide +kernel), tb_mem 1257 (by decide +kernel) (by decide +kernel), ⟨by decide +kernel, by decide +kernel, by decide +kernel⟩, by decide⟩, tb_mem 1256 (by decide +kernel) (by decide +kernel), tb_mem 55 (by decide +kernel) (by decide +kernel)⟩
theorem yv_MD_monthsOf : YV y_MD_monthsOf b_MD_monthsOf 4 (some .int) 2 := ⟨⟨tb_mem 108 (by decide +kernel) (by decide +kernel), tb_mem 1253 (by decide +kernel) (by decide +kernel), ⟨by decide +kernel, by decide +kernel, by decide +kernel⟩, by decide⟩, tb_mem 1252 (by decide +kernel) (by decide +kernel), tb_mem 54 (by decide +kernel) (by decide +kernel)⟩
theorem yv_MD_deed : YV y_MD_deed b_MD_deed 3 (some .int) 2 := ⟨⟨tb_mem 108 (by decide +kernel) (by decide +kernel), tb_mem 1234 (by decide +kernel) (by decide +kernel), ⟨by decide +kernel, by decide +kernel, by decide +kernel⟩, by decide⟩, tb_mem 1232 (by decide +kernel) (by decide +kernel), tb_mem 1233 (by decide +kernel) (by decide +kernel)⟩
theorem yv_MD_person : YV y_MD_person b_MD_person 5 (some .int) 2 := ⟨⟨tb_mem 108 (by decide +kernel) (by decide +kernel), tb_mem 1238 (by decide +kernel) (by decide +kernel), ⟨by decide +kernel, by decide +kernel, by decide +kernel⟩, by decide⟩, tb_mem 1236 (by decide +kernel) (by decide +kernel), tb_mem 1237 (by decide +kernel) (by decide +kernel)⟩
theorem yv_MD_months : YV y_MD_months b_MD_months 3 (some .int) 2 := ⟨⟨tb_mem 108 (by decide +kernel) (by decide +kernel), tb_mem 1249 (by decide +kernel) (by decide +kernel), ⟨by decide +kernel, by decide +kernel, by decide +kernel⟩, by decide⟩, tb_mem 1247 (by decide +kernel) (by decide +kernel), tb_mem 1248 (by decide +kernel) (by decide +kernel)⟩
theorem yv_MD_addDeed : YV y_MD_addDeed b_MD_addDeed 4 (some .int) 2 := ⟨⟨tb_mem 108 (by decide +kernel) (by decide +kernel), tb_mem 1261 (by decide +kernel) (by decide +kernel), ⟨by decide +kernel, by decide +kernel, by decide +kernel⟩, by decide⟩, tb_mem 1259 (by decide +kernel) (by decide +kernel), tb_mem 1260 (by decide +kernel) (by decide +kernel)⟩
theorem yv_MD_addPerson : YV y_MD_addPerson b_MD_addPerson 5 (some .int) 3 := ⟨⟨tb_mem 108 (by decide +kernel) (by decide +kernel), tb_mem 1265 (by decide +kernel) (by decide +kernel), ⟨by decide +kernel, by decide +kernel, by decide +kernel⟩, by decide⟩, tb_mem 1263 (by decide +kernel) (by decide +kernel), tb_mem 1264 (by decide +kernel) (by decide +kernel)⟩
theorem yv_MD_change : YV y_MD_change b_MD_change 3 (some .int) 2 := ⟨⟨tb_mem 108 (by decide +kernel) (by decide +kernel), tb_mem 1269 (by decide +kernel) (by decide +kernel), ⟨by decide +kernel, by decide +kernel, by decide +kernel⟩, by decide⟩, tb_mem 1267 (by decide +kernel) (by decide +kernel), tb_mem 1268 (by decide +kernel) (by decide +kernel)⟩
theorem yv_MD_alibi : YV y_MD_alibi b_MD_alibi 3 (some .int) 2 := ⟨⟨tb_mem 108 (by decide +kernel) (by decide +kernel), tb_mem 1277 (by decide +kernel) (by decide +kernel), ⟨by decide +kernel, by decide +kernel, by decide +kernel⟩, by decide⟩, tb_mem 1275 (by decide +kernel) (by decide +kernel), tb_mem 1276 (by decide +kernel) (by decide +kernel)⟩
theorem yv_MD_brothers : YV y_MD_brothers b_MD_brothers 4 (some .int) 2 := ⟨⟨tb_mem 108 (by decide +kernel) (by decide +kernel), tb_mem 1281 (by decide +kernel) (by decide +kernel), ⟨by decide +kernel, by decide +kernel, by decide +kernel⟩, by decide⟩, tb_mem 1279 (by decide +kernel) (by decide +kernel), tb_mem 1280 (by decide +kernel) (by decide +kernel)⟩
theorem yv_MD_best : YV y_MD_best b_MD_best 5 (some .int) 2 := ⟨⟨tb_mem 108 (by decide +kernel) (by decide +kernel), tb_mem 1301 (by decide +kernel) (by decide +kernel), ⟨by decide +kernel, by decide +kernel, by decide +kernel⟩, by decide⟩, tb_mem 1300 (by decide +kernel) (by decide +kernel), tb_mem 60 (by decide +kernel) (by decide +kernel)⟩
theorem yv_MD_goesBy : YV y_MD_goesBy b_MD_goesBy 4 none 0 := ⟨⟨tb_mem 108 (by decide +kernel) (by decide +kernel), tb_mem 1297 (by decide +kernel) (by decide +kernel), ⟨by decide +kernel, by decide +kernel, by decide +kernel⟩, by decide⟩, tb_mem 1296 (by decide +kernel) (by decide +kernel), tb_mem 59 (by decide +kernel) (by decide +kernel)⟩
theorem yv_MD_asItIs : YV y_MD_asItIs b_MD_asItIs 2 none 0 := ⟨⟨tb_mem 108 (by decide +kernel) (by decide +kernel), tb_mem 1293 (by decide +kernel) (by decide +kernel), ⟨by decide +kernel, by decide +kernel, by decide +kernel⟩, by decide⟩, tb_mem 1292 (by decide +kernel) (by decide +kernel), tb_mem 58 (by decide +kernel) (by decide +kernel)⟩
theorem yv_MD_goes : YV y_MD_goes b_MD_goes 1 none 0 := ⟨⟨tb_mem 108 (by decide +kernel) (by decide +kernel), tb_mem 1289 (by decide +kernel) (by decide +kernel), ⟨by decide +kernel, by decide +kernel, by decide +kernel⟩, by decide⟩, tb_mem 1288 (by decide +kernel) (by decide +kernel), tb_mem 57 (by decide +kernel) (by decide +kernel)⟩
theorem yv_MD_hasMonths : YV y_MD_hasMonths b_MD_hasMonths 2 (some .int) 1 := ⟨⟨tb_mem 108 (by decide +kernel) (by decide +kernel), tb_mem 1305 (by decide +kernel) (by decide +kernel), ⟨by decide +kernel, by decide +kernel, by decide +kernel⟩, by decide⟩, tb_mem 1304 (by decide +kernel) (by decide +kernel), tb_mem 61 (by decide +kernel) (by decide +kernel)⟩
theorem yv_MD_allMonths : YV y_MD_allMonths b_MD_allMonths 3 (some .int) 0 := ⟨⟨tb_mem 108 (by decide +kernel) (by decide +kernel), tb_mem 1317 (by decide +kernel) (by decide +kernel), ⟨by decide +kernel, by decide +kernel, by decide +kernel⟩, by decide⟩, tb_mem 1316 (by decide +kernel) (by decide +kernel), tb_mem 63 (by decide +kernel) (by decide +kernel)⟩
theorem yv_MD_monthsNow : YV y_MD_monthsNow b_MD_monthsNow 1 (some .int) 0 := ⟨⟨tb_mem 108 (by decide +kernel) (by decide +kernel), tb_mem 1459 (by decide +kernel) (by decide +kernel), ⟨by decide +kernel, by decide +kernel, by decide +kernel⟩, by decide⟩, tb_mem 1458 (by decide +kernel) (by decide +kernel), tb_mem 87 (by decide +kernel) (by decide +kernel)⟩
theorem yv_MD_takes : YV y_MD_takes b_MD_takes 4 (some .int) 2 := ⟨⟨tb_mem 108 (by decide +kernel) (by decide +kernel), tb_mem 1285 (by decide +kernel) (by decide +kernel), ⟨by decide +kernel, by decide +kernel, by decide +kernel⟩, by decide⟩, tb_mem 1283 (by decide +kernel) (by decide +kernel), tb_mem 1284 (by decide +kernel) (by decide +kernel)⟩
theorem yv_MD_firstWithout : YV y_MD_firstWithout b_MD_firstWithout 2 (some .int) 0 := ⟨⟨tb_mem 108 (by decide +kernel) (by decide +kernel), tb_mem 1313 (by decide +kernel) (by decide +kernel), ⟨by decide +kernel, by decide +kernel, by decide +kernel⟩, by decide⟩, tb_mem 1312 (by decide +kernel) (by decide +kernel), tb_mem 62 (by decide +kernel) (by decide +kernel)⟩
theorem yv_MD_morning : YV y_MD_morning b_MD_morning 4 (some .int) 1 := ⟨⟨tb_mem 108 (by decide +kernel) (by decide +kernel), tb_mem 1309 (by decide +kernel) (by decide +kernel), ⟨by decide +kernel, by decide +kernel, by decide +kernel⟩, by decide⟩, tb_mem 1307 (by decide +kernel) (by decide +kernel), tb_mem 1308 (by decide +kernel) (by decide +kernel)⟩
theorem yv_MD_leastWith : YV y_MD_leastWith b_MD_leastWith 4 (some .int) 3 := ⟨⟨tb_mem 108 (by decide +kernel) (by decide +kernel), tb_mem 1329 (by decide +kernel) (by decide +kernel), ⟨by decide +kernel, by decide +kernel, by decide +kernel⟩, by decide⟩, tb_mem 1328 (by decide +kernel) (by decide +kernel), tb_mem 65 (by decide +kernel) (by decide +kernel)⟩
theorem yv_MD_findLeast : YV y_MD_findLeast b_MD_findLeast 5 none 0 := ⟨⟨tb_mem 108 (by decide +kernel) (by decide +kernel), tb_mem 1325 (by decide +kernel) (by decide +kernel), ⟨by decide +kernel, by decide +kernel, by decide +kernel⟩, by decide⟩, tb_mem 1324 (by decide +kernel) (by decide +kernel), tb_mem 64 (by decide +kernel) (by decide +kernel)⟩
theorem yv_MD_least : YV y_MD_least b_MD_least 6 (some .int) 1 := ⟨⟨tb_mem 108 (by decide +kernel) (by decide +kernel), tb_mem 1321 (by decide +kernel) (by decide +kernel), ⟨by decide +kernel, by decide +kernel, by decide +kernel⟩, by decide⟩, tb_mem 1319 (by decide +kernel) (by decide +kernel), tb_mem 1320 (by decide +kernel) (by decide +kernel)⟩
theorem yv_MD_monthsIn : YV y_MD_monthsIn b_MD_monthsIn 4 (some .int) 3 := ⟨⟨tb_mem 108 (by decide +kernel) (by decide +kernel), tb_mem 1349 (by decide +kernel) (by decide +kernel), ⟨by decide +kernel, by decide +kernel, by decide +kernel⟩, by decide⟩, tb_mem 1348 (by decide +kernel) (by decide +kernel), tb_mem 69 (by decide +kernel) (by decide +kernel)⟩
theorem yv_MD_withBrother : YV y_MD_withBrother b_MD_withBrother 7 (some .int) 3 := ⟨⟨tb_mem 108 (by decide +kernel) (by decide +kernel), tb_mem 1345 (by decide +kernel) (by decide +kernel), ⟨by decide +kernel, by decide +kernel, by decide +kernel⟩, by decide⟩, tb_mem 1344 (by decide +kernel) (by decide +kernel), tb_mem 68 (by decide +kernel) (by decide +kernel)⟩
theorem yv_MD_chooses : YV y_MD_chooses b_MD_chooses 7 none 2 := ⟨⟨tb_mem 108 (by decide +kernel) (by decide +kernel), tb_mem 1341 (by decide +kernel) (by decide +kernel), ⟨by decide +kernel, by decide +kernel, by decide +kernel⟩, by decide⟩, tb_mem 1340 (by decide +kernel) (by decide +kernel), tb_mem 67 (by decide +kernel) (by decide +kernel)⟩
theorem yv_MD_findFromLast : YV y_MD_findFromLast b_MD_findFromLast 3 none 0 := ⟨⟨tb_mem 108 (by decide +kernel) (by decide +kernel), tb_mem 1337 (by decide +kernel) (by decide +kernel), ⟨by decide +kernel, by decide +kernel, by decide +kernel⟩, by decide⟩, tb_mem 1336 (by decide +kernel) (by decide +kernel), tb_mem 66 (by decide +kernel) (by decide +kernel)⟩
theorem yv_MD_fromLast : YV y_MD_fromLast b_MD_fromLast 4 (some .int) 2 := ⟨⟨tb_mem 108 (by decide +kernel) (by decide +kernel), tb_mem 1333 (by decide +kernel) (by decide +kernel), ⟨by decide +kernel, by decide +kernel, by decide +kernel⟩, by decide⟩, tb_mem 1331 (by decide +kernel) (by decide +kernel), tb_mem 1332 (by decide +kernel) (by decide +kernel)⟩
theorem yv_MD_allFromLast : YV y_MD_allFromLast b_MD_allFromLast 1 (some .int) 0 := ⟨⟨tb_mem 108 (by decide +kernel) (by decide +kernel), tb_mem 1353 (by decide +kernel) (by decide +kernel), ⟨by decide +kernel, by decide +kernel, by decide +kernel⟩, by decide⟩, tb_mem 1351 (by decide +kernel) (by decide +kernel), tb_mem 1352 (by decide +kernel) (by decide +kernel)⟩
theorem yv_MD_canHaveDone : YV y_MD_canHaveDone b_MD_canHaveDone 3 (some .boolean) 2 := ⟨⟨tb_mem 108 (by decide +kernel) (by decide +kernel), tb_mem 1370 (by decide +kernel) (by decide +kernel), ⟨by decide +kernel, by decide +kernel, by decide +kernel⟩, by decide⟩, tb_mem 1369 (by decide +kernel) (by decide +kernel), tb_mem 72 (by decide +kernel) (by decide +kernel)⟩
theorem yv_MD_waysWith : YV y_MD_waysWith b_MD_waysWith 8 (some .long) 2 := ⟨⟨tb_mem 108 (by decide +kernel) (by decide +kernel), tb_mem 1366 (by decide +kernel) (by decide +kernel), ⟨by decide +kernel, by decide +kernel, by decide +kernel⟩, by decide⟩, tb_mem 1365 (by decide +kernel) (by decide +kernel), tb_mem 71 (by decide +kernel) (by decide +kernel)⟩
theorem yv_MD_whose : YV y_MD_whose b_MD_whose 3 (some .long) 2 := ⟨⟨tb_mem 108 (by decide +kernel) (by decide +kernel), tb_mem 1357 (by decide +kernel) (by decide +kernel), ⟨by decide +kernel, by decide +kernel, by decide +kernel⟩, by decide⟩, tb_mem 1355 (by decide +kernel) (by decide +kernel), tb_mem 1356 (by decide +kernel) (by decide +kernel)⟩
theorem yv_MD_keyBy : YV y_MD_keyBy b_MD_keyBy 4 (some .int) 2 := ⟨⟨tb_mem 108 (by decide +kernel) (by decide +kernel), tb_mem 1386 (by decide +kernel) (by decide +kernel), ⟨by decide +kernel, by decide +kernel, by decide +kernel⟩, by decide⟩, tb_mem 1385 (by decide +kernel) (by decide +kernel), tb_mem 75 (by decide +kernel) (by decide +kernel)⟩
theorem yv_MD_sortsBy : YV y_MD_sortsBy b_MD_sortsBy 5 none 1 := ⟨⟨tb_mem 108 (by decide +kernel) (by decide +kernel), tb_mem 1382 (by decide +kernel) (by decide +kernel), ⟨by decide +kernel, by decide +kernel, by decide +kernel⟩, by decide⟩, tb_mem 1381 (by decide +kernel) (by decide +kernel), tb_mem 74 (by decide +kernel) (by decide +kernel)⟩
theorem yv_MD_monthsBy : YV y_MD_monthsBy b_MD_monthsBy 2 (some .int) 1 := ⟨⟨tb_mem 108 (by decide +kernel) (by decide +kernel), tb_mem 1378 (by decide +kernel) (by decide +kernel), ⟨by decide +kernel, by decide +kernel, by decide +kernel⟩, by decide⟩, tb_mem 1377 (by decide +kernel) (by decide +kernel), tb_mem 73 (by decide +kernel) (by decide +kernel)⟩
theorem yv_MD_unfair : YV y_MD_unfair b_MD_unfair 3 (some .int) 0 := ⟨⟨tb_mem 108 (by decide +kernel) (by decide +kernel), tb_mem 1390 (by decide +kernel) (by decide +kernel), ⟨by decide +kernel, by decide +kernel, by decide +kernel⟩, by decide⟩, tb_mem 1389 (by decide +kernel) (by decide +kernel), tb_mem 76 (by decide +kernel) (by decide +kernel)⟩
theorem yv_MD_rule : YV y_MD_rule b_MD_rule 4 (some .int) 2 := ⟨⟨tb_mem 108 (by decide +kernel) (by decide +kernel), tb_mem 1374 (by decide +kernel) (by decide +kernel), ⟨by decide +kernel, by decide +kernel, by decide +kernel⟩, by decide⟩, tb_mem 1372 (by decide +kernel) (by decide +kernel), tb_mem 1373 (by decide +kernel) (by decide +kernel)⟩
theorem yv_MD_bestRule : YV y_MD_bestRule b_MD_bestRule 3 (some .int) 0 := ⟨⟨tb_mem 108 (by decide +kernel) (by decide +kernel), tb_mem 1394 (by decide +kernel) (by decide +kernel), ⟨by decide +kernel, by decide +kernel, by decide +kernel⟩, by decide⟩, tb_mem 1392 (by decide +kernel) (by decide +kernel), tb_mem 1393 (by decide +kernel) (by decide +kernel)⟩
theorem yv_MD_monthsAt : YV y_MD_monthsAt b_MD_monthsAt 5 (some .int) 2 := ⟨⟨tb_mem 108 (by decide +kernel) (by decide +kernel), tb_mem 1407 (by decide +kernel) (by decide +kernel), ⟨by decide +kernel, by decide +kernel, by decide +kernel⟩, by decide⟩, tb_mem 1406 (by decide +kernel) (by decide +kernel), tb_mem 78 (by decide +kernel) (by decide +kernel)⟩
theorem yv_MD_placeWorth : YV y_MD_placeWorth b_MD_placeWorth 3 (some .int) 1 := ⟨⟨tb_mem 108 (by decide +kernel) (by decide +kernel), tb_mem 1398 (by decide +kernel) (by decide +kernel), ⟨by decide +kernel, by decide +kernel, by decide +kernel⟩, by decide⟩, tb_mem 1396 (by decide +kernel) (by decide +kernel), tb_mem 1397 (by decide +kernel) (by decide +kernel)⟩
theorem yv_MD_areBetter : YV y_MD_areBetter b_MD_areBetter 5 (some .boolean) 2 := ⟨⟨tb_mem 108 (by decide +kernel) (by decide +kernel), tb_mem 1415 (by decide +kernel) (by decide +kernel), ⟨by decide +kernel, by decide +kernel, by decide +kernel⟩, by decide⟩, tb_mem 1414 (by decide +kernel) (by decide +kernel), tb_mem 79 (by decide +kernel) (by decide +kernel)⟩
theorem yv_MD_changes : YV y_MD_changes b_MD_changes 3 (some .int) 0 := ⟨⟨tb_mem 108 (by decide +kernel) (by decide +kernel), tb_mem 1411 (by decide +kernel) (by decide +kernel), ⟨by decide +kernel, by decide +kernel, by decide +kernel⟩, by decide⟩, tb_mem 1409 (by decide +kernel) (by decide +kernel), tb_mem 1410 (by decide +kernel) (by decide +kernel)⟩
theorem yv_MD_laysOrder : YV y_MD_laysOrder b_MD_laysOrder 5 (some .boolean) 1 := ⟨⟨tb_mem 108 (by decide +kernel) (by decide +kernel), tb_mem 1435 (by decide +kernel) (by decide +kernel), ⟨by decide +kernel, by decide +kernel, by decide +kernel⟩, by decide⟩, tb_mem 1434 (by decide +kernel) (by decide +kernel), tb_mem 83 (by decide +kernel) (by decide +kernel)⟩
theorem yv_MD_numbers : YV y_MD_numbers b_MD_numbers 3 (some .int) 0 := ⟨⟨tb_mem 108 (by decide +kernel) (by decide +kernel), tb_mem 1431 (by decide +kernel) (by decide +kernel), ⟨by decide +kernel, by decide +kernel, by decide +kernel⟩, by decide⟩, tb_mem 1430 (by decide +kernel) (by decide +kernel), tb_mem 82 (by decide +kernel) (by decide +kernel)⟩
theorem yv_MD_keepsFound : YV y_MD_keepsFound b_MD_keepsFound 3 none 1 := ⟨⟨tb_mem 108 (by decide +kernel) (by decide +kernel), tb_mem 1443 (by decide +kernel) (by decide +kernel), ⟨by decide +kernel, by decide +kernel, by decide +kernel⟩, by decide⟩, tb_mem 1442 (by decide +kernel) (by decide +kernel), tb_mem 85 (by decide +kernel) (by decide +kernel)⟩
theorem yv_MD_foundOr : YV y_MD_foundOr b_MD_foundOr 2 (some .int) 1 := ⟨⟨tb_mem 108 (by decide +kernel) (by decide +kernel), tb_mem 1447 (by decide +kernel) (by decide +kernel), ⟨by decide +kernel, by decide +kernel, by decide +kernel⟩, by decide⟩, tb_mem 1446 (by decide +kernel) (by decide +kernel), tb_mem 86 (by decide +kernel) (by decide +kernel)⟩
theorem yv_MD_notFew : YV y_MD_notFew b_MD_notFew 2 (some .int) 1 := ⟨⟨tb_mem 108 (by decide +kernel) (by decide +kernel), tb_mem 1423 (by decide +kernel) (by decide +kernel), ⟨by decide +kernel, by decide +kernel, by decide +kernel⟩, by decide⟩, tb_mem 1422 (by decide +kernel) (by decide +kernel), tb_mem 80 (by decide +kernel) (by decide +kernel)⟩
theorem yv_MD_greatest : YV y_MD_greatest b_MD_greatest 3 (some .int) 0 := ⟨⟨tb_mem 108 (by decide +kernel) (by decide +kernel), tb_mem 1439 (by decide +kernel) (by decide +kernel), ⟨by decide +kernel, by decide +kernel, by decide +kernel⟩, by decide⟩, tb_mem 1438 (by decide +kernel) (by decide +kernel), tb_mem 84 (by decide +kernel) (by decide +kernel)⟩
theorem yv_MD_findOrder : YV y_MD_findOrder b_MD_findOrder 4 none 1 := ⟨⟨tb_mem 108 (by decide +kernel) (by decide +kernel), tb_mem 1427 (by decide +kernel) (by decide +kernel), ⟨by decide +kernel, by decide +kernel, by decide +kernel⟩, by decide⟩, tb_mem 1426 (by decide +kernel) (by decide +kernel), tb_mem 81 (by decide +kernel) (by decide +kernel)⟩
theorem yv_MD_bestOrder : YV y_MD_bestOrder b_MD_bestOrder 3 (some .int) 1 := ⟨⟨tb_mem 108 (by decide +kernel) (by decide +kernel), tb_mem 1419 (by decide +kernel) (by decide +kernel), ⟨by decide +kernel, by decide +kernel, by decide +kernel⟩, by decide⟩, tb_mem 1417 (by decide +kernel) (by decide +kernel), tb_mem 1418 (by decide +kernel) (by decide +kernel)⟩
theorem yv_MD_even : YV y_MD_even b_MD_even 3 (some .int) 1 := ⟨⟨tb_mem 108 (by decide +kernel) (by decide +kernel), tb_mem 1451 (by decide +kernel) (by decide +kernel), ⟨by decide +kernel, by decide +kernel, by decide +kernel⟩, by decide⟩, tb_mem 1449 (by decide +kernel) (by decide +kernel), tb_mem 1450 (by decide +kernel) (by decide +kernel)⟩
theorem yv_MD_putIn : YV y_MD_putIn b_MD_putIn 8 (some .int) 2 := ⟨⟨tb_mem 108 (by decide +kernel) (by decide +kernel), tb_mem 1455 (by decide +kernel) (by decide +kernel), ⟨by decide +kernel, by decide +kernel, by decide +kernel⟩, by decide⟩, tb_mem 1453 (by decide +kernel) (by decide +kernel), tb_mem 1454 (by decide +kernel) (by decide +kernel)⟩
theorem yv_MD_setMonths : YV y_MD_setMonths b_MD_setMonths 4 (some .int) 1 := ⟨⟨tb_mem 108 (by decide +kernel) (by decide +kernel), tb_mem 1471 (by decide +kernel) (by decide +kernel), ⟨by decide +kernel, by decide +kernel, by decide +kernel⟩, by decide⟩, tb_mem 1470 (by decide +kernel) (by decide +kernel), tb_mem 89 (by decide +kernel) (by decide +kernel)⟩
theorem yv_MD_fewestOf : YV y_MD_fewestOf b_MD_fewestOf 9 (some .int) 1 := ⟨⟨tb_mem 108 (by decide +kernel) (by decide +kernel), tb_mem 1467 (by decide +kernel) (by decide +kernel), ⟨by decide +kernel, by decide +kernel, by decide +kernel⟩, by decide⟩, tb_mem 1466 (by decide +kernel) (by decide +kernel), tb_mem 88 (by decide +kernel) (by decide +kernel)⟩
theorem yv_MD_together : YV y_MD_together b_MD_together 5 (some .int) 2 := ⟨⟨tb_mem 108 (by decide +kernel) (by decide +kernel), tb_mem 1463 (by decide +kernel) (by decide +kernel), ⟨by decide +kernel, by decide +kernel, by decide +kernel⟩, by decide⟩, tb_mem 1461 (by decide +kernel) (by decide +kernel), tb_mem 1462 (by decide +kernel) (by decide +kernel)⟩
theorem yv_MD_monthsTurned : YV y_MD_monthsTurned b_MD_monthsTurned 4 (some .int) 2 := ⟨⟨tb_mem 108 (by decide +kernel) (by decide +kernel), tb_mem 1479 (by decide +kernel) (by decide +kernel), ⟨by decide +kernel, by decide +kernel, by decide +kernel⟩, by decide⟩, tb_mem 1478 (by decide +kernel) (by decide +kernel), tb_mem 90 (by decide +kernel) (by decide +kernel)⟩
theorem yv_MD_alibiWorth : YV y_MD_alibiWorth b_MD_alibiWorth 4 (some .int) 2 := ⟨⟨tb_mem 108 (by decide +kernel) (by decide +kernel), tb_mem 1475 (by decide +kernel) (by decide +kernel), ⟨by decide +kernel, by decide +kernel, by decide +kernel⟩, by decide⟩, tb_mem 1473 (by decide +kernel) (by decide +kernel), tb_mem 1474 (by decide +kernel) (by decide +kernel)⟩
theorem yv_MD_givenAway : YV y_MD_givenAway b_MD_givenAway 6 (some .int) 0 := ⟨⟨tb_mem 108 (by decide +kernel) (by decide +kernel), tb_mem 1483 (by decide +kernel) (by decide +kernel), ⟨by decide +kernel, by decide +kernel, by decide +kernel⟩, by decide⟩, tb_mem 1481 (by decide +kernel) (by decide +kernel), tb_mem 1482 (by decide +kernel) (by decide +kernel)⟩
theorem ys_MD_divisor : YS y_MD_divisor b_MD_divisor 10 (some .long) 2 := ⟨⟨tb_mem 108 (by decide +kernel) (by decide +kernel), tb_mem 1490 (by decide +kernel) (by decide +kernel), ⟨by decide +kernel, by decide +kernel, by decide +kernel⟩, by decide⟩, tb_mem 1489 (by decide +kernel) (by decide +kernel)⟩
theorem yv_MD_caught : YV y_MD_caught b_MD_caught 11 (some .long) 3 := ⟨⟨tb_mem 108 (by decide +kernel) (by decide +kernel), tb_mem 1487 (by decide +kernel) (by decide +kernel), ⟨by decide +kernel, by decide +kernel, by decide +kernel⟩, by decide⟩, tb_mem 1485 (by decide +kernel) (by decide +kernel), tb_mem 1486 (by decide +kernel) (by decide +kernel)⟩
theorem yv_MD_spared : YV y_MD_spared b_MD_spared 4 (some .int) 0 := ⟨⟨tb_mem 108 (by decide +kernel) (by decide +kernel), tb_mem 1494 (by decide +kernel) (by decide +kernel), ⟨by decide +kernel, by decide +kernel, by decide +kernel⟩, by decide⟩, tb_mem 1492 (by decide +kernel) (by decide +kernel), tb_mem 1493 (by decide +kernel) (by decide +kernel)⟩
theorem yv_MD_keeper : YV y_MD_keeper b_MD_keeper 6 (some .int) 0 := ⟨⟨tb_mem 108 (by decide +kernel) (by decide +kernel), tb_mem 1498 (by decide +kernel) (by decide +kernel), ⟨by decide +kernel, by decide +kernel, by decide +kernel⟩, by decide⟩, tb_mem 1496 (by decide +kernel) (by decide +kernel), tb_mem 1497 (by decide +kernel) (by decide +kernel)⟩
theorem yv_MD_mayHave : YV y_MD_mayHave b_MD_mayHave 3 (some .boolean) 2 := ⟨⟨tb_mem 108 (by decide +kernel) (by decide +kernel), tb_mem 1506 (by decide +kernel) (by decide +kernel), ⟨by decide +kernel, by decide +kernel, by decide +kernel⟩, by decide⟩, tb_mem 1505 (by decide +kernel) (by decide +kernel), tb_mem 91 (by decide +kernel) (by decide +kernel)⟩
theorem yv_MD_swaps : YV y_MD_swaps b_MD_swaps 5 (some .int) 1 := ⟨⟨tb_mem 108 (by decide +kernel) (by decide +kernel), tb_mem 1502 (by decide +kernel) (by decide +kernel), ⟨by decide +kernel, by decide +kernel, by decide +kernel⟩, by decide⟩, tb_mem 1500 (by decide +kernel) (by decide +kernel), tb_mem 1501 (by decide +kernel) (by decide +kernel)⟩
theorem yv_MD_heavier : YV y_MD_heavier b_MD_heavier 6 (some .int) 2 := ⟨⟨tb_mem 108 (by decide +kernel) (by decide +kernel), tb_mem 1510 (by decide +kernel) (by decide +kernel), ⟨by decide +kernel, by decide +kernel, by decide +kernel⟩, by decide⟩, tb_mem 1508 (by decide +kernel) (by decide +kernel), tb_mem 1509 (by decide +kernel) (by decide +kernel)⟩
theorem yv_MD_monthsHaving : YV y_MD_monthsHaving b_MD_monthsHaving 5 (some .int) 2 := ⟨⟨tb_mem 108 (by decide +kernel) (by decide +kernel), tb_mem 1518 (by decide +kernel) (by decide +kernel), ⟨by decide +kernel, by decide +kernel, by decide +kernel⟩, by decide⟩, tb_mem 1517 (by decide +kernel) (by decide +kernel), tb_mem 92 (by decide +kernel) (by decide +kernel)⟩
theorem yv_MD_bestDid : YV y_MD_bestDid b_MD_bestDid 4 (some .int) 1 := ⟨⟨tb_mem 108 (by decide +kernel) (by decide +kernel), tb_mem 1514 (by decide +kernel) (by decide +kernel), ⟨by decide +kernel, by decide +kernel, by decide +kernel⟩, by decide⟩, tb_mem 1512 (by decide +kernel) (by decide +kernel), tb_mem 1513 (by decide +kernel) (by decide +kernel)⟩
theorem yv_MD_takenBits : YV y_MD_takenBits b_MD_takenBits 3 (some .int) 0 := ⟨⟨tb_mem 108 (by decide +kernel) (by decide +kernel), tb_mem 1526 (by decide +kernel) (by decide +kernel), ⟨by decide +kernel, by decide +kernel, by decide +kernel⟩, by decide⟩, tb_mem 1525 (by decide +kernel) (by decide +kernel), tb_mem 93 (by decide +kernel) (by decide +kernel)⟩
theorem yv_MD_takenMonths : YV y_MD_takenMonths b_MD_takenMonths 3 (some .int) 0 := ⟨⟨tb_mem 108 (by decide +kernel) (by decide +kernel), tb_mem 1530 (by decide +kernel) (by decide +kernel), ⟨by decide +kernel, by decide +kernel, by decide +kernel⟩, by decide⟩, tb_mem 1529 (by decide +kernel) (by decide +kernel), tb_mem 94 (by decide +kernel) (by decide +kernel)⟩
theorem yv_MD_rest : YV y_MD_rest b_MD_rest 5 (some .int) 1 := ⟨⟨tb_mem 108 (by decide +kernel) (by decide +kernel), tb_mem 1522 (by decide +kernel) (by decide +kernel), ⟨by decide +kernel, by decide +kernel, by decide +kernel⟩, by decide⟩, tb_mem 1520 (by decide +kernel) (by decide +kernel), tb_mem 1521 (by decide +kernel) (by decide +kernel)⟩
theorem yv_MD_lastWord : YV y_MD_lastWord b_MD_lastWord 5 (some .int) 1 := ⟨⟨tb_mem 108 (by decide +kernel) (by decide +kernel), tb_mem 1534 (by decide +kernel) (by decide +kernel), ⟨by decide +kernel, by decide +kernel, by decide +kernel⟩, by decide⟩, tb_mem 1532 (by decide +kernel) (by decide +kernel), tb_mem 1533 (by decide +kernel) (by decide +kernel)⟩
theorem yv_MD_sumChanged : YV y_MD_sumChanged b_MD_sumChanged 3 (some .int) 2 := ⟨⟨tb_mem 108 (by decide +kernel) (by decide +kernel), tb_mem 1542 (by decide +kernel) (by decide +kernel), ⟨by decide +kernel, by decide +kernel, by decide +kernel⟩, by decide⟩, tb_mem 1541 (by decide +kernel) (by decide +kernel), tb_mem 95 (by decide +kernel) (by decide +kernel)⟩
theorem yv_MD_bribe : YV y_MD_bribe b_MD_bribe 9 (some .int) 1 := ⟨⟨tb_mem 108 (by decide +kernel) (by decide +kernel), tb_mem 1538 (by decide +kernel) (by decide +kernel), ⟨by decide +kernel, by decide +kernel, by decide +kernel⟩, by decide⟩, tb_mem 1536 (by decide +kernel) (by decide +kernel), tb_mem 1537 (by decide +kernel) (by decide +kernel)⟩
theorem yv_MD_latest : YV y_MD_latest b_MD_latest 9 (some .int) 2 := ⟨⟨tb_mem 108 (by decide +kernel) (by decide +kernel), tb_mem 1546 (by decide +kernel) (by decide +kernel), ⟨by decide +kernel, by decide +kernel, by decide +kernel⟩, by decide⟩, tb_mem 1544 (by decide +kernel) (by decide +kernel), tb_mem 1545 (by decide +kernel) (by decide +kernel)⟩
theorem yv_MD_truth : YV y_MD_truth b_MD_truth 7 (some .int) 1 := ⟨⟨tb_mem 108 (by decide +kernel) (by decide +kernel), tb_mem 1550 (by decide +kernel) (by decide +kernel), ⟨by decide +kernel, by decide +kernel, by decide +kernel⟩, by decide⟩, tb_mem 1548 (by decide +kernel) (by decide +kernel), tb_mem 1549 (by decide +kernel) (by decide +kernel)⟩
theorem yv_MD_parole : YV y_MD_parole b_MD_parole 6 (some .int) 0 := ⟨⟨tb_mem 108 (by decide +kernel) (by decide +kernel), tb_mem 1554 (by decide +kernel) (by decide +kernel), ⟨by decide +kernel, by decide +kernel, by decide +kernel⟩, by decide⟩, tb_mem 1552 (by decide +kernel) (by decide +kernel), tb_mem 1553 (by decide +kernel) (by decide +kernel)⟩
theorem yv_MD_newBrothers : YV y_MD_newBrothers b_MD_newBrothers 6 (some .int) 0 := ⟨⟨tb_mem 108 (by decide +kernel) (by decide +kernel), tb_mem 1558 (by decide +kernel) (by decide +kernel), ⟨by decide +kernel, by decide +kernel, by decide +kernel⟩, by decide⟩, tb_mem 1556 (by decide +kernel) (by decide +kernel), tb_mem 1557 (by decide +kernel) (by decide +kernel)⟩
theorem yv_MD_madeLight : YV y_MD_madeLight b_MD_madeLight 6 (some .int) 0 := ⟨⟨tb_mem 108 (by decide +kernel) (by decide +kernel), tb_mem 1562 (by decide +kernel) (by decide +kernel), ⟨by decide +kernel, by decide +kernel, by decide +kernel⟩, by decide⟩, tb_mem 1560 (by decide +kernel) (by decide +kernel), tb_mem 1561 (by decide +kernel) (by decide +kernel)⟩
theorem yv_MD_always : YV y_MD_always b_MD_always 3 (some .int) 0 := ⟨⟨tb_mem 108 (by decide +kernel) (by decide +kernel), tb_mem 1566 (by decide +kernel) (by decide +kernel), ⟨by decide +kernel, by decide +kernel, by decide +kernel⟩, by decide⟩, tb_mem 1564 (by decide +kernel) (by decide +kernel), tb_mem 1565 (by decide +kernel) (by decide +kernel)⟩
theorem yv_MD_row : YV y_MD_row b_MD_row 3 (some .int) 1 := ⟨⟨tb_mem 108 (by decide +kernel) (by decide +kernel), tb_mem 1570 (by decide +kernel) (by decide +kernel), ⟨by decide +kernel, by decide +kernel, by decide +kernel⟩, by decide⟩, tb_mem 1568 (by decide +kernel) (by decide +kernel), tb_mem 1569 (by decide +kernel) (by decide +kernel)⟩
theorem yv_MD_firstOther : YV y_MD_firstOther b_MD_firstOther 2 (some .int) 0 := ⟨⟨tb_mem 108 (by decide +kernel) (by decide +kernel), tb_mem 1578 (by decide +kernel) (by decide +kernel), ⟨by decide +kernel, by decide +kernel, by decide +kernel⟩, by decide⟩, tb_mem 1577 (by decide +kernel) (by decide +kernel), tb_mem 96 (by decide +kernel) (by decide +kernel)⟩
theorem yv_MD_judge : YV y_MD_judge b_MD_judge 2 (some .int) 0 := ⟨⟨tb_mem 108 (by decide +kernel) (by decide +kernel), tb_mem 1574 (by decide +kernel) (by decide +kernel), ⟨by decide +kernel, by decide +kernel, by decide +kernel⟩, by decide⟩, tb_mem 1572 (by decide +kernel) (by decide +kernel), tb_mem 1573 (by decide +kernel) (by decide +kernel)⟩
theorem yv_MD_fits : YV y_MD_fits b_MD_fits 5 (some .int) 1 := ⟨⟨tb_mem 108 (by decide +kernel) (by decide +kernel), tb_mem 1582 (by decide +kernel) (by decide +kernel), ⟨by decide +kernel, by decide +kernel, by decide +kernel⟩, by decide⟩, tb_mem 1580 (by decide +kernel) (by decide +kernel), tb_mem 1581 (by decide +kernel) (by decide +kernel)⟩
theorem yv_MD_clear : YV y_MD_clear b_MD_clear 2 (some .int) 0 := ⟨⟨tb_mem 108 (by decide +kernel) (by decide +kernel), tb_mem 1586 (by decide +kernel) (by decide +kernel), ⟨by decide +kernel, by decide +kernel, by decide +kernel⟩, by decide⟩, tb_mem 1584 (by decide +kernel) (by decide +kernel), tb_mem 1585 (by decide +kernel) (by decide +kernel)⟩
theorem yv_MD_lots : YV y_MD_lots b_MD_lots 10 (some .int) 3 := ⟨⟨tb_mem 108 (by decide +kernel) (by decide +kernel), tb_mem 1590 (by decide +kernel) (by decide +kernel), ⟨by decide +kernel, by decide +kernel, by decide +kernel⟩, by decide⟩, tb_mem 1588 (by decide +kernel) (by decide +kernel), tb_mem 1589 (by decide +kernel) (by decide +kernel)⟩
theorem yv_MD_alibisOf : YV y_MD_alibisOf b_MD_alibisOf 4 (some .int) 1 := ⟨⟨tb_mem 108 (by decide +kernel) (by decide +kernel), tb_mem 1601 (by decide +kernel) (by decide +kernel), ⟨by decide +kernel, by decide +kernel, by decide +kernel⟩, by decide⟩, tb_mem 1600 (by decide +kernel) (by decide +kernel), tb_mem 97 (by decide +kernel) (by decide +kernel)⟩
theorem yv_MD_count : YV y_MD_count b_MD_count 4 (some .int) 1 := ⟨⟨tb_mem 108 (by decide +kernel) (by decide +kernel), tb_mem 1597 (by decide +kernel) (by decide +kernel), ⟨by decide +kernel, by decide +kernel, by decide +kernel⟩, by decide⟩, tb_mem 1595 (by decide +kernel) (by decide +kernel), tb_mem 1596 (by decide +kernel) (by decide +kernel)⟩
theorem ys_IG_bitCount : YS y_IG_bitCount b_IG_bitCount 1 (some .int) 1 := ⟨⟨tb_mem 110 (by decide +kernel) (by decide +kernel), tb_mem 660 (by decide +kernel) (by decide +kernel), ⟨by decide +kernel, by decide +kernel, by decide +kernel⟩, by decide⟩, tb_mem 659 (by decide +kernel) (by decide +kernel)⟩
theorem ys_MA_max : YS y_MA_max b_MA_max 2 (some .int) 2 := ⟨⟨tb_mem 109 (by decide +kernel) (by decide +kernel), tb_mem 528 (by decide +kernel) (by decide +kernel), ⟨by decide +kernel, by decide +kernel, by decide +kernel⟩, by decide⟩, tb_mem 527 (by decide +kernel) (by decide +kernel)⟩
theorem ys_MA_min : YS y_MA_min b_MA_min 2 (some .int) 2 := ⟨⟨tb_mem 109 (by decide +kernel) (by decide +kernel), tb_mem 398 (by decide +kernel) (by decide +kernel), ⟨by decide +kernel, by decide +kernel, by decide +kernel⟩, by decide⟩, tb_mem 397 (by decide +kernel) (by decide +kernel)⟩
theorem ml_LW_13 : Cond.methodLink "AccusedChooseLaw" 13 y_AC_feed ∈ tb := tb_mem 373 (by decide +kernel) (by decide +kernel)
theorem ml_AC_90 : Cond.methodLink "AccusedChoose" 90 y_AC_refuse ∈ tb := tb_mem 377 (by decide +kernel) (by decide +kernel)
theorem ml_AC_122 : Cond.methodLink "AccusedChoose" 122 y_AC_at ∈ tb := tb_mem 381 (by decide +kernel) (by decide +kernel)
theorem ml_AC_310 : Cond.methodLink "AccusedChoose" 310 y_AC_put ∈ tb := tb_mem 384 (by decide +kernel) (by decide +kernel)
theorem ml_AC_94 : Cond.methodLink "AccusedChoose" 94 y_LT_isFull ∈ tb := tb_mem 387 (by decide +kernel) (by decide +kernel)
theorem ml_AC_98 : Cond.methodLink "AccusedChoose" 98 y_LT_add ∈ tb := tb_mem 391 (by decide +kernel) (by decide +kernel)
theorem ml_LT_23 : Cond.methodLink "AccusedChoose$Letters" 23 y_MA_min ∈ tb := tb_mem 396 (by decide +kernel) (by decide +kernel)
theorem ml_LW_18 : Cond.methodLink "AccusedChooseLaw" 18 y_AC_night ∈ tb := tb_mem 399 (by decide +kernel) (by decide +kernel)
theorem ml_AC_101 : Cond.methodLink "AccusedChoose" 101 y_NI_copy ∈ tb := tb_mem 403 (by decide +kernel) (by decide +kernel)
theorem ml_AC_105 : Cond.methodLink "AccusedChoose" 105 y_LT_tell ∈ tb := tb_mem 410 (by decide +kernel) (by decide +kernel)
theorem ml_LT_29 : Cond.methodLink "AccusedChoose$Letters" 29 y_LT_placeOfWrongLetter ∈ tb := tb_mem 414 (by decide +kernel) (by decide +kernel)
theorem ml_LT_41 : Cond.methodLink "AccusedChoose$Letters" 41 y_LT_digitsOf ∈ tb := tb_mem 419 (by decide +kernel) (by decide +kernel)
theorem ml_LT_33 : Cond.methodLink "AccusedChoose$Letters" 33 y_LT_state ∈ tb := tb_mem 422 (by decide +kernel) (by decide +kernel)
theorem ml_LT_45 : Cond.methodLink "AccusedChoose$Letters" 45 y_LT_digit ∈ tb := tb_mem 426 (by decide +kernel) (by decide +kernel)
theorem ml_LT_48 : Cond.methodLink "AccusedChoose$Letters" 48 y_LT_stateDeed ∈ tb := tb_mem 430 (by decide +kernel) (by decide +kernel)
theorem ml_LT_88 : Cond.methodLink "AccusedChoose$Letters" 88 y_NI_putDeed ∈ tb := tb_mem 434 (by decide +kernel) (by decide +kernel)
theorem ml_NI_55 : Cond.methodLink "AccusedChoose$Night" 55 y_MA_min ∈ tb := tb_mem 439 (by decide +kernel) (by decide +kernel)
theorem ml_LT_52 : Cond.methodLink "AccusedChoose$Letters" 52 y_LT_statePerson ∈ tb := tb_mem 440 (by decide +kernel) (by decide +kernel)
theorem ml_LT_91 : Cond.methodLink "AccusedChoose$Letters" 91 y_NI_putPerson ∈ tb := tb_mem 444 (by decide +kernel) (by decide +kernel)
theorem ml_LT_55 : Cond.methodLink "AccusedChoose$Letters" 55 y_NI_hasTwo ∈ tb := tb_mem 448 (by decide +kernel) (by decide +kernel)
theorem ml_NI_47 : Cond.methodLink "AccusedChoose$Night" 47 y_NI_hasPerson ∈ tb := tb_mem 452 (by decide +kernel) (by decide +kernel)
theorem ml_LT_61 : Cond.methodLink "AccusedChoose$Letters" 61 y_NI_pair ∈ tb := tb_mem 456 (by decide +kernel) (by decide +kernel)
theorem ml_LT_65 : Cond.methodLink "AccusedChoose$Letters" 65 y_NI_hasPerson ∈ tb := tb_mem 461 (by decide +kernel) (by decide +kernel)
theorem ml_LT_69 : Cond.methodLink "AccusedChoose$Letters" 69 y_NI_hasDeed ∈ tb := tb_mem 462 (by decide +kernel) (by decide +kernel)
theorem ml_LT_72 : Cond.methodLink "AccusedChoose$Letters" 72 y_NI_turnAlibi ∈ tb := tb_mem 466 (by decide +kernel) (by decide +kernel)
theorem ml_AC_380 : Cond.methodLink "AccusedChoose" 380 y_AC_placeIn ∈ tb := tb_mem 476 (by decide +kernel) (by decide +kernel)
theorem ml_AC_109 : Cond.methodLink "AccusedChoose" 109 y_LT_drop ∈ tb := tb_mem 479 (by decide +kernel) (by decide +kernel)
theorem ml_AC_112 : Cond.methodLink "AccusedChoose" 112 y_PA_forget ∈ tb := tb_mem 483 (by decide +kernel) (by decide +kernel)
theorem ml_LW_23 : Cond.methodLink "AccusedChooseLaw" 23 y_AC_deed ∈ tb := tb_mem 487 (by decide +kernel) (by decide +kernel)
theorem ml_AC_115 : Cond.methodLink "AccusedChoose" 115 y_NI_hasDeed ∈ tb := tb_mem 491 (by decide +kernel) (by decide +kernel)
theorem ml_LW_28 : Cond.methodLink "AccusedChooseLaw" 28 y_AC_person ∈ tb := tb_mem 492 (by decide +kernel) (by decide +kernel)
theorem ml_AC_129 : Cond.methodLink "AccusedChoose" 129 y_NI_hasPerson ∈ tb := tb_mem 496 (by decide +kernel) (by decide +kernel)
theorem ml_AC_144 : Cond.methodLink "AccusedChoose" 144 y_NI_placeOf ∈ tb := tb_mem 497 (by decide +kernel) (by decide +kernel)
theorem ml_AC_150 : Cond.methodLink "AccusedChoose" 150 y_NI_mayBits ∈ tb := tb_mem 502 (by decide +kernel) (by decide +kernel)
theorem ml_NI_80 : Cond.methodLink "AccusedChoose$Night" 80 y_NI_may ∈ tb := tb_mem 506 (by decide +kernel) (by decide +kernel)
theorem ml_NI_73 : Cond.methodLink "AccusedChoose$Night" 73 y_NI_hasDeed ∈ tb := tb_mem 510 (by decide +kernel) (by decide +kernel)
theorem ml_AC_276 : Cond.methodLink "AccusedChoose" 276 y_AC_bit ∈ tb := tb_mem 514 (by decide +kernel) (by decide +kernel)
theorem ml_LW_32 : Cond.methodLink "AccusedChooseLaw" 32 y_AC_months ∈ tb := tb_mem 515 (by decide +kernel) (by decide +kernel)
theorem ml_AC_153 : Cond.methodLink "AccusedChoose" 153 y_NI_monthsFor ∈ tb := tb_mem 519 (by decide +kernel) (by decide +kernel)
theorem ml_AC_334 : Cond.methodLink "AccusedChoose" 334 y_MA_max ∈ tb := tb_mem 526 (by decide +kernel) (by decide +kernel)
theorem ml_LW_36 : Cond.methodLink "AccusedChooseLaw" 36 y_AC_addDeed ∈ tb := tb_mem 529 (by decide +kernel) (by decide +kernel)
theorem ml_AC_161 : Cond.methodLink "AccusedChoose" 161 y_NI_putDeed ∈ tb := tb_mem 533 (by decide +kernel) (by decide +kernel)
theorem ml_LW_40 : Cond.methodLink "AccusedChooseLaw" 40 y_AC_addPerson ∈ tb := tb_mem 534 (by decide +kernel) (by decide +kernel)
theorem ml_AC_167 : Cond.methodLink "AccusedChoose" 167 y_NI_putPerson ∈ tb := tb_mem 538 (by decide +kernel) (by decide +kernel)
theorem ml_LW_45 : Cond.methodLink "AccusedChooseLaw" 45 y_AC_change ∈ tb := tb_mem 539 (by decide +kernel) (by decide +kernel)
theorem ml_AC_171 : Cond.methodLink "AccusedChoose" 171 y_NI_hasTwo ∈ tb := tb_mem 543 (by decide +kernel) (by decide +kernel)
theorem ml_AC_175 : Cond.methodLink "AccusedChoose" 175 y_PA_add ∈ tb := tb_mem 544 (by decide +kernel) (by decide +kernel)
theorem ml_PA_29 : Cond.methodLink "AccusedChoose$Past" 29 y_PA_dropOldest ∈ tb := tb_mem 548 (by decide +kernel) (by decide +kernel)
theorem ml_PA_62 : Cond.methodLink "AccusedChoose$Past" 62 y_PA_shift ∈ tb := tb_mem 552 (by decide +kernel) (by decide +kernel)
theorem ml_AC_181 : Cond.methodLink "AccusedChoose" 181 y_AC_swapPlaces ∈ tb := tb_mem 556 (by decide +kernel) (by decide +kernel)
theorem ml_LW_49 : Cond.methodLink "AccusedChooseLaw" 49 y_AC_alibi ∈ tb := tb_mem 557 (by decide +kernel) (by decide +kernel)
theorem ml_AC_185 : Cond.methodLink "AccusedChoose" 185 y_NI_turnAlibi ∈ tb := tb_mem 561 (by decide +kernel) (by decide +kernel)
theorem ml_AC_189 : Cond.methodLink "AccusedChoose" 189 y_AC_has ∈ tb := tb_mem 562 (by decide +kernel) (by decide +kernel)
theorem ml_LW_53 : Cond.methodLink "AccusedChooseLaw" 53 y_AC_brothers ∈ tb := tb_mem 563 (by decide +kernel) (by decide +kernel)
theorem ml_AC_192 : Cond.methodLink "AccusedChoose" 192 y_NI_pair ∈ tb := tb_mem 567 (by decide +kernel) (by decide +kernel)
theorem ml_LW_57 : Cond.methodLink "AccusedChooseLaw" 57 y_AC_back ∈ tb := tb_mem 568 (by decide +kernel) (by decide +kernel)
theorem ml_AC_198 : Cond.methodLink "AccusedChoose" 198 y_PA_takeBack ∈ tb := tb_mem 572 (by decide +kernel) (by decide +kernel)
theorem ml_PA_54 : Cond.methodLink "AccusedChoose$Past" 54 y_NI_turnAlibi ∈ tb := tb_mem 578 (by decide +kernel) (by decide +kernel)
theorem ml_PA_58 : Cond.methodLink "AccusedChoose$Past" 58 y_NI_unpair ∈ tb := tb_mem 579 (by decide +kernel) (by decide +kernel)
theorem ml_LW_61 : Cond.methodLink "AccusedChooseLaw" 61 y_AC_takes ∈ tb := tb_mem 583 (by decide +kernel) (by decide +kernel)
theorem ml_AC_201 : Cond.methodLink "AccusedChoose" 201 y_AC_holdToday ∈ tb := tb_mem 587 (by decide +kernel) (by decide +kernel)
theorem ml_AC_219 : Cond.methodLink "AccusedChoose" 219 y_PR_fill ∈ tb := tb_mem 591 (by decide +kernel) (by decide +kernel)
theorem ml_PR_26 : Cond.methodLink "AccusedChoose$Prices" 26 y_NI_may ∈ tb := tb_mem 595 (by decide +kernel) (by decide +kernel)
theorem ml_PR_30 : Cond.methodLink "AccusedChoose$Prices" 30 y_NI_monthsFor ∈ tb := tb_mem 596 (by decide +kernel) (by decide +kernel)
theorem k_PR_34 : Cond.constant "AccusedChoose$Prices" 34 1000000 ∈ tb := tb_mem 597 (by decide +kernel) (by decide +kernel)
theorem ml_AC_302 : Cond.methodLink "AccusedChoose" 302 y_NI_allDeeds ∈ tb := tb_mem 599 (by decide +kernel) (by decide +kernel)
theorem ml_AC_305 : Cond.methodLink "AccusedChoose" 305 y_MO_hold ∈ tb := tb_mem 603 (by decide +kernel) (by decide +kernel)
theorem ml_MO_24 : Cond.methodLink "AccusedChoose$Morning" 24 y_MO_begin ∈ tb := tb_mem 607 (by decide +kernel) (by decide +kernel)
theorem ml_MO_36 : Cond.methodLink "AccusedChoose$Morning" 36 y_PR_lightest ∈ tb := tb_mem 612 (by decide +kernel) (by decide +kernel)
theorem ml_PR_42 : Cond.methodLink "AccusedChoose$Prices" 42 y_PR_of ∈ tb := tb_mem 617 (by decide +kernel) (by decide +kernel)
theorem ml_PR_39 : Cond.methodLink "AccusedChoose$Prices" 39 y_PR_isThere ∈ tb := tb_mem 621 (by decide +kernel) (by decide +kernel)
theorem ml_MO_40 : Cond.methodLink "AccusedChoose$Morning" 40 y_MO_seat ∈ tb := tb_mem 626 (by decide +kernel) (by decide +kernel)
theorem ml_MO_69 : Cond.methodLink "AccusedChoose$Morning" 69 y_PR_of ∈ tb := tb_mem 630 (by decide +kernel) (by decide +kernel)
theorem ml_LW_65 : Cond.methodLink "AccusedChooseLaw" 65 y_AC_morning ∈ tb := tb_mem 633 (by decide +kernel) (by decide +kernel)
theorem ml_LW_69 : Cond.methodLink "AccusedChooseLaw" 69 y_AC_least ∈ tb := tb_mem 637 (by decide +kernel) (by decide +kernel)
theorem ml_AC_222 : Cond.methodLink "AccusedChoose" 222 y_TA_fillLeast ∈ tb := tb_mem 641 (by decide +kernel) (by decide +kernel)
theorem ml_TA_29 : Cond.methodLink "AccusedChoose$Table" 29 y_TA_closeAt ∈ tb := tb_mem 645 (by decide +kernel) (by decide +kernel)
theorem ml_TA_48 : Cond.methodLink "AccusedChoose$Table" 48 y_TA_set ∈ tb := tb_mem 649 (by decide +kernel) (by decide +kernel)
theorem ml_TA_40 : Cond.methodLink "AccusedChoose$Table" 40 y_TA_canBe ∈ tb := tb_mem 655 (by decide +kernel) (by decide +kernel)
theorem ml_TA_88 : Cond.methodLink "AccusedChoose$Table" 88 y_IG_bitCount ∈ tb := tb_mem 658 (by decide +kernel) (by decide +kernel)
theorem k_IG_265 : Cond.constant "java/lang/Integer" 265 1431655765 ∈ tb := tb_mem 661 (by decide +kernel) (by decide +kernel)
theorem k_IG_266 : Cond.constant "java/lang/Integer" 266 858993459 ∈ tb := tb_mem 662 (by decide +kernel) (by decide +kernel)
theorem k_IG_267 : Cond.constant "java/lang/Integer" 267 252645135 ∈ tb := tb_mem 663 (by decide +kernel) (by decide +kernel)
theorem ml_TA_44 : Cond.methodLink "AccusedChoose$Table" 44 y_TA_leastFrom ∈ tb := tb_mem 664 (by decide +kernel) (by decide +kernel)
theorem ml_TA_52 : Cond.methodLink "AccusedChoose$Table" 52 y_TA_get ∈ tb := tb_mem 668 (by decide +kernel) (by decide +kernel)
theorem ml_TA_59 : Cond.methodLink "AccusedChoose$Table" 59 y_PR_allows ∈ tb := tb_mem 674 (by decide +kernel) (by decide +kernel)
theorem ml_TA_62 : Cond.methodLink "AccusedChoose$Table" 62 y_TA_monthsWith ∈ tb := tb_mem 678 (by decide +kernel) (by decide +kernel)
theorem ml_TA_85 : Cond.methodLink "AccusedChoose$Table" 85 y_PR_of ∈ tb := tb_mem 682 (by decide +kernel) (by decide +kernel)
theorem ml_TA_66 : Cond.methodLink "AccusedChoose$Table" 66 y_MA_min ∈ tb := tb_mem 683 (by decide +kernel) (by decide +kernel)
theorem ml_AC_226 : Cond.methodLink "AccusedChoose" 226 y_TA_get ∈ tb := tb_mem 684 (by decide +kernel) (by decide +kernel)
theorem ml_AC_229 : Cond.methodLink "AccusedChoose" 229 y_TA_leastDeed ∈ tb := tb_mem 685 (by decide +kernel) (by decide +kernel)
theorem ml_TA_71 : Cond.methodLink "AccusedChoose$Table" 71 y_TA_leastStep ∈ tb := tb_mem 689 (by decide +kernel) (by decide +kernel)
theorem ml_LW_73 : Cond.methodLink "AccusedChooseLaw" 73 y_AC_fromLast ∈ tb := tb_mem 693 (by decide +kernel) (by decide +kernel)
theorem ml_AC_233 : Cond.methodLink "AccusedChoose" 233 y_LB_hold ∈ tb := tb_mem 697 (by decide +kernel) (by decide +kernel)
theorem ml_LB_18 : Cond.methodLink "AccusedChoose$LastBack" 18 y_NI_allDeeds ∈ tb := tb_mem 701 (by decide +kernel) (by decide +kernel)
theorem ml_LB_38 : Cond.methodLink "AccusedChoose$LastBack" 38 y_LB_choice ∈ tb := tb_mem 703 (by decide +kernel) (by decide +kernel)
theorem ml_LB_59 : Cond.methodLink "AccusedChoose$LastBack" 59 y_NI_placeOf ∈ tb := tb_mem 706 (by decide +kernel) (by decide +kernel)
theorem ml_LB_62 : Cond.methodLink "AccusedChoose$LastBack" 62 y_PR_lightest ∈ tb := tb_mem 707 (by decide +kernel) (by decide +kernel)
theorem k_LB_65 : Cond.constant "AccusedChoose$LastBack" 65 1000000 ∈ tb := tb_mem 708 (by decide +kernel) (by decide +kernel)
theorem ml_LB_73 : Cond.methodLink "AccusedChoose$LastBack" 73 y_PR_allows ∈ tb := tb_mem 710 (by decide +kernel) (by decide +kernel)
theorem ml_LB_76 : Cond.methodLink "AccusedChoose$LastBack" 76 y_LB_monthsBehind ∈ tb := tb_mem 712 (by decide +kernel) (by decide +kernel)
theorem ml_LB_42 : Cond.methodLink "AccusedChoose$LastBack" 42 y_PR_of ∈ tb := tb_mem 715 (by decide +kernel) (by decide +kernel)
theorem ml_LW_77 : Cond.methodLink "AccusedChooseLaw" 77 y_AC_allFromLast ∈ tb := tb_mem 717 (by decide +kernel) (by decide +kernel)
theorem ml_LW_81 : Cond.methodLink "AccusedChooseLaw" 81 y_AC_whose ∈ tb := tb_mem 721 (by decide +kernel) (by decide +kernel)
theorem ml_AC_240 : Cond.methodLink "AccusedChoose" 240 y_AC_refuseLong ∈ tb := tb_mem 725 (by decide +kernel) (by decide +kernel)
theorem k_AC_378 : Cond.constantLong "AccusedChoose" 378 4000000000000000000 ∈ tb := tb_mem 729 (by decide +kernel) (by decide +kernel)
theorem ml_AC_244 : Cond.methodLink "AccusedChoose" 244 y_AC_countWays ∈ tb := tb_mem 730 (by decide +kernel) (by decide +kernel)
theorem ml_AC_390 : Cond.methodLink "AccusedChoose" 390 y_IG_bitCount ∈ tb := tb_mem 734 (by decide +kernel) (by decide +kernel)
theorem ml_AC_395 : Cond.methodLink "AccusedChoose" 395 y_AC_giveOut ∈ tb := tb_mem 735 (by decide +kernel) (by decide +kernel)
theorem ml_AC_399 : Cond.methodLink "AccusedChoose" 399 y_NI_canHaveDone ∈ tb := tb_mem 739 (by decide +kernel) (by decide +kernel)
theorem ml_LW_86 : Cond.methodLink "AccusedChooseLaw" 86 y_AC_rule ∈ tb := tb_mem 743 (by decide +kernel) (by decide +kernel)
theorem ml_AC_247 : Cond.methodLink "AccusedChoose" 247 y_AC_holdRule ∈ tb := tb_mem 747 (by decide +kernel) (by decide +kernel)
theorem ml_AC_340 : Cond.methodLink "AccusedChoose" 340 y_AC_lineUp ∈ tb := tb_mem 751 (by decide +kernel) (by decide +kernel)
theorem ml_AC_384 : Cond.methodLink "AccusedChoose" 384 y_AC_ruleKey ∈ tb := tb_mem 755 (by decide +kernel) (by decide +kernel)
theorem ml_AC_326 : Cond.methodLink "AccusedChoose" 326 y_AC_holdLine ∈ tb := tb_mem 759 (by decide +kernel) (by decide +kernel)
theorem ml_AC_251 : Cond.methodLink "AccusedChoose" 251 y_AC_unfairTwo ∈ tb := tb_mem 763 (by decide +kernel) (by decide +kernel)
theorem ml_LW_90 : Cond.methodLink "AccusedChooseLaw" 90 y_AC_bestRule ∈ tb := tb_mem 767 (by decide +kernel) (by decide +kernel)
theorem k_AC_255 : Cond.constant "AccusedChoose" 255 1000000 ∈ tb := tb_mem 771 (by decide +kernel) (by decide +kernel)
theorem ml_LW_94 : Cond.methodLink "AccusedChooseLaw" 94 y_AC_placeWorth ∈ tb := tb_mem 772 (by decide +kernel) (by decide +kernel)
theorem ml_AC_256 : Cond.methodLink "AccusedChoose" 256 y_AC_refuseBig ∈ tb := tb_mem 776 (by decide +kernel) (by decide +kernel)
theorem k_AC_377 : Cond.constant "AccusedChoose" 377 1000000000 ∈ tb := tb_mem 780 (by decide +kernel) (by decide +kernel)
theorem ml_AC_259 : Cond.methodLink "AccusedChoose" 259 y_AC_monthsAt ∈ tb := tb_mem 781 (by decide +kernel) (by decide +kernel)
theorem ml_AC_323 : Cond.methodLink "AccusedChoose" 323 y_AC_moveInLine ∈ tb := tb_mem 785 (by decide +kernel) (by decide +kernel)
theorem ml_LW_98 : Cond.methodLink "AccusedChooseLaw" 98 y_AC_changes ∈ tb := tb_mem 789 (by decide +kernel) (by decide +kernel)
theorem ml_AC_262 : Cond.methodLink "AccusedChoose" 262 y_AC_holdChanged ∈ tb := tb_mem 793 (by decide +kernel) (by decide +kernel)
theorem ml_LW_102 : Cond.methodLink "AccusedChooseLaw" 102 y_AC_bestOrder ∈ tb := tb_mem 797 (by decide +kernel) (by decide +kernel)
theorem ml_AC_265 : Cond.methodLink "AccusedChoose" 265 y_AC_soughtOrder ∈ tb := tb_mem 801 (by decide +kernel) (by decide +kernel)
theorem ml_AC_350 : Cond.methodLink "AccusedChoose" 350 y_OR_begin ∈ tb := tb_mem 805 (by decide +kernel) (by decide +kernel)
theorem ml_AC_387 : Cond.methodLink "AccusedChoose" 387 y_MO_most ∈ tb := tb_mem 809 (by decide +kernel) (by decide +kernel)
theorem ml_MO_80 : Cond.methodLink "AccusedChoose$Morning" 80 y_MA_max ∈ tb := tb_mem 813 (by decide +kernel) (by decide +kernel)
theorem ml_AC_354 : Cond.methodLink "AccusedChoose" 354 y_OR_keep ∈ tb := tb_mem 814 (by decide +kernel) (by decide +kernel)
theorem ml_AC_357 : Cond.methodLink "AccusedChoose" 357 y_OR_step ∈ tb := tb_mem 819 (by decide +kernel) (by decide +kernel)
theorem ml_OR_33 : Cond.methodLink "AccusedChoose$Orders" 33 y_OR_exchange ∈ tb := tb_mem 824 (by decide +kernel) (by decide +kernel)
theorem ml_AC_360 : Cond.methodLink "AccusedChoose" 360 y_OR_keptAt ∈ tb := tb_mem 829 (by decide +kernel) (by decide +kernel)
theorem ml_LW_106 : Cond.methodLink "AccusedChooseLaw" 106 y_AC_putIn ∈ tb := tb_mem 833 (by decide +kernel) (by decide +kernel)
theorem ml_AC_269 : Cond.methodLink "AccusedChoose" 269 y_NI_forgetLaterDids ∈ tb := tb_mem 837 (by decide +kernel) (by decide +kernel)
theorem ml_AC_272 : Cond.methodLink "AccusedChoose" 272 y_AC_tried ∈ tb := tb_mem 841 (by decide +kernel) (by decide +kernel)
theorem ml_LW_110 : Cond.methodLink "AccusedChooseLaw" 110 y_AC_together ∈ tb := tb_mem 845 (by decide +kernel) (by decide +kernel)
theorem ml_AC_279 : Cond.methodLink "AccusedChoose" 279 y_TA_fillTogether ∈ tb := tb_mem 849 (by decide +kernel) (by decide +kernel)
theorem ml_TA_74 : Cond.methodLink "AccusedChoose$Table" 74 y_TA_chosen ∈ tb := tb_mem 853 (by decide +kernel) (by decide +kernel)
theorem k_TA_81 : Cond.constant "AccusedChoose$Table" 81 1000000 ∈ tb := tb_mem 857 (by decide +kernel) (by decide +kernel)
theorem ml_TA_78 : Cond.methodLink "AccusedChoose$Table" 78 y_TA_passed ∈ tb := tb_mem 858 (by decide +kernel) (by decide +kernel)
theorem ml_TA_82 : Cond.methodLink "AccusedChoose$Table" 82 y_PR_lightest ∈ tb := tb_mem 862 (by decide +kernel) (by decide +kernel)
theorem ml_AC_283 : Cond.methodLink "AccusedChoose" 283 y_AC_todaysMonthsOf ∈ tb := tb_mem 863 (by decide +kernel) (by decide +kernel)
theorem ml_LW_114 : Cond.methodLink "AccusedChooseLaw" 114 y_AC_alibiWorth ∈ tb := tb_mem 867 (by decide +kernel) (by decide +kernel)
theorem ml_LW_118 : Cond.methodLink "AccusedChooseLaw" 118 y_AC_givenAway ∈ tb := tb_mem 871 (by decide +kernel) (by decide +kernel)
theorem ml_LW_122 : Cond.methodLink "AccusedChooseLaw" 122 y_AC_caught ∈ tb := tb_mem 875 (by decide +kernel) (by decide +kernel)
theorem ml_AC_286 : Cond.methodLink "AccusedChoose" 286 y_MO_owners ∈ tb := tb_mem 879 (by decide +kernel) (by decide +kernel)
theorem ml_AC_290 : Cond.methodLink "AccusedChoose" 290 y_AC_waysToBeCaught ∈ tb := tb_mem 883 (by decide +kernel) (by decide +kernel)
theorem ml_AC_294 : Cond.methodLink "AccusedChoose" 294 y_AC_power ∈ tb := tb_mem 886 (by decide +kernel) (by decide +kernel)
theorem ml_AC_298 : Cond.methodLink "AccusedChoose" 298 y_AC_commonDivisor ∈ tb := tb_mem 889 (by decide +kernel) (by decide +kernel)
theorem ml_LW_127 : Cond.methodLink "AccusedChooseLaw" 127 y_AC_spared ∈ tb := tb_mem 892 (by decide +kernel) (by decide +kernel)
theorem ml_LW_131 : Cond.methodLink "AccusedChooseLaw" 131 y_AC_keeper ∈ tb := tb_mem 896 (by decide +kernel) (by decide +kernel)
theorem ml_LW_135 : Cond.methodLink "AccusedChooseLaw" 135 y_AC_swaps ∈ tb := tb_mem 900 (by decide +kernel) (by decide +kernel)
theorem ml_AC_307 : Cond.methodLink "AccusedChoose" 307 y_AC_firstSwap ∈ tb := tb_mem 904 (by decide +kernel) (by decide +kernel)
theorem ml_AC_314 : Cond.methodLink "AccusedChoose" 314 y_NI_may ∈ tb := tb_mem 908 (by decide +kernel) (by decide +kernel)
theorem ml_LW_139 : Cond.methodLink "AccusedChooseLaw" 139 y_AC_heavier ∈ tb := tb_mem 909 (by decide +kernel) (by decide +kernel)
theorem ml_LW_143 : Cond.methodLink "AccusedChooseLaw" 143 y_AC_bestDid ∈ tb := tb_mem 913 (by decide +kernel) (by decide +kernel)
theorem ml_LW_147 : Cond.methodLink "AccusedChooseLaw" 147 y_AC_rest ∈ tb := tb_mem 917 (by decide +kernel) (by decide +kernel)
theorem ml_AC_317 : Cond.methodLink "AccusedChoose" 317 y_MO_monthsTaken ∈ tb := tb_mem 921 (by decide +kernel) (by decide +kernel)
theorem ml_LW_151 : Cond.methodLink "AccusedChooseLaw" 151 y_AC_even ∈ tb := tb_mem 925 (by decide +kernel) (by decide +kernel)
theorem ml_LW_155 : Cond.methodLink "AccusedChooseLaw" 155 y_AC_lastWord ∈ tb := tb_mem 929 (by decide +kernel) (by decide +kernel)
theorem ml_AC_320 : Cond.methodLink "AccusedChoose" 320 y_AC_turnRound ∈ tb := tb_mem 933 (by decide +kernel) (by decide +kernel)
theorem ml_AC_329 : Cond.methodLink "AccusedChoose" 329 y_MA_min ∈ tb := tb_mem 937 (by decide +kernel) (by decide +kernel)
theorem ml_LW_159 : Cond.methodLink "AccusedChooseLaw" 159 y_AC_bribe ∈ tb := tb_mem 938 (by decide +kernel) (by decide +kernel)
theorem ml_LW_163 : Cond.methodLink "AccusedChooseLaw" 163 y_AC_latest ∈ tb := tb_mem 942 (by decide +kernel) (by decide +kernel)
theorem ml_LW_167 : Cond.methodLink "AccusedChooseLaw" 167 y_AC_truth ∈ tb := tb_mem 946 (by decide +kernel) (by decide +kernel)
theorem ml_AC_337 : Cond.methodLink "AccusedChoose" 337 y_MO_holdTrue ∈ tb := tb_mem 950 (by decide +kernel) (by decide +kernel)
theorem ml_MO_44 : Cond.methodLink "AccusedChoose$Morning" 44 y_NI_allDeeds ∈ tb := tb_mem 954 (by decide +kernel) (by decide +kernel)
theorem ml_MO_60 : Cond.methodLink "AccusedChoose$Morning" 60 y_NI_may ∈ tb := tb_mem 956 (by decide +kernel) (by decide +kernel)
theorem ml_LW_171 : Cond.methodLink "AccusedChooseLaw" 171 y_AC_parole ∈ tb := tb_mem 957 (by decide +kernel) (by decide +kernel)
theorem ml_LW_175 : Cond.methodLink "AccusedChooseLaw" 175 y_AC_newBrothers ∈ tb := tb_mem 961 (by decide +kernel) (by decide +kernel)
theorem ml_LW_179 : Cond.methodLink "AccusedChooseLaw" 179 y_AC_madeLight ∈ tb := tb_mem 965 (by decide +kernel) (by decide +kernel)
theorem ml_LW_183 : Cond.methodLink "AccusedChooseLaw" 183 y_AC_always ∈ tb := tb_mem 969 (by decide +kernel) (by decide +kernel)
theorem ml_LW_187 : Cond.methodLink "AccusedChooseLaw" 187 y_AC_row ∈ tb := tb_mem 973 (by decide +kernel) (by decide +kernel)
theorem ml_LW_191 : Cond.methodLink "AccusedChooseLaw" 191 y_AC_judge ∈ tb := tb_mem 977 (by decide +kernel) (by decide +kernel)
theorem ml_AC_347 : Cond.methodLink "AccusedChoose" 347 y_AC_firstNotSo ∈ tb := tb_mem 981 (by decide +kernel) (by decide +kernel)
theorem ml_LW_195 : Cond.methodLink "AccusedChooseLaw" 195 y_AC_fits ∈ tb := tb_mem 985 (by decide +kernel) (by decide +kernel)
theorem ml_LW_199 : Cond.methodLink "AccusedChooseLaw" 199 y_AC_clear ∈ tb := tb_mem 989 (by decide +kernel) (by decide +kernel)
theorem ml_LW_203 : Cond.methodLink "AccusedChooseLaw" 203 y_AC_lots ∈ tb := tb_mem 993 (by decide +kernel) (by decide +kernel)
theorem k_AC_363 : Cond.constant "AccusedChoose" 363 1103515245 ∈ tb := tb_mem 997 (by decide +kernel) (by decide +kernel)
theorem k_AC_364 : Cond.constant "AccusedChoose" 364 2147483647 ∈ tb := tb_mem 998 (by decide +kernel) (by decide +kernel)
theorem k_AC_365 : Cond.constant "AccusedChoose" 365 65536 ∈ tb := tb_mem 999 (by decide +kernel) (by decide +kernel)
theorem ml_LW_207 : Cond.methodLink "AccusedChooseLaw" 207 y_AC_image ∈ tb := tb_mem 1000 (by decide +kernel) (by decide +kernel)
theorem ml_LW_211 : Cond.methodLink "AccusedChooseLaw" 211 y_AC_restore ∈ tb := tb_mem 1004 (by decide +kernel) (by decide +kernel)
theorem ml_LW_215 : Cond.methodLink "AccusedChooseLaw" 215 y_AC_count ∈ tb := tb_mem 1008 (by decide +kernel) (by decide +kernel)
theorem ml_AC_370 : Cond.methodLink "AccusedChoose" 370 y_NI_allRecords ∈ tb := tb_mem 1012 (by decide +kernel) (by decide +kernel)
theorem ml_AC_373 : Cond.methodLink "AccusedChoose" 373 y_NI_allAlibis ∈ tb := tb_mem 1016 (by decide +kernel) (by decide +kernel)
theorem ml_NI_87 : Cond.methodLink "AccusedChoose$Night" 87 y_IG_bitCount ∈ tb := tb_mem 1020 (by decide +kernel) (by decide +kernel)
theorem ml_LW_17 : Cond.methodLink "AccusedChooseLaw" 17 y_MD_feed ∈ tb := tb_mem 1137 (by decide +kernel) (by decide +kernel)
theorem ml_MD_97 : Cond.methodLink "AccusedChooseModel" 97 y_MD_bound ∈ tb := tb_mem 1141 (by decide +kernel) (by decide +kernel)
theorem ml_MD_104 : Cond.methodLink "AccusedChooseModel" 104 y_MD_no ∈ tb := tb_mem 1144 (by decide +kernel) (by decide +kernel)
theorem ml_LW_22 : Cond.methodLink "AccusedChooseLaw" 22 y_MD_night ∈ tb := tb_mem 1148 (by decide +kernel) (by decide +kernel)
theorem ml_MD_146 : Cond.methodLink "AccusedChooseModel" 146 y_MD_statement ∈ tb := tb_mem 1152 (by decide +kernel) (by decide +kernel)
theorem ml_MD_111 : Cond.methodLink "AccusedChooseModel" 111 y_MD_next ∈ tb := tb_mem 1156 (by decide +kernel) (by decide +kernel)
theorem ml_MD_122 : Cond.methodLink "AccusedChooseModel" 122 y_MD_readsDigits ∈ tb := tb_mem 1160 (by decide +kernel) (by decide +kernel)
theorem ml_MD_115 : Cond.methodLink "AccusedChooseModel" 115 y_MD_isIn ∈ tb := tb_mem 1164 (by decide +kernel) (by decide +kernel)
theorem ml_MD_150 : Cond.methodLink "AccusedChooseModel" 150 y_MD_passesAll ∈ tb := tb_mem 1167 (by decide +kernel) (by decide +kernel)
theorem ml_MD_167 : Cond.methodLink "AccusedChooseModel" 167 y_MD_passes ∈ tb := tb_mem 1171 (by decide +kernel) (by decide +kernel)
theorem ml_MD_171 : Cond.methodLink "AccusedChooseModel" 171 y_MD_passOne ∈ tb := tb_mem 1175 (by decide +kernel) (by decide +kernel)
theorem ml_MD_154 : Cond.methodLink "AccusedChooseModel" 154 y_MD_comes ∈ tb := tb_mem 1179 (by decide +kernel) (by decide +kernel)
theorem ml_MD_126 : Cond.methodLink "AccusedChooseModel" 126 y_MD_addsDeed ∈ tb := tb_mem 1183 (by decide +kernel) (by decide +kernel)
theorem ml_MD_130 : Cond.methodLink "AccusedChooseModel" 130 y_MD_addsPerson ∈ tb := tb_mem 1187 (by decide +kernel) (by decide +kernel)
theorem ml_MD_134 : Cond.methodLink "AccusedChooseModel" 134 y_MD_areTwo ∈ tb := tb_mem 1191 (by decide +kernel) (by decide +kernel)
theorem ml_MD_93 : Cond.methodLink "AccusedChooseModel" 93 y_MD_isPerson ∈ tb := tb_mem 1195 (by decide +kernel) (by decide +kernel)
theorem ml_MD_137 : Cond.methodLink "AccusedChooseModel" 137 y_MD_areBrothers ∈ tb := tb_mem 1199 (by decide +kernel) (by decide +kernel)
theorem ml_MD_180 : Cond.methodLink "AccusedChooseModel" 180 y_MD_parts ∈ tb := tb_mem 1203 (by decide +kernel) (by decide +kernel)
theorem ml_MD_140 : Cond.methodLink "AccusedChooseModel" 140 y_MD_isDeed ∈ tb := tb_mem 1207 (by decide +kernel) (by decide +kernel)
theorem ml_MD_143 : Cond.methodLink "AccusedChooseModel" 143 y_MD_exchanges ∈ tb := tb_mem 1211 (by decide +kernel) (by decide +kernel)
theorem ml_MD_177 : Cond.methodLink "AccusedChooseModel" 177 y_MD_placeOf ∈ tb := tb_mem 1215 (by decide +kernel) (by decide +kernel)
theorem ml_LW_60 : Cond.methodLink "AccusedChooseLaw" 60 y_MD_back ∈ tb := tb_mem 1219 (by decide +kernel) (by decide +kernel)
theorem ml_LW_210 : Cond.methodLink "AccusedChooseLaw" 210 y_MD_image ∈ tb := tb_mem 1223 (by decide +kernel) (by decide +kernel)
theorem ml_LW_214 : Cond.methodLink "AccusedChooseLaw" 214 y_MD_restore ∈ tb := tb_mem 1227 (by decide +kernel) (by decide +kernel)
theorem ml_LW_27 : Cond.methodLink "AccusedChooseLaw" 27 y_MD_deed ∈ tb := tb_mem 1231 (by decide +kernel) (by decide +kernel)
theorem ml_LW_31 : Cond.methodLink "AccusedChooseLaw" 31 y_MD_person ∈ tb := tb_mem 1235 (by decide +kernel) (by decide +kernel)
theorem ml_MD_191 : Cond.methodLink "AccusedChooseModel" 191 y_MD_may ∈ tb := tb_mem 1239 (by decide +kernel) (by decide +kernel)
theorem ml_MD_184 : Cond.methodLink "AccusedChooseModel" 184 y_MD_has ∈ tb := tb_mem 1243 (by decide +kernel) (by decide +kernel)
theorem ml_LW_35 : Cond.methodLink "AccusedChooseLaw" 35 y_MD_months ∈ tb := tb_mem 1246 (by decide +kernel) (by decide +kernel)
theorem ml_MD_194 : Cond.methodLink "AccusedChooseModel" 194 y_MD_monthsOf ∈ tb := tb_mem 1250 (by decide +kernel) (by decide +kernel)
theorem ml_MD_187 : Cond.methodLink "AccusedChooseModel" 187 y_MD_plainMonths ∈ tb := tb_mem 1254 (by decide +kernel) (by decide +kernel)
theorem ml_LW_39 : Cond.methodLink "AccusedChooseLaw" 39 y_MD_addDeed ∈ tb := tb_mem 1258 (by decide +kernel) (by decide +kernel)
theorem ml_LW_44 : Cond.methodLink "AccusedChooseLaw" 44 y_MD_addPerson ∈ tb := tb_mem 1262 (by decide +kernel) (by decide +kernel)
theorem ml_LW_48 : Cond.methodLink "AccusedChooseLaw" 48 y_MD_change ∈ tb := tb_mem 1266 (by decide +kernel) (by decide +kernel)
theorem ml_MD_197 : Cond.methodLink "AccusedChooseModel" 197 y_MD_keepsBack ∈ tb := tb_mem 1270 (by decide +kernel) (by decide +kernel)
theorem ml_LW_52 : Cond.methodLink "AccusedChooseLaw" 52 y_MD_alibi ∈ tb := tb_mem 1274 (by decide +kernel) (by decide +kernel)
theorem ml_LW_56 : Cond.methodLink "AccusedChooseLaw" 56 y_MD_brothers ∈ tb := tb_mem 1278 (by decide +kernel) (by decide +kernel)
theorem ml_LW_64 : Cond.methodLink "AccusedChooseLaw" 64 y_MD_takes ∈ tb := tb_mem 1282 (by decide +kernel) (by decide +kernel)
theorem ml_MD_215 : Cond.methodLink "AccusedChooseModel" 215 y_MD_goes ∈ tb := tb_mem 1286 (by decide +kernel) (by decide +kernel)
theorem ml_MD_206 : Cond.methodLink "AccusedChooseModel" 206 y_MD_asItIs ∈ tb := tb_mem 1290 (by decide +kernel) (by decide +kernel)
theorem ml_MD_209 : Cond.methodLink "AccusedChooseModel" 209 y_MD_goesBy ∈ tb := tb_mem 1294 (by decide +kernel) (by decide +kernel)
theorem ml_MD_203 : Cond.methodLink "AccusedChooseModel" 203 y_MD_best ∈ tb := tb_mem 1298 (by decide +kernel) (by decide +kernel)
theorem ml_MD_212 : Cond.methodLink "AccusedChooseModel" 212 y_MD_hasMonths ∈ tb := tb_mem 1302 (by decide +kernel) (by decide +kernel)
theorem ml_LW_68 : Cond.methodLink "AccusedChooseLaw" 68 y_MD_morning ∈ tb := tb_mem 1306 (by decide +kernel) (by decide +kernel)
theorem ml_MD_221 : Cond.methodLink "AccusedChooseModel" 221 y_MD_firstWithout ∈ tb := tb_mem 1310 (by decide +kernel) (by decide +kernel)
theorem ml_MD_218 : Cond.methodLink "AccusedChooseModel" 218 y_MD_allMonths ∈ tb := tb_mem 1314 (by decide +kernel) (by decide +kernel)
theorem ml_LW_72 : Cond.methodLink "AccusedChooseLaw" 72 y_MD_least ∈ tb := tb_mem 1318 (by decide +kernel) (by decide +kernel)
theorem ml_MD_227 : Cond.methodLink "AccusedChooseModel" 227 y_MD_findLeast ∈ tb := tb_mem 1322 (by decide +kernel) (by decide +kernel)
theorem ml_MD_224 : Cond.methodLink "AccusedChooseModel" 224 y_MD_leastWith ∈ tb := tb_mem 1326 (by decide +kernel) (by decide +kernel)
theorem ml_LW_76 : Cond.methodLink "AccusedChooseLaw" 76 y_MD_fromLast ∈ tb := tb_mem 1330 (by decide +kernel) (by decide +kernel)
theorem ml_MD_239 : Cond.methodLink "AccusedChooseModel" 239 y_MD_findFromLast ∈ tb := tb_mem 1334 (by decide +kernel) (by decide +kernel)
theorem ml_MD_236 : Cond.methodLink "AccusedChooseModel" 236 y_MD_chooses ∈ tb := tb_mem 1338 (by decide +kernel) (by decide +kernel)
theorem ml_MD_233 : Cond.methodLink "AccusedChooseModel" 233 y_MD_withBrother ∈ tb := tb_mem 1342 (by decide +kernel) (by decide +kernel)
theorem ml_MD_230 : Cond.methodLink "AccusedChooseModel" 230 y_MD_monthsIn ∈ tb := tb_mem 1346 (by decide +kernel) (by decide +kernel)
theorem ml_LW_80 : Cond.methodLink "AccusedChooseLaw" 80 y_MD_allFromLast ∈ tb := tb_mem 1350 (by decide +kernel) (by decide +kernel)
theorem ml_LW_85 : Cond.methodLink "AccusedChooseLaw" 85 y_MD_whose ∈ tb := tb_mem 1354 (by decide +kernel) (by decide +kernel)
theorem ml_MD_245 : Cond.methodLink "AccusedChooseModel" 245 y_MD_lowest ∈ tb := tb_mem 1358 (by decide +kernel) (by decide +kernel)
theorem k_MD_88 : Cond.constantLong "AccusedChooseModel" 88 4000000000000000000 ∈ tb := tb_mem 1362 (by decide +kernel) (by decide +kernel)
theorem ml_MD_249 : Cond.methodLink "AccusedChooseModel" 249 y_MD_waysWith ∈ tb := tb_mem 1363 (by decide +kernel) (by decide +kernel)
theorem ml_MD_242 : Cond.methodLink "AccusedChooseModel" 242 y_MD_canHaveDone ∈ tb := tb_mem 1367 (by decide +kernel) (by decide +kernel)
theorem ml_LW_89 : Cond.methodLink "AccusedChooseLaw" 89 y_MD_rule ∈ tb := tb_mem 1371 (by decide +kernel) (by decide +kernel)
theorem ml_MD_259 : Cond.methodLink "AccusedChooseModel" 259 y_MD_monthsBy ∈ tb := tb_mem 1375 (by decide +kernel) (by decide +kernel)
theorem ml_MD_256 : Cond.methodLink "AccusedChooseModel" 256 y_MD_sortsBy ∈ tb := tb_mem 1379 (by decide +kernel) (by decide +kernel)
theorem ml_MD_253 : Cond.methodLink "AccusedChooseModel" 253 y_MD_keyBy ∈ tb := tb_mem 1383 (by decide +kernel) (by decide +kernel)
theorem ml_MD_262 : Cond.methodLink "AccusedChooseModel" 262 y_MD_unfair ∈ tb := tb_mem 1387 (by decide +kernel) (by decide +kernel)
theorem ml_LW_93 : Cond.methodLink "AccusedChooseLaw" 93 y_MD_bestRule ∈ tb := tb_mem 1391 (by decide +kernel) (by decide +kernel)
theorem ml_LW_97 : Cond.methodLink "AccusedChooseLaw" 97 y_MD_placeWorth ∈ tb := tb_mem 1395 (by decide +kernel) (by decide +kernel)
theorem ml_MD_265 : Cond.methodLink "AccusedChooseModel" 265 y_MD_lower ∈ tb := tb_mem 1399 (by decide +kernel) (by decide +kernel)
theorem k_MD_87 : Cond.constant "AccusedChooseModel" 87 1000000000 ∈ tb := tb_mem 1403 (by decide +kernel) (by decide +kernel)
theorem ml_MD_268 : Cond.methodLink "AccusedChooseModel" 268 y_MD_monthsAt ∈ tb := tb_mem 1404 (by decide +kernel) (by decide +kernel)
theorem ml_LW_101 : Cond.methodLink "AccusedChooseLaw" 101 y_MD_changes ∈ tb := tb_mem 1408 (by decide +kernel) (by decide +kernel)
theorem ml_MD_271 : Cond.methodLink "AccusedChooseModel" 271 y_MD_areBetter ∈ tb := tb_mem 1412 (by decide +kernel) (by decide +kernel)
theorem ml_LW_105 : Cond.methodLink "AccusedChooseLaw" 105 y_MD_bestOrder ∈ tb := tb_mem 1416 (by decide +kernel) (by decide +kernel)
theorem ml_MD_289 : Cond.methodLink "AccusedChooseModel" 289 y_MD_notFew ∈ tb := tb_mem 1420 (by decide +kernel) (by decide +kernel)
theorem ml_MD_292 : Cond.methodLink "AccusedChooseModel" 292 y_MD_findOrder ∈ tb := tb_mem 1424 (by decide +kernel) (by decide +kernel)
theorem ml_MD_277 : Cond.methodLink "AccusedChooseModel" 277 y_MD_numbers ∈ tb := tb_mem 1428 (by decide +kernel) (by decide +kernel)
theorem ml_MD_280 : Cond.methodLink "AccusedChooseModel" 280 y_MD_laysOrder ∈ tb := tb_mem 1432 (by decide +kernel) (by decide +kernel)
theorem ml_MD_283 : Cond.methodLink "AccusedChooseModel" 283 y_MD_greatest ∈ tb := tb_mem 1436 (by decide +kernel) (by decide +kernel)
theorem ml_MD_286 : Cond.methodLink "AccusedChooseModel" 286 y_MD_keepsFound ∈ tb := tb_mem 1440 (by decide +kernel) (by decide +kernel)
theorem ml_MD_296 : Cond.methodLink "AccusedChooseModel" 296 y_MD_foundOr ∈ tb := tb_mem 1444 (by decide +kernel) (by decide +kernel)
theorem ml_LW_154 : Cond.methodLink "AccusedChooseLaw" 154 y_MD_even ∈ tb := tb_mem 1448 (by decide +kernel) (by decide +kernel)
theorem ml_LW_109 : Cond.methodLink "AccusedChooseLaw" 109 y_MD_putIn ∈ tb := tb_mem 1452 (by decide +kernel) (by decide +kernel)
theorem ml_MD_299 : Cond.methodLink "AccusedChooseModel" 299 y_MD_monthsNow ∈ tb := tb_mem 1456 (by decide +kernel) (by decide +kernel)
theorem ml_LW_113 : Cond.methodLink "AccusedChooseLaw" 113 y_MD_together ∈ tb := tb_mem 1460 (by decide +kernel) (by decide +kernel)
theorem ml_MD_302 : Cond.methodLink "AccusedChooseModel" 302 y_MD_fewestOf ∈ tb := tb_mem 1464 (by decide +kernel) (by decide +kernel)
theorem ml_MD_305 : Cond.methodLink "AccusedChooseModel" 305 y_MD_setMonths ∈ tb := tb_mem 1468 (by decide +kernel) (by decide +kernel)
theorem ml_LW_117 : Cond.methodLink "AccusedChooseLaw" 117 y_MD_alibiWorth ∈ tb := tb_mem 1472 (by decide +kernel) (by decide +kernel)
theorem ml_MD_308 : Cond.methodLink "AccusedChooseModel" 308 y_MD_monthsTurned ∈ tb := tb_mem 1476 (by decide +kernel) (by decide +kernel)
theorem ml_LW_121 : Cond.methodLink "AccusedChooseLaw" 121 y_MD_givenAway ∈ tb := tb_mem 1480 (by decide +kernel) (by decide +kernel)
theorem ml_LW_126 : Cond.methodLink "AccusedChooseLaw" 126 y_MD_caught ∈ tb := tb_mem 1484 (by decide +kernel) (by decide +kernel)
theorem ml_MD_311 : Cond.methodLink "AccusedChooseModel" 311 y_MD_divisor ∈ tb := tb_mem 1488 (by decide +kernel) (by decide +kernel)
theorem ml_LW_130 : Cond.methodLink "AccusedChooseLaw" 130 y_MD_spared ∈ tb := tb_mem 1491 (by decide +kernel) (by decide +kernel)
theorem ml_LW_134 : Cond.methodLink "AccusedChooseLaw" 134 y_MD_keeper ∈ tb := tb_mem 1495 (by decide +kernel) (by decide +kernel)
theorem ml_LW_138 : Cond.methodLink "AccusedChooseLaw" 138 y_MD_swaps ∈ tb := tb_mem 1499 (by decide +kernel) (by decide +kernel)
theorem ml_MD_315 : Cond.methodLink "AccusedChooseModel" 315 y_MD_mayHave ∈ tb := tb_mem 1503 (by decide +kernel) (by decide +kernel)
theorem ml_LW_142 : Cond.methodLink "AccusedChooseLaw" 142 y_MD_heavier ∈ tb := tb_mem 1507 (by decide +kernel) (by decide +kernel)
theorem ml_LW_146 : Cond.methodLink "AccusedChooseLaw" 146 y_MD_bestDid ∈ tb := tb_mem 1511 (by decide +kernel) (by decide +kernel)
theorem ml_MD_318 : Cond.methodLink "AccusedChooseModel" 318 y_MD_monthsHaving ∈ tb := tb_mem 1515 (by decide +kernel) (by decide +kernel)
theorem ml_LW_150 : Cond.methodLink "AccusedChooseLaw" 150 y_MD_rest ∈ tb := tb_mem 1519 (by decide +kernel) (by decide +kernel)
theorem ml_MD_321 : Cond.methodLink "AccusedChooseModel" 321 y_MD_takenBits ∈ tb := tb_mem 1523 (by decide +kernel) (by decide +kernel)
theorem ml_MD_324 : Cond.methodLink "AccusedChooseModel" 324 y_MD_takenMonths ∈ tb := tb_mem 1527 (by decide +kernel) (by decide +kernel)
theorem ml_LW_158 : Cond.methodLink "AccusedChooseLaw" 158 y_MD_lastWord ∈ tb := tb_mem 1531 (by decide +kernel) (by decide +kernel)
theorem ml_LW_162 : Cond.methodLink "AccusedChooseLaw" 162 y_MD_bribe ∈ tb := tb_mem 1535 (by decide +kernel) (by decide +kernel)
theorem ml_MD_327 : Cond.methodLink "AccusedChooseModel" 327 y_MD_sumChanged ∈ tb := tb_mem 1539 (by decide +kernel) (by decide +kernel)
theorem ml_LW_166 : Cond.methodLink "AccusedChooseLaw" 166 y_MD_latest ∈ tb := tb_mem 1543 (by decide +kernel) (by decide +kernel)
theorem ml_LW_170 : Cond.methodLink "AccusedChooseLaw" 170 y_MD_truth ∈ tb := tb_mem 1547 (by decide +kernel) (by decide +kernel)
theorem ml_LW_174 : Cond.methodLink "AccusedChooseLaw" 174 y_MD_parole ∈ tb := tb_mem 1551 (by decide +kernel) (by decide +kernel)
theorem ml_LW_178 : Cond.methodLink "AccusedChooseLaw" 178 y_MD_newBrothers ∈ tb := tb_mem 1555 (by decide +kernel) (by decide +kernel)
theorem ml_LW_182 : Cond.methodLink "AccusedChooseLaw" 182 y_MD_madeLight ∈ tb := tb_mem 1559 (by decide +kernel) (by decide +kernel)
theorem ml_LW_186 : Cond.methodLink "AccusedChooseLaw" 186 y_MD_always ∈ tb := tb_mem 1563 (by decide +kernel) (by decide +kernel)
theorem ml_LW_190 : Cond.methodLink "AccusedChooseLaw" 190 y_MD_row ∈ tb := tb_mem 1567 (by decide +kernel) (by decide +kernel)
theorem ml_LW_194 : Cond.methodLink "AccusedChooseLaw" 194 y_MD_judge ∈ tb := tb_mem 1571 (by decide +kernel) (by decide +kernel)
theorem ml_MD_333 : Cond.methodLink "AccusedChooseModel" 333 y_MD_firstOther ∈ tb := tb_mem 1575 (by decide +kernel) (by decide +kernel)
theorem ml_LW_198 : Cond.methodLink "AccusedChooseLaw" 198 y_MD_fits ∈ tb := tb_mem 1579 (by decide +kernel) (by decide +kernel)
theorem ml_LW_202 : Cond.methodLink "AccusedChooseLaw" 202 y_MD_clear ∈ tb := tb_mem 1583 (by decide +kernel) (by decide +kernel)
theorem ml_LW_206 : Cond.methodLink "AccusedChooseLaw" 206 y_MD_lots ∈ tb := tb_mem 1587 (by decide +kernel) (by decide +kernel)
theorem k_MD_336 : Cond.constant "AccusedChooseModel" 336 1103515245 ∈ tb := tb_mem 1591 (by decide +kernel) (by decide +kernel)
theorem k_MD_337 : Cond.constant "AccusedChooseModel" 337 2147483647 ∈ tb := tb_mem 1592 (by decide +kernel) (by decide +kernel)
theorem k_MD_338 : Cond.constant "AccusedChooseModel" 338 65536 ∈ tb := tb_mem 1593 (by decide +kernel) (by decide +kernel)
theorem ml_LW_218 : Cond.methodLink "AccusedChooseLaw" 218 y_MD_count ∈ tb := tb_mem 1594 (by decide +kernel) (by decide +kernel)
theorem ml_MD_339 : Cond.methodLink "AccusedChooseModel" 339 y_MD_alibisOf ∈ tb := tb_mem 1598 (by decide +kernel) (by decide +kernel)
def nestQ : List (String × Nat × MethodName × String) := [("AccusedChoose$Letters", 19, y_AC_put, "AccusedChoose"), ("AccusedChoose$Night", 43, y_AC_copyRow, "AccusedChoose"), ("AccusedChoose$Letters", 37, y_AC_at, "AccusedChoose"), ("AccusedChoose$Night", 51, y_AC_put, "AccusedChoose"), ("AccusedChoose$Night", 65, y_AC_at, "AccusedChoose"), ("AccusedChoose$Night", 69, y_AC_bit, "AccusedChoose"), ("AccusedChoose$Letters", 81, y_AC_swapPlaces, "AccusedChoose"), ("AccusedChoose$Night", 61, y_AC_placeIn, "AccusedChoose"), ("AccusedChoose$Night", 76, y_AC_has, "AccusedChoose"), ("AccusedChoose$Night", 83, y_AC_monthsOfKind, "AccusedChoose"), ("AccusedChoose$Past", 32, y_AC_put, "AccusedChoose"), ("AccusedChoose$Past", 38, y_AC_at, "AccusedChoose"), ("AccusedChoose$Past", 50, y_AC_swapPlaces, "AccusedChoose"), ("AccusedChoose$Prices", 35, y_AC_put, "AccusedChoose"), ("AccusedChoose$Morning", 29, y_AC_at, "AccusedChoose"), ("AccusedChoose$Prices", 49, y_AC_bit, "AccusedChoose"), ("AccusedChoose$Prices", 45, y_AC_at, "AccusedChoose"), ("AccusedChoose$Morning", 72, y_AC_put, "AccusedChoose"), ("AccusedChoose$Morning", 76, y_AC_bit, "AccusedChoose"), ("AccusedChoose$Table", 19, y_AC_put, "AccusedChoose"), ("AccusedChoose$Table", 36, y_AC_bit, "AccusedChoose"), ("AccusedChoose$Table", 15, y_AC_at, "AccusedChoose"), ("AccusedChoose$Table", 56, y_AC_has, "AccusedChoose"), ("AccusedChoose$LastBack", 34, y_AC_at, "AccusedChoose"), ("AccusedChoose$LastBack", 69, y_AC_has, "AccusedChoose"), ("AccusedChoose$LastBack", 52, y_AC_bit, "AccusedChoose"), ("AccusedChoose$LastBack", 48, y_AC_put, "AccusedChoose"), ("AccusedChoose$Orders", 25, y_AC_copyRow, "AccusedChoose"), ("AccusedChoose$Orders", 29, y_AC_at, "AccusedChoose"), ("AccusedChoose$Orders", 37, y_AC_put, "AccusedChoose"), ("AccusedChoose$Morning", 56, y_AC_has, "AccusedChoose")]
theorem nl_LT_19 : ("AccusedChoose$Letters", 19, y_AC_put, "AccusedChoose") ∈ nestQ := List.mem_of_getElem? (i := 0) rfl
theorem nl_NI_43 : ("AccusedChoose$Night", 43, y_AC_copyRow, "AccusedChoose") ∈ nestQ := List.mem_of_getElem? (i := 1) rfl
theorem nl_LT_37 : ("AccusedChoose$Letters", 37, y_AC_at, "AccusedChoose") ∈ nestQ := List.mem_of_getElem? (i := 2) rfl
theorem nl_NI_51 : ("AccusedChoose$Night", 51, y_AC_put, "AccusedChoose") ∈ nestQ := List.mem_of_getElem? (i := 3) rfl
theorem nl_NI_65 : ("AccusedChoose$Night", 65, y_AC_at, "AccusedChoose") ∈ nestQ := List.mem_of_getElem? (i := 4) rfl
theorem nl_NI_69 : ("AccusedChoose$Night", 69, y_AC_bit, "AccusedChoose") ∈ nestQ := List.mem_of_getElem? (i := 5) rfl
theorem nl_LT_81 : ("AccusedChoose$Letters", 81, y_AC_swapPlaces, "AccusedChoose") ∈ nestQ := List.mem_of_getElem? (i := 6) rfl
theorem nl_NI_61 : ("AccusedChoose$Night", 61, y_AC_placeIn, "AccusedChoose") ∈ nestQ := List.mem_of_getElem? (i := 7) rfl
theorem nl_NI_76 : ("AccusedChoose$Night", 76, y_AC_has, "AccusedChoose") ∈ nestQ := List.mem_of_getElem? (i := 8) rfl
theorem nl_NI_83 : ("AccusedChoose$Night", 83, y_AC_monthsOfKind, "AccusedChoose") ∈ nestQ := List.mem_of_getElem? (i := 9) rfl
theorem nl_PA_32 : ("AccusedChoose$Past", 32, y_AC_put, "AccusedChoose") ∈ nestQ := List.mem_of_getElem? (i := 10) rfl
theorem nl_PA_38 : ("AccusedChoose$Past", 38, y_AC_at, "AccusedChoose") ∈ nestQ := List.mem_of_getElem? (i := 11) rfl
theorem nl_PA_50 : ("AccusedChoose$Past", 50, y_AC_swapPlaces, "AccusedChoose") ∈ nestQ := List.mem_of_getElem? (i := 12) rfl
theorem nl_PR_35 : ("AccusedChoose$Prices", 35, y_AC_put, "AccusedChoose") ∈ nestQ := List.mem_of_getElem? (i := 13) rfl
theorem nl_MO_29 : ("AccusedChoose$Morning", 29, y_AC_at, "AccusedChoose") ∈ nestQ := List.mem_of_getElem? (i := 14) rfl
theorem nl_PR_49 : ("AccusedChoose$Prices", 49, y_AC_bit, "AccusedChoose") ∈ nestQ := List.mem_of_getElem? (i := 15) rfl
theorem nl_PR_45 : ("AccusedChoose$Prices", 45, y_AC_at, "AccusedChoose") ∈ nestQ := List.mem_of_getElem? (i := 16) rfl
theorem nl_MO_72 : ("AccusedChoose$Morning", 72, y_AC_put, "AccusedChoose") ∈ nestQ := List.mem_of_getElem? (i := 17) rfl
theorem nl_MO_76 : ("AccusedChoose$Morning", 76, y_AC_bit, "AccusedChoose") ∈ nestQ := List.mem_of_getElem? (i := 18) rfl
theorem nl_TA_19 : ("AccusedChoose$Table", 19, y_AC_put, "AccusedChoose") ∈ nestQ := List.mem_of_getElem? (i := 19) rfl
theorem nl_TA_36 : ("AccusedChoose$Table", 36, y_AC_bit, "AccusedChoose") ∈ nestQ := List.mem_of_getElem? (i := 20) rfl
theorem nl_TA_15 : ("AccusedChoose$Table", 15, y_AC_at, "AccusedChoose") ∈ nestQ := List.mem_of_getElem? (i := 21) rfl
theorem nl_TA_56 : ("AccusedChoose$Table", 56, y_AC_has, "AccusedChoose") ∈ nestQ := List.mem_of_getElem? (i := 22) rfl
theorem nl_LB_34 : ("AccusedChoose$LastBack", 34, y_AC_at, "AccusedChoose") ∈ nestQ := List.mem_of_getElem? (i := 23) rfl
theorem nl_LB_69 : ("AccusedChoose$LastBack", 69, y_AC_has, "AccusedChoose") ∈ nestQ := List.mem_of_getElem? (i := 24) rfl
theorem nl_LB_52 : ("AccusedChoose$LastBack", 52, y_AC_bit, "AccusedChoose") ∈ nestQ := List.mem_of_getElem? (i := 25) rfl
theorem nl_LB_48 : ("AccusedChoose$LastBack", 48, y_AC_put, "AccusedChoose") ∈ nestQ := List.mem_of_getElem? (i := 26) rfl
theorem nl_OR_25 : ("AccusedChoose$Orders", 25, y_AC_copyRow, "AccusedChoose") ∈ nestQ := List.mem_of_getElem? (i := 27) rfl
theorem nl_OR_29 : ("AccusedChoose$Orders", 29, y_AC_at, "AccusedChoose") ∈ nestQ := List.mem_of_getElem? (i := 28) rfl
theorem nl_OR_37 : ("AccusedChoose$Orders", 37, y_AC_put, "AccusedChoose") ∈ nestQ := List.mem_of_getElem? (i := 29) rfl
theorem nl_MO_56 : ("AccusedChoose$Morning", 56, y_AC_has, "AccusedChoose") ∈ nestQ := List.mem_of_getElem? (i := 30) rfl
theorem nestQ_in : ∀ q ∈ nestQ, Cond.methodLinkNest q.1 q.2.1 q.2.2.1 q.2.2.2 ∈ lw_tbl := by
  have h : (nestQ.map fun q => Cond.methodLinkNest q.1 q.2.1 q.2.2.1 q.2.2.2).map some = [395, 407, 418, 438, 460, 470, 473, 501, 511, 523, 555, 576, 577, 598, 611, 616, 625, 631, 632, 653, 654, 672, 673, 702, 709, 711, 716, 818, 823, 828, 955].map (fun i => lw_tbl[i]?) := by decide +kernel
  intro q hq
  have h1 : some (Cond.methodLinkNest q.1 q.2.1 q.2.2.1 q.2.2.2) ∈ (nestQ.map fun q => Cond.methodLinkNest q.1 q.2.1 q.2.2.1 q.2.2.2).map some := List.mem_map_of_mem (List.mem_map_of_mem hq)
  rw [h] at h1
  obtain ⟨i, -, hi⟩ := List.mem_map.mp h1
  exact List.mem_of_getElem? hi
