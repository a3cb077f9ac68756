/-! ===== my layer: one word list for all methods, contracts over worlds, calls ===== -/
def TB : List Cond := lw_tbl.filter goodWord
theorem tb_in {w : Cond} (h : w ∈ lw_tbl) (g : goodWord w = true) : w ∈ TB := List.mem_filter.mpr ⟨h, g⟩
theorem tb_at (i : Nat) {w : Cond} (h : lw_tbl[i]? = some w) (g : goodWord w = true) : w ∈ TB := tb_in (List.mem_of_getElem? h) g
theorem tb_good {Ts : List Cond} (hT : ∀ w ∈ TB, w ∈ Ts) {y : MethodName} {bc : ByteArray} {mL : Nat} {rt : Option FieldType} (h : Cond.code y bc mL rt ∈ TB) : GoodIn Ts (.code y bc mL rt :: TB) := by
  intro w hw
  have h1 : w ∈ TB := by
    rcases List.mem_cons.mp hw with e | e
    · rw [e]; exact h
    · exact e
  exact ⟨hT w h1, good_of_word (List.mem_filter.mp h1).2⟩
/-! ===== names of the classes whose objects the worlds hold (out of the printed names) ===== -/
def RX0 : String := "FrequencyShelf$Entries"
def TX0 : u_T := fun k => match k with
  | 0 => ("FrequencyShelf$Entries", "rules", "LFrequencyShelf$Rules;", true)
  | _ => ("FrequencyShelf$Entries", "rows", "LFrequencyShelf$Table;", true)
def tyX0 : Nat → FieldType := fun k => match k with
  | 0 => .object "FrequencyShelf$Rules"
  | _ => .object "FrequencyShelf$Table"
theorem nmX0 : ∀ a, a < 2 → ∀ b, b < 2 → a ≠ b → (TX0 a).2.1 ≠ (TX0 b).2.1 := by decide +kernel
theorem tyX0_ok : ∀ k, k < 2 → parseFieldDescriptor (TX0 k).2.2.1 = some (tyX0 k) := by decide +kernel
def RX2 : String := "FrequencyShelf$Ledge\x72"
def TX2 : u_T := fun k => match k with
  | 0 => ("FrequencyShelf$Ledge\x72", "rules", "LFrequencyShelf$Rules;", true)
  | 1 => ("FrequencyShelf$Ledge\x72", "book", "LFrequencyShelf$Table;", true)
  | 2 => ("FrequencyShelf$Ledge\x72", "told", "LFrequencyShelf$Table;", true)
  | 3 => ("FrequencyShelf$Ledge\x72", "written", "LFrequencyShelf$Table;", true)
  | 4 => ("FrequencyShelf$Ledge\x72", "late", "LFrequencyShelf$Table;", true)
  | 5 => ("FrequencyShelf$Ledge\x72", "sums", "[I", true)
  | _ => ("FrequencyShelf$Ledge\x72", "askerSums", "[I", true)
def tyX2 : Nat → FieldType := fun k => match k with
  | 0 => .object "FrequencyShelf$Rules"
  | 1 => .object "FrequencyShelf$Table"
  | 2 => .object "FrequencyShelf$Table"
  | 3 => .object "FrequencyShelf$Table"
  | 4 => .object "FrequencyShelf$Table"
  | 5 => .array .int
  | _ => .array .int
theorem nmX2 : ∀ a, a < 7 → ∀ b, b < 7 → a ≠ b → (TX2 a).2.1 ≠ (TX2 b).2.1 := by decide +kernel
theorem tyX2_ok : ∀ k, k < 7 → parseFieldDescriptor (TX2 k).2.2.1 = some (tyX2 k) := by decide +kernel
def RX3 : String := "FrequencyShelf$Loads"
def TX3 : u_T := fun k => match k with
  | 0 => ("FrequencyShelf$Loads", "rules", "LFrequencyShelf$Rules;", true)
  | 1 => ("FrequencyShelf$Loads", "ledge\x72", "LFrequencyShelf$Ledger;", true)
  | 2 => ("FrequencyShelf$Loads", "line", "LFrequencyShelf$Table;", true)
  | 3 => ("FrequencyShelf$Loads", "waits", "LFrequencyShelf$Table;", true)
  | _ => ("FrequencyShelf$Loads", "boxes", "LFrequencyShelf$Table;", true)
def tyX3 : Nat → FieldType := fun k => match k with
  | 0 => .object "FrequencyShelf$Rules"
  | 1 => .object "FrequencyShelf$Ledge\x72"
  | 2 => .object "FrequencyShelf$Table"
  | 3 => .object "FrequencyShelf$Table"
  | _ => .object "FrequencyShelf$Table"
theorem nmX3 : ∀ a, a < 5 → ∀ b, b < 5 → a ≠ b → (TX3 a).2.1 ≠ (TX3 b).2.1 := by decide +kernel
theorem tyX3_ok : ∀ k, k < 5 → parseFieldDescriptor (TX3 k).2.2.1 = some (tyX3 k) := by decide +kernel
def RX4 : String := "FrequencyShelf$Replays"
def TX4 : u_T := fun k => match k with
  | _ => ("FrequencyShelf$Replays", "places", "LFrequencyShelf$Table;", true)
def tyX4 : Nat → FieldType := fun k => match k with
  | _ => .object "FrequencyShelf$Table"
theorem nmX4 : ∀ a, a < 1 → ∀ b, b < 1 → a ≠ b → (TX4 a).2.1 ≠ (TX4 b).2.1 := by decide +kernel
theorem tyX4_ok : ∀ k, k < 1 → parseFieldDescriptor (TX4 k).2.2.1 = some (tyX4 k) := by decide +kernel
def RX5 : String := "FrequencyShelf$Rules"
def TX5 : u_T := fun k => match k with
  | 0 => ("FrequencyShelf$Rules", "values", "[I", true)
  | _ => ("FrequencyShelf$Rules", "now", "I", false)
def tyX5 : Nat → FieldType := fun k => match k with
  | 0 => .array .int
  | _ => .int
theorem nmX5 : ∀ a, a < 2 → ∀ b, b < 2 → a ≠ b → (TX5 a).2.1 ≠ (TX5 b).2.1 := by decide +kernel
theorem tyX5_ok : ∀ k, k < 2 → parseFieldDescriptor (TX5 k).2.2.1 = some (tyX5 k) := by decide +kernel
def RX6 : String := "FrequencyShelf$Shelf"
def TX6 : u_T := fun k => match k with
  | 0 => ("FrequencyShelf$Shelf", "rules", "LFrequencyShelf$Rules;", true)
  | 1 => ("FrequencyShelf$Shelf", "ledge\x72", "LFrequencyShelf$Ledger;", true)
  | 2 => ("FrequencyShelf$Shelf", "entries", "LFrequencyShelf$Entries;", true)
  | 3 => ("FrequencyShelf$Shelf", "cold", "LFrequencyShelf$Entries;", true)
  | 4 => ("FrequencyShelf$Shelf", "sketch", "LFrequencyShelf$Sketch;", true)
  | 5 => ("FrequencyShelf$Shelf", "uses", "I", false)
  | 6 => ("FrequencyShelf$Shelf", "usesInWindow", "I", false)
  | 7 => ("FrequencyShelf$Shelf", "entriesSoFa\x72", "I", false)
  | _ => ("FrequencyShelf$Shelf", "dirtySoFa\x72", "I", false)
def tyX6 : Nat → FieldType := fun k => match k with
  | 0 => .object "FrequencyShelf$Rules"
  | 1 => .object "FrequencyShelf$Ledge\x72"
  | 2 => .object "FrequencyShelf$Entries"
  | 3 => .object "FrequencyShelf$Entries"
  | 4 => .object "FrequencyShelf$Sketch"
  | 5 => .int
  | 6 => .int
  | 7 => .int
  | _ => .int
theorem nmX6 : ∀ a, a < 9 → ∀ b, b < 9 → a ≠ b → (TX6 a).2.1 ≠ (TX6 b).2.1 := by decide +kernel
theorem tyX6_ok : ∀ k, k < 9 → parseFieldDescriptor (TX6 k).2.2.1 = some (tyX6 k) := by decide +kernel
def RX7 : String := "FrequencyShelf$Sketch"
def TX7 : u_T := fun k => match k with
  | _ => ("FrequencyShelf$Sketch", "counts", "[I", true)
def tyX7 : Nat → FieldType := fun k => match k with
  | _ => .array .int
theorem nmX7 : ∀ a, a < 1 → ∀ b, b < 1 → a ≠ b → (TX7 a).2.1 ≠ (TX7 b).2.1 := by decide +kernel
theorem tyX7_ok : ∀ k, k < 1 → parseFieldDescriptor (TX7 k).2.2.1 = some (tyX7 k) := by decide +kernel
def RX8 : String := "FrequencyShelf$State"
def TX8 : u_T := fun k => match k with
  | 0 => ("FrequencyShelf$State", "rules", "LFrequencyShelf$Rules;", true)
  | 1 => ("FrequencyShelf$State", "ledge\x72", "LFrequencyShelf$Ledger;", true)
  | 2 => ("FrequencyShelf$State", "shelf", "LFrequencyShelf$Shelf;", true)
  | _ => ("FrequencyShelf$State", "loads", "LFrequencyShelf$Loads;", true)
def tyX8 : Nat → FieldType := fun k => match k with
  | 0 => .object "FrequencyShelf$Rules"
  | 1 => .object "FrequencyShelf$Ledge\x72"
  | 2 => .object "FrequencyShelf$Shelf"
  | _ => .object "FrequencyShelf$Loads"
theorem nmX8 : ∀ a, a < 4 → ∀ b, b < 4 → a ≠ b → (TX8 a).2.1 ≠ (TX8 b).2.1 := by decide +kernel
theorem tyX8_ok : ∀ k, k < 4 → parseFieldDescriptor (TX8 k).2.2.1 = some (tyX8 k) := by decide +kernel
def RX9 : String := "FrequencyShelf$Table"
def TX9 : u_T := fun k => match k with
  | 0 => ("FrequencyShelf$Table", "most", "I", true)
  | 1 => ("FrequencyShelf$Table", "width", "I", true)
  | 2 => ("FrequencyShelf$Table", "cells", "[I", true)
  | _ => ("FrequencyShelf$Table", "size", "I", false)
def tyX9 : Nat → FieldType := fun k => match k with
  | 0 => .int
  | 1 => .int
  | 2 => .array .int
  | _ => .int
theorem nmX9 : ∀ a, a < 4 → ∀ b, b < 4 → a ≠ b → (TX9 a).2.1 ≠ (TX9 b).2.1 := by decide +kernel
theorem tyX9_ok : ∀ k, k < 4 → parseFieldDescriptor (TX9 k).2.2.1 = some (tyX9 k) := by decide +kernel
def RX10 : String := "FrequencyShelf$Tape"
def TX10 : u_T := fun k => match k with
  | 0 => ("FrequencyShelf$Tape", "bytes", "[I", true)
  | _ => ("FrequencyShelf$Tape", "size", "I", false)
def tyX10 : Nat → FieldType := fun k => match k with
  | 0 => .array .int
  | _ => .int
theorem nmX10 : ∀ a, a < 2 → ∀ b, b < 2 → a ≠ b → (TX10 a).2.1 ≠ (TX10 b).2.1 := by decide +kernel
theorem tyX10_ok : ∀ k, k < 2 → parseFieldDescriptor (TX10 k).2.2.1 = some (tyX10 k) := by decide +kernel
def RX11 : String := "FrequencyShelf"
def TX11 : u_T := fun k => match k with
  | 0 => ("FrequencyShelf", "tape", "LFrequencyShelf$Tape;", true)
  | 1 => ("FrequencyShelf", "rowOfKeys", "LFrequencyShelf$Table;", true)
  | 2 => ("FrequencyShelf", "replays", "LFrequencyShelf$Replays;", true)
  | 3 => ("FrequencyShelf", "at", "LFrequencyShelf$State;", true)
  | 4 => ("FrequencyShelf", "rules", "LFrequencyShelf$Rules;", true)
  | 5 => ("FrequencyShelf", "ledge\x72", "LFrequencyShelf$Ledger;", true)
  | 6 => ("FrequencyShelf", "shelf", "LFrequencyShelf$Shelf;", true)
  | 7 => ("FrequencyShelf", "loads", "LFrequencyShelf$Loads;", true)
  | _ => ("FrequencyShelf", "kept", "LFrequencyShelf$State;", false)
def tyX11 : Nat → FieldType := fun k => match k with
  | 0 => .object "FrequencyShelf$Tape"
  | 1 => .object "FrequencyShelf$Table"
  | 2 => .object "FrequencyShelf$Replays"
  | 3 => .object "FrequencyShelf$State"
  | 4 => .object "FrequencyShelf$Rules"
  | 5 => .object "FrequencyShelf$Ledge\x72"
  | 6 => .object "FrequencyShelf$Shelf"
  | 7 => .object "FrequencyShelf$Loads"
  | _ => .object "FrequencyShelf$State"
theorem nmX11 : ∀ a, a < 9 → ∀ b, b < 9 → a ≠ b → (TX11 a).2.1 ≠ (TX11 b).2.1 := by decide +kernel
theorem tyX11_ok : ∀ k, k < 9 → parseFieldDescriptor (TX11 k).2.2.1 = some (tyX11 k) := by decide +kernel
def RX12 : String := "FrequencyShelfModel"
def TX12 : u_T := fun k => match k with
  | 0 => ("FrequencyShelfModel", "g", "[I", true)
  | 1 => ("FrequencyShelfModel", "kept", "[I", true)
  | 2 => ("FrequencyShelfModel", "isKept", "Z", false)
  | 3 => ("FrequencyShelfModel", "tape", "[B", true)
  | 4 => ("FrequencyShelfModel", "taped", "I", false)
  | 5 => ("FrequencyShelfModel", "spot", "I", false)
  | 6 => ("FrequencyShelfModel", "written", "[I", true)
  | 7 => ("FrequencyShelfModel", "writtenMany", "I", false)
  | 8 => ("FrequencyShelfModel", "asked", "[I", true)
  | 9 => ("FrequencyShelfModel", "askedMany", "I", false)
  | 10 => ("FrequencyShelfModel", "there", "[I", true)
  | 11 => ("FrequencyShelfModel", "counts", "[I", true)
  | 12 => ("FrequencyShelfModel", "lasts", "[I", true)
  | _ => ("FrequencyShelfModel", "cames", "[I", true)
def tyX12 : Nat → FieldType := fun k => match k with
  | 0 => .array .int
  | 1 => .array .int
  | 2 => .boolean
  | 3 => .array .byte
  | 4 => .int
  | 5 => .int
  | 6 => .array .int
  | 7 => .int
  | 8 => .array .int
  | 9 => .int
  | 10 => .array .int
  | 11 => .array .int
  | 12 => .array .int
  | _ => .array .int
theorem nmX12 : ∀ a, a < 14 → ∀ b, b < 14 → a ≠ b → (TX12 a).2.1 ≠ (TX12 b).2.1 := by decide +kernel
theorem tyX12_ok : ∀ k, k < 14 → parseFieldDescriptor (TX12 k).2.2.1 = some (tyX12 k) := by decide +kernel
def RJ4 : String := "java/lang/StringBuilde\x72"
def TJ4 : u_T := fun k => match k with
  | 0 => ("java/lang/AbstractStringBuilde\x72", "value", "[B", false)
  | 1 => ("java/lang/AbstractStringBuilde\x72", "code\x72", "B", false)
  | 2 => ("java/lang/AbstractStringBuilde\x72", "maybeLatin1", "Z", false)
  | _ => ("java/lang/AbstractStringBuilde\x72", "count", "I", false)
def tyJ4 : Nat → FieldType := fun k => match k with
  | 0 => .array .byte
  | 1 => .byte
  | 2 => .boolean
  | _ => .int
theorem nmJ4 : ∀ a, a < 4 → ∀ b, b < 4 → a ≠ b → (TJ4 a).2.1 ≠ (TJ4 b).2.1 := by decide +kernel
theorem tyJ4_ok : ∀ k, k < 4 → parseFieldDescriptor (TJ4 k).2.2.1 = some (tyJ4 k) := by decide +kernel
def RX1 : String := "FrequencyShelf$Key"
abbrev CL : List vw_C := [(RX0, TX0, 2), (RX2, TX2, 7), (RX3, TX3, 5), (RX4, TX4, 1), (RX5, TX5, 2), (RX6, TX6, 9), (RX7, TX7, 1), (RX8, TX8, 4), (RX9, TX9, 4), (RX10, TX10, 2), (RX11, TX11, 9), (RX12, TX12, 14), (RJ4, TJ4, 4)]

def zLEAST (j : Nat) : Int32 := ([1, 1, 0, 0, 1, 0, 0, 0] : List Int32).getD j 0
def zMOST (j : Nat) : Int32 := ([200, 500, 999, 999, 8, 1, 20, 999] : List Int32).getD j 0
def zSUM_OF (j : Nat) : Int32 := ([1, -1, 3, 2, -1, -1, 5, 7, -1, -1, 10, 11, 12, 13] : List Int32).getD j 0
/-- what is fixed over a whole run: class numbers and slots, the classes of int[] and byte[], addresses of the constants -/
abbrev mE : Type := va_G × ClassId × ClassId × (Nat → Nat)
abbrev mD (E : mE) : va_G × List vw_C × List (ClassId × FieldType) := (E.1, CL, [(E.2.1, .int), (E.2.2.1, .byte)])
def nestF : List (Nat × String × String × String) := [(314, "FrequencyShelf$Ledge\x72", "book", "LFrequencyShelf$Table;"), (234, "FrequencyShelf$Ledge\x72", "told", "LFrequencyShelf$Table;"), (205, "FrequencyShelf$Ledge\x72", "written", "LFrequencyShelf$Table;"), (296, "FrequencyShelf$Ledge\x72", "late", "LFrequencyShelf$Table;"), (129, "FrequencyShelf$Shelf", "entries", "LFrequencyShelf$Entries;"), (142, "FrequencyShelf$Shelf", "cold", "LFrequencyShelf$Entries;"), (252, "FrequencyShelf$Shelf", "sketch", "LFrequencyShelf$Sketch;"), (193, "FrequencyShelf$Loads", "waits", "LFrequencyShelf$Table;"), (177, "FrequencyShelf$Loads", "boxes", "LFrequencyShelf$Table;"), (39, "FrequencyShelf$State", "rules", "LFrequencyShelf$Rules;"), (44, "FrequencyShelf$State", "ledge\x72", "LFrequencyShelf$Ledger;"), (49, "FrequencyShelf$State", "shelf", "LFrequencyShelf$Shelf;"), (54, "FrequencyShelf$State", "loads", "LFrequencyShelf$Loads;")]
def nestM : List (String × Nat) := [("FrequencyShelf$Rules", 23), ("FrequencyShelf$Table", 41), ("FrequencyShelf$Ledge\x72", 83), ("FrequencyShelf$Sketch", 23)]
def yNest : MethodName := ⟨"FrequencyShelf", "copyNumbers", "([I[II)V"⟩
def mN (U : State) : Prop := (∀ q ∈ nestF, va_Nw (.fieldLinkNest "FrequencyShelf" q.1 q.2.1 q.2.2.1 q.2.2.2 "FrequencyShelf") U) ∧ ∀ q ∈ nestM, va_Nw (.methodLinkNest q.1 q.2 yNest "FrequencyShelf") U
/-- the digits' tables of the JDK, the texts of the constants: their bytes; the constants of the code, each with its text's place -/
def zOnes (j : Nat) : Int32 := nI (48 + j % 10)
def zTens (j : Nat) : Int32 := nI (48 + j / 10)
def sLen : List Nat := [2, 2, 6, 6, 0]
def sByt : List (List Int32) := [[32, 119], [32, 99], [32, 100, 105, 114, 116, 121], [32, 115, 116, 97, 108, 101], []]
def sRef : List (String × Nat × String × Nat) := [("FrequencyShelf$Entries", 99, " w", 0), ("FrequencyShelf$Entries", 104, " c", 1), ("FrequencyShelf$Entries", 106, " dirty", 2), ("FrequencyShelf$Entries", 108, " stale", 3), ("FrequencyShelfModel", 246, " w", 0), ("FrequencyShelfModel", 252, " c", 1), ("FrequencyShelfModel", 254, " dirty", 2), ("FrequencyShelfModel", 258, " stale", 3), ("FrequencyShelfModel", 256, "", 4)]
/-- private methods of the JDK that are called on a StringBuilder -/
def sPriv : List MethodName := [⟨"java/lang/AbstractStringBuilde\x72", "ensureCapacityInternal", "(I)V"⟩, ⟨"java/lang/AbstractStringBuilde\x72", "newCapacity", "(I)I"⟩, ⟨"java/lang/AbstractStringBuilde\x72", "putStringAt", "(ILjava/lang/String;)V"⟩, ⟨"java/lang/AbstractStringBuilde\x72", "inflateIfNeededFo\x72", "(Ljava/lang/String;)V"⟩]
def mJ (E : mE) (A : Nat → Prop) (U : State) (H : Heap) : Prop :=
  va_Z "java/lang/String" "COMPACT_STRINGS" "Z" (.int 1) A U H ∧
  (va_Z "java/lang/Intege\x72" "DigitOnes" "[B" (.ref (E.2.2.2 3)) A U H ∧ va_T .byte (E.2.2.2 3) 100 (fun j => .int (zOnes j)) A U H) ∧
  (va_Z "java/lang/Intege\x72" "DigitTens" "[B" (.ref (E.2.2.2 4)) A U H ∧ va_T .byte (E.2.2.2 4) 100 (fun j => .int (zTens j)) A U H) ∧
  va_Zq "jdk/internal/util/Preconditions" "SIOOBE_FORMATTER" "Ljava/util/function/BiFunction;" A U H ∧
  vk_S 5 sLen sByt (fun i => E.2.2.2 (10 + i)) (fun i => E.2.2.2 (20 + i)) A U H ∧ (∀ q ∈ sRef, vk_R q.1 q.2.1 q.2.2.1 (E.2.2.2 (10 + q.2.2.2)) U) ∧ ∀ y ∈ sPriv, va_Nw (.privateMethod y) U
theorem mJ.warm {E : mE} {A : Nat → Prop} {u U : State} {H : Heap} (hW : u.WarmedH U.vm) (h : mJ E A u H) : mJ E A U H :=
  ⟨h.1.moved hW.alike, ⟨h.2.1.1.moved hW.alike, h.2.1.2.moved hW.alike⟩, ⟨h.2.2.1.1.moved hW.alike, h.2.2.1.2.moved hW.alike⟩, h.2.2.2.1.moved hW.alike, h.2.2.2.2.1.moved hW.alike, fun q hq => (h.2.2.2.2.2.1 q hq).warm hW, fun y hy => Cond.privateMethod_warm hW (h.2.2.2.2.2.2 y hy)⟩
theorem mJ.same {E : mE} {A : Nat → Prop} {u U : State} {H : Heap} (hv : U.vm = u.vm) (h : mJ E A u H) : mJ E A U H := by
  have ha : u.vm.Alike U.vm := by rw [hv]; exact Vm.Alike.refl _
  exact ⟨h.1.moved ha, ⟨h.2.1.1.moved ha, h.2.1.2.moved ha⟩, ⟨h.2.2.1.1.moved ha, h.2.2.1.2.moved ha⟩, h.2.2.2.1.moved ha, h.2.2.2.2.1.moved ha, fun q hq => (h.2.2.2.2.2.1 q hq).same hv, fun y hy => va_Nw.same rfl hv.symm (h.2.2.2.2.2.2 y hy)⟩
theorem mJ.kept {E : mE} {A : Nat → Prop} {U : State} {H H1 : Heap} (h : mJ E A U H) (hq : ∀ a : Nat, a < H.size → ¬ A a → H1[a]? = H[a]?) : mJ E A U H1 :=
  ⟨h.1.kept hq, ⟨h.2.1.1.kept hq, h.2.1.2.kept hq⟩, ⟨h.2.2.1.1.kept hq, h.2.2.1.2.kept hq⟩, h.2.2.2.1.kept hq, h.2.2.2.2.1.kept hq, h.2.2.2.2.2⟩
theorem mJ.narrow {E : mE} {A B : Nat → Prop} {U : State} {H : Heap} (h : mJ E A U H) (hAB : ∀ q, B q → A q) : mJ E B U H :=
  ⟨h.1.narrow hAB, ⟨h.2.1.1.narrow hAB, h.2.1.2.narrow hAB⟩, ⟨h.2.2.1.1.narrow hAB, h.2.2.1.2.narrow hAB⟩, h.2.2.2.1.narrow hAB, h.2.2.2.2.1.narrow hAB, h.2.2.2.2.2⟩
def mZ (E : mE) : (Nat → Prop) → State → Heap → Prop := fun A U H =>
  (va_Z "FrequencyShelf$Rules" "LEAST" "[I" (.ref (E.2.2.2 0)) A U H ∧ va_T .int (E.2.2.2 0) 8 (fun j => .int (zLEAST j)) A U H) ∧
  (va_Z "FrequencyShelf$Rules" "MOST" "[I" (.ref (E.2.2.2 1)) A U H ∧ va_T .int (E.2.2.2 1) 8 (fun j => .int (zMOST j)) A U H) ∧
  (va_Z "FrequencyShelf$Ledge\x72" "SUM_OF" "[I" (.ref (E.2.2.2 2)) A U H ∧ va_T .int (E.2.2.2 2) 14 (fun j => .int (zSUM_OF j)) A U H) ∧ mN U ∧ mJ E A U H
abbrev mc_Z : Type := (Nat → Prop) → State → Heap → Prop
def mc_zok (Z : mc_Z) : Prop := (∀ (A : Nat → Prop) (u U : State) (H : Heap), u.WarmedH U.vm → Z A u H → Z A U H) ∧ (∀ (A : Nat → Prop) (u U : State) (H : Heap), U.vm = u.vm → Z A u H → Z A U H) ∧ (∀ (A : Nat → Prop) (U : State) (H H1 : Heap), Z A U H → (∀ a : Nat, a < H.size → ¬ A a → H1[a]? = H[a]?) → Z A U H1) ∧ (∀ (A B : Nat → Prop) (U : State) (H : Heap), Z A U H → (∀ q, B q → A q) → Z B U H)
abbrev mc_D : Type := va_G × List vw_C × List (ClassId × FieldType)
/-- a contract: from a world wc (its cells apart), the method returns v with the world w', post v w'; cells and slots as its room says -/
def MC (D : mc_D) (Z : mc_Z) (l : Launch) (y : MethodName) (bc : ByteArray) (mL : Nat) (rt : Option FieldType) (rm : Room) (av : List Value) (wc : va_W) (post : Option Value → va_W → Prop) : Prop :=
  ∀ sz : Nat, Met l y (.code y bc mL rt :: TB) rm (va_Pc av (fun U => U.heap.size = sz ∧ va_P D.1 D.2.1 wc U.heap ∧ va_K D.1 D.2.1 D.2.2 U ∧ va_D (fun _ => True) wc ∧ Z (va_A wc sz) U U.heap))
    (fun _ st oc t => (∃ (v : Option Value) (w' : va_W), oc = .returned v ∧ post v w' ∧ va_P D.1 D.2.1 w' t.heap ∧ va_K D.1 D.2.1 D.2.2 t ∧ va_D (va_A wc sz) w') ∧ va_F (va_A wc sz) st t) rm.cells rm.slots (va_A wc sz)
section MCC
variable {p : Program} {l : Launch} {e : Env} {R : Room} {s : State} {m : MethodId} {args : Array Value} {below : List Frame} {meth : Method} {c : Code} {H : Heap} {locs : List Loc} {cells slots : Nat} {Q : State → Prop} {pc : Nat} {ls : Array Slot} {rest st0 : List Value} {D : mc_D} {Z : mc_Z} {A : Nat → Prop} {ws wc wr : va_W} {y : MethodName} {bc cc : ByteArray} {mL nL index : Nat} {rt : Option FieldType} {rm : Room} {post : Option Value → va_W → Prop} {Ts : List Cond} {own : String} {As av : List Value} {b : Addr}
theorem mc_blind (hz : mc_zok Z) {sz : Nat} : FrameBlind (va_Pc av (fun U => U.heap.size = sz ∧ va_P D.1 D.2.1 wc U.heap ∧ va_K D.1 D.2.1 D.2.2 U ∧ va_D (fun _ => True) wc ∧ Z (va_A wc sz) U U.heap)) := by
  intro a U g mk q
  obtain ⟨q0, q1, qP, qK, qD, qZ⟩ := q
  exact ⟨q0, q1, qP, va_K.moved (u := U) (U := U.calling g mk a) (Vm.Alike.refl U.vm) qK, qD, hz.2.1 _ U _ _ rfl qZ⟩
theorem mc_pre (hz : mc_zok Z) (hZ : Z A s s.heap) (hK : va_K D.1 D.2.1 D.2.2 s) (hS : va_S A s.heap H locs) (hP : va_P D.1 D.2.1 wc H) (hD : va_D A wc) (hF : ∀ q, va_A wc H.size q → A q) (U : State) (hU : U.heap = H) (hW : s.WarmedH U.vm) :
    va_Pc av (fun U => U.heap.size = H.size ∧ va_P D.1 D.2.1 wc U.heap ∧ va_K D.1 D.2.1 D.2.2 U ∧ va_D (fun _ => True) wc ∧ Z (va_A wc H.size) U U.heap) av.toArray U := by
  refine ⟨rfl, by rw [hU], by rw [hU]; exact hP, va_K.moved hW.alike hK, hD.weaken (fun _ _ _ _ => trivial), ?_⟩
  rw [hU]
  exact hz.2.2.2 _ _ _ _ (hz.1 _ _ _ _ hW (hz.2.2.1 _ _ _ _ hZ (fun a h1 h2 => hS.2.1 a h1 h2))) hF
/-- behind a call -/
theorem mc_after {g : JFrame} (hr : va_Run p l e R s m args below meth c H locs cells slots rm.cells rm.slots (F0 m pc ls st0) rest ((fun (_ : Array Value) (st : State) (oc : Outcome) (t : State) => (∃ (v : Option Value) (w' : va_W), oc = .returned v ∧ post v w' ∧ va_P D.1 D.2.1 w' t.heap ∧ va_K D.1 D.2.1 D.2.2 t ∧ va_D (va_A wc H.size) w') ∧ va_F (va_A wc H.size) st t) av.toArray) (va_A wc H.size))
    (hP : va_P D.1 D.2.1 ws H) (hD : va_D A ws) (hS : va_S A s.heap H locs) (isC isR : List Nat) (hC : isC.map (fun i => ws[i]?) = wc.map some) (hR : isR.map (fun i => ws[i]?) = wr.map some) (hn : va_nd isR = true) (hdis : ∀ i ∈ isR, i ∉ isC) (hF : ∀ q, va_A wc H.size q → A q)
    (kk : ∀ (v : Option Value) (w' : va_W) (H1 : Heap) (locs1 : List Loc), post v w' → va_P D.1 D.2.1 (wr ++ w') H1 → va_D A (wr ++ w') → va_S A s.heap H1 locs1 → W p l e R s m args below meth c H1 locs1 (cells + rm.cells) (slots + rm.slots) Q (F0 m (pc + 3) ls (v.toList ++ rest))) : W p l e R s m args below meth c H locs cells slots Q (F0 m pc ls st0) := by
  intro T hT X
  obtain ⟨v, st₀, t, T', L, h0, X', hL, e1, e2, ⟨⟨v2, w', hv, hp, hP1, hK1, hD1⟩, hzz, hk⟩, st⟩ := hr T hT X
  cases hv
  rw [h0] at hzz hk
  have hk1 : ∀ q : Nat, q < H.size → ¬ va_A wc H.size q → T'.heap[q]? = H[q]? := fun q h1 h2 => by rw [e1]; exact hk q h1 h2
  have hS1 : va_S A s.heap T'.heap (locs ++ L) := ⟨Nat.le_trans hS.1 (by rw [e1]; exact hzz), fun q h1 h2 => by
      rw [hk1 q (Nat.lt_of_lt_of_le h1 hS.1) (fun z => h2 (hF q z))]; exact hS.2.1 q h1 h2, fun q hq => by
      rcases List.mem_append.mp hq with h | h
      · exact hS.2.2 q h
      · exact hF _ (hL q h)⟩
  rw [← e1] at hP1
  obtain ⟨hP2, hD2⟩ := va_join hP hD isC isR hC hR hn hdis hk1 hF hP1 hD1
  obtain ⟨t2, a1, b1⟩ := kk _ w' T'.heap (locs ++ L) hp hP2 hD2 hS1 T' rfl X'
  exact ⟨t2, st t2 a1, b1⟩
/-- an instance method called by invokevirtual -/
theorem mc_callV (M : MC D Z l y bc mL rt rm (.ref b :: As) wc post) (S : CallFix p m c cc nL s args Ts own) (hT : ∀ w ∈ TB, w ∈ Ts) (hA : ∀ q : Nat, s.heap.size ≤ q → A q) (hz : mc_zok Z) (hZ : Z A s s.heap) (hK : va_K D.1 D.2.1 D.2.2 s) (hP : va_P D.1 D.2.1 ws H) (hD : va_D A ws) (hS : va_S A s.heap H locs)
    (isC isR : List Nat) (hC : isC.map (fun i => ws[i]?) = wc.map some) (hR : isR.map (fun i => ws[i]?) = wr.map some) (hnC : va_nd isC = true) (hn : va_nd isR = true) (hdis : ∀ i ∈ isR, i ∉ isC)
    {C : String} {TT : u_T} {N ci q0 : Nat} {fs : List Value} (hc : D.2.1[ci]? = some (C, TT, N)) (he : ws[q0]? = some (b, .inr (ci, fs)))
    (hw : Cond.code y bc mL rt ∈ TB ∧ Cond.instanceMethod y ∈ TB ∧ Cond.selects C y y ∈ TB ∧ Cond.initialized C ∈ TB) (hlk : Cond.methodLink own index y ∈ TB) (n : Nat)
    (hd : y.cls = C ∧ y.cls ≠ "java/lang/invoke/MethodHandle" ∧ y.cls ≠ "java/lang/invoke/VarHandle" ∧ (parseMethodDescriptor y.desc).map (fun d => d.parameters.length) = some n) (hR2 : rm.frames + 1 ≤ R.frames ∧ 8 + (mL + 11) + rm.locals ≤ R.locals)
    (hn2 : As.length = n) (hsz : ls.size = nL) (hstack : st0 = As.reverse ++ .ref b :: rest) (hroom : (rest.map fun v => v.category).sum ≤ 8) (hdg : decode cc pc = .ok (.invokevirtual index, 3)) (hf : cells + rm.cells ≤ R.cells ∧ slots + rm.slots ≤ R.slots)
    (kk : ∀ (v : Option Value) (w' : va_W) (H1 : Heap) (locs1 : List Loc), post v w' → va_P D.1 D.2.1 (wr ++ w') H1 → va_D A (wr ++ w') → va_S A s.heap H1 locs1 → W p l e R s m args below meth c H1 locs1 (cells + rm.cells) (slots + rm.slots) Q (F0 m (pc + 3) ls (v.toList ++ rest))) : W p l e R s m args below meth c H locs cells slots Q (F0 m pc ls st0) := by
  have hts := S.2.2.2.2
  have hF := va_free (wc := wc) hD hS hA isC hC
  have hPc : va_P D.1 D.2.1 wc H := fun k q hk => by
    have h1 : (isC.map (fun i => ws[i]?))[k]? = some (some q) := by rw [hC, List.getElem?_map, hk]; rfl
    rw [List.getElem?_map] at h1
    cases hi : isC[k]? with
    | none => rw [hi] at h1; cases h1
    | some i => rw [hi] at h1; exact hP i q (Option.some.inj h1)
  have hDc := hD.sub (ws' := wc) isC hnC hC
  have hG : GoodIn Ts (wsV own index C y (.code y bc mL rt :: TB)) := by
    intro w hw2
    unfold wsV at hw2
    rcases List.mem_append.mp hw2 with h | h
    · have : w ∈ TB := by
        simp only [List.mem_cons, List.not_mem_nil, or_false] at h
        rcases h with rfl | rfl | rfl | rfl
        · exact hlk
        · exact hw.2.1
        · exact hw.2.2.1
        · exact hw.2.2.2
      exact ⟨hT w this, good_of_word (List.mem_filter.mp this).2⟩
    · exact tb_good hT hw.1 w h
  refine mc_after (g := F0 m pc ls st0) (av := .ref b :: As) (va_runV (As := As) (rest := rest) S (M H.size) (cwV n hts hG rfl rfl rfl hd hR2) ⟨mc_blind hz, ?_, fun U hU hW => mc_pre hz hZ hK hS hPc hDc hF U hU hW⟩ rfl hn2 hsz hstack (lv_room hroom) hdg hf) hP hD hS isC isR hC hR hn hdis hF kk
  exact va_recv hK hP hc he
end MCC
theorem alike_of_eq {u U : State} (h : U.vm = u.vm) : u.vm.Alike U.vm := by rw [h]; exact Vm.Alike.refl _
theorem mZ_ok (E : mE) : mc_zok (mZ E) := by
  refine ⟨fun A u U H hW h => ?_, fun A u U H hv h => ?_, fun A U H H1 h hq => ?_, fun A B U H h hAB => ?_⟩
  · exact ⟨⟨h.1.1.moved hW.alike, h.1.2.moved hW.alike⟩, ⟨h.2.1.1.moved hW.alike, h.2.1.2.moved hW.alike⟩, ⟨h.2.2.1.1.moved hW.alike, h.2.2.1.2.moved hW.alike⟩, ⟨fun q hq => (h.2.2.2.1.1 q hq).warmF hW, fun q hq => (h.2.2.2.1.2 q hq).warmM hW⟩, h.2.2.2.2.warm hW⟩
  · exact ⟨⟨h.1.1.moved (alike_of_eq hv), h.1.2.moved (alike_of_eq hv)⟩, ⟨h.2.1.1.moved (alike_of_eq hv), h.2.1.2.moved (alike_of_eq hv)⟩, ⟨h.2.2.1.1.moved (alike_of_eq hv), h.2.2.1.2.moved (alike_of_eq hv)⟩, ⟨fun q hq => (h.2.2.2.1.1 q hq).same rfl hv.symm, fun q hq => (h.2.2.2.1.2 q hq).same rfl hv.symm⟩, h.2.2.2.2.same hv⟩
  · exact ⟨⟨h.1.1.kept hq, h.1.2.kept hq⟩, ⟨h.2.1.1.kept hq, h.2.1.2.kept hq⟩, ⟨h.2.2.1.1.kept hq, h.2.2.1.2.kept hq⟩, h.2.2.2.1, h.2.2.2.2.kept hq⟩
  · exact ⟨⟨h.1.1.narrow hAB, h.1.2.narrow hAB⟩, ⟨h.2.1.1.narrow hAB, h.2.1.2.narrow hAB⟩, ⟨h.2.2.1.1.narrow hAB, h.2.2.1.2.narrow hAB⟩, h.2.2.2.1, h.2.2.2.2.narrow hAB⟩
/-- the world at a point of a body -/
def mW (E : mE) (A : Nat → Prop) (s : State) (ws : va_W) (H : Heap) (locs : List Loc) : Prop := va_P (mD E).1 (mD E).2.1 ws H ∧ va_D A ws ∧ va_S A s.heap H locs
/-- a contract over the fixed things of a run -/
abbrev MX (E : mE) (l : Launch) (y : MethodName) (bc : ByteArray) (mL : Nat) (rt : Option FieldType) (rm : Room) (av : List Value) (wc : va_W) (post : Option Value → va_W → Prop) : Prop := MC (mD E) (mZ E) l y bc mL rt rm av wc post
def mQ (E : mE) (wc : va_W) (post : Option Value → va_W → Prop) (sz : Nat) : Array Value → State → Outcome → State → Prop := fun _ st oc t => (∃ (v : Option Value) (w' : va_W), oc = .returned v ∧ post v w' ∧ va_P (mD E).1 (mD E).2.1 w' t.heap ∧ va_K (mD E).1 (mD E).2.1 (mD E).2.2 t ∧ va_D (va_A wc sz) w') ∧ va_F (va_A wc sz) st t
/-- the facts of a body -/
def mB (E : mE) (y : MethodName) (bc : ByteArray) (mL : Nat) (rt : Option FieldType) (mc ms : Nat) (post : Option Value → va_W → Prop) (p : Program) (s : State) (m : MethodId) (args : Array Value) (below : List Frame) (meth : Method) (c : Code) (A : Nat → Prop) (Q : State → Prop) : Prop :=
  (p.tables.exec = Jvm.exec ∧ c.code = bc ∧ c.maxLocals = mL ∧ s.vm.findClass y.cls = some m.cls ∧ (∀ w ∈ TB, w.before args s = true)) ∧ meth.sig.returnType = rt ∧ meth.locks = false ∧ (∀ q : Nat, s.heap.size ≤ q → A q) ∧ va_K (mD E).1 (mD E).2.1 (mD E).2.2 s ∧ mZ E A s s.heap ∧ (y.name = "<init>" → meth.name = "<init>") ∧ ∃ wc : va_W, A = va_A wc s.heap.size ∧ Q = MQ below (mQ E wc post s.heap.size) args s mc ms (va_A wc s.heap.size)
section MBB
variable {E : mE} {p : Program} {l : Launch} {e : Env} {R : Room} {s : State} {m : MethodId} {args : Array Value} {below : List Frame} {meth : Method} {c : Code} {H : Heap} {locs : List Loc} {cells slots mc ms : Nat} {Q : State → Prop} {pc : Nat} {ls : Array Slot} {rest st0 : List Value} {A : Nat → Prop} {ws wc wr : va_W} {y y2 : MethodName} {bc bc2 : ByteArray} {mL mL2 index : Nat} {rt rt2 : Option FieldType} {rm : Room} {post post2 : Option Value → va_W → Prop} {As av : List Value} {a b : Nat}
theorem mx_intro (hy : plainName y.cls = true) (hlen : (lg_sl av).length ≤ mL)
    (body : ∀ (p : Program) (e : Env) (s : State) (m : MethodId) (args : Array Value) (below : List Frame) (meth : Method) (c : Code) (A : Nat → Prop) (Q : State → Prop) (ls : Array Slot), mB E y bc mL rt rm.cells rm.slots post p s m args below meth c A Q → mW E A s wc s.heap [] → lv_has ls mL (lv_args 0 av) → W p l e rm s m args below meth c s.heap [] 0 0 Q (F0 m 0 ls [])) : MX E l y bc mL rt rm av wc post := by
  intro sz
  refine Met.ofW (cc := bc) (maxL := mL) (ret := rt) hy rfl ?_
  intro p e s m args below meth c s₁ B hml hv
  obtain ⟨rfl, hsz, hP, hK, hD0, hZ⟩ := hv
  subst hsz
  have hts := atoms_spec (ws := .code y bc mL rt :: TB) B.pre
  have hl := lv_entry av hlen
  rw [lg_entry_eq]
  refine body p e s m _ below meth c (va_A wc s.heap.size) _ _ ⟨⟨B.exec, B.bytes, hml, findClass_of_methodNamed B.named, fun w hw => hts w (List.mem_cons_of_mem _ hw)⟩, B.returns, B.notSynchronized, fun q h => Or.inr h, hK, hZ, fun h => (name_of_methodNamed B.named B.method).1.trans h, wc, rfl, rfl⟩ ⟨hP, hD0.self, va_S.rf⟩ hl
theorem mW.sub (w : mW E A s ws H locs) {ws' : va_W} (is : List Nat) (hn : va_nd is = true) (hs : is.map (fun i => ws[i]?) = ws'.map some) : mW E A s ws' H locs := by
  refine ⟨fun k q hk => ?_, w.2.1.sub is hn hs, w.2.2⟩
  have h1 : (is.map (fun i => ws[i]?))[k]? = some (some q) := by rw [hs, List.getElem?_map, hk]; rfl
  rw [List.getElem?_map] at h1
  cases hi : is[k]? with
  | none => rw [hi] at h1; cases h1
  | some i => rw [hi] at h1; exact w.1 i q (Option.some.inj h1)
theorem mx_post (B : mB E y bc mL rt mc ms post p s m args below meth c A Q) (w : mW E A s ws H locs) {v : Option Value} (hp : post v ws) : ∃ wc : va_W, Q = MQ below (mQ E wc post s.heap.size) args s mc ms (va_A wc s.heap.size) ∧ (∀ q ∈ locs, va_A wc s.heap.size q.base) ∧ ∀ t : State, t.heap = H → s.WarmedH t.vm → mQ E wc post s.heap.size args s (.returned v) t := by
  obtain ⟨-, -, -, -, hK, -, -, wc, hA, hQ⟩ := B
  subst hA
  refine ⟨wc, hQ, w.2.2.2.2, fun t ht hW => ⟨⟨v, ws, rfl, hp, by rw [ht]; exact w.1, va_K.moved hW.alike hK, w.2.1⟩, w.2.2.F ht⟩⟩
theorem mx_iret (B : mB E y bc mL (some .int) cells slots post p s m args below meth c A Q) (w : mW E A s ws H locs) {v : Int32} (hp : post (some (.int v)) ws) (hdg : decode bc pc = .ok (.ireturn, 1)) : W p l e R s m args below meth c H locs cells slots Q (F0 m pc ls [.int v]) := by
  obtain ⟨wc, hQ, hf, hq⟩ := mx_post B w hp
  rw [hQ]
  exact W.iret B.1.1 B.1.2.1 B.2.1 hq hf hdg B.2.2.1
theorem mx_zret (B : mB E y bc mL (some .boolean) cells slots post p s m args below meth c A Q) (w : mW E A s ws H locs) {v : Int32} (hn : narrow .boolean (.int v) = .int v) (hp : post (some (.int v)) ws) (hdg : decode bc pc = .ok (.ireturn, 1)) : W p l e R s m args below meth c H locs cells slots Q (F0 m pc ls [.int v]) := by
  obtain ⟨wc, hQ, hf, hq⟩ := mx_post B w hp
  rw [hQ]
  exact W.zret B.1.1 B.1.2.1 B.2.1 hn hq hf hdg B.2.2.1
theorem mx_lret (B : mB E y bc mL (some .long) cells slots post p s m args below meth c A Q) (w : mW E A s ws H locs) {v : Int64} (hp : post (some (.long v)) ws) (hdg : decode bc pc = .ok (.lreturn, 1)) : W p l e R s m args below meth c H locs cells slots Q (F0 m pc ls [.long v]) := by
  obtain ⟨wc, hQ, hf, hq⟩ := mx_post B w hp
  rw [hQ]
  exact W.lret B.1.1 B.1.2.1 B.2.1 hq hf hdg B.2.2.1
theorem mx_vret (B : mB E y bc mL none cells slots post p s m args below meth c A Q) (w : mW E A s ws H locs) (hp : post none ws) (hdg : decode bc pc = .ok (.return_, 1)) : W p l e R s m args below meth c H locs cells slots Q (F0 m pc ls []) := by
  obtain ⟨wc, hQ, hf, hq⟩ := mx_post B w hp
  rw [hQ]
  exact W.vret B.1.1 B.1.2.1 B.2.1 hq hf hdg B.2.2.1
/-- what the tables say of a field that a class's code names -/
def mF (own : String) (idx ci k : Nat) : Prop := ∃ (C : String) (T : u_T) (N : Nat) (ty : Nat → FieldType), CL[ci]? = some (C, T, N) ∧ k < N ∧ (∀ w ∈ u_ws C T N, w ∈ TB) ∧ Cond.fieldLink own idx (T k).1 (T k).2.1 (T k).2.2.1 ∈ TB ∧ (∀ k, k < N → parseFieldDescriptor (T k).2.2.1 = some (ty k)) ∧ (∀ a, a < N → ∀ b, b < N → a ≠ b → (T a).2.1 ≠ (T b).2.1)
def mFi (ci k : Nat) : Prop := ∀ (C : String) (T : u_T) (N : Nat), CL[ci]? = some (C, T, N) → (T k).2.2.2 = false ∧ parseFieldDescriptor (T k).2.2.1 = some .int
theorem mx_get (B : mB E y bc mL rt mc ms post p s m args below meth c A Q) (w : mW E A s ws H locs) (q0 : Nat) {ci k : Nat} {fs : List Value} {v : Value} (hF : mF y.cls index ci k) (he : ws[q0]? = some (a, .inr (ci, fs))) (hv : fs[k]? = some v) (hdg : decode bc pc = .ok (.getfield index, 3))
    (kk : W p l e R s m args below meth c H locs cells slots Q (F0 m (pc + 3) ls (v :: rest))) : W p l e R s m args below meth c H locs cells slots Q (F0 m pc ls (.ref a :: rest)) := by
  obtain ⟨C, T, N, ty, hc, hk, hin, hl, hty, hnm⟩ := hF
  exact va_get (D := (mD E).1) (cl := (mD E).2.1) (tys := (mD E).2.2) (Ts := TB) B.1.1 B.1.2.1 B.1.2.2.2.2 hin B.1.2.2.2.1 B.2.2.2.2.1 w.1 q0 he hc k hk (B.1.2.2.2.2 _ hl) (fun _ h => h) hv hdg kk
theorem mx_puti (B : mB E y bc mL rt mc ms post p s m args below meth c A Q) (w : mW E A s ws H locs) (q0 : Nat) {ci k : Nat} {fs : List Value} {x : Int32} (hF : mF y.cls index ci k) (hFi : mFi ci k) (he : ws[q0]? = some (a, .inr (ci, fs))) (hl : k < fs.length) (hdg : decode bc pc = .ok (.putfield index, 3))
    (kk : ∀ (x' : Int32) (H1 : Heap) (locs1 : List Loc), x' = x → mW E A s (ws.set q0 (a, .inr (ci, fs.set k (.int x')))) H1 locs1 → W p l e R s m args below meth c H1 locs1 cells slots Q (F0 m (pc + 3) ls rest)) : W p l e R s m args below meth c H locs cells slots Q (F0 m pc ls (.int x :: .ref a :: rest)) := by
  obtain ⟨C, T, N, ty, hc, hk, hin, hlk, hty, hnm⟩ := hF
  obtain ⟨hfin, hpar⟩ := hFi C T N hc
  exact va_put (D := (mD E).1) (cl := (mD E).2.1) (tys := (mD E).2.2) (Ts := TB) (ty := .int) B.1.1 B.1.2.1 B.1.2.2.2.2 hin ty hty hnm B.1.2.2.2.1 B.2.2.2.2.1 w.1 w.2.1 w.2.2 q0 he hc k hk (B.1.2.2.2.2 _ hlk) (fun _ h => h) hfin hpar rfl rfl hl hdg (fun H1 locs1 h1 h2 h3 => kk x H1 locs1 rfl ⟨h1, h2, h3⟩)
theorem mx_iald (B : mB E y bc mL rt mc ms post p s m args below meth c A Q) (w : mW E A s ws H locs) (q0 : Nat) {n : Nat} {f : Nat → Int32} {i : Int32} (he : ws[q0]? = some (a, .inl (E.2.1, n, .inl f))) (hin : vp_in i n) (hdg : decode bc pc = .ok (.iaload, 1))
    (kk : ∀ v : Int32, v = f i.toNatClampNeg → W p l e R s m args below meth c H locs cells slots Q (F0 m (pc + 1) ls (.int v :: rest))) : W p l e R s m args below meth c H locs cells slots Q (F0 m pc ls (.int i :: .ref a :: rest)) :=
  va_iald (D := (mD E).1) (cl := (mD E).2.1) (tys := (mD E).2.2) B.1.1 B.1.2.1 B.2.2.2.2.1 w.1 q0 0 he rfl hin hdg (kk _ rfl)
theorem mx_iast (B : mB E y bc mL rt mc ms post p s m args below meth c A Q) (w : mW E A s ws H locs) (q0 : Nat) {n : Nat} {f : Nat → Int32} {i x : Int32} (he : ws[q0]? = some (a, .inl (E.2.1, n, .inl f))) (hin : vp_in i n) (hdg : decode bc pc = .ok (.iastore, 1))
    (kk : ∀ (f' : Nat → Int32) (H1 : Heap) (locs1 : List Loc), f' = upd f i.toNatClampNeg x → mW E A s (ws.set q0 (a, .inl (E.2.1, n, .inl f'))) H1 locs1 → W p l e R s m args below meth c H1 locs1 cells slots Q (F0 m (pc + 1) ls rest)) : W p l e R s m args below meth c H locs cells slots Q (F0 m pc ls (.int x :: .int i :: .ref a :: rest)) :=
  va_iast (D := (mD E).1) (cl := (mD E).2.1) (tys := (mD E).2.2) B.1.1 B.1.2.1 B.2.2.2.2.1 w.1 w.2.1 w.2.2 q0 0 he rfl hin hdg (fun H1 locs1 h1 h2 h3 => kk _ H1 locs1 rfl ⟨h1, h2, h3⟩)
theorem mx_alen (B : mB E y bc mL rt mc ms post p s m args below meth c A Q) (w : mW E A s ws H locs) (q0 : Nat) {n : Nat} {f : Nat → Int32} (he : ws[q0]? = some (a, .inl (E.2.1, n, .inl f))) (hdg : decode bc pc = .ok (.arraylength, 1))
    (kk : W p l e R s m args below meth c H locs cells slots Q (F0 m (pc + 1) ls (.int (nI n) :: rest))) : W p l e R s m args below meth c H locs cells slots Q (F0 m pc ls (.ref a :: rest)) :=
  va_alen (D := (mD E).1) (cl := (mD E).2.1) (tys := (mD E).2.2) B.1.1 B.1.2.1 B.2.2.2.2.1 w.1 q0 0 he rfl rfl hdg kk
theorem mx_callV (M : MX E l y2 bc2 mL2 rt2 rm (.ref b :: As) wc post2) (B : mB E y bc mL rt mc ms post p s m args below meth c A Q) (w : mW E A s ws H locs)
    (isC isR : List Nat) (hC : isC.map (fun i => ws[i]?) = wc.map some) (hR : isR.map (fun i => ws[i]?) = wr.map some) (hnC : va_nd isC = true) (hn : va_nd isR = true) (hdis : ∀ i ∈ isR, i ∉ isC)
    (q0 : Nat) {C : String} {TT : u_T} {N ci : Nat} {fs : List Value} (hc : CL[ci]? = some (C, TT, N)) (he : ws[q0]? = some (b, .inr (ci, fs)))
    (hw : Cond.code y2 bc2 mL2 rt2 ∈ TB ∧ Cond.instanceMethod y2 ∈ TB ∧ Cond.selects C y2 y2 ∈ TB ∧ Cond.initialized C ∈ TB) (hlk : Cond.methodLink y.cls index y2 ∈ TB) (n : Nat)
    (hd : y2.cls = C ∧ y2.cls ≠ "java/lang/invoke/MethodHandle" ∧ y2.cls ≠ "java/lang/invoke/VarHandle" ∧ (parseMethodDescriptor y2.desc).map (fun d => d.parameters.length) = some n) (hR2 : rm.frames + 1 ≤ R.frames ∧ 8 + (mL2 + 11) + rm.locals ≤ R.locals)
    (hn2 : As.length = n) (hsz : ls.size = mL) (hstack : st0 = As.reverse ++ .ref b :: rest) (hroom : (rest.map fun v => v.category).sum ≤ 8) (hdg : decode bc pc = .ok (.invokevirtual index, 3)) (hcz : rm.cells = 0) (hsl : rm.slots = 0) (hf : cells ≤ R.cells ∧ slots ≤ R.slots)
    (kk : ∀ (v : Option Value) (w' : va_W) (H1 : Heap) (locs1 : List Loc), post2 v w' → mW E A s (wr ++ w') H1 locs1 → W p l e R s m args below meth c H1 locs1 cells slots Q (F0 m (pc + 3) ls (v.toList ++ rest))) : W p l e R s m args below meth c H locs cells slots Q (F0 m pc ls st0) := by
  refine mc_callV (D := mD E) (Z := mZ E) M B.1 (fun _ h => h) B.2.2.2.1 (mZ_ok E) B.2.2.2.2.2.1 B.2.2.2.2.1 w.1 w.2.1 w.2.2 isC isR hC hR hnC hn hdis hc he hw hlk n hd hR2 hn2 hsz hstack hroom hdg (by rw [hcz, hsl]; exact hf) (fun v w' H1 locs1 h1 h2 h3 h4 => ?_)
  rw [hcz, hsl]
  exact kk v w' H1 locs1 h1 ⟨h2, h3, h4⟩
theorem mx_callS (M : MX E l y2 bc2 mL2 rt2 rm As wc post2) (B : mB E y bc mL rt mc ms post p s m args below meth c A Q) (w : mW E A s ws H locs)
    (isC isR : List Nat) (hC : isC.map (fun i => ws[i]?) = wc.map some) (hR : isR.map (fun i => ws[i]?) = wr.map some) (hnC : va_nd isC = true) (hn : va_nd isR = true) (hdis : ∀ i ∈ isR, i ∉ isC)
    (hw : Cond.code y2 bc2 mL2 rt2 ∈ TB ∧ Cond.static y2 ∈ TB ∧ Cond.initialized y2.cls ∈ TB) (hlk : Cond.methodLink y.cls index y2 ∈ TB) (n : Nat)
    (hd : y2.cls ≠ "java/lang/invoke/MethodHandle" ∧ y2.cls ≠ "java/lang/invoke/VarHandle" ∧ (parseMethodDescriptor y2.desc).map (fun d => d.parameters.length) = some n) (hR2 : rm.frames + 1 ≤ R.frames ∧ 8 + (mL2 + 11) + rm.locals ≤ R.locals)
    (hn2 : As.length = n) (hsz : ls.size = mL) (hstack : st0 = As.reverse ++ rest) (hroom : (rest.map fun v => v.category).sum ≤ 8) (hdg : decode bc pc = .ok (.invokestatic index, 3)) (hcz : rm.cells = 0) (hsl : rm.slots = 0) (hf : cells ≤ R.cells ∧ slots ≤ R.slots)
    (kk : ∀ (v : Option Value) (w' : va_W) (H1 : Heap) (locs1 : List Loc), post2 v w' → mW E A s (wr ++ w') H1 locs1 → W p l e R s m args below meth c H1 locs1 cells slots Q (F0 m (pc + 3) ls (v.toList ++ rest))) : W p l e R s m args below meth c H locs cells slots Q (F0 m pc ls st0) := by
  have hts := B.1.2.2.2.2
  have hF := va_free (wc := wc) w.2.1 w.2.2 B.2.2.2.1 isC hC
  have wc1 : mW E A s wc H locs := w.sub isC hnC hC
  have hG : GoodIn TB (.code y2 bc2 mL2 rt2 :: TB) := tb_good (fun _ h => h) hw.1
  refine mc_after (D := mD E) (g := F0 m pc ls st0) (av := As) (va_runS (As := As) (rest := rest) B.1 (M H.size) ⟨callB_of n hts hG rfl rfl rfl (hts _ hw.2.2) (hts _ hlk) hd hR2, hts _ hw.2.1⟩ ⟨mc_blind (mZ_ok E), fun U hU hW => mc_pre (mZ_ok E) B.2.2.2.2.2.1 B.2.2.2.2.1 w.2.2 wc1.1 wc1.2.1 hF U hU hW⟩ rfl hn2 hsz hstack (lv_room hroom) hdg (by rw [hcz, hsl]; exact hf)) w.1 w.2.1 w.2.2 isC isR hC hR hn hdis hF (fun v w' H1 locs1 h1 h2 h3 h4 => ?_)
  rw [hcz, hsl]
  exact kk v w' H1 locs1 h1 ⟨h2, h3, h4⟩
theorem mx_bald (B : mB E y bc mL rt mc ms post p s m args below meth c A Q) (w : mW E A s ws H locs) (q0 : Nat) {n : Nat} {f : Nat → Int32} {i : Int32} (he : ws[q0]? = some (a, .inl (E.2.2.1, n, .inl f))) (hin : vp_in i n) (hdg : decode bc pc = .ok (.baload, 1))
    (kk : ∀ v : Int32, v = f i.toNatClampNeg → W p l e R s m args below meth c H locs cells slots Q (F0 m (pc + 1) ls (.int v :: rest))) : W p l e R s m args below meth c H locs cells slots Q (F0 m pc ls (.int i :: .ref a :: rest)) :=
  va_bald (D := (mD E).1) (cl := (mD E).2.1) (tys := (mD E).2.2) B.1.1 B.1.2.1 B.2.2.2.2.1 w.1 q0 1 he rfl hin hdg (kk _ rfl)
theorem mx_bast (B : mB E y bc mL rt mc ms post p s m args below meth c A Q) (w : mW E A s ws H locs) (q0 : Nat) {n : Nat} {f : Nat → Int32} {i x : Int32} (he : ws[q0]? = some (a, .inl (E.2.2.1, n, .inl f))) (hin : vp_in i n) (hdg : decode bc pc = .ok (.bastore, 1))
    (kk : ∀ (f' : Nat → Int32) (H1 : Heap) (locs1 : List Loc), f' = upd f i.toNatClampNeg (vp_nar .byte x) → mW E A s (ws.set q0 (a, .inl (E.2.2.1, n, .inl f'))) H1 locs1 → W p l e R s m args below meth c H1 locs1 cells slots Q (F0 m (pc + 1) ls rest)) : W p l e R s m args below meth c H locs cells slots Q (F0 m pc ls (.int x :: .int i :: .ref a :: rest)) :=
  va_bast (D := (mD E).1) (cl := (mD E).2.1) (tys := (mD E).2.2) B.1.1 B.1.2.1 B.2.2.2.2.1 w.1 w.2.1 w.2.2 q0 1 he rfl hin hdg (fun H1 locs1 h1 h2 h3 => kk _ H1 locs1 rfl ⟨h1, h2, h3⟩)
/-- a field that isn't an int: its type and that the value is of it -/
def mFz (ci k : Nat) (ty : FieldType) : Prop := ∀ (C : String) (T : u_T) (N : Nat), CL[ci]? = some (C, T, N) → (T k).2.2.2 = false ∧ parseFieldDescriptor (T k).2.2.1 = some ty
theorem mx_putz (B : mB E y bc mL rt mc ms post p s m args below meth c A Q) (w : mW E A s ws H locs) (q0 : Nat) {ci k : Nat} {fs : List Value} {x : Int32} {ty : FieldType} (hF : mF y.cls index ci k) (hFi : mFz ci k ty) (he : ws[q0]? = some (a, .inr (ci, fs))) (hl : k < fs.length) (hn : narrow ty (.int x) = .int x) (hfit : fits ty (.int x) = true) (hdg : decode bc pc = .ok (.putfield index, 3))
    (kk : ∀ (x' : Int32) (H1 : Heap) (locs1 : List Loc), x' = x → mW E A s (ws.set q0 (a, .inr (ci, fs.set k (.int x')))) H1 locs1 → W p l e R s m args below meth c H1 locs1 cells slots Q (F0 m (pc + 3) ls rest)) : W p l e R s m args below meth c H locs cells slots Q (F0 m pc ls (.int x :: .ref a :: rest)) := by
  obtain ⟨C, T, N, ty', hc, hk, hin, hlk, hty, hnm⟩ := hF
  obtain ⟨hfin, hpar⟩ := hFi C T N hc
  exact va_put (D := (mD E).1) (cl := (mD E).2.1) (tys := (mD E).2.2) (Ts := TB) (ty := ty) B.1.1 B.1.2.1 B.1.2.2.2.2 hin ty' hty hnm B.1.2.2.2.1 B.2.2.2.2.1 w.1 w.2.1 w.2.2 q0 he hc k hk (B.1.2.2.2.2 _ hlk) (fun _ h => h) hfin hpar hn hfit hl hdg (fun H1 locs1 h1 h2 h3 => kk x H1 locs1 rfl ⟨h1, h2, h3⟩)
def mFN (own : String) (idx ci k : Nat) : Prop := ∃ (C : String) (T : u_T) (N : Nat) (ty : Nat → FieldType), CL[ci]? = some (C, T, N) ∧ k < N ∧ (∀ w ∈ u_ws C T N, w ∈ TB) ∧ (own = "FrequencyShelf" ∧ (idx, (T k).1, (T k).2.1, (T k).2.2.1) ∈ nestF) ∧ (∀ k, k < N → parseFieldDescriptor (T k).2.2.1 = some (ty k)) ∧ (∀ a, a < N → ∀ b, b < N → a ≠ b → (T a).2.1 ≠ (T b).2.1)
theorem mx_getN (B : mB E y bc mL rt mc ms post p s m args below meth c A Q) (w : mW E A s ws H locs) (q0 : Nat) {ci k : Nat} {fs : List Value} {v : Value} (hF : mFN y.cls index ci k) (he : ws[q0]? = some (a, .inr (ci, fs))) (hv : fs[k]? = some v) (hdg : decode bc pc = .ok (.getfield index, 3))
    (kk : W p l e R s m args below meth c H locs cells slots Q (F0 m (pc + 3) ls (v :: rest))) : W p l e R s m args below meth c H locs cells slots Q (F0 m pc ls (.ref a :: rest)) := by
  obtain ⟨C, T, N, ty, hc, hk, hin, hl, hty, hnm⟩ := hF
  have hn : (Cond.fieldLinkNest y.cls index (T k).1 (T k).2.1 (T k).2.2.1 "FrequencyShelf").before args s = true := by
    rw [hl.1]
    exact va_Nw.use rfl (B.2.2.2.2.2.1.2.2.2.1.1 _ hl.2)
  exact va_getN (D := (mD E).1) (cl := (mD E).2.1) (tys := (mD E).2.2) (Ts := TB) B.1.1 B.1.2.1 B.1.2.2.2.2 hin B.1.2.2.2.1 B.2.2.2.2.1 w.1 q0 he hc k hk hn (fun _ h => h) hv hdg kk
theorem mx_callSN (M : MX E l y2 bc2 mL2 rt2 rm As wc post2) (B : mB E y bc mL rt mc ms post p s m args below meth c A Q) (w : mW E A s ws H locs)
    (isC isR : List Nat) (hC : isC.map (fun i => ws[i]?) = wc.map some) (hR : isR.map (fun i => ws[i]?) = wr.map some) (hnC : va_nd isC = true) (hn : va_nd isR = true) (hdis : ∀ i ∈ isR, i ∉ isC)
    (hw : Cond.code y2 bc2 mL2 rt2 ∈ TB ∧ Cond.static y2 ∈ TB ∧ Cond.initialized y2.cls ∈ TB) (hlk : (y.cls, index) ∈ nestM ∧ y2 = yNest) (n : Nat)
    (hd : y2.cls ≠ "java/lang/invoke/MethodHandle" ∧ y2.cls ≠ "java/lang/invoke/VarHandle" ∧ (parseMethodDescriptor y2.desc).map (fun d => d.parameters.length) = some n) (hR2 : rm.frames + 1 ≤ R.frames ∧ 8 + (mL2 + 11) + rm.locals ≤ R.locals)
    (hn2 : As.length = n) (hsz : ls.size = mL) (hstack : st0 = As.reverse ++ rest) (hroom : (rest.map fun v => v.category).sum ≤ 8) (hdg : decode bc pc = .ok (.invokestatic index, 3)) (hcz : rm.cells = 0) (hsl : rm.slots = 0) (hf : cells ≤ R.cells ∧ slots ≤ R.slots)
    (kk : ∀ (v : Option Value) (w' : va_W) (H1 : Heap) (locs1 : List Loc), post2 v w' → mW E A s (wr ++ w') H1 locs1 → W p l e R s m args below meth c H1 locs1 cells slots Q (F0 m (pc + 3) ls (v.toList ++ rest))) : W p l e R s m args below meth c H locs cells slots Q (F0 m pc ls st0) := by
  have hts := B.1.2.2.2.2
  have hF := va_free (wc := wc) w.2.1 w.2.2 B.2.2.2.1 isC hC
  have wc1 : mW E A s wc H locs := w.sub isC hnC hC
  have hG : GoodIn TB (.code y2 bc2 mL2 rt2 :: TB) := tb_good (fun _ h => h) hw.1
  refine mc_after (D := mD E) (g := F0 m pc ls st0) (av := As) (va_runSN (As := As) (rest := rest) B.1 (M H.size) ⟨va_cnB n hts hG rfl rfl rfl (by rw [hlk.2]; exact B.2.2.2.2.2.1.2.2.2.1.2 _ hlk.1) (hts _ hw.2.2) hd hR2, hts _ hw.2.1, trivial⟩ ⟨mc_blind (mZ_ok E), fun U hU hW => mc_pre (mZ_ok E) B.2.2.2.2.2.1 B.2.2.2.2.1 w.2.2 wc1.1 wc1.2.1 hF U hU hW⟩ rfl hn2 hsz hstack (lv_room hroom) hdg (by rw [hcz, hsl]; exact hf)) w.1 w.2.1 w.2.2 isC isR hC hR hn hdis hF (fun v w' H1 locs1 h1 h2 h3 h4 => ?_)
  rw [hcz, hsl]
  exact kk v w' H1 locs1 h1 ⟨h2, h3, h4⟩
end MBB
/-! ===== words of the decompiled functions ===== -/
def lt {α β : Type} (v : α) (b : α → β) : β := b v
theorem lt_n {α β : Type} {v x : α} {b : α → β} {o : β} (e : x = v) (h : lt v b = o) : b x = o := by subst e; exact h
noncomputable def ck {β : Type} (c : Prop) (b : Option β) : Option β := @ite _ c (Classical.propDecidable c) b none
theorem ck_e {β : Type} {c : Prop} {b : Option β} {o : β} (h : ck c b = some o) : c ∧ b = some o := by
  unfold ck at h
  by_cases hc : c
  · rw [if_pos hc] at h; exact ⟨hc, h⟩
  · rw [if_neg hc] at h; cases h
theorem ck_t {β : Type} {c : Prop} {b : Option β} (hc : c) : ck c b = b := by unfold ck; rw [if_pos hc]
noncomputable def ld {β : Type} (f : Nat → Int32) (n : Nat) (i : Int32) (b : Int32 → Option β) : Option β := ck (vp_in i n) (b (f i.toNatClampNeg))
theorem ld_e {β : Type} {f : Nat → Int32} {n : Nat} {i : Int32} {b : Int32 → Option β} {o : β} (h : ld f n i b = some o) : vp_in i n ∧ ∀ v, v = f i.toNatClampNeg → b v = some o := ⟨(ck_e h).1, fun v e => by subst e; exact (ck_e h).2⟩
theorem ld_t {β : Type} {f : Nat → Int32} {n : Nat} {i : Int32} {b : Int32 → Option β} (hc : vp_in i n) : ld f n i b = b (f i.toNatClampNeg) := ck_t hc
noncomputable def sto {β : Type} (f : Nat → Int32) (n : Nat) (i x : Int32) (b : (Nat → Int32) → Option β) : Option β := ck (vp_in i n) (b (upd f i.toNatClampNeg x))
theorem sto_e {β : Type} {f : Nat → Int32} {n : Nat} {i x : Int32} {b : (Nat → Int32) → Option β} {o : β} (h : sto f n i x b = some o) : vp_in i n ∧ ∀ v, v = upd f i.toNatClampNeg x → b v = some o := ⟨(ck_e h).1, fun v e => by subst e; exact (ck_e h).2⟩
theorem sto_t {β : Type} {f : Nat → Int32} {n : Nat} {i x : Int32} {b : (Nat → Int32) → Option β} (hc : vp_in i n) : sto f n i x b = b (upd f i.toNatClampNeg x) := ck_t hc
def bd {α β : Type} (x : Option α) (f : α → Option β) : Option β := x.bind f
theorem bd_e {α β : Type} {x : Option α} {f : α → Option β} {o : β} (h : bd x f = some o) : ∃ y, x = some y ∧ f y = some o := Option.bind_eq_some_iff.mp h
theorem bd_t {α β : Type} {x : Option α} {f : α → Option β} {y : α} (h : x = some y) : bd x f = f y := by subst h; rfl
theorem it_t {α : Type} {c : Prop} {i : Decidable c} {a b o : α} (hc : c) (h : @ite α c i a b = o) : a = o := by rw [if_pos hc] at h; exact h
theorem it_f {α : Type} {c : Prop} {i : Decidable c} {a b o : α} (hc : ¬ c) (h : @ite α c i a b = o) : b = o := by rw [if_neg hc] at h; exact h
theorem nar_z {x : Int32} (h : x = 0 ∨ x = 1) : narrow .boolean (.int x) = .int x := by rcases h with rfl | rfl <;> rfl
/-- the machine's own words for some operations -/
abbrev ush (x y : Int32) : Int32 := (x.toUInt32 >>> (y.toUInt32 &&& Int32.toUInt32 31)).toInt32
abbrev irm (x y : Int32) : Int32 := x - x / y * y
abbrev imn (x y : Int32) : Int32 := if y < x then y else x
