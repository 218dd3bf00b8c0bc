/-- the words that every warm state keeps -/
def zTb : List Cond := lw_tbl.filter goodWord
theorem zTb_in {w : Cond} (h : w ∈ lw_tbl) (hg : goodWord w = true) : w ∈ zTb := List.mem_filter.mpr ⟨h, hg⟩
theorem zTb_lw {w : Cond} (h : w ∈ zTb) : w ∈ lw_tbl := (List.mem_filter.mp h).1
/-- the words on nest mates -/
def zNs : List Cond := [(Jvm.Cond.methodLinkNest "AllHome" (15 : Nat) ({ cls := "AllHome$Huts", name := "<init>", desc := "()V" } : Jvm.MethodName) "AllHome"), (Jvm.Cond.methodLinkNest "AllHome" (46 : Nat) ({ cls := "AllHome$Acts", name := "<init>", desc := "()V" } : Jvm.MethodName) "AllHome"), (Jvm.Cond.methodLinkNest "AllHome" (58 : Nat) ({ cls := "AllHome$Shelf", name := "<init>", desc := "()V" } : Jvm.MethodName) "AllHome"), (Jvm.Cond.methodLinkNest "AllHome$Rules" (19 : Nat) ({ cls := "AllHome", name := "isKind", desc := "(I)Z" } : Jvm.MethodName) "AllHome"), (Jvm.Cond.fieldLinkNest "AllHome$Rules" (26 : Nat) "AllHome" "FAMILY" "[I" "AllHome"), (Jvm.Cond.methodLinkNest "AllHome$Rules" (108 : Nat) ({ cls := "AllHome", name := "isUnder", desc := "(II)Z" } : Jvm.MethodName) "AllHome"), (Jvm.Cond.methodLinkNest "AllHome$Run" (56 : Nat) ({ cls := "AllHome", name := "isOver", desc := "([I)Z" } : Jvm.MethodName) "AllHome"), (Jvm.Cond.methodLinkNest "AllHome$Orders" (112 : Nat) ({ cls := "AllHome", name := "isOver", desc := "([I)Z" } : Jvm.MethodName) "AllHome"), (Jvm.Cond.methodLinkNest "AllHome$Acts" (33 : Nat) ({ cls := "AllHome", name := "isKind", desc := "(I)Z" } : Jvm.MethodName) "AllHome"), (Jvm.Cond.fieldLinkNest "AllHome$Acts" (37 : Nat) "AllHome" "ABOVE" "[I" "AllHome")]
theorem zNs_in : ∀ w ∈ zNs, w ∈ lw_tbl := by decide +kernel
theorem zNs_on : ∀ w ∈ zNs, w.onTables = true := by decide +kernel
theorem zNs_warm {s U : State} (hW : s.WarmedH U.vm) (h : ∀ w ∈ zNs, va_Nw w s) : ∀ w ∈ zNs, va_Nw w U := by
  unfold zNs at h ⊢
  simp only [List.forall_mem_cons] at h ⊢
  obtain ⟨h0, h1, h2, h3, h4, h5, h6, h7, h8, h9, -⟩ := h
  exact ⟨va_Nw.warmM hW h0, va_Nw.warmM hW h1, va_Nw.warmM hW h2, va_Nw.warmM hW h3, va_Nw.warmF hW h4, va_Nw.warmM hW h5, va_Nw.warmM hW h6, va_Nw.warmM hW h7, va_Nw.warmM hW h8, va_Nw.warmF hW h9, fun _ h => absurd h List.not_mem_nil⟩
-- the classes: names, fields in the order of their numbers here, types; which words of the tables speak of them
def nR0 : String := "AllHome$Acts"
def nT0 : u_T := fun k => match k with
  | 0 => ("AllHome$Acts", "traced", "[I", true)
  | 1 => ("AllHome$Acts", "ran", "I", false)
  | 2 => ("AllHome$Acts", "kind", "I", false)
  | _ => ("AllHome$Acts", "number", "I", false)
def nY0 : Nat → FieldType := fun k => match k with
  | 0 => (.array .int)
  | 1 => .int
  | 2 => .int
  | _ => .int
theorem nN0 : ∀ a, a < 4 → ∀ b, b < 4 → a ≠ b → (nT0 a).2.1 ≠ (nT0 b).2.1 := by decide +kernel
theorem nP0 : ∀ k, k < 4 → parseFieldDescriptor (nT0 k).2.2.1 = some (nY0 k) := by decide +kernel
theorem nI0 : ∀ w ∈ u_ws nR0 nT0 4, w ∈ zTb := by decide +kernel
def nR1 : String := "AllHome$Huts"
def nT1 : u_T := fun k => match k with
  | 0 => ("AllHome$Huts", "goals", "[[I", true)
  | 1 => ("AllHome$Huts", "starts", "[[I", true)
  | 2 => ("AllHome$Huts", "lines", "[I", true)
  | _ => ("AllHome$Huts", "size", "I", false)
def nY1 : Nat → FieldType := fun k => match k with
  | 0 => (.array (.array .int))
  | 1 => (.array (.array .int))
  | 2 => (.array .int)
  | _ => .int
theorem nN1 : ∀ a, a < 4 → ∀ b, b < 4 → a ≠ b → (nT1 a).2.1 ≠ (nT1 b).2.1 := by decide +kernel
theorem nP1 : ∀ k, k < 4 → parseFieldDescriptor (nT1 k).2.2.1 = some (nY1 k) := by decide +kernel
theorem nI1 : ∀ w ∈ u_ws nR1 nT1 4, w ∈ zTb := by decide +kernel
def nR2 : String := "AllHome$Orders"
def nT2 : u_T := fun k => match k with
  | 0 => ("AllHome$Orders", "huts", "LAllHome$Huts;", true)
  | 1 => ("AllHome$Orders", "rules", "LAllHome$Rules;", true)
  | 2 => ("AllHome$Orders", "found", "[[I", true)
  | 3 => ("AllHome$Orders", "prints", "[I", true)
  | 4 => ("AllHome$Orders", "ahead", "[I", true)
  | 5 => ("AllHome$Orders", "stepHere", "[I", true)
  | 6 => ("AllHome$Orders", "depth", "[I", true)
  | 7 => ("AllHome$Orders", "next", "[[I", true)
  | 8 => ("AllHome$Orders", "nexts", "[I", true)
  | 9 => ("AllHome$Orders", "canSay", "[Z", true)
  | 10 => ("AllHome$Orders", "spare", "[I", true)
  | 11 => ("AllHome$Orders", "size", "I", false)
  | 12 => ("AllHome$Orders", "big", "Z", false)
  | _ => ("AllHome$Orders", "explored", "I", false)
def nY2 : Nat → FieldType := fun k => match k with
  | 0 => (.object "AllHome$Huts")
  | 1 => (.object "AllHome$Rules")
  | 2 => (.array (.array .int))
  | 3 => (.array .int)
  | 4 => (.array .int)
  | 5 => (.array .int)
  | 6 => (.array .int)
  | 7 => (.array (.array .int))
  | 8 => (.array .int)
  | 9 => (.array .boolean)
  | 10 => (.array .int)
  | 11 => .int
  | 12 => .boolean
  | _ => .int
theorem nN2 : ∀ a, a < 14 → ∀ b, b < 14 → a ≠ b → (nT2 a).2.1 ≠ (nT2 b).2.1 := by decide +kernel
theorem nP2 : ∀ k, k < 14 → parseFieldDescriptor (nT2 k).2.2.1 = some (nY2 k) := by decide +kernel
theorem nI2 : ∀ w ∈ u_ws nR2 nT2 14, w ∈ zTb := by decide +kernel
def nR3 : String := "AllHome$Rules"
def nT3 : u_T := fun k => match k with
  | 0 => ("AllHome$Rules", "huts", "LAllHome$Huts;", true)
  | 1 => ("AllHome$Rules", "kind", "I", false)
  | _ => ("AllHome$Rules", "family", "I", false)
def nY3 : Nat → FieldType := fun k => match k with
  | 0 => (.object "AllHome$Huts")
  | 1 => .int
  | _ => .int
theorem nN3 : ∀ a, a < 3 → ∀ b, b < 3 → a ≠ b → (nT3 a).2.1 ≠ (nT3 b).2.1 := by decide +kernel
theorem nP3 : ∀ k, k < 3 → parseFieldDescriptor (nT3 k).2.2.1 = some (nY3 k) := by decide +kernel
theorem nI3 : ∀ w ∈ u_ws nR3 nT3 3, w ∈ zTb := by decide +kernel
def nR4 : String := "AllHome$Run"
def nT4 : u_T := fun k => match k with
  | 0 => ("AllHome$Run", "rules", "LAllHome$Rules;", true)
  | 1 => ("AllHome$Run", "cells", "[I", true)
  | 2 => ("AllHome$Run", "way", "I", false)
  | 3 => ("AllHome$Run", "done", "I", false)
  | 4 => ("AllHome$Run", "saidAt", "I", false)
  | _ => ("AllHome$Run", "overAt", "I", false)
def nY4 : Nat → FieldType := fun k => match k with
  | 0 => (.object "AllHome$Rules")
  | 1 => (.array .int)
  | 2 => .int
  | 3 => .int
  | 4 => .int
  | _ => .int
theorem nN4 : ∀ a, a < 6 → ∀ b, b < 6 → a ≠ b → (nT4 a).2.1 ≠ (nT4 b).2.1 := by decide +kernel
theorem nP4 : ∀ k, k < 6 → parseFieldDescriptor (nT4 k).2.2.1 = some (nY4 k) := by decide +kernel
theorem nI4 : ∀ w ∈ u_ws nR4 nT4 6, w ∈ zTb := by decide +kernel
def nR5 : String := "AllHome$Shelf"
def nT5 : u_T := fun k => match k with
  | 0 => ("AllHome$Shelf", "elements", "[J", true)
  | 1 => ("AllHome$Shelf", "length", "I", false)
  | 2 => ("AllHome$Shelf", "sort", "I", false)
  | _ => ("AllHome$Shelf", "way", "I", false)
def nY5 : Nat → FieldType := fun k => match k with
  | 0 => (.array .long)
  | 1 => .int
  | 2 => .int
  | _ => .int
theorem nN5 : ∀ a, a < 4 → ∀ b, b < 4 → a ≠ b → (nT5 a).2.1 ≠ (nT5 b).2.1 := by decide +kernel
theorem nP5 : ∀ k, k < 4 → parseFieldDescriptor (nT5 k).2.2.1 = some (nY5 k) := by decide +kernel
theorem nI5 : ∀ w ∈ u_ws nR5 nT5 4, w ∈ zTb := by decide +kernel
def nR6 : String := "AllHome"
def nT6 : u_T := fun k => match k with
  | 0 => ("AllHome", "tape", "[I", true)
  | 1 => ("AllHome", "tapeLength", "I", false)
  | 2 => ("AllHome", "huts", "LAllHome$Huts;", true)
  | 3 => ("AllHome", "kinds", "[I", true)
  | 4 => ("AllHome", "ways", "I", false)
  | 5 => ("AllHome", "runs", "[LAllHome$Run;", true)
  | 6 => ("AllHome", "runsBegun", "I", false)
  | 7 => ("AllHome", "spare", "[I", true)
  | 8 => ("AllHome", "orders", "LAllHome$Orders;", true)
  | 9 => ("AllHome", "plainOrders", "LAllHome$Orders;", true)
  | 10 => ("AllHome", "acts", "LAllHome$Acts;", true)
  | _ => ("AllHome", "shelves", "[LAllHome$Shelf;", true)
def nY6 : Nat → FieldType := fun k => match k with
  | 0 => (.array .int)
  | 1 => .int
  | 2 => (.object "AllHome$Huts")
  | 3 => (.array .int)
  | 4 => .int
  | 5 => (.array (.object "AllHome$Run"))
  | 6 => .int
  | 7 => (.array .int)
  | 8 => (.object "AllHome$Orders")
  | 9 => (.object "AllHome$Orders")
  | 10 => (.object "AllHome$Acts")
  | _ => (.array (.object "AllHome$Shelf"))
theorem nN6 : ∀ a, a < 12 → ∀ b, b < 12 → a ≠ b → (nT6 a).2.1 ≠ (nT6 b).2.1 := by decide +kernel
theorem nP6 : ∀ k, k < 12 → parseFieldDescriptor (nT6 k).2.2.1 = some (nY6 k) := by decide +kernel
theorem nI6 : ∀ w ∈ u_ws nR6 nT6 12, w ∈ zTb := by decide +kernel
def nR7 : String := "AllHomeModel"
def nT7 : u_T := fun k => match k with
  | 0 => ("AllHomeModel", "tape", "[I", true)
  | 1 => ("AllHomeModel", "tapeMany", "I", false)
  | 2 => ("AllHomeModel", "text", "[I", true)
  | 3 => ("AllHomeModel", "textMany", "[I", true)
  | 4 => ("AllHomeModel", "huts", "I", false)
  | 5 => ("AllHomeModel", "kind", "[I", true)
  | 6 => ("AllHomeModel", "ways", "I", false)
  | 7 => ("AllHomeModel", "now", "[I", true)
  | 8 => ("AllHomeModel", "sentWords", "I", false)
  | 9 => ("AllHomeModel", "sentNotes", "I", false)
  | 10 => ("AllHomeModel", "by", "I", false)
  | 11 => ("AllHomeModel", "isFull", "Z", false)
  | 12 => ("AllHomeModel", "kept", "[I", true)
  | 13 => ("AllHomeModel", "runWay", "[I", true)
  | 14 => ("AllHomeModel", "runSteps", "[I", true)
  | 15 => ("AllHomeModel", "runWords", "[I", true)
  | 16 => ("AllHomeModel", "runNotes", "[I", true)
  | 17 => ("AllHomeModel", "saidAt", "[I", true)
  | 18 => ("AllHomeModel", "overAt", "[I", true)
  | 19 => ("AllHomeModel", "runs", "I", false)
  | 20 => ("AllHomeModel", "found", "[I", true)
  | 21 => ("AllHomeModel", "ahead", "[I", true)
  | 22 => ("AllHomeModel", "byStep", "[I", true)
  | 23 => ("AllHomeModel", "canSay", "[Z", true)
  | 24 => ("AllHomeModel", "leads", "[Z", true)
  | 25 => ("AllHomeModel", "foundMany", "I", false)
  | 26 => ("AllHomeModel", "trace", "[I", true)
  | 27 => ("AllHomeModel", "ran", "I", false)
  | 28 => ("AllHomeModel", "acting", "I", false)
  | 29 => ("AllHomeModel", "shelf", "[I", true)
  | 30 => ("AllHomeModel", "many", "[I", true)
  | 31 => ("AllHomeModel", "items", "[J", true)
  | _ => ("AllHomeModel", "carried", "[J", true)
def nY7 : Nat → FieldType := fun k => match k with
  | 0 => (.array .int)
  | 1 => .int
  | 2 => (.array .int)
  | 3 => (.array .int)
  | 4 => .int
  | 5 => (.array .int)
  | 6 => .int
  | 7 => (.array .int)
  | 8 => .int
  | 9 => .int
  | 10 => .int
  | 11 => .boolean
  | 12 => (.array .int)
  | 13 => (.array .int)
  | 14 => (.array .int)
  | 15 => (.array .int)
  | 16 => (.array .int)
  | 17 => (.array .int)
  | 18 => (.array .int)
  | 19 => .int
  | 20 => (.array .int)
  | 21 => (.array .int)
  | 22 => (.array .int)
  | 23 => (.array .boolean)
  | 24 => (.array .boolean)
  | 25 => .int
  | 26 => (.array .int)
  | 27 => .int
  | 28 => .int
  | 29 => (.array .int)
  | 30 => (.array .int)
  | 31 => (.array .long)
  | _ => (.array .long)
theorem nN7 : ∀ a, a < 33 → ∀ b, b < 33 → a ≠ b → (nT7 a).2.1 ≠ (nT7 b).2.1 := by decide +kernel
theorem nP7 : ∀ k, k < 33 → parseFieldDescriptor (nT7 k).2.2.1 = some (nY7 k) := by decide +kernel
theorem nI7 : ∀ w ∈ u_ws nR7 nT7 33, w ∈ zTb := by decide +kernel
abbrev zCl : List vw_C := [(nR0, nT0, 4), (nR1, nT1, 4), (nR2, nT2, 14), (nR3, nT3, 3), (nR4, nT4, 6), (nR5, nT5, 4), (nR6, nT6, 12), (nR7, nT7, 33)]
