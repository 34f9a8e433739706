/-! The program, printed by a program out of the words of the Statement: classes with their fields, methods, links. -/
def RX0 : String := "DictionaryHouse$Checker"
def TX0 : u_T := fun k => match k with
  | 0 => ("DictionaryHouse$Checker", "types", "LDictionaryHouse$TypeTable;", true)
  | 1 => ("DictionaryHouse$Checker", "classes", "LDictionaryHouse$ClassTable;", true)
  | 2 => ("DictionaryHouse$Checker", "definitions", "LDictionaryHouse$Definitions;", true)
  | 3 => ("DictionaryHouse$Checker", "typing", "LDictionaryHouse$Typing;", true)
  | 4 => ("DictionaryHouse$Checker", "plans", "LDictionaryHouse$Plans;", true)
  | 5 => ("DictionaryHouse$Checker", "graph", "LDictionaryHouse$Graph;", true)
  | 6 => ("DictionaryHouse$Checker", "conditions", "LDictionaryHouse$Conditions;", true)
  | 7 => ("DictionaryHouse$Checker", "remaining", "[I", true)
  | _ => ("DictionaryHouse$Checker", "typeOfNode", "[I", true)
def tyX0 : Nat → FieldType := fun k => match k with
  | 0 => .object "DictionaryHouse$TypeTable"
  | 1 => .object "DictionaryHouse$ClassTable"
  | 2 => .object "DictionaryHouse$Definitions"
  | 3 => .object "DictionaryHouse$Typing"
  | 4 => .object "DictionaryHouse$Plans"
  | 5 => .object "DictionaryHouse$Graph"
  | 6 => .object "DictionaryHouse$Conditions"
  | 7 => .array .int
  | _ => .array .int
abbrev wsX00 : List Cond := u_ws RX0 TX0 9
theorem nmX0 : ∀ a, a < 9 → ∀ b, b < 9 → a ≠ b → (TX0 a).2.1 ≠ (TX0 b).2.1 := by decide +kernel
theorem tyX0_ok : ∀ k, k < 9 → parseFieldDescriptor (TX0 k).2.2.1 = some (tyX0 k) := by decide +kernel
def RX1 : String := "DictionaryHouse$ClassTable"
def TX1 : u_T := fun k => match k with
  | 0 => ("DictionaryHouse$ClassTable", "above", "[I", true)
  | 1 => ("DictionaryHouse$ClassTable", "methods", "[I", true)
  | 2 => ("DictionaryHouse$ClassTable", "methodType", "[I", true)
  | 3 => ("DictionaryHouse$ClassTable", "present", "[Z", true)
  | 4 => ("DictionaryHouse$ClassTable", "context", "[I", true)
  | 5 => ("DictionaryHouse$ClassTable", "body", "[I", true)
  | _ => ("DictionaryHouse$ClassTable", "count", "I", false)
def tyX1 : Nat → FieldType := fun k => match k with
  | 0 => .array .int
  | 1 => .array .int
  | 2 => .array .int
  | 3 => .array .boolean
  | 4 => .array .int
  | 5 => .array .int
  | _ => .int
abbrev wsX10 : List Cond := u_ws RX1 TX1 7
theorem nmX1 : ∀ a, a < 7 → ∀ b, b < 7 → a ≠ b → (TX1 a).2.1 ≠ (TX1 b).2.1 := by decide +kernel
theorem tyX1_ok : ∀ k, k < 7 → parseFieldDescriptor (TX1 k).2.2.1 = some (tyX1 k) := by decide +kernel
def RX2 : String := "DictionaryHouse$Conditions"
def TX2 : u_T := fun k => match k with
  | 0 => ("DictionaryHouse$Conditions", "classes", "LDictionaryHouse$ClassTable;", true)
  | 1 => ("DictionaryHouse$Conditions", "definitions", "LDictionaryHouse$Definitions;", true)
  | 2 => ("DictionaryHouse$Conditions", "typing", "LDictionaryHouse$Typing;", true)
  | 3 => ("DictionaryHouse$Conditions", "graph", "LDictionaryHouse$Graph;", true)
  | 4 => ("DictionaryHouse$Conditions", "classesOf", "[I", true)
  | 5 => ("DictionaryHouse$Conditions", "contextOfFixed", "I", false)
  | 6 => ("DictionaryHouse$Conditions", "unfulfilled", "Z", false)
  | 7 => ("DictionaryHouse$Conditions", "stray", "Z", false)
  | _ => ("DictionaryHouse$Conditions", "far", "Z", false)
def tyX2 : Nat → FieldType := fun k => match k with
  | 0 => .object "DictionaryHouse$ClassTable"
  | 1 => .object "DictionaryHouse$Definitions"
  | 2 => .object "DictionaryHouse$Typing"
  | 3 => .object "DictionaryHouse$Graph"
  | 4 => .array .int
  | 5 => .int
  | 6 => .boolean
  | 7 => .boolean
  | _ => .boolean
abbrev wsX20 : List Cond := u_ws RX2 TX2 9
theorem nmX2 : ∀ a, a < 9 → ∀ b, b < 9 → a ≠ b → (TX2 a).2.1 ≠ (TX2 b).2.1 := by decide +kernel
theorem tyX2_ok : ∀ k, k < 9 → parseFieldDescriptor (TX2 k).2.2.1 = some (tyX2 k) := by decide +kernel
def RX3 : String := "DictionaryHouse$Definitions"
def TX3 : u_T := fun k => match k with
  | 0 => ("DictionaryHouse$Definitions", "expression", "[I", true)
  | 1 => ("DictionaryHouse$Definitions", "type", "[I", true)
  | 2 => ("DictionaryHouse$Definitions", "conditions", "[I", true)
  | 3 => ("DictionaryHouse$Definitions", "condition", "[I", true)
  | _ => ("DictionaryHouse$Definitions", "count", "I", false)
def tyX3 : Nat → FieldType := fun k => match k with
  | 0 => .array .int
  | 1 => .array .int
  | 2 => .array .int
  | 3 => .array .int
  | _ => .int
abbrev wsX30 : List Cond := u_ws RX3 TX3 5
theorem nmX3 : ∀ a, a < 5 → ∀ b, b < 5 → a ≠ b → (TX3 a).2.1 ≠ (TX3 b).2.1 := by decide +kernel
theorem tyX3_ok : ∀ k, k < 5 → parseFieldDescriptor (TX3 k).2.2.1 = some (tyX3 k) := by decide +kernel
def RX4 : String := "DictionaryHouse$Expressions"
def TX4 : u_T := fun k => match k with
  | 0 => ("DictionaryHouse$Expressions", "kind", "[I", true)
  | 1 => ("DictionaryHouse$Expressions", "first", "[I", true)
  | 2 => ("DictionaryHouse$Expressions", "second", "[I", true)
  | 3 => ("DictionaryHouse$Expressions", "places", "[I", true)
  | _ => ("DictionaryHouse$Expressions", "count", "I", false)
def tyX4 : Nat → FieldType := fun k => match k with
  | 0 => .array .int
  | 1 => .array .int
  | 2 => .array .int
  | 3 => .array .int
  | _ => .int
abbrev wsX40 : List Cond := u_ws RX4 TX4 5
theorem nmX4 : ∀ a, a < 5 → ∀ b, b < 5 → a ≠ b → (TX4 a).2.1 ≠ (TX4 b).2.1 := by decide +kernel
theorem tyX4_ok : ∀ k, k < 5 → parseFieldDescriptor (TX4 k).2.2.1 = some (tyX4 k) := by decide +kernel
def RX5 : String := "DictionaryHouse$Graph"
def TX5 : u_T := fun k => match k with
  | 0 => ("DictionaryHouse$Graph", "kind", "[I", true)
  | 1 => ("DictionaryHouse$Graph", "left", "[I", true)
  | 2 => ("DictionaryHouse$Graph", "right", "[I", true)
  | 3 => ("DictionaryHouse$Graph", "link", "[I", true)
  | 4 => ("DictionaryHouse$Graph", "users", "[I", true)
  | 5 => ("DictionaryHouse$Graph", "variableNumber", "[I", true)
  | 6 => ("DictionaryHouse$Graph", "variable", "[I", true)
  | 7 => ("DictionaryHouse$Graph", "waiting", "[I", true)
  | 8 => ("DictionaryHouse$Graph", "count", "I", false)
  | _ => ("DictionaryHouse$Graph", "variableCount", "I", false)
def tyX5 : Nat → FieldType := fun k => match k with
  | 0 => .array .int
  | 1 => .array .int
  | 2 => .array .int
  | 3 => .array .int
  | 4 => .array .int
  | 5 => .array .int
  | 6 => .array .int
  | 7 => .array .int
  | 8 => .int
  | _ => .int
abbrev wsX50 : List Cond := u_ws RX5 TX5 10
theorem nmX5 : ∀ a, a < 10 → ∀ b, b < 10 → a ≠ b → (TX5 a).2.1 ≠ (TX5 b).2.1 := by decide +kernel
theorem tyX5_ok : ∀ k, k < 10 → parseFieldDescriptor (TX5 k).2.2.1 = some (tyX5 k) := by decide +kernel
def RX6 : String := "DictionaryHouse$Heap"
def TX6 : u_T := fun k => match k with
  | 0 => ("DictionaryHouse$Heap", "cells", "[I", true)
  | 1 => ("DictionaryHouse$Heap", "frames", "[I", true)
  | 2 => ("DictionaryHouse$Heap", "cellCount", "I", false)
  | _ => ("DictionaryHouse$Heap", "frameCount", "I", false)
def tyX6 : Nat → FieldType := fun k => match k with
  | 0 => .array .int
  | 1 => .array .int
  | 2 => .int
  | _ => .int
abbrev wsX60 : List Cond := u_ws RX6 TX6 4
theorem nmX6 : ∀ a, a < 4 → ∀ b, b < 4 → a ≠ b → (TX6 a).2.1 ≠ (TX6 b).2.1 := by decide +kernel
theorem tyX6_ok : ∀ k, k < 4 → parseFieldDescriptor (TX6 k).2.2.1 = some (tyX6 k) := by decide +kernel
def RX7 : String := "DictionaryHouse$Machine"
def TX7 : u_T := fun k => match k with
  | 0 => ("DictionaryHouse$Machine", "classes", "LDictionaryHouse$ClassTable;", true)
  | 1 => ("DictionaryHouse$Machine", "expressions", "LDictionaryHouse$Expressions;", true)
  | 2 => ("DictionaryHouse$Machine", "definitions", "LDictionaryHouse$Definitions;", true)
  | 3 => ("DictionaryHouse$Machine", "plans", "LDictionaryHouse$Plans;", true)
  | 4 => ("DictionaryHouse$Machine", "heap", "LDictionaryHouse$Heap;", true)
  | 5 => ("DictionaryHouse$Machine", "waiting", "[I", true)
  | 6 => ("DictionaryHouse$Machine", "waitingCount", "I", false)
  | 7 => ("DictionaryHouse$Machine", "steps", "I", false)
  | 8 => ("DictionaryHouse$Machine", "limit", "I", false)
  | 9 => ("DictionaryHouse$Machine", "stopped", "Z", false)
  | 10 => ("DictionaryHouse$Machine", "expression", "I", false)
  | 11 => ("DictionaryHouse$Machine", "spot", "I", false)
  | 12 => ("DictionaryHouse$Machine", "environment", "I", false)
  | 13 => ("DictionaryHouse$Machine", "frame", "I", false)
  | 14 => ("DictionaryHouse$Machine", "value", "I", false)
  | 15 => ("DictionaryHouse$Machine", "shown", "[I", true)
  | _ => ("DictionaryHouse$Machine", "shownCount", "I", false)
def tyX7 : Nat → FieldType := fun k => match k with
  | 0 => .object "DictionaryHouse$ClassTable"
  | 1 => .object "DictionaryHouse$Expressions"
  | 2 => .object "DictionaryHouse$Definitions"
  | 3 => .object "DictionaryHouse$Plans"
  | 4 => .object "DictionaryHouse$Heap"
  | 5 => .array .int
  | 6 => .int
  | 7 => .int
  | 8 => .int
  | 9 => .boolean
  | 10 => .int
  | 11 => .int
  | 12 => .int
  | 13 => .int
  | 14 => .int
  | 15 => .array .int
  | _ => .int
abbrev wsX70 : List Cond := u_ws RX7 TX7 17
theorem nmX7 : ∀ a, a < 17 → ∀ b, b < 17 → a ≠ b → (TX7 a).2.1 ≠ (TX7 b).2.1 := by decide +kernel
theorem tyX7_ok : ∀ k, k < 17 → parseFieldDescriptor (TX7 k).2.2.1 = some (tyX7 k) := by decide +kernel
def RX8 : String := "DictionaryHouse$Plans"
def TX8 : u_T := fun k => match k with
  | _ => ("DictionaryHouse$Plans", "planned", "[I", true)
def tyX8 : Nat → FieldType := fun k => match k with
  | _ => .array .int
abbrev wsX80 : List Cond := u_ws RX8 TX8 1
theorem nmX8 : ∀ a, a < 1 → ∀ b, b < 1 → a ≠ b → (TX8 a).2.1 ≠ (TX8 b).2.1 := by decide +kernel
theorem tyX8_ok : ∀ k, k < 1 → parseFieldDescriptor (TX8 k).2.2.1 = some (tyX8 k) := by decide +kernel
def RX9 : String := "DictionaryHouse$TypeTable"
def TX9 : u_T := fun k => match k with
  | 0 => ("DictionaryHouse$TypeTable", "left", "[I", true)
  | 1 => ("DictionaryHouse$TypeTable", "right", "[I", true)
  | 2 => ("DictionaryHouse$TypeTable", "variables", "[I", true)
  | _ => ("DictionaryHouse$TypeTable", "count", "I", false)
def tyX9 : Nat → FieldType := fun k => match k with
  | 0 => .array .int
  | 1 => .array .int
  | 2 => .array .int
  | _ => .int
abbrev wsX90 : List Cond := u_ws RX9 TX9 4
theorem nmX9 : ∀ a, a < 4 → ∀ b, b < 4 → a ≠ b → (TX9 a).2.1 ≠ (TX9 b).2.1 := by decide +kernel
theorem tyX9_ok : ∀ k, k < 4 → parseFieldDescriptor (TX9 k).2.2.1 = some (tyX9 k) := by decide +kernel
def RX10 : String := "DictionaryHouse$Typing"
def TX10 : u_T := fun k => match k with
  | 0 => ("DictionaryHouse$Typing", "types", "LDictionaryHouse$TypeTable;", true)
  | 1 => ("DictionaryHouse$Typing", "classes", "LDictionaryHouse$ClassTable;", true)
  | 2 => ("DictionaryHouse$Typing", "expressions", "LDictionaryHouse$Expressions;", true)
  | 3 => ("DictionaryHouse$Typing", "definitions", "LDictionaryHouse$Definitions;", true)
  | 4 => ("DictionaryHouse$Typing", "graph", "LDictionaryHouse$Graph;", true)
  | 5 => ("DictionaryHouse$Typing", "expressionAt", "[I", true)
  | 6 => ("DictionaryHouse$Typing", "lambdaAround", "[I", true)
  | 7 => ("DictionaryHouse$Typing", "typeAt", "[I", true)
  | 8 => ("DictionaryHouse$Typing", "argumentAt", "[I", true)
  | 9 => ("DictionaryHouse$Typing", "filling", "[I", true)
  | 10 => ("DictionaryHouse$Typing", "fillings", "[I", true)
  | 11 => ("DictionaryHouse$Typing", "nodeOfType", "[I", true)
  | 12 => ("DictionaryHouse$Typing", "wanted", "[Z", true)
  | _ => ("DictionaryHouse$Typing", "places", "I", false)
def tyX10 : Nat → FieldType := fun k => match k with
  | 0 => .object "DictionaryHouse$TypeTable"
  | 1 => .object "DictionaryHouse$ClassTable"
  | 2 => .object "DictionaryHouse$Expressions"
  | 3 => .object "DictionaryHouse$Definitions"
  | 4 => .object "DictionaryHouse$Graph"
  | 5 => .array .int
  | 6 => .array .int
  | 7 => .array .int
  | 8 => .array .int
  | 9 => .array .int
  | 10 => .array .int
  | 11 => .array .int
  | 12 => .array .boolean
  | _ => .int
abbrev wsX100 : List Cond := u_ws RX10 TX10 14
theorem nmX10 : ∀ a, a < 14 → ∀ b, b < 14 → a ≠ b → (TX10 a).2.1 ≠ (TX10 b).2.1 := by decide +kernel
theorem tyX10_ok : ∀ k, k < 14 → parseFieldDescriptor (TX10 k).2.2.1 = some (tyX10 k) := by decide +kernel
def RX11 : String := "DictionaryHouse"
def TX11 : u_T := fun k => match k with
  | 0 => ("DictionaryHouse", "types", "LDictionaryHouse$TypeTable;", true)
  | 1 => ("DictionaryHouse", "classes", "LDictionaryHouse$ClassTable;", true)
  | 2 => ("DictionaryHouse", "expressions", "LDictionaryHouse$Expressions;", true)
  | 3 => ("DictionaryHouse", "definitions", "LDictionaryHouse$Definitions;", true)
  | 4 => ("DictionaryHouse", "checker", "LDictionaryHouse$Checker;", true)
  | _ => ("DictionaryHouse", "machine", "LDictionaryHouse$Machine;", true)
def tyX11 : Nat → FieldType := fun k => match k with
  | 0 => .object "DictionaryHouse$TypeTable"
  | 1 => .object "DictionaryHouse$ClassTable"
  | 2 => .object "DictionaryHouse$Expressions"
  | 3 => .object "DictionaryHouse$Definitions"
  | 4 => .object "DictionaryHouse$Checker"
  | _ => .object "DictionaryHouse$Machine"
abbrev wsX110 : List Cond := u_ws RX11 TX11 6
theorem nmX11 : ∀ a, a < 6 → ∀ b, b < 6 → a ≠ b → (TX11 a).2.1 ≠ (TX11 b).2.1 := by decide +kernel
theorem tyX11_ok : ∀ k, k < 6 → parseFieldDescriptor (TX11 k).2.2.1 = some (tyX11 k) := by decide +kernel
def RX12 : String := "DictionaryHouseModel"
def TX12 : u_T := fun k => match k with
  | 0 => ("DictionaryHouseModel", "thrown", "I", false)
  | 1 => ("DictionaryHouseModel", "types", "I", false)
  | 2 => ("DictionaryHouseModel", "typeKind", "[I", true)
  | 3 => ("DictionaryHouseModel", "typeA", "[I", true)
  | 4 => ("DictionaryHouseModel", "typeB", "[I", true)
  | 5 => ("DictionaryHouseModel", "classes", "I", false)
  | 6 => ("DictionaryHouseModel", "above", "[I", true)
  | 7 => ("DictionaryHouseModel", "methods", "[I", true)
  | 8 => ("DictionaryHouseModel", "methodType", "[I", true)
  | 9 => ("DictionaryHouseModel", "isInstance", "[Z", true)
  | 10 => ("DictionaryHouseModel", "contextOf", "[I", true)
  | 11 => ("DictionaryHouseModel", "methodExpression", "[I", true)
  | 12 => ("DictionaryHouseModel", "expressions", "I", false)
  | 13 => ("DictionaryHouseModel", "kind", "[I", true)
  | 14 => ("DictionaryHouseModel", "first", "[I", true)
  | 15 => ("DictionaryHouseModel", "second", "[I", true)
  | 16 => ("DictionaryHouseModel", "size", "[I", true)
  | 17 => ("DictionaryHouseModel", "definitions", "I", false)
  | 18 => ("DictionaryHouseModel", "definition", "[I", true)
  | 19 => ("DictionaryHouseModel", "schemeType", "[I", true)
  | 20 => ("DictionaryHouseModel", "schemeVariables", "[I", true)
  | 21 => ("DictionaryHouseModel", "conditions", "[I", true)
  | 22 => ("DictionaryHouseModel", "condition", "[I", true)
  | 23 => ("DictionaryHouseModel", "termAt", "[I", true)
  | 24 => ("DictionaryHouseModel", "terms", "I", false)
  | 25 => ("DictionaryHouseModel", "termKind", "[I", true)
  | 26 => ("DictionaryHouseModel", "termA", "[I", true)
  | 27 => ("DictionaryHouseModel", "termB", "[I", true)
  | 28 => ("DictionaryHouseModel", "nodes", "I", false)
  | 29 => ("DictionaryHouseModel", "nodeKind", "[I", true)
  | 30 => ("DictionaryHouseModel", "nodeA", "[I", true)
  | 31 => ("DictionaryHouseModel", "nodeB", "[I", true)
  | 32 => ("DictionaryHouseModel", "link", "[I", true)
  | 33 => ("DictionaryHouseModel", "mark", "[I", true)
  | 34 => ("DictionaryHouseModel", "numberOf", "[I", true)
  | 35 => ("DictionaryHouseModel", "todo", "[I", true)
  | 36 => ("DictionaryHouseModel", "copyOf", "[I", true)
  | 37 => ("DictionaryHouseModel", "placeExpression", "[I", true)
  | 38 => ("DictionaryHouseModel", "placeNode", "[I", true)
  | 39 => ("DictionaryHouseModel", "placeAround", "[I", true)
  | 40 => ("DictionaryHouseModel", "argument", "[I", true)
  | 41 => ("DictionaryHouseModel", "standing", "[I", true)
  | 42 => ("DictionaryHouseModel", "standCount", "[I", true)
  | 43 => ("DictionaryHouseModel", "wanted", "I", false)
  | 44 => ("DictionaryHouseModel", "wantedClass", "[I", true)
  | 45 => ("DictionaryHouseModel", "wantedNode", "[I", true)
  | 46 => ("DictionaryHouseModel", "places", "I", false)
  | 47 => ("DictionaryHouseModel", "unfulfilled", "Z", false)
  | 48 => ("DictionaryHouseModel", "left", "Z", false)
  | 49 => ("DictionaryHouseModel", "tooDeep", "Z", false)
  | 50 => ("DictionaryHouseModel", "varCount", "I", false)
  | 51 => ("DictionaryHouseModel", "varNode", "[I", true)
  | 52 => ("DictionaryHouseModel", "varBits", "[I", true)
  | 53 => ("DictionaryHouseModel", "given", "I", false)
  | 54 => ("DictionaryHouseModel", "hasValue", "Z", false)
  | 55 => ("DictionaryHouseModel", "isList", "Z", false)
  | 56 => ("DictionaryHouseModel", "valueCount", "I", false)
  | 57 => ("DictionaryHouseModel", "values", "[I", true)
  | 58 => ("DictionaryHouseModel", "steps", "I", false)
  | 59 => ("DictionaryHouseModel", "limit", "I", false)
  | 60 => ("DictionaryHouseModel", "spent", "Z", false)
  | 61 => ("DictionaryHouseModel", "cells", "I", false)
  | 62 => ("DictionaryHouseModel", "cellKind", "[I", true)
  | 63 => ("DictionaryHouseModel", "cellA", "[I", true)
  | 64 => ("DictionaryHouseModel", "cellB", "[I", true)
  | 65 => ("DictionaryHouseModel", "cellC", "[I", true)
  | 66 => ("DictionaryHouseModel", "cellD", "[I", true)
  | 67 => ("DictionaryHouseModel", "cellE", "[I", true)
  | 68 => ("DictionaryHouseModel", "environments", "I", false)
  | 69 => ("DictionaryHouseModel", "environmentTerm", "[I", true)
  | 70 => ("DictionaryHouseModel", "environmentOf", "[I", true)
  | 71 => ("DictionaryHouseModel", "tasks", "I", false)
  | 72 => ("DictionaryHouseModel", "taskKind", "[I", true)
  | 73 => ("DictionaryHouseModel", "taskA", "[I", true)
  | 74 => ("DictionaryHouseModel", "taskB", "[I", true)
  | 75 => ("DictionaryHouseModel", "taskC", "[I", true)
  | 76 => ("DictionaryHouseModel", "taskD", "[I", true)
  | 77 => ("DictionaryHouseModel", "taskE", "[I", true)
  | 78 => ("DictionaryHouseModel", "result", "I", false)
  | 79 => ("DictionaryHouseModel", "headTerm", "I", false)
  | _ => ("DictionaryHouseModel", "headOf", "I", false)
def tyX12 : Nat → FieldType := fun k => match k with
  | 0 => .int
  | 1 => .int
  | 2 => .array .int
  | 3 => .array .int
  | 4 => .array .int
  | 5 => .int
  | 6 => .array .int
  | 7 => .array .int
  | 8 => .array .int
  | 9 => .array .boolean
  | 10 => .array .int
  | 11 => .array .int
  | 12 => .int
  | 13 => .array .int
  | 14 => .array .int
  | 15 => .array .int
  | 16 => .array .int
  | 17 => .int
  | 18 => .array .int
  | 19 => .array .int
  | 20 => .array .int
  | 21 => .array .int
  | 22 => .array .int
  | 23 => .array .int
  | 24 => .int
  | 25 => .array .int
  | 26 => .array .int
  | 27 => .array .int
  | 28 => .int
  | 29 => .array .int
  | 30 => .array .int
  | 31 => .array .int
  | 32 => .array .int
  | 33 => .array .int
  | 34 => .array .int
  | 35 => .array .int
  | 36 => .array .int
  | 37 => .array .int
  | 38 => .array .int
  | 39 => .array .int
  | 40 => .array .int
  | 41 => .array .int
  | 42 => .array .int
  | 43 => .int
  | 44 => .array .int
  | 45 => .array .int
  | 46 => .int
  | 47 => .boolean
  | 48 => .boolean
  | 49 => .boolean
  | 50 => .int
  | 51 => .array .int
  | 52 => .array .int
  | 53 => .int
  | 54 => .boolean
  | 55 => .boolean
  | 56 => .int
  | 57 => .array .int
  | 58 => .int
  | 59 => .int
  | 60 => .boolean
  | 61 => .int
  | 62 => .array .int
  | 63 => .array .int
  | 64 => .array .int
  | 65 => .array .int
  | 66 => .array .int
  | 67 => .array .int
  | 68 => .int
  | 69 => .array .int
  | 70 => .array .int
  | 71 => .int
  | 72 => .array .int
  | 73 => .array .int
  | 74 => .array .int
  | 75 => .array .int
  | 76 => .array .int
  | 77 => .array .int
  | 78 => .int
  | 79 => .int
  | _ => .int
abbrev wsX120 : List Cond := u_ws RX12 TX12 81
theorem nmX12 : ∀ a, a < 81 → ∀ b, b < 81 → a ≠ b → (TX12 a).2.1 ≠ (TX12 b).2.1 := by decide +kernel
theorem tyX12_ok : ∀ k, k < 81 → parseFieldDescriptor (TX12 k).2.2.1 = some (tyX12 k) := by decide +kernel
def pgCl : List vw_C := [(RX0, TX0, 9), (RX1, TX1, 7), (RX2, TX2, 9), (RX3, TX3, 5), (RX4, TX4, 5), (RX5, TX5, 10), (RX6, TX6, 4), (RX7, TX7, 17), (RX8, TX8, 1), (RX9, TX9, 4), (RX10, TX10, 14), (RX11, TX11, 6), (RX12, TX12, 81)]
def pgN : List String := ["DictionaryHouse$Checker", "DictionaryHouse$ClassTable", "DictionaryHouse$Conditions", "DictionaryHouse$Definitions", "DictionaryHouse$Expressions", "DictionaryHouse$Graph", "DictionaryHouse$Heap", "DictionaryHouse$Machine", "DictionaryHouse$Plans", "DictionaryHouse$TypeTable", "DictionaryHouse$Typing", "DictionaryHouse", "DictionaryHouseModel", "DictionaryHouseLaw", "java/util/Arrays", "java/lang/Integer"]
def pgM0 : List mvE := [(⟨"DictionaryHouseLaw", "law", "([I)Z"⟩, code, 7, (some .boolean), []),
  (⟨"DictionaryHouse", "<init>", "()V"⟩, prog_1_method_1_code, 3, none, []),
  (⟨"DictionaryHouse$TypeTable", "<init>", "()V"⟩, prog_11_method_1_code, 2, none, []),
  (⟨"DictionaryHouse$ClassTable", "<init>", "()V"⟩, prog_3_method_1_code, 1, none, []),
  (⟨"java/util/Arrays", "fill", "([II)V"⟩, prog_29_method_103_code, 4, none, []),
  (⟨"DictionaryHouse$Expressions", "<init>", "()V"⟩, prog_6_method_1_code, 1, none, []),
  (⟨"DictionaryHouse$Definitions", "<init>", "()V"⟩, prog_5_method_1_code, 1, none, []),
  (⟨"DictionaryHouse$Plans", "<init>", "()V"⟩, prog_10_method_1_code, 1, none, []),
  (⟨"DictionaryHouse$Typing", "<init>", "(LDictionaryHouse$TypeTable;LDictionaryHouse$ClassTable;LDictionaryHouse$Expressions;LDictionaryHouse$Definitions;)V"⟩, prog_12_method_1_code, 5, none, []),
  (⟨"DictionaryHouse$Graph", "<init>", "()V"⟩, prog_7_method_1_code, 1, none, []),
  (⟨"DictionaryHouse$Checker", "<init>", "(LDictionaryHouse$TypeTable;LDictionaryHouse$ClassTable;LDictionaryHouse$Definitions;LDictionaryHouse$Typing;LDictionaryHouse$Plans;)V"⟩, prog_2_method_1_code, 6, none, []),
  (⟨"DictionaryHouse$Typing", "graph", "()LDictionaryHouse$Graph;"⟩, prog_12_method_2_code, 1, (some (.object "DictionaryHouse$Graph")), []),
  (⟨"DictionaryHouse$Conditions", "<init>", "(LDictionaryHouse$ClassTable;LDictionaryHouse$Definitions;LDictionaryHouse$Typing;)V"⟩, prog_4_method_1_code, 4, none, []),
  (⟨"DictionaryHouse$Machine", "<init>", "(LDictionaryHouse$ClassTable;LDictionaryHouse$Expressions;LDictionaryHouse$Definitions;LDictionaryHouse$Plans;)V"⟩, prog_9_method_1_code, 5, none, []),
  (⟨"DictionaryHouse$Heap", "<init>", "()V"⟩, prog_8_method_1_code, 1, none, []),
  (⟨"DictionaryHouseLaw", "list", "(LDictionaryHouse;I[J)I"⟩, method_3_code, 4, (some .int), [(0, 9, 12, 13), (0, 9, 15, 15)]),
  (⟨"DictionaryHouse", "list", "(I)I"⟩, prog_1_method_2_code, 2, (some .int), []),
  (⟨"DictionaryHouse$TypeTable", "has", "(I)Z"⟩, prog_11_method_2_code, 2, (some .boolean), []),
  (⟨"DictionaryHouse", "requireArgument", "(Z)V"⟩, prog_1_method_19_code, 1, none, []),
  (⟨"DictionaryHouse$TypeTable", "numberFor", "(II)I"⟩, prog_11_method_9_code, 4, (some .int), []),
  (⟨"DictionaryHouse", "numbered", "(I)I"⟩, prog_1_method_21_code, 1, (some .int), []),
  (⟨"DictionaryHouse", "requireState", "(Z)V"⟩, prog_1_method_20_code, 1, none, []),
  (⟨"DictionaryHouseLaw", "function", "(LDictionaryHouse;II[J)I"⟩, method_4_code, 5, (some .int), [(0, 10, 13, 13), (0, 10, 17, 15)]),
  (⟨"DictionaryHouse", "function", "(II)I"⟩, prog_1_method_3_code, 3, (some .int), []),
  (⟨"DictionaryHouseLaw", "type", "(LDictionaryHouse;I[J)I"⟩, method_5_code, 4, (some .int), [(0, 9, 12, 13), (0, 9, 15, 15)]),
  (⟨"DictionaryHouse", "type", "(I)I"⟩, prog_1_method_4_code, 2, (some .int), []),
  (⟨"DictionaryHouse$ClassTable", "has", "(I)Z"⟩, prog_3_method_3_code, 2, (some .boolean), []),
  (⟨"DictionaryHouse$ClassTable", "count", "()I"⟩, prog_3_method_2_code, 1, (some .int), []),
  (⟨"DictionaryHouse$ClassTable", "addClass", "(I)I"⟩, prog_3_method_7_code, 2, (some .int), []),
  (⟨"DictionaryHouseLaw", "method", "(LDictionaryHouse;II[J)I"⟩, method_6_code, 5, (some .int), [(0, 10, 13, 13), (0, 10, 17, 15)]),
  (⟨"DictionaryHouse", "method", "(II)I"⟩, prog_1_method_5_code, 3, (some .int), []),
  (⟨"DictionaryHouse$TypeTable", "hasOnlyTheFirstVariable", "(I)Z"⟩, prog_11_method_8_code, 2, (some .boolean), []),
  (⟨"DictionaryHouse$ClassTable", "methodsOf", "(I)I"⟩, prog_3_method_5_code, 2, (some .int), []),
  (⟨"DictionaryHouse$ClassTable", "hasAnyInstance", "(I)Z"⟩, prog_3_method_10_code, 2, (some .boolean), []),
  (⟨"DictionaryHouse$ClassTable", "hasInstance", "(II)Z"⟩, prog_3_method_9_code, 3, (some .boolean), []),
  (⟨"DictionaryHouse$ClassTable", "addMethod", "(II)I"⟩, prog_3_method_8_code, 3, (some .int), []),
  (⟨"DictionaryHouseLaw", "number", "(LDictionaryHouse;I[J)I"⟩, method_7_code, 4, (some .int), [(0, 9, 12, 15)]),
  (⟨"DictionaryHouse", "number", "(I)I"⟩, prog_1_method_6_code, 2, (some .int), []),
  (⟨"DictionaryHouse", "added", "(III)I"⟩, prog_1_method_22_code, 4, (some .int), []),
  (⟨"DictionaryHouse$Expressions", "hasRoomFor", "(III)Z"⟩, prog_6_method_7_code, 4, (some .boolean), []),
  (⟨"DictionaryHouse$Expressions", "placesFor", "(III)I"⟩, prog_6_method_9_code, 4, (some .int), []),
  (⟨"DictionaryHouse$Expressions", "add", "(III)I"⟩, prog_6_method_8_code, 4, (some .int), []),
  (⟨"DictionaryHouseLaw", "primitive", "(LDictionaryHouse;I[J)I"⟩, method_8_code, 4, (some .int), [(0, 9, 12, 13), (0, 9, 15, 15)]),
  (⟨"DictionaryHouse", "primitive", "(I)I"⟩, prog_1_method_7_code, 2, (some .int), []),
  (⟨"DictionaryHouseLaw", "local", "(LDictionaryHouse;I[J)I"⟩, method_9_code, 4, (some .int), [(0, 9, 12, 13), (0, 9, 15, 15)]),
  (⟨"DictionaryHouse", "local", "(I)I"⟩, prog_1_method_8_code, 2, (some .int), []),
  (⟨"DictionaryHouseLaw", "lambda", "(LDictionaryHouse;I[J)I"⟩, method_10_code, 4, (some .int), [(0, 9, 12, 13), (0, 9, 15, 15)]),
  (⟨"DictionaryHouse", "lambda", "(I)I"⟩, prog_1_method_9_code, 2, (some .int), []),
  (⟨"DictionaryHouse$Expressions", "has", "(I)Z"⟩, prog_6_method_2_code, 2, (some .boolean), []),
  (⟨"DictionaryHouseLaw", "apply", "(LDictionaryHouse;II[J)I"⟩, method_11_code, 5, (some .int), [(0, 10, 13, 13), (0, 10, 17, 15)])]
def pgM1 : List mvE := [(⟨"DictionaryHouse", "apply", "(II)I"⟩, prog_1_method_10_code, 3, (some .int), []),
  (⟨"DictionaryHouseLaw", "use", "(LDictionaryHouse;II[J)I"⟩, method_12_code, 5, (some .int), [(0, 10, 13, 13), (0, 10, 17, 15)]),
  (⟨"DictionaryHouse", "use", "(II)I"⟩, prog_1_method_11_code, 3, (some .int), []),
  (⟨"DictionaryHouse$ClassTable", "hasMethod", "(II)Z"⟩, prog_3_method_4_code, 3, (some .boolean), []),
  (⟨"DictionaryHouseLaw", "given", "(LDictionaryHouse;I[J)I"⟩, method_13_code, 4, (some .int), [(0, 9, 12, 13), (0, 9, 15, 15)]),
  (⟨"DictionaryHouse", "given", "(I)I"⟩, prog_1_method_12_code, 2, (some .int), []),
  (⟨"DictionaryHouse$Definitions", "has", "(I)Z"⟩, prog_5_method_3_code, 2, (some .boolean), []),
  (⟨"DictionaryHouseLaw", "instance", "(LDictionaryHouse;IIIIII[J)I"⟩, method_14_code, 9, (some .int), [(0, 18, 21, 13), (0, 18, 25, 15)]),
  (⟨"DictionaryHouse", "instance", "(IIIIII)I"⟩, prog_1_method_13_code, 10, (some .int), []),
  (⟨"DictionaryHouse$ClassTable", "agreesWithAbove", "(III)Z"⟩, prog_3_method_14_code, 6, (some .boolean), []),
  (⟨"DictionaryHouse$ClassTable", "reaches", "(II)Z"⟩, prog_3_method_13_code, 5, (some .boolean), []),
  (⟨"DictionaryHouse$ClassTable", "addInstance", "(III)V"⟩, prog_3_method_15_code, 4, none, []),
  (⟨"DictionaryHouse$ClassTable", "setBodies", "(IIIII)V"⟩, prog_3_method_16_code, 7, none, []),
  (⟨"DictionaryHouse$Checker", "wrongOfMethod", "(III)I"⟩, prog_2_method_3_code, 5, (some .int), []),
  (⟨"DictionaryHouse$ClassTable", "body", "(III)I"⟩, prog_3_method_12_code, 4, (some .int), []),
  (⟨"DictionaryHouse$Typing", "findTypes", "(I)Z"⟩, prog_12_method_9_code, 3, (some .boolean), []),
  (⟨"DictionaryHouse$Typing", "layOut", "(I)V"⟩, prog_12_method_11_code, 4, none, []),
  (⟨"DictionaryHouse$Expressions", "places", "(I)I"⟩, prog_6_method_6_code, 2, (some .int), []),
  (⟨"DictionaryHouse$Typing", "lay", "(III)V"⟩, prog_12_method_12_code, 4, none, []),
  (⟨"DictionaryHouse$Expressions", "kind", "(I)I"⟩, prog_6_method_3_code, 2, (some .int), []),
  (⟨"DictionaryHouse$Expressions", "first", "(I)I"⟩, prog_6_method_4_code, 2, (some .int), []),
  (⟨"DictionaryHouse$Typing", "placeOfOther", "(I)I"⟩, prog_12_method_13_code, 2, (some .int), []),
  (⟨"DictionaryHouse$Expressions", "second", "(I)I"⟩, prog_6_method_5_code, 2, (some .int), []),
  (⟨"DictionaryHouse$Graph", "clear", "()V"⟩, prog_7_method_2_code, 1, none, []),
  (⟨"DictionaryHouse$Graph", "add", "(III)I"⟩, prog_7_method_4_code, 4, (some .int), []),
  (⟨"DictionaryHouse$Graph", "hasRoomForType", "()Z"⟩, prog_7_method_3_code, 1, (some .boolean), []),
  (⟨"DictionaryHouse$Typing", "findTypeAt", "(I)Z"⟩, prog_12_method_14_code, 3, (some .boolean), []),
  (⟨"DictionaryHouse$Typing", "subjectAt", "(I)I"⟩, prog_12_method_5_code, 2, (some .int), []),
  (⟨"DictionaryHouse$Typing", "kindAt", "(I)I"⟩, prog_12_method_4_code, 2, (some .int), []),
  (⟨"DictionaryHouse$Graph", "join", "(II)Z"⟩, prog_7_method_10_code, 7, (some .boolean), []),
  (⟨"DictionaryHouse$Graph", "root", "(I)I"⟩, prog_7_method_6_code, 4, (some .int), []),
  (⟨"DictionaryHouse$Graph", "addParts", "(III)I"⟩, prog_7_method_11_code, 5, (some .int), []),
  (⟨"DictionaryHouse$Typing", "primitiveNode", "(I)I"⟩, prog_12_method_19_code, 5, (some .int), []),
  (⟨"DictionaryHouse$Typing", "arrow", "(II)I"⟩, prog_12_method_20_code, 3, (some .int), []),
  (⟨"DictionaryHouse$Typing", "joinLocal", "(II)Z"⟩, prog_12_method_15_code, 5, (some .boolean), []),
  (⟨"DictionaryHouse$ClassTable", "methodType", "(II)I"⟩, prog_3_method_6_code, 3, (some .int), []),
  (⟨"DictionaryHouse$Typing", "joinFilled", "(II)Z"⟩, prog_12_method_16_code, 4, (some .boolean), []),
  (⟨"DictionaryHouse$TypeTable", "variablesIn", "(I)I"⟩, prog_11_method_7_code, 2, (some .int), []),
  (⟨"java/lang/Integer", "bitCount", "(I)I"⟩, prog_20_method_49_code, 1, (some .int), []),
  (⟨"DictionaryHouse$Typing", "nodeFor", "(II)I"⟩, prog_12_method_17_code, 4, (some .int), []),
  (⟨"DictionaryHouse$Typing", "markWanted", "(I)V"⟩, prog_12_method_18_code, 3, none, []),
  (⟨"DictionaryHouse$TypeTable", "left", "(I)I"⟩, prog_11_method_4_code, 2, (some .int), []),
  (⟨"DictionaryHouse$TypeTable", "isList", "(I)Z"⟩, prog_11_method_3_code, 2, (some .boolean), []),
  (⟨"DictionaryHouse$TypeTable", "right", "(I)I"⟩, prog_11_method_5_code, 2, (some .int), []),
  (⟨"DictionaryHouse$Definitions", "typeOf", "(I)I"⟩, prog_5_method_5_code, 2, (some .int), []),
  (⟨"DictionaryHouse$Checker", "nodeForShape", "(I)I"⟩, prog_2_method_4_code, 2, (some .int), []),
  (⟨"DictionaryHouse$Typing", "canBe", "(II)Z"⟩, prog_12_method_10_code, 3, (some .boolean), []),
  (⟨"DictionaryHouse$Graph", "isEndless", "()Z"⟩, prog_7_method_12_code, 5, (some .boolean), []),
  (⟨"DictionaryHouse$Graph", "countUsers", "()I"⟩, prog_7_method_13_code, 3, (some .int), []),
  (⟨"java/util/Arrays", "fill", "([IIII)V"⟩, prog_29_method_104_code, 5, none, [])]
def pgM2 : List mvE := [(⟨"java/util/Arrays", "rangeCheck", "(III)V"⟩, prog_29_method_30_code, 3, none, []),
  (⟨"DictionaryHouse$Graph", "addUser", "(I)V"⟩, prog_7_method_14_code, 2, none, []),
  (⟨"DictionaryHouse$Graph", "release", "(II)I"⟩, prog_7_method_15_code, 4, (some .int), []),
  (⟨"DictionaryHouse$Graph", "forgetVariables", "()V"⟩, prog_7_method_19_code, 1, none, []),
  (⟨"DictionaryHouse$ClassTable", "contextOfLists", "(I)I"⟩, prog_3_method_11_code, 2, (some .int), []),
  (⟨"DictionaryHouse$Conditions", "wrongWith", "(I)I"⟩, prog_4_method_2_code, 3, (some .int), []),
  (⟨"DictionaryHouse$Graph", "count", "()I"⟩, prog_7_method_5_code, 1, (some .int), []),
  (⟨"DictionaryHouse$Typing", "places", "()I"⟩, prog_12_method_3_code, 1, (some .int), []),
  (⟨"DictionaryHouse$Conditions", "followThoseAt", "(I)V"⟩, prog_4_method_4_code, 5, none, []),
  (⟨"DictionaryHouse$Typing", "fillingAt", "(II)I"⟩, prog_12_method_6_code, 3, (some .int), []),
  (⟨"DictionaryHouse$Conditions", "follow", "(II)V"⟩, prog_4_method_5_code, 6, none, []),
  (⟨"DictionaryHouse$Graph", "kind", "(I)I"⟩, prog_7_method_7_code, 2, (some .int), []),
  (⟨"DictionaryHouse$Graph", "left", "(I)I"⟩, prog_7_method_8_code, 2, (some .int), []),
  (⟨"DictionaryHouse$Conditions", "judge", "(II)V"⟩, prog_4_method_6_code, 3, none, []),
  (⟨"DictionaryHouse$Graph", "variableNumber", "(I)I"⟩, prog_7_method_18_code, 2, (some .int), []),
  (⟨"DictionaryHouse$Definitions", "conditionsOf", "(I)I"⟩, prog_5_method_6_code, 2, (some .int), []),
  (⟨"DictionaryHouse$Definitions", "variableOfCondition", "(II)I"⟩, prog_5_method_9_code, 3, (some .int), []),
  (⟨"DictionaryHouse$Definitions", "condition", "(II)I"⟩, prog_5_method_7_code, 3, (some .int), []),
  (⟨"DictionaryHouse$Definitions", "classOfCondition", "(II)I"⟩, prog_5_method_8_code, 3, (some .int), []),
  (⟨"DictionaryHouse$Plans", "ofMethod", "(III)I"⟩, prog_10_method_3_code, 3, (some .int), []),
  (⟨"DictionaryHouse$Plans", "write", "(ILDictionaryHouse$Typing;)V"⟩, prog_10_method_6_code, 7, none, []),
  (⟨"DictionaryHouse$Typing", "fillingsAt", "(I)I"⟩, prog_12_method_7_code, 2, (some .int), []),
  (⟨"DictionaryHouse$Plans", "planFor", "(LDictionaryHouse$Graph;I)I"⟩, prog_10_method_8_code, 4, (some .int), []),
  (⟨"DictionaryHouse$Plans", "planForInnermost", "(II)I"⟩, prog_10_method_9_code, 2, (some .int), []),
  (⟨"DictionaryHouse$ClassTable", "removeInstance", "(II)V"⟩, prog_3_method_17_code, 3, none, []),
  (⟨"DictionaryHouseLaw", "define", "(LDictionaryHouse;I[J)I"⟩, method_15_code, 4, (some .int), [(0, 9, 12, 13), (0, 9, 15, 15)]),
  (⟨"DictionaryHouse", "define", "(I)I"⟩, prog_1_method_14_code, 2, (some .int), []),
  (⟨"DictionaryHouse$Definitions", "count", "()I"⟩, prog_5_method_2_code, 1, (some .int), []),
  (⟨"DictionaryHouse$Checker", "newDefinition", "(I)I"⟩, prog_2_method_2_code, 6, (some .int), []),
  (⟨"DictionaryHouse$Typing", "typeOfWhole", "()I"⟩, prog_12_method_8_code, 1, (some .int), []),
  (⟨"DictionaryHouse$Graph", "numberVariablesOf", "(I)V"⟩, prog_7_method_20_code, 5, none, []),
  (⟨"DictionaryHouse$Graph", "see", "(II)I"⟩, prog_7_method_21_code, 4, (some .int), []),
  (⟨"DictionaryHouse$Checker", "gatherRemaining", "()I"⟩, prog_2_method_5_code, 4, (some .int), []),
  (⟨"DictionaryHouse$Graph", "variableCount", "()I"⟩, prog_7_method_16_code, 1, (some .int), []),
  (⟨"DictionaryHouse$Graph", "variable", "(I)I"⟩, prog_7_method_17_code, 2, (some .int), []),
  (⟨"DictionaryHouse$Conditions", "remains", "(II)Z"⟩, prog_4_method_3_code, 5, (some .boolean), []),
  (⟨"DictionaryHouse$Checker", "numberedTypeOfWhole", "()I"⟩, prog_2_method_6_code, 3, (some .int), []),
  (⟨"DictionaryHouse$TypeTable", "count", "()I"⟩, prog_11_method_6_code, 1, (some .int), []),
  (⟨"DictionaryHouse$Checker", "numberedType", "(II)I"⟩, prog_2_method_7_code, 6, (some .int), []),
  (⟨"DictionaryHouse$Graph", "right", "(I)I"⟩, prog_7_method_9_code, 2, (some .int), []),
  (⟨"DictionaryHouse$TypeTable", "cutTo", "(I)V"⟩, prog_11_method_10_code, 2, none, []),
  (⟨"DictionaryHouse$Definitions", "add", "(II[II)I"⟩, prog_5_method_10_code, 5, (some .int), []),
  (⟨"DictionaryHouse$Plans", "ofDefinition", "(I)I"⟩, prog_10_method_2_code, 1, (some .int), []),
  (⟨"DictionaryHouseLaw", "scheme", "(LDictionaryHouse;II[J)I"⟩, method_16_code, 5, (some .int), [(0, 10, 13, 13)]),
  (⟨"DictionaryHouse", "scheme", "(II)I"⟩, prog_1_method_15_code, 3, (some .int), []),
  (⟨"DictionaryHouseLaw", "is", "(LDictionaryHouse;II[J)I"⟩, method_17_code, 5, (some .int), [(0, 17, 20, 13)]),
  (⟨"DictionaryHouse", "is", "(II)Z"⟩, prog_1_method_16_code, 3, (some .boolean), []),
  (⟨"DictionaryHouse", "isMember", "(II)Z"⟩, prog_1_method_23_code, 6, (some .boolean), []),
  (⟨"DictionaryHouseLaw", "run", "(LDictionaryHouse;II[J)I"⟩, method_18_code, 5, (some .int), [(0, 10, 13, 13), (0, 10, 17, 15)]),
  (⟨"DictionaryHouse", "run", "(II)I"⟩, prog_1_method_17_code, 3, (some .int), [])]
def pgM3 : List mvE := [(⟨"DictionaryHouse", "canBeShown", "(I)Z"⟩, prog_1_method_24_code, 3, (some .boolean), []),
  (⟨"DictionaryHouse$Machine", "perform", "(II)I"⟩, prog_9_method_4_code, 4, (some .int), []),
  (⟨"DictionaryHouse$Heap", "clear", "()V"⟩, prog_8_method_2_code, 1, none, []),
  (⟨"DictionaryHouse$Definitions", "expressionOf", "(I)I"⟩, prog_5_method_4_code, 2, (some .int), []),
  (⟨"DictionaryHouse$Heap", "newFrame", "()I"⟩, prog_8_method_5_code, 2, (some .int), []),
  (⟨"DictionaryHouse$Machine", "enter", "(III)V"⟩, prog_9_method_8_code, 4, none, []),
  (⟨"DictionaryHouse$Machine", "isGoing", "()Z"⟩, prog_9_method_5_code, 1, (some .boolean), []),
  (⟨"DictionaryHouse$Heap", "hasRoom", "()Z"⟩, prog_8_method_3_code, 1, (some .boolean), []),
  (⟨"DictionaryHouse$Machine", "evaluate", "()V"⟩, prog_9_method_11_code, 4, none, []),
  (⟨"DictionaryHouse$Machine", "takeStep", "()Z"⟩, prog_9_method_7_code, 1, (some .boolean), []),
  (⟨"DictionaryHouse$Heap", "newNumber", "(I)I"⟩, prog_8_method_8_code, 2, (some .int), []),
  (⟨"DictionaryHouse$Heap", "newCell", "(IIIII)I"⟩, prog_8_method_7_code, 7, (some .int), []),
  (⟨"DictionaryHouse$Machine", "yieldValue", "(I)V"⟩, prog_9_method_9_code, 2, none, []),
  (⟨"DictionaryHouse$Machine", "primitiveCell", "(I)I"⟩, prog_9_method_12_code, 2, (some .int), []),
  (⟨"DictionaryHouse$Heap", "elementOf", "(II)I"⟩, prog_8_method_14_code, 5, (some .int), []),
  (⟨"DictionaryHouse$Heap", "field", "(II)I"⟩, prog_8_method_11_code, 3, (some .int), []),
  (⟨"DictionaryHouse$Machine", "letWait", "(IIIII)V"⟩, prog_9_method_10_code, 7, none, []),
  (⟨"DictionaryHouse$Machine", "enterMethod", "(II)V"⟩, prog_9_method_13_code, 6, none, []),
  (⟨"DictionaryHouse$Heap", "frames", "()[I"⟩, prog_8_method_4_code, 1, (some (.array .int)), []),
  (⟨"DictionaryHouse$Plans", "actual", "(II[II)I"⟩, prog_10_method_7_code, 8, (some .int), []),
  (⟨"DictionaryHouse$Plans", "shapeOf", "(I)I"⟩, prog_10_method_4_code, 1, (some .int), []),
  (⟨"DictionaryHouse$Plans", "ofWhatListIs", "(I)I"⟩, prog_10_method_5_code, 1, (some .int), []),
  (⟨"DictionaryHouse$Heap", "setInFrame", "(III)V"⟩, prog_8_method_6_code, 4, none, []),
  (⟨"DictionaryHouse$Machine", "enterDefinition", "(I)V"⟩, prog_9_method_14_code, 4, none, []),
  (⟨"DictionaryHouse$Machine", "goOn", "()V"⟩, prog_9_method_15_code, 3, none, []),
  (⟨"DictionaryHouse$Machine", "call", "(II)V"⟩, prog_9_method_16_code, 5, none, []),
  (⟨"DictionaryHouse$Heap", "kind", "(I)I"⟩, prog_8_method_10_code, 2, (some .int), []),
  (⟨"DictionaryHouse$Machine", "finish", "(IIII)V"⟩, prog_9_method_17_code, 5, none, []),
  (⟨"DictionaryHouse$Heap", "numberIn", "(I)I"⟩, prog_8_method_12_code, 2, (some .int), []),
  (⟨"DictionaryHouse$Heap", "newPair", "(II)I"⟩, prog_8_method_9_code, 3, (some .int), []),
  (⟨"DictionaryHouse$Heap", "lengthOf", "(I)I"⟩, prog_8_method_13_code, 2, (some .int), []),
  (⟨"DictionaryHouse$Machine", "fold", "(IIII)V"⟩, prog_9_method_18_code, 5, none, []),
  (⟨"DictionaryHouse$Machine", "keepResult", "()V"⟩, prog_9_method_6_code, 2, none, []),
  (⟨"DictionaryHouseLaw", "value", "(LDictionaryHouse;I[J)I"⟩, method_19_code, 4, (some .int), [(0, 9, 12, 13)]),
  (⟨"DictionaryHouse", "value", "(I)I"⟩, prog_1_method_18_code, 2, (some .int), []),
  (⟨"DictionaryHouse$Machine", "hasResult", "(I)Z"⟩, prog_9_method_2_code, 2, (some .boolean), []),
  (⟨"DictionaryHouse$Machine", "result", "(I)I"⟩, prog_9_method_3_code, 2, (some .int), []),
  (⟨"DictionaryHouseModel", "<init>", "()V"⟩, prog_14_method_1_code, 2, none, []),
  (⟨"DictionaryHouseModel", "thrown", "()I"⟩, prog_14_method_2_code, 1, (some .int), []),
  (⟨"DictionaryHouseModel", "list", "(I)I"⟩, prog_14_method_6_code, 3, (some .int), []),
  (⟨"DictionaryHouseModel", "isType", "(I)Z"⟩, prog_14_method_3_code, 2, (some .boolean), []),
  (⟨"DictionaryHouseModel", "intern", "(III)I"⟩, prog_14_method_5_code, 5, (some .int), []),
  (⟨"DictionaryHouseModel", "find", "(III)I"⟩, prog_14_method_4_code, 5, (some .int), []),
  (⟨"DictionaryHouseModel", "function", "(II)I"⟩, prog_14_method_7_code, 4, (some .int), []),
  (⟨"DictionaryHouseModel", "type", "(I)I"⟩, prog_14_method_9_code, 2, (some .int), []),
  (⟨"DictionaryHouseModel", "isClass", "(I)Z"⟩, prog_14_method_8_code, 2, (some .boolean), []),
  (⟨"DictionaryHouseModel", "method", "(II)I"⟩, prog_14_method_12_code, 4, (some .int), []),
  (⟨"DictionaryHouseModel", "variablesOf", "(I)I"⟩, prog_14_method_10_code, 3, (some .int), []),
  (⟨"DictionaryHouseModel", "hasInstance", "(I)Z"⟩, prog_14_method_11_code, 2, (some .boolean), []),
  (⟨"DictionaryHouseModel", "is", "(II)Z"⟩, prog_14_method_14_code, 6, (some .boolean), [])]
def pgM4 : List mvE := [(⟨"DictionaryHouseModel", "number", "(I)I"⟩, prog_14_method_18_code, 2, (some .int), []),
  (⟨"DictionaryHouseModel", "add", "(IIII)I"⟩, prog_14_method_16_code, 5, (some .int), []),
  (⟨"DictionaryHouseModel", "primitive", "(I)I"⟩, prog_14_method_19_code, 2, (some .int), []),
  (⟨"DictionaryHouseModel", "make", "(ZIIII)I"⟩, prog_14_method_17_code, 6, (some .int), []),
  (⟨"DictionaryHouseModel", "local", "(I)I"⟩, prog_14_method_20_code, 2, (some .int), []),
  (⟨"DictionaryHouseModel", "lambda", "(I)I"⟩, prog_14_method_21_code, 3, (some .int), []),
  (⟨"DictionaryHouseModel", "isExpression", "(I)Z"⟩, prog_14_method_15_code, 2, (some .boolean), []),
  (⟨"DictionaryHouseModel", "apply", "(II)I"⟩, prog_14_method_22_code, 4, (some .int), []),
  (⟨"DictionaryHouseModel", "use", "(II)I"⟩, prog_14_method_23_code, 3, (some .int), []),
  (⟨"DictionaryHouseModel", "given", "(I)I"⟩, prog_14_method_24_code, 2, (some .int), []),
  (⟨"DictionaryHouseModel", "define", "(I)I"⟩, prog_14_method_49_code, 8, (some .int), []),
  (⟨"DictionaryHouseModel", "typeAll", "(I)Z"⟩, prog_14_method_39_code, 3, (some .boolean), []),
  (⟨"DictionaryHouseModel", "layOut", "(I)V"⟩, prog_14_method_33_code, 5, none, []),
  (⟨"DictionaryHouseModel", "variable", "()I"⟩, prog_14_method_26_code, 1, (some .int), []),
  (⟨"DictionaryHouseModel", "node", "(III)I"⟩, prog_14_method_25_code, 4, (some .int), []),
  (⟨"DictionaryHouseModel", "typePlace", "(I)Z"⟩, prog_14_method_38_code, 5, (some .boolean), []),
  (⟨"DictionaryHouseModel", "unify", "(II)Z"⟩, prog_14_method_31_code, 6, (some .boolean), []),
  (⟨"DictionaryHouseModel", "root", "(I)I"⟩, prog_14_method_28_code, 3, (some .int), []),
  (⟨"DictionaryHouseModel", "primitiveNode", "(I)I"⟩, prog_14_method_30_code, 7, (some .int), []),
  (⟨"DictionaryHouseModel", "arrow", "(II)I"⟩, prog_14_method_27_code, 3, (some .int), []),
  (⟨"DictionaryHouseModel", "localNode", "(II)I"⟩, prog_14_method_37_code, 5, (some .int), []),
  (⟨"DictionaryHouseModel", "useNode", "(III)I"⟩, prog_14_method_35_code, 6, (some .int), []),
  (⟨"DictionaryHouseModel", "want", "(II)V"⟩, prog_14_method_34_code, 3, none, []),
  (⟨"DictionaryHouseModel", "copy", "(I)I"⟩, prog_14_method_29_code, 3, (some .int), []),
  (⟨"DictionaryHouseModel", "givenNode", "(II)I"⟩, prog_14_method_36_code, 4, (some .int), []),
  (⟨"DictionaryHouseModel", "isEndless", "()Z"⟩, prog_14_method_32_code, 5, (some .boolean), []),
  (⟨"DictionaryHouseModel", "findVariables", "(I)V"⟩, prog_14_method_40_code, 4, none, []),
  (⟨"DictionaryHouseModel", "followAll", "()V"⟩, prog_14_method_43_code, 2, none, []),
  (⟨"DictionaryHouseModel", "follow", "(II)V"⟩, prog_14_method_42_code, 8, none, []),
  (⟨"DictionaryHouseModel", "implies", "(II)Z"⟩, prog_14_method_13_code, 4, (some .boolean), []),
  (⟨"DictionaryHouseModel", "indexOf", "(I)I"⟩, prog_14_method_41_code, 3, (some .int), []),
  (⟨"DictionaryHouseModel", "lowest", "(I)I"⟩, prog_14_method_44_code, 6, (some .int), []),
  (⟨"DictionaryHouseModel", "count", "(I)I"⟩, prog_14_method_45_code, 3, (some .int), []),
  (⟨"DictionaryHouseModel", "typeOf", "(I)I"⟩, prog_14_method_46_code, 7, (some .int), []),
  (⟨"DictionaryHouseModel", "keep", "(I)V"⟩, prog_14_method_48_code, 4, none, []),
  (⟨"DictionaryHouseModel", "termOf", "(I)I"⟩, prog_14_method_47_code, 6, (some .int), []),
  (⟨"DictionaryHouseModel", "scheme", "(II)I"⟩, prog_14_method_50_code, 4, (some .int), []),
  (⟨"DictionaryHouseModel", "instance", "(IIIIII)I"⟩, prog_14_method_54_code, 13, (some .int), []),
  (⟨"DictionaryHouseModel", "hasAbove", "(III)Z"⟩, prog_14_method_52_code, 6, (some .boolean), []),
  (⟨"DictionaryHouseModel", "checkMethod", "(IIII)I"⟩, prog_14_method_53_code, 8, (some .int), []),
  (⟨"DictionaryHouseModel", "unitOf", "(III)I"⟩, prog_14_method_51_code, 3, (some .int), []),
  (⟨"DictionaryHouseModel", "run", "(II)I"⟩, prog_14_method_66_code, 5, (some .int), []),
  (⟨"DictionaryHouseModel", "isPlain", "(I)Z"⟩, prog_14_method_65_code, 2, (some .boolean), []),
  (⟨"DictionaryHouseModel", "push", "(IIIIII)V"⟩, prog_14_method_55_code, 7, none, []),
  (⟨"DictionaryHouseModel", "work", "()V"⟩, prog_14_method_64_code, 7, none, []),
  (⟨"DictionaryHouseModel", "evaluate", "(IIIII)V"⟩, prog_14_method_59_code, 9, none, []),
  (⟨"DictionaryHouseModel", "step", "()Z"⟩, prog_14_method_57_code, 1, (some .boolean), []),
  (⟨"DictionaryHouseModel", "cell", "(IIIIII)I"⟩, prog_14_method_56_code, 7, (some .int), []),
  (⟨"DictionaryHouseModel", "resolve", "(II)V"⟩, prog_14_method_58_code, 5, none, []),
  (⟨"DictionaryHouseModel", "enter", "(II)V"⟩, prog_14_method_60_code, 3, none, [])]
def pgM5 : List mvE := [(⟨"DictionaryHouseModel", "call", "(II)V"⟩, prog_14_method_62_code, 7, none, []),
  (⟨"DictionaryHouseModel", "arity", "(I)I"⟩, prog_14_method_61_code, 1, (some .int), []),
  (⟨"DictionaryHouseModel", "fold", "(III)V"⟩, prog_14_method_63_code, 6, none, []),
  (⟨"DictionaryHouseModel", "value", "(I)I"⟩, prog_14_method_67_code, 2, (some .int), [])]
def pgM : List mvE := pgM0 ++ (pgM1 ++ (pgM2 ++ (pgM3 ++ (pgM4 ++ (pgM5)))))
def pgK : List (Nat × Bool) := [(13, false), (11, true), (9, true), (1, true), (14, false), (4, true), (3, true), (8, true), (10, true), (5, true), (0, true), (10, false), (2, true), (7, true), (6, true), (13, false), (11, false), (9, false), (11, false), (9, false), (11, false), (11, false), (13, false), (11, false), (13, false), (11, false), (1, false), (1, false), (1, false), (13, false), (11, false), (9, false), (1, false), (1, false), (1, false), (1, false), (13, false), (11, false), (11, false), (4, false), (4, false), (4, false), (13, false), (11, false), (13, false), (11, false), (13, false), (11, false), (4, false), (13, false), (11, false), (13, false), (11, false), (1, false), (13, false), (11, false), (3, false), (13, false), (11, false), (1, false), (1, false), (1, false), (1, false), (0, false), (1, false), (10, false), (10, false), (4, false), (10, false), (4, false), (4, false), (10, false), (4, false), (5, false), (5, false), (5, false), (10, false), (10, false), (10, false), (5, false), (5, false), (5, false), (10, false), (10, false), (10, false), (1, false), (10, false), (9, false), (15, false), (10, false), (10, false), (9, false), (9, false), (9, false), (3, false), (0, false), (10, false), (5, false), (5, false), (14, false), (14, false), (5, false), (5, false), (5, false), (1, false), (2, false), (5, false), (10, false), (2, false), (10, false), (2, false), (5, false), (5, false), (2, false), (5, false), (3, false), (3, false), (3, false), (3, false), (8, false), (8, false), (10, false), (8, false), (8, false), (1, false), (13, false), (11, false), (3, false), (0, false), (10, false), (5, false), (5, false), (0, false), (5, false), (5, false), (2, false), (0, false), (9, false), (0, false), (5, false), (9, false), (3, false), (8, false), (13, false), (11, false), (13, false), (11, false), (11, false), (13, false), (11, false), (11, false), (7, false), (6, false), (3, false), (6, false), (7, false), (7, false), (6, false), (7, false), (7, false), (6, false), (6, false), (7, false), (7, false), (6, false), (6, false), (7, false), (7, false), (6, false), (8, false), (8, false), (8, false), (6, false), (7, false), (7, false), (7, false), (6, false), (7, false), (6, false), (6, false), (6, false), (7, false), (7, false), (13, false), (11, false), (7, false), (7, false), (12, true), (12, false), (12, false), (12, false), (12, false), (12, false), (12, false), (12, false), (12, false), (12, false), (12, false), (12, false), (12, false), (12, false), (12, false), (12, false), (12, false), (12, false), (12, false), (12, false), (12, false), (12, false), (12, false), (12, false), (12, false), (12, false), (12, false), (12, false), (12, false), (12, false), (12, false), (12, false), (12, false), (12, false), (12, false), (12, false), (12, false), (12, false), (12, false), (12, false), (12, false), (12, false), (12, false), (12, false), (12, false), (12, false), (12, false), (12, false), (12, false), (12, false), (12, false), (12, false), (12, false), (12, false), (12, false), (12, false), (12, false), (12, false), (12, false), (12, false), (12, false), (12, false), (12, false), (12, false), (12, false), (12, false), (12, false)]
def pgWs : List (Nat × Nat × Nat × Nat) := [(0, 0, 0, 0), (120, 87, 119, 0), (128, 88, 127, 0), (148, 89, 147, 0), (152, 90, 151, 0), (180, 91, 179, 0), (202, 92, 201, 0), (224, 93, 223, 0), (235, 94, 234, 0), (241, 95, 240, 0), (321, 96, 320, 0), (326, 94, 324, 325), (331, 97, 330, 0), (394, 98, 393, 0), (400, 99, 399, 0), (488, 86, 487, 0), (494, 87, 492, 493), (498, 88, 496, 497), (501, 87, 500, 0), (568, 88, 566, 567), (571, 87, 570, 0), (574, 87, 573, 0), (592, 86, 591, 0), (596, 87, 594, 595), (599, 86, 598, 0), (603, 87, 601, 602), (607, 89, 605, 606), (611, 89, 609, 610), (615, 89, 613, 614), (618, 86, 617, 0), (622, 87, 620, 621), (626, 88, 624, 625), (630, 89, 628, 629), (634, 89, 632, 633), (638, 89, 636, 637), (642, 89, 640, 641), (645, 86, 644, 0), (649, 87, 647, 648), (653, 87, 652, 1), (657, 91, 655, 656), (661, 91, 660, 2), (665, 91, 663, 664), (668, 86, 667, 0), (672, 87, 670, 671), (677, 86, 676, 0), (681, 87, 679, 680), (684, 86, 683, 0), (688, 87, 686, 687), (692, 91, 690, 691), (695, 86, 694, 0), (699, 87, 697, 698), (702, 86, 701, 0), (706, 87, 704, 705), (710, 89, 708, 709), (714, 86, 713, 0), (718, 87, 716, 717), (722, 92, 720, 721), (725, 86, 724, 0), (729, 87, 727, 728), (734, 89, 732, 733), (738, 89, 736, 737), (742, 89, 740, 741), (746, 89, 744, 745), (750, 96, 748, 749), (754, 89, 752, 753), (758, 94, 756, 757), (762, 94, 761, 3), (766, 91, 764, 765), (770, 94, 769, 4), (774, 91, 772, 773), (778, 91, 776, 777), (782, 94, 781, 5), (786, 91, 784, 785), (790, 95, 788, 789), (794, 95, 792, 793), (799, 95, 797, 798), (803, 94, 802, 6), (807, 94, 805, 806), (811, 94, 809, 810), (815, 95, 813, 814), (819, 95, 817, 818), (823, 95, 822, 7), (827, 94, 826, 8), (831, 94, 830, 9), (835, 94, 834, 10), (839, 89, 837, 838), (843, 94, 842, 11), (847, 88, 845, 846), (850, 106, 849, 0), (857, 94, 856, 12), (861, 94, 860, 13), (865, 88, 863, 864), (869, 88, 867, 868), (873, 88, 871, 872), (877, 92, 875, 876), (882, 96, 881, 14), (887, 94, 885, 886), (891, 95, 889, 890), (895, 95, 894, 15), (898, 90, 897, 0), (901, 90, 900, 0), (1159, 95, 1158, 16), (1163, 95, 1162, 17), (1167, 95, 1165, 1166), (1171, 89, 1169, 1170), (1175, 97, 1173, 1174), (1179, 95, 1177, 1178), (1184, 94, 1182, 1183), (1188, 97, 1187, 18), (1194, 94, 1192, 1193), (1198, 97, 1197, 19), (1203, 95, 1201, 1202), (1208, 95, 1206, 1207), (1212, 97, 1211, 20), (1218, 95, 1216, 1217), (1223, 92, 1221, 1222), (1227, 92, 1225, 1226), (1231, 92, 1229, 1230), (1235, 92, 1233, 1234), (1238, 93, 1237, 0), (1242, 93, 1240, 1241), (1247, 94, 1245, 1246), (1253, 93, 1252, 0), (1260, 93, 1259, 0), (1264, 89, 1262, 1263), (1267, 86, 1266, 0), (1271, 87, 1269, 1270), (1275, 92, 1273, 1274), (1279, 96, 1277, 1278), (1283, 94, 1281, 1282), (1287, 95, 1285, 1286), (1292, 95, 1291, 21), (1296, 96, 1295, 22), (1300, 95, 1298, 1299), (1305, 95, 1303, 1304), (1309, 97, 1307, 1308), (1313, 96, 1312, 23), (1317, 88, 1315, 1316), (1324, 96, 1323, 24), (1331, 95, 1329, 1330), (1336, 88, 1334, 1335), (1340, 92, 1338, 1339), (1344, 93, 1343, 0), (1347, 86, 1346, 0), (1351, 87, 1349, 1350), (1357, 86, 1356, 0), (1361, 87, 1359, 1360), (1365, 87, 1364, 25), (1371, 86, 1370, 0), (1375, 87, 1373, 1374), (1379, 87, 1378, 26), (1383, 98, 1381, 1382), (1387, 99, 1385, 1386), (1391, 92, 1389, 1390), (1396, 99, 1394, 1395), (1401, 98, 1400, 27), (1405, 98, 1404, 28), (1409, 99, 1407, 1408), (1413, 98, 1412, 29), (1417, 98, 1416, 30), (1423, 99, 1421, 1422), (1427, 99, 1425, 1426), (1431, 98, 1430, 31), (1435, 98, 1434, 32), (1440, 99, 1438, 1439), (1444, 99, 1442, 1443), (1450, 98, 1449, 33), (1454, 98, 1453, 34), (1458, 99, 1456, 1457), (1462, 93, 1460, 1461), (1465, 93, 1464, 0), (1469, 93, 1468, 0), (1473, 99, 1471, 1472), (1479, 98, 1478, 35), (1483, 98, 1482, 36), (1487, 98, 1486, 37), (1491, 99, 1489, 1490), (1497, 98, 1496, 38), (1501, 99, 1499, 1500), (1505, 99, 1503, 1504), (1509, 99, 1507, 1508), (1515, 98, 1514, 39), (1519, 98, 1518, 40), (1523, 86, 1522, 0), (1527, 87, 1525, 1526), (1531, 98, 1529, 1530), (1535, 98, 1533, 1534), (1540, 100, 1539, 0), (1791, 100, 1789, 1790), (1795, 100, 1793, 1794), (1799, 100, 1798, 41), (1803, 100, 1802, 42), (1807, 100, 1806, 43), (1811, 100, 1809, 1810), (1815, 100, 1813, 1814), (1819, 100, 1818, 44), (1823, 100, 1821, 1822), (1827, 100, 1826, 45), (1831, 100, 1830, 46), (1835, 100, 1833, 1834), (1839, 100, 1837, 1838), (1843, 100, 1842, 47), (1847, 100, 1845, 1846), (1851, 100, 1850, 48), (1855, 100, 1853, 1854), (1859, 100, 1857, 1858), (1863, 100, 1862, 49), (1867, 100, 1865, 1866), (1871, 100, 1869, 1870), (1875, 100, 1873, 1874), (1879, 100, 1877, 1878), (1883, 100, 1882, 50), (1887, 100, 1886, 51), (1891, 100, 1890, 52), (1895, 100, 1894, 53), (1899, 100, 1898, 54), (1903, 100, 1902, 55), (1907, 100, 1906, 56), (1911, 100, 1910, 57), (1915, 100, 1914, 58), (1919, 100, 1918, 59), (1923, 100, 1922, 60), (1927, 100, 1926, 61), (1931, 100, 1930, 62), (1935, 100, 1934, 63), (1939, 100, 1938, 64), (1943, 100, 1942, 65), (1947, 100, 1946, 66), (1951, 100, 1950, 67), (1955, 100, 1954, 68), (1959, 100, 1958, 69), (1963, 100, 1962, 70), (1966, 100, 1965, 0), (1970, 100, 1969, 71), (1974, 100, 1973, 72), (1978, 100, 1977, 73), (1982, 100, 1980, 1981), (1986, 100, 1984, 1985), (1990, 100, 1989, 74), (1994, 100, 1993, 75), (1997, 100, 1996, 0), (2001, 100, 1999, 2000), (2005, 100, 2004, 76), (2009, 100, 2008, 77), (2013, 100, 2012, 78), (2017, 100, 2016, 79), (2021, 100, 2020, 80), (2025, 100, 2024, 81), (2029, 100, 2028, 82), (2033, 100, 2032, 83), (2037, 100, 2036, 84), (2040, 100, 2039, 0), (2044, 100, 2043, 85), (2048, 100, 2046, 2047)]
def pgPc : List Nat := [1, 0, 0, 0, 2, 0, 0, 0, 4, 0, 5, 0, 3, 4, 0, 3, 1, 1, 1, 2, 1, 1, 4, 2, 3, 1, 1, 0, 1, 4, 2, 1, 1, 1, 2, 2, 3, 1, 3, 3, 3, 3, 3, 1, 3, 1, 3, 1, 1, 4, 2, 4, 2, 2, 3, 1, 1, 8, 6, 3, 2, 3, 5, 3, 3, 1, 1, 1, 3, 1, 1, 1, 1, 0, 3, 0, 1, 1, 1, 2, 1, 3, 1, 2, 2, 2, 2, 1, 1, 2, 1, 1, 1, 1, 1, 1, 2, 0, 0, 4, 3, 1, 2, 0, 1, 1, 0, 0, 1, 2, 2, 1, 1, 2, 1, 1, 2, 2, 2, 3, 2, 1, 2, 2, 2, 3, 1, 0, 1, 0, 1, 2, 0, 0, 1, 2, 0, 0, 2, 1, 1, 4, 1, 4, 2, 4, 2, 2, 4, 2, 1, 2, 0, 1, 0, 3, 0, 0, 0, 0, 1, 5, 1, 1, 2, 2, 5, 2, 0, 4, 1, 1, 3, 1, 0, 2, 1, 4, 1, 2, 1, 4, 0, 3, 1, 1, 1, 0, 0, 1, 1, 3, 3, 2, 1, 1, 2, 1, 1, 2, 1, 4, 1, 5, 1, 1, 1, 2, 2, 1, 1, 1, 1, 0, 3, 1, 2, 1, 1, 2, 2, 3, 2, 1, 2, 0, 1, 0, 2, 2, 1, 1, 1, 1, 1, 1, 2, 6, 3, 4, 3, 2, 1, 6, 0, 5, 0, 6, 2, 2, 2, 1, 3, 1]
def pgFs : List (List (Nat × Nat × Nat × Nat × Nat)) := [[(20, 0, 0, 2, 362), (24, 0, 1, 2, 363), (28, 0, 2, 2, 364), (32, 0, 3, 2, 365), (36, 0, 4, 2, 366), (46, 0, 5, 2, 367), (54, 0, 6, 2, 368), (9, 0, 7, 2, 369), (17, 0, 8, 2, 370)],
  [(9, 1, 0, 2, 153), (15, 1, 1, 2, 154), (18, 1, 2, 2, 155), (21, 1, 3, 2, 156), (25, 1, 4, 2, 157), (28, 1, 5, 2, 158), (37, 1, 6, 0, 159)],
  [(17, 2, 0, 2, 334), (21, 2, 1, 2, 335), (25, 2, 2, 2, 336), (35, 2, 3, 2, 337), (11, 2, 4, 2, 338), (48, 2, 5, 0, 339), (52, 2, 6, 1, 340), (56, 2, 7, 1, 341), (59, 2, 8, 1, 342)],
  [(9, 3, 0, 2, 204), (15, 3, 1, 2, 205), (18, 3, 2, 2, 206), (21, 3, 3, 2, 207), (24, 3, 4, 0, 208)],
  [(9, 4, 0, 2, 182), (15, 4, 1, 2, 183), (18, 4, 2, 2, 184), (21, 4, 3, 2, 185), (24, 4, 4, 0, 186)],
  [(11, 5, 0, 2, 243), (15, 5, 1, 2, 244), (18, 5, 2, 2, 245), (21, 5, 3, 2, 246), (24, 5, 4, 2, 247), (27, 5, 5, 2, 248), (30, 5, 6, 2, 249), (33, 5, 7, 2, 250), (36, 5, 8, 0, 251), (69, 5, 9, 0, 252)],
  [(11, 6, 0, 2, 402), (15, 6, 1, 2, 403), (18, 6, 2, 0, 404), (22, 6, 3, 0, 405)],
  [(29, 7, 0, 2, 415), (33, 7, 1, 2, 416), (37, 7, 2, 2, 417), (41, 7, 3, 2, 418), (12, 7, 4, 2, 419), (18, 7, 5, 2, 420), (48, 7, 6, 0, 421), (51, 7, 7, 0, 422), (54, 7, 8, 0, 423), (57, 7, 9, 1, 424), (84, 7, 10, 0, 425), (120, 7, 11, 0, 426), (123, 7, 12, 0, 427), (126, 7, 13, 0, 428), (99, 7, 14, 0, 429), (22, 7, 15, 2, 430), (25, 7, 16, 0, 431)],
  [(12, 8, 0, 2, 227)],
  [(9, 9, 0, 2, 130), (15, 9, 1, 2, 131), (18, 9, 2, 2, 132), (21, 9, 3, 0, 133)],
  [(44, 10, 0, 2, 274), (48, 10, 1, 2, 275), (52, 10, 2, 2, 276), (56, 10, 3, 2, 277), (12, 10, 4, 2, 278), (18, 10, 5, 2, 279), (22, 10, 6, 2, 280), (25, 10, 7, 2, 281), (28, 10, 8, 2, 282), (31, 10, 9, 2, 283), (34, 10, 10, 2, 284), (37, 10, 11, 2, 285), (40, 10, 12, 2, 286), (60, 10, 13, 0, 287)],
  [(12, 11, 0, 2, 467), (19, 11, 1, 2, 468), (26, 11, 2, 2, 469), (33, 11, 3, 2, 470), (50, 11, 4, 2, 471), (59, 11, 5, 2, 472)],
  [(182, 12, 0, 0, 1544), (178, 12, 1, 0, 1545), (7, 12, 2, 2, 1546), (13, 12, 3, 2, 1547), (16, 12, 4, 2, 1548), (196, 12, 5, 0, 1549), (19, 12, 6, 2, 1550), (22, 12, 7, 2, 1551), (25, 12, 8, 2, 1552), (28, 12, 9, 2, 1553), (32, 12, 10, 2, 1554), (35, 12, 11, 2, 1555), (209, 12, 12, 0, 1556), (38, 12, 13, 2, 1557), (41, 12, 14, 2, 1558), (44, 12, 15, 2, 1559), (47, 12, 16, 2, 1560), (223, 12, 17, 0, 1561), (50, 12, 18, 2, 1562), (53, 12, 19, 2, 1563), (56, 12, 20, 2, 1564), (59, 12, 21, 2, 1565), (62, 12, 22, 2, 1566), (66, 12, 23, 2, 1567), (304, 12, 24, 0, 1568), (70, 12, 25, 2, 1569), (73, 12, 26, 2, 1570), (76, 12, 27, 2, 1571), (226, 12, 28, 0, 1572), (79, 12, 29, 2, 1573), (82, 12, 30, 2, 1574), (85, 12, 31, 2, 1575), (88, 12, 32, 2, 1576), (91, 12, 33, 2, 1577), (94, 12, 34, 2, 1578), (97, 12, 35, 2, 1579), (100, 12, 36, 2, 1580), (103, 12, 37, 2, 1581), (106, 12, 38, 2, 1582), (109, 12, 39, 2, 1583), (112, 12, 40, 2, 1584), (115, 12, 41, 2, 1585), (118, 12, 42, 2, 1586), (246, 12, 43, 0, 1587), (121, 12, 44, 2, 1588), (124, 12, 45, 2, 1589), (243, 12, 46, 0, 1590), (286, 12, 47, 1, 1591), (289, 12, 48, 1, 1592), (282, 12, 49, 1, 1593), (279, 12, 50, 0, 1594), (127, 12, 51, 2, 1595), (130, 12, 52, 2, 1596), (292, 12, 53, 0, 1597), (409, 12, 54, 1, 1598), (412, 12, 55, 1, 1599), (415, 12, 56, 0, 1600), (133, 12, 57, 2, 1601), (351, 12, 58, 0, 1602), (354, 12, 59, 0, 1603), (357, 12, 60, 1, 1604), (348, 12, 61, 0, 1605), (136, 12, 62, 2, 1606), (139, 12, 63, 2, 1607), (142, 12, 64, 2, 1608), (145, 12, 65, 2, 1609), (148, 12, 66, 2, 1610), (151, 12, 67, 2, 1611), (386, 12, 68, 0, 1612), (154, 12, 69, 2, 1613), (157, 12, 70, 2, 1614), (345, 12, 71, 0, 1615), (160, 12, 72, 2, 1616), (163, 12, 73, 2, 1617), (166, 12, 74, 2, 1618), (169, 12, 75, 2, 1619), (172, 12, 76, 2, 1620), (175, 12, 77, 2, 1621), (373, 12, 78, 0, 1622), (360, 12, 79, 0, 1623), (363, 12, 80, 0, 1624)],
  [],
  [],
  []]
def pgIs : List (List (Nat × Nat × Nat × Nat × Nat)) := [[(40, 11, 0, 10, 323), (51, 12, 3, 101, 329), (102, 64, 3, 1, 751), (58, 65, 1, 10, 755), (108, 85, 2, 1, 878), (112, 95, 1, 0, 879), (128, 74, 3, 5, 883), (115, 96, 2, 10, 884), (62, 97, 0, 5, 888), (119, 103, 0, 5, 1164), (122, 104, 1, 1, 1168), (74, 105, 1, 2, 1172), (125, 119, 3, 100, 1236), (98, 120, 2, 8, 1239), (66, 129, 0, 10, 1280), (70, 130, 1, 5, 1284), (78, 132, 0, 0, 1293), (81, 133, 0, 5, 1297), (130, 27, 0, 1, 1301), (133, 134, 1, 5, 1302), (136, 135, 2, 2, 1306), (84, 136, 0, 0, 1310), (139, 137, 0, 9, 1314), (142, 106, 0, 5, 1318), (143, 99, 4, 100, 1319), (149, 80, 1, 5, 1320), (152, 138, 2, 0, 1321), (158, 111, 1, 5, 1325), (161, 114, 1, 5, 1326), (164, 112, 1, 5, 1327), (167, 139, 1, 5, 1328), (170, 19, 2, 9, 1332), (155, 140, 1, 9, 1333), (87, 141, 4, 3, 1337), (93, 142, 1, 100, 1342)],
  [(31, 4, 2, 100, 150), (45, 34, 2, 1, 635), (41, 26, 1, 1, 711), (49, 60, 2, 1, 735)],
  [(29, 11, 0, 10, 333), (38, 106, 0, 5, 1176), (42, 99, 4, 100, 1180), (62, 107, 0, 10, 1181), (65, 108, 1, 2, 1185), (75, 77, 1, 10, 1189), (79, 78, 1, 10, 1190), (82, 109, 2, 10, 1191), (86, 110, 2, 2, 1195), (101, 80, 1, 5, 1199), (104, 111, 1, 5, 1200), (107, 104, 1, 1, 1204), (110, 112, 1, 5, 1205), (113, 113, 2, 2, 1209), (116, 34, 2, 1, 1213), (69, 60, 2, 1, 1214), (119, 114, 1, 5, 1215), (90, 115, 1, 3, 1220), (95, 116, 2, 3, 1224), (98, 118, 2, 3, 1232)],
  [(28, 117, 2, 3, 1228)],
  [(28, 40, 3, 4, 658)],
  [(40, 74, 3, 5, 791), (44, 80, 1, 5, 816), (48, 81, 3, 5, 820), (51, 98, 0, 5, 892), (59, 99, 4, 100, 896), (65, 101, 1, 5, 1156), (55, 102, 2, 5, 1160), (77, 103, 0, 5, 1288), (80, 131, 2, 5, 1289)],
  [(27, 99, 4, 100, 1397), (33, 161, 5, 6, 1424), (41, 165, 2, 6, 1441), (37, 180, 1, 6, 1506), (45, 176, 1, 6, 1510)],
  [(11, 14, 0, 102, 398), (45, 152, 0, 6, 1384), (61, 153, 1, 3, 1388), (67, 142, 1, 100, 1392), (72, 154, 0, 6, 1393), (76, 155, 3, 7, 1398), (80, 156, 0, 7, 1402), (96, 157, 0, 6, 1406), (87, 158, 0, 7, 1410), (129, 159, 0, 7, 1414), (132, 70, 1, 4, 1418), (137, 69, 1, 4, 1419), (138, 160, 1, 6, 1420), (141, 162, 1, 7, 1428), (145, 163, 1, 7, 1432), (148, 161, 5, 6, 1436), (117, 164, 2, 6, 1437), (152, 67, 1, 4, 1445), (155, 72, 1, 4, 1446), (158, 166, 5, 7, 1447), (162, 167, 2, 7, 1451), (169, 168, 0, 6, 1455), (173, 169, 4, 8, 1459), (177, 170, 1, 100, 1463), (180, 34, 2, 1, 1466), (186, 171, 1, 100, 1467), (189, 172, 3, 6, 1470), (192, 64, 3, 1, 1474), (196, 119, 3, 100, 1475), (166, 173, 1, 7, 1476), (90, 174, 0, 7, 1480), (199, 175, 2, 7, 1484), (102, 176, 1, 6, 1488), (206, 165, 2, 6, 1492), (212, 177, 4, 7, 1494), (105, 178, 1, 6, 1498), (215, 179, 2, 6, 1502), (108, 180, 1, 6, 1511), (202, 181, 4, 7, 1512), (93, 182, 0, 7, 1516)],
  [(16, 107, 0, 10, 1243), (22, 121, 1, 10, 1244), (26, 99, 4, 100, 1248), (32, 11, 0, 10, 1249), (36, 109, 2, 10, 1250), (40, 122, 2, 100, 1251), (44, 80, 1, 5, 1254), (49, 111, 1, 5, 1255), (52, 112, 1, 5, 1256), (55, 114, 1, 5, 1257), (58, 123, 2, 100, 1258)],
  [(25, 88, 1, 100, 848)],
  [(11, 9, 0, 102, 239), (73, 66, 1, 10, 759), (100, 67, 1, 4, 763), (102, 68, 3, 10, 767), (64, 69, 1, 4, 771), (70, 70, 1, 4, 775), (106, 71, 1, 10, 779), (109, 72, 1, 4, 783), (77, 73, 0, 5, 787), (80, 74, 3, 5, 795), (84, 75, 0, 5, 796), (88, 76, 1, 10, 800), (112, 77, 1, 10, 804), (115, 78, 1, 10, 808), (96, 79, 2, 5, 812), (118, 82, 1, 10, 824), (124, 83, 2, 10, 828), (121, 84, 2, 10, 832), (127, 85, 2, 1, 836), (132, 86, 2, 10, 840), (140, 87, 1, 9, 844), (92, 89, 2, 10, 854), (145, 90, 1, 10, 858), (151, 91, 1, 9, 862), (148, 92, 1, 9, 866), (154, 93, 1, 9, 870), (135, 94, 1, 3, 874)],
  [(11, 2, 0, 101, 126), (18, 3, 0, 101, 146), (25, 5, 0, 102, 178), (32, 6, 0, 102, 200), (39, 7, 0, 102, 222), (42, 8, 4, 101, 233), (47, 10, 5, 101, 319), (56, 13, 4, 101, 392), (63, 17, 1, 9, 495), (67, 18, 1, 100, 499), (71, 19, 2, 9, 565), (75, 20, 1, 100, 569), (84, 21, 1, 100, 572), (79, 26, 1, 1, 604), (80, 27, 0, 1, 608), (87, 28, 1, 1, 612), (90, 31, 1, 9, 623), (93, 32, 1, 1, 627), (96, 33, 1, 1, 631), (99, 35, 2, 1, 639), (102, 38, 3, 11, 650), (172, 39, 3, 4, 654), (175, 41, 3, 4, 662), (110, 48, 1, 4, 689), (111, 53, 2, 1, 707), (115, 56, 1, 3, 719), (116, 34, 2, 1, 730), (119, 59, 3, 1, 731), (123, 61, 3, 1, 739), (127, 62, 5, 1, 743), (131, 63, 3, 0, 747), (134, 124, 2, 1, 1261), (138, 127, 0, 3, 1272), (139, 128, 1, 0, 1276), (142, 115, 1, 3, 1352), (145, 94, 1, 3, 1353), (148, 117, 2, 3, 1354), (151, 147, 2, 11, 1362), (178, 92, 1, 9, 1366), (181, 104, 1, 1, 1367), (184, 91, 1, 9, 1368), (154, 150, 1, 11, 1376), (157, 151, 2, 7, 1380), (160, 185, 1, 7, 1528), (163, 186, 1, 7, 1532)],
  [(189, 190, 1, 12, 1796), (193, 191, 3, 12, 1800), (185, 192, 3, 12, 1804), (199, 195, 1, 12, 1816), (202, 197, 1, 12, 1824), (206, 198, 1, 12, 1828), (212, 201, 4, 12, 1840), (216, 203, 5, 12, 1848), (220, 206, 1, 12, 1860), (310, 211, 1, 12, 1880), (272, 212, 1, 12, 1884), (236, 213, 0, 12, 1888), (229, 214, 3, 12, 1892), (276, 215, 1, 12, 1896), (256, 216, 2, 12, 1900), (240, 217, 1, 12, 1904), (260, 218, 1, 12, 1908), (232, 219, 2, 12, 1912), (263, 220, 2, 12, 1916), (266, 221, 3, 12, 1920), (249, 222, 2, 12, 1924), (253, 223, 1, 12, 1928), (269, 224, 2, 12, 1932), (313, 225, 0, 12, 1936), (317, 226, 1, 12, 1940), (320, 227, 0, 12, 1944), (301, 228, 2, 12, 1948), (295, 229, 2, 12, 1952), (298, 230, 1, 12, 1956), (323, 231, 1, 12, 1960), (326, 232, 1, 100, 1964), (329, 233, 1, 12, 1967), (332, 234, 1, 12, 1971), (307, 235, 1, 12, 1975), (338, 238, 3, 12, 1987), (342, 239, 4, 12, 1991), (335, 240, 3, 100, 1995), (403, 242, 1, 12, 2002), (376, 243, 6, 12, 2006), (406, 244, 0, 12, 2010), (396, 245, 5, 12, 2014), (366, 246, 0, 12, 2018), (369, 247, 6, 12, 2022), (380, 248, 2, 12, 2026), (383, 249, 2, 12, 2030), (400, 250, 2, 12, 2034), (389, 251, 1, 100, 2038), (392, 252, 3, 12, 2041)],
  [(68, 1, 0, 101, 118), (72, 15, 3, 100, 486), (7, 16, 1, 11, 491), (82, 22, 4, 100, 590), (17, 23, 2, 11, 593), (86, 24, 3, 100, 597), (21, 25, 1, 11, 600), (89, 29, 4, 100, 616), (24, 30, 2, 11, 619), (92, 36, 3, 100, 643), (27, 37, 1, 11, 646), (95, 42, 3, 100, 666), (30, 43, 1, 11, 669), (98, 44, 3, 100, 675), (33, 45, 1, 11, 678), (101, 46, 3, 100, 682), (36, 47, 1, 11, 685), (104, 49, 4, 100, 693), (39, 50, 2, 11, 696), (107, 51, 4, 100, 700), (42, 52, 2, 11, 703), (110, 54, 3, 100, 712), (45, 55, 1, 11, 715), (113, 57, 8, 100, 723), (48, 58, 6, 11, 726), (117, 125, 3, 100, 1265), (52, 126, 1, 11, 1268), (120, 143, 4, 100, 1345), (55, 144, 2, 11, 1348), (123, 145, 4, 100, 1355), (58, 146, 2, 11, 1358), (126, 148, 4, 100, 1369), (62, 149, 2, 11, 1372), (129, 183, 3, 100, 1521), (65, 184, 1, 11, 1524), (71, 187, 0, 101, 1538), (78, 188, 0, 12, 1788), (77, 189, 1, 12, 1792), (85, 193, 2, 12, 1808), (88, 194, 1, 12, 1812), (91, 196, 2, 12, 1820), (125, 199, 2, 12, 1832), (94, 200, 1, 12, 1836), (97, 202, 1, 12, 1844), (100, 204, 1, 12, 1852), (103, 205, 1, 12, 1856), (106, 207, 2, 12, 1864), (109, 208, 2, 12, 1868), (112, 209, 1, 12, 1872), (119, 210, 1, 12, 1876), (122, 236, 2, 12, 1979), (116, 237, 6, 12, 1983), (128, 241, 2, 12, 1998), (131, 253, 1, 12, 2045)],
  [(13, 100, 3, 100, 899)],
  []]
def pgNs : List (List (Nat × Nat × Nat × Nat × Nat)) := [[(49, 2, 327, 328, 97)],
  [],
  [],
  [],
  [],
  [],
  [],
  [(9, 6, 396, 397, 99)],
  [],
  [],
  [(9, 5, 237, 238, 95)],
  [(9, 9, 124, 125, 88), (16, 1, 144, 145, 89), (23, 4, 176, 177, 91), (30, 3, 198, 199, 92), (37, 8, 220, 221, 93), (40, 10, 231, 232, 94), (45, 0, 317, 318, 96), (54, 7, 390, 391, 98)],
  [],
  [(8, 11, 116, 117, 87), (69, 12, 1536, 1537, 100)],
  [],
  []]
def pgSs : List (List (Nat × Nat × Nat)) := [[],
  [],
  [],
  [],
  [],
  [],
  [],
  [(209, 1493, 1)],
  [],
  [],
  [],
  [(106, 673, 0)],
  [],
  [],
  [],
  []]
def pgKs : List (List (Nat × Int32 × Nat)) := [[],
  [],
  [],
  [],
  [],
  [],
  [],
  [],
  [(11, 35520, 226)],
  [],
  [],
  [],
  [(65, 35520, 1542), (69, 200000, 1543)],
  [],
  [],
  [(265, 1431655765, 851), (266, 858993459, 852), (267, 252645135, 853)]]
def pgOs : List (List (Nat × Nat)) := [[(3, 322)],
  [(3, 149)],
  [(3, 332)],
  [(3, 203)],
  [(3, 181)],
  [(3, 242)],
  [(3, 401)],
  [(3, 395)],
  [(3, 225)],
  [(3, 129)],
  [(3, 236)],
  [(3, 121)],
  [(1, 1541)],
  [],
  [],
  []]
def pgYs : List (List (Nat × Nat)) := [[],
  [],
  [],
  [(31, 1341)],
  [],
  [],
  [],
  [],
  [],
  [],
  [],
  [],
  [],
  [],
  [(150, 979)],
  []]
def pgY2 : List (List (Nat × Nat)) := [[],
  [],
  [],
  [],
  [],
  [(72, 1219)],
  [],
  [],
  [],
  [],
  [],
  [],
  [],
  [],
  [],
  []]
def pgY3 : List (List (Nat × Nat)) := [[],
  [],
  [],
  [],
  [],
  [],
  [],
  [(111, 1520)],
  [],
  [],
  [],
  [],
  [],
  [],
  [(304, 976)],
  []]
def pgYm : Nat × Nat × Nat := (959, 112, 960)
def pgYn : Nat × Nat × Nat := (977, 112, 978)
def pgYo : Nat × Nat × Nat := (981, 980, 113)
def pgLs : List (List Nat) := [[371, 373, 375, 377, 379, 381, 383, 385, 387],
  [160, 162, 164, 166, 168, 170, 172],
  [343, 345, 347, 349, 351, 353, 355, 357, 359],
  [209, 211, 213, 215, 217],
  [187, 189, 191, 193, 195],
  [253, 255, 257, 259, 261, 263, 265, 267, 269, 271],
  [406, 408, 410, 412],
  [432, 434, 436, 438, 440, 442, 444, 446, 448, 450, 452, 454, 456, 458, 460, 462, 464],
  [228],
  [134, 136, 138, 140],
  [288, 290, 292, 294, 296, 298, 300, 302, 304, 306, 308, 310, 312, 314],
  [473, 475, 477, 479, 481, 483],
  [1625, 1627, 1629, 1631, 1633, 1635, 1637, 1639, 1641, 1643, 1645, 1647, 1649, 1651, 1653, 1655, 1657, 1659, 1661, 1663, 1665, 1667, 1669, 1671, 1673, 1675, 1677, 1679, 1681, 1683, 1685, 1687, 1689, 1691, 1693, 1695, 1697, 1699, 1701, 1703, 1705, 1707, 1709, 1711, 1713, 1715, 1717, 1719, 1721, 1723, 1725, 1727, 1729, 1731, 1733, 1735, 1737, 1739, 1741, 1743, 1745, 1747, 1749, 1751, 1753, 1755, 1757, 1759, 1761, 1763, 1765, 1767, 1769, 1771, 1773, 1775, 1777, 1779, 1781, 1783, 1785]]
/-- handlers: what is taken, by which row, where it is, the local, where it goes on, the words -/
def pgHs : List (List (String × Nat × Nat × Nat × Nat × Nat × Nat)) := [[], [], [], [], [], [], [], [], [], [], [], [], [], [], [], [("java/lang/IllegalArgumentException", 0, 12, 3, 13, 489, 504), ("java/lang/IllegalStateException", 1, 15, 3, 16, 490, 577)], [], [], [], [], [], [], [("java/lang/IllegalArgumentException", 0, 13, 4, 15, 489, 504), ("java/lang/IllegalStateException", 1, 17, 4, 19, 490, 577)], [], [("java/lang/IllegalArgumentException", 0, 12, 3, 13, 489, 504), ("java/lang/IllegalStateException", 1, 15, 3, 16, 490, 577)], [], [], [], [], [("java/lang/IllegalArgumentException", 0, 13, 4, 15, 489, 504), ("java/lang/IllegalStateException", 1, 17, 4, 19, 490, 577)], [], [], [], [], [], [], [("java/lang/IllegalStateException", 0, 12, 3, 13, 490, 577)], [], [], [], [], [], [("java/lang/IllegalArgumentException", 0, 12, 3, 13, 489, 504), ("java/lang/IllegalStateException", 1, 15, 3, 16, 490, 577)], [], [("java/lang/IllegalArgumentException", 0, 12, 3, 13, 489, 504), ("java/lang/IllegalStateException", 1, 15, 3, 16, 490, 577)], [], [("java/lang/IllegalArgumentException", 0, 12, 3, 13, 489, 504), ("java/lang/IllegalStateException", 1, 15, 3, 16, 490, 577)], [], [], [("java/lang/IllegalArgumentException", 0, 13, 4, 15, 489, 504), ("java/lang/IllegalStateException", 1, 17, 4, 19, 490, 577)], [], [("java/lang/IllegalArgumentException", 0, 13, 4, 15, 489, 504), ("java/lang/IllegalStateException", 1, 17, 4, 19, 490, 577)], [], [], [("java/lang/IllegalArgumentException", 0, 12, 3, 13, 489, 504), ("java/lang/IllegalStateException", 1, 15, 3, 16, 490, 577)], [], [], [("java/lang/IllegalArgumentException", 0, 21, 8, 23, 489, 504), ("java/lang/IllegalStateException", 1, 25, 8, 27, 490, 577)], [], [], [], [], [], [], [], [], [], [], [], [], [], [], [], [], [], [], [], [], [], [], [], [], [], [], [], [], [], [], [], [], [], [], [], [], [], [], [], [], [], [], [], [], [], [], [], [], [], [], [], [], [], [], [], [], [], [], [], [], [], [], [], [], [], [], [], [("java/lang/IllegalArgumentException", 0, 12, 3, 13, 489, 504), ("java/lang/IllegalStateException", 1, 15, 3, 16, 490, 577)], [], [], [], [], [], [], [], [], [], [], [], [], [], [], [], [], [], [("java/lang/IllegalArgumentException", 0, 13, 4, 15, 489, 504)], [], [("java/lang/IllegalArgumentException", 0, 20, 4, 22, 489, 504)], [], [], [("java/lang/IllegalArgumentException", 0, 13, 4, 15, 489, 504), ("java/lang/IllegalStateException", 1, 17, 4, 19, 490, 577)], [], [], [], [], [], [], [], [], [], [], [], [], [], [], [], [], [], [], [], [], [], [], [], [], [], [], [], [], [], [], [], [], [], [], [("java/lang/IllegalArgumentException", 0, 12, 3, 13, 489, 504)], [], [], [], [], [], [], [], [], [], [], [], [], [], [], [], [], [], [], [], [], [], [], [], [], [], [], [], [], [], [], [], [], [], [], [], [], [], [], [], [], [], [], [], [], [], [], [], [], [], [], [], [], [], [], [], [], [], [], [], [], [], [], [], [], [], [], [], [], [], []]
def pgAr : Nat × Nat × Nat := (143, 175, 2049)
def pgOb : Nat × Nat := (122, 123)
def pgXA : Nat × Nat := (166, 168)
def pgXS : Nat × Nat := (169, 171)
def pgNi : List Nat := [178, 200, 222, 239, 398, 504, 505, 507, 509, 577, 1493]
def pgEA : mvE := (⟨"DictionaryHouse", "requireArgument", "(Z)V"⟩, prog_1_method_19_code, 1, none, [])
def pgES : mvE := (⟨"DictionaryHouse", "requireState", "(Z)V"⟩, prog_1_method_20_code, 1, none, [])
def pgIx : List Nat := [318, 145, 328, 199, 177, 238, 397, 391, 221, 125, 232, 117, 1537]
def pgJA : Nat := 18
def pgJS : Nat := 21
