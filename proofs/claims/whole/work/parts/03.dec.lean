/-! instructions, decided; a method by its name, its bytes, its locals, what it returns -/
abbrev e_Y : Type := MethodName × ByteArray × Nat × Option FieldType
/-- a method's instructions, decided at once -/
def e_dk (b : ByteArray) (l : List (Nat × Instr × Nat)) : Bool := l.all fun q => decide (decode b q.1 = .ok (q.2.1, q.2.2))
theorem e_dx {b : ByteArray} {l : List (Nat × Instr × Nat)} (h : e_dk b l = true) (k : Nat) {pc n : Nat} {ins : Instr} (hk : l[k]? = some (pc, ins, n)) : decode b pc = .ok (ins, n) := by
  have h1 := List.all_eq_true.mp h (pc, ins, n) (List.mem_of_getElem? hk)
  exact of_decide_eq_true h1
