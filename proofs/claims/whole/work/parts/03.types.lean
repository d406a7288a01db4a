/-! ===== the small machine's code ===== -/
abbrev mQ : Type := List (Nat × Instr × Nat)
/-- a method's table row: its name, code, locals, answer's type, class, arguments (the receiver too), kind (0 static, 1 of an object, 2 constructor), the small machine's code -/
abbrev mX : Type := MethodName × ByteArray × Nat × Option FieldType × Nat × Nat × Nat × mQ
