/-! words of the constructors, by their places -/
theorem tw_125 : (Jvm.Cond.arrayClass Jvm.ClassFile.FieldType.int) ∈ TW := in_t1 54 (by decide +kernel) rfl
theorem tw_1604 : (Jvm.Cond.arrayClass Jvm.ClassFile.FieldType.long) ∈ TW := in_t7 93 (by decide +kernel) rfl
theorem oiI : Cond.instanceMethod Lib.objectInit ∈ TW := tw_107
theorem oiC : Cond.code Lib.objectInit ⟨#[0xb1]⟩ 1 none ∈ TW := tw_108
