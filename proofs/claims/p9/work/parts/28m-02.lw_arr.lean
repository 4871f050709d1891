section LWB_2
variable {p : Program} {e : Env} {s : State} {m : MethodId} {below : List Frame} {meth : Method} {c : Code} {b L : Nat} {xs : Nat → Int32}
theorem lw_arr {ty : FieldType} {args : Array Value} (h : (Cond.arrayClass ty).before args s = true) : ∃ (cA : ClassId) (kA : Class) (comp : ClassId), s.vm.findClass ("[" ++ ty.toString) = some cA ∧ s.vm.classes[cA]? = some kA ∧ kA.kind = .array comp ty := by
  simp only [Cond.before, Cond.holds, Cond.value] at h
  cases e1 : s.vm.findClass ("[" ++ ty.toString) with
  | none => simp [e1] at h
  | some c =>
    cases e2 : s.vm.classes[c]? with
    | none => simp [e1, e2] at h
    | some k =>
      simp [e1, e2] at h
      cases e3 : k.kind with
      | array comp t => rw [e3] at h; simp at h; exact ⟨c, k, comp, rfl, e2, by rw [e3, h]⟩
      | _ => rw [e3] at h; simp at h
end LWB_2

