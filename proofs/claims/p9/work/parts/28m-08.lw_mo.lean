section LWB_8
variable {p : Program} {e : Env} {s : State} {m : MethodId} {below : List Frame} {meth : Method} {c : Code} {b L : Nat} {xs : Nat → Int32}
theorem lw_mo : ∀ j : Nat, j < 6 → Cond.eq (.elem (.static "UnbeatenHouse" "MOST" "[I") (.int (Int32.ofNat j))) (.int (mj_most j)) ∈ flatC lw_nr := fun j hj => List.mem_of_getElem? (lw_mox j hj)
end LWB_8

