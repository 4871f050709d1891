section LWB_6
variable {p : Program} {e : Env} {s : State} {m : MethodId} {below : List Frame} {meth : Method} {c : Code} {b L : Nat} {xs : Nat → Int32}
theorem lw_el : ∀ j : Nat, j < 102 → Cond.eq (.elem (.field (Term.string "UnbeatenHouse$Reader" 29) "java/lang/String" "value" "[B") (.int (Int32.ofNat j))) (.int (mj_ownB.getD j 0)) ∈ flatC lw_nr := fun j hj => List.mem_of_getElem? (lw_elx j hj)
end LWB_6

