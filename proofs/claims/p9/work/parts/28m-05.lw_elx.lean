section LWB_5
variable {p : Program} {e : Env} {s : State} {m : MethodId} {below : List Frame} {meth : Method} {c : Code} {b L : Nat} {xs : Nat → Int32}
set_option maxRecDepth 100000 in
theorem lw_elx : ∀ j : Nat, j < 102 → (flatC lw_nr)[22 + j]? = some (Cond.eq (.elem (.field (Term.string "UnbeatenHouse$Reader" 29) "java/lang/String" "value" "[B") (.int (Int32.ofNat j))) (.int (mj_ownB.getD j 0))) := by decide +kernel
end LWB_5

