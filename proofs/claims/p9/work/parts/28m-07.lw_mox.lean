section LWB_7
variable {p : Program} {e : Env} {s : State} {m : MethodId} {below : List Frame} {meth : Method} {c : Code} {b L : Nat} {xs : Nat → Int32}
theorem lw_mox : ∀ j : Nat, j < 6 → (flatC lw_nr)[12 + j]? = some (Cond.eq (.elem (.static "UnbeatenHouse" "MOST" "[I") (.int (Int32.ofNat j))) (.int (mj_most j))) := by decide +kernel
end LWB_7

