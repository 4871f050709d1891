section LWB_4
variable {p : Program} {e : Env} {s : State} {m : MethodId} {below : List Frame} {meth : Method} {c : Code} {b L : Nat} {xs : Nat → Int32}
abbrev lw_nr : Cond := Jvm.Cond.and given_1 narrow_1
end LWB_4

