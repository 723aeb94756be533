/-! the constructors: they end -/
def it_1 : Option (Option Value × xq_S) := xq_x 20000 90 0 (xq_new xq_00 11 10) 0 ([.ref 0] ++ List.replicate ((xq_mn 0).2.2.1 - 1) xq_un) []
theorem it_1s : (match it_1 with | some (none, x) => Nat.beq (xq_N x) 126 | _ => false) = true := by decide +kernel
