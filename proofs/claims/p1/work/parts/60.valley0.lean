/-! ===== the tape that is empty, read at once ===== -/
set_option maxRecDepth 100000 in
theorem valley_0 : bq (f_X8_valley σ0) (fun r σ1 => bq (f_X9_valley σ1) (fun r2 _ => if r = r2 then some 1 else none)) = some (1 : Int32) := by decide +kernel
