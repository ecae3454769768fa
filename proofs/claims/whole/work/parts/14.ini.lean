/-- the memory of new objects -/
def μ0 : Mem := (fun q j => if kd q = 7 then (if j = 0 then 2 else if j = 8 then 4 else if j = 9 then 1 else 0) else 0, fun q j => if kd q = 8 then (if j = 1 then 4 else 10) else if kd q = 4002 then 74 + 46 * j else if kd q = 5010 then q + 1 + 4 * j else 0, fun _ => 0)
/-- what the model's constructor makes of it -/
def ini (F : Nat) : Option Mem := (f_X9_plain F μ0 166).bind fun μ1 => (f_X9_takeDraft F μ1 166).bind fun μ2 => some μ2
theorem ini_some : (ini 20).isSome = true := by decide +kernel
def μI : Mem := (ini 20).get ini_some
theorem ini_eq : ini 20 = some μI := (Option.some_get _).symm
