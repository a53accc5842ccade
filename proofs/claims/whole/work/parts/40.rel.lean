/-! the pictures at the start -/
def σ0 : Hp := fun o => if o = 1 then (fun i => if i = 1 then 5 else 0) else if o = 2 then (fun i => if i = 1 then 3 else 0) else if o = 10 then (fun i => if i = 1 then -1 else 0) else if o = 11 then (fun i => if i = 1 then -1 else 0) else if o = 12 then (fun i => if i = 1 then -1 else 0) else if o = 13 then (fun i => if i = 1 then -1 else 0) else fun _ => 0
def τ0 : Hp := fun _ _ => 0
