def iW0 : Nat → Int32 := upd (upd (upd (upd (upd (upd (fun _ => 0) 0 1) 1 2) 2 3) 3 4) 4 5) 5 6
def iS0 : Nat → Int32 := upd (upd (fun _ => 0) 0 8) 1 15
/-- the memory behind the two constructors -/
def M0 : Mem := (fun r => if r < 12 then (fun _ => 0) else if 149 < r then (fun _ => 0) else if (r - 12) % 23 = 1 then iW0 else if (r - 12) % 23 = 2 then iS0 else (fun _ => 0), fun k => if k < 4 then 58 + 23 * k else 0)
