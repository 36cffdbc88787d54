/-- the memory of the two objects as they are made -/
def M0 : Mem := fun c => match kd c with
  | 0 => fun k => if k = 3 then (-1) else 0
  | 4 => fun k => if k = 4 then (-1) else 0
  | 5 => fun k => if k = 4 then 1000000 else 0
  | 6 => fun k => if k = 1 then (-1) else 0
  | 7 => fun k => if k = 3 then (-1) else 0
  | 8 => fun k => if k = 3 then (-1) else 0
  | 11 => fun k => if k = 8 then 1 else 0
  | _ => fun _ => 0
