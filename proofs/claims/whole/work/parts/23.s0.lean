def hs_s0 : HS := (fun o => if o = 68 then upd (fun _ => 0) 21 1 else if o = 1 ∨ o = 6 ∨ o = 13 ∨ o = 18 ∨ o = 23 ∨ o = 28 ∨ o = 33 then upd (fun _ => 0) 6 1 else fun _ => 0, fun _ _ => 0)
