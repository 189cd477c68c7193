-- needs: 07z.sim 07x.law
def iLa (z : Int) : ZB := (fun _ => 0, fun k => if k = 2 then (up (fun _ => 0) 0 z) else (fun _ => 0))
def iZ : ZB := (fun _ => 0, fun _ _ => 0)
def iRd : ZB := (fun k => if k = 3 then 8805260 else if k = 4 then 243140 else if k = 5 then 2549435302 else 0, fun _ _ => 0)
def iPS : ZB := (fun _ => 0, fun k => if k = 3 then (up (up (up (up (up (up (up (up (up (up (fun _ => 0) 0 0) 1 1) 2 2) 3 3) 4 4) 5 5) 6 6) 7 7) 8 8) 9 9) else (fun _ => 0))
def iAc : ZA := (fun _ => 0, fun _ => zNet0B)
def iM : ZB := (fun _ => 0, fun k => if k = 12 then (up (fun _ => 0) 2 2) else (fun _ => 0))
def SimInit (INV : ZB → ZB → ZB → ZB → ZB → ZA → ZB → ZB → ZB → ZQ → ZB → ZB → ZB → Option ZB → Option ZB → ZB → Prop) : Prop := ∀ p1 p2 : Nat, INV iZ zNet0B iZ iRd zNet0B iAc iZ iPS iZ (iZ, p1, p2) iZ iZ iZ none none iM
