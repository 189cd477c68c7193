-- needs: 07.fun
/-! image and restore, over what the two places keep -/
def cont (q : ZO) : Option ZB := q.map (fun z => z.2)
def zNet0B : ZB := (fun k => if k = 6 then 2 else 0, fun _ _ => 0)
def fX_image (N : ZB) (c0 c1 : Option ZB) (a1 : Int) : Option (Int × Option ZB × Option ZB) :=
  if nm a1 = 0 then bd (fN_become (c0.getD zNet0B) N) fun u => some (1, some u, c1)
  else if nm a1 = 1 then bd (fN_become (c1.getD zNet0B) N) fun u => some (1, c0, some u)
  else some (0, c0, c1)
def restoreFrom (N : ZB) (Ac : ZA) (c : Option ZB) : Option (Int × ZB × ZA) := match c with
  | none => some (0, N, Ac)
  | some S => bd (fN_become N S) fun u => bd (fAc_forget Ac) fun v => some (1, u, v)
def fX_restore (N : ZB) (Ac : ZA) (c0 c1 : Option ZB) (a1 : Int) : Option (Int × ZB × ZA) :=
  if nm a1 = 0 then restoreFrom N Ac c0 else if nm a1 = 1 then restoreFrom N Ac c1 else some (0, N, Ac)
