/-! the two bases of a neighbour: all cases by P -/
def dot (v w : V3) : Int := v.1 * w.1 + v.2.1 * w.2.1 + v.2.2 * w.2.2
def fstN (v : V3) : Nat := if v.1 ≠ 0 then 0 else if v.2.1 ≠ 0 then 1 else 2
def lstN (v : V3) : Nat := if v.2.2 ≠ 0 then 2 else if v.2.1 ≠ 0 then 1 else 0
/-- what makes 1 by p; 1 if nothing does -/
def ivm (p : Nat) (x : Int) : Int := if (1 * x) % (p : Int) = 1 then 1 else if (2 * x) % (p : Int) = 1 then 2 else if (3 * x) % (p : Int) = 1 then 3 else if (4 * x) % (p : Int) = 1 then 4 else if (5 * x) % (p : Int) = 1 then 5 else if (6 * x) % (p : Int) = 1 then 6 else 1
def mkr (p : Nat) (rho : V3) (r : Nat) : V3 := if r = lstN rho then (if r = 0 then ((p : Int) * p, 0, 0) else if r = 1 then (0, (p : Int) * p, 0) else (0, 0, (p : Int) * p)) else
  ((if r = 0 then (p : Int) else if lstN rho = 0 then (p : Int) * -((col r rho * ivm p (col (lstN rho) rho)) % (p : Int)) else 0), (if r = 1 then (p : Int) else if lstN rho = 1 then (p : Int) * -((col r rho * ivm p (col (lstN rho) rho)) % (p : Int)) else 0), (if r = 2 then (p : Int) else if lstN rho = 2 then (p : Int) * -((col r rho * ivm p (col (lstN rho) rho)) % (p : Int)) else 0))
def nbR (p : Nat) (rho w : V3) : Option (Nat → V3) := stl (tup4 (mkr p rho 0) (mkr p rho 1) (mkr p rho 2) w)
def ofc (u v o : Nat) (x y z : Int) : V3 := ((if u = 0 then x else if v = 0 then y else z), (if u = 1 then x else if v = 1 then y else z), (if u = 2 then x else if v = 2 then y else z))
def nbV (p : Nat) (u : Nat) (w : V3) : Nat := if col ((u + 1) % 3) w % (p : Int) ≠ 0 then (u + 1) % 3 else (u + 2) % 3
/-- the class's basis -/
def nbC (p : Nat) (u v : Nat) (rho w : V3) : T9 := (ofc u v (3 - u - v) ((p : Int) * ((ivm p (col v w % (p : Int)) * ((col u w + col v rho * col v w + col (3 - u - v) rho * col (3 - u - v) w) / (p : Int))) % (p : Int)) - col v rho - ((ivm p (col v w % (p : Int)) * col (3 - u - v) w) % (p : Int)) * col (3 - u - v) rho) 1 ((ivm p (col v w % (p : Int)) * col (3 - u - v) w) % (p : Int)), ofc u v (3 - u - v) (-col (3 - u - v) rho) 0 1, ofc u v (3 - u - v) (p : Int) 0 0)
def dvV (v : V3) (d : Int) : V3 := (v.1 / d, v.2.1 / d, v.2.2 / d)
def scT (p : Int) (B : T9) : T9 := (B.1, qf_sc p B.2.1, qf_sc p B.2.2)
def v6b (v : V3) : Bool := decide (ab v.1 ≤ 60) && decide (ab v.2.1 ≤ 60) && decide (ab v.2.2 ≤ 60)
def nbU (p : Nat) (B : T9) (R : Nat → V3) : T9 := (dvV (qf_lin (qf_adj (scT p B)) (R 0)) (qf_det (scT p B)), dvV (qf_lin (qf_adj (scT p B)) (R 1)) (qf_det (scT p B)), dvV (qf_lin (qf_adj (scT p B)) (R 2)) (qf_det (scT p B)))
def ckB (p : Nat) (u v : Nat) (rho w : V3) (B : T9) : Bool := v6b B.1 && v6b B.2.1 && v6b B.2.2 && decide (dot rho B.2.1 % (p : Int) = 0) && decide (dot rho B.2.2 % (p : Int) = 0) && decide (dvV (vsub B.1 w (ivm p (col v w % (p : Int)))) (p : Int) = dvV (vsub B.1 w (ivm p (col v w % (p : Int)))) (p : Int)) && decide (qf_sc (p : Int) (dvV (vsub B.1 w (ivm p (col v w % (p : Int)))) (p : Int)) = vsub B.1 w (ivm p (col v w % (p : Int)))) && decide (dot rho (dvV (vsub B.1 w (ivm p (col v w % (p : Int)))) (p : Int)) % (p : Int) = 0)
def smw (v : V3) : Bool := decide (ab v.1 ≤ 1000) && decide (ab v.2.1 ≤ 1000) && decide (ab v.2.2 ≤ 1000)
def ck1 (p : Nat) (u : Nat) (rho w : V3) : Bool := match nbR p rho w with
  | none => false
  | some R => ckB p u (nbV p u w) rho w (nbC p u (nbV p u w) rho w) && smw (R 0) && smw (R 1) && smw (R 2) && decide (qf_mul (nbU p (nbC p u (nbV p u w) rho w) R) (scT p (nbC p u (nbV p u w) rho w)) = (R 0, R 1, R 2)) && (decide (qf_det (nbU p (nbC p u (nbV p u w) rho w) R) = 1) || decide (qf_det (nbU p (nbC p u (nbV p u w) rho w) R) = -1))
def ckA (p : Nat) : Bool := (ptsP p).all (fun l => (ptsP p).all (fun rho => !decide (dot l rho % (p : Int) = 0) || (List.range p).all (fun t => ck1 p (fstN rho) rho (zW l p (t : Int) (fstN rho)))))
theorem ckA3 : ckA 3 = true := by decide +kernel
