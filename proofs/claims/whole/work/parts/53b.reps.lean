/-! Keys and rows: how often a power is there, what a base is. -/
def bC (g n : Nat) (r : List Nat) : Nat := if g = 0 then (if n = 3 ∧ r.count 0 = 3 then 1 else 0) else if g = 1 then (if n = 1 ∧ r.count 1 = 1 then 1 else 0) else if n = 1 ∧ r.count 4 = 1 then 5 else if n = 2 ∧ r.count 2 = 1 ∧ r.count 3 = 1 then 29 else if n = 3 ∧ r.count 2 = 3 then 168 else 0
def chkR (g n : Nat) (r : List Nat) : Bool := (List.range 15).all (fun p => dg (gK g r) p == r.count p) && (bK (gK g r) == bC g n r) && (!(rlK (gK g r) == 3) || Nat.blt 0 (r.count 1))
def chkRG (g : Nat) : Bool := (List.range 12).all (fun n => Nat.ble (2 * g + n) 2 || (nE 14 n (3 * g + n - 3)).all (chkR g n))
theorem reps0 : chkRG 0 = true := by decide +kernel
theorem reps1 : chkRG 1 = true := by decide +kernel
theorem reps2 : chkRG 2 = true := by decide +kernel
