/-! Keys: what the class does with them. -/
noncomputable def chkK (g n key : Nat) : Bool :=
  decide (gOf key = g) && decide (nOf key = n) && decide (key < 4611686018427387904) && decide (0 < key) &&
  decide (F_X3_ruleOf (Int64.ofNat key) = some (Int32.ofNat (rlK key))) && decide (F_X3_baseOf (Int64.ofNat key) = some (Int64.ofNat (bK key))) &&
  (List.range 14).all (fun i => decide (F_X3_nextKey (Int64.ofNat key) (Int32.ofNat (rlK key)) (Int32.ofNat (i + 1)) = some (Int64.ofNat (nxK key (i + 1))))) &&
  (List.range 14).all (fun i => nxK key (i + 1) == 0 || ((lkG g (n - 1)).elem (nxK key (i + 1)) && Nat.ble 2 n && Nat.blt 2 (2 * g + n - 1) && decide (F_X3_weightOf (Int64.ofNat key) (Int32.ofNat (rlK key)) (Int32.ofNat (i + 1)) = some (Int64.ofNat (wtK key (i + 1)))))) &&
  decide (VN key = bK key + ((List.range 14).map (fun i => if nxK key (i + 1) = 0 then 0 else wtK key (i + 1) * VN (nxK key (i + 1)))).sum) && decide (VN key < 4294967296)
noncomputable def chkG (g : Nat) : Bool := (List.range 12).all (fun n => Nat.ble (2 * g + n) 2 || (lkG g n).all (chkK g n))
theorem keys0 : chkG 0 = true := by decide +kernel
theorem keys1 : chkG 1 = true := by decide +kernel
theorem keys2 : chkG 2 = true := by decide +kernel
