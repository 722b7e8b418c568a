/-! The methods as pure functions, printed by wip/gen2. -/
/-! X0_undoable -/
noncomputable def F_X0_undoable (t_now : Int32) : Option (Int32) :=
  some t_now

/-! X0_repeatable -/
noncomputable def F_X0_repeatable (t_now : Int32) (t_last : Int32) : Option (Int32) :=
  some (t_last - t_now)

/-! X0_present -/
noncomputable def F_X0_present (t_now : Int32) : Option (Nat) :=
  if t_now < 0 then (some 0) else (if (8 : Int32) < t_now then (some 0) else (ck t_now 9 (some t_now.toNatClampNeg)))

/-! X0_dropOldest -/
noncomputable def F_X0_dropOldest (d_t_desks : Nat → Nat) (q_t_desks : Nat → Nat) (a_t_desks : Nat → Nat → Int32) (t_desks_genus : Nat → Int32) (t_desks_size : Nat → Int32) (t_desks_limit : Nat → Int32) (t_desks_tree : Nat → Int64) (t_now : Int32) : Option (Int32 × (Nat → Nat → Int32) × (Nat → Nat) × (Nat → Int32) × (Nat → Int32) × (Nat → Nat) × (Nat → Int32) × (Nat → Int64)) :=
  some ((t_now - (1 : Int32)), (rot9 a_t_desks), (rot9 d_t_desks), (rot9 t_desks_genus), (rot9 t_desks_limit), (rot9 q_t_desks), (rot9 t_desks_size), (rot9 t_desks_tree))

/-! X1_copyFrom -/
noncomputable def K_X1_copyFrom_18_42 (p0_genus : Int32) (p0_size : Int32) (p0_limit : Int32) (p0_tree : Int64) (vK18_42_0 : Nat → Int32) : Option ((Nat → Int32) × Int32 × Int32 × Int32 × Int64) :=
  some (vK18_42_0, p0_genus, p0_size, p0_limit, p0_tree)
noncomputable def B_X1_copyFrom_18 (a_p0_powers : Nat → Int32) (kk18_42 : (Nat → Int32) → Option ((Nat → Int32) × Int32 × Int32 × Int32 × Int64)) (vL18_0 : Nat → Int32) (vL18_1 : Int32) (ag18 : (Nat → Int32) → Int32 → Option ((Nat → Int32) × Int32 × Int32 × Int32 × Int64)) : Option ((Nat → Int32) × Int32 × Int32 × Int32 × Int64) :=
  if (8 : Int32) ≤ vL18_1 then (kk18_42 vL18_0) else (ck vL18_1 8 (ck vL18_1 8 (ag18 (upd vL18_0 vL18_1.toNatClampNeg (a_p0_powers vL18_1.toNatClampNeg)) (vL18_1 + (1 : Int32)))))
noncomputable def F_X1_copyFrom (p0_genus : Int32) (p0_size : Int32) (p0_limit : Int32) (p0_tree : Int64) (a_t_powers : Nat → Int32) (a_p0_powers : Nat → Int32) : Option ((Nat → Int32) × Int32 × Int32 × Int32 × Int64) :=
  wq2 (B_X1_copyFrom_18 a_p0_powers (K_X1_copyFrom_18_42 p0_genus p0_size p0_limit p0_tree)) FU a_t_powers (0 : Int32)

/-! X1_powerAt -/
noncomputable def F_X1_powerAt (a_t_powers : Nat → Int32) (p0 : Int32) : Option (Int32) :=
  if p0 < 0 then (some (0 : Int32)) else (if (8 : Int32) ≤ p0 then (some (0 : Int32)) else (ck p0 8 (some (a_t_powers p0.toNatClampNeg))))

/-! X1_unlikePowers -/
noncomputable def K_X1_unlikePowers_4_42  (vK4_42_0 : Int32) : Option (Int32) :=
  some vK4_42_0
noncomputable def B_X1_unlikePowers_4 (t_size : Int32) (p0_size : Int32) (a_t_powers : Nat → Int32) (a_p0_powers : Nat → Int32) (kk4_42 : Int32 → Option (Int32)) (vL4_0 : Int32) (vL4_1 : Int32) (ag4 : Int32 → Int32 → Option (Int32)) : Option (Int32) :=
  if t_size ≤ vL4_1 then (kk4_42 vL4_0) else (if p0_size ≤ vL4_1 then (kk4_42 vL4_0) else (bd (F_X1_powerAt a_t_powers vL4_1) (fun x3 => bd (F_X1_powerAt a_p0_powers vL4_1) (fun x4 => if x3 = x4 then (ag4 vL4_0 (vL4_1 + (1 : Int32))) else (ag4 (vL4_0 + (1 : Int32)) (vL4_1 + (1 : Int32)))))))
noncomputable def F_X1_unlikePowers (t_size : Int32) (p0_size : Int32) (a_t_powers : Nat → Int32) (a_p0_powers : Nat → Int32) : Option (Int32) :=
  wq2 (B_X1_unlikePowers_4 t_size p0_size a_t_powers a_p0_powers K_X1_unlikePowers_4_42) FU (0 : Int32) (0 : Int32)

/-! X1_isLike -/
noncomputable def F_X1_isLike (t_genus : Int32) (t_size : Int32) (t_limit : Int32) (t_tree : Int64) (p0_genus : Int32) (p0_size : Int32) (p0_limit : Int32) (p0_tree : Int64) (a_t_powers : Nat → Int32) (a_p0_powers : Nat → Int32) : Option (Int32) :=
  if t_genus = p0_genus then (if t_limit = p0_limit then (if (lg_cmp t_tree p0_tree) = 0 then (if t_size = p0_size then (bd (F_X1_unlikePowers t_size p0_size a_t_powers a_p0_powers) (fun x5 => if x5 = 0 then (some (1 : Int32)) else (some (0 : Int32)))) else (some (0 : Int32))) else (some (0 : Int32))) else (some (0 : Int32))) else (some (0 : Int32))

/-! X0_settle -/
noncomputable def J_X0_settle_25 (p0_genus : Int32) (p0_size : Int32) (p0_limit : Int32) (p0_tree : Int64) (a_p0_powers : Nat → Int32) (vJ25_0 : Int32) (vJ25_1 : Nat → Nat → Int32) (vJ25_2 : Nat → Nat) (vJ25_3 : Nat → Int32) (vJ25_4 : Nat → Int32) (vJ25_5 : Nat → Nat) (vJ25_6 : Nat → Int32) (vJ25_7 : Nat → Int64) : Option (Int32 × Int32 × (Nat → Nat → Int32) × (Nat → Nat) × (Nat → Int32) × (Nat → Int32) × (Nat → Nat) × (Nat → Int32) × (Nat → Int64)) :=
  bd (F_X0_present (vJ25_0 + (1 : Int32))) (fun x1 => bd (F_X1_copyFrom p0_genus p0_size p0_limit p0_tree (vJ25_1 x1) a_p0_powers) (fun x2 => some ((vJ25_0 + (1 : Int32)), (vJ25_0 + (1 : Int32)), (va_up vJ25_1 x1 (x2.1)), vJ25_2, (va_up vJ25_3 x1 (x2.2.1)), (va_up vJ25_4 x1 (x2.2.2.2.1)), vJ25_5, (va_up vJ25_6 x1 (x2.2.2.1)), (va_up vJ25_7 x1 (x2.2.2.2.2)))))
noncomputable def J_X0_settle_12 (d_t_desks : Nat → Nat) (q_t_desks : Nat → Nat) (a_t_desks : Nat → Nat → Int32) (t_desks_genus : Nat → Int32) (t_desks_size : Nat → Int32) (t_desks_limit : Nat → Int32) (t_desks_tree : Nat → Int64) (t_now : Int32) (p0_genus : Int32) (p0_size : Int32) (p0_limit : Int32) (p0_tree : Int64) (a_p0_powers : Nat → Int32)  : Option (Int32 × Int32 × (Nat → Nat → Int32) × (Nat → Nat) × (Nat → Int32) × (Nat → Int32) × (Nat → Nat) × (Nat → Int32) × (Nat → Int64)) :=
  if t_now < (8 : Int32) then (J_X0_settle_25 p0_genus p0_size p0_limit p0_tree a_p0_powers t_now a_t_desks d_t_desks t_desks_genus t_desks_limit q_t_desks t_desks_size t_desks_tree) else (bd (F_X0_dropOldest d_t_desks q_t_desks a_t_desks t_desks_genus t_desks_size t_desks_limit t_desks_tree t_now) (fun x4 => J_X0_settle_25 p0_genus p0_size p0_limit p0_tree a_p0_powers (x4.1) (x4.2.1) (x4.2.2.1) (x4.2.2.2.1) (x4.2.2.2.2.1) (x4.2.2.2.2.2.1) (x4.2.2.2.2.2.2.1) (x4.2.2.2.2.2.2.2)))
noncomputable def F_X0_settle (d_t_desks : Nat → Nat) (q_t_desks : Nat → Nat) (a_t_desks : Nat → Nat → Int32) (t_desks_genus : Nat → Int32) (t_desks_size : Nat → Int32) (t_desks_limit : Nat → Int32) (t_desks_tree : Nat → Int64) (t_now : Int32) (t_last : Int32) (p0_genus : Int32) (p0_size : Int32) (p0_limit : Int32) (p0_tree : Int64) (a_p0_powers : Nat → Int32) : Option (Int32 × Int32 × (Nat → Nat → Int32) × (Nat → Nat) × (Nat → Int32) × (Nat → Int32) × (Nat → Nat) × (Nat → Int32) × (Nat → Int64)) :=
  bd (F_X0_present t_now) (fun x5 => bd (F_X1_isLike p0_genus p0_size p0_limit p0_tree (t_desks_genus x5) (t_desks_size x5) (t_desks_limit x5) (t_desks_tree x5) a_p0_powers (a_t_desks x5)) (fun x6 => if x6 = 0 then (J_X0_settle_12 d_t_desks q_t_desks a_t_desks t_desks_genus t_desks_size t_desks_limit t_desks_tree t_now p0_genus p0_size p0_limit p0_tree a_p0_powers) else (some (t_now, t_last, a_t_desks, d_t_desks, t_desks_genus, t_desks_limit, q_t_desks, t_desks_size, t_desks_tree))))

/-! X0_stepBack -/
noncomputable def J_X0_stepBack_17 (a_t_desks : Nat → Nat → Int32) (t_desks_genus : Nat → Int32) (t_desks_size : Nat → Int32) (t_desks_limit : Nat → Int32) (t_desks_tree : Nat → Int64) (a_p0_powers : Nat → Int32) (vJ17_0 : Int32) : Option ((Nat → Int32) × Int32 × Int32 × Int32 × Int32 × Int64) :=
  bd (F_X0_present vJ17_0) (fun x1 => bd (F_X1_copyFrom (t_desks_genus x1) (t_desks_size x1) (t_desks_limit x1) (t_desks_tree x1) a_p0_powers (a_t_desks x1)) (fun x2 => some ((x2.1), vJ17_0, (x2.2.1), (x2.2.2.1), (x2.2.2.2.1), (x2.2.2.2.2))))
noncomputable def F_X0_stepBack (a_t_desks : Nat → Nat → Int32) (t_desks_genus : Nat → Int32) (t_desks_size : Nat → Int32) (t_desks_limit : Nat → Int32) (t_desks_tree : Nat → Int64) (t_now : Int32) (a_p0_powers : Nat → Int32) : Option ((Nat → Int32) × Int32 × Int32 × Int32 × Int32 × Int64) :=
  if t_now ≤ 0 then (J_X0_stepBack_17 a_t_desks t_desks_genus t_desks_size t_desks_limit t_desks_tree a_p0_powers t_now) else (J_X0_stepBack_17 a_t_desks t_desks_genus t_desks_size t_desks_limit t_desks_tree a_p0_powers (t_now - (1 : Int32)))

/-! X0_stepOn -/
noncomputable def J_X0_stepOn_21 (a_t_desks : Nat → Nat → Int32) (t_desks_genus : Nat → Int32) (t_desks_size : Nat → Int32) (t_desks_limit : Nat → Int32) (t_desks_tree : Nat → Int64) (a_p0_powers : Nat → Int32) (vJ21_0 : Int32) : Option ((Nat → Int32) × Int32 × Int32 × Int32 × Int32 × Int64) :=
  bd (F_X0_present vJ21_0) (fun x1 => bd (F_X1_copyFrom (t_desks_genus x1) (t_desks_size x1) (t_desks_limit x1) (t_desks_tree x1) a_p0_powers (a_t_desks x1)) (fun x2 => some ((x2.1), vJ21_0, (x2.2.1), (x2.2.2.1), (x2.2.2.2.1), (x2.2.2.2.2))))
noncomputable def F_X0_stepOn (a_t_desks : Nat → Nat → Int32) (t_desks_genus : Nat → Int32) (t_desks_size : Nat → Int32) (t_desks_limit : Nat → Int32) (t_desks_tree : Nat → Int64) (t_now : Int32) (t_last : Int32) (a_p0_powers : Nat → Int32) : Option ((Nat → Int32) × Int32 × Int32 × Int32 × Int32 × Int64) :=
  if t_last ≤ t_now then (J_X0_stepOn_21 a_t_desks t_desks_genus t_desks_size t_desks_limit t_desks_tree a_p0_powers t_now) else (J_X0_stepOn_21 a_t_desks t_desks_genus t_desks_size t_desks_limit t_desks_tree a_p0_powers (t_now + (1 : Int32)))

/-! X0_startAnew -/
noncomputable def F_X0_startAnew (a_t_desks : Nat → Nat → Int32) (t_desks_genus : Nat → Int32) (t_desks_size : Nat → Int32) (t_desks_limit : Nat → Int32) (t_desks_tree : Nat → Int64) (p0_genus : Int32) (p0_size : Int32) (p0_limit : Int32) (p0_tree : Int64) (a_p0_powers : Nat → Int32) : Option (Int32 × Int32 × (Nat → Nat → Int32) × (Nat → Int32) × (Nat → Int32) × (Nat → Int32) × (Nat → Int64)) :=
  bd (F_X1_copyFrom p0_genus p0_size p0_limit p0_tree (a_t_desks 0) a_p0_powers) (fun x1 => some ((0 : Int32), (0 : Int32), (va_up a_t_desks 0 (x1.1)), (va_up t_desks_genus 0 (x1.2.1)), (va_up t_desks_limit 0 (x1.2.2.2.1)), (va_up t_desks_size 0 (x1.2.2.1)), (va_up t_desks_tree 0 (x1.2.2.2.2))))

/-! X1_hasMark -/
noncomputable def F_X1_hasMark (t_size : Int32) (p0 : Int32) : Option (Int32) :=
  if p0 < 0 then (some (0 : Int32)) else (if t_size ≤ p0 then (some (0 : Int32)) else (some (1 : Int32)))

/-! X1_setPower -/
noncomputable def F_X1_setPower (a_t_powers : Nat → Int32) (p0 : Int32) (p1 : Int32) : Option ((Nat → Int32)) :=
  if p0 < 0 then (some a_t_powers) else (if (8 : Int32) ≤ p0 then (some a_t_powers) else (ck p0 8 (some (upd a_t_powers p0.toNatClampNeg p1))))

/-! X1_addMark -/
noncomputable def F_X1_addMark (t_size : Int32) (a_t_powers : Nat → Int32) (p0 : Int32) : Option ((Nat → Int32) × Int32) :=
  if (8 : Int32) ≤ t_size then (some (a_t_powers, t_size)) else (bd (F_X1_setPower a_t_powers t_size p0) (fun x2 => some (x2, (t_size + (1 : Int32)))))

/-! X1_dropMark -/
noncomputable def K_X1_dropMark_2_30 (t_size : Int32) (vK2_30_0 : Nat → Int32) : Option ((Nat → Int32) × Int32) :=
  some (vK2_30_0, (t_size - (1 : Int32)))
noncomputable def B_X1_dropMark_2 (t_size : Int32) (kk2_30 : (Nat → Int32) → Option ((Nat → Int32) × Int32)) (vL2_0 : Nat → Int32) (vL2_1 : Int32) (ag2 : (Nat → Int32) → Int32 → Option ((Nat → Int32) × Int32)) : Option ((Nat → Int32) × Int32) :=
  if (t_size - (1 : Int32)) ≤ vL2_1 then (kk2_30 vL2_0) else (bd (F_X1_powerAt vL2_0 (vL2_1 + (1 : Int32))) (fun x2 => bd (F_X1_setPower vL2_0 vL2_1 x2) (fun x3 => ag2 x3 (vL2_1 + (1 : Int32)))))
noncomputable def F_X1_dropMark (t_size : Int32) (a_t_powers : Nat → Int32) (p0 : Int32) : Option ((Nat → Int32) × Int32) :=
  wq2 (B_X1_dropMark_2 t_size (K_X1_dropMark_2_30 t_size)) FU a_t_powers p0

/-! X1_swap -/
noncomputable def F_X1_swap (a_t_powers : Nat → Int32) (p0 : Int32) (p1 : Int32) : Option ((Nat → Int32)) :=
  bd (F_X1_powerAt a_t_powers p0) (fun x1 => bd (F_X1_powerAt a_t_powers p1) (fun x2 => bd (F_X1_setPower a_t_powers p0 x2) (fun x3 => bd (F_X1_setPower x3 p1 x1) (fun x4 => some x4))))

/-! X1_sortRising -/
noncomputable def K_X1_sortRising_7_53  (vK7_53_0 : Nat → Int32) : Option ((Nat → Int32)) :=
  some vK7_53_0
noncomputable def K_X1_sortRising_13_47 (vL7_1 : Int32) (ag7 : (Nat → Int32) → Int32 → Option ((Nat → Int32))) (vK13_47_0 : Nat → Int32) : Option ((Nat → Int32)) :=
  ag7 vK13_47_0 (vL7_1 + (-1 : Int32))
noncomputable def B_X1_sortRising_13 (vL7_1 : Int32) (kk13_47 : (Nat → Int32) → Option ((Nat → Int32))) (vL13_0 : Nat → Int32) (vL13_1 : Int32) (ag13 : (Nat → Int32) → Int32 → Option ((Nat → Int32))) : Option ((Nat → Int32)) :=
  if vL7_1 ≤ vL13_1 then (kk13_47 vL13_0) else (bd (F_X1_powerAt vL13_0 vL13_1) (fun x3 => bd (F_X1_powerAt vL13_0 (vL13_1 + (1 : Int32))) (fun x4 => if x3 ≤ x4 then (ag13 vL13_0 (vL13_1 + (1 : Int32))) else (bd (F_X1_swap vL13_0 vL13_1 (vL13_1 + (1 : Int32))) (fun x6 => ag13 x6 (vL13_1 + (1 : Int32)))))))
noncomputable def B_X1_sortRising_7  (kk7_53 : (Nat → Int32) → Option ((Nat → Int32))) (vL7_0 : Nat → Int32) (vL7_1 : Int32) (ag7 : (Nat → Int32) → Int32 → Option ((Nat → Int32))) : Option ((Nat → Int32)) :=
  if vL7_1 ≤ 0 then (kk7_53 vL7_0) else (wq2 (B_X1_sortRising_13 vL7_1 (K_X1_sortRising_13_47 vL7_1 ag7)) FU vL7_0 (0 : Int32))
noncomputable def F_X1_sortRising (t_size : Int32) (a_t_powers : Nat → Int32) : Option ((Nat → Int32)) :=
  wq2 (B_X1_sortRising_7 K_X1_sortRising_7_53) FU a_t_powers (t_size - (1 : Int32))

/-! X1_turnAbout -/
noncomputable def K_X1_turnAbout_2_31  (vK2_31_0 : Nat → Int32) : Option ((Nat → Int32)) :=
  some vK2_31_0
noncomputable def B_X1_turnAbout_2 (t_size : Int32) (kk2_31 : (Nat → Int32) → Option ((Nat → Int32))) (vL2_0 : Nat → Int32) (vL2_1 : Int32) (ag2 : (Nat → Int32) → Int32 → Option ((Nat → Int32))) : Option ((Nat → Int32)) :=
  if (t_size / (2 : Int32)) ≤ vL2_1 then (kk2_31 vL2_0) else (bd (F_X1_swap vL2_0 vL2_1 ((t_size - (1 : Int32)) - vL2_1)) (fun x2 => ag2 x2 (vL2_1 + (1 : Int32))))
noncomputable def F_X1_turnAbout (t_size : Int32) (a_t_powers : Nat → Int32) : Option ((Nat → Int32)) :=
  wq2 (B_X1_turnAbout_2 t_size K_X1_turnAbout_2_31) FU a_t_powers (0 : Int32)

/-! X1_putFirstLast -/
noncomputable def K_X1_putFirstLast_2_26  (vK2_26_0 : Nat → Int32) : Option ((Nat → Int32)) :=
  some vK2_26_0
noncomputable def B_X1_putFirstLast_2 (t_size : Int32) (kk2_26 : (Nat → Int32) → Option ((Nat → Int32))) (vL2_0 : Nat → Int32) (vL2_1 : Int32) (ag2 : (Nat → Int32) → Int32 → Option ((Nat → Int32))) : Option ((Nat → Int32)) :=
  if (t_size - (1 : Int32)) ≤ vL2_1 then (kk2_26 vL2_0) else (bd (F_X1_swap vL2_0 vL2_1 (vL2_1 + (1 : Int32))) (fun x2 => ag2 x2 (vL2_1 + (1 : Int32))))
noncomputable def F_X1_putFirstLast (t_size : Int32) (a_t_powers : Nat → Int32) : Option ((Nat → Int32)) :=
  wq2 (B_X1_putFirstLast_2 t_size K_X1_putFirstLast_2_26) FU a_t_powers (0 : Int32)

/-! X2_holdNumber -/
noncomputable def F_X2_holdNumber (p0 : Int64) : Option (Int32 × Int64) :=
  some ((1 : Int32), p0)

/-! X2_holdTree -/
noncomputable def F_X2_holdTree (p0 : Int64) (p1 : Int32) : Option (Int32 × Int64 × Int32) :=
  some ((2 : Int32), p0, p1)

/-! X2_holdRow -/
noncomputable def K_X2_holdRow_12_31 (p0 : Int32) (vK12_31_0 : Nat → Int32) : Option ((Nat → Int32) × Int32 × Int32) :=
  some (vK12_31_0, (3 : Int32), p0)
noncomputable def B_X2_holdRow_12  (kk12_31 : (Nat → Int32) → Option ((Nat → Int32) × Int32 × Int32)) (vL12_0 : Nat → Int32) (vL12_1 : Int32) (ag12 : (Nat → Int32) → Int32 → Option ((Nat → Int32) × Int32 × Int32)) : Option ((Nat → Int32) × Int32 × Int32) :=
  if (20 : Int32) ≤ vL12_1 then (kk12_31 vL12_0) else (ck vL12_1 20 (ag12 (upd vL12_0 vL12_1.toNatClampNeg (0 : Int32)) (vL12_1 + (1 : Int32))))
noncomputable def F_X2_holdRow (a_t_ints : Nat → Int32) (p0 : Int32) : Option ((Nat → Int32) × Int32 × Int32) :=
  wq2 (B_X2_holdRow_12 (K_X2_holdRow_12_31 p0)) FU a_t_ints (0 : Int32)

/-! X2_hasPlace -/
noncomputable def F_X2_hasPlace (t_size : Int32) (p0 : Int32) : Option (Int32) :=
  if p0 < 0 then (some (0 : Int32)) else (if t_size ≤ p0 then (some (0 : Int32)) else (if (20 : Int32) ≤ p0 then (some (0 : Int32)) else (some (1 : Int32))))

/-! J13_bitCount_95d88 -/
noncomputable def F_J13_bitCount_95d88 (p0 : Int64) : Option (Int32) :=
  some (((((((((p0 - ((lush p0 (1 : Int32)) &&& (6148914691236517205 : Int64))) &&& (3689348814741910323 : Int64)) + ((lush (p0 - ((lush p0 (1 : Int32)) &&& (6148914691236517205 : Int64))) (2 : Int32)) &&& (3689348814741910323 : Int64))) + (lush (((p0 - ((lush p0 (1 : Int32)) &&& (6148914691236517205 : Int64))) &&& (3689348814741910323 : Int64)) + ((lush (p0 - ((lush p0 (1 : Int32)) &&& (6148914691236517205 : Int64))) (2 : Int32)) &&& (3689348814741910323 : Int64))) (4 : Int32))) &&& (1085102592571150095 : Int64)) + (lush (((((p0 - ((lush p0 (1 : Int32)) &&& (6148914691236517205 : Int64))) &&& (3689348814741910323 : Int64)) + ((lush (p0 - ((lush p0 (1 : Int32)) &&& (6148914691236517205 : Int64))) (2 : Int32)) &&& (3689348814741910323 : Int64))) + (lush (((p0 - ((lush p0 (1 : Int32)) &&& (6148914691236517205 : Int64))) &&& (3689348814741910323 : Int64)) + ((lush (p0 - ((lush p0 (1 : Int32)) &&& (6148914691236517205 : Int64))) (2 : Int32)) &&& (3689348814741910323 : Int64))) (4 : Int32))) &&& (1085102592571150095 : Int64)) (8 : Int32))) + (lush ((((((p0 - ((lush p0 (1 : Int32)) &&& (6148914691236517205 : Int64))) &&& (3689348814741910323 : Int64)) + ((lush (p0 - ((lush p0 (1 : Int32)) &&& (6148914691236517205 : Int64))) (2 : Int32)) &&& (3689348814741910323 : Int64))) + (lush (((p0 - ((lush p0 (1 : Int32)) &&& (6148914691236517205 : Int64))) &&& (3689348814741910323 : Int64)) + ((lush (p0 - ((lush p0 (1 : Int32)) &&& (6148914691236517205 : Int64))) (2 : Int32)) &&& (3689348814741910323 : Int64))) (4 : Int32))) &&& (1085102592571150095 : Int64)) + (lush (((((p0 - ((lush p0 (1 : Int32)) &&& (6148914691236517205 : Int64))) &&& (3689348814741910323 : Int64)) + ((lush (p0 - ((lush p0 (1 : Int32)) &&& (6148914691236517205 : Int64))) (2 : Int32)) &&& (3689348814741910323 : Int64))) + (lush (((p0 - ((lush p0 (1 : Int32)) &&& (6148914691236517205 : Int64))) &&& (3689348814741910323 : Int64)) + ((lush (p0 - ((lush p0 (1 : Int32)) &&& (6148914691236517205 : Int64))) (2 : Int32)) &&& (3689348814741910323 : Int64))) (4 : Int32))) &&& (1085102592571150095 : Int64)) (8 : Int32))) (16 : Int32))) + (lush (((((((p0 - ((lush p0 (1 : Int32)) &&& (6148914691236517205 : Int64))) &&& (3689348814741910323 : Int64)) + ((lush (p0 - ((lush p0 (1 : Int32)) &&& (6148914691236517205 : Int64))) (2 : Int32)) &&& (3689348814741910323 : Int64))) + (lush (((p0 - ((lush p0 (1 : Int32)) &&& (6148914691236517205 : Int64))) &&& (3689348814741910323 : Int64)) + ((lush (p0 - ((lush p0 (1 : Int32)) &&& (6148914691236517205 : Int64))) (2 : Int32)) &&& (3689348814741910323 : Int64))) (4 : Int32))) &&& (1085102592571150095 : Int64)) + (lush (((((p0 - ((lush p0 (1 : Int32)) &&& (6148914691236517205 : Int64))) &&& (3689348814741910323 : Int64)) + ((lush (p0 - ((lush p0 (1 : Int32)) &&& (6148914691236517205 : Int64))) (2 : Int32)) &&& (3689348814741910323 : Int64))) + (lush (((p0 - ((lush p0 (1 : Int32)) &&& (6148914691236517205 : Int64))) &&& (3689348814741910323 : Int64)) + ((lush (p0 - ((lush p0 (1 : Int32)) &&& (6148914691236517205 : Int64))) (2 : Int32)) &&& (3689348814741910323 : Int64))) (4 : Int32))) &&& (1085102592571150095 : Int64)) (8 : Int32))) + (lush ((((((p0 - ((lush p0 (1 : Int32)) &&& (6148914691236517205 : Int64))) &&& (3689348814741910323 : Int64)) + ((lush (p0 - ((lush p0 (1 : Int32)) &&& (6148914691236517205 : Int64))) (2 : Int32)) &&& (3689348814741910323 : Int64))) + (lush (((p0 - ((lush p0 (1 : Int32)) &&& (6148914691236517205 : Int64))) &&& (3689348814741910323 : Int64)) + ((lush (p0 - ((lush p0 (1 : Int32)) &&& (6148914691236517205 : Int64))) (2 : Int32)) &&& (3689348814741910323 : Int64))) (4 : Int32))) &&& (1085102592571150095 : Int64)) + (lush (((((p0 - ((lush p0 (1 : Int32)) &&& (6148914691236517205 : Int64))) &&& (3689348814741910323 : Int64)) + ((lush (p0 - ((lush p0 (1 : Int32)) &&& (6148914691236517205 : Int64))) (2 : Int32)) &&& (3689348814741910323 : Int64))) + (lush (((p0 - ((lush p0 (1 : Int32)) &&& (6148914691236517205 : Int64))) &&& (3689348814741910323 : Int64)) + ((lush (p0 - ((lush p0 (1 : Int32)) &&& (6148914691236517205 : Int64))) (2 : Int32)) &&& (3689348814741910323 : Int64))) (4 : Int32))) &&& (1085102592571150095 : Int64)) (8 : Int32))) (16 : Int32))) (32 : Int32))).toInt32 &&& (127 : Int32))

/-! X6_sizeOf -/
noncomputable def F_X6_sizeOf (p0 : Int64) : Option (Int32) :=
  bd (F_J13_bitCount_95d88 p0) (fun x1 => some x1)

/-! X2_isFullTree -/
noncomputable def F_X2_isFullTree (t_tree : Int64) (t_limit : Int32) : Option (Int32) :=
  bd (F_X6_sizeOf t_tree) (fun x1 => if x1 = (t_limit - (3 : Int32)) then (some (1 : Int32)) else (some (0 : Int32)))

/-! X2_isOfKind -/
noncomputable def F_X2_isOfKind (t_sort : Int32) (t_tree : Int64) (t_limit : Int32) (p0 : Int32) : Option (Int32) :=
  if p0 = 0 then (if t_sort = (1 : Int32) then (some (1 : Int32)) else (some (0 : Int32))) else (if t_sort = (2 : Int32) then (if p0 = (1 : Int32) then (some (1 : Int32)) else (if p0 = (2 : Int32) then (bd (F_X2_isFullTree t_tree t_limit) (fun x5 => some x5)) else (if p0 = (3 : Int32) then (if (lg_cmp t_tree (0 : Int64)) = 0 then (bd (F_X2_isFullTree t_tree t_limit) (fun x8 => if x8 = 0 then (some (1 : Int32)) else (some (0 : Int32)))) else (some (0 : Int32))) else (some (0 : Int32))))) else (some (0 : Int32)))

/-! J9_floorMod_f86c9 -/
noncomputable def F_J9_floorMod_f86c9 (p0 : Int64) (p1 : Int64) : Option (Int64) :=
  dvl p1 (if 0 ≤ (lg_cmp (p0 ^^^ p1) (0 : Int64)) then (some (p0 - p0 / p1 * p1)) else (if (lg_cmp (p0 - p0 / p1 * p1) (0 : Int64)) = 0 then (some (p0 - p0 / p1 * p1)) else (some ((p0 - p0 / p1 * p1) + p1))))

/-! X2_takenFor -/
noncomputable def F_X2_takenFor (t_tree : Int64) (t_limit : Int32) (t_above : Int64) (p0 : Int32) : Option (Int32) :=
  if p0 = (0 : Int32) then (bd (F_J9_floorMod_f86c9 t_above (1000003 : Int64)) (fun x2 => some x2.toInt32)) else (if p0 = (1 : Int32) then (bd (F_X6_sizeOf t_tree) (fun x4 => some x4)) else (some t_limit))

/-! X6_nth -/
noncomputable def K_X6_nth_19_37  (vK19_37_0 : Int64) : Option (Int32) :=
  bd (F_J13_bitCount_95d88 ((vK19_37_0 &&& (-vK19_37_0)) - (1 : Int64))) (fun x4 => some x4)
noncomputable def B_X6_nth_19 (p1 : Int32) (kk19_37 : Int64 → Option (Int32)) (vL19_0 : Int64) (vL19_1 : Int32) (ag19 : Int64 → Int32 → Option (Int32)) : Option (Int32) :=
  if p1 ≤ vL19_1 then (kk19_37 vL19_0) else (ag19 (vL19_0 &&& (vL19_0 - (1 : Int64))) (vL19_1 + (1 : Int32)))
noncomputable def F_X6_nth (p0 : Int64) (p1 : Int32) : Option (Int32) :=
  if p1 < 0 then (some (-1 : Int32)) else (bd (F_J13_bitCount_95d88 p0) (fun x2 => if p1 < x2 then (wq2 (B_X6_nth_19 p1 K_X6_nth_19_37) FU p0 (0 : Int32)) else (some (-1 : Int32))))

/-! X2_firstUnlike -/
noncomputable def K_X2_firstUnlike_18_65   : Option (Int32) :=
  some (-1 : Int32)
noncomputable def B_X2_firstUnlike_18 (t_size : Int32) (a_t_ints : Nat → Int32) (p0 : Int64) (x1 : Int32) (kk18_65 : Option (Int32)) (vL18_0 : Int32) (ag18 : Int32 → Option (Int32)) : Option (Int32) :=
  if (if t_size < x1 then x1 else t_size) ≤ vL18_0 then (kk18_65) else (if x1 ≤ vL18_0 then (some vL18_0) else (bd (F_X2_hasPlace t_size vL18_0) (fun x4 => if x4 = 0 then (some vL18_0) else (ck vL18_0 20 (bd (F_X6_nth p0 vL18_0) (fun x7 => if (a_t_ints vL18_0.toNatClampNeg) = x7 then (ag18 (vL18_0 + (1 : Int32))) else (some vL18_0)))))))
noncomputable def F_X2_firstUnlike (t_size : Int32) (a_t_ints : Nat → Int32) (p0 : Int64) : Option (Int32) :=
  bd (F_X6_sizeOf p0) (fun x1 => wq1 (B_X2_firstUnlike_18 t_size a_t_ints p0 x1 K_X2_firstUnlike_18_65) FU (0 : Int32))

/-! X3_lineOf -/
noncomputable def F_X3_lineOf (p0 : Int32) : Option (Int64) :=
  if p0 = 0 then (some (1 : Int64)) else (if p0 = (1 : Int32) then (some (24 : Int64)) else (some (5760 : Int64)))

/-! X3_begin -/
noncomputable def F_X3_begin  : Option (Int32 × Int32 × Int64) :=
  some ((0 : Int32), (0 : Int32), (0 : Int64))

/-! X3_add -/
noncomputable def F_X3_add (t_size : Int32) (t_sum : Int32) (t_gathered : Int64) (p0 : Int32) : Option (Int32 × Int32 × Int64) :=
  if p0 < 0 then (some ((t_size + (1 : Int32)), (t_sum + p0), t_gathered)) else (if (14 : Int32) < p0 then (some ((t_size + (1 : Int32)), (t_sum + p0), t_gathered)) else (some ((t_size + (1 : Int32)), (t_sum + p0), (t_gathered + (lshl (1 : Int64) ((4 : Int32) * p0))))))

/-! X3_keyFor -/
noncomputable def F_X3_keyFor (t_size : Int32) (t_sum : Int32) (t_gathered : Int64) (p0 : Int32) : Option (Int64) :=
  if ((((2 : Int32) * p0) - (2 : Int32)) + t_size) ≤ 0 then (some (0 : Int64)) else (if t_sum = ((((3 : Int32) * p0) - (3 : Int32)) + t_size) then (some ((lshl p0.toInt64 (60 : Int32)) + t_gathered)) else (some (0 : Int64)))

/-! X3_baseOf -/
noncomputable def F_X3_baseOf (p0 : Int64) : Option (Int64) :=
  if (lg_cmp p0 (3 : Int64)) = 0 then (some (1 : Int64)) else (if (lg_cmp p0 (1152921504606846992 : Int64)) = 0 then (some (1 : Int64)) else (if (lg_cmp p0 (2305843009213759488 : Int64)) = 0 then (some (5 : Int64)) else (if (lg_cmp p0 (2305843009213698304 : Int64)) = 0 then (some (29 : Int64)) else (if (lg_cmp p0 (2305843009213694720 : Int64)) = 0 then (some (168 : Int64)) else (some (0 : Int64))))))

/-! X3_timesThere -/
noncomputable def F_X3_timesThere (p0 : Int64) (p1 : Int32) : Option (Int32) :=
  some ((lush p0 ((4 : Int32) * p1)) &&& (15 : Int64)).toInt32

/-! X3_ruleOf -/
noncomputable def F_X3_ruleOf (p0 : Int64) : Option (Int32) :=
  if (lg_cmp p0 (0 : Int64)) = 0 then (some (0 : Int32)) else (bd (F_X3_baseOf p0) (fun x2 => if (lg_cmp x2 (0 : Int64)) = 0 then (bd (F_X3_timesThere p0 (0 : Int32)) (fun x4 => if x4 ≤ 0 then (some (3 : Int32)) else (some (2 : Int32)))) else (some (1 : Int32))))

/-! X3_nextKey -/
noncomputable def J_X3_nextKey_32 (p0 : Int64) (p1 : Int32) (p2 : Int32)  : Option (Int64) :=
  if p1 = (3 : Int32) then (if p2 = (1 : Int32) then (some (p0 - (lshl (1 : Int64) ((4 : Int32) * p2)))) else (some (0 : Int64))) else (some (0 : Int64))
noncomputable def F_X3_nextKey (p0 : Int64) (p1 : Int32) (p2 : Int32) : Option (Int64) :=
  if p1 = (2 : Int32) then (bd (F_X3_timesThere p0 p2) (fun x4 => if x4 ≤ 0 then (J_X3_nextKey_32 p0 p1 p2) else (some (((p0 - (1 : Int64)) - (lshl (1 : Int64) ((4 : Int32) * p2))) + (lush (lshl (1 : Int64) ((4 : Int32) * p2)) (4 : Int32)))))) else (J_X3_nextKey_32 p0 p1 p2)

/-! X3_weightOf -/
noncomputable def K_X3_weightOf_18_42 (p0 : Int64) (vK18_42_0 : Int32) : Option (Int64) :=
  some (((((2 : Int64) * (lush p0 (60 : Int32))) - (2 : Int64)) + vK18_42_0.toInt64) - (1 : Int64))
noncomputable def B_X3_weightOf_18 (p0 : Int64) (kk18_42 : Int32 → Option (Int64)) (vL18_0 : Int32) (vL18_1 : Int32) (ag18 : Int32 → Int32 → Option (Int64)) : Option (Int64) :=
  if (14 : Int32) < vL18_1 then (kk18_42 vL18_0) else (bd (F_X3_timesThere p0 vL18_1) (fun x3 => ag18 (vL18_0 + x3) (vL18_1 + (1 : Int32))))
noncomputable def F_X3_weightOf (p0 : Int64) (p1 : Int32) (p2 : Int32) : Option (Int64) :=
  if p1 = (2 : Int32) then (bd (F_X3_timesThere p0 p2) (fun x4 => some x4.toInt64)) else (wq2 (B_X3_weightOf_18 p0 (K_X3_weightOf_18_42 p0)) FU (0 : Int32) (0 : Int32))

/-! X3_slotOf -/
noncomputable def K_X3_slotOf_17_63   : Option (Int32) :=
  some (-1 : Int32)
noncomputable def B_X3_slotOf_17 (a_t_keys : Nat → Int64) (p0 : Int64) (kk17_63 : Option (Int32)) (vL17_0 : Int32) (vL17_1 : Int32) (ag17 : Int32 → Int32 → Option (Int32)) : Option (Int32) :=
  if (1024 : Int32) ≤ vL17_1 then (kk17_63) else (ck vL17_0 1024 (if (lg_cmp (a_t_keys vL17_0.toNatClampNeg) p0) = 0 then (some vL17_0) else (ck vL17_0 1024 (if (lg_cmp (a_t_keys vL17_0.toNatClampNeg) (0 : Int64)) = 0 then (some vL17_0) else (ag17 ((vL17_0 + (1 : Int32)) &&& (1023 : Int32)) (vL17_1 + (1 : Int32)))))))
noncomputable def F_X3_slotOf (a_t_keys : Nat → Int64) (p0 : Int64) : Option (Int32) :=
  wq2 (B_X3_slotOf_17 a_t_keys p0 K_X3_slotOf_17_63) FU ((lush (p0 * (-7046029254386353131 : Int64)) (54 : Int32)).toInt32 &&& (1023 : Int32)) (0 : Int32)

/-! X3_keep -/
noncomputable def F_X3_keep (a_t_keys : Nat → Int64) (a_t_aboves : Nat → Int64) (p0 : Int64) (p1 : Int64) : Option ((Nat → Int64) × (Nat → Int64)) :=
  bd (F_X3_slotOf a_t_keys p0) (fun x1 => if x1 = (-1 : Int32) then (some (a_t_keys, a_t_aboves)) else (ck x1 1024 (ck x1 1024 (some ((vp_updL a_t_keys x1.toNatClampNeg p0), (vp_updL a_t_aboves x1.toNatClampNeg p1))))))

/-! X3_workOut -/
noncomputable def K_X3_workOut_62_115 (p0 : Int64) (vK62_115_0 : Nat → Int64) (vK62_115_1 : Nat → Int64) (vK62_115_2 : Int64) : Option (Int64 × (Nat → Int64) × (Nat → Int64)) :=
  bd (F_X3_keep vK62_115_0 vK62_115_1 p0 vK62_115_2) (fun x6 => some (vK62_115_2, (x6.1), (x6.2)))
noncomputable def B_X3_workOut_62 (rc : (Nat → Int64) → (Nat → Int64) → Int64 → Int32 → Option (Int64 × (Nat → Int64) × (Nat → Int64))) (p0 : Int64) (p1 : Int32) (x4 : Int32) (kk62_115 : (Nat → Int64) → (Nat → Int64) → Int64 → Option (Int64 × (Nat → Int64) × (Nat → Int64))) (vL62_0 : Nat → Int64) (vL62_1 : Nat → Int64) (vL62_2 : Int64) (vL62_3 : Int32) (ag62 : (Nat → Int64) → (Nat → Int64) → Int64 → Int32 → Option (Int64 × (Nat → Int64) × (Nat → Int64))) : Option (Int64 × (Nat → Int64) × (Nat → Int64)) :=
  if (14 : Int32) < vL62_3 then (kk62_115 vL62_0 vL62_1 vL62_2) else (bd (F_X3_nextKey p0 x4 vL62_3) (fun x8 => if (lg_cmp x8 (0 : Int64)) = 0 then (ag62 vL62_0 vL62_1 vL62_2 (vL62_3 + (1 : Int32))) else (bd (F_X3_weightOf p0 x4 vL62_3) (fun x10 => bd (rc vL62_0 vL62_1 x8 (p1 + (1 : Int32))) (fun x11 => ag62 (x11.2.1) (x11.2.2) (vL62_2 + (x10 * (x11.1))) (vL62_3 + (1 : Int32)))))))
noncomputable def J_X3_workOut_47 (rc : (Nat → Int64) → (Nat → Int64) → Int64 → Int32 → Option (Int64 × (Nat → Int64) × (Nat → Int64))) (a_t_keys : Nat → Int64) (a_t_aboves : Nat → Int64) (p0 : Int64) (p1 : Int32)  : Option (Int64 × (Nat → Int64) × (Nat → Int64)) :=
  bd (F_X3_ruleOf p0) (fun x4 => bd (F_X3_baseOf p0) (fun x5 => wq4 (B_X3_workOut_62 rc p0 p1 x4 (K_X3_workOut_62_115 p0)) FU a_t_keys a_t_aboves x5 (1 : Int32)))
noncomputable def G_X3_workOut (rc : (Nat → Int64) → (Nat → Int64) → Int64 → Int32 → Option (Int64 × (Nat → Int64) × (Nat → Int64))) (a_t_keys : Nat → Int64) (a_t_aboves : Nat → Int64) (p0 : Int64) (p1 : Int32) : Option (Int64 × (Nat → Int64) × (Nat → Int64)) :=
  if (lg_cmp p0 (0 : Int64)) = 0 then (some ((0 : Int64), a_t_keys, a_t_aboves)) else (if p1 ≤ (16 : Int32) then (bd (F_X3_slotOf a_t_keys p0) (fun x3 => if x3 = (-1 : Int32) then (J_X3_workOut_47 rc a_t_keys a_t_aboves p0 p1) else (ck x3 1024 (if (lg_cmp (a_t_keys x3.toNatClampNeg) p0) = 0 then (ck x3 1024 (some ((a_t_aboves x3.toNatClampNeg), a_t_keys, a_t_aboves))) else (J_X3_workOut_47 rc a_t_keys a_t_aboves p0 p1))))) else (some ((0 : Int64), a_t_keys, a_t_aboves)))
noncomputable def F_X3_workOut : Nat → (Nat → Int64) → (Nat → Int64) → Int64 → Int32 → Option (Int64 × (Nat → Int64) × (Nat → Int64))
  | 0, _, _, _, _ => none
  | d + 1, a_t_keys, a_t_aboves, p0, p1 => G_X3_workOut (F_X3_workOut d) a_t_keys a_t_aboves p0 p1

/-! X3_aboveOf -/
noncomputable def F_X3_aboveOf (a_t_keys : Nat → Int64) (a_t_aboves : Nat → Int64) (p0 : Int64) : Option (Int64 × (Nat → Int64) × (Nat → Int64)) :=
  bd (F_X3_workOut 20 a_t_keys a_t_aboves p0 (0 : Int32)) (fun x1 => some ((x1.1), (x1.2.1), (x1.2.2)))

/-! X3_meet -/
noncomputable def K_X3_meet_78_111  (vK78_111_0 : Nat → Int32) (vK78_111_1 : Int32) : Option (Int32 × (Nat → Int32)) :=
  some (vK78_111_1, vK78_111_0)
noncomputable def B_X3_meet_78 (rc : Int32 → (Nat → Int64) → (Nat → Int32) → Int64 → Int32 → Option (Int32 × (Nat → Int32))) (t_round : Int32) (a_t_keys : Nat → Int64) (p0 : Int64) (p1 : Int32) (x10 : Int32) (kk78_111 : (Nat → Int32) → Int32 → Option (Int32 × (Nat → Int32))) (vL78_0 : Nat → Int32) (vL78_1 : Int32) (vL78_2 : Int32) (ag78 : (Nat → Int32) → Int32 → Int32 → Option (Int32 × (Nat → Int32))) : Option (Int32 × (Nat → Int32)) :=
  if (14 : Int32) < vL78_2 then (kk78_111 vL78_0 vL78_1) else (bd (F_X3_nextKey p0 x10 vL78_2) (fun x12 => bd (rc t_round a_t_keys vL78_0 x12 (p1 + (1 : Int32))) (fun x13 => ag78 (x13.2) (vL78_1 + (x13.1)) (vL78_2 + (1 : Int32)))))
noncomputable def G_X3_meet (rc : Int32 → (Nat → Int64) → (Nat → Int32) → Int64 → Int32 → Option (Int32 × (Nat → Int32))) (t_round : Int32) (a_t_keys : Nat → Int64) (a_t_rounds : Nat → Int32) (p0 : Int64) (p1 : Int32) : Option (Int32 × (Nat → Int32)) :=
  if (lg_cmp p0 (0 : Int64)) = 0 then (some ((0 : Int32), a_t_rounds)) else (if p1 ≤ (16 : Int32) then (bd (F_X3_slotOf a_t_keys p0) (fun x3 => if x3 = (-1 : Int32) then (some ((0 : Int32), a_t_rounds)) else (ck x3 1024 (if (lg_cmp (a_t_keys x3.toNatClampNeg) p0) = 0 then (ck x3 1024 (if (a_t_rounds x3.toNatClampNeg) = t_round then (some ((0 : Int32), a_t_rounds)) else (ck x3 1024 (bd (F_X3_ruleOf p0) (fun x10 => wq3 (B_X3_meet_78 rc t_round a_t_keys p0 p1 x10 K_X3_meet_78_111) FU (upd a_t_rounds x3.toNatClampNeg t_round) (1 : Int32) (1 : Int32)))))) else (some ((0 : Int32), a_t_rounds)))))) else (some ((0 : Int32), a_t_rounds)))
noncomputable def F_X3_meet : Nat → Int32 → (Nat → Int64) → (Nat → Int32) → Int64 → Int32 → Option (Int32 × (Nat → Int32))
  | 0, _, _, _, _, _ => none
  | d + 1, t_round, a_t_keys, a_t_rounds, p0, p1 => G_X3_meet (F_X3_meet d) t_round a_t_keys a_t_rounds p0 p1

/-! X3_countMet -/
noncomputable def F_X3_countMet (t_round : Int32) (a_t_keys : Nat → Int64) (a_t_aboves : Nat → Int64) (a_t_rounds : Nat → Int32) (p0 : Int64) : Option (Int32 × (Nat → Int64) × (Nat → Int64) × (Nat → Int32) × Int32) :=
  bd (F_X3_workOut 20 a_t_keys a_t_aboves p0 (0 : Int32)) (fun x1 => bd (F_X3_meet 20 (t_round + (1 : Int32)) (x1.2.1) a_t_rounds p0 (0 : Int32)) (fun x2 => some ((x2.1), (x1.2.1), (x1.2.2), (x2.2), (t_round + (1 : Int32)))))

/-! X4_causeAt -/
noncomputable def F_X4_causeAt (a_t_causes : Nat → Int32) (p0 : Int32) (p1 : Int32) : Option (Int32) :=
  if (((2 : Int32) * p0) + p1) < 0 then (some (-1 : Int32)) else (if (6 : Int32) ≤ (((2 : Int32) * p0) + p1) then (some (-1 : Int32)) else (ck (((2 : Int32) * p0) + p1) 6 (some (a_t_causes (((2 : Int32) * p0) + p1).toNatClampNeg))))

/-! X7_byteAt -/
noncomputable def F_X7_byteAt (t_size : Int32) (a_t_bytes : Nat → Int32) (p0 : Int32) : Option (Int32) :=
  if p0 < 0 then (some (-1 : Int32)) else (if t_size ≤ p0 then (some (-1 : Int32)) else (if (60 : Int32) ≤ p0 then (some (-1 : Int32)) else (ck p0 60 (some (a_t_bytes p0.toNatClampNeg)))))

/-! X4_readSign -/
noncomputable def F_X4_readSign (t_place : Int32) (t_tape_size : Int32) (a_t_tape_bytes : Nat → Int32) (p0 : Int32) : Option (Int32 × Int32) :=
  bd (F_X7_byteAt t_tape_size a_t_tape_bytes t_place) (fun x1 => if x1 = p0 then (some ((1 : Int32), (t_place + (1 : Int32)))) else (some ((0 : Int32), t_place)))

/-! X4_noteCannotBe -/
noncomputable def F_X4_noteCannotBe (t_cannotBe : Int32) (p0 : Int32) : Option (Int32) :=
  if t_cannotBe = (-1 : Int32) then (some p0) else (some t_cannotBe)

/-! X7_isFigure -/
noncomputable def F_X7_isFigure (t_size : Int32) (a_t_bytes : Nat → Int32) (p0 : Int32) : Option (Int32) :=
  bd (F_X7_byteAt t_size a_t_bytes p0) (fun x1 => if x1 < (48 : Int32) then (some (0 : Int32)) else (if (57 : Int32) < x1 then (some (0 : Int32)) else (some (1 : Int32))))

/-! X7_figureAt -/
noncomputable def F_X7_figureAt (t_size : Int32) (a_t_bytes : Nat → Int32) (p0 : Int32) : Option (Int32) :=
  bd (F_X7_byteAt t_size a_t_bytes p0) (fun x1 => some (x1 - (48 : Int32)))

/-! X4_readGenus -/
noncomputable def F_X4_readGenus (t_place : Int32) (t_cannotBe : Int32) (t_tape_size : Int32) (a_t_tape_bytes : Nat → Int32) (t_told_genus : Int32) : Option (Int32 × Int32 × Int32 × Int32) :=
  bd (F_X7_isFigure t_tape_size a_t_tape_bytes t_place) (fun x1 => if x1 = 0 then (some ((0 : Int32), t_place, t_cannotBe, t_told_genus)) else (bd (F_X7_figureAt t_tape_size a_t_tape_bytes t_place) (fun x3 => if x3 ≤ (2 : Int32) then (some ((1 : Int32), (t_place + (1 : Int32)), t_cannotBe, x3)) else (bd (F_X4_noteCannotBe t_cannotBe t_place) (fun x5 => some ((1 : Int32), (t_place + (1 : Int32)), x5, x3))))))

/-! X4_readPower -/
noncomputable def J_X4_readPower_79 (t_told_size : Int32) (a_t_told_powers : Nat → Int32) (vJ68_0 : Int32) (vJ68_1 : Int32) (vJ79_0 : Int32) : Option ((Nat → Int32) × Int32 × Int32 × Int32) :=
  bd (F_X1_addMark t_told_size a_t_told_powers vJ68_1) (fun x3 => some ((x3.1), vJ68_0, vJ79_0, (x3.2)))
noncomputable def J_X4_readPower_68 (t_place : Int32) (t_cannotBe : Int32) (t_told_size : Int32) (a_t_told_powers : Nat → Int32) (vJ68_0 : Int32) (vJ68_1 : Int32) : Option ((Nat → Int32) × Int32 × Int32 × Int32) :=
  if vJ68_1 ≤ (12 : Int32) then (J_X4_readPower_79 t_told_size a_t_told_powers vJ68_0 vJ68_1 t_cannotBe) else (bd (F_X4_noteCannotBe t_cannotBe t_place) (fun x5 => J_X4_readPower_79 t_told_size a_t_told_powers vJ68_0 vJ68_1 x5))
noncomputable def F_X4_readPower (t_place : Int32) (t_cannotBe : Int32) (t_tape_size : Int32) (a_t_tape_bytes : Nat → Int32) (t_told_size : Int32) (a_t_told_powers : Nat → Int32) : Option ((Nat → Int32) × Int32 × Int32 × Int32) :=
  bd (F_X7_figureAt t_tape_size a_t_tape_bytes t_place) (fun x1 => bd (F_X7_isFigure t_tape_size a_t_tape_bytes (t_place + (1 : Int32))) (fun x2 => if x2 = 0 then (J_X4_readPower_68 t_place t_cannotBe t_told_size a_t_told_powers (t_place + (1 : Int32)) x1) else (bd (F_X7_figureAt t_tape_size a_t_tape_bytes (t_place + (1 : Int32))) (fun x7 => J_X4_readPower_68 t_place t_cannotBe t_told_size a_t_told_powers ((t_place + (1 : Int32)) + (1 : Int32)) (((10 : Int32) * x1) + x7)))))

/-! X4_readMarks -/
noncomputable def K_X4_readMarks_22_79  (vK22_79_0 : Nat → Int32) (vK22_79_1 : Int32) (vK22_79_2 : Int32) (vK22_79_3 : Int32) : Option (Int32 × (Nat → Int32) × Int32 × Int32 × Int32) :=
  some ((1 : Int32), vK22_79_0, vK22_79_1, vK22_79_2, vK22_79_3)
noncomputable def B_X4_readMarks_22 (t_tape_size : Int32) (a_t_tape_bytes : Nat → Int32) (kk22_79 : (Nat → Int32) → Int32 → Int32 → Int32 → Option (Int32 × (Nat → Int32) × Int32 × Int32 × Int32)) (vL22_0 : Nat → Int32) (vL22_1 : Int32) (vL22_2 : Int32) (vL22_3 : Int32) (vL22_4 : Int32) (vL22_5 : Int32) (ag22 : (Nat → Int32) → Int32 → Int32 → Int32 → Int32 → Int32 → Option (Int32 × (Nat → Int32) × Int32 × Int32 × Int32)) : Option (Int32 × (Nat → Int32) × Int32 × Int32 × Int32) :=
  if (8 : Int32) ≤ vL22_5 then (kk22_79 vL22_0 vL22_1 vL22_2 vL22_3) else (if vL22_4 = 0 then (kk22_79 vL22_0 vL22_1 vL22_2 vL22_3) else (bd (F_X7_isFigure t_tape_size a_t_tape_bytes vL22_1) (fun x4 => if x4 = 0 then (some ((0 : Int32), vL22_0, vL22_1, vL22_2, vL22_3)) else (bd (F_X4_readPower vL22_1 vL22_2 t_tape_size a_t_tape_bytes vL22_3 vL22_0) (fun x6 => if (7 : Int32) ≤ vL22_5 then (ag22 (x6.1) (x6.2.1) (x6.2.2.1) (x6.2.2.2) (0 : Int32) (vL22_5 + (1 : Int32))) else (bd (F_X4_readSign (x6.2.1) t_tape_size a_t_tape_bytes (44 : Int32)) (fun x8 => if (x8.1) = 0 then (ag22 (x6.1) (x8.2) (x6.2.2.1) (x6.2.2.2) (0 : Int32) (vL22_5 + (1 : Int32))) else (ag22 (x6.1) (x8.2) (x6.2.2.1) (x6.2.2.2) (1 : Int32) (vL22_5 + (1 : Int32))))))))))
noncomputable def F_X4_readMarks (t_place : Int32) (t_cannotBe : Int32) (t_tape_size : Int32) (a_t_tape_bytes : Nat → Int32) (a_t_told_powers : Nat → Int32) : Option (Int32 × (Nat → Int32) × Int32 × Int32 × Int32) :=
  bd (F_X7_isFigure t_tape_size a_t_tape_bytes t_place) (fun x1 => wq6 (B_X4_readMarks_22 t_tape_size a_t_tape_bytes K_X4_readMarks_22_79) FU a_t_told_powers t_place t_cannotBe (0 : Int32) x1 (0 : Int32))

/-! X6_isLeafCount -/
noncomputable def F_X6_isLeafCount (p0 : Int32) : Option (Int32) :=
  if p0 < (3 : Int32) then (some (0 : Int32)) else (if (6 : Int32) < p0 then (some (0 : Int32)) else (some (1 : Int32)))

/-! X4_readLeafCount -/
noncomputable def F_X4_readLeafCount (t_place : Int32) (t_cannotBe : Int32) (t_tape_size : Int32) (a_t_tape_bytes : Nat → Int32) (t_told_limit : Int32) (t_told_tree : Int64) : Option (Int32 × Int32 × Int32 × Int32 × Int64) :=
  bd (F_X7_isFigure t_tape_size a_t_tape_bytes t_place) (fun x1 => if x1 = 0 then (some ((0 : Int32), t_place, t_cannotBe, t_told_limit, t_told_tree)) else (bd (F_X7_figureAt t_tape_size a_t_tape_bytes t_place) (fun x3 => bd (F_X6_isLeafCount x3) (fun x4 => if x4 = 0 then (bd (F_X4_noteCannotBe t_cannotBe t_place) (fun x6 => some ((1 : Int32), (t_place + (1 : Int32)), x6, x3, (0 : Int64)))) else (some ((1 : Int32), (t_place + (1 : Int32)), t_cannotBe, x3, (0 : Int64)))))))

/-! J6_bitCount_0f7a4 -/
noncomputable def F_J6_bitCount_0f7a4 (p0 : Int32) : Option (Int32) :=
  some ((((((((p0 - ((iush p0 (1 : Int32)) &&& (1431655765 : Int32))) &&& (858993459 : Int32)) + ((iush (p0 - ((iush p0 (1 : Int32)) &&& (1431655765 : Int32))) (2 : Int32)) &&& (858993459 : Int32))) + (iush (((p0 - ((iush p0 (1 : Int32)) &&& (1431655765 : Int32))) &&& (858993459 : Int32)) + ((iush (p0 - ((iush p0 (1 : Int32)) &&& (1431655765 : Int32))) (2 : Int32)) &&& (858993459 : Int32))) (4 : Int32))) &&& (252645135 : Int32)) + (iush (((((p0 - ((iush p0 (1 : Int32)) &&& (1431655765 : Int32))) &&& (858993459 : Int32)) + ((iush (p0 - ((iush p0 (1 : Int32)) &&& (1431655765 : Int32))) (2 : Int32)) &&& (858993459 : Int32))) + (iush (((p0 - ((iush p0 (1 : Int32)) &&& (1431655765 : Int32))) &&& (858993459 : Int32)) + ((iush (p0 - ((iush p0 (1 : Int32)) &&& (1431655765 : Int32))) (2 : Int32)) &&& (858993459 : Int32))) (4 : Int32))) &&& (252645135 : Int32)) (8 : Int32))) + (iush ((((((p0 - ((iush p0 (1 : Int32)) &&& (1431655765 : Int32))) &&& (858993459 : Int32)) + ((iush (p0 - ((iush p0 (1 : Int32)) &&& (1431655765 : Int32))) (2 : Int32)) &&& (858993459 : Int32))) + (iush (((p0 - ((iush p0 (1 : Int32)) &&& (1431655765 : Int32))) &&& (858993459 : Int32)) + ((iush (p0 - ((iush p0 (1 : Int32)) &&& (1431655765 : Int32))) (2 : Int32)) &&& (858993459 : Int32))) (4 : Int32))) &&& (252645135 : Int32)) + (iush (((((p0 - ((iush p0 (1 : Int32)) &&& (1431655765 : Int32))) &&& (858993459 : Int32)) + ((iush (p0 - ((iush p0 (1 : Int32)) &&& (1431655765 : Int32))) (2 : Int32)) &&& (858993459 : Int32))) + (iush (((p0 - ((iush p0 (1 : Int32)) &&& (1431655765 : Int32))) &&& (858993459 : Int32)) + ((iush (p0 - ((iush p0 (1 : Int32)) &&& (1431655765 : Int32))) (2 : Int32)) &&& (858993459 : Int32))) (4 : Int32))) &&& (252645135 : Int32)) (8 : Int32))) (16 : Int32))) &&& (63 : Int32))

/-! X6_isSplit -/
noncomputable def F_X6_isSplit (p0 : Int32) (p1 : Int32) : Option (Int32) :=
  bd (F_X6_isLeafCount p1) (fun x1 => if x1 = 0 then (some (0 : Int32)) else (if p0 ≤ 0 then (some (0 : Int32)) else (if ((1 : Int32) <<< (p1 &&& 31)) ≤ p0 then (some (0 : Int32)) else (if (p0 &&& (1 : Int32)) = 0 then (bd (F_J6_bitCount_0f7a4 p0) (fun x6 => if x6 < (2 : Int32) then (some (0 : Int32)) else (if (p1 - (2 : Int32)) < x6 then (some (0 : Int32)) else (some (1 : Int32))))) else (some (0 : Int32))))))

/-! X6_with -/
noncomputable def F_X6_with (p0 : Int64) (p1 : Int32) : Option (Int64) :=
  if p1 < 0 then (some p0) else (if (63 : Int32) < p1 then (some p0) else (some (p0 ||| (lshl (1 : Int64) p1))))

/-! X6_goTogether -/
noncomputable def F_X6_goTogether (p0 : Int32) (p1 : Int32) : Option (Int32) :=
  if (p0 &&& p1) = 0 then (some (1 : Int32)) else (if (p0 &&& p1) = p0 then (some (1 : Int32)) else (if (p0 &&& p1) = p1 then (some (1 : Int32)) else (some (0 : Int32))))

/-! X6_fits -/
noncomputable def K_X6_fits_8_45   : Option (Int32) :=
  some (1 : Int32)
noncomputable def B_X6_fits_8 (p0 : Int64) (p1 : Int32) (x1 : Int32) (kk8_45 : Option (Int32)) (vL8_0 : Int32) (ag8 : Int32 → Option (Int32)) : Option (Int32) :=
  if x1 ≤ vL8_0 then (kk8_45) else (bd (F_X6_nth p0 vL8_0) (fun x3 => if p1 = x3 then (some (0 : Int32)) else (bd (F_X6_goTogether p1 x3) (fun x5 => if x5 = 0 then (some (0 : Int32)) else (ag8 (vL8_0 + (1 : Int32)))))))
noncomputable def F_X6_fits (p0 : Int64) (p1 : Int32) : Option (Int32) :=
  bd (F_X6_sizeOf p0) (fun x1 => wq1 (B_X6_fits_8 p0 p1 x1 K_X6_fits_8_45) FU (0 : Int32))

/-! X4_readSplit -/
noncomputable def J_X4_readSplit_145 (t_place : Int32) (t_cannotBe : Int32) (t_told_tree : Int64) (vK12_84_0 : Int32)  : Option (Int32 × Int32 × Int32 × Int64) :=
  bd (F_X4_noteCannotBe t_cannotBe t_place) (fun x3 => some ((1 : Int32), vK12_84_0, x3, t_told_tree))
noncomputable def K_X4_readSplit_12_84 (t_place : Int32) (t_cannotBe : Int32) (t_told_limit : Int32) (t_told_tree : Int64) (vK12_84_0 : Int32) (vK12_84_1 : Int32) : Option (Int32 × Int32 × Int32 × Int64) :=
  if (2 : Int32) ≤ (vK12_84_0 - t_place) then (bd (F_X6_isSplit vK12_84_1 t_told_limit) (fun x2 => if x2 = 0 then (J_X4_readSplit_145 t_place t_cannotBe t_told_tree vK12_84_0) else (bd (F_X6_fits t_told_tree vK12_84_1) (fun x5 => if x5 = 0 then (J_X4_readSplit_145 t_place t_cannotBe t_told_tree vK12_84_0) else (bd (F_X6_with t_told_tree vK12_84_1) (fun x7 => some ((1 : Int32), vK12_84_0, t_cannotBe, x7))))))) else (some ((0 : Int32), vK12_84_0, t_cannotBe, t_told_tree))
noncomputable def B_X4_readSplit_12 (t_tape_size : Int32) (a_t_tape_bytes : Nat → Int32) (kk12_84 : Int32 → Int32 → Option (Int32 × Int32 × Int32 × Int64)) (vL12_0 : Int32) (vL12_1 : Int32) (vL12_2 : Int32) (vL12_3 : Int32) (ag12 : Int32 → Int32 → Int32 → Int32 → Option (Int32 × Int32 × Int32 × Int64)) : Option (Int32 × Int32 × Int32 × Int64) :=
  if (4 : Int32) ≤ vL12_3 then (kk12_84 vL12_0 vL12_2) else (bd (F_X7_isFigure t_tape_size a_t_tape_bytes vL12_0) (fun x9 => if x9 = 0 then (kk12_84 vL12_0 vL12_2) else (bd (F_X7_figureAt t_tape_size a_t_tape_bytes vL12_0) (fun x11 => if vL12_1 < x11 then (bd (F_X7_figureAt t_tape_size a_t_tape_bytes vL12_0) (fun x13 => ag12 (vL12_0 + (1 : Int32)) x13 (vL12_2 ||| ((1 : Int32) <<< (x13 &&& 31))) (vL12_3 + (1 : Int32)))) else (kk12_84 vL12_0 vL12_2)))))
noncomputable def F_X4_readSplit (t_place : Int32) (t_cannotBe : Int32) (t_tape_size : Int32) (a_t_tape_bytes : Nat → Int32) (t_told_limit : Int32) (t_told_tree : Int64) : Option (Int32 × Int32 × Int32 × Int64) :=
  wq4 (B_X4_readSplit_12 t_tape_size a_t_tape_bytes (K_X4_readSplit_12_84 t_place t_cannotBe t_told_limit t_told_tree)) FU t_place (-1 : Int32) (0 : Int32) (0 : Int32)

/-! X4_readSplits -/
noncomputable def K_X4_readSplits_2_31  (vK2_31_0 : Int32) (vK2_31_1 : Int32) (vK2_31_2 : Int64) : Option (Int32 × Int32 × Int32 × Int64) :=
  some ((1 : Int32), vK2_31_0, vK2_31_1, vK2_31_2)
noncomputable def B_X4_readSplits_2 (t_tape_size : Int32) (a_t_tape_bytes : Nat → Int32) (t_told_limit : Int32) (kk2_31 : Int32 → Int32 → Int64 → Option (Int32 × Int32 × Int32 × Int64)) (vL2_0 : Int32) (vL2_1 : Int32) (vL2_2 : Int64) (vL2_3 : Int32) (ag2 : Int32 → Int32 → Int64 → Int32 → Option (Int32 × Int32 × Int32 × Int64)) : Option (Int32 × Int32 × Int32 × Int64) :=
  if (3 : Int32) ≤ vL2_3 then (kk2_31 vL2_0 vL2_1 vL2_2) else (bd (F_X4_readSign vL2_0 t_tape_size a_t_tape_bytes (59 : Int32)) (fun x2 => if (x2.1) = 0 then (kk2_31 (x2.2) vL2_1 vL2_2) else (bd (F_X4_readSplit (x2.2) vL2_1 t_tape_size a_t_tape_bytes t_told_limit vL2_2) (fun x4 => if (x4.1) = 0 then (some ((0 : Int32), (x4.2.1), (x4.2.2.1), (x4.2.2.2))) else (ag2 (x4.2.1) (x4.2.2.1) (x4.2.2.2) (vL2_3 + (1 : Int32)))))))
noncomputable def F_X4_readSplits (t_place : Int32) (t_cannotBe : Int32) (t_tape_size : Int32) (a_t_tape_bytes : Nat → Int32) (t_told_limit : Int32) (t_told_tree : Int64) : Option (Int32 × Int32 × Int32 × Int64) :=
  wq4 (B_X4_readSplits_2 t_tape_size a_t_tape_bytes t_told_limit K_X4_readSplits_2_31) FU t_place t_cannotBe t_told_tree (0 : Int32)

/-! X4_readText -/
noncomputable def J_X4_readText_50 (t_tape_size : Int32) (x1 : Int32 × Int32 × Int32 × Int32) (x5 : Int32 × (Nat → Int32) × Int32 × Int32 × Int32) (vJ50_0 : Int32) (vJ50_1 : Int32) (vJ50_2 : Int32) (vJ50_3 : Int64) : Option (Int32 × (Nat → Int32) × Int32 × Int32 × Int32 × Int32 × Int32 × Int64) :=
  if vJ50_0 = t_tape_size then (some ((1 : Int32), (x5.2.1), vJ50_0, vJ50_1, (x1.2.2.2), (x5.2.2.2.2), vJ50_2, vJ50_3)) else (some ((0 : Int32), (x5.2.1), vJ50_0, vJ50_1, (x1.2.2.2), (x5.2.2.2.2), vJ50_2, vJ50_3))
noncomputable def F_X4_readText (t_place : Int32) (t_cannotBe : Int32) (t_tape_size : Int32) (a_t_tape_bytes : Nat → Int32) (t_told_genus : Int32) (t_told_size : Int32) (t_told_limit : Int32) (t_told_tree : Int64) (a_t_told_powers : Nat → Int32) : Option (Int32 × (Nat → Int32) × Int32 × Int32 × Int32 × Int32 × Int32 × Int64) :=
  bd (F_X4_readGenus t_place t_cannotBe t_tape_size a_t_tape_bytes t_told_genus) (fun x1 => if (x1.1) = 0 then (some ((0 : Int32), a_t_told_powers, (x1.2.1), (x1.2.2.1), (x1.2.2.2), t_told_size, t_told_limit, t_told_tree)) else (bd (F_X4_readSign (x1.2.1) t_tape_size a_t_tape_bytes (58 : Int32)) (fun x3 => if (x3.1) = 0 then (some ((0 : Int32), a_t_told_powers, (x3.2), (x1.2.2.1), (x1.2.2.2), t_told_size, t_told_limit, t_told_tree)) else (bd (F_X4_readMarks (x3.2) (x1.2.2.1) t_tape_size a_t_tape_bytes a_t_told_powers) (fun x5 => if (x5.1) = 0 then (some ((0 : Int32), (x5.2.1), (x5.2.2.1), (x5.2.2.2.1), (x1.2.2.2), (x5.2.2.2.2), t_told_limit, t_told_tree)) else (bd (F_X4_readSign (x5.2.2.1) t_tape_size a_t_tape_bytes (47 : Int32)) (fun x7 => if (x7.1) = 0 then (J_X4_readText_50 t_tape_size x1 x5 (x7.2) (x5.2.2.2.1) t_told_limit t_told_tree) else (bd (F_X4_readLeafCount (x7.2) (x5.2.2.2.1) t_tape_size a_t_tape_bytes t_told_limit t_told_tree) (fun x10 => if (x10.1) = 0 then (some ((0 : Int32), (x5.2.1), (x10.2.1), (x10.2.2.1), (x1.2.2.2), (x5.2.2.2.2), (x10.2.2.2.1), (x10.2.2.2.2))) else (bd (F_X4_readSplits (x10.2.1) (x10.2.2.1) t_tape_size a_t_tape_bytes (x10.2.2.2.1) (x10.2.2.2.2)) (fun x12 => if (x12.1) = 0 then (some ((0 : Int32), (x5.2.1), (x12.2.1), (x12.2.2.1), (x1.2.2.2), (x5.2.2.2.2), (x10.2.2.2.1), (x12.2.2.2))) else (J_X4_readText_50 t_tape_size x1 x5 (x12.2.1) (x12.2.2.1) (x10.2.2.2.1) (x12.2.2.2)))))))))))))

/-! X7_firstOf -/
noncomputable def K_X7_firstOf_2_24   : Option (Int32) :=
  some (-1 : Int32)
noncomputable def B_X7_firstOf_2 (t_size : Int32) (a_t_bytes : Nat → Int32) (p0 : Int32) (p1 : Int32) (kk2_24 : Option (Int32)) (vL2_0 : Int32) (ag2 : Int32 → Option (Int32)) : Option (Int32) :=
  if p1 ≤ vL2_0 then (kk2_24) else (bd (F_X7_byteAt t_size a_t_bytes vL2_0) (fun x2 => if x2 = p0 then (some vL2_0) else (ag2 (vL2_0 + (1 : Int32)))))
noncomputable def F_X7_firstOf (t_size : Int32) (a_t_bytes : Nat → Int32) (p0 : Int32) (p1 : Int32) : Option (Int32) :=
  wq1 (B_X7_firstOf_2 t_size a_t_bytes p0 p1 K_X7_firstOf_2_24) FU (0 : Int32)

/-! X4_sortOf -/
noncomputable def F_X4_sortOf (t_tape_size : Int32) (a_t_tape_bytes : Nat → Int32) (p0 : Int32) : Option (Int32) :=
  if p0 = 0 then (some (2 : Int32)) else (bd (F_X7_firstOf t_tape_size a_t_tape_bytes (47 : Int32) p0) (fun x2 => if x2 = (-1 : Int32) then (some (3 : Int32)) else (if p0 = (x2 + (1 : Int32)) then (some (4 : Int32)) else (some (5 : Int32)))))

/-! X7_timesAhead -/
noncomputable def K_X7_timesAhead_5_30  (vK5_30_0 : Int32) : Option (Int32) :=
  some vK5_30_0
noncomputable def B_X7_timesAhead_5 (t_size : Int32) (a_t_bytes : Nat → Int32) (p0 : Int32) (p1 : Int32) (kk5_30 : Int32 → Option (Int32)) (vL5_0 : Int32) (vL5_1 : Int32) (ag5 : Int32 → Int32 → Option (Int32)) : Option (Int32) :=
  if p1 ≤ vL5_1 then (kk5_30 vL5_0) else (bd (F_X7_byteAt t_size a_t_bytes vL5_1) (fun x2 => if x2 = p0 then (ag5 (vL5_0 + (1 : Int32)) (vL5_1 + (1 : Int32))) else (ag5 vL5_0 (vL5_1 + (1 : Int32)))))
noncomputable def F_X7_timesAhead (t_size : Int32) (a_t_bytes : Nat → Int32) (p0 : Int32) (p1 : Int32) : Option (Int32) :=
  wq2 (B_X7_timesAhead_5 t_size a_t_bytes p0 p1 K_X7_timesAhead_5_30) FU (0 : Int32) (0 : Int32)

/-! X4_signsAhead -/
noncomputable def F_X4_signsAhead (t_tape_size : Int32) (a_t_tape_bytes : Nat → Int32) (p0 : Int32) (p1 : Int32) : Option (Int32) :=
  if p0 = (3 : Int32) then (bd (F_X7_timesAhead t_tape_size a_t_tape_bytes (44 : Int32) p1) (fun x4 => some x4)) else (if p0 = (5 : Int32) then (bd (F_X7_timesAhead t_tape_size a_t_tape_bytes (59 : Int32) p1) (fun x3 => some x3)) else (some (0 : Int32)))

/-! X4_keepWhy -/
noncomputable def F_X4_keepWhy (a_t_causes : Nat → Int32) (t_tape_size : Int32) (a_t_tape_bytes : Nat → Int32) (p0 : Int32) (p1 : Int32) : Option ((Nat → Int32) × Int32) :=
  ck (0 : Int32) 6 (ck (1 : Int32) 6 (bd (F_X4_sortOf t_tape_size a_t_tape_bytes p1) (fun x3 => ck (2 : Int32) 6 (ck (2 : Int32) 6 (bd (F_X4_signsAhead t_tape_size a_t_tape_bytes ((upd (upd (upd a_t_causes (0 : Int32).toNatClampNeg (1 : Int32)) (1 : Int32).toNatClampNeg t_tape_size) (2 : Int32).toNatClampNeg x3) (2 : Int32).toNatClampNeg) p1) (fun x6 => ck (3 : Int32) 6 (ck (4 : Int32) 6 (ck (5 : Int32) 6 (some ((upd (upd (upd (upd (upd (upd a_t_causes (0 : Int32).toNatClampNeg (1 : Int32)) (1 : Int32).toNatClampNeg t_tape_size) (2 : Int32).toNatClampNeg x3) (3 : Int32).toNatClampNeg x6) (4 : Int32).toNatClampNeg p0) (5 : Int32).toNatClampNeg p1), (1 : Int32)))))))))))

/-! X4_readOver -/
noncomputable def F_X4_readOver (t_refused : Int32) (p0_genus : Int32) (p0_size : Int32) (p0_limit : Int32) (p0_tree : Int64) (a_t_told_powers : Nat → Int32) (a_p0_powers : Nat → Int32) (t_tape_size : Int32) (a_t_tape_bytes : Nat → Int32) (a_t_causes : Nat → Int32) : Option (Int32 × (Nat → Int32) × (Nat → Int32) × (Nat → Int32) × Int32 × Int32 × Int32 × Int32 × Int32 × Int32 × Int64 × Int32 × Int32 × Int32 × Int64) :=
  bd (F_X1_copyFrom p0_genus p0_size p0_limit p0_tree a_t_told_powers a_p0_powers) (fun x1 => bd (F_X4_readText (0 : Int32) (-1 : Int32) t_tape_size a_t_tape_bytes (x1.2.1) (x1.2.2.1) (x1.2.2.2.1) (x1.2.2.2.2) (x1.1)) (fun x2 => if (x2.1) = 0 then (bd (F_X4_keepWhy a_t_causes t_tape_size a_t_tape_bytes (6 : Int32) (x2.2.2.1)) (fun x7 => some (((-1000 : Int32) - (x2.2.2.1)), (x2.2.1), a_p0_powers, (x7.1), (x7.2), (x2.2.2.1), (x2.2.2.2.1), p0_genus, p0_size, p0_limit, p0_tree, (x2.2.2.2.2.1), (x2.2.2.2.2.2.1), (x2.2.2.2.2.2.2.1), (x2.2.2.2.2.2.2.2)))) else (if (x2.2.2.2.1) = (-1 : Int32) then (bd (F_X1_copyFrom (x2.2.2.2.2.1) (x2.2.2.2.2.2.1) (x2.2.2.2.2.2.2.1) (x2.2.2.2.2.2.2.2) a_p0_powers (x2.2.1)) (fun x5 => some ((x5.2.2.1), (x2.2.1), (x5.1), a_t_causes, t_refused, (x2.2.2.1), (x2.2.2.2.1), (x5.2.1), (x5.2.2.1), (x5.2.2.2.1), (x5.2.2.2.2), (x2.2.2.2.2.1), (x2.2.2.2.2.2.1), (x2.2.2.2.2.2.2.1), (x2.2.2.2.2.2.2.2)))) else (bd (F_X4_keepWhy a_t_causes t_tape_size a_t_tape_bytes (7 : Int32) (x2.2.2.2.1)) (fun x6 => some (((-2000 : Int32) - (x2.2.2.2.1)), (x2.2.1), a_p0_powers, (x6.1), (x6.2), (x2.2.2.1), (x2.2.2.2.1), p0_genus, p0_size, p0_limit, p0_tree, (x2.2.2.2.2.1), (x2.2.2.2.2.2.1), (x2.2.2.2.2.2.2.1), (x2.2.2.2.2.2.2.2)))))))

/-! X5_byteAt -/
noncomputable def F_X5_byteAt (t_size : Int32) (a_t_bytes : Nat → Int32) (p0 : Int32) : Option (Int32) :=
  if p0 < 0 then (some (-2 : Int32)) else (if t_size ≤ p0 then (some (-2 : Int32)) else (if (39 : Int32) ≤ p0 then (some (-2 : Int32)) else (ck p0 39 (some (a_t_bytes p0.toNatClampNeg)))))

/-! X5_addByte -/
noncomputable def F_X5_addByte (t_size : Int32) (a_t_bytes : Nat → Int32) (p0 : Int32) : Option ((Nat → Int32) × Int32) :=
  if (39 : Int32) ≤ t_size then (some (a_t_bytes, t_size)) else (ck t_size 39 (some ((upd a_t_bytes t_size.toNatClampNeg p0), (t_size + (1 : Int32)))))

/-! X5_addFigure -/
noncomputable def F_X5_addFigure (t_size : Int32) (a_t_bytes : Nat → Int32) (p0 : Int32) : Option ((Nat → Int32) × Int32) :=
  bd (F_X5_addByte t_size a_t_bytes ((48 : Int32) + p0)) (fun x1 => some ((x1.1), (x1.2)))

/-! X5_addPower -/
noncomputable def J_X5_addPower_14 (p0 : Int32) (vJ14_0 : Nat → Int32) (vJ14_1 : Int32) : Option ((Nat → Int32) × Int32) :=
  bd (F_X5_addFigure vJ14_1 vJ14_0 (p0 - p0 / (10 : Int32) * (10 : Int32))) (fun x1 => some ((x1.1), (x1.2)))
noncomputable def F_X5_addPower (t_size : Int32) (a_t_bytes : Nat → Int32) (p0 : Int32) : Option ((Nat → Int32) × Int32) :=
  if p0 < (10 : Int32) then (J_X5_addPower_14 p0 a_t_bytes t_size) else (bd (F_X5_addFigure t_size a_t_bytes (p0 / (10 : Int32))) (fun x3 => J_X5_addPower_14 p0 (x3.1) (x3.2)))

/-! X5_addSplit -/
noncomputable def K_X5_addSplit_8_33  (vK8_33_0 : Nat → Int32) (vK8_33_1 : Int32) : Option ((Nat → Int32) × Int32) :=
  some (vK8_33_0, vK8_33_1)
noncomputable def B_X5_addSplit_8 (p0 : Int32) (kk8_33 : (Nat → Int32) → Int32 → Option ((Nat → Int32) × Int32)) (vL8_0 : Nat → Int32) (vL8_1 : Int32) (vL8_2 : Int32) (ag8 : (Nat → Int32) → Int32 → Int32 → Option ((Nat → Int32) × Int32)) : Option ((Nat → Int32) × Int32) :=
  if (6 : Int32) ≤ vL8_2 then (kk8_33 vL8_0 vL8_1) else (if ((p0 >>> (vL8_2 &&& 31)) &&& (1 : Int32)) = 0 then (ag8 vL8_0 vL8_1 (vL8_2 + (1 : Int32))) else (bd (F_X5_addFigure vL8_1 vL8_0 vL8_2) (fun x4 => ag8 (x4.1) (x4.2) (vL8_2 + (1 : Int32)))))
noncomputable def F_X5_addSplit (t_size : Int32) (a_t_bytes : Nat → Int32) (p0 : Int32) : Option ((Nat → Int32) × Int32) :=
  bd (F_X5_addByte t_size a_t_bytes (59 : Int32)) (fun x1 => wq3 (B_X5_addSplit_8 p0 K_X5_addSplit_8_33) FU (x1.1) (x1.2) (0 : Int32))

/-! X5_tell -/
noncomputable def K_X5_tell_78_101  (vK78_101_0 : Nat → Int32) (vK78_101_1 : Int32) : Option ((Nat → Int32) × Int32) :=
  some (vK78_101_0, vK78_101_1)
noncomputable def B_X5_tell_78 (p0_tree : Int64) (x5 : Int32) (kk78_101 : (Nat → Int32) → Int32 → Option ((Nat → Int32) × Int32)) (vL78_0 : Nat → Int32) (vL78_1 : Int32) (vL78_2 : Int32) (ag78 : (Nat → Int32) → Int32 → Int32 → Option ((Nat → Int32) × Int32)) : Option ((Nat → Int32) × Int32) :=
  if x5 ≤ vL78_2 then (kk78_101 vL78_0 vL78_1) else (bd (F_X6_nth p0_tree vL78_2) (fun x7 => bd (F_X5_addSplit vL78_1 vL78_0 x7) (fun x8 => ag78 (x8.1) (x8.2) (vL78_2 + (1 : Int32)))))
noncomputable def K_X5_tell_21_54 (p0_limit : Int32) (p0_tree : Int64) (vK21_54_0 : Nat → Int32) (vK21_54_1 : Int32) : Option ((Nat → Int32) × Int32) :=
  bd (F_X5_addByte vK21_54_1 vK21_54_0 (47 : Int32)) (fun x3 => bd (F_X5_addFigure (x3.2) (x3.1) p0_limit) (fun x4 => bd (F_X6_sizeOf p0_tree) (fun x5 => wq3 (B_X5_tell_78 p0_tree x5 K_X5_tell_78_101) FU (x4.1) (x4.2) (0 : Int32))))
noncomputable def J_X5_tell_39 (a_p0_powers : Nat → Int32) (vL21_2 : Int32) (ag21 : (Nat → Int32) → Int32 → Int32 → Option ((Nat → Int32) × Int32)) (vJ39_0 : Nat → Int32) (vJ39_1 : Int32) : Option ((Nat → Int32) × Int32) :=
  bd (F_X1_powerAt a_p0_powers vL21_2) (fun x10 => bd (F_X5_addPower vJ39_1 vJ39_0 x10) (fun x11 => ag21 (x11.1) (x11.2) (vL21_2 + (1 : Int32))))
noncomputable def B_X5_tell_21 (p0_size : Int32) (a_p0_powers : Nat → Int32) (kk21_54 : (Nat → Int32) → Int32 → Option ((Nat → Int32) × Int32)) (vL21_0 : Nat → Int32) (vL21_1 : Int32) (vL21_2 : Int32) (ag21 : (Nat → Int32) → Int32 → Int32 → Option ((Nat → Int32) × Int32)) : Option ((Nat → Int32) × Int32) :=
  if p0_size ≤ vL21_2 then (kk21_54 vL21_0 vL21_1) else (if vL21_2 ≤ 0 then (J_X5_tell_39 a_p0_powers vL21_2 ag21 vL21_0 vL21_1) else (bd (F_X5_addByte vL21_1 vL21_0 (44 : Int32)) (fun x13 => J_X5_tell_39 a_p0_powers vL21_2 ag21 (x13.1) (x13.2))))
noncomputable def F_X5_tell (p0_genus : Int32) (p0_size : Int32) (p0_limit : Int32) (p0_tree : Int64) (a_t_bytes : Nat → Int32) (a_p0_powers : Nat → Int32) : Option ((Nat → Int32) × Int32) :=
  bd (F_X5_addFigure (0 : Int32) a_t_bytes p0_genus) (fun x1 => bd (F_X5_addByte (x1.2) (x1.1) (58 : Int32)) (fun x2 => wq3 (B_X5_tell_21 p0_size a_p0_powers (K_X5_tell_21_54 p0_limit p0_tree)) FU (x2.1) (x2.2) (0 : Int32)))

/-! X6_has -/
noncomputable def F_X6_has (p0 : Int64) (p1 : Int32) : Option (Int32) :=
  if p1 < 0 then (some (0 : Int32)) else (if (63 : Int32) < p1 then (some (0 : Int32)) else (if (lg_cmp ((lush p0 p1) &&& (1 : Int64)) (0 : Int64)) = 0 then (some (0 : Int32)) else (some (1 : Int32))))

/-! X6_without -/
noncomputable def F_X6_without (p0 : Int64) (p1 : Int32) : Option (Int64) :=
  if p1 < 0 then (some p0) else (if (63 : Int32) < p1 then (some p0) else (some (p0 &&& ((lshl (1 : Int64) p1) ^^^ (-1 : Int64)))))

/-! X6_isWithin -/
noncomputable def F_X6_isWithin (p0 : Int32) (p1 : Int32) : Option (Int32) :=
  if (p0 &&& p1) = p0 then (some (1 : Int32)) else (some (0 : Int32))

/-! X6_under -/
noncomputable def F_X6_under (p0 : Int32) (p1 : Int32) : Option (Int32) :=
  if p0 = 0 then (some (((1 : Int32) <<< (p1 &&& 31)) - (2 : Int32))) else (some p0)

/-! X6_lesserWithin -/
noncomputable def K_X6_lesserWithin_11_54  (vK11_54_0 : Int64) : Option (Int64) :=
  some vK11_54_0
noncomputable def B_X6_lesserWithin_11 (p0 : Int64) (p1 : Int32) (x1 : Int32) (kk11_54 : Int64 → Option (Int64)) (vL11_0 : Int64) (vL11_1 : Int32) (ag11 : Int64 → Int32 → Option (Int64)) : Option (Int64) :=
  if x1 ≤ vL11_1 then (kk11_54 vL11_0) else (bd (F_X6_nth p0 vL11_1) (fun x3 => if x3 = p1 then (ag11 vL11_0 (vL11_1 + (1 : Int32))) else (bd (F_X6_isWithin x3 p1) (fun x5 => if x5 = 0 then (ag11 vL11_0 (vL11_1 + (1 : Int32))) else (bd (F_X6_with vL11_0 x3) (fun x7 => ag11 x7 (vL11_1 + (1 : Int32))))))))
noncomputable def F_X6_lesserWithin (p0 : Int64) (p1 : Int32) : Option (Int64) :=
  bd (F_X6_sizeOf p0) (fun x1 => wq2 (B_X6_lesserWithin_11 p0 p1 x1 K_X6_lesserWithin_11_54) FU (0 : Int64) (0 : Int32))

/-! X6_leavesAt -/
noncomputable def K_X6_leavesAt_18_44  (vK18_44_0 : Int32) : Option (Int32) :=
  some vK18_44_0
noncomputable def B_X6_leavesAt_18 (x1 : Int64) (x2 : Int32) (kk18_44 : Int32 → Option (Int32)) (vL18_0 : Int32) (vL18_1 : Int32) (ag18 : Int32 → Int32 → Option (Int32)) : Option (Int32) :=
  if x2 ≤ vL18_1 then (kk18_44 vL18_0) else (bd (F_X6_nth x1 vL18_1) (fun x4 => ag18 (vL18_0 &&& (x4 ^^^ (-1 : Int32))) (vL18_1 + (1 : Int32))))
noncomputable def F_X6_leavesAt (p0 : Int64) (p1 : Int32) : Option (Int32) :=
  bd (F_X6_lesserWithin p0 p1) (fun x1 => bd (F_X6_sizeOf x1) (fun x2 => wq2 (B_X6_leavesAt_18 x1 x2 K_X6_leavesAt_18_44) FU p1 (0 : Int32)))

/-! X6_isOutermost -/
noncomputable def K_X6_isOutermost_8_45   : Option (Int32) :=
  some (1 : Int32)
noncomputable def B_X6_isOutermost_8 (p0 : Int64) (p1 : Int32) (x1 : Int32) (kk8_45 : Option (Int32)) (vL8_0 : Int32) (ag8 : Int32 → Option (Int32)) : Option (Int32) :=
  if x1 ≤ vL8_0 then (kk8_45) else (bd (F_X6_nth p0 vL8_0) (fun x3 => if x3 = p1 then (ag8 (vL8_0 + (1 : Int32))) else (bd (F_X6_isWithin p1 x3) (fun x5 => if x5 = 0 then (ag8 (vL8_0 + (1 : Int32))) else (some (0 : Int32))))))
noncomputable def F_X6_isOutermost (p0 : Int64) (p1 : Int32) : Option (Int32) :=
  bd (F_X6_sizeOf p0) (fun x1 => wq1 (B_X6_isOutermost_8 p0 p1 x1 K_X6_isOutermost_8_45) FU (0 : Int32))

/-! X6_edgesDown -/
noncomputable def K_X6_edgesDown_18_47  (vK18_47_0 : Int32) : Option (Int32) :=
  some vK18_47_0
noncomputable def B_X6_edgesDown_18 (x1 : Int64) (x2 : Int32) (kk18_47 : Int32 → Option (Int32)) (vL18_0 : Int32) (vL18_1 : Int32) (ag18 : Int32 → Int32 → Option (Int32)) : Option (Int32) :=
  if x2 ≤ vL18_1 then (kk18_47 vL18_0) else (bd (F_X6_nth x1 vL18_1) (fun x4 => bd (F_X6_isOutermost x1 x4) (fun x5 => if x5 = 0 then (ag18 vL18_0 (vL18_1 + (1 : Int32))) else (ag18 (vL18_0 + (1 : Int32)) (vL18_1 + (1 : Int32))))))
noncomputable def F_X6_edgesDown (p0 : Int64) (p1 : Int32) : Option (Int32) :=
  bd (F_X6_lesserWithin p0 p1) (fun x1 => bd (F_X6_sizeOf x1) (fun x2 => wq2 (B_X6_edgesDown_18 x1 x2 K_X6_edgesDown_18_47) FU (0 : Int32) (0 : Int32)))

/-! X6_countMore -/
noncomputable def K_X6_countMore_27_81  (vK27_81_0 : Int32) : Option (Int32) :=
  some vK27_81_0
noncomputable def B_X6_countMore_27 (rc : Int32 → Int32 → Int64 → Int32 → Option (Int32)) (p0 : Int32) (p1 : Int32) (p2 : Int64) (kk27_81 : Int32 → Option (Int32)) (vL27_0 : Int32) (vL27_1 : Int32) (ag27 : Int32 → Int32 → Option (Int32)) : Option (Int32) :=
  if ((1 : Int32) <<< (p0 &&& 31)) ≤ vL27_1 then (kk27_81 vL27_0) else (bd (F_X6_isSplit vL27_1 p0) (fun x5 => if x5 = 0 then (ag27 vL27_0 (vL27_1 + (2 : Int32))) else (bd (F_X6_fits p2 vL27_1) (fun x7 => if x7 = 0 then (ag27 vL27_0 (vL27_1 + (2 : Int32))) else (bd (F_X6_with p2 vL27_1) (fun x9 => bd (rc p0 (p1 - (1 : Int32)) x9 (vL27_1 + (2 : Int32))) (fun x10 => ag27 (vL27_0 + x10) (vL27_1 + (2 : Int32)))))))))
noncomputable def G_X6_countMore (rc : Int32 → Int32 → Int64 → Int32 → Option (Int32)) (p0 : Int32) (p1 : Int32) (p2 : Int64) (p3 : Int32) : Option (Int32) :=
  if 0 < p1 then (bd (F_X6_sizeOf p2) (fun x2 => if (x2 + p1) ≤ (p0 - (3 : Int32)) then (wq2 (B_X6_countMore_27 rc p0 p1 p2 K_X6_countMore_27_81) FU (0 : Int32) p3) else (some (0 : Int32)))) else (some (1 : Int32))
noncomputable def F_X6_countMore : Nat → Int32 → Int32 → Int64 → Int32 → Option (Int32)
  | 0, _, _, _, _ => none
  | d + 1, p0, p1, p2, p3 => G_X6_countMore (F_X6_countMore d) p0 p1 p2 p3

/-! X6_countTrees -/
noncomputable def F_X6_countTrees (p0 : Int32) (p1 : Int32) : Option (Int32) :=
  bd (F_X6_countMore 8 p0 p1 (0 : Int64) (2 : Int32)) (fun x1 => some x1)

/-! X6_treeAt -/
noncomputable def K_X6_treeAt_13_129  (vK13_129_0 : Int64) : Option (Int64) :=
  some vK13_129_0
noncomputable def K_X6_treeAt_25_116 (vL13_3 : Int32) (ag13 : Int64 → Int32 → Int32 → Int32 → Option (Int64)) (vK25_116_0 : Int64) (vK25_116_1 : Int32) (vK25_116_2 : Int32) (vK25_116_3 : Int32) : Option (Int64) :=
  if vK25_116_3 = 0 then (some (0 : Int64)) else (ag13 vK25_116_0 vK25_116_1 vK25_116_2 (vL13_3 + (-1 : Int32)))
noncomputable def B_X6_treeAt_25 (p0 : Int32) (vL13_3 : Int32) (kk25_116 : Int64 → Int32 → Int32 → Int32 → Option (Int64)) (vL25_0 : Int64) (vL25_1 : Int32) (vL25_2 : Int32) (vL25_3 : Int32) (vL25_4 : Int32) (ag25 : Int64 → Int32 → Int32 → Int32 → Int32 → Option (Int64)) : Option (Int64) :=
  if ((1 : Int32) <<< (p0 &&& 31)) ≤ vL25_4 then (kk25_116 vL25_0 vL25_1 vL25_2 vL25_3) else (if vL25_3 = 0 then (bd (F_X6_isSplit vL25_4 p0) (fun x5 => if x5 = 0 then (ag25 vL25_0 vL25_1 vL25_2 vL25_3 (vL25_4 + (2 : Int32))) else (bd (F_X6_fits vL25_0 vL25_4) (fun x7 => if x7 = 0 then (ag25 vL25_0 vL25_1 vL25_2 vL25_3 (vL25_4 + (2 : Int32))) else (bd (F_X6_with vL25_0 vL25_4) (fun x9 => bd (F_X6_countMore 8 p0 vL13_3 x9 (vL25_4 + (2 : Int32))) (fun x10 => if x10 ≤ vL25_2 then (ag25 vL25_0 vL25_1 (vL25_2 - x10) vL25_3 (vL25_4 + (2 : Int32))) else (bd (F_X6_with vL25_0 vL25_4) (fun x12 => ag25 x12 (vL25_4 + (2 : Int32)) vL25_2 (1 : Int32) (vL25_4 + (2 : Int32))))))))))) else (kk25_116 vL25_0 vL25_1 vL25_2 vL25_3))
noncomputable def B_X6_treeAt_13 (p0 : Int32) (kk13_129 : Int64 → Option (Int64)) (vL13_0 : Int64) (vL13_1 : Int32) (vL13_2 : Int32) (vL13_3 : Int32) (ag13 : Int64 → Int32 → Int32 → Int32 → Option (Int64)) : Option (Int64) :=
  if vL13_3 < 0 then (kk13_129 vL13_0) else (wq5 (B_X6_treeAt_25 p0 vL13_3 (K_X6_treeAt_25_116 vL13_3 ag13)) FU vL13_0 vL13_1 vL13_2 (0 : Int32) vL13_1)
noncomputable def F_X6_treeAt (p0 : Int32) (p1 : Int32) (p2 : Int32) : Option (Int64) :=
  wq4 (B_X6_treeAt_13 p0 K_X6_treeAt_13_129) FU (0 : Int64) (2 : Int32) p2 (p1 - (1 : Int32))

/-! X6_leftWithout -/
noncomputable def F_X6_leftWithout (p0 : Int32) (p1 : Int32) (p2 : Int32) : Option (Int32) :=
  if (((p0 &&& (((1 : Int32) <<< (p2 &&& 31)) - (1 : Int32))) ||| ((p0 >>> ((p2 + (1 : Int32)) &&& 31)) <<< (p2 &&& 31))) &&& (1 : Int32)) = 0 then (some ((p0 &&& (((1 : Int32) <<< (p2 &&& 31)) - (1 : Int32))) ||| ((p0 >>> ((p2 + (1 : Int32)) &&& 31)) <<< (p2 &&& 31)))) else (some ((((1 : Int32) <<< ((p1 - (1 : Int32)) &&& 31)) - (1 : Int32)) ^^^ ((p0 &&& (((1 : Int32) <<< (p2 &&& 31)) - (1 : Int32))) ||| ((p0 >>> ((p2 + (1 : Int32)) &&& 31)) <<< (p2 &&& 31)))))

/-! X6_forgetLeaf -/
noncomputable def K_X6_forgetLeaf_12_58  (vK12_58_0 : Int64) : Option (Int64) :=
  some vK12_58_0
noncomputable def B_X6_forgetLeaf_12 (p0 : Int64) (p1 : Int32) (p2 : Int32) (x1 : Int32) (kk12_58 : Int64 → Option (Int64)) (vL12_0 : Int64) (vL12_1 : Int32) (ag12 : Int64 → Int32 → Option (Int64)) : Option (Int64) :=
  if x1 ≤ vL12_1 then (kk12_58 vL12_0) else (bd (F_X6_nth p0 vL12_1) (fun x3 => bd (F_X6_leftWithout x3 p1 p2) (fun x4 => bd (F_X6_isSplit x4 (p1 - (1 : Int32))) (fun x5 => if x5 = 0 then (ag12 vL12_0 (vL12_1 + (1 : Int32))) else (bd (F_X6_with vL12_0 x4) (fun x7 => ag12 x7 (vL12_1 + (1 : Int32))))))))
noncomputable def F_X6_forgetLeaf (p0 : Int64) (p1 : Int32) (p2 : Int32) : Option (Int64) :=
  bd (F_X6_sizeOf p0) (fun x1 => wq2 (B_X6_forgetLeaf_12 p0 p1 p2 x1 K_X6_forgetLeaf_12_58) FU (0 : Int64) (0 : Int32))

/-! X7_add -/
noncomputable def F_X7_add (t_size : Int32) (a_t_bytes : Nat → Int32) (p0 : Int32) : Option ((Nat → Int32) × Int32) :=
  if (60 : Int32) ≤ t_size then (some (a_t_bytes, t_size)) else (ck t_size 60 (some ((upd a_t_bytes t_size.toNatClampNeg p0), (t_size + (1 : Int32)))))

/-! X8_genus -/
noncomputable def F_X8_genus (d_t_deeds_desks : Nat → Nat) (q_t_deeds_desks : Nat → Nat) (a_t_deeds_desks : Nat → Nat → Int32) (t_deeds_desks_genus : Nat → Int32) (t_deeds_desks_size : Nat → Int32) (t_deeds_desks_limit : Nat → Int32) (t_deeds_desks_tree : Nat → Int64) (t_desk_genus : Int32) (t_desk_size : Int32) (t_desk_limit : Int32) (t_desk_tree : Int64) (t_deeds_now : Int32) (t_deeds_last : Int32) (a_t_desk_powers : Nat → Int32) (p0 : Int32) : Option (Int32 × Int32 × Int32 × Int32 × (Nat → Nat → Int32) × (Nat → Nat) × (Nat → Int32) × (Nat → Int32) × (Nat → Nat) × (Nat → Int32) × (Nat → Int64)) :=
  if p0 < 0 then (some ((-1 : Int32), t_desk_genus, t_deeds_now, t_deeds_last, a_t_deeds_desks, d_t_deeds_desks, t_deeds_desks_genus, t_deeds_desks_limit, q_t_deeds_desks, t_deeds_desks_size, t_deeds_desks_tree)) else (if p0 ≤ (2 : Int32) then (bd (F_X0_settle d_t_deeds_desks q_t_deeds_desks a_t_deeds_desks t_deeds_desks_genus t_deeds_desks_size t_deeds_desks_limit t_deeds_desks_tree t_deeds_now t_deeds_last p0 t_desk_size t_desk_limit t_desk_tree a_t_desk_powers) (fun x3 => some (t_desk_genus, p0, (x3.1), (x3.2.1), (x3.2.2.1), (x3.2.2.2.1), (x3.2.2.2.2.1), (x3.2.2.2.2.2.1), (x3.2.2.2.2.2.2.1), (x3.2.2.2.2.2.2.2.1), (x3.2.2.2.2.2.2.2.2)))) else (some ((-1 : Int32), t_desk_genus, t_deeds_now, t_deeds_last, a_t_deeds_desks, d_t_deeds_desks, t_deeds_desks_genus, t_deeds_desks_limit, q_t_deeds_desks, t_deeds_desks_size, t_deeds_desks_tree)))

/-! X8_isPower -/
noncomputable def F_X8_isPower (p0 : Int32) : Option (Int32) :=
  if p0 < 0 then (some (0 : Int32)) else (if (12 : Int32) < p0 then (some (0 : Int32)) else (some (1 : Int32)))

/-! X8_mark -/
noncomputable def F_X8_mark (d_t_deeds_desks : Nat → Nat) (q_t_deeds_desks : Nat → Nat) (a_t_deeds_desks : Nat → Nat → Int32) (t_deeds_desks_genus : Nat → Int32) (t_deeds_desks_size : Nat → Int32) (t_deeds_desks_limit : Nat → Int32) (t_deeds_desks_tree : Nat → Int64) (t_desk_genus : Int32) (t_desk_size : Int32) (t_desk_limit : Int32) (t_desk_tree : Int64) (a_t_desk_powers : Nat → Int32) (t_deeds_now : Int32) (t_deeds_last : Int32) (p0 : Int32) : Option (Int32 × (Nat → Int32) × Int32 × Int32 × Int32 × (Nat → Nat → Int32) × (Nat → Nat) × (Nat → Int32) × (Nat → Int32) × (Nat → Nat) × (Nat → Int32) × (Nat → Int64)) :=
  bd (F_X8_isPower p0) (fun x1 => if x1 = 0 then (some ((-1 : Int32), a_t_desk_powers, t_desk_size, t_deeds_now, t_deeds_last, a_t_deeds_desks, d_t_deeds_desks, t_deeds_desks_genus, t_deeds_desks_limit, q_t_deeds_desks, t_deeds_desks_size, t_deeds_desks_tree)) else (if t_desk_size < (8 : Int32) then (bd (F_X1_addMark t_desk_size a_t_desk_powers p0) (fun x4 => bd (F_X0_settle d_t_deeds_desks q_t_deeds_desks a_t_deeds_desks t_deeds_desks_genus t_deeds_desks_size t_deeds_desks_limit t_deeds_desks_tree t_deeds_now t_deeds_last t_desk_genus (x4.2) t_desk_limit t_desk_tree (x4.1)) (fun x5 => some ((x4.2), (x4.1), (x4.2), (x5.1), (x5.2.1), (x5.2.2.1), (x5.2.2.2.1), (x5.2.2.2.2.1), (x5.2.2.2.2.2.1), (x5.2.2.2.2.2.2.1), (x5.2.2.2.2.2.2.2.1), (x5.2.2.2.2.2.2.2.2))))) else (some ((-3 : Int32), a_t_desk_powers, t_desk_size, t_deeds_now, t_deeds_last, a_t_deeds_desks, d_t_deeds_desks, t_deeds_desks_genus, t_deeds_desks_limit, q_t_deeds_desks, t_deeds_desks_size, t_deeds_desks_tree))))

/-! X8_take -/
noncomputable def F_X8_take (d_t_deeds_desks : Nat → Nat) (q_t_deeds_desks : Nat → Nat) (a_t_deeds_desks : Nat → Nat → Int32) (t_deeds_desks_genus : Nat → Int32) (t_deeds_desks_size : Nat → Int32) (t_deeds_desks_limit : Nat → Int32) (t_deeds_desks_tree : Nat → Int64) (t_desk_genus : Int32) (t_desk_size : Int32) (t_desk_limit : Int32) (t_desk_tree : Int64) (a_t_desk_powers : Nat → Int32) (t_deeds_now : Int32) (t_deeds_last : Int32) (p0 : Int32) : Option (Int32 × (Nat → Int32) × Int32 × Int32 × Int32 × (Nat → Nat → Int32) × (Nat → Nat) × (Nat → Int32) × (Nat → Int32) × (Nat → Nat) × (Nat → Int32) × (Nat → Int64)) :=
  bd (F_X1_hasMark t_desk_size p0) (fun x1 => if x1 = 0 then (some ((-1 : Int32), a_t_desk_powers, t_desk_size, t_deeds_now, t_deeds_last, a_t_deeds_desks, d_t_deeds_desks, t_deeds_desks_genus, t_deeds_desks_limit, q_t_deeds_desks, t_deeds_desks_size, t_deeds_desks_tree)) else (bd (F_X1_dropMark t_desk_size a_t_desk_powers p0) (fun x3 => bd (F_X0_settle d_t_deeds_desks q_t_deeds_desks a_t_deeds_desks t_deeds_desks_genus t_deeds_desks_size t_deeds_desks_limit t_deeds_desks_tree t_deeds_now t_deeds_last t_desk_genus (x3.2) t_desk_limit t_desk_tree (x3.1)) (fun x4 => some ((x3.2), (x3.1), (x3.2), (x4.1), (x4.2.1), (x4.2.2.1), (x4.2.2.2.1), (x4.2.2.2.2.1), (x4.2.2.2.2.2.1), (x4.2.2.2.2.2.2.1), (x4.2.2.2.2.2.2.2.1), (x4.2.2.2.2.2.2.2.2))))))

/-! X8_change -/
noncomputable def F_X8_change (d_t_deeds_desks : Nat → Nat) (q_t_deeds_desks : Nat → Nat) (a_t_deeds_desks : Nat → Nat → Int32) (t_deeds_desks_genus : Nat → Int32) (t_deeds_desks_size : Nat → Int32) (t_deeds_desks_limit : Nat → Int32) (t_deeds_desks_tree : Nat → Int64) (t_desk_genus : Int32) (t_desk_size : Int32) (t_desk_limit : Int32) (t_desk_tree : Int64) (a_t_desk_powers : Nat → Int32) (t_deeds_now : Int32) (t_deeds_last : Int32) (p0 : Int32) (p1 : Int32) : Option (Int32 × (Nat → Int32) × Int32 × Int32 × (Nat → Nat → Int32) × (Nat → Nat) × (Nat → Int32) × (Nat → Int32) × (Nat → Nat) × (Nat → Int32) × (Nat → Int64)) :=
  bd (F_X1_hasMark t_desk_size p0) (fun x1 => if x1 = 0 then (some ((-1 : Int32), a_t_desk_powers, t_deeds_now, t_deeds_last, a_t_deeds_desks, d_t_deeds_desks, t_deeds_desks_genus, t_deeds_desks_limit, q_t_deeds_desks, t_deeds_desks_size, t_deeds_desks_tree)) else (bd (F_X8_isPower p1) (fun x3 => if x3 = 0 then (some ((-1 : Int32), a_t_desk_powers, t_deeds_now, t_deeds_last, a_t_deeds_desks, d_t_deeds_desks, t_deeds_desks_genus, t_deeds_desks_limit, q_t_deeds_desks, t_deeds_desks_size, t_deeds_desks_tree)) else (bd (F_X1_powerAt a_t_desk_powers p0) (fun x5 => bd (F_X1_setPower a_t_desk_powers p0 p1) (fun x6 => bd (F_X0_settle d_t_deeds_desks q_t_deeds_desks a_t_deeds_desks t_deeds_desks_genus t_deeds_desks_size t_deeds_desks_limit t_deeds_desks_tree t_deeds_now t_deeds_last t_desk_genus t_desk_size t_desk_limit t_desk_tree x6) (fun x7 => some (x5, x6, (x7.1), (x7.2.1), (x7.2.2.1), (x7.2.2.2.1), (x7.2.2.2.2.1), (x7.2.2.2.2.2.1), (x7.2.2.2.2.2.2.1), (x7.2.2.2.2.2.2.2.1), (x7.2.2.2.2.2.2.2.2)))))))))

/-! X8_order -/
noncomputable def J_X8_order_71 (d_t_deeds_desks : Nat → Nat) (q_t_deeds_desks : Nat → Nat) (a_t_deeds_desks : Nat → Nat → Int32) (t_deeds_desks_genus : Nat → Int32) (t_deeds_desks_size : Nat → Int32) (t_deeds_desks_limit : Nat → Int32) (t_deeds_desks_tree : Nat → Int64) (t_desk_genus : Int32) (t_desk_size : Int32) (t_desk_limit : Int32) (t_desk_tree : Int64) (t_deeds_now : Int32) (t_deeds_last : Int32) (vJ56_0 : Nat → Int32) (vJ71_0 : Int32) : Option (Int32 × (Nat → Int32) × Int32 × Int32 × (Nat → Nat → Int32) × (Nat → Nat) × (Nat → Int32) × (Nat → Int32) × (Nat → Nat) × (Nat → Int32) × (Nat → Int64)) :=
  bd (F_X0_settle d_t_deeds_desks q_t_deeds_desks a_t_deeds_desks t_deeds_desks_genus t_deeds_desks_size t_deeds_desks_limit t_deeds_desks_tree t_deeds_now t_deeds_last t_desk_genus t_desk_size t_desk_limit t_desk_tree vJ56_0) (fun x3 => some (vJ71_0, vJ56_0, (x3.1), (x3.2.1), (x3.2.2.1), (x3.2.2.2.1), (x3.2.2.2.2.1), (x3.2.2.2.2.2.1), (x3.2.2.2.2.2.2.1), (x3.2.2.2.2.2.2.2.1), (x3.2.2.2.2.2.2.2.2)))
noncomputable def J_X8_order_56 (d_t_deeds_desks : Nat → Nat) (q_t_deeds_desks : Nat → Nat) (a_t_deeds_desks : Nat → Nat → Int32) (t_deeds_desks_genus : Nat → Int32) (t_deeds_desks_size : Nat → Int32) (t_deeds_desks_limit : Nat → Int32) (t_deeds_desks_tree : Nat → Int64) (t_desk_genus : Int32) (t_desk_size : Int32) (t_desk_limit : Int32) (t_desk_tree : Int64) (t_deeds_now : Int32) (t_deeds_last : Int32) (vJ56_0 : Nat → Int32) : Option (Int32 × (Nat → Int32) × Int32 × Int32 × (Nat → Nat → Int32) × (Nat → Nat) × (Nat → Int32) × (Nat → Int32) × (Nat → Nat) × (Nat → Int32) × (Nat → Int64)) :=
  bd (F_X0_present t_deeds_now) (fun x4 => bd (F_X1_unlikePowers t_desk_size (t_deeds_desks_size x4) vJ56_0 (a_t_deeds_desks x4)) (fun x5 => J_X8_order_71 d_t_deeds_desks q_t_deeds_desks a_t_deeds_desks t_deeds_desks_genus t_deeds_desks_size t_deeds_desks_limit t_deeds_desks_tree t_desk_genus t_desk_size t_desk_limit t_desk_tree t_deeds_now t_deeds_last vJ56_0 x5))
noncomputable def J_X8_order_44 (d_t_deeds_desks : Nat → Nat) (q_t_deeds_desks : Nat → Nat) (a_t_deeds_desks : Nat → Nat → Int32) (t_deeds_desks_genus : Nat → Int32) (t_deeds_desks_size : Nat → Int32) (t_deeds_desks_limit : Nat → Int32) (t_deeds_desks_tree : Nat → Int64) (t_desk_genus : Int32) (t_desk_size : Int32) (t_desk_limit : Int32) (t_desk_tree : Int64) (t_deeds_now : Int32) (t_deeds_last : Int32) (p0 : Int32) (vJ44_0 : Nat → Int32) : Option (Int32 × (Nat → Int32) × Int32 × Int32 × (Nat → Nat → Int32) × (Nat → Nat) × (Nat → Int32) × (Nat → Int32) × (Nat → Nat) × (Nat → Int32) × (Nat → Int64)) :=
  if p0 = (3 : Int32) then (bd (F_X1_putFirstLast t_desk_size vJ44_0) (fun x7 => J_X8_order_56 d_t_deeds_desks q_t_deeds_desks a_t_deeds_desks t_deeds_desks_genus t_deeds_desks_size t_deeds_desks_limit t_deeds_desks_tree t_desk_genus t_desk_size t_desk_limit t_desk_tree t_deeds_now t_deeds_last x7)) else (J_X8_order_56 d_t_deeds_desks q_t_deeds_desks a_t_deeds_desks t_deeds_desks_genus t_deeds_desks_size t_deeds_desks_limit t_deeds_desks_tree t_desk_genus t_desk_size t_desk_limit t_desk_tree t_deeds_now t_deeds_last vJ44_0)
noncomputable def J_X8_order_37 (d_t_deeds_desks : Nat → Nat) (q_t_deeds_desks : Nat → Nat) (a_t_deeds_desks : Nat → Nat → Int32) (t_deeds_desks_genus : Nat → Int32) (t_deeds_desks_size : Nat → Int32) (t_deeds_desks_limit : Nat → Int32) (t_deeds_desks_tree : Nat → Int64) (t_desk_genus : Int32) (t_desk_size : Int32) (t_desk_limit : Int32) (t_desk_tree : Int64) (t_deeds_now : Int32) (t_deeds_last : Int32) (p0 : Int32) (vJ27_0 : Nat → Int32)  : Option (Int32 × (Nat → Int32) × Int32 × Int32 × (Nat → Nat → Int32) × (Nat → Nat) × (Nat → Int32) × (Nat → Int32) × (Nat → Nat) × (Nat → Int32) × (Nat → Int64)) :=
  bd (F_X1_turnAbout t_desk_size vJ27_0) (fun x8 => J_X8_order_44 d_t_deeds_desks q_t_deeds_desks a_t_deeds_desks t_deeds_desks_genus t_deeds_desks_size t_deeds_desks_limit t_deeds_desks_tree t_desk_genus t_desk_size t_desk_limit t_desk_tree t_deeds_now t_deeds_last p0 x8)
noncomputable def J_X8_order_27 (d_t_deeds_desks : Nat → Nat) (q_t_deeds_desks : Nat → Nat) (a_t_deeds_desks : Nat → Nat → Int32) (t_deeds_desks_genus : Nat → Int32) (t_deeds_desks_size : Nat → Int32) (t_deeds_desks_limit : Nat → Int32) (t_deeds_desks_tree : Nat → Int64) (t_desk_genus : Int32) (t_desk_size : Int32) (t_desk_limit : Int32) (t_desk_tree : Int64) (t_deeds_now : Int32) (t_deeds_last : Int32) (p0 : Int32) (vJ27_0 : Nat → Int32) : Option (Int32 × (Nat → Int32) × Int32 × Int32 × (Nat → Nat → Int32) × (Nat → Nat) × (Nat → Int32) × (Nat → Int32) × (Nat → Nat) × (Nat → Int32) × (Nat → Int64)) :=
  if p0 = (1 : Int32) then (J_X8_order_37 d_t_deeds_desks q_t_deeds_desks a_t_deeds_desks t_deeds_desks_genus t_deeds_desks_size t_deeds_desks_limit t_deeds_desks_tree t_desk_genus t_desk_size t_desk_limit t_desk_tree t_deeds_now t_deeds_last p0 vJ27_0) else (if p0 = (2 : Int32) then (J_X8_order_37 d_t_deeds_desks q_t_deeds_desks a_t_deeds_desks t_deeds_desks_genus t_deeds_desks_size t_deeds_desks_limit t_deeds_desks_tree t_desk_genus t_desk_size t_desk_limit t_desk_tree t_deeds_now t_deeds_last p0 vJ27_0) else (J_X8_order_44 d_t_deeds_desks q_t_deeds_desks a_t_deeds_desks t_deeds_desks_genus t_deeds_desks_size t_deeds_desks_limit t_deeds_desks_tree t_desk_genus t_desk_size t_desk_limit t_desk_tree t_deeds_now t_deeds_last p0 vJ27_0))
noncomputable def J_X8_order_20 (d_t_deeds_desks : Nat → Nat) (q_t_deeds_desks : Nat → Nat) (a_t_deeds_desks : Nat → Nat → Int32) (t_deeds_desks_genus : Nat → Int32) (t_deeds_desks_size : Nat → Int32) (t_deeds_desks_limit : Nat → Int32) (t_deeds_desks_tree : Nat → Int64) (t_desk_genus : Int32) (t_desk_size : Int32) (t_desk_limit : Int32) (t_desk_tree : Int64) (a_t_desk_powers : Nat → Int32) (t_deeds_now : Int32) (t_deeds_last : Int32) (p0 : Int32)  : Option (Int32 × (Nat → Int32) × Int32 × Int32 × (Nat → Nat → Int32) × (Nat → Nat) × (Nat → Int32) × (Nat → Int32) × (Nat → Nat) × (Nat → Int32) × (Nat → Int64)) :=
  bd (F_X1_sortRising t_desk_size a_t_desk_powers) (fun x11 => J_X8_order_27 d_t_deeds_desks q_t_deeds_desks a_t_deeds_desks t_deeds_desks_genus t_deeds_desks_size t_deeds_desks_limit t_deeds_desks_tree t_desk_genus t_desk_size t_desk_limit t_desk_tree t_deeds_now t_deeds_last p0 x11)
noncomputable def F_X8_order (d_t_deeds_desks : Nat → Nat) (q_t_deeds_desks : Nat → Nat) (a_t_deeds_desks : Nat → Nat → Int32) (t_deeds_desks_genus : Nat → Int32) (t_deeds_desks_size : Nat → Int32) (t_deeds_desks_limit : Nat → Int32) (t_deeds_desks_tree : Nat → Int64) (t_desk_genus : Int32) (t_desk_size : Int32) (t_desk_limit : Int32) (t_desk_tree : Int64) (a_t_desk_powers : Nat → Int32) (t_deeds_now : Int32) (t_deeds_last : Int32) (p0 : Int32) : Option (Int32 × (Nat → Int32) × Int32 × Int32 × (Nat → Nat → Int32) × (Nat → Nat) × (Nat → Int32) × (Nat → Int32) × (Nat → Nat) × (Nat → Int32) × (Nat → Int64)) :=
  if p0 < 0 then (some ((-1 : Int32), a_t_desk_powers, t_deeds_now, t_deeds_last, a_t_deeds_desks, d_t_deeds_desks, t_deeds_desks_genus, t_deeds_desks_limit, q_t_deeds_desks, t_deeds_desks_size, t_deeds_desks_tree)) else (if p0 ≤ (3 : Int32) then (if p0 = 0 then (J_X8_order_20 d_t_deeds_desks q_t_deeds_desks a_t_deeds_desks t_deeds_desks_genus t_deeds_desks_size t_deeds_desks_limit t_deeds_desks_tree t_desk_genus t_desk_size t_desk_limit t_desk_tree a_t_desk_powers t_deeds_now t_deeds_last p0) else (if p0 = (1 : Int32) then (J_X8_order_20 d_t_deeds_desks q_t_deeds_desks a_t_deeds_desks t_deeds_desks_genus t_deeds_desks_size t_deeds_desks_limit t_deeds_desks_tree t_desk_genus t_desk_size t_desk_limit t_desk_tree a_t_desk_powers t_deeds_now t_deeds_last p0) else (J_X8_order_27 d_t_deeds_desks q_t_deeds_desks a_t_deeds_desks t_deeds_desks_genus t_deeds_desks_size t_deeds_desks_limit t_deeds_desks_tree t_desk_genus t_desk_size t_desk_limit t_desk_tree t_deeds_now t_deeds_last p0 a_t_desk_powers))) else (some ((-1 : Int32), a_t_desk_powers, t_deeds_now, t_deeds_last, a_t_deeds_desks, d_t_deeds_desks, t_deeds_desks_genus, t_deeds_desks_limit, q_t_deeds_desks, t_deeds_desks_size, t_deeds_desks_tree)))

/-! X8_of -/
noncomputable def F_X8_of (t_desk_size : Int32) (a_t_desk_powers : Nat → Int32) (p0 : Int32) : Option (Int32) :=
  bd (F_X1_hasMark t_desk_size p0) (fun x1 => if x1 = 0 then (some (-1 : Int32)) else (bd (F_X1_powerAt a_t_desk_powers p0) (fun x3 => some x3)))

/-! X8_isPart -/
noncomputable def F_X8_isPart (p0 : Int32) : Option (Int32) :=
  if p0 = 0 then (some (1 : Int32)) else (if p0 = (1 : Int32) then (some (1 : Int32)) else (some (0 : Int32)))

/-! X8_keyWith -/
noncomputable def J_X8_keyWith_89 (t_desk_genus : Int32) (vJ89_0 : Int32) (vJ89_1 : Int32) (vJ89_2 : Int64) : Option (Int64 × Int32 × Int32 × Int64) :=
  bd (F_X3_keyFor vJ89_0 vJ89_1 vJ89_2 t_desk_genus) (fun x2 => some (x2, vJ89_0, vJ89_1, vJ89_2))
noncomputable def J_X8_keyWith_74 (t_desk_genus : Int32) (p2 : Int32) (vJ74_0 : Int32) (vJ74_1 : Int32) (vJ74_2 : Int64) : Option (Int64 × Int32 × Int32 × Int64) :=
  if p2 = (-1 : Int32) then (J_X8_keyWith_89 t_desk_genus vJ74_0 vJ74_1 vJ74_2) else (bd (F_X3_add vJ74_0 vJ74_1 vJ74_2 (p2 + (1 : Int32))) (fun x4 => J_X8_keyWith_89 t_desk_genus (x4.1) (x4.2.1) (x4.2.2)))
noncomputable def J_X8_keyWith_59 (t_desk_genus : Int32) (p1 : Int32) (p2 : Int32) (vJ59_0 : Int32) (vJ59_1 : Int32) (vJ59_2 : Int64) : Option (Int64 × Int32 × Int32 × Int64) :=
  if p1 = (-1 : Int32) then (J_X8_keyWith_74 t_desk_genus p2 vJ59_0 vJ59_1 vJ59_2) else (bd (F_X3_add vJ59_0 vJ59_1 vJ59_2 (p1 + (1 : Int32))) (fun x6 => J_X8_keyWith_74 t_desk_genus p2 (x6.1) (x6.2.1) (x6.2.2)))
noncomputable def K_X8_keyWith_10_44 (t_desk_genus : Int32) (p0 : Int32) (p1 : Int32) (p2 : Int32) (vK10_44_0 : Int32) (vK10_44_1 : Int32) (vK10_44_2 : Int64) : Option (Int64 × Int32 × Int32 × Int64) :=
  if p0 = (-1 : Int32) then (J_X8_keyWith_59 t_desk_genus p1 p2 vK10_44_0 vK10_44_1 vK10_44_2) else (bd (F_X3_add vK10_44_0 vK10_44_1 vK10_44_2 (p0 + (1 : Int32))) (fun x8 => J_X8_keyWith_59 t_desk_genus p1 p2 (x8.1) (x8.2.1) (x8.2.2)))
noncomputable def B_X8_keyWith_10 (t_desk_size : Int32) (a_t_desk_powers : Nat → Int32) (kk10_44 : Int32 → Int32 → Int64 → Option (Int64 × Int32 × Int32 × Int64)) (vL10_0 : Int32) (vL10_1 : Int32) (vL10_2 : Int64) (vL10_3 : Int32) (ag10 : Int32 → Int32 → Int64 → Int32 → Option (Int64 × Int32 × Int32 × Int64)) : Option (Int64 × Int32 × Int32 × Int64) :=
  if t_desk_size ≤ vL10_3 then (kk10_44 vL10_0 vL10_1 vL10_2) else (bd (F_X1_powerAt a_t_desk_powers vL10_3) (fun x10 => bd (F_X3_add vL10_0 vL10_1 vL10_2 x10) (fun x11 => ag10 (x11.1) (x11.2.1) (x11.2.2) (vL10_3 + (1 : Int32)))))
noncomputable def F_X8_keyWith (t_desk_genus : Int32) (t_desk_size : Int32) (a_t_desk_powers : Nat → Int32) (p0 : Int32) (p1 : Int32) (p2 : Int32) : Option (Int64 × Int32 × Int32 × Int64) :=
  bd (F_X3_begin) (fun x1 => wq4 (B_X8_keyWith_10 t_desk_size a_t_desk_powers (K_X8_keyWith_10_44 t_desk_genus p0 p1 p2)) FU (x1.1) (x1.2.1) (x1.2.2) (0 : Int32))

/-! X8_aboveWith -/
noncomputable def F_X8_aboveWith (t_desk_genus : Int32) (t_desk_size : Int32) (a_t_desk_powers : Nat → Int32) (a_t_numbers_keys : Nat → Int64) (a_t_numbers_aboves : Nat → Int64) (p0 : Int32) (p1 : Int32) (p2 : Int32) : Option (Int64 × (Nat → Int64) × (Nat → Int64) × Int32 × Int32 × Int64) :=
  bd (F_X8_keyWith t_desk_genus t_desk_size a_t_desk_powers p0 p1 p2) (fun x1 => bd (F_X3_aboveOf a_t_numbers_keys a_t_numbers_aboves (x1.1)) (fun x2 => some ((x2.1), (x2.2.1), (x2.2.2), (x1.2.1), (x1.2.2.1), (x1.2.2.2))))

/-! X8_greatestDivisor -/
noncomputable def K_X8_greatestDivisor_9_45  (vK9_45_0 : Int64) : Option (Int64) :=
  some vK9_45_0
noncomputable def B_X8_greatestDivisor_9  (kk9_45 : Int64 → Option (Int64)) (vL9_0 : Int64) (vL9_1 : Int64) (vL9_2 : Int32) (ag9 : Int64 → Int64 → Int32 → Option (Int64)) : Option (Int64) :=
  if (200 : Int32) ≤ vL9_2 then (kk9_45 vL9_0) else (if (lg_cmp vL9_1 (0 : Int64)) = 0 then (kk9_45 vL9_0) else (dvl vL9_1 (ag9 vL9_1 (vL9_0 - vL9_0 / vL9_1 * vL9_1) (vL9_2 + (1 : Int32)))))
noncomputable def F_X8_greatestDivisor (p0 : Int64) (p1 : Int64) : Option (Int64) :=
  wq3 (B_X8_greatestDivisor_9 K_X8_greatestDivisor_9_45) FU p0 p1 (0 : Int32)

/-! X8_partOf -/
noncomputable def F_X8_partOf (p0 : Int64) (p1 : Int64) (p2 : Int32) : Option (Int64) :=
  bd (F_X8_greatestDivisor (if 0 < p0 then p0 else -p0) p1) (fun x1 => if 0 < (lg_cmp x1 (0 : Int64)) then (if p2 = 0 then (dvl x1 (some (p0 / x1))) else (dvl x1 (some (p1 / x1)))) else (some (-9223372036854775808 : Int64)))

/-! X8_number -/
noncomputable def F_X8_number (t_numbers_size : Int32) (t_numbers_sum : Int32) (t_numbers_gathered : Int64) (t_desk_genus : Int32) (t_desk_size : Int32) (a_t_desk_powers : Nat → Int32) (a_t_numbers_keys : Nat → Int64) (a_t_numbers_aboves : Nat → Int64) (p0 : Int32) : Option (Int64 × (Nat → Int64) × (Nat → Int64) × Int32 × Int32 × Int64) :=
  bd (F_X8_isPart p0) (fun x1 => if x1 = 0 then (some ((-9223372036854775808 : Int64), a_t_numbers_keys, a_t_numbers_aboves, t_numbers_size, t_numbers_sum, t_numbers_gathered)) else (bd (F_X8_aboveWith t_desk_genus t_desk_size a_t_desk_powers a_t_numbers_keys a_t_numbers_aboves (-1 : Int32) (-1 : Int32) (-1 : Int32)) (fun x3 => bd (F_X3_lineOf t_desk_genus) (fun x4 => bd (F_X8_partOf (x3.1) x4 p0) (fun x5 => some (x5, (x3.2.1), (x3.2.2.1), (x3.2.2.2.1), (x3.2.2.2.2.1), (x3.2.2.2.2.2)))))))

/-! X8_rule -/
noncomputable def F_X8_rule (t_desk_genus : Int32) (t_desk_size : Int32) (a_t_desk_powers : Nat → Int32) : Option (Int32 × Int32 × Int32 × Int64) :=
  bd (F_X8_keyWith t_desk_genus t_desk_size a_t_desk_powers (-1 : Int32) (-1 : Int32) (-1 : Int32)) (fun x1 => bd (F_X3_ruleOf (x1.1)) (fun x2 => some (x2, (x1.2.1), (x1.2.2.1), (x1.2.2.2))))

/-! X8_met -/
noncomputable def F_X8_met (t_numbers_round : Int32) (t_desk_genus : Int32) (t_desk_size : Int32) (a_t_desk_powers : Nat → Int32) (a_t_numbers_keys : Nat → Int64) (a_t_numbers_aboves : Nat → Int64) (a_t_numbers_rounds : Nat → Int32) : Option (Int32 × (Nat → Int64) × (Nat → Int64) × (Nat → Int32) × Int32 × Int32 × Int32 × Int64) :=
  bd (F_X8_keyWith t_desk_genus t_desk_size a_t_desk_powers (-1 : Int32) (-1 : Int32) (-1 : Int32)) (fun x1 => bd (F_X3_countMet t_numbers_round a_t_numbers_keys a_t_numbers_aboves a_t_numbers_rounds (x1.1)) (fun x2 => some ((x2.1), (x2.2.1), (x2.2.2.1), (x2.2.2.2.1), (x2.2.2.2.2), (x1.2.1), (x1.2.2.1), (x1.2.2.2))))

/-! X8_isKappa -/
noncomputable def F_X8_isKappa (p0 : Int32) : Option (Int32) :=
  if p0 < (-1 : Int32) then (some (0 : Int32)) else (if (9 : Int32) < p0 then (some (0 : Int32)) else (some (1 : Int32)))

/-! X8_kappaOfTwo -/
noncomputable def F_X8_kappaOfTwo (t_desk_genus : Int32) (t_desk_size : Int32) (a_t_desk_powers : Nat → Int32) (a_t_numbers_keys : Nat → Int64) (a_t_numbers_aboves : Nat → Int64) (p0 : Int32) (p1 : Int32) : Option (Int64 × (Nat → Int64) × (Nat → Int64) × Int32 × Int32 × Int64) :=
  bd (F_X8_aboveWith t_desk_genus t_desk_size a_t_desk_powers a_t_numbers_keys a_t_numbers_aboves p0 p1 (-1 : Int32)) (fun x1 => bd (F_X8_aboveWith t_desk_genus t_desk_size a_t_desk_powers (x1.2.1) (x1.2.2.1) (p0 + p1) (-1 : Int32) (-1 : Int32)) (fun x2 => some (((x1.1) - (x2.1)), (x2.2.1), (x2.2.2.1), (x2.2.2.2.1), (x2.2.2.2.2.1), (x2.2.2.2.2.2))))

/-! X8_kappaOfThree -/
noncomputable def F_X8_kappaOfThree (t_desk_genus : Int32) (t_desk_size : Int32) (a_t_desk_powers : Nat → Int32) (a_t_numbers_keys : Nat → Int64) (a_t_numbers_aboves : Nat → Int64) (p0 : Int32) (p1 : Int32) (p2 : Int32) : Option (Int64 × (Nat → Int64) × (Nat → Int64) × Int32 × Int32 × Int64) :=
  bd (F_X8_aboveWith t_desk_genus t_desk_size a_t_desk_powers a_t_numbers_keys a_t_numbers_aboves p0 p1 p2) (fun x1 => bd (F_X8_kappaOfTwo t_desk_genus t_desk_size a_t_desk_powers (x1.2.1) (x1.2.2.1) (p0 + p1) p2) (fun x2 => bd (F_X8_kappaOfTwo t_desk_genus t_desk_size a_t_desk_powers (x2.2.1) (x2.2.2.1) (p0 + p2) p1) (fun x3 => bd (F_X8_kappaOfTwo t_desk_genus t_desk_size a_t_desk_powers (x3.2.1) (x3.2.2.1) (p1 + p2) p0) (fun x4 => bd (F_X8_aboveWith t_desk_genus t_desk_size a_t_desk_powers (x4.2.1) (x4.2.2.1) ((p0 + p1) + p2) (-1 : Int32) (-1 : Int32)) (fun x5 => some ((((((x1.1) - (x2.1)) - (x3.1)) - (x4.1)) - ((2 : Int64) * (x5.1))), (x5.2.1), (x5.2.2.1), (x5.2.2.2.1), (x5.2.2.2.2.1), (x5.2.2.2.2.2)))))))

/-! X8_kappa -/
noncomputable def J_X8_kappa_99 (t_desk_genus : Int32) (p3 : Int32) (vJ99_0 : Nat → Int64) (vJ99_1 : Nat → Int64) (vJ99_2 : Int32) (vJ99_3 : Int32) (vJ99_4 : Int64) (vJ99_5 : Int64) : Option (Int64 × (Nat → Int64) × (Nat → Int64) × Int32 × Int32 × Int64) :=
  bd (F_X3_lineOf t_desk_genus) (fun x9 => bd (F_X8_partOf vJ99_5 x9 p3) (fun x10 => some (x10, vJ99_0, vJ99_1, vJ99_2, vJ99_3, vJ99_4)))
noncomputable def J_X8_kappa_57 (t_desk_genus : Int32) (t_desk_size : Int32) (a_t_desk_powers : Nat → Int32) (a_t_numbers_keys : Nat → Int64) (a_t_numbers_aboves : Nat → Int64) (p0 : Int32) (p1 : Int32) (p2 : Int32) (p3 : Int32)  : Option (Int64 × (Nat → Int64) × (Nat → Int64) × Int32 × Int32 × Int64) :=
  if p2 = (-1 : Int32) then (if p1 = (-1 : Int32) then (bd (F_X8_aboveWith t_desk_genus t_desk_size a_t_desk_powers a_t_numbers_keys a_t_numbers_aboves p0 (-1 : Int32) (-1 : Int32)) (fun x13 => J_X8_kappa_99 t_desk_genus p3 (x13.2.1) (x13.2.2.1) (x13.2.2.2.1) (x13.2.2.2.2.1) (x13.2.2.2.2.2) (x13.1))) else (bd (F_X8_kappaOfTwo t_desk_genus t_desk_size a_t_desk_powers a_t_numbers_keys a_t_numbers_aboves p0 p1) (fun x14 => J_X8_kappa_99 t_desk_genus p3 (x14.2.1) (x14.2.2.1) (x14.2.2.2.1) (x14.2.2.2.2.1) (x14.2.2.2.2.2) (x14.1)))) else (bd (F_X8_kappaOfThree t_desk_genus t_desk_size a_t_desk_powers a_t_numbers_keys a_t_numbers_aboves p0 p1 p2) (fun x15 => J_X8_kappa_99 t_desk_genus p3 (x15.2.1) (x15.2.2.1) (x15.2.2.2.1) (x15.2.2.2.2.1) (x15.2.2.2.2.2) (x15.1)))
noncomputable def J_X8_kappa_43 (t_numbers_size : Int32) (t_numbers_sum : Int32) (t_numbers_gathered : Int64) (t_desk_genus : Int32) (t_desk_size : Int32) (a_t_desk_powers : Nat → Int32) (a_t_numbers_keys : Nat → Int64) (a_t_numbers_aboves : Nat → Int64) (p0 : Int32) (p1 : Int32) (p2 : Int32) (p3 : Int32)  : Option (Int64 × (Nat → Int64) × (Nat → Int64) × Int32 × Int32 × Int64) :=
  if p1 = (-1 : Int32) then (if p2 = (-1 : Int32) then (J_X8_kappa_57 t_desk_genus t_desk_size a_t_desk_powers a_t_numbers_keys a_t_numbers_aboves p0 p1 p2 p3) else (some ((-9223372036854775808 : Int64), a_t_numbers_keys, a_t_numbers_aboves, t_numbers_size, t_numbers_sum, t_numbers_gathered))) else (J_X8_kappa_57 t_desk_genus t_desk_size a_t_desk_powers a_t_numbers_keys a_t_numbers_aboves p0 p1 p2 p3)
noncomputable def F_X8_kappa (t_numbers_size : Int32) (t_numbers_sum : Int32) (t_numbers_gathered : Int64) (t_desk_genus : Int32) (t_desk_size : Int32) (a_t_desk_powers : Nat → Int32) (a_t_numbers_keys : Nat → Int64) (a_t_numbers_aboves : Nat → Int64) (p0 : Int32) (p1 : Int32) (p2 : Int32) (p3 : Int32) : Option (Int64 × (Nat → Int64) × (Nat → Int64) × Int32 × Int32 × Int64) :=
  bd (F_X8_isKappa p0) (fun x1 => if x1 = 0 then (some ((-9223372036854775808 : Int64), a_t_numbers_keys, a_t_numbers_aboves, t_numbers_size, t_numbers_sum, t_numbers_gathered)) else (bd (F_X8_isKappa p1) (fun x3 => if x3 = 0 then (some ((-9223372036854775808 : Int64), a_t_numbers_keys, a_t_numbers_aboves, t_numbers_size, t_numbers_sum, t_numbers_gathered)) else (bd (F_X8_isKappa p2) (fun x5 => if x5 = 0 then (some ((-9223372036854775808 : Int64), a_t_numbers_keys, a_t_numbers_aboves, t_numbers_size, t_numbers_sum, t_numbers_gathered)) else (bd (F_X8_isPart p3) (fun x7 => if x7 = 0 then (some ((-9223372036854775808 : Int64), a_t_numbers_keys, a_t_numbers_aboves, t_numbers_size, t_numbers_sum, t_numbers_gathered)) else (if p0 = (-1 : Int32) then (if p1 = (-1 : Int32) then (J_X8_kappa_43 t_numbers_size t_numbers_sum t_numbers_gathered t_desk_genus t_desk_size a_t_desk_powers a_t_numbers_keys a_t_numbers_aboves p0 p1 p2 p3) else (some ((-9223372036854775808 : Int64), a_t_numbers_keys, a_t_numbers_aboves, t_numbers_size, t_numbers_sum, t_numbers_gathered))) else (J_X8_kappa_43 t_numbers_size t_numbers_sum t_numbers_gathered t_desk_genus t_desk_size a_t_desk_powers a_t_numbers_keys a_t_numbers_aboves p0 p1 p2 p3)))))))))

/-! X8_leaves -/
noncomputable def F_X8_leaves (d_t_deeds_desks : Nat → Nat) (q_t_deeds_desks : Nat → Nat) (a_t_deeds_desks : Nat → Nat → Int32) (t_deeds_desks_genus : Nat → Int32) (t_deeds_desks_size : Nat → Int32) (t_deeds_desks_limit : Nat → Int32) (t_deeds_desks_tree : Nat → Int64) (t_desk_genus : Int32) (t_desk_size : Int32) (t_desk_limit : Int32) (t_desk_tree : Int64) (t_deeds_now : Int32) (t_deeds_last : Int32) (a_t_desk_powers : Nat → Int32) (p0 : Int32) : Option (Int32 × Int32 × Int64 × Int32 × Int32 × (Nat → Nat → Int32) × (Nat → Nat) × (Nat → Int32) × (Nat → Int32) × (Nat → Nat) × (Nat → Int32) × (Nat → Int64)) :=
  bd (F_X6_isLeafCount p0) (fun x1 => if x1 = 0 then (some ((-1 : Int32), t_desk_limit, t_desk_tree, t_deeds_now, t_deeds_last, a_t_deeds_desks, d_t_deeds_desks, t_deeds_desks_genus, t_deeds_desks_limit, q_t_deeds_desks, t_deeds_desks_size, t_deeds_desks_tree)) else (bd (F_X0_settle d_t_deeds_desks q_t_deeds_desks a_t_deeds_desks t_deeds_desks_genus t_deeds_desks_size t_deeds_desks_limit t_deeds_desks_tree t_deeds_now t_deeds_last t_desk_genus t_desk_size p0 (0 : Int64) a_t_desk_powers) (fun x3 => some (t_desk_limit, p0, (0 : Int64), (x3.1), (x3.2.1), (x3.2.2.1), (x3.2.2.2.1), (x3.2.2.2.2.1), (x3.2.2.2.2.2.1), (x3.2.2.2.2.2.2.1), (x3.2.2.2.2.2.2.2.1), (x3.2.2.2.2.2.2.2.2)))))

/-! X8_split -/
noncomputable def F_X8_split (d_t_deeds_desks : Nat → Nat) (q_t_deeds_desks : Nat → Nat) (a_t_deeds_desks : Nat → Nat → Int32) (t_deeds_desks_genus : Nat → Int32) (t_deeds_desks_size : Nat → Int32) (t_deeds_desks_limit : Nat → Int32) (t_deeds_desks_tree : Nat → Int64) (t_desk_genus : Int32) (t_desk_size : Int32) (t_desk_limit : Int32) (t_desk_tree : Int64) (t_deeds_now : Int32) (t_deeds_last : Int32) (a_t_desk_powers : Nat → Int32) (p0 : Int32) : Option (Int32 × Int64 × Int32 × Int32 × (Nat → Nat → Int32) × (Nat → Nat) × (Nat → Int32) × (Nat → Int32) × (Nat → Nat) × (Nat → Int32) × (Nat → Int64)) :=
  bd (F_X6_isSplit p0 t_desk_limit) (fun x1 => if x1 = 0 then (some ((-1 : Int32), t_desk_tree, t_deeds_now, t_deeds_last, a_t_deeds_desks, d_t_deeds_desks, t_deeds_desks_genus, t_deeds_desks_limit, q_t_deeds_desks, t_deeds_desks_size, t_deeds_desks_tree)) else (bd (F_X6_fits t_desk_tree p0) (fun x3 => if x3 = 0 then (some ((-5 : Int32), t_desk_tree, t_deeds_now, t_deeds_last, a_t_deeds_desks, d_t_deeds_desks, t_deeds_desks_genus, t_deeds_desks_limit, q_t_deeds_desks, t_deeds_desks_size, t_deeds_desks_tree)) else (bd (F_X6_with t_desk_tree p0) (fun x5 => bd (F_X0_settle d_t_deeds_desks q_t_deeds_desks a_t_deeds_desks t_deeds_desks_genus t_deeds_desks_size t_deeds_desks_limit t_deeds_desks_tree t_deeds_now t_deeds_last t_desk_genus t_desk_size t_desk_limit x5 a_t_desk_powers) (fun x6 => bd (F_X6_sizeOf x5) (fun x7 => some (x7, x5, (x6.1), (x6.2.1), (x6.2.2.1), (x6.2.2.2.1), (x6.2.2.2.2.1), (x6.2.2.2.2.2.1), (x6.2.2.2.2.2.2.1), (x6.2.2.2.2.2.2.2.1), (x6.2.2.2.2.2.2.2.2)))))))))

/-! X8_join -/
noncomputable def F_X8_join (d_t_deeds_desks : Nat → Nat) (q_t_deeds_desks : Nat → Nat) (a_t_deeds_desks : Nat → Nat → Int32) (t_deeds_desks_genus : Nat → Int32) (t_deeds_desks_size : Nat → Int32) (t_deeds_desks_limit : Nat → Int32) (t_deeds_desks_tree : Nat → Int64) (t_desk_genus : Int32) (t_desk_size : Int32) (t_desk_limit : Int32) (t_desk_tree : Int64) (t_deeds_now : Int32) (t_deeds_last : Int32) (a_t_desk_powers : Nat → Int32) (p0 : Int32) : Option (Int32 × Int64 × Int32 × Int32 × (Nat → Nat → Int32) × (Nat → Nat) × (Nat → Int32) × (Nat → Int32) × (Nat → Nat) × (Nat → Int32) × (Nat → Int64)) :=
  bd (F_X6_isSplit p0 t_desk_limit) (fun x1 => if x1 = 0 then (some ((-1 : Int32), t_desk_tree, t_deeds_now, t_deeds_last, a_t_deeds_desks, d_t_deeds_desks, t_deeds_desks_genus, t_deeds_desks_limit, q_t_deeds_desks, t_deeds_desks_size, t_deeds_desks_tree)) else (bd (F_X6_has t_desk_tree p0) (fun x3 => if x3 = 0 then (some ((-5 : Int32), t_desk_tree, t_deeds_now, t_deeds_last, a_t_deeds_desks, d_t_deeds_desks, t_deeds_desks_genus, t_deeds_desks_limit, q_t_deeds_desks, t_deeds_desks_size, t_deeds_desks_tree)) else (bd (F_X6_without t_desk_tree p0) (fun x5 => bd (F_X0_settle d_t_deeds_desks q_t_deeds_desks a_t_deeds_desks t_deeds_desks_genus t_deeds_desks_size t_deeds_desks_limit t_deeds_desks_tree t_deeds_now t_deeds_last t_desk_genus t_desk_size t_desk_limit x5 a_t_desk_powers) (fun x6 => bd (F_X6_sizeOf x5) (fun x7 => some (x7, x5, (x6.1), (x6.2.1), (x6.2.2.1), (x6.2.2.2.1), (x6.2.2.2.2.1), (x6.2.2.2.2.2.1), (x6.2.2.2.2.2.2.1), (x6.2.2.2.2.2.2.2.1), (x6.2.2.2.2.2.2.2.2)))))))))

/-! X8_splitAt -/
noncomputable def F_X8_splitAt (t_desk_tree : Int64) (p0 : Int32) : Option (Int32) :=
  if 0 ≤ p0 then (bd (F_X6_nth t_desk_tree p0) (fun x2 => if x2 = (-1 : Int32) then (some (-2 : Int32)) else (some x2))) else (some (-1 : Int32))

/-! X8_may -/
noncomputable def F_X8_may (t_desk_limit : Int32) (t_desk_tree : Int64) (p0 : Int32) : Option (Int32) :=
  bd (F_X6_isSplit p0 t_desk_limit) (fun x1 => if x1 = 0 then (some (-1 : Int32)) else (bd (F_X6_fits t_desk_tree p0) (fun x3 => if x3 = 0 then (some (0 : Int32)) else (some (1 : Int32)))))

/-! X8_valence -/
noncomputable def J_X8_valence_41 (t_desk_limit : Int32) (t_desk_tree : Int64) (p0 : Int32)  : Option (Int32) :=
  bd (F_X6_under p0 t_desk_limit) (fun x1 => bd (F_X6_leavesAt t_desk_tree x1) (fun x2 => bd (F_J6_bitCount_0f7a4 x2) (fun x3 => bd (F_X6_edgesDown t_desk_tree x1) (fun x4 => some ((x3 + x4) + (1 : Int32))))))
noncomputable def J_X8_valence_20 (t_desk_limit : Int32) (t_desk_tree : Int64) (p0 : Int32)  : Option (Int32) :=
  if p0 = 0 then (J_X8_valence_41 t_desk_limit t_desk_tree p0) else (bd (F_X6_has t_desk_tree p0) (fun x6 => if x6 = 0 then (some (-5 : Int32)) else (J_X8_valence_41 t_desk_limit t_desk_tree p0)))
noncomputable def F_X8_valence (t_desk_limit : Int32) (t_desk_tree : Int64) (p0 : Int32) : Option (Int32) :=
  if p0 = 0 then (J_X8_valence_20 t_desk_limit t_desk_tree p0) else (bd (F_X6_isSplit p0 t_desk_limit) (fun x9 => if x9 = 0 then (some (-1 : Int32)) else (J_X8_valence_20 t_desk_limit t_desk_tree p0)))

/-! X8_isSplitCount -/
noncomputable def F_X8_isSplitCount (p0 : Int32) : Option (Int32) :=
  if p0 < 0 then (some (0 : Int32)) else (if (9 : Int32) < p0 then (some (0 : Int32)) else (some (1 : Int32)))

/-! X8_trees -/
noncomputable def F_X8_trees (p0 : Int32) (p1 : Int32) : Option (Int32) :=
  bd (F_X6_isLeafCount p0) (fun x1 => if x1 = 0 then (some (-1 : Int32)) else (bd (F_X8_isSplitCount p1) (fun x3 => if x3 = 0 then (some (-1 : Int32)) else (bd (F_X6_countTrees p0 p1) (fun x5 => some x5)))))

/-! X8_tree -/
noncomputable def F_X8_tree (p0 : Int32) (p1 : Int32) (p2 : Int32) (p3 : Int32) : Option (Int32) :=
  bd (F_X6_isLeafCount p0) (fun x1 => if x1 = 0 then (some (-1 : Int32)) else (bd (F_X8_isSplitCount p1) (fun x3 => if x3 = 0 then (some (-1 : Int32)) else (if p2 < 0 then (some (-1 : Int32)) else (if 0 ≤ p3 then (bd (F_X6_treeAt p0 p1 p2) (fun x7 => bd (F_X6_nth x7 p3) (fun x8 => if x8 = (-1 : Int32) then (some (-2 : Int32)) else (some x8)))) else (some (-1 : Int32)))))))

/-! X8_forget -/
noncomputable def F_X8_forget (d_t_deeds_desks : Nat → Nat) (q_t_deeds_desks : Nat → Nat) (a_t_deeds_desks : Nat → Nat → Int32) (t_deeds_desks_genus : Nat → Int32) (t_deeds_desks_size : Nat → Int32) (t_deeds_desks_limit : Nat → Int32) (t_deeds_desks_tree : Nat → Int64) (t_desk_genus : Int32) (t_desk_size : Int32) (t_desk_limit : Int32) (t_desk_tree : Int64) (t_deeds_now : Int32) (t_deeds_last : Int32) (a_t_desk_powers : Nat → Int32) (p0 : Int32) : Option (Int32 × Int32 × Int64 × Int32 × Int32 × (Nat → Nat → Int32) × (Nat → Nat) × (Nat → Int32) × (Nat → Int32) × (Nat → Nat) × (Nat → Int32) × (Nat → Int64)) :=
  if p0 < 0 then (some ((-1 : Int32), t_desk_limit, t_desk_tree, t_deeds_now, t_deeds_last, a_t_deeds_desks, d_t_deeds_desks, t_deeds_desks_genus, t_deeds_desks_limit, q_t_deeds_desks, t_deeds_desks_size, t_deeds_desks_tree)) else (if p0 < t_desk_limit then (if (3 : Int32) < t_desk_limit then (bd (F_X6_forgetLeaf t_desk_tree t_desk_limit p0) (fun x4 => bd (F_X0_settle d_t_deeds_desks q_t_deeds_desks a_t_deeds_desks t_deeds_desks_genus t_deeds_desks_size t_deeds_desks_limit t_deeds_desks_tree t_deeds_now t_deeds_last t_desk_genus t_desk_size (t_desk_limit - (1 : Int32)) x4 a_t_desk_powers) (fun x5 => bd (F_X6_sizeOf x4) (fun x6 => some (x6, (t_desk_limit - (1 : Int32)), x4, (x5.1), (x5.2.1), (x5.2.2.1), (x5.2.2.2.1), (x5.2.2.2.2.1), (x5.2.2.2.2.2.1), (x5.2.2.2.2.2.2.1), (x5.2.2.2.2.2.2.2.1), (x5.2.2.2.2.2.2.2.2)))))) else (some ((-5 : Int32), t_desk_limit, t_desk_tree, t_deeds_now, t_deeds_last, a_t_deeds_desks, d_t_deeds_desks, t_deeds_desks_genus, t_deeds_desks_limit, q_t_deeds_desks, t_deeds_desks_size, t_deeds_desks_tree))) else (some ((-1 : Int32), t_desk_limit, t_desk_tree, t_deeds_now, t_deeds_last, a_t_deeds_desks, d_t_deeds_desks, t_deeds_desks_genus, t_deeds_desks_limit, q_t_deeds_desks, t_deeds_desks_size, t_deeds_desks_tree)))

/-! X8_numberOfNode -/
noncomputable def K_X8_numberOfNode_107_128 (a_t_numbers_keys : Nat → Int64) (a_t_numbers_aboves : Nat → Int64) (vK107_128_0 : Int32) (vK107_128_1 : Int32) (vK107_128_2 : Int64) : Option (Int64 × (Nat → Int64) × (Nat → Int64) × Int32 × Int32 × Int64) :=
  bd (F_X3_keyFor vK107_128_0 vK107_128_1 vK107_128_2 (0 : Int32)) (fun x5 => bd (F_X3_aboveOf a_t_numbers_keys a_t_numbers_aboves x5) (fun x6 => some ((x6.1), (x6.2.1), (x6.2.2), vK107_128_0, vK107_128_1, vK107_128_2)))
noncomputable def B_X8_numberOfNode_107 (vJ51_1 : Int32) (kk107_128 : Int32 → Int32 → Int64 → Option (Int64 × (Nat → Int64) × (Nat → Int64) × Int32 × Int32 × Int64)) (vL107_0 : Int32) (vL107_1 : Int32) (vL107_2 : Int64) (vL107_3 : Int32) (ag107 : Int32 → Int32 → Int64 → Int32 → Option (Int64 × (Nat → Int64) × (Nat → Int64) × Int32 × Int32 × Int64)) : Option (Int64 × (Nat → Int64) × (Nat → Int64) × Int32 × Int32 × Int64) :=
  if vJ51_1 ≤ vL107_3 then (kk107_128 vL107_0 vL107_1 vL107_2) else (bd (F_X3_add vL107_0 vL107_1 vL107_2 (0 : Int32)) (fun x8 => ag107 (x8.1) (x8.2.1) (x8.2.2) (vL107_3 + (1 : Int32))))
noncomputable def K_X8_numberOfNode_61_104 (a_t_numbers_keys : Nat → Int64) (a_t_numbers_aboves : Nat → Int64) (vJ51_1 : Int32) (vK61_104_0 : Int32) (vK61_104_1 : Int32) (vK61_104_2 : Int64) : Option (Int64 × (Nat → Int64) × (Nat → Int64) × Int32 × Int32 × Int64) :=
  wq4 (B_X8_numberOfNode_107 vJ51_1 (K_X8_numberOfNode_107_128 a_t_numbers_keys a_t_numbers_aboves)) FU vK61_104_0 vK61_104_1 vK61_104_2 (0 : Int32)
noncomputable def B_X8_numberOfNode_61 (t_desk_size : Int32) (a_t_desk_powers : Nat → Int32) (vJ51_0 : Int32) (kk61_104 : Int32 → Int32 → Int64 → Option (Int64 × (Nat → Int64) × (Nat → Int64) × Int32 × Int32 × Int64)) (vL61_0 : Int32) (vL61_1 : Int32) (vL61_2 : Int64) (vL61_3 : Int32) (ag61 : Int32 → Int32 → Int64 → Int32 → Option (Int64 × (Nat → Int64) × (Nat → Int64) × Int32 × Int32 × Int64)) : Option (Int64 × (Nat → Int64) × (Nat → Int64) × Int32 × Int32 × Int64) :=
  if t_desk_size ≤ vL61_3 then (kk61_104 vL61_0 vL61_1 vL61_2) else (if ((vJ51_0 >>> (vL61_3 &&& 31)) &&& (1 : Int32)) = 0 then (ag61 vL61_0 vL61_1 vL61_2 (vL61_3 + (1 : Int32))) else (bd (F_X1_powerAt a_t_desk_powers vL61_3) (fun x11 => bd (F_X3_add vL61_0 vL61_1 vL61_2 x11) (fun x12 => ag61 (x12.1) (x12.2.1) (x12.2.2) (vL61_3 + (1 : Int32))))))
noncomputable def J_X8_numberOfNode_51 (t_desk_size : Int32) (a_t_desk_powers : Nat → Int32) (a_t_numbers_keys : Nat → Int64) (a_t_numbers_aboves : Nat → Int64) (vJ51_0 : Int32) (vJ51_1 : Int32) : Option (Int64 × (Nat → Int64) × (Nat → Int64) × Int32 × Int32 × Int64) :=
  bd (F_X3_begin) (fun x4 => wq4 (B_X8_numberOfNode_61 t_desk_size a_t_desk_powers vJ51_0 (K_X8_numberOfNode_61_104 a_t_numbers_keys a_t_numbers_aboves vJ51_1)) FU (x4.1) (x4.2.1) (x4.2.2) (0 : Int32))
noncomputable def F_X8_numberOfNode (t_desk_size : Int32) (t_desk_limit : Int32) (t_desk_tree : Int64) (a_t_desk_powers : Nat → Int32) (a_t_numbers_keys : Nat → Int64) (a_t_numbers_aboves : Nat → Int64) (p0 : Int32) : Option (Int64 × (Nat → Int64) × (Nat → Int64) × Int32 × Int32 × Int64) :=
  bd (F_X6_under p0 t_desk_limit) (fun x1 => bd (F_X6_leavesAt t_desk_tree x1) (fun x2 => bd (F_X6_edgesDown t_desk_tree x1) (fun x3 => if p0 = 0 then (J_X8_numberOfNode_51 t_desk_size a_t_desk_powers a_t_numbers_keys a_t_numbers_aboves (x2 ||| (1 : Int32)) x3) else (J_X8_numberOfNode_51 t_desk_size a_t_desk_powers a_t_numbers_keys a_t_numbers_aboves x2 (x3 + (1 : Int32))))))

/-! X8_onTree -/
noncomputable def K_X8_onTree_41_72  (vK41_72_0 : Nat → Int64) (vK41_72_1 : Nat → Int64) (vK41_72_2 : Int32) (vK41_72_3 : Int32) (vK41_72_4 : Int64) (vK41_72_5 : Int64) : Option (Int64 × (Nat → Int64) × (Nat → Int64) × Int32 × Int32 × Int64) :=
  some (vK41_72_5, vK41_72_0, vK41_72_1, vK41_72_2, vK41_72_3, vK41_72_4)
noncomputable def B_X8_onTree_41 (t_desk_size : Int32) (t_desk_limit : Int32) (t_desk_tree : Int64) (a_t_desk_powers : Nat → Int32) (x3 : Int32) (kk41_72 : (Nat → Int64) → (Nat → Int64) → Int32 → Int32 → Int64 → Int64 → Option (Int64 × (Nat → Int64) × (Nat → Int64) × Int32 × Int32 × Int64)) (vL41_0 : Nat → Int64) (vL41_1 : Nat → Int64) (vL41_2 : Int32) (vL41_3 : Int32) (vL41_4 : Int64) (vL41_5 : Int64) (vL41_6 : Int32) (ag41 : (Nat → Int64) → (Nat → Int64) → Int32 → Int32 → Int64 → Int64 → Int32 → Option (Int64 × (Nat → Int64) × (Nat → Int64) × Int32 × Int32 × Int64)) : Option (Int64 × (Nat → Int64) × (Nat → Int64) × Int32 × Int32 × Int64) :=
  if x3 ≤ vL41_6 then (kk41_72 vL41_0 vL41_1 vL41_2 vL41_3 vL41_4 vL41_5) else (bd (F_X6_nth t_desk_tree vL41_6) (fun x5 => bd (F_X8_numberOfNode t_desk_size t_desk_limit t_desk_tree a_t_desk_powers vL41_0 vL41_1 x5) (fun x6 => ag41 (x6.2.1) (x6.2.2.1) (x6.2.2.2.1) (x6.2.2.2.2.1) (x6.2.2.2.2.2) (vL41_5 * (x6.1)) (vL41_6 + (1 : Int32)))))
noncomputable def F_X8_onTree (t_desk_size : Int32) (t_desk_limit : Int32) (t_desk_tree : Int64) (t_numbers_size : Int32) (t_numbers_sum : Int32) (t_numbers_gathered : Int64) (a_t_desk_powers : Nat → Int32) (a_t_numbers_keys : Nat → Int64) (a_t_numbers_aboves : Nat → Int64) : Option (Int64 × (Nat → Int64) × (Nat → Int64) × Int32 × Int32 × Int64) :=
  if t_desk_size = t_desk_limit then (bd (F_X8_numberOfNode t_desk_size t_desk_limit t_desk_tree a_t_desk_powers a_t_numbers_keys a_t_numbers_aboves (0 : Int32)) (fun x2 => bd (F_X6_sizeOf t_desk_tree) (fun x3 => wq7 (B_X8_onTree_41 t_desk_size t_desk_limit t_desk_tree a_t_desk_powers x3 K_X8_onTree_41_72) FU (x2.2.1) (x2.2.2.1) (x2.2.2.2.1) (x2.2.2.2.2.1) (x2.2.2.2.2.2) (x2.1) (0 : Int32)))) else (some ((-9223372036854775808 : Int64), a_t_numbers_keys, a_t_numbers_aboves, t_numbers_size, t_numbers_sum, t_numbers_gathered))

/-! X8_undo -/
noncomputable def F_X8_undo (a_t_deeds_desks : Nat → Nat → Int32) (t_deeds_desks_genus : Nat → Int32) (t_deeds_desks_size : Nat → Int32) (t_deeds_desks_limit : Nat → Int32) (t_deeds_desks_tree : Nat → Int64) (t_deeds_now : Int32) (t_desk_genus : Int32) (t_desk_size : Int32) (t_desk_limit : Int32) (t_desk_tree : Int64) (a_t_desk_powers : Nat → Int32) : Option (Int32 × (Nat → Int32) × Int32 × Int32 × Int32 × Int32 × Int64) :=
  bd (F_X0_undoable t_deeds_now) (fun x1 => if x1 = 0 then (some ((-5 : Int32), a_t_desk_powers, t_deeds_now, t_desk_genus, t_desk_size, t_desk_limit, t_desk_tree)) else (bd (F_X0_stepBack a_t_deeds_desks t_deeds_desks_genus t_deeds_desks_size t_deeds_desks_limit t_deeds_desks_tree t_deeds_now a_t_desk_powers) (fun x3 => bd (F_X0_undoable (x3.2.1)) (fun x4 => some (x4, (x3.1), (x3.2.1), (x3.2.2.1), (x3.2.2.2.1), (x3.2.2.2.2.1), (x3.2.2.2.2.2))))))

/-! X8_again -/
noncomputable def F_X8_again (a_t_deeds_desks : Nat → Nat → Int32) (t_deeds_desks_genus : Nat → Int32) (t_deeds_desks_size : Nat → Int32) (t_deeds_desks_limit : Nat → Int32) (t_deeds_desks_tree : Nat → Int64) (t_deeds_now : Int32) (t_deeds_last : Int32) (t_desk_genus : Int32) (t_desk_size : Int32) (t_desk_limit : Int32) (t_desk_tree : Int64) (a_t_desk_powers : Nat → Int32) : Option (Int32 × (Nat → Int32) × Int32 × Int32 × Int32 × Int32 × Int64) :=
  bd (F_X0_repeatable t_deeds_now t_deeds_last) (fun x1 => if x1 = 0 then (some ((-5 : Int32), a_t_desk_powers, t_deeds_now, t_desk_genus, t_desk_size, t_desk_limit, t_desk_tree)) else (bd (F_X0_stepOn a_t_deeds_desks t_deeds_desks_genus t_deeds_desks_size t_deeds_desks_limit t_deeds_desks_tree t_deeds_now t_deeds_last a_t_desk_powers) (fun x3 => bd (F_X0_repeatable (x3.2.1) t_deeds_last) (fun x4 => some (x4, (x3.1), (x3.2.1), (x3.2.2.1), (x3.2.2.2.1), (x3.2.2.2.2.1), (x3.2.2.2.2.2))))))

/-! X8_feed -/
noncomputable def K_X8_feed_33_60  (vK33_60_0 : Nat → Int32) (vK33_60_1 : Int32) : Option (Int32 × (Nat → Int32) × Int32) :=
  some (vK33_60_1, vK33_60_0, vK33_60_1)
noncomputable def B_X8_feed_33 (p0 : Int32) (kk33_60 : (Nat → Int32) → Int32 → Option (Int32 × (Nat → Int32) × Int32)) (vL33_0 : Nat → Int32) (vL33_1 : Int32) (vL33_2 : Int32) (ag33 : (Nat → Int32) → Int32 → Int32 → Option (Int32 × (Nat → Int32) × Int32)) : Option (Int32 × (Nat → Int32) × Int32) :=
  if vL33_2 < 0 then (kk33_60 vL33_0 vL33_1) else (bd (F_X7_add vL33_1 vL33_0 ((iush p0 ((8 : Int32) * vL33_2)) &&& (255 : Int32))) (fun x5 => ag33 (x5.1) (x5.2) (vL33_2 + (-1 : Int32))))
noncomputable def F_X8_feed (t_tape_size : Int32) (a_t_tape_bytes : Nat → Int32) (p0 : Int32) (p1 : Int32) : Option (Int32 × (Nat → Int32) × Int32) :=
  if p1 < (1 : Int32) then (some ((-1 : Int32), a_t_tape_bytes, t_tape_size)) else (if p1 ≤ (4 : Int32) then (if (t_tape_size + p1) ≤ (60 : Int32) then (wq3 (B_X8_feed_33 p0 K_X8_feed_33_60) FU a_t_tape_bytes t_tape_size (p1 - (1 : Int32))) else (some ((-3 : Int32), a_t_tape_bytes, t_tape_size))) else (some ((-1 : Int32), a_t_tape_bytes, t_tape_size)))

/-! X8_wipe -/
noncomputable def F_X8_wipe (t_tape_size : Int32) : Option (Int32 × Int32) :=
  some (t_tape_size, (0 : Int32))

/-! X8_read -/
noncomputable def F_X8_read (d_t_deeds_desks : Nat → Nat) (q_t_deeds_desks : Nat → Nat) (a_t_deeds_desks : Nat → Nat → Int32) (t_deeds_desks_genus : Nat → Int32) (t_deeds_desks_size : Nat → Int32) (t_deeds_desks_limit : Nat → Int32) (t_deeds_desks_tree : Nat → Int64) (t_reader_refused : Int32) (t_desk_genus : Int32) (t_desk_size : Int32) (t_desk_limit : Int32) (t_desk_tree : Int64) (a_t_reader_told_powers : Nat → Int32) (a_t_desk_powers : Nat → Int32) (t_tape_size : Int32) (a_t_tape_bytes : Nat → Int32) (a_t_reader_causes : Nat → Int32) (t_deeds_now : Int32) (t_deeds_last : Int32) : Option (Int32 × (Nat → Int32) × (Nat → Int32) × (Nat → Int32) × Int32 × Int32 × Int32 × Int32 × Int32 × Int32 × Int64 × Int32 × Int32 × Int32 × Int64 × Int32 × Int32 × Int32 × (Nat → Nat → Int32) × (Nat → Nat) × (Nat → Int32) × (Nat → Int32) × (Nat → Nat) × (Nat → Int32) × (Nat → Int64)) :=
  bd (F_X4_readOver t_reader_refused t_desk_genus t_desk_size t_desk_limit t_desk_tree a_t_reader_told_powers a_t_desk_powers t_tape_size a_t_tape_bytes a_t_reader_causes) (fun x1 => bd (F_X0_settle d_t_deeds_desks q_t_deeds_desks a_t_deeds_desks t_deeds_desks_genus t_deeds_desks_size t_deeds_desks_limit t_deeds_desks_tree t_deeds_now t_deeds_last (x1.2.2.2.2.2.2.2.1) (x1.2.2.2.2.2.2.2.2.1) (x1.2.2.2.2.2.2.2.2.2.1) (x1.2.2.2.2.2.2.2.2.2.2.1) (x1.2.2.1)) (fun x2 => some ((x1.1), (x1.2.1), (x1.2.2.1), (x1.2.2.2.1), (x1.2.2.2.2.1), (x1.2.2.2.2.2.1), (x1.2.2.2.2.2.2.1), (x1.2.2.2.2.2.2.2.1), (x1.2.2.2.2.2.2.2.2.1), (x1.2.2.2.2.2.2.2.2.2.1), (x1.2.2.2.2.2.2.2.2.2.2.1), (x1.2.2.2.2.2.2.2.2.2.2.2.1), (x1.2.2.2.2.2.2.2.2.2.2.2.2.1), (x1.2.2.2.2.2.2.2.2.2.2.2.2.2.1), (x1.2.2.2.2.2.2.2.2.2.2.2.2.2.2), (0 : Int32), (x2.1), (x2.2.1), (x2.2.2.1), (x2.2.2.2.1), (x2.2.2.2.2.1), (x2.2.2.2.2.2.1), (x2.2.2.2.2.2.2.1), (x2.2.2.2.2.2.2.2.1), (x2.2.2.2.2.2.2.2.2))))

/-! X8_why -/
noncomputable def F_X8_why (t_reader_refused : Int32) (a_t_reader_causes : Nat → Int32) (p0 : Int32) (p1 : Int32) : Option (Int32) :=
  if p0 < 0 then (some (-1 : Int32)) else (if (2 : Int32) < p0 then (some (-1 : Int32)) else (if p1 < 0 then (some (-1 : Int32)) else (if p1 ≤ (1 : Int32) then (if t_reader_refused = 0 then (some (-2 : Int32)) else (bd (F_X4_causeAt a_t_reader_causes p0 p1) (fun x6 => some x6))) else (some (-1 : Int32)))))

/-! X8_spell -/
noncomputable def F_X8_spell (t_speller_size : Int32) (t_desk_genus : Int32) (t_desk_size : Int32) (t_desk_limit : Int32) (t_desk_tree : Int64) (a_t_speller_bytes : Nat → Int32) (a_t_desk_powers : Nat → Int32) (p0 : Int32) : Option (Int32 × (Nat → Int32) × Int32) :=
  if (-1 : Int32) ≤ p0 then (bd (F_X5_tell t_desk_genus t_desk_size t_desk_limit t_desk_tree a_t_speller_bytes a_t_desk_powers) (fun x2 => if p0 = (-1 : Int32) then (some ((x2.2), (x2.1), (x2.2))) else (bd (F_X5_byteAt (x2.2) (x2.1) p0) (fun x4 => some (x4, (x2.1), (x2.2)))))) else (some ((-1 : Int32), a_t_speller_bytes, t_speller_size))

/-! X8_holderAt -/
noncomputable def F_X8_holderAt (p0 : Int32) : Option (Nat) :=
  if p0 < 0 then (some 6) else (if (6 : Int32) ≤ p0 then (some 6) else (ck p0 6 (some p0.toNatClampNeg)))

/-! X8_hold -/
noncomputable def F_X8_hold (t_holders_sort : Nat → Int32) (t_holders_tree : Nat → Int64) (t_holders_limit : Nat → Int32) (t_holders_above : Nat → Int64) (t_desk_genus : Int32) (t_desk_size : Int32) (t_desk_limit : Int32) (t_desk_tree : Int64) (t_numbers_size : Int32) (t_numbers_sum : Int32) (t_numbers_gathered : Int64) (a_t_desk_powers : Nat → Int32) (a_t_numbers_keys : Nat → Int64) (a_t_numbers_aboves : Nat → Int64) (p0 : Int32) (p1 : Int32) : Option (Int32 × (Nat → Int64) × (Nat → Int64) × Int32 × Int32 × Int64 × (Nat → Int64) × (Nat → Int32) × (Nat → Int32) × (Nat → Int64)) :=
  bd (F_X8_holderAt p0) (fun x1 => if x1 = 6 then (some ((-1 : Int32), a_t_numbers_keys, a_t_numbers_aboves, t_numbers_size, t_numbers_sum, t_numbers_gathered, t_holders_above, t_holders_limit, t_holders_sort, t_holders_tree)) else (if p1 < 0 then (some ((-1 : Int32), a_t_numbers_keys, a_t_numbers_aboves, t_numbers_size, t_numbers_sum, t_numbers_gathered, t_holders_above, t_holders_limit, t_holders_sort, t_holders_tree)) else (if p1 ≤ (1 : Int32) then (if p1 = 0 then (bd (F_X8_number t_numbers_size t_numbers_sum t_numbers_gathered t_desk_genus t_desk_size a_t_desk_powers a_t_numbers_keys a_t_numbers_aboves (0 : Int32)) (fun x7 => bd (F_X2_holdNumber (x7.1)) (fun x8 => some (t_desk_size, (x7.2.1), (x7.2.2.1), (x7.2.2.2.1), (x7.2.2.2.2.1), (x7.2.2.2.2.2), (va_up t_holders_above x1 (x8.2)), t_holders_limit, (va_up t_holders_sort x1 (x8.1)), t_holders_tree)))) else (bd (F_X2_holdTree t_desk_tree t_desk_limit) (fun x5 => bd (F_X6_sizeOf t_desk_tree) (fun x6 => some (x6, a_t_numbers_keys, a_t_numbers_aboves, t_numbers_size, t_numbers_sum, t_numbers_gathered, t_holders_above, (va_up t_holders_limit x1 (x5.2.2)), (va_up t_holders_sort x1 (x5.1)), (va_up t_holders_tree x1 (x5.2.1))))))) else (some ((-1 : Int32), a_t_numbers_keys, a_t_numbers_aboves, t_numbers_size, t_numbers_sum, t_numbers_gathered, t_holders_above, t_holders_limit, t_holders_sort, t_holders_tree)))))

/-! X8_lose -/
noncomputable def F_X8_lose (t_holders_sort : Nat → Int32) (p0 : Int32) : Option (Int32 × (Nat → Int32)) :=
  bd (F_X8_holderAt p0) (fun x1 => if x1 = 6 then (some ((-1 : Int32), t_holders_sort)) else (some ((t_holders_sort x1), (va_up t_holders_sort x1 (0 : Int32)))))

/-! X8_taken -/
noncomputable def F_X8_taken (t_holders_sort : Nat → Int32) (t_holders_tree : Nat → Int64) (t_holders_limit : Nat → Int32) (t_holders_above : Nat → Int64) (p0 : Int32) (p1 : Int32) : Option (Int32) :=
  bd (F_X8_holderAt p0) (fun x1 => if x1 = 6 then (some (-1 : Int32)) else (if p1 < 0 then (some (-1 : Int32)) else (if p1 ≤ (3 : Int32) then (if (t_holders_sort x1) = 0 then (some (-11 : Int32)) else (bd (F_X2_isOfKind (t_holders_sort x1) (t_holders_tree x1) (t_holders_limit x1) p1) (fun x5 => if x5 = 0 then (some (-12 : Int32)) else (bd (F_X2_takenFor (t_holders_tree x1) (t_holders_limit x1) (t_holders_above x1) p1) (fun x7 => some x7))))) else (some (-1 : Int32)))))

/-! X8_refusalOfN -/
noncomputable def F_X8_refusalOfN  : Option (Int32) :=
  some (-1 : Int32)

/-! X8_refusalOf -/
noncomputable def F_X8_refusalOf (p0_sort : Int32) (p1 : Int32) : Option (Int32) :=
  if p0_sort = 0 then (some (-11 : Int32)) else (if p0_sort = p1 then (some (0 : Int32)) else (some (-12 : Int32)))

/-! X8_common -/
noncomputable def F_X8_common (t_holders_sort : Nat → Int32) (t_holders_tree : Nat → Int64) (t_holders_limit : Nat → Int32) (t_desk_limit : Int32) (t_desk_tree : Int64) (p0 : Int32) : Option (Int32) :=
  bd (F_X8_holderAt p0) (fun x1 => if x1 = 6 then (bd (F_X8_refusalOfN) (fun x6 => some x6)) else (bd (F_X8_refusalOf (t_holders_sort x1) (2 : Int32)) (fun x2 => if x2 = 0 then (if (t_holders_limit x1) = t_desk_limit then (bd (F_X6_sizeOf ((t_holders_tree x1) &&& t_desk_tree)) (fun x5 => some x5)) else (some (-5 : Int32))) else (some x2))))

/-! X8_row -/
noncomputable def F_X8_row (a_t_holders : Nat → Nat → Int32) (t_holders_sort : Nat → Int32) (t_holders_size : Nat → Int32) (p0 : Int32) (p1 : Int32) : Option (Int32 × (Nat → Nat → Int32) × (Nat → Int32) × (Nat → Int32)) :=
  bd (F_X8_holderAt p0) (fun x1 => if x1 = 6 then (some ((-1 : Int32), a_t_holders, t_holders_size, t_holders_sort)) else (if p1 ≤ (20 : Int32) then (if 0 ≤ p1 then (bd (F_X2_holdRow (a_t_holders x1) p1) (fun x4 => some (p1, (va_up a_t_holders x1 (x4.1)), (va_up t_holders_size x1 (x4.2.2)), (va_up t_holders_sort x1 (x4.2.1))))) else (some ((-14 : Int32), a_t_holders, t_holders_size, t_holders_sort))) else (some ((-1 : Int32), a_t_holders, t_holders_size, t_holders_sort))))

/-! X8_set -/
noncomputable def F_X8_set (a_t_holders : Nat → Nat → Int32) (t_holders_sort : Nat → Int32) (t_holders_size : Nat → Int32) (p0 : Int32) (p1 : Int32) (p2 : Int32) : Option (Int32 × (Nat → Nat → Int32)) :=
  bd (F_X8_holderAt p0) (fun x1 => if x1 = 6 then (bd (F_X8_refusalOfN) (fun x7 => some (x7, a_t_holders))) else (bd (F_X8_refusalOf (t_holders_sort x1) (3 : Int32)) (fun x2 => if x2 = 0 then (bd (F_X2_hasPlace (t_holders_size x1) p1) (fun x4 => if x4 = 0 then (some ((-13 : Int32), a_t_holders)) else (ck p1 20 (some ((1 : Int32), (va_up a_t_holders x1 (upd (a_t_holders x1) p1.toNatClampNeg p2))))))) else (some (x2, a_t_holders)))))

/-! X8_get -/
noncomputable def F_X8_get (a_t_holders : Nat → Nat → Int32) (t_holders_sort : Nat → Int32) (t_holders_size : Nat → Int32) (p0 : Int32) (p1 : Int32) : Option (Int64) :=
  bd (F_X8_holderAt p0) (fun x1 => if x1 = 6 then (some (-9223372036854775808 : Int64)) else (if (t_holders_sort x1) = (3 : Int32) then (bd (F_X2_hasPlace (t_holders_size x1) p1) (fun x3 => if x3 = 0 then (some (-9223372036854775808 : Int64)) else (ck p1 20 (some ((a_t_holders x1) p1.toNatClampNeg).toInt64)))) else (some (-9223372036854775808 : Int64))))

/-! X8_judge -/
noncomputable def F_X8_judge (a_t_holders : Nat → Nat → Int32) (t_holders_sort : Nat → Int32) (t_holders_size : Nat → Int32) (t_desk_tree : Int64) (p0 : Int32) : Option (Int32) :=
  bd (F_X8_holderAt p0) (fun x1 => if x1 = 6 then (bd (F_X8_refusalOfN) (fun x6 => some x6)) else (bd (F_X8_refusalOf (t_holders_sort x1) (3 : Int32)) (fun x2 => if x2 = 0 then (bd (F_X2_firstUnlike (t_holders_size x1) (a_t_holders x1) t_desk_tree) (fun x4 => if x4 = (-1 : Int32) then (some (-2 : Int32)) else (some x4))) else (some x2))))

/-! X8_image -/
noncomputable def F_X8_image (t_desk_genus : Int32) (t_desk_size : Int32) (t_desk_limit : Int32) (t_desk_tree : Int64) (a_t_imageDesk_powers : Nat → Int32) (a_t_desk_powers : Nat → Int32) : Option (Int32 × (Nat → Int32) × Int32 × Int32 × Int32 × Int32 × Int64) :=
  bd (F_X1_copyFrom t_desk_genus t_desk_size t_desk_limit t_desk_tree a_t_imageDesk_powers a_t_desk_powers) (fun x1 => some (t_desk_size, (x1.1), (1 : Int32), (x1.2.1), (x1.2.2.1), (x1.2.2.2.1), (x1.2.2.2.2)))

/-! X8_restore -/
noncomputable def F_X8_restore (a_t_deeds_desks : Nat → Nat → Int32) (t_deeds_desks_genus : Nat → Int32) (t_deeds_desks_size : Nat → Int32) (t_deeds_desks_limit : Nat → Int32) (t_deeds_desks_tree : Nat → Int64) (t_imageKept : Int32) (t_desk_genus : Int32) (t_desk_size : Int32) (t_desk_limit : Int32) (t_desk_tree : Int64) (t_imageDesk_genus : Int32) (t_imageDesk_size : Int32) (t_imageDesk_limit : Int32) (t_imageDesk_tree : Int64) (a_t_desk_powers : Nat → Int32) (a_t_imageDesk_powers : Nat → Int32) (t_deeds_now : Int32) (t_deeds_last : Int32) : Option (Int32 × (Nat → Int32) × Int32 × Int32 × Int32 × Int64 × Int32 × Int32 × (Nat → Nat → Int32) × (Nat → Int32) × (Nat → Int32) × (Nat → Int32) × (Nat → Int64)) :=
  if t_imageKept = 0 then (some ((-5 : Int32), a_t_desk_powers, t_desk_genus, t_desk_size, t_desk_limit, t_desk_tree, t_deeds_now, t_deeds_last, a_t_deeds_desks, t_deeds_desks_genus, t_deeds_desks_limit, t_deeds_desks_size, t_deeds_desks_tree)) else (bd (F_X1_copyFrom t_imageDesk_genus t_imageDesk_size t_imageDesk_limit t_imageDesk_tree a_t_desk_powers a_t_imageDesk_powers) (fun x2 => bd (F_X0_startAnew a_t_deeds_desks t_deeds_desks_genus t_deeds_desks_size t_deeds_desks_limit t_deeds_desks_tree (x2.2.1) (x2.2.2.1) (x2.2.2.2.1) (x2.2.2.2.2) (x2.1)) (fun x3 => some ((x2.2.2.1), (x2.1), (x2.2.1), (x2.2.2.1), (x2.2.2.2.1), (x2.2.2.2.2), (x3.1), (x3.2.1), (x3.2.2.1), (x3.2.2.2.1), (x3.2.2.2.2.1), (x3.2.2.2.2.2.1), (x3.2.2.2.2.2.2)))))

/-! X8_count -/
noncomputable def F_X8_count (t_desk_genus : Int32) (t_desk_size : Int32) (t_desk_limit : Int32) (t_desk_tree : Int64) (t_deeds_now : Int32) (t_deeds_last : Int32) (t_tape_size : Int32) (p0 : Int32) : Option (Int32) :=
  if p0 = (0 : Int32) then (some t_desk_genus) else (if p0 = (1 : Int32) then (some t_desk_size) else (if p0 = (2 : Int32) then (some t_desk_limit) else (if p0 = (3 : Int32) then (bd (F_X6_sizeOf t_desk_tree) (fun x5 => some x5)) else (if p0 = (4 : Int32) then (bd (F_X0_undoable t_deeds_now) (fun x7 => some x7)) else (if p0 = (5 : Int32) then (bd (F_X0_repeatable t_deeds_now t_deeds_last) (fun x9 => some x9)) else (if p0 = (6 : Int32) then (some t_tape_size) else (some (-1 : Int32))))))))

/-! X9_in -/
noncomputable def F_X9_in (p0 : Int64) (p1 : Int64) (p2 : Int64) : Option (Int32) :=
  if (lg_cmp p0 p1) < 0 then (some (0 : Int32)) else (if 0 < (lg_cmp p0 p2) then (some (0 : Int32)) else (some (1 : Int32)))

/-! X9_common -/
noncomputable def K_X9_common_28_53  (vK28_53_0 : Int64) : Option (Int64) :=
  some vK28_53_0
noncomputable def B_X9_common_28  (kk28_53 : Int64 → Option (Int64)) (vL28_0 : Int64) (vL28_1 : Int64) (ag28 : Int64 → Int64 → Option (Int64)) : Option (Int64) :=
  if (lg_cmp vL28_1 (0 : Int64)) = 0 then (kk28_53 vL28_0) else (dvl vL28_1 (ag28 vL28_1 (vL28_0 - vL28_0 / vL28_1 * vL28_1)))
noncomputable def K_X9_common_28_53x1  (vK28_53_0 : Int64) : Option (Int64) :=
  some vK28_53_0
noncomputable def B_X9_common_28x1  (kk28_53 : Int64 → Option (Int64)) (vL28_0 : Int64) (vL28_1 : Int64) (ag28 : Int64 → Int64 → Option (Int64)) : Option (Int64) :=
  if (lg_cmp vL28_1 (0 : Int64)) = 0 then (kk28_53 vL28_0) else (dvl vL28_1 (ag28 vL28_1 (vL28_0 - vL28_0 / vL28_1 * vL28_1)))
noncomputable def J_X9_common_12 (p1 : Int64) (vJ12_0 : Int64) : Option (Int64) :=
  if 0 ≤ (lg_cmp p1 (0 : Int64)) then (wq2 (B_X9_common_28 K_X9_common_28_53) FU vJ12_0 p1) else (wq2 (B_X9_common_28x1 K_X9_common_28_53x1) FU vJ12_0 (-p1))
noncomputable def F_X9_common (p0 : Int64) (p1 : Int64) : Option (Int64) :=
  if 0 ≤ (lg_cmp p0 (0 : Int64)) then (J_X9_common_12 p1 p0) else (J_X9_common_12 p1 (-p0))

/-! X9_part -/
noncomputable def F_X9_part (p0 : Int64) (p1 : Int64) (p2 : Int32) : Option (Int64) :=
  bd (F_X9_common p0 p1) (fun x1 => if p2 = 0 then (dvl x1 (some (p0 / x1))) else (dvl x1 (some (p1 / x1))))

/-! X9_bits -/
noncomputable def K_X9_bits_4_24  (vK4_24_0 : Int32) : Option (Int32) :=
  some vK4_24_0
noncomputable def B_X9_bits_4 (p0 : Int32) (kk4_24 : Int32 → Option (Int32)) (vL4_0 : Int32) (vL4_1 : Int32) (ag4 : Int32 → Int32 → Option (Int32)) : Option (Int32) :=
  if (6 : Int32) ≤ vL4_1 then (kk4_24 vL4_0) else (ag4 (vL4_0 + ((p0 >>> (vL4_1 &&& 31)) &&& (1 : Int32))) (vL4_1 + (1 : Int32)))
noncomputable def F_X9_bits (p0 : Int32) : Option (Int32) :=
  wq2 (B_X9_bits_4 p0 K_X9_bits_4_24) FU (0 : Int32) (0 : Int32)

/-! X9_lays -/
noncomputable def K_X9_lays_75_112 (n_p0 : Nat) (p1 : Int32) (vK75_112_0 : Nat → Int32) : Option ((Nat → Int32)) :=
  ck (p1 + (15 : Int32)) n_p0 (some (upd vK75_112_0 (p1 + (15 : Int32)).toNatClampNeg (0 : Int32)))
noncomputable def B_X9_lays_75 (t_splits : Int32) (n_p0 : Nat) (a_t_tree : Nat → Int32) (p1 : Int32) (kk75_112 : (Nat → Int32) → Option ((Nat → Int32))) (vL75_0 : Nat → Int32) (vL75_1 : Int32) (ag75 : (Nat → Int32) → Int32 → Option ((Nat → Int32))) : Option ((Nat → Int32)) :=
  if (3 : Int32) ≤ vL75_1 then (kk75_112 vL75_0) else (if t_splits ≤ vL75_1 then (ck ((p1 + (12 : Int32)) + vL75_1) n_p0 (ag75 (upd vL75_0 ((p1 + (12 : Int32)) + vL75_1).toNatClampNeg (0 : Int32)) (vL75_1 + (1 : Int32)))) else (ck vL75_1 3 (ck ((p1 + (12 : Int32)) + vL75_1) n_p0 (ag75 (upd vL75_0 ((p1 + (12 : Int32)) + vL75_1).toNatClampNeg (a_t_tree vL75_1.toNatClampNeg)) (vL75_1 + (1 : Int32))))))
noncomputable def K_X9_lays_36_73 (t_splits : Int32) (n_p0 : Nat) (a_t_tree : Nat → Int32) (p1 : Int32) (vK36_73_0 : Nat → Int32) : Option ((Nat → Int32)) :=
  wq2 (B_X9_lays_75 t_splits n_p0 a_t_tree p1 (K_X9_lays_75_112 n_p0 p1)) FU vK36_73_0 (0 : Int32)
noncomputable def B_X9_lays_36 (t_marks : Int32) (n_p0 : Nat) (a_t_powers : Nat → Int32) (p1 : Int32) (kk36_73 : (Nat → Int32) → Option ((Nat → Int32))) (vL36_0 : Nat → Int32) (vL36_1 : Int32) (ag36 : (Nat → Int32) → Int32 → Option ((Nat → Int32))) : Option ((Nat → Int32)) :=
  if (8 : Int32) ≤ vL36_1 then (kk36_73 vL36_0) else (if t_marks ≤ vL36_1 then (ck ((p1 + (4 : Int32)) + vL36_1) n_p0 (ag36 (upd vL36_0 ((p1 + (4 : Int32)) + vL36_1).toNatClampNeg (0 : Int32)) (vL36_1 + (1 : Int32)))) else (ck vL36_1 8 (ck ((p1 + (4 : Int32)) + vL36_1) n_p0 (ag36 (upd vL36_0 ((p1 + (4 : Int32)) + vL36_1).toNatClampNeg (a_t_powers vL36_1.toNatClampNeg)) (vL36_1 + (1 : Int32))))))
noncomputable def F_X9_lays (t_genus : Int32) (t_marks : Int32) (t_leaves : Int32) (t_splits : Int32) (n_p0 : Nat) (a_p0 : Nat → Int32) (a_t_powers : Nat → Int32) (a_t_tree : Nat → Int32) (p1 : Int32) : Option ((Nat → Int32)) :=
  ck p1 n_p0 (ck (p1 + (1 : Int32)) n_p0 (ck (p1 + (2 : Int32)) n_p0 (ck (p1 + (3 : Int32)) n_p0 (wq2 (B_X9_lays_36 t_marks n_p0 a_t_powers p1 (K_X9_lays_36_73 t_splits n_p0 a_t_tree p1)) FU (upd (upd (upd (upd a_p0 p1.toNatClampNeg t_genus) (p1 + (1 : Int32)).toNatClampNeg t_marks) (p1 + (2 : Int32)).toNatClampNeg t_leaves) (p1 + (3 : Int32)).toNatClampNeg t_splits) (0 : Int32)))))

/-! X9_takes -/
noncomputable def K_X9_takes_63_88 (a_p0 : Nat → Int32) (p1 : Int32) (vK36_61_0 : Nat → Int32) (vK63_88_0 : Nat → Int32) : Option ((Nat → Int32) × (Nat → Int32) × Int32 × Int32 × Int32 × Int32) :=
  some (vK36_61_0, vK63_88_0, (a_p0 p1.toNatClampNeg), (a_p0 (p1 + (1 : Int32)).toNatClampNeg), (a_p0 (p1 + (2 : Int32)).toNatClampNeg), (a_p0 (p1 + (3 : Int32)).toNatClampNeg))
noncomputable def B_X9_takes_63 (n_p0 : Nat) (a_p0 : Nat → Int32) (p1 : Int32) (kk63_88 : (Nat → Int32) → Option ((Nat → Int32) × (Nat → Int32) × Int32 × Int32 × Int32 × Int32)) (vL63_0 : Nat → Int32) (vL63_1 : Int32) (ag63 : (Nat → Int32) → Int32 → Option ((Nat → Int32) × (Nat → Int32) × Int32 × Int32 × Int32 × Int32)) : Option ((Nat → Int32) × (Nat → Int32) × Int32 × Int32 × Int32 × Int32) :=
  if (3 : Int32) ≤ vL63_1 then (kk63_88 vL63_0) else (ck ((p1 + (12 : Int32)) + vL63_1) n_p0 (ck vL63_1 3 (ag63 (upd vL63_0 vL63_1.toNatClampNeg (a_p0 ((p1 + (12 : Int32)) + vL63_1).toNatClampNeg)) (vL63_1 + (1 : Int32)))))
noncomputable def K_X9_takes_36_61 (n_p0 : Nat) (a_p0 : Nat → Int32) (a_t_tree : Nat → Int32) (p1 : Int32) (vK36_61_0 : Nat → Int32) : Option ((Nat → Int32) × (Nat → Int32) × Int32 × Int32 × Int32 × Int32) :=
  wq2 (B_X9_takes_63 n_p0 a_p0 p1 (K_X9_takes_63_88 a_p0 p1 vK36_61_0)) FU a_t_tree (0 : Int32)
noncomputable def B_X9_takes_36 (n_p0 : Nat) (a_p0 : Nat → Int32) (p1 : Int32) (kk36_61 : (Nat → Int32) → Option ((Nat → Int32) × (Nat → Int32) × Int32 × Int32 × Int32 × Int32)) (vL36_0 : Nat → Int32) (vL36_1 : Int32) (ag36 : (Nat → Int32) → Int32 → Option ((Nat → Int32) × (Nat → Int32) × Int32 × Int32 × Int32 × Int32)) : Option ((Nat → Int32) × (Nat → Int32) × Int32 × Int32 × Int32 × Int32) :=
  if (8 : Int32) ≤ vL36_1 then (kk36_61 vL36_0) else (ck ((p1 + (4 : Int32)) + vL36_1) n_p0 (ck vL36_1 8 (ag36 (upd vL36_0 vL36_1.toNatClampNeg (a_p0 ((p1 + (4 : Int32)) + vL36_1).toNatClampNeg)) (vL36_1 + (1 : Int32)))))
noncomputable def F_X9_takes (n_p0 : Nat) (a_p0 : Nat → Int32) (a_t_powers : Nat → Int32) (a_t_tree : Nat → Int32) (p1 : Int32) : Option ((Nat → Int32) × (Nat → Int32) × Int32 × Int32 × Int32 × Int32) :=
  ck p1 n_p0 (ck (p1 + (1 : Int32)) n_p0 (ck (p1 + (2 : Int32)) n_p0 (ck (p1 + (3 : Int32)) n_p0 (wq2 (B_X9_takes_36 n_p0 a_p0 p1 (K_X9_takes_36_61 n_p0 a_p0 a_t_tree p1)) FU a_t_powers (0 : Int32)))))

/-! X9_begins -/
noncomputable def F_X9_begins (t_genus : Int32) (t_marks : Int32) (t_leaves : Int32) (t_splits : Int32) (a_t_before : Nat → Int32) (a_t_powers : Nat → Int32) (a_t_tree : Nat → Int32) : Option ((Nat → Int32)) :=
  bd (F_X9_lays t_genus t_marks t_leaves t_splits 16 a_t_before a_t_powers a_t_tree (0 : Int32)) (fun x1 => some x1)

/-! X9_ends -/
noncomputable def K_X9_ends_111_143 (t_done : Int32) (x1 : (Nat → Int32)) (vK111_143_0 : Nat → Int32) : Option ((Nat → Int32) × (Nat → Int32) × Int32 × Int32) :=
  some (x1, vK111_143_0, (0 : Int32), (t_done + (1 : Int32)))
noncomputable def B_X9_ends_111 (t_done : Int32) (a_t_before : Nat → Int32) (kk111_143 : (Nat → Int32) → Option ((Nat → Int32) × (Nat → Int32) × Int32 × Int32)) (vL111_0 : Nat → Int32) (vL111_1 : Int32) (ag111 : (Nat → Int32) → Int32 → Option ((Nat → Int32) × (Nat → Int32) × Int32 × Int32)) : Option ((Nat → Int32) × (Nat → Int32) × Int32 × Int32) :=
  if (16 : Int32) ≤ vL111_1 then (kk111_143 vL111_0) else (ck vL111_1 16 (ck ((t_done * (16 : Int32)) + vL111_1) 144 (ag111 (upd vL111_0 ((t_done * (16 : Int32)) + vL111_1).toNatClampNeg (a_t_before vL111_1.toNatClampNeg)) (vL111_1 + (1 : Int32)))))
noncomputable def K_X9_ends_111_143x1 (t_done : Int32) (x1 : (Nat → Int32)) (vK111_143_0 : Nat → Int32) : Option ((Nat → Int32) × (Nat → Int32) × Int32 × Int32) :=
  some (x1, vK111_143_0, (0 : Int32), ((t_done - (1 : Int32)) + (1 : Int32)))
noncomputable def B_X9_ends_111x1 (t_done : Int32) (a_t_before : Nat → Int32) (kk111_143 : (Nat → Int32) → Option ((Nat → Int32) × (Nat → Int32) × Int32 × Int32)) (vL111_0 : Nat → Int32) (vL111_1 : Int32) (ag111 : (Nat → Int32) → Int32 → Option ((Nat → Int32) × (Nat → Int32) × Int32 × Int32)) : Option ((Nat → Int32) × (Nat → Int32) × Int32 × Int32) :=
  if (16 : Int32) ≤ vL111_1 then (kk111_143 vL111_0) else (ck vL111_1 16 (ck (((t_done - (1 : Int32)) * (16 : Int32)) + vL111_1) 144 (ag111 (upd vL111_0 (((t_done - (1 : Int32)) * (16 : Int32)) + vL111_1).toNatClampNeg (a_t_before vL111_1.toNatClampNeg)) (vL111_1 + (1 : Int32)))))
noncomputable def K_X9_ends_72_99 (t_done : Int32) (a_t_before : Nat → Int32) (x1 : (Nat → Int32)) (vK72_99_0 : Nat → Int32) : Option ((Nat → Int32) × (Nat → Int32) × Int32 × Int32) :=
  wq2 (B_X9_ends_111x1 t_done a_t_before (K_X9_ends_111_143x1 t_done x1)) FU vK72_99_0 (0 : Int32)
noncomputable def B_X9_ends_72  (kk72_99 : (Nat → Int32) → Option ((Nat → Int32) × (Nat → Int32) × Int32 × Int32)) (vL72_0 : Nat → Int32) (vL72_1 : Int32) (ag72 : (Nat → Int32) → Int32 → Option ((Nat → Int32) × (Nat → Int32) × Int32 × Int32)) : Option ((Nat → Int32) × (Nat → Int32) × Int32 × Int32) :=
  if (112 : Int32) ≤ vL72_1 then (kk72_99 vL72_0) else (ck (vL72_1 + (16 : Int32)) 144 (ck vL72_1 144 (ag72 (upd vL72_0 vL72_1.toNatClampNeg (vL72_0 (vL72_1 + (16 : Int32)).toNatClampNeg)) (vL72_1 + (1 : Int32)))))
noncomputable def K_X9_ends_15_56 (t_done : Int32) (t_undone : Int32) (a_t_before : Nat → Int32) (a_t_ahead : Nat → Int32) (x1 : (Nat → Int32)) (vK15_56_0 : Int32) : Option ((Nat → Int32) × (Nat → Int32) × Int32 × Int32) :=
  if vK15_56_0 = 0 then (if t_done = (8 : Int32) then (wq2 (B_X9_ends_72 (K_X9_ends_72_99 t_done a_t_before x1)) FU a_t_ahead (0 : Int32)) else (wq2 (B_X9_ends_111 t_done a_t_before (K_X9_ends_111_143 t_done x1)) FU a_t_ahead (0 : Int32))) else (some (x1, a_t_ahead, t_undone, t_done))
noncomputable def B_X9_ends_15 (a_t_before : Nat → Int32) (x1 : (Nat → Int32)) (kk15_56 : Int32 → Option ((Nat → Int32) × (Nat → Int32) × Int32 × Int32)) (vL15_0 : Int32) (vL15_1 : Int32) (ag15 : Int32 → Int32 → Option ((Nat → Int32) × (Nat → Int32) × Int32 × Int32)) : Option ((Nat → Int32) × (Nat → Int32) × Int32 × Int32) :=
  if (16 : Int32) ≤ vL15_1 then (kk15_56 vL15_0) else (if vL15_0 = 0 then (ag15 (0 : Int32) (vL15_1 + (1 : Int32))) else (ck ((128 : Int32) + vL15_1) 144 (ck vL15_1 16 (if (x1 ((128 : Int32) + vL15_1).toNatClampNeg) = (a_t_before vL15_1.toNatClampNeg) then (ag15 (1 : Int32) (vL15_1 + (1 : Int32))) else (ag15 (0 : Int32) (vL15_1 + (1 : Int32)))))))
noncomputable def F_X9_ends (t_genus : Int32) (t_marks : Int32) (t_leaves : Int32) (t_splits : Int32) (t_done : Int32) (t_undone : Int32) (a_t_behind : Nat → Int32) (a_t_powers : Nat → Int32) (a_t_tree : Nat → Int32) (a_t_before : Nat → Int32) (a_t_ahead : Nat → Int32) : Option ((Nat → Int32) × (Nat → Int32) × Int32 × Int32) :=
  bd (F_X9_lays t_genus t_marks t_leaves t_splits 144 a_t_behind a_t_powers a_t_tree (128 : Int32)) (fun x1 => wq2 (B_X9_ends_15 a_t_before x1 (K_X9_ends_15_56 t_done t_undone a_t_before a_t_ahead x1)) FU (1 : Int32) (0 : Int32))

/-! X9_undo -/
noncomputable def F_X9_undo (t_genus : Int32) (t_marks : Int32) (t_leaves : Int32) (t_splits : Int32) (t_done : Int32) (t_undone : Int32) (a_t_behind : Nat → Int32) (a_t_powers : Nat → Int32) (a_t_tree : Nat → Int32) (a_t_ahead : Nat → Int32) : Option (Int32 × (Nat → Int32) × (Nat → Int32) × (Nat → Int32) × Int32 × Int32 × Int32 × Int32 × Int32 × Int32) :=
  if t_done = 0 then (some ((-5 : Int32), a_t_behind, a_t_powers, a_t_tree, t_genus, t_marks, t_undone, t_leaves, t_splits, t_done)) else (bd (F_X9_lays t_genus t_marks t_leaves t_splits 144 a_t_behind a_t_powers a_t_tree (t_undone * (16 : Int32))) (fun x2 => bd (F_X9_takes 144 a_t_ahead a_t_powers a_t_tree ((t_done - (1 : Int32)) * (16 : Int32))) (fun x3 => some ((t_done - (1 : Int32)), x2, (x3.1), (x3.2.1), (x3.2.2.1), (x3.2.2.2.1), (t_undone + (1 : Int32)), (x3.2.2.2.2.1), (x3.2.2.2.2.2), (t_done - (1 : Int32))))))

/-! X9_again -/
noncomputable def F_X9_again (t_genus : Int32) (t_marks : Int32) (t_leaves : Int32) (t_splits : Int32) (t_done : Int32) (t_undone : Int32) (a_t_ahead : Nat → Int32) (a_t_powers : Nat → Int32) (a_t_tree : Nat → Int32) (a_t_behind : Nat → Int32) : Option (Int32 × (Nat → Int32) × (Nat → Int32) × (Nat → Int32) × Int32 × Int32 × Int32 × Int32 × Int32 × Int32) :=
  if t_undone = 0 then (some ((-5 : Int32), a_t_ahead, a_t_powers, a_t_tree, t_genus, t_marks, t_undone, t_leaves, t_splits, t_done)) else (bd (F_X9_lays t_genus t_marks t_leaves t_splits 144 a_t_ahead a_t_powers a_t_tree (t_done * (16 : Int32))) (fun x2 => bd (F_X9_takes 144 a_t_behind a_t_powers a_t_tree ((t_undone - (1 : Int32)) * (16 : Int32))) (fun x3 => some ((t_undone - (1 : Int32)), x2, (x3.1), (x3.2.1), (x3.2.2.1), (x3.2.2.2.1), (t_undone - (1 : Int32)), (x3.2.2.2.2.1), (x3.2.2.2.2.2), (t_done + (1 : Int32))))))

/-! X9_isMark -/
noncomputable def F_X9_isMark (t_marks : Int32) (p0 : Int32) : Option (Int32) :=
  bd (F_X9_in p0.toInt64 (0 : Int64) (t_marks - (1 : Int32)).toInt64) (fun x1 => some x1)

/-! X9_genus -/
noncomputable def F_X9_genus (t_genus : Int32) (t_marks : Int32) (t_leaves : Int32) (t_splits : Int32) (t_done : Int32) (t_undone : Int32) (a_t_before : Nat → Int32) (a_t_powers : Nat → Int32) (a_t_tree : Nat → Int32) (a_t_behind : Nat → Int32) (a_t_ahead : Nat → Int32) (p0 : Int32) : Option (Int32 × (Nat → Int32) × (Nat → Int32) × (Nat → Int32) × Int32 × Int32 × Int32) :=
  bd (F_X9_in p0.toInt64 (0 : Int64) (2 : Int64)) (fun x1 => if x1 = 0 then (some ((-1 : Int32), a_t_before, a_t_behind, a_t_ahead, t_genus, t_undone, t_done)) else (bd (F_X9_begins t_genus t_marks t_leaves t_splits a_t_before a_t_powers a_t_tree) (fun x3 => bd (F_X9_ends p0 t_marks t_leaves t_splits t_done t_undone a_t_behind a_t_powers a_t_tree x3 a_t_ahead) (fun x4 => some (t_genus, x3, (x4.1), (x4.2.1), p0, (x4.2.2.1), (x4.2.2.2))))))

/-! X9_mark -/
noncomputable def F_X9_mark (t_genus : Int32) (t_marks : Int32) (t_leaves : Int32) (t_splits : Int32) (t_done : Int32) (t_undone : Int32) (a_t_before : Nat → Int32) (a_t_powers : Nat → Int32) (a_t_tree : Nat → Int32) (a_t_behind : Nat → Int32) (a_t_ahead : Nat → Int32) (p0 : Int32) : Option (Int32 × (Nat → Int32) × (Nat → Int32) × (Nat → Int32) × (Nat → Int32) × Int32 × Int32 × Int32) :=
  bd (F_X9_in p0.toInt64 (0 : Int64) (12 : Int64)) (fun x1 => if x1 = 0 then (some ((-1 : Int32), a_t_before, a_t_powers, a_t_behind, a_t_ahead, t_marks, t_undone, t_done)) else (if t_marks = (8 : Int32) then (some ((-3 : Int32), a_t_before, a_t_powers, a_t_behind, a_t_ahead, t_marks, t_undone, t_done)) else (bd (F_X9_begins t_genus t_marks t_leaves t_splits a_t_before a_t_powers a_t_tree) (fun x4 => ck t_marks 8 (bd (F_X9_ends t_genus (t_marks + (1 : Int32)) t_leaves t_splits t_done t_undone a_t_behind (upd a_t_powers t_marks.toNatClampNeg p0) a_t_tree x4 a_t_ahead) (fun x6 => some ((t_marks + (1 : Int32)), x4, (upd a_t_powers t_marks.toNatClampNeg p0), (x6.1), (x6.2.1), (t_marks + (1 : Int32)), (x6.2.2.1), (x6.2.2.2))))))))

/-! X9_take -/
noncomputable def K_X9_take_26_54 (t_genus : Int32) (t_marks : Int32) (t_leaves : Int32) (t_splits : Int32) (t_done : Int32) (t_undone : Int32) (a_t_tree : Nat → Int32) (a_t_behind : Nat → Int32) (a_t_ahead : Nat → Int32) (x3 : (Nat → Int32)) (vK26_54_0 : Nat → Int32) : Option (Int32 × (Nat → Int32) × (Nat → Int32) × (Nat → Int32) × (Nat → Int32) × Int32 × Int32 × Int32) :=
  bd (F_X9_ends t_genus (t_marks - (1 : Int32)) t_leaves t_splits t_done t_undone a_t_behind vK26_54_0 a_t_tree x3 a_t_ahead) (fun x4 => some ((t_marks - (1 : Int32)), x3, vK26_54_0, (x4.1), (x4.2.1), (t_marks - (1 : Int32)), (x4.2.2.1), (x4.2.2.2)))
noncomputable def B_X9_take_26 (t_marks : Int32) (kk26_54 : (Nat → Int32) → Option (Int32 × (Nat → Int32) × (Nat → Int32) × (Nat → Int32) × (Nat → Int32) × Int32 × Int32 × Int32)) (vL26_0 : Nat → Int32) (vL26_1 : Int32) (ag26 : (Nat → Int32) → Int32 → Option (Int32 × (Nat → Int32) × (Nat → Int32) × (Nat → Int32) × (Nat → Int32) × Int32 × Int32 × Int32)) : Option (Int32 × (Nat → Int32) × (Nat → Int32) × (Nat → Int32) × (Nat → Int32) × Int32 × Int32 × Int32) :=
  if (t_marks - (1 : Int32)) ≤ vL26_1 then (kk26_54 vL26_0) else (ck (vL26_1 + (1 : Int32)) 8 (ck vL26_1 8 (ag26 (upd vL26_0 vL26_1.toNatClampNeg (vL26_0 (vL26_1 + (1 : Int32)).toNatClampNeg)) (vL26_1 + (1 : Int32)))))
noncomputable def F_X9_take (t_genus : Int32) (t_marks : Int32) (t_leaves : Int32) (t_splits : Int32) (t_done : Int32) (t_undone : Int32) (a_t_before : Nat → Int32) (a_t_powers : Nat → Int32) (a_t_tree : Nat → Int32) (a_t_behind : Nat → Int32) (a_t_ahead : Nat → Int32) (p0 : Int32) : Option (Int32 × (Nat → Int32) × (Nat → Int32) × (Nat → Int32) × (Nat → Int32) × Int32 × Int32 × Int32) :=
  bd (F_X9_isMark t_marks p0) (fun x1 => if x1 = 0 then (some ((-1 : Int32), a_t_before, a_t_powers, a_t_behind, a_t_ahead, t_marks, t_undone, t_done)) else (bd (F_X9_begins t_genus t_marks t_leaves t_splits a_t_before a_t_powers a_t_tree) (fun x3 => wq2 (B_X9_take_26 t_marks (K_X9_take_26_54 t_genus t_marks t_leaves t_splits t_done t_undone a_t_tree a_t_behind a_t_ahead x3)) FU a_t_powers p0)))

/-! X9_change -/
noncomputable def F_X9_change (t_genus : Int32) (t_marks : Int32) (t_leaves : Int32) (t_splits : Int32) (t_done : Int32) (t_undone : Int32) (a_t_powers : Nat → Int32) (a_t_before : Nat → Int32) (a_t_tree : Nat → Int32) (a_t_behind : Nat → Int32) (a_t_ahead : Nat → Int32) (p0 : Int32) (p1 : Int32) : Option (Int32 × (Nat → Int32) × (Nat → Int32) × (Nat → Int32) × (Nat → Int32) × Int32 × Int32) :=
  bd (F_X9_isMark t_marks p0) (fun x1 => if x1 = 0 then (some ((-1 : Int32), a_t_powers, a_t_before, a_t_behind, a_t_ahead, t_undone, t_done)) else (bd (F_X9_in p1.toInt64 (0 : Int64) (12 : Int64)) (fun x3 => if x3 = 0 then (some ((-1 : Int32), a_t_powers, a_t_before, a_t_behind, a_t_ahead, t_undone, t_done)) else (ck p0 8 (bd (F_X9_begins t_genus t_marks t_leaves t_splits a_t_before a_t_powers a_t_tree) (fun x6 => ck p0 8 (bd (F_X9_ends t_genus t_marks t_leaves t_splits t_done t_undone a_t_behind (upd a_t_powers p0.toNatClampNeg p1) a_t_tree x6 a_t_ahead) (fun x8 => some ((a_t_powers p0.toNatClampNeg), (upd a_t_powers p0.toNatClampNeg p1), x6, (x8.1), (x8.2.1), (x8.2.2.1), (x8.2.2.2))))))))))

/-! X9_sorts -/
noncomputable def K_X9_sorts_2_68  (vK2_68_0 : Nat → Int32) : Option ((Nat → Int32)) :=
  some vK2_68_0
noncomputable def K_X9_sorts_10_62 (vL2_1 : Int32) (ag2 : (Nat → Int32) → Int32 → Option ((Nat → Int32))) (vK10_62_0 : Nat → Int32) : Option ((Nat → Int32)) :=
  ag2 vK10_62_0 (vL2_1 + (1 : Int32))
noncomputable def B_X9_sorts_10 (n_p0 : Nat) (p2 : Int32) (kk10_62 : (Nat → Int32) → Option ((Nat → Int32))) (vL10_0 : Nat → Int32) (vL10_1 : Int32) (ag10 : (Nat → Int32) → Int32 → Option ((Nat → Int32))) : Option ((Nat → Int32)) :=
  if vL10_1 ≤ 0 then (kk10_62 vL10_0) else (ck (vL10_1 - (1 : Int32)) n_p0 (ck vL10_1 n_p0 (if (p2 * (vL10_0 (vL10_1 - (1 : Int32)).toNatClampNeg)) ≤ (p2 * (vL10_0 vL10_1.toNatClampNeg)) then (kk10_62 vL10_0) else (ck vL10_1 n_p0 (ck (vL10_1 - (1 : Int32)) n_p0 (ck vL10_1 n_p0 (ck (vL10_1 - (1 : Int32)) n_p0 (ag10 (upd (upd vL10_0 vL10_1.toNatClampNeg (vL10_0 (vL10_1 - (1 : Int32)).toNatClampNeg)) (vL10_1 - (1 : Int32)).toNatClampNeg (vL10_0 vL10_1.toNatClampNeg)) (vL10_1 + (-1 : Int32))))))))))
noncomputable def B_X9_sorts_2 (n_p0 : Nat) (p1 : Int32) (p2 : Int32) (kk2_68 : (Nat → Int32) → Option ((Nat → Int32))) (vL2_0 : Nat → Int32) (vL2_1 : Int32) (ag2 : (Nat → Int32) → Int32 → Option ((Nat → Int32))) : Option ((Nat → Int32)) :=
  if p1 ≤ vL2_1 then (kk2_68 vL2_0) else (wq2 (B_X9_sorts_10 n_p0 p2 (K_X9_sorts_10_62 vL2_1 ag2)) FU vL2_0 vL2_1)
noncomputable def F_X9_sorts (n_p0 : Nat) (a_p0 : Nat → Int32) (p1 : Int32) (p2 : Int32) : Option ((Nat → Int32)) :=
  wq2 (B_X9_sorts_2 n_p0 p1 p2 K_X9_sorts_2_68) FU a_p0 (1 : Int32)

/-! X9_order -/
noncomputable def K_X9_order_103_142 (t_genus : Int32) (t_marks : Int32) (t_leaves : Int32) (t_splits : Int32) (t_done : Int32) (t_undone : Int32) (a_t_tree : Nat → Int32) (a_t_behind : Nat → Int32) (a_t_ahead : Nat → Int32) (x3 : (Nat → Int32)) (vK48_99_0 : Nat → Int32) (vK103_142_0 : Int32) : Option (Int32 × (Nat → Int32) × (Nat → Int32) × (Nat → Int32) × (Nat → Int32) × Int32 × Int32) :=
  bd (F_X9_ends t_genus t_marks t_leaves t_splits t_done t_undone a_t_behind vK48_99_0 a_t_tree x3 a_t_ahead) (fun x5 => some (vK103_142_0, x3, vK48_99_0, (x5.1), (x5.2.1), (x5.2.2.1), (x5.2.2.2)))
noncomputable def B_X9_order_103 (t_marks : Int32) (x3 : (Nat → Int32)) (vK48_99_0 : Nat → Int32) (kk103_142 : Int32 → Option (Int32 × (Nat → Int32) × (Nat → Int32) × (Nat → Int32) × (Nat → Int32) × Int32 × Int32)) (vL103_0 : Int32) (vL103_1 : Int32) (ag103 : Int32 → Int32 → Option (Int32 × (Nat → Int32) × (Nat → Int32) × (Nat → Int32) × (Nat → Int32) × Int32 × Int32)) : Option (Int32 × (Nat → Int32) × (Nat → Int32) × (Nat → Int32) × (Nat → Int32) × Int32 × Int32) :=
  if t_marks ≤ vL103_1 then (kk103_142 vL103_0) else (ck vL103_1 8 (ck ((4 : Int32) + vL103_1) 16 (if (vK48_99_0 vL103_1.toNatClampNeg) = (x3 ((4 : Int32) + vL103_1).toNatClampNeg) then (ag103 (vL103_0 + (0 : Int32)) (vL103_1 + (1 : Int32))) else (ag103 (vL103_0 + (1 : Int32)) (vL103_1 + (1 : Int32))))))
noncomputable def K_X9_order_48_99 (t_genus : Int32) (t_marks : Int32) (t_leaves : Int32) (t_splits : Int32) (t_done : Int32) (t_undone : Int32) (a_t_tree : Nat → Int32) (a_t_behind : Nat → Int32) (a_t_ahead : Nat → Int32) (x3 : (Nat → Int32)) (vK48_99_0 : Nat → Int32) : Option (Int32 × (Nat → Int32) × (Nat → Int32) × (Nat → Int32) × (Nat → Int32) × Int32 × Int32) :=
  wq2 (B_X9_order_103 t_marks x3 vK48_99_0 (K_X9_order_103_142 t_genus t_marks t_leaves t_splits t_done t_undone a_t_tree a_t_behind a_t_ahead x3 vK48_99_0)) FU (0 : Int32) (0 : Int32)
noncomputable def B_X9_order_48 (t_marks : Int32) (p0 : Int32) (x3 : (Nat → Int32)) (kk48_99 : (Nat → Int32) → Option (Int32 × (Nat → Int32) × (Nat → Int32) × (Nat → Int32) × (Nat → Int32) × Int32 × Int32)) (vL48_0 : Nat → Int32) (vL48_1 : Int32) (ag48 : (Nat → Int32) → Int32 → Option (Int32 × (Nat → Int32) × (Nat → Int32) × (Nat → Int32) × (Nat → Int32) × Int32 × Int32)) : Option (Int32 × (Nat → Int32) × (Nat → Int32) × (Nat → Int32) × (Nat → Int32) × Int32 × Int32) :=
  if t_marks ≤ vL48_1 then (kk48_99 vL48_0) else (if p0 = (2 : Int32) then (ck ((4 : Int32) + ((t_marks - (1 : Int32)) - vL48_1)) 16 (ck vL48_1 8 (ag48 (upd vL48_0 vL48_1.toNatClampNeg (x3 ((4 : Int32) + ((t_marks - (1 : Int32)) - vL48_1)).toNatClampNeg)) (vL48_1 + (1 : Int32))))) else (dvi t_marks (ck ((4 : Int32) + ((vL48_1 + (1 : Int32)) - (vL48_1 + (1 : Int32)) / t_marks * t_marks)) 16 (ck vL48_1 8 (ag48 (upd vL48_0 vL48_1.toNatClampNeg (x3 ((4 : Int32) + ((vL48_1 + (1 : Int32)) - (vL48_1 + (1 : Int32)) / t_marks * t_marks)).toNatClampNeg)) (vL48_1 + (1 : Int32)))))))
noncomputable def K_X9_order_103_142x1 (t_genus : Int32) (t_marks : Int32) (t_leaves : Int32) (t_splits : Int32) (t_done : Int32) (t_undone : Int32) (a_t_tree : Nat → Int32) (a_t_behind : Nat → Int32) (a_t_ahead : Nat → Int32) (x3 : (Nat → Int32)) (x17 : (Nat → Int32)) (vK103_142_0 : Int32) : Option (Int32 × (Nat → Int32) × (Nat → Int32) × (Nat → Int32) × (Nat → Int32) × Int32 × Int32) :=
  bd (F_X9_ends t_genus t_marks t_leaves t_splits t_done t_undone a_t_behind x17 a_t_tree x3 a_t_ahead) (fun x18 => some (vK103_142_0, x3, x17, (x18.1), (x18.2.1), (x18.2.2.1), (x18.2.2.2)))
noncomputable def B_X9_order_103x1 (t_marks : Int32) (x3 : (Nat → Int32)) (x17 : (Nat → Int32)) (kk103_142 : Int32 → Option (Int32 × (Nat → Int32) × (Nat → Int32) × (Nat → Int32) × (Nat → Int32) × Int32 × Int32)) (vL103_0 : Int32) (vL103_1 : Int32) (ag103 : Int32 → Int32 → Option (Int32 × (Nat → Int32) × (Nat → Int32) × (Nat → Int32) × (Nat → Int32) × Int32 × Int32)) : Option (Int32 × (Nat → Int32) × (Nat → Int32) × (Nat → Int32) × (Nat → Int32) × Int32 × Int32) :=
  if t_marks ≤ vL103_1 then (kk103_142 vL103_0) else (ck vL103_1 8 (ck ((4 : Int32) + vL103_1) 16 (if (x17 vL103_1.toNatClampNeg) = (x3 ((4 : Int32) + vL103_1).toNatClampNeg) then (ag103 (vL103_0 + (0 : Int32)) (vL103_1 + (1 : Int32))) else (ag103 (vL103_0 + (1 : Int32)) (vL103_1 + (1 : Int32))))))
noncomputable def J_X9_order_40 (t_genus : Int32) (t_marks : Int32) (t_leaves : Int32) (t_splits : Int32) (t_done : Int32) (t_undone : Int32) (a_t_powers : Nat → Int32) (a_t_tree : Nat → Int32) (a_t_behind : Nat → Int32) (a_t_ahead : Nat → Int32) (x3 : (Nat → Int32)) (vJ40_0 : Int32) (vJ40_1 : Int32) : Option (Int32 × (Nat → Int32) × (Nat → Int32) × (Nat → Int32) × (Nat → Int32) × Int32 × Int32) :=
  bd (F_X9_sorts 8 a_t_powers vJ40_0 vJ40_1) (fun x17 => wq2 (B_X9_order_103x1 t_marks x3 x17 (K_X9_order_103_142x1 t_genus t_marks t_leaves t_splits t_done t_undone a_t_tree a_t_behind a_t_ahead x3 x17)) FU (0 : Int32) (0 : Int32))
noncomputable def F_X9_order (t_genus : Int32) (t_marks : Int32) (t_leaves : Int32) (t_splits : Int32) (t_done : Int32) (t_undone : Int32) (a_t_before : Nat → Int32) (a_t_powers : Nat → Int32) (a_t_tree : Nat → Int32) (a_t_behind : Nat → Int32) (a_t_ahead : Nat → Int32) (p0 : Int32) : Option (Int32 × (Nat → Int32) × (Nat → Int32) × (Nat → Int32) × (Nat → Int32) × Int32 × Int32) :=
  bd (F_X9_in p0.toInt64 (0 : Int64) (3 : Int64)) (fun x1 => if x1 = 0 then (some ((-1 : Int32), a_t_before, a_t_powers, a_t_behind, a_t_ahead, t_undone, t_done)) else (bd (F_X9_begins t_genus t_marks t_leaves t_splits a_t_before a_t_powers a_t_tree) (fun x3 => if (2 : Int32) ≤ p0 then (wq2 (B_X9_order_48 t_marks p0 x3 (K_X9_order_48_99 t_genus t_marks t_leaves t_splits t_done t_undone a_t_tree a_t_behind a_t_ahead x3)) FU a_t_powers (0 : Int32)) else (if p0 = 0 then (J_X9_order_40 t_genus t_marks t_leaves t_splits t_done t_undone a_t_powers a_t_tree a_t_behind a_t_ahead x3 t_marks (1 : Int32)) else (J_X9_order_40 t_genus t_marks t_leaves t_splits t_done t_undone a_t_powers a_t_tree a_t_behind a_t_ahead x3 t_marks (-1 : Int32))))))

/-! X9_of -/
noncomputable def F_X9_of (t_marks : Int32) (a_t_powers : Nat → Int32) (p0 : Int32) : Option (Int32) :=
  bd (F_X9_isMark t_marks p0) (fun x1 => if x1 = 0 then (some (-1 : Int32)) else (ck p0 8 (some (a_t_powers p0.toNatClampNeg))))

/-! X9_line -/
noncomputable def F_X9_line (p0 : Int32) : Option (Int64) :=
  if p0 = 0 then (some (1 : Int64)) else (if p0 = (1 : Int32) then (some (24 : Int64)) else (some (5760 : Int64)))

/-! X9_isNothing -/
noncomputable def K_X9_isNothing_6_29 (p0 : Int32) (p3 : Int32) (vK6_29_0 : Int32) : Option (Int32) :=
  if ((((2 : Int32) * p0) - (2 : Int32)) + p3) ≤ 0 then (some (1 : Int32)) else (if vK6_29_0 = ((((3 : Int32) * p0) - (3 : Int32)) + p3) then (some (0 : Int32)) else (some (1 : Int32)))
noncomputable def B_X9_isNothing_6 (n_p1 : Nat) (a_p1 : Nat → Int32) (p2 : Int32) (p3 : Int32) (kk6_29 : Int32 → Option (Int32)) (vL6_0 : Int32) (vL6_1 : Int32) (ag6 : Int32 → Int32 → Option (Int32)) : Option (Int32) :=
  if p3 ≤ vL6_1 then (kk6_29 vL6_0) else (ck (p2 + vL6_1) n_p1 (ag6 (vL6_0 + (a_p1 (p2 + vL6_1).toNatClampNeg)) (vL6_1 + (1 : Int32))))
noncomputable def F_X9_isNothing (n_p1 : Nat) (a_p1 : Nat → Int32) (p0 : Int32) (p2 : Int32) (p3 : Int32) : Option (Int32) :=
  wq2 (B_X9_isNothing_6 n_p1 a_p1 p2 p3 (K_X9_isNothing_6_29 p0 p3)) FU (0 : Int32) (0 : Int32)

/-! X9_often -/
noncomputable def K_X9_often_6_38  (vK6_38_0 : Int32) : Option (Int32) :=
  some vK6_38_0
noncomputable def B_X9_often_6 (n_p0 : Nat) (a_p0 : Nat → Int32) (p1 : Int32) (p2 : Int32) (p3 : Int32) (kk6_38 : Int32 → Option (Int32)) (vL6_0 : Int32) (vL6_1 : Int32) (ag6 : Int32 → Int32 → Option (Int32)) : Option (Int32) :=
  if p2 ≤ vL6_1 then (kk6_38 vL6_0) else (ck (p1 + vL6_1) n_p0 (if (a_p0 (p1 + vL6_1).toNatClampNeg) = p3 then (ag6 (vL6_0 + (1 : Int32)) (vL6_1 + (1 : Int32))) else (ag6 (vL6_0 + (0 : Int32)) (vL6_1 + (1 : Int32)))))
noncomputable def F_X9_often (n_p0 : Nat) (a_p0 : Nat → Int32) (p1 : Int32) (p2 : Int32) (p3 : Int32) : Option (Int32) :=
  wq2 (B_X9_often_6 n_p0 a_p0 p1 p2 p3 K_X9_often_6_38) FU (0 : Int32) (0 : Int32)

/-! X9_base -/
noncomputable def J_X9_base_100 (n_p1 : Nat) (a_p1 : Nat → Int32) (p2 : Int32) (p3 : Int32)  : Option (Int64) :=
  if p3 = (3 : Int32) then (bd (F_X9_often n_p1 a_p1 p2 p3 (2 : Int32)) (fun x4 => if x4 = (3 : Int32) then (some (168 : Int64)) else (some (-1 : Int64)))) else (some (-1 : Int64))
noncomputable def J_X9_base_69 (n_p1 : Nat) (a_p1 : Nat → Int32) (p2 : Int32) (p3 : Int32)  : Option (Int64) :=
  if p3 = (2 : Int32) then (bd (F_X9_often n_p1 a_p1 p2 p3 (2 : Int32)) (fun x7 => if x7 = (1 : Int32) then (bd (F_X9_often n_p1 a_p1 p2 p3 (3 : Int32)) (fun x9 => if x9 = (1 : Int32) then (some (29 : Int64)) else (J_X9_base_100 n_p1 a_p1 p2 p3))) else (J_X9_base_100 n_p1 a_p1 p2 p3))) else (J_X9_base_100 n_p1 a_p1 p2 p3)
noncomputable def F_X9_base (n_p1 : Nat) (a_p1 : Nat → Int32) (p0 : Int32) (p2 : Int32) (p3 : Int32) : Option (Int64) :=
  if p0 = 0 then (if p3 = (3 : Int32) then (bd (F_X9_often n_p1 a_p1 p2 p3 (0 : Int32)) (fun x18 => if x18 = (3 : Int32) then (some (1 : Int64)) else (some (-1 : Int64)))) else (some (-1 : Int64))) else (if p0 = (1 : Int32) then (if p3 = (1 : Int32) then (ck p2 n_p1 (if (a_p1 p2.toNatClampNeg) = (1 : Int32) then (some (1 : Int64)) else (some (-1 : Int64)))) else (some (-1 : Int64))) else (if p3 = (1 : Int32) then (ck p2 n_p1 (if (a_p1 p2.toNatClampNeg) = (4 : Int32) then (some (5 : Int64)) else (J_X9_base_69 n_p1 a_p1 p2 p3))) else (J_X9_base_69 n_p1 a_p1 p2 p3)))

/-! X9_leaves -/
noncomputable def K_X9_leaves_21_88  (vK21_88_0 : Nat → Int32) : Option ((Nat → Int32)) :=
  some vK21_88_0
noncomputable def J_X9_leaves_52 (n_p0 : Nat) (p1 : Int32) (p4 : Int32) (p5 : Int32) (vL21_0 : Nat → Int32) (vL21_1 : Int32) (vL21_2 : Int32) (vL21_3 : Int32) (vL21_4 : Int32) (ag21 : (Nat → Int32) → Int32 → Int32 → Int32 → Int32 → Option ((Nat → Int32)))  : Option ((Nat → Int32)) :=
  if vL21_3 = 0 then (ck (p5 + vL21_1) n_p0 (ag21 (upd vL21_0 (p5 + vL21_1).toNatClampNeg (vL21_0 (p1 + vL21_4).toNatClampNeg)) (vL21_1 + (1 : Int32)) vL21_2 vL21_3 (vL21_4 + (1 : Int32)))) else (if (vL21_0 (p1 + vL21_4).toNatClampNeg) = p4 then (ck (p5 + vL21_1) n_p0 (ag21 (upd vL21_0 (p5 + vL21_1).toNatClampNeg ((vL21_0 (p1 + vL21_4).toNatClampNeg) + (-1 : Int32))) (vL21_1 + (1 : Int32)) vL21_2 (0 : Int32) (vL21_4 + (1 : Int32)))) else (ck (p5 + vL21_1) n_p0 (ag21 (upd vL21_0 (p5 + vL21_1).toNatClampNeg (vL21_0 (p1 + vL21_4).toNatClampNeg)) (vL21_1 + (1 : Int32)) vL21_2 vL21_3 (vL21_4 + (1 : Int32)))))
noncomputable def B_X9_leaves_21 (n_p0 : Nat) (p1 : Int32) (p2 : Int32) (p3 : Int32) (p4 : Int32) (p5 : Int32) (kk21_88 : (Nat → Int32) → Option ((Nat → Int32))) (vL21_0 : Nat → Int32) (vL21_1 : Int32) (vL21_2 : Int32) (vL21_3 : Int32) (vL21_4 : Int32) (ag21 : (Nat → Int32) → Int32 → Int32 → Int32 → Int32 → Option ((Nat → Int32))) : Option ((Nat → Int32)) :=
  if p2 ≤ vL21_4 then (kk21_88 vL21_0) else (ck (p1 + vL21_4) n_p0 (if vL21_2 = 0 then (J_X9_leaves_52 n_p0 p1 p4 p5 vL21_0 vL21_1 vL21_2 vL21_3 vL21_4 ag21) else (if (vL21_0 (p1 + vL21_4).toNatClampNeg) = p3 then (ag21 vL21_0 vL21_1 (0 : Int32) vL21_3 (vL21_4 + (1 : Int32))) else (J_X9_leaves_52 n_p0 p1 p4 p5 vL21_0 vL21_1 vL21_2 vL21_3 vL21_4 ag21))))
noncomputable def K_X9_leaves_21_88x1  (vK21_88_0 : Nat → Int32) : Option ((Nat → Int32)) :=
  some vK21_88_0
noncomputable def J_X9_leaves_52x1 (n_p0 : Nat) (p1 : Int32) (p4 : Int32) (p5 : Int32) (vL21_0 : Nat → Int32) (vL21_1 : Int32) (vL21_2 : Int32) (vL21_3 : Int32) (vL21_4 : Int32) (ag21 : (Nat → Int32) → Int32 → Int32 → Int32 → Int32 → Option ((Nat → Int32)))  : Option ((Nat → Int32)) :=
  if vL21_3 = 0 then (ck (p5 + vL21_1) n_p0 (ag21 (upd vL21_0 (p5 + vL21_1).toNatClampNeg (vL21_0 (p1 + vL21_4).toNatClampNeg)) (vL21_1 + (1 : Int32)) vL21_2 vL21_3 (vL21_4 + (1 : Int32)))) else (if (vL21_0 (p1 + vL21_4).toNatClampNeg) = p4 then (ck (p5 + vL21_1) n_p0 (ag21 (upd vL21_0 (p5 + vL21_1).toNatClampNeg ((vL21_0 (p1 + vL21_4).toNatClampNeg) + (-1 : Int32))) (vL21_1 + (1 : Int32)) vL21_2 (0 : Int32) (vL21_4 + (1 : Int32)))) else (ck (p5 + vL21_1) n_p0 (ag21 (upd vL21_0 (p5 + vL21_1).toNatClampNeg (vL21_0 (p1 + vL21_4).toNatClampNeg)) (vL21_1 + (1 : Int32)) vL21_2 vL21_3 (vL21_4 + (1 : Int32)))))
noncomputable def B_X9_leaves_21x1 (n_p0 : Nat) (p1 : Int32) (p2 : Int32) (p3 : Int32) (p4 : Int32) (p5 : Int32) (kk21_88 : (Nat → Int32) → Option ((Nat → Int32))) (vL21_0 : Nat → Int32) (vL21_1 : Int32) (vL21_2 : Int32) (vL21_3 : Int32) (vL21_4 : Int32) (ag21 : (Nat → Int32) → Int32 → Int32 → Int32 → Int32 → Option ((Nat → Int32))) : Option ((Nat → Int32)) :=
  if p2 ≤ vL21_4 then (kk21_88 vL21_0) else (ck (p1 + vL21_4) n_p0 (if vL21_2 = 0 then (J_X9_leaves_52x1 n_p0 p1 p4 p5 vL21_0 vL21_1 vL21_2 vL21_3 vL21_4 ag21) else (if (vL21_0 (p1 + vL21_4).toNatClampNeg) = p3 then (ag21 vL21_0 vL21_1 (0 : Int32) vL21_3 (vL21_4 + (1 : Int32))) else (J_X9_leaves_52x1 n_p0 p1 p4 p5 vL21_0 vL21_1 vL21_2 vL21_3 vL21_4 ag21))))
noncomputable def F_X9_leaves (n_p0 : Nat) (a_p0 : Nat → Int32) (p1 : Int32) (p2 : Int32) (p3 : Int32) (p4 : Int32) (p5 : Int32) : Option ((Nat → Int32)) :=
  if p4 ≤ 0 then (wq5 (B_X9_leaves_21 n_p0 p1 p2 p3 p4 p5 K_X9_leaves_21_88) FU a_p0 (0 : Int32) (1 : Int32) (0 : Int32) (0 : Int32)) else (wq5 (B_X9_leaves_21x1 n_p0 p1 p2 p3 p4 p5 K_X9_leaves_21_88x1) FU a_p0 (0 : Int32) (1 : Int32) (1 : Int32) (0 : Int32))

/-! X9_numberAt -/
noncomputable def K_X9_numberAt_94_167  (vK94_167_0 : Nat → Int32) (vK94_167_1 : Int64) : Option (Int64 × (Nat → Int32)) :=
  some (vK94_167_1, vK94_167_0)
noncomputable def B_X9_numberAt_94 (rc : (Nat → Int32) → Int32 → Int32 → Int32 → Option (Int64 × (Nat → Int32))) (p0 : Int32) (p1 : Int32) (p2 : Int32) (kk94_167 : (Nat → Int32) → Int64 → Option (Int64 × (Nat → Int32))) (vL94_0 : Nat → Int32) (vL94_1 : Int64) (vL94_2 : Int32) (ag94 : (Nat → Int32) → Int64 → Int32 → Option (Int64 × (Nat → Int32))) : Option (Int64 × (Nat → Int32)) :=
  if (40 : Int32) < vL94_2 then (kk94_167 vL94_0 vL94_1) else (bd (F_X9_often 480 vL94_0 (p1 * (12 : Int32)) p2 vL94_2) (fun x6 => if x6 = 0 then (ag94 vL94_0 vL94_1 (vL94_2 + (1 : Int32))) else (bd (F_X9_leaves 480 vL94_0 (p1 * (12 : Int32)) p2 (0 : Int32) vL94_2 ((p1 * (12 : Int32)) + (12 : Int32))) (fun x8 => bd (rc x8 p0 (p1 + (1 : Int32)) (p2 - (1 : Int32))) (fun x9 => ag94 (x9.2) (vL94_1 + (x6.toInt64 * (x9.1))) (vL94_2 + (1 : Int32)))))))
noncomputable def G_X9_numberAt (rc : (Nat → Int32) → Int32 → Int32 → Int32 → Option (Int64 × (Nat → Int32))) (a_t_rows : Nat → Int32) (p0 : Int32) (p1 : Int32) (p2 : Int32) : Option (Int64 × (Nat → Int32)) :=
  bd (F_X9_base 480 a_t_rows p0 (p1 * (12 : Int32)) p2) (fun x1 => if (lg_cmp x1 (0 : Int64)) < 0 then (bd (F_X9_often 480 a_t_rows (p1 * (12 : Int32)) p2 (0 : Int32)) (fun x3 => if x3 = 0 then (bd (F_X9_leaves 480 a_t_rows (p1 * (12 : Int32)) p2 (1 : Int32) (0 : Int32) ((p1 * (12 : Int32)) + (12 : Int32))) (fun x10 => bd (rc x10 p0 (p1 + (1 : Int32)) (p2 - (1 : Int32))) (fun x11 => some (((((((2 : Int64) * p0.toInt64) - (2 : Int64)) + p2.toInt64) - (1 : Int64)) * (x11.1)), (x11.2))))) else (wq3 (B_X9_numberAt_94 rc p0 p1 p2 K_X9_numberAt_94_167) FU a_t_rows (0 : Int64) (1 : Int32)))) else (some (x1, a_t_rows)))
noncomputable def F_X9_numberAt : Nat → (Nat → Int32) → Int32 → Int32 → Int32 → Option (Int64 × (Nat → Int32))
  | 0, _, _, _, _ => none
  | d + 1, a_t_rows, p0, p1, p2 => G_X9_numberAt (F_X9_numberAt d) a_t_rows p0 p1 p2

/-! X9_numberOf -/
noncomputable def F_X9_numberOf (a_t_rows : Nat → Int32) (p0 : Int32) (p1 : Int32) : Option (Int64 × (Nat → Int32)) :=
  bd (F_X9_isNothing 480 a_t_rows p0 (0 : Int32) p1) (fun x1 => if x1 = 0 then (bd (F_X9_numberAt 16 a_t_rows p0 (0 : Int32) p1) (fun x3 => some ((x3.1), (x3.2)))) else (some ((0 : Int64), a_t_rows)))

/-! X9_numberOfMarks -/
noncomputable def K_X9_numberOfMarks_2_28 (t_genus : Int32) (t_marks : Int32) (vK2_28_0 : Nat → Int32) : Option (Int64 × (Nat → Int32)) :=
  bd (F_X9_numberOf vK2_28_0 t_genus t_marks) (fun x1 => some ((x1.1), (x1.2)))
noncomputable def B_X9_numberOfMarks_2 (t_marks : Int32) (a_t_powers : Nat → Int32) (kk2_28 : (Nat → Int32) → Option (Int64 × (Nat → Int32))) (vL2_0 : Nat → Int32) (vL2_1 : Int32) (ag2 : (Nat → Int32) → Int32 → Option (Int64 × (Nat → Int32))) : Option (Int64 × (Nat → Int32)) :=
  if t_marks ≤ vL2_1 then (kk2_28 vL2_0) else (ck vL2_1 8 (ck vL2_1 480 (ag2 (upd vL2_0 vL2_1.toNatClampNeg (a_t_powers vL2_1.toNatClampNeg)) (vL2_1 + (1 : Int32)))))
noncomputable def F_X9_numberOfMarks (t_genus : Int32) (t_marks : Int32) (a_t_rows : Nat → Int32) (a_t_powers : Nat → Int32) : Option (Int64 × (Nat → Int32)) :=
  wq2 (B_X9_numberOfMarks_2 t_marks a_t_powers (K_X9_numberOfMarks_2_28 t_genus t_marks)) FU a_t_rows (0 : Int32)

/-! X9_number -/
noncomputable def F_X9_number (t_genus : Int32) (t_marks : Int32) (a_t_rows : Nat → Int32) (a_t_powers : Nat → Int32) (p0 : Int32) : Option (Int64 × (Nat → Int32)) :=
  bd (F_X9_in p0.toInt64 (0 : Int64) (1 : Int64)) (fun x1 => if x1 = 0 then (some ((-9223372036854775808 : Int64), a_t_rows)) else (bd (F_X9_numberOfMarks t_genus t_marks a_t_rows a_t_powers) (fun x3 => bd (F_X9_line t_genus) (fun x4 => bd (F_X9_part (x3.1) x4 p0) (fun x5 => some (x5, (x3.2)))))))

/-! X9_ruleOf -/
noncomputable def K_X9_ruleOf_2_28 (t_genus : Int32) (t_marks : Int32) (vK2_28_0 : Nat → Int32) : Option (Int32 × (Nat → Int32)) :=
  bd (F_X9_isNothing 480 vK2_28_0 t_genus (0 : Int32) t_marks) (fun x1 => if x1 = 0 then (bd (F_X9_base 480 vK2_28_0 t_genus (0 : Int32) t_marks) (fun x3 => if (lg_cmp x3 (0 : Int64)) < 0 then (bd (F_X9_often 480 vK2_28_0 (0 : Int32) t_marks (0 : Int32)) (fun x5 => if x5 ≤ 0 then (some ((3 : Int32), vK2_28_0)) else (some ((2 : Int32), vK2_28_0)))) else (some ((1 : Int32), vK2_28_0)))) else (some ((0 : Int32), vK2_28_0)))
noncomputable def B_X9_ruleOf_2 (t_marks : Int32) (a_t_powers : Nat → Int32) (kk2_28 : (Nat → Int32) → Option (Int32 × (Nat → Int32))) (vL2_0 : Nat → Int32) (vL2_1 : Int32) (ag2 : (Nat → Int32) → Int32 → Option (Int32 × (Nat → Int32))) : Option (Int32 × (Nat → Int32)) :=
  if t_marks ≤ vL2_1 then (kk2_28 vL2_0) else (ck vL2_1 8 (ck vL2_1 480 (ag2 (upd vL2_0 vL2_1.toNatClampNeg (a_t_powers vL2_1.toNatClampNeg)) (vL2_1 + (1 : Int32)))))
noncomputable def F_X9_ruleOf (t_genus : Int32) (t_marks : Int32) (a_t_rows : Nat → Int32) (a_t_powers : Nat → Int32) : Option (Int32 × (Nat → Int32)) :=
  wq2 (B_X9_ruleOf_2 t_marks a_t_powers (K_X9_ruleOf_2_28 t_genus t_marks)) FU a_t_rows (0 : Int32)

/-! X9_rule -/
noncomputable def F_X9_rule (t_genus : Int32) (t_marks : Int32) (a_t_rows : Nat → Int32) (a_t_powers : Nat → Int32) : Option (Int32 × (Nat → Int32)) :=
  bd (F_X9_ruleOf t_genus t_marks a_t_rows a_t_powers) (fun x1 => some ((x1.1), (x1.2)))

/-! X9_meets -/
noncomputable def K_X9_meets_96_184 (t_metMany : Int32) (a_t_metSizes : Nat → Int32) (p1 : Int32) (vK2_94_0 : Nat → Int32)  : Option ((Nat → Int32) × (Nat → Int32) × Int32) :=
  ck t_metMany 3000 (some (vK2_94_0, (upd a_t_metSizes t_metMany.toNatClampNeg p1), (t_metMany + (1 : Int32))))
noncomputable def K_X9_meets_124_172 (t_metMany : Int32) (a_t_metSizes : Nat → Int32) (vK2_94_0 : Nat → Int32) (vL96_0 : Int32) (ag96 : Int32 → Option ((Nat → Int32) × (Nat → Int32) × Int32)) (vK124_172_0 : Int32) : Option ((Nat → Int32) × (Nat → Int32) × Int32) :=
  if vK124_172_0 = 0 then (ag96 (vL96_0 + (1 : Int32))) else (some (vK2_94_0, a_t_metSizes, t_metMany))
noncomputable def B_X9_meets_124 (p0 : Int32) (p1 : Int32) (vK2_94_0 : Nat → Int32) (vL96_0 : Int32) (kk124_172 : Int32 → Option ((Nat → Int32) × (Nat → Int32) × Int32)) (vL124_0 : Int32) (vL124_1 : Int32) (ag124 : Int32 → Int32 → Option ((Nat → Int32) × (Nat → Int32) × Int32)) : Option ((Nat → Int32) × (Nat → Int32) × Int32) :=
  if p1 ≤ vL124_1 then (kk124_172 vL124_0) else (if vL124_0 = 0 then (kk124_172 vL124_0) else (ck ((vL96_0 * (12 : Int32)) + vL124_1) 36000 (ck (p0 + vL124_1) 36000 (if (vK2_94_0 ((vL96_0 * (12 : Int32)) + vL124_1).toNatClampNeg) = (vK2_94_0 (p0 + vL124_1).toNatClampNeg) then (ag124 (1 : Int32) (vL124_1 + (1 : Int32))) else (ag124 (0 : Int32) (vL124_1 + (1 : Int32)))))))
noncomputable def K_X9_meets_124_172x1 (t_metMany : Int32) (a_t_metSizes : Nat → Int32) (vK2_94_0 : Nat → Int32) (vL96_0 : Int32) (ag96 : Int32 → Option ((Nat → Int32) × (Nat → Int32) × Int32)) (vK124_172_0 : Int32) : Option ((Nat → Int32) × (Nat → Int32) × Int32) :=
  if vK124_172_0 = 0 then (ag96 (vL96_0 + (1 : Int32))) else (some (vK2_94_0, a_t_metSizes, t_metMany))
noncomputable def B_X9_meets_124x1 (p0 : Int32) (p1 : Int32) (vK2_94_0 : Nat → Int32) (vL96_0 : Int32) (kk124_172 : Int32 → Option ((Nat → Int32) × (Nat → Int32) × Int32)) (vL124_0 : Int32) (vL124_1 : Int32) (ag124 : Int32 → Int32 → Option ((Nat → Int32) × (Nat → Int32) × Int32)) : Option ((Nat → Int32) × (Nat → Int32) × Int32) :=
  if p1 ≤ vL124_1 then (kk124_172 vL124_0) else (if vL124_0 = 0 then (kk124_172 vL124_0) else (ck ((vL96_0 * (12 : Int32)) + vL124_1) 36000 (ck (p0 + vL124_1) 36000 (if (vK2_94_0 ((vL96_0 * (12 : Int32)) + vL124_1).toNatClampNeg) = (vK2_94_0 (p0 + vL124_1).toNatClampNeg) then (ag124 (1 : Int32) (vL124_1 + (1 : Int32))) else (ag124 (0 : Int32) (vL124_1 + (1 : Int32)))))))
noncomputable def B_X9_meets_96 (t_metMany : Int32) (a_t_metSizes : Nat → Int32) (p0 : Int32) (p1 : Int32) (vK2_94_0 : Nat → Int32) (kk96_184 : Option ((Nat → Int32) × (Nat → Int32) × Int32)) (vL96_0 : Int32) (ag96 : Int32 → Option ((Nat → Int32) × (Nat → Int32) × Int32)) : Option ((Nat → Int32) × (Nat → Int32) × Int32) :=
  if t_metMany ≤ vL96_0 then (kk96_184) else (ck vL96_0 3000 (if (a_t_metSizes vL96_0.toNatClampNeg) = p1 then (wq2 (B_X9_meets_124x1 p0 p1 vK2_94_0 vL96_0 (K_X9_meets_124_172x1 t_metMany a_t_metSizes vK2_94_0 vL96_0 ag96)) FU (1 : Int32) (0 : Int32)) else (wq2 (B_X9_meets_124 p0 p1 vK2_94_0 vL96_0 (K_X9_meets_124_172 t_metMany a_t_metSizes vK2_94_0 vL96_0 ag96)) FU (0 : Int32) (0 : Int32))))
noncomputable def K_X9_meets_2_94 (t_metMany : Int32) (a_t_metSizes : Nat → Int32) (p0 : Int32) (p1 : Int32) (vK2_94_0 : Nat → Int32) : Option ((Nat → Int32) × (Nat → Int32) × Int32) :=
  wq1 (B_X9_meets_96 t_metMany a_t_metSizes p0 p1 vK2_94_0 (K_X9_meets_96_184 t_metMany a_t_metSizes p1 vK2_94_0)) FU (0 : Int32)
noncomputable def K_X9_meets_10_88 (vL2_1 : Int32) (ag2 : (Nat → Int32) → Int32 → Option ((Nat → Int32) × (Nat → Int32) × Int32)) (vK10_88_0 : Nat → Int32) : Option ((Nat → Int32) × (Nat → Int32) × Int32) :=
  ag2 vK10_88_0 (vL2_1 + (1 : Int32))
noncomputable def B_X9_meets_10 (p0 : Int32) (kk10_88 : (Nat → Int32) → Option ((Nat → Int32) × (Nat → Int32) × Int32)) (vL10_0 : Nat → Int32) (vL10_1 : Int32) (ag10 : (Nat → Int32) → Int32 → Option ((Nat → Int32) × (Nat → Int32) × Int32)) : Option ((Nat → Int32) × (Nat → Int32) × Int32) :=
  if vL10_1 ≤ 0 then (kk10_88 vL10_0) else (ck ((p0 + vL10_1) - (1 : Int32)) 36000 (ck (p0 + vL10_1) 36000 (if (vL10_0 ((p0 + vL10_1) - (1 : Int32)).toNatClampNeg) ≤ (vL10_0 (p0 + vL10_1).toNatClampNeg) then (kk10_88 vL10_0) else (ck (p0 + vL10_1) 36000 (ck ((p0 + vL10_1) - (1 : Int32)) 36000 (ck (p0 + vL10_1) 36000 (ck ((p0 + vL10_1) - (1 : Int32)) 36000 (ag10 (upd (upd vL10_0 (p0 + vL10_1).toNatClampNeg (vL10_0 ((p0 + vL10_1) - (1 : Int32)).toNatClampNeg)) ((p0 + vL10_1) - (1 : Int32)).toNatClampNeg (vL10_0 (p0 + vL10_1).toNatClampNeg)) (vL10_1 + (-1 : Int32))))))))))
noncomputable def B_X9_meets_2 (p0 : Int32) (p1 : Int32) (kk2_94 : (Nat → Int32) → Option ((Nat → Int32) × (Nat → Int32) × Int32)) (vL2_0 : Nat → Int32) (vL2_1 : Int32) (ag2 : (Nat → Int32) → Int32 → Option ((Nat → Int32) × (Nat → Int32) × Int32)) : Option ((Nat → Int32) × (Nat → Int32) × Int32) :=
  if p1 ≤ vL2_1 then (kk2_94 vL2_0) else (wq2 (B_X9_meets_10 p0 (K_X9_meets_10_88 vL2_1 ag2)) FU vL2_0 vL2_1)
noncomputable def F_X9_meets (t_metMany : Int32) (a_t_met : Nat → Int32) (a_t_metSizes : Nat → Int32) (p0 : Int32) (p1 : Int32) : Option ((Nat → Int32) × (Nat → Int32) × Int32) :=
  wq2 (B_X9_meets_2 p0 p1 (K_X9_meets_2_94 t_metMany a_t_metSizes p0 p1)) FU a_t_met (1 : Int32)

/-! X9_met -/
noncomputable def K_X9_met_53_214 (x1 : Int32 × (Nat → Int32)) (vK53_214_0 : Nat → Int32) (vK53_214_1 : Nat → Int32) (vK53_214_2 : Int32) : Option (Int32 × (Nat → Int32) × (Nat → Int32) × (Nat → Int32) × Int32) :=
  some (vK53_214_2, (x1.2), vK53_214_0, vK53_214_1, vK53_214_2)
noncomputable def K_X9_met_145_208 (vL53_3 : Int32) (ag53 : (Nat → Int32) → (Nat → Int32) → Int32 → Int32 → Option (Int32 × (Nat → Int32) × (Nat → Int32) × (Nat → Int32) × Int32)) (vK145_208_0 : Nat → Int32) (vK145_208_1 : Nat → Int32) (vK145_208_2 : Int32) : Option (Int32 × (Nat → Int32) × (Nat → Int32) × (Nat → Int32) × Int32) :=
  ag53 vK145_208_0 vK145_208_1 vK145_208_2 (vL53_3 + (1 : Int32))
noncomputable def B_X9_met_145 (vL53_1 : Nat → Int32) (vL53_3 : Int32) (kk145_208 : (Nat → Int32) → (Nat → Int32) → Int32 → Option (Int32 × (Nat → Int32) × (Nat → Int32) × (Nat → Int32) × Int32)) (vL145_0 : Nat → Int32) (vL145_1 : Nat → Int32) (vL145_2 : Int32) (vL145_3 : Int32) (ag145 : (Nat → Int32) → (Nat → Int32) → Int32 → Int32 → Option (Int32 × (Nat → Int32) × (Nat → Int32) × (Nat → Int32) × Int32)) : Option (Int32 × (Nat → Int32) × (Nat → Int32) × (Nat → Int32) × Int32) :=
  if (12 : Int32) < vL145_3 then (kk145_208 vL145_0 vL145_1 vL145_2) else (bd (F_X9_often 36000 vL145_0 (vL53_3 * (12 : Int32)) (vL53_1 vL53_3.toNatClampNeg) vL145_3) (fun x11 => if x11 = 0 then (ag145 vL145_0 vL145_1 vL145_2 (vL145_3 + (1 : Int32))) else (bd (F_X9_leaves 36000 vL145_0 (vL53_3 * (12 : Int32)) (vL53_1 vL53_3.toNatClampNeg) (0 : Int32) vL145_3 (vL145_2 * (12 : Int32))) (fun x13 => bd (F_X9_meets vL145_2 x13 vL145_1 (vL145_2 * (12 : Int32)) ((vL53_1 vL53_3.toNatClampNeg) - (1 : Int32))) (fun x14 => ag145 (x14.1) (x14.2.1) (x14.2.2) (vL145_3 + (1 : Int32)))))))
noncomputable def B_X9_met_53 (t_genus : Int32) (kk53_214 : (Nat → Int32) → (Nat → Int32) → Int32 → Option (Int32 × (Nat → Int32) × (Nat → Int32) × (Nat → Int32) × Int32)) (vL53_0 : Nat → Int32) (vL53_1 : Nat → Int32) (vL53_2 : Int32) (vL53_3 : Int32) (ag53 : (Nat → Int32) → (Nat → Int32) → Int32 → Int32 → Option (Int32 × (Nat → Int32) × (Nat → Int32) × (Nat → Int32) × Int32)) : Option (Int32 × (Nat → Int32) × (Nat → Int32) × (Nat → Int32) × Int32) :=
  if vL53_2 ≤ vL53_3 then (kk53_214 vL53_0 vL53_1 vL53_2) else (ck vL53_3 3000 (bd (F_X9_base 36000 vL53_0 t_genus (vL53_3 * (12 : Int32)) (vL53_1 vL53_3.toNatClampNeg)) (fun x6 => if (lg_cmp x6 (0 : Int64)) < 0 then (bd (F_X9_often 36000 vL53_0 (vL53_3 * (12 : Int32)) (vL53_1 vL53_3.toNatClampNeg) (0 : Int32)) (fun x8 => if x8 = 0 then (bd (F_X9_leaves 36000 vL53_0 (vL53_3 * (12 : Int32)) (vL53_1 vL53_3.toNatClampNeg) (1 : Int32) (0 : Int32) (vL53_2 * (12 : Int32))) (fun x15 => bd (F_X9_meets vL53_2 x15 vL53_1 (vL53_2 * (12 : Int32)) ((vL53_1 vL53_3.toNatClampNeg) - (1 : Int32))) (fun x16 => ag53 (x16.1) (x16.2.1) (x16.2.2) (vL53_3 + (1 : Int32))))) else (wq4 (B_X9_met_145 vL53_1 vL53_3 (K_X9_met_145_208 vL53_3 ag53)) FU vL53_0 vL53_1 vL53_2 (1 : Int32)))) else (ag53 vL53_0 vL53_1 vL53_2 (vL53_3 + (1 : Int32))))))
noncomputable def K_X9_met_16_42 (t_genus : Int32) (t_marks : Int32) (a_t_metSizes : Nat → Int32) (x1 : Int32 × (Nat → Int32)) (vK16_42_0 : Nat → Int32) : Option (Int32 × (Nat → Int32) × (Nat → Int32) × (Nat → Int32) × Int32) :=
  bd (F_X9_meets (0 : Int32) vK16_42_0 a_t_metSizes (0 : Int32) t_marks) (fun x3 => wq4 (B_X9_met_53 t_genus (K_X9_met_53_214 x1)) FU (x3.1) (x3.2.1) (x3.2.2) (0 : Int32))
noncomputable def B_X9_met_16 (t_marks : Int32) (a_t_powers : Nat → Int32) (kk16_42 : (Nat → Int32) → Option (Int32 × (Nat → Int32) × (Nat → Int32) × (Nat → Int32) × Int32)) (vL16_0 : Nat → Int32) (vL16_1 : Int32) (ag16 : (Nat → Int32) → Int32 → Option (Int32 × (Nat → Int32) × (Nat → Int32) × (Nat → Int32) × Int32)) : Option (Int32 × (Nat → Int32) × (Nat → Int32) × (Nat → Int32) × Int32) :=
  if t_marks ≤ vL16_1 then (kk16_42 vL16_0) else (ck vL16_1 8 (ck vL16_1 36000 (ag16 (upd vL16_0 vL16_1.toNatClampNeg (a_t_powers vL16_1.toNatClampNeg)) (vL16_1 + (1 : Int32)))))
noncomputable def F_X9_met (t_genus : Int32) (t_marks : Int32) (t_metMany : Int32) (a_t_rows : Nat → Int32) (a_t_powers : Nat → Int32) (a_t_met : Nat → Int32) (a_t_metSizes : Nat → Int32) : Option (Int32 × (Nat → Int32) × (Nat → Int32) × (Nat → Int32) × Int32) :=
  bd (F_X9_ruleOf t_genus t_marks a_t_rows a_t_powers) (fun x1 => if (x1.1) = 0 then (some ((0 : Int32), (x1.2), a_t_met, a_t_metSizes, t_metMany)) else (wq2 (B_X9_met_16 t_marks a_t_powers (K_X9_met_16_42 t_genus t_marks a_t_metSizes x1)) FU a_t_met (0 : Int32)))

/-! X9_withMore -/
noncomputable def J_X9_withMore_89 (t_genus : Int32) (t_marks : Int32) (p3 : Int32) (vJ89_0 : Nat → Int32) : Option (Int64 × (Nat → Int32)) :=
  bd (F_X9_numberOf vJ89_0 t_genus (t_marks + p3)) (fun x1 => some ((x1.1), (x1.2)))
noncomputable def J_X9_withMore_69 (t_genus : Int32) (t_marks : Int32) (p2 : Int32) (p3 : Int32) (vJ69_0 : Nat → Int32) : Option (Int64 × (Nat → Int32)) :=
  if p3 ≤ (2 : Int32) then (J_X9_withMore_89 t_genus t_marks p3 vJ69_0) else (ck (t_marks + (2 : Int32)) 480 (J_X9_withMore_89 t_genus t_marks p3 (upd vJ69_0 (t_marks + (2 : Int32)).toNatClampNeg (p2 + (1 : Int32)))))
noncomputable def J_X9_withMore_49 (t_genus : Int32) (t_marks : Int32) (p1 : Int32) (p2 : Int32) (p3 : Int32) (vJ49_0 : Nat → Int32) : Option (Int64 × (Nat → Int32)) :=
  if p3 ≤ (1 : Int32) then (J_X9_withMore_69 t_genus t_marks p2 p3 vJ49_0) else (ck (t_marks + (1 : Int32)) 480 (J_X9_withMore_69 t_genus t_marks p2 p3 (upd vJ49_0 (t_marks + (1 : Int32)).toNatClampNeg (p1 + (1 : Int32)))))
noncomputable def K_X9_withMore_3_32 (t_genus : Int32) (t_marks : Int32) (p0 : Int32) (p1 : Int32) (p2 : Int32) (p3 : Int32) (vK3_32_0 : Nat → Int32) : Option (Int64 × (Nat → Int32)) :=
  if p3 ≤ 0 then (J_X9_withMore_49 t_genus t_marks p1 p2 p3 vK3_32_0) else (ck t_marks 480 (J_X9_withMore_49 t_genus t_marks p1 p2 p3 (upd vK3_32_0 t_marks.toNatClampNeg (p0 + (1 : Int32)))))
noncomputable def B_X9_withMore_3 (t_marks : Int32) (a_t_powers : Nat → Int32) (kk3_32 : (Nat → Int32) → Option (Int64 × (Nat → Int32))) (vL3_0 : Nat → Int32) (vL3_1 : Int32) (ag3 : (Nat → Int32) → Int32 → Option (Int64 × (Nat → Int32))) : Option (Int64 × (Nat → Int32)) :=
  if t_marks ≤ vL3_1 then (kk3_32 vL3_0) else (ck vL3_1 8 (ck vL3_1 480 (ag3 (upd vL3_0 vL3_1.toNatClampNeg (a_t_powers vL3_1.toNatClampNeg)) (vL3_1 + (1 : Int32)))))
noncomputable def F_X9_withMore (t_genus : Int32) (t_marks : Int32) (a_t_rows : Nat → Int32) (a_t_powers : Nat → Int32) (p0 : Int32) (p1 : Int32) (p2 : Int32) (p3 : Int32) : Option (Int64 × (Nat → Int32)) :=
  wq2 (B_X9_withMore_3 t_marks a_t_powers (K_X9_withMore_3_32 t_genus t_marks p0 p1 p2 p3)) FU a_t_rows (0 : Int32)

/-! X9_kappaOne -/
noncomputable def F_X9_kappaOne (t_genus : Int32) (t_marks : Int32) (a_t_rows : Nat → Int32) (a_t_powers : Nat → Int32) (p0 : Int32) : Option (Int64 × (Nat → Int32)) :=
  bd (F_X9_withMore t_genus t_marks a_t_rows a_t_powers p0 (0 : Int32) (0 : Int32) (1 : Int32)) (fun x1 => some ((x1.1), (x1.2)))

/-! X9_kappaTwo -/
noncomputable def F_X9_kappaTwo (t_genus : Int32) (t_marks : Int32) (a_t_rows : Nat → Int32) (a_t_powers : Nat → Int32) (p0 : Int32) (p1 : Int32) : Option (Int64 × (Nat → Int32)) :=
  bd (F_X9_withMore t_genus t_marks a_t_rows a_t_powers p0 p1 (0 : Int32) (2 : Int32)) (fun x1 => bd (F_X9_kappaOne t_genus t_marks (x1.2) a_t_powers (p0 + p1)) (fun x2 => some (((x1.1) - (x2.1)), (x2.2))))

/-! X9_kappa -/
noncomputable def J_X9_kappa_166 (t_genus : Int32) (p3 : Int32) (vJ166_0 : Nat → Int32) (vJ166_1 : Int64) : Option (Int64 × (Nat → Int32)) :=
  bd (F_X9_line t_genus) (fun x9 => bd (F_X9_part vJ166_1 x9 p3) (fun x10 => some (x10, vJ166_0)))
noncomputable def J_X9_kappa_58 (t_genus : Int32) (t_marks : Int32) (a_t_rows : Nat → Int32) (a_t_powers : Nat → Int32) (p0 : Int32) (p1 : Int32) (p2 : Int32) (p3 : Int32)  : Option (Int64 × (Nat → Int32)) :=
  bd (F_X9_in p3.toInt64 (0 : Int64) (1 : Int64)) (fun x7 => if x7 = 0 then (some ((-9223372036854775808 : Int64), a_t_rows)) else (if 0 ≤ p0 then (if 0 ≤ p1 then (if 0 ≤ p2 then (bd (F_X9_withMore t_genus t_marks a_t_rows a_t_powers p0 p1 p2 (3 : Int32)) (fun x14 => bd (F_X9_kappaTwo t_genus t_marks (x14.2) a_t_powers (p0 + p1) p2) (fun x15 => bd (F_X9_kappaTwo t_genus t_marks (x15.2) a_t_powers (p0 + p2) p1) (fun x16 => bd (F_X9_kappaTwo t_genus t_marks (x16.2) a_t_powers (p1 + p2) p0) (fun x17 => bd (F_X9_kappaOne t_genus t_marks (x17.2) a_t_powers ((p0 + p1) + p2)) (fun x18 => J_X9_kappa_166 t_genus p3 (x18.2) (((((x14.1) - (x15.1)) - (x16.1)) - (x17.1)) - ((2 : Int64) * (x18.1))))))))) else (bd (F_X9_kappaTwo t_genus t_marks a_t_rows a_t_powers p0 p1) (fun x19 => J_X9_kappa_166 t_genus p3 (x19.2) (x19.1)))) else (bd (F_X9_kappaOne t_genus t_marks a_t_rows a_t_powers p0) (fun x20 => J_X9_kappa_166 t_genus p3 (x20.2) (x20.1)))) else (bd (F_X9_numberOfMarks t_genus t_marks a_t_rows a_t_powers) (fun x21 => J_X9_kappa_166 t_genus p3 (x21.2) (x21.1)))))
noncomputable def J_X9_kappa_50 (t_genus : Int32) (t_marks : Int32) (a_t_rows : Nat → Int32) (a_t_powers : Nat → Int32) (p0 : Int32) (p1 : Int32) (p2 : Int32) (p3 : Int32)  : Option (Int64 × (Nat → Int32)) :=
  if 0 ≤ p1 then (J_X9_kappa_58 t_genus t_marks a_t_rows a_t_powers p0 p1 p2 p3) else (if 0 ≤ p2 then (some ((-9223372036854775808 : Int64), a_t_rows)) else (J_X9_kappa_58 t_genus t_marks a_t_rows a_t_powers p0 p1 p2 p3))
noncomputable def F_X9_kappa (t_genus : Int32) (t_marks : Int32) (a_t_rows : Nat → Int32) (a_t_powers : Nat → Int32) (p0 : Int32) (p1 : Int32) (p2 : Int32) (p3 : Int32) : Option (Int64 × (Nat → Int32)) :=
  bd (F_X9_in p0.toInt64 (-1 : Int64) (9 : Int64)) (fun x1 => if x1 = 0 then (some ((-9223372036854775808 : Int64), a_t_rows)) else (bd (F_X9_in p1.toInt64 (-1 : Int64) (9 : Int64)) (fun x3 => if x3 = 0 then (some ((-9223372036854775808 : Int64), a_t_rows)) else (bd (F_X9_in p2.toInt64 (-1 : Int64) (9 : Int64)) (fun x5 => if x5 = 0 then (some ((-9223372036854775808 : Int64), a_t_rows)) else (if 0 ≤ p0 then (J_X9_kappa_50 t_genus t_marks a_t_rows a_t_powers p0 p1 p2 p3) else (if 0 ≤ p1 then (some ((-9223372036854775808 : Int64), a_t_rows)) else (J_X9_kappa_50 t_genus t_marks a_t_rows a_t_powers p0 p1 p2 p3))))))))

/-! X9_isSplit -/
noncomputable def F_X9_isSplit (p0 : Int32) (p1 : Int32) : Option (Int32) :=
  bd (F_X9_in p0.toInt64 (0 : Int64) (((1 : Int32) <<< (p1 &&& 31)) - (1 : Int32)).toInt64) (fun x1 => if x1 = 0 then (some (0 : Int32)) else (if (p0 &&& (1 : Int32)) = 0 then (bd (F_X9_bits p0) (fun x4 => bd (F_X9_in x4.toInt64 (2 : Int64) (p1 - (2 : Int32)).toInt64) (fun x5 => if x5 = 0 then (some (0 : Int32)) else (some (1 : Int32))))) else (some (0 : Int32))))

/-! X9_goTogether -/
noncomputable def F_X9_goTogether (p0 : Int32) (p1 : Int32) : Option (Int32) :=
  if (p0 &&& p1) = 0 then (some (1 : Int32)) else (if (p0 &&& p1) = p0 then (some (1 : Int32)) else (if (p0 &&& p1) = p1 then (some (1 : Int32)) else (some (0 : Int32))))

/-! X9_placeOf -/
noncomputable def K_X9_placeOf_2_28   : Option (Int32) :=
  some (-2 : Int32)
noncomputable def B_X9_placeOf_2 (t_splits : Int32) (a_t_tree : Nat → Int32) (p0 : Int32) (kk2_28 : Option (Int32)) (vL2_0 : Int32) (ag2 : Int32 → Option (Int32)) : Option (Int32) :=
  if t_splits ≤ vL2_0 then (kk2_28) else (ck vL2_0 3 (if (a_t_tree vL2_0.toNatClampNeg) = p0 then (some vL2_0) else (ag2 (vL2_0 + (1 : Int32)))))
noncomputable def F_X9_placeOf (t_splits : Int32) (a_t_tree : Nat → Int32) (p0 : Int32) : Option (Int32) :=
  wq1 (B_X9_placeOf_2 t_splits a_t_tree p0 K_X9_placeOf_2_28) FU (0 : Int32)

/-! X9_mayCome -/
noncomputable def K_X9_mayCome_2_41   : Option (Int32) :=
  some (1 : Int32)
noncomputable def B_X9_mayCome_2 (t_splits : Int32) (a_t_tree : Nat → Int32) (p0 : Int32) (kk2_41 : Option (Int32)) (vL2_0 : Int32) (ag2 : Int32 → Option (Int32)) : Option (Int32) :=
  if t_splits ≤ vL2_0 then (kk2_41) else (ck vL2_0 3 (if (a_t_tree vL2_0.toNatClampNeg) = p0 then (some (0 : Int32)) else (ck vL2_0 3 (bd (F_X9_goTogether (a_t_tree vL2_0.toNatClampNeg) p0) (fun x5 => if x5 = 0 then (some (0 : Int32)) else (ag2 (vL2_0 + (1 : Int32))))))))
noncomputable def F_X9_mayCome (t_splits : Int32) (a_t_tree : Nat → Int32) (p0 : Int32) : Option (Int32) :=
  wq1 (B_X9_mayCome_2 t_splits a_t_tree p0 K_X9_mayCome_2_41) FU (0 : Int32)

/-! X9_leaves_ -/
noncomputable def F_X9_leaves_ (t_genus : Int32) (t_marks : Int32) (t_leaves : Int32) (t_splits : Int32) (t_done : Int32) (t_undone : Int32) (a_t_before : Nat → Int32) (a_t_powers : Nat → Int32) (a_t_tree : Nat → Int32) (a_t_behind : Nat → Int32) (a_t_ahead : Nat → Int32) (p0 : Int32) : Option (Int32 × (Nat → Int32) × (Nat → Int32) × (Nat → Int32) × Int32 × Int32 × Int32 × Int32) :=
  bd (F_X9_in p0.toInt64 (3 : Int64) (6 : Int64)) (fun x1 => if x1 = 0 then (some ((-1 : Int32), a_t_before, a_t_behind, a_t_ahead, t_undone, t_leaves, t_splits, t_done)) else (bd (F_X9_begins t_genus t_marks t_leaves t_splits a_t_before a_t_powers a_t_tree) (fun x3 => bd (F_X9_ends t_genus t_marks p0 (0 : Int32) t_done t_undone a_t_behind a_t_powers a_t_tree x3 a_t_ahead) (fun x4 => some (t_leaves, x3, (x4.1), (x4.2.1), (x4.2.2.1), p0, (0 : Int32), (x4.2.2.2))))))

/-! X9_comes -/
noncomputable def F_X9_comes (t_splits : Int32) (a_t_tree : Nat → Int32) (p0 : Int32) : Option ((Nat → Int32) × Int32) :=
  ck t_splits 3 (bd (F_X9_sorts 3 (upd a_t_tree t_splits.toNatClampNeg p0) (t_splits + (1 : Int32)) (1 : Int32)) (fun x2 => some (x2, (t_splits + (1 : Int32)))))

/-! X9_split -/
noncomputable def F_X9_split (t_genus : Int32) (t_marks : Int32) (t_leaves : Int32) (t_splits : Int32) (t_done : Int32) (t_undone : Int32) (a_t_tree : Nat → Int32) (a_t_before : Nat → Int32) (a_t_powers : Nat → Int32) (a_t_behind : Nat → Int32) (a_t_ahead : Nat → Int32) (p0 : Int32) : Option (Int32 × (Nat → Int32) × (Nat → Int32) × (Nat → Int32) × (Nat → Int32) × Int32 × Int32 × Int32) :=
  bd (F_X9_isSplit p0 t_leaves) (fun x1 => if x1 = 0 then (some ((-1 : Int32), a_t_tree, a_t_before, a_t_behind, a_t_ahead, t_undone, t_splits, t_done)) else (bd (F_X9_mayCome t_splits a_t_tree p0) (fun x3 => if x3 = 0 then (some ((-5 : Int32), a_t_tree, a_t_before, a_t_behind, a_t_ahead, t_undone, t_splits, t_done)) else (bd (F_X9_begins t_genus t_marks t_leaves t_splits a_t_before a_t_powers a_t_tree) (fun x5 => bd (F_X9_comes t_splits a_t_tree p0) (fun x6 => bd (F_X9_ends t_genus t_marks t_leaves (x6.2) t_done t_undone a_t_behind a_t_powers (x6.1) x5 a_t_ahead) (fun x7 => some ((x6.2), (x6.1), x5, (x7.1), (x7.2.1), (x7.2.2.1), (x6.2), (x7.2.2.2)))))))))

/-! X9_join -/
noncomputable def K_X9_join_42_70 (t_genus : Int32) (t_marks : Int32) (t_leaves : Int32) (t_splits : Int32) (t_done : Int32) (t_undone : Int32) (a_t_powers : Nat → Int32) (a_t_behind : Nat → Int32) (a_t_ahead : Nat → Int32) (x5 : (Nat → Int32)) (vK42_70_0 : Nat → Int32) : Option (Int32 × (Nat → Int32) × (Nat → Int32) × (Nat → Int32) × (Nat → Int32) × Int32 × Int32 × Int32) :=
  bd (F_X9_ends t_genus t_marks t_leaves (t_splits - (1 : Int32)) t_done t_undone a_t_behind a_t_powers vK42_70_0 x5 a_t_ahead) (fun x6 => some ((t_splits - (1 : Int32)), vK42_70_0, x5, (x6.1), (x6.2.1), (x6.2.2.1), (t_splits - (1 : Int32)), (x6.2.2.2)))
noncomputable def B_X9_join_42 (t_splits : Int32) (kk42_70 : (Nat → Int32) → Option (Int32 × (Nat → Int32) × (Nat → Int32) × (Nat → Int32) × (Nat → Int32) × Int32 × Int32 × Int32)) (vL42_0 : Nat → Int32) (vL42_1 : Int32) (ag42 : (Nat → Int32) → Int32 → Option (Int32 × (Nat → Int32) × (Nat → Int32) × (Nat → Int32) × (Nat → Int32) × Int32 × Int32 × Int32)) : Option (Int32 × (Nat → Int32) × (Nat → Int32) × (Nat → Int32) × (Nat → Int32) × Int32 × Int32 × Int32) :=
  if (t_splits - (1 : Int32)) ≤ vL42_1 then (kk42_70 vL42_0) else (ck (vL42_1 + (1 : Int32)) 3 (ck vL42_1 3 (ag42 (upd vL42_0 vL42_1.toNatClampNeg (vL42_0 (vL42_1 + (1 : Int32)).toNatClampNeg)) (vL42_1 + (1 : Int32)))))
noncomputable def F_X9_join (t_genus : Int32) (t_marks : Int32) (t_leaves : Int32) (t_splits : Int32) (t_done : Int32) (t_undone : Int32) (a_t_tree : Nat → Int32) (a_t_before : Nat → Int32) (a_t_powers : Nat → Int32) (a_t_behind : Nat → Int32) (a_t_ahead : Nat → Int32) (p0 : Int32) : Option (Int32 × (Nat → Int32) × (Nat → Int32) × (Nat → Int32) × (Nat → Int32) × Int32 × Int32 × Int32) :=
  bd (F_X9_isSplit p0 t_leaves) (fun x1 => if x1 = 0 then (some ((-1 : Int32), a_t_tree, a_t_before, a_t_behind, a_t_ahead, t_undone, t_splits, t_done)) else (bd (F_X9_placeOf t_splits a_t_tree p0) (fun x3 => if 0 ≤ x3 then (bd (F_X9_begins t_genus t_marks t_leaves t_splits a_t_before a_t_powers a_t_tree) (fun x5 => wq2 (B_X9_join_42 t_splits (K_X9_join_42_70 t_genus t_marks t_leaves t_splits t_done t_undone a_t_powers a_t_behind a_t_ahead x5)) FU a_t_tree x3)) else (some ((-5 : Int32), a_t_tree, a_t_before, a_t_behind, a_t_ahead, t_undone, t_splits, t_done)))))

/-! X9_splitAt -/
noncomputable def F_X9_splitAt (t_splits : Int32) (a_t_tree : Nat → Int32) (p0 : Int32) : Option (Int32) :=
  if 0 ≤ p0 then (if t_splits ≤ p0 then (some (-2 : Int32)) else (ck p0 3 (some (a_t_tree p0.toNatClampNeg)))) else (some (-1 : Int32))

/-! X9_may -/
noncomputable def F_X9_may (t_leaves : Int32) (t_splits : Int32) (a_t_tree : Nat → Int32) (p0 : Int32) : Option (Int32) :=
  bd (F_X9_isSplit p0 t_leaves) (fun x1 => if x1 = 0 then (some (-1 : Int32)) else (bd (F_X9_mayCome t_splits a_t_tree p0) (fun x3 => if x3 = 0 then (some (0 : Int32)) else (some (1 : Int32)))))

/-! X9_isWithin -/
noncomputable def F_X9_isWithin (p0 : Int32) (p1 : Int32) : Option (Int32) :=
  if p0 = p1 then (some (0 : Int32)) else (if (p0 &&& p1) = p0 then (some (1 : Int32)) else (some (0 : Int32)))

/-! X9_isBelow -/
noncomputable def K_X9_isBelow_22_75   : Option (Int32) :=
  some (1 : Int32)
noncomputable def B_X9_isBelow_22 (t_splits : Int32) (a_t_tree : Nat → Int32) (p0 : Int32) (p1 : Int32) (kk22_75 : Option (Int32)) (vL22_0 : Int32) (ag22 : Int32 → Option (Int32)) : Option (Int32) :=
  if t_splits ≤ vL22_0 then (kk22_75) else (ck p0 3 (ck vL22_0 3 (bd (F_X9_isWithin (a_t_tree p0.toNatClampNeg) (a_t_tree vL22_0.toNatClampNeg)) (fun x5 => if x5 = 0 then (ag22 (vL22_0 + (1 : Int32))) else (if p1 = 0 then (some (0 : Int32)) else (ck vL22_0 3 (bd (F_X9_isWithin (a_t_tree vL22_0.toNatClampNeg) p1) (fun x9 => if x9 = 0 then (ag22 (vL22_0 + (1 : Int32))) else (some (0 : Int32))))))))))
noncomputable def K_X9_isBelow_22_75x1   : Option (Int32) :=
  some (1 : Int32)
noncomputable def B_X9_isBelow_22x1 (t_splits : Int32) (a_t_tree : Nat → Int32) (p0 : Int32) (p1 : Int32) (kk22_75 : Option (Int32)) (vL22_0 : Int32) (ag22 : Int32 → Option (Int32)) : Option (Int32) :=
  if t_splits ≤ vL22_0 then (kk22_75) else (ck p0 3 (ck vL22_0 3 (bd (F_X9_isWithin (a_t_tree p0.toNatClampNeg) (a_t_tree vL22_0.toNatClampNeg)) (fun x17 => if x17 = 0 then (ag22 (vL22_0 + (1 : Int32))) else (if p1 = 0 then (some (0 : Int32)) else (ck vL22_0 3 (bd (F_X9_isWithin (a_t_tree vL22_0.toNatClampNeg) p1) (fun x21 => if x21 = 0 then (ag22 (vL22_0 + (1 : Int32))) else (some (0 : Int32))))))))))
noncomputable def F_X9_isBelow (t_splits : Int32) (a_t_tree : Nat → Int32) (p0 : Int32) (p1 : Int32) : Option (Int32) :=
  if p1 = 0 then (wq1 (B_X9_isBelow_22 t_splits a_t_tree p0 p1 K_X9_isBelow_22_75) FU (0 : Int32)) else (ck p0 3 (bd (F_X9_isWithin (a_t_tree p0.toNatClampNeg) p1) (fun x12 => if x12 = 0 then (some (0 : Int32)) else (wq1 (B_X9_isBelow_22x1 t_splits a_t_tree p0 p1 K_X9_isBelow_22_75x1) FU (0 : Int32)))))

/-! X9_edges -/
noncomputable def K_X9_edges_12_35  (vK12_35_0 : Int32) : Option (Int32) :=
  some vK12_35_0
noncomputable def B_X9_edges_12 (t_splits : Int32) (a_t_tree : Nat → Int32) (p0 : Int32) (kk12_35 : Int32 → Option (Int32)) (vL12_0 : Int32) (vL12_1 : Int32) (ag12 : Int32 → Int32 → Option (Int32)) : Option (Int32) :=
  if t_splits ≤ vL12_1 then (kk12_35 vL12_0) else (bd (F_X9_isBelow t_splits a_t_tree vL12_1 p0) (fun x3 => ag12 (vL12_0 + x3) (vL12_1 + (1 : Int32))))
noncomputable def K_X9_edges_12_35x1  (vK12_35_0 : Int32) : Option (Int32) :=
  some vK12_35_0
noncomputable def B_X9_edges_12x1 (t_splits : Int32) (a_t_tree : Nat → Int32) (p0 : Int32) (kk12_35 : Int32 → Option (Int32)) (vL12_0 : Int32) (vL12_1 : Int32) (ag12 : Int32 → Int32 → Option (Int32)) : Option (Int32) :=
  if t_splits ≤ vL12_1 then (kk12_35 vL12_0) else (bd (F_X9_isBelow t_splits a_t_tree vL12_1 p0) (fun x5 => ag12 (vL12_0 + x5) (vL12_1 + (1 : Int32))))
noncomputable def F_X9_edges (t_splits : Int32) (a_t_tree : Nat → Int32) (p0 : Int32) : Option (Int32) :=
  if p0 = 0 then (wq2 (B_X9_edges_12x1 t_splits a_t_tree p0 K_X9_edges_12_35x1) FU (0 : Int32) (0 : Int32)) else (wq2 (B_X9_edges_12 t_splits a_t_tree p0 K_X9_edges_12_35) FU (1 : Int32) (0 : Int32))

/-! X9_at -/
noncomputable def K_X9_at_19_58  (vK19_58_0 : Int32) : Option (Int32) :=
  some vK19_58_0
noncomputable def B_X9_at_19 (t_splits : Int32) (a_t_tree : Nat → Int32) (p0 : Int32) (kk19_58 : Int32 → Option (Int32)) (vL19_0 : Int32) (vL19_1 : Int32) (ag19 : Int32 → Int32 → Option (Int32)) : Option (Int32) :=
  if t_splits ≤ vL19_1 then (kk19_58 vL19_0) else (bd (F_X9_isBelow t_splits a_t_tree vL19_1 p0) (fun x3 => if x3 = (1 : Int32) then (ck vL19_1 3 (ag19 (vL19_0 &&& ((a_t_tree vL19_1.toNatClampNeg) ^^^ (-1 : Int32))) (vL19_1 + (1 : Int32)))) else (ag19 (vL19_0 &&& (-1 : Int32)) (vL19_1 + (1 : Int32)))))
noncomputable def K_X9_at_19_58x1  (vK19_58_0 : Int32) : Option (Int32) :=
  some vK19_58_0
noncomputable def B_X9_at_19x1 (t_splits : Int32) (a_t_tree : Nat → Int32) (p0 : Int32) (kk19_58 : Int32 → Option (Int32)) (vL19_0 : Int32) (vL19_1 : Int32) (ag19 : Int32 → Int32 → Option (Int32)) : Option (Int32) :=
  if t_splits ≤ vL19_1 then (kk19_58 vL19_0) else (bd (F_X9_isBelow t_splits a_t_tree vL19_1 p0) (fun x7 => if x7 = (1 : Int32) then (ck vL19_1 3 (ag19 (vL19_0 &&& ((a_t_tree vL19_1.toNatClampNeg) ^^^ (-1 : Int32))) (vL19_1 + (1 : Int32)))) else (ag19 (vL19_0 &&& (-1 : Int32)) (vL19_1 + (1 : Int32)))))
noncomputable def F_X9_at (t_leaves : Int32) (t_splits : Int32) (a_t_tree : Nat → Int32) (p0 : Int32) : Option (Int32) :=
  if p0 = 0 then (wq2 (B_X9_at_19x1 t_splits a_t_tree p0 K_X9_at_19_58x1) FU (((1 : Int32) <<< (t_leaves &&& 31)) - (1 : Int32)) (0 : Int32)) else (wq2 (B_X9_at_19 t_splits a_t_tree p0 K_X9_at_19_58) FU p0 (0 : Int32))

/-! X9_valence -/
noncomputable def J_X9_valence_32 (t_leaves : Int32) (t_splits : Int32) (a_t_tree : Nat → Int32) (p0 : Int32)  : Option (Int32) :=
  bd (F_X9_at t_leaves t_splits a_t_tree p0) (fun x1 => bd (F_X9_bits x1) (fun x2 => bd (F_X9_edges t_splits a_t_tree p0) (fun x3 => some (x2 + x3))))
noncomputable def J_X9_valence_17 (t_leaves : Int32) (t_splits : Int32) (a_t_tree : Nat → Int32) (p0 : Int32)  : Option (Int32) :=
  if p0 = 0 then (J_X9_valence_32 t_leaves t_splits a_t_tree p0) else (bd (F_X9_placeOf t_splits a_t_tree p0) (fun x5 => if 0 ≤ x5 then (J_X9_valence_32 t_leaves t_splits a_t_tree p0) else (some (-5 : Int32))))
noncomputable def F_X9_valence (t_leaves : Int32) (t_splits : Int32) (a_t_tree : Nat → Int32) (p0 : Int32) : Option (Int32) :=
  if p0 = 0 then (J_X9_valence_17 t_leaves t_splits a_t_tree p0) else (bd (F_X9_isSplit p0 t_leaves) (fun x8 => if x8 = 0 then (some (-1 : Int32)) else (J_X9_valence_17 t_leaves t_splits a_t_tree p0)))

/-! X9_finds -/
noncomputable def K_X9_finds_36_144  (vK36_144_0 : Nat → Int32) (vK36_144_1 : Int32) : Option (Int32 × (Nat → Int32) × Int32) :=
  some ((0 : Int32), vK36_144_0, vK36_144_1)
noncomputable def K_X9_finds_62_101 (rc : Int32 → (Nat → Int32) → Int32 → Int32 → Int32 → Int32 → Int32 → Option (Int32 × (Nat → Int32) × Int32)) (p0 : Int32) (p2 : Int32) (p3 : Int32) (p4 : Int32) (vL36_0 : Nat → Int32) (vL36_1 : Int32) (vL36_2 : Int32) (ag36 : (Nat → Int32) → Int32 → Int32 → Option (Int32 × (Nat → Int32) × Int32)) (vK62_101_0 : Int32) : Option (Int32 × (Nat → Int32) × Int32) :=
  if vK62_101_0 = 0 then (ag36 vL36_0 vL36_1 (vL36_2 + (1 : Int32))) else (ck p2 10 (bd (rc vL36_1 (upd vL36_0 p2.toNatClampNeg vL36_2) p0 (vL36_2 + (1 : Int32)) (p2 + (1 : Int32)) p3 p4) (fun x7 => if (x7.1) = 0 then (ag36 (x7.2.1) (x7.2.2) (vL36_2 + (1 : Int32))) else (some ((1 : Int32), (x7.2.1), (x7.2.2))))))
noncomputable def B_X9_finds_62 (p2 : Int32) (vL36_0 : Nat → Int32) (vL36_2 : Int32) (kk62_101 : Int32 → Option (Int32 × (Nat → Int32) × Int32)) (vL62_0 : Int32) (vL62_1 : Int32) (ag62 : Int32 → Int32 → Option (Int32 × (Nat → Int32) × Int32)) : Option (Int32 × (Nat → Int32) × Int32) :=
  if p2 ≤ vL62_1 then (kk62_101 vL62_0) else (if vL62_0 = 0 then (ag62 (0 : Int32) (vL62_1 + (1 : Int32))) else (ck vL62_1 10 (bd (F_X9_goTogether (vL36_0 vL62_1.toNatClampNeg) vL36_2) (fun x12 => if x12 = 0 then (ag62 (0 : Int32) (vL62_1 + (1 : Int32))) else (ag62 (1 : Int32) (vL62_1 + (1 : Int32)))))))
noncomputable def B_X9_finds_36 (rc : Int32 → (Nat → Int32) → Int32 → Int32 → Int32 → Int32 → Int32 → Option (Int32 × (Nat → Int32) × Int32)) (p0 : Int32) (p2 : Int32) (p3 : Int32) (p4 : Int32) (kk36_144 : (Nat → Int32) → Int32 → Option (Int32 × (Nat → Int32) × Int32)) (vL36_0 : Nat → Int32) (vL36_1 : Int32) (vL36_2 : Int32) (ag36 : (Nat → Int32) → Int32 → Int32 → Option (Int32 × (Nat → Int32) × Int32)) : Option (Int32 × (Nat → Int32) × Int32) :=
  if ((1 : Int32) <<< (p0 &&& 31)) ≤ vL36_2 then (kk36_144 vL36_0 vL36_1) else (bd (F_X9_isSplit vL36_2 p0) (fun x3 => if x3 = 0 then (ag36 vL36_0 vL36_1 (vL36_2 + (1 : Int32))) else (wq2 (B_X9_finds_62 p2 vL36_0 vL36_2 (K_X9_finds_62_101 rc p0 p2 p3 p4 vL36_0 vL36_1 vL36_2 ag36)) FU (1 : Int32) (0 : Int32))))
noncomputable def G_X9_finds (rc : Int32 → (Nat → Int32) → Int32 → Int32 → Int32 → Int32 → Int32 → Option (Int32 × (Nat → Int32) × Int32)) (t_treesSeen : Int32) (a_t_chosen : Nat → Int32) (p0 : Int32) (p1 : Int32) (p2 : Int32) (p3 : Int32) (p4 : Int32) : Option (Int32 × (Nat → Int32) × Int32) :=
  if p2 = p3 then (if ((t_treesSeen + (1 : Int32)) - (1 : Int32)) = p4 then (some ((1 : Int32), a_t_chosen, (t_treesSeen + (1 : Int32)))) else (some ((0 : Int32), a_t_chosen, (t_treesSeen + (1 : Int32))))) else (wq3 (B_X9_finds_36 rc p0 p2 p3 p4 K_X9_finds_36_144) FU a_t_chosen t_treesSeen p1)
noncomputable def F_X9_finds : Nat → Int32 → (Nat → Int32) → Int32 → Int32 → Int32 → Int32 → Int32 → Option (Int32 × (Nat → Int32) × Int32)
  | 0, _, _, _, _, _, _, _ => none
  | d + 1, t_treesSeen, a_t_chosen, p0, p1, p2, p3, p4 => G_X9_finds (F_X9_finds d) t_treesSeen a_t_chosen p0 p1 p2 p3 p4

/-! X9_trees -/
noncomputable def F_X9_trees (t_treesSeen : Int32) (a_t_chosen : Nat → Int32) (p0 : Int32) (p1 : Int32) : Option (Int32 × (Nat → Int32) × Int32) :=
  bd (F_X9_in p0.toInt64 (3 : Int64) (6 : Int64)) (fun x1 => if x1 = 0 then (some ((-1 : Int32), a_t_chosen, t_treesSeen)) else (bd (F_X9_in p1.toInt64 (0 : Int64) (9 : Int64)) (fun x3 => if x3 = 0 then (some ((-1 : Int32), a_t_chosen, t_treesSeen)) else (bd (F_X9_finds 8 (0 : Int32) a_t_chosen p0 (1 : Int32) (0 : Int32) p1 (-1 : Int32)) (fun x5 => some ((x5.2.2), (x5.2.1), (x5.2.2)))))))

/-! X9_tree -/
noncomputable def F_X9_tree (t_treesSeen : Int32) (a_t_chosen : Nat → Int32) (p0 : Int32) (p1 : Int32) (p2 : Int32) (p3 : Int32) : Option (Int32 × (Nat → Int32) × Int32) :=
  bd (F_X9_in p0.toInt64 (3 : Int64) (6 : Int64)) (fun x1 => if x1 = 0 then (some ((-1 : Int32), a_t_chosen, t_treesSeen)) else (bd (F_X9_in p1.toInt64 (0 : Int64) (9 : Int64)) (fun x3 => if x3 = 0 then (some ((-1 : Int32), a_t_chosen, t_treesSeen)) else (if p2 < 0 then (some ((-1 : Int32), a_t_chosen, t_treesSeen)) else (if 0 ≤ p3 then (bd (F_X9_finds 8 (0 : Int32) a_t_chosen p0 (1 : Int32) (0 : Int32) p1 p2) (fun x7 => if (x7.1) = 0 then (some ((-2 : Int32), (x7.2.1), (x7.2.2))) else (if p1 ≤ p3 then (some ((-2 : Int32), (x7.2.1), (x7.2.2))) else (ck p3 10 (some (((x7.2.1) p3.toNatClampNeg), (x7.2.1), (x7.2.2))))))) else (some ((-1 : Int32), a_t_chosen, t_treesSeen)))))))

/-! X9_without -/
noncomputable def F_X9_without (p0 : Int32) (p1 : Int32) (p2 : Int32) : Option (Int32) :=
  if (((p0 &&& (((1 : Int32) <<< (p1 &&& 31)) - (1 : Int32))) ||| ((p0 >>> ((p1 + (1 : Int32)) &&& 31)) <<< (p1 &&& 31))) &&& (1 : Int32)) = (1 : Int32) then (some ((((1 : Int32) <<< (p2 &&& 31)) - (1 : Int32)) &&& (((p0 &&& (((1 : Int32) <<< (p1 &&& 31)) - (1 : Int32))) ||| ((p0 >>> ((p1 + (1 : Int32)) &&& 31)) <<< (p1 &&& 31))) ^^^ (-1 : Int32)))) else (some ((p0 &&& (((1 : Int32) <<< (p1 &&& 31)) - (1 : Int32))) ||| ((p0 >>> ((p1 + (1 : Int32)) &&& 31)) <<< (p1 &&& 31))))

/-! X9_forget -/
noncomputable def K_X9_forget_55_112 (t_genus : Int32) (t_marks : Int32) (t_leaves : Int32) (t_done : Int32) (t_undone : Int32) (a_t_powers : Nat → Int32) (a_t_behind : Nat → Int32) (a_t_ahead : Nat → Int32) (x4 : (Nat → Int32)) (vK55_112_0 : Nat → Int32) (vK55_112_1 : Int32) : Option (Int32 × (Nat → Int32) × (Nat → Int32) × (Nat → Int32) × (Nat → Int32) × Int32 × Int32 × Int32 × Int32) :=
  bd (F_X9_ends t_genus t_marks (t_leaves - (1 : Int32)) vK55_112_1 t_done t_undone a_t_behind a_t_powers vK55_112_0 x4 a_t_ahead) (fun x5 => some (vK55_112_1, x4, vK55_112_0, (x5.1), (x5.2.1), (x5.2.2.1), (t_leaves - (1 : Int32)), vK55_112_1, (x5.2.2.2)))
noncomputable def B_X9_forget_55 (t_leaves : Int32) (t_splits : Int32) (p0 : Int32) (x4 : (Nat → Int32)) (kk55_112 : (Nat → Int32) → Int32 → Option (Int32 × (Nat → Int32) × (Nat → Int32) × (Nat → Int32) × (Nat → Int32) × Int32 × Int32 × Int32 × Int32)) (vL55_0 : Nat → Int32) (vL55_1 : Int32) (vL55_2 : Int32) (ag55 : (Nat → Int32) → Int32 → Int32 → Option (Int32 × (Nat → Int32) × (Nat → Int32) × (Nat → Int32) × (Nat → Int32) × Int32 × Int32 × Int32 × Int32)) : Option (Int32 × (Nat → Int32) × (Nat → Int32) × (Nat → Int32) × (Nat → Int32) × Int32 × Int32 × Int32 × Int32) :=
  if t_splits ≤ vL55_2 then (kk55_112 vL55_0 vL55_1) else (ck ((12 : Int32) + vL55_2) 16 (bd (F_X9_without (x4 ((12 : Int32) + vL55_2).toNatClampNeg) p0 (t_leaves - (1 : Int32))) (fun x8 => bd (F_X9_isSplit x8 (t_leaves - (1 : Int32))) (fun x9 => if x9 = 0 then (ag55 vL55_0 vL55_1 (vL55_2 + (1 : Int32))) else (bd (F_X9_placeOf vL55_1 vL55_0 x8) (fun x11 => if 0 ≤ x11 then (ag55 vL55_0 vL55_1 (vL55_2 + (1 : Int32))) else (bd (F_X9_comes vL55_1 vL55_0 x8) (fun x13 => ag55 (x13.1) (x13.2) (vL55_2 + (1 : Int32))))))))))
noncomputable def F_X9_forget (t_genus : Int32) (t_marks : Int32) (t_leaves : Int32) (t_splits : Int32) (t_done : Int32) (t_undone : Int32) (a_t_before : Nat → Int32) (a_t_powers : Nat → Int32) (a_t_tree : Nat → Int32) (a_t_behind : Nat → Int32) (a_t_ahead : Nat → Int32) (p0 : Int32) : Option (Int32 × (Nat → Int32) × (Nat → Int32) × (Nat → Int32) × (Nat → Int32) × Int32 × Int32 × Int32 × Int32) :=
  bd (F_X9_in p0.toInt64 (0 : Int64) (t_leaves - (1 : Int32)).toInt64) (fun x1 => if x1 = 0 then (some ((-1 : Int32), a_t_before, a_t_tree, a_t_behind, a_t_ahead, t_undone, t_leaves, t_splits, t_done)) else (if t_leaves = (3 : Int32) then (some ((-5 : Int32), a_t_before, a_t_tree, a_t_behind, a_t_ahead, t_undone, t_leaves, t_splits, t_done)) else (bd (F_X9_begins t_genus t_marks t_leaves t_splits a_t_before a_t_powers a_t_tree) (fun x4 => wq3 (B_X9_forget_55 t_leaves t_splits p0 x4 (K_X9_forget_55_112 t_genus t_marks t_leaves t_done t_undone a_t_powers a_t_behind a_t_ahead x4)) FU a_t_tree (0 : Int32) (0 : Int32)))))

/-! X9_numberAtNode -/
noncomputable def K_X9_numberAtNode_63_82  (vK63_82_0 : Nat → Int32) (vK63_82_1 : Int32) : Option (Int64 × (Nat → Int32)) :=
  bd (F_X9_numberOf vK63_82_0 (0 : Int32) vK63_82_1) (fun x3 => some ((x3.1), (x3.2)))
noncomputable def B_X9_numberAtNode_63 (vK11_54_1 : Int32) (x2 : Int32) (kk63_82 : (Nat → Int32) → Int32 → Option (Int64 × (Nat → Int32))) (vL63_0 : Nat → Int32) (vL63_1 : Int32) (ag63 : (Nat → Int32) → Int32 → Option (Int64 × (Nat → Int32))) : Option (Int64 × (Nat → Int32)) :=
  if (vK11_54_1 + x2) ≤ vL63_1 then (kk63_82 vL63_0 vL63_1) else (ck vL63_1 480 (ag63 (upd vL63_0 vL63_1.toNatClampNeg (0 : Int32)) (vL63_1 + (1 : Int32))))
noncomputable def K_X9_numberAtNode_11_54 (t_splits : Int32) (a_t_tree : Nat → Int32) (p0 : Int32) (vK11_54_0 : Nat → Int32) (vK11_54_1 : Int32) : Option (Int64 × (Nat → Int32)) :=
  bd (F_X9_edges t_splits a_t_tree p0) (fun x2 => wq2 (B_X9_numberAtNode_63 vK11_54_1 x2 K_X9_numberAtNode_63_82) FU vK11_54_0 vK11_54_1)
noncomputable def B_X9_numberAtNode_11 (t_leaves : Int32) (a_t_powers : Nat → Int32) (x1 : Int32) (kk11_54 : (Nat → Int32) → Int32 → Option (Int64 × (Nat → Int32))) (vL11_0 : Nat → Int32) (vL11_1 : Int32) (vL11_2 : Int32) (ag11 : (Nat → Int32) → Int32 → Int32 → Option (Int64 × (Nat → Int32))) : Option (Int64 × (Nat → Int32)) :=
  if t_leaves ≤ vL11_2 then (kk11_54 vL11_0 vL11_1) else (if ((x1 >>> (vL11_2 &&& 31)) &&& (1 : Int32)) = 0 then (ag11 vL11_0 vL11_1 (vL11_2 + (1 : Int32))) else (ck vL11_2 8 (ck vL11_1 480 (ag11 (upd vL11_0 vL11_1.toNatClampNeg (a_t_powers vL11_2.toNatClampNeg)) (vL11_1 + (1 : Int32)) (vL11_2 + (1 : Int32))))))
noncomputable def F_X9_numberAtNode (t_leaves : Int32) (t_splits : Int32) (a_t_tree : Nat → Int32) (a_t_rows : Nat → Int32) (a_t_powers : Nat → Int32) (p0 : Int32) : Option (Int64 × (Nat → Int32)) :=
  bd (F_X9_at t_leaves t_splits a_t_tree p0) (fun x1 => wq3 (B_X9_numberAtNode_11 t_leaves a_t_powers x1 (K_X9_numberAtNode_11_54 t_splits a_t_tree p0)) FU a_t_rows (0 : Int32) (0 : Int32))

/-! X9_onTree -/
noncomputable def K_X9_onTree_23_50  (vK23_50_0 : Nat → Int32) (vK23_50_1 : Int64) : Option (Int64 × (Nat → Int32)) :=
  some (vK23_50_1, vK23_50_0)
noncomputable def B_X9_onTree_23 (t_leaves : Int32) (t_splits : Int32) (a_t_tree : Nat → Int32) (a_t_powers : Nat → Int32) (kk23_50 : (Nat → Int32) → Int64 → Option (Int64 × (Nat → Int32))) (vL23_0 : Nat → Int32) (vL23_1 : Int64) (vL23_2 : Int32) (ag23 : (Nat → Int32) → Int64 → Int32 → Option (Int64 × (Nat → Int32))) : Option (Int64 × (Nat → Int32)) :=
  if t_splits ≤ vL23_2 then (kk23_50 vL23_0 vL23_1) else (ck vL23_2 3 (bd (F_X9_numberAtNode t_leaves t_splits a_t_tree vL23_0 a_t_powers (a_t_tree vL23_2.toNatClampNeg)) (fun x5 => ag23 (x5.2) (vL23_1 * (x5.1)) (vL23_2 + (1 : Int32)))))
noncomputable def F_X9_onTree (t_marks : Int32) (t_leaves : Int32) (t_splits : Int32) (a_t_tree : Nat → Int32) (a_t_rows : Nat → Int32) (a_t_powers : Nat → Int32) : Option (Int64 × (Nat → Int32)) :=
  if t_marks = t_leaves then (bd (F_X9_numberAtNode t_leaves t_splits a_t_tree a_t_rows a_t_powers (0 : Int32)) (fun x2 => wq3 (B_X9_onTree_23 t_leaves t_splits a_t_tree a_t_powers K_X9_onTree_23_50) FU (x2.2) (x2.1) (0 : Int32))) else (some ((-9223372036854775808 : Int64), a_t_rows))

/-! X9_feed -/
noncomputable def K_X9_feed_32_71  (vK32_71_0 : Nat → Int32) (vK32_71_1 : Int32) : Option (Int32 × (Nat → Int32) × Int32) :=
  some (vK32_71_1, vK32_71_0, vK32_71_1)
noncomputable def B_X9_feed_32 (p0 : Int32) (kk32_71 : (Nat → Int32) → Int32 → Option (Int32 × (Nat → Int32) × Int32)) (vL32_0 : Nat → Int32) (vL32_1 : Int32) (vL32_2 : Int32) (ag32 : (Nat → Int32) → Int32 → Int32 → Option (Int32 × (Nat → Int32) × Int32)) : Option (Int32 × (Nat → Int32) × Int32) :=
  if vL32_2 < 0 then (kk32_71 vL32_0 vL32_1) else (ck vL32_1 60 (ag32 (upd vL32_0 vL32_1.toNatClampNeg ((iush p0 ((8 : Int32) * vL32_2)) &&& (255 : Int32))) (vL32_1 + (1 : Int32)) (vL32_2 + (-1 : Int32))))
noncomputable def F_X9_feed (t_taped : Int32) (a_t_tape : Nat → Int32) (p0 : Int32) (p1 : Int32) : Option (Int32 × (Nat → Int32) × Int32) :=
  bd (F_X9_in p1.toInt64 (1 : Int64) (4 : Int64)) (fun x1 => if x1 = 0 then (some ((-1 : Int32), a_t_tape, t_taped)) else (if (t_taped + p1) ≤ (60 : Int32) then (wq3 (B_X9_feed_32 p0 K_X9_feed_32_71) FU a_t_tape t_taped (p1 - (1 : Int32))) else (some ((-3 : Int32), a_t_tape, t_taped))))

/-! X9_wipe -/
noncomputable def F_X9_wipe (t_taped : Int32) : Option (Int32 × Int32) :=
  some (t_taped, (0 : Int32))

/-! X9_here -/
noncomputable def F_X9_here (t_taped : Int32) (t_place : Int32) (a_t_tape : Nat → Int32) : Option (Int32) :=
  if t_taped ≤ t_place then (some (-1 : Int32)) else (ck t_place 60 (some (a_t_tape t_place.toNatClampNeg)))

/-! X9_isFigure -/
noncomputable def F_X9_isFigure (t_taped : Int32) (t_place : Int32) (a_t_tape : Nat → Int32) : Option (Int32) :=
  bd (F_X9_here t_taped t_place a_t_tape) (fun x1 => bd (F_X9_in x1.toInt64 (48 : Int64) (57 : Int64)) (fun x2 => some x2))

/-! X9_figure -/
noncomputable def F_X9_figure (t_taped : Int32) (t_place : Int32) (t_isWrong : Int32) (a_t_tape : Nat → Int32) : Option (Int32 × Int32 × Int32) :=
  if t_isWrong = 0 then (bd (F_X9_isFigure t_taped t_place a_t_tape) (fun x2 => if x2 = 0 then (some ((0 : Int32), t_place, (1 : Int32))) else (ck ((t_place + (1 : Int32)) - (1 : Int32)) 60 (some (((a_t_tape ((t_place + (1 : Int32)) - (1 : Int32)).toNatClampNeg) - (48 : Int32)), (t_place + (1 : Int32)), t_isWrong))))) else (some ((0 : Int32), t_place, (1 : Int32)))

/-! X9_must -/
noncomputable def J_X9_must_16 (t_place : Int32)  : Option (Int32 × Int32) :=
  some ((t_place + (0 : Int32)), (1 : Int32))
noncomputable def F_X9_must (t_taped : Int32) (t_place : Int32) (t_isWrong : Int32) (a_t_tape : Nat → Int32) (p0 : Int32) : Option (Int32 × Int32) :=
  if t_isWrong = 0 then (bd (F_X9_here t_taped t_place a_t_tape) (fun x2 => if x2 = p0 then (some ((t_place + (1 : Int32)), (0 : Int32))) else (J_X9_must_16 t_place))) else (J_X9_must_16 t_place)

/-! X9_markHere -/
noncomputable def J_X9_markHere_42 (t_place : Int32) (t_toldMarks : Int32) (a_t_powerPlaces : Nat → Int32) (a_t_toldPowers : Nat → Int32) (vJ42_0 : Int32) (vJ42_1 : Int32) (vJ42_2 : Int32) : Option ((Nat → Int32) × (Nat → Int32) × Int32 × Int32 × Int32) :=
  ck t_toldMarks 8 (some ((upd a_t_powerPlaces t_toldMarks.toNatClampNeg t_place), (upd a_t_toldPowers t_toldMarks.toNatClampNeg vJ42_2), vJ42_0, vJ42_1, (t_toldMarks + (1 : Int32))))
noncomputable def F_X9_markHere (t_taped : Int32) (t_place : Int32) (t_isWrong : Int32) (t_toldMarks : Int32) (a_t_powerPlaces : Nat → Int32) (a_t_tape : Nat → Int32) (a_t_toldPowers : Nat → Int32) : Option ((Nat → Int32) × (Nat → Int32) × Int32 × Int32 × Int32) :=
  ck t_toldMarks 8 (bd (F_X9_figure t_taped t_place t_isWrong a_t_tape) (fun x2 => if (x2.2.2) = 0 then (bd (F_X9_isFigure t_taped (x2.2.1) a_t_tape) (fun x5 => if x5 = 0 then (J_X9_markHere_42 t_place t_toldMarks a_t_powerPlaces a_t_toldPowers (x2.2.1) (x2.2.2) (x2.1)) else (bd (F_X9_figure t_taped (x2.2.1) (x2.2.2) a_t_tape) (fun x7 => J_X9_markHere_42 t_place t_toldMarks a_t_powerPlaces a_t_toldPowers (x7.2.1) (x7.2.2) (((10 : Int32) * (x2.1)) + (x7.1)))))) else (J_X9_markHere_42 t_place t_toldMarks a_t_powerPlaces a_t_toldPowers (x2.2.1) (x2.2.2) (x2.1))))

/-! X9_splitHere -/
noncomputable def K_X9_splitHere_19_86 (t_place : Int32) (t_toldSplits : Int32) (a_t_splitPlaces : Nat → Int32) (a_t_toldTree : Nat → Int32) (vK19_86_0 : Int32) (vK19_86_1 : Int32) (vK19_86_2 : Int32) : Option ((Nat → Int32) × (Nat → Int32) × Int32 × Int32 × Int32) :=
  ck t_toldSplits 3 (some ((upd a_t_splitPlaces t_toldSplits.toNatClampNeg t_place), (upd a_t_toldTree t_toldSplits.toNatClampNeg vK19_86_2), vK19_86_0, vK19_86_1, (t_toldSplits + (1 : Int32))))
noncomputable def J_X9_splitHere_69 (t_taped : Int32) (a_t_tape : Nat → Int32) (vL19_0 : Int32) (vL19_2 : Int32) (vL19_4 : Int32) (ag19 : Int32 → Int32 → Int32 → Int32 → Int32 → Option ((Nat → Int32) × (Nat → Int32) × Int32 × Int32 × Int32)) (vJ69_0 : Int32) : Option ((Nat → Int32) × (Nat → Int32) × Int32 × Int32 × Int32) :=
  bd (F_X9_figure t_taped vL19_0 vJ69_0 a_t_tape) (fun x6 => ag19 (x6.2.1) (x6.2.2) (vL19_2 ||| ((1 : Int32) <<< ((x6.1) &&& 31))) (x6.1) (vL19_4 + (1 : Int32)))
noncomputable def J_X9_splitHere_46 (t_taped : Int32) (a_t_tape : Nat → Int32) (vL19_0 : Int32) (vL19_1 : Int32) (vL19_2 : Int32) (vL19_3 : Int32) (vL19_4 : Int32) (ag19 : Int32 → Int32 → Int32 → Int32 → Int32 → Option ((Nat → Int32) × (Nat → Int32) × Int32 × Int32 × Int32))  : Option ((Nat → Int32) × (Nat → Int32) × Int32 × Int32 × Int32) :=
  bd (F_X9_isFigure t_taped vL19_0 a_t_tape) (fun x5 => if x5 = 0 then (J_X9_splitHere_69 t_taped a_t_tape vL19_0 vL19_2 vL19_4 ag19 vL19_1) else (bd (F_X9_here t_taped vL19_0 a_t_tape) (fun x8 => if vL19_3 < (x8 - (48 : Int32)) then (J_X9_splitHere_69 t_taped a_t_tape vL19_0 vL19_2 vL19_4 ag19 vL19_1) else (J_X9_splitHere_69 t_taped a_t_tape vL19_0 vL19_2 vL19_4 ag19 (1 : Int32)))))
noncomputable def B_X9_splitHere_19 (t_taped : Int32) (a_t_tape : Nat → Int32) (kk19_86 : Int32 → Int32 → Int32 → Option ((Nat → Int32) × (Nat → Int32) × Int32 × Int32 × Int32)) (vL19_0 : Int32) (vL19_1 : Int32) (vL19_2 : Int32) (vL19_3 : Int32) (vL19_4 : Int32) (ag19 : Int32 → Int32 → Int32 → Int32 → Int32 → Option ((Nat → Int32) × (Nat → Int32) × Int32 × Int32 × Int32)) : Option ((Nat → Int32) × (Nat → Int32) × Int32 × Int32 × Int32) :=
  if (4 : Int32) ≤ vL19_4 then (kk19_86 vL19_0 vL19_1 vL19_2) else (if vL19_1 = 0 then (if vL19_4 ≤ (1 : Int32) then (J_X9_splitHere_46 t_taped a_t_tape vL19_0 vL19_1 vL19_2 vL19_3 vL19_4 ag19) else (bd (F_X9_isFigure t_taped vL19_0 a_t_tape) (fun x11 => if x11 = 0 then (kk19_86 vL19_0 vL19_1 vL19_2) else (J_X9_splitHere_46 t_taped a_t_tape vL19_0 vL19_1 vL19_2 vL19_3 vL19_4 ag19)))) else (kk19_86 vL19_0 vL19_1 vL19_2))
noncomputable def F_X9_splitHere (t_taped : Int32) (t_place : Int32) (t_isWrong : Int32) (t_toldSplits : Int32) (a_t_splitPlaces : Nat → Int32) (a_t_tape : Nat → Int32) (a_t_toldTree : Nat → Int32) : Option ((Nat → Int32) × (Nat → Int32) × Int32 × Int32 × Int32) :=
  ck t_toldSplits 3 (wq5 (B_X9_splitHere_19 t_taped a_t_tape (K_X9_splitHere_19_86 t_place t_toldSplits a_t_splitPlaces a_t_toldTree)) FU t_place t_isWrong (0 : Int32) (-1 : Int32) (0 : Int32))

/-! X9_form -/
noncomputable def J_X9_form_187 (t_taped : Int32) (t_toldLeaves : Int32) (t_leavesPlace : Int32) (a_t_powerPlaces : Nat → Int32) (a_t_toldPowers : Nat → Int32) (a_t_splitPlaces : Nat → Int32) (a_t_toldTree : Nat → Int32) (x1 : Int32 × Int32 × Int32) (x2 : Int32 × Int32)  : Option ((Nat → Int32) × (Nat → Int32) × (Nat → Int32) × (Nat → Int32) × Int32 × Int32 × Int32 × Int32 × Int32 × Int32 × Int32 × Int32) :=
  if (x2.2) = 0 then (if t_taped ≤ (x2.1) then (some (a_t_powerPlaces, a_t_toldPowers, a_t_splitPlaces, a_t_toldTree, (x2.1), (0 : Int32), (x1.1), (0 : Int32), (0 : Int32), t_toldLeaves, t_leavesPlace, (0 : Int32))) else (some (a_t_powerPlaces, a_t_toldPowers, a_t_splitPlaces, a_t_toldTree, (x2.1), (1 : Int32), (x1.1), (0 : Int32), (0 : Int32), t_toldLeaves, t_leavesPlace, (0 : Int32)))) else (some (a_t_powerPlaces, a_t_toldPowers, a_t_splitPlaces, a_t_toldTree, (x2.1), (1 : Int32), (x1.1), (0 : Int32), (0 : Int32), t_toldLeaves, t_leavesPlace, (0 : Int32)))
noncomputable def K_X9_form_146_187 (t_taped : Int32) (a_t_powerPlaces : Nat → Int32) (a_t_toldPowers : Nat → Int32) (x1 : Int32 × Int32 × Int32) (x2 : Int32 × Int32) (x8 : Int32 × Int32 × Int32) (vK146_187_0 : Nat → Int32) (vK146_187_1 : Nat → Int32) (vK146_187_2 : Int32) (vK146_187_3 : Int32) (vK146_187_4 : Int32) : Option ((Nat → Int32) × (Nat → Int32) × (Nat → Int32) × (Nat → Int32) × Int32 × Int32 × Int32 × Int32 × Int32 × Int32 × Int32 × Int32) :=
  if vK146_187_3 = 0 then (if t_taped ≤ vK146_187_2 then (some (a_t_powerPlaces, a_t_toldPowers, vK146_187_0, vK146_187_1, vK146_187_2, (0 : Int32), (x1.1), (0 : Int32), (1 : Int32), (x8.1), ((x2.1) + (1 : Int32)), vK146_187_4)) else (some (a_t_powerPlaces, a_t_toldPowers, vK146_187_0, vK146_187_1, vK146_187_2, (1 : Int32), (x1.1), (0 : Int32), (1 : Int32), (x8.1), ((x2.1) + (1 : Int32)), vK146_187_4))) else (some (a_t_powerPlaces, a_t_toldPowers, vK146_187_0, vK146_187_1, vK146_187_2, (1 : Int32), (x1.1), (0 : Int32), (1 : Int32), (x8.1), ((x2.1) + (1 : Int32)), vK146_187_4))
noncomputable def B_X9_form_146 (t_taped : Int32) (a_t_tape : Nat → Int32) (kk146_187 : (Nat → Int32) → (Nat → Int32) → Int32 → Int32 → Int32 → Option ((Nat → Int32) × (Nat → Int32) × (Nat → Int32) × (Nat → Int32) × Int32 × Int32 × Int32 × Int32 × Int32 × Int32 × Int32 × Int32)) (vL146_0 : Nat → Int32) (vL146_1 : Nat → Int32) (vL146_2 : Int32) (vL146_3 : Int32) (vL146_4 : Int32) (ag146 : (Nat → Int32) → (Nat → Int32) → Int32 → Int32 → Int32 → Option ((Nat → Int32) × (Nat → Int32) × (Nat → Int32) × (Nat → Int32) × Int32 × Int32 × Int32 × Int32 × Int32 × Int32 × Int32 × Int32)) : Option ((Nat → Int32) × (Nat → Int32) × (Nat → Int32) × (Nat → Int32) × Int32 × Int32 × Int32 × Int32 × Int32 × Int32 × Int32 × Int32) :=
  if vL146_3 = 0 then (bd (F_X9_here t_taped vL146_2 a_t_tape) (fun x12 => if x12 = (59 : Int32) then (if (3 : Int32) ≤ vL146_4 then (kk146_187 vL146_0 vL146_1 vL146_2 vL146_3 vL146_4) else (bd (F_X9_splitHere t_taped (vL146_2 + (1 : Int32)) vL146_3 vL146_4 vL146_0 a_t_tape vL146_1) (fun x15 => ag146 (x15.1) (x15.2.1) (x15.2.2.1) (x15.2.2.2.1) (x15.2.2.2.2)))) else (kk146_187 vL146_0 vL146_1 vL146_2 vL146_3 vL146_4))) else (kk146_187 vL146_0 vL146_1 vL146_2 vL146_3 vL146_4)
noncomputable def J_X9_form_99 (t_taped : Int32) (t_toldLeaves : Int32) (t_leavesPlace : Int32) (a_t_tape : Nat → Int32) (a_t_powerPlaces : Nat → Int32) (a_t_toldPowers : Nat → Int32) (a_t_splitPlaces : Nat → Int32) (a_t_toldTree : Nat → Int32) (x1 : Int32 × Int32 × Int32) (x2 : Int32 × Int32)  : Option ((Nat → Int32) × (Nat → Int32) × (Nat → Int32) × (Nat → Int32) × Int32 × Int32 × Int32 × Int32 × Int32 × Int32 × Int32 × Int32) :=
  if (x2.2) = 0 then (bd (F_X9_here t_taped (x2.1) a_t_tape) (fun x6 => if x6 = (47 : Int32) then (bd (F_X9_figure t_taped ((x2.1) + (1 : Int32)) (x2.2) a_t_tape) (fun x8 => wq5 (B_X9_form_146 t_taped a_t_tape (K_X9_form_146_187 t_taped a_t_powerPlaces a_t_toldPowers x1 x2 x8)) FU a_t_splitPlaces a_t_toldTree (x8.2.1) (x8.2.2) (0 : Int32))) else (J_X9_form_187 t_taped t_toldLeaves t_leavesPlace a_t_powerPlaces a_t_toldPowers a_t_splitPlaces a_t_toldTree x1 x2))) else (J_X9_form_187 t_taped t_toldLeaves t_leavesPlace a_t_powerPlaces a_t_toldPowers a_t_splitPlaces a_t_toldTree x1 x2)
noncomputable def J_X9_form_187x1 (t_taped : Int32) (t_toldLeaves : Int32) (t_leavesPlace : Int32) (a_t_splitPlaces : Nat → Int32) (a_t_toldTree : Nat → Int32) (x1 : Int32 × Int32 × Int32) (vK57_99_0 : Nat → Int32) (vK57_99_1 : Nat → Int32) (vK57_99_2 : Int32) (vK57_99_3 : Int32) (vK57_99_4 : Int32)  : Option ((Nat → Int32) × (Nat → Int32) × (Nat → Int32) × (Nat → Int32) × Int32 × Int32 × Int32 × Int32 × Int32 × Int32 × Int32 × Int32) :=
  if vK57_99_3 = 0 then (if t_taped ≤ vK57_99_2 then (some (vK57_99_0, vK57_99_1, a_t_splitPlaces, a_t_toldTree, vK57_99_2, (0 : Int32), (x1.1), vK57_99_4, (0 : Int32), t_toldLeaves, t_leavesPlace, (0 : Int32))) else (some (vK57_99_0, vK57_99_1, a_t_splitPlaces, a_t_toldTree, vK57_99_2, (1 : Int32), (x1.1), vK57_99_4, (0 : Int32), t_toldLeaves, t_leavesPlace, (0 : Int32)))) else (some (vK57_99_0, vK57_99_1, a_t_splitPlaces, a_t_toldTree, vK57_99_2, (1 : Int32), (x1.1), vK57_99_4, (0 : Int32), t_toldLeaves, t_leavesPlace, (0 : Int32)))
noncomputable def K_X9_form_146_187x1 (t_taped : Int32) (x1 : Int32 × Int32 × Int32) (vK57_99_0 : Nat → Int32) (vK57_99_1 : Nat → Int32) (vK57_99_2 : Int32) (vK57_99_4 : Int32) (x25 : Int32 × Int32 × Int32) (vK146_187_0 : Nat → Int32) (vK146_187_1 : Nat → Int32) (vK146_187_2 : Int32) (vK146_187_3 : Int32) (vK146_187_4 : Int32) : Option ((Nat → Int32) × (Nat → Int32) × (Nat → Int32) × (Nat → Int32) × Int32 × Int32 × Int32 × Int32 × Int32 × Int32 × Int32 × Int32) :=
  if vK146_187_3 = 0 then (if t_taped ≤ vK146_187_2 then (some (vK57_99_0, vK57_99_1, vK146_187_0, vK146_187_1, vK146_187_2, (0 : Int32), (x1.1), vK57_99_4, (1 : Int32), (x25.1), (vK57_99_2 + (1 : Int32)), vK146_187_4)) else (some (vK57_99_0, vK57_99_1, vK146_187_0, vK146_187_1, vK146_187_2, (1 : Int32), (x1.1), vK57_99_4, (1 : Int32), (x25.1), (vK57_99_2 + (1 : Int32)), vK146_187_4))) else (some (vK57_99_0, vK57_99_1, vK146_187_0, vK146_187_1, vK146_187_2, (1 : Int32), (x1.1), vK57_99_4, (1 : Int32), (x25.1), (vK57_99_2 + (1 : Int32)), vK146_187_4))
noncomputable def B_X9_form_146x1 (t_taped : Int32) (a_t_tape : Nat → Int32) (kk146_187 : (Nat → Int32) → (Nat → Int32) → Int32 → Int32 → Int32 → Option ((Nat → Int32) × (Nat → Int32) × (Nat → Int32) × (Nat → Int32) × Int32 × Int32 × Int32 × Int32 × Int32 × Int32 × Int32 × Int32)) (vL146_0 : Nat → Int32) (vL146_1 : Nat → Int32) (vL146_2 : Int32) (vL146_3 : Int32) (vL146_4 : Int32) (ag146 : (Nat → Int32) → (Nat → Int32) → Int32 → Int32 → Int32 → Option ((Nat → Int32) × (Nat → Int32) × (Nat → Int32) × (Nat → Int32) × Int32 × Int32 × Int32 × Int32 × Int32 × Int32 × Int32 × Int32)) : Option ((Nat → Int32) × (Nat → Int32) × (Nat → Int32) × (Nat → Int32) × Int32 × Int32 × Int32 × Int32 × Int32 × Int32 × Int32 × Int32) :=
  if vL146_3 = 0 then (bd (F_X9_here t_taped vL146_2 a_t_tape) (fun x29 => if x29 = (59 : Int32) then (if (3 : Int32) ≤ vL146_4 then (kk146_187 vL146_0 vL146_1 vL146_2 vL146_3 vL146_4) else (bd (F_X9_splitHere t_taped (vL146_2 + (1 : Int32)) vL146_3 vL146_4 vL146_0 a_t_tape vL146_1) (fun x32 => ag146 (x32.1) (x32.2.1) (x32.2.2.1) (x32.2.2.2.1) (x32.2.2.2.2)))) else (kk146_187 vL146_0 vL146_1 vL146_2 vL146_3 vL146_4))) else (kk146_187 vL146_0 vL146_1 vL146_2 vL146_3 vL146_4)
noncomputable def K_X9_form_57_99 (t_taped : Int32) (t_toldLeaves : Int32) (t_leavesPlace : Int32) (a_t_tape : Nat → Int32) (a_t_splitPlaces : Nat → Int32) (a_t_toldTree : Nat → Int32) (x1 : Int32 × Int32 × Int32) (vK57_99_0 : Nat → Int32) (vK57_99_1 : Nat → Int32) (vK57_99_2 : Int32) (vK57_99_3 : Int32) (vK57_99_4 : Int32) : Option ((Nat → Int32) × (Nat → Int32) × (Nat → Int32) × (Nat → Int32) × Int32 × Int32 × Int32 × Int32 × Int32 × Int32 × Int32 × Int32) :=
  if vK57_99_3 = 0 then (bd (F_X9_here t_taped vK57_99_2 a_t_tape) (fun x23 => if x23 = (47 : Int32) then (bd (F_X9_figure t_taped (vK57_99_2 + (1 : Int32)) vK57_99_3 a_t_tape) (fun x25 => wq5 (B_X9_form_146x1 t_taped a_t_tape (K_X9_form_146_187x1 t_taped x1 vK57_99_0 vK57_99_1 vK57_99_2 vK57_99_4 x25)) FU a_t_splitPlaces a_t_toldTree (x25.2.1) (x25.2.2) (0 : Int32))) else (J_X9_form_187x1 t_taped t_toldLeaves t_leavesPlace a_t_splitPlaces a_t_toldTree x1 vK57_99_0 vK57_99_1 vK57_99_2 vK57_99_3 vK57_99_4))) else (J_X9_form_187x1 t_taped t_toldLeaves t_leavesPlace a_t_splitPlaces a_t_toldTree x1 vK57_99_0 vK57_99_1 vK57_99_2 vK57_99_3 vK57_99_4)
noncomputable def B_X9_form_57 (t_taped : Int32) (a_t_tape : Nat → Int32) (kk57_99 : (Nat → Int32) → (Nat → Int32) → Int32 → Int32 → Int32 → Option ((Nat → Int32) × (Nat → Int32) × (Nat → Int32) × (Nat → Int32) × Int32 × Int32 × Int32 × Int32 × Int32 × Int32 × Int32 × Int32)) (vL57_0 : Nat → Int32) (vL57_1 : Nat → Int32) (vL57_2 : Int32) (vL57_3 : Int32) (vL57_4 : Int32) (ag57 : (Nat → Int32) → (Nat → Int32) → Int32 → Int32 → Int32 → Option ((Nat → Int32) × (Nat → Int32) × (Nat → Int32) × (Nat → Int32) × Int32 × Int32 × Int32 × Int32 × Int32 × Int32 × Int32 × Int32)) : Option ((Nat → Int32) × (Nat → Int32) × (Nat → Int32) × (Nat → Int32) × Int32 × Int32 × Int32 × Int32 × Int32 × Int32 × Int32 × Int32) :=
  if vL57_3 = 0 then (bd (F_X9_here t_taped vL57_2 a_t_tape) (fun x34 => if x34 = (44 : Int32) then (if (8 : Int32) ≤ vL57_4 then (kk57_99 vL57_0 vL57_1 vL57_2 vL57_3 vL57_4) else (bd (F_X9_markHere t_taped (vL57_2 + (1 : Int32)) vL57_3 vL57_4 vL57_0 a_t_tape vL57_1) (fun x37 => ag57 (x37.1) (x37.2.1) (x37.2.2.1) (x37.2.2.2.1) (x37.2.2.2.2)))) else (kk57_99 vL57_0 vL57_1 vL57_2 vL57_3 vL57_4))) else (kk57_99 vL57_0 vL57_1 vL57_2 vL57_3 vL57_4)
noncomputable def F_X9_form (t_taped : Int32) (t_toldLeaves : Int32) (t_leavesPlace : Int32) (a_t_tape : Nat → Int32) (a_t_powerPlaces : Nat → Int32) (a_t_toldPowers : Nat → Int32) (a_t_splitPlaces : Nat → Int32) (a_t_toldTree : Nat → Int32) : Option ((Nat → Int32) × (Nat → Int32) × (Nat → Int32) × (Nat → Int32) × Int32 × Int32 × Int32 × Int32 × Int32 × Int32 × Int32 × Int32) :=
  bd (F_X9_figure t_taped (0 : Int32) (0 : Int32) a_t_tape) (fun x1 => bd (F_X9_must t_taped (x1.2.1) (x1.2.2) a_t_tape (58 : Int32)) (fun x2 => if (x2.2) = 0 then (bd (F_X9_isFigure t_taped (x2.1) a_t_tape) (fun x17 => if x17 = 0 then (J_X9_form_99 t_taped t_toldLeaves t_leavesPlace a_t_tape a_t_powerPlaces a_t_toldPowers a_t_splitPlaces a_t_toldTree x1 x2) else (bd (F_X9_markHere t_taped (x2.1) (x2.2) (0 : Int32) a_t_powerPlaces a_t_tape a_t_toldPowers) (fun x19 => wq5 (B_X9_form_57 t_taped a_t_tape (K_X9_form_57_99 t_taped t_toldLeaves t_leavesPlace a_t_tape a_t_splitPlaces a_t_toldTree x1)) FU (x19.1) (x19.2.1) (x19.2.2.1) (x19.2.2.2.1) (x19.2.2.2.2))))) else (J_X9_form_99 t_taped t_toldLeaves t_leavesPlace a_t_tape a_t_powerPlaces a_t_toldPowers a_t_splitPlaces a_t_toldTree x1 x2)))

/-! X9_wrongFigures -/
noncomputable def K_X9_wrongFigures_78_168   : Option (Int32) :=
  some (-2 : Int32)
noncomputable def K_X9_wrongFigures_111_162 (vL78_0 : Int32) (ag78 : Int32 → Option (Int32))  : Option (Int32) :=
  ag78 (vL78_0 + (1 : Int32))
noncomputable def B_X9_wrongFigures_111 (a_t_toldTree : Nat → Int32) (a_t_splitPlaces : Nat → Int32) (vL78_0 : Int32) (kk111_162 : Option (Int32)) (vL111_0 : Int32) (ag111 : Int32 → Option (Int32)) : Option (Int32) :=
  if vL78_0 ≤ vL111_0 then (kk111_162) else (ck vL111_0 3 (ck vL78_0 3 (if (a_t_toldTree vL111_0.toNatClampNeg) = (a_t_toldTree vL78_0.toNatClampNeg) then (ck vL78_0 3 (some (a_t_splitPlaces vL78_0.toNatClampNeg))) else (ck vL111_0 3 (ck vL78_0 3 (bd (F_X9_goTogether (a_t_toldTree vL111_0.toNatClampNeg) (a_t_toldTree vL78_0.toNatClampNeg)) (fun x16 => if x16 = 0 then (ck vL78_0 3 (some (a_t_splitPlaces vL78_0.toNatClampNeg))) else (ag111 (vL111_0 + (1 : Int32))))))))))
noncomputable def B_X9_wrongFigures_78 (t_toldLeaves : Int32) (t_toldSplits : Int32) (a_t_toldTree : Nat → Int32) (a_t_splitPlaces : Nat → Int32) (kk78_168 : Option (Int32)) (vL78_0 : Int32) (ag78 : Int32 → Option (Int32)) : Option (Int32) :=
  if t_toldSplits ≤ vL78_0 then (kk78_168) else (ck vL78_0 3 (bd (F_X9_isSplit (a_t_toldTree vL78_0.toNatClampNeg) t_toldLeaves) (fun x7 => if x7 = 0 then (ck vL78_0 3 (some (a_t_splitPlaces vL78_0.toNatClampNeg))) else (wq1 (B_X9_wrongFigures_111 a_t_toldTree a_t_splitPlaces vL78_0 (K_X9_wrongFigures_111_162 vL78_0 ag78)) FU (0 : Int32)))))
noncomputable def K_X9_wrongFigures_12_44 (t_isTree : Int32) (t_toldLeaves : Int32) (t_leavesPlace : Int32) (t_toldSplits : Int32) (a_t_toldTree : Nat → Int32) (a_t_splitPlaces : Nat → Int32)  : Option (Int32) :=
  if t_isTree = 0 then (some (-2 : Int32)) else (bd (F_X9_in t_toldLeaves.toInt64 (3 : Int64) (6 : Int64)) (fun x3 => if x3 = 0 then (some t_leavesPlace) else (wq1 (B_X9_wrongFigures_78 t_toldLeaves t_toldSplits a_t_toldTree a_t_splitPlaces K_X9_wrongFigures_78_168) FU (0 : Int32))))
noncomputable def B_X9_wrongFigures_12 (t_toldMarks : Int32) (a_t_toldPowers : Nat → Int32) (a_t_powerPlaces : Nat → Int32) (kk12_44 : Option (Int32)) (vL12_0 : Int32) (ag12 : Int32 → Option (Int32)) : Option (Int32) :=
  if t_toldMarks ≤ vL12_0 then (kk12_44) else (ck vL12_0 8 (if (a_t_toldPowers vL12_0.toNatClampNeg) ≤ (12 : Int32) then (ag12 (vL12_0 + (1 : Int32))) else (ck vL12_0 8 (some (a_t_powerPlaces vL12_0.toNatClampNeg)))))
noncomputable def F_X9_wrongFigures (t_toldGenus : Int32) (t_toldMarks : Int32) (t_isTree : Int32) (t_toldLeaves : Int32) (t_leavesPlace : Int32) (t_toldSplits : Int32) (a_t_toldPowers : Nat → Int32) (a_t_powerPlaces : Nat → Int32) (a_t_toldTree : Nat → Int32) (a_t_splitPlaces : Nat → Int32) : Option (Int32) :=
  if t_toldGenus ≤ (2 : Int32) then (wq1 (B_X9_wrongFigures_12 t_toldMarks a_t_toldPowers a_t_powerPlaces (K_X9_wrongFigures_12_44 t_isTree t_toldLeaves t_leavesPlace t_toldSplits a_t_toldTree a_t_splitPlaces)) FU (0 : Int32)) else (some (0 : Int32))

/-! X9_because -/
noncomputable def K_X9_because_64_122 (t_taped : Int32) (a_t_layers : Nat → Int32) (p0 : Int32) (p1 : Int32) (vK64_122_0 : Int32) : Option ((Nat → Int32) × Int32) :=
  ck (0 : Int32) 6 (ck (1 : Int32) 6 (ck (2 : Int32) 6 (ck (3 : Int32) 6 (ck (4 : Int32) 6 (ck (5 : Int32) 6 (some ((upd (upd (upd (upd (upd (upd a_t_layers (0 : Int32).toNatClampNeg (1 : Int32)) (1 : Int32).toNatClampNeg t_taped) (2 : Int32).toNatClampNeg (5 : Int32)) (3 : Int32).toNatClampNeg vK64_122_0) (4 : Int32).toNatClampNeg p0) (5 : Int32).toNatClampNeg p1), (1 : Int32))))))))
noncomputable def B_X9_because_64 (a_t_tape : Nat → Int32) (p1 : Int32) (kk64_122 : Int32 → Option ((Nat → Int32) × Int32)) (vL64_0 : Int32) (vL64_1 : Int32) (ag64 : Int32 → Int32 → Option ((Nat → Int32) × Int32)) : Option ((Nat → Int32) × Int32) :=
  if p1 ≤ vL64_1 then (kk64_122 vL64_0) else (ck vL64_1 60 (if (a_t_tape vL64_1.toNatClampNeg) = (59 : Int32) then (ag64 (vL64_0 + (1 : Int32)) (vL64_1 + (1 : Int32))) else (ag64 (vL64_0 + (0 : Int32)) (vL64_1 + (1 : Int32)))))
noncomputable def K_X9_because_64_122x1 (t_taped : Int32) (a_t_layers : Nat → Int32) (p0 : Int32) (p1 : Int32) (vK64_122_0 : Int32) : Option ((Nat → Int32) × Int32) :=
  ck (0 : Int32) 6 (ck (1 : Int32) 6 (ck (2 : Int32) 6 (ck (3 : Int32) 6 (ck (4 : Int32) 6 (ck (5 : Int32) 6 (some ((upd (upd (upd (upd (upd (upd a_t_layers (0 : Int32).toNatClampNeg (1 : Int32)) (1 : Int32).toNatClampNeg t_taped) (2 : Int32).toNatClampNeg (4 : Int32)) (3 : Int32).toNatClampNeg vK64_122_0) (4 : Int32).toNatClampNeg p0) (5 : Int32).toNatClampNeg p1), (1 : Int32))))))))
noncomputable def B_X9_because_64x1 (p1 : Int32) (kk64_122 : Int32 → Option ((Nat → Int32) × Int32)) (vL64_0 : Int32) (vL64_1 : Int32) (ag64 : Int32 → Int32 → Option ((Nat → Int32) × Int32)) : Option ((Nat → Int32) × Int32) :=
  if p1 ≤ vL64_1 then (kk64_122 vL64_0) else (ag64 (vL64_0 + (0 : Int32)) (vL64_1 + (1 : Int32)))
noncomputable def K_X9_because_64_122x2 (t_taped : Int32) (a_t_layers : Nat → Int32) (p0 : Int32) (p1 : Int32) (vK64_122_0 : Int32) : Option ((Nat → Int32) × Int32) :=
  ck (0 : Int32) 6 (ck (1 : Int32) 6 (ck (2 : Int32) 6 (ck (3 : Int32) 6 (ck (4 : Int32) 6 (ck (5 : Int32) 6 (some ((upd (upd (upd (upd (upd (upd a_t_layers (0 : Int32).toNatClampNeg (1 : Int32)) (1 : Int32).toNatClampNeg t_taped) (2 : Int32).toNatClampNeg (3 : Int32)) (3 : Int32).toNatClampNeg vK64_122_0) (4 : Int32).toNatClampNeg p0) (5 : Int32).toNatClampNeg p1), (1 : Int32))))))))
noncomputable def B_X9_because_64x2 (a_t_tape : Nat → Int32) (p1 : Int32) (kk64_122 : Int32 → Option ((Nat → Int32) × Int32)) (vL64_0 : Int32) (vL64_1 : Int32) (ag64 : Int32 → Int32 → Option ((Nat → Int32) × Int32)) : Option ((Nat → Int32) × Int32) :=
  if p1 ≤ vL64_1 then (kk64_122 vL64_0) else (ck vL64_1 60 (if (a_t_tape vL64_1.toNatClampNeg) = (44 : Int32) then (ag64 (vL64_0 + (1 : Int32)) (vL64_1 + (1 : Int32))) else (ag64 (vL64_0 + (0 : Int32)) (vL64_1 + (1 : Int32)))))
noncomputable def K_X9_because_64_122x3 (t_taped : Int32) (a_t_layers : Nat → Int32) (p0 : Int32) (p1 : Int32) (vK64_122_0 : Int32) : Option ((Nat → Int32) × Int32) :=
  ck (0 : Int32) 6 (ck (1 : Int32) 6 (ck (2 : Int32) 6 (ck (3 : Int32) 6 (ck (4 : Int32) 6 (ck (5 : Int32) 6 (some ((upd (upd (upd (upd (upd (upd a_t_layers (0 : Int32).toNatClampNeg (1 : Int32)) (1 : Int32).toNatClampNeg t_taped) (2 : Int32).toNatClampNeg (2 : Int32)) (3 : Int32).toNatClampNeg vK64_122_0) (4 : Int32).toNatClampNeg p0) (5 : Int32).toNatClampNeg p1), (1 : Int32))))))))
noncomputable def B_X9_because_64x3 (p1 : Int32) (kk64_122 : Int32 → Option ((Nat → Int32) × Int32)) (vL64_0 : Int32) (vL64_1 : Int32) (ag64 : Int32 → Int32 → Option ((Nat → Int32) × Int32)) : Option ((Nat → Int32) × Int32) :=
  if p1 ≤ vL64_1 then (kk64_122 vL64_0) else (ag64 (vL64_0 + (0 : Int32)) (vL64_1 + (1 : Int32)))
noncomputable def K_X9_because_2_27 (t_taped : Int32) (a_t_tape : Nat → Int32) (a_t_layers : Nat → Int32) (p0 : Int32) (p1 : Int32) (vK2_27_0 : Int32) : Option ((Nat → Int32) × Int32) :=
  if p1 = 0 then (wq2 (B_X9_because_64x3 p1 (K_X9_because_64_122x3 t_taped a_t_layers p0 p1)) FU (0 : Int32) (0 : Int32)) else (if vK2_27_0 < p1 then (if p1 = (vK2_27_0 + (1 : Int32)) then (wq2 (B_X9_because_64x1 p1 (K_X9_because_64_122x1 t_taped a_t_layers p0 p1)) FU (0 : Int32) (0 : Int32)) else (wq2 (B_X9_because_64 a_t_tape p1 (K_X9_because_64_122 t_taped a_t_layers p0 p1)) FU (0 : Int32) (0 : Int32))) else (wq2 (B_X9_because_64x2 a_t_tape p1 (K_X9_because_64_122x2 t_taped a_t_layers p0 p1)) FU (0 : Int32) (0 : Int32)))
noncomputable def B_X9_because_2 (t_taped : Int32) (a_t_tape : Nat → Int32) (kk2_27 : Int32 → Option ((Nat → Int32) × Int32)) (vL2_0 : Int32) (ag2 : Int32 → Option ((Nat → Int32) × Int32)) : Option ((Nat → Int32) × Int32) :=
  if t_taped ≤ vL2_0 then (kk2_27 vL2_0) else (ck vL2_0 60 (if (a_t_tape vL2_0.toNatClampNeg) = (47 : Int32) then (kk2_27 vL2_0) else (ag2 (vL2_0 + (1 : Int32)))))
noncomputable def F_X9_because (t_taped : Int32) (a_t_tape : Nat → Int32) (a_t_layers : Nat → Int32) (p0 : Int32) (p1 : Int32) : Option ((Nat → Int32) × Int32) :=
  wq1 (B_X9_because_2 t_taped a_t_tape (K_X9_because_2_27 t_taped a_t_tape a_t_layers p0 p1)) FU (0 : Int32)

/-! X9_read -/
noncomputable def J_X9_read_161 (t_leaves : Int32) (t_splits : Int32) (t_done : Int32) (t_undone : Int32) (t_isWhy : Int32) (a_t_tree : Nat → Int32) (a_t_layers : Nat → Int32) (a_t_behind : Nat → Int32) (a_t_ahead : Nat → Int32) (x1 : (Nat → Int32) × (Nat → Int32) × (Nat → Int32) × (Nat → Int32) × Int32 × Int32 × Int32 × Int32 × Int32 × Int32 × Int32 × Int32) (x5 : (Nat → Int32)) (vK89_115_0 : Nat → Int32)  : Option (Int32 × (Nat → Int32) × (Nat → Int32) × (Nat → Int32) × (Nat → Int32) × (Nat → Int32) × (Nat → Int32) × (Nat → Int32) × (Nat → Int32) × (Nat → Int32) × (Nat → Int32) × Int32 × Int32 × Int32 × Int32 × Int32 × Int32 × Int32 × Int32 × Int32 × Int32 × Int32 × Int32 × Int32 × Int32 × Int32 × Int32) :=
  bd (F_X9_ends (x1.2.2.2.2.2.2.1) (x1.2.2.2.2.2.2.2.1) t_leaves t_splits t_done t_undone a_t_behind vK89_115_0 a_t_tree x5 a_t_ahead) (fun x6 => some ((x1.2.2.2.2.2.2.2.1), (x6.1), (x6.2.1), (x1.1), (x1.2.1), (x1.2.2.1), (x1.2.2.2.1), x5, vK89_115_0, a_t_tree, a_t_layers, (x1.2.2.2.2.2.2.1), (x1.2.2.2.2.2.2.2.1), (x6.2.2.1), (0 : Int32), (x1.2.2.2.2.1), (x1.2.2.2.2.2.1), (x1.2.2.2.2.2.2.1), (x1.2.2.2.2.2.2.2.1), (x1.2.2.2.2.2.2.2.2.1), (x1.2.2.2.2.2.2.2.2.2.1), (x1.2.2.2.2.2.2.2.2.2.2.1), (x1.2.2.2.2.2.2.2.2.2.2.2), t_leaves, t_isWhy, t_splits, (x6.2.2.2)))
noncomputable def K_X9_read_137_161 (t_done : Int32) (t_undone : Int32) (t_isWhy : Int32) (a_t_layers : Nat → Int32) (a_t_behind : Nat → Int32) (a_t_ahead : Nat → Int32) (x1 : (Nat → Int32) × (Nat → Int32) × (Nat → Int32) × (Nat → Int32) × Int32 × Int32 × Int32 × Int32 × Int32 × Int32 × Int32 × Int32) (x5 : (Nat → Int32)) (vK89_115_0 : Nat → Int32) (vK137_161_0 : Nat → Int32) (vK137_161_1 : Int32) : Option (Int32 × (Nat → Int32) × (Nat → Int32) × (Nat → Int32) × (Nat → Int32) × (Nat → Int32) × (Nat → Int32) × (Nat → Int32) × (Nat → Int32) × (Nat → Int32) × (Nat → Int32) × Int32 × Int32 × Int32 × Int32 × Int32 × Int32 × Int32 × Int32 × Int32 × Int32 × Int32 × Int32 × Int32 × Int32 × Int32 × Int32) :=
  bd (F_X9_ends (x1.2.2.2.2.2.2.1) (x1.2.2.2.2.2.2.2.1) (x1.2.2.2.2.2.2.2.2.2.1) vK137_161_1 t_done t_undone a_t_behind vK89_115_0 vK137_161_0 x5 a_t_ahead) (fun x8 => some ((x1.2.2.2.2.2.2.2.1), (x8.1), (x8.2.1), (x1.1), (x1.2.1), (x1.2.2.1), (x1.2.2.2.1), x5, vK89_115_0, vK137_161_0, a_t_layers, (x1.2.2.2.2.2.2.1), (x1.2.2.2.2.2.2.2.1), (x8.2.2.1), (0 : Int32), (x1.2.2.2.2.1), (x1.2.2.2.2.2.1), (x1.2.2.2.2.2.2.1), (x1.2.2.2.2.2.2.2.1), (x1.2.2.2.2.2.2.2.2.1), (x1.2.2.2.2.2.2.2.2.2.1), (x1.2.2.2.2.2.2.2.2.2.2.1), (x1.2.2.2.2.2.2.2.2.2.2.2), (x1.2.2.2.2.2.2.2.2.2.1), t_isWhy, vK137_161_1, (x8.2.2.2)))
noncomputable def B_X9_read_137 (x1 : (Nat → Int32) × (Nat → Int32) × (Nat → Int32) × (Nat → Int32) × Int32 × Int32 × Int32 × Int32 × Int32 × Int32 × Int32 × Int32) (kk137_161 : (Nat → Int32) → Int32 → Option (Int32 × (Nat → Int32) × (Nat → Int32) × (Nat → Int32) × (Nat → Int32) × (Nat → Int32) × (Nat → Int32) × (Nat → Int32) × (Nat → Int32) × (Nat → Int32) × (Nat → Int32) × Int32 × Int32 × Int32 × Int32 × Int32 × Int32 × Int32 × Int32 × Int32 × Int32 × Int32 × Int32 × Int32 × Int32 × Int32 × Int32)) (vL137_0 : Nat → Int32) (vL137_1 : Int32) (vL137_2 : Int32) (ag137 : (Nat → Int32) → Int32 → Int32 → Option (Int32 × (Nat → Int32) × (Nat → Int32) × (Nat → Int32) × (Nat → Int32) × (Nat → Int32) × (Nat → Int32) × (Nat → Int32) × (Nat → Int32) × (Nat → Int32) × (Nat → Int32) × Int32 × Int32 × Int32 × Int32 × Int32 × Int32 × Int32 × Int32 × Int32 × Int32 × Int32 × Int32 × Int32 × Int32 × Int32 × Int32)) : Option (Int32 × (Nat → Int32) × (Nat → Int32) × (Nat → Int32) × (Nat → Int32) × (Nat → Int32) × (Nat → Int32) × (Nat → Int32) × (Nat → Int32) × (Nat → Int32) × (Nat → Int32) × Int32 × Int32 × Int32 × Int32 × Int32 × Int32 × Int32 × Int32 × Int32 × Int32 × Int32 × Int32 × Int32 × Int32 × Int32 × Int32) :=
  if (x1.2.2.2.2.2.2.2.2.2.2.2) ≤ vL137_2 then (kk137_161 vL137_0 vL137_1) else (ck vL137_2 3 (bd (F_X9_comes vL137_1 vL137_0 ((x1.2.2.2.1) vL137_2.toNatClampNeg)) (fun x11 => ag137 (x11.1) (x11.2) (vL137_2 + (1 : Int32)))))
noncomputable def K_X9_read_89_115 (t_leaves : Int32) (t_splits : Int32) (t_done : Int32) (t_undone : Int32) (t_isWhy : Int32) (a_t_tree : Nat → Int32) (a_t_layers : Nat → Int32) (a_t_behind : Nat → Int32) (a_t_ahead : Nat → Int32) (x1 : (Nat → Int32) × (Nat → Int32) × (Nat → Int32) × (Nat → Int32) × Int32 × Int32 × Int32 × Int32 × Int32 × Int32 × Int32 × Int32) (x5 : (Nat → Int32)) (vK89_115_0 : Nat → Int32) : Option (Int32 × (Nat → Int32) × (Nat → Int32) × (Nat → Int32) × (Nat → Int32) × (Nat → Int32) × (Nat → Int32) × (Nat → Int32) × (Nat → Int32) × (Nat → Int32) × (Nat → Int32) × Int32 × Int32 × Int32 × Int32 × Int32 × Int32 × Int32 × Int32 × Int32 × Int32 × Int32 × Int32 × Int32 × Int32 × Int32 × Int32) :=
  if (x1.2.2.2.2.2.2.2.2.1) = 0 then (J_X9_read_161 t_leaves t_splits t_done t_undone t_isWhy a_t_tree a_t_layers a_t_behind a_t_ahead x1 x5 vK89_115_0) else (wq3 (B_X9_read_137 x1 (K_X9_read_137_161 t_done t_undone t_isWhy a_t_layers a_t_behind a_t_ahead x1 x5 vK89_115_0)) FU a_t_tree (0 : Int32) (0 : Int32))
noncomputable def B_X9_read_89 (x1 : (Nat → Int32) × (Nat → Int32) × (Nat → Int32) × (Nat → Int32) × Int32 × Int32 × Int32 × Int32 × Int32 × Int32 × Int32 × Int32) (kk89_115 : (Nat → Int32) → Option (Int32 × (Nat → Int32) × (Nat → Int32) × (Nat → Int32) × (Nat → Int32) × (Nat → Int32) × (Nat → Int32) × (Nat → Int32) × (Nat → Int32) × (Nat → Int32) × (Nat → Int32) × Int32 × Int32 × Int32 × Int32 × Int32 × Int32 × Int32 × Int32 × Int32 × Int32 × Int32 × Int32 × Int32 × Int32 × Int32 × Int32)) (vL89_0 : Nat → Int32) (vL89_1 : Int32) (ag89 : (Nat → Int32) → Int32 → Option (Int32 × (Nat → Int32) × (Nat → Int32) × (Nat → Int32) × (Nat → Int32) × (Nat → Int32) × (Nat → Int32) × (Nat → Int32) × (Nat → Int32) × (Nat → Int32) × (Nat → Int32) × Int32 × Int32 × Int32 × Int32 × Int32 × Int32 × Int32 × Int32 × Int32 × Int32 × Int32 × Int32 × Int32 × Int32 × Int32 × Int32)) : Option (Int32 × (Nat → Int32) × (Nat → Int32) × (Nat → Int32) × (Nat → Int32) × (Nat → Int32) × (Nat → Int32) × (Nat → Int32) × (Nat → Int32) × (Nat → Int32) × (Nat → Int32) × Int32 × Int32 × Int32 × Int32 × Int32 × Int32 × Int32 × Int32 × Int32 × Int32 × Int32 × Int32 × Int32 × Int32 × Int32 × Int32) :=
  if (x1.2.2.2.2.2.2.2.1) ≤ vL89_1 then (kk89_115 vL89_0) else (ck vL89_1 8 (ck vL89_1 8 (ag89 (upd vL89_0 vL89_1.toNatClampNeg ((x1.2.1) vL89_1.toNatClampNeg)) (vL89_1 + (1 : Int32)))))
noncomputable def F_X9_read (t_genus : Int32) (t_marks : Int32) (t_leaves : Int32) (t_splits : Int32) (t_done : Int32) (t_undone : Int32) (t_taped : Int32) (t_toldLeaves : Int32) (t_leavesPlace : Int32) (t_isWhy : Int32) (a_t_tape : Nat → Int32) (a_t_powerPlaces : Nat → Int32) (a_t_toldPowers : Nat → Int32) (a_t_splitPlaces : Nat → Int32) (a_t_toldTree : Nat → Int32) (a_t_before : Nat → Int32) (a_t_powers : Nat → Int32) (a_t_tree : Nat → Int32) (a_t_layers : Nat → Int32) (a_t_behind : Nat → Int32) (a_t_ahead : Nat → Int32) : Option (Int32 × (Nat → Int32) × (Nat → Int32) × (Nat → Int32) × (Nat → Int32) × (Nat → Int32) × (Nat → Int32) × (Nat → Int32) × (Nat → Int32) × (Nat → Int32) × (Nat → Int32) × Int32 × Int32 × Int32 × Int32 × Int32 × Int32 × Int32 × Int32 × Int32 × Int32 × Int32 × Int32 × Int32 × Int32 × Int32 × Int32) :=
  bd (F_X9_form t_taped t_toldLeaves t_leavesPlace a_t_tape a_t_powerPlaces a_t_toldPowers a_t_splitPlaces a_t_toldTree) (fun x1 => if (x1.2.2.2.2.2.1) = 0 then (bd (F_X9_wrongFigures (x1.2.2.2.2.2.2.1) (x1.2.2.2.2.2.2.2.1) (x1.2.2.2.2.2.2.2.2.1) (x1.2.2.2.2.2.2.2.2.2.1) (x1.2.2.2.2.2.2.2.2.2.2.1) (x1.2.2.2.2.2.2.2.2.2.2.2) (x1.2.1) (x1.1) (x1.2.2.2.1) (x1.2.2.1)) (fun x3 => if x3 < 0 then (bd (F_X9_begins t_genus t_marks t_leaves t_splits a_t_before a_t_powers a_t_tree) (fun x5 => wq2 (B_X9_read_89 x1 (K_X9_read_89_115 t_leaves t_splits t_done t_undone t_isWhy a_t_tree a_t_layers a_t_behind a_t_ahead x1 x5)) FU a_t_powers (0 : Int32))) else (bd (F_X9_because t_taped a_t_tape a_t_layers (7 : Int32) x3) (fun x15 => some (((-2000 : Int32) - x3), a_t_behind, a_t_ahead, (x1.1), (x1.2.1), (x1.2.2.1), (x1.2.2.2.1), a_t_before, a_t_powers, a_t_tree, (x15.1), t_genus, t_marks, t_undone, (0 : Int32), (x1.2.2.2.2.1), (x1.2.2.2.2.2.1), (x1.2.2.2.2.2.2.1), (x1.2.2.2.2.2.2.2.1), (x1.2.2.2.2.2.2.2.2.1), (x1.2.2.2.2.2.2.2.2.2.1), (x1.2.2.2.2.2.2.2.2.2.2.1), (x1.2.2.2.2.2.2.2.2.2.2.2), t_leaves, (x15.2), t_splits, t_done))))) else (bd (F_X9_because t_taped a_t_tape a_t_layers (6 : Int32) (x1.2.2.2.2.1)) (fun x16 => some (((-1000 : Int32) - (x1.2.2.2.2.1)), a_t_behind, a_t_ahead, (x1.1), (x1.2.1), (x1.2.2.1), (x1.2.2.2.1), a_t_before, a_t_powers, a_t_tree, (x16.1), t_genus, t_marks, t_undone, (0 : Int32), (x1.2.2.2.2.1), (x1.2.2.2.2.2.1), (x1.2.2.2.2.2.2.1), (x1.2.2.2.2.2.2.2.1), (x1.2.2.2.2.2.2.2.2.1), (x1.2.2.2.2.2.2.2.2.2.1), (x1.2.2.2.2.2.2.2.2.2.2.1), (x1.2.2.2.2.2.2.2.2.2.2.2), t_leaves, (x16.2), t_splits, t_done))))

/-! X9_why -/
noncomputable def F_X9_why (t_isWhy : Int32) (a_t_layers : Nat → Int32) (p0 : Int32) (p1 : Int32) : Option (Int32) :=
  bd (F_X9_in p0.toInt64 (0 : Int64) (2 : Int64)) (fun x1 => if x1 = 0 then (some (-1 : Int32)) else (bd (F_X9_in p1.toInt64 (0 : Int64) (1 : Int64)) (fun x3 => if x3 = 0 then (some (-1 : Int32)) else (if t_isWhy = 0 then (some (-2 : Int32)) else (ck (((2 : Int32) * p0) + p1) 6 (some (a_t_layers (((2 : Int32) * p0) + p1).toNatClampNeg)))))))

/-! X9_writes -/
noncomputable def F_X9_writes (t_papered : Int32) (a_t_paper : Nat → Int32) (p0 : Int32) : Option ((Nat → Int32) × Int32) :=
  ck t_papered 80 (some ((upd a_t_paper t_papered.toNatClampNeg p0), (t_papered + (1 : Int32))))

/-! X9_spells -/
noncomputable def K_X9_spells_100_158  (vK100_158_0 : Nat → Int32) (vK100_158_1 : Int32) : Option ((Nat → Int32) × Int32) :=
  some (vK100_158_0, vK100_158_1)
noncomputable def K_X9_spells_116_152 (vL100_2 : Int32) (ag100 : (Nat → Int32) → Int32 → Int32 → Option ((Nat → Int32) × Int32)) (vK116_152_0 : Nat → Int32) (vK116_152_1 : Int32) : Option ((Nat → Int32) × Int32) :=
  ag100 vK116_152_0 vK116_152_1 (vL100_2 + (1 : Int32))
noncomputable def B_X9_spells_116 (t_leaves : Int32) (a_t_tree : Nat → Int32) (vL100_2 : Int32) (kk116_152 : (Nat → Int32) → Int32 → Option ((Nat → Int32) × Int32)) (vL116_0 : Nat → Int32) (vL116_1 : Int32) (vL116_2 : Int32) (ag116 : (Nat → Int32) → Int32 → Int32 → Option ((Nat → Int32) × Int32)) : Option ((Nat → Int32) × Int32) :=
  if t_leaves ≤ vL116_2 then (kk116_152 vL116_0 vL116_1) else (ck vL100_2 3 (if (((a_t_tree vL100_2.toNatClampNeg) >>> (vL116_2 &&& 31)) &&& (1 : Int32)) = (1 : Int32) then (bd (F_X9_writes vL116_1 vL116_0 ((48 : Int32) + vL116_2)) (fun x10 => ag116 (x10.1) (x10.2) (vL116_2 + (1 : Int32)))) else (ag116 vL116_0 vL116_1 (vL116_2 + (1 : Int32)))))
noncomputable def B_X9_spells_100 (t_leaves : Int32) (t_splits : Int32) (a_t_tree : Nat → Int32) (kk100_158 : (Nat → Int32) → Int32 → Option ((Nat → Int32) × Int32)) (vL100_0 : Nat → Int32) (vL100_1 : Int32) (vL100_2 : Int32) (ag100 : (Nat → Int32) → Int32 → Int32 → Option ((Nat → Int32) × Int32)) : Option ((Nat → Int32) × Int32) :=
  if t_splits ≤ vL100_2 then (kk100_158 vL100_0 vL100_1) else (bd (F_X9_writes vL100_1 vL100_0 (59 : Int32)) (fun x6 => wq3 (B_X9_spells_116 t_leaves a_t_tree vL100_2 (K_X9_spells_116_152 vL100_2 ag100)) FU (x6.1) (x6.2) (0 : Int32)))
noncomputable def K_X9_spells_24_81 (t_leaves : Int32) (t_splits : Int32) (a_t_tree : Nat → Int32) (vK24_81_0 : Nat → Int32) (vK24_81_1 : Int32) : Option ((Nat → Int32) × Int32) :=
  bd (F_X9_writes vK24_81_1 vK24_81_0 (47 : Int32)) (fun x3 => bd (F_X9_writes (x3.2) (x3.1) ((48 : Int32) + t_leaves)) (fun x4 => wq3 (B_X9_spells_100 t_leaves t_splits a_t_tree K_X9_spells_100_158) FU (x4.1) (x4.2) (0 : Int32)))
noncomputable def J_X9_spells_59 (a_t_powers : Nat → Int32) (vL24_2 : Int32) (ag24 : (Nat → Int32) → Int32 → Int32 → Option ((Nat → Int32) × Int32)) (vJ59_0 : Nat → Int32) (vJ59_1 : Int32) : Option ((Nat → Int32) × Int32) :=
  ck vL24_2 8 (bd (F_X9_writes vJ59_1 vJ59_0 ((48 : Int32) + ((a_t_powers vL24_2.toNatClampNeg) - (a_t_powers vL24_2.toNatClampNeg) / (10 : Int32) * (10 : Int32)))) (fun x14 => ag24 (x14.1) (x14.2) (vL24_2 + (1 : Int32))))
noncomputable def J_X9_spells_42 (a_t_powers : Nat → Int32) (vL24_2 : Int32) (ag24 : (Nat → Int32) → Int32 → Int32 → Option ((Nat → Int32) × Int32)) (vJ42_0 : Nat → Int32) (vJ42_1 : Int32) : Option ((Nat → Int32) × Int32) :=
  ck vL24_2 8 (if (a_t_powers vL24_2.toNatClampNeg) ≤ (9 : Int32) then (J_X9_spells_59 a_t_powers vL24_2 ag24 vJ42_0 vJ42_1) else (bd (F_X9_writes vJ42_1 vJ42_0 (49 : Int32)) (fun x16 => J_X9_spells_59 a_t_powers vL24_2 ag24 (x16.1) (x16.2))))
noncomputable def B_X9_spells_24 (t_marks : Int32) (a_t_powers : Nat → Int32) (kk24_81 : (Nat → Int32) → Int32 → Option ((Nat → Int32) × Int32)) (vL24_0 : Nat → Int32) (vL24_1 : Int32) (vL24_2 : Int32) (ag24 : (Nat → Int32) → Int32 → Int32 → Option ((Nat → Int32) × Int32)) : Option ((Nat → Int32) × Int32) :=
  if t_marks ≤ vL24_2 then (kk24_81 vL24_0 vL24_1) else (if vL24_2 ≤ 0 then (J_X9_spells_42 a_t_powers vL24_2 ag24 vL24_0 vL24_1) else (bd (F_X9_writes vL24_1 vL24_0 (44 : Int32)) (fun x18 => J_X9_spells_42 a_t_powers vL24_2 ag24 (x18.1) (x18.2))))
noncomputable def F_X9_spells (t_genus : Int32) (t_marks : Int32) (t_leaves : Int32) (t_splits : Int32) (a_t_paper : Nat → Int32) (a_t_powers : Nat → Int32) (a_t_tree : Nat → Int32) : Option ((Nat → Int32) × Int32) :=
  bd (F_X9_writes (0 : Int32) a_t_paper ((48 : Int32) + t_genus)) (fun x1 => bd (F_X9_writes (x1.2) (x1.1) (58 : Int32)) (fun x2 => wq3 (B_X9_spells_24 t_marks a_t_powers (K_X9_spells_24_81 t_leaves t_splits a_t_tree)) FU (x2.1) (x2.2) (0 : Int32)))

/-! X9_spell -/
noncomputable def F_X9_spell (t_genus : Int32) (t_marks : Int32) (t_leaves : Int32) (t_splits : Int32) (t_papered : Int32) (a_t_paper : Nat → Int32) (a_t_powers : Nat → Int32) (a_t_tree : Nat → Int32) (p0 : Int32) : Option (Int32 × (Nat → Int32) × Int32) :=
  if (-1 : Int32) ≤ p0 then (bd (F_X9_spells t_genus t_marks t_leaves t_splits a_t_paper a_t_powers a_t_tree) (fun x2 => if p0 = (-1 : Int32) then (some ((x2.2), (x2.1), (x2.2))) else (if (x2.2) ≤ p0 then (some ((-2 : Int32), (x2.1), (x2.2))) else (ck p0 80 (some (((x2.1) p0.toNatClampNeg), (x2.1), (x2.2))))))) else (some ((-1 : Int32), a_t_paper, t_papered))

/-! X9_isHolder -/
noncomputable def F_X9_isHolder (p0 : Int32) : Option (Int32) :=
  bd (F_X9_in p0.toInt64 (0 : Int64) (5 : Int64)) (fun x1 => some x1)

/-! X9_hold -/
noncomputable def K_X9_hold_110_141 (t_leaves : Int32) (t_splits : Int32) (a_t_held : Nat → Int32) (a_t_heldLeaves : Nat → Int32) (a_t_sizes : Nat → Int32) (a_t_numbers : Nat → Int64) (a_t_rows : Nat → Int32) (p0 : Int32) (p1 : Int32) (vK110_141_0 : Nat → Int32) : Option (Int32 × (Nat → Int32) × (Nat → Int32) × (Nat → Int32) × (Nat → Int32) × (Nat → Int64) × (Nat → Int32)) :=
  some (t_splits, (upd a_t_held p0.toNatClampNeg (p1 + (1 : Int32))), (upd a_t_heldLeaves p0.toNatClampNeg t_leaves), (upd a_t_sizes p0.toNatClampNeg t_splits), vK110_141_0, a_t_numbers, a_t_rows)
noncomputable def B_X9_hold_110 (t_splits : Int32) (a_t_tree : Nat → Int32) (p0 : Int32) (kk110_141 : (Nat → Int32) → Option (Int32 × (Nat → Int32) × (Nat → Int32) × (Nat → Int32) × (Nat → Int32) × (Nat → Int64) × (Nat → Int32))) (vL110_0 : Nat → Int32) (vL110_1 : Int32) (ag110 : (Nat → Int32) → Int32 → Option (Int32 × (Nat → Int32) × (Nat → Int32) × (Nat → Int32) × (Nat → Int32) × (Nat → Int64) × (Nat → Int32))) : Option (Int32 × (Nat → Int32) × (Nat → Int32) × (Nat → Int32) × (Nat → Int32) × (Nat → Int64) × (Nat → Int32)) :=
  if t_splits ≤ vL110_1 then (kk110_141 vL110_0) else (ck vL110_1 3 (ck (((20 : Int32) * p0) + vL110_1) 120 (ag110 (upd vL110_0 (((20 : Int32) * p0) + vL110_1).toNatClampNeg (a_t_tree vL110_1.toNatClampNeg)) (vL110_1 + (1 : Int32)))))
noncomputable def F_X9_hold (t_genus : Int32) (t_marks : Int32) (t_leaves : Int32) (t_splits : Int32) (a_t_held : Nat → Int32) (a_t_heldLeaves : Nat → Int32) (a_t_sizes : Nat → Int32) (a_t_items : Nat → Int32) (a_t_tree : Nat → Int32) (a_t_numbers : Nat → Int64) (a_t_rows : Nat → Int32) (a_t_powers : Nat → Int32) (p0 : Int32) (p1 : Int32) : Option (Int32 × (Nat → Int32) × (Nat → Int32) × (Nat → Int32) × (Nat → Int32) × (Nat → Int64) × (Nat → Int32)) :=
  bd (F_X9_isHolder p0) (fun x1 => if x1 = 0 then (some ((-1 : Int32), a_t_held, a_t_heldLeaves, a_t_sizes, a_t_items, a_t_numbers, a_t_rows)) else (bd (F_X9_in p1.toInt64 (0 : Int64) (1 : Int64)) (fun x3 => if x3 = 0 then (some ((-1 : Int32), a_t_held, a_t_heldLeaves, a_t_sizes, a_t_items, a_t_numbers, a_t_rows)) else (ck p0 6 (if p1 = 0 then (bd (F_X9_number t_genus t_marks a_t_rows a_t_powers (0 : Int32)) (fun x12 => ck p0 6 (ck p0 6 (if 0 ≤ (lg_cmp ((vp_updL a_t_numbers p0.toNatClampNeg ((x12.1) - (x12.1) / (1000003 : Int64) * (1000003 : Int64))) p0.toNatClampNeg) (0 : Int64)) then (ck p0 6 (ck p0 6 (some (t_marks, (upd a_t_held p0.toNatClampNeg (p1 + (1 : Int32))), a_t_heldLeaves, a_t_sizes, a_t_items, (vp_updL (vp_updL a_t_numbers p0.toNatClampNeg ((x12.1) - (x12.1) / (1000003 : Int64) * (1000003 : Int64))) p0.toNatClampNeg ((vp_updL a_t_numbers p0.toNatClampNeg ((x12.1) - (x12.1) / (1000003 : Int64) * (1000003 : Int64))) p0.toNatClampNeg)), (x12.2))))) else (ck p0 6 (ck p0 6 (some (t_marks, (upd a_t_held p0.toNatClampNeg (p1 + (1 : Int32))), a_t_heldLeaves, a_t_sizes, a_t_items, (vp_updL (vp_updL a_t_numbers p0.toNatClampNeg ((x12.1) - (x12.1) / (1000003 : Int64) * (1000003 : Int64))) p0.toNatClampNeg (((vp_updL a_t_numbers p0.toNatClampNeg ((x12.1) - (x12.1) / (1000003 : Int64) * (1000003 : Int64))) p0.toNatClampNeg) + (1000003 : Int64))), (x12.2))))))))) else (ck p0 6 (ck p0 6 (wq2 (B_X9_hold_110 t_splits a_t_tree p0 (K_X9_hold_110_141 t_leaves t_splits a_t_held a_t_heldLeaves a_t_sizes a_t_numbers a_t_rows p0 p1)) FU a_t_items (0 : Int32)))))))))

/-! X9_lose -/
noncomputable def F_X9_lose (a_t_held : Nat → Int32) (p0 : Int32) : Option (Int32 × (Nat → Int32)) :=
  bd (F_X9_isHolder p0) (fun x1 => if x1 = 0 then (some ((-1 : Int32), a_t_held)) else (ck p0 6 (ck p0 6 (some ((a_t_held p0.toNatClampNeg), (upd a_t_held p0.toNatClampNeg (0 : Int32)))))))

/-! X9_isFull -/
noncomputable def F_X9_isFull (a_t_sizes : Nat → Int32) (a_t_heldLeaves : Nat → Int32) (p0 : Int32) : Option (Int32) :=
  ck p0 6 (ck p0 6 (if (a_t_sizes p0.toNatClampNeg) = ((a_t_heldLeaves p0.toNatClampNeg) - (3 : Int32)) then (some (1 : Int32)) else (some (0 : Int32))))

/-! X9_taken -/
noncomputable def J_X9_taken_120 (a_t_heldLeaves : Nat → Int32) (p0 : Int32) (vJ120_0 : Int32) : Option (Int32) :=
  if vJ120_0 = 0 then (some (-12 : Int32)) else (ck p0 6 (some (a_t_heldLeaves p0.toNatClampNeg)))
noncomputable def J_X9_taken_119 (a_t_heldLeaves : Nat → Int32) (p0 : Int32)  : Option (Int32) :=
  J_X9_taken_120 a_t_heldLeaves p0 (0 : Int32)
noncomputable def F_X9_taken (a_t_held : Nat → Int32) (a_t_sizes : Nat → Int32) (a_t_heldLeaves : Nat → Int32) (a_t_numbers : Nat → Int64) (p0 : Int32) (p1 : Int32) : Option (Int32) :=
  bd (F_X9_isHolder p0) (fun x1 => if x1 = 0 then (some (-1 : Int32)) else (bd (F_X9_in p1.toInt64 (0 : Int64) (3 : Int64)) (fun x3 => if x3 = 0 then (some (-1 : Int32)) else (ck p0 6 (if (a_t_held p0.toNatClampNeg) = 0 then (some (-11 : Int32)) else (if p1 = 0 then (ck p0 6 (if (a_t_held p0.toNatClampNeg) = (1 : Int32) then (ck p0 6 (some (a_t_numbers p0.toNatClampNeg).toInt32)) else (some (-12 : Int32)))) else (ck p0 6 (if (a_t_held p0.toNatClampNeg) = (2 : Int32) then (if p1 = (1 : Int32) then (ck p0 6 (some (a_t_sizes p0.toNatClampNeg))) else (if p1 = (2 : Int32) then (bd (F_X9_isFull a_t_sizes a_t_heldLeaves p0) (fun x18 => J_X9_taken_120 a_t_heldLeaves p0 x18)) else (bd (F_X9_isFull a_t_sizes a_t_heldLeaves p0) (fun x14 => if x14 = 0 then (ck p0 6 (if (a_t_sizes p0.toNatClampNeg) = 0 then (J_X9_taken_120 a_t_heldLeaves p0 (1 : Int32)) else (J_X9_taken_119 a_t_heldLeaves p0))) else (J_X9_taken_119 a_t_heldLeaves p0))))) else (some (-12 : Int32))))))))))

/-! X9_common_ -/
noncomputable def K_X9_common__56_98  (vK56_98_0 : Int32) : Option (Int32) :=
  some vK56_98_0
noncomputable def B_X9_common__56 (t_splits : Int32) (a_t_sizes : Nat → Int32) (a_t_items : Nat → Int32) (a_t_tree : Nat → Int32) (p0 : Int32) (kk56_98 : Int32 → Option (Int32)) (vL56_0 : Int32) (vL56_1 : Int32) (ag56 : Int32 → Int32 → Option (Int32)) : Option (Int32) :=
  ck p0 6 (if (a_t_sizes p0.toNatClampNeg) ≤ vL56_1 then (kk56_98 vL56_0) else (ck (((20 : Int32) * p0) + vL56_1) 120 (bd (F_X9_placeOf t_splits a_t_tree (a_t_items (((20 : Int32) * p0) + vL56_1).toNatClampNeg)) (fun x10 => if x10 < 0 then (ag56 (vL56_0 + (0 : Int32)) (vL56_1 + (1 : Int32))) else (ag56 (vL56_0 + (1 : Int32)) (vL56_1 + (1 : Int32)))))))
noncomputable def F_X9_common_ (t_leaves : Int32) (t_splits : Int32) (a_t_held : Nat → Int32) (a_t_heldLeaves : Nat → Int32) (a_t_sizes : Nat → Int32) (a_t_items : Nat → Int32) (a_t_tree : Nat → Int32) (p0 : Int32) : Option (Int32) :=
  bd (F_X9_isHolder p0) (fun x1 => if x1 = 0 then (some (-1 : Int32)) else (ck p0 6 (if (a_t_held p0.toNatClampNeg) = (2 : Int32) then (ck p0 6 (if (a_t_heldLeaves p0.toNatClampNeg) = t_leaves then (wq2 (B_X9_common__56 t_splits a_t_sizes a_t_items a_t_tree p0 K_X9_common__56_98) FU (0 : Int32) (0 : Int32)) else (some (-5 : Int32)))) else (ck p0 6 (if (a_t_held p0.toNatClampNeg) = 0 then (some (-11 : Int32)) else (some (-12 : Int32)))))))

/-! X9_row -/
noncomputable def K_X9_row_38_62 (a_t_held : Nat → Int32) (a_t_sizes : Nat → Int32) (p0 : Int32) (p1 : Int32) (vK38_62_0 : Nat → Int32) : Option (Int32 × (Nat → Int32) × (Nat → Int32) × (Nat → Int32)) :=
  some (p1, (upd a_t_held p0.toNatClampNeg (3 : Int32)), (upd a_t_sizes p0.toNatClampNeg p1), vK38_62_0)
noncomputable def B_X9_row_38 (p0 : Int32) (kk38_62 : (Nat → Int32) → Option (Int32 × (Nat → Int32) × (Nat → Int32) × (Nat → Int32))) (vL38_0 : Nat → Int32) (vL38_1 : Int32) (ag38 : (Nat → Int32) → Int32 → Option (Int32 × (Nat → Int32) × (Nat → Int32) × (Nat → Int32))) : Option (Int32 × (Nat → Int32) × (Nat → Int32) × (Nat → Int32)) :=
  if (20 : Int32) ≤ vL38_1 then (kk38_62 vL38_0) else (ck (((20 : Int32) * p0) + vL38_1) 120 (ag38 (upd vL38_0 (((20 : Int32) * p0) + vL38_1).toNatClampNeg (0 : Int32)) (vL38_1 + (1 : Int32))))
noncomputable def F_X9_row (a_t_held : Nat → Int32) (a_t_sizes : Nat → Int32) (a_t_items : Nat → Int32) (p0 : Int32) (p1 : Int32) : Option (Int32 × (Nat → Int32) × (Nat → Int32) × (Nat → Int32)) :=
  bd (F_X9_isHolder p0) (fun x1 => if x1 = 0 then (some ((-1 : Int32), a_t_held, a_t_sizes, a_t_items)) else (if p1 ≤ (20 : Int32) then (if 0 ≤ p1 then (ck p0 6 (ck p0 6 (wq2 (B_X9_row_38 p0 (K_X9_row_38_62 a_t_held a_t_sizes p0 p1)) FU a_t_items (0 : Int32)))) else (some ((-14 : Int32), a_t_held, a_t_sizes, a_t_items))) else (some ((-1 : Int32), a_t_held, a_t_sizes, a_t_items))))

/-! X9_rowless -/
noncomputable def F_X9_rowless (a_t_held : Nat → Int32) (p0 : Int32) : Option (Int32) :=
  ck p0 6 (if (a_t_held p0.toNatClampNeg) = 0 then (some (-11 : Int32)) else (ck p0 6 (if (a_t_held p0.toNatClampNeg) = (3 : Int32) then (some (0 : Int32)) else (some (-12 : Int32)))))

/-! X9_set -/
noncomputable def F_X9_set (a_t_held : Nat → Int32) (a_t_sizes : Nat → Int32) (a_t_items : Nat → Int32) (p0 : Int32) (p1 : Int32) (p2 : Int32) : Option (Int32 × (Nat → Int32)) :=
  bd (F_X9_isHolder p0) (fun x1 => if x1 = 0 then (some ((-1 : Int32), a_t_items)) else (bd (F_X9_rowless a_t_held p0) (fun x3 => if x3 = 0 then (ck p0 6 (bd (F_X9_in p1.toInt64 (0 : Int64) ((a_t_sizes p0.toNatClampNeg) - (1 : Int32)).toInt64) (fun x6 => if x6 = 0 then (some ((-13 : Int32), a_t_items)) else (ck (((20 : Int32) * p0) + p1) 120 (some ((1 : Int32), (upd a_t_items (((20 : Int32) * p0) + p1).toNatClampNeg p2))))))) else (bd (F_X9_rowless a_t_held p0) (fun x9 => some (x9, a_t_items))))))

/-! X9_get -/
noncomputable def F_X9_get (a_t_held : Nat → Int32) (a_t_sizes : Nat → Int32) (a_t_items : Nat → Int32) (p0 : Int32) (p1 : Int32) : Option (Int64) :=
  bd (F_X9_isHolder p0) (fun x1 => if x1 = 0 then (some (-9223372036854775808 : Int64)) else (ck p0 6 (if (a_t_held p0.toNatClampNeg) = (3 : Int32) then (ck p0 6 (bd (F_X9_in p1.toInt64 (0 : Int64) ((a_t_sizes p0.toNatClampNeg) - (1 : Int32)).toInt64) (fun x6 => if x6 = 0 then (some (-9223372036854775808 : Int64)) else (ck (((20 : Int32) * p0) + p1) 120 (some (a_t_items (((20 : Int32) * p0) + p1).toNatClampNeg).toInt64))))) else (some (-9223372036854775808 : Int64)))))

/-! X9_judge -/
noncomputable def K_X9_judge_25_89   : Option (Int32) :=
  some (-2 : Int32)
noncomputable def J_X9_judge_43 (t_splits : Int32) (a_t_sizes : Nat → Int32) (a_t_items : Nat → Int32) (a_t_tree : Nat → Int32) (p0 : Int32) (vL25_0 : Int32) (ag25 : Int32 → Option (Int32))  : Option (Int32) :=
  ck p0 6 (if (a_t_sizes p0.toNatClampNeg) ≤ vL25_0 then (some vL25_0) else (if t_splits ≤ vL25_0 then (some vL25_0) else (ck (((20 : Int32) * p0) + vL25_0) 120 (ck vL25_0 3 (if (a_t_items (((20 : Int32) * p0) + vL25_0).toNatClampNeg) = (a_t_tree vL25_0.toNatClampNeg) then (ag25 (vL25_0 + (1 : Int32))) else (some vL25_0))))))
noncomputable def B_X9_judge_25 (t_splits : Int32) (a_t_sizes : Nat → Int32) (a_t_items : Nat → Int32) (a_t_tree : Nat → Int32) (p0 : Int32) (kk25_89 : Option (Int32)) (vL25_0 : Int32) (ag25 : Int32 → Option (Int32)) : Option (Int32) :=
  ck p0 6 (if vL25_0 < (a_t_sizes p0.toNatClampNeg) then (J_X9_judge_43 t_splits a_t_sizes a_t_items a_t_tree p0 vL25_0 ag25) else (if t_splits ≤ vL25_0 then (kk25_89) else (J_X9_judge_43 t_splits a_t_sizes a_t_items a_t_tree p0 vL25_0 ag25)))
noncomputable def F_X9_judge (t_splits : Int32) (a_t_held : Nat → Int32) (a_t_sizes : Nat → Int32) (a_t_items : Nat → Int32) (a_t_tree : Nat → Int32) (p0 : Int32) : Option (Int32) :=
  bd (F_X9_isHolder p0) (fun x1 => if x1 = 0 then (some (-1 : Int32)) else (bd (F_X9_rowless a_t_held p0) (fun x3 => if x3 = 0 then (wq1 (B_X9_judge_25 t_splits a_t_sizes a_t_items a_t_tree p0 K_X9_judge_25_89) FU (0 : Int32)) else (bd (F_X9_rowless a_t_held p0) (fun x14 => some x14)))))

/-! X9_image -/
noncomputable def F_X9_image (t_genus : Int32) (t_marks : Int32) (t_leaves : Int32) (t_splits : Int32) (a_t_kept : Nat → Int32) (a_t_powers : Nat → Int32) (a_t_tree : Nat → Int32) : Option (Int32 × (Nat → Int32) × Int32) :=
  bd (F_X9_lays t_genus t_marks t_leaves t_splits 16 a_t_kept a_t_powers a_t_tree (0 : Int32)) (fun x1 => some (t_marks, x1, (1 : Int32)))

/-! X9_restore -/
noncomputable def F_X9_restore (t_genus : Int32) (t_marks : Int32) (t_leaves : Int32) (t_splits : Int32) (t_done : Int32) (t_undone : Int32) (t_isKept : Int32) (a_t_kept : Nat → Int32) (a_t_powers : Nat → Int32) (a_t_tree : Nat → Int32) : Option (Int32 × (Nat → Int32) × (Nat → Int32) × Int32 × Int32 × Int32 × Int32 × Int32 × Int32) :=
  if t_isKept = 0 then (some ((-5 : Int32), a_t_powers, a_t_tree, t_genus, t_marks, t_undone, t_leaves, t_splits, t_done)) else (bd (F_X9_takes 16 a_t_kept a_t_powers a_t_tree (0 : Int32)) (fun x2 => some ((x2.2.2.2.1), (x2.1), (x2.2.1), (x2.2.2.1), (x2.2.2.2.1), (0 : Int32), (x2.2.2.2.2.1), (x2.2.2.2.2.2), (0 : Int32))))

/-! X9_count -/
noncomputable def F_X9_count (t_genus : Int32) (t_marks : Int32) (t_leaves : Int32) (t_splits : Int32) (t_done : Int32) (t_undone : Int32) (t_taped : Int32) (p0 : Int32) : Option (Int32) :=
  if p0 = (0 : Int32) then (some t_genus) else (if p0 = (1 : Int32) then (some t_marks) else (if p0 = (2 : Int32) then (some t_leaves) else (if p0 = (3 : Int32) then (some t_splits) else (if p0 = (4 : Int32) then (some t_done) else (if p0 = (5 : Int32) then (some t_undone) else (if p0 = (6 : Int32) then (some t_taped) else (some (-1 : Int32))))))))

/-! J9_max_7cf53 -/
noncomputable def F_J9_max_7cf53 (p0 : Int32) (p1 : Int32) : Option (Int32) :=
  if p0 < p1 then (some p1) else (some p0)
