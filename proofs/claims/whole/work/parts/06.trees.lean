/-! Trees as rising lists of splits; all of them, one by one. -/
def bcN (s : Nat) : Nat := s % 2 + (s / 2) % 2 + (s / 4) % 2 + (s / 8) % 2 + (s / 16) % 2 + (s / 32) % 2
def isSp (L s : Nat) : Bool := Nat.blt s (2 ^ L) && s % 2 == 0 && Nat.ble 2 (bcN s) && Nat.ble (bcN s) (L - 2)
def goT (a b : Nat) : Bool := Nat.land a b == 0 || Nat.land a b == a || Nat.land a b == b
def vt (L : Nat) : List Nat → Bool
  | [] => true
  | t :: ts => isSp L t && ts.all (fun u => Nat.blt t u && goT t u) && vt L ts
def spl (L : Nat) : List Nat := (List.range 64).filter (isSp L)
def lst (L : Nat) : Nat → List (List Nat)
  | 0 => [[]]
  | n + 1 => (lst L n).flatMap (fun ts => ((spl L).filter (fun t => ts.all (fun u => Nat.blt t u && goT t u))).map (fun t => t :: ts))
theorem isSp_lt {L s : Nat} (hL : L ≤ 6) (h : isSp L s = true) : s < 64 := by
  simp only [isSp, Bool.and_eq_true, Nat.blt_eq] at h
  have : 2 ^ L ≤ 2 ^ 6 := Nat.pow_le_pow_right (by omega) hL
  omega
theorem lst_mem {L : Nat} (hL : L ≤ 6) : ∀ ts : List Nat, vt L ts = true → ts ∈ lst L ts.length
  | [], _ => List.mem_singleton.mpr rfl
  | t :: ts, h => by
    simp only [vt, Bool.and_eq_true] at h
    refine List.mem_flatMap.mpr ⟨ts, lst_mem hL ts h.2, List.mem_map.mpr ⟨t, List.mem_filter.mpr ⟨List.mem_filter.mpr ⟨List.mem_range.mpr (isSp_lt hL h.1.1), h.1.1⟩, h.1.2⟩, rfl⟩⟩
theorem vt_tail {L t : Nat} {ts : List Nat} (h : vt L (t :: ts) = true) : vt L ts = true := by
  simp only [vt, Bool.and_eq_true] at h; exact h.2
theorem vt_drop {L : Nat} : ∀ (n : Nat) (ts : List Nat), vt L ts = true → vt L (ts.drop n) = true
  | 0, ts, h => by simpa using h
  | n + 1, [], h => by simpa using h
  | n + 1, t :: ts, h => by simpa using vt_drop n ts (vt_tail h)
theorem lst_none : lst 3 1 = [] ∧ lst 4 2 = [] ∧ lst 5 3 = [] ∧ lst 6 4 = [] := by decide +kernel
theorem vt_len {L : Nat} (h3 : 3 ≤ L) (h6 : L ≤ 6) {ts : List Nat} (h : vt L ts = true) : ts.length ≤ L - 3 := by
  rcases Nat.lt_or_ge (L - 3) ts.length with q | q
  · exfalso
    have h1 := lst_mem h6 _ (vt_drop (ts.length - (L - 2)) ts h)
    have e : (ts.drop (ts.length - (L - 2))).length = L - 2 := by rw [List.length_drop]; omega
    rw [e] at h1
    obtain ⟨q3, q4, q5, q6⟩ := lst_none
    rcases (show L = 3 ∨ L = 4 ∨ L = 5 ∨ L = 6 by omega) with rfl | rfl | rfl | rfl
    · rw [show 3 - 2 = 1 from rfl, q3] at h1; exact List.not_mem_nil h1
    · rw [show 4 - 2 = 2 from rfl, q4] at h1; exact List.not_mem_nil h1
    · rw [show 5 - 2 = 3 from rfl, q5] at h1; exact List.not_mem_nil h1
    · rw [show 6 - 2 = 4 from rfl, q6] at h1; exact List.not_mem_nil h1
  · exact q
/-- all trees of L leaves -/
def allT (L : Nat) : List (List Nat) := lst L 0 ++ lst L 1 ++ lst L 2 ++ lst L 3
theorem vt_all {L : Nat} (h3 : 3 ≤ L) (h6 : L ≤ 6) {ts : List Nat} (h : vt L ts = true) : ts ∈ allT L := by
  have h1 := vt_len h3 h6 h
  have h2 := lst_mem h6 ts h
  rcases (show ts.length = 0 ∨ ts.length = 1 ∨ ts.length = 2 ∨ ts.length = 3 by omega) with e | e | e | e <;> rw [e] at h2
  · exact List.mem_append_left _ (List.mem_append_left _ (List.mem_append_left _ h2))
  · exact List.mem_append_left _ (List.mem_append_left _ (List.mem_append_right _ h2))
  · exact List.mem_append_left _ (List.mem_append_right _ h2)
  · exact List.mem_append_right _ h2
def tr64 (ts : List Nat) : Int64 := Int64.ofNat (ts.foldr (fun t n => n + 2 ^ t) 0)
noncomputable def chkNth (ts : List Nat) : Bool := (List.range 4).all (fun k => decide (F_X6_nth (tr64 ts) (Int32.ofNat k) = some (match ts[k]? with | some t => Int32.ofNat t | none => (-1 : Int32)))) && decide (F_X6_sizeOf (tr64 ts) = some (Int32.ofNat ts.length))
theorem nth5 : (lst 5 2).all chkNth = true := by decide +kernel
