/-! NUMBERS worked out by the class. -/
def wS8 (key q : Nat) : Nat := ((List.range q).map (fun i => if nxK key (i + 1) = 0 then 0 else wtK key (i + 1) * VN (nxK key (i + 1)))).sum
theorem wS8_s (key q : Nat) : wS8 key (q + 1) = wS8 key q + if nxK key (q + 1) = 0 then 0 else wtK key (q + 1) * VN (nxK key (q + 1)) := by
  unfold wS8
  rw [List.range_succ, List.map_append, List.sum_append_nat]
  simp
def WR (keys : Nat → Int64) (key : Nat) (r : Option (Int64 × (Nat → Int64) × (Nat → Int64))) : Prop := ∃ keys' aboves', r = some (Int64.ofNat (VN key), keys', aboves') ∧ TI keys' aboves' ∧ sto keys' key ∧ ∀ k, lgt k → sto keys k → sto keys' k
theorem work8 : ∀ (n key : Nat) (keys aboves : Nat → Int64) (d p1 : Nat), nOf key = n → lgt key → n < d → p1 + n ≤ 16 → TI keys aboves → WR keys key (F_X3_workOut d keys aboves (Int64.ofNat key) (Int32.ofNat p1)) := by
  intro n
  induction n using Nat.strongRecOn with
  | _ n ih =>
  intro key keys aboves d p1 hn hk hd hp hT
  obtain ⟨d, rfl⟩ : ∃ q, d = q + 1 := ⟨d - 1, by omega⟩
  obtain ⟨f1, f2, f3, f4, f5, f6, f7, f8, f9, f10⟩ := KF_l hk
  show WR keys key (G_X3_workOut (F_X3_workOut d) keys aboves (Int64.ofNat key) (Int32.ofNat p1))
  have k0 := k64_0 hk
  obtain ⟨s, hs⟩ := TI_slot hT (Int64.ofNat key)
  have hlt := SL_lt hs
  have nm : ¬ Int32.ofNat s = (-1 : Int32) := fun z => by
    have z1 := congrArg Int32.toInt z
    rw [n_toInt (by omega), show (-1 : Int32).toInt = -1 from rfl] at z1
    omega
  have c16 : Int32.ofNat p1 ≤ (16 : Int32) := (n_le (b := 16) (by omega) (by omega)).mpr (by omega)
  unfold G_X3_workOut
  rw [if_neg (fun z => k0 ((lg_cmp_eq _ _).mp z)), if_pos c16, slot_SL hs, bd_s, if_neg nm, ck_n hlt (by omega), ck_n hlt (by omega), n_clamp (by omega)]
  by_cases c : keys s = Int64.ofNat key
  · rw [if_pos ((lg_cmp_eq _ _).mpr c)]
    obtain ⟨ku, l1, l2, l3, l4, l5⟩ := (hT s hlt).resolve_left (fun z => k0 (c.symm.trans z))
    have e : ku = key := l64_inj l1 hk (l2.symm.trans c)
    subst e
    exact ⟨keys, aboves, by rw [l3], hT, ⟨s, hlt, c⟩, fun k _ h => h⟩
  · rw [if_neg (fun z => c ((lg_cmp_eq _ _).mp z))]
    unfold J_X3_workOut_47
    rw [f5, bd_s, f6, bd_s]
    have ep1 : Int32.ofNat p1 + (1 : Int32) = Int32.ofNat (p1 + 1) := n_add p1 1
    refine wq4_inv (B := B_X3_workOut_62 (F_X3_workOut d) (Int64.ofNat key) (Int32.ofNat p1) (Int32.ofNat (rlK key)) (K_X3_workOut_62_115 (Int64.ofNat key))) 14
      (fun j ks as sm p => p = Int32.ofNat (j + 1) ∧ sm = Int64.ofNat (bK key + wS8 key j) ∧ TI ks as ∧ (∀ k, lgt k → sto keys k → sto ks k) ∧ ∀ q, 1 ≤ q → q ≤ j → ¬ nxK key q = 0 → sto ks (nxK key q))
      (WR keys key) (fun j hj ks as sm p hI => ?_) (fun ks as sm p hI => ?_) FU (by unfold FU; omega) keys aboves _ _ ⟨rfl, ?_, hT, fun k _ h => h, fun q h1 h2 => by omega⟩
    · obtain ⟨rfl, rfl, i1, i2, i3⟩ := hI
      have c14 : ¬ (14 : Int32) < Int32.ofNat (j + 1) := fun z => by have := (n_lt (a := 14) (by omega) (by omega)).mp z; omega
      have ej : Int32.ofNat (j + 1) + (1 : Int32) = Int32.ofNat (j + 2) := n_add (j + 1) 1
      by_cases z : nxK key (j + 1) = 0
      · refine Or.inl ⟨ks, as, _, Int32.ofNat (j + 2), ⟨rfl, rfl, i1, i2, fun q h1 h2 h0 => ?_⟩, fun ag => ?_⟩
        · by_cases e : q = j + 1
          · subst e; exact absurd z h0
          · exact i3 q h1 (by omega) h0
        · unfold B_X3_workOut_62
          have z64 : lg_cmp (Int64.ofNat 0) (0 : Int64) = 0 := (lg_cmp_eq _ _).mpr rfl
          rw [if_neg c14, f7 (j + 1) (by omega) (by omega), bd_s, z, if_pos z64, ej, wS8_s, if_pos z]; rfl
      · obtain ⟨g1, g2, g3, g4⟩ := f8 (j + 1) (by omega) (by omega) z
        obtain ⟨n1, n2, n3⟩ := nx_l hk (by omega) (by omega) z
        obtain ⟨ks', as', r1, r2, r3, r4⟩ := ih (nOf (nxK key (j + 1))) (by omega) (nxK key (j + 1)) ks as d (p1 + 1) rfl n1 (by omega) (by omega) i1
        refine Or.inl ⟨ks', as', Int64.ofNat (bK key + wS8 key (j + 1)), Int32.ofNat (j + 2), ⟨rfl, rfl, r2, fun k h1 h2 => r4 k h1 (i2 k h1 h2), fun q h1 h2 h0 => ?_⟩, fun ag => ?_⟩
        · by_cases e : q = j + 1
          · subst e; exact r3
          · exact r4 _ (nx_l hk h1 (by omega) h0).1 (i3 q h1 (by omega) h0)
        · unfold B_X3_workOut_62
          rw [if_neg c14, f7 (j + 1) (by omega) (by omega), bd_s, if_neg (fun y => k64_0 n1 ((lg_cmp_eq _ _).mp y)), g4, bd_s, ep1, r1, bd_s, ej]
          dsimp only
          rw [← Int64.ofNat_mul, ← Int64.ofNat_add, wS8_s, if_neg z, Nat.add_assoc]
    · obtain ⟨rfl, rfl, i1, i2, i3⟩ := hI
      have ev : VN key = bK key + wS8 key 14 := f9
      obtain ⟨keys', aboves', e1, e2, e3, e4⟩ := keepT i1 hk (fun p h1 h2 h0 => i3 p h1 h2 h0)
      refine ⟨_, ⟨keys', aboves', rfl, e2, e3, fun k h1 h2 => e4 k h1 (i2 k h1 h2)⟩, fun ag => ?_⟩
      unfold B_X3_workOut_62
      rw [if_pos (by decide)]
      unfold K_X3_workOut_62_115
      rw [← ev, e1, bd_s]
    · show Int64.ofNat (bK key) = Int64.ofNat (bK key + 0)
      rw [Nat.add_zero]
def VZ (kz : Nat) : Nat := if kz = 0 then 0 else VN kz
def kzO (kz : Nat) : Prop := kz = 0 ∨ lgt kz
theorem lgt_n0 {kz : Nat} (h : lgt kz) : ¬ kz = 0 := fun z => by
  have := (KF_l h).2.2.2.1
  omega
theorem above8 {kz : Nat} (h : kzO kz) {keys aboves : Nat → Int64} (hT : TI keys aboves) : ∃ keys' aboves', F_X3_aboveOf keys aboves (Int64.ofNat kz) = some (Int64.ofNat (VZ kz), keys', aboves') ∧ TI keys' aboves' := by
  unfold F_X3_aboveOf
  rcases h with rfl | h
  · refine ⟨keys, aboves, ?_, hT⟩
    have e : F_X3_workOut 20 keys aboves (Int64.ofNat 0) (0 : Int32) = some ((0 : Int64), keys, aboves) := by
      show G_X3_workOut (F_X3_workOut 19) keys aboves (Int64.ofNat 0) (0 : Int32) = _
      unfold G_X3_workOut
      have z64 : lg_cmp (Int64.ofNat 0) (0 : Int64) = 0 := (lg_cmp_eq _ _).mpr rfl
      rw [if_pos z64]
    rw [e, bd_s]; rfl
  · obtain ⟨keys', aboves', e1, e2, e3, e4⟩ := work8 (nOf kz) kz keys aboves 20 0 rfl h (by have := h.2.1; omega) (by have := h.2.1; omega) hT
    have e1' : F_X3_workOut 20 keys aboves (Int64.ofNat kz) (0 : Int32) = _ := e1
    refine ⟨keys', aboves', ?_, e2⟩
    rw [e1', bd_s]
    unfold VZ
    rw [if_neg (lgt_n0 h)]
/-! Keys out of rows of powers. -/
theorem nE_mem : ∀ (m : Nat) (r : List Nat), (∀ x ∈ r, x ≤ m) → ∃ t ∈ nE m r.length r.sum, t.Perm r
  | 0, r, h => by
    have e : r = List.replicate r.length 0 := List.eq_replicate_iff.mpr ⟨rfl, fun x hx => by have := h x hx; omega⟩
    refine ⟨List.replicate r.length 0, ?_, by rw [← e]⟩
    have hs : r.sum = 0 := by rw [e, List.sum_replicate_nat, Nat.mul_zero]
    unfold nE
    rw [if_pos hs]; exact List.mem_singleton.mpr rfl
  | m + 1, r, h => by
    have hp : (r.filter (fun x => !(x == m + 1)) ++ r.filter (fun x => !(!(x == m + 1)))).Perm r := List.filter_append_perm _ _
    have e2 : r.filter (fun x => !(!(x == m + 1))) = List.replicate (r.count (m + 1)) (m + 1) := by
      rw [← List.filter_beq]; congr 1; funext x; rw [Bool.not_not]
    rw [e2] at hp
    obtain ⟨t, ht, tp⟩ := nE_mem m (r.filter (fun x => !(x == m + 1))) (fun x hx => by
      obtain ⟨h1, h2⟩ := List.mem_filter.mp hx
      have h3 := h x h1
      have h4 : ¬ x = m + 1 := by simpa using h2
      omega)
    have hl := hp.length_eq
    have hs := hp.sum_nat
    rw [List.length_append, List.length_replicate] at hl
    rw [List.sum_append_nat, List.sum_replicate_nat] at hs
    refine ⟨t ++ List.replicate (r.count (m + 1)) (m + 1), ?_, (tp.append_right _).trans hp⟩
    unfold nE
    refine List.mem_flatMap.mpr ⟨r.count (m + 1), List.mem_range.mpr (by omega), ?_⟩
    rw [if_pos (by omega)]
    refine List.mem_map.mpr ⟨t, ?_, rfl⟩
    rw [show r.length - r.count (m + 1) = (r.filter (fun x => !(x == m + 1))).length by omega, show r.sum - r.count (m + 1) * (m + 1) = (r.filter (fun x => !(x == m + 1))).sum by omega]
    exact ht
theorem gK_perm {g : Nat} {r t : List Nat} (h : t.Perm r) : gK g t = gK g r := by
  unfold gK
  rw [(h.map _).sum_nat]
/-- a row whose NUMBER is not 0 by the first two words -/
def vR (g : Nat) (r : List Nat) : Prop := g < 3 ∧ r.length < 12 ∧ 2 < 2 * g + r.length ∧ r.sum + 3 = 3 * g + r.length
theorem mem_le_sum : ∀ {r : List Nat} {x : Nat}, x ∈ r → x ≤ r.sum
  | y :: r, x, h => by
    rw [List.sum_cons]
    rcases List.mem_cons.mp h with rfl | h
    · omega
    · have := mem_le_sum h; omega
theorem vR_le {g : Nat} {r : List Nat} (h : vR g r) : ∀ x ∈ r, x ≤ 14 := fun x hx => by
  have := mem_le_sum hx
  obtain ⟨a, b, c, d⟩ := h
  omega
theorem vR_rep {g : Nat} {r : List Nat} (h : vR g r) : ∃ t ∈ nE 14 r.length (3 * g + r.length - 3), t.Perm r := by
  obtain ⟨a, b, c, d⟩ := id h
  obtain ⟨t, h1, h2⟩ := nE_mem 14 r (vR_le h)
  refine ⟨t, ?_, h2⟩
  rw [show 3 * g + r.length - 3 = r.sum by omega]; exact h1
theorem vR_l {g : Nat} {r : List Nat} (h : vR g r) : lgt (gK g r) ∧ gOf (gK g r) = g ∧ nOf (gK g r) = r.length := by
  obtain ⟨a, b, c, d⟩ := id h
  obtain ⟨t, h1, h2⟩ := vR_rep h
  exact lgt_in a b c (List.mem_map.mpr ⟨t, h1, gK_perm h2⟩)

noncomputable def kzL (g : Nat) (r : List Nat) : Nat := by
  classical exact if vR g r then gK g r else 0
