/-! The start. -/
theorem LR_0 : LR 0 (0) (0) (0) (4 : Int32) (0) (fun _ => 0) (0) (0) (4 : Int32) (0) (fun _ => 0) (0) (0) (fun _ _ => 0) (fun _ => 0) (fun _ => 0) (fun _ => (4 : Int32)) (fun _ => 0) (0) (0) (0) (0) (fun _ => 0) (fun _ => 0) (fun _ => 0) (0) (0) (0) (0) (fun _ => 0) (0) (0) (4 : Int32) (0) (fun _ => 0) (fun _ => 0) (0) (fun _ => 0) (fun _ _ => 0) (fun _ => 0) (fun _ => 0) (fun _ => 0) (fun _ => 0) (fun _ => 0) (0) (0) (4 : Int32) (0) (0) (0) (0) (0) (0) (0) (0) (0) (0) (0) (0) (0) (0) (0) (0) (0) (fun _ => 0) (fun _ => 0) (fun _ => 0) (fun _ => 0) (fun _ => 0) (fun _ => 0) (fun _ => 0) (fun _ => 0) (fun _ => 0) (fun _ => 0) (fun _ => 0) (fun _ => 0) (fun _ => 0) (fun _ => 0) (fun _ => 0) (fun _ => 0) (fun _ => 0) (fun _ => 0) (fun _ => 0) (fun _ => 0) (fun _ => 0) (fun _ => 0) := by
  refine ⟨[], (0, [], 4, []), [], [], ?_, ?_, ?_, ?_, ?_, ?_, ?_, ?_, ?_, ?_⟩
  · intro a ha
    have ha' : a ∈ [((0, [], 4, []) : AD)] := ha
    rw [List.mem_singleton.mp ha']
    exact ⟨by decide, by decide, fun d hd => absurd hd List.not_mem_nil, by decide, by decide, by decide⟩
  · exact ⟨rfl, rfl, rfl, rfl, fun k hk => absurd hk (Nat.not_lt_zero k)⟩
  · exact ⟨rfl, rfl, rfl, rfl, fun k hk => absurd hk (Nat.not_lt_zero k), fun k hk => absurd hk (Nat.not_lt_zero k)⟩
  · refine ⟨rfl, rfl, by decide, fun j a ha => ?_⟩
    have ha' : [((0, [], 4, []) : AD)][j]? = some a := ha
    obtain ⟨hj, e⟩ := List.getElem?_eq_some_iff.mp ha'
    have hm := List.getElem_mem hj
    rw [e] at hm
    rw [List.mem_singleton.mp hm]
    exact ⟨rfl, rfl, rfl, rfl, fun k hk => absurd hk (Nat.not_lt_zero k)⟩
  · exact ⟨rfl, rfl, fun j a ha => by simp at ha, fun j a ha => by simp at ha⟩
  · exact ⟨by decide, by decide, fun s hs => by show (0 : Int32).toInt ≤ (0 : Int32).toInt; exact Int.le_refl _, fun s hs => Or.inl rfl⟩
  · exact ⟨rfl, rfl, by decide, fun b hb => absurd hb List.not_mem_nil, fun k hk => absurd hk (Nat.not_lt_zero k)⟩
  · exact ⟨rfl, Or.inl rfl, fun z => absurd z (by decide)⟩
  · exact fun h hh => ⟨rfl, Or.inl rfl⟩
  · exact ⟨rfl, Or.inl rfl⟩
