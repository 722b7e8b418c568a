/-! My own rows over the machine. -/
def k_T (cI cJ cD cH : ClassId) : List (ClassId × FieldType) := [(cI, .int), (cJ, .long), (cD, .object RX1), (cH, .object RX2)]
def k_pre (G : va_G) (T : List (ClassId × FieldType)) (X : va_W) (sz : Nat) (av : List Value) : Array Value → State → Prop :=
  va_Pc av (fun U => U.heap.size = sz ∧ va_P G vwCl X U.heap ∧ va_K G vwCl T U ∧ va_D (fun _ => True) X)
theorem k_pre_blind {G : va_G} {T : List (ClassId × FieldType)} {X : va_W} {sz : Nat} {av : List Value} : FrameBlind (k_pre G T X sz av) := fun a U g mk q => by
  obtain ⟨q0, q1, qP, qK, qD⟩ := q
  exact ⟨q0, q1, qP, va_K.moved (u := U) (U := U.calling g mk a) (Vm.Alike.refl U.vm) qK, qD⟩
def k_rep : va_W → List Nat → va_W → va_W
  | X, i :: is, q :: qs => k_rep (X.set i q) is qs
  | X, [], _ => X
  | X, _ :: _, [] => X
theorem k_rep_at : ∀ (is : List Nat) (qs X : va_W), is.length = qs.length → ∀ (k : Nat) (q : Nat × va_E), (k_rep X is qs)[k]? = some q → q ∈ qs ∨ (X[k]? = some q ∧ k ∉ is)
  | [], [], X, _, k, q, h => Or.inr ⟨h, List.not_mem_nil⟩
  | i :: is, p :: qs, X, hl, k, q, h => by
    rcases k_rep_at is qs (X.set i p) (by simpa using hl) k q h with h1 | ⟨h1, h2⟩
    · exact Or.inl (List.mem_cons_of_mem _ h1)
    · by_cases e : k = i
      · subst e
        have hk : k < X.length := by
          have := (List.getElem?_eq_some_iff.mp h1).1
          simpa using this
        rw [List.getElem?_set_self hk] at h1
        cases h1
        exact Or.inl List.mem_cons_self
      · rw [List.getElem?_set_ne (Ne.symm e)] at h1
        exact Or.inr ⟨h1, fun z => (List.mem_cons.mp z).elim e h2⟩
theorem k_rep_P {A0 : Nat → Prop} {G : va_G} {cl : List vw_C} {X wc w1 : va_W} {H H1 : Heap} (hP : va_P G cl X H) (hD : va_D A0 X) (isC : List Nat) (hC : isC.map (fun i => X[i]?) = wc.map some) (hk : ∀ q : Nat, q < H.size → ¬ va_A wc H.size q → H1[q]? = H[q]?) (hP1 : va_P G cl w1 H1) (hl : isC.length = w1.length) : va_P G cl (k_rep X isC w1) H1 := by
  intro k q hq
  rcases k_rep_at isC w1 X hl k q hq with h | ⟨h, hn⟩
  · obtain ⟨j, hj⟩ := List.getElem?_of_mem h
    exact hP1 j q hj
  · have hlt := (hP k q h).lt
    refine (hP k q h).kept (hk q.1 hlt fun z => ?_)
    rcases z with ⟨k2, e, h2⟩ | h2
    · have h3 : (isC.map (fun i => X[i]?))[k2]? = some (some (q.1, e)) := by rw [hC, List.getElem?_map, h2]; rfl
      rw [List.getElem?_map] at h3
      cases hi : isC[k2]? with
      | none => rw [hi] at h3; cases h3
      | some i =>
        rw [hi] at h3
        have h4 : X[i]? = some (q.1, e) := Option.some.inj h3
        have := hD.1 k i q (q.1, e) h h4 rfl
        subst this
        exact hn (List.mem_of_getElem? hi)
    · omega
theorem k_D_of {A : Nat → Prop} {X X1 : va_W} (h : va_D A X) (he : X1.map Prod.fst = X.map Prod.fst) : va_D A X1 := by
  have key : ∀ (k : Nat) (q : Nat × va_E), X1[k]? = some q → ∃ q0, X[k]? = some q0 ∧ q0.1 = q.1 := by
    intro k q hk
    have h1 : (X1.map Prod.fst)[k]? = some q.1 := by rw [List.getElem?_map, hk]; rfl
    rw [he, List.getElem?_map] at h1
    cases hx : X[k]? with
    | none => rw [hx] at h1; cases h1
    | some q0 => rw [hx] at h1; exact ⟨q0, rfl, Option.some.inj h1⟩
  refine ⟨fun i j x y hi hj hxy => ?_, fun k q hk => ?_⟩
  · obtain ⟨x0, a1, a2⟩ := key i x hi
    obtain ⟨y0, b1, b2⟩ := key j y hj
    exact h.1 i j x0 y0 a1 b1 (a2.trans (hxy.trans b2.symm))
  · obtain ⟨q0, a1, a2⟩ := key k q hk
    rw [← a2]
    exact h.2 k q0 a1
theorem k_rep_at2 : ∀ (is : List Nat) (qs X : va_W), is.length = qs.length → ∀ (k : Nat) (q : Nat × va_E), (k_rep X is qs)[k]? = some q → (∃ j : Nat, is[j]? = some k ∧ qs[j]? = some q) ∨ (X[k]? = some q ∧ k ∉ is)
  | [], [], X, _, k, q, h => Or.inr ⟨h, List.not_mem_nil⟩
  | i :: is, p :: qs, X, hl, k, q, h => by
    rcases k_rep_at2 is qs (X.set i p) (by simpa using hl) k q h with ⟨j, h1, h2⟩ | ⟨h1, h2⟩
    · exact Or.inl ⟨j + 1, by simpa using h1, by simpa using h2⟩
    · by_cases e : k = i
      · subst e
        have hk : k < X.length := by
          have := (List.getElem?_eq_some_iff.mp h1).1
          simpa using this
        rw [List.getElem?_set_self hk] at h1
        cases h1
        exact Or.inl ⟨0, rfl, rfl⟩
      · rw [List.getElem?_set_ne (Ne.symm e)] at h1
        exact Or.inr ⟨h1, fun z => (List.mem_cons.mp z).elim e h2⟩
theorem k_rep_D {A0 : Nat → Prop} {G : va_G} {cl : List vw_C} {X wc w1 : va_W} {H : Heap} (hP : va_P G cl X H) (hD : va_D A0 X) (isC : List Nat) (hC : isC.map (fun i => X[i]?) = wc.map some) (hF : ∀ q, va_A wc H.size q → A0 q) (hD1 : va_D (va_A wc H.size) w1) (hl : isC.length = w1.length) : va_D A0 (k_rep X isC w1) := by
  have out : ∀ (k : Nat) (q : Nat × va_E), X[k]? = some q → k ∉ isC → ¬ va_A wc H.size q.1 := by
    intro k q h hn z
    have hlt := (hP k q h).lt
    rcases z with ⟨k2, e, h2⟩ | h2
    · have h3 : (isC.map (fun i => X[i]?))[k2]? = some (some (q.1, e)) := by rw [hC, List.getElem?_map, h2]; rfl
      rw [List.getElem?_map] at h3
      cases hi : isC[k2]? with
      | none => rw [hi] at h3; cases h3
      | some i =>
        rw [hi] at h3
        have h4 : X[i]? = some (q.1, e) := Option.some.inj h3
        have := hD.1 k i q (q.1, e) h h4 rfl
        subst this
        exact hn (List.mem_of_getElem? hi)
    · omega
  refine ⟨fun i j x y hi hj hxy => ?_, fun k q hk => ?_⟩
  · rcases k_rep_at2 isC w1 X hl i x hi with ⟨a, a1, a2⟩ | ⟨a1, a2⟩ <;> rcases k_rep_at2 isC w1 X hl j y hj with ⟨b, b1, b2⟩ | ⟨b1, b2⟩
    · have := hD1.1 a b x y a2 b2 hxy
      subst this
      rw [a1] at b1
      exact Option.some.inj b1
    · exact absurd (by rw [← hxy]; exact hD1.2 a x a2) (out j y b1 b2)
    · exact absurd (by rw [hxy]; exact hD1.2 b y b2) (out i x a1 a2)
    · exact hD.1 i j x y a1 b1 hxy
  · rcases k_rep_at2 isC w1 X hl k q hk with ⟨a, a1, a2⟩ | ⟨a1, a2⟩
    · exact hF _ (hD1.2 a q a2)
    · exact hD.2 k q a1
theorem k_mix {A0 : Nat → Prop} {G : va_G} {cl : List vw_C} {X X1 wc w1 : va_W} {H H1 : Heap} {n : Nat} (hP : va_P G cl X H) (hD : va_D A0 X) (isC isR : List Nat) (hC : isC.map (fun i => X[i]?) = wc.map some) (hC1 : isC.map (fun i => X1[i]?) = w1.map some) (hR : isR.map (fun i => X1[i]?) = isR.map (fun i => X[i]?)) (hlen : X1.length = n) (hcov : ∀ k, k < n → k ∈ isC ∨ (k ∈ isR ∧ k ∉ isC)) (hk : ∀ q : Nat, q < H.size → ¬ va_A wc H.size q → H1[q]? = H[q]?) (hP1 : va_P G cl w1 H1) : va_P G cl X1 H1 := by
  intro k q hq
  have hkn : k < n := by rw [← hlen]; exact (List.getElem?_eq_some_iff.mp hq).1
  rcases hcov k hkn with h | ⟨h, hn⟩
  · obtain ⟨j, hj⟩ := List.getElem?_of_mem h
    have h1 : (isC.map (fun i => X1[i]?))[j]? = some (some q) := by rw [List.getElem?_map, hj, Option.map_some, hq]
    rw [hC1, List.getElem?_map] at h1
    cases hw : w1[j]? with
    | none => rw [hw] at h1; cases h1
    | some x => rw [hw] at h1; cases h1; exact hP1 j q hw
  · obtain ⟨j, hj⟩ := List.getElem?_of_mem h
    have h1 : (isR.map (fun i => X1[i]?))[j]? = some (some q) := by rw [List.getElem?_map, hj, Option.map_some, hq]
    rw [hR, List.getElem?_map, hj] at h1
    have hX : X[k]? = some q := Option.some.inj h1
    have hlt := (hP k q hX).lt
    refine (hP k q hX).kept (hk q.1 hlt fun z => ?_)
    rcases z with ⟨k2, e, h2⟩ | h2
    · have h3 : (isC.map (fun i => X[i]?))[k2]? = some (some (q.1, e)) := by rw [hC, List.getElem?_map, h2]; rfl
      rw [List.getElem?_map] at h3
      cases hi : isC[k2]? with
      | none => rw [hi] at h3; cases h3
      | some i =>
        rw [hi] at h3
        have h4 : X[i]? = some (q.1, e) := Option.some.inj h3
        have := hD.1 k i q (q.1, e) hX h4 rfl
        subst this
        exact hn (List.mem_of_getElem? hi)
    · omega
theorem k_mixD {A0 : Nat → Prop} {G : va_G} {cl : List vw_C} {X X1 wc w1 : va_W} {H : Heap} {n : Nat} (hP : va_P G cl X H) (hD : va_D A0 X) (isC isR : List Nat) (hC : isC.map (fun i => X[i]?) = wc.map some) (hC1 : isC.map (fun i => X1[i]?) = w1.map some) (hR : isR.map (fun i => X1[i]?) = isR.map (fun i => X[i]?)) (hlen : X1.length = n) (hcov : ∀ k, k < n → k ∈ isC ∨ (k ∈ isR ∧ k ∉ isC)) (hF : ∀ q, va_A wc H.size q → A0 q) (hD1 : va_D (va_A wc H.size) w1) : va_D A0 X1 := by
  have out : ∀ (k : Nat) (q : Nat × va_E), X[k]? = some q → k ∉ isC → ¬ va_A wc H.size q.1 := by
    intro k q h hn z
    have hlt := (hP k q h).lt
    rcases z with ⟨k2, e, h2⟩ | h2
    · have h3 : (isC.map (fun i => X[i]?))[k2]? = some (some (q.1, e)) := by rw [hC, List.getElem?_map, h2]; rfl
      rw [List.getElem?_map] at h3
      cases hi : isC[k2]? with
      | none => rw [hi] at h3; cases h3
      | some i =>
        rw [hi] at h3
        have h4 : X[i]? = some (q.1, e) := Option.some.inj h3
        have := hD.1 k i q (q.1, e) h h4 rfl
        subst this
        exact hn (List.mem_of_getElem? hi)
    · omega
  have key : ∀ (k : Nat) (q : Nat × va_E), X1[k]? = some q → (∃ j : Nat, isC[j]? = some k ∧ w1[j]? = some q) ∨ (X[k]? = some q ∧ k ∉ isC) := by
    intro k q hq
    have hkn : k < n := by rw [← hlen]; exact (List.getElem?_eq_some_iff.mp hq).1
    rcases hcov k hkn with h | ⟨h, hn⟩
    · obtain ⟨j, hj⟩ := List.getElem?_of_mem h
      have h1 : (isC.map (fun i => X1[i]?))[j]? = some (some q) := by rw [List.getElem?_map, hj, Option.map_some, hq]
      rw [hC1, List.getElem?_map] at h1
      cases hw : w1[j]? with
      | none => rw [hw] at h1; cases h1
      | some x => rw [hw] at h1; cases h1; exact Or.inl ⟨j, hj, hw⟩
    · obtain ⟨j, hj⟩ := List.getElem?_of_mem h
      have h1 : (isR.map (fun i => X1[i]?))[j]? = some (some q) := by rw [List.getElem?_map, hj, Option.map_some, hq]
      rw [hR, List.getElem?_map, hj] at h1
      exact Or.inr ⟨Option.some.inj h1, hn⟩
  refine ⟨fun i j x y hi hj hxy => ?_, fun k q hk => ?_⟩
  · rcases key i x hi with ⟨a, a1, a2⟩ | ⟨a1, a2⟩ <;> rcases key j y hj with ⟨b, b1, b2⟩ | ⟨b1, b2⟩
    · have := hD1.1 a b x y a2 b2 hxy
      subst this
      rw [a1] at b1
      exact Option.some.inj b1
    · exact absurd (by rw [← hxy]; exact hD1.2 a x a2) (out j y b1 b2)
    · exact absurd (by rw [hxy]; exact hD1.2 b y b2) (out i x a1 a2)
    · exact hD.1 i j x y a1 b1 hxy
  · rcases key k q hk with ⟨a, a1, a2⟩ | ⟨a1, a2⟩
    · exact hF _ (hD1.2 a q a2)
    · exact hD.2 k q a1
theorem k_same {A0 : Nat → Prop} {G : va_G} {cl : List vw_C} {X wc : va_W} {H H1 : Heap} (hP : va_P G cl X H) (hD : va_D A0 X) (isC : List Nat) (hC : isC.map (fun i => X[i]?) = wc.map some) (hk : ∀ q : Nat, q < H.size → ¬ va_A wc H.size q → H1[q]? = H[q]?) (hP1 : va_P G cl wc H1) : va_P G cl X H1 := by
  intro k q hq
  have hlt := (hP k q hq).lt
  rcases Classical.em (va_A wc H.size q.1) with z | z
  · rcases z with ⟨k2, e, h2⟩ | h2
    · have h3 : (isC.map (fun i => X[i]?))[k2]? = some (some (q.1, e)) := by rw [hC, List.getElem?_map, h2]; rfl
      rw [List.getElem?_map] at h3
      cases hi : isC[k2]? with
      | none => rw [hi] at h3; cases h3
      | some i =>
        rw [hi] at h3
        have h4 : X[i]? = some (q.1, e) := Option.some.inj h3
        have := hD.1 k i q (q.1, e) hq h4 rfl
        subst this
        rw [hq] at h4
        have h5 : q = (q.1, e) := Option.some.inj h4
        exact hP1 k2 q (by rw [h2, ← h5])
    · omega
  · exact (hP k q hq).kept (hk q.1 hlt z)
section KR
variable {p : Program} {l : Launch} {e : Env} {R : Room} {s : State} {m : MethodId} {args : Array Value} {below : List Frame} {meth : Method} {c : Code} {H : Heap} {locs : List Loc} {cells slots : Nat} {Q : State → Prop}
variable {pc : Nat} {ls : Array Slot} {G : va_G} {T : List (ClassId × FieldType)} {X wc w1 : va_W} {A : Nat → Prop}
variable {y : MethodName} {bytes cc : ByteArray} {maxL nL n index : Nat} {ret : Option FieldType} {ws ws' Ts : List Cond} {rm : Room} {own C : String} {b : Addr} {As rest st : List Value} {ci : Nat} {fs : List Value} {q : vw_C}
theorem k_join {X1 : va_W} {H1 : Heap} (hP : va_P G vwCl X H) (hD : va_D A X) (isC : List Nat) (hC : isC.map (fun i => X[i]?) = wc.map some) (hl : isC.length = w1.length) (hX1 : k_rep X isC w1 = X1) (hadr : X1.map Prod.fst = X.map Prod.fst) (hk1 : ∀ q : Nat, q < H.size → ¬ va_A wc H.size q → H1[q]? = H[q]?) (hP1 : va_P G vwCl w1 H1) : va_P G vwCl X1 H1 ∧ va_D A X1 := by
  subst hX1
  exact ⟨k_rep_P hP hD isC hC hk1 hP1 hl, k_D_of hD hadr⟩
theorem k_at {t : State} (ht : t.heap = H) (hP : va_P G vwCl X H) : va_P G vwCl X t.heap := by rw [ht]; exact hP
theorem k_cut (hP : va_P G vwCl X H) (isC : List Nat) (hC : isC.map (fun i => X[i]?) = wc.map some) : va_P G vwCl wc H := by
  intro k q hq
  have h1 : (isC.map (fun i => X[i]?))[k]? = some (some q) := by rw [hC, List.getElem?_map, hq]; rfl
  rw [List.getElem?_map] at h1
  cases hi : isC[k]? with
  | none => rw [hi] at h1; cases h1
  | some i => rw [hi] at h1; exact hP i q (Option.some.inj h1)
theorem k_preU {av : List Value} (hP : va_P G vwCl X H) (hK : va_K G vwCl T s) (hD : va_D A X) (isC : List Nat) (hn : va_nd isC = true) (hC : isC.map (fun i => X[i]?) = wc.map some) : ∀ U : State, U.heap = H → s.WarmedH U.vm → k_pre G T wc H.size av av.toArray U :=
  fun U hU hW => ⟨rfl, by rw [hU], by rw [hU]; exact k_cut hP isC hC, va_K.moved hW.alike hK, (hD.sub isC hn hC).weaken (fun _ _ _ _ => trivial)⟩
theorem k_Vi {r0 : Int32} {pp : Prop} (hx : p.tables.exec = Jvm.exec) (hb : c.code = cc) (hml : c.maxLocals = nL) (hown : s.vm.findClass own = some m.cls) (hts : ∀ w ∈ Ts, w.before args s = true)
    (hM : Met l y ws rm (k_pre G T wc H.size (.ref b :: As)) (va_Qi (fun r (_ : Unit) => r = r0 ∧ pp) (fun _ t => va_P G vwCl w1 t.heap) (va_A wc H.size)) 0 0 (va_A wc H.size))
    (hT : GoodIn Ts (wsV own index C y ws)) (hw : ws = Cond.code y bytes maxL ret :: ws') (hrc : rm.cells = 0) (hrs : rm.slots = 0) (hd : y.cls = C ∧ y.cls ≠ "java/lang/invoke/MethodHandle" ∧ y.cls ≠ "java/lang/invoke/VarHandle" ∧ (parseMethodDescriptor y.desc).map (fun d => d.parameters.length) = some n) (hR : rm.frames + 1 ≤ R.frames ∧ 8 + (maxL + 11) + rm.locals ≤ R.locals)
    (hK : va_K G vwCl T s) (hP : va_P G vwCl X H) (hD : va_D A X) (hS : va_S A s.heap H locs) (hA : ∀ q : Nat, s.heap.size ≤ q → A q)
    (isC : List Nat) (hn : va_nd isC = true) (hC : isC.map (fun i => X[i]?) = wc.map some) (hl : isC.length = w1.length) (hr0 : wc[0]? = some (b, .inr (ci, fs))) (hcl : vwCl[ci]? = some q) (hq : q.1 = C) 
    (hnA : As.length = n) (hst : st = As.reverse ++ .ref b :: rest) (hls : ls.size = nL) (hcat : (rest.map fun v => v.category).sum ≤ 8) (hdg : decode cc pc = .ok (.invokevirtual index, 3)) (hcs : cells ≤ R.cells ∧ slots ≤ R.slots)
    (X1 : va_W) (isR : List Nat) (n1 : Nat) (hC1 : isC.map (fun i => X1[i]?) = w1.map some) (hRR : isR.map (fun i => X1[i]?) = isR.map (fun i => X[i]?)) (hlen : X1.length = n1) (hcov : ∀ k, k < n1 → k ∈ isC ∨ (k ∈ isR ∧ k ∉ isC)) (hadr : X1.map Prod.fst = X.map Prod.fst)
    (kk : pp → ∀ (H1 : Heap) (locs1 : List Loc), va_P G vwCl X1 H1 → va_D A X1 → va_S A s.heap H1 locs1 → W p l e R s m args below meth c H1 locs1 cells slots Q (F0 m (pc + 3) ls (.int r0 :: rest))) : W p l e R s m args below meth c H locs cells slots Q (F0 m pc ls st) := by
  subst hq
  subst hst
  refine va_calli (va_runV (As := As) (rest := rest) ⟨hx, hb, hml, hown, hts⟩ hM (cwV n hts hT hw hrc hrs hd hR) ⟨k_pre_blind, va_recv hK (k_cut hP isC hC) hcl hr0, k_preU hP hK hD isC hn hC⟩ rfl hnA hls rfl (lv_room hcat) hdg hcs) hS (fun q _ h => va_free hD hS hA isC hC q h) (va_free hD hS hA isC hC) (fun r u t H1 locs1 ht hvm hw2 hB hz1 hk1 hS1 => ?_)
  rw [ht] at hB
  have hP1 := k_mix hP hD isC isR hC hC1 hRR hlen hcov hk1 hB
  have hD1 := k_D_of hD hadr
  obtain ⟨rfl, hpp⟩ := hw2
  exact kk hpp H1 locs1 hP1 hD1 hS1
theorem k_Si {r0 : Int32} {pp : Prop} (hx : p.tables.exec = Jvm.exec) (hb : c.code = cc) (hml : c.maxLocals = nL) (hown : s.vm.findClass own = some m.cls) (hts : ∀ w ∈ Ts, w.before args s = true)
    (hM : Met l y ws rm (k_pre G T wc H.size As) (va_Qi (fun r (_ : Unit) => r = r0 ∧ pp) (fun _ t => va_P G vwCl w1 t.heap) (va_A wc H.size)) 0 0 (va_A wc H.size))
    (hT : GoodIn Ts (va_wsS own index y ws)) (hw : ws = Cond.code y bytes maxL ret :: ws') (hrc : rm.cells = 0) (hrs : rm.slots = 0) (hd : y.cls ≠ "java/lang/invoke/MethodHandle" ∧ y.cls ≠ "java/lang/invoke/VarHandle" ∧ (parseMethodDescriptor y.desc).map (fun d => d.parameters.length) = some n) (hR : rm.frames + 1 ≤ R.frames ∧ 8 + (maxL + 11) + rm.locals ≤ R.locals)
    (hK : va_K G vwCl T s) (hP : va_P G vwCl X H) (hD : va_D A X) (hS : va_S A s.heap H locs) (hA : ∀ q : Nat, s.heap.size ≤ q → A q)
    (isC : List Nat) (hn : va_nd isC = true) (hC : isC.map (fun i => X[i]?) = wc.map some) (hl : isC.length = w1.length) 
    (hnA : As.length = n) (hst : st = As.reverse ++ rest) (hls : ls.size = nL) (hcat : (rest.map fun v => v.category).sum ≤ 8) (hdg : decode cc pc = .ok (.invokestatic index, 3)) (hcs : cells ≤ R.cells ∧ slots ≤ R.slots)
    (X1 : va_W) (isR : List Nat) (n1 : Nat) (hC1 : isC.map (fun i => X1[i]?) = w1.map some) (hRR : isR.map (fun i => X1[i]?) = isR.map (fun i => X[i]?)) (hlen : X1.length = n1) (hcov : ∀ k, k < n1 → k ∈ isC ∨ (k ∈ isR ∧ k ∉ isC)) (hadr : X1.map Prod.fst = X.map Prod.fst)
    (kk : pp → ∀ (H1 : Heap) (locs1 : List Loc), va_P G vwCl X1 H1 → va_D A X1 → va_S A s.heap H1 locs1 → W p l e R s m args below meth c H1 locs1 cells slots Q (F0 m (pc + 3) ls (.int r0 :: rest))) : W p l e R s m args below meth c H locs cells slots Q (F0 m pc ls st) := by
  subst hst
  refine va_calli (va_runS (As := As) (rest := rest) ⟨hx, hb, hml, hown, hts⟩ hM (va_cwS n hts hT hw hrc hrs hd hR) ⟨k_pre_blind, k_preU hP hK hD isC hn hC⟩ rfl hnA hls rfl (lv_room hcat) hdg hcs) hS (fun q _ h => va_free hD hS hA isC hC q h) (va_free hD hS hA isC hC) (fun r u t H1 locs1 ht hvm hw2 hB hz1 hk1 hS1 => ?_)
  rw [ht] at hB
  have hP1 := k_mix hP hD isC isR hC hC1 hRR hlen hcov hk1 hB
  have hD1 := k_D_of hD hadr
  obtain ⟨rfl, hpp⟩ := hw2
  exact kk hpp H1 locs1 hP1 hD1 hS1
theorem k_Vl {r0 : Int64} {pp : Prop} (hx : p.tables.exec = Jvm.exec) (hb : c.code = cc) (hml : c.maxLocals = nL) (hown : s.vm.findClass own = some m.cls) (hts : ∀ w ∈ Ts, w.before args s = true)
    (hM : Met l y ws rm (k_pre G T wc H.size (.ref b :: As)) (va_Ql (fun r (_ : Unit) => r = r0 ∧ pp) (fun _ t => va_P G vwCl w1 t.heap) (va_A wc H.size)) 0 0 (va_A wc H.size))
    (hT : GoodIn Ts (wsV own index C y ws)) (hw : ws = Cond.code y bytes maxL ret :: ws') (hrc : rm.cells = 0) (hrs : rm.slots = 0) (hd : y.cls = C ∧ y.cls ≠ "java/lang/invoke/MethodHandle" ∧ y.cls ≠ "java/lang/invoke/VarHandle" ∧ (parseMethodDescriptor y.desc).map (fun d => d.parameters.length) = some n) (hR : rm.frames + 1 ≤ R.frames ∧ 8 + (maxL + 11) + rm.locals ≤ R.locals)
    (hK : va_K G vwCl T s) (hP : va_P G vwCl X H) (hD : va_D A X) (hS : va_S A s.heap H locs) (hA : ∀ q : Nat, s.heap.size ≤ q → A q)
    (isC : List Nat) (hn : va_nd isC = true) (hC : isC.map (fun i => X[i]?) = wc.map some) (hl : isC.length = w1.length) (hr0 : wc[0]? = some (b, .inr (ci, fs))) (hcl : vwCl[ci]? = some q) (hq : q.1 = C) 
    (hnA : As.length = n) (hst : st = As.reverse ++ .ref b :: rest) (hls : ls.size = nL) (hcat : (rest.map fun v => v.category).sum ≤ 8) (hdg : decode cc pc = .ok (.invokevirtual index, 3)) (hcs : cells ≤ R.cells ∧ slots ≤ R.slots)
    (X1 : va_W) (isR : List Nat) (n1 : Nat) (hC1 : isC.map (fun i => X1[i]?) = w1.map some) (hRR : isR.map (fun i => X1[i]?) = isR.map (fun i => X[i]?)) (hlen : X1.length = n1) (hcov : ∀ k, k < n1 → k ∈ isC ∨ (k ∈ isR ∧ k ∉ isC)) (hadr : X1.map Prod.fst = X.map Prod.fst)
    (kk : pp → ∀ (H1 : Heap) (locs1 : List Loc), va_P G vwCl X1 H1 → va_D A X1 → va_S A s.heap H1 locs1 → W p l e R s m args below meth c H1 locs1 cells slots Q (F0 m (pc + 3) ls (.long r0 :: rest))) : W p l e R s m args below meth c H locs cells slots Q (F0 m pc ls st) := by
  subst hq
  subst hst
  refine va_calll (va_runV (As := As) (rest := rest) ⟨hx, hb, hml, hown, hts⟩ hM (cwV n hts hT hw hrc hrs hd hR) ⟨k_pre_blind, va_recv hK (k_cut hP isC hC) hcl hr0, k_preU hP hK hD isC hn hC⟩ rfl hnA hls rfl (lv_room hcat) hdg hcs) hS (fun q _ h => va_free hD hS hA isC hC q h) (va_free hD hS hA isC hC) (fun r u t H1 locs1 ht hvm hw2 hB hz1 hk1 hS1 => ?_)
  rw [ht] at hB
  have hP1 := k_mix hP hD isC isR hC hC1 hRR hlen hcov hk1 hB
  have hD1 := k_D_of hD hadr
  obtain ⟨rfl, hpp⟩ := hw2
  exact kk hpp H1 locs1 hP1 hD1 hS1
theorem k_Sl {r0 : Int64} {pp : Prop} (hx : p.tables.exec = Jvm.exec) (hb : c.code = cc) (hml : c.maxLocals = nL) (hown : s.vm.findClass own = some m.cls) (hts : ∀ w ∈ Ts, w.before args s = true)
    (hM : Met l y ws rm (k_pre G T wc H.size As) (va_Ql (fun r (_ : Unit) => r = r0 ∧ pp) (fun _ t => va_P G vwCl w1 t.heap) (va_A wc H.size)) 0 0 (va_A wc H.size))
    (hT : GoodIn Ts (va_wsS own index y ws)) (hw : ws = Cond.code y bytes maxL ret :: ws') (hrc : rm.cells = 0) (hrs : rm.slots = 0) (hd : y.cls ≠ "java/lang/invoke/MethodHandle" ∧ y.cls ≠ "java/lang/invoke/VarHandle" ∧ (parseMethodDescriptor y.desc).map (fun d => d.parameters.length) = some n) (hR : rm.frames + 1 ≤ R.frames ∧ 8 + (maxL + 11) + rm.locals ≤ R.locals)
    (hK : va_K G vwCl T s) (hP : va_P G vwCl X H) (hD : va_D A X) (hS : va_S A s.heap H locs) (hA : ∀ q : Nat, s.heap.size ≤ q → A q)
    (isC : List Nat) (hn : va_nd isC = true) (hC : isC.map (fun i => X[i]?) = wc.map some) (hl : isC.length = w1.length) 
    (hnA : As.length = n) (hst : st = As.reverse ++ rest) (hls : ls.size = nL) (hcat : (rest.map fun v => v.category).sum ≤ 8) (hdg : decode cc pc = .ok (.invokestatic index, 3)) (hcs : cells ≤ R.cells ∧ slots ≤ R.slots)
    (X1 : va_W) (isR : List Nat) (n1 : Nat) (hC1 : isC.map (fun i => X1[i]?) = w1.map some) (hRR : isR.map (fun i => X1[i]?) = isR.map (fun i => X[i]?)) (hlen : X1.length = n1) (hcov : ∀ k, k < n1 → k ∈ isC ∨ (k ∈ isR ∧ k ∉ isC)) (hadr : X1.map Prod.fst = X.map Prod.fst)
    (kk : pp → ∀ (H1 : Heap) (locs1 : List Loc), va_P G vwCl X1 H1 → va_D A X1 → va_S A s.heap H1 locs1 → W p l e R s m args below meth c H1 locs1 cells slots Q (F0 m (pc + 3) ls (.long r0 :: rest))) : W p l e R s m args below meth c H locs cells slots Q (F0 m pc ls st) := by
  subst hst
  refine va_calll (va_runS (As := As) (rest := rest) ⟨hx, hb, hml, hown, hts⟩ hM (va_cwS n hts hT hw hrc hrs hd hR) ⟨k_pre_blind, k_preU hP hK hD isC hn hC⟩ rfl hnA hls rfl (lv_room hcat) hdg hcs) hS (fun q _ h => va_free hD hS hA isC hC q h) (va_free hD hS hA isC hC) (fun r u t H1 locs1 ht hvm hw2 hB hz1 hk1 hS1 => ?_)
  rw [ht] at hB
  have hP1 := k_mix hP hD isC isR hC hC1 hRR hlen hcov hk1 hB
  have hD1 := k_D_of hD hadr
  obtain ⟨rfl, hpp⟩ := hw2
  exact kk hpp H1 locs1 hP1 hD1 hS1
theorem k_Vv {pp : Prop} (hx : p.tables.exec = Jvm.exec) (hb : c.code = cc) (hml : c.maxLocals = nL) (hown : s.vm.findClass own = some m.cls) (hts : ∀ w ∈ Ts, w.before args s = true)
    (hM : Met l y ws rm (k_pre G T wc H.size (.ref b :: As)) (va_Qv (fun (_ : Unit) => pp) (fun _ t => va_P G vwCl w1 t.heap) (va_A wc H.size)) 0 0 (va_A wc H.size))
    (hT : GoodIn Ts (wsV own index C y ws)) (hw : ws = Cond.code y bytes maxL ret :: ws') (hrc : rm.cells = 0) (hrs : rm.slots = 0) (hd : y.cls = C ∧ y.cls ≠ "java/lang/invoke/MethodHandle" ∧ y.cls ≠ "java/lang/invoke/VarHandle" ∧ (parseMethodDescriptor y.desc).map (fun d => d.parameters.length) = some n) (hR : rm.frames + 1 ≤ R.frames ∧ 8 + (maxL + 11) + rm.locals ≤ R.locals)
    (hK : va_K G vwCl T s) (hP : va_P G vwCl X H) (hD : va_D A X) (hS : va_S A s.heap H locs) (hA : ∀ q : Nat, s.heap.size ≤ q → A q)
    (isC : List Nat) (hn : va_nd isC = true) (hC : isC.map (fun i => X[i]?) = wc.map some) (hl : isC.length = w1.length) (hr0 : wc[0]? = some (b, .inr (ci, fs))) (hcl : vwCl[ci]? = some q) (hq : q.1 = C) 
    (hnA : As.length = n) (hst : st = As.reverse ++ .ref b :: rest) (hls : ls.size = nL) (hcat : (rest.map fun v => v.category).sum ≤ 8) (hdg : decode cc pc = .ok (.invokevirtual index, 3)) (hcs : cells ≤ R.cells ∧ slots ≤ R.slots)
    (X1 : va_W) (isR : List Nat) (n1 : Nat) (hC1 : isC.map (fun i => X1[i]?) = w1.map some) (hRR : isR.map (fun i => X1[i]?) = isR.map (fun i => X[i]?)) (hlen : X1.length = n1) (hcov : ∀ k, k < n1 → k ∈ isC ∨ (k ∈ isR ∧ k ∉ isC)) (hadr : X1.map Prod.fst = X.map Prod.fst)
    (kk : pp → ∀ (H1 : Heap) (locs1 : List Loc), va_P G vwCl X1 H1 → va_D A X1 → va_S A s.heap H1 locs1 → W p l e R s m args below meth c H1 locs1 cells slots Q (F0 m (pc + 3) ls (rest))) : W p l e R s m args below meth c H locs cells slots Q (F0 m pc ls st) := by
  subst hq
  subst hst
  refine va_callv (va_runV (As := As) (rest := rest) ⟨hx, hb, hml, hown, hts⟩ hM (cwV n hts hT hw hrc hrs hd hR) ⟨k_pre_blind, va_recv hK (k_cut hP isC hC) hcl hr0, k_preU hP hK hD isC hn hC⟩ rfl hnA hls rfl (lv_room hcat) hdg hcs) hS (fun q _ h => va_free hD hS hA isC hC q h) (va_free hD hS hA isC hC) (fun u t H1 locs1 ht hvm hw2 hB hz1 hk1 hS1 => ?_)
  rw [ht] at hB
  have hP1 := k_mix hP hD isC isR hC hC1 hRR hlen hcov hk1 hB
  have hD1 := k_D_of hD hadr
  exact kk hw2 H1 locs1 hP1 hD1 hS1
theorem k_VvR {pp : Prop} (hx : p.tables.exec = Jvm.exec) (hb : c.code = cc) (hml : c.maxLocals = nL) (hown : s.vm.findClass own = some m.cls) (hts : ∀ w ∈ Ts, w.before args s = true)
    (hM : Met l y ws rm (k_pre G T wc H.size (.ref b :: As)) (va_Qv (fun (_ : Unit) => pp) (fun _ t => va_P G vwCl w1 t.heap) (va_A wc H.size)) 0 0 (va_A wc H.size))
    (hT : GoodIn Ts (wsV own index C y ws)) (hw : ws = Cond.code y bytes maxL ret :: ws') (hrc : rm.cells = 0) (hrs : rm.slots = 0) (hd : y.cls = C ∧ y.cls ≠ "java/lang/invoke/MethodHandle" ∧ y.cls ≠ "java/lang/invoke/VarHandle" ∧ (parseMethodDescriptor y.desc).map (fun d => d.parameters.length) = some n) (hR : rm.frames + 1 ≤ R.frames ∧ 8 + (maxL + 11) + rm.locals ≤ R.locals)
    (hK : va_K G vwCl T s) (hP : va_P G vwCl X H) (hD : va_D A X) (hS : va_S A s.heap H locs) (hA : ∀ q : Nat, s.heap.size ≤ q → A q)
    (isC : List Nat) (hn : va_nd isC = true) (hC : isC.map (fun i => X[i]?) = wc.map some) (hl : isC.length = w1.length) (hr0 : wc[0]? = some (b, .inr (ci, fs))) (hcl : vwCl[ci]? = some q) (hq : q.1 = C) 
    (hnA : As.length = n) (hst : st = As.reverse ++ .ref b :: rest) (hls : ls.size = nL) (hcat : (rest.map fun v => v.category).sum ≤ 8) (hdg : decode cc pc = .ok (.invokevirtual index, 3)) (hcs : cells ≤ R.cells ∧ slots ≤ R.slots)
    (X1 : va_W) (hX1 : k_rep X isC w1 = X1) (hadr : X1.map Prod.fst = X.map Prod.fst)
    (kk : pp → ∀ (H1 : Heap) (locs1 : List Loc), va_P G vwCl X1 H1 → va_D A X1 → va_S A s.heap H1 locs1 → W p l e R s m args below meth c H1 locs1 cells slots Q (F0 m (pc + 3) ls (rest))) : W p l e R s m args below meth c H locs cells slots Q (F0 m pc ls st) := by
  subst hq
  subst hst
  refine va_callv (va_runV (As := As) (rest := rest) ⟨hx, hb, hml, hown, hts⟩ hM (cwV n hts hT hw hrc hrs hd hR) ⟨k_pre_blind, va_recv hK (k_cut hP isC hC) hcl hr0, k_preU hP hK hD isC hn hC⟩ rfl hnA hls rfl (lv_room hcat) hdg hcs) hS (fun q _ h => va_free hD hS hA isC hC q h) (va_free hD hS hA isC hC) (fun u t H1 locs1 ht hvm hw2 hB hz1 hk1 hS1 => ?_)
  rw [ht] at hB
  obtain ⟨hP1, hD1⟩ := k_join hP hD isC hC hl hX1 hadr hk1 hB
  exact kk hw2 H1 locs1 hP1 hD1 hS1
theorem k_Sv {pp : Prop} (hx : p.tables.exec = Jvm.exec) (hb : c.code = cc) (hml : c.maxLocals = nL) (hown : s.vm.findClass own = some m.cls) (hts : ∀ w ∈ Ts, w.before args s = true)
    (hM : Met l y ws rm (k_pre G T wc H.size As) (va_Qv (fun (_ : Unit) => pp) (fun _ t => va_P G vwCl w1 t.heap) (va_A wc H.size)) 0 0 (va_A wc H.size))
    (hT : GoodIn Ts (va_wsS own index y ws)) (hw : ws = Cond.code y bytes maxL ret :: ws') (hrc : rm.cells = 0) (hrs : rm.slots = 0) (hd : y.cls ≠ "java/lang/invoke/MethodHandle" ∧ y.cls ≠ "java/lang/invoke/VarHandle" ∧ (parseMethodDescriptor y.desc).map (fun d => d.parameters.length) = some n) (hR : rm.frames + 1 ≤ R.frames ∧ 8 + (maxL + 11) + rm.locals ≤ R.locals)
    (hK : va_K G vwCl T s) (hP : va_P G vwCl X H) (hD : va_D A X) (hS : va_S A s.heap H locs) (hA : ∀ q : Nat, s.heap.size ≤ q → A q)
    (isC : List Nat) (hn : va_nd isC = true) (hC : isC.map (fun i => X[i]?) = wc.map some) (hl : isC.length = w1.length) 
    (hnA : As.length = n) (hst : st = As.reverse ++ rest) (hls : ls.size = nL) (hcat : (rest.map fun v => v.category).sum ≤ 8) (hdg : decode cc pc = .ok (.invokestatic index, 3)) (hcs : cells ≤ R.cells ∧ slots ≤ R.slots)
    (X1 : va_W) (isR : List Nat) (n1 : Nat) (hC1 : isC.map (fun i => X1[i]?) = w1.map some) (hRR : isR.map (fun i => X1[i]?) = isR.map (fun i => X[i]?)) (hlen : X1.length = n1) (hcov : ∀ k, k < n1 → k ∈ isC ∨ (k ∈ isR ∧ k ∉ isC)) (hadr : X1.map Prod.fst = X.map Prod.fst)
    (kk : pp → ∀ (H1 : Heap) (locs1 : List Loc), va_P G vwCl X1 H1 → va_D A X1 → va_S A s.heap H1 locs1 → W p l e R s m args below meth c H1 locs1 cells slots Q (F0 m (pc + 3) ls (rest))) : W p l e R s m args below meth c H locs cells slots Q (F0 m pc ls st) := by
  subst hst
  refine va_callv (va_runS (As := As) (rest := rest) ⟨hx, hb, hml, hown, hts⟩ hM (va_cwS n hts hT hw hrc hrs hd hR) ⟨k_pre_blind, k_preU hP hK hD isC hn hC⟩ rfl hnA hls rfl (lv_room hcat) hdg hcs) hS (fun q _ h => va_free hD hS hA isC hC q h) (va_free hD hS hA isC hC) (fun u t H1 locs1 ht hvm hw2 hB hz1 hk1 hS1 => ?_)
  rw [ht] at hB
  have hP1 := k_mix hP hD isC isR hC hC1 hRR hlen hcov hk1 hB
  have hD1 := k_D_of hD hadr
  exact kk hw2 H1 locs1 hP1 hD1 hS1
theorem k_iret {v r0 : Int32} (hx : p.tables.exec = Jvm.exec) (hb : c.code = cc) (hr : meth.sig.returnType = some .int) (hlocks : meth.locks = false) (hP : va_P G vwCl X H) (hS : va_S A s.heap H locs) (hv : v = r0) (hdg : decode cc pc = .ok (.ireturn, 1)) : W p l e R s m args below meth c H locs cells slots (MQ below (va_Qi (fun r (_ : Unit) => r = r0 ∧ True) (fun _ t => va_P G vwCl X t.heap) A) args s cells slots A) (F0 m pc ls [.int v]) :=
  W.iret hx hb hr (fun t ht _ => ⟨⟨_, (), rfl, ⟨hv, trivial⟩, k_at ht hP⟩, hS.F ht⟩) hS.2.2 hdg
theorem k_zret {v r0 : Int32} (hx : p.tables.exec = Jvm.exec) (hb : c.code = cc) (hr : meth.sig.returnType = some .boolean) (hlocks : meth.locks = false) (hP : va_P G vwCl X H) (hS : va_S A s.heap H locs) (hv : v = r0) (hnar : narrow .boolean (.int v) = .int v) (hdg : decode cc pc = .ok (.ireturn, 1)) : W p l e R s m args below meth c H locs cells slots (MQ below (va_Qi (fun r (_ : Unit) => r = r0 ∧ narrow .boolean (.int r0) = .int r0) (fun _ t => va_P G vwCl X t.heap) A) args s cells slots A) (F0 m pc ls [.int v]) :=
  W.zret hx hb hr hnar (fun t ht _ => ⟨⟨_, (), rfl, ⟨hv, by rw [← hv]; exact hnar⟩, k_at ht hP⟩, hS.F ht⟩) hS.2.2 hdg
theorem k_lret {v r0 : Int64} (hx : p.tables.exec = Jvm.exec) (hb : c.code = cc) (hr : meth.sig.returnType = some .long) (hlocks : meth.locks = false) (hP : va_P G vwCl X H) (hS : va_S A s.heap H locs) (hv : v = r0) (hdg : decode cc pc = .ok (.lreturn, 1)) : W p l e R s m args below meth c H locs cells slots (MQ below (va_Ql (fun r (_ : Unit) => r = r0 ∧ True) (fun _ t => va_P G vwCl X t.heap) A) args s cells slots A) (F0 m pc ls [.long v]) :=
  W.lret hx hb hr (fun t ht _ => ⟨⟨_, (), rfl, ⟨hv, trivial⟩, k_at ht hP⟩, hS.F ht⟩) hS.2.2 hdg
theorem k_vret (hx : p.tables.exec = Jvm.exec) (hb : c.code = cc) (hr : meth.sig.returnType = none) (hlocks : meth.locks = false) (hP : va_P G vwCl X H) (hS : va_S A s.heap H locs) (hdg : decode cc pc = .ok (.return_, 1)) : W p l e R s m args below meth c H locs cells slots (MQ below (va_Qv (fun (_ : Unit) => True) (fun _ t => va_P G vwCl X t.heap) A) args s cells slots A) (F0 m pc ls []) :=
  W.vret hx hb hr (fun t ht _ => ⟨⟨(), rfl, trivial, k_at ht hP⟩, hS.F ht⟩) hS.2.2 hdg
theorem k_ViP {r0 : Int32} {pp : Prop} (hx : p.tables.exec = Jvm.exec) (hb : c.code = cc) (hml : c.maxLocals = nL) (hown : s.vm.findClass own = some m.cls) (hts : ∀ w ∈ Ts, w.before args s = true)
    (hM : Met l y ws rm (k_pre G T wc H.size (.ref b :: As)) (va_Qi (fun r (_ : Unit) => r = r0 ∧ pp) (fun _ t => va_P G vwCl w1 t.heap ∧ va_D (va_A wc H.size) w1) (va_A wc H.size)) 0 0 (va_A wc H.size))
    (hT : GoodIn Ts (wsV own index C y ws)) (hw : ws = Cond.code y bytes maxL ret :: ws') (hrc : rm.cells = 0) (hrs : rm.slots = 0) (hd : y.cls = C ∧ y.cls ≠ "java/lang/invoke/MethodHandle" ∧ y.cls ≠ "java/lang/invoke/VarHandle" ∧ (parseMethodDescriptor y.desc).map (fun d => d.parameters.length) = some n) (hR : rm.frames + 1 ≤ R.frames ∧ 8 + (maxL + 11) + rm.locals ≤ R.locals)
    (hK : va_K G vwCl T s) (hP : va_P G vwCl X H) (hD : va_D A X) (hS : va_S A s.heap H locs) (hA : ∀ q : Nat, s.heap.size ≤ q → A q)
    (isC : List Nat) (hn : va_nd isC = true) (hC : isC.map (fun i => X[i]?) = wc.map some) (hl : isC.length = w1.length) (hr0 : wc[0]? = some (b, .inr (ci, fs))) (hcl : vwCl[ci]? = some q) (hq : q.1 = C) 
    (hnA : As.length = n) (hst : st = As.reverse ++ .ref b :: rest) (hls : ls.size = nL) (hcat : (rest.map fun v => v.category).sum ≤ 8) (hdg : decode cc pc = .ok (.invokevirtual index, 3)) (hcs : cells ≤ R.cells ∧ slots ≤ R.slots)
    (X1 : va_W) (isR : List Nat) (n1 : Nat) (hC1 : isC.map (fun i => X1[i]?) = w1.map some) (hRR : isR.map (fun i => X1[i]?) = isR.map (fun i => X[i]?)) (hlen : X1.length = n1) (hcov : ∀ k, k < n1 → k ∈ isC ∨ (k ∈ isR ∧ k ∉ isC))
    (kk : pp → ∀ (H1 : Heap) (locs1 : List Loc), va_P G vwCl X1 H1 → va_D A X1 → va_S A s.heap H1 locs1 → W p l e R s m args below meth c H1 locs1 cells slots Q (F0 m (pc + 3) ls (.int r0 :: rest))) : W p l e R s m args below meth c H locs cells slots Q (F0 m pc ls st) := by
  subst hq
  subst hst
  refine va_calli (va_runV (As := As) (rest := rest) ⟨hx, hb, hml, hown, hts⟩ hM (cwV n hts hT hw hrc hrs hd hR) ⟨k_pre_blind, va_recv hK (k_cut hP isC hC) hcl hr0, k_preU hP hK hD isC hn hC⟩ rfl hnA hls rfl (lv_room hcat) hdg hcs) hS (fun q _ h => va_free hD hS hA isC hC q h) (va_free hD hS hA isC hC) (fun r u t H1 locs1 ht hvm hw2 hB hz1 hk1 hS1 => ?_)
  rw [ht] at hB
  obtain ⟨hB, hBD⟩ := hB
  have hP1 := k_mix hP hD isC isR hC hC1 hRR hlen hcov hk1 hB
  have hD1 := k_mixD hP hD isC isR hC hC1 hRR hlen hcov (va_free hD hS hA isC hC) hBD
  obtain ⟨rfl, hpp⟩ := hw2
  exact kk hpp H1 locs1 hP1 hD1 hS1
theorem k_VvP {pp : Prop} (hx : p.tables.exec = Jvm.exec) (hb : c.code = cc) (hml : c.maxLocals = nL) (hown : s.vm.findClass own = some m.cls) (hts : ∀ w ∈ Ts, w.before args s = true)
    (hM : Met l y ws rm (k_pre G T wc H.size (.ref b :: As)) (va_Qv (fun (_ : Unit) => pp) (fun _ t => va_P G vwCl w1 t.heap ∧ va_D (va_A wc H.size) w1) (va_A wc H.size)) 0 0 (va_A wc H.size))
    (hT : GoodIn Ts (wsV own index C y ws)) (hw : ws = Cond.code y bytes maxL ret :: ws') (hrc : rm.cells = 0) (hrs : rm.slots = 0) (hd : y.cls = C ∧ y.cls ≠ "java/lang/invoke/MethodHandle" ∧ y.cls ≠ "java/lang/invoke/VarHandle" ∧ (parseMethodDescriptor y.desc).map (fun d => d.parameters.length) = some n) (hR : rm.frames + 1 ≤ R.frames ∧ 8 + (maxL + 11) + rm.locals ≤ R.locals)
    (hK : va_K G vwCl T s) (hP : va_P G vwCl X H) (hD : va_D A X) (hS : va_S A s.heap H locs) (hA : ∀ q : Nat, s.heap.size ≤ q → A q)
    (isC : List Nat) (hn : va_nd isC = true) (hC : isC.map (fun i => X[i]?) = wc.map some) (hl : isC.length = w1.length) (hr0 : wc[0]? = some (b, .inr (ci, fs))) (hcl : vwCl[ci]? = some q) (hq : q.1 = C) 
    (hnA : As.length = n) (hst : st = As.reverse ++ .ref b :: rest) (hls : ls.size = nL) (hcat : (rest.map fun v => v.category).sum ≤ 8) (hdg : decode cc pc = .ok (.invokevirtual index, 3)) (hcs : cells ≤ R.cells ∧ slots ≤ R.slots)
    (X1 : va_W) (isR : List Nat) (n1 : Nat) (hC1 : isC.map (fun i => X1[i]?) = w1.map some) (hRR : isR.map (fun i => X1[i]?) = isR.map (fun i => X[i]?)) (hlen : X1.length = n1) (hcov : ∀ k, k < n1 → k ∈ isC ∨ (k ∈ isR ∧ k ∉ isC))
    (kk : pp → ∀ (H1 : Heap) (locs1 : List Loc), va_P G vwCl X1 H1 → va_D A X1 → va_S A s.heap H1 locs1 → W p l e R s m args below meth c H1 locs1 cells slots Q (F0 m (pc + 3) ls (rest))) : W p l e R s m args below meth c H locs cells slots Q (F0 m pc ls st) := by
  subst hq
  subst hst
  refine va_callv (va_runV (As := As) (rest := rest) ⟨hx, hb, hml, hown, hts⟩ hM (cwV n hts hT hw hrc hrs hd hR) ⟨k_pre_blind, va_recv hK (k_cut hP isC hC) hcl hr0, k_preU hP hK hD isC hn hC⟩ rfl hnA hls rfl (lv_room hcat) hdg hcs) hS (fun q _ h => va_free hD hS hA isC hC q h) (va_free hD hS hA isC hC) (fun u t H1 locs1 ht hvm hw2 hB hz1 hk1 hS1 => ?_)
  rw [ht] at hB
  obtain ⟨hB, hBD⟩ := hB
  have hP1 := k_mix hP hD isC isR hC hC1 hRR hlen hcov hk1 hB
  have hD1 := k_mixD hP hD isC isR hC hC1 hRR hlen hcov (va_free hD hS hA isC hC) hBD
  exact kk hw2 H1 locs1 hP1 hD1 hS1
theorem k_VlP {r0 : Int64} {pp : Prop} (hx : p.tables.exec = Jvm.exec) (hb : c.code = cc) (hml : c.maxLocals = nL) (hown : s.vm.findClass own = some m.cls) (hts : ∀ w ∈ Ts, w.before args s = true)
    (hM : Met l y ws rm (k_pre G T wc H.size (.ref b :: As)) (va_Ql (fun r (_ : Unit) => r = r0 ∧ pp) (fun _ t => va_P G vwCl w1 t.heap ∧ va_D (va_A wc H.size) w1) (va_A wc H.size)) 0 0 (va_A wc H.size))
    (hT : GoodIn Ts (wsV own index C y ws)) (hw : ws = Cond.code y bytes maxL ret :: ws') (hrc : rm.cells = 0) (hrs : rm.slots = 0) (hd : y.cls = C ∧ y.cls ≠ "java/lang/invoke/MethodHandle" ∧ y.cls ≠ "java/lang/invoke/VarHandle" ∧ (parseMethodDescriptor y.desc).map (fun d => d.parameters.length) = some n) (hR : rm.frames + 1 ≤ R.frames ∧ 8 + (maxL + 11) + rm.locals ≤ R.locals)
    (hK : va_K G vwCl T s) (hP : va_P G vwCl X H) (hD : va_D A X) (hS : va_S A s.heap H locs) (hA : ∀ q : Nat, s.heap.size ≤ q → A q)
    (isC : List Nat) (hn : va_nd isC = true) (hC : isC.map (fun i => X[i]?) = wc.map some) (hl : isC.length = w1.length) (hr0 : wc[0]? = some (b, .inr (ci, fs))) (hcl : vwCl[ci]? = some q) (hq : q.1 = C) 
    (hnA : As.length = n) (hst : st = As.reverse ++ .ref b :: rest) (hls : ls.size = nL) (hcat : (rest.map fun v => v.category).sum ≤ 8) (hdg : decode cc pc = .ok (.invokevirtual index, 3)) (hcs : cells ≤ R.cells ∧ slots ≤ R.slots)
    (X1 : va_W) (isR : List Nat) (n1 : Nat) (hC1 : isC.map (fun i => X1[i]?) = w1.map some) (hRR : isR.map (fun i => X1[i]?) = isR.map (fun i => X[i]?)) (hlen : X1.length = n1) (hcov : ∀ k, k < n1 → k ∈ isC ∨ (k ∈ isR ∧ k ∉ isC))
    (kk : pp → ∀ (H1 : Heap) (locs1 : List Loc), va_P G vwCl X1 H1 → va_D A X1 → va_S A s.heap H1 locs1 → W p l e R s m args below meth c H1 locs1 cells slots Q (F0 m (pc + 3) ls (.long r0 :: rest))) : W p l e R s m args below meth c H locs cells slots Q (F0 m pc ls st) := by
  subst hq
  subst hst
  refine va_calll (va_runV (As := As) (rest := rest) ⟨hx, hb, hml, hown, hts⟩ hM (cwV n hts hT hw hrc hrs hd hR) ⟨k_pre_blind, va_recv hK (k_cut hP isC hC) hcl hr0, k_preU hP hK hD isC hn hC⟩ rfl hnA hls rfl (lv_room hcat) hdg hcs) hS (fun q _ h => va_free hD hS hA isC hC q h) (va_free hD hS hA isC hC) (fun r u t H1 locs1 ht hvm hw2 hB hz1 hk1 hS1 => ?_)
  rw [ht] at hB
  obtain ⟨hB, hBD⟩ := hB
  have hP1 := k_mix hP hD isC isR hC hC1 hRR hlen hcov hk1 hB
  have hD1 := k_mixD hP hD isC isR hC hC1 hRR hlen hcov (va_free hD hS hA isC hC) hBD
  obtain ⟨rfl, hpp⟩ := hw2
  exact kk hpp H1 locs1 hP1 hD1 hS1
theorem k_Vq {ro : Option Nat} (hx : p.tables.exec = Jvm.exec) (hb : c.code = cc) (hml : c.maxLocals = nL) (hown : s.vm.findClass own = some m.cls) (hts : ∀ w ∈ Ts, w.before args s = true)
    (hM : Met l y ws rm (k_pre G T wc H.size (.ref b :: As)) (va_Qq (fun r (_ : Unit) => r = ro) (fun _ t => va_P G vwCl w1 t.heap) (va_A wc H.size)) 0 0 (va_A wc H.size))
    (hT : GoodIn Ts (wsV own index C y ws)) (hw : ws = Cond.code y bytes maxL ret :: ws') (hrc : rm.cells = 0) (hrs : rm.slots = 0) (hd : y.cls = C ∧ y.cls ≠ "java/lang/invoke/MethodHandle" ∧ y.cls ≠ "java/lang/invoke/VarHandle" ∧ (parseMethodDescriptor y.desc).map (fun d => d.parameters.length) = some n) (hR : rm.frames + 1 ≤ R.frames ∧ 8 + (maxL + 11) + rm.locals ≤ R.locals)
    (hK : va_K G vwCl T s) (hP : va_P G vwCl X H) (hD : va_D A X) (hS : va_S A s.heap H locs) (hA : ∀ q : Nat, s.heap.size ≤ q → A q)
    (isC : List Nat) (hn : va_nd isC = true) (hC : isC.map (fun i => X[i]?) = wc.map some) (hl : isC.length = w1.length) (hr0 : wc[0]? = some (b, .inr (ci, fs))) (hcl : vwCl[ci]? = some q) (hq : q.1 = C) 
    (hnA : As.length = n) (hst : st = As.reverse ++ .ref b :: rest) (hls : ls.size = nL) (hcat : (rest.map fun v => v.category).sum ≤ 8) (hdg : decode cc pc = .ok (.invokevirtual index, 3)) (hcs : cells ≤ R.cells ∧ slots ≤ R.slots)
    (X1 : va_W) (isR : List Nat) (n1 : Nat) (hC1 : isC.map (fun i => X1[i]?) = w1.map some) (hRR : isR.map (fun i => X1[i]?) = isR.map (fun i => X[i]?)) (hlen : X1.length = n1) (hcov : ∀ k, k < n1 → k ∈ isC ∨ (k ∈ isR ∧ k ∉ isC)) (hadr : X1.map Prod.fst = X.map Prod.fst)
    (kk : True → ∀ (H1 : Heap) (locs1 : List Loc), va_P G vwCl X1 H1 → va_D A X1 → va_S A s.heap H1 locs1 → W p l e R s m args below meth c H1 locs1 cells slots Q (F0 m (pc + 3) ls (va_rf ro :: rest))) : W p l e R s m args below meth c H locs cells slots Q (F0 m pc ls st) := by
  subst hq
  subst hst
  refine va_callq (va_runV (As := As) (rest := rest) ⟨hx, hb, hml, hown, hts⟩ hM (cwV n hts hT hw hrc hrs hd hR) ⟨k_pre_blind, va_recv hK (k_cut hP isC hC) hcl hr0, k_preU hP hK hD isC hn hC⟩ rfl hnA hls rfl (lv_room hcat) hdg hcs) hS (fun q _ h => va_free hD hS hA isC hC q h) (va_free hD hS hA isC hC) (fun r u t H1 locs1 ht hvm hw2 hB hz1 hk1 hS1 => ?_)
  rw [ht] at hB
  have hP1 := k_mix hP hD isC isR hC hC1 hRR hlen hcov hk1 hB
  have hD1 := k_D_of hD hadr
  subst hw2
  exact kk trivial H1 locs1 hP1 hD1 hS1
theorem k_iretP {v r0 : Int32} (hx : p.tables.exec = Jvm.exec) (hb : c.code = cc) (hr : meth.sig.returnType = some .int) (hlocks : meth.locks = false) (hD : va_D A X) (hP : va_P G vwCl X H) (hS : va_S A s.heap H locs) (hv : v = r0) (hdg : decode cc pc = .ok (.ireturn, 1)) : W p l e R s m args below meth c H locs cells slots (MQ below (va_Qi (fun r (_ : Unit) => r = r0 ∧ True) (fun _ t => va_P G vwCl X t.heap ∧ va_D A X) A) args s cells slots A) (F0 m pc ls [.int v]) :=
  W.iret hx hb hr (fun t ht _ => ⟨⟨_, (), rfl, ⟨hv, trivial⟩, ⟨k_at ht hP, hD⟩⟩, hS.F ht⟩) hS.2.2 hdg
theorem k_vretP (hx : p.tables.exec = Jvm.exec) (hb : c.code = cc) (hr : meth.sig.returnType = none) (hlocks : meth.locks = false) (hD : va_D A X) (hP : va_P G vwCl X H) (hS : va_S A s.heap H locs) (hdg : decode cc pc = .ok (.return_, 1)) : W p l e R s m args below meth c H locs cells slots (MQ below (va_Qv (fun (_ : Unit) => True) (fun _ t => va_P G vwCl X t.heap ∧ va_D A X) A) args s cells slots A) (F0 m pc ls []) :=
  W.vret hx hb hr (fun t ht _ => ⟨⟨(), rfl, trivial, ⟨k_at ht hP, hD⟩⟩, hS.F ht⟩) hS.2.2 hdg
theorem k_lretP {v r0 : Int64} (hx : p.tables.exec = Jvm.exec) (hb : c.code = cc) (hr : meth.sig.returnType = some .long) (hlocks : meth.locks = false) (hD : va_D A X) (hP : va_P G vwCl X H) (hS : va_S A s.heap H locs) (hv : v = r0) (hdg : decode cc pc = .ok (.lreturn, 1)) : W p l e R s m args below meth c H locs cells slots (MQ below (va_Ql (fun r (_ : Unit) => r = r0 ∧ True) (fun _ t => va_P G vwCl X t.heap ∧ va_D A X) A) args s cells slots A) (F0 m pc ls [.long v]) :=
  W.lret hx hb hr (fun t ht _ => ⟨⟨_, (), rfl, ⟨hv, trivial⟩, ⟨k_at ht hP, hD⟩⟩, hS.F ht⟩) hS.2.2 hdg
theorem k_zretP {v r0 : Int32} (hx : p.tables.exec = Jvm.exec) (hb : c.code = cc) (hr : meth.sig.returnType = some .boolean) (hlocks : meth.locks = false) (hD : va_D A X) (hP : va_P G vwCl X H) (hS : va_S A s.heap H locs) (hv : v = r0) (hnar : narrow .boolean (.int v) = .int v) (hdg : decode cc pc = .ok (.ireturn, 1)) : W p l e R s m args below meth c H locs cells slots (MQ below (va_Qi (fun r (_ : Unit) => r = r0 ∧ narrow .boolean (.int r0) = .int r0) (fun _ t => va_P G vwCl X t.heap ∧ va_D A X) A) args s cells slots A) (F0 m pc ls [.int v]) :=
  W.zret hx hb hr hnar (fun t ht _ => ⟨⟨_, (), rfl, ⟨hv, by rw [← hv]; exact hnar⟩, ⟨k_at ht hP, hD⟩⟩, hS.F ht⟩) hS.2.2 hdg
theorem k_aret {ro r9 : Option Nat} {rt : FieldType} (hx : p.tables.exec = Jvm.exec) (hb : c.code = cc) (hr : meth.sig.returnType = some rt) (hrt : (∃ n, rt = .object n) ∨ ∃ t, rt = .array t) (hlocks : meth.locks = false) (hP : va_P G vwCl X H) (hS : va_S A s.heap H locs) (hv : ro = r9) (hdg : decode cc pc = .ok (.areturn, 1)) : W p l e R s m args below meth c H locs cells slots (MQ below (va_Qq (fun r (_ : Unit) => r = r9) (fun _ t => va_P G vwCl X t.heap) A) args s cells slots A) (F0 m pc ls [va_rf ro]) :=
  W.aret hx hb hr hrt (by cases ro with | none => exact Or.inl rfl | some a => exact Or.inr ⟨a, rfl⟩) (fun t ht _ => ⟨⟨_, (), rfl, hv, k_at ht hP⟩, hS.F ht⟩) hS.2.2 hdg
theorem k_ViU {r0 : Int32} {pp : Prop} (hx : p.tables.exec = Jvm.exec) (hb : c.code = cc) (hml : c.maxLocals = nL) (hown : s.vm.findClass own = some m.cls) (hts : ∀ w ∈ Ts, w.before args s = true)
    (hM : Met l y ws rm (k_pre G T wc H.size (.ref b :: As)) (va_Qi (fun r (_ : Unit) => r = r0 ∧ pp) (fun _ t => va_P G vwCl wc t.heap) (va_A wc H.size)) 0 0 (va_A wc H.size))
    (hT : GoodIn Ts (wsV own index C y ws)) (hw : ws = Cond.code y bytes maxL ret :: ws') (hrc : rm.cells = 0) (hrs : rm.slots = 0) (hd : y.cls = C ∧ y.cls ≠ "java/lang/invoke/MethodHandle" ∧ y.cls ≠ "java/lang/invoke/VarHandle" ∧ (parseMethodDescriptor y.desc).map (fun d => d.parameters.length) = some n) (hR : rm.frames + 1 ≤ R.frames ∧ 8 + (maxL + 11) + rm.locals ≤ R.locals)
    (hK : va_K G vwCl T s) (hP : va_P G vwCl X H) (hD : va_D A X) (hS : va_S A s.heap H locs) (hA : ∀ q : Nat, s.heap.size ≤ q → A q)
    (isC : List Nat) (hn : va_nd isC = true) (hC : isC.map (fun i => X[i]?) = wc.map some) (hr0 : wc[0]? = some (b, .inr (ci, fs))) (hcl : vwCl[ci]? = some q) (hq : q.1 = C) 
    (hnA : As.length = n) (hst : st = As.reverse ++ .ref b :: rest) (hls : ls.size = nL) (hcat : (rest.map fun v => v.category).sum ≤ 8) (hdg : decode cc pc = .ok (.invokevirtual index, 3)) (hcs : cells ≤ R.cells ∧ slots ≤ R.slots)
    
    (kk : pp → ∀ (H1 : Heap) (locs1 : List Loc), va_P G vwCl X H1 → va_S A s.heap H1 locs1 → W p l e R s m args below meth c H1 locs1 cells slots Q (F0 m (pc + 3) ls (.int r0 :: rest))) : W p l e R s m args below meth c H locs cells slots Q (F0 m pc ls st) := by
  subst hq
  subst hst
  refine va_calli (va_runV (As := As) (rest := rest) ⟨hx, hb, hml, hown, hts⟩ hM (cwV n hts hT hw hrc hrs hd hR) ⟨k_pre_blind, va_recv hK (k_cut hP isC hC) hcl hr0, k_preU hP hK hD isC hn hC⟩ rfl hnA hls rfl (lv_room hcat) hdg hcs) hS (fun q _ h => va_free hD hS hA isC hC q h) (va_free hD hS hA isC hC) (fun r u t H1 locs1 ht hvm hw2 hB hz1 hk1 hS1 => ?_)
  rw [ht] at hB
  have hP1 := k_same hP hD isC hC hk1 hB
  obtain ⟨rfl, hpp⟩ := hw2
  exact kk hpp H1 locs1 hP1 hS1
theorem k_VlU {r0 : Int64} {pp : Prop} (hx : p.tables.exec = Jvm.exec) (hb : c.code = cc) (hml : c.maxLocals = nL) (hown : s.vm.findClass own = some m.cls) (hts : ∀ w ∈ Ts, w.before args s = true)
    (hM : Met l y ws rm (k_pre G T wc H.size (.ref b :: As)) (va_Ql (fun r (_ : Unit) => r = r0 ∧ pp) (fun _ t => va_P G vwCl wc t.heap) (va_A wc H.size)) 0 0 (va_A wc H.size))
    (hT : GoodIn Ts (wsV own index C y ws)) (hw : ws = Cond.code y bytes maxL ret :: ws') (hrc : rm.cells = 0) (hrs : rm.slots = 0) (hd : y.cls = C ∧ y.cls ≠ "java/lang/invoke/MethodHandle" ∧ y.cls ≠ "java/lang/invoke/VarHandle" ∧ (parseMethodDescriptor y.desc).map (fun d => d.parameters.length) = some n) (hR : rm.frames + 1 ≤ R.frames ∧ 8 + (maxL + 11) + rm.locals ≤ R.locals)
    (hK : va_K G vwCl T s) (hP : va_P G vwCl X H) (hD : va_D A X) (hS : va_S A s.heap H locs) (hA : ∀ q : Nat, s.heap.size ≤ q → A q)
    (isC : List Nat) (hn : va_nd isC = true) (hC : isC.map (fun i => X[i]?) = wc.map some) (hr0 : wc[0]? = some (b, .inr (ci, fs))) (hcl : vwCl[ci]? = some q) (hq : q.1 = C) 
    (hnA : As.length = n) (hst : st = As.reverse ++ .ref b :: rest) (hls : ls.size = nL) (hcat : (rest.map fun v => v.category).sum ≤ 8) (hdg : decode cc pc = .ok (.invokevirtual index, 3)) (hcs : cells ≤ R.cells ∧ slots ≤ R.slots)
    
    (kk : pp → ∀ (H1 : Heap) (locs1 : List Loc), va_P G vwCl X H1 → va_S A s.heap H1 locs1 → W p l e R s m args below meth c H1 locs1 cells slots Q (F0 m (pc + 3) ls (.long r0 :: rest))) : W p l e R s m args below meth c H locs cells slots Q (F0 m pc ls st) := by
  subst hq
  subst hst
  refine va_calll (va_runV (As := As) (rest := rest) ⟨hx, hb, hml, hown, hts⟩ hM (cwV n hts hT hw hrc hrs hd hR) ⟨k_pre_blind, va_recv hK (k_cut hP isC hC) hcl hr0, k_preU hP hK hD isC hn hC⟩ rfl hnA hls rfl (lv_room hcat) hdg hcs) hS (fun q _ h => va_free hD hS hA isC hC q h) (va_free hD hS hA isC hC) (fun r u t H1 locs1 ht hvm hw2 hB hz1 hk1 hS1 => ?_)
  rw [ht] at hB
  have hP1 := k_same hP hD isC hC hk1 hB
  obtain ⟨rfl, hpp⟩ := hw2
  exact kk hpp H1 locs1 hP1 hS1
theorem k_VvU {pp : Prop} (hx : p.tables.exec = Jvm.exec) (hb : c.code = cc) (hml : c.maxLocals = nL) (hown : s.vm.findClass own = some m.cls) (hts : ∀ w ∈ Ts, w.before args s = true)
    (hM : Met l y ws rm (k_pre G T wc H.size (.ref b :: As)) (va_Qv (fun (_ : Unit) => pp) (fun _ t => va_P G vwCl wc t.heap) (va_A wc H.size)) 0 0 (va_A wc H.size))
    (hT : GoodIn Ts (wsV own index C y ws)) (hw : ws = Cond.code y bytes maxL ret :: ws') (hrc : rm.cells = 0) (hrs : rm.slots = 0) (hd : y.cls = C ∧ y.cls ≠ "java/lang/invoke/MethodHandle" ∧ y.cls ≠ "java/lang/invoke/VarHandle" ∧ (parseMethodDescriptor y.desc).map (fun d => d.parameters.length) = some n) (hR : rm.frames + 1 ≤ R.frames ∧ 8 + (maxL + 11) + rm.locals ≤ R.locals)
    (hK : va_K G vwCl T s) (hP : va_P G vwCl X H) (hD : va_D A X) (hS : va_S A s.heap H locs) (hA : ∀ q : Nat, s.heap.size ≤ q → A q)
    (isC : List Nat) (hn : va_nd isC = true) (hC : isC.map (fun i => X[i]?) = wc.map some) (hr0 : wc[0]? = some (b, .inr (ci, fs))) (hcl : vwCl[ci]? = some q) (hq : q.1 = C) 
    (hnA : As.length = n) (hst : st = As.reverse ++ .ref b :: rest) (hls : ls.size = nL) (hcat : (rest.map fun v => v.category).sum ≤ 8) (hdg : decode cc pc = .ok (.invokevirtual index, 3)) (hcs : cells ≤ R.cells ∧ slots ≤ R.slots)
    
    (kk : pp → ∀ (H1 : Heap) (locs1 : List Loc), va_P G vwCl X H1 → va_S A s.heap H1 locs1 → W p l e R s m args below meth c H1 locs1 cells slots Q (F0 m (pc + 3) ls (rest))) : W p l e R s m args below meth c H locs cells slots Q (F0 m pc ls st) := by
  subst hq
  subst hst
  refine va_callv (va_runV (As := As) (rest := rest) ⟨hx, hb, hml, hown, hts⟩ hM (cwV n hts hT hw hrc hrs hd hR) ⟨k_pre_blind, va_recv hK (k_cut hP isC hC) hcl hr0, k_preU hP hK hD isC hn hC⟩ rfl hnA hls rfl (lv_room hcat) hdg hcs) hS (fun q _ h => va_free hD hS hA isC hC q h) (va_free hD hS hA isC hC) (fun u t H1 locs1 ht hvm hw2 hB hz1 hk1 hS1 => ?_)
  rw [ht] at hB
  have hP1 := k_same hP hD isC hC hk1 hB
  exact kk hw2 H1 locs1 hP1 hS1
theorem k_SiU {r0 : Int32} {pp : Prop} (hx : p.tables.exec = Jvm.exec) (hb : c.code = cc) (hml : c.maxLocals = nL) (hown : s.vm.findClass own = some m.cls) (hts : ∀ w ∈ Ts, w.before args s = true)
    (hM : Met l y ws rm (k_pre G T wc H.size As) (va_Qi (fun r (_ : Unit) => r = r0 ∧ pp) (fun _ t => va_P G vwCl wc t.heap) (va_A wc H.size)) 0 0 (va_A wc H.size))
    (hT : GoodIn Ts (va_wsS own index y ws)) (hw : ws = Cond.code y bytes maxL ret :: ws') (hrc : rm.cells = 0) (hrs : rm.slots = 0) (hd : y.cls ≠ "java/lang/invoke/MethodHandle" ∧ y.cls ≠ "java/lang/invoke/VarHandle" ∧ (parseMethodDescriptor y.desc).map (fun d => d.parameters.length) = some n) (hR : rm.frames + 1 ≤ R.frames ∧ 8 + (maxL + 11) + rm.locals ≤ R.locals)
    (hK : va_K G vwCl T s) (hP : va_P G vwCl X H) (hD : va_D A X) (hS : va_S A s.heap H locs) (hA : ∀ q : Nat, s.heap.size ≤ q → A q)
    (isC : List Nat) (hn : va_nd isC = true) (hC : isC.map (fun i => X[i]?) = wc.map some) 
    (hnA : As.length = n) (hst : st = As.reverse ++ rest) (hls : ls.size = nL) (hcat : (rest.map fun v => v.category).sum ≤ 8) (hdg : decode cc pc = .ok (.invokestatic index, 3)) (hcs : cells ≤ R.cells ∧ slots ≤ R.slots)
    
    (kk : pp → ∀ (H1 : Heap) (locs1 : List Loc), va_P G vwCl X H1 → va_S A s.heap H1 locs1 → W p l e R s m args below meth c H1 locs1 cells slots Q (F0 m (pc + 3) ls (.int r0 :: rest))) : W p l e R s m args below meth c H locs cells slots Q (F0 m pc ls st) := by
  subst hst
  refine va_calli (va_runS (As := As) (rest := rest) ⟨hx, hb, hml, hown, hts⟩ hM (va_cwS n hts hT hw hrc hrs hd hR) ⟨k_pre_blind, k_preU hP hK hD isC hn hC⟩ rfl hnA hls rfl (lv_room hcat) hdg hcs) hS (fun q _ h => va_free hD hS hA isC hC q h) (va_free hD hS hA isC hC) (fun r u t H1 locs1 ht hvm hw2 hB hz1 hk1 hS1 => ?_)
  rw [ht] at hB
  have hP1 := k_same hP hD isC hC hk1 hB
  obtain ⟨rfl, hpp⟩ := hw2
  exact kk hpp H1 locs1 hP1 hS1
theorem k_SlU {r0 : Int64} {pp : Prop} (hx : p.tables.exec = Jvm.exec) (hb : c.code = cc) (hml : c.maxLocals = nL) (hown : s.vm.findClass own = some m.cls) (hts : ∀ w ∈ Ts, w.before args s = true)
    (hM : Met l y ws rm (k_pre G T wc H.size As) (va_Ql (fun r (_ : Unit) => r = r0 ∧ pp) (fun _ t => va_P G vwCl wc t.heap) (va_A wc H.size)) 0 0 (va_A wc H.size))
    (hT : GoodIn Ts (va_wsS own index y ws)) (hw : ws = Cond.code y bytes maxL ret :: ws') (hrc : rm.cells = 0) (hrs : rm.slots = 0) (hd : y.cls ≠ "java/lang/invoke/MethodHandle" ∧ y.cls ≠ "java/lang/invoke/VarHandle" ∧ (parseMethodDescriptor y.desc).map (fun d => d.parameters.length) = some n) (hR : rm.frames + 1 ≤ R.frames ∧ 8 + (maxL + 11) + rm.locals ≤ R.locals)
    (hK : va_K G vwCl T s) (hP : va_P G vwCl X H) (hD : va_D A X) (hS : va_S A s.heap H locs) (hA : ∀ q : Nat, s.heap.size ≤ q → A q)
    (isC : List Nat) (hn : va_nd isC = true) (hC : isC.map (fun i => X[i]?) = wc.map some) 
    (hnA : As.length = n) (hst : st = As.reverse ++ rest) (hls : ls.size = nL) (hcat : (rest.map fun v => v.category).sum ≤ 8) (hdg : decode cc pc = .ok (.invokestatic index, 3)) (hcs : cells ≤ R.cells ∧ slots ≤ R.slots)
    
    (kk : pp → ∀ (H1 : Heap) (locs1 : List Loc), va_P G vwCl X H1 → va_S A s.heap H1 locs1 → W p l e R s m args below meth c H1 locs1 cells slots Q (F0 m (pc + 3) ls (.long r0 :: rest))) : W p l e R s m args below meth c H locs cells slots Q (F0 m pc ls st) := by
  subst hst
  refine va_calll (va_runS (As := As) (rest := rest) ⟨hx, hb, hml, hown, hts⟩ hM (va_cwS n hts hT hw hrc hrs hd hR) ⟨k_pre_blind, k_preU hP hK hD isC hn hC⟩ rfl hnA hls rfl (lv_room hcat) hdg hcs) hS (fun q _ h => va_free hD hS hA isC hC q h) (va_free hD hS hA isC hC) (fun r u t H1 locs1 ht hvm hw2 hB hz1 hk1 hS1 => ?_)
  rw [ht] at hB
  have hP1 := k_same hP hD isC hC hk1 hB
  obtain ⟨rfl, hpp⟩ := hw2
  exact kk hpp H1 locs1 hP1 hS1
theorem k_SvU {pp : Prop} (hx : p.tables.exec = Jvm.exec) (hb : c.code = cc) (hml : c.maxLocals = nL) (hown : s.vm.findClass own = some m.cls) (hts : ∀ w ∈ Ts, w.before args s = true)
    (hM : Met l y ws rm (k_pre G T wc H.size As) (va_Qv (fun (_ : Unit) => pp) (fun _ t => va_P G vwCl wc t.heap) (va_A wc H.size)) 0 0 (va_A wc H.size))
    (hT : GoodIn Ts (va_wsS own index y ws)) (hw : ws = Cond.code y bytes maxL ret :: ws') (hrc : rm.cells = 0) (hrs : rm.slots = 0) (hd : y.cls ≠ "java/lang/invoke/MethodHandle" ∧ y.cls ≠ "java/lang/invoke/VarHandle" ∧ (parseMethodDescriptor y.desc).map (fun d => d.parameters.length) = some n) (hR : rm.frames + 1 ≤ R.frames ∧ 8 + (maxL + 11) + rm.locals ≤ R.locals)
    (hK : va_K G vwCl T s) (hP : va_P G vwCl X H) (hD : va_D A X) (hS : va_S A s.heap H locs) (hA : ∀ q : Nat, s.heap.size ≤ q → A q)
    (isC : List Nat) (hn : va_nd isC = true) (hC : isC.map (fun i => X[i]?) = wc.map some) 
    (hnA : As.length = n) (hst : st = As.reverse ++ rest) (hls : ls.size = nL) (hcat : (rest.map fun v => v.category).sum ≤ 8) (hdg : decode cc pc = .ok (.invokestatic index, 3)) (hcs : cells ≤ R.cells ∧ slots ≤ R.slots)
    
    (kk : pp → ∀ (H1 : Heap) (locs1 : List Loc), va_P G vwCl X H1 → va_S A s.heap H1 locs1 → W p l e R s m args below meth c H1 locs1 cells slots Q (F0 m (pc + 3) ls (rest))) : W p l e R s m args below meth c H locs cells slots Q (F0 m pc ls st) := by
  subst hst
  refine va_callv (va_runS (As := As) (rest := rest) ⟨hx, hb, hml, hown, hts⟩ hM (va_cwS n hts hT hw hrc hrs hd hR) ⟨k_pre_blind, k_preU hP hK hD isC hn hC⟩ rfl hnA hls rfl (lv_room hcat) hdg hcs) hS (fun q _ h => va_free hD hS hA isC hC q h) (va_free hD hS hA isC hC) (fun u t H1 locs1 ht hvm hw2 hB hz1 hk1 hS1 => ?_)
  rw [ht] at hB
  have hP1 := k_same hP hD isC hC hk1 hB
  exact kk hw2 H1 locs1 hP1 hS1
theorem k_VqU {ro : Option Nat} (hx : p.tables.exec = Jvm.exec) (hb : c.code = cc) (hml : c.maxLocals = nL) (hown : s.vm.findClass own = some m.cls) (hts : ∀ w ∈ Ts, w.before args s = true)
    (hM : Met l y ws rm (k_pre G T wc H.size (.ref b :: As)) (va_Qq (fun r (_ : Unit) => r = ro) (fun _ t => va_P G vwCl wc t.heap) (va_A wc H.size)) 0 0 (va_A wc H.size))
    (hT : GoodIn Ts (wsV own index C y ws)) (hw : ws = Cond.code y bytes maxL ret :: ws') (hrc : rm.cells = 0) (hrs : rm.slots = 0) (hd : y.cls = C ∧ y.cls ≠ "java/lang/invoke/MethodHandle" ∧ y.cls ≠ "java/lang/invoke/VarHandle" ∧ (parseMethodDescriptor y.desc).map (fun d => d.parameters.length) = some n) (hR : rm.frames + 1 ≤ R.frames ∧ 8 + (maxL + 11) + rm.locals ≤ R.locals)
    (hK : va_K G vwCl T s) (hP : va_P G vwCl X H) (hD : va_D A X) (hS : va_S A s.heap H locs) (hA : ∀ q : Nat, s.heap.size ≤ q → A q)
    (isC : List Nat) (hn : va_nd isC = true) (hC : isC.map (fun i => X[i]?) = wc.map some) (hr0 : wc[0]? = some (b, .inr (ci, fs))) (hcl : vwCl[ci]? = some q) (hq : q.1 = C) 
    (hnA : As.length = n) (hst : st = As.reverse ++ .ref b :: rest) (hls : ls.size = nL) (hcat : (rest.map fun v => v.category).sum ≤ 8) (hdg : decode cc pc = .ok (.invokevirtual index, 3)) (hcs : cells ≤ R.cells ∧ slots ≤ R.slots)
    
    (kk : True → ∀ (H1 : Heap) (locs1 : List Loc), va_P G vwCl X H1 → va_S A s.heap H1 locs1 → W p l e R s m args below meth c H1 locs1 cells slots Q (F0 m (pc + 3) ls (va_rf ro :: rest))) : W p l e R s m args below meth c H locs cells slots Q (F0 m pc ls st) := by
  subst hq
  subst hst
  refine va_callq (va_runV (As := As) (rest := rest) ⟨hx, hb, hml, hown, hts⟩ hM (cwV n hts hT hw hrc hrs hd hR) ⟨k_pre_blind, va_recv hK (k_cut hP isC hC) hcl hr0, k_preU hP hK hD isC hn hC⟩ rfl hnA hls rfl (lv_room hcat) hdg hcs) hS (fun q _ h => va_free hD hS hA isC hC q h) (va_free hD hS hA isC hC) (fun r u t H1 locs1 ht hvm hw2 hB hz1 hk1 hS1 => ?_)
  rw [ht] at hB
  have hP1 := k_same hP hD isC hC hk1 hB
  subst hw2
  exact kk trivial H1 locs1 hP1 hS1
end KR
theorem k_ofWF {l : Launch} {y : MethodName} {ws ws' : List Cond} {rm : Room} {Pc : Array Value → State → Prop} {Qc : Array Value → State → Outcome → State → Prop} {mc ms : Nat} {free : Addr → Prop} {cc : ByteArray} {maxL : Nat} {ret : Option FieldType}
    (hy : plainFor y = true) (hw : ws = Cond.code y cc maxL ret :: ws')
    (body : ∀ p e s m args below meth c s₁, BodyLoose p l y (headSpec ws rm) cc maxL ret e s m args below meth c s₁ → c.maxLocals = maxL → Pc args s →
      W p l e (headSpec ws rm).room s m args below meth c s.heap [] 0 0 (MQ below Qc args s mc ms free) (entryFrame m args maxL)) : Met l y ws rm Pc Qc mc ms free := by
  refine MetFree.of_bodySF (code := cc) (maxLocals := maxL) (ret := ret) hy ?_ ?_
  · intro args s m h hn
    have h0 := atoms_spec (ws := ws) h (Cond.code y cc maxL ret) (by rw [hw]; exact List.mem_cons_self)
    obtain ⟨meth, c, h1, h2, h3, h4, h5, h6, -, -⟩ := Cond.code_spec hn h0
    exact ⟨meth, c, h1, h2, h3, h4, h5, h6⟩
  · intro p e s m args below meth c s₁ B hml hP _
    have hheap : s₁.heap = s.heap := by rw [B.state]; rfl
    obtain ⟨t, a1, o, b1, b2, b3⟩ := body p e s m args below meth c s₁ B hml hP s₁ hheap (Stand.of_body B)
    exact ⟨t, o, a1, b1, b2, b3.1, b3.2⟩
