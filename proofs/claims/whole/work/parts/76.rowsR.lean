/-! Calls by one list equation (k_rep). -/
section KRR
variable {p : Program} {l : Launch} {e : Env} {R : Room} {s : State} {m : MethodId} {args : Array Value} {below : List Frame} {meth : Method} {c : Code} {H : Heap} {locs : List Loc} {cells slots : Nat} {Q : State → Prop}
variable {pc : Nat} {ls : Array Slot} {G : va_G} {T : List (ClassId × FieldType)} {X wc w1 : va_W} {A : Nat → Prop}
variable {y : MethodName} {bytes cc : ByteArray} {maxL nL n index : Nat} {ret : Option FieldType} {ws ws' Ts : List Cond} {rm : Room} {own C : String} {b : Addr} {As rest st : List Value} {ci : Nat} {fs : List Value} {q : vw_C}
theorem k_ViR {r0 : Int32} {pp : Prop} (hx : p.tables.exec = Jvm.exec) (hb : c.code = cc) (hml : c.maxLocals = nL) (hown : s.vm.findClass own = some m.cls) (hts : ∀ w ∈ Ts, w.before args s = true)
    (hM : Met l y ws rm (k_pre G T wc H.size (.ref b :: As)) (va_Qi (fun r (_ : Unit) => r = r0 ∧ pp) (fun _ t => va_P G vwCl w1 t.heap) (va_A wc H.size)) 0 0 (va_A wc H.size))
    (hT : GoodIn Ts (wsV own index C y ws)) (hw : ws = Cond.code y bytes maxL ret :: ws') (hrc : rm.cells = 0) (hrs : rm.slots = 0) (hd : y.cls = C ∧ y.cls ≠ "java/lang/invoke/MethodHandle" ∧ y.cls ≠ "java/lang/invoke/VarHandle" ∧ (parseMethodDescriptor y.desc).map (fun d => d.parameters.length) = some n) (hR : rm.frames + 1 ≤ R.frames ∧ 8 + (maxL + 11) + rm.locals ≤ R.locals)
    (hK : va_K G vwCl T s) (hP : va_P G vwCl X H) (hD : va_D A X) (hS : va_S A s.heap H locs) (hA : ∀ q : Nat, s.heap.size ≤ q → A q)
    (isC : List Nat) (hn : va_nd isC = true) (hC : isC.map (fun i => X[i]?) = wc.map some) (hl : isC.length = w1.length) (hr0 : wc[0]? = some (b, .inr (ci, fs))) (hcl : vwCl[ci]? = some q) (hq : q.1 = C) 
    (hnA : As.length = n) (hst : st = As.reverse ++ .ref b :: rest) (hls : ls.size = nL) (hcat : (rest.map fun v => v.category).sum ≤ 8) (hdg : decode cc pc = .ok (.invokevirtual index, 3)) (hcs : cells ≤ R.cells ∧ slots ≤ R.slots)
    (X1 : va_W) (hX1 : k_rep X isC w1 = X1) (hadr : X1.map Prod.fst = X.map Prod.fst)
    (kk : pp → ∀ (H1 : Heap) (locs1 : List Loc), va_P G vwCl X1 H1 → va_D A X1 → va_S A s.heap H1 locs1 → W p l e R s m args below meth c H1 locs1 cells slots Q (F0 m (pc + 3) ls (.int r0 :: rest))) : W p l e R s m args below meth c H locs cells slots Q (F0 m pc ls st) := by
  subst hq
  subst hst
  refine va_calli (va_runV (As := As) (rest := rest) ⟨hx, hb, hml, hown, hts⟩ hM (cwV n hts hT hw hrc hrs hd hR) ⟨k_pre_blind, va_recv hK (k_cut hP isC hC) hcl hr0, k_preU hP hK hD isC hn hC⟩ rfl hnA hls rfl (lv_room hcat) hdg hcs) hS (fun q _ h => va_free hD hS hA isC hC q h) (va_free hD hS hA isC hC) (fun r u t H1 locs1 ht hvm hw2 hB hz1 hk1 hS1 => ?_)
  rw [ht] at hB
  obtain ⟨hP1, hD1⟩ := k_join hP hD isC hC hl hX1 hadr hk1 hB
  obtain ⟨rfl, hpp⟩ := hw2
  exact kk hpp H1 locs1 hP1 hD1 hS1
theorem k_SiR {r0 : Int32} {pp : Prop} (hx : p.tables.exec = Jvm.exec) (hb : c.code = cc) (hml : c.maxLocals = nL) (hown : s.vm.findClass own = some m.cls) (hts : ∀ w ∈ Ts, w.before args s = true)
    (hM : Met l y ws rm (k_pre G T wc H.size As) (va_Qi (fun r (_ : Unit) => r = r0 ∧ pp) (fun _ t => va_P G vwCl w1 t.heap) (va_A wc H.size)) 0 0 (va_A wc H.size))
    (hT : GoodIn Ts (va_wsS own index y ws)) (hw : ws = Cond.code y bytes maxL ret :: ws') (hrc : rm.cells = 0) (hrs : rm.slots = 0) (hd : y.cls ≠ "java/lang/invoke/MethodHandle" ∧ y.cls ≠ "java/lang/invoke/VarHandle" ∧ (parseMethodDescriptor y.desc).map (fun d => d.parameters.length) = some n) (hR : rm.frames + 1 ≤ R.frames ∧ 8 + (maxL + 11) + rm.locals ≤ R.locals)
    (hK : va_K G vwCl T s) (hP : va_P G vwCl X H) (hD : va_D A X) (hS : va_S A s.heap H locs) (hA : ∀ q : Nat, s.heap.size ≤ q → A q)
    (isC : List Nat) (hn : va_nd isC = true) (hC : isC.map (fun i => X[i]?) = wc.map some) (hl : isC.length = w1.length) 
    (hnA : As.length = n) (hst : st = As.reverse ++ rest) (hls : ls.size = nL) (hcat : (rest.map fun v => v.category).sum ≤ 8) (hdg : decode cc pc = .ok (.invokestatic index, 3)) (hcs : cells ≤ R.cells ∧ slots ≤ R.slots)
    (X1 : va_W) (hX1 : k_rep X isC w1 = X1) (hadr : X1.map Prod.fst = X.map Prod.fst)
    (kk : pp → ∀ (H1 : Heap) (locs1 : List Loc), va_P G vwCl X1 H1 → va_D A X1 → va_S A s.heap H1 locs1 → W p l e R s m args below meth c H1 locs1 cells slots Q (F0 m (pc + 3) ls (.int r0 :: rest))) : W p l e R s m args below meth c H locs cells slots Q (F0 m pc ls st) := by
  subst hst
  refine va_calli (va_runS (As := As) (rest := rest) ⟨hx, hb, hml, hown, hts⟩ hM (va_cwS n hts hT hw hrc hrs hd hR) ⟨k_pre_blind, k_preU hP hK hD isC hn hC⟩ rfl hnA hls rfl (lv_room hcat) hdg hcs) hS (fun q _ h => va_free hD hS hA isC hC q h) (va_free hD hS hA isC hC) (fun r u t H1 locs1 ht hvm hw2 hB hz1 hk1 hS1 => ?_)
  rw [ht] at hB
  obtain ⟨hP1, hD1⟩ := k_join hP hD isC hC hl hX1 hadr hk1 hB
  obtain ⟨rfl, hpp⟩ := hw2
  exact kk hpp H1 locs1 hP1 hD1 hS1
theorem k_VlR {r0 : Int64} {pp : Prop} (hx : p.tables.exec = Jvm.exec) (hb : c.code = cc) (hml : c.maxLocals = nL) (hown : s.vm.findClass own = some m.cls) (hts : ∀ w ∈ Ts, w.before args s = true)
    (hM : Met l y ws rm (k_pre G T wc H.size (.ref b :: As)) (va_Ql (fun r (_ : Unit) => r = r0 ∧ pp) (fun _ t => va_P G vwCl w1 t.heap) (va_A wc H.size)) 0 0 (va_A wc H.size))
    (hT : GoodIn Ts (wsV own index C y ws)) (hw : ws = Cond.code y bytes maxL ret :: ws') (hrc : rm.cells = 0) (hrs : rm.slots = 0) (hd : y.cls = C ∧ y.cls ≠ "java/lang/invoke/MethodHandle" ∧ y.cls ≠ "java/lang/invoke/VarHandle" ∧ (parseMethodDescriptor y.desc).map (fun d => d.parameters.length) = some n) (hR : rm.frames + 1 ≤ R.frames ∧ 8 + (maxL + 11) + rm.locals ≤ R.locals)
    (hK : va_K G vwCl T s) (hP : va_P G vwCl X H) (hD : va_D A X) (hS : va_S A s.heap H locs) (hA : ∀ q : Nat, s.heap.size ≤ q → A q)
    (isC : List Nat) (hn : va_nd isC = true) (hC : isC.map (fun i => X[i]?) = wc.map some) (hl : isC.length = w1.length) (hr0 : wc[0]? = some (b, .inr (ci, fs))) (hcl : vwCl[ci]? = some q) (hq : q.1 = C) 
    (hnA : As.length = n) (hst : st = As.reverse ++ .ref b :: rest) (hls : ls.size = nL) (hcat : (rest.map fun v => v.category).sum ≤ 8) (hdg : decode cc pc = .ok (.invokevirtual index, 3)) (hcs : cells ≤ R.cells ∧ slots ≤ R.slots)
    (X1 : va_W) (hX1 : k_rep X isC w1 = X1) (hadr : X1.map Prod.fst = X.map Prod.fst)
    (kk : pp → ∀ (H1 : Heap) (locs1 : List Loc), va_P G vwCl X1 H1 → va_D A X1 → va_S A s.heap H1 locs1 → W p l e R s m args below meth c H1 locs1 cells slots Q (F0 m (pc + 3) ls (.long r0 :: rest))) : W p l e R s m args below meth c H locs cells slots Q (F0 m pc ls st) := by
  subst hq
  subst hst
  refine va_calll (va_runV (As := As) (rest := rest) ⟨hx, hb, hml, hown, hts⟩ hM (cwV n hts hT hw hrc hrs hd hR) ⟨k_pre_blind, va_recv hK (k_cut hP isC hC) hcl hr0, k_preU hP hK hD isC hn hC⟩ rfl hnA hls rfl (lv_room hcat) hdg hcs) hS (fun q _ h => va_free hD hS hA isC hC q h) (va_free hD hS hA isC hC) (fun r u t H1 locs1 ht hvm hw2 hB hz1 hk1 hS1 => ?_)
  rw [ht] at hB
  obtain ⟨hP1, hD1⟩ := k_join hP hD isC hC hl hX1 hadr hk1 hB
  obtain ⟨rfl, hpp⟩ := hw2
  exact kk hpp H1 locs1 hP1 hD1 hS1
theorem k_SlR {r0 : Int64} {pp : Prop} (hx : p.tables.exec = Jvm.exec) (hb : c.code = cc) (hml : c.maxLocals = nL) (hown : s.vm.findClass own = some m.cls) (hts : ∀ w ∈ Ts, w.before args s = true)
    (hM : Met l y ws rm (k_pre G T wc H.size As) (va_Ql (fun r (_ : Unit) => r = r0 ∧ pp) (fun _ t => va_P G vwCl w1 t.heap) (va_A wc H.size)) 0 0 (va_A wc H.size))
    (hT : GoodIn Ts (va_wsS own index y ws)) (hw : ws = Cond.code y bytes maxL ret :: ws') (hrc : rm.cells = 0) (hrs : rm.slots = 0) (hd : y.cls ≠ "java/lang/invoke/MethodHandle" ∧ y.cls ≠ "java/lang/invoke/VarHandle" ∧ (parseMethodDescriptor y.desc).map (fun d => d.parameters.length) = some n) (hR : rm.frames + 1 ≤ R.frames ∧ 8 + (maxL + 11) + rm.locals ≤ R.locals)
    (hK : va_K G vwCl T s) (hP : va_P G vwCl X H) (hD : va_D A X) (hS : va_S A s.heap H locs) (hA : ∀ q : Nat, s.heap.size ≤ q → A q)
    (isC : List Nat) (hn : va_nd isC = true) (hC : isC.map (fun i => X[i]?) = wc.map some) (hl : isC.length = w1.length) 
    (hnA : As.length = n) (hst : st = As.reverse ++ rest) (hls : ls.size = nL) (hcat : (rest.map fun v => v.category).sum ≤ 8) (hdg : decode cc pc = .ok (.invokestatic index, 3)) (hcs : cells ≤ R.cells ∧ slots ≤ R.slots)
    (X1 : va_W) (hX1 : k_rep X isC w1 = X1) (hadr : X1.map Prod.fst = X.map Prod.fst)
    (kk : pp → ∀ (H1 : Heap) (locs1 : List Loc), va_P G vwCl X1 H1 → va_D A X1 → va_S A s.heap H1 locs1 → W p l e R s m args below meth c H1 locs1 cells slots Q (F0 m (pc + 3) ls (.long r0 :: rest))) : W p l e R s m args below meth c H locs cells slots Q (F0 m pc ls st) := by
  subst hst
  refine va_calll (va_runS (As := As) (rest := rest) ⟨hx, hb, hml, hown, hts⟩ hM (va_cwS n hts hT hw hrc hrs hd hR) ⟨k_pre_blind, k_preU hP hK hD isC hn hC⟩ rfl hnA hls rfl (lv_room hcat) hdg hcs) hS (fun q _ h => va_free hD hS hA isC hC q h) (va_free hD hS hA isC hC) (fun r u t H1 locs1 ht hvm hw2 hB hz1 hk1 hS1 => ?_)
  rw [ht] at hB
  obtain ⟨hP1, hD1⟩ := k_join hP hD isC hC hl hX1 hadr hk1 hB
  obtain ⟨rfl, hpp⟩ := hw2
  exact kk hpp H1 locs1 hP1 hD1 hS1
theorem k_SvR {pp : Prop} (hx : p.tables.exec = Jvm.exec) (hb : c.code = cc) (hml : c.maxLocals = nL) (hown : s.vm.findClass own = some m.cls) (hts : ∀ w ∈ Ts, w.before args s = true)
    (hM : Met l y ws rm (k_pre G T wc H.size As) (va_Qv (fun (_ : Unit) => pp) (fun _ t => va_P G vwCl w1 t.heap) (va_A wc H.size)) 0 0 (va_A wc H.size))
    (hT : GoodIn Ts (va_wsS own index y ws)) (hw : ws = Cond.code y bytes maxL ret :: ws') (hrc : rm.cells = 0) (hrs : rm.slots = 0) (hd : y.cls ≠ "java/lang/invoke/MethodHandle" ∧ y.cls ≠ "java/lang/invoke/VarHandle" ∧ (parseMethodDescriptor y.desc).map (fun d => d.parameters.length) = some n) (hR : rm.frames + 1 ≤ R.frames ∧ 8 + (maxL + 11) + rm.locals ≤ R.locals)
    (hK : va_K G vwCl T s) (hP : va_P G vwCl X H) (hD : va_D A X) (hS : va_S A s.heap H locs) (hA : ∀ q : Nat, s.heap.size ≤ q → A q)
    (isC : List Nat) (hn : va_nd isC = true) (hC : isC.map (fun i => X[i]?) = wc.map some) (hl : isC.length = w1.length) 
    (hnA : As.length = n) (hst : st = As.reverse ++ rest) (hls : ls.size = nL) (hcat : (rest.map fun v => v.category).sum ≤ 8) (hdg : decode cc pc = .ok (.invokestatic index, 3)) (hcs : cells ≤ R.cells ∧ slots ≤ R.slots)
    (X1 : va_W) (hX1 : k_rep X isC w1 = X1) (hadr : X1.map Prod.fst = X.map Prod.fst)
    (kk : pp → ∀ (H1 : Heap) (locs1 : List Loc), va_P G vwCl X1 H1 → va_D A X1 → va_S A s.heap H1 locs1 → W p l e R s m args below meth c H1 locs1 cells slots Q (F0 m (pc + 3) ls (rest))) : W p l e R s m args below meth c H locs cells slots Q (F0 m pc ls st) := by
  subst hst
  refine va_callv (va_runS (As := As) (rest := rest) ⟨hx, hb, hml, hown, hts⟩ hM (va_cwS n hts hT hw hrc hrs hd hR) ⟨k_pre_blind, k_preU hP hK hD isC hn hC⟩ rfl hnA hls rfl (lv_room hcat) hdg hcs) hS (fun q _ h => va_free hD hS hA isC hC q h) (va_free hD hS hA isC hC) (fun u t H1 locs1 ht hvm hw2 hB hz1 hk1 hS1 => ?_)
  rw [ht] at hB
  obtain ⟨hP1, hD1⟩ := k_join hP hD isC hC hl hX1 hadr hk1 hB
  exact kk hw2 H1 locs1 hP1 hD1 hS1
end KRR
theorem k_lt6 {n : Nat} (h : n < 6) : n = 0 ∨ n = 1 ∨ n = 2 ∨ n = 3 ∨ n = 4 ∨ n = 5 := by omega
/-! Calls by one pass over the world (k_mg): s tells of each cell 0: it stays, j + 1: it is the callee's cell j. -/
def k_mg : va_W → List Nat → va_W → va_W
  | x :: X, 0 :: s, w => x :: k_mg X s w
  | x :: X, (j + 1) :: s, w => (match w[j]? with | some q => q | none => x) :: k_mg X s w
  | _, _, _ => []
def k_mgok (isC s : List Nat) (n1 : Nat) : Bool := (List.range s.length).all (fun k => match s[k]? with | some 0 => !(isC.contains k) | some (j + 1) => isC[j]? == some k && decide (j < n1) | none => true)
theorem k_mg_at : ∀ (X : va_W) (s : List Nat) (w : va_W) (k : Nat) (q : Nat × va_E), (k_mg X s w)[k]? = some q → (s[k]? = some 0 ∧ X[k]? = some q) ∨ ∃ j, s[k]? = some (j + 1) ∧ (w[j]? = some q ∨ w[j]? = none)
  | [], _, _, k, q, h => by simp [k_mg] at h
  | x :: X, [], _, k, q, h => by simp [k_mg] at h
  | x :: X, 0 :: s, w, 0, q, h => Or.inl ⟨rfl, by simpa [k_mg] using h⟩
  | x :: X, 0 :: s, w, k + 1, q, h => by
    have h1 : (k_mg X s w)[k]? = some q := by simpa [k_mg] using h
    simpa using k_mg_at X s w k q h1
  | x :: X, (j + 1) :: s, w, 0, q, h => by
    refine Or.inr ⟨j, rfl, ?_⟩
    have h1 : (match w[j]? with | some q => q | none => x) = q := by simpa [k_mg] using h
    cases hw : w[j]? with
    | none => exact Or.inr rfl
    | some z => rw [hw] at h1; exact Or.inl (congrArg some h1)
  | x :: X, (j + 1) :: s, w, k + 1, q, h => by
    have h1 : (k_mg X s w)[k]? = some q := by simpa [k_mg] using h
    simpa using k_mg_at X s w k q h1
theorem k_mg_at2 {X w : va_W} {s isC : List Nat} {n1 : Nat} (hok : k_mgok isC s n1 = true) (hn : w.length = n1) {k : Nat} {q : Nat × va_E} (h : (k_mg X s w)[k]? = some q) : (∃ j : Nat, isC[j]? = some k ∧ w[j]? = some q) ∨ (X[k]? = some q ∧ k ∉ isC) := by
  have hall := List.all_eq_true.mp hok
  rcases k_mg_at X s w k q h with ⟨h1, h2⟩ | ⟨j, h1, h2⟩
  · have hk := hall k (List.mem_range.mpr (List.getElem?_eq_some_iff.mp h1).1)
    rw [h1] at hk
    refine Or.inr ⟨h2, fun z => ?_⟩
    simp at hk
    exact hk z
  · have hk := hall k (List.mem_range.mpr (List.getElem?_eq_some_iff.mp h1).1)
    rw [h1] at hk
    simp at hk
    rcases h2 with h2 | h2
    · exact Or.inl ⟨j, hk.1, h2⟩
    · exfalso
      have := List.getElem?_eq_none_iff.mp h2
      omega
theorem k_mg_P {A0 : Nat → Prop} {G : va_G} {cl : List vw_C} {X wc w1 : va_W} {H H1 : Heap} (hP : va_P G cl X H) (hD : va_D A0 X) (isC : List Nat) (hC : isC.map (fun i => X[i]?) = wc.map some) (hk : ∀ q : Nat, q < H.size → ¬ va_A wc H.size q → H1[q]? = H[q]?) (hP1 : va_P G cl w1 H1) {sl : List Nat} {n1 : Nat} (hok : k_mgok isC sl n1 = true) (hn1 : w1.length = n1) : va_P G cl (k_mg X sl w1) H1 := by
  intro k q hq
  rcases k_mg_at2 hok hn1 hq with ⟨j, -, hj⟩ | ⟨h, hn⟩
  · exact hP1 j q hj
  · have hlt := (hP k q h).lt
    refine (hP k q h).kept (hk q.1 hlt fun z => ?_)
    rcases z with ⟨k2, e, h2⟩ | h2
    · have h3 : (isC.map (fun i => X[i]?))[k2]? = some (some (q.1, e)) := by rw [hC, List.getElem?_map, h2]; rfl
      rw [List.getElem?_map] at h3
      cases hi : isC[k2]? with
      | none => rw [hi] at h3; cases h3
      | some i =>
        rw [hi] at h3
        have h4 : X[i]? = some (q.1, e) := Option.some.inj h3
        have := hD.1 k i q (q.1, e) h h4 rfl
        subst this
        exact hn (List.mem_of_getElem? hi)
    · omega
theorem k_mg_D {A0 : Nat → Prop} {G : va_G} {cl : List vw_C} {X wc w1 : va_W} {H : Heap} (hP : va_P G cl X H) (hD : va_D A0 X) (isC : List Nat) (hC : isC.map (fun i => X[i]?) = wc.map some) (hF : ∀ q, va_A wc H.size q → A0 q) (hD1 : va_D (va_A wc H.size) w1) {sl : List Nat} {n1 : Nat} (hok : k_mgok isC sl n1 = true) (hn1 : w1.length = n1) : va_D A0 (k_mg X sl w1) := by
  have out : ∀ (k : Nat) (q : Nat × va_E), X[k]? = some q → k ∉ isC → ¬ va_A wc H.size q.1 := by
    intro k q h hn z
    have hlt := (hP k q h).lt
    rcases z with ⟨k2, e, h2⟩ | h2
    · have h3 : (isC.map (fun i => X[i]?))[k2]? = some (some (q.1, e)) := by rw [hC, List.getElem?_map, h2]; rfl
      rw [List.getElem?_map] at h3
      cases hi : isC[k2]? with
      | none => rw [hi] at h3; cases h3
      | some i =>
        rw [hi] at h3
        have h4 : X[i]? = some (q.1, e) := Option.some.inj h3
        have := hD.1 k i q (q.1, e) h h4 rfl
        subst this
        exact hn (List.mem_of_getElem? hi)
    · omega
  refine ⟨fun i j x y hi hj hxy => ?_, fun k q hk => ?_⟩
  · rcases k_mg_at2 hok hn1 hi with ⟨a, a1, a2⟩ | ⟨a1, a2⟩ <;> rcases k_mg_at2 hok hn1 hj with ⟨b, b1, b2⟩ | ⟨b1, b2⟩
    · have := hD1.1 a b x y a2 b2 hxy
      subst this
      rw [a1] at b1
      exact Option.some.inj b1
    · exact absurd (by rw [← hxy]; exact hD1.2 a x a2) (out j y b1 b2)
    · exact absurd (by rw [hxy]; exact hD1.2 b y b2) (out i x a1 a2)
    · exact hD.1 i j x y a1 b1 hxy
  · rcases k_mg_at2 hok hn1 hk with ⟨a, a1, a2⟩ | ⟨a1, a2⟩
    · exact hF _ (hD1.2 a q a2)
    · exact hD.2 k q a1
section KRM
variable {p : Program} {l : Launch} {e : Env} {R : Room} {s : State} {m : MethodId} {args : Array Value} {below : List Frame} {meth : Method} {c : Code} {H : Heap} {locs : List Loc} {cells slots : Nat} {Q : State → Prop}
variable {pc : Nat} {ls : Array Slot} {G : va_G} {T : List (ClassId × FieldType)} {X wc w1 : va_W} {A : Nat → Prop}
variable {y : MethodName} {bytes cc : ByteArray} {maxL nL n index : Nat} {ret : Option FieldType} {ws ws' Ts : List Cond} {rm : Room} {own C : String} {b : Addr} {As rest st : List Value} {ci : Nat} {fs : List Value} {q : vw_C}
theorem k_ViM {r0 : Int32} {pp : Prop} (hx : p.tables.exec = Jvm.exec) (hb : c.code = cc) (hml : c.maxLocals = nL) (hown : s.vm.findClass own = some m.cls) (hts : ∀ w ∈ Ts, w.before args s = true)
    (hM : Met l y ws rm (k_pre G T wc H.size (.ref b :: As)) (va_Qi (fun r (_ : Unit) => r = r0 ∧ pp) (fun _ t => va_P G vwCl w1 t.heap) (va_A wc H.size)) 0 0 (va_A wc H.size))
    (hT : GoodIn Ts (wsV own index C y ws)) (hw : ws = Cond.code y bytes maxL ret :: ws') (hrc : rm.cells = 0) (hrs : rm.slots = 0) (hd : y.cls = C ∧ y.cls ≠ "java/lang/invoke/MethodHandle" ∧ y.cls ≠ "java/lang/invoke/VarHandle" ∧ (parseMethodDescriptor y.desc).map (fun d => d.parameters.length) = some n) (hR : rm.frames + 1 ≤ R.frames ∧ 8 + (maxL + 11) + rm.locals ≤ R.locals)
    (hK : va_K G vwCl T s) (hP : va_P G vwCl X H) (hD : va_D A X) (hS : va_S A s.heap H locs) (hA : ∀ q : Nat, s.heap.size ≤ q → A q)
    (isC : List Nat) (hn : va_nd isC = true) (hC : isC.map (fun i => X[i]?) = wc.map some) (hl : isC.length = w1.length) (hr0 : wc[0]? = some (b, .inr (ci, fs))) (hcl : vwCl[ci]? = some q) (hq : q.1 = C) 
    (hnA : As.length = n) (hst : st = As.reverse ++ .ref b :: rest) (hls : ls.size = nL) (hcat : (rest.map fun v => v.category).sum ≤ 8) (hdg : decode cc pc = .ok (.invokevirtual index, 3)) (hcs : cells ≤ R.cells ∧ slots ≤ R.slots)
    (X1 : va_W) (sl : List Nat) (n9 : Nat) (hok : k_mgok isC sl n9 = true) (hn9 : w1.length = n9) (hX1 : k_mg X sl w1 = X1) (hadr : X1.map Prod.fst = X.map Prod.fst)
    (kk : pp → ∀ (H1 : Heap) (locs1 : List Loc), va_P G vwCl X1 H1 → va_D A X1 → va_S A s.heap H1 locs1 → W p l e R s m args below meth c H1 locs1 cells slots Q (F0 m (pc + 3) ls (.int r0 :: rest))) : W p l e R s m args below meth c H locs cells slots Q (F0 m pc ls st) := by
  subst hq
  subst hst
  refine va_calli (va_runV (As := As) (rest := rest) ⟨hx, hb, hml, hown, hts⟩ hM (cwV n hts hT hw hrc hrs hd hR) ⟨k_pre_blind, va_recv hK (k_cut hP isC hC) hcl hr0, k_preU hP hK hD isC hn hC⟩ rfl hnA hls rfl (lv_room hcat) hdg hcs) hS (fun q _ h => va_free hD hS hA isC hC q h) (va_free hD hS hA isC hC) (fun r u t H1 locs1 ht hvm hw2 hB hz1 hk1 hS1 => ?_)
  rw [ht] at hB
  subst hX1
  have hP1 := k_mg_P hP hD isC hC hk1 hB hok hn9
  have hD1 := k_D_of hD hadr
  obtain ⟨rfl, hpp⟩ := hw2
  exact kk hpp H1 locs1 hP1 hD1 hS1
theorem k_SiM {r0 : Int32} {pp : Prop} (hx : p.tables.exec = Jvm.exec) (hb : c.code = cc) (hml : c.maxLocals = nL) (hown : s.vm.findClass own = some m.cls) (hts : ∀ w ∈ Ts, w.before args s = true)
    (hM : Met l y ws rm (k_pre G T wc H.size As) (va_Qi (fun r (_ : Unit) => r = r0 ∧ pp) (fun _ t => va_P G vwCl w1 t.heap) (va_A wc H.size)) 0 0 (va_A wc H.size))
    (hT : GoodIn Ts (va_wsS own index y ws)) (hw : ws = Cond.code y bytes maxL ret :: ws') (hrc : rm.cells = 0) (hrs : rm.slots = 0) (hd : y.cls ≠ "java/lang/invoke/MethodHandle" ∧ y.cls ≠ "java/lang/invoke/VarHandle" ∧ (parseMethodDescriptor y.desc).map (fun d => d.parameters.length) = some n) (hR : rm.frames + 1 ≤ R.frames ∧ 8 + (maxL + 11) + rm.locals ≤ R.locals)
    (hK : va_K G vwCl T s) (hP : va_P G vwCl X H) (hD : va_D A X) (hS : va_S A s.heap H locs) (hA : ∀ q : Nat, s.heap.size ≤ q → A q)
    (isC : List Nat) (hn : va_nd isC = true) (hC : isC.map (fun i => X[i]?) = wc.map some) (hl : isC.length = w1.length) 
    (hnA : As.length = n) (hst : st = As.reverse ++ rest) (hls : ls.size = nL) (hcat : (rest.map fun v => v.category).sum ≤ 8) (hdg : decode cc pc = .ok (.invokestatic index, 3)) (hcs : cells ≤ R.cells ∧ slots ≤ R.slots)
    (X1 : va_W) (sl : List Nat) (n9 : Nat) (hok : k_mgok isC sl n9 = true) (hn9 : w1.length = n9) (hX1 : k_mg X sl w1 = X1) (hadr : X1.map Prod.fst = X.map Prod.fst)
    (kk : pp → ∀ (H1 : Heap) (locs1 : List Loc), va_P G vwCl X1 H1 → va_D A X1 → va_S A s.heap H1 locs1 → W p l e R s m args below meth c H1 locs1 cells slots Q (F0 m (pc + 3) ls (.int r0 :: rest))) : W p l e R s m args below meth c H locs cells slots Q (F0 m pc ls st) := by
  subst hst
  refine va_calli (va_runS (As := As) (rest := rest) ⟨hx, hb, hml, hown, hts⟩ hM (va_cwS n hts hT hw hrc hrs hd hR) ⟨k_pre_blind, k_preU hP hK hD isC hn hC⟩ rfl hnA hls rfl (lv_room hcat) hdg hcs) hS (fun q _ h => va_free hD hS hA isC hC q h) (va_free hD hS hA isC hC) (fun r u t H1 locs1 ht hvm hw2 hB hz1 hk1 hS1 => ?_)
  rw [ht] at hB
  subst hX1
  have hP1 := k_mg_P hP hD isC hC hk1 hB hok hn9
  have hD1 := k_D_of hD hadr
  obtain ⟨rfl, hpp⟩ := hw2
  exact kk hpp H1 locs1 hP1 hD1 hS1
theorem k_VlM {r0 : Int64} {pp : Prop} (hx : p.tables.exec = Jvm.exec) (hb : c.code = cc) (hml : c.maxLocals = nL) (hown : s.vm.findClass own = some m.cls) (hts : ∀ w ∈ Ts, w.before args s = true)
    (hM : Met l y ws rm (k_pre G T wc H.size (.ref b :: As)) (va_Ql (fun r (_ : Unit) => r = r0 ∧ pp) (fun _ t => va_P G vwCl w1 t.heap) (va_A wc H.size)) 0 0 (va_A wc H.size))
    (hT : GoodIn Ts (wsV own index C y ws)) (hw : ws = Cond.code y bytes maxL ret :: ws') (hrc : rm.cells = 0) (hrs : rm.slots = 0) (hd : y.cls = C ∧ y.cls ≠ "java/lang/invoke/MethodHandle" ∧ y.cls ≠ "java/lang/invoke/VarHandle" ∧ (parseMethodDescriptor y.desc).map (fun d => d.parameters.length) = some n) (hR : rm.frames + 1 ≤ R.frames ∧ 8 + (maxL + 11) + rm.locals ≤ R.locals)
    (hK : va_K G vwCl T s) (hP : va_P G vwCl X H) (hD : va_D A X) (hS : va_S A s.heap H locs) (hA : ∀ q : Nat, s.heap.size ≤ q → A q)
    (isC : List Nat) (hn : va_nd isC = true) (hC : isC.map (fun i => X[i]?) = wc.map some) (hl : isC.length = w1.length) (hr0 : wc[0]? = some (b, .inr (ci, fs))) (hcl : vwCl[ci]? = some q) (hq : q.1 = C) 
    (hnA : As.length = n) (hst : st = As.reverse ++ .ref b :: rest) (hls : ls.size = nL) (hcat : (rest.map fun v => v.category).sum ≤ 8) (hdg : decode cc pc = .ok (.invokevirtual index, 3)) (hcs : cells ≤ R.cells ∧ slots ≤ R.slots)
    (X1 : va_W) (sl : List Nat) (n9 : Nat) (hok : k_mgok isC sl n9 = true) (hn9 : w1.length = n9) (hX1 : k_mg X sl w1 = X1) (hadr : X1.map Prod.fst = X.map Prod.fst)
    (kk : pp → ∀ (H1 : Heap) (locs1 : List Loc), va_P G vwCl X1 H1 → va_D A X1 → va_S A s.heap H1 locs1 → W p l e R s m args below meth c H1 locs1 cells slots Q (F0 m (pc + 3) ls (.long r0 :: rest))) : W p l e R s m args below meth c H locs cells slots Q (F0 m pc ls st) := by
  subst hq
  subst hst
  refine va_calll (va_runV (As := As) (rest := rest) ⟨hx, hb, hml, hown, hts⟩ hM (cwV n hts hT hw hrc hrs hd hR) ⟨k_pre_blind, va_recv hK (k_cut hP isC hC) hcl hr0, k_preU hP hK hD isC hn hC⟩ rfl hnA hls rfl (lv_room hcat) hdg hcs) hS (fun q _ h => va_free hD hS hA isC hC q h) (va_free hD hS hA isC hC) (fun r u t H1 locs1 ht hvm hw2 hB hz1 hk1 hS1 => ?_)
  rw [ht] at hB
  subst hX1
  have hP1 := k_mg_P hP hD isC hC hk1 hB hok hn9
  have hD1 := k_D_of hD hadr
  obtain ⟨rfl, hpp⟩ := hw2
  exact kk hpp H1 locs1 hP1 hD1 hS1
theorem k_SlM {r0 : Int64} {pp : Prop} (hx : p.tables.exec = Jvm.exec) (hb : c.code = cc) (hml : c.maxLocals = nL) (hown : s.vm.findClass own = some m.cls) (hts : ∀ w ∈ Ts, w.before args s = true)
    (hM : Met l y ws rm (k_pre G T wc H.size As) (va_Ql (fun r (_ : Unit) => r = r0 ∧ pp) (fun _ t => va_P G vwCl w1 t.heap) (va_A wc H.size)) 0 0 (va_A wc H.size))
    (hT : GoodIn Ts (va_wsS own index y ws)) (hw : ws = Cond.code y bytes maxL ret :: ws') (hrc : rm.cells = 0) (hrs : rm.slots = 0) (hd : y.cls ≠ "java/lang/invoke/MethodHandle" ∧ y.cls ≠ "java/lang/invoke/VarHandle" ∧ (parseMethodDescriptor y.desc).map (fun d => d.parameters.length) = some n) (hR : rm.frames + 1 ≤ R.frames ∧ 8 + (maxL + 11) + rm.locals ≤ R.locals)
    (hK : va_K G vwCl T s) (hP : va_P G vwCl X H) (hD : va_D A X) (hS : va_S A s.heap H locs) (hA : ∀ q : Nat, s.heap.size ≤ q → A q)
    (isC : List Nat) (hn : va_nd isC = true) (hC : isC.map (fun i => X[i]?) = wc.map some) (hl : isC.length = w1.length) 
    (hnA : As.length = n) (hst : st = As.reverse ++ rest) (hls : ls.size = nL) (hcat : (rest.map fun v => v.category).sum ≤ 8) (hdg : decode cc pc = .ok (.invokestatic index, 3)) (hcs : cells ≤ R.cells ∧ slots ≤ R.slots)
    (X1 : va_W) (sl : List Nat) (n9 : Nat) (hok : k_mgok isC sl n9 = true) (hn9 : w1.length = n9) (hX1 : k_mg X sl w1 = X1) (hadr : X1.map Prod.fst = X.map Prod.fst)
    (kk : pp → ∀ (H1 : Heap) (locs1 : List Loc), va_P G vwCl X1 H1 → va_D A X1 → va_S A s.heap H1 locs1 → W p l e R s m args below meth c H1 locs1 cells slots Q (F0 m (pc + 3) ls (.long r0 :: rest))) : W p l e R s m args below meth c H locs cells slots Q (F0 m pc ls st) := by
  subst hst
  refine va_calll (va_runS (As := As) (rest := rest) ⟨hx, hb, hml, hown, hts⟩ hM (va_cwS n hts hT hw hrc hrs hd hR) ⟨k_pre_blind, k_preU hP hK hD isC hn hC⟩ rfl hnA hls rfl (lv_room hcat) hdg hcs) hS (fun q _ h => va_free hD hS hA isC hC q h) (va_free hD hS hA isC hC) (fun r u t H1 locs1 ht hvm hw2 hB hz1 hk1 hS1 => ?_)
  rw [ht] at hB
  subst hX1
  have hP1 := k_mg_P hP hD isC hC hk1 hB hok hn9
  have hD1 := k_D_of hD hadr
  obtain ⟨rfl, hpp⟩ := hw2
  exact kk hpp H1 locs1 hP1 hD1 hS1
theorem k_VvM {pp : Prop} (hx : p.tables.exec = Jvm.exec) (hb : c.code = cc) (hml : c.maxLocals = nL) (hown : s.vm.findClass own = some m.cls) (hts : ∀ w ∈ Ts, w.before args s = true)
    (hM : Met l y ws rm (k_pre G T wc H.size (.ref b :: As)) (va_Qv (fun (_ : Unit) => pp) (fun _ t => va_P G vwCl w1 t.heap) (va_A wc H.size)) 0 0 (va_A wc H.size))
    (hT : GoodIn Ts (wsV own index C y ws)) (hw : ws = Cond.code y bytes maxL ret :: ws') (hrc : rm.cells = 0) (hrs : rm.slots = 0) (hd : y.cls = C ∧ y.cls ≠ "java/lang/invoke/MethodHandle" ∧ y.cls ≠ "java/lang/invoke/VarHandle" ∧ (parseMethodDescriptor y.desc).map (fun d => d.parameters.length) = some n) (hR : rm.frames + 1 ≤ R.frames ∧ 8 + (maxL + 11) + rm.locals ≤ R.locals)
    (hK : va_K G vwCl T s) (hP : va_P G vwCl X H) (hD : va_D A X) (hS : va_S A s.heap H locs) (hA : ∀ q : Nat, s.heap.size ≤ q → A q)
    (isC : List Nat) (hn : va_nd isC = true) (hC : isC.map (fun i => X[i]?) = wc.map some) (hl : isC.length = w1.length) (hr0 : wc[0]? = some (b, .inr (ci, fs))) (hcl : vwCl[ci]? = some q) (hq : q.1 = C) 
    (hnA : As.length = n) (hst : st = As.reverse ++ .ref b :: rest) (hls : ls.size = nL) (hcat : (rest.map fun v => v.category).sum ≤ 8) (hdg : decode cc pc = .ok (.invokevirtual index, 3)) (hcs : cells ≤ R.cells ∧ slots ≤ R.slots)
    (X1 : va_W) (sl : List Nat) (n9 : Nat) (hok : k_mgok isC sl n9 = true) (hn9 : w1.length = n9) (hX1 : k_mg X sl w1 = X1) (hadr : X1.map Prod.fst = X.map Prod.fst)
    (kk : pp → ∀ (H1 : Heap) (locs1 : List Loc), va_P G vwCl X1 H1 → va_D A X1 → va_S A s.heap H1 locs1 → W p l e R s m args below meth c H1 locs1 cells slots Q (F0 m (pc + 3) ls (rest))) : W p l e R s m args below meth c H locs cells slots Q (F0 m pc ls st) := by
  subst hq
  subst hst
  refine va_callv (va_runV (As := As) (rest := rest) ⟨hx, hb, hml, hown, hts⟩ hM (cwV n hts hT hw hrc hrs hd hR) ⟨k_pre_blind, va_recv hK (k_cut hP isC hC) hcl hr0, k_preU hP hK hD isC hn hC⟩ rfl hnA hls rfl (lv_room hcat) hdg hcs) hS (fun q _ h => va_free hD hS hA isC hC q h) (va_free hD hS hA isC hC) (fun u t H1 locs1 ht hvm hw2 hB hz1 hk1 hS1 => ?_)
  rw [ht] at hB
  subst hX1
  have hP1 := k_mg_P hP hD isC hC hk1 hB hok hn9
  have hD1 := k_D_of hD hadr
  exact kk hw2 H1 locs1 hP1 hD1 hS1
theorem k_SvM {pp : Prop} (hx : p.tables.exec = Jvm.exec) (hb : c.code = cc) (hml : c.maxLocals = nL) (hown : s.vm.findClass own = some m.cls) (hts : ∀ w ∈ Ts, w.before args s = true)
    (hM : Met l y ws rm (k_pre G T wc H.size As) (va_Qv (fun (_ : Unit) => pp) (fun _ t => va_P G vwCl w1 t.heap) (va_A wc H.size)) 0 0 (va_A wc H.size))
    (hT : GoodIn Ts (va_wsS own index y ws)) (hw : ws = Cond.code y bytes maxL ret :: ws') (hrc : rm.cells = 0) (hrs : rm.slots = 0) (hd : y.cls ≠ "java/lang/invoke/MethodHandle" ∧ y.cls ≠ "java/lang/invoke/VarHandle" ∧ (parseMethodDescriptor y.desc).map (fun d => d.parameters.length) = some n) (hR : rm.frames + 1 ≤ R.frames ∧ 8 + (maxL + 11) + rm.locals ≤ R.locals)
    (hK : va_K G vwCl T s) (hP : va_P G vwCl X H) (hD : va_D A X) (hS : va_S A s.heap H locs) (hA : ∀ q : Nat, s.heap.size ≤ q → A q)
    (isC : List Nat) (hn : va_nd isC = true) (hC : isC.map (fun i => X[i]?) = wc.map some) (hl : isC.length = w1.length) 
    (hnA : As.length = n) (hst : st = As.reverse ++ rest) (hls : ls.size = nL) (hcat : (rest.map fun v => v.category).sum ≤ 8) (hdg : decode cc pc = .ok (.invokestatic index, 3)) (hcs : cells ≤ R.cells ∧ slots ≤ R.slots)
    (X1 : va_W) (sl : List Nat) (n9 : Nat) (hok : k_mgok isC sl n9 = true) (hn9 : w1.length = n9) (hX1 : k_mg X sl w1 = X1) (hadr : X1.map Prod.fst = X.map Prod.fst)
    (kk : pp → ∀ (H1 : Heap) (locs1 : List Loc), va_P G vwCl X1 H1 → va_D A X1 → va_S A s.heap H1 locs1 → W p l e R s m args below meth c H1 locs1 cells slots Q (F0 m (pc + 3) ls (rest))) : W p l e R s m args below meth c H locs cells slots Q (F0 m pc ls st) := by
  subst hst
  refine va_callv (va_runS (As := As) (rest := rest) ⟨hx, hb, hml, hown, hts⟩ hM (va_cwS n hts hT hw hrc hrs hd hR) ⟨k_pre_blind, k_preU hP hK hD isC hn hC⟩ rfl hnA hls rfl (lv_room hcat) hdg hcs) hS (fun q _ h => va_free hD hS hA isC hC q h) (va_free hD hS hA isC hC) (fun u t H1 locs1 ht hvm hw2 hB hz1 hk1 hS1 => ?_)
  rw [ht] at hB
  subst hX1
  have hP1 := k_mg_P hP hD isC hC hk1 hB hok hn9
  have hD1 := k_D_of hD hadr
  exact kk hw2 H1 locs1 hP1 hD1 hS1
theorem k_ViPM {r0 : Int32} {pp : Prop} (hx : p.tables.exec = Jvm.exec) (hb : c.code = cc) (hml : c.maxLocals = nL) (hown : s.vm.findClass own = some m.cls) (hts : ∀ w ∈ Ts, w.before args s = true)
    (hM : Met l y ws rm (k_pre G T wc H.size (.ref b :: As)) (va_Qi (fun r (_ : Unit) => r = r0 ∧ pp) (fun _ t => va_P G vwCl w1 t.heap ∧ va_D (va_A wc H.size) w1) (va_A wc H.size)) 0 0 (va_A wc H.size))
    (hT : GoodIn Ts (wsV own index C y ws)) (hw : ws = Cond.code y bytes maxL ret :: ws') (hrc : rm.cells = 0) (hrs : rm.slots = 0) (hd : y.cls = C ∧ y.cls ≠ "java/lang/invoke/MethodHandle" ∧ y.cls ≠ "java/lang/invoke/VarHandle" ∧ (parseMethodDescriptor y.desc).map (fun d => d.parameters.length) = some n) (hR : rm.frames + 1 ≤ R.frames ∧ 8 + (maxL + 11) + rm.locals ≤ R.locals)
    (hK : va_K G vwCl T s) (hP : va_P G vwCl X H) (hD : va_D A X) (hS : va_S A s.heap H locs) (hA : ∀ q : Nat, s.heap.size ≤ q → A q)
    (isC : List Nat) (hn : va_nd isC = true) (hC : isC.map (fun i => X[i]?) = wc.map some) (hl : isC.length = w1.length) (hr0 : wc[0]? = some (b, .inr (ci, fs))) (hcl : vwCl[ci]? = some q) (hq : q.1 = C) 
    (hnA : As.length = n) (hst : st = As.reverse ++ .ref b :: rest) (hls : ls.size = nL) (hcat : (rest.map fun v => v.category).sum ≤ 8) (hdg : decode cc pc = .ok (.invokevirtual index, 3)) (hcs : cells ≤ R.cells ∧ slots ≤ R.slots)
    (X1 : va_W) (sl : List Nat) (n9 : Nat) (hok : k_mgok isC sl n9 = true) (hn9 : w1.length = n9) (hX1 : k_mg X sl w1 = X1)
    (kk : pp → ∀ (H1 : Heap) (locs1 : List Loc), va_P G vwCl X1 H1 → va_D A X1 → va_S A s.heap H1 locs1 → W p l e R s m args below meth c H1 locs1 cells slots Q (F0 m (pc + 3) ls (.int r0 :: rest))) : W p l e R s m args below meth c H locs cells slots Q (F0 m pc ls st) := by
  subst hq
  subst hst
  refine va_calli (va_runV (As := As) (rest := rest) ⟨hx, hb, hml, hown, hts⟩ hM (cwV n hts hT hw hrc hrs hd hR) ⟨k_pre_blind, va_recv hK (k_cut hP isC hC) hcl hr0, k_preU hP hK hD isC hn hC⟩ rfl hnA hls rfl (lv_room hcat) hdg hcs) hS (fun q _ h => va_free hD hS hA isC hC q h) (va_free hD hS hA isC hC) (fun r u t H1 locs1 ht hvm hw2 hB hz1 hk1 hS1 => ?_)
  rw [ht] at hB
  obtain ⟨hB, hBD⟩ := hB
  subst hX1
  have hP1 := k_mg_P hP hD isC hC hk1 hB hok hn9
  have hD1 := k_mg_D hP hD isC hC (va_free hD hS hA isC hC) hBD hok hn9
  obtain ⟨rfl, hpp⟩ := hw2
  exact kk hpp H1 locs1 hP1 hD1 hS1
theorem k_VvPM {pp : Prop} (hx : p.tables.exec = Jvm.exec) (hb : c.code = cc) (hml : c.maxLocals = nL) (hown : s.vm.findClass own = some m.cls) (hts : ∀ w ∈ Ts, w.before args s = true)
    (hM : Met l y ws rm (k_pre G T wc H.size (.ref b :: As)) (va_Qv (fun (_ : Unit) => pp) (fun _ t => va_P G vwCl w1 t.heap ∧ va_D (va_A wc H.size) w1) (va_A wc H.size)) 0 0 (va_A wc H.size))
    (hT : GoodIn Ts (wsV own index C y ws)) (hw : ws = Cond.code y bytes maxL ret :: ws') (hrc : rm.cells = 0) (hrs : rm.slots = 0) (hd : y.cls = C ∧ y.cls ≠ "java/lang/invoke/MethodHandle" ∧ y.cls ≠ "java/lang/invoke/VarHandle" ∧ (parseMethodDescriptor y.desc).map (fun d => d.parameters.length) = some n) (hR : rm.frames + 1 ≤ R.frames ∧ 8 + (maxL + 11) + rm.locals ≤ R.locals)
    (hK : va_K G vwCl T s) (hP : va_P G vwCl X H) (hD : va_D A X) (hS : va_S A s.heap H locs) (hA : ∀ q : Nat, s.heap.size ≤ q → A q)
    (isC : List Nat) (hn : va_nd isC = true) (hC : isC.map (fun i => X[i]?) = wc.map some) (hl : isC.length = w1.length) (hr0 : wc[0]? = some (b, .inr (ci, fs))) (hcl : vwCl[ci]? = some q) (hq : q.1 = C) 
    (hnA : As.length = n) (hst : st = As.reverse ++ .ref b :: rest) (hls : ls.size = nL) (hcat : (rest.map fun v => v.category).sum ≤ 8) (hdg : decode cc pc = .ok (.invokevirtual index, 3)) (hcs : cells ≤ R.cells ∧ slots ≤ R.slots)
    (X1 : va_W) (sl : List Nat) (n9 : Nat) (hok : k_mgok isC sl n9 = true) (hn9 : w1.length = n9) (hX1 : k_mg X sl w1 = X1)
    (kk : pp → ∀ (H1 : Heap) (locs1 : List Loc), va_P G vwCl X1 H1 → va_D A X1 → va_S A s.heap H1 locs1 → W p l e R s m args below meth c H1 locs1 cells slots Q (F0 m (pc + 3) ls (rest))) : W p l e R s m args below meth c H locs cells slots Q (F0 m pc ls st) := by
  subst hq
  subst hst
  refine va_callv (va_runV (As := As) (rest := rest) ⟨hx, hb, hml, hown, hts⟩ hM (cwV n hts hT hw hrc hrs hd hR) ⟨k_pre_blind, va_recv hK (k_cut hP isC hC) hcl hr0, k_preU hP hK hD isC hn hC⟩ rfl hnA hls rfl (lv_room hcat) hdg hcs) hS (fun q _ h => va_free hD hS hA isC hC q h) (va_free hD hS hA isC hC) (fun u t H1 locs1 ht hvm hw2 hB hz1 hk1 hS1 => ?_)
  rw [ht] at hB
  obtain ⟨hB, hBD⟩ := hB
  subst hX1
  have hP1 := k_mg_P hP hD isC hC hk1 hB hok hn9
  have hD1 := k_mg_D hP hD isC hC (va_free hD hS hA isC hC) hBD hok hn9
  exact kk hw2 H1 locs1 hP1 hD1 hS1
theorem k_VlPM {r0 : Int64} {pp : Prop} (hx : p.tables.exec = Jvm.exec) (hb : c.code = cc) (hml : c.maxLocals = nL) (hown : s.vm.findClass own = some m.cls) (hts : ∀ w ∈ Ts, w.before args s = true)
    (hM : Met l y ws rm (k_pre G T wc H.size (.ref b :: As)) (va_Ql (fun r (_ : Unit) => r = r0 ∧ pp) (fun _ t => va_P G vwCl w1 t.heap ∧ va_D (va_A wc H.size) w1) (va_A wc H.size)) 0 0 (va_A wc H.size))
    (hT : GoodIn Ts (wsV own index C y ws)) (hw : ws = Cond.code y bytes maxL ret :: ws') (hrc : rm.cells = 0) (hrs : rm.slots = 0) (hd : y.cls = C ∧ y.cls ≠ "java/lang/invoke/MethodHandle" ∧ y.cls ≠ "java/lang/invoke/VarHandle" ∧ (parseMethodDescriptor y.desc).map (fun d => d.parameters.length) = some n) (hR : rm.frames + 1 ≤ R.frames ∧ 8 + (maxL + 11) + rm.locals ≤ R.locals)
    (hK : va_K G vwCl T s) (hP : va_P G vwCl X H) (hD : va_D A X) (hS : va_S A s.heap H locs) (hA : ∀ q : Nat, s.heap.size ≤ q → A q)
    (isC : List Nat) (hn : va_nd isC = true) (hC : isC.map (fun i => X[i]?) = wc.map some) (hl : isC.length = w1.length) (hr0 : wc[0]? = some (b, .inr (ci, fs))) (hcl : vwCl[ci]? = some q) (hq : q.1 = C) 
    (hnA : As.length = n) (hst : st = As.reverse ++ .ref b :: rest) (hls : ls.size = nL) (hcat : (rest.map fun v => v.category).sum ≤ 8) (hdg : decode cc pc = .ok (.invokevirtual index, 3)) (hcs : cells ≤ R.cells ∧ slots ≤ R.slots)
    (X1 : va_W) (sl : List Nat) (n9 : Nat) (hok : k_mgok isC sl n9 = true) (hn9 : w1.length = n9) (hX1 : k_mg X sl w1 = X1)
    (kk : pp → ∀ (H1 : Heap) (locs1 : List Loc), va_P G vwCl X1 H1 → va_D A X1 → va_S A s.heap H1 locs1 → W p l e R s m args below meth c H1 locs1 cells slots Q (F0 m (pc + 3) ls (.long r0 :: rest))) : W p l e R s m args below meth c H locs cells slots Q (F0 m pc ls st) := by
  subst hq
  subst hst
  refine va_calll (va_runV (As := As) (rest := rest) ⟨hx, hb, hml, hown, hts⟩ hM (cwV n hts hT hw hrc hrs hd hR) ⟨k_pre_blind, va_recv hK (k_cut hP isC hC) hcl hr0, k_preU hP hK hD isC hn hC⟩ rfl hnA hls rfl (lv_room hcat) hdg hcs) hS (fun q _ h => va_free hD hS hA isC hC q h) (va_free hD hS hA isC hC) (fun r u t H1 locs1 ht hvm hw2 hB hz1 hk1 hS1 => ?_)
  rw [ht] at hB
  obtain ⟨hB, hBD⟩ := hB
  subst hX1
  have hP1 := k_mg_P hP hD isC hC hk1 hB hok hn9
  have hD1 := k_mg_D hP hD isC hC (va_free hD hS hA isC hC) hBD hok hn9
  obtain ⟨rfl, hpp⟩ := hw2
  exact kk hpp H1 locs1 hP1 hD1 hS1
end KRM
