/-! Rows for constructors. -/
def k_preI (G : va_G) (T : List (ClassId × FieldType)) (X : va_W) (sz : Nat) (av : List Value) : Array Value → State → Prop :=
  va_Pc av (fun U => (U.heap.size = sz ∧ va_P G vwCl X U.heap ∧ va_K G vwCl T U ∧ va_D (fun _ => True) X) ∧ va_AO RX1 U ∧ va_AO RX2 U)
theorem k_preI_blind {G : va_G} {T : List (ClassId × FieldType)} {X : va_W} {sz : Nat} {av : List Value} : FrameBlind (k_preI G T X sz av) := fun a U g mk q => by
  obtain ⟨q0, ⟨q1, qP, qK, qD⟩, a1, a2⟩ := q
  exact ⟨q0, ⟨q1, qP, va_K.moved (u := U) (U := U.calling g mk a) (Vm.Alike.refl U.vm) qK, qD⟩, va_AO.moved (u := U) (U := U.calling g mk a) (Vm.Alike.refl U.vm) a1, va_AO.moved (u := U) (U := U.calling g mk a) (Vm.Alike.refl U.vm) a2⟩
theorem k_sameI {G : va_G} {cl : List vw_C} {s : State} {cI cJ cD cH cA : ClassId} (h : va_K G cl (k_T cI cJ cD cH ++ [(cA, .int)]) s) : cI = cA :=
  Option.some.inj ((h.2 0 (cI, .int) rfl).2.symm.trans (h.2 4 (cA, .int) rfl).2)
theorem k_sameJ {G : va_G} {cl : List vw_C} {s : State} {cI cJ cD cH cA : ClassId} (h : va_K G cl (k_T cI cJ cD cH ++ [(cA, .long)]) s) : cJ = cA :=
  Option.some.inj ((h.2 1 (cJ, .long) rfl).2.symm.trans (h.2 4 (cA, .long) rfl).2)
theorem k_sameD {G : va_G} {cl : List vw_C} {s : State} {cI cJ cD cH cA : ClassId} (h : va_K G cl (k_T cI cJ cD cH ++ [(cA, .object RX1)]) s) : cD = cA := by
  obtain ⟨_, _, _, _, _, h1⟩ := (h.2 2 (cD, .object RX1) rfl).2
  obtain ⟨_, _, _, _, _, h2⟩ := (h.2 4 (cA, .object RX1) rfl).2
  exact Option.some.inj (h1.symm.trans h2)
theorem k_sameH {G : va_G} {cl : List vw_C} {s : State} {cI cJ cD cH cA : ClassId} (h : va_K G cl (k_T cI cJ cD cH ++ [(cA, .object RX2)]) s) : cH = cA := by
  obtain ⟨_, _, _, _, _, h1⟩ := (h.2 3 (cH, .object RX2) rfl).2
  obtain ⟨_, _, _, _, _, h2⟩ := (h.2 4 (cA, .object RX2) rfl).2
  exact Option.some.inj (h1.symm.trans h2)
theorem k_arr_congr {cA : ClassId} {n : Nat} {f g : Nat → Value} (h : ∀ j, j < n → f j = g j) : arrV cA n f = arrV cA n g := by
  unfold arrV
  congr 2
  funext j
  exact h j.val j.isLt
theorem k_refs_ext {G : va_G} {cl : List vw_C} {X : va_W} {H : Heap} {a : Nat} {cA : ClassId} {n : Nat} {f g : Nat → Option Nat} (hP : va_P G cl X H) {q : Nat} (hq : X[q]? = some (a, .inl (cA, n, .inr (.inr (.inr (.inr f)))))) (h : ∀ j, j < n → f j = g j) : va_P G cl (X.set q (a, .inl (cA, n, .inr (.inr (.inr (.inr g)))))) H := by
  have hl := (List.getElem?_eq_some_iff.mp hq).1
  intro k x hx
  by_cases e : k = q
  · subst e
    rw [List.getElem?_set_self hl] at hx
    cases hx
    have h0 : H[a]? = some (vp_cell cA (n, .inr (.inr (.inr (.inr f))))) := hP k _ hq
    show H[a]? = some (vp_cell cA (n, .inr (.inr (.inr (.inr g)))))
    rw [h0, vp_cell_q, vp_cell_q]
    exact congrArg some (k_arr_congr fun j hj => by rw [h j hj])
  · rw [List.getElem?_set_ne (Ne.symm e)] at hx
    exact hP k x hx
theorem k_D_set {A : Nat → Prop} {X : va_W} {a : Nat} {e0 e : va_E} (hD : va_D A X) {q : Nat} (hq : X[q]? = some (a, e0)) : va_D A (X.set q (a, e)) := hD.set hq
section KI
variable {p : Program} {l : Launch} {e : Env} {R : Room} {s : State} {m : MethodId} {args : Array Value} {below : List Frame} {meth : Method} {c : Code} {H : Heap} {locs : List Loc} {cells slots : Nat} {Q : State → Prop}
variable {pc : Nat} {ls : Array Slot} {G : va_G} {T : List (ClassId × FieldType)} {X wc wr : va_W} {A : Nat → Prop}
variable {y : MethodName} {bytes cc : ByteArray} {maxL nL n index mc ms : Nat} {ws ws' Ts : List Cond} {rm : Room} {own : String} {b : Addr} {As rest st : List Value}
theorem k_Iv {w1 : (Nat → Nat) → va_W} (hx : p.tables.exec = Jvm.exec) (hb : c.code = cc) (hml : c.maxLocals = nL) (hown : s.vm.findClass own = some m.cls) (hts : ∀ w ∈ Ts, w.before args s = true)
    (hM : Met l y ws rm (k_preI G T wc H.size (.ref b :: As)) (va_Qv (fun (_ : Nat → Nat) => True) (fun u t => va_P G vwCl (w1 u) t.heap ∧ va_D (va_A wc H.size) (w1 u)) (va_A wc H.size)) mc ms (va_A wc H.size))
    (hG : GoodIn Ts ws) (hw : ws = Cond.code y bytes maxL none :: ws') (hrc : rm.cells = mc) (hrs : rm.slots = ms) (hini : (Cond.initialized y.cls).before args s = true) (hl9 : (Cond.methodLink own index y).before args s = true) (hin : (Cond.instanceMethod y).before args s = true) (hy1 : y.name = "<init>")
    (hd : y.cls ≠ "java/lang/invoke/MethodHandle" ∧ y.cls ≠ "java/lang/invoke/VarHandle" ∧ (parseMethodDescriptor y.desc).map (fun d => d.parameters.length) = some n) (hR : rm.frames + 1 ≤ R.frames ∧ 8 + (maxL + 11) + rm.locals ≤ R.locals)
    (hK : va_K G vwCl T s) (hAO1 : va_AO RX1 s) (hAO2 : va_AO RX2 s) (hP : va_P G vwCl X H) (hD : va_D A X) (hS : va_S A s.heap H locs) (hA : ∀ q : Nat, s.heap.size ≤ q → A q)
    (isC : List Nat) (hn : va_nd isC = true) (hC : isC.map (fun i => X[i]?) = wc.map some) (isR : List Nat) (hRR : isR.map (fun i => X[i]?) = wr.map some) (hnR : va_nd isR = true) (hdis : ∀ i ∈ isR, i ∉ isC)
    (hnA : As.length = n) (hst : st = As.reverse ++ .ref b :: rest) (hls : ls.size = nL) (hcat : (rest.map fun v => v.category).sum ≤ 8) (hdg : decode cc pc = .ok (.invokespecial index, 3)) (hcs : cells + mc ≤ R.cells ∧ slots + ms ≤ R.slots)
    (kk : ∀ (u : Nat → Nat) (H1 : Heap) (locs1 : List Loc), va_P G vwCl (wr ++ w1 u) H1 → va_D A (wr ++ w1 u) → va_S A s.heap H1 locs1 → W p l e R s m args below meth c H1 locs1 (cells + mc) (slots + ms) Q (F0 m (pc + 3) ls rest)) : W p l e R s m args below meth c H locs cells slots Q (F0 m pc ls st) := by
  subst hst
  refine va_callv (va_runI (As := As) (rest := rest) ⟨hx, hb, hml, hown, hts⟩ hM (cwI n hts hG hw hrc hrs hini hl9 hin hy1 hd hR) ⟨k_preI_blind, fun U hU hW => ⟨rfl, ⟨by rw [hU], by rw [hU]; exact k_cut hP isC hC, va_K.moved hW.alike hK, (hD.sub isC hn hC).weaken (fun _ _ _ _ => trivial)⟩, va_AO.moved hW.alike hAO1, va_AO.moved hW.alike hAO2⟩⟩ rfl hnA hls rfl (lv_room hcat) hdg hcs) hS (fun q _ h => va_free hD hS hA isC hC q h) (va_free hD hS hA isC hC) (fun u t H1 locs1 ht hvm hw2 hB hz1 hk1 hS1 => ?_)
  obtain ⟨hP1, hD1⟩ := hB
  rw [ht] at hP1
  obtain ⟨hP2, hD2⟩ := va_join (wr := wr) (w1 := w1 u) hP hD isC isR hC hRR hnR hdis hk1 (va_free hD hS hA isC hC) hP1 hD1
  exact kk u H1 locs1 hP2 hD2 hS1
theorem k_vretI {w1 : (Nat → Nat) → va_W} {u0 : Nat → Nat} (hx : p.tables.exec = Jvm.exec) (hb : c.code = cc) (hr : meth.sig.returnType = none) (hlocks : meth.locks = false) (hD : va_D A (w1 u0)) (hP : va_P G vwCl (w1 u0) H) (hS : va_S A s.heap H locs) (hdg : decode cc pc = .ok (.return_, 1)) : W p l e R s m args below meth c H locs cells slots (MQ below (va_Qv (fun (_ : Nat → Nat) => True) (fun u t => va_P G vwCl (w1 u) t.heap ∧ va_D A (w1 u)) A) args s cells slots A) (F0 m pc ls []) :=
  W.vret hx hb hr (fun t ht _ => ⟨⟨u0, rfl, trivial, ⟨k_at ht hP, hD⟩⟩, hS.F ht⟩) hS.2.2 hdg
end KI
