/-! new long[n][k]: the machine's step, by the laws of one array and one store -/
section MN
variable {p : Program} {l : Launch} {e : Env} {R : Room} {s : State} {m : MethodId} {args : Array Value} {below : List Frame} {meth : Method} {c : Code} {T : State} {locs : List Loc} {cells slots : Nat}
/-- a long[][] has been made before: its class, and what its components are -/
theorem mn_over {ty : FieldType} (h : (Cond.arrayOver (.array ty)).before args s = true) : ∃ (cy cA : ClassId) (kA : Class), s.vm.findClass (FieldType.array ty).toString = some cy ∧ s.vm.classes[cA]? = some kA ∧ kA.kind = .array cy (.array ty) ∧ s.vm.findClass ("[" ++ (FieldType.array ty).toString) = some cA := by
  simp only [Cond.before, Cond.holds, Cond.value, beq_iff_eq] at h
  obtain ⟨cy, hcy, h⟩ := Option.bind_eq_some_iff.mp h
  obtain ⟨cA, hi, h⟩ := Option.bind_eq_some_iff.mp h
  obtain ⟨kA, hk, h⟩ := Option.map_eq_some_iff.mp h
  obtain ⟨hlt, hp, -⟩ := Array.findIdx?_eq_some_iff_getElem.mp hi
  rw [(Array.getElem?_eq_some_iff.mp hk).2] at hp
  cases hkd : kA.kind with
  | array c1 t1 =>
    rw [hkd] at h hp
    have hp : c1 = cy := by simpa using hp
    have h : t1 = .array ty ∧ s.vm.findClass ("[" ++ (FieldType.array ty).toString) = some cA := by simpa using h
    exact ⟨cy, cA, kA, hcy, hk, by rw [hkd, hp, h.1], h.2⟩
  | _ => rw [hkd] at h; simp at h
/-- one array of like default values -/
theorem mn_new {E : CtlPost} {d : Bool} {acts : List Action} {S : State} {cA cy : ClassId} {k : Class} {ty : FieldType} {N : Nat} {v : Value} (hk : S.vm.classes[cA]? = some k) (hkd : k.kind = .array cy ty) (hf : fits ty v = true) (h1 : N ≤ e.platform.arrayLengthLimit) (h2 : N * componentBytes ty ≤ e.platform.maxHeapBytes) (h3 : S.heap.size + 1 ≤ e.platform.maxCells) (h4 : S.slotsUsed + N ≤ e.platform.maxSlots) {Q : Addr → Pre}
    (hq : ∀ acts', Q S.heap.size d acts' (S.pushCell { cls := cA, slots := Array.replicate N v, vm := .none })) : wp (Jvm.newArray cA N v) Q E e d acts S := by
  simp only [Jvm.newArray, Jvm.arrayFits, wp_bind', W.ask, W.ite, Nat.not_lt.mpr h1, if_false, wp_pure', W.theClass, hk, hkd, Option.some.injEq, exists_eq_left', Nat.not_lt.mpr h2, W.alloc, W.stop]
  rw [if_neg (by omega)]
  refine ⟨by omega, by rw [Array.size_replicate]; exact h4, fun i x hx => ?_, hq _⟩
  rw [Array.getElem?_replicate] at hx
  split at hx
  · cases hx
    simp [State.fitsSlot, State.slotType?, hk, hkd, hf]
  · cases hx
/-- the heap when i rows of N are made over H -/
def mn_F (H : Heap) (vm : Vm) (cA cy : ClassId) (N K i : Nat) (F : State) : Prop :=
  F.vm = vm ∧ F.heap.size = H.size + 1 + i ∧ (∀ x, x < H.size → F.heap[x]? = H[x]?) ∧ F.heap[H.size]? = some (arrV cA N (fun j => va_rf (if j < i then some (H.size + 1 + j) else none))) ∧ ∀ j, j < i → F.heap[H.size + 1 + j]? = some (arrV cy K (fun _ => .long 0))
/-- one row more -/
theorem mn_row {F : State} {H : Heap} {vm : Vm} {cA cy c0 : ClassId} {kA ky : Class} {N K i : Nat} {k : Int32} {cs ss : Nat} (X : Stand p l e R s m args below meth c F locs cs ss) (f : mn_F H vm cA cy N K i F) (hH : s.heap.size ≤ H.size) (hkA : vm.classes[cA]? = some kA) (hA : kA.kind = .array cy (.array .long)) (hky : vm.classes[cy]? = some ky) (hy : ky.kind = .array c0 .long) (hi : i < N) (hk : ¬ k < 0) (hK : k.toNatClampNeg = K) (hb : K * 8 ≤ 536870912) (hc : cs + 1 ≤ R.cells) (hs : ss + K ≤ R.slots) (g : JFrame) :
    ∃ F' : State, Stand p l e R s m args below meth c F' locs (cs + 1) (ss + K) ∧ mn_F H vm cA cy N K (i + 1) F' ∧ ∀ (E : CtlPost) (Q : Pre) (d : Bool) (acts : List Action), (∀ d' acts', Q d' acts' (F'.setTop g)) →
      wp (multianewarray.make cy [k]) (fun a d1 acts1 s1 => wp (Jvm.writeLoc H.size i (.ref a)) (fun _ d2 acts2 s2 => Q d2 acts2 s2) E e d1 acts1 s1) E e d acts (F.setTop g) := by
  obtain ⟨f1, f2, f3, f4, f5⟩ := f
  obtain ⟨r1, r2⟩ := X.roomAbove hc hs
  have hz : H.size < F.heap.size := by omega
  have X1 := X.pushed { cls := cy, slots := Array.replicate K (.long 0), vm := .none }
  have hout : (F.pushCell { cls := cy, slots := Array.replicate K (.long 0), vm := .none }).heap[H.size]? = some (arrV cA N (fun j => va_rf (if j < i then some (H.size + 1 + j) else none))) := by
    rw [State.heap_pushCell_of_lt (h := hz)]
    exact f4
  have X2 := (X1.stored hout i (.ref F.heap.size)).dropFresh (by
    intro x hx
    cases List.mem_singleton.mp hx
    exact hH)
  rw [Array.size_replicate] at X2
  refine ⟨_, X2, ⟨f1, ?_, fun x hx => ?_, ?_, fun j hj => ?_⟩, fun E Q d acts hq => ?_⟩
  · simp only [State.setCell, Array.size_setIfInBounds, State.heap_size_pushCell]
    omega
  · rw [State.heap_setCell_other (show H.size ≠ x by omega), State.heap_pushCell_of_lt (h := show x < F.heap.size by omega)]
    exact f3 x hx
  · rw [State.heap_setCell_self hout, arrV_store]
    refine congrArg some (congrArg (arrV cA N) (funext fun j => ?_))
    unfold updV
    by_cases e1 : j = i
    · subst e1
      rw [if_pos rfl, if_pos (Nat.lt_succ_self j), f2]
      rfl
    · rw [if_neg e1]
      show va_rf (if j < i then some (H.size + 1 + j) else none) = _
      by_cases e2 : j < i
      · rw [if_pos e2, if_pos (by omega)]
      · rw [if_neg e2, if_neg (by omega)]
  · rw [State.heap_setCell_other (show H.size ≠ H.size + 1 + j by omega)]
    by_cases e1 : j = i
    · subst e1
      rw [← f2, State.heap_pushCell_size, arrV_new]
    · rw [State.heap_pushCell_of_lt (h := show H.size + 1 + j < F.heap.size by omega)]
      exact f5 j (by omega)
  · rw [multianewarray.make]
    simp only [wp_bind', W.ite, hk, if_false, wp_pure', W.theClass, State.vm_setTop, f1, hky, hy, Option.some.injEq, exists_eq_left', hK]
    refine mn_new (S := F.setTop g) (by rw [State.vm_setTop, f1]; exact hky) hy rfl (by rw [Launch.admits_arrayLengthLimit X.admits]; omega) (by rw [Launch.admits_maxHeapBytes X.admits]; exact hb) (by rw [State.heap_setTop]; exact r1) (by rw [State.slotsUsed_setTop]; exact r2) fun acts' => ?_
    rw [State.pushCell_setTop]
    simp only [W.writeLoc, State.heap_setTop]
    refine ⟨_, hout, by simp [arrV], by simpa [arrV] using hi, ?_, ?_⟩
    · simp [arrV, State.fitsSlot, State.slotType?, f1, hkA, hA]
      rfl
    · rw [State.setCell_setTop]
      exact hq _ _
/-- all rows -/
theorem mn_loop {H : Heap} {vm : Vm} {cA cy c0 : ClassId} {kA ky : Class} {N K : Nat} {k : Int32} (hH : s.heap.size ≤ H.size) (hkA : vm.classes[cA]? = some kA) (hA : kA.kind = .array cy (.array .long)) (hky : vm.classes[cy]? = some ky) (hy : ky.kind = .array c0 .long) (hk : ¬ k < 0) (hK : k.toNatClampNeg = K) (hb : K * 8 ≤ 536870912) (g : JFrame) :
    ∀ (r i : Nat) (F : State) (cs ss : Nat), i + r = N → Stand p l e R s m args below meth c F locs cs ss → mn_F H vm cA cy N K i F → cs + r ≤ R.cells → ss + r * K ≤ R.slots →
      ∃ F' : State, Stand p l e R s m args below meth c F' locs (cs + r) (ss + r * K) ∧ mn_F H vm cA cy N K N F' ∧ ∀ (E : CtlPost) (b : Nat → PUnit → Sem (ForInStep PUnit)), (∀ (x : Nat) (Q : ForInStep PUnit → Pre) (d : Bool) (acts : List Action) (S : State), wp (multianewarray.make cy [k]) (fun a d1 acts1 s1 => wp (Jvm.writeLoc H.size x (.ref a)) (fun _ d2 acts2 s2 => Q (ForInStep.yield PUnit.unit) d2 acts2 s2) E e d1 acts1 s1) E e d acts S → wp (b x PUnit.unit) Q E e d acts S) →
        ∀ (Q : PUnit → Pre) (d : Bool) (acts : List Action), (∀ d' acts', Q PUnit.unit d' acts' (F'.setTop g)) → wp (forIn (List.range' i r) PUnit.unit b) Q E e d acts (F.setTop g)
  | 0, i, F, cs, ss, hi, X, f, _, _ => by
    refine ⟨F, by simpa using X, by rw [show N = i by omega]; rw [show N = i by omega] at f; exact f, fun E b hbd Q d acts hq => ?_⟩
    simp only [List.range'_zero, List.forIn_nil, wp_pure']
    exact hq _ _
  | r + 1, i, F, cs, ss, hi, X, f, hc, hs => by
    have hm : (r + 1) * K = K + r * K := by rw [Nat.succ_mul, Nat.add_comm]
    rw [hm] at hs
    obtain ⟨F1, X1, g1, w1⟩ := mn_row X f hH hkA hA hky hy (by omega) hk hK hb (by omega) (by omega) g
    obtain ⟨F2, X2, g2, w2⟩ := mn_loop hH hkA hA hky hy hk hK hb g r (i + 1) F1 (cs + 1) (ss + K) (by omega) X1 g1 (by omega) (by omega)
    refine ⟨F2, ?_, g2, fun E b hbd Q d acts hq => ?_⟩
    · rw [hm, ← Nat.add_assoc ss, show cs + (r + 1) = cs + 1 + r by omega]
      exact X2
    · rw [List.range'_succ, List.forIn_cons, wp_bind']
      exact hbd i _ d acts _ (w1 E _ d acts fun d' acts' => w2 E b hbd Q d' acts' hq)
/-- the instruction -/
theorem mn_step (X : Stand p l e R s m args below meth c T locs cells slots) (hx : p.tables.exec = Jvm.exec) {own : String} {index : Nat} (hown : s.vm.findClass own = some m.cls) (hl : (Cond.classLink own index "[[J").before args s = true) (hov : (Cond.arrayOver (.array .long)).before args s = true) (har : (Cond.arrayClass .long).before args s = true)
    {g : JFrame} (hg : g.method = m) (hd : decode c.code g.pc = .ok (.multianewarray index 2, 4)) {n k : Int32} {rest : List Value} (hst : g.stack = .int k :: .int n :: rest) (hn : ¬ n < 0) (hk : ¬ k < 0) {N K : Nat} (hN : n.toNatClampNeg = N) (hK : k.toNatClampNeg = K) (hb1 : N * 4 ≤ 536870912) (hb2 : K * 8 ≤ 536870912) (hc : cells + (1 + N) ≤ R.cells) (hs : slots + (N + N * K) ≤ R.slots) :
    ∃ (vm : Vm) (cA cy : ClassId) (F : State), s.vm.findClass "[[J" = some cA ∧ s.vm.findClass "[J" = some cy ∧ Stand p l e R s m args below meth c F locs (cells + 1 + N) (slots + N + N * K) ∧ mn_F T.heap vm cA cy N K N F ∧
      ∀ target, Steps p.tables e below (F.setTop { g with pc := g.pc + 4, stack := .ref T.heap.size :: rest }) target → Steps p.tables e below (T.setTop g) target := by
  subst hg
  obtain ⟨cy, cA, kA, hcy, hkA, hA, hcA⟩ := mn_over hov
  obtain ⟨cy', ky, c0, hcy', hky, hy⟩ := Cond.arrayClass_spec har
  have e1 : cy' = cy := Option.some.inj (hcy'.symm.trans hcy)
  subst e1
  obtain ⟨cc, hcc, hlk⟩ := Cond.classLink_spec hown hl e.platform (by rw [X.admits.platform])
  have e2 : cc = cA := Option.some.inj (hcc.symm.trans hcA)
  subst e2
  obtain ⟨hg1, hw1, hr1⟩ := State.classEntry (e := e) X.warmed hlk
  generalize T.vm.noted g.method.cls index (.cls cc) = vm at hg1 hw1 hr1
  obtain ⟨kA1, hkA1, hA1⟩ := hw1.alike.2.2 _ _ hkA
  obtain ⟨ky1, hky1, hy1⟩ := hw1.alike.2.2 _ _ hky
  have hA2 : kA1.kind = .array cy' (.array .long) := by rw [hA1]; exact hA
  have hy2 : ky1.kind = .array c0 .long := by rw [hy1]; exact hy
  have X0 := X.noted hw1
  obtain ⟨r1, r2⟩ := X0.roomAbove (a := 1) (b := N) (by omega) (by omega)
  have X1 := X0.pushed { cls := cc, slots := Array.replicate N .null, vm := .none }
  rw [Array.size_replicate] at X1
  have f1 : mn_F T.heap vm cc cy' N K 0 ((T.setVm vm).pushCell { cls := cc, slots := Array.replicate N .null, vm := .none }) := by
    refine ⟨rfl, State.heap_size_pushCell _ _, fun x hx => State.heap_pushCell_of_lt (T.setVm vm) _ hx, ?_, fun j hj => absurd hj (Nat.not_lt_zero _)⟩
    refine (State.heap_pushCell_size (T.setVm vm) _).trans (congrArg some ?_)
    rw [arrV_new]
    exact congrArg (arrV cc N) (funext fun j => by rw [if_neg (Nat.not_lt_zero _)]; rfl)
  obtain ⟨F, XF, fF, wF⟩ := mn_loop (H := T.heap) X.same.2.1 hkA1 hA2 hky1 hy2 hk hK hb2 { g with stack := rest } N 0 _ _ _ (Nat.zero_add N) X1 f1 (by omega) (by omega)
  refine ⟨vm, cc, cy', F, hcc, hcy', XF, fF, fun target ht => ?_⟩
  have hF : F.topJava?.isSome := XF.here.top
  refine Steps.instr (c := c) (by simpa using X.here) ?_
  rw [hd]
  show wpRun (p.tables.exec (.multianewarray index 2)) _ _ e _
  rw [hx]
  show wpRun (multianewarray.sem index 2) _ _ e _
  unfold wpRun
  simp only [multianewarray.sem, wp_bind']
  rw [W.resolveClassAt_transfer (s := T.setTop g) (State.method?_setTop g X.here.top) hg1 hr1, show (T.setTop g).setVm vm = (T.setVm vm).setTop g from rfl]
  rw [W.resolveClassAt_ready (s := (T.setVm vm).setTop g) (State.method?_setTop g (show (T.setVm vm).topJava?.isSome from X.here.top)) hr1]
  rw [wp_bind']
  refine (popN_top (s := T.setVm vm) (f := g) X.here.top (args := [.int n, .int k]) (rest := rest) hst).mpr ?_
  simp only [List.mapM_cons, List.mapM_nil, wp_bind', wp_pure']
  rw [multianewarray.make]
  simp only [wp_bind', W.ite, hn, if_false, wp_pure', W.theClass, State.vm_setTop, State.vm_setVm, hkA1, hA2, Option.some.injEq, exists_eq_left', hN]
  refine mn_new (S := (T.setVm vm).setTop { g with stack := rest }) (by rw [State.vm_setTop]; exact hkA1) hA2 rfl (by rw [Launch.admits_arrayLengthLimit X.admits]; omega) (by rw [Launch.admits_maxHeapBytes X.admits]; exact hb1) (by rw [State.heap_setTop]; exact r1) (by rw [State.slotsUsed_setTop]; exact r2) fun acts' => ?_
  rw [State.pushCell_setTop]
  have hfd : ([k].find? (· < 0)) = none := by simp [hk]
  simp only [hfd]
  rw [ite_self, wp_bind', Std.Legacy.Range.forIn_eq_forIn_range']
  rw [show ([:N] : Std.Legacy.Range).size = N by simp [Std.Legacy.Range.size]]
  refine wF _ _ (fun x Q d acts S h => ?_) _ _ _ fun d' acts' => ?_
  · simp only [wp_bind', wp_pure']
    exact h
  · simp only [wp_bind', wp_pure', W.mark, W.pushRef, State.topJava?_setTop' _ hF, Option.some.injEq, exists_eq_left', State.setTop_setTop]
    intro a9
    rw [afterInstr_ok]
    exact ht
end MN
